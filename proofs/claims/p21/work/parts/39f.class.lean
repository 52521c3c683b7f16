/-! shifting the journal; copies -/
noncomputable def zj_H0 (id id2 : Nat) : zq_S × List zq_S := (([], [], [], [], [], [], [(id, [zq_v 0, zq_k 16, zq_v 1])], 2), [([], [], [], [], [], [], [(id2, [zq_v 0, zq_k 0, zq_v 1])], 2)])
theorem zj_H0_ok {w : zq_Wd} {id id2 kk : Nat} (hX : zj_is w id (zj_CN kk)) (hY : zj_is w id2 (zj_SH kk)) : zq_okG1 w (zj_H0 id id2) := by
  refine ⟨rfl, rfl, zq_fa1 ⟨rfl, Nat.le_refl _⟩, ?_⟩
  intro r P h H hM
  obtain ⟨hT, hC, -, hS, -, hK⟩ := hM
  have k0 : zj_CN kk (zq_en [zq_ev r (zq_v 0), zq_ev r (zq_k 16), zq_ev r (zq_v 1)]) P h := zj_use hX hK
  simp only [zq_ev_v, zq_ev_k] at k0
  obtain ⟨k1, k2, k3, k4, k5⟩ := k0
  have k5 : zj_cn (h (r 0).toNat) 0 16 ≤ r 1 := k5
  refine ⟨_, List.mem_singleton.mpr rfl, r, fun _ _ => rfl, zq_MeS_mk rfl hT zq_all_nil zq_fan zq_fan rfl (zq_fa1 ((hY _ _ _).mpr ?_))⟩
  show zj_SH kk (zq_en [zq_ev r (zq_v 0), zq_ev r (zq_k 0), zq_ev r (zq_v 1)]) P h
  rw [zq_ev_v, zq_ev_k, zq_ev_v]
  refine ⟨k1, k2, Int.le_refl _, by show (0 : Int) ≤ 15; omega, ?_⟩
  show zj_cn (h (r 0).toNat) 0 0 + zj_cn (h (r 0).toNat) (0 + 1) 15 ≤ r 1
  have e : zj_cn (h (r 0).toNat) 0 16 = (if h (r 0).toNat 0 = 3 then 1 else 0) + zj_cn (h (r 0).toNat) (0 + 1) 15 := rfl
  have e2 : zj_cn (h (r 0).toNat) 0 0 = 0 := rfl
  rw [e] at k5
  rw [e2]
  split at k5 <;> omega
noncomputable def zj_H1 (id : Nat) : zq_S × List zq_S := (([], [], [zq_sub (zq_k 14) (zq_v 1)], [], [(zq_v 0, zq_v 1, zq_v 3), (zq_v 0, zq_addk (zq_v 1) 1, zq_v 3)], [], [(id, [zq_v 0, zq_v 1, zq_v 2])], 4), [([], [], [], [], [], [], [(id, [zq_v 0, zq_addk (zq_v 1) 1, zq_v 2])], 4)])
theorem zj_H1_ok {w : zq_Wd} {id kk : Nat} (hX : zj_is w id (zj_SH kk)) : zq_okG1 w (zj_H1 id) := by
  refine ⟨rfl, rfl, zq_fa1 ⟨rfl, Nat.le_refl _⟩, ?_⟩
  intro r P h H hM
  obtain ⟨hT, hC, -, hS, -, hK⟩ := hM
  have a1 := zq_all_1 hC.1
  obtain ⟨-, -, s1⟩ := zq_okS_1 hS
  obtain ⟨-, -, s2⟩ := zq_okS_1 (zq_okS_t hS)
  have k0 : zj_SH kk (zq_en [zq_ev r (zq_v 0), zq_ev r (zq_v 1), zq_ev r (zq_v 2)]) P h := zj_use hX hK
  simp only [zq_ev_v, zq_ev_sub, zq_ev_addk, zq_ev_k] at a1 s1 s2 k0
  obtain ⟨k1, k2, k3, k4, k5⟩ := k0
  have k3 : 0 ≤ r 1 := k3
  have k5 : zj_cn (h (r 0).toNat) 0 (r 1).toNat + zj_cn (h (r 0).toNat) (r 1 + 1) (15 - r 1).toNat ≤ r 2 := k5
  refine ⟨_, List.mem_singleton.mpr rfl, r, fun _ _ => rfl, zq_MeS_mk rfl hT zq_all_nil zq_fan zq_fan rfl (zq_fa1 ((hX _ _ _).mpr ?_))⟩
  show zj_SH kk (zq_en [zq_ev r (zq_v 0), zq_ev r (zq_addk (zq_v 1) 1), zq_ev r (zq_v 2)]) P h
  rw [zq_ev_v, zq_ev_addk, zq_ev_v, zq_ev_v]
  refine ⟨k1, k2, by show 0 ≤ r 1 + 1; omega, by show r 1 + 1 ≤ 15; omega, ?_⟩
  show zj_cn (h (r 0).toNat) 0 (r 1 + 1).toNat + zj_cn (h (r 0).toNat) (r 1 + 1 + 1) (15 - (r 1 + 1)).toNat ≤ r 2
  rw [show (15 - r 1).toNat = (15 - (r 1 + 1)).toNat + 1 by omega] at k5
  rw [show zj_cn (h (r 0).toNat) (r 1 + 1) ((15 - (r 1 + 1)).toNat + 1) = (if h (r 0).toNat (r 1 + 1) = 3 then 1 else 0) + zj_cn (h (r 0).toNat) (r 1 + 1 + 1) (15 - (r 1 + 1)).toNat from rfl, s2] at k5
  rw [show (r 1 + 1).toNat = (r 1).toNat + 1 by omega, zj_cn_snoc, show (0 : Int) + ((r 1).toNat : Int) = r 1 by omega, s1]
  omega
noncomputable def zj_H2 (id id2 : Nat) : zq_S × List zq_S := (([], [], [], [], [], [], [(id2, [zq_v 0, zq_k 15, zq_v 1])], 2), [([], [], [], [], [], [], [(id, [zq_v 0, zq_k 15, zq_v 1])], 2)])
theorem zj_H2_ok {w : zq_Wd} {id id2 kk : Nat} (hX : zj_is w id (zj_CN kk)) (hY : zj_is w id2 (zj_SH kk)) : zq_okG1 w (zj_H2 id id2) := by
  refine ⟨rfl, rfl, zq_fa1 ⟨rfl, Nat.le_refl _⟩, ?_⟩
  intro r P h H hM
  obtain ⟨hT, hC, -, hS, -, hK⟩ := hM
  have k0 : zj_SH kk (zq_en [zq_ev r (zq_v 0), zq_ev r (zq_k 15), zq_ev r (zq_v 1)]) P h := zj_use hY hK
  simp only [zq_ev_v, zq_ev_k] at k0
  obtain ⟨k1, k2, k3, k4, k5⟩ := k0
  have k5 : zj_cn (h (r 0).toNat) 0 15 + 0 ≤ r 1 := k5
  refine ⟨_, List.mem_singleton.mpr rfl, r, fun _ _ => rfl, zq_MeS_mk rfl hT zq_all_nil zq_fan zq_fan rfl (zq_fa1 ((hX _ _ _).mpr ?_))⟩
  show zj_CN kk (zq_en [zq_ev r (zq_v 0), zq_ev r (zq_k 15), zq_ev r (zq_v 1)]) P h
  rw [zq_ev_v, zq_ev_k, zq_ev_v]
  exact ⟨k1, k2, by show (0 : Int) ≤ 15; omega, by show (15 : Int) ≤ 16; omega, by show zj_cn (h (r 0).toNat) 0 15 ≤ r 1; omega⟩
/-- days passed, of a copy -/
noncomputable def zj_C6 (ids idd ide : Nat) : zq_S × List zq_S := (([], [], [], [], [], [], [(ids, [zq_v 1, zq_v 2, zq_v 3]), (ide, [zq_v 0, zq_v 1])], 4), [([], [], [], [], [], [], [(idd, [zq_v 0, zq_v 2, zq_v 3])], 4)])
theorem zj_C6_ok {w : zq_Wd} {ids idd ide ks kd : Nat} (hX : zj_is w ids (zj_CN ks)) (hY : zj_is w idd (zj_CN kd)) (hZ : zj_is w ide (zj_EQ kd ks)) : zq_okG1 w (zj_C6 ids idd ide) := by
  refine ⟨rfl, rfl, zq_fa1 ⟨rfl, Nat.le_refl _⟩, ?_⟩
  intro r P h H hM
  obtain ⟨hT, hC, -, hS, -, hK⟩ := hM
  have k0 : zj_CN ks (zq_en [zq_ev r (zq_v 1), zq_ev r (zq_v 2), zq_ev r (zq_v 3)]) P h := zj_use hX hK
  have m0 : zj_EQ kd ks (zq_en [zq_ev r (zq_v 0), zq_ev r (zq_v 1)]) P h := zj_use hZ (zq_okX_t hK)
  simp only [zq_ev_v] at k0 m0
  obtain ⟨k1, k2, k3, k4, k5⟩ := k0
  obtain ⟨m1, m2, m3, m4, m5⟩ := m0
  have k4 : r 2 ≤ 16 := k4
  have k3 : 0 ≤ r 2 := k3
  have m5 : ∀ j, 0 ≤ j → j < 16 → h (r 0).toNat j = h (r 1).toNat j := m5
  refine ⟨_, List.mem_singleton.mpr rfl, r, fun _ _ => rfl, zq_MeS_mk rfl hT zq_all_nil zq_fan zq_fan rfl (zq_fa1 ((hY _ _ _).mpr ?_))⟩
  show zj_CN kd (zq_en [zq_ev r (zq_v 0), zq_ev r (zq_v 2), zq_ev r (zq_v 3)]) P h
  rw [zq_ev_v, zq_ev_v, zq_ev_v]
  refine ⟨m1, m2, k3, k4, ?_⟩
  show zj_cn (h (r 0).toNat) 0 (r 2).toNat ≤ r 3
  rw [zj_cn_cong (f := h (r 1).toNat) (fun j x y => m5 j x (by omega))]
  exact k5
/-! rows of the journal -/
noncomputable def zj_jt (id : Nat) (n x : zq_L) : Nat × List zq_L := (id, [zq_v 0, zq_v 1, zq_v 2, n, x])
theorem zj_jt_mk {w : zq_Wd} {id kk ko kt : Nat} (hX : zj_is w id (zj_JR kk ko kt)) {r : Nat → Int} {P : zq_Ty} {h : zq_H} {n x : zq_L} (a1 : 0 ≤ r 0) (a2 : P (r 0).toNat = some kk) (a3 : 0 ≤ r 1) (a4 : P (r 1).toNat = some ko) (a5 : 0 ≤ r 2) (a6 : P (r 2).toNat = some kt) (a7 : zq_ev r n ≤ 16) (a8 : ∀ j, 0 ≤ j → j < zq_ev r n → j ≠ zq_ev r x → zj_ok (h (r 0).toNat j) (h (r 1).toNat j) (h (r 2).toNat j)) : ∀ y ∈ [zj_jt id n x], w.2.2.2.2 y.1 (y.2.map (zq_ev r)) P h := by
  refine zq_fa1 ((hX _ _ _).mpr ?_)
  show zj_JR kk ko kt (zq_en [zq_ev r (zq_v 0), zq_ev r (zq_v 1), zq_ev r (zq_v 2), zq_ev r n, zq_ev r x]) P h
  rw [zq_ev_v, zq_ev_v, zq_ev_v]
  exact ⟨a1, a2, a3, a4, a5, a6, a7, a8⟩
theorem zj_jt_use {w : zq_Wd} {id kk ko kt : Nat} (hX : zj_is w id (zj_JR kk ko kt)) {r : Nat → Int} {P : zq_Ty} {h : zq_H} {m : Nat} {n x : zq_L} {l : List (Nat × List zq_L)} (hk : zq_okX w r P h m (zj_jt id n x :: l)) : 0 ≤ r 0 ∧ P (r 0).toNat = some kk ∧ 0 ≤ r 1 ∧ P (r 1).toNat = some ko ∧ 0 ≤ r 2 ∧ P (r 2).toNat = some kt ∧ zq_ev r n ≤ 16 ∧ ∀ j, 0 ≤ j → j < zq_ev r n → j ≠ zq_ev r x → zj_ok (h (r 0).toNat j) (h (r 1).toNat j) (h (r 2).toNat j) := by
  have k0 : zj_JR kk ko kt (zq_en [zq_ev r (zq_v 0), zq_ev r (zq_v 1), zq_ev r (zq_v 2), zq_ev r n, zq_ev r x]) P h := zj_use hX hk
  rw [zq_ev_v, zq_ev_v, zq_ev_v] at k0
  exact k0
noncomputable def zj_R0 (id kk ko kt : Nat) : zq_S × List zq_S := (([], [], [zq_v 0, zq_v 1, zq_v 2], [(zq_v 0, kk), (zq_v 1, ko), (zq_v 2, kt)], [], [], [], 3), [([], [], [], [], [], [], [zj_jt id (zq_k 0) (zq_k (-1))], 3)])
theorem zj_R0_ok {w : zq_Wd} {id kk ko kt : Nat} (hX : zj_is w id (zj_JR kk ko kt)) : zq_okG1 w (zj_R0 id kk ko kt) := by
  refine ⟨rfl, rfl, zq_fa1 ⟨rfl, Nat.le_refl _⟩, ?_⟩
  intro r P h H hM
  obtain ⟨hT, hC, hF, -, -, -⟩ := hM
  have a1 := zq_all_1 hC.1
  have a2 := zq_all_1 (zq_all_t hC.1)
  have a3 := zq_all_1 (zq_all_t (zq_all_t hC.1))
  have b1 := zq_okF_1 hF a1
  have b2 := zq_okF_1 (zq_okF_t hF) a2
  have b3 := zq_okF_1 (zq_okF_t (zq_okF_t hF)) a3
  simp only [zq_ev_v] at a1 a2 a3 b1 b2 b3
  refine ⟨_, List.mem_singleton.mpr rfl, r, fun _ _ => rfl, zq_MeS_mk rfl hT zq_all_nil zq_fan zq_fan rfl (zj_jt_mk hX a1 b1 a2 b2 a3 b3 (by rw [zq_ev_k]; omega) fun j x y => ?_)⟩
  rw [zq_ev_k] at y; omega
/-- one more row: s = 0 of the first kinds, 1 a clock wound, 2 of the last kind -/
noncomputable def zj_R1 (id s : Nat) : zq_S × List zq_S := (([], [], zq_sub (zq_k 15) (zq_v 3) :: zq_v 5 :: zq_v 6 :: (bif Nat.beq s 1 then [zq_sub (zq_k 3) (zq_v 5), zq_sub (zq_k 6) (zq_v 6), zq_addk (zq_v 4) (-2), zq_sub (zq_k 2) (zq_v 4)] else [zq_sub (zq_k 5) (zq_v 5), zq_sub (zq_k 5) (zq_v 6), (bif Nat.beq s 0 then zq_sub (zq_k 1) (zq_v 4) else zq_addk (zq_v 4) (-3))]), [], [(zq_v 0, zq_v 3, zq_v 4), (zq_v 1, zq_v 3, zq_v 5), (zq_v 2, zq_v 3, zq_v 6)], [], [zj_jt id (zq_v 3) (zq_k (-1))], 7), [([], [], [], [], [], [], [zj_jt id (zq_addk (zq_v 3) 1) (zq_k (-1))], 7)])
theorem zj_R1_ok {w : zq_Wd} {id kk ko kt s : Nat} (hX : zj_is w id (zj_JR kk ko kt)) : zq_okG1 w (zj_R1 id s) := by
  refine ⟨?_, rfl, zq_fa1 ⟨rfl, Nat.le_refl _⟩, ?_⟩
  · unfold zq_wf zj_R1; cases Nat.beq s 1 <;> cases Nat.beq s 0 <;> rfl
  intro r P h H hM
  obtain ⟨hT, hC, -, hS, -, hK⟩ := hM
  obtain ⟨k1, k2, k3, k4, k5, k6, k7, k8⟩ := zj_jt_use hX hK
  have c := hC.1
  have a1 := zq_all_1 c
  have c := zq_all_t c
  have a2 := zq_all_1 c
  have c := zq_all_t c
  have a3 := zq_all_1 c
  have c := zq_all_t c
  obtain ⟨-, -, s1⟩ := zq_okS_1 hS
  obtain ⟨-, -, s2⟩ := zq_okS_1 (zq_okS_t hS)
  obtain ⟨-, -, s3⟩ := zq_okS_1 (zq_okS_t (zq_okS_t hS))
  simp only [zq_ev_v, zq_ev_sub, zq_ev_k] at a1 a2 a3 s1 s2 s3 k7 k8
  have hok : zj_ok (r 4) (r 5) (r 6) := by
    cases h1 : Nat.beq s 1 with
    | true =>
      rw [h1] at c
      have b1 := zq_all_1 (c := zq_sub (zq_k 3) (zq_v 5)) (C := [zq_sub (zq_k 6) (zq_v 6), zq_addk (zq_v 4) (-2), zq_sub (zq_k 2) (zq_v 4)]) c
      have c := zq_all_t (c := zq_sub (zq_k 3) (zq_v 5)) (C := [zq_sub (zq_k 6) (zq_v 6), zq_addk (zq_v 4) (-2), zq_sub (zq_k 2) (zq_v 4)]) c
      have b2 := zq_all_1 c
      have c := zq_all_t c
      have b3 := zq_all_1 c
      have b4 := zq_all_1 (zq_all_t c)
      simp only [zq_ev_v, zq_ev_sub, zq_ev_k, zq_ev_addk] at b1 b2 b3 b4
      exact ⟨by omega, by omega, by omega, by omega, fun _ => by omega, fun z => absurd (by omega) z⟩
    | false =>
      rw [h1] at c
      have b1 := zq_all_1 (c := zq_sub (zq_k 5) (zq_v 5)) (C := [zq_sub (zq_k 5) (zq_v 6), (bif Nat.beq s 0 then zq_sub (zq_k 1) (zq_v 4) else zq_addk (zq_v 4) (-3))]) c
      have c := zq_all_t (c := zq_sub (zq_k 5) (zq_v 5)) (C := [zq_sub (zq_k 5) (zq_v 6), (bif Nat.beq s 0 then zq_sub (zq_k 1) (zq_v 4) else zq_addk (zq_v 4) (-3))]) c
      have b2 := zq_all_1 c
      have b3 := zq_all_1 (zq_all_t c)
      simp only [zq_ev_v, zq_ev_sub, zq_ev_k] at b1 b2
      have b4 : r 4 ≠ 2 := by
        cases h0 : Nat.beq s 0 with
        | true => rw [h0] at b3; simp only [cond_true, zq_ev_v, zq_ev_sub, zq_ev_k] at b3; omega
        | false => rw [h0] at b3; simp only [cond_false, zq_ev_v, zq_ev_addk] at b3; omega
      exact ⟨by omega, by omega, by omega, by omega, fun z => absurd z b4, fun _ => by omega⟩
  refine ⟨_, List.mem_singleton.mpr rfl, r, fun _ _ => rfl, zq_MeS_mk rfl hT zq_all_nil zq_fan zq_fan rfl (zj_jt_mk hX k1 k2 k3 k4 k5 k6 (by rw [zq_ev_addk, zq_ev_v]; omega) fun j x y z => ?_)⟩
  rw [zq_ev_addk, zq_ev_v] at y
  by_cases hj : j < r 3
  · exact k8 j x hj z
  · have : j = r 3 := by omega
    subst this
    rw [s1, s2, s3]; exact hok
/-- a row looked up -/
noncomputable def zj_R2 (id : Nat) : zq_S × List zq_S := (([], [], [zq_v 4, zq_addk (zq_sub (zq_v 3) (zq_v 4)) (-1)], [], [(zq_v 0, zq_v 4, zq_v 5), (zq_v 1, zq_v 4, zq_v 6), (zq_v 2, zq_v 4, zq_v 7)], [], [zj_jt id (zq_v 3) (zq_k (-1))], 8),
  [([], [], [zq_addk (zq_v 5) (-2), zq_sub (zq_k 2) (zq_v 5), zq_v 6, zq_sub (zq_k 3) (zq_v 6), zq_v 7, zq_sub (zq_k 6) (zq_v 7)], [], [], [], [], 8), ([], [], [zq_sub (zq_k 1) (zq_v 5), zq_v 6, zq_sub (zq_k 5) (zq_v 6), zq_v 7, zq_sub (zq_k 5) (zq_v 7)], [], [], [], [], 8), ([], [], [zq_addk (zq_v 5) (-3), zq_v 6, zq_sub (zq_k 5) (zq_v 6), zq_v 7, zq_sub (zq_k 5) (zq_v 7)], [], [], [], [], 8)])
theorem zj_R2_ok {w : zq_Wd} {id kk ko kt : Nat} (hX : zj_is w id (zj_JR kk ko kt)) : zq_okG1 w (zj_R2 id) := by
  refine ⟨rfl, rfl, List.forall_mem_cons.mpr ⟨⟨rfl, Nat.le_refl _⟩, List.forall_mem_cons.mpr ⟨⟨rfl, Nat.le_refl _⟩, zq_fa1 ⟨rfl, Nat.le_refl _⟩⟩⟩, ?_⟩
  intro r P h H hM
  obtain ⟨hT, hC, -, hS, -, hK⟩ := hM
  obtain ⟨k1, k2, k3, k4, k5, k6, k7, k8⟩ := zj_jt_use hX hK
  have a1 := zq_all_1 hC.1
  have a2 := zq_all_1 (zq_all_t hC.1)
  obtain ⟨-, -, s1⟩ := zq_okS_1 hS
  obtain ⟨-, -, s2⟩ := zq_okS_1 (zq_okS_t hS)
  obtain ⟨-, -, s3⟩ := zq_okS_1 (zq_okS_t (zq_okS_t hS))
  simp only [zq_ev_v, zq_ev_sub, zq_ev_addk, zq_ev_k] at a1 a2 s1 s2 s3 k7 k8
  have hok := k8 (r 4) a1 (by omega) (by omega)
  rw [s1, s2, s3] at hok
  obtain ⟨o1, o2, o3, o4, o5, o6⟩ := hok
  by_cases h2 : r 5 = 2
  · have := o5 h2
    refine ⟨_, List.mem_cons_self .., r, fun _ _ => rfl, zq_MeS_mk rfl hT (zq_all_cons ?_ (zq_all_cons ?_ (zq_all_cons ?_ (zq_all_cons ?_ (zq_all_cons ?_ (zq_all_cons ?_ zq_all_nil)))))) zq_fan zq_fan rfl zq_fan⟩ <;> simp only [zq_ev_v, zq_ev_sub, zq_ev_addk, zq_ev_k] <;> omega
  · have := o6 h2
    by_cases h1 : r 5 ≤ 1
    · refine ⟨_, List.mem_cons_of_mem _ (List.mem_cons_self ..), r, fun _ _ => rfl, zq_MeS_mk rfl hT (zq_all_cons ?_ (zq_all_cons ?_ (zq_all_cons ?_ (zq_all_cons ?_ (zq_all_cons ?_ zq_all_nil))))) zq_fan zq_fan rfl zq_fan⟩ <;> simp only [zq_ev_v, zq_ev_sub, zq_ev_addk, zq_ev_k] <;> omega
    · refine ⟨_, List.mem_cons_of_mem _ (List.mem_cons_of_mem _ (List.mem_cons_self ..)), r, fun _ _ => rfl, zq_MeS_mk rfl hT (zq_all_cons ?_ (zq_all_cons ?_ (zq_all_cons ?_ (zq_all_cons ?_ (zq_all_cons ?_ zq_all_nil))))) zq_fan zq_fan rfl zq_fan⟩ <;> simp only [zq_ev_v, zq_ev_sub, zq_ev_addk, zq_ev_k] <;> omega
/-- a hole at the start; the hole moves; the hole at the end; fewer rows -/
noncomputable def zj_R3 (id : Nat) : zq_S × List zq_S := (([], [], [], [], [], [], [zj_jt id (zq_v 3) (zq_k (-1))], 4), [([], [], [], [], [], [], [zj_jt id (zq_v 3) (zq_k 0)], 4)])
theorem zj_R3_ok {w : zq_Wd} {id kk ko kt : Nat} (hX : zj_is w id (zj_JR kk ko kt)) : zq_okG1 w (zj_R3 id) := by
  refine ⟨rfl, rfl, zq_fa1 ⟨rfl, Nat.le_refl _⟩, ?_⟩
  intro r P h H hM
  obtain ⟨hT, hC, -, hS, -, hK⟩ := hM
  obtain ⟨k1, k2, k3, k4, k5, k6, k7, k8⟩ := zj_jt_use hX hK
  refine ⟨_, List.mem_singleton.mpr rfl, r, fun _ _ => rfl, zq_MeS_mk rfl hT zq_all_nil zq_fan zq_fan rfl (zj_jt_mk hX k1 k2 k3 k4 k5 k6 k7 fun j x y z => k8 j x y ?_)⟩
  rw [zq_ev_k]; omega
noncomputable def zj_R4 (id : Nat) : zq_S × List zq_S := (([], [], [zq_addk (zq_sub (zq_v 3) (zq_v 4)) (-2)], [], [(zq_v 0, zq_v 4, zq_v 5), (zq_v 0, zq_addk (zq_v 4) 1, zq_v 5), (zq_v 1, zq_v 4, zq_v 6), (zq_v 1, zq_addk (zq_v 4) 1, zq_v 6), (zq_v 2, zq_v 4, zq_v 7), (zq_v 2, zq_addk (zq_v 4) 1, zq_v 7)], [], [zj_jt id (zq_v 3) (zq_v 4)], 8), [([], [], [], [], [], [], [zj_jt id (zq_v 3) (zq_addk (zq_v 4) 1)], 8)])
theorem zj_R4_ok {w : zq_Wd} {id kk ko kt : Nat} (hX : zj_is w id (zj_JR kk ko kt)) : zq_okG1 w (zj_R4 id) := by
  refine ⟨rfl, rfl, zq_fa1 ⟨rfl, Nat.le_refl _⟩, ?_⟩
  intro r P h H hM
  obtain ⟨hT, hC, -, hS, -, hK⟩ := hM
  obtain ⟨k1, k2, k3, k4, k5, k6, k7, k8⟩ := zj_jt_use hX hK
  have a1 := zq_all_1 hC.1
  obtain ⟨-, -, s1⟩ := zq_okS_1 hS
  have hS := zq_okS_t hS
  obtain ⟨-, -, s2⟩ := zq_okS_1 hS
  have hS := zq_okS_t hS
  obtain ⟨-, -, s3⟩ := zq_okS_1 hS
  have hS := zq_okS_t hS
  obtain ⟨-, -, s4⟩ := zq_okS_1 hS
  have hS := zq_okS_t hS
  obtain ⟨-, -, s5⟩ := zq_okS_1 hS
  have hS := zq_okS_t hS
  obtain ⟨-, -, s6⟩ := zq_okS_1 hS
  simp only [zq_ev_v, zq_ev_addk, zq_ev_sub] at a1 s1 s2 s3 s4 s5 s6 k7 k8
  refine ⟨_, List.mem_singleton.mpr rfl, r, fun _ _ => rfl, zq_MeS_mk rfl hT zq_all_nil zq_fan zq_fan rfl (zj_jt_mk hX k1 k2 k3 k4 k5 k6 (by rw [zq_ev_v]; exact k7) fun j x y z => ?_)⟩
  rw [zq_ev_v] at y
  rw [zq_ev_addk, zq_ev_v] at z
  by_cases hj : j = r 4
  · subst hj
    have := k8 (r 4 + 1) (by omega) (by omega) (by omega)
    rw [s2, s4, s6] at this
    rw [s1, s3, s5]; exact this
  · exact k8 j x y hj
noncomputable def zj_R5 (id : Nat) : zq_S × List zq_S := (([], [], [], [], [], [], [zj_jt id (zq_k 16) (zq_k 15)], 3), [([], [], [], [], [], [], [zj_jt id (zq_k 15) (zq_k (-1))], 3)])
theorem zj_R5_ok {w : zq_Wd} {id kk ko kt : Nat} (hX : zj_is w id (zj_JR kk ko kt)) : zq_okG1 w (zj_R5 id) := by
  refine ⟨rfl, rfl, zq_fa1 ⟨rfl, Nat.le_refl _⟩, ?_⟩
  intro r P h H hM
  obtain ⟨hT, hC, -, hS, -, hK⟩ := hM
  obtain ⟨k1, k2, k3, k4, k5, k6, k7, k8⟩ := zj_jt_use hX hK
  refine ⟨_, List.mem_singleton.mpr rfl, r, fun _ _ => rfl, zq_MeS_mk rfl hT zq_all_nil zq_fan zq_fan rfl (zj_jt_mk hX k1 k2 k3 k4 k5 k6 (by rw [zq_ev_k]; omega) fun j x y z => ?_)⟩
  rw [zq_ev_k] at y
  exact k8 j x (by rw [zq_ev_k]; omega) (by rw [zq_ev_k]; omega)
noncomputable def zj_R6 (id : Nat) : zq_S × List zq_S := (([], [], [zq_sub (zq_v 3) (zq_v 4)], [], [], [], [zj_jt id (zq_v 3) (zq_k (-1))], 5), [([], [], [], [], [], [], [zj_jt id (zq_v 4) (zq_k (-1))], 5)])
theorem zj_R6_ok {w : zq_Wd} {id kk ko kt : Nat} (hX : zj_is w id (zj_JR kk ko kt)) : zq_okG1 w (zj_R6 id) := by
  refine ⟨rfl, rfl, zq_fa1 ⟨rfl, Nat.le_refl _⟩, ?_⟩
  intro r P h H hM
  obtain ⟨hT, hC, -, hS, -, hK⟩ := hM
  obtain ⟨k1, k2, k3, k4, k5, k6, k7, k8⟩ := zj_jt_use hX hK
  have a1 := zq_all_1 hC.1
  simp only [zq_ev_v, zq_ev_sub] at a1 k7 k8
  refine ⟨_, List.mem_singleton.mpr rfl, r, fun _ _ => rfl, zq_MeS_mk rfl hT zq_all_nil zq_fan zq_fan rfl (zj_jt_mk hX k1 k2 k3 k4 k5 k6 (by rw [zq_ev_v]; omega) fun j x y z => ?_)⟩
  rw [zq_ev_v] at y
  exact k8 j x (by omega) z
/-- rows of a copy: of ids' arrays 3, 4, 5 in 0, 1, 2 -/
noncomputable def zj_R7 (ids idd e1 e2 e3 : Nat) : zq_S × List zq_S := (([], [], [], [], [], [], [(ids, [zq_v 3, zq_v 4, zq_v 5, zq_v 6, zq_k (-1)]), (e1, [zq_v 0, zq_v 3]), (e2, [zq_v 1, zq_v 4]), (e3, [zq_v 2, zq_v 5])], 7), [([], [], [], [], [], [], [zj_jt idd (zq_v 6) (zq_k (-1))], 7)])
theorem zj_R7_ok {w : zq_Wd} {ids idd e1 e2 e3 kk ko kt jk jo jt : Nat} (hX : zj_is w ids (zj_JR kk ko kt)) (hY : zj_is w idd (zj_JR jk jo jt)) (h1 : zj_is w e1 (zj_EQ jk kk)) (h2 : zj_is w e2 (zj_EQ jo ko)) (h3 : zj_is w e3 (zj_EQ jt kt)) : zq_okG1 w (zj_R7 ids idd e1 e2 e3) := by
  refine ⟨rfl, rfl, zq_fa1 ⟨rfl, Nat.le_refl _⟩, ?_⟩
  intro r P h H hM
  obtain ⟨hT, hC, -, hS, -, hK⟩ := hM
  have k0 : zj_JR kk ko kt (zq_en [zq_ev r (zq_v 3), zq_ev r (zq_v 4), zq_ev r (zq_v 5), zq_ev r (zq_v 6), zq_ev r (zq_k (-1))]) P h := zj_use hX hK
  have m1 : zj_EQ jk kk (zq_en [zq_ev r (zq_v 0), zq_ev r (zq_v 3)]) P h := zj_use h1 (zq_okX_t hK)
  have m2 : zj_EQ jo ko (zq_en [zq_ev r (zq_v 1), zq_ev r (zq_v 4)]) P h := zj_use h2 (zq_okX_t (zq_okX_t hK))
  have m3 : zj_EQ jt kt (zq_en [zq_ev r (zq_v 2), zq_ev r (zq_v 5)]) P h := zj_use h3 (zq_okX_t (zq_okX_t (zq_okX_t hK)))
  simp only [zq_ev_v, zq_ev_k] at k0 m1 m2 m3
  obtain ⟨-, -, -, -, -, -, k7, k8⟩ := k0
  obtain ⟨p1, p2, -, -, p5⟩ := m1
  obtain ⟨q1, q2, -, -, q5⟩ := m2
  obtain ⟨t1, t2, -, -, t5⟩ := m3
  have k7 : r 6 ≤ 16 := k7
  have k8 : ∀ j, 0 ≤ j → j < r 6 → j ≠ -1 → zj_ok (h (r 3).toNat j) (h (r 4).toNat j) (h (r 5).toNat j) := k8
  have p5 : ∀ j, 0 ≤ j → j < 16 → h (r 0).toNat j = h (r 3).toNat j := p5
  have q5 : ∀ j, 0 ≤ j → j < 16 → h (r 1).toNat j = h (r 4).toNat j := q5
  have t5 : ∀ j, 0 ≤ j → j < 16 → h (r 2).toNat j = h (r 5).toNat j := t5
  refine ⟨_, List.mem_singleton.mpr rfl, r, fun _ _ => rfl, zq_MeS_mk rfl hT zq_all_nil zq_fan zq_fan rfl (zj_jt_mk hY p1 p2 q1 q2 t1 t2 (by rw [zq_ev_v]; exact k7) fun j x y z => ?_)⟩
  rw [zq_ev_v] at y
  rw [p5 j x (by omega), q5 j x (by omega), t5 j x (by omega)]
  exact k8 j x y (by omega)
