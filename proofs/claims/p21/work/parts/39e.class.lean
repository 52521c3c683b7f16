/-! TOKENS of the class: rows of the journal, how many days passed stand there, starts of tokens -/
noncomputable def zj_ok (k a b : Int) : Prop := 0 ≤ a ∧ a ≤ 5 ∧ 0 ≤ b ∧ b ≤ 6 ∧ (k = 2 → a ≤ 3) ∧ (k ≠ 2 → b ≤ 5)
noncomputable def zj_JR (kk ko kt : Nat) (r : Nat → Int) (P : zq_Ty) (h : zq_H) : Prop := 0 ≤ r 0 ∧ P (r 0).toNat = some kk ∧ 0 ≤ r 1 ∧ P (r 1).toNat = some ko ∧ 0 ≤ r 2 ∧ P (r 2).toNat = some kt ∧ r 3 ≤ 16 ∧ ∀ j, 0 ≤ j → j < r 3 → j ≠ r 4 → zj_ok (h (r 0).toNat j) (h (r 1).toNat j) (h (r 2).toNat j)
noncomputable def zj_cn (f : Int → Int) : Int → Nat → Int
  | _, 0 => 0
  | lo, n + 1 => (if f lo = 3 then 1 else 0) + zj_cn f (lo + 1) n
noncomputable def zj_CN (kk : Nat) (r : Nat → Int) (P : zq_Ty) (h : zq_H) : Prop := 0 ≤ r 0 ∧ P (r 0).toNat = some kk ∧ 0 ≤ r 1 ∧ r 1 ≤ 16 ∧ zj_cn (h (r 0).toNat) 0 (r 1).toNat ≤ r 2
noncomputable def zj_SH (kk : Nat) (r : Nat → Int) (P : zq_Ty) (h : zq_H) : Prop := 0 ≤ r 0 ∧ P (r 0).toNat = some kk ∧ 0 ≤ r 1 ∧ r 1 ≤ 15 ∧ zj_cn (h (r 0).toNat) 0 (r 1).toNat + zj_cn (h (r 0).toNat) (r 1 + 1) (15 - r 1).toNat ≤ r 2
noncomputable def zj_EQ (kd ks : Nat) (r : Nat → Int) (P : zq_Ty) (h : zq_H) : Prop := 0 ≤ r 0 ∧ P (r 0).toNat = some kd ∧ 0 ≤ r 1 ∧ P (r 1).toNat = some ks ∧ ∀ j, 0 ≤ j → j < 16 → h (r 0).toNat j = h (r 1).toNat j
theorem zj_cn_cong {f g : Int → Int} : ∀ {n : Nat} {lo : Int}, (∀ j, lo ≤ j → j < lo + n → g j = f j) → zj_cn g lo n = zj_cn f lo n
  | 0, _, _ => rfl
  | n + 1, lo, h => by
    unfold zj_cn
    rw [h lo (Int.le_refl _) (by omega), zj_cn_cong (fun j a b => h j (by omega) (by omega))]
theorem zj_cn_snoc {f : Int → Int} : ∀ {n : Nat} {lo : Int}, zj_cn f lo (n + 1) = zj_cn f lo n + (if f (lo + n) = 3 then 1 else 0)
  | 0, lo => by simp [zj_cn]
  | n + 1, lo => by
    rw [show zj_cn f lo (n + 1 + 1) = (if f lo = 3 then 1 else 0) + zj_cn f (lo + 1) (n + 1) from rfl, zj_cn_snoc, show zj_cn f lo (n + 1) = (if f lo = 3 then 1 else 0) + zj_cn f (lo + 1) n from rfl, show lo + 1 + (n : Int) = lo + ((n + 1 : Nat) : Int) by omega]
    omega
theorem zj_cn_nn {f : Int → Int} : ∀ {n : Nat} {lo : Int}, 0 ≤ zj_cn f lo n
  | 0, _ => Int.le_refl _
  | n + 1, lo => by
    have := zj_cn_nn (f := f) (n := n) (lo := lo + 1)
    unfold zj_cn
    split <;> omega
/-! what they look at -/
section ZJFX
variable {P P' : zq_Ty} {h h' : zq_H} {r : Nat → Int}
theorem zj_JR_fx {kk ko kt : Nat} (hP : zq_le P P') (h1 : ∀ j, 0 ≤ j → j < r 3 → P (r 0).toNat = some kk → h' (r 0).toNat j = h (r 0).toNat j) (h2 : ∀ j, 0 ≤ j → j < r 3 → j ≠ r 4 → P (r 1).toNat = some ko → h' (r 1).toNat j = h (r 1).toNat j) (h3 : ∀ j, 0 ≤ j → j < r 3 → j ≠ r 4 → P (r 2).toNat = some kt → h' (r 2).toNat j = h (r 2).toNat j) (ht : zj_JR kk ko kt r P h) : zj_JR kk ko kt r P' h' := by
  obtain ⟨a1, a2, a3, a4, a5, a6, a7, a8⟩ := ht
  refine ⟨a1, hP _ _ a2, a3, hP _ _ a4, a5, hP _ _ a6, a7, fun j x y z => ?_⟩
  rw [h1 j x y a2, h2 j x y z a4, h3 j x y z a6]
  exact a8 j x y z
theorem zj_JR_fx' {kk ko kt : Nat} (hP : zq_le P P') (h1 : ∀ j, 0 ≤ j → j < r 3 → j ≠ r 4 → P (r 0).toNat = some kk → h' (r 0).toNat j = h (r 0).toNat j) (h2 : ∀ j, 0 ≤ j → j < r 3 → j ≠ r 4 → P (r 1).toNat = some ko → h' (r 1).toNat j = h (r 1).toNat j) (h3 : ∀ j, 0 ≤ j → j < r 3 → j ≠ r 4 → P (r 2).toNat = some kt → h' (r 2).toNat j = h (r 2).toNat j) (ht : zj_JR kk ko kt r P h) : zj_JR kk ko kt r P' h' := by
  obtain ⟨a1, a2, a3, a4, a5, a6, a7, a8⟩ := ht
  refine ⟨a1, hP _ _ a2, a3, hP _ _ a4, a5, hP _ _ a6, a7, fun j x y z => ?_⟩
  rw [h1 j x y z a2, h2 j x y z a4, h3 j x y z a6]
  exact a8 j x y z
theorem zj_CN_fx {kk : Nat} (hP : zq_le P P') (h1 : ∀ j, 0 ≤ j → j < r 1 → P (r 0).toNat = some kk → h' (r 0).toNat j = h (r 0).toNat j) (ht : zj_CN kk r P h) : zj_CN kk r P' h' := by
  obtain ⟨a1, a2, a3, a4, a5⟩ := ht
  refine ⟨a1, hP _ _ a2, a3, a4, ?_⟩
  rw [zj_cn_cong (f := h (r 0).toNat) (fun j x y => h1 j x (by omega) a2)]
  exact a5
theorem zj_SH_fx {kk : Nat} (hP : zq_le P P') (h1 : ∀ j, 0 ≤ j → j < 16 → j ≠ r 1 → P (r 0).toNat = some kk → h' (r 0).toNat j = h (r 0).toNat j) (ht : zj_SH kk r P h) : zj_SH kk r P' h' := by
  obtain ⟨a1, a2, a3, a4, a5⟩ := ht
  refine ⟨a1, hP _ _ a2, a3, a4, ?_⟩
  rw [zj_cn_cong (f := h (r 0).toNat) (lo := 0) (fun j x y => h1 j x (by omega) (by omega) a2), zj_cn_cong (f := h (r 0).toNat) (lo := r 1 + 1) (fun j x y => h1 j (by omega) (by omega) (by omega) a2)]
  exact a5
theorem zj_EQ_fx {kd ks : Nat} (hP : zq_le P P') (h1 : ∀ j, 0 ≤ j → j < 16 → P (r 0).toNat = some kd → h' (r 0).toNat j = h (r 0).toNat j) (h2 : ∀ j, 0 ≤ j → j < 16 → P (r 1).toNat = some ks → h' (r 1).toNat j = h (r 1).toNat j) (ht : zj_EQ kd ks r P h) : zj_EQ kd ks r P' h' := by
  obtain ⟨a1, a2, a3, a4, a5⟩ := ht
  refine ⟨a1, hP _ _ a2, a3, hP _ _ a4, fun j x y => ?_⟩
  rw [h1 j x y a2, h2 j x y a4]; exact a5 j x y
theorem zj_ST_fx {k : Nat} (hP : zq_le P P') (h1 : ∀ j, 0 ≤ j → j < r 1 → P (r 0).toNat = some k → h' (r 0).toNat j = h (r 0).toNat j) (ht : zj_ST k r P h) : zj_ST k r P' h' := by
  obtain ⟨a1, a2, a3, a4, a5⟩ := ht
  refine ⟨a1, hP _ _ a2, a3, a4, fun j x y => ?_⟩
  rw [h1 j x y a2]; exact a5 j x y
end ZJFX
/-! facts, for a token's number and its kinds -/
noncomputable def zj_is (w : zq_Wd) (id : Nat) (T : (Nat → Int) → zq_Ty → zq_H → Prop) : Prop := ∀ as P h, w.2.2.2.2 id as P h ↔ T (zq_en as) P h
theorem zj_use {w : zq_Wd} {id : Nat} {T : (Nat → Int) → zq_Ty → zq_H → Prop} (hX : zj_is w id T) {r : Nat → Int} {P : zq_Ty} {h : zq_H} {n : Nat} {es : List zq_L} {l : List (Nat × List zq_L)} (hk : zq_okX w r P h n ((id, es) :: l)) : T (zq_en (es.map (zq_ev r))) P h := (hX _ _ _).mp (hk _ (List.mem_cons_self ..)).2
/-- starts: none yet, one more, one looked up -/
noncomputable def zj_S0 (id k : Nat) : zq_S × List zq_S := (([], [], [zq_v 0], [(zq_v 0, k)], [], [], [], 1), [([], [], [], [], [], [], [(id, [zq_v 0, zq_k 0])], 1)])
theorem zj_S0_ok {w : zq_Wd} {id k : Nat} (hX : zj_is w id (zj_ST k)) : zq_okG1 w (zj_S0 id k) := by
  refine ⟨rfl, rfl, zq_fa1 ⟨rfl, Nat.le_refl _⟩, ?_⟩
  intro r P h H hM
  obtain ⟨hT, hC, hF, -, -, -⟩ := hM
  have a1 := zq_all_1 hC.1
  have b1 := zq_okF_1 hF a1
  simp only [zq_ev_v] at a1 b1
  refine ⟨_, List.mem_singleton.mpr rfl, r, fun _ _ => rfl, zq_MeS_mk rfl hT zq_all_nil zq_fan zq_fan rfl (zq_fa1 ((hX _ _ _).mpr ?_))⟩
  show zj_ST k (zq_en [zq_ev r (zq_v 0), zq_ev r (zq_k 0)]) P h
  rw [zq_ev_v, zq_ev_k]
  exact ⟨a1, b1, Int.le_refl _, by show (0 : Int) ≤ 401; omega, fun j x y => absurd y (by show ¬ j < 0; omega)⟩
noncomputable def zj_S1 (id : Nat) : zq_S × List zq_S := (([], [], [zq_v 2, zq_sub (zq_k 399) (zq_v 2), zq_sub (zq_k 400) (zq_v 1)], [], [(zq_v 0, zq_v 1, zq_v 2)], [], [(id, [zq_v 0, zq_v 1])], 3), [([], [], [], [], [], [], [(id, [zq_v 0, zq_addk (zq_v 1) 1])], 3)])
theorem zj_S1_ok {w : zq_Wd} {id k : Nat} (hX : zj_is w id (zj_ST k)) : zq_okG1 w (zj_S1 id) := by
  refine ⟨rfl, rfl, zq_fa1 ⟨rfl, Nat.le_refl _⟩, ?_⟩
  intro r P h H hM
  obtain ⟨hT, hC, -, hS, -, hK⟩ := hM
  have a1 := zq_all_1 hC.1
  have a2 := zq_all_1 (zq_all_t hC.1)
  have a3 := zq_all_1 (zq_all_t (zq_all_t hC.1))
  obtain ⟨-, -, s1⟩ := zq_okS_1 hS
  have k0 : zj_ST k (zq_en [zq_ev r (zq_v 0), zq_ev r (zq_v 1)]) P h := zj_use hX hK
  simp only [zq_ev_v, zq_ev_sub, zq_ev_k] at a1 a2 a3 s1 k0
  obtain ⟨k1, k2, k3, k4, k5⟩ := k0
  have k3 : 0 ≤ r 1 := k3
  refine ⟨_, List.mem_singleton.mpr rfl, r, fun _ _ => rfl, zq_MeS_mk rfl hT zq_all_nil zq_fan zq_fan rfl (zq_fa1 ((hX _ _ _).mpr ?_))⟩
  show zj_ST k (zq_en [zq_ev r (zq_v 0), zq_ev r (zq_addk (zq_v 1) 1)]) P h
  rw [zq_ev_v, zq_ev_addk, zq_ev_v]
  refine ⟨k1, k2, by show 0 ≤ r 1 + 1; omega, by show r 1 + 1 ≤ 401; omega, fun j x y => ?_⟩
  have y : j < r 1 + 1 := y
  by_cases hj : j < r 1
  · exact k5 j x hj
  · have : j = r 1 := by omega
    subst this
    show 0 ≤ h (r 0).toNat (r 1) ∧ h (r 0).toNat (r 1) ≤ 399
    rw [s1]; omega
noncomputable def zj_S2 (id : Nat) : zq_S × List zq_S := (([], [], [zq_v 2, zq_addk (zq_sub (zq_v 1) (zq_v 2)) (-1)], [], [(zq_v 0, zq_v 2, zq_v 3)], [], [(id, [zq_v 0, zq_v 1])], 4), [([], [], [zq_v 3, zq_sub (zq_k 399) (zq_v 3)], [], [], [], [], 4)])
theorem zj_S2_ok {w : zq_Wd} {id k : Nat} (hX : zj_is w id (zj_ST k)) : zq_okG1 w (zj_S2 id) := by
  refine ⟨rfl, rfl, zq_fa1 ⟨rfl, Nat.le_refl _⟩, ?_⟩
  intro r P h H hM
  obtain ⟨hT, hC, -, hS, -, hK⟩ := hM
  have a1 := zq_all_1 hC.1
  have a2 := zq_all_1 (zq_all_t hC.1)
  obtain ⟨-, -, s1⟩ := zq_okS_1 hS
  have k0 : zj_ST k (zq_en [zq_ev r (zq_v 0), zq_ev r (zq_v 1)]) P h := zj_use hX hK
  simp only [zq_ev_v, zq_ev_sub, zq_ev_addk] at a1 a2 s1 k0
  obtain ⟨k1, k2, k3, k4, k5⟩ := k0
  obtain ⟨q1, q2⟩ := k5 (r 2) a1 (by show r 2 < r 1; omega)
  have q1 : 0 ≤ h (r 0).toNat (r 2) := q1
  have q2 : h (r 0).toNat (r 2) ≤ 399 := q2
  refine ⟨_, List.mem_singleton.mpr rfl, r, fun _ _ => rfl, zq_MeS_mk rfl hT (zq_all_cons ?_ (zq_all_cons ?_ zq_all_nil)) zq_fan zq_fan rfl zq_fan⟩
  · rw [zq_ev_v]; omega
  · rw [zq_ev_sub, zq_ev_k, zq_ev_v]; omega
/-! days passed in the journal -/
noncomputable def zj_C0 (id kk : Nat) : zq_S × List zq_S := (([], [], [zq_v 0, zq_v 1], [(zq_v 0, kk)], [], [], [], 2), [([], [], [], [], [], [], [(id, [zq_v 0, zq_k 0, zq_v 1])], 2)])
theorem zj_C0_ok {w : zq_Wd} {id kk : Nat} (hX : zj_is w id (zj_CN kk)) : zq_okG1 w (zj_C0 id kk) := by
  refine ⟨rfl, rfl, zq_fa1 ⟨rfl, Nat.le_refl _⟩, ?_⟩
  intro r P h H hM
  obtain ⟨hT, hC, hF, -, -, -⟩ := hM
  have a1 := zq_all_1 hC.1
  have a2 := zq_all_1 (zq_all_t hC.1)
  have b1 := zq_okF_1 hF a1
  simp only [zq_ev_v] at a1 a2 b1
  refine ⟨_, List.mem_singleton.mpr rfl, r, fun _ _ => rfl, zq_MeS_mk rfl hT zq_all_nil zq_fan zq_fan rfl (zq_fa1 ((hX _ _ _).mpr ?_))⟩
  show zj_CN kk (zq_en [zq_ev r (zq_v 0), zq_ev r (zq_k 0), zq_ev r (zq_v 1)]) P h
  rw [zq_ev_v, zq_ev_k, zq_ev_v]
  exact ⟨a1, b1, Int.le_refl _, by show (0 : Int) ≤ 16; omega, a2⟩
/-- one more: s = 0 another one than a day passed (kinds up to 2), 1 a day passed -/
noncomputable def zj_C1 (id s : Nat) : zq_S × List zq_S := (([], [], zq_sub (zq_k 15) (zq_v 1) :: (bif Nat.beq s 0 then [zq_sub (zq_k 2) (zq_v 3)] else []), [], [(zq_v 0, zq_v 1, zq_v 3)], [], [(id, [zq_v 0, zq_v 1, zq_v 2])], 4), [([], [], [], [], [], [], [(id, [zq_v 0, zq_addk (zq_v 1) 1, zq_addk (zq_v 2) (bif Nat.beq s 0 then 0 else 1)])], 4)])
theorem zj_C1_ok {w : zq_Wd} {id kk s : Nat} (hX : zj_is w id (zj_CN kk)) : zq_okG1 w (zj_C1 id s) := by
  refine ⟨?_, rfl, zq_fa1 ⟨rfl, Nat.le_refl _⟩, ?_⟩
  · unfold zq_wf zj_C1; cases Nat.beq s 0 <;> rfl
  intro r P h H hM
  obtain ⟨hT, hC, -, hS, -, hK⟩ := hM
  have a1 := zq_all_1 hC.1
  have a2 := zq_all_t hC.1
  obtain ⟨-, -, s1⟩ := zq_okS_1 hS
  have k0 : zj_CN kk (zq_en [zq_ev r (zq_v 0), zq_ev r (zq_v 1), zq_ev r (zq_v 2)]) P h := zj_use hX hK
  simp only [zq_ev_v, zq_ev_sub, zq_ev_k] at a1 s1 k0
  obtain ⟨k1, k2, k3, k4, k5⟩ := k0
  have k3 : 0 ≤ r 1 := k3
  have k5 : zj_cn (h (r 0).toNat) 0 (r 1).toNat ≤ r 2 := k5
  refine ⟨_, List.mem_singleton.mpr rfl, r, fun _ _ => rfl, zq_MeS_mk rfl hT zq_all_nil zq_fan zq_fan rfl (zq_fa1 ((hX _ _ _).mpr ?_))⟩
  show zj_CN kk (zq_en [zq_ev r (zq_v 0), zq_ev r (zq_addk (zq_v 1) 1), zq_ev r (zq_addk (zq_v 2) (bif Nat.beq s 0 then 0 else 1))]) P h
  rw [zq_ev_v, zq_ev_addk, zq_ev_v, zq_ev_addk, zq_ev_v]
  refine ⟨k1, k2, by show 0 ≤ r 1 + 1; omega, by show r 1 + 1 ≤ 16; omega, ?_⟩
  show zj_cn (h (r 0).toNat) 0 (r 1 + 1).toNat ≤ r 2 + (bif Nat.beq s 0 then 0 else 1)
  rw [show (r 1 + 1).toNat = (r 1).toNat + 1 by omega, zj_cn_snoc, show (0 : Int) + ((r 1).toNat : Int) = r 1 by omega, s1]
  cases hs : Nat.beq s 0 with
  | true =>
    rw [hs] at a2
    have a3 := zq_all_1 (c := zq_sub (zq_k 2) (zq_v 3)) (C := []) a2
    rw [zq_ev_sub, zq_ev_k, zq_ev_v] at a3
    rw [if_neg (by omega)]
    simp only [cond_true]; omega
  | false =>
    simp only [cond_false]
    split <;> omega
/-- the last one is taken away -/
noncomputable def zj_C2 (id : Nat) : zq_S × List zq_S := (([], [], [zq_addk (zq_v 1) (-1)], [], [(zq_v 0, zq_addk (zq_v 1) (-1), zq_v 3)], [], [(id, [zq_v 0, zq_v 1, zq_v 2])], 4),
  [([], [], [zq_addk (zq_v 3) (-3), zq_sub (zq_k 3) (zq_v 3), zq_addk (zq_v 2) (-1)], [], [], [], [(id, [zq_v 0, zq_addk (zq_v 1) (-1), zq_addk (zq_v 2) (-1)])], 4),
   ([], [], [zq_sub (zq_k 2) (zq_v 3)], [], [], [], [(id, [zq_v 0, zq_addk (zq_v 1) (-1), zq_v 2])], 4),
   ([], [], [zq_addk (zq_v 3) (-4)], [], [], [], [(id, [zq_v 0, zq_addk (zq_v 1) (-1), zq_v 2])], 4)])
theorem zj_C2_ok {w : zq_Wd} {id kk : Nat} (hX : zj_is w id (zj_CN kk)) : zq_okG1 w (zj_C2 id) := by
  refine ⟨rfl, rfl, List.forall_mem_cons.mpr ⟨⟨rfl, Nat.le_refl _⟩, List.forall_mem_cons.mpr ⟨⟨rfl, Nat.le_refl _⟩, zq_fa1 ⟨rfl, Nat.le_refl _⟩⟩⟩, ?_⟩
  intro r P h H hM
  obtain ⟨hT, hC, -, hS, -, hK⟩ := hM
  have a1 := zq_all_1 hC.1
  obtain ⟨-, -, s1⟩ := zq_okS_1 hS
  have k0 : zj_CN kk (zq_en [zq_ev r (zq_v 0), zq_ev r (zq_v 1), zq_ev r (zq_v 2)]) P h := zj_use hX hK
  simp only [zq_ev_v, zq_ev_addk] at a1 s1 k0
  obtain ⟨k1, k2, k3, k4, k5⟩ := k0
  have k4 : r 1 ≤ 16 := k4
  have k5 : zj_cn (h (r 0).toNat) 0 (r 1).toNat ≤ r 2 := k5
  rw [show (r 1).toNat = (r 1 + -1).toNat + 1 by omega, zj_cn_snoc, show (0 : Int) + ((r 1 + -1).toNat : Int) = r 1 + -1 by omega, s1] at k5
  have nn := zj_cn_nn (f := h (r 0).toNat) (n := (r 1 + -1).toNat) (lo := 0)
  have mk : ∀ d : Int, zj_cn (h (r 0).toNat) 0 (r 1 + -1).toNat ≤ d → zj_CN kk (zq_en [r 0, r 1 + -1, d]) P h := fun d hd => ⟨k1, k2, by show 0 ≤ r 1 + -1; omega, by show r 1 + -1 ≤ 16; omega, hd⟩
  by_cases h3 : r 3 = 3
  · rw [if_pos h3] at k5
    refine ⟨_, List.mem_cons_self .., r, fun _ _ => rfl, zq_MeS_mk rfl hT (zq_all_cons ?_ (zq_all_cons ?_ (zq_all_cons ?_ zq_all_nil))) zq_fan zq_fan rfl (zq_fa1 ((hX _ _ _).mpr ?_))⟩
    · rw [zq_ev_addk, zq_ev_v]; omega
    · rw [zq_ev_sub, zq_ev_k, zq_ev_v]; omega
    · rw [zq_ev_addk, zq_ev_v]; omega
    · show zj_CN kk (zq_en [zq_ev r (zq_v 0), zq_ev r (zq_addk (zq_v 1) (-1)), zq_ev r (zq_addk (zq_v 2) (-1))]) P h
      rw [zq_ev_v, zq_ev_addk, zq_ev_v, zq_ev_addk, zq_ev_v]
      exact mk _ (by omega)
  · rw [if_neg h3] at k5
    by_cases h2 : r 3 ≤ 2
    · refine ⟨_, List.mem_cons_of_mem _ (List.mem_cons_self ..), r, fun _ _ => rfl, zq_MeS_mk rfl hT (zq_all_cons ?_ zq_all_nil) zq_fan zq_fan rfl (zq_fa1 ((hX _ _ _).mpr ?_))⟩
      · rw [zq_ev_sub, zq_ev_k, zq_ev_v]; omega
      · show zj_CN kk (zq_en [zq_ev r (zq_v 0), zq_ev r (zq_addk (zq_v 1) (-1)), zq_ev r (zq_v 2)]) P h
        rw [zq_ev_v, zq_ev_addk, zq_ev_v, zq_ev_v]
        exact mk _ (by omega)
    · refine ⟨_, List.mem_cons_of_mem _ (List.mem_cons_of_mem _ (List.mem_cons_self ..)), r, fun _ _ => rfl, zq_MeS_mk rfl hT (zq_all_cons ?_ zq_all_nil) zq_fan zq_fan rfl (zq_fa1 ((hX _ _ _).mpr ?_))⟩
      · rw [zq_ev_addk, zq_ev_v]; omega
      · show zj_CN kk (zq_en [zq_ev r (zq_v 0), zq_ev r (zq_addk (zq_v 1) (-1)), zq_ev r (zq_v 2)]) P h
        rw [zq_ev_v, zq_ev_addk, zq_ev_v, zq_ev_v]
        exact mk _ (by omega)
