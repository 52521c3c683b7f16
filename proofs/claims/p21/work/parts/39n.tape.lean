/-! the tapes: what their tokens look at, facts -/
noncomputable def zw_FX : zq_FX := [(21, [(95, 0, 399)]), (22, [(6, 0, 399)]), (23, [(95, 0, 399)]), (24, [(6, 0, 399)]), (25, [(95, 0, 399)]), (26, [(6, 0, 399)]), (27, [])]
theorem zw_FXok {w : zq_Wd} {A0 : Nat → Nat} (hX : w.2.2.2.2 = zX A0) : zq_okFX w zw_FX := by
  intro x hx as P P' h h' hP hh ht
  rw [hX] at ht ⊢
  have g : ∀ (k : Nat) (lo hi : Int), (k, lo, hi) ∈ x.2 → ∀ a j, P a = some k → lo ≤ j → j ≤ hi → h' a j = h a j := fun k lo hi hm a j hp h1 h2 => hh a k j hp ⟨_, hm, rfl, h1, h2⟩
  rcases List.mem_cons.mp hx with rfl | hx
  · exact zt_TC_fx hP (fun j x y z => g 95 0 399 (by decide) _ _ z x (by have := ht.2.2.2.1; omega)) ht
  rcases List.mem_cons.mp hx with rfl | hx
  · exact zt_TC_fx hP (fun j x y z => g 6 0 399 (by decide) _ _ z x (by have := ht.2.2.2.1; omega)) ht
  rcases List.mem_cons.mp hx with rfl | hx
  · exact zt_RW_fx hP (fun j x y z => g 95 0 399 (by decide) _ _ z x (by have := ht.2.2.2.1; omega)) ht
  rcases List.mem_cons.mp hx with rfl | hx
  · exact zt_RW_fx hP (fun j x y z => g 6 0 399 (by decide) _ _ z x (by have := ht.2.2.2.1; omega)) ht
  rcases List.mem_cons.mp hx with rfl | hx
  · exact zt_RE_fx hP (fun j x y z => g 95 0 399 (by decide) _ _ z x (by have := ht.2.2.2.1; omega)) ht
  rcases List.mem_cons.mp hx with rfl | hx
  · exact zt_RE_fx hP (fun j x y z => g 6 0 399 (by decide) _ _ z x (by have := ht.2.2.2.1; omega)) ht
  rcases List.mem_cons.mp hx with rfl | hx
  · exact ht
  · cases hx
noncomputable def zw_DX : zq_DXt := [(21, [(95, (0, []), (-1, [(1, 1)]))]), (22, [(6, (0, []), (-1, [(1, 1)]))])]
theorem zw_DXok {w : zq_Wd} {A0 : Nat → Nat} (hX : w.2.2.2.2 = zX A0) : zq_okDX w zw_DX := by
  intro x hx as P h a k j v hP hh ht
  rw [hX] at ht ⊢
  have g : ∀ (kk : Nat) (lo hi : zq_L), (kk, lo, hi) ∈ x.2 → ∀ b i, P b = some kk → zq_ev (zq_en as) lo ≤ i → i ≤ zq_ev (zq_en as) hi → zq_wr h a j v b i = h b i := by
    intro kk lo hi hm b i hb h1 h2
    refine zq_wr_ne ?_
    rintro ⟨rfl, rfl⟩
    have e : k = kk := Option.some.inj (hP.symm.trans hb)
    have := hh _ hm e.symm
    simp only at this
    omega
  rcases List.mem_cons.mp hx with rfl | hx
  · exact zt_TC_fx (fun _ _ z => z) (fun j x y z => g 95 (0, []) (-1, [(1, 1)]) (by decide) _ _ z (by simp [zq_ev, zq_ts]; omega) (by simp [zq_ev, zq_ts]; omega)) ht
  rcases List.mem_cons.mp hx with rfl | hx
  · exact zt_TC_fx (fun _ _ z => z) (fun j x y z => g 6 (0, []) (-1, [(1, 1)]) (by decide) _ _ z (by simp [zq_ev, zq_ts]; omega) (by simp [zq_ev, zq_ts]; omega)) ht
  · cases hx
/-- no bytes yet -/
noncomputable def zt_T0 (id k : Nat) : zq_S × List zq_S := (([], [], [zq_v 0], [(zq_v 0, k)], [], [], [], 1), [([], [], [], [], [], [], [(id, [zq_v 0, zq_k 0, zq_k 0])], 1)])
theorem zt_T0_ok {w : zq_Wd} {id k : Nat} (hX : zj_is w id (zt_TC k)) : zq_okG1 w (zt_T0 id k) := by
  refine ⟨rfl, rfl, zq_fa1 ⟨rfl, Nat.le_refl _⟩, ?_⟩
  intro r P h H hM
  obtain ⟨hT, hC, hF, -, -, -⟩ := hM
  have a1 := zq_all_1 hC.1
  have b1 := zq_okF_1 hF a1
  simp only [zq_ev_v] at a1 b1
  refine ⟨_, List.mem_singleton.mpr rfl, r, fun _ _ => rfl, zq_MeS_mk rfl hT zq_all_nil zq_fan zq_fan rfl (zq_fa1 ((hX _ _ _).mpr ?_))⟩
  show zt_TC k (zq_en [zq_ev r (zq_v 0), zq_ev r (zq_k 0), zq_ev r (zq_k 0)]) P h
  rw [zq_ev_v, zq_ev_k]
  exact ⟨a1, b1, Int.le_refl _, by show (0 : Int) ≤ 400; omega, rfl⟩
/-- one more byte, 0 to 255 -/
noncomputable def zt_T1 (id : Nat) : zq_S × List zq_S := (([], [], [zq_v 3, zq_sub (zq_k 255) (zq_v 3), zq_sub (zq_k 399) (zq_v 1)], [], [(zq_v 0, zq_v 1, zq_v 3)], [], [(id, [zq_v 0, zq_v 1, zq_v 2])], 4), [([], [], [], [], [], [], [(id, [zq_v 0, zq_addk (zq_v 1) 1, (0, [(2, 256), (3, 1)])])], 4)])
theorem zt_T1_ok {w : zq_Wd} {id k : Nat} (hX : zj_is w id (zt_TC k)) : zq_okG1 w (zt_T1 id) := by
  refine ⟨rfl, rfl, zq_fa1 ⟨rfl, Nat.le_refl _⟩, ?_⟩
  intro r P h H hM
  obtain ⟨hT, hC, -, hS, -, hK⟩ := hM
  have a1 := zq_all_1 hC.1
  have a2 := zq_all_1 (zq_all_t hC.1)
  have a3 := zq_all_1 (zq_all_t (zq_all_t hC.1))
  obtain ⟨-, -, s1⟩ := zq_okS_1 hS
  have k0 : zt_TC k (zq_en [zq_ev r (zq_v 0), zq_ev r (zq_v 1), zq_ev r (zq_v 2)]) P h := zj_use hX hK
  simp only [zq_ev_v, zq_ev_sub, zq_ev_k] at a1 a2 a3 s1 k0
  obtain ⟨k1, k2, k3, k4, k5⟩ := k0
  have k3 : 0 ≤ r 1 := k3
  have k5 : r 2 = zt_cd (h (r 0).toNat) (r 1).toNat := k5
  have e : zq_ev r (0, [(2, 256), (3, 1)]) = 256 * r 2 + r 3 := by simp [zq_ev, zq_ts]
  refine ⟨_, List.mem_singleton.mpr rfl, r, fun _ _ => rfl, zq_MeS_mk rfl hT zq_all_nil zq_fan zq_fan rfl (zq_fa1 ((hX _ _ _).mpr ?_))⟩
  show zt_TC k (zq_en [zq_ev r (zq_v 0), zq_ev r (zq_addk (zq_v 1) 1), zq_ev r (0, [(2, 256), (3, 1)])]) P h
  rw [zq_ev_v, zq_ev_addk, zq_ev_v, e]
  refine ⟨k1, k2, by show 0 ≤ r 1 + 1; omega, by show r 1 + 1 ≤ 400; omega, ?_⟩
  show 256 * r 2 + r 3 = zt_cd (h (r 0).toNat) (r 1 + 1).toNat
  rw [show (r 1 + 1).toNat = (r 1).toNat + 1 by omega]
  show _ = 256 * zt_cd (h (r 0).toNat) (r 1).toNat + h (r 0).toNat ((r 1).toNat : Int) % 256
  rw [← k5, show (((r 1).toNat : Nat) : Int) = r 1 by omega, s1, Int.emod_eq_of_lt a1 (by omega)]
/-- one more byte with a sign -/
noncomputable def zt_T1R (id : Nat) : zq_S × List zq_S := (([], [], [zq_addk (zq_v 3) 128, zq_sub (zq_k 127) (zq_v 3), zq_sub (zq_k 399) (zq_v 1)], [], [(zq_v 0, zq_v 1, zq_v 3)], [], [(id, [zq_v 0, zq_v 1, zq_v 2])], 4), [([], [], [zq_v 4, zq_sub (zq_k 1) (zq_v 4), (0, [(3, 1), (4, 256)]), (255, [(3, -1), (4, -256)])], [], [], [], [(id, [zq_v 0, zq_addk (zq_v 1) 1, (0, [(2, 256), (3, 1), (4, 256)])])], 5)])
theorem zt_T1R_ok {w : zq_Wd} {id k : Nat} (hX : zj_is w id (zt_TC k)) : zq_okG1 w (zt_T1R id) := by
  refine ⟨rfl, rfl, zq_fa1 ⟨rfl, by show 4 ≤ 5; omega⟩, ?_⟩
  intro r P h H hM
  obtain ⟨hT, hC, -, hS, -, hK⟩ := hM
  have a1 := zq_all_1 hC.1
  have a2 := zq_all_1 (zq_all_t hC.1)
  have a3 := zq_all_1 (zq_all_t (zq_all_t hC.1))
  obtain ⟨-, -, s1⟩ := zq_okS_1 hS
  have k0 : zt_TC k (zq_en [zq_ev r (zq_v 0), zq_ev r (zq_v 1), zq_ev r (zq_v 2)]) P h := zj_use hX hK
  simp only [zq_ev_v, zq_ev_sub, zq_ev_addk, zq_ev_k] at a1 a2 a3 s1 k0
  obtain ⟨k1, k2, k3, k4, k5⟩ := k0
  have k3 : 0 ≤ r 1 := k3
  have k5 : r 2 = zt_cd (h (r 0).toNat) (r 1).toNat := k5
  obtain ⟨z, hz1, hz2, hz3, hz4⟩ : ∃ z : Int, 0 ≤ z ∧ z ≤ 1 ∧ 0 ≤ r 3 + 256 * z ∧ r 3 + 256 * z ≤ 255 := by
    by_cases hn : r 3 < 0
    · exact ⟨1, by omega, by omega, by omega, by omega⟩
    · exact ⟨0, by omega, by omega, by omega, by omega⟩
  let r' := zq_up r 4 z
  have f0 : ∀ i, i < 4 → r' i = r i := fun i hi => by
    match i, hi with
    | 0, _ => rfl
    | 1, _ => rfl
    | 2, _ => rfl
    | 3, _ => rfl
  have v0 : r' 0 = r 0 := rfl
  have v1 : r' 1 = r 1 := rfl
  have v2 : r' 2 = r 2 := rfl
  have v3 : r' 3 = r 3 := rfl
  have v4 : r' 4 = z := rfl
  have e : zq_ev r' (0, [(2, 256), (3, 1), (4, 256)]) = 256 * r 2 + (r 3 + 256 * z) := by simp [zq_ev, zq_ts, v2, v3, v4]
  refine ⟨_, List.mem_singleton.mpr rfl, r', fun i hi => f0 i hi, zq_MeS_mk rfl hT ?_ zq_fan zq_fan rfl (zq_fa1 ((hX _ _ _).mpr ?_))⟩
  · refine zq_all_cons ?_ (zq_all_cons ?_ (zq_all_cons ?_ (zq_all_cons ?_ zq_all_nil)))
    · rw [zq_ev_v, v4]; exact hz1
    · rw [zq_ev_sub, zq_ev_k, zq_ev_v, v4]; omega
    · simp only [zq_ev, zq_ts, v3, v4]; omega
    · simp only [zq_ev, zq_ts, v3, v4]; omega
  · show zt_TC k (zq_en [zq_ev r' (zq_v 0), zq_ev r' (zq_addk (zq_v 1) 1), zq_ev r' (0, [(2, 256), (3, 1), (4, 256)])]) P h
    rw [zq_ev_v, zq_ev_addk, zq_ev_v, e, v0, v1]
    refine ⟨k1, k2, by show 0 ≤ r 1 + 1; omega, by show r 1 + 1 ≤ 400; omega, ?_⟩
    show 256 * r 2 + (r 3 + 256 * z) = zt_cd (h (r 0).toNat) (r 1 + 1).toNat
    rw [show (r 1 + 1).toNat = (r 1).toNat + 1 by omega]
    show _ = 256 * zt_cd (h (r 0).toNat) (r 1).toNat + h (r 0).toNat ((r 1).toNat : Int) % 256
    rw [← k5, show (((r 1).toNat : Nat) : Int) = r 1 by omega, s1, show r 3 % 256 = r 3 + 256 * z by omega]
/-- fewer bytes, of two tapes that are the same -/
noncomputable def zt_T2 (id1 id2 : Nat) : zq_S × List zq_S := (([], [], [zq_sub (zq_v 1) (zq_v 4), zq_sub (zq_v 4) (zq_v 1), zq_sub (zq_v 2) (zq_v 5), zq_sub (zq_v 5) (zq_v 2), zq_v 6, zq_sub (zq_v 1) (zq_v 6)], [], [], [], [(id1, [zq_v 0, zq_v 1, zq_v 2]), (id2, [zq_v 3, zq_v 4, zq_v 5])], 7), [([], [], [], [], [], [], [(id1, [zq_v 0, zq_v 6, zq_v 7]), (id2, [zq_v 3, zq_v 6, zq_v 7])], 8)])
theorem zt_T2_ok {w : zq_Wd} {id1 id2 ka kb : Nat} (hX : zj_is w id1 (zt_TC ka)) (hY : zj_is w id2 (zt_TC kb)) : zq_okG1 w (zt_T2 id1 id2) := by
  refine ⟨rfl, rfl, zq_fa1 ⟨rfl, by show 7 ≤ 8; omega⟩, ?_⟩
  intro r P h H hM
  obtain ⟨hT, hC, -, hS, -, hK⟩ := hM
  have c := hC.1
  have a1 := zq_all_1 c
  have c := zq_all_t c
  have a2 := zq_all_1 c
  have c := zq_all_t c
  have a3 := zq_all_1 c
  have c := zq_all_t c
  have a4 := zq_all_1 c
  have c := zq_all_t c
  have a5 := zq_all_1 c
  have a6 := zq_all_1 (zq_all_t c)
  have k0 : zt_TC ka (zq_en [zq_ev r (zq_v 0), zq_ev r (zq_v 1), zq_ev r (zq_v 2)]) P h := zj_use hX hK
  have m0 : zt_TC kb (zq_en [zq_ev r (zq_v 3), zq_ev r (zq_v 4), zq_ev r (zq_v 5)]) P h := zj_use hY (zq_okX_t hK)
  simp only [zq_ev_v, zq_ev_sub] at a1 a2 a3 a4 a5 a6 k0 m0
  obtain ⟨k1, k2, k3, k4, k5⟩ := k0
  obtain ⟨m1, m2, m3, m4, m5⟩ := m0
  have k4 : r 1 ≤ 400 := k4
  have k5 : r 2 = zt_cd (h (r 0).toNat) (r 1).toNat := k5
  have m5 : r 5 = zt_cd (h (r 3).toNat) (r 4).toNat := m5
  have e1 : r 4 = r 1 := by omega
  rw [e1] at m5
  have e2 : zt_cd (h (r 0).toNat) (r 1).toNat = zt_cd (h (r 3).toNat) (r 1).toNat := by omega
  have e3 := zt_cd_inj e2
  have e4 : zt_cd (h (r 0).toNat) (r 6).toNat = zt_cd (h (r 3).toNat) (r 6).toNat := zt_cd_cong (fun j x y => e3 j x (by omega))
  let r' := zq_up r 7 (zt_cd (h (r 0).toNat) (r 6).toNat)
  have f0 : ∀ i, i < 7 → r' i = r i := fun i hi => by
    match i, hi with
    | 0, _ => rfl
    | 1, _ => rfl
    | 2, _ => rfl
    | 3, _ => rfl
    | 4, _ => rfl
    | 5, _ => rfl
    | 6, _ => rfl
  have v0 : r' 0 = r 0 := rfl
  have v3 : r' 3 = r 3 := rfl
  have v6 : r' 6 = r 6 := rfl
  have v7 : r' 7 = zt_cd (h (r 0).toNat) (r 6).toNat := rfl
  refine ⟨_, List.mem_singleton.mpr rfl, r', fun i hi => f0 i hi, zq_MeS_mk rfl hT zq_all_nil zq_fan zq_fan rfl (List.forall_mem_cons.mpr ⟨(hX _ _ _).mpr ?_, zq_fa1 ((hY _ _ _).mpr ?_)⟩)⟩
  · show zt_TC ka (zq_en [zq_ev r' (zq_v 0), zq_ev r' (zq_v 6), zq_ev r' (zq_v 7)]) P h
    rw [zq_ev_v, zq_ev_v, zq_ev_v, v0, v6, v7]
    exact ⟨k1, k2, a5, by show r 6 ≤ 400; omega, rfl⟩
  · show zt_TC kb (zq_en [zq_ev r' (zq_v 3), zq_ev r' (zq_v 6), zq_ev r' (zq_v 7)]) P h
    rw [zq_ev_v, zq_ev_v, zq_ev_v, v3, v6, v7]
    exact ⟨m1, m2, a5, by show r 6 ≤ 400; omega, e4⟩
