/-! what the tokens of roads look at -/
noncomputable def zk_FX : zq_FX := [(190, [(40, 0, 3)]), (191, [(55, 0, 3)]), (192, [(70, 0, 3)]), (193, [(85, 0, 3)]), (194, [(40, 0, 3)]), (195, [(1, 17, 20)]), (196, [(2, 17, 20)]), (197, [(2, 5688, 5691)]), (209, [(1, 17, 20)]), (134, []), (198, []), (199, []), (200, []), (201, []), (202, []), (203, [(40, 0, 3), (55, 0, 3)]), (204, [(55, 0, 3), (40, 0, 3)]), (205, [(70, 0, 3), (40, 0, 3)]), (206, [(85, 0, 3), (40, 0, 3)]), (207, [(40, 0, 3), (70, 0, 3)]), (208, [(40, 0, 3), (85, 0, 3)])]
theorem zk_FXok {w : zq_Wd} {A0 : Nat → Nat} (hX : w.2.2.2.2 = zX A0) : zq_okFX w zk_FX := by
  intro x hx as P P' h h' hP hh ht
  rw [hX] at ht ⊢
  have g : ∀ (k : Nat) (lo hi : Int), (k, lo, hi) ∈ x.2 → ∀ a j, P a = some k → lo ≤ j → j ≤ hi → h' a j = h a j := fun k lo hi hm a j hp h1 h2 => hh a k j hp ⟨_, hm, rfl, h1, h2⟩
  rcases List.mem_cons.mp hx with rfl | hx
  · exact zn_RA_fx hP (fun j x y z => g 40 0 3 (by decide) _ _ z x y) ht
  rcases List.mem_cons.mp hx with rfl | hx
  · exact zn_RA_fx hP (fun j x y z => g 55 0 3 (by decide) _ _ z x y) ht
  rcases List.mem_cons.mp hx with rfl | hx
  · exact zn_RA_fx hP (fun j x y z => g 70 0 3 (by decide) _ _ z x y) ht
  rcases List.mem_cons.mp hx with rfl | hx
  · exact zn_RA_fx hP (fun j x y z => g 85 0 3 (by decide) _ _ z x y) ht
  rcases List.mem_cons.mp hx with rfl | hx
  · obtain ⟨a1, a2, a3⟩ := ht
    refine ⟨zn_on_le hP a1, a2, fun i p q r s => ?_⟩
    rw [← a3 i p q r s]
    exact g 40 0 3 (by decide) _ _ a1.2 p (by omega)
  rcases List.mem_cons.mp hx with rfl | hx
  · exact zn_KR_fx hP (fun j x y z => g 1 17 20 (by decide) _ _ z (by omega) (by omega)) ht
  rcases List.mem_cons.mp hx with rfl | hx
  · exact zn_KR_fx hP (fun j x y z => g 2 17 20 (by decide) _ _ z (by omega) (by omega)) ht
  rcases List.mem_cons.mp hx with rfl | hx
  · exact zn_KR_fx hP (fun j x y z => g 2 5688 5691 (by decide) _ _ z (by omega) (by omega)) ht
  rcases List.mem_cons.mp hx with rfl | hx
  · obtain ⟨a1, a2, a3⟩ := ht
    refine ⟨zn_on_le hP a1, a2, fun i p q r => ?_⟩
    rw [← a3 i p q r]
    exact g 1 17 20 (by decide) _ _ a1.2 (by omega) (by omega)
  rcases List.mem_cons.mp hx with rfl | hx
  · exact ht
  rcases List.mem_cons.mp hx with rfl | hx
  · exact ht
  rcases List.mem_cons.mp hx with rfl | hx
  · exact ht
  rcases List.mem_cons.mp hx with rfl | hx
  · exact ht
  rcases List.mem_cons.mp hx with rfl | hx
  · exact ht
  rcases List.mem_cons.mp hx with rfl | hx
  · exact ht
  rcases List.mem_cons.mp hx with rfl | hx
  · exact zj_EN_fx hP (fun j x y z => g 40 0 3 (by decide) _ _ z x (by have y : j < 4 := y; omega)) (fun j x y z => g 55 0 3 (by decide) _ _ z x (by have y : j < 4 := y; omega)) ht
  rcases List.mem_cons.mp hx with rfl | hx
  · exact zj_EN_fx hP (fun j x y z => g 55 0 3 (by decide) _ _ z x (by have y : j < 4 := y; omega)) (fun j x y z => g 40 0 3 (by decide) _ _ z x (by have y : j < 4 := y; omega)) ht
  rcases List.mem_cons.mp hx with rfl | hx
  · exact zj_EN_fx hP (fun j x y z => g 70 0 3 (by decide) _ _ z x (by have y : j < 4 := y; omega)) (fun j x y z => g 40 0 3 (by decide) _ _ z x (by have y : j < 4 := y; omega)) ht
  rcases List.mem_cons.mp hx with rfl | hx
  · exact zj_EN_fx hP (fun j x y z => g 85 0 3 (by decide) _ _ z x (by have y : j < 4 := y; omega)) (fun j x y z => g 40 0 3 (by decide) _ _ z x (by have y : j < 4 := y; omega)) ht
  rcases List.mem_cons.mp hx with rfl | hx
  · exact zj_EN_fx hP (fun j x y z => g 40 0 3 (by decide) _ _ z x (by have y : j < 4 := y; omega)) (fun j x y z => g 70 0 3 (by decide) _ _ z x (by have y : j < 4 := y; omega)) ht
  rcases List.mem_cons.mp hx with rfl | hx
  · exact zj_EN_fx hP (fun j x y z => g 40 0 3 (by decide) _ _ z x (by have y : j < 4 := y; omega)) (fun j x y z => g 85 0 3 (by decide) _ _ z x (by have y : j < 4 := y; omega)) ht
  · cases hx
noncomputable def zk_DX : zq_DXt := [(194, [(40, (0, []), (-1, [(2, 1)])), (40, (1, [(2, 1)]), (-1, [(3, 1)])), (40, (1, [(3, 1)]), (3, []))]), (209, [(1, (17, []), (16, [(2, 1)])), (1, (18, [(2, 1)]), (20, []))])]
theorem zk_DXok {w : zq_Wd} {A0 : Nat → Nat} (hX : w.2.2.2.2 = zX A0) : zq_okDX w zk_DX := by
  intro x hx as P h a k j v hP hh ht
  rw [hX] at ht ⊢
  have g : ∀ (kk : Nat) (lo hi : zq_L), (kk, lo, hi) ∈ x.2 → ∀ b i, P b = some kk → zq_ev (zq_en as) lo ≤ i → i ≤ zq_ev (zq_en as) hi → zq_wr h a j v b i = h b i := by
    intro kk lo hi hm b i hb h1 h2
    refine zq_wr_ne ?_
    rintro ⟨rfl, rfl⟩
    have e : k = kk := Option.some.inj (hP.symm.trans hb)
    have := hh _ hm e.symm
    simp only at this
    omega
  rcases List.mem_cons.mp hx with rfl | hx
  · exact zn_RH_fx (fun _ _ z => z) (fun j x y z => g 40 (0, []) (-1, [(2, 1)]) (by decide) _ _ z (by simp only [zq_ev, zq_ts] <;> omega) (by simp only [zq_ev, zq_ts] <;> omega)) (fun j x y z => g 40 (1, [(2, 1)]) (-1, [(3, 1)]) (by decide) _ _ z (by simp only [zq_ev, zq_ts] <;> omega) (by simp only [zq_ev, zq_ts] <;> omega)) (fun j x y z => g 40 (1, [(3, 1)]) (3, []) (by decide) _ _ z (by simp only [zq_ev, zq_ts] <;> omega) (by simp only [zq_ev, zq_ts] <;> omega)) ht
  rcases List.mem_cons.mp hx with rfl | hx
  · exact zn_KH_fx (fun _ _ z => z) (fun j x y z => g 1 (17, []) (16, [(2, 1)]) (by decide) _ _ z (by simp only [zq_ev, zq_ts] <;> omega) (by simp only [zq_ev, zq_ts] <;> omega)) (fun j x y z => g 1 (18, [(2, 1)]) (20, []) (by decide) _ _ z (by simp only [zq_ev, zq_ts] <;> omega) (by simp only [zq_ev, zq_ts] <;> omega)) ht
  · cases hx
