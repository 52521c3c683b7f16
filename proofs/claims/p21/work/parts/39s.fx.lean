/-! what the tokens of lexing and reading look at -/
theorem zu_at_le {g n k t : Int} (h : zu_at g n k t) (hn : n ≤ 400) : t ≤ 400 := by
  have h1 := h.2.2.2.1
  have h2 := zu_TL_len g n
  omega
theorem zu_SGC_le {st en g n i t : Int} {P : zq_Ty} {h : zq_H} (z : zu_SGC st en g n i t P h) : t ≤ 401 := by have := zu_at_le z.2.2.2.1 z.2.2.1; omega
theorem zu_SGN_le {st en g n i t k : Int} {P : zq_Ty} {h : zq_H} (z : zu_SGN st en g n i t k P h) : t ≤ 401 := by have := zu_at_le z.2.2.2.2.2.1 z.2.2.1; omega
theorem zu_SGO_le {st en g n i t k : Int} {P : zq_Ty} {h : zq_H} (z : zu_SGO st en g n i t k P h) : t ≤ 401 := zu_SGN_le z.1
theorem zu_SGD_le {st en g n t : Int} {P : zq_Ty} {h : zq_H} (z : zu_SGD st en g n t P h) : t ≤ 401 := by
  have h1 := z.2.2.2.2.1
  have h2 := zu_TL_len g n
  have h3 := z.2.2.1
  omega
theorem zu_NMD_le {co nu g n t : Int} {P : zq_Ty} {h : zq_H} (z : zu_NMD co nu g n t P h) : t ≤ 401 := by
  by_cases h0 : t ≤ 0
  · omega
  · obtain ⟨e, e1, -⟩ := z.2.2.2.2 (t - 1) (by omega) (by omega)
    obtain ⟨x1, -⟩ := List.getElem?_eq_some_iff.mp e1
    have h2 := zu_TL_len g n
    have h3 := z.2.2.1
    omega
theorem zu_SOF_le {co va pl g n k t : Int} {P : zq_Ty} {h : zq_H} (z : zu_SOF co va pl g n k t P h) : t ≤ 401 := by have := zu_at_le z.2.2.2.2.1 z.2.2.2.1; omega
theorem zu_WR_le {a t : Int} {P : zq_Ty} {h : zq_H} (z : zu_WR a t P h) : t ≤ 141 := z.2.2.1
noncomputable def zv_FX : zq_FX := [(100, [(97, 0, 400), (98, 0, 400)]), (101, [(97, 0, 400), (98, 0, 400)]), (102, [(97, 0, 400), (98, 0, 400)]), (103, [(97, 0, 400), (98, 0, 400)]), (104, [(96, 0, 400), (99, 0, 400)]), (105, [(96, 0, 400), (99, 0, 400), (97, 0, 400)]), (106, [(8, 0, 400), (9, 0, 400), (10, 0, 400)]), (107, [(8, 0, 400), (9, 0, 400), (10, 0, 400)]), (108, [(5, 0, 140)]), (109, []), (110, []), (111, []), (112, []), (113, []), (114, []), (115, []), (116, []), (117, []), (118, []), (119, []), (120, []), (121, []), (122, []), (123, []), (124, []), (125, [])]
theorem zv_FXok {w : zq_Wd} {A0 : Nat → Nat} (hX : w.2.2.2.2 = zX A0) : zq_okFX w zv_FX := by
  intro x hx as P P' h h' hP hh ht
  rw [hX] at ht ⊢
  have g : ∀ (k : Nat) (lo hi : Int), (k, lo, hi) ∈ x.2 → ∀ a j, P a = some k → lo ≤ j → j ≤ hi → h' a j = h a j := fun k lo hi hm a j hp h1 h2 => hh a k j hp ⟨_, hm, rfl, h1, h2⟩
  rcases List.mem_cons.mp hx with rfl | hx
  · have b := zu_SGC_le (show zu_SGC (zq_en as 0) (zq_en as 1) (zq_en as 2) (zq_en as 3) (zq_en as 4) (zq_en as 5) P h from ht)
    exact zu_SGC_fx hP (fun j x y z => g 97 0 400 (by decide) _ _ z x (by omega)) (fun j x y z => g 98 0 400 (by decide) _ _ z x (by omega)) ht
  rcases List.mem_cons.mp hx with rfl | hx
  · have b := zu_SGO_le (show zu_SGO (zq_en as 0) (zq_en as 1) (zq_en as 2) (zq_en as 3) (zq_en as 4) (zq_en as 5) (zq_en as 6) P h from ht)
    exact zu_SGO_fx hP (fun j x y z => g 97 0 400 (by decide) _ _ z x (by omega)) (fun j x y z => g 98 0 400 (by decide) _ _ z x (by omega)) ht
  rcases List.mem_cons.mp hx with rfl | hx
  · have b := zu_SGN_le (show zu_SGN (zq_en as 0) (zq_en as 1) (zq_en as 2) (zq_en as 3) (zq_en as 4) (zq_en as 5) (zq_en as 6) P h from ht)
    exact zu_SGN_fx hP (fun j x y z => g 97 0 400 (by decide) _ _ z x (by omega)) (fun j x y z => g 98 0 400 (by decide) _ _ z x (by omega)) ht
  rcases List.mem_cons.mp hx with rfl | hx
  · have b := zu_SGD_le (show zu_SGD (zq_en as 0) (zq_en as 1) (zq_en as 2) (zq_en as 3) (zq_en as 4) P h from ht)
    exact zu_SGD_fx hP (fun j x y z => g 97 0 400 (by decide) _ _ z x (by omega)) (fun j x y z => g 98 0 400 (by decide) _ _ z x (by omega)) ht
  rcases List.mem_cons.mp hx with rfl | hx
  · have b := zu_NMD_le (show zu_NMD (zq_en as 0) (zq_en as 1) (zq_en as 2) (zq_en as 3) (zq_en as 4) P h from ht)
    exact zu_NMD_fx hP (fun j x y z => g 96 0 400 (by decide) _ _ z x (by omega)) (fun j x y z => g 99 0 400 (by decide) _ _ z x (by omega)) ht
  rcases List.mem_cons.mp hx with rfl | hx
  · exact zu_LX_fx (M := zu_mp) (E := 31) (co := zq_en as 0) (va := zq_en as 1) (pl := zq_en as 2) (g := zq_en as 3) (n := zq_en as 4) (t := zq_en as 5) hP (fun j x y z => g 96 0 400 (by decide) _ _ z x y) (fun j x y z => g 99 0 400 (by decide) _ _ z x y) (fun j x y z => g 97 0 400 (by decide) _ _ z x y) ht
  rcases List.mem_cons.mp hx with rfl | hx
  · have b := zu_SOF_le (show zu_SOF (zq_en as 0) (zq_en as 1) (zq_en as 2) (zq_en as 3) (zq_en as 4) (zq_en as 5) (zq_en as 6) P h from ht)
    exact zu_SOF_fx hP (fun j x y z => g 8 0 400 (by decide) _ _ z x (by omega)) (fun j x y z => g 9 0 400 (by decide) _ _ z x (by omega)) (fun j x y z => g 10 0 400 (by decide) _ _ z x (by omega)) ht
  rcases List.mem_cons.mp hx with rfl | hx
  · exact zu_LX_fx (M := (fun c => c)) (E := 0) (co := zq_en as 0) (va := zq_en as 1) (pl := zq_en as 2) (g := zq_en as 3) (n := zq_en as 4) (t := zq_en as 5) hP (fun j x y z => g 8 0 400 (by decide) _ _ z x y) (fun j x y z => g 9 0 400 (by decide) _ _ z x y) (fun j x y z => g 10 0 400 (by decide) _ _ z x y) ht
  rcases List.mem_cons.mp hx with rfl | hx
  · have b := zu_WR_le (show zu_WR (zq_en as 0) (zq_en as 1) P h from ht)
    exact zu_WR_fx hP (fun j x y z => g 5 0 140 (by decide) _ _ z x (by omega)) ht
  rcases List.mem_cons.mp hx with rfl | hx
  · exact ht
  rcases List.mem_cons.mp hx with rfl | hx
  · exact ht
  rcases List.mem_cons.mp hx with rfl | hx
  · exact ht
  rcases List.mem_cons.mp hx with rfl | hx
  · exact ht
  rcases List.mem_cons.mp hx with rfl | hx
  · exact ht
  rcases List.mem_cons.mp hx with rfl | hx
  · exact ht
  rcases List.mem_cons.mp hx with rfl | hx
  · exact ht
  rcases List.mem_cons.mp hx with rfl | hx
  · exact ht
  rcases List.mem_cons.mp hx with rfl | hx
  · exact ht
  rcases List.mem_cons.mp hx with rfl | hx
  · exact ht
  rcases List.mem_cons.mp hx with rfl | hx
  · exact ht
  rcases List.mem_cons.mp hx with rfl | hx
  · exact ht
  rcases List.mem_cons.mp hx with rfl | hx
  · exact ht
  rcases List.mem_cons.mp hx with rfl | hx
  · exact ht
  rcases List.mem_cons.mp hx with rfl | hx
  · exact ht
  rcases List.mem_cons.mp hx with rfl | hx
  · exact ht
  rcases List.mem_cons.mp hx with rfl | hx
  · exact ht
  · cases hx
noncomputable def zv_DX : zq_DXt := [(100, [(97, (0, []), (-1, [(5, 1)])), (98, (0, []), (-1, [(5, 1)]))]), (101, [(97, (0, []), (-1, [(5, 1)])), (98, (0, []), (-1, [(5, 1)]))]), (102, [(97, (0, []), (-1, [(5, 1)])), (98, (0, []), (-2, [(5, 1)]))]), (103, [(97, (0, []), (-1, [(4, 1)])), (98, (0, []), (-1, [(4, 1)]))]), (104, [(96, (0, []), (-1, [(4, 1)])), (99, (0, []), (-1, [(4, 1)]))]), (106, [(8, (0, []), (-1, [(6, 1)])), (9, (0, []), (-1, [(6, 1)])), (10, (0, []), (-1, [(6, 1)]))]), (108, [(5, (0, []), (-1, [(1, 1)]))])]
theorem zv_DXok {w : zq_Wd} {A0 : Nat → Nat} (hX : w.2.2.2.2 = zX A0) : zq_okDX w zv_DX := by
  intro x hx as P h a k j v hP hh ht
  rw [hX] at ht ⊢
  have g : ∀ (kk : Nat) (lo hi : zq_L), (kk, lo, hi) ∈ x.2 → ∀ b i, P b = some kk → zq_ev (zq_en as) lo ≤ i → i ≤ zq_ev (zq_en as) hi → zq_wr h a j v b i = h b i := by
    intro kk lo hi hm b i hb h1 h2
    refine zq_wr_ne ?_
    rintro ⟨rfl, rfl⟩
    have e : k = kk := Option.some.inj (hP.symm.trans hb)
    have := hh _ hm e.symm
    simp only at this
    omega
  rcases List.mem_cons.mp hx with rfl | hx
  · exact zu_SGC_fx (fun _ _ z => z) (fun j x y z => g 97 (0, []) (-1, [(5, 1)]) (by decide) _ _ z (by simp only [zq_ev, zq_ts] <;> omega) (by simp only [zq_ev, zq_ts] <;> omega)) (fun j x y z => g 98 (0, []) (-1, [(5, 1)]) (by decide) _ _ z (by simp only [zq_ev, zq_ts] <;> omega) (by simp only [zq_ev, zq_ts] <;> omega)) ht
  rcases List.mem_cons.mp hx with rfl | hx
  · exact zu_SGO_fx (fun _ _ z => z) (fun j x y z => g 97 (0, []) (-1, [(5, 1)]) (by decide) _ _ z (by simp only [zq_ev, zq_ts] <;> omega) (by simp only [zq_ev, zq_ts] <;> omega)) (fun j x y z => g 98 (0, []) (-1, [(5, 1)]) (by decide) _ _ z (by simp only [zq_ev, zq_ts] <;> omega) (by simp only [zq_ev, zq_ts] <;> omega)) ht
  rcases List.mem_cons.mp hx with rfl | hx
  · exact zu_SGN_fx (fun _ _ z => z) (fun j x y z => g 97 (0, []) (-1, [(5, 1)]) (by decide) _ _ z (by simp only [zq_ev, zq_ts] <;> omega) (by simp only [zq_ev, zq_ts] <;> omega)) (fun j x y z => g 98 (0, []) (-2, [(5, 1)]) (by decide) _ _ z (by simp only [zq_ev, zq_ts] <;> omega) (by simp only [zq_ev, zq_ts] <;> omega)) ht
  rcases List.mem_cons.mp hx with rfl | hx
  · exact zu_SGD_fx (fun _ _ z => z) (fun j x y z => g 97 (0, []) (-1, [(4, 1)]) (by decide) _ _ z (by simp only [zq_ev, zq_ts] <;> omega) (by simp only [zq_ev, zq_ts] <;> omega)) (fun j x y z => g 98 (0, []) (-1, [(4, 1)]) (by decide) _ _ z (by simp only [zq_ev, zq_ts] <;> omega) (by simp only [zq_ev, zq_ts] <;> omega)) ht
  rcases List.mem_cons.mp hx with rfl | hx
  · exact zu_NMD_fx (fun _ _ z => z) (fun j x y z => g 96 (0, []) (-1, [(4, 1)]) (by decide) _ _ z (by simp only [zq_ev, zq_ts] <;> omega) (by simp only [zq_ev, zq_ts] <;> omega)) (fun j x y z => g 99 (0, []) (-1, [(4, 1)]) (by decide) _ _ z (by simp only [zq_ev, zq_ts] <;> omega) (by simp only [zq_ev, zq_ts] <;> omega)) ht
  rcases List.mem_cons.mp hx with rfl | hx
  · exact zu_SOF_fx (fun _ _ z => z) (fun j x y z => g 8 (0, []) (-1, [(6, 1)]) (by decide) _ _ z (by simp only [zq_ev, zq_ts] <;> omega) (by simp only [zq_ev, zq_ts] <;> omega)) (fun j x y z => g 9 (0, []) (-1, [(6, 1)]) (by decide) _ _ z (by simp only [zq_ev, zq_ts] <;> omega) (by simp only [zq_ev, zq_ts] <;> omega)) (fun j x y z => g 10 (0, []) (-1, [(6, 1)]) (by decide) _ _ z (by simp only [zq_ev, zq_ts] <;> omega) (by simp only [zq_ev, zq_ts] <;> omega)) ht
  rcases List.mem_cons.mp hx with rfl | hx
  · exact zu_WR_fx (fun _ _ z => z) (fun j x y z => g 5 (0, []) (-1, [(1, 1)]) (by decide) _ _ z (by simp only [zq_ev, zq_ts] <;> omega) (by simp only [zq_ev, zq_ts] <;> omega)) ht
  · cases hx
