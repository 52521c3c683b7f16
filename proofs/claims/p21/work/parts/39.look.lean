/-! FACTS about tokens -/
theorem zq_MeS_mk {w : zq_Wd} {r : Nat → Int} {P : zq_Ty} {h : zq_H} {H : Heap} {S : zq_S} (hwf : zq_wf S = true) (h1 : zq_HT w P h H) (h2 : zq_all r S.2.2.1) (h3 : ∀ x ∈ S.2.2.2.1, ∀ a : Nat, zq_ev r x.1 = (a : Int) → P a = some x.2) (h4 : ∀ x ∈ S.2.2.2.2.1, ∃ a : Nat, zq_ev r x.1 = (a : Int) ∧ P a ≠ none ∧ h a (zq_ev r x.2.1) = zq_ev r x.2.2) (h5 : S.2.2.2.2.2.1 = []) (h6 : ∀ x ∈ S.2.2.2.2.2.2.1, w.2.2.2.2 x.1 (x.2.map (zq_ev r)) P h) : zq_MeS w r P h H S := by
  obtain ⟨loc, stk, C, F, sto, raw, tok, n⟩ := S
  simp only at h2 h3 h4 h5 h6
  subst h5
  simp only [zq_wf, Bool.and_eq_true, List.all_eq_true] at hwf
  obtain ⟨-, -, w3, w4, w5, -, w7⟩ := hwf
  exact ⟨h1, ⟨h2, w3⟩, fun x hx => ⟨w4 x hx, h3 x hx⟩, fun x hx => ⟨(w5 x hx).1, (w5 x hx).2.1, (w5 x hx).2.2, h4 x hx⟩, zq_okR_nil, fun x hx => ⟨w7 x hx, h6 x hx⟩⟩
theorem zq_all_app {r : Nat → Int} {A B : List zq_L} (h1 : zq_all r A) (h2 : zq_all r B) : zq_all r (A ++ B) := fun c hc => (List.mem_append.mp hc).elim (h1 c) (h2 c)
theorem zq_all_bif {r : Nat → Int} {A : List zq_L} {c : Bool} (h : c = true → zq_all r A) : zq_all r (bif c then A else []) := by
  cases c with
  | true => exact h rfl
  | false => exact zq_all_nil
theorem zq_fa1 {α : Type} {p : α → Prop} {a : α} (h : p a) : ∀ x ∈ [a], p x := fun x hx => by rw [List.mem_singleton.mp hx]; exact h
theorem zq_fan {α : Type} {p : α → Prop} : ∀ x ∈ ([] : List α), p x := fun x hx => by cases hx
/-- the token 1 over variables: 0 kept, 1 from, 2 to, 3 orders, 4 place, 5 (, 6 [ -/
noncomputable def zx_tk (p x : zq_L) (m : Nat) (a b : zq_L) : Nat × List zq_L := (1, [zq_v 0, p, zq_v 2, zq_v 3, x, zq_k m, a, b])
noncomputable def zx_grd (G : zx_Gd) : List zq_L := [zq_addk (zq_v 3) (-G.1.1), zq_sub (zq_k G.1.2) (zq_v 3), zq_addk (zq_v 4) (-G.2.1.1), zq_sub (zq_k G.2.1.2) (zq_v 4), zq_addk (zq_v 5) (-G.2.2.1.1), zq_sub (zq_k G.2.2.1.2) (zq_v 5), zq_addk (zq_v 6) (-G.2.2.2.1), zq_sub (zq_k G.2.2.2.2) (zq_v 6)]
noncomputable def zx_xL (x : Int) : zq_L := bif decide (0 ≤ x) then zq_k x else zq_v 4
theorem zx_grd_ok {G : zx_Gd} {r : Nat → Int} {m : Nat} (h : zq_all r (zx_grd G)) : zx_gd G (r 3, r 4, m, r 5, r 6) := by
  have a1 := h _ (List.mem_cons_self ..)
  have a2 := h _ (List.mem_cons_of_mem _ (List.mem_cons_self ..))
  have a3 := h _ (List.mem_cons_of_mem _ (List.mem_cons_of_mem _ (List.mem_cons_self ..)))
  have a4 := h _ (List.mem_cons_of_mem _ (List.mem_cons_of_mem _ (List.mem_cons_of_mem _ (List.mem_cons_self ..))))
  have a5 := h _ (List.mem_cons_of_mem _ (List.mem_cons_of_mem _ (List.mem_cons_of_mem _ (List.mem_cons_of_mem _ (List.mem_cons_self ..)))))
  have a6 := h _ (List.mem_cons_of_mem _ (List.mem_cons_of_mem _ (List.mem_cons_of_mem _ (List.mem_cons_of_mem _ (List.mem_cons_of_mem _ (List.mem_cons_self ..))))))
  have a7 := h _ (List.mem_cons_of_mem _ (List.mem_cons_of_mem _ (List.mem_cons_of_mem _ (List.mem_cons_of_mem _ (List.mem_cons_of_mem _ (List.mem_cons_of_mem _ (List.mem_cons_self ..)))))))
  have a8 := h _ (List.mem_cons_of_mem _ (List.mem_cons_of_mem _ (List.mem_cons_of_mem _ (List.mem_cons_of_mem _ (List.mem_cons_of_mem _ (List.mem_cons_of_mem _ (List.mem_cons_of_mem _ (List.mem_cons_self ..))))))))
  simp only [zq_ev_addk, zq_ev_sub, zq_ev_v, zq_ev_k] at a1 a2 a3 a4 a5 a6 a7 a8
  exact ⟨by show G.1.1 ≤ r 3; omega, by show r 3 ≤ _; omega, by show _ ≤ r 4; omega, by show r 4 ≤ _; omega, by show _ ≤ r 5; omega, by show r 5 ≤ _; omega, by show _ ≤ r 6; omega, by show r 6 ≤ _; omega⟩
noncomputable def zx_lpre (G : zx_Gd) (m : Nat) : zq_S := ([], [], zq_sub (zq_v 2) (zq_v 1) :: zx_grd G, [], [], [], [zx_tk (zq_v 1) (zq_v 4) m (zq_v 5) (zq_v 6)], 7)
noncomputable def zx_lop (t : zx_R) : zq_S := ([], [], zq_addk (zq_sub (zq_v 2) (zq_v 1)) (-1) :: zq_addk (zq_v 7) (-t.1.1) :: zq_sub (zq_k t.1.2) (zq_v 7) :: zq_addk (zq_v 5) (-t.2.2.2.1.1) :: zq_sub (zq_k t.2.2.2.1.2.1) (zq_v 5) :: zq_addk (zq_v 6) (-t.2.2.2.1.2.2.1) :: zq_sub (zq_k t.2.2.2.1.2.2.2.1) (zq_v 6) :: zq_sub (zq_k t.2.2.2.1.2.2.2.2) (zq_add (zq_v 5) (zq_v 6)) :: ((bif t.2.1.1 then [zq_addk (zq_v 8) (-t.2.1.2.1), zq_sub (zq_k t.2.1.2.2) (zq_v 8)] else []) ++ ((bif decide (0 ≤ t.2.2.1.1) then [zq_addk (zq_v 4) (-t.2.2.1.1), zq_sub (zq_k t.2.2.1.1) (zq_v 4)] else []) ++ (bif decide (0 ≤ t.2.2.1.2) then [zq_addk (zq_v 3) (-t.2.2.1.2), zq_sub (zq_k t.2.2.1.2) (zq_v 3)] else []))),
  [], (zq_v 0, zq_addk (zq_v 1) 71, zq_v 7) :: (bif t.2.1.1 then [(zq_v 0, zq_addk (zq_v 1) 2871, zq_v 8)] else []), [], [zx_tk (zq_addk (zq_v 1) 1) (zx_xL t.2.2.2.2.1) t.2.2.2.2.2.1 (zq_addk (zq_v 5) t.2.2.2.2.2.2.1) (zq_addk (zq_v 6) t.2.2.2.2.2.2.2)], 9)
noncomputable def zx_lgap (x : Int) (m2 : Nat) (g : Int × Int) : zq_S := ([], [], [zq_addk (zq_sub (zq_v 2) (zq_v 1)) (-1), zq_addk (zq_v 7) (-g.1), zq_sub (zq_k g.2) (zq_v 7)], [], [(zq_v 0, zq_addk (zq_v 1) 71, zq_v 7)], [], [zx_tk (zq_v 1) (zx_xL x) m2 (zq_v 5) (zq_v 6)], 8)
noncomputable def zx_lend (x : Int) (m2 : Nat) : zq_S := ([], [], [zq_sub (zq_v 1) (zq_v 2), zq_neg (zq_v 5), zq_neg (zq_v 6)], [], [], [], [zx_tk (zq_v 1) (zx_xL x) m2 (zq_v 5) (zq_v 6)], 7)
noncomputable def zx_look (G : zx_Gd) (m : Nat) (x : Int) (m2 : Nat) (ops : List zx_R) (gaps : List (Int × Int)) (en : Bool) : zq_S × List zq_S := (zx_lpre G m, ops.map zx_lop ++ (gaps.map (zx_lgap x m2) ++ (bif en then [zx_lend x m2] else [])))
theorem zx_tk_wf {n : Nat} {p a b : zq_L} {x : Int} {m : Nat} (hn : 7 ≤ n) (hp : zq_bd n p = true) (ha : zq_bd n a = true) (hb : zq_bd n b = true) : ([zx_tk p (zx_xL x) m a b].all (fun y => y.2.all (zq_bd n))) = true := by
  have hv : ∀ i, i < 7 → zq_bd n (zq_v i) = true := fun i hi => by simp only [zq_bd, zq_v, zq_bdT_n, zq_bdT_c, Bool.and_true]; simp [Nat.blt_eq]; omega
  have hx : zq_bd n (zx_xL x) = true := by
    unfold zx_xL
    cases decide (0 ≤ x)
    · exact hv 4 (by omega)
    · rfl
  simp only [List.all_cons, List.all_nil, Bool.and_true, zx_tk, hv 0 (by omega), hv 2 (by omega), hv 3 (by omega), hp, ha, hb, hx, Bool.true_and]
  rfl
theorem zx_lpre_wf {G : zx_Gd} {m : Nat} : zq_wf (zx_lpre G m) = true := rfl
theorem zx_lop_wf {t : zx_R} : zq_wf (zx_lop t) = true := by
  unfold zq_wf zx_lop
  simp only [List.all_append, List.all_cons, Bool.and_eq_true]
  have hx : zq_bd 9 (zx_xL t.2.2.2.2.1) = true := by unfold zx_xL; cases decide (0 ≤ t.2.2.2.2.1) <;> rfl
  refine ⟨rfl, rfl, ?_, rfl, ⟨⟨rfl, rfl, rfl⟩, by cases t.2.1.1 <;> rfl⟩, rfl, ?_⟩
  · refine ⟨rfl, rfl, rfl, rfl, rfl, rfl, rfl, rfl, ?_, ?_, ?_⟩
    · cases t.2.1.1 <;> rfl
    · cases decide (0 ≤ t.2.2.1.1) <;> rfl
    · cases decide (0 ≤ t.2.2.1.2) <;> rfl
  · exact ⟨by simp only [zx_tk, List.all_cons, List.all_nil, Bool.and_true, hx, Bool.true_and]; rfl, rfl⟩
theorem zx_lgap_wf {x : Int} {m2 : Nat} {g : Int × Int} : zq_wf (zx_lgap x m2 g) = true := by
  have hx : zq_bd 8 (zx_xL x) = true := by unfold zx_xL; cases decide (0 ≤ x) <;> rfl
  unfold zq_wf zx_lgap
  simp only [zx_tk, List.all_cons, List.all_nil, Bool.and_true, hx, Bool.true_and]; rfl
theorem zx_lend_wf {x : Int} {m2 : Nat} : zq_wf (zx_lend x m2) = true := by
  have hx : zq_bd 7 (zx_xL x) = true := by unfold zx_xL; cases decide (0 ≤ x) <;> rfl
  unfold zq_wf zx_lend
  simp only [zx_tk, List.all_cons, List.all_nil, Bool.and_true, hx, Bool.true_and]; rfl
theorem zx_xL_ev {x : Int} {r : Nat → Int} : zq_ev r (zx_xL x) = (bif decide (0 ≤ x) then x else r 4) := by
  unfold zx_xL
  cases decide (0 ≤ x)
  · exact zq_ev_v r 4
  · exact zq_ev_k r x
/-- the token's truth from its parts -/
theorem zx_tk_mk {w : zq_Wd} {A0 : Nat → Nat} (hX : w.2.2.2.2 = zX A0) {r : Nat → Int} {P : zq_Ty} {h : zq_H} {p x : zq_L} {m : Nat} {a b : zq_L} (k1 : 0 ≤ r 0) (k2 : P (r 0).toNat = some 1) (k3 : 0 ≤ zq_ev r p) (k4 : r 2 ≤ 2800) (k5 : zx_suf (fun j => h (r 0).toNat (71 + j)) (fun j => h (r 0).toNat (2871 + j)) (zq_ev r p) (r 2) (r 3, zq_ev r x, m, zq_ev r a, zq_ev r b)) : ∀ y ∈ [zx_tk p x m a b], w.2.2.2.2 y.1 (y.2.map (zq_ev r)) P h := by
  refine zq_fa1 ?_
  rw [hX]
  show zx_1 (zq_en [zq_ev r (zq_v 0), zq_ev r p, zq_ev r (zq_v 2), zq_ev r (zq_v 3), zq_ev r x, zq_ev r (zq_k m), zq_ev r a, zq_ev r b]) P h
  rw [zq_ev_v, zq_ev_v, zq_ev_v, zq_ev_k]
  exact ⟨k1, k2, k3, k4, k5⟩
theorem zx_tk_use {w : zq_Wd} {A0 : Nat → Nat} (hX : w.2.2.2.2 = zX A0) {r : Nat → Int} {P : zq_Ty} {h : zq_H} {n m : Nat} (hx : zq_okX w r P h n [zx_tk (zq_v 1) (zq_v 4) m (zq_v 5) (zq_v 6)]) : 0 ≤ r 0 ∧ P (r 0).toNat = some 1 ∧ 0 ≤ r 1 ∧ r 2 ≤ 2800 ∧ zx_suf (fun j => h (r 0).toNat (71 + j)) (fun j => h (r 0).toNat (2871 + j)) (r 1) (r 2) (r 3, r 4, m, r 5, r 6) := by
  have h0 := (hx _ (List.mem_cons_self ..)).2
  rw [hX] at h0
  have h1 : zx_1 (zq_en [zq_ev r (zq_v 0), zq_ev r (zq_v 1), zq_ev r (zq_v 2), zq_ev r (zq_v 3), zq_ev r (zq_v 4), zq_ev r (zq_k m), zq_ev r (zq_v 5), zq_ev r (zq_v 6)]) P h := h0
  rw [zq_ev_v, zq_ev_v, zq_ev_v, zq_ev_v, zq_ev_v, zq_ev_v, zq_ev_v, zq_ev_k] at h1
  exact h1
theorem zx_look_ok {w : zq_Wd} {A0 : Nat → Nat} (hX : w.2.2.2.2 = zX A0) {G : zx_Gd} {m : Nat} {x : Int} {m2 : Nat} {ops : List zx_R} {gaps : List (Int × Int)} {en : Bool} (hck : zx_ckl G m x m2 ops gaps en = true) : zq_okG1 w (zx_look G m x m2 ops gaps en) := by
  refine ⟨zx_lpre_wf, rfl, ?_, ?_⟩
  · intro po hpo
    rcases List.mem_append.mp hpo with hpo | hpo
    · obtain ⟨t, -, rfl⟩ := List.mem_map.mp hpo
      exact ⟨zx_lop_wf, by show 7 ≤ 9; omega⟩
    rcases List.mem_append.mp hpo with hpo | hpo
    · obtain ⟨g, -, rfl⟩ := List.mem_map.mp hpo
      exact ⟨zx_lgap_wf, by show 7 ≤ 8; omega⟩
    · cases en with
      | true => rw [List.mem_singleton.mp hpo]; exact ⟨zx_lend_wf, Nat.le_refl _⟩
      | false => cases hpo
  · intro r P h H hM
    obtain ⟨hT, hC, -, -, -, hK⟩ := hM
    obtain ⟨k1, k2, k3, k4, k5⟩ := zx_tk_use hX hK
    have hpe : r 1 ≤ r 2 := by
      have := hC.1 _ (List.mem_cons_self ..)
      rw [zq_ev_sub, zq_ev_v, zq_ev_v] at this; omega
    have hgd := zx_grd_ok (m := m) (fun c hc => hC.1 c (List.mem_cons_of_mem _ hc))
    rcases zx_ckl_ok (q := (r 3, r 4, m, r 5, r 6)) hck hgd hpe k5 with ⟨t, ht, hp, hf, hs⟩ | ⟨g, hg, hp, g1, g2, hs⟩ | ⟨hen, hp, e1, e2, hs⟩
    · let r' := zq_up (zq_up r 7 (h (r 0).toNat (71 + r 1))) 8 (h (r 0).toNat (2871 + r 1))
      have f0 : ∀ i, i < 7 → r' i = r i := fun i hi => by
        match i, hi with
        | 0, _ => rfl
        | 1, _ => rfl
        | 2, _ => rfl
        | 3, _ => rfl
        | 4, _ => rfl
        | 5, _ => rfl
        | 6, _ => rfl
      have f7 : r' 7 = h (r 0).toNat (71 + r 1) := rfl
      have f8 : r' 8 = h (r 0).toNat (2871 + r 1) := rfl
      have v0 : r' 0 = r 0 := rfl
      have v1 : r' 1 = r 1 := rfl
      have v2 : r' 2 = r 2 := rfl
      have v3 : r' 3 = r 3 := rfl
      have v4 : r' 4 = r 4 := rfl
      have v5 : r' 5 = r 5 := rfl
      have v6 : r' 6 = r 6 := rfl
      obtain ⟨q1, q2, q3, q4, q5, q6, q7, q8, q9, q10⟩ := hf
      simp only at q1 q2 q3 q4 q5 q6 q7 q8 q9 q10
      refine ⟨_, List.mem_append_left _ (List.mem_map.mpr ⟨t, ht, rfl⟩), r', fun i hi => f0 i hi, zq_MeS_mk zx_lop_wf hT ?_ (fun y hy => by cases hy) ?_ rfl ?_⟩
      · refine zq_all_cons ?_ (zq_all_cons ?_ (zq_all_cons ?_ (zq_all_cons ?_ (zq_all_cons ?_ (zq_all_cons ?_ (zq_all_cons ?_ (zq_all_cons ?_ (zq_all_app (zq_all_bif fun z => zq_all_cons ?_ (zq_all_cons ?_ zq_all_nil)) (zq_all_app (zq_all_bif fun z => zq_all_cons ?_ (zq_all_cons ?_ zq_all_nil)) (zq_all_bif fun z => zq_all_cons ?_ (zq_all_cons ?_ zq_all_nil)))))))))))
        · rw [zq_ev_addk, zq_ev_sub, zq_ev_v, zq_ev_v, v1, v2]; omega
        · rw [zq_ev_addk, zq_ev_v, f7]; omega
        · rw [zq_ev_sub, zq_ev_k, zq_ev_v, f7]; omega
        · rw [zq_ev_addk, zq_ev_v, v5]; omega
        · rw [zq_ev_sub, zq_ev_k, zq_ev_v, v5]; omega
        · rw [zq_ev_addk, zq_ev_v, v6]; omega
        · rw [zq_ev_sub, zq_ev_k, zq_ev_v, v6]; omega
        · rw [zq_ev_sub, zq_ev_k, zq_ev_add, zq_ev_v, zq_ev_v, v5, v6]; omega
        · have := q3 z; rw [zq_ev_addk, zq_ev_v, f8]; omega
        · have := q3 z; rw [zq_ev_sub, zq_ev_k, zq_ev_v, f8]; omega
        · have := q4 (of_decide_eq_true z); rw [zq_ev_addk, zq_ev_v, v4]; omega
        · have := q4 (of_decide_eq_true z); rw [zq_ev_sub, zq_ev_k, zq_ev_v, v4]; omega
        · have := q5 (of_decide_eq_true z); rw [zq_ev_addk, zq_ev_v, v3]; omega
        · have := q5 (of_decide_eq_true z); rw [zq_ev_sub, zq_ev_k, zq_ev_v, v3]; omega
      · refine List.forall_mem_cons.mpr ⟨⟨(r 0).toNat, ?_, by rw [k2]; exact Option.some_ne_none _, ?_⟩, ?_⟩
        · show zq_ev r' (zq_v 0) = _; rw [zq_ev_v, v0]; omega
        · show h _ (zq_ev r' (zq_addk (zq_v 1) 71)) = zq_ev r' (zq_v 7); rw [zq_ev_addk, zq_ev_v, zq_ev_v, v1, f7, Int.add_comm]
        cases t.2.1.1 with
        | false => exact zq_fan
        | true =>
        refine zq_fa1 ⟨(r 0).toNat, ?_, by rw [k2]; exact Option.some_ne_none _, ?_⟩
        · show zq_ev r' (zq_v 0) = _; rw [zq_ev_v, v0]; omega
        · show h _ (zq_ev r' (zq_addk (zq_v 1) 2871)) = zq_ev r' (zq_v 8); rw [zq_ev_addk, zq_ev_v, zq_ev_v, v1, f8, Int.add_comm]
      · refine zx_tk_mk hX (by rw [v0]; exact k1) (by rw [v0]; exact k2) (by rw [zq_ev_addk, zq_ev_v, v1]; omega) (by rw [v2]; exact k4) ?_
        rw [zq_ev_addk, zq_ev_addk, zq_ev_addk, zq_ev_v, zq_ev_v, zq_ev_v, zx_xL_ev, v0, v1, v2, v3, v4, v5, v6]
        exact hs
    · let r' := zq_up r 7 (h (r 0).toNat (71 + r 1))
      have f0 : ∀ i, i < 7 → r' i = r i := fun i hi => by
        match i, hi with
        | 0, _ => rfl
        | 1, _ => rfl
        | 2, _ => rfl
        | 3, _ => rfl
        | 4, _ => rfl
        | 5, _ => rfl
        | 6, _ => rfl
      have f7 : r' 7 = h (r 0).toNat (71 + r 1) := rfl
      have v0 : r' 0 = r 0 := rfl
      have v1 : r' 1 = r 1 := rfl
      have v2 : r' 2 = r 2 := rfl
      have v3 : r' 3 = r 3 := rfl
      have v4 : r' 4 = r 4 := rfl
      have v5 : r' 5 = r 5 := rfl
      have v6 : r' 6 = r 6 := rfl
      refine ⟨_, List.mem_append_right _ (List.mem_append_left _ (List.mem_map.mpr ⟨g, hg, rfl⟩)), r', fun i hi => f0 i hi, zq_MeS_mk zx_lgap_wf hT ?_ (fun y hy => by cases hy) ?_ rfl ?_⟩
      · refine zq_all_cons ?_ (zq_all_cons ?_ (zq_all_cons ?_ zq_all_nil))
        · rw [zq_ev_addk, zq_ev_sub, zq_ev_v, zq_ev_v, v1, v2]; omega
        · rw [zq_ev_addk, zq_ev_v, f7]; omega
        · rw [zq_ev_sub, zq_ev_k, zq_ev_v, f7]; omega
      · refine zq_fa1 ⟨(r 0).toNat, ?_, by rw [k2]; exact Option.some_ne_none _, ?_⟩
        · show zq_ev r' (zq_v 0) = _; rw [zq_ev_v, v0]; omega
        · show h _ (zq_ev r' (zq_addk (zq_v 1) 71)) = zq_ev r' (zq_v 7); rw [zq_ev_addk, zq_ev_v, zq_ev_v, v1, f7, Int.add_comm]
      · refine zx_tk_mk hX (by rw [v0]; exact k1) (by rw [v0]; exact k2) (by rw [zq_ev_v, v1]; exact k3) (by rw [v2]; exact k4) ?_
        rw [zq_ev_v, zq_ev_v, zq_ev_v, zx_xL_ev, v0, v1, v2, v3, v4, v5, v6]
        exact hs
    · subst hen
      refine ⟨_, List.mem_append_right _ (List.mem_append_right _ (List.mem_singleton.mpr rfl)), r, fun _ _ => rfl, zq_MeS_mk zx_lend_wf hT ?_ (fun y hy => by cases hy) (fun y hy => by cases hy) rfl ?_⟩
      · have e1 : r 5 = 0 := e1
        have e2 : r 6 = 0 := e2
        refine zq_all_cons ?_ (zq_all_cons ?_ (zq_all_cons ?_ zq_all_nil))
        · rw [zq_ev_sub, zq_ev_v, zq_ev_v]; omega
        · rw [zq_ev_neg, zq_ev_v]; omega
        · rw [zq_ev_neg, zq_ev_v]; omega
      · refine zx_tk_mk hX k1 k2 (by rw [zq_ev_v]; exact k3) k4 ?_
        rw [zq_ev_v, zq_ev_v, zq_ev_v, zx_xL_ev]
        exact hs
/-- another state that allows all that this one does -/
noncomputable def zx_ren (G : zx_Gd) (m : Nat) (x : Int) (m2 : Nat) : zq_S × List zq_S := (([], [], zx_grd G, [], [], [], [zx_tk (zq_v 1) (zq_v 4) m (zq_v 5) (zq_v 6)], 7), [([], [], [], [], [], [], [zx_tk (zq_v 1) (zx_xL x) m2 (zq_v 5) (zq_v 6)], 7)])
theorem zx_ren_ok {w : zq_Wd} {A0 : Nat → Nat} (hX : w.2.2.2.2 = zX A0) {G : zx_Gd} {m : Nat} {x : Int} {m2 : Nat} (hck : zx_ckr G m x m2 = true) : zq_okG1 w (zx_ren G m x m2) := by
  have hwf : zq_wf ([], [], [], [], [], [], [zx_tk (zq_v 1) (zx_xL x) m2 (zq_v 5) (zq_v 6)], 7) = true := by
    have hx : zq_bd 7 (zx_xL x) = true := by unfold zx_xL; cases decide (0 ≤ x) <;> rfl
    unfold zq_wf
    simp only [zx_tk, List.all_cons, List.all_nil, Bool.and_true, hx, Bool.true_and]; rfl
  refine ⟨rfl, rfl, zq_fa1 ⟨hwf, Nat.le_refl _⟩, ?_⟩
  intro r P h H hM
  obtain ⟨hT, hC, -, -, -, hK⟩ := hM
  obtain ⟨k1, k2, k3, k4, k5⟩ := zx_tk_use hX hK
  have hgd := zx_grd_ok (m := m) hC.1
  refine ⟨_, List.mem_singleton.mpr rfl, r, fun _ _ => rfl, zq_MeS_mk hwf hT zq_all_nil zq_fan zq_fan rfl ?_⟩
  refine zx_tk_mk hX k1 k2 (by rw [zq_ev_v]; exact k3) k4 ?_
  rw [zq_ev_v, zq_ev_v, zq_ev_v, zx_xL_ev]
  exact zx_ckr_ok (q := (r 3, r 4, m, r 5, r 6)) hck hgd k5
