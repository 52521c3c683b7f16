theorem zq_okX_1 {w : zq_Wd} {A0 : Nat → Nat} (hX : w.2.2.2.2 = zX A0) {r : Nat → Int} {P : zq_Ty} {h : zq_H} {n : Nat} {x : Nat × List zq_L} {l : List (Nat × List zq_L)} (hk : zq_okX w r P h n (x :: l)) : zX A0 x.1 (x.2.map (zq_ev r)) P h := by
  have := (hk x (List.mem_cons_self ..)).2
  rw [hX] at this; exact this
theorem zq_okX_t {w : zq_Wd} {r : Nat → Int} {P : zq_Ty} {h : zq_H} {n : Nat} {x : Nat × List zq_L} {l : List (Nat × List zq_L)} (hk : zq_okX w r P h n (x :: l)) : zq_okX w r P h n l := fun y hy => hk y (List.mem_cons_of_mem _ hy)
theorem zq_okS_1 {r : Nat → Int} {P : zq_Ty} {h : zq_H} {n : Nat} {x : zq_L × zq_L × zq_L} {l : List (zq_L × zq_L × zq_L)} (hk : zq_okS r P h n (x :: l)) : 0 ≤ zq_ev r x.1 ∧ P (zq_ev r x.1).toNat ≠ none ∧ h (zq_ev r x.1).toNat (zq_ev r x.2.1) = zq_ev r x.2.2 := by
  obtain ⟨-, -, -, a, e1, e2, e3⟩ := hk x (List.mem_cons_self ..)
  rw [e1]
  exact ⟨by omega, e2, e3⟩
theorem zq_okS_t {r : Nat → Int} {P : zq_Ty} {h : zq_H} {n : Nat} {x : zq_L × zq_L × zq_L} {l : List (zq_L × zq_L × zq_L)} (hk : zq_okS r P h n (x :: l)) : zq_okS r P h n l := fun y hy => hk y (List.mem_cons_of_mem _ hy)
theorem zq_okF_1 {r : Nat → Int} {P : zq_Ty} {n : Nat} {x : zq_L × Nat} {l : List (zq_L × Nat)} (hk : zq_okF r P n (x :: l)) (h0 : 0 ≤ zq_ev r x.1) : P (zq_ev r x.1).toNat = some x.2 := (hk x (List.mem_cons_self ..)).2 _ (by omega)
theorem zq_okF_t {r : Nat → Int} {P : zq_Ty} {n : Nat} {x : zq_L × Nat} {l : List (zq_L × Nat)} (hk : zq_okF r P n (x :: l)) : zq_okF r P n l := fun y hy => hk y (List.mem_cons_of_mem _ hy)
theorem zq_all_1 {r : Nat → Int} {c : zq_L} {C : List zq_L} (h : zq_all r (c :: C)) : 0 ≤ zq_ev r c := h c (List.mem_cons_self ..)
theorem zq_all_t {r : Nat → Int} {c : zq_L} {C : List zq_L} (h : zq_all r (c :: C)) : zq_all r C := fun y hy => h y (List.mem_cons_of_mem _ hy)
theorem zq_all_l {r : Nat → Int} {A B : List zq_L} (h : zq_all r (A ++ B)) : zq_all r A := fun y hy => h y (List.mem_append_left _ hy)
theorem zq_all_r {r : Nat → Int} {A B : List zq_L} (h : zq_all r (A ++ B)) : zq_all r B := fun y hy => h y (List.mem_append_right _ hy)
theorem zq_all_b {r : Nat → Int} {A : List zq_L} {c : Bool} (h : zq_all r (bif c then A else [])) (hc : c = true) : zq_all r A := by subst hc; exact h
theorem zx_suf_shift {fc fv : Int → Int} {p e d : Int} {q : zx_Q} (h : zx_suf fc fv p e q) : zx_suf (fun j => fc (j - d)) (fun j => fv (j - d)) (p + d) (e + d) q := by
  intro hp
  have := zx_path_shift (d := d) (h (by omega))
  rw [show (e + d - (p + d)).toNat = (e - p).toNat by omega]
  exact this
/-- on to the next clause, or behind the end -/
noncomputable def zx_next : zq_S × List zq_S := (zx_lpre ((0, 1), (0, 0), (0, 0), (0, 0)) 15, [([], [], [], [], [], [], [zx_tk (zq_addk (zq_v 1) 1) (zq_k 0) 0 (zq_v 5) (zq_v 6)], 7)])
theorem zx_next_ok {w : zq_Wd} {A0 : Nat → Nat} (hX : w.2.2.2.2 = zX A0) : zq_okG1 w zx_next := by
  refine ⟨rfl, rfl, zq_fa1 ⟨rfl, Nat.le_refl _⟩, ?_⟩
  intro r P h H hM
  obtain ⟨hT, hC, -, -, -, hK⟩ := hM
  obtain ⟨k1, k2, k3, k4, k5⟩ := zx_tk_use hX hK
  refine ⟨_, List.mem_singleton.mpr rfl, r, fun _ _ => rfl, zq_MeS_mk rfl hT zq_all_nil zq_fan zq_fan rfl ?_⟩
  refine zx_tk_mk hX k1 k2 (by rw [zq_ev_addk, zq_ev_v]; omega) k4 ?_
  rw [zq_ev_addk, zq_ev_v, zq_ev_v, zq_ev_v, zq_ev_k]
  by_cases hp : r 1 < r 2
  · obtain ⟨t, ht, hf, hs⟩ := (zx_suf_step hp).mp k5
    have ht : t = zx_nxt := List.mem_singleton.mp ht
    subst ht
    have : zx_to zx_nxt (r 3, r 4, 15, r 5, r 6) = (r 3, 0, 0, r 5, r 6) := by simp [zx_to, zx_nxt]
    rw [this] at hs
    exact hs
  · intro z; omega
/-! reading -/
noncomputable def zx_rt (i x : zq_L) (m : Nat) (a b : zq_L) : Nat × List zq_L := (3, [zq_v 0, zq_v 1, i, zq_v 3, x, zq_k m, a, b])
theorem zx_rt_use {w : zq_Wd} {A0 : Nat → Nat} (hX : w.2.2.2.2 = zX A0) {r : Nat → Int} {P : zq_Ty} {h : zq_H} {n m : Nat} {l : List (Nat × List zq_L)} (hx : zq_okX w r P h n (zx_rt (zq_v 2) (zq_v 4) m (zq_v 5) (zq_v 6) :: l)) : 0 ≤ r 0 ∧ P (r 0).toNat = some 8 ∧ 0 ≤ r 1 ∧ P (r 1).toNat = some 9 ∧ 0 ≤ r 2 ∧ r 2 ≤ 401 ∧ zx_pre (h (r 0).toNat) (h (r 1).toNat) (r 2) (r 3) (r 3, r 4, m, r 5, r 6) := by
  have h1 : zx_3 (zq_en [zq_ev r (zq_v 0), zq_ev r (zq_v 1), zq_ev r (zq_v 2), zq_ev r (zq_v 3), zq_ev r (zq_v 4), zq_ev r (zq_k m), zq_ev r (zq_v 5), zq_ev r (zq_v 6)]) P h := zq_okX_1 hX hx
  rw [zq_ev_v, zq_ev_v, zq_ev_v, zq_ev_v, zq_ev_v, zq_ev_v, zq_ev_v, zq_ev_k] at h1
  exact h1
theorem zx_rt_mk {w : zq_Wd} {A0 : Nat → Nat} (hX : w.2.2.2.2 = zX A0) {r : Nat → Int} {P : zq_Ty} {h : zq_H} {i x : zq_L} {m : Nat} {a b : zq_L} (k1 : 0 ≤ r 0) (k2 : P (r 0).toNat = some 8) (k3 : 0 ≤ r 1) (k4 : P (r 1).toNat = some 9) (k5 : 0 ≤ zq_ev r i) (k6 : zq_ev r i ≤ 401) (k7 : zx_pre (h (r 0).toNat) (h (r 1).toNat) (zq_ev r i) (r 3) (r 3, zq_ev r x, m, zq_ev r a, zq_ev r b)) : ∀ y ∈ [zx_rt i x m a b], w.2.2.2.2 y.1 (y.2.map (zq_ev r)) P h := by
  refine zq_fa1 ?_
  rw [hX]
  show zx_3 (zq_en [zq_ev r (zq_v 0), zq_ev r (zq_v 1), zq_ev r i, zq_ev r (zq_v 3), zq_ev r x, zq_ev r (zq_k m), zq_ev r a, zq_ev r b]) P h
  rw [zq_ev_v, zq_ev_v, zq_ev_v, zq_ev_k]
  exact ⟨k1, k2, k3, k4, k5, k6, k7⟩
noncomputable def zx_P0 : zq_S × List zq_S := (([], [], [zq_v 0, zq_v 1], [(zq_v 0, 8), (zq_v 1, 9)], [], [], [], 4), [([], [], [], [], [], [], [zx_rt (zq_k 0) (zq_k 0) 0 (zq_k 0) (zq_k 0)], 4)])
theorem zx_P0_ok {w : zq_Wd} {A0 : Nat → Nat} (hX : w.2.2.2.2 = zX A0) : zq_okG1 w zx_P0 := by
  refine ⟨rfl, rfl, zq_fa1 ⟨rfl, Nat.le_refl _⟩, ?_⟩
  intro r P h H hM
  obtain ⟨hT, hC, hF, -, -, -⟩ := hM
  have a1 := zq_all_1 hC.1
  have a2 := zq_all_1 (zq_all_t hC.1)
  have b1 := zq_okF_1 hF a1
  have b2 := zq_okF_1 (zq_okF_t hF) a2
  simp only [zq_ev_v] at a1 a2 b1 b2
  refine ⟨_, List.mem_singleton.mpr rfl, r, fun _ _ => rfl, zq_MeS_mk rfl hT zq_all_nil zq_fan zq_fan rfl ?_⟩
  refine zx_rt_mk hX a1 b1 a2 b2 (by rw [zq_ev_k]; omega) (by rw [zq_ev_k]; omega) ?_
  rw [zq_ev_k]
  exact fun fc fv e _ _ h3 => h3
noncomputable def zx_PS (m : Nat) (t : zx_R) : zq_S × List zq_S := (([], [], zq_sub (zq_k 400) (zq_v 2) :: zq_addk (zq_v 7) (-t.1.1) :: zq_sub (zq_k t.1.2) (zq_v 7) :: zq_addk (zq_v 5) (-t.2.2.2.1.1) :: zq_sub (zq_k t.2.2.2.1.2.1) (zq_v 5) :: zq_addk (zq_v 6) (-t.2.2.2.1.2.2.1) :: zq_sub (zq_k t.2.2.2.1.2.2.2.1) (zq_v 6) :: zq_sub (zq_k t.2.2.2.1.2.2.2.2) (zq_add (zq_v 5) (zq_v 6)) :: ((bif t.2.1.1 then [zq_addk (zq_v 8) (-t.2.1.2.1), zq_sub (zq_k t.2.1.2.2) (zq_v 8)] else []) ++ ((bif decide (0 ≤ t.2.2.1.1) then [zq_addk (zq_v 4) (-t.2.2.1.1), zq_sub (zq_k t.2.2.1.1) (zq_v 4)] else []) ++ (bif decide (0 ≤ t.2.2.1.2) then [zq_addk (zq_v 3) (-t.2.2.1.2), zq_sub (zq_k t.2.2.1.2) (zq_v 3)] else []))),
  [], (zq_v 0, zq_v 2, zq_v 7) :: (bif t.2.1.1 then [(zq_v 1, zq_v 2, zq_v 8)] else []), [], [zx_rt (zq_v 2) (zq_v 4) m (zq_v 5) (zq_v 6)], 9),
  [([], [], [], [], [], [], [zx_rt (zq_addk (zq_v 2) 1) (zx_xL t.2.2.2.2.1) t.2.2.2.2.2.1 (zq_addk (zq_v 5) t.2.2.2.2.2.2.1) (zq_addk (zq_v 6) t.2.2.2.2.2.2.2)], 9)])
theorem zx_PS_ok {w : zq_Wd} {A0 : Nat → Nat} (hX : w.2.2.2.2 = zX A0) {m : Nat} {t : zx_R} (hm : (zx_T m).any (fun o => zx_eq o t) = true) : zq_okG1 w (zx_PS m t) := by
  have hx : zq_bd 9 (zx_xL t.2.2.2.2.1) = true := by unfold zx_xL; cases decide (0 ≤ t.2.2.2.2.1) <;> rfl
  have hwf : zq_wf ([], [], [], [], [], [], [zx_rt (zq_addk (zq_v 2) 1) (zx_xL t.2.2.2.2.1) t.2.2.2.2.2.1 (zq_addk (zq_v 5) t.2.2.2.2.2.2.1) (zq_addk (zq_v 6) t.2.2.2.2.2.2.2)], 9) = true := by
    unfold zq_wf
    simp only [zx_rt, List.all_cons, List.all_nil, Bool.and_true, hx, Bool.true_and]; rfl
  refine ⟨?_, rfl, zq_fa1 ⟨hwf, Nat.le_refl _⟩, ?_⟩
  · unfold zq_wf zx_PS
    simp only [List.all_append, List.all_cons, Bool.and_eq_true]
    refine ⟨rfl, rfl, ⟨rfl, rfl, rfl, rfl, rfl, rfl, rfl, rfl, ?_, ?_, ?_⟩, rfl, ⟨⟨rfl, rfl, rfl⟩, ?_⟩, rfl, rfl, rfl⟩
    · cases t.2.1.1 <;> rfl
    · cases decide (0 ≤ t.2.2.1.1) <;> rfl
    · cases decide (0 ≤ t.2.2.1.2) <;> rfl
    · cases t.2.1.1 <;> rfl
  · intro r P h H hM
    obtain ⟨hT, hC, -, hS, -, hK⟩ := hM
    obtain ⟨k1, k2, k3, k4, k5, k6, k7⟩ := zx_rt_use hX hK
    obtain ⟨o, ho, he⟩ := List.any_eq_true.mp hm
    rw [zx_eq_ok he] at ho
    have c1 := hC.1
    have a0 := zq_all_1 c1
    have c1 := zq_all_t c1
    have a1 := zq_all_1 c1
    have c1 := zq_all_t c1
    have a2 := zq_all_1 c1
    have c1 := zq_all_t c1
    have a3 := zq_all_1 c1
    have c1 := zq_all_t c1
    have a4 := zq_all_1 c1
    have c1 := zq_all_t c1
    have a5 := zq_all_1 c1
    have c1 := zq_all_t c1
    have a6 := zq_all_1 c1
    have c1 := zq_all_t c1
    have a7 := zq_all_1 c1
    have c1 := zq_all_t c1
    simp only [zq_ev_addk, zq_ev_sub, zq_ev_add, zq_ev_v, zq_ev_k] at a0 a1 a2 a3 a4 a5 a6 a7
    obtain ⟨-, -, s3⟩ := zq_okS_1 hS
    simp only [zq_ev_v] at s3
    have fit : zx_fit t (r 3, r 4, m, r 5, r 6) (h (r 0).toNat (r 2)) (h (r 1).toNat (r 2)) := by
      refine ⟨by rw [s3]; omega, by rw [s3]; omega, fun z => ?_, fun z => ?_, fun z => ?_, by show _ ≤ r 5; omega, by show r 5 ≤ _; omega, by show _ ≤ r 6; omega, by show r 6 ≤ _; omega, by show r 5 + r 6 ≤ _; omega⟩
      · have b := zq_all_b (zq_all_l c1) z
        have b1 := zq_all_1 b
        have b2 := zq_all_1 (zq_all_t b)
        have hS2 := zq_okS_t hS
        rw [z] at hS2
        obtain ⟨-, -, s4⟩ := zq_okS_1 (x := (zq_v 1, zq_v 2, zq_v 8)) (l := []) hS2
        simp only [zq_ev_addk, zq_ev_sub, zq_ev_v, zq_ev_k] at b1 b2 s4
        rw [s4]; omega
      · have b := zq_all_b (zq_all_l (zq_all_r c1)) (decide_eq_true z)
        have b1 := zq_all_1 b
        have b2 := zq_all_1 (zq_all_t b)
        simp only [zq_ev_addk, zq_ev_sub, zq_ev_v, zq_ev_k] at b1 b2
        show r 4 = _; omega
      · have b := zq_all_b (zq_all_r (zq_all_r c1)) (decide_eq_true z)
        have b1 := zq_all_1 b
        have b2 := zq_all_1 (zq_all_t b)
        simp only [zq_ev_addk, zq_ev_sub, zq_ev_v, zq_ev_k] at b1 b2
        show r 3 = _; omega
    refine ⟨_, List.mem_singleton.mpr rfl, r, fun _ _ => rfl, zq_MeS_mk hwf hT zq_all_nil zq_fan zq_fan rfl ?_⟩
    refine zx_rt_mk hX k1 k2 k3 k4 (by rw [zq_ev_addk, zq_ev_v]; omega) (by rw [zq_ev_addk, zq_ev_v]; omega) ?_
    rw [zq_ev_addk, zq_ev_addk, zq_ev_addk, zq_ev_v, zq_ev_v, zq_ev_v, zx_xL_ev]
    intro fc fv e h1 h2 h3
    refine k7 fc fv e (fun j x y => h1 j x (by omega)) (by omega) ((zx_suf_step (by omega)).mpr ⟨t, ho, ?_, h3⟩)
    obtain ⟨z1, z2⟩ := h1 (r 2) k5 (by omega)
    rw [z1, z2]; exact fit
noncomputable def zx_PR (G : zx_Gd) (m : Nat) (x : Int) (m2 : Nat) : zq_S × List zq_S := (([], [], zx_grd G, [], [], [], [zx_rt (zq_v 2) (zq_v 4) m (zq_v 5) (zq_v 6)], 7), [([], [], [], [], [], [], [zx_rt (zq_v 2) (zx_xL x) m2 (zq_v 5) (zq_v 6)], 7)])
noncomputable def zx_ckP (G : zx_Gd) (m : Nat) (x : Int) (m2 : Nat) : Bool := bif decide (0 ≤ x) then decide (G.2.1.1 = G.2.1.2) && (decide (0 ≤ G.2.1.1) && zx_ckr (G.1, (x, x), G.2.2) m2 G.2.1.1 m) else zx_ckr G m2 (-1) m
theorem zx_PR_ok {w : zq_Wd} {A0 : Nat → Nat} (hX : w.2.2.2.2 = zX A0) {G : zx_Gd} {m : Nat} {x : Int} {m2 : Nat} (hck : zx_ckP G m x m2 = true) : zq_okG1 w (zx_PR G m x m2) := by
  have hwf : zq_wf ([], [], [], [], [], [], [zx_rt (zq_v 2) (zx_xL x) m2 (zq_v 5) (zq_v 6)], 7) = true := by
    have hx : zq_bd 7 (zx_xL x) = true := by unfold zx_xL; cases decide (0 ≤ x) <;> rfl
    unfold zq_wf
    simp only [zx_rt, List.all_cons, List.all_nil, Bool.and_true, hx, Bool.true_and]; rfl
  refine ⟨rfl, rfl, zq_fa1 ⟨hwf, Nat.le_refl _⟩, ?_⟩
  intro r P h H hM
  obtain ⟨hT, hC, -, -, -, hK⟩ := hM
  obtain ⟨k1, k2, k3, k4, k5, k6, k7⟩ := zx_rt_use hX hK
  have hgd := zx_grd_ok (m := m) hC.1
  refine ⟨_, List.mem_singleton.mpr rfl, r, fun _ _ => rfl, zq_MeS_mk hwf hT zq_all_nil zq_fan zq_fan rfl ?_⟩
  refine zx_rt_mk hX k1 k2 k3 k4 (by rw [zq_ev_v]; exact k5) (by rw [zq_ev_v]; exact k6) ?_
  rw [zq_ev_v, zq_ev_v, zq_ev_v, zx_xL_ev]
  intro fc fv e h1 h2 h3
  refine k7 fc fv e h1 h2 ?_
  obtain ⟨g1, g2, g3, g4, g5, g6, g7, g8⟩ := hgd
  unfold zx_ckP at hck
  cases hx : decide (0 ≤ x) with
  | true =>
    rw [hx] at hck h3
    simp only [cond_true, Bool.and_eq_true, decide_eq_true_eq] at hck h3
    obtain ⟨c1, c2, c3⟩ := hck
    have := zx_ckr_ok (q := (r 3, x, m2, r 5, r 6)) (m2 := m) c3 ⟨g1, g2, Int.le_refl _, Int.le_refl _, g5, g6, g7, g8⟩ h3
    have e4 : r 4 = G.2.1.1 := by
      have g3 : G.2.1.1 ≤ r 4 := g3
      have g4 : r 4 ≤ G.2.1.2 := g4
      omega
    have e5 : zx_at G.2.1.1 m (r 3, x, m2, r 5, r 6) = (r 3, r 4, m, r 5, r 6) := by
      unfold zx_at
      rw [decide_eq_true c2, e4]; rfl
    rw [e5] at this; exact this
  | false =>
    rw [hx] at hck h3
    simp only [cond_false] at hck h3
    exact zx_ckr_ok (q := (r 3, r 4, m2, r 5, r 6)) (m2 := m) hck ⟨g1, g2, g3, g4, g5, g6, g7, g8⟩ h3
noncomputable def zx_PE : zq_S × List zq_S := (([], [], zq_sub (zq_v 7) (zq_v 2) :: zq_sub (zq_v 2) (zq_v 7) :: zx_grd ((0, 1), (0, 0), (0, 0), (0, 0)), [], [], [], [zx_rt (zq_v 2) (zq_v 4) 15 (zq_v 5) (zq_v 6)], 8), [([], [], [], [], [], [], [(4, [zq_v 0, zq_v 1, zq_v 7, zq_v 3])], 8)])
theorem zx_PE_ok {w : zq_Wd} {A0 : Nat → Nat} (hX : w.2.2.2.2 = zX A0) : zq_okG1 w zx_PE := by
  refine ⟨rfl, rfl, zq_fa1 ⟨rfl, Nat.le_refl _⟩, ?_⟩
  intro r P h H hM
  obtain ⟨hT, hC, -, -, -, hK⟩ := hM
  obtain ⟨k1, k2, k3, k4, k5, k6, k7⟩ := zx_rt_use hX hK
  have a1 := zq_all_1 hC.1
  have a2 := zq_all_1 (zq_all_t hC.1)
  simp only [zq_ev_sub, zq_ev_v] at a1 a2
  have e7 : r 7 = r 2 := by omega
  obtain ⟨g1, g2, g3, g4, g5, g6, g7, g8⟩ := zx_grd_ok (m := 15) (zq_all_t (zq_all_t hC.1))
  simp only at g1 g2 g3 g4 g5 g6 g7 g8
  refine ⟨_, List.mem_singleton.mpr rfl, r, fun _ _ => rfl, zq_MeS_mk rfl hT zq_all_nil zq_fan zq_fan rfl (zq_fa1 ?_)⟩
  rw [hX]
  show zx_4 (zq_en [zq_ev r (zq_v 0), zq_ev r (zq_v 1), zq_ev r (zq_v 7), zq_ev r (zq_v 3)]) P h
  rw [zq_ev_v, zq_ev_v, zq_ev_v, zq_ev_v, e7]
  refine ⟨k1, k2, k3, k4, k5, k6, ?_⟩
  refine k7 (h (r 0).toNat) (h (r 1).toNat) (r 2) (fun _ _ _ => ⟨rfl, rfl⟩) (Int.le_refl _) (zx_suf_end.mpr ⟨by show r 5 = 0; omega, by show r 6 = 0; omega, (0, 0), List.mem_cons_self .., by show 0 ≤ r 4; omega, by show r 4 ≤ 0; omega⟩)
/-- an argument of a token under another name -/
noncomputable def zx_aeq (id k j : Nat) : zq_S × List zq_S := (([], [], [zq_sub (zq_v k) (zq_v j), zq_sub (zq_v j) (zq_v k)], [], [], [], [(id, (List.range k).map zq_v)], k + 1), [([], [], [], [], [], [], [(id, (List.range k).map (fun i => bif Nat.beq i j then zq_v k else zq_v i))], k + 1)])
theorem zx_aeq_ok {w : zq_Wd} {id k j : Nat} (hj : (zq_wf (zx_aeq id k j).1 && (zx_aeq id k j).2.all zq_wf) = true) : zq_okG1 w (zx_aeq id k j) := by
  simp only [Bool.and_eq_true, List.all_eq_true] at hj
  refine ⟨hj.1, rfl, zq_fa1 ⟨hj.2 _ (List.mem_singleton.mpr rfl), Nat.le_refl _⟩, ?_⟩
  intro r P h H hM
  obtain ⟨hT, hC, -, -, -, hK⟩ := hM
  have a1 := zq_all_1 hC.1
  have a2 := zq_all_1 (zq_all_t hC.1)
  simp only [zq_ev_sub, zq_ev_v] at a1 a2
  have e : r k = r j := by omega
  refine ⟨_, List.mem_singleton.mpr rfl, r, fun _ _ => rfl, zq_MeS_mk (hj.2 _ (List.mem_singleton.mpr rfl)) hT zq_all_nil zq_fan zq_fan rfl (zq_fa1 ?_)⟩
  have h0 := (hK _ (List.mem_cons_self ..)).2
  show w.2.2.2.2 id (((List.range k).map (fun i => bif Nat.beq i j then zq_v k else zq_v i)).map (zq_ev r)) P h
  have : ((List.range k).map (fun i => bif Nat.beq i j then zq_v k else zq_v i)).map (zq_ev r) = ((List.range k).map zq_v).map (zq_ev r) := by
    rw [List.map_map, List.map_map]
    refine List.map_congr_left fun i _ => ?_
    simp only [Function.comp]
    cases hc : Nat.beq i j with
    | true => simp only [cond_true]; rw [zq_ev_v, zq_ev_v, e, Nat.eq_of_beq_eq_true hc]
    | false => rfl
  rw [this]
  exact h0
