/-! CONTRACTS FOR ANY DEPTH: a token says how deep at least (a number of the world's); from one world's to another one's -/
section ZDDEPTH
variable {l : Launch} {D : va_G} {cl : List vw_C} {tys : List (ClassId × FieldType)} {KT : List zq_K} {X X' : Nat → List Int → zq_Ty → zq_H → Prop} {NW : List Cond} {AO : zq_Ao} {y : MethodName} {ws : List Cond} {rm : Room} {mc ms : Nat}
/-- what is told of these tokens doesn't hang on the world's number -/
abbrev zd_al (X X' : Nat → List Int → zq_Ty → zq_H → Prop) (tok : List (Nat × List zq_L)) : Prop := ∀ x ∈ tok, ∀ as P h, X x.1 as P h ↔ X' x.1 as P h
theorem zd_okX {X X' : Nat → List Int → zq_Ty → zq_H → Prop} {r : Nat → Int} {P : zq_Ty} {h : zq_H} {n : Nat} {tok : List (Nat × List zq_L)} (a : zd_al X X' tok) (k : zq_okX (D, cl, tys, KT, X) r P h n tok) : zq_okX (D, cl, tys, KT, X') r P h n tok := fun x hx => ⟨(k x hx).1, (a x hx _ _ _).mp (k x hx).2⟩
theorem zd_MeS {r : Nat → Int} {P : zq_Ty} {h : zq_H} {H : Heap} {S : zq_S} (a : zd_al X X' S.2.2.2.2.2.2.1) (k : zq_MeS (D, cl, tys, KT, X) r P h H S) : zq_MeS (D, cl, tys, KT, X') r P h H S := by
  obtain ⟨k1, k2, k3, k4, k5, k6⟩ := k
  exact ⟨k1, k2, k3, k4, k5, zd_okX a k6⟩
theorem zd_mono {ct ct' : zq_Ct} (e1 : ct.1.1 = ct'.1.1) (e2 : ct.2 = ct'.2) (e3 : ct.1.2.2.2.2.2.2.2 = ct'.1.2.2.2.2.2.2.2) (e4 : ct.1.2.2.2.2.2.1 = ct'.1.2.2.2.2.2.1)
    (hpre : ∀ r P h H, zq_MeS (D, cl, tys, KT, X) r P h H ct.1 → zq_MeS (D, cl, tys, KT, X') r P h H ct'.1) (hpost : ∀ po ∈ ct.2.1, zd_al X' X po.2.2.2.2.2.2.2.1)
    (H : zq_Met l (D, cl, tys, KT, X') NW AO y ws rm ct' mc ms) : zq_Met l (D, cl, tys, KT, X) NW AO y ws rm ct mc ms := by
  obtain ⟨⟨loc, stk, C, F, sto, raw, tok, n⟩, posts, M⟩ := ct
  obtain ⟨⟨loc', stk', C', F', sto', raw', tok', n'⟩, posts', M'⟩ := ct'
  simp only at e1 e3 e4
  subst e1; subst e3; subst e4
  cases e2
  intro r P h H0 p e ha hc hk s m args below hf hs hP hK
  obtain ⟨h1, h2, h3, h4, h5, h6, h7⟩ := hP
  obtain ⟨q, o, g1, g2, g3, ⟨hQ, L, hL⟩⟩ := H r P h H0 p e ha hc hk s m args below hf hs ⟨h1, h2, h3, h4, h5, hpre r P h H0 h6, h7⟩ hK
  obtain ⟨po, hpo, r', P', h', b1, b2, b3, b4, b5⟩ := hQ
  exact ⟨q, o, g1, g2, g3, ⟨⟨po, hpo, r', P', h', b1, b2, b3, zd_MeS (hpost po hpo) b4, b5⟩, L, hL⟩⟩
theorem zd_none {ct : zq_Ct} (hpre : ∀ r P h H, ¬ zq_MeS (D, cl, tys, KT, X) r P h H ct.1) : zq_Met l (D, cl, tys, KT, X) NW AO y ws rm ct mc ms := by
  intro r P h H0 p e ha hc hk s m args below hf hs hP hK
  exact absurd hP.2.2.2.2.2.1 (hpre _ _ _ _)
/-- one deeper: 401 here is 400 there -/
theorem zd_deep {loc : List (Nat × Nat × zq_L)} {stk : List (Nat × zq_L)} {C : List zq_L} {F : List (zq_L × Nat)} {sto : List (zq_L × zq_L × zq_L)} {raw : List (zq_L × Nat × List (Nat × zq_L))} {tk : List (Nat × List zq_L)} {es : List zq_L} {n : Nat} {posts : List (List (Nat × zq_L) × zq_S)} {M : List (Nat × zq_L × zq_L)}
    (h4 : ∀ as P h, X 401 as P h → X' 400 as P h) (a : zd_al X X' tk) (b : ∀ po ∈ posts, zd_al X' X po.2.2.2.2.2.2.2.1)
    (H : zq_Met l (D, cl, tys, KT, X') NW AO y ws rm ((loc, stk, C, F, sto, raw, (400, es) :: tk, n), posts, M) mc ms) : zq_Met l (D, cl, tys, KT, X) NW AO y ws rm ((loc, stk, C, F, sto, raw, (401, es) :: tk, n), posts, M) mc ms := by
  refine zd_mono (ct' := ((loc, stk, C, F, sto, raw, (400, es) :: tk, n), posts, M)) rfl rfl rfl rfl (fun r P h H k => ?_) b H
  obtain ⟨k1, k2, k3, k4, k5, k6⟩ := k
  refine ⟨k1, k2, k3, k4, k5, fun x hx => ?_⟩
  rcases List.mem_cons.mp hx with rfl | hx
  · have q := k6 (401, es) (List.mem_cons_self ..)
    exact ⟨q.1, h4 _ _ _ q.2⟩
  · have q := k6 x (List.mem_cons_of_mem _ hx)
    exact ⟨q.1, (a x hx _ _ _).mp q.2⟩
/-- without a word of depth: from the world whose number is 0 -/
theorem zd_top {loc : List (Nat × Nat × zq_L)} {stk : List (Nat × zq_L)} {C : List zq_L} {F : List (zq_L × Nat)} {sto : List (zq_L × zq_L × zq_L)} {raw : List (zq_L × Nat × List (Nat × zq_L))} {tk : List (Nat × List zq_L)} {e : zq_L} {n : Nat} {posts : List (List (Nat × zq_L) × zq_S)} {M : List (Nat × zq_L × zq_L)}
    (h4 : ∀ v P h, 0 ≤ v → X' 400 [v] P h) (hb : zq_bd n e = true) (hC : C.any (fun x => zq_eq x e) = true) (a : zd_al X X' tk) (b : ∀ po ∈ posts, zd_al X' X po.2.2.2.2.2.2.2.1)
    (H : zq_Met l (D, cl, tys, KT, X') NW AO y ws rm ((loc, stk, C, F, sto, raw, (400, [e]) :: tk, n), posts, M) mc ms) : zq_Met l (D, cl, tys, KT, X) NW AO y ws rm ((loc, stk, C, F, sto, raw, tk, n), posts, M) mc ms := by
  refine zd_mono (ct' := ((loc, stk, C, F, sto, raw, (400, [e]) :: tk, n), posts, M)) rfl rfl rfl rfl (fun r P h H k => ?_) b H
  obtain ⟨k1, k2, k3, k4, k5, k6⟩ := k
  refine ⟨k1, k2, k3, k4, k5, fun x hx => ?_⟩
  rcases List.mem_cons.mp hx with rfl | hx
  · obtain ⟨x, hx1, hx2⟩ := List.any_eq_true.mp hC
    have e1 : x = e := zq_eq_ok hx2
    subst e1
    refine ⟨fun q hq => ?_, h4 _ _ _ (k2.1 x hx1)⟩
    rcases List.mem_cons.mp hq with rfl | hq
    · exact hb
    · cases hq
  · have q := k6 x hx
    exact ⟨q.1, (a x hx _ _ _).mp q.2⟩
/-- too deep: nothing is so deep -/
theorem zd_over {loc : List (Nat × Nat × zq_L)} {stk : List (Nat × zq_L)} {C : List zq_L} {F : List (zq_L × Nat)} {sto : List (zq_L × zq_L × zq_L)} {raw : List (zq_L × Nat × List (Nat × zq_L))} {tk : List (Nat × List zq_L)} {e : zq_L} {n : Nat} {posts : List (List (Nat × zq_L) × zq_S)} {M : List (Nat × zq_L × zq_L)}
    (h4 : ∀ v P h, X 400 [v] P h → 9 ≤ v) (hC : C.any (fun x => zq_eq x (zq_sub (zq_k 8) e)) = true) : zq_Met l (D, cl, tys, KT, X) NW AO y ws rm ((loc, stk, C, F, sto, raw, (400, [e]) :: tk, n), posts, M) mc ms := by
  refine zd_none fun r P h H k => ?_
  obtain ⟨k1, k2, k3, k4, k5, k6⟩ := k
  obtain ⟨x, hx1, hx2⟩ := List.any_eq_true.mp hC
  have e1 : x = zq_sub (zq_k 8) e := zq_eq_ok hx2
  have q := k2.1 x hx1
  have z := h4 _ _ _ (k6 (400, [e]) (List.mem_cons_self ..)).2
  rw [e1, zq_ev_sub] at q
  have e2 : zq_ev r (zq_k 8) = 8 := by simp [zq_ev, zq_k, zq_ts]
  have z2 : 9 ≤ zq_ev r e := z
  omega
end ZDDEPTH
/-- rooms that grow with the depth -/
theorem zq_cb_mk {ct : zq_Ct} {R rmc : Room} {maxL mc ms n : Nat} (a : (zq_okct ct && (zq_one ct && Nat.beq (zq_args ct).length n)) = true) (b : rmc.cells = mc) (c : rmc.slots = ms) (d : rmc.frames + 1 ≤ R.frames) (e : 8 + (maxL + 11) + rmc.locals ≤ R.locals) : zq_cb ct R rmc maxL mc ms n = true := by
  simp only [Bool.and_eq_true] at a
  obtain ⟨a1, a2, a3⟩ := a
  simp only [zq_cb, Bool.and_eq_true]
  exact ⟨a1, a2, a3, by subst b; exact Nat.beq_refl _, by subst c; exact Nat.beq_refl _, Nat.ble_eq_true_of_le d, Nat.ble_eq_true_of_le e⟩
