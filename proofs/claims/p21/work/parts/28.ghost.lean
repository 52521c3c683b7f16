/-- behind a call (or a fact about memory): the caller's state -/
theorem zq_aft_ok {w : zq_Wd} {nL : Nat} {r r2 : Nat → Int} {P P' : zq_Ty} {h h' : zq_H} {H H' H0 : Heap} {R0 : Nat → Prop} {ls : Array Slot} {FX : zq_FX} {Mc : zq_Ms} {np pn : Nat} {sel : zq_Rw} {loc : List (Nat × Nat × zq_L)} {rest : List (Nat × zq_L)} {C : List zq_L} {F : List (zq_L × Nat)} {sto : zq_St} {raw raw' : zq_Rw} {tok : List (Nat × List zq_L)} {n : Nat} {g : List zq_L}
    {pres : List (Nat × zq_L)} {pl : List (Nat × Nat × zq_L)} {ps : List (Nat × zq_L)} {pC : List zq_L} {pF : List (zq_L × Nat)} {pS : zq_St} {pR : zq_Rw} {pX : List (Nat × List zq_L)}
    (hl : lv_has ls nL (zq_lvs r loc)) (oL : zq_okL r n loc) (oT : zq_okT r n rest) (Me : zq_Me w r P h H C F sto raw tok n) (Rn : zq_Rn H0 R0 r raw) (hFX : zq_okFX w FX) (hglen : g.length = np) (hbdg : zq_bdg n g = true)
    (hr2 : ∀ x ∈ raw', x ∈ raw) (hr4 : raw'.Pairwise (fun x y => zq_ev r x.1 ≠ zq_ev r y.1)) (hr5 : ∀ x ∈ sel, ∀ y ∈ raw', zq_ev r x.1 ≠ zq_ev r y.1) {Rc : Nat → Prop} (hRc : ∀ a, Rc a ↔ ∃ x ∈ sel, zq_ev r x.1 = (a : Int))
    (v1 : zq_wf (pl, ps, pC, pF, pS, pR, pX, pn) = true) (v2 : ∀ x ∈ pres, zq_bd pn x.2 = true) (v4 : np ≤ pn)
    (hx2 : zq_ext np (zq_sv r g) r2) (ho2 : zq_okT r2 pn pres) (M2 : zq_MeS w r2 P' h' H' (pl, ps, pC, pF, pS, pR, pX, pn)) (cf : zq_Cf Mc (zq_sv r g) Rc P h H P' h' H') :
    ∃ r', zq_ext n r r' ∧ zq_G w nL r' P' h' H' ls (zq_sts r2 pres ++ zq_sts r rest) (zq_after FX g Mc np loc rest C F sto raw' tok n (pres, pl, ps, pC, pF, pS, pR, pX, pn)) ∧ zq_Rn H0 R0 r' raw' := by
  -- the new variables
  let r' : Nat → Int := fun i => if i < n then r i else r2 (np + (i - n))
  have hxr : zq_ext n r r' := fun i hi => by show (if i < n then _ else _) = _; rw [if_pos hi]
  let g' := g ++ zq_nv n (pn - np)
  have hsv : ∀ i, i < pn → zq_sv r' g' i = r2 i := by
    intro i hi
    unfold zq_sv
    rw [List.getD_eq_getElem?_getD]
    by_cases h1 : i < np
    · rw [List.getElem?_append_left (by omega)]
      have hb := zq_bdg_get hbdg i
      rw [List.getD_eq_getElem?_getD] at hb
      rw [zq_ev_ext hxr hb, hx2 i h1]
      unfold zq_sv
      rw [List.getD_eq_getElem?_getD]
    · rw [List.getElem?_append_right (by omega), hglen, zq_nv_get _ _ _ (by omega)]
      show zq_ev r' (zq_v (n + (i - np))) = _
      rw [zq_ev_v]
      show (if n + (i - np) < n then _ else r2 (np + (n + (i - np) - n))) = _
      rw [if_neg (by omega)]
      congr 1; omega
  have hev : ∀ ex : zq_L, zq_bd pn ex = true → zq_ev r' (zq_sb g' ex) = zq_ev r2 ex := by
    intro ex hb
    rw [zq_ev_sb]
    exact zq_ev_ext (n := pn) (fun i hi => hsv i hi) hb
  have hn' : n ≤ n + (pn - np) := Nat.le_add_right _ _
  have hbg' : zq_bdg (n + (pn - np)) g' = true := by
    refine List.all_eq_true.mpr fun ex hex => ?_
    rcases List.mem_append.mp hex with hex | hex
    · exact zq_bd_mono hn' (List.all_eq_true.mp hbdg ex hex)
    · exact zq_nv_bd _ _ _ (Nat.le_refl _) ex hex
  simp only [zq_wf, Bool.and_eq_true, List.all_eq_true] at v1
  obtain ⟨-, -, u3, u4, u5, -, u7⟩ := v1
  obtain ⟨f1, f2, f3, f4, f5⟩ := cf
  have MeX := Me.ext hn' hxr
  have hX' := hxr
  refine ⟨r', hxr, ⟨by show lv_has ls nL (zq_lvs r' loc); rw [zq_lvs.ext hxr oL]; exact hl, ?_, oL.ext hn' hxr, ?_, M2.1, ⟨?_, ?_⟩, ?_, ?_, ⟨?_, ?_⟩, ?_⟩, ?_⟩
  · show _ = zq_sts r' (pres.map (fun x => (x.1, zq_sb g' x.2)) ++ rest)
    simp only [zq_sts, List.map_append, List.map_map]
    congr 1
    · exact List.map_congr_left fun x hx => by simp only [Function.comp]; rw [hev x.2 (v2 x hx)]
    · exact (zq_sts.ext hxr oT).symm
  · intro x hx
    rcases List.mem_append.mp hx with hx | hx
    · obtain ⟨y, hy, rfl⟩ := List.mem_map.mp hx
      refine ⟨zq_bd_sb hbg' y.2, ?_⟩
      show zq_rg y.1 (zq_ev r' (zq_sb g' y.2))
      rw [hev y.2 (v2 y hy)]
      exact (ho2 y hy).2
    · exact (oT.ext hn' hxr) x hx
  · intro x hx
    rcases List.mem_append.mp hx with hx | hx
    · obtain ⟨y, hy, rfl⟩ := List.mem_map.mp hx
      rw [hev y (u3 y hy)]; exact M2.2.1.1 y hy
    · exact MeX.2.1.1 x hx
  · intro x hx
    rcases List.mem_append.mp hx with hx | hx
    · obtain ⟨y, hy, rfl⟩ := List.mem_map.mp hx
      exact zq_bd_sb hbg' y
    · exact MeX.2.1.2 x hx
  · intro x hx
    rcases List.mem_append.mp hx with hx | hx
    · obtain ⟨y, hy, rfl⟩ := List.mem_map.mp hx
      refine ⟨zq_bd_sb hbg' y.1, fun a ha => ?_⟩
      have ha : zq_ev r' (zq_sb g' y.1) = (a : Int) := ha
      rw [hev y.1 (u4 y hy)] at ha
      exact (M2.2.2.1 y hy).2 a ha
    · exact (MeX.2.2.1.le f3) x hx
  · intro x hx
    rcases List.mem_append.mp hx with hx | hx
    · obtain ⟨y, hy, rfl⟩ := List.mem_map.mp hx
      have hub := u5 y hy
      refine ⟨zq_bd_sb hbg' _, zq_bd_sb hbg' _, zq_bd_sb hbg' _, ?_⟩
      simp only
      rw [hev _ hub.1, hev _ hub.2.1, hev _ hub.2.2]
      obtain ⟨-, -, -, hrest⟩ := M2.2.2.2.1 y hy
      exact hrest
    · obtain ⟨hx1, hx2'⟩ := List.mem_filter.mp hx
      obtain ⟨b1, b2, b3, a, e1, e2, e3⟩ := Me.2.2.2.1 x hx1
      refine ⟨zq_bd_mono hn' b1, zq_bd_mono hn' b2, zq_bd_mono hn' b3, a, by rw [zq_ev_ext hxr b1]; exact e1, ?_, ?_⟩
      · cases hp : P a with
        | none => exact absurd hp e2
        | some k => rw [f3 a k hp]; exact Option.some_ne_none _
      · rw [zq_ev_ext hxr b2, zq_ev_ext hxr b3, ← e3]
        cases hp : P a with
        | none => exact absurd hp e2
        | some k =>
          refine f4 a k _ hp ?_
          unfold zq_scf at hx2'
          split at hx2'
          · rename_i hc0
            rw [zq_ev_c hc0]
            simp only [Bool.or_eq_true, decide_eq_true_eq] at hx2'
            rcases hx2' with z | z
            · rintro ⟨z1, -⟩; omega
            · split at z
              · rename_i k' hk'
                have hPk := (Me.2.2.1 _ (zq_kd_ok hk')).2 a e1
                have ekk : k = k' := Option.some.inj (hp.symm.trans hPk)
                rw [ekk]
                exact zq_dsj_ok z (Int.le_refl _) (Int.le_refl _)
              · cases z
          · split at hx2'
            · rename_i k' hk'
              have hPk := (Me.2.2.1 _ (zq_kd_ok hk')).2 a e1
              have ekk : k = k' := Option.some.inj (hp.symm.trans hPk)
              rintro ⟨-, y, hy, hy1, -⟩
              have := List.all_eq_true.mp hx2' y hy
              rw [hy1, ekk] at this
              simp at this
            · cases hx2'
  · intro x hx
    obtain ⟨b, hb⟩ := Me.2.2.2.2.1.1 x (hr2 x hx)
    have hlt := zq_raw_lt hb
    obtain ⟨y1, y2, y3, y4, y5⟩ := hb.ext hn' hxr
    have hnR : ¬ Rc b := by
      intro z
      obtain ⟨x', hx', hxa⟩ := (hRc b).mp z
      exact hr5 x' hx' x hx (hxa.trans hb.2.2.1.symm)
    have hnw : ¬ zq_nw H (Rc) b := by
      rintro (z | z)
      · omega
      · exact hnR z
    refine ⟨b, y1, y2, y3, ?_, y5.kept fun k' y hy => ?_⟩
    · cases hp : P' b with
      | none => rfl
      | some k =>
        rcases f5 b k hp with z | z
        · rw [y4] at z; cases z
        · exact absurd z.2 hnw
    · match k', hy with
      | 0, hy =>
        cases hy
        refine f2 b hlt ?_
        rintro (⟨k, z, -⟩ | z)
        · rw [y4] at z; cases z
        · exact hnw z
  · refine List.Pairwise.imp_of_mem ?_ hr4
    intro x y hx hy z
    obtain ⟨b, hb⟩ := Me.2.2.2.2.1.1 x (hr2 x hx)
    obtain ⟨b2, hb2⟩ := Me.2.2.2.2.1.1 y (hr2 y hy)
    rw [zq_ev_ext hxr hb.1, zq_ev_ext hxr hb2.1]; exact z
  · intro x hx
    rcases List.mem_append.mp hx with hx | hx
    · obtain ⟨y, hy, rfl⟩ := List.mem_map.mp hx
      refine ⟨fun ex hex => ?_, ?_⟩
      · obtain ⟨z, -, rfl⟩ := List.mem_map.mp hex
        exact zq_bd_sb hbg' z
      · have hz := (M2.2.2.2.2.2 y hy).2
        simp only [List.map_map]
        rw [show y.2.map (zq_ev r' ∘ zq_sb g') = y.2.map (zq_ev r2) from List.map_congr_left fun z hz => by simp only [Function.comp]; exact hev z (u7 y hy z hz)]
        exact hz
    · obtain ⟨hx1, hx2'⟩ := List.mem_filter.mp hx
      refine ⟨fun ex hex => zq_bd_mono hn' ((Me.2.2.2.2.2 x hx1).1 ex hex), ?_⟩
      rw [show x.2.map (zq_ev r') = x.2.map (zq_ev r) from List.map_congr_left fun z hz => zq_ev_ext hxr ((Me.2.2.2.2.2 x hx1).1 z hz)]
      unfold zq_tkc at hx2'
      split at hx2'
      · rename_i rs hrs
        refine hFX _ (zq_fxo_ok hrs) _ P P' h h' f3 (fun a k jj ha hy => ?_) (Me.2.2.2.2.2 x hx1).2
        obtain ⟨y, hy1, hy2, hy3, hy4⟩ := hy
        refine f4 a k jj ha ?_
        rw [← hy2]
        exact zq_dsj_ok (List.all_eq_true.mp hx2' y hy1) hy3 hy4
      · cases hx2'
  · intro x hx b hb
    obtain ⟨d, hd⟩ := Me.2.2.2.2.1.1 x (hr2 x hx)
    exact Rn x (hr2 x hx) b (by rw [← zq_ev_ext hxr hd.1]; exact hb)
