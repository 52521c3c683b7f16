theorem zq_rdG_len : ∀ {k : Nat} {q q' : List Nat} {g : List zq_L}, zq_rdG k q = some (g, q') → g.length = k
  | 0, _, _, _, h => by cases h; rfl
  | k + 1, q, q', g, h => by
    unfold zq_rdG at h
    split at h
    · split at h
      · rename_i l q2 hl
        cases h
        rw [List.length_cons, zq_rdG_len hl]
      · cases h
    · cases h
theorem zq_nv_get : ∀ (d n i : Nat), i < d → (zq_nv n d)[i]? = some (zq_v (n + i))
  | 0, _, _, h => by omega
  | d + 1, n, 0, _ => rfl
  | d + 1, n, i + 1, h => by
    simp only [zq_nv, List.getElem?_cons_succ]
    rw [zq_nv_get d (n + 1) i (by omega)]
    congr 2; omega
theorem zq_nv_len : ∀ (d n : Nat), (zq_nv n d).length = d
  | 0, _ => rfl
  | d + 1, n => by simp [zq_nv, zq_nv_len d]
theorem zq_nv_bd : ∀ (d n m : Nat), n + d ≤ m → ∀ e ∈ zq_nv n d, zq_bd m e = true
  | 0, _, _, _, e, h => by cases h
  | d + 1, n, m, hm, e, h => by
    rcases List.mem_cons.mp h with rfl | h
    · exact zq_bd_v (by omega)
    · exact zq_nv_bd d (n + 1) m (by omega) e h
/-- a contract is well made -/
noncomputable def zq_okct (ct : zq_Ct) : Bool := zq_wf ct.1 && (ct.2.2.all (fun x => zq_bd ct.1.2.2.2.2.2.2.2 x.2.1 && zq_bd ct.1.2.2.2.2.2.2.2 x.2.2) && ct.2.1.all (fun po => zq_wf po.2 && (po.1.all (fun x => zq_bd po.2.2.2.2.2.2.2.2 x.2) && (po.2.2.2.2.2.2.1.isEmpty && Nat.ble ct.1.2.2.2.2.2.2.2 po.2.2.2.2.2.2.2.2))))
section ZQS6
variable {p : Program} {l : Launch} {e : Env} {R : Room} {s : State} {m : MethodId} {args : Array Value} {below : List Frame} {meth : Method} {c : Code} {H : Heap} {locs : List Loc} {cells slots : Nat} {Q : State → Prop}
variable {cc : ByteArray} {pc : Nat} {ls : Array Slot} {st : List Value} {w : zq_Wd} {nL n0 : Nat} {r r0 : Nat → Int} {P P0 : zq_Ty} {h h0 : zq_H} {H0 : Heap} {R0 : Nat → Prop} {FX : zq_FX} {M : zq_Ms}
theorem zq_Cf.fr {P' : zq_Ty} {h' : zq_H} {H' : Heap} {Mc : zq_Ms} {rc : Nat → Int} {Rc : Nat → Prop} {L : List Loc} (Fr : zq_Fr M r0 P0 h0 H0 R0 P h H locs) (cf : zq_Cf Mc rc Rc P h H P' h' H') (hL : ∀ q ∈ L, zq_A Mc P H Rc q.base) (hkd : ∀ x ∈ Mc, ∃ y ∈ M, y.1 = x.1) (hmd : ∀ k j, zq_md Mc rc k j → zq_md M r0 k j) (hRc : ∀ a, Rc a → zq_nw H0 R0 a) : zq_Fr M r0 P0 h0 H0 R0 P' h' H' (locs ++ L) := by
  obtain ⟨c1, c2, c3, c4, c5⟩ := cf
  have hA : ∀ q, zq_A Mc P H Rc q → zq_A M P0 H0 R0 q := by
    intro q hq
    rcases hq with ⟨k, h1, x, hx, h2⟩ | hq
    · obtain ⟨y, hy, h3⟩ := hkd x hx
      rcases Fr.2.2.2 q k h1 with z | z
      · exact Or.inl ⟨k, z, y, hy, h3.trans h2⟩
      · exact Or.inr z.2
    · rcases hq with hq | hq
      · exact Or.inr (Or.inl (Nat.le_trans Fr.1.1 hq))
      · exact Or.inr (hRc q hq)
  refine ⟨⟨Nat.le_trans Fr.1.1 c1, fun q h1 h2 => ?_, fun q hq => ?_⟩, fun a k ha => c3 a k (Fr.2.1 a k ha), fun a k j ha hm => ?_, fun a k ha => ?_⟩
  · rw [c2 q (Nat.lt_of_lt_of_le h1 Fr.1.1) (fun z => h2 (hA q z))]
    exact Fr.1.2.1 q h1 h2
  · rcases List.mem_append.mp hq with hq | hq
    · exact Fr.1.2.2 q hq
    · exact hA _ (hL q hq)
  · rw [c4 a k j (Fr.2.1 a k ha) (fun z => hm (hmd k j z))]
    exact Fr.2.2.1 a k j ha hm
  · rcases c5 a k ha with z | ⟨z1, z2⟩
    · exact Fr.2.2.2 a k z
    · refine Or.inr ⟨?_, ?_⟩
      · cases hp : P0 a with
        | none => rfl
        | some k2 => have := Fr.2.1 _ _ hp; rw [z1] at this; cases this
      · rcases z2 with z2 | z2
        · exact Or.inl (Nat.le_trans Fr.1.1 z2)
        · exact hRc a z2
set_option maxHeartbeats 8000000 in
theorem zq_s6_ok {FC : zq_FC} {i : Instr} {ct : zq_Ct} {mc ms : Nat} {loc : List (Nat × Nat × zq_L)} {stk : List (Nat × zq_L)} {C : List zq_L} {F : List (zq_L × Nat)} {sto : zq_St} {raw : zq_Rw} {tok : List (Nat × List zq_L)} {n : Nat} {g : List zq_L} {rest : List (Nat × zq_L)} {raw' : zq_Rw} {q q' : List Nat}
    (hs : zq_s6 M ct (loc, stk, C, F, sto, raw, tok, n) q = some (g, rest, raw', q')) (hct : zq_okct ct = true) (hCall : zq_CallW FC w p l e R s m args below meth c Q cc nL i ct mc ms) (hF0 : zq_Fc FC P0 H0 R0) (hFX : zq_okFX w FX) (hMs : zq_okM n0 M) (hx0 : zq_ext n0 r0 r)
    (G : zq_G w nL r P h H ls st (loc, stk, C, F, sto, raw, tok, n)) (Fr : zq_Fr M r0 P0 h0 H0 R0 P h H locs) (Rn : zq_Rn H0 R0 r raw) (hc1 : cells + mc ≤ R.cells) (hc2 : slots + ms ≤ R.slots) (hdg : decode cc pc = .ok (i, zq_iln i))
    (kk : ∀ po ∈ ct.2.1, ∀ (r' : Nat → Int) (P' : zq_Ty) (h' : zq_H) (H' : Heap) (locs' : List Loc) (st' : List Value), zq_ext n r r' → zq_G w nL r' P' h' H' ls st' (zq_after FX g ct.2.2 ct.1.2.2.2.2.2.2.2 loc rest C F sto raw' tok n po) → zq_Fr M r0 P0 h0 H0 R0 P' h' H' locs' → zq_Rn H0 R0 r' raw' → W p l e R s m args below meth c H' locs' (cells + mc) (slots + ms) Q (F0 m (pc + zq_iln i) ls st')) :
    W p l e R s m args below meth c H locs cells slots Q (F0 m pc ls st) := by
  obtain ⟨hl, hst, oL, oT, Me⟩ := G
  simp only at hl hst oL oT Me
  simp only [zq_okct, Bool.and_eq_true, List.all_eq_true] at hct
  obtain ⟨hw1, hw2, hw3⟩ := hct
  unfold zq_s6 at hs
  simp only at hs
  split at hs
  · rename_i j q0
    split at hs
    · rename_i g0 q1 hg
      split at hs
      · rename_i sel raw1 hsel
        cases hcd : (zq_mtk g0 (zq_args ct) (stk.take (zq_args ct).length).reverse && Nat.ble (((stk.drop (zq_args ct).length).map (fun x => bif Nat.beq x.1 1 then 2 else 1)).sum) 8) with
        | false => rw [hcd] at hs; cases hs
        | true =>
          rw [hcd] at hs
          simp only [cond_true] at hs
          simp only [Bool.and_eq_true] at hcd
          split at hs
          · rename_i q2 hmt
            split at hs
            · rename_i q3 hmcv
              cases hs
              have hk := zq_mtk_ok hcd.1
              have hcat := Nat.le_of_ble_eq_true hcd.2
              have hglen := zq_rdG_len hg
              -- the objects in the making that go along, and the others
              have hraw : (∀ x ∈ sel, x ∈ raw) ∧ (∀ x ∈ raw', x ∈ raw) ∧ sel.Pairwise (fun x y => zq_ev r x.1 ≠ zq_ev r y.1) ∧ raw'.Pairwise (fun x y => zq_ev r x.1 ≠ zq_ev r y.1) ∧ ∀ x ∈ sel, ∀ y ∈ raw', zq_ev r x.1 ≠ zq_ev r y.1 := by
                have hpw := Me.2.2.2.2.1.2
                match j, hsel with
                | 0, hsel =>
                  cases hsel
                  exact ⟨fun x hx => (by cases hx), fun x hx => hx, List.Pairwise.nil, hpw, fun x hx => (by cases hx)⟩
                | j + 1, hsel =>
                  simp only at hsel
                  split at hsel
                  · rename_i x hx
                    cases hsel
                    have hjlt : j < raw.length := (List.getElem?_eq_some_iff.mp hx).1
                    have hjx : raw[j] = x := (List.getElem?_eq_some_iff.mp hx).2
                    refine ⟨fun y hy => by rw [List.mem_singleton.mp hy]; exact List.mem_of_getElem? hx, fun y hy => (List.eraseIdx_sublist raw j).subset hy, List.pairwise_singleton _ _, hpw.sublist (List.eraseIdx_sublist raw j), fun y hy z hz => ?_⟩
                    rw [List.mem_singleton.mp hy]
                    obtain ⟨i', hlt, hne, ex⟩ := List.mem_eraseIdx_iff_getElem.mp hz
                    rcases Nat.lt_or_gt_of_ne hne with h1 | h1
                    · have := List.pairwise_iff_getElem.mp hpw i' j hlt hjlt h1
                      rw [hjx, ex] at this
                      exact fun z => this z.symm
                    · have := List.pairwise_iff_getElem.mp hpw j i' hjlt hlt h1
                      rw [hjx, ex] at this
                      exact this
                  · cases hsel
              obtain ⟨hr1, hr2, hr3, hr4, hr5⟩ := hraw
              have MeSel : zq_Me w r P h H C F sto sel tok n := ⟨Me.1, Me.2.1, Me.2.2.1, Me.2.2.2.1, ⟨fun x hx => Me.2.2.2.2.1.1 x (hr1 x hx), hr3⟩, Me.2.2.2.2.2⟩
              have Mc := zq_mtM_ok (S := (loc, stk, C, F, sto, sel, tok, n)) hmt hw1 MeSel
              have hbdg : zq_bdg n g = true := by
                unfold zq_mtM at hmt
                cases hcc : (zq_bdg n g && (ct.1.2.2.2.1.all (zq_mtF g F) && (ct.1.2.2.2.2.1.all (zq_mtS g sto) && (zq_mtR g ct.1.2.2.2.2.2.1 sel && ct.1.2.2.2.2.2.2.1.all (zq_mtX g tok))))) with
                | false => simp only at hmt; rw [hcc] at hmt; cases hmt
                | true => simp only [Bool.and_eq_true] at hcc; exact hcc.1
              have hselR : ct.1.2.2.2.2.2.1.map (fun x => (zq_sb g x.1, x.2.1, x.2.2.map (fun y => (y.1, zq_sb g y.2)))) = sel := by
                unfold zq_mtM at hmt
                cases hcc : (zq_bdg n g && (ct.1.2.2.2.1.all (zq_mtF g F) && (ct.1.2.2.2.2.1.all (zq_mtS g sto) && (zq_mtR g ct.1.2.2.2.2.2.1 sel && ct.1.2.2.2.2.2.2.1.all (zq_mtX g tok))))) with
                | false => simp only at hmt; rw [hcc] at hmt; cases hmt
                | true => simp only [Bool.and_eq_true] at hcc; exact zq_mtR_ok hcc.2.2.2.1
              have hRc : ∀ a, zq_R0 (zq_sv r g) ct.1.2.2.2.2.2.1 a ↔ ∃ x ∈ sel, zq_ev r x.1 = (a : Int) := by
                intro a
                unfold zq_R0
                rw [← hselR]
                constructor
                · rintro ⟨x, hx, hxa⟩
                  exact ⟨_, List.mem_map.mpr ⟨x, hx, rfl⟩, by simp only; rw [zq_ev_sb]; exact hxa⟩
                · rintro ⟨y, hy, hya⟩
                  obtain ⟨x, hx, rfl⟩ := List.mem_map.mp hy
                  exact ⟨x, hx, by simp only at hya; rw [zq_ev_sb] at hya; exact hya⟩
              have hRnc : ∀ a, zq_R0 (zq_sv r g) ct.1.2.2.2.2.2.1 a → zq_nw H0 R0 a := by
                intro a ha
                obtain ⟨x, hx, hxa⟩ := (hRc a).mp ha
                exact Rn x (hr1 x hx) a hxa
              -- the arguments
              have hwA := hw1
              have hargs : zq_sts (zq_sv r g) (zq_args ct) = (zq_sts r (stk.take (zq_args ct).length)).reverse := by
                have e1 : zq_sts (zq_sv r g) (zq_args ct) = zq_sts r ((stk.take (zq_args ct).length).reverse) := by
                  rw [← hk]
                  simp only [zq_sts, List.map_map]
                  exact List.map_congr_left fun x _ => by simp only [Function.comp]; rw [zq_ev_sb]
                rw [e1]; simp only [zq_sts, List.map_reverse]
              have hokA : zq_okT (zq_sv r g) ct.1.2.2.2.2.2.2.2 (zq_args ct) := by
                intro x hx
                obtain ⟨⟨pl, pr, pA, pB, pC, pD, pE, pF⟩, po, pm⟩ := ct
                simp only [zq_wf, Bool.and_eq_true, List.all_eq_true] at hwA
                obtain ⟨y, hy, rfl⟩ := List.mem_map.mp hx
                refine ⟨hwA.1 y hy, ?_⟩
                have hmem : (y.2.1, zq_sb g y.2.2) ∈ stk := by
                  have : (y.2.1, zq_sb g y.2.2) ∈ (stk.take (zq_args ((pl, pr, pA, pB, pC, pD, pE, pF), po, pm)).length).reverse := by
                    rw [← hk]; exact List.mem_map.mpr ⟨y.2, List.mem_map.mpr ⟨y, hy, rfl⟩, rfl⟩
                  exact List.mem_of_mem_take (List.mem_reverse.mp this)
                have := (oT _ hmem).2
                simp only at this
                rw [zq_ev_sb] at this; exact this
              have hsplit : st = (zq_sts (zq_sv r g) (zq_args ct)).reverse ++ zq_sts r (stk.drop (zq_args ct).length) := by
                rw [hargs, List.reverse_reverse, hst]
                simp only [zq_sts]
                rw [← List.map_append, List.take_append_drop]
              have hcat2 : ((zq_sts r (stk.drop (zq_args ct).length)).map fun v => v.category).sum ≤ 8 := by
                simp only [zq_sts, List.map_map]
                have e1 : (stk.drop (zq_args ct).length).map ((fun v => v.category) ∘ fun x => zq_val x.1 (zq_ev r x.2)) = (stk.drop (zq_args ct).length).map (fun x => bif Nat.beq x.1 1 then 2 else 1) := List.map_congr_left fun x _ => by simp only [Function.comp]; rw [zq_val_cat]
                rw [e1]; exact hcat
              rw [hsplit]
              refine hCall (zq_sv r g) P h H locs cells slots pc ls _ hokA Mc (hF0.at Fr hRnc) hcat2 hl.1 hc1 hc2 hdg fun po hpo r2 P' h' H' L hx2 ho2 M2 cf hL => ?_
              have hw := hw3 po hpo
              obtain ⟨v1, v2, v3, v4⟩ := hw
              have v4 := Nat.le_of_ble_eq_true v4
              have v2 := v2
              generalize hnp : ct.1.2.2.2.2.2.2.2 = np at *
              obtain ⟨pres, pl, ps, pC, pF, pS, pR, pX, pn⟩ := po
              simp only at ho2 M2 v1 v2 v3 v4
              -- the new variables
              let r' : Nat → Int := fun i => if i < n then r i else r2 (np + (i - n))
              have hxr : zq_ext n r r' := fun i hi => by show (if i < n then _ else _) = _; rw [if_pos hi]
              let g' := g ++ zq_nv n (pn - np)
              have hsv : ∀ i, i < pn → zq_sv r' g' i = r2 i := by
                intro i hi
                unfold zq_sv
                rw [List.getD_eq_getElem?_getD]
                by_cases h1 : i < np
                · rw [List.getElem?_append_left (by omega)]
                  have hb := zq_bdg_get hbdg i
                  rw [List.getD_eq_getElem?_getD] at hb
                  rw [zq_ev_ext hxr hb, hx2 i h1]
                  unfold zq_sv
                  rw [List.getD_eq_getElem?_getD]
                · rw [List.getElem?_append_right (by omega), hglen, zq_nv_get _ _ _ (by omega)]
                  show zq_ev r' (zq_v (n + (i - np))) = _
                  rw [zq_ev_v]
                  show (if n + (i - np) < n then _ else r2 (np + (n + (i - np) - n))) = _
                  rw [if_neg (by omega)]
                  congr 1; omega
              have hev : ∀ ex : zq_L, zq_bd pn ex = true → zq_ev r' (zq_sb g' ex) = zq_ev r2 ex := by
                intro ex hb
                rw [zq_ev_sb]
                exact zq_ev_ext (n := pn) (fun i hi => hsv i hi) hb
              have hn' : n ≤ n + (pn - np) := Nat.le_add_right _ _
              have hbg' : zq_bdg (n + (pn - np)) g' = true := by
                refine List.all_eq_true.mpr fun ex hex => ?_
                rcases List.mem_append.mp hex with hex | hex
                · exact zq_bd_mono hn' (List.all_eq_true.mp hbdg ex hex)
                · exact zq_nv_bd _ _ _ (Nat.le_refl _) ex hex
              simp only [zq_wf, Bool.and_eq_true, List.all_eq_true] at v1
              obtain ⟨-, -, u3, u4, u5, -, u7⟩ := v1
              have hFr := zq_Cf.fr Fr cf hL (zq_mcv_kd hmcv) (zq_mcv_ok Me.2.1.1 hMs hx0 hmcv) hRnc
              obtain ⟨f1, f2, f3, f4, f5⟩ := cf
              have MeX := Me.ext hn' hxr
              have hX' := hxr
              refine kk _ hpo r' P' h' H' (locs ++ L) _ hxr ⟨by show lv_has ls nL (zq_lvs r' loc); rw [zq_lvs.ext hxr oL]; exact hl, ?_, oL.ext hn' hxr, ?_, M2.1, ⟨?_, ?_⟩, ?_, ?_, ⟨?_, ?_⟩, ?_⟩ hFr ?_
              · show _ = zq_sts r' (pres.map (fun x => (x.1, zq_sb g' x.2)) ++ stk.drop (zq_args ct).length)
                simp only [zq_sts, List.map_append, List.map_map]
                congr 1
                · exact List.map_congr_left fun x hx => by simp only [Function.comp]; rw [hev x.2 (v2 x hx)]
                · exact (zq_sts.ext hxr (fun y hy => oT y (List.mem_of_mem_drop hy))).symm
              · intro x hx
                rcases List.mem_append.mp hx with hx | hx
                · obtain ⟨y, hy, rfl⟩ := List.mem_map.mp hx
                  refine ⟨zq_bd_sb hbg' y.2, ?_⟩
                  show zq_rg y.1 (zq_ev r' (zq_sb g' y.2))
                  rw [hev y.2 (v2 y hy)]
                  exact (ho2 y hy).2
                · exact (oT.ext hn' hxr) x (List.mem_of_mem_drop hx)
              · intro x hx
                rcases List.mem_append.mp hx with hx | hx
                · obtain ⟨y, hy, rfl⟩ := List.mem_map.mp hx
                  rw [hev y (u3 y hy)]; exact M2.2.1.1 y hy
                · exact MeX.2.1.1 x hx
              · intro x hx
                rcases List.mem_append.mp hx with hx | hx
                · obtain ⟨y, hy, rfl⟩ := List.mem_map.mp hx
                  exact zq_bd_sb hbg' y
                · exact MeX.2.1.2 x hx
              · intro x hx
                rcases List.mem_append.mp hx with hx | hx
                · obtain ⟨y, hy, rfl⟩ := List.mem_map.mp hx
                  refine ⟨zq_bd_sb hbg' y.1, fun a ha => ?_⟩
                  have ha : zq_ev r' (zq_sb g' y.1) = (a : Int) := ha
                  rw [hev y.1 (u4 y hy)] at ha
                  exact (M2.2.2.1 y hy).2 a ha
                · exact (MeX.2.2.1.le f3) x hx
              · intro x hx
                rcases List.mem_append.mp hx with hx | hx
                · obtain ⟨y, hy, rfl⟩ := List.mem_map.mp hx
                  have hub := u5 y hy
                  refine ⟨zq_bd_sb hbg' _, zq_bd_sb hbg' _, zq_bd_sb hbg' _, ?_⟩
                  simp only
                  rw [hev _ hub.1, hev _ hub.2.1, hev _ hub.2.2]
                  obtain ⟨-, -, -, hrest⟩ := M2.2.2.2.1 y hy
                  exact hrest
                · obtain ⟨hx1, hx2'⟩ := List.mem_filter.mp hx
                  obtain ⟨b1, b2, b3, a, e1, e2, e3⟩ := Me.2.2.2.1 x hx1
                  refine ⟨zq_bd_mono hn' b1, zq_bd_mono hn' b2, zq_bd_mono hn' b3, a, by rw [zq_ev_ext hxr b1]; exact e1, ?_, ?_⟩
                  · cases hp : P a with
                    | none => exact absurd hp e2
                    | some k => rw [f3 a k hp]; exact Option.some_ne_none _
                  · rw [zq_ev_ext hxr b2, zq_ev_ext hxr b3, ← e3]
                    cases hp : P a with
                    | none => exact absurd hp e2
                    | some k =>
                      refine f4 a k _ hp ?_
                      unfold zq_scf at hx2'
                      split at hx2'
                      · rename_i hc0
                        rw [zq_ev_c hc0]
                        simp only [Bool.or_eq_true, decide_eq_true_eq] at hx2'
                        rcases hx2' with z | z
                        · rintro ⟨z1, -⟩; omega
                        · split at z
                          · rename_i k' hk'
                            have hPk := (Me.2.2.1 _ (zq_kd_ok hk')).2 a e1
                            have ekk : k = k' := Option.some.inj (hp.symm.trans hPk)
                            rw [ekk]
                            exact zq_dsj_ok z (Int.le_refl _) (Int.le_refl _)
                          · cases z
                      · split at hx2'
                        · rename_i k' hk'
                          have hPk := (Me.2.2.1 _ (zq_kd_ok hk')).2 a e1
                          have ekk : k = k' := Option.some.inj (hp.symm.trans hPk)
                          rintro ⟨-, y, hy, hy1, -⟩
                          have := List.all_eq_true.mp hx2' y hy
                          rw [hy1, ekk] at this
                          simp at this
                        · cases hx2'
              · intro x hx
                obtain ⟨b, hb⟩ := Me.2.2.2.2.1.1 x (hr2 x hx)
                have hlt := zq_raw_lt hb
                obtain ⟨y1, y2, y3, y4, y5⟩ := hb.ext hn' hxr
                have hnR : ¬ zq_R0 (zq_sv r g) ct.1.2.2.2.2.2.1 b := by
                  intro z
                  obtain ⟨x', hx', hxa⟩ := (hRc b).mp z
                  exact hr5 x' hx' x hx (hxa.trans hb.2.2.1.symm)
                have hnw : ¬ zq_nw H (zq_R0 (zq_sv r g) ct.1.2.2.2.2.2.1) b := by
                  rintro (z | z)
                  · omega
                  · exact hnR z
                refine ⟨b, y1, y2, y3, ?_, y5.kept fun k' y hy => ?_⟩
                · cases hp : P' b with
                  | none => rfl
                  | some k =>
                    rcases f5 b k hp with z | z
                    · rw [y4] at z; cases z
                    · exact absurd z.2 hnw
                · match k', hy with
                  | 0, hy =>
                    cases hy
                    refine f2 b hlt ?_
                    rintro (⟨k, z, -⟩ | z)
                    · rw [y4] at z; cases z
                    · exact hnw z
              · refine List.Pairwise.imp_of_mem ?_ hr4
                intro x y hx hy z
                obtain ⟨b, hb⟩ := Me.2.2.2.2.1.1 x (hr2 x hx)
                obtain ⟨b2, hb2⟩ := Me.2.2.2.2.1.1 y (hr2 y hy)
                rw [zq_ev_ext hxr hb.1, zq_ev_ext hxr hb2.1]; exact z
              · intro x hx
                rcases List.mem_append.mp hx with hx | hx
                · obtain ⟨y, hy, rfl⟩ := List.mem_map.mp hx
                  refine ⟨fun ex hex => ?_, ?_⟩
                  · obtain ⟨z, -, rfl⟩ := List.mem_map.mp hex
                    exact zq_bd_sb hbg' z
                  · have hz := (M2.2.2.2.2.2 y hy).2
                    simp only [List.map_map]
                    rw [show y.2.map (zq_ev r' ∘ zq_sb g') = y.2.map (zq_ev r2) from List.map_congr_left fun z hz => by simp only [Function.comp]; exact hev z (u7 y hy z hz)]
                    exact hz
                · obtain ⟨hx1, hx2'⟩ := List.mem_filter.mp hx
                  refine ⟨fun ex hex => zq_bd_mono hn' ((Me.2.2.2.2.2 x hx1).1 ex hex), ?_⟩
                  rw [show x.2.map (zq_ev r') = x.2.map (zq_ev r) from List.map_congr_left fun z hz => zq_ev_ext hxr ((Me.2.2.2.2.2 x hx1).1 z hz)]
                  unfold zq_tkc at hx2'
                  split at hx2'
                  · rename_i rs hrs
                    refine hFX _ (zq_fxo_ok hrs) _ P P' h h' f3 (fun a k jj ha hy => ?_) (Me.2.2.2.2.2 x hx1).2
                    obtain ⟨y, hy1, hy2, hy3, hy4⟩ := hy
                    refine f4 a k jj ha ?_
                    rw [← hy2]
                    exact zq_dsj_ok (List.all_eq_true.mp hx2' y hy1) hy3 hy4
                  · cases hx2'
              · intro x hx b hb
                obtain ⟨d, hd⟩ := Me.2.2.2.2.1.1 x (hr2 x hx)
                exact Rn x (hr2 x hx) b (by rw [← zq_ev_ext hxr hd.1]; exact hb)
            · cases hs
          · cases hs
      · cases hs
    · cases hs
  · cases hs
end ZQS6
