section ZQS3
variable {p : Program} {l : Launch} {e : Env} {R : Room} {s : State} {m : MethodId} {args : Array Value} {below : List Frame} {meth : Method} {c : Code} {H : Heap} {locs : List Loc} {cells slots : Nat} {Q : State → Prop}
variable {cc : ByteArray} {pc : Nat} {ls : Array Slot} {st : List Value} {w : zq_Wd} {nL n0 : Nat} {r r0 : Nat → Int} {P P0 : zq_Ty} {h h0 : zq_H} {H0 : Heap} {R0 : Nat → Prop} {own : String} {Ts : List Cond} {TY : List FieldType} {FL : zq_FL} {FT : List (List Nat)} {FN : List (List Bool)} {AC : List Nat} {FX : zq_FX} {M : zq_Ms} {ini : Bool} {oc : Nat}
theorem zq_updV_wr {t : Nat} {h : zq_H} {a : Nat} {ei v : Int} (h0 : 0 ≤ ei) : updV (fun j : Nat => zq_val t (h a j)) ei.toNat (zq_val t v) = fun j : Nat => zq_val t (zq_wr h a ei v a j) := by
  funext j
  unfold updV
  by_cases e : j = ei.toNat
  · rw [if_pos e]
    have : (j : Int) = ei := by omega
    rw [this, zq_wr_self]
  · rw [if_neg e, zq_wr_ne (fun z => e (by omega))]
/-- what a store into an array does to memory -/
noncomputable def zq_wt (r : Nat → Int) (P : zq_Ty) (h : zq_H) (F : List (zq_L × Nat)) (stk : List (Nat × zq_L)) (h' : zq_H) : Prop := (∀ (t : Nat) (ev ei er : zq_L) (stk' : List (Nat × zq_L)), stk = (t, ev) :: (0, ei) :: (2, er) :: stk' → ∃ a k : Nat, zq_kd F er = some k ∧ P a = some k ∧ zq_ev r er = (a : Int) ∧ h' = zq_wr h a (zq_ev r ei) (zq_ev r ev)) ∧ ∀ (t : Nat) (ev er : zq_L) (stk' : List (Nat × zq_L)), stk = (t, ev) :: (2, er) :: stk' → h' = h ∨ ∃ (a : Nat) (j v : Int), zq_ev r er = (a : Int) ∧ h' = zq_wr h a j v
set_option maxHeartbeats 8000000 in
theorem zq_s3_ok {i : Instr} {len : Nat} {S S' : zq_S} {q q' : List Nat} (hs : zq_s3 w.2.2.2.1 TY FL FT FN AC FX M ini oc i len S q = some (S', q')) (hM : zq_Mc p s m args c cc own Ts) (hFL : zq_okFL own Ts w.2.1 FL) (hCI : zq_okCI Ts w.2.1 FT FN) (hAC : zq_okAC w.2.1 TY AC) (hFX : zq_okFX w FX) (hini : ini = true → meth.name = "<init>" ∧ ∀ rc, w.2.1[oc]? = some rc → ∀ f, f < rc.2.2 → (rc.2.1 f).1 = own) (hK : va_K w.1 w.2.1 w.2.2.1 s) (hTY : w.2.2.1.map Prod.snd = TY) (hMs : zq_okM n0 M) (hx0 : zq_ext n0 r0 r)
    (G : zq_G w nL r P h H ls st S) (Fr : zq_Fr M r0 P0 h0 H0 R0 P h H locs) (Rn : zq_Rn H0 R0 r S.2.2.2.2.2.1) (hdg : decode cc pc = .ok (i, len))
    (kk : S'.2.2.2.2.2.2.2 = S.2.2.2.2.2.2.2 → ∀ (h' : zq_H) (H' : Heap) (locs' : List Loc) (st' : List Value), zq_wt r P h S.2.2.2.1 S.2.1 h' → zq_G w nL r P h' H' ls st' S' → zq_Fr M r0 P0 h0 H0 R0 P h' H' locs' → zq_Rn H0 R0 r S'.2.2.2.2.2.1 → W p l e R s m args below meth c H' locs' cells slots Q (F0 m (pc + len) ls st')) :
    W p l e R s m args below meth c H locs cells slots Q (F0 m pc ls st) := by
  obtain ⟨hexec, hb, hown, hts⟩ := hM
  obtain ⟨loc, stk, C, F, sto, raw, tok, n⟩ := S
  obtain ⟨hl, hst, oL, oT, Me⟩ := G
  simp only at hl hst oL oT Me kk Rn
  have hC := Me.2.1.1
  unfold zq_s3 at hs
  simp only at hs
  split at hs
  · rename_i cp t ev er stk'
    cases hc : Nat.beq 3 len with
    | false => rw [hc] at hs; cases hs
    | true =>
      rw [hc] at hs
      simp only [cond_true] at hs
      have e1 := Nat.eq_of_beq_eq_true hc
      subst e1
      split at hs
      · rename_i ci f hfl
        obtain ⟨rc, hrc, hf, hlink, hin⟩ := hFL _ (zq_fl_ok hfl)
        simp only at hrc hf hlink
        obtain ⟨-, hnm, ty0, row0, hty0, hrow0, hlen0, hcode0, hfin0⟩ := hCI ci rc hrc
        have ov := oT (t, ev) List.mem_cons_self
        have o1 := oT (2, er) (List.mem_cons_of_mem _ List.mem_cons_self)
        have oT' : zq_okT r n stk' := fun y hy => oT y (List.mem_cons_of_mem _ (List.mem_cons_of_mem _ hy))
        split at hs
        · rename_i row fin hrow hfin
          have erow : row0 = row := Option.some.inj (hrow0.symm.trans hrow)
          subst erow
          have efin : (rc.2.1 f).2.2.2 = fin := Option.some.inj ((hfin0 f hf).symm.trans hfin)
          split at hs
          · rename_i code hcode
            have ecode : zq_fcd (ty0 f) = code := Option.some.inj ((hcode0 f hf).symm.trans hcode)
            split at hs
            · rename_i q1 hfit
              obtain ⟨hnar, hfits⟩ := zq_fit_ok hfit ecode hC
              cases hfn : fin with
              | true => rw [hfn] at hs; cases hs
              | false =>
                rw [hfn] at hs
                simp only [cond_false] at hs
                split at hs
                · rename_i K q2 hkn
                  cases hc2 : (Nat.beq K.1 0 && Nat.beq K.2.1 ci) with
                  | false => rw [hc2] at hs; cases hs
                  | true =>
                    rw [hc2] at hs
                    simp only [cond_true] at hs
                    simp only [Bool.and_eq_true] at hc2
                    have k0 := Nat.eq_of_beq_eq_true hc2.1
                    have k1 := Nat.eq_of_beq_eq_true hc2.2
                    subst k1
                    split at hs
                    · rename_i T k hT hkd
                      split at hs
                      · rename_i q3 hvck
                        split at hs
                        · rename_i q4 hmck
                          split at hs
                          · rename_i q5 hrck
                            cases hs
                            obtain ⟨a, k', hkd', hKT, ha, hP, hcell, -, hty, hrel⟩ := zq_kn_ok hkn Me
                            have ek : k' = k := Option.some.inj (hkd'.symm.trans hkd)
                            subst ek
                            obtain ⟨rc', hrc', hOB⟩ := zq_cell0 hcell k0
                            have er' : rc' = rc := Option.some.inj (hrc'.symm.trans hrc)
                            subst er'
                            obtain ⟨et, htk⟩ := zq_vck_ok hvck hC Me.2.2.1 ov.2
                            have htg : zq_tg K f = t := by unfold zq_tg; rw [hc2.1, hT, et]; rfl
                            have hmd := zq_mck_ok hmck hC hMs hx0 (by rw [zq_ev_k]; omega)
                            rw [zq_ev_k] at hmd
                            rw [hlen0] at hrck
                            have hrel' := zq_rck_ok k0 hrc hf hC Me.2.2.2.1 ha hrel hrck
                            rw [hst]
                            show W p l e R s m args below meth c H locs cells slots Q (F0 m pc ls (zq_val t (zq_ev r ev) :: zq_val 2 (zq_ev r er) :: zq_sts r stk'))
                            rw [ha, zq_val_of (Nat.le_refl 2)]
                            refine zq_putR hexec hb hts hin ty0 hty0 hnm hown hK hOB hrc f hf (hts _ hlink) (Or.inl (by rw [efin, hfn])) hnar hfits hdg fun H1 j hO1 hz1 ho1 => ?_
                            have hcell' : zq_cell w K (zq_wr h a f (zq_ev r ev) a) a H1 := by
                              simp only [zq_cell, k0]
                              refine ⟨rc', hrc, hO1.to fun i hi => ?_⟩
                              unfold updV
                              by_cases eif : i = f
                              · rw [if_pos eif, eif, zq_wr_self, htg]
                              · rw [if_neg eif, zq_wr_ne (fun z => eif (by omega))]
                            have hHT := Me.1.put (v := zq_ev r ev) (i := (f : Int)) hP hKT (by omega) hcell' ho1 (by rw [Int.toNat_natCast]; exact hT) htk hrel'
                            have hS := Me.2.2.2.1.put (ps := []) (ei := zq_k (f : Int)) (ev := ev) Me.2.2.1 ha hP o1.1 zq_bd_k ov.1 (by rw [zq_ev_k]; omega) (fun p hp => by cases hp)
                            have hX := zq_okX.put hFX (ei := zq_k (f : Int)) (v := zq_ev r ev) Me.2.2.2.2.2 hP
                            rw [zq_ev_k] at hS hX
                            exact kk rfl _ H1 _ _ ⟨fun _ _ _ _ _ z => (by cases z), fun _ _ _ _ z => (by cases z; exact Or.inr ⟨a, _, _, ha, rfl⟩)⟩ ⟨hl, rfl, oL, oT', hHT, Me.2.1, Me.2.2.1, hS, Me.2.2.2.2.1.put hP ho1, hX⟩ (Fr.put hP hmd hz1 ho1) Rn
                          · cases hs
                        · cases hs
                      · cases hs
                    · cases hs
                · cases hs
            · rename_i j q1 hfit
              obtain ⟨hnar, hfits⟩ := zq_fit_ok hfit ecode hC
              cases hfi : (!fin || (ini && Nat.beq ci oc)) with
              | false => rw [hfi] at hs; cases hs
              | true =>
                rw [hfi] at hs
                simp only [cond_true] at hs
                split at hs
                · rename_i ra ci' fs hraw
                  obtain ⟨hc2, hE⟩ := zq_bif hs
                  cases hE
                  simp only [Bool.and_eq_true, zq_blt] at hc2
                  have k0 := zq_eq_ok hc2.1
                  have k1 := Nat.eq_of_beq_eq_true hc2.2.1
                  have k2 := hc2.2.2
                  subst k0; subst k1
                  obtain ⟨a, g1, g2, g3, g4, g5⟩ := Me.2.2.2.2.1.1 _ (List.mem_of_getElem? hraw)
                  simp only at g1 g2 g3 g5
                  obtain ⟨rc', hrc', hOB⟩ := g5 0 _ rfl
                  have er' : rc' = rc := Option.some.inj (hrc'.symm.trans hrc)
                  subst er'
                  have hfin1 : (rc'.2.1 f).2.2.2 = false ∨ (meth.name = "<init>" ∧ (rc'.2.1 f).1 = own) := by
                    rw [efin]
                    cases hfn : fin with
                    | false => exact Or.inl rfl
                    | true =>
                      rw [hfn] at hfi
                      simp only [Bool.not_true, Bool.false_or, Bool.and_eq_true] at hfi
                      have hoc := Nat.eq_of_beq_eq_true hfi.2
                      obtain ⟨i1, i2⟩ := hini hfi.1
                      exact Or.inr ⟨i1, i2 rc' (by rw [← hoc]; exact hrc) f hf⟩
                  rw [hst]
                  show W p l e R s m args below meth c H locs cells slots Q (F0 m pc ls (zq_val t (zq_ev r ev) :: zq_val 2 (zq_ev r ra) :: zq_sts r stk'))
                  rw [g3, zq_val_of (Nat.le_refl 2)]
                  refine zq_putR hexec hb hts hin ty0 hty0 hnm hown hK hOB hrc f hf (hts _ hlink) hfin1 hnar hfits hdg fun H1 j' hO1 hz1 ho1 => ?_
                  have hnw := Rn _ (List.mem_of_getElem? hraw) a g3
                  have hpw := Me.2.2.2.2.1.2
                  have hjlt : j < raw.length := (List.getElem?_eq_some_iff.mp hraw).1
                  have hjx : raw[j] = (ra, ci', fs) := (List.getElem?_eq_some_iff.mp hraw).2
                  refine kk rfl h H1 _ _ ⟨fun _ _ _ _ _ z => (by cases z), fun _ _ _ _ _ => Or.inl rfl⟩ ⟨hl, rfl, oL, oT', ?_, Me.2.1, Me.2.2.1, Me.2.2.2.1, ⟨?_, ?_⟩, Me.2.2.2.2.2⟩ (Fr.putR hnw hz1 ho1) ?_
                  · intro b k hb'
                    have hne : b ≠ a := fun z => by rw [z, g4] at hb'; cases hb'
                    obtain ⟨K, y1, y2, y3⟩ := Me.1 b k hb'
                    exact ⟨K, y1, y2.kept (ho1 b hne), y3⟩
                  · intro x hx
                    obtain ⟨i', hi', ex⟩ := List.mem_iff_getElem.mp hx
                    rw [List.length_set] at hi'
                    rw [List.getElem_set] at ex
                    split at ex
                    · subst ex
                      refine ⟨a, g1, ?_, g3, g4, ?_⟩
                      · intro y hy
                        rcases List.mem_or_eq_of_mem_set hy with hy | rfl
                        · exact g2 y hy
                        · exact ov
                      · intro k y hy
                        match k, hy with
                        | 0, hy =>
                          cases hy
                          refine ⟨rc', hrc, hO1.to fun i hi => ?_⟩
                          simp only [List.map_set]
                          exact vp_updV_set (by rw [List.length_map]; exact k2) _ i
                    · rename_i hne
                      have hm : x ∈ raw := by rw [← ex]; exact List.getElem_mem _
                      obtain ⟨b, y1, y2, y3, y4, y5⟩ := Me.2.2.2.2.1.1 x hm
                      have hba : b ≠ a := by
                        intro z
                        rw [z] at y3
                        rcases Nat.lt_or_gt_of_ne hne with hlt | hgt
                        · have := List.pairwise_iff_getElem.mp hpw j i' hjlt hi' hlt
                          rw [hjx, ex, g3, y3] at this
                          exact this rfl
                        · have := List.pairwise_iff_getElem.mp hpw i' j hi' hjlt hgt
                          rw [hjx, ex, g3, y3] at this
                          exact this rfl
                      refine ⟨b, y1, y2, y3, y4, y5.kept fun k' y hy => ?_⟩
                      match k', hy with
                      | 0, hy => cases hy; exact ho1 b hba
                  · refine List.pairwise_iff_getElem.mpr fun i1 i2 h1 h2 h12 => ?_
                    rw [List.length_set] at h1 h2
                    have hz := List.pairwise_iff_getElem.mp hpw i1 i2 h1 h2 h12
                    have hev : ∀ i' (hi' : i' < (raw.set j (ra, ci', fs.set f (t, ev))).length) (hi2 : i' < raw.length), zq_ev r (raw.set j (ra, ci', fs.set f (t, ev)))[i'].1 = zq_ev r raw[i'].1 := by
                      intro i' hi' hi2
                      rw [List.getElem_set]
                      split
                      · rename_i e'; subst e'; rw [hjx]
                      · rfl
                    rw [hev i1 _ h1, hev i2 _ h2]
                    exact hz
                  · intro x hx b hb'
                    rcases List.mem_or_eq_of_mem_set hx with hx | rfl
                    · exact Rn x hx b hb'
                    · exact Rn _ (List.mem_of_getElem? hraw) b hb'
                · cases hs
            · cases hs
          · cases hs
        · cases hs
      · cases hs
  · rename_i i0 sd t ev ei er stk'
    cases hc : Nat.beq 1 len with
    | false => rw [hc] at hs; cases hs
    | true =>
      rw [hc] at hs
      simp only [cond_true] at hs
      have e1 := Nat.eq_of_beq_eq_true hc
      subst e1
      have ov := oT (t, ev) List.mem_cons_self
      have oi := oT (0, ei) (List.mem_cons_of_mem _ List.mem_cons_self)
      have o1 := oT (2, er) (List.mem_cons_of_mem _ (List.mem_cons_of_mem _ List.mem_cons_self))
      have oT' : zq_okT r n stk' := fun y hy => oT y (List.mem_cons_of_mem _ (List.mem_cons_of_mem _ (List.mem_cons_of_mem _ hy)))
      split at hs
      · rename_i K q1 hkn
        cases hk0 : Nat.beq K.1 0 with
        | true => rw [hk0] at hs; cases hs
        | false =>
          rw [hk0] at hs
          simp only [cond_false] at hs
          have k0 : K.1 ≠ 0 := fun z => by rw [z] at hk0; cases hk0
          split at hs
          · rename_i ty k hty hkd
            cases hal : zq_asti i (zq_ftc ty) with
            | false => rw [hal] at hs; cases hs
            | true =>
              rw [hal] at hs
              simp only [cond_true] at hs
              split at hs
              · rename_i q2 hfit
                split at hs
                · rename_i q3 hq3
                  split at hs
                  · rename_i q4 hq4
                    split at hs
                    · rename_i T q5 htx
                      cases htt : (Nat.beq T.1 K.2.2.2.2.2 && zq_cpk w.2.2.2.1 AC T K.2.1 (zq_ftc ty)) with
                      | false => rw [htt] at hs; cases hs
                      | true =>
                        rw [htt] at hs
                        simp only [cond_true] at hs
                        simp only [Bool.and_eq_true] at htt
                        have ett := Nat.eq_of_beq_eq_true htt.1
                        split at hs
                        · rename_i q6 hvck
                          split at hs
                          · rename_i cn q7 hmck
                            split at hs
                            · rename_i ps q8 hrdk
                              cases hs
                              obtain ⟨a, k', hkd', hKT, ha, hP, hcell, hlen, htys, hrel⟩ := zq_kn_ok hkn Me
                              have ek : k' = k := Option.some.inj (hkd'.symm.trans hkd)
                              subst ek
                              obtain ⟨cA, ty', ht, hcl⟩ := zq_cell1 hcell k0
                              have etyp : ty' = ty := by
                                have : (w.2.2.1.map Prod.snd)[K.2.1]? = some ty' := by rw [List.getElem?_map, ht]; rfl
                                rw [hTY, hty] at this; exact (Option.some.inj this).symm
                              subst etyp
                              have hl2 := hlen k0
                              have hi0 := zq_prove_ok hq3 hC
                              have hib := zq_bnd_ok (w := w) (a := a) hq4 hC Me.2.2.2.1 k0 hrel ha
                              have hiin : zq_in 0 (zq_ev r ei) := oi.2
                              have hi2 : zq_ev r ei ≤ 2147483647 := hiin.2
                              have hT := zq_tyx_ok htx hC hi0 (by omega)
                              obtain ⟨et, htk⟩ := zq_vck_ok hvck hC Me.2.2.1 ov.2
                              have hmd := zq_mck_ok hmck hC hMs hx0 hi0
                              have hA := (hK.2 _ _ ht).1
                              have hbd : zq_ev r ei < ((h a (-1)).toNat : Int) := by omega
                              have hps := zq_rdK_ok hC hrdk
                              have ete : t = K.2.2.2.2.2 := et.trans ett
                              have fin : ∀ (H1 : Heap), H1[a]? = some (arrV cA (h a (-1)).toNat (updV (fun j : Nat => zq_val K.2.2.2.2.2 (h a j)) (zq_ev r ei).toNat (zq_val t (zq_ev r ev)))) → H1.size = H.size → (∀ b : Nat, b ≠ a → H1[b]? = H[b]?) → W p l e R s m args below meth c H1 (locs ++ [⟨a, (zq_ev r ei).toNat⟩]) cells slots Q (F0 m (pc + 1) ls (zq_sts r stk')) := by
                                intro H1 hH1 hz1 ho1
                                rw [ete, zq_updV_wr hi0] at hH1
                                have hcell' : zq_cell w K (zq_wr h a (zq_ev r ei) (zq_ev r ev) a) a H1 := by
                                  obtain ⟨kx, hkx⟩ : ∃ kx, K.1 = kx + 1 := ⟨K.1 - 1, by omega⟩
                                  simp only [zq_cell, hkx]
                                  refine ⟨cA, ty', ht, ?_⟩
                                  rw [zq_wr_ne (h := h) (b := a) (j := -1) (by omega)]
                                  exact hH1
                                have hrel' : ∀ e ∈ K.2.2.2.2.1, 0 ≤ zq_ev (zq_re w K (zq_wr h a (zq_ev r ei) (zq_ev r ev)) a) e := by
                                  obtain ⟨kx, hkx⟩ : ∃ kx, K.1 = kx + 1 := ⟨K.1 - 1, by omega⟩
                                  have e9 : zq_re w K (zq_wr h a (zq_ev r ei) (zq_ev r ev)) a = zq_re w K h a := by
                                    simp only [zq_re, hkx]
                                    rw [zq_wr_ne (h := h) (b := a) (j := -1) (by omega)]
                                  rw [e9]; exact hrel
                                have hHT := Me.1.put (v := zq_ev r ev) (i := zq_ev r ei) hP hKT hi0 hcell' ho1 hT htk hrel'
                                have hS := Me.2.2.2.1.put (ps := ps) (ei := ei) (ev := ev) Me.2.2.1 ha hP o1.1 oi.1 ov.1 hi0 hps
                                have hX := zq_okX.put hFX (ei := ei) (v := zq_ev r ev) Me.2.2.2.2.2 hP
                                exact kk rfl _ H1 _ _ ⟨fun _ _ _ _ _ z => (by cases z; exact ⟨a, _, hkd, hP, ha, rfl⟩), fun _ _ _ _ z => (by cases z)⟩ ⟨hl, rfl, oL, oT', hHT, Me.2.1, Me.2.2.1, hS, Me.2.2.2.2.1.put hP ho1, hX⟩ (Fr.put hP hmd hz1 ho1) Rn
                              rw [hst]
                              show W p l e R s m args below meth c H locs cells slots Q (F0 m pc ls (zq_val t (zq_ev r ev) :: zq_val 0 (zq_ev r ei) :: zq_val 2 (zq_ev r er) :: zq_sts r stk'))
                              rw [ha, zq_val_of (Nat.le_refl 2)]
                              unfold zq_asti at hal
                              split at hal
                              · cases ty' <;> simp [zq_ftc] at hal
                                have e0 : t = 0 := Nat.eq_of_beq_eq_true (zq_bif hfit).1
                                subst e0
                                exact zq_astI hexec hb hcl hA hiin hi0 hbd hdg fin
                              · cases ty' <;> simp [zq_ftc] at hal
                                have e0 : t = 1 := Nat.eq_of_beq_eq_true (zq_bif hfit).1
                                subst e0
                                exact zq_astL hexec hb hcl hA hiin hi0 hbd hdg fin
                              · cases hty' : ty' <;> rw [hty'] at hal <;> simp [zq_ftc] at hal
                                rename_i Cn
                                subst hty'
                                have e0 : 2 ≤ t := Nat.le_of_ble_eq_true (zq_bif hfit).1
                                have hcp := htt.2
                                simp only [zq_cpk, Bool.or_eq_true] at hcp
                                rcases hcp with hz | hz
                                · simp [zq_ftc] at hz
                                · split at hz
                                  · rename_i K' ci hK' hci
                                    simp only [Bool.and_eq_true] at hz
                                    have z0 := Nat.eq_of_beq_eq_true hz.1
                                    have z1 := Nat.eq_of_beq_eq_true hz.2
                                    obtain ⟨T0, N0, hcl0⟩ := hAC _ _ _ hty hci
                                    generalize hzv : zq_ev r ev = zv at fin htk
                                    cases zv with
                                    | ofNat v0 =>
                                      have hPv := htk.2.2.2 (by rw [← et]; exact e0) v0 rfl
                                      obtain ⟨K2, y1, y2, -⟩ := Me.1 _ _ hPv
                                      have eK : K2 = K' := Option.some.inj (y1.symm.trans hK')
                                      subst eK
                                      obtain ⟨rc2, hrc2, hOB2⟩ := zq_cell0 y2 z0
                                      rw [z1] at hrc2 hOB2
                                      have erc : rc2 = (Cn, T0, N0) := Option.some.inj (hrc2.symm.trans hcl0)
                                      subst erc
                                      have evv : zq_val t (Int.ofNat v0) = .ref v0 := zq_val_of e0
                                      rw [evv] at fin ⊢
                                      exact zq_astA hexec hb hcl hK hcl0 (hK.2 _ _ ht).2 hOB2 hiin hi0 hbd hdg fin
                                    | negSucc v0 =>
                                      have evv : zq_val t (Int.negSucc v0) = .null := by
                                        obtain ⟨kx, rfl⟩ : ∃ kx, t = kx + 2 := ⟨t - 2, by omega⟩
                                        rfl
                                      rw [evv] at fin ⊢
                                      exact zq_astN hexec hb hcl hA hiin hi0 hbd hdg fin
                                  · cases hz
                              · have e0 : t = 0 := by
                                  cases ty' <;> simp [zq_ftc] at hal
                                  · unfold zq_fit at hfit
                                    simp only [zq_ftc] at hfit
                                    cases hb0 : Nat.beq t 0 with
                                    | true => exact Nat.eq_of_beq_eq_true hb0
                                    | false => rw [hb0] at hfit; cases hfit
                                  · unfold zq_fit at hfit
                                    simp only [zq_ftc] at hfit
                                    cases hb0 : Nat.beq t 0 with
                                    | true => exact Nat.eq_of_beq_eq_true hb0
                                    | false => rw [hb0] at hfit; cases hfit
                                subst e0
                                cases hty' : ty' <;> rw [hty'] at hal <;> simp [zq_ftc] at hal
                                · subst hty'
                                  exact zq_astB hexec hb hcl (Or.inl ⟨hA, (zq_fit_ok (ty := .byte) hfit rfl hC).1⟩) hiin hi0 hbd hdg fin
                                · subst hty'
                                  exact zq_astB hexec hb hcl (Or.inr ⟨hA, (zq_fit_ok (ty := .boolean) hfit rfl hC).1⟩) hiin hi0 hbd hdg fin
                              · cases hal
                            · cases hs
                          · cases hs
                        · cases hs
                    · cases hs
                  · cases hs
                · cases hs
              · cases hs
          · cases hs
      · cases hs
  · cases hs
end ZQS3
