noncomputable def zq_ftc : FieldType → Nat
  | .int => 0
  | .long => 1
  | .object _ => 2
  | .byte => 3
  | .boolean => 4
  | _ => 9
/-- a load from an array, and of which code of element types -/
noncomputable def zq_aldi (i : Instr) (c : Nat) : Bool := match i with
  | .iaload => Nat.beq c 0
  | .laload => Nat.beq c 1
  | .aaload => Nat.beq c 2
  | .baload => Nat.beq c 3 || Nat.beq c 4
  | _ => false
abbrev zq_FL : Type := List (Nat × Nat × Nat)
noncomputable def zq_fl (cp : Nat) : zq_FL → Option (Nat × Nat)
  | [] => none
  | x :: l => bif Nat.beq x.1 cp then some x.2 else zq_fl cp l
theorem zq_fl_ok {cp : Nat} {o : Nat × Nat} : ∀ {l : zq_FL}, zq_fl cp l = some o → (cp, o) ∈ l
  | [], h => by cases h
  | x :: l, h => by
    unfold zq_fl at h
    cases hc : Nat.beq x.1 cp with
    | true =>
      rw [hc] at h
      have e1 := Nat.eq_of_beq_eq_true hc
      have e2 : x.2 = o := Option.some.inj h
      rw [← e1, ← e2]; exact List.mem_cons_self
    | false => rw [hc] at h; exact List.mem_cons_of_mem _ (zq_fl_ok h)
/-- links of fields: entry of the pool, class, field -/
noncomputable def zq_okFL (own : String) (Ts : List Cond) (cl : List vw_C) (FL : zq_FL) : Prop := ∀ x ∈ FL, ∃ r : vw_C, cl[x.2.1]? = some r ∧ x.2.2 < r.2.2 ∧ Cond.fieldLink own x.1 (r.2.1 x.2.2).1 (r.2.1 x.2.2).2.1 (r.2.1 x.2.2).2.2.1 ∈ Ts ∧ ∀ w ∈ u_ws r.1 r.2.1 r.2.2, w ∈ Ts
/-- the kind of a reference that is not null -/
noncomputable def zq_kn (KT : List zq_K) (C : List zq_L) (F : List (zq_L × Nat)) (er : zq_L) (q : List Nat) : Option (zq_K × List Nat) := match zq_kd F er with
  | some k => match zq_at KT k with
    | some K => match zq_prove C er q with
      | some q => some (K, q)
      | none => none
    | none => none
  | none => none
theorem zq_kn_ok {w : zq_Wd} {r : Nat → Int} {P : zq_Ty} {h : zq_H} {H : Heap} {C : List zq_L} {F : List (zq_L × Nat)} {sto : zq_St} {raw : List (zq_L × Nat × List (Nat × zq_L))} {tok : List (Nat × List zq_L)} {n : Nat} {er : zq_L} {K : zq_K} {q q' : List Nat} (hk : zq_kn w.2.2.2.1 C F er q = some (K, q')) (M : zq_Me w r P h H C F sto raw tok n) :
    ∃ a k : Nat, zq_kd F er = some k ∧ w.2.2.2.1[k]? = some K ∧ zq_ev r er = (a : Int) ∧ P a = some k ∧ zq_cell w K (h a) a H ∧ (K.1 ≠ 0 → 0 ≤ h a (-1) ∧ h a (-1) < 2 ^ 31) ∧ (∀ i : Nat, (i : Int) < zq_size w K (h a) → ∃ T, zq_sty K i = some T ∧ zq_tok P T (h a i)) ∧ ∀ e ∈ K.2.2.2.2.1, 0 ≤ zq_ev (zq_re w K h a) e := by
  unfold zq_kn at hk
  split at hk
  · rename_i k hkd
    split at hk
    · rename_i K1 hK1
      rw [zq_at_eq] at hK1
      split at hk
      · rename_i q1 hq1
        cases hk
        have h0 := zq_prove_ok hq1 M.2.1.1
        have hP := (M.2.2.1 _ (zq_kd_ok hkd)).2 (zq_ev r er).toNat (by show zq_ev r er = _; omega)
        obtain ⟨K', g1, g2, g3, g4, g5⟩ := M.1 _ _ hP
        have e : K' = K := Option.some.inj (g1.symm.trans hK1)
        subst e
        exact ⟨_, k, hkd, hK1, by omega, hP, g2, g3, g4, g5⟩
      · cases hk
    · cases hk
  · cases hk
noncomputable def zq_s2 (KT : List zq_K) (TY : List FieldType) (FL : zq_FL) (i : Instr) (len : Nat) (S : zq_S) (q : List Nat) : Option (zq_S × List Nat) := match S with
  | (loc, stk, C, F, sto, raw, tok, n) => match i, stk with
    | .getfield cp, (2, er) :: stk' => bif Nat.beq 3 len then (match zq_fl cp FL with
      | some (ci, f) => (match q with
        | 0 :: q => (match zq_kn KT C F er q with
          | some (K, q) => bif Nat.beq K.1 0 && Nat.beq K.2.1 ci then (match zq_sty K f with
            | some T => (match zq_rd n sto er (zq_k f) T q with
              | some ((e, C', F', s', n'), q) => some ((loc, (T.1, e) :: stk', C' ++ C, F' ++ F, s' ++ sto, raw, tok, n'), q)
              | none => none)
            | none => none) else none
          | none => none)
        | 1 :: j :: q => (match raw[j]? with
          | some (ra, ci', fs) => bif zq_eq ra er && Nat.beq ci' ci then (match fs[f]? with
            | some x => some ((loc, x :: stk', C, F, sto, raw, tok, n), q)
            | none => none) else none
          | none => none)
        | _ => none)
      | none => none) else none
    | .arraylength, (2, er) :: stk' => bif Nat.beq 1 len then (match zq_kn KT C F er q with
      | some (K, q) => bif Nat.beq K.1 0 then none else (match zq_rd n sto er (zq_k (-1)) (0, 0, 2147483647, 0) q with
        | some ((e, C', F', s', n'), q) => some ((loc, (0, e) :: stk', C' ++ C, F' ++ F, s' ++ sto, raw, tok, n'), q)
        | none => none)
      | none => none) else none
    | i, (0, ei) :: (2, er) :: stk' => bif Nat.beq 1 len then (match zq_kn KT C F er q with
      | some (K, q) => bif Nat.beq K.1 0 then none else (match TY[K.2.1]? with
        | some ty => bif zq_aldi i (zq_ftc ty) then (match zq_prove C ei q with
          | some q => (match zq_bnd K C sto er ei q with
            | some q => (match zq_tyx K C ei q with
              | some (T, q) => bif Nat.beq T.1 K.2.2.2.2.2 then (match zq_rd n sto er ei T q with
                | some ((e, C', F', s', n'), q) => some ((loc, (T.1, e) :: stk', C' ++ C, F' ++ F, s' ++ sto, raw, tok, n'), q)
                | none => none) else none
              | none => none)
            | none => none)
          | none => none) else none
        | none => none)
      | none => none) else none
    | _, _ => none
theorem zq_cell0 {w : zq_Wd} {K : zq_K} {f : Int → Int} {a : Nat} {H : Heap} (h : zq_cell w K f a H) (h0 : K.1 = 0) : ∃ r : vw_C, w.2.1[K.2.1]? = some r ∧ t_OB a (w.1.1 K.2.1) r.2.2 (w.1.2 K.2.1) H (fun i => zq_val (zq_tg K i) (f i)) := by
  simp only [zq_cell, h0] at h; exact h
theorem zq_cell1 {w : zq_Wd} {K : zq_K} {f : Int → Int} {a : Nat} {H : Heap} (h : zq_cell w K f a H) (h0 : K.1 ≠ 0) : ∃ cA ty, w.2.2.1[K.2.1]? = some (cA, ty) ∧ H[a]? = some (arrV cA (f (-1)).toNat (fun i => zq_val K.2.2.2.2.2 (f i))) := by
  obtain ⟨k, hk⟩ : ∃ k, K.1 = k + 1 := ⟨K.1 - 1, by omega⟩
  simp only [zq_cell, hk] at h; exact h
theorem zq_size0 {w : zq_Wd} {K : zq_K} {f : Int → Int} {r : vw_C} (h0 : K.1 = 0) (hr : w.2.1[K.2.1]? = some r) : zq_size w K f = (r.2.2 : Int) := by
  simp only [zq_size, h0, hr]
theorem zq_size1 {w : zq_Wd} {K : zq_K} {f : Int → Int} (h0 : K.1 ≠ 0) : zq_size w K f = f (-1) := by
  obtain ⟨k, hk⟩ : ∃ k, K.1 = k + 1 := ⟨K.1 - 1, by omega⟩
  simp only [zq_size, hk]
theorem zq_val_of {t : Nat} {a : Nat} (h : 2 ≤ t) : zq_val t (a : Int) = .ref a := by
  obtain ⟨k, rfl⟩ : ∃ k, t = k + 2 := ⟨t - 2, by omega⟩
  rfl
section ZQS2
variable {p : Program} {l : Launch} {e : Env} {R : Room} {s : State} {m : MethodId} {args : Array Value} {below : List Frame} {meth : Method} {c : Code} {H : Heap} {locs : List Loc} {cells slots : Nat} {Q : State → Prop}
variable {cc : ByteArray} {pc : Nat} {ls : Array Slot} {st : List Value} {w : zq_Wd} {nL : Nat} {r : Nat → Int} {P : zq_Ty} {h : zq_H} {own : String} {Ts : List Cond} {TY : List FieldType} {FL : zq_FL}
/-- a value comes on the stack, and what is known of it -/
theorem zq_push2 {H0 : Heap} {loc : List (Nat × Nat × zq_L)} {stk : List (Nat × zq_L)} {C' : List zq_L} {F' : List (zq_L × Nat)} {s' : zq_St} {raw : List (zq_L × Nat × List (Nat × zq_L))} {tok : List (Nat × List zq_L)} {n n' t : Nat} {ex : zq_L} {z : Int} {r' : Nat → Int}
    (hl : lv_has ls nL (zq_lvs r loc)) (oL : zq_okL r n loc) (oT : zq_okT r n stk) (hn : n ≤ n') (he : zq_ext n r r') (hb : zq_bd n' ex = true) (hv : zq_ev r' ex = z) (hz : zq_rg t z) (M : zq_Me w r' P h H0 C' F' s' raw tok n') :
    zq_G w nL r' P h H0 ls (zq_val t z :: zq_sts r stk) (loc, (t, ex) :: stk, C', F', s', raw, tok, n') := by
  refine ⟨by show lv_has ls nL (zq_lvs r' loc); rw [zq_lvs.ext he oL]; exact hl, ?_, oL.ext hn he, ?_, M⟩
  · show _ = zq_val t (zq_ev r' ex) :: zq_sts r' stk
    rw [hv, zq_sts.ext he oT]
  · intro x hx
    rcases List.mem_cons.mp hx with rfl | hx
    · exact ⟨hb, by show zq_rg t (zq_ev r' ex); rw [hv]; exact hz⟩
    · exact (oT.ext hn he) x hx
set_option maxHeartbeats 4000000 in
theorem zq_s2_ok {i : Instr} {len : Nat} {S S' : zq_S} {q q' : List Nat} (hs : zq_s2 w.2.2.2.1 TY FL i len S q = some (S', q')) (hM : zq_Mc p s m args c cc own Ts) (hFL : zq_okFL own Ts w.2.1 FL) (hK : va_K w.1 w.2.1 w.2.2.1 s) (hTY : w.2.2.1.map Prod.snd = TY) (G : zq_G w nL r P h H ls st S) (hdg : decode cc pc = .ok (i, len))
    (kk : S.2.2.2.2.2.2.2 ≤ S'.2.2.2.2.2.2.2 → S'.2.2.2.2.2.1 = S.2.2.2.2.2.1 → ∀ (r' : Nat → Int) (ls' : Array Slot) (st' : List Value), zq_ext S.2.2.2.2.2.2.2 r r' → zq_G w nL r' P h H ls' st' S' → W p l e R s m args below meth c H locs cells slots Q (F0 m (pc + len) ls' st')) :
    W p l e R s m args below meth c H locs cells slots Q (F0 m pc ls st) := by
  obtain ⟨hexec, hb, hown, hts⟩ := hM
  obtain ⟨loc, stk, C, F, sto, raw, tok, n⟩ := S
  obtain ⟨hl, hst, oL, oT, Me⟩ := G
  simp only at hl hst oL oT Me kk
  have rf : zq_ext n r r := fun _ _ => rfl
  have hC := Me.2.1.1
  unfold zq_s2 at hs
  simp only at hs
  split at hs
  · rename_i cp er stk'
    cases hc : Nat.beq 3 len with
    | false => rw [hc] at hs; cases hs
    | true =>
      rw [hc] at hs
      simp only [cond_true] at hs
      have e1 := Nat.eq_of_beq_eq_true hc
      subst e1
      split at hs
      · rename_i ci f hfl
        obtain ⟨rc, hrc, hf, hlink, hin⟩ := hFL _ (zq_fl_ok hfl)
        simp only at hrc hf hlink
        have o1 := oT (2, er) List.mem_cons_self
        have oT' : zq_okT r n stk' := fun y hy => oT y (List.mem_cons_of_mem _ hy)
        split at hs
        · split at hs
          · rename_i q0 K q1 hkn
            cases hc2 : (Nat.beq K.1 0 && Nat.beq K.2.1 ci) with
            | false => rw [hc2] at hs; cases hs
            | true =>
              rw [hc2] at hs
              simp only [cond_true] at hs
              simp only [Bool.and_eq_true] at hc2
              have k0 := Nat.eq_of_beq_eq_true hc2.1
              have k1 := Nat.eq_of_beq_eq_true hc2.2
              subst k1
              split at hs
              · rename_i T hT
                split at hs
                · rename_i ex C' F' s' n' q2 hrd
                  cases hs
                  obtain ⟨a, k, -, -, ha, hP, hcell, -, hty, -⟩ := zq_kn_ok hkn Me
                  obtain ⟨rc', hrc', hOB⟩ := zq_cell0 hcell k0
                  have er' : rc' = rc := Option.some.inj (hrc'.symm.trans hrc)
                  subst er'
                  obtain ⟨T', hT', htk⟩ := hty f (by rw [zq_size0 k0 hrc]; exact Int.ofNat_lt.mpr hf)
                  have eT : T' = T := Option.some.inj (hT'.symm.trans hT)
                  subst eT
                  have htg : zq_tg K f = T'.1 := by unfold zq_tg; rw [hc2.1, hT]; rfl
                  obtain ⟨hn, r', he, b', ev', M'⟩ := zq_rd_ok hrd Me o1.1 zq_bd_k ha (by rw [hP]; exact fun z => by cases z) (by rw [zq_ev_k]; exact htk)
                  rw [zq_ev_k] at ev'
                  rw [hst]
                  show W p l e R s m args below meth c H locs cells slots Q (F0 m pc ls (zq_val 2 (zq_ev r er) :: zq_sts r stk'))
                  rw [ha, zq_val_of (Nat.le_refl 2)]
                  refine zq_getR hexec hb hts hin hown hK hOB hrc f hf (hts _ hlink) hdg ?_
                  rw [htg]
                  exact kk hn rfl r' ls _ he (zq_push2 hl oL oT' hn he b' ev' htk.1 M')
                · cases hs
              · cases hs
          · cases hs
        · split at hs
          · rename_i q0 j ra ci' fs hraw
            cases hc2 : (zq_eq ra er && Nat.beq ci' ci) with
            | false => rw [hc2] at hs; cases hs
            | true =>
              rw [hc2] at hs
              simp only [cond_true] at hs
              simp only [Bool.and_eq_true] at hc2
              have k0 := zq_eq_ok hc2.1
              have k1 := Nat.eq_of_beq_eq_true hc2.2
              subst k0; subst k1
              split at hs
              · rename_i x hx
                cases hs
                obtain ⟨a, g1, g2, g3, g4, g5⟩ := Me.2.2.2.2.1.1 _ (List.mem_of_getElem? hraw)
                simp only at g1 g2 g3 g5
                obtain ⟨rc', hrc', hOB⟩ := g5 0 _ rfl
                have er' : rc' = rc := Option.some.inj (hrc'.symm.trans hrc)
                subst er'
                rw [hst]
                show W p l e R s m args below meth c H locs cells slots Q (F0 m pc ls (zq_val 2 (zq_ev r ra) :: zq_sts r stk'))
                rw [g3, zq_val_of (Nat.le_refl 2)]
                refine zq_getR hexec hb hts hin hown hK hOB hrc f hf (hts _ hlink) hdg ?_
                have ev : vp_V (fs.map (fun y => zq_val y.1 (zq_ev r y.2))) f = zq_val x.1 (zq_ev r x.2) := by
                  unfold vp_V
                  rw [List.getD_eq_getElem?_getD, List.getElem?_map, hx]; rfl
                rw [ev]
                refine kk (Nat.le_refl _) rfl r ls _ rf ⟨hl, rfl, oL, ?_, Me⟩
                intro y hy
                rcases List.mem_cons.mp hy with rfl | hy
                · exact g2 _ (List.mem_of_getElem? hx)
                · exact oT' y hy
              · cases hs
          · cases hs
        · cases hs
      · cases hs
  · rename_i er stk'
    cases hc : Nat.beq 1 len with
    | false => rw [hc] at hs; cases hs
    | true =>
      rw [hc] at hs
      simp only [cond_true] at hs
      have e1 := Nat.eq_of_beq_eq_true hc
      subst e1
      have o1 := oT (2, er) List.mem_cons_self
      have oT' : zq_okT r n stk' := fun y hy => oT y (List.mem_cons_of_mem _ hy)
      split at hs
      · rename_i K q1 hkn
        cases hk0 : Nat.beq K.1 0 with
        | true => rw [hk0] at hs; cases hs
        | false =>
          rw [hk0] at hs
          simp only [cond_false] at hs
          have k0 : K.1 ≠ 0 := fun z => by rw [z] at hk0; cases hk0
          split at hs
          · rename_i ex C' F' s' n' q2 hrd
            cases hs
            obtain ⟨a, k, -, -, ha, hP, hcell, hlen, -, -⟩ := zq_kn_ok hkn Me
            obtain ⟨cA, ty, ht, hcl⟩ := zq_cell1 hcell k0
            have hl2 := hlen k0
            have htk : zq_tok P (0, 0, 2147483647, 0) (h a (-1)) := ⟨⟨by show -2147483648 ≤ _; omega, by show _ ≤ 2147483647; omega⟩, hl2.1, fun _ => by show _ ≤ 2147483647; omega, fun z => by omega⟩
            obtain ⟨hn, r', he, b', ev', M'⟩ := zq_rd_ok hrd Me o1.1 zq_bd_k ha (by rw [hP]; exact fun z => by cases z) (by rw [zq_ev_k]; exact htk)
            rw [zq_ev_k] at ev'
            rw [hst]
            show W p l e R s m args below meth c H locs cells slots Q (F0 m pc ls (zq_val 2 (zq_ev r er) :: zq_sts r stk'))
            rw [ha, zq_val_of (Nat.le_refl 2)]
            refine zq_alenR hexec hb hcl (hK.2 _ _ ht).1 hdg ?_
            rw [Int.toNat_of_nonneg hl2.1]
            exact kk hn rfl r' ls _ he (zq_push2 (t := 0) hl oL oT' hn he b' ev' htk.1 M')
          · cases hs
      · cases hs
  · rename_i i0 sd ei er stk'
    cases hc : Nat.beq 1 len with
    | false => rw [hc] at hs; cases hs
    | true =>
      rw [hc] at hs
      simp only [cond_true] at hs
      have e1 := Nat.eq_of_beq_eq_true hc
      subst e1
      have oi := oT (0, ei) List.mem_cons_self
      have o1 := oT (2, er) (List.mem_cons_of_mem _ List.mem_cons_self)
      have oT' : zq_okT r n stk' := fun y hy => oT y (List.mem_cons_of_mem _ (List.mem_cons_of_mem _ hy))
      split at hs
      · rename_i K q1 hkn
        cases hk0 : Nat.beq K.1 0 with
        | true => rw [hk0] at hs; cases hs
        | false =>
          rw [hk0] at hs
          simp only [cond_false] at hs
          have k0 : K.1 ≠ 0 := fun z => by rw [z] at hk0; cases hk0
          split at hs
          · rename_i ty hty
            cases hal : zq_aldi i (zq_ftc ty) with
            | false => rw [hal] at hs; cases hs
            | true =>
              rw [hal] at hs
              simp only [cond_true] at hs
              split at hs
              · rename_i q2 hq2
                split at hs
                · rename_i q3 hq3
                  split at hs
                  · rename_i T q4 htx
                    cases htt : Nat.beq T.1 K.2.2.2.2.2 with
                    | false => rw [htt] at hs; cases hs
                    | true =>
                      rw [htt] at hs
                      simp only [cond_true] at hs
                      have ett := Nat.eq_of_beq_eq_true htt
                      split at hs
                      · rename_i ex C' F' s' n' q5 hrd
                        cases hs
                        obtain ⟨a, k, -, -, ha, hP, hcell, hlen, htys, hrel⟩ := zq_kn_ok hkn Me
                        obtain ⟨cA, ty', ht, hcl⟩ := zq_cell1 hcell k0
                        have etyp : ty' = ty := by
                          have : (w.2.2.1.map Prod.snd)[K.2.1]? = some ty' := by rw [List.getElem?_map, ht]; rfl
                          rw [hTY, hty] at this; exact (Option.some.inj this).symm
                        subst etyp
                        have hl2 := hlen k0
                        have hi0 := zq_prove_ok hq2 hC
                        have hib := zq_bnd_ok (w := w) (a := a) hq3 hC Me.2.2.2.1 k0 hrel ha
                        have hiin : zq_in 0 (zq_ev r ei) := oi.2
                        have hi2 : zq_ev r ei ≤ 2147483647 := hiin.2
                        have hT := zq_tyx_ok htx hC hi0 (by omega)
                        obtain ⟨T', hT', htk⟩ := htys (zq_ev r ei).toNat (by rw [zq_size1 k0]; omega)
                        have eT : T' = T := Option.some.inj (hT'.symm.trans hT)
                        subst eT
                        rw [Int.toNat_of_nonneg hi0] at htk
                        obtain ⟨hn, r', he, b', ev', M'⟩ := zq_rd_ok hrd Me o1.1 oi.1 ha (by rw [hP]; exact fun z => by cases z) htk
                        have hA := (hK.2 _ _ ht).1
                        rw [hst]
                        show W p l e R s m args below meth c H locs cells slots Q (F0 m pc ls (zq_val 0 (zq_ev r ei) :: zq_val 2 (zq_ev r er) :: zq_sts r stk'))
                        rw [ha, zq_val_of (Nat.le_refl 2)]
                        have hbd : zq_ev r ei < ((h a (-1)).toNat : Int) := by omega
                        have fin : W p l e R s m args below meth c H locs cells slots Q (F0 m (pc + 1) ls ((fun j : Nat => zq_val K.2.2.2.2.2 (h a j)) (zq_ev r ei).toNat :: zq_sts r stk')) := by
                          simp only
                          rw [Int.toNat_of_nonneg hi0, ← ett]
                          exact kk hn rfl r' ls _ he (zq_push2 hl oL oT' hn he b' ev' htk.1 M')
                        unfold zq_aldi at hal
                        split at hal
                        · cases ty' <;> simp [zq_ftc] at hal
                          exact zq_aldI hexec hb hcl hA hiin hi0 hbd hdg fin
                        · cases ty' <;> simp [zq_ftc] at hal
                          exact zq_aldL hexec hb hcl hA hiin hi0 hbd hdg fin
                        · cases ty' <;> simp [zq_ftc] at hal
                          exact zq_aldA hexec hb hcl hA hiin hi0 hbd hdg fin
                        · cases ty' <;> simp [zq_ftc] at hal
                          · exact zq_aldB hexec hb hcl (Or.inl hA) hiin hi0 hbd hdg fin
                          · exact zq_aldB hexec hb hcl (Or.inr hA) hiin hi0 hbd hdg fin
                        · cases hal
                      · cases hs
                  · cases hs
                · cases hs
              · cases hs
          · cases hs
      · cases hs
  · cases hs
end ZQS2
