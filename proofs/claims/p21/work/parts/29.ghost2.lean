/-! STEPS WITHOUT THE MACHINE: facts about memory, rows of kinds, other names for the same number -/
abbrev zq_GLt : Type := List (zq_S × List zq_S)
noncomputable def zq_okGL (w : zq_Wd) (GL : zq_GLt) : Prop := ∀ x ∈ GL, zq_wf x.1 = true ∧ x.1.2.2.2.2.2.1 = [] ∧ (∀ po ∈ x.2, zq_wf po = true ∧ x.1.2.2.2.2.2.2.2 ≤ po.2.2.2.2.2.2.2) ∧ ∀ (r : Nat → Int) (P : zq_Ty) (h : zq_H) (H : Heap), zq_MeS w r P h H x.1 → ∃ po ∈ x.2, ∃ r', zq_ext x.1.2.2.2.2.2.2.2 r r' ∧ zq_MeS w r' P h H po
noncomputable def zq_gl (GL : zq_GLt) (FX : zq_FX) (S : zq_S) (q : List Nat) : Option (List zq_S × List Nat) := match S with
  | (loc, stk, C, F, sto, raw, tok, n) => match q with
    | j :: q => match GL[j]? with
      | some (pre, posts) => match zq_rdG pre.2.2.2.2.2.2.2 q with
        | some (g, q) => match zq_mtM g pre (loc, stk, C, F, sto, [], tok, n) q with
          | some q => some (posts.map (fun po => zq_after FX g [] pre.2.2.2.2.2.2.2 loc stk C F sto raw tok n ([], po)), q)
          | none => none
        | none => none
      | none => none
    | [] => none
theorem zq_gl_ok {w : zq_Wd} {nL : Nat} {r : Nat → Int} {P : zq_Ty} {h : zq_H} {H H0 : Heap} {R0 : Nat → Prop} {ls : Array Slot} {st : List Value} {GL : zq_GLt} {FX : zq_FX} {S : zq_S} {su : List zq_S} {q q' : List Nat} (hs : zq_gl GL FX S q = some (su, q')) (hGL : zq_okGL w GL) (hFX : zq_okFX w FX) (G : zq_G w nL r P h H ls st S) (Rn : zq_Rn H0 R0 r S.2.2.2.2.2.1) :
    ∃ S' ∈ su, S.2.2.2.2.2.2.2 ≤ S'.2.2.2.2.2.2.2 ∧ ∃ r', zq_ext S.2.2.2.2.2.2.2 r r' ∧ zq_G w nL r' P h H ls st S' ∧ zq_Rn H0 R0 r' S'.2.2.2.2.2.1 := by
  obtain ⟨loc, stk, C, F, sto, raw, tok, n⟩ := S
  obtain ⟨hl, hst, oL, oT, Me⟩ := G
  simp only at hl hst oL oT Me Rn
  unfold zq_gl at hs
  simp only at hs
  split at hs
  · split at hs
    · rename_i j q0 pre posts hj
      split at hs
      · rename_i g q1 hg
        split at hs
        · rename_i q2 hmt
          cases hs
          obtain ⟨k1, k2, k3, k4⟩ := hGL _ (List.mem_of_getElem? hj)
          simp only at k1 k2 k3 k4
          have Me0 : zq_Me w r P h H C F sto [] tok n := ⟨Me.1, Me.2.1, Me.2.2.1, Me.2.2.2.1, ⟨fun x hx => (by cases hx), List.Pairwise.nil⟩, Me.2.2.2.2.2⟩
          have Mc := zq_mtM_ok (S := (loc, stk, C, F, sto, [], tok, n)) hmt k1 Me0
          obtain ⟨po, hpo, r2, hx2, M2⟩ := k4 _ P h H Mc
          have hbdg : zq_bdg n g = true := by
            unfold zq_mtM at hmt
            cases hcc : (zq_bdg n g && (pre.2.2.2.1.all (zq_mtF g F) && (pre.2.2.2.2.1.all (zq_mtS g sto) && (zq_mtR g pre.2.2.2.2.2.1 [] && pre.2.2.2.2.2.2.1.all (zq_mtX g tok))))) with
            | false => simp only at hmt; rw [hcc] at hmt; cases hmt
            | true => simp only [Bool.and_eq_true] at hcc; exact hcc.1
          obtain ⟨w1, w2⟩ := k3 po hpo
          obtain ⟨pl, ps, pC, pF, pS, pR, pX, pn⟩ := po
          obtain ⟨r', hx', G', Rn'⟩ := zq_aft_ok (FX := FX) (Mc := []) (sel := []) (raw' := raw) (Rc := fun _ => False) (pres := []) (H0 := H0) (R0 := R0) (P' := P) (h' := h) (H' := H) hl oL oT Me Rn hFX (zq_rdG_len hg) hbdg (fun x hx => hx) Me.2.2.2.2.1.2 (fun x hx => (by cases hx)) (fun a => ⟨fun z => z.elim, fun ⟨x, hx, _⟩ => (by cases hx)⟩) w1 (fun x hx => (by cases hx)) w2 hx2 (fun x hx => (by cases hx)) M2 ⟨Nat.le_refl _, fun _ _ _ => rfl, fun _ _ z => z, fun _ _ _ _ _ => rfl, fun _ _ z => Or.inl z⟩
          refine ⟨_, List.mem_map.mpr ⟨_, hpo, rfl⟩, Nat.le_add_right _ _, r', hx', ?_, Rn'⟩
          rw [hst]
          exact G'
        · cases hs
      · cases hs
    · cases hs
  · cases hs
/-- the same number, another expression: 0 a local, 1 a place on the stack, 2 a value of the store, 3 a place of the store, 4 a reference's kind, 5 a reference of the store -/
noncomputable def zq_rw (S : zq_S) (q : List Nat) : Option (zq_S × List Nat) := match S with
  | (loc, stk, C, F, sto, raw, tok, n) => match q with
    | k :: j :: q => match zq_rdL q with
      | some (e', q) => match (match k with
          | 0 => (match loc[j]? with
            | some x => some x.2.2
            | none => none)
          | 1 => (match stk[j]? with
            | some x => some x.2
            | none => none)
          | 2 => (match sto[j]? with
            | some x => some x.2.2
            | none => none)
          | 3 => (match sto[j]? with
            | some x => some x.2.1
            | none => none)
          | 4 => (match F[j]? with
            | some x => some x.1
            | none => none)
          | _ => (match sto[j]? with
            | some x => some x.1
            | none => none)) with
        | some e => bif zq_bd n e' then (match zq_prove C (zq_sub e e') q with
          | some q => (match zq_prove C (zq_sub e' e) q with
            | some q => some ((match k with
              | 0 => (loc.map (fun x => bif zq_eq x.2.2 e then (x.1, x.2.1, e') else x), stk, C, F, sto, raw, tok, n)
              | 1 => (loc, stk.map (fun x => bif zq_eq x.2 e then (x.1, e') else x), C, F, sto, raw, tok, n)
              | 2 => (loc, stk, C, F, sto.map (fun x => bif zq_eq x.2.2 e then (x.1, x.2.1, e') else x), raw, tok, n)
              | 3 => (loc, stk, C, F, sto.map (fun x => bif zq_eq x.2.1 e then (x.1, e', x.2.2) else x), raw, tok, n)
              | 4 => (loc, stk, C, F.map (fun x => bif zq_eq x.1 e then (e', x.2) else x) ++ F, sto, raw, tok, n)
              | _ => (loc, stk, C, F, sto.map (fun x => bif zq_eq x.1 e then (e', x.2.1, x.2.2) else x) ++ sto, raw, tok, n)), q)
            | none => none)
          | none => none) else none
        | none => none
      | none => none
    | _ => none
theorem zq_rw_ok {w : zq_Wd} {nL : Nat} {r : Nat → Int} {P : zq_Ty} {h : zq_H} {H : Heap} {ls : Array Slot} {st : List Value} {S S' : zq_S} {q q' : List Nat} (hs : zq_rw S q = some (S', q')) (G : zq_G w nL r P h H ls st S) : S'.2.2.2.2.2.2.2 = S.2.2.2.2.2.2.2 ∧ S'.2.2.2.2.2.1 = S.2.2.2.2.2.1 ∧ zq_G w nL r P h H ls st S' := by
  obtain ⟨loc, stk, C, F, sto, raw, tok, n⟩ := S
  obtain ⟨hl, hst, oL, oT, Me⟩ := G
  simp only at hl hst oL oT Me
  have hC := Me.2.1.1
  unfold zq_rw at hs
  simp only at hs
  split at hs
  · rename_i k j q0
    split at hs
    · rename_i e' q1 hL
      split at hs
      · rename_i e he
        cases hb : zq_bd n e' with
        | false => rw [hb] at hs; cases hs
        | true =>
          rw [hb] at hs
          simp only [cond_true] at hs
          split at hs
          · rename_i q2 hq2
            split at hs
            · rename_i q3 hq3
              have a := zq_prove_ok hq2 hC
              have b := zq_prove_ok hq3 hC
              rw [zq_ev_sub] at a b
              have ee : zq_ev r e' = zq_ev r e := by omega
              simp only [Option.some.injEq, Prod.mk.injEq] at hs
              obtain ⟨hs, -⟩ := hs
              split at hs
              · subst hs
                have key : ∀ x : Nat × Nat × zq_L, zq_ev r (bif zq_eq x.2.2 e then (x.1, x.2.1, e') else x).2.2 = zq_ev r x.2.2 ∧ (bif zq_eq x.2.2 e then (x.1, x.2.1, e') else x).1 = x.1 ∧ (bif zq_eq x.2.2 e then (x.1, x.2.1, e') else x).2.1 = x.2.1 := by
                  intro x
                  cases hx : zq_eq x.2.2 e with
                  | true => have := zq_eq_ok hx; simp only [cond_true]; rw [this]; exact ⟨ee, trivial, trivial⟩
                  | false => exact ⟨rfl, rfl, rfl⟩
                refine ⟨rfl, rfl, ?_, hst, ?_, oT, Me⟩
                · have : zq_lvs r (loc.map (fun x => bif zq_eq x.2.2 e then (x.1, x.2.1, e') else x)) = zq_lvs r loc := by
                    simp only [zq_lvs, List.map_map]
                    exact List.map_congr_left fun x _ => by simp only [Function.comp]; rw [(key x).1, (key x).2.1, (key x).2.2]
                  rw [this]; exact hl
                · intro y hy
                  obtain ⟨x, hx, rfl⟩ := List.mem_map.mp hy
                  have o := oL x hx
                  refine ⟨?_, by rw [(key x).1, (key x).2.2]; exact o.2⟩
                  cases hx : zq_eq x.2.2 e with
                  | true => exact hb
                  | false => exact o.1
              · subst hs
                have key : ∀ x : Nat × zq_L, zq_ev r (bif zq_eq x.2 e then (x.1, e') else x).2 = zq_ev r x.2 ∧ (bif zq_eq x.2 e then (x.1, e') else x).1 = x.1 := by
                  intro x
                  cases hx : zq_eq x.2 e with
                  | true => have := zq_eq_ok hx; simp only [cond_true]; rw [this]; exact ⟨ee, trivial⟩
                  | false => exact ⟨rfl, rfl⟩
                refine ⟨rfl, rfl, hl, ?_, oL, ?_, Me⟩
                · rw [hst]
                  simp only [zq_sts, List.map_map]
                  exact List.map_congr_left fun x _ => by simp only [Function.comp]; rw [(key x).1, (key x).2]
                · intro y hy
                  obtain ⟨x, hx, rfl⟩ := List.mem_map.mp hy
                  have o := oT x hx
                  refine ⟨?_, by rw [(key x).1, (key x).2]; exact o.2⟩
                  cases hx : zq_eq x.2 e with
                  | true => exact hb
                  | false => exact o.1
              · subst hs
                refine ⟨rfl, rfl, hl, hst, oL, oT, Me.1, Me.2.1, Me.2.2.1, fun y hy => ?_, Me.2.2.2.2⟩
                obtain ⟨x, hx, rfl⟩ := List.mem_map.mp hy
                have o := Me.2.2.2.1 x hx
                cases hx : zq_eq x.2.2 e with
                | true =>
                  have := zq_eq_ok hx
                  obtain ⟨o1, o2, o3, a0, o4, o5, o6⟩ := o
                  exact ⟨o1, o2, hb, a0, o4, o5, by show _ = zq_ev r e'; rw [ee, ← this]; exact o6⟩
                | false => exact o
              · subst hs
                refine ⟨rfl, rfl, hl, hst, oL, oT, Me.1, Me.2.1, Me.2.2.1, fun y hy => ?_, Me.2.2.2.2⟩
                obtain ⟨x, hx, rfl⟩ := List.mem_map.mp hy
                have o := Me.2.2.2.1 x hx
                cases hx : zq_eq x.2.1 e with
                | true =>
                  have := zq_eq_ok hx
                  obtain ⟨o1, o2, o3, a0, o4, o5, o6⟩ := o
                  exact ⟨o1, hb, o3, a0, o4, o5, by show h a0 (zq_ev r e') = _; rw [ee, ← this]; exact o6⟩
                | false => exact o
              · subst hs
                refine ⟨rfl, rfl, hl, hst, oL, oT, Me.1, Me.2.1, Me.2.2.1.app fun y hy => ?_, Me.2.2.2⟩
                obtain ⟨x, hx, rfl⟩ := List.mem_map.mp hy
                have o := Me.2.2.1 x hx
                cases hx : zq_eq x.1 e with
                | true =>
                  have := zq_eq_ok hx
                  exact ⟨hb, fun a0 ha => o.2 a0 (by have ha : zq_ev r e' = (a0 : Int) := ha; rw [this, ← ee]; exact ha)⟩
                | false => exact o
              · subst hs
                refine ⟨rfl, rfl, hl, hst, oL, oT, Me.1, Me.2.1, Me.2.2.1, Me.2.2.2.1.app fun y hy => ?_, Me.2.2.2.2⟩
                obtain ⟨x, hx, rfl⟩ := List.mem_map.mp hy
                have o := Me.2.2.2.1 x hx
                cases hx : zq_eq x.1 e with
                | true =>
                  have := zq_eq_ok hx
                  obtain ⟨o1, o2, o3, a0, o4, o5, o6⟩ := o
                  exact ⟨hb, o2, o3, a0, by show zq_ev r e' = _; rw [ee, ← this]; exact o4, o5, o6⟩
                | false => exact o
            · cases hs
          · cases hs
      · cases hs
    · cases hs
  · cases hs
/-- a row of a kind holds of a cell -/
noncomputable def zq_rrT (sto : zq_St) (er : zq_L) (arr : Bool) (N : Nat) : List (Nat × Int) → List Nat → Option (zq_L × List Nat)
  | [], q => some ((0, []), q)
  | t :: l, q => bif arr || Nat.blt t.1 N then (match q with
      | j :: q => match sto[j]? with
        | some y => bif zq_eq y.1 er && zq_eq y.2.1 (zq_k (bif arr then -1 else (t.1 : Int))) then (match zq_rrT sto er arr N l q with
          | some (x, q) => some (zq_add (zq_smul t.2 y.2.2) x, q)
          | none => none) else none
        | none => none
      | [] => none)
    else (match q with
      | j :: j2 :: q => match sto[j]?, sto[j2]? with
        | some y, some y2 => bif (zq_eq y.1 er && zq_eq y.2.1 (zq_k ((t.1 - N : Nat) : Int))) && (zq_eq y2.1 y.2.2 && zq_eq y2.2.1 (zq_k (-1))) then (match zq_rrT sto er arr N l q with
          | some (x, q) => some (zq_add (zq_smul t.2 y2.2.2) x, q)
          | none => none) else none
        | _, _ => none
      | _ => none)
theorem zq_rrT_ok {sto : zq_St} {er : zq_L} {arr : Bool} {N a n : Nat} {r : Nat → Int} {P : zq_Ty} {h : zq_H} {v : Nat → Int} (hS : zq_okS r P h n sto) (ha : zq_ev r er = (a : Int)) (h1 : arr = true → ∀ i, v i = h a (-1)) (h2 : arr = false → ∀ i, i < N → v i = h a i) (h3 : arr = false → ∀ i, N ≤ i → v i = h (h a ((i : Int) - (N : Int))).toNat (-1)) :
    ∀ {l : List (Nat × Int)} {q q' : List Nat} {x : zq_L}, zq_rrT sto er arr N l q = some (x, q') → zq_ev r x = zq_ts v l ∧ zq_bd n x = true
  | [], q, q', x, hx => by cases hx; exact ⟨by simp [zq_ev, zq_ts], rfl⟩
  | t :: l, q, q', x, hx => by
    unfold zq_rrT at hx
    simp only [zq_ts]
    cases hN : (arr || Nat.blt t.1 N) with
    | true =>
      rw [hN] at hx
      simp only [cond_true] at hx
      split at hx
      · rename_i j q1
        split at hx
        · rename_i y hy
          cases hc : (zq_eq y.1 er && zq_eq y.2.1 (zq_k (bif arr then -1 else (t.1 : Int)))) with
          | false => rw [hc] at hx; cases hx
          | true =>
            rw [hc] at hx
            simp only [cond_true] at hx
            simp only [Bool.and_eq_true] at hc
            split at hx
            · rename_i z q2 hz
              cases hx
              obtain ⟨-, -, g0, a', g1, -, g3⟩ := hS y (List.mem_of_getElem? hy)
              rw [zq_eq_ok hc.1] at g1
              rw [zq_eq_ok hc.2, zq_ev_k] at g3
              have ea : a' = a := by have := g1.symm.trans ha; omega
              subst ea
              obtain ⟨r1, r2⟩ := zq_rrT_ok hS ha h1 h2 h3 hz
              refine ⟨?_, zq_bd_add (zq_bd_smul g0) r2⟩
              rw [zq_ev_add, zq_ev_smul, r1, ← g3]
              cases hA : arr with
              | true => simp only [cond_true]; rw [h1 hA]
              | false =>
                rw [hA] at hN
                simp only [Bool.false_or, zq_blt] at hN
                simp only [cond_false]; rw [h2 hA t.1 hN]
            · cases hx
        · cases hx
      · cases hx
    | false =>
      rw [hN] at hx
      simp only [cond_false] at hx
      simp only [Bool.or_eq_false_iff] at hN
      have hN2 : ¬ t.1 < N := fun z => by rw [← zq_blt] at z; rw [z] at hN; cases hN.2
      split at hx
      · rename_i j j2 q1
        split at hx
        · rename_i y y2 hy hy2
          cases hc : ((zq_eq y.1 er && zq_eq y.2.1 (zq_k ((t.1 - N : Nat) : Int))) && (zq_eq y2.1 y.2.2 && zq_eq y2.2.1 (zq_k (-1)))) with
          | false => rw [hc] at hx; cases hx
          | true =>
            rw [hc] at hx
            simp only [cond_true] at hx
            simp only [Bool.and_eq_true] at hc
            split at hx
            · rename_i z q2 hz
              cases hx
              obtain ⟨-, -, -, a', g1, -, g3⟩ := hS y (List.mem_of_getElem? hy)
              obtain ⟨-, -, g0, b', k1, -, k3⟩ := hS y2 (List.mem_of_getElem? hy2)
              rw [zq_eq_ok hc.1.1] at g1
              rw [zq_eq_ok hc.1.2, zq_ev_k] at g3
              rw [zq_eq_ok hc.2.1] at k1
              rw [zq_eq_ok hc.2.2, zq_ev_k] at k3
              have ea : a' = a := by have := g1.symm.trans ha; omega
              subst ea
              have ej : ((t.1 - N : Nat) : Int) = (t.1 : Int) - (N : Int) := by omega
              obtain ⟨r1, r2⟩ := zq_rrT_ok hS ha h1 h2 h3 hz
              refine ⟨?_, zq_bd_add (zq_bd_smul g0) r2⟩
              rw [zq_ev_add, zq_ev_smul, r1, h3 hN.1 t.1 (by omega), ← ej, g3, k1, Int.toNat_natCast, k3]
            · cases hx
        · cases hx
      · cases hx
noncomputable def zq_rr (KT : List zq_K) (FT : List (List Nat)) (S : zq_S) (q : List Nat) : Option (zq_S × List Nat) := match S with
  | (loc, stk, C, F, sto, raw, tok, n) => match q with
    | j :: i :: q => match F[j]? with
      | some (er, _) => match zq_kn KT C F er q with
        | some (K, q) => match K.2.2.2.2.1[i]? with
          | some e => match (bif Nat.beq K.1 0 then (match FT[K.2.1]? with
              | some row => some row.length
              | none => none) else some 0) with
            | some N => match zq_rrT sto er (!Nat.beq K.1 0) N e.2 q with
              | some (x, q) => some ((loc, stk, zq_addk x e.1 :: C, F, sto, raw, tok, n), q)
              | none => none
            | none => none
          | none => none
        | none => none
      | none => none
    | _ => none
theorem zq_rr_ok {w : zq_Wd} {nL : Nat} {r : Nat → Int} {P : zq_Ty} {h : zq_H} {H : Heap} {ls : Array Slot} {st : List Value} {Ts : List Cond} {FT : List (List Nat)} {FN : List (List Bool)} {S S' : zq_S} {q q' : List Nat} (hs : zq_rr w.2.2.2.1 FT S q = some (S', q')) (hCI : zq_okCI Ts w.2.1 FT FN) (G : zq_G w nL r P h H ls st S) : S'.2.2.2.2.2.2.2 = S.2.2.2.2.2.2.2 ∧ S'.2.2.2.2.2.1 = S.2.2.2.2.2.1 ∧ zq_G w nL r P h H ls st S' := by
  obtain ⟨loc, stk, C, F, sto, raw, tok, n⟩ := S
  obtain ⟨hl, hst, oL, oT, Me⟩ := G
  simp only at hl hst oL oT Me
  unfold zq_rr at hs
  simp only at hs
  split at hs
  · rename_i j i q0
    split at hs
    · rename_i er k0 hF
      split at hs
      · rename_i K q1 hkn
        split at hs
        · rename_i e he
          split at hs
          · rename_i N hN
            split at hs
            · rename_i x q2 hx
              cases hs
              obtain ⟨a, k, -, -, ha, hP, hcell, -, -, hrel⟩ := zq_kn_ok hkn Me
              have hR := hrel e (List.mem_of_getElem? he)
              have key : zq_ev r x = zq_ts (zq_re w K h a) e.2 ∧ zq_bd n x = true := by
                cases h0 : Nat.beq K.1 0 with
                | true =>
                  have k0 := Nat.eq_of_beq_eq_true h0
                  obtain ⟨rc, hrc, -⟩ := zq_cell0 hcell k0
                  obtain ⟨-, -, ty0, row0, -, hrow0, hlen0, -, -⟩ := hCI _ rc hrc
                  rw [h0, hrow0] at hN
                  simp only [cond_true] at hN
                  have eN : row0.length = N := Option.some.inj hN
                  rw [hlen0] at eN
                  subst eN
                  rw [h0] at hx
                  refine zq_rrT_ok Me.2.2.2.1 ha (fun z => by cases z) (fun _ i hi => ?_) (fun _ i hi => ?_) hx
                  · rw [zq_re0 k0 hrc, if_pos hi]
                  · rw [zq_re0 k0 hrc, if_neg (by omega)]
                | false =>
                  rw [h0] at hx
                  obtain ⟨kx, hkx⟩ : ∃ kx, K.1 = kx + 1 := ⟨K.1 - 1, by
                    have : K.1 ≠ 0 := fun z => by rw [z] at h0; cases h0
                    omega⟩
                  exact zq_rrT_ok Me.2.2.2.1 ha (fun _ i => by simp only [zq_re, hkx]) (fun z => by cases z) (fun z => by cases z) hx
              refine ⟨rfl, rfl, hl, hst, oL, oT, Me.row ?_ (zq_bd_addk key.2)⟩
              rw [zq_ev_addk, key.1]
              have hR : 0 ≤ e.1 + zq_ts (zq_re w K h a) e.2 := hR
              omega
            · cases hs
          · cases hs
        · cases hs
      · cases hs
    · cases hs
  · cases hs
