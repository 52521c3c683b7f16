/-! AN OBJECT IN THE MAKING IS MADE: its fields fit a kind -/
noncomputable def zq_pbf (K : zq_K) (C : List zq_L) (F : List (zq_L × Nat)) : Nat → List (Nat × zq_L) → List Nat → Option (List Nat)
  | _, [], q => some q
  | i, x :: l, q => match zq_sty K i with
    | some T => match zq_vck C F T x.1 x.2 q with
      | some q => zq_pbf K C F (i + 1) l q
      | none => none
    | none => none
theorem zq_pbf_ok {K : zq_K} {C : List zq_L} {F : List (zq_L × Nat)} {r : Nat → Int} {P : zq_Ty} {n : Nat} (hC : zq_all r C) (hF : zq_okF r P n F) : ∀ {i : Nat} {l : List (Nat × zq_L)} {q q' : List Nat}, zq_pbf K C F i l q = some q' → (∀ y ∈ l, zq_rg y.1 (zq_ev r y.2)) → ∀ j x, l[j]? = some x → ∃ T, zq_sty K (i + j) = some T ∧ x.1 = T.1 ∧ zq_tok P T (zq_ev r x.2)
  | _, [], _, _, _, _, j, x, hx => by simp at hx
  | i, y :: l, q, q', h, hr, j, x, hx => by
    unfold zq_pbf at h
    split at h
    · rename_i T hT
      split at h
      · rename_i q1 hq1
        match j, hx with
        | 0, hx =>
          simp at hx; subst hx
          obtain ⟨e1, e2⟩ := zq_vck_ok hq1 hC hF (hr _ List.mem_cons_self)
          exact ⟨T, hT, e1, e2⟩
        | j + 1, hx =>
          simp at hx
          obtain ⟨T', y1, y2⟩ := zq_pbf_ok hC hF h (fun z hz => hr z (List.mem_cons_of_mem _ hz)) j x hx
          exact ⟨T', by rw [← y1]; congr 1; omega, y2⟩
      · cases h
    · cases h
/-- a row of the kind by the fields -/
noncomputable def zq_pbs (sto : zq_St) (fs : List (Nat × zq_L)) : List (Nat × Int) → List Nat → Option (zq_L × List Nat)
  | [], q => some ((0, []), q)
  | t :: l, q => bif Nat.blt t.1 fs.length then (match fs[t.1]?, zq_pbs sto fs l q with
      | some y, some (x, q) => some (zq_add (zq_smul t.2 y.2) x, q)
      | _, _ => none)
    else (match q with
      | j :: q => (match fs[t.1 - fs.length]?, sto[j]?, zq_pbs sto fs l q with
        | some y, some y2, some (x, q) => bif zq_eq y2.1 y.2 && zq_eq y2.2.1 (zq_k (-1)) then some (zq_add (zq_smul t.2 y2.2.2) x, q) else none
        | _, _, _ => none)
      | [] => none)
theorem zq_pbs_ok {sto : zq_St} {fs : List (Nat × zq_L)} {r : Nat → Int} {P : zq_Ty} {h : zq_H} {n : Nat} {v : Nat → Int} (hS : zq_okS r P h n sto) (h1 : ∀ i x, fs[i]? = some x → v i = zq_ev r x.2) (h2 : ∀ i x (a : Nat), fs[i]? = some x → zq_ev r x.2 = (a : Int) → P a ≠ none → v (fs.length + i) = h a (-1)) :
    ∀ {l : List (Nat × Int)} {q q' : List Nat} {x : zq_L}, zq_pbs sto fs l q = some (x, q') → zq_ev r x = zq_ts v l
  | [], q, q', x, hx => by cases hx; simp [zq_ev, zq_ts]
  | t :: l, q, q', x, hx => by
    unfold zq_pbs at hx
    simp only [zq_ts]
    cases hN : Nat.blt t.1 fs.length with
    | true =>
      rw [hN] at hx
      simp only [cond_true] at hx
      split at hx
      · rename_i y z q1 hy hz
        cases hx
        rw [zq_ev_add, zq_ev_smul, zq_pbs_ok hS h1 h2 hz, h1 _ _ hy]
      · cases hx
    | false =>
      rw [hN] at hx
      simp only [cond_false] at hx
      have hN2 : ¬ t.1 < fs.length := fun z => by rw [← zq_blt] at z; rw [z] at hN; cases hN
      split at hx
      · rename_i j q1
        split at hx
        · rename_i y y2 z q2 hy hy2 hz
          obtain ⟨hc, hE⟩ := zq_bif hx
          cases hE
          simp only [Bool.and_eq_true] at hc
          obtain ⟨-, -, -, a, k1, k2, k3⟩ := hS y2 (List.mem_of_getElem? hy2)
          rw [zq_eq_ok hc.1] at k1
          rw [zq_eq_ok hc.2, zq_ev_k] at k3
          have hv := h2 _ _ a hy k1 k2
          rw [show fs.length + (t.1 - fs.length) = t.1 by omega] at hv
          rw [zq_ev_add, zq_ev_smul, zq_pbs_ok hS h1 h2 hz, hv, k3]
        · cases hx
      · cases hx
noncomputable def zq_pbr (C : List zq_L) (sto : zq_St) (fs : List (Nat × zq_L)) : List zq_L → List Nat → Option (List Nat)
  | [], q => some q
  | e :: l, q => match zq_pbs sto fs e.2 q with
    | some (x, q) => match zq_prove C (zq_addk x e.1) q with
      | some q => zq_pbr C sto fs l q
      | none => none
    | none => none
theorem zq_pbr_ok {C : List zq_L} {sto : zq_St} {fs : List (Nat × zq_L)} {r : Nat → Int} {P : zq_Ty} {h : zq_H} {n : Nat} {v : Nat → Int} (hC : zq_all r C) (hS : zq_okS r P h n sto) (h1 : ∀ i x, fs[i]? = some x → v i = zq_ev r x.2) (h2 : ∀ i x (a : Nat), fs[i]? = some x → zq_ev r x.2 = (a : Int) → P a ≠ none → v (fs.length + i) = h a (-1)) :
    ∀ {l : List zq_L} {q q' : List Nat}, zq_pbr C sto fs l q = some q' → ∀ e ∈ l, 0 ≤ zq_ev v e
  | [], _, _, _, e, he => by cases he
  | x :: l, q, q', hk, e, he => by
    unfold zq_pbr at hk
    split at hk
    · rename_i y q1 hy
      split at hk
      · rename_i q2 hq2
        rcases List.mem_cons.mp he with rfl | he
        · have z := zq_prove_ok hq2 hC
          rw [zq_ev_addk, zq_pbs_ok hS h1 h2 hy] at z
          show 0 ≤ e.1 + zq_ts _ e.2; omega
        · exact zq_pbr_ok hC hS h1 h2 hk e he
      · cases hk
    · cases hk
/-- rows of the store that are wanted of the new object -/
noncomputable def zq_pba (ra : zq_L) (fs : List (Nat × zq_L)) : List Nat → zq_St
  | [] => []
  | i :: l => match fs[i]? with
    | some x => (ra, zq_k i, x.2) :: zq_pba ra fs l
    | none => zq_pba ra fs l
noncomputable def zq_rdN : Nat → List Nat → Option (List Nat × List Nat)
  | 0, q => some ([], q)
  | k + 1, a :: q => match zq_rdN k q with
    | some (l, q') => some (a :: l, q')
    | none => none
  | _ + 1, [] => none
noncomputable def zq_pb (KT : List zq_K) (FT : List (List Nat)) (FX : zq_FX) (S : zq_S) (q : List Nat) : Option (zq_S × List Nat) := match S with
  | (loc, stk, C, F, sto, raw, tok, n) => match q with
    | j :: k :: c :: q => match raw[j]?, KT[k]? with
      | some (ra, ci, fs), some K => match FT[ci]? with
        | some row => bif Nat.beq K.1 0 && (Nat.beq K.2.1 ci && Nat.beq row.length fs.length) then (match zq_pbf K C F 0 fs q with
          | some q => (match zq_pbr C sto fs K.2.2.2.2.1 q with
            | some q => (match zq_rdN c q with
              | some (is, q) => some ((loc, stk, C, (ra, k) :: F, zq_pba ra fs is ++ sto, raw.eraseIdx j, tok.filter (zq_tkx FX), n), q)
              | none => none)
            | none => none)
          | none => none) else none
        | none => none
      | _, _ => none
    | _ => none
theorem zq_pba_ok {ra : zq_L} {fs : List (Nat × zq_L)} : ∀ {is : List Nat} {x : zq_L × zq_L × zq_L}, x ∈ zq_pba ra fs is → ∃ (i : Nat) (y : Nat × zq_L), fs[i]? = some y ∧ x = (ra, zq_k i, y.2)
  | [], _, h => by cases h
  | i :: l, x, h => by
    unfold zq_pba at h
    split at h
    · rename_i y hy
      rcases List.mem_cons.mp h with rfl | h
      · exact ⟨i, y, hy, rfl⟩
      · exact zq_pba_ok h
    · exact zq_pba_ok h
set_option maxHeartbeats 4000000 in
theorem zq_pb_ok {w : zq_Wd} {nL : Nat} {r r0 : Nat → Int} {P P0 : zq_Ty} {h h0 : zq_H} {H H0 : Heap} {R0 : Nat → Prop} {ls : Array Slot} {st : List Value} {locs : List Loc} {Ts : List Cond} {FT : List (List Nat)} {FN : List (List Bool)} {FX : zq_FX} {M : zq_Ms} {S S' : zq_S} {q q' : List Nat}
    (hs : zq_pb w.2.2.2.1 FT FX S q = some (S', q')) (hCI : zq_okCI Ts w.2.1 FT FN) (hW : zq_okK w) (hFX : zq_okFX w FX) (G : zq_G w nL r P h H ls st S) (Fr : zq_Fr M r0 P0 h0 H0 R0 P h H locs) (Rn : zq_Rn H0 R0 r S.2.2.2.2.2.1) :
    S'.2.2.2.2.2.2.2 = S.2.2.2.2.2.2.2 ∧ ∃ P' h', zq_G w nL r P' h' H ls st S' ∧ zq_Fr M r0 P0 h0 H0 R0 P' h' H locs ∧ zq_Rn H0 R0 r S'.2.2.2.2.2.1 := by
  obtain ⟨loc, stk, C, F, sto, raw, tok, n⟩ := S
  obtain ⟨hl, hst, oL, oT, Me⟩ := G
  simp only at hl hst oL oT Me Rn
  have hC := Me.2.1.1
  unfold zq_pb at hs
  simp only at hs
  split at hs
  · rename_i j k cn q0
    split at hs
    · rename_i ra ci fs K hraw hKT
      split at hs
      · rename_i row hrow
        cases hcd : (Nat.beq K.1 0 && (Nat.beq K.2.1 ci && Nat.beq row.length fs.length)) with
        | false => rw [hcd] at hs; cases hs
        | true =>
          rw [hcd] at hs
          simp only [cond_true] at hs
          simp only [Bool.and_eq_true] at hcd
          have k0 := Nat.eq_of_beq_eq_true hcd.1
          have k1 := Nat.eq_of_beq_eq_true hcd.2.1
          have k2 := Nat.eq_of_beq_eq_true hcd.2.2
          subst k1
          split at hs
          · rename_i q1 hpf
            split at hs
            · rename_i q2 hpr
              split at hs
              · rename_i is q3 hrn
                cases hs
                obtain ⟨a, g1, g2, g3, g4, g5⟩ := Me.2.2.2.2.1.1 _ (List.mem_of_getElem? hraw)
                simp only at g1 g2 g3 g5
                obtain ⟨rc, hrc, hOB⟩ := g5 0 _ rfl
                obtain ⟨-, -, ty0, row0, -, hrow0, hlen0, -, -⟩ := hCI _ rc hrc
                have er : row0 = row := Option.some.inj (hrow0.symm.trans hrow)
                subst er
                have hNf : fs.length = rc.2.2 := k2.symm.trans hlen0
                have hnw := Rn _ (List.mem_of_getElem? hraw) a g3
                let f : Int → Int := fun i => match fs[i.toNat]? with
                  | some y => zq_ev r y.2
                  | none => 0
                have hf : ∀ (i : Nat) (y : Nat × zq_L), fs[i]? = some y → f (i : Int) = zq_ev r y.2 := by
                  intro i y hy
                  show (match fs[((i : Int)).toNat]? with | some y => zq_ev r y.2 | none => 0) = _
                  rw [Int.toNat_natCast, hy]
                have hpk := zq_pbf_ok hC Me.2.2.1 hpf (fun y hy => (g2 y hy).2)
                have hPle : zq_le P (zq_Pp P a k) := zq_Pp_le g4
                have hex : ∀ i : Nat, i < rc.2.2 → ∃ y, fs[i]? = some y := fun i hi => ⟨fs[i]'(by omega), List.getElem?_eq_getElem (by omega)⟩
                have hgood : zq_good w (zq_Pp P a k) (zq_hp h a f) H a k := by
                  refine ⟨K, hKT, ?_, fun z => absurd k0 z, fun i hi => ?_, fun e he => ?_⟩
                  · simp only [zq_cell, k0]
                    refine ⟨rc, hrc, hOB.to fun i hi => ?_⟩
                    obtain ⟨y, hy⟩ := hex i hi
                    obtain ⟨T, t1, t2, t3⟩ := hpk i y hy
                    rw [Nat.zero_add] at t1
                    rw [zq_hp_self, hf i y hy]
                    have htg : zq_tg K i = y.1 := by unfold zq_tg; rw [hcd.1, t1, t2]; rfl
                    rw [htg]
                    simp only [vp_V]
                    rw [List.getD_eq_getElem?_getD, List.getElem?_map, hy]; rfl
                  · rw [zq_size0 k0 hrc] at hi
                    obtain ⟨y, hy⟩ := hex i (by omega)
                    obtain ⟨T, t1, t2, t3⟩ := hpk i y hy
                    rw [Nat.zero_add] at t1
                    rw [zq_hp_self, hf i y hy]
                    exact ⟨T, t1, t3.mono hPle⟩
                  · refine zq_pbr_ok (v := zq_re w K (zq_hp h a f) a) hC Me.2.2.2.1 (fun i y hy => ?_) (fun i y b hy hb hpb => ?_) hpr e he
                    · have hi : i < rc.2.2 := by rw [← hNf]; exact (List.getElem?_eq_some_iff.mp hy).1
                      rw [zq_re0 k0 hrc, if_pos hi, zq_hp_self, hf i y hy]
                    · rw [zq_re0 k0 hrc, if_neg (by omega), zq_hp_self]
                      have e1 : ((fs.length + i : Nat) : Int) - (rc.2.2 : Int) = (i : Int) := by omega
                      rw [e1, hf i y hy, hb, Int.toNat_natCast]
                      have hba : b ≠ a := fun z => by rw [z] at hpb; exact hpb g4
                      rw [zq_hp_ne hba]
                have hHT := Me.1.add hW g4 (fun b _ _ => rfl) hgood
                have hjlt : j < raw.length := (List.getElem?_eq_some_iff.mp hraw).1
                have hjx : raw[j] = (ra, K.2.1, fs) := (List.getElem?_eq_some_iff.mp hraw).2
                have hpw := Me.2.2.2.2.1.2
                refine ⟨rfl, zq_Pp P a k, zq_hp h a f, ⟨hl, hst, oL, oT, hHT, Me.2.1, ?_, ?_, ⟨?_, ?_⟩, zq_okX.hp hFX Me.2.2.2.2.2 g4⟩, Fr.hp g4 hnw (Nat.le_refl _) (fun _ _ => rfl), ?_⟩
                · intro x hx
                  rcases List.mem_cons.mp hx with rfl | hx
                  · refine ⟨g1, fun b hb => ?_⟩
                    have hb : zq_ev r ra = (b : Int) := hb
                    have : b = a := by omega
                    rw [this]; exact zq_Pp_self _ _ _
                  · exact (Me.2.2.1.le hPle) x hx
                · refine (Me.2.2.2.1.hp g4).app fun x hx => ?_
                  obtain ⟨i, y, hy, rfl⟩ := zq_pba_ok hx
                  refine ⟨g1, zq_bd_k, (g2 _ (List.mem_of_getElem? hy)).1, a, g3, by rw [zq_Pp_self]; exact Option.some_ne_none _, ?_⟩
                  show zq_hp h a f a (zq_ev r (zq_k i)) = zq_ev r y.2
                  rw [zq_hp_self, zq_ev_k, hf i y hy]
                · intro x hx
                  obtain ⟨i', hlt, hne, ex⟩ := List.mem_eraseIdx_iff_getElem.mp hx
                  have hm : x ∈ raw := by rw [← ex]; exact List.getElem_mem _
                  obtain ⟨b, y1, y2, y3, y4, y5⟩ := Me.2.2.2.2.1.1 x hm
                  have hba : b ≠ a := by
                    intro z
                    rw [z] at y3
                    rcases Nat.lt_or_gt_of_ne hne with h1 | h1
                    · have := List.pairwise_iff_getElem.mp hpw i' j hlt hjlt h1
                      rw [hjx, ex, g3, y3] at this
                      exact this rfl
                    · have := List.pairwise_iff_getElem.mp hpw j i' hjlt hlt h1
                      rw [hjx, ex, g3, y3] at this
                      exact this rfl
                  exact ⟨b, y1, y2, y3, by rw [zq_Pp_ne hba]; exact y4, y5⟩
                · exact hpw.sublist (List.eraseIdx_sublist raw j)
                · intro x hx
                  exact Rn x ((List.eraseIdx_sublist raw j).subset hx)
              · cases hs
            · cases hs
          · cases hs
      · cases hs
    · cases hs
  · cases hs
