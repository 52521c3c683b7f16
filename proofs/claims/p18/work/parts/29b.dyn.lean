/-! TOKENS that look at ranges told by their arguments: kept behind a store elsewhere -/
abbrev zq_DXt : Type := List (Nat × List (Nat × zq_L × zq_L))
abbrev zq_GX : Type := zq_GLt × zq_DXt
noncomputable def zq_en (as : List Int) : Nat → Int := fun i => as.getD i 0
noncomputable def zq_okDX (w : zq_Wd) (DX : zq_DXt) : Prop := ∀ x ∈ DX, ∀ (as : List Int) (P : zq_Ty) (h : zq_H) (a k : Nat) (j v : Int), P a = some k → (∀ y ∈ x.2, y.1 = k → j < zq_ev (zq_en as) y.2.1 ∨ zq_ev (zq_en as) y.2.2 < j) → w.2.2.2.2 x.1 as P h → w.2.2.2.2 x.1 as P (zq_wr h a j v)
noncomputable def zq_dxo (id : Nat) : zq_DXt → Option (List (Nat × zq_L × zq_L))
  | [] => none
  | x :: l => bif Nat.beq x.1 id then some x.2 else zq_dxo id l
theorem zq_dxo_ok {id : Nat} {o : List (Nat × zq_L × zq_L)} : ∀ {l : zq_DXt}, zq_dxo id l = some o → (id, o) ∈ l
  | [], h => by cases h
  | x :: l, h => by
    unfold zq_dxo at h
    cases hc : Nat.beq x.1 id with
    | true =>
      rw [hc] at h
      have e1 := Nat.eq_of_beq_eq_true hc
      have e2 : x.2 = o := Option.some.inj h
      rw [← e1, ← e2]; exact List.mem_cons_self
    | false => rw [hc] at h; exact List.mem_cons_of_mem _ (zq_dxo_ok h)
noncomputable def zq_dxp (C : List zq_L) (ei : zq_L) (k : Nat) (g : List zq_L) : List (Nat × zq_L × zq_L) → List Nat → Option (List Nat)
  | [], q => some q
  | y :: l, q => bif Nat.beq y.1 k then (match q with
    | o :: q => (match zq_prove C (bif Nat.beq o 0 then zq_addk (zq_sub (zq_sb g y.2.1) ei) (-1) else zq_addk (zq_sub ei (zq_sb g y.2.2)) (-1)) q with
      | some q => zq_dxp C ei k g l q
      | none => none)
    | [] => none) else zq_dxp C ei k g l q
theorem zq_sv_en {r : Nat → Int} {g : List zq_L} : zq_sv r g = zq_en (g.map (zq_ev r)) := by
  funext i
  unfold zq_sv zq_en
  rw [List.getD_eq_getElem?_getD, List.getD_eq_getElem?_getD, List.getElem?_map]
  cases g[i]? <;> rfl
theorem zq_dxp_ok {C : List zq_L} {ei : zq_L} {k : Nat} {g : List zq_L} {r : Nat → Int} (hC : zq_all r C) : ∀ {l : List (Nat × zq_L × zq_L)} {q q' : List Nat}, zq_dxp C ei k g l q = some q' → ∀ y ∈ l, y.1 = k → zq_ev r ei < zq_ev (zq_en (g.map (zq_ev r))) y.2.1 ∨ zq_ev (zq_en (g.map (zq_ev r))) y.2.2 < zq_ev r ei
  | [], _, _, _ => fun y hy => by cases hy
  | x :: l, q, q', h => fun y hy hk => by
    unfold zq_dxp at h
    cases hc : Nat.beq x.1 k with
    | true =>
      rw [hc] at h
      simp only [cond_true] at h
      split at h
      · rename_i o q1
        split at h
        · rename_i q2 hq2
          rcases List.mem_cons.mp hy with rfl | hy
          · have z := zq_prove_ok hq2 hC
            cases ho : Nat.beq o 0 with
            | true =>
              rw [ho] at z; simp only [cond_true] at z
              rw [zq_ev_addk, zq_ev_sub, zq_ev_sb, zq_sv_en] at z
              left; omega
            | false =>
              rw [ho] at z; simp only [cond_false] at z
              rw [zq_ev_addk, zq_ev_sub, zq_ev_sb, zq_sv_en] at z
              right; omega
          · exact zq_dxp_ok hC h y hy hk
        · cases h
      · cases h
    | false =>
      rw [hc] at h
      simp only [cond_false] at h
      rcases List.mem_cons.mp hy with rfl | hy
      · rw [hk] at hc
        have : Nat.beq k k = true := by simp
        rw [this] at hc; cases hc
      · exact zq_dxp_ok hC h y hy hk
noncomputable def zq_kx (DX : zq_DXt) (C : List zq_L) (ei : zq_L) (k : Nat) (tok : List (Nat × List zq_L)) : Nat → List Nat → Option (List (Nat × List zq_L) × List Nat)
  | 0, q => some ([], q)
  | c + 1, j :: q => match tok[j]? with
    | some x => match zq_dxo x.1 DX with
      | some fp => match zq_dxp C ei k x.2 fp q with
        | some q => match zq_kx DX C ei k tok c q with
          | some (l, q) => some (x :: l, q)
          | none => none
        | none => none
      | none => none
    | none => none
  | _ + 1, [] => none
theorem zq_kx_ok {w : zq_Wd} {DX : zq_DXt} (hDX : zq_okDX w DX) {C : List zq_L} {ei : zq_L} {k n : Nat} {tok : List (Nat × List zq_L)} {r : Nat → Int} {P : zq_Ty} {h : zq_H} {a : Nat} {v : Int} (hC : zq_all r C) (hP : P a = some k) (hX : zq_okX w r P h n tok) : ∀ {c : Nat} {q q' : List Nat} {l : List (Nat × List zq_L)}, zq_kx DX C ei k tok c q = some (l, q') → zq_okX w r P (zq_wr h a (zq_ev r ei) v) n l
  | 0, _, _, _, h => by cases h; exact fun x hx => by cases hx
  | c + 1, [], _, _, h => by cases h
  | c + 1, j :: q, q', l, h => by
    unfold zq_kx at h
    split at h
    · rename_i x hx
      split at h
      · rename_i fp hfp
        split at h
        · rename_i q1 hq1
          split at h
          · rename_i l1 q2 hl1
            cases h
            intro y hy
            rcases List.mem_cons.mp hy with rfl | hy
            · obtain ⟨b, z⟩ := hX _ (List.mem_of_getElem? hx)
              exact ⟨b, hDX _ (zq_dxo_ok hfp) _ P _ a k _ v hP (zq_dxp_ok hC hq1) z⟩
            · exact zq_kx_ok hDX hC hP hX hl1 y hy
          · cases h
        · cases h
      · cases h
    · cases h
