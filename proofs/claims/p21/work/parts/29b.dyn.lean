/-! TOKENS that look at ranges told by their arguments: kept behind a store elsewhere -/
abbrev zq_DXt : Type := List (Nat × List (Nat × zq_L × zq_L))
abbrev zq_GX : Type := zq_GLt × zq_DXt
noncomputable def zq_en (as : List Int) : Nat → Int := fun i => as.getD i 0
noncomputable def zq_okDX (w : zq_Wd) (DX : zq_DXt) : Prop := ∀ x ∈ DX, ∀ (as : List Int) (P : zq_Ty) (h : zq_H) (a k : Nat) (j v : Int), P a = some k → (∀ y ∈ x.2, y.1 = k → j < zq_ev (zq_en as) y.2.1 ∨ zq_ev (zq_en as) y.2.2 < j) → w.2.2.2.2 x.1 as P h → w.2.2.2.2 x.1 as P (zq_wr h a j v)
/-- 362: there is a cell right below b, or none is needed; what a token with a bound, and where its bound stands -/
noncomputable def zq_okLB (w : zq_Wd) : Prop := ∀ (b : Int) (P : zq_Ty) (h : zq_H), w.2.2.2.2 362 [b] P h → b ≤ 0 ∨ P (b - 1).toNat ≠ none
noncomputable def zq_BT (id : Nat) : Bool := Nat.ble 364 id && Nat.ble id 367
noncomputable def zq_okBT (w : zq_Wd) : Prop := ∀ (id : Nat), zq_BT id = true → ∀ (as : List Int) (P : zq_Ty) (h : zq_H) (a : Nat) (j v : Int), zq_en as 3 ≤ (a : Int) → w.2.2.2.2 id as P h → w.2.2.2.2 id as P (zq_wr h a j v)
noncomputable def zq_okDO (w : zq_Wd) (DX : zq_DXt) : Prop := zq_okDX w DX ∧ zq_okOP w ∧ zq_okLB w ∧ zq_okBT w
/-- rows of a new cell v: it lies behind all bounds -/
noncomputable def zq_lbr (v : zq_L) : List (Nat × List zq_L) → List zq_L
  | [] => []
  | x :: l => bif Nat.beq x.1 362 then (match x.2 with
    | [b] => zq_sub v b :: zq_lbr v l
    | _ => zq_lbr v l) else zq_lbr v l
theorem zq_lbr_ok {w : zq_Wd} (hL : zq_okLB w) {P : zq_Ty} {h : zq_H} {H : Heap} {n n' : Nat} {r r' : Nat → Int} {v : zq_L} (hn : n ≤ n') (hx : zq_ext n r r') (hv : zq_bd n' v = true) (hz : zq_ev r' v = (H.size : Int)) (hP : ∀ a : Nat, P a ≠ none → a < H.size) : ∀ {tok : List (Nat × List zq_L)}, zq_okX w r P h n tok → zq_all r' (zq_lbr v tok) ∧ ∀ e ∈ zq_lbr v tok, zq_bd n' e = true
  | [], _ => ⟨fun x hx => (by cases hx), fun x hx => (by cases hx)⟩
  | x :: l, hX => by
    obtain ⟨i1, i2⟩ := zq_lbr_ok hL hn hx hv hz hP (tok := l) (fun y hy => hX y (List.mem_cons_of_mem _ hy))
    obtain ⟨y1, y2⟩ := hX x List.mem_cons_self
    unfold zq_lbr
    cases hc : Nat.beq x.1 362 with
    | false => exact ⟨i1, i2⟩
    | true =>
      simp only [cond_true]
      have e1 := Nat.eq_of_beq_eq_true hc
      split
      · rename_i b hb
        rw [hb] at y1 y2
        have hbb := y1 b List.mem_cons_self
        rw [e1] at y2
        have q := hL _ P h y2
        have hle : zq_ev r b ≤ (H.size : Int) := by
          rcases q with q | q
          · omega
          · have := hP _ q; omega
        refine ⟨fun e he => ?_, fun e he => ?_⟩
        · rcases List.mem_cons.mp he with rfl | he
          · rw [zq_ev_sub, hz, zq_ev_ext hx hbb]; omega
          · exact i1 e he
        · rcases List.mem_cons.mp he with rfl | he
          · exact zq_bd_sub hv (zq_bd_mono hn hbb)
          · exact i2 e he
      · exact ⟨i1, i2⟩
/-- tokens with bounds that a store beyond them keeps -/
noncomputable def zq_kb (C : List zq_L) (er : zq_L) (tok : List (Nat × List zq_L)) : Nat → List Nat → Option (List (Nat × List zq_L) × List Nat)
  | 0, q => some ([], q)
  | c + 1, j :: q => match tok[j]? with
    | some x => match x.2 with
      | [_, _, _, b] => bif zq_BT x.1 then (match zq_prove C (zq_sub er b) q with
        | some q => match zq_kb C er tok c q with
          | some (l, q) => some (x :: l, q)
          | none => none
        | none => none) else none
      | _ => none
    | none => none
  | _ + 1, [] => none
theorem zq_kb_mem {C : List zq_L} {er : zq_L} {tok : List (Nat × List zq_L)} : ∀ {c : Nat} {q q' : List Nat} {l : List (Nat × List zq_L)}, zq_kb C er tok c q = some (l, q') → ∀ x ∈ l, x ∈ tok ∧ zq_BT x.1 = true ∧ ∃ e0 e1 e2 b, x.2 = [e0, e1, e2, b] ∧ ∃ q1 q2, zq_prove C (zq_sub er b) q1 = some q2
  | 0, _, _, _, h => by cases h; exact fun x hx => by cases hx
  | c + 1, [], _, _, h => by cases h
  | c + 1, j :: q, q', l, h => by
    unfold zq_kb at h
    split at h
    · rename_i x hx
      split at h
      · rename_i e0 e1 e2 b hx2
        cases hc : zq_BT x.1 with
        | false => rw [hc] at h; cases h
        | true =>
          rw [hc] at h
          simp only [cond_true] at h
          split at h
          · rename_i q1 hq1
            split at h
            · rename_i l1 q2 hl1
              cases h
              intro y hy
              rcases List.mem_cons.mp hy with rfl | hy
              · exact ⟨List.mem_of_getElem? hx, hc, e0, e1, e2, b, hx2, _, _, hq1⟩
              · exact zq_kb_mem hl1 y hy
            · cases h
          · cases h
      · cases h
    · cases h
theorem zq_kb_0 {w : zq_Wd} {C : List zq_L} {er : zq_L} {n : Nat} {tok l : List (Nat × List zq_L)} {r : Nat → Int} {P : zq_Ty} {h : zq_H} (hX : zq_okX w r P h n tok) {c : Nat} {q q' : List Nat} (hk : zq_kb C er tok c q = some (l, q')) : zq_okX w r P h n l := fun x hx => hX x (zq_kb_mem hk x hx).1
theorem zq_kb_ok {w : zq_Wd} (hB : zq_okBT w) {C : List zq_L} {er : zq_L} {n : Nat} {tok l : List (Nat × List zq_L)} {r : Nat → Int} {P : zq_Ty} {h : zq_H} {a : Nat} {i v : Int} (hC : zq_all r C) (ha : zq_ev r er = (a : Int)) (hX : zq_okX w r P h n tok) {c : Nat} {q q' : List Nat} (hk : zq_kb C er tok c q = some (l, q')) : zq_okX w r P (zq_wr h a i v) n l := fun x hx => by
  obtain ⟨m1, m2, e0, e1, e2, b, m3, q1, q2, m4⟩ := zq_kb_mem hk x hx
  obtain ⟨y1, y2⟩ := hX x m1
  have hp := zq_prove_ok m4 hC
  rw [zq_ev_sub] at hp
  exact ⟨y1, hB x.1 m2 _ P h a i v (by rw [m3]; show zq_ev r b ≤ (a : Int); omega) y2⟩
noncomputable def zq_dxo (id : Nat) : zq_DXt → Option (List (Nat × zq_L × zq_L))
  | [] => none
  | x :: l => bif Nat.beq x.1 id then some x.2 else zq_dxo id l
theorem zq_dxo_ok {id : Nat} {o : List (Nat × zq_L × zq_L)} : ∀ {l : zq_DXt}, zq_dxo id l = some o → (id, o) ∈ l
  | [], h => by cases h
  | x :: l, h => by
    unfold zq_dxo at h
    cases hc : Nat.beq x.1 id with
    | true =>
      rw [hc] at h
      have e1 := Nat.eq_of_beq_eq_true hc
      have e2 : x.2 = o := Option.some.inj h
      rw [← e1, ← e2]; exact List.mem_cons_self
    | false => rw [hc] at h; exact List.mem_cons_of_mem _ (zq_dxo_ok h)
noncomputable def zq_dxp (C : List zq_L) (ei : zq_L) (k : Nat) (g : List zq_L) : List (Nat × zq_L × zq_L) → List Nat → Option (List Nat)
  | [], q => some q
  | y :: l, q => bif Nat.beq y.1 k then (match q with
    | o :: q => (match zq_prove C (bif Nat.beq o 0 then zq_addk (zq_sub (zq_sb g y.2.1) ei) (-1) else zq_addk (zq_sub ei (zq_sb g y.2.2)) (-1)) q with
      | some q => zq_dxp C ei k g l q
      | none => none)
    | [] => none) else zq_dxp C ei k g l q
theorem zq_sv_en {r : Nat → Int} {g : List zq_L} : zq_sv r g = zq_en (g.map (zq_ev r)) := by
  funext i
  unfold zq_sv zq_en
  rw [List.getD_eq_getElem?_getD, List.getD_eq_getElem?_getD, List.getElem?_map]
  cases g[i]? <;> rfl
theorem zq_dxp_ok {C : List zq_L} {ei : zq_L} {k : Nat} {g : List zq_L} {r : Nat → Int} (hC : zq_all r C) : ∀ {l : List (Nat × zq_L × zq_L)} {q q' : List Nat}, zq_dxp C ei k g l q = some q' → ∀ y ∈ l, y.1 = k → zq_ev r ei < zq_ev (zq_en (g.map (zq_ev r))) y.2.1 ∨ zq_ev (zq_en (g.map (zq_ev r))) y.2.2 < zq_ev r ei
  | [], _, _, _ => fun y hy => by cases hy
  | x :: l, q, q', h => fun y hy hk => by
    unfold zq_dxp at h
    cases hc : Nat.beq x.1 k with
    | true =>
      rw [hc] at h
      simp only [cond_true] at h
      split at h
      · rename_i o q1
        split at h
        · rename_i q2 hq2
          rcases List.mem_cons.mp hy with rfl | hy
          · have z := zq_prove_ok hq2 hC
            cases ho : Nat.beq o 0 with
            | true =>
              rw [ho] at z; simp only [cond_true] at z
              rw [zq_ev_addk, zq_ev_sub, zq_ev_sb, zq_sv_en] at z
              left; omega
            | false =>
              rw [ho] at z; simp only [cond_false] at z
              rw [zq_ev_addk, zq_ev_sub, zq_ev_sb, zq_sv_en] at z
              right; omega
          · exact zq_dxp_ok hC h y hy hk
        · cases h
      · cases h
    | false =>
      rw [hc] at h
      simp only [cond_false] at h
      rcases List.mem_cons.mp hy with rfl | hy
      · rw [hk] at hc
        have : Nat.beq k k = true := by simp
        rw [this] at hc; cases hc
      · exact zq_dxp_ok hC h y hy hk
noncomputable def zq_kx (DX : zq_DXt) (C : List zq_L) (ei : zq_L) (k : Nat) (tok : List (Nat × List zq_L)) : Nat → List Nat → Option (List (Nat × List zq_L) × List Nat)
  | 0, q => some ([], q)
  | c + 1, j :: q => match tok[j]? with
    | some x => match zq_dxo x.1 DX with
      | some fp => match zq_dxp C ei k x.2 fp q with
        | some q => match zq_kx DX C ei k tok c q with
          | some (l, q) => some (x :: l, q)
          | none => none
        | none => none
      | none => none
    | none => none
  | _ + 1, [] => none
theorem zq_kx_ok {w : zq_Wd} {DX : zq_DXt} (hDX : zq_okDX w DX) {C : List zq_L} {ei : zq_L} {k n : Nat} {tok : List (Nat × List zq_L)} {r : Nat → Int} {P : zq_Ty} {h : zq_H} {a : Nat} {v : Int} (hC : zq_all r C) (hP : P a = some k) (hX : zq_okX w r P h n tok) : ∀ {c : Nat} {q q' : List Nat} {l : List (Nat × List zq_L)}, zq_kx DX C ei k tok c q = some (l, q') → zq_okX w r P (zq_wr h a (zq_ev r ei) v) n l
  | 0, _, _, _, h => by cases h; exact fun x hx => by cases hx
  | c + 1, [], _, _, h => by cases h
  | c + 1, j :: q, q', l, h => by
    unfold zq_kx at h
    split at h
    · rename_i x hx
      split at h
      · rename_i fp hfp
        split at h
        · rename_i q1 hq1
          split at h
          · rename_i l1 q2 hl1
            cases h
            intro y hy
            rcases List.mem_cons.mp hy with rfl | hy
            · obtain ⟨b, z⟩ := hX _ (List.mem_of_getElem? hx)
              exact ⟨b, hDX _ (zq_dxo_ok hfp) _ P _ a k _ v hP (zq_dxp_ok hC hq1) z⟩
            · exact zq_kx_ok hDX hC hP hX hl1 y hy
          · cases h
        · cases h
      · cases h
    · cases h
