/-! WRITING: what may be written, what stays -/
noncomputable def zq_wr (h : zq_H) (a : Nat) (i v : Int) : zq_H := fun b j => if b = a ∧ j = i then v else h b j
theorem zq_wr_self (h : zq_H) (a : Nat) (i v : Int) : zq_wr h a i v a i = v := by simp [zq_wr]
theorem zq_wr_ne {h : zq_H} {a b : Nat} {i j v : Int} (q : ¬ (b = a ∧ j = i)) : zq_wr h a i v b j = h b j := by simp [zq_wr, q]
/-- ranges that may be written: kind, from, to (over the variables of the start) -/
abbrev zq_Ms : Type := List (Nat × zq_L × zq_L)
noncomputable def zq_md (M : zq_Ms) (r0 : Nat → Int) (k : Nat) (j : Int) : Prop := 0 ≤ j ∧ ∃ x ∈ M, x.1 = k ∧ zq_ev r0 x.2.1 ≤ j ∧ j ≤ zq_ev r0 x.2.2
noncomputable def zq_nw (H0 : Heap) (R0 : Nat → Prop) (a : Nat) : Prop := H0.size ≤ a ∨ R0 a
noncomputable def zq_A (M : zq_Ms) (P0 : zq_Ty) (H0 : Heap) (R0 : Nat → Prop) (q : Nat) : Prop := (∃ k, P0 q = some k ∧ ∃ x ∈ M, x.1 = k) ∨ zq_nw H0 R0 q
abbrev zq_Rw : Type := List (zq_L × Nat × List (Nat × zq_L))
/-- the frame: since the start nothing else was written -/
noncomputable def zq_Fr (M : zq_Ms) (r0 : Nat → Int) (P0 : zq_Ty) (h0 : zq_H) (H0 : Heap) (R0 : Nat → Prop) (P : zq_Ty) (h : zq_H) (H : Heap) (locs : List Loc) : Prop :=
  va_S (zq_A M P0 H0 R0) H0 H locs ∧ zq_le P0 P ∧ (∀ a k j, P0 a = some k → ¬ zq_md M r0 k j → h a j = h0 a j) ∧ (∀ a k, P a = some k → P0 a = some k ∨ (P0 a = none ∧ zq_nw H0 R0 a))
/-- objects in the making are new -/
noncomputable def zq_Rn (H0 : Heap) (R0 : Nat → Prop) (r : Nat → Int) (raw : zq_Rw) : Prop := ∀ x ∈ raw, ∀ a : Nat, zq_ev r x.1 = (a : Int) → zq_nw H0 R0 a
theorem zq_Fr.A {M : zq_Ms} {r0 : Nat → Int} {P0 P : zq_Ty} {h0 h : zq_H} {H0 H : Heap} {R0 : Nat → Prop} {locs : List Loc} (f : zq_Fr M r0 P0 h0 H0 R0 P h H locs) {a k : Nat} (hP : P a = some k) {j : Int} (hm : zq_md M r0 k j) : zq_A M P0 H0 R0 a := by
  rcases f.2.2.2 a k hP with q | q
  · obtain ⟨-, x, hx, e, -⟩ := hm
    exact Or.inl ⟨k, q, x, hx, e⟩
  · exact Or.inr q.2
theorem zq_Fr.put {M : zq_Ms} {r0 : Nat → Int} {P0 P : zq_Ty} {h0 h : zq_H} {H0 H H1 : Heap} {R0 : Nat → Prop} {locs : List Loc} (f : zq_Fr M r0 P0 h0 H0 R0 P h H locs) {a k s : Nat} (hP : P a = some k) {j v : Int} (hm : zq_md M r0 k j) (z : H1.size = H.size) (oq : ∀ q : Nat, q ≠ a → H1[q]? = H[q]?) : zq_Fr M r0 P0 h0 H0 R0 P (zq_wr h a j v) H1 (locs ++ [⟨a, s⟩]) := by
  refine ⟨f.1.put z oq (f.A hP hm), f.2.1, fun b k' j' hb hn => ?_, f.2.2.2⟩
  rw [zq_wr_ne, f.2.2.1 b k' j' hb hn]
  rintro ⟨rfl, rfl⟩
  have e : k' = k := Option.some.inj ((f.2.1 _ _ hb).symm.trans hP)
  subst e
  exact hn hm
theorem zq_Fr.putR {M : zq_Ms} {r0 : Nat → Int} {P0 P : zq_Ty} {h0 h : zq_H} {H0 H H1 : Heap} {R0 : Nat → Prop} {locs : List Loc} (f : zq_Fr M r0 P0 h0 H0 R0 P h H locs) {a s : Nat} (hn : zq_nw H0 R0 a) (z : H1.size = H.size) (oq : ∀ q : Nat, q ≠ a → H1[q]? = H[q]?) : zq_Fr M r0 P0 h0 H0 R0 P h H1 (locs ++ [⟨a, s⟩]) :=
  ⟨f.1.put z oq (Or.inr hn), f.2.1, f.2.2.1, f.2.2.2⟩
/-- what other cells' rows say stays -/
theorem zq_re_ne {w : zq_Wd} {K : zq_K} {h : zq_H} {a b : Nat} {i v : Int} (hi : 0 ≤ i) (hb : b ≠ a) : zq_re w K (zq_wr h a i v) b = zq_re w K h b := by
  have e1 : ∀ j, zq_wr h a i v b j = h b j := fun j => zq_wr_ne (fun q => hb q.1)
  have e0 : zq_wr h a i v b = h b := funext e1
  have e2 : ∀ c, zq_wr h a i v c (-1) = h c (-1) := fun c => zq_wr_ne (fun q => by omega)
  unfold zq_re
  rw [e0]
  split
  · funext j; simp only [e2]
  · rfl
theorem zq_good_ne {w : zq_Wd} {P : zq_Ty} {h : zq_H} {H H1 : Heap} {a b k : Nat} {i v : Int} (hi : 0 ≤ i) (hb : b ≠ a) (oq : H1[b]? = H[b]?) (g : zq_good w P h H b k) : zq_good w P (zq_wr h a i v) H1 b k := by
  have e0 : zq_wr h a i v b = h b := funext fun j => zq_wr_ne (fun q => hb q.1)
  obtain ⟨K, g1, g2, g3, g4, g5⟩ := g
  refine ⟨K, g1, ?_, ?_, ?_, ?_⟩
  · rw [e0]; exact g2.kept oq
  · rw [e0]; exact g3
  · rw [e0]; exact g4
  · rw [zq_re_ne hi hb]; exact g5
theorem zq_okS.flt {r : Nat → Int} {P : zq_Ty} {h h' : zq_H} {n : Nat} {sto sto' : zq_St} (q : zq_okS r P h n sto) (hk : ∀ x ∈ sto', x ∈ sto ∧ ∀ a : Nat, zq_ev r x.1 = (a : Int) → P a ≠ none → h' a (zq_ev r x.2.1) = h a (zq_ev r x.2.1)) : zq_okS r P h' n sto' := fun x hx => by
  obtain ⟨h1, h2⟩ := hk x hx
  obtain ⟨b1, b2, b3, a, e1, e2, e3⟩ := q x h1
  exact ⟨b1, b2, b3, a, e1, e2, by rw [h2 a e1 e2]; exact e3⟩
/-- is a row of the store kept behind a write of kind k at the place ei: by its place, or by its kind -/
noncomputable def zq_kp1 (ei idx : zq_L) : Bool := match idx.2 with
  | [] => decide (idx.1 < 0) || (match ei.2 with
    | [] => !decide (idx.1 = ei.1)
    | _ => false)
  | _ => false
noncomputable def zq_kp2 (k : Nat) (F : List (zq_L × Nat)) (er : zq_L) : Bool := match zq_kd F er with
  | some k' => !Nat.beq k' k
  | none => false
theorem zq_kp1_ok {ei idx : zq_L} (h : zq_kp1 ei idx = true) : idx.2 = [] ∧ (idx.1 < 0 ∨ (ei.2 = [] ∧ idx.1 ≠ ei.1)) := by
  unfold zq_kp1 at h
  split at h
  · rename_i h0
    refine ⟨h0, ?_⟩
    simp only [Bool.or_eq_true, decide_eq_true_eq] at h
    rcases h with h | h
    · exact Or.inl h
    · right
      split at h
      · rename_i h1
        simp only [Bool.not_eq_true', decide_eq_false_iff_not] at h
        exact ⟨h1, h⟩
      · cases h
  · cases h
theorem zq_kp2_ok {k : Nat} {F : List (zq_L × Nat)} {er : zq_L} (h : zq_kp2 k F er = true) : ∃ k', (er, k') ∈ F ∧ k' ≠ k := by
  unfold zq_kp2 at h
  split at h
  · rename_i k' hk'
    refine ⟨k', zq_kd_ok hk', fun e => ?_⟩
    rw [e] at h
    simp at h
  · cases h
/-- ps: places of rows whose place is proved another one -/
noncomputable def zq_stf (k : Nat) (ei : zq_L) (F : List (zq_L × Nat)) (ps : List Nat) : Nat → zq_St → zq_St
  | _, [] => []
  | j, x :: l => bif (zq_kp1 ei x.2.1 || zq_kp2 k F x.1) || ps.any (fun p => Nat.beq p j) then x :: zq_stf k ei F ps (j + 1) l else zq_stf k ei F ps (j + 1) l
theorem zq_stf_ok {k : Nat} {ei : zq_L} {F : List (zq_L × Nat)} {ps : List Nat} {x : zq_L × zq_L × zq_L} : ∀ {j : Nat} {sto : zq_St}, x ∈ zq_stf k ei F ps j sto → x ∈ sto ∧ ((x.2.1.2 = [] ∧ (x.2.1.1 < 0 ∨ (ei.2 = [] ∧ x.2.1.1 ≠ ei.1))) ∨ (∃ k', (x.1, k') ∈ F ∧ k' ≠ k) ∨ ∃ p ∈ ps, j ≤ p ∧ sto[p - j]? = some x)
  | _, [], h => by cases h
  | j, y :: l, h => by
    unfold zq_stf at h
    have hrec : x ∈ zq_stf k ei F ps (j + 1) l → x ∈ y :: l ∧ ((x.2.1.2 = [] ∧ (x.2.1.1 < 0 ∨ (ei.2 = [] ∧ x.2.1.1 ≠ ei.1))) ∨ (∃ k', (x.1, k') ∈ F ∧ k' ≠ k) ∨ ∃ p ∈ ps, j ≤ p ∧ (y :: l)[p - j]? = some x) := fun h => by
      obtain ⟨h1, h2⟩ := zq_stf_ok h
      refine ⟨List.mem_cons_of_mem _ h1, ?_⟩
      rcases h2 with h2 | h2 | ⟨p, hp, h3, h4⟩
      · exact Or.inl h2
      · exact Or.inr (Or.inl h2)
      · refine Or.inr (Or.inr ⟨p, hp, by omega, ?_⟩)
        rw [show p - j = (p - (j + 1)) + 1 by omega]; exact h4
    cases hc : ((zq_kp1 ei y.2.1 || zq_kp2 k F y.1) || ps.any (fun p => Nat.beq p j)) with
    | false => rw [hc] at h; exact hrec h
    | true =>
      rw [hc] at h
      rcases List.mem_cons.mp h with e | h
      · subst e
        refine ⟨List.mem_cons_self, ?_⟩
        simp only [Bool.or_eq_true] at hc
        rcases hc with (hc | hc) | hc
        · exact Or.inl (zq_kp1_ok hc)
        · exact Or.inr (Or.inl (zq_kp2_ok hc))
        · right; right
          obtain ⟨p, hp, hq⟩ := List.any_eq_true.mp hc
          have := Nat.eq_of_beq_eq_true hq
          subst this
          exact ⟨p, hp, Nat.le_refl _, by simp⟩
      · exact hrec h
/-- rows whose place is proved another one -/
noncomputable def zq_rdK (C : List zq_L) (sto : zq_St) (ei : zq_L) : Nat → List Nat → Option (List Nat × List Nat)
  | 0, q => some ([], q)
  | k + 1, j :: o :: q => match sto[j]? with
    | some x => match zq_prove C (bif Nat.beq o 0 then zq_addk (zq_sub ei x.2.1) (-1) else zq_addk (zq_sub x.2.1 ei) (-1)) q with
      | some q => match zq_rdK C sto ei k q with
        | some (l, q) => some (j :: l, q)
        | none => none
      | none => none
    | none => none
  | _ + 1, _ => none
theorem zq_rdK_ok {C : List zq_L} {sto : zq_St} {ei : zq_L} {r : Nat → Int} (hC : zq_all r C) : ∀ {k : Nat} {q q' ps : List Nat}, zq_rdK C sto ei k q = some (ps, q') → ∀ p ∈ ps, ∀ x, sto[p]? = some x → zq_ev r x.2.1 ≠ zq_ev r ei
  | 0, q, q', ps, h => by cases h; intro p hp; cases hp
  | k + 1, [], _, _, h => by cases h
  | k + 1, [_], _, _, h => by cases h
  | k + 1, j :: o :: q, q', ps, h => by
    unfold zq_rdK at h
    split at h
    · rename_i x hx
      split at h
      · rename_i q1 hq1
        split at h
        · rename_i l q2 hl
          cases h
          intro p hp y hy
          rcases List.mem_cons.mp hp with rfl | hp
          · have e : y = x := Option.some.inj (hy.symm.trans hx)
            subst e
            have z := zq_prove_ok hq1 hC
            cases ho : Nat.beq o 0 with
            | true => rw [ho] at z; simp only [cond_true] at z; rw [zq_ev_addk, zq_ev_sub] at z; omega
            | false => rw [ho] at z; simp only [cond_false] at z; rw [zq_ev_addk, zq_ev_sub] at z; omega
          · exact zq_rdK_ok hC hl p hp y hy
        · cases h
      · cases h
    · cases h
/-- ranges that a token looks at -/
abbrev zq_FX : Type := List (Nat × List (Nat × Int × Int))
noncomputable def zq_fxo (id : Nat) (l : zq_FX) : Option (List (Nat × Int × Int)) := List.rec (motive := fun _ => Option (List (Nat × Int × Int))) none (fun x _ ih => Bool.rec (motive := fun _ => Option (List (Nat × Int × Int))) ih (some x.2) (Nat.beq x.1 id)) l
theorem zq_fxo_c {id : Nat} {x : Nat × List (Nat × Int × Int)} {l : zq_FX} : zq_fxo id (x :: l) = bif Nat.beq x.1 id then some x.2 else zq_fxo id l := by
  show Bool.rec (motive := fun _ => Option (List (Nat × Int × Int))) (zq_fxo id l) (some x.2) (Nat.beq x.1 id) = _
  cases Nat.beq x.1 id <;> rfl
theorem zq_fxo_ok {id : Nat} {o : List (Nat × Int × Int)} : ∀ {l : zq_FX}, zq_fxo id l = some o → (id, o) ∈ l
  | [], h => by cases (show none = some o from h)
  | x :: l, h => by
    rw [zq_fxo_c] at h
    cases hc : Nat.beq x.1 id with
    | true =>
      rw [hc] at h
      have e1 := Nat.eq_of_beq_eq_true hc
      have e2 : x.2 = o := Option.some.inj h
      rw [← e1, ← e2]; exact List.mem_cons_self
    | false => rw [hc] at h; exact List.mem_cons_of_mem _ (zq_fxo_ok h)
/-- a token's truth hangs on its ranges alone -/
noncomputable def zq_okFX (w : zq_Wd) (FX : zq_FX) : Prop := ∀ x ∈ FX, ∀ (as : List Int) (P P' : zq_Ty) (h h' : zq_H), zq_le P P' → (∀ a k j, P a = some k → (∃ y ∈ x.2, y.1 = k ∧ y.2.1 ≤ j ∧ j ≤ y.2.2) → h' a j = h a j) → w.2.2.2.2 x.1 as P h → w.2.2.2.2 x.1 as P' h'
noncomputable def zq_tkp (FX : zq_FX) (k : Nat) (ei : zq_L) (x : Nat × List zq_L) : Bool := match zq_fxo x.1 FX with
  | some rs => rs.all (fun y => !Nat.beq y.1 k || (match ei.2 with
    | [] => decide (ei.1 < y.2.1) || decide (y.2.2 < ei.1)
    | _ => false))
  | none => false
theorem zq_tkp_ok {w : zq_Wd} {FX : zq_FX} (hX : zq_okFX w FX) {k : Nat} {ei : zq_L} {x : Nat × List zq_L} (hx : zq_tkp FX k ei x = true) {r : Nat → Int} {P : zq_Ty} {h : zq_H} {a : Nat} {v : Int} (hP : P a = some k) (ht : w.2.2.2.2 x.1 (x.2.map (zq_ev r)) P h) : w.2.2.2.2 x.1 (x.2.map (zq_ev r)) P (zq_wr h a (zq_ev r ei) v) := by
  unfold zq_tkp at hx
  split at hx
  · rename_i rs hrs
    refine hX _ (zq_fxo_ok hrs) _ P P h _ (fun _ _ q => q) (fun b k' j hb hy => ?_) ht
    obtain ⟨y, hy1, hy2, hy3, hy4⟩ := hy
    refine zq_wr_ne ?_
    rintro ⟨rfl, rfl⟩
    have hk : k' = k := Option.some.inj (hb.symm.trans hP)
    have := List.all_eq_true.mp hx y hy1
    simp only [Bool.or_eq_true, Bool.not_eq_true'] at this
    rcases this with q | q
    · rw [hy2, hk] at q; simp at q
    · split at q
      · rename_i h0
        rw [zq_ev_c h0] at hy3 hy4
        simp only [Bool.or_eq_true, decide_eq_true_eq] at q
        omega
      · cases q
  · cases hx
