/-- a value fits a type -/
noncomputable def zq_vck (C : List zq_L) (F : List (zq_L × Nat)) (T : zq_T) (t : Nat) (ev : zq_L) (q : List Nat) : Option (List Nat) := bif Nat.beq t T.1 then (bif Nat.blt t 2 then
    (match (bif decide (T.2.1 ≤ zq_mn t) then some q else zq_prove C (zq_addk ev (-T.2.1)) q) with
    | some q => bif decide (zq_mx t ≤ T.2.2.1) then some q else zq_prove C (zq_sub (zq_k T.2.2.1) ev) q
    | none => none)
  else (match (bif decide (T.2.1 ≤ -1) then some q else zq_prove C (zq_addk ev (-T.2.1)) q) with
    | some q => bif zq_eq ev (zq_k (-1)) then some q else (match zq_kd F ev with
      | some k => bif Nat.beq k T.2.2.2 then some q else none
      | none => none)
    | none => none)) else none
theorem zq_vck_ok {C : List zq_L} {F : List (zq_L × Nat)} {T : zq_T} {t n : Nat} {ev : zq_L} {q q' : List Nat} {r : Nat → Int} {P : zq_Ty} (h : zq_vck C F T t ev q = some q') (hC : zq_all r C) (hF : zq_okF r P n F) (hg : zq_rg t (zq_ev r ev)) : t = T.1 ∧ zq_tok P T (zq_ev r ev) := by
  unfold zq_vck at h
  cases ht : Nat.beq t T.1 with
  | false => rw [ht] at h; cases h
  | true =>
    rw [ht] at h
    simp only [cond_true] at h
    have et := Nat.eq_of_beq_eq_true ht
    refine ⟨et, ?_⟩
    cases h2 : Nat.blt t 2 with
    | true =>
      rw [h2] at h
      simp only [cond_true] at h
      rw [zq_blt] at h2
      have hin : zq_in t (zq_ev r ev) := by
        match t, h2, hg with
        | 0, _, hg => exact hg
        | 1, _, hg => exact hg
      split at h
      · rename_i q1 hq1
        refine ⟨by rw [← et]; exact hg, ?_, fun _ => ?_, fun z => by omega⟩
        · cases hd : decide (T.2.1 ≤ zq_mn t) with
          | true => have := of_decide_eq_true hd; have := hin.1; omega
          | false => rw [hd] at hq1; have := zq_prove_ok hq1 hC; rw [zq_ev_addk] at this; omega
        · cases hd : decide (zq_mx t ≤ T.2.2.1) with
          | true => have := of_decide_eq_true hd; have := hin.2; omega
          | false => rw [hd] at h; have := zq_prove_ok h hC; rw [zq_ev_sub, zq_ev_k] at this; omega
      · cases h
    | false =>
      rw [h2] at h
      simp only [cond_false] at h
      have h3 : 2 ≤ t := by
        rcases Nat.lt_or_ge t 2 with z | z
        · rw [← zq_blt] at z; rw [z] at h2; cases h2
        · exact z
      have hg1 : -1 ≤ zq_ev r ev := by
        obtain ⟨k, rfl⟩ : ∃ k, t = k + 2 := ⟨t - 2, by omega⟩
        exact hg
      split at h
      · rename_i q1 hq1
        refine ⟨by rw [← et]; exact hg, ?_, fun z => by omega, fun _ a ha => ?_⟩
        · cases hd : decide (T.2.1 ≤ -1) with
          | true => have := of_decide_eq_true hd; omega
          | false => rw [hd] at hq1; have := zq_prove_ok hq1 hC; rw [zq_ev_addk] at this; omega
        · cases he : zq_eq ev (zq_k (-1)) with
          | true => have := zq_eq_ok he; rw [this, zq_ev_k] at ha; omega
          | false =>
            rw [he] at h
            simp only [cond_false] at h
            split at h
            · rename_i k hk
              obtain ⟨hb, -⟩ := zq_bif h
              have := Nat.eq_of_beq_eq_true hb
              subst this
              exact (hF _ (zq_kd_ok hk)).2 a ha
            · cases h
      · cases h
/-- it may be written -/
noncomputable def zq_mck (M : zq_Ms) (C : List zq_L) (k : Nat) (ei : zq_L) : List Nat → Option (List Nat)
  | j :: q => match M[j]? with
    | some x => bif Nat.beq x.1 k then (match zq_prove C (zq_sub ei x.2.1) q with
      | some q => zq_prove C (zq_sub x.2.2 ei) q
      | none => none) else none
    | none => none
  | [] => none
noncomputable def zq_okM (n0 : Nat) (M : zq_Ms) : Prop := ∀ x ∈ M, zq_bd n0 x.2.1 = true ∧ zq_bd n0 x.2.2 = true
theorem zq_mck_ok {M : zq_Ms} {C : List zq_L} {k n0 : Nat} {ei : zq_L} {q q' : List Nat} {r r0 : Nat → Int} (h : zq_mck M C k ei q = some q') (hC : zq_all r C) (hM : zq_okM n0 M) (he : zq_ext n0 r0 r) (h0 : 0 ≤ zq_ev r ei) : zq_md M r0 k (zq_ev r ei) := by
  unfold zq_mck at h
  split at h
  · split at h
    · rename_i j q1 x hx
      cases hb : Nat.beq x.1 k with
      | false => rw [hb] at h; cases h
      | true =>
        rw [hb] at h
        simp only [cond_true] at h
        split at h
        · rename_i q2 hq2
          have hm := List.mem_of_getElem? hx
          have a := zq_prove_ok hq2 hC
          have b := zq_prove_ok h hC
          rw [zq_ev_sub] at a b
          refine ⟨h0, x, hm, Nat.eq_of_beq_eq_true hb, ?_, ?_⟩
          · rw [← zq_ev_ext he (hM x hm).1]; omega
          · rw [← zq_ev_ext he (hM x hm).2]; omega
        · cases h
    · cases h
  · cases h
/-- a row of a kind, its variables by the store, but for the field that is written -/
noncomputable def zq_rsb (sto : zq_St) (er ev : zq_L) (f N : Nat) : List (Nat × Int) → List Nat → Option (zq_L × List Nat)
  | [], q => some ((0, []), q)
  | t :: l, q => bif Nat.beq t.1 f then (match zq_rsb sto er ev f N l q with
      | some (x, q) => some (zq_add (zq_smul t.2 ev) x, q)
      | none => none)
    else bif Nat.blt t.1 N then (match q with
      | j :: q => match sto[j]? with
        | some y => bif zq_eq y.1 er && zq_eq y.2.1 (zq_k t.1) then (match zq_rsb sto er ev f N l q with
          | some (x, q) => some (zq_add (zq_smul t.2 y.2.2) x, q)
          | none => none) else none
        | none => none
      | [] => none)
    else (match q with
      | j :: j2 :: q => match sto[j]?, sto[j2]? with
        | some y, some y2 => bif (zq_eq y.1 er && zq_eq y.2.1 (zq_k ((t.1 - N : Nat) : Int))) && (zq_eq y2.1 y.2.2 && zq_eq y2.2.1 (zq_k (-1))) then (match zq_rsb sto er ev f N l q with
          | some (x, q) => some (zq_add (zq_smul t.2 y2.2.2) x, q)
          | none => none) else none
        | _, _ => none
      | _ => none)
noncomputable def zq_men (i : Nat) : List (Nat × Int) → Bool
  | [] => false
  | t :: l => Nat.beq t.1 i || zq_men i l
theorem zq_men_ok {i : Nat} : ∀ {l : List (Nat × Int)}, zq_men i l = false → ∀ t ∈ l, t.1 ≠ i
  | [], _, t, h => by cases h
  | x :: l, h, t, ht => by
    simp only [zq_men, Bool.or_eq_false_iff] at h
    rcases List.mem_cons.mp ht with rfl | ht
    · intro e; rw [e] at h; simp at h
    · exact zq_men_ok h.2 t ht
theorem zq_ts_cong {r r' : Nat → Int} : ∀ {l : List (Nat × Int)}, (∀ t ∈ l, r t.1 = r' t.1) → zq_ts r l = zq_ts r' l
  | [], _ => rfl
  | t :: l, h => by
    simp only [zq_ts]
    rw [h t List.mem_cons_self, zq_ts_cong fun x hx => h x (List.mem_cons_of_mem _ hx)]
theorem zq_re0 {w : zq_Wd} {K : zq_K} {h : zq_H} {a : Nat} {rc : vw_C} (h0 : K.1 = 0) (hr : w.2.1[K.2.1]? = some rc) (i : Nat) : zq_re w K h a i = if i < rc.2.2 then h a i else h (h a ((i : Int) - (rc.2.2 : Int))).toNat (-1) := by
  simp only [zq_re, h0]
  rw [zq_size0 h0 hr]
  by_cases hi : i < rc.2.2
  · rw [if_pos hi, if_pos (Int.ofNat_lt.mpr hi)]
  · rw [if_neg hi, if_neg (fun z => hi (Int.ofNat_lt.mp z))]
theorem zq_rsb_ok {w : zq_Wd} {K : zq_K} {sto : zq_St} {er ev : zq_L} {f a n : Nat} {r : Nat → Int} {P : zq_Ty} {h : zq_H} {rc : vw_C} (h0 : K.1 = 0) (hr : w.2.1[K.2.1]? = some rc) (hf : f < rc.2.2) (hS : zq_okS r P h n sto) (ha : zq_ev r er = (a : Int)) :
    ∀ {l : List (Nat × Int)} {q q' : List Nat} {x : zq_L}, zq_men (rc.2.2 + f) l = false → zq_rsb sto er ev f rc.2.2 l q = some (x, q') → zq_ev r x = zq_ts (zq_re w K (zq_wr h a f (zq_ev r ev)) a) l
  | [], q, q', x, _, hx => by cases hx; simp [zq_ev, zq_ts]
  | t :: l, q, q', x, hm, hx => by
    have hl2 : zq_men (rc.2.2 + f) l = false := by simp only [zq_men, Bool.or_eq_false_iff] at hm; exact hm.2
    have hl1 : t.1 ≠ rc.2.2 + f := zq_men_ok hm t List.mem_cons_self
    unfold zq_rsb at hx
    simp only [zq_ts]
    rw [zq_re0 h0 hr]
    cases hb : Nat.beq t.1 f with
    | true =>
      rw [hb] at hx
      simp only [cond_true] at hx
      have e := Nat.eq_of_beq_eq_true hb
      split at hx
      · rename_i y q1 hy
        cases hx
        rw [zq_ev_add, zq_ev_smul, zq_rsb_ok h0 hr hf hS ha hl2 hy, if_pos (by rw [e]; exact hf), e, zq_wr_self]
      · cases hx
    | false =>
      rw [hb] at hx
      simp only [cond_false] at hx
      have hne : t.1 ≠ f := fun e => by rw [e] at hb; simp at hb
      cases hN : Nat.blt t.1 rc.2.2 with
      | true =>
        rw [hN] at hx
        simp only [cond_true] at hx
        rw [zq_blt] at hN
        split at hx
        · rename_i j q1
          split at hx
          · rename_i y hy
            cases hc : (zq_eq y.1 er && zq_eq y.2.1 (zq_k t.1)) with
            | false => rw [hc] at hx; cases hx
            | true =>
              rw [hc] at hx
              simp only [cond_true] at hx
              simp only [Bool.and_eq_true] at hc
              split at hx
              · rename_i z q2 hz
                cases hx
                obtain ⟨-, -, -, a', g1, -, g3⟩ := hS y (List.mem_of_getElem? hy)
                rw [zq_eq_ok hc.1] at g1
                rw [zq_eq_ok hc.2, zq_ev_k] at g3
                have ea : a' = a := by have := g1.symm.trans ha; omega
                subst ea
                rw [zq_ev_add, zq_ev_smul, zq_rsb_ok h0 hr hf hS ha hl2 hz, if_pos hN, zq_wr_ne (by omega), g3]
              · cases hx
          · cases hx
        · cases hx
      | false =>
        rw [hN] at hx
        simp only [cond_false] at hx
        have hN2 : ¬ t.1 < rc.2.2 := fun z => by rw [← zq_blt] at z; rw [z] at hN; cases hN
        split at hx
        · rename_i j j2 q1
          split at hx
          · rename_i y y2 hy hy2
            cases hc : ((zq_eq y.1 er && zq_eq y.2.1 (zq_k ((t.1 - rc.2.2 : Nat) : Int))) && (zq_eq y2.1 y.2.2 && zq_eq y2.2.1 (zq_k (-1)))) with
            | false => rw [hc] at hx; cases hx
            | true =>
              rw [hc] at hx
              simp only [cond_true] at hx
              simp only [Bool.and_eq_true] at hc
              split at hx
              · rename_i z q2 hz
                cases hx
                obtain ⟨-, -, -, a', g1, -, g3⟩ := hS y (List.mem_of_getElem? hy)
                obtain ⟨-, -, -, b', k1, -, k3⟩ := hS y2 (List.mem_of_getElem? hy2)
                rw [zq_eq_ok hc.1.1] at g1
                rw [zq_eq_ok hc.1.2, zq_ev_k] at g3
                rw [zq_eq_ok hc.2.1] at k1
                rw [zq_eq_ok hc.2.2, zq_ev_k] at k3
                have ea : a' = a := by have := g1.symm.trans ha; omega
                subst ea
                have ej : ((t.1 - rc.2.2 : Nat) : Int) = (t.1 : Int) - (rc.2.2 : Int) := by omega
                rw [zq_ev_add, zq_ev_smul, zq_rsb_ok h0 hr hf hS ha hl2 hz, if_neg hN2, zq_wr_ne (h := h) (b := a') (j := (t.1 : Int) - (rc.2.2 : Int)) (by omega), ← ej, g3, k1, zq_wr_ne (by omega)]
                rw [← k3]; rfl
              · cases hx
          · cases hx
        · cases hx
/-- all rows of a kind hold behind the write -/
noncomputable def zq_rck (C : List zq_L) (sto : zq_St) (er ev : zq_L) (f N : Nat) : List zq_L → List Nat → Option (List Nat)
  | [], q => some q
  | e :: l, q => bif zq_men (N + f) e.2 then none else bif zq_men f e.2 then (match zq_rsb sto er ev f N e.2 q with
      | some (x, q) => match zq_prove C (zq_addk x e.1) q with
        | some q => zq_rck C sto er ev f N l q
        | none => none
      | none => none) else zq_rck C sto er ev f N l q
theorem zq_rck_ok {w : zq_Wd} {K : zq_K} {C : List zq_L} {sto : zq_St} {er ev : zq_L} {f a n : Nat} {r : Nat → Int} {P : zq_Ty} {h : zq_H} {rc : vw_C} (h0 : K.1 = 0) (hr : w.2.1[K.2.1]? = some rc) (hf : f < rc.2.2) (hC : zq_all r C) (hS : zq_okS r P h n sto) (ha : zq_ev r er = (a : Int)) :
    ∀ {l : List zq_L} {q q' : List Nat}, (∀ e ∈ l, 0 ≤ zq_ev (zq_re w K h a) e) → zq_rck C sto er ev f rc.2.2 l q = some q' → ∀ e ∈ l, 0 ≤ zq_ev (zq_re w K (zq_wr h a f (zq_ev r ev)) a) e
  | [], _, _, _, _, e, he => by cases he
  | x :: l, q, q', hold, hk, e, he => by
    unfold zq_rck at hk
    cases hm : zq_men (rc.2.2 + f) x.2 with
    | true => rw [hm] at hk; cases hk
    | false =>
      rw [hm] at hk
      simp only [cond_false] at hk
      cases hm2 : zq_men f x.2 with
      | true =>
        rw [hm2] at hk
        simp only [cond_true] at hk
        split at hk
        · rename_i y q1 hy
          split at hk
          · rename_i q2 hq2
            rcases List.mem_cons.mp he with rfl | he
            · have z := zq_prove_ok hq2 hC
              rw [zq_ev_addk, zq_rsb_ok h0 hr hf hS ha hm hy] at z
              show 0 ≤ e.1 + zq_ts _ e.2; omega
            · exact zq_rck_ok h0 hr hf hC hS ha (fun e he => hold e (List.mem_cons_of_mem _ he)) hk e he
          · cases hk
        · cases hk
      | false =>
        rw [hm2] at hk
        simp only [cond_false] at hk
        rcases List.mem_cons.mp he with rfl | he
        · have z := hold e List.mem_cons_self
          show 0 ≤ e.1 + zq_ts _ e.2
          rw [zq_ts_cong (r' := zq_re w K h a)]
          · exact z
          · intro t ht
            have n1 := zq_men_ok hm t ht
            have n2 := zq_men_ok hm2 t ht
            rw [zq_re0 h0 hr, zq_re0 h0 hr]
            split
            · exact zq_wr_ne (by omega)
            · rw [zq_wr_ne (h := h) (b := a) (j := (t.1 : Int) - (rc.2.2 : Int)) (by omega), zq_wr_ne (by omega)]
        · exact zq_rck_ok h0 hr hf hC hS ha (fun e he => hold e (List.mem_cons_of_mem _ he)) hk e he
