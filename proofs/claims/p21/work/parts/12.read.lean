/-! READING CELLS -/
noncomputable def zq_kd (F : List (zq_L × Nat)) (e : zq_L) : Option Nat := List.rec (motive := fun _ => Option Nat) none (fun x _ ih => Bool.rec (motive := fun _ => Option Nat) ih (some x.2) (zq_eq x.1 e)) F
theorem zq_kd_c {x : zq_L × Nat} {l : List (zq_L × Nat)} {e : zq_L} : zq_kd (x :: l) e = bif zq_eq x.1 e then some x.2 else zq_kd l e := by
  show Bool.rec (motive := fun _ => Option Nat) (zq_kd l e) (some x.2) (zq_eq x.1 e) = _
  cases zq_eq x.1 e <;> rfl
theorem zq_kd_ok {e : zq_L} {k : Nat} : ∀ {F : List (zq_L × Nat)}, zq_kd F e = some k → (e, k) ∈ F
  | [], h => by cases (show none = some k from h)
  | x :: l, h => by
    rw [zq_kd_c] at h
    cases hc : zq_eq x.1 e with
    | true =>
      rw [hc] at h
      have e1 := zq_eq_ok hc
      have e2 : x.2 = k := Option.some.inj h
      rw [← e1, ← e2]; exact List.mem_cons_self
    | false => rw [hc] at h; exact List.mem_cons_of_mem _ (zq_kd_ok h)
/-- rows of a new variable of a type -/
noncomputable def zq_frC (n : Nat) (T : zq_T) : List zq_L := bif Nat.blt T.1 2 then zq_bet n T.2.1 T.2.2.1 else [zq_addk (zq_v n) (-T.2.1)]
noncomputable def zq_frF (n : Nat) (T : zq_T) : List (zq_L × Nat) := bif Nat.blt T.1 2 then [] else [(zq_v n, T.2.2.2)]
abbrev zq_St : Type := List (zq_L × zq_L × zq_L)
/-- a cell's place is read: 0 a new variable, j + 1 what the j-th row of the store says -/
noncomputable def zq_rd (n : Nat) (sto : zq_St) (er idx : zq_L) (T : zq_T) : List Nat → Option ((zq_L × List zq_L × List (zq_L × Nat) × zq_St × Nat) × List Nat)
  | 0 :: q => some ((zq_v n, zq_frC n T, zq_frF n T, [(er, idx, zq_v n)], n + 1), q)
  | (j + 1) :: q => match sto[j]? with
    | some x => bif zq_eq x.1 er && zq_eq x.2.1 idx then some ((x.2.2, [], [], [], n), q) else none
    | none => none
  | [] => none
theorem zq_okF.app {r : Nat → Int} {P : zq_Ty} {n : Nat} {F F' : List (zq_L × Nat)} (h : zq_okF r P n F) (h' : zq_okF r P n F') : zq_okF r P n (F' ++ F) := fun x hx => (List.mem_append.mp hx).elim (h' x) (h x)
theorem zq_okS.app {r : Nat → Int} {P : zq_Ty} {h : zq_H} {n : Nat} {F F' : zq_St} (q : zq_okS r P h n F) (q' : zq_okS r P h n F') : zq_okS r P h n (F' ++ F) := fun x hx => (List.mem_append.mp hx).elim (q' x) (q x)
theorem zq_rd_ok {w : zq_Wd} {r : Nat → Int} {P : zq_Ty} {h : zq_H} {H : Heap} {C : List zq_L} {F : List (zq_L × Nat)} {sto : zq_St} {raw : List (zq_L × Nat × List (Nat × zq_L))} {tok : List (Nat × List zq_L)} {n a : Nat} {er idx : zq_L} {T : zq_T} {q q' : List Nat} {o : zq_L × List zq_L × List (zq_L × Nat) × zq_St × Nat}
    (hr : zq_rd n sto er idx T q = some (o, q')) (M : zq_Me w r P h H C F sto raw tok n) (b1 : zq_bd n er = true) (b2 : zq_bd n idx = true) (ha : zq_ev r er = (a : Int)) (hP : P a ≠ none) (hT : zq_tok P T (h a (zq_ev r idx))) :
    n ≤ o.2.2.2.2 ∧ ∃ r', zq_ext n r r' ∧ zq_bd o.2.2.2.2 o.1 = true ∧ zq_ev r' o.1 = h a (zq_ev r idx) ∧ zq_Me w r' P h H (o.2.1 ++ C) (o.2.2.1 ++ F) (o.2.2.2.1 ++ sto) raw tok o.2.2.2.2 := by
  unfold zq_rd at hr
  split at hr
  · cases hr
    generalize hz : h a (zq_ev r idx) = z at hT ⊢
    have hx := zq_up_ext r n z
    have hn : n ≤ n + 1 := Nat.le_succ n
    have hv : zq_bd (n + 1) (zq_v n) = true := zq_bd_v (Nat.lt_succ_self _)
    have ev : zq_ev (zq_up r n z) (zq_v n) = z := by rw [zq_ev_v, zq_up_self]
    have M1 := M.ext hn hx
    have hC : zq_all (zq_up r n z) (zq_frC n T) ∧ ∀ c ∈ zq_frC n T, zq_bd (n + 1) c = true := by
      unfold zq_frC
      cases ht : Nat.blt T.1 2 with
      | true =>
        rw [zq_blt] at ht
        simp only [cond_true]
        obtain ⟨g1, g2, g3, -⟩ := hT
        constructor
        · intro c hc
          simp only [zq_bet, List.mem_cons, List.not_mem_nil, or_false] at hc
          rcases hc with rfl | rfl
          · rw [zq_ev_addk, ev]; omega
          · rw [zq_ev_sub, zq_ev_k, ev]; have := g3 ht; omega
        · intro c hc
          simp only [zq_bet, List.mem_cons, List.not_mem_nil, or_false] at hc
          rcases hc with rfl | rfl
          · exact zq_bd_addk hv
          · exact zq_bd_sub zq_bd_k hv
      | false =>
        simp only [cond_false]
        constructor
        · intro c hc
          rw [List.mem_singleton.mp hc, zq_ev_addk, ev]; have := hT.2.1; omega
        · intro c hc
          rw [List.mem_singleton.mp hc]; exact zq_bd_addk hv
    have hF : zq_okF (zq_up r n z) P (n + 1) (zq_frF n T) := by
      unfold zq_frF
      cases ht : Nat.blt T.1 2 with
      | true => intro x hx; cases hx
      | false =>
        intro x hx
        rw [List.mem_singleton.mp hx]
        refine ⟨hv, fun b hb => ?_⟩
        rw [ev] at hb
        have h2 : ¬ T.1 < 2 := fun q => by rw [← zq_blt] at q; rw [q] at ht; cases ht
        exact hT.2.2.2 (by omega) b hb
    have hS : zq_okS (zq_up r n z) P h (n + 1) [(er, idx, zq_v n)] := by
      intro x hx'
      rw [List.mem_singleton.mp hx']
      refine ⟨zq_bd_mono hn b1, zq_bd_mono hn b2, hv, a, ?_, hP, ?_⟩
      · rw [zq_ev_ext hx b1]; exact ha
      · show h a (zq_ev _ idx) = zq_ev _ (zq_v n)
        rw [zq_ev_ext hx b2, ev]; exact hz
    have M2 := M1.rows hC.1 hC.2
    exact ⟨hn, _, hx, hv, ev, M2.1, M2.2.1, M2.2.2.1.app hF, M2.2.2.2.1.app hS, M2.2.2.2.2⟩
  · split at hr
    · rename_i j q0 x hx
      obtain ⟨hc, hE⟩ := zq_bif hr
      cases hE
      simp only [Bool.and_eq_true] at hc
      have e1 := zq_eq_ok hc.1
      have e2 := zq_eq_ok hc.2
      obtain ⟨c1, c2, c3, a', q1, q2, q3⟩ := M.2.2.2.1 x (List.mem_of_getElem? hx)
      rw [e1] at q1
      rw [e2] at q3
      have ea : a' = a := by have := q1.symm.trans ha; omega
      subst ea
      exact ⟨Nat.le_refl _, r, fun _ _ => rfl, c3, q3.symm, M⟩
    · cases hr
  · cases hr
/-- a segment of a kind's types -/
noncomputable def zq_sg : Nat → Nat → List (Nat × zq_T) → Option (Nat × Nat × zq_T)
  | _, _, [] => none
  | lo, 0, x :: _ => some (lo, x.1, x.2)
  | lo, g + 1, x :: l => zq_sg (max lo x.1) g l
theorem zq_sg_ok : ∀ {g lo lo' up : Nat} {T : zq_T} {l : List (Nat × zq_T)}, zq_sg lo g l = some (lo', up, T) → lo ≤ lo' ∧ ∀ s, lo' ≤ s → s < up → zq_seg s l = some T
  | g, _, _, _, _, [], h => by cases g <;> cases h
  | 0, lo, lo', up, T, x :: l, h => by
    cases h
    refine ⟨Nat.le_refl _, fun s _ h2 => ?_⟩
    unfold zq_seg
    rw [zq_blt.mpr h2]; rfl
  | g + 1, lo, lo', up, T, x :: l, h => by
    unfold zq_sg at h
    obtain ⟨h1, h2⟩ := zq_sg_ok h
    refine ⟨by omega, fun s h3 h4 => ?_⟩
    unfold zq_seg
    have : Nat.blt s x.1 = false := by
      cases hc : Nat.blt s x.1 with
      | false => rfl
      | true => rw [zq_blt] at hc; omega
    rw [this]
    exact h2 s h3 h4
noncomputable def zq_rdT (k : Nat) : List Nat → Option (List (Nat × Int) × List Nat) := Nat.rec (motive := fun _ => List Nat → Option (List (Nat × Int) × List Nat)) (fun q => some ([], q)) (fun _ ih q => List.rec (motive := fun _ => Option (List (Nat × Int) × List Nat)) none (fun a q1 _ => List.rec (motive := fun _ => Option (List (Nat × Int) × List Nat)) none (fun b q2 _ => Option.rec (motive := fun _ => Option (List (Nat × Int) × List Nat)) none (fun p => some ((a, zq_zig b) :: p.1, p.2)) (ih q2)) q1) q) k
noncomputable def zq_rdL : List Nat → Option (zq_L × List Nat)
  | c :: k :: q => match zq_rdT k q with
    | some (l, q') => some ((zq_zig c, l), q')
    | none => none
  | _ => none
/-- the type at a place that is an expression ≥ 0 -/
noncomputable def zq_tyx (K : zq_K) (C : List zq_L) (ei : zq_L) : List Nat → Option (zq_T × List Nat)
  | g :: q => match zq_sg 0 g K.2.2.2.1 with
    | some (lo, up, T) => bif Nat.beq K.2.2.1 0 then (match (bif Nat.beq lo 0 then some q else zq_prove C (zq_addk ei (-(lo : Int))) q) with
        | some q => match (bif Nat.ble 2147483648 up then some q else zq_prove C (zq_sub (zq_k ((up : Int) - 1)) ei) q) with
          | some q => some (T, q)
          | none => none
        | none => none)
      else (match zq_rdL q with
        | some (d, q) => match zq_prove C (zq_addk (zq_sub ei (zq_smul (K.2.2.1 : Int) d)) (-(lo : Int))) q with
          | some q => match zq_prove C (zq_sub (zq_k ((up : Int) - 1)) (zq_sub ei (zq_smul (K.2.2.1 : Int) d))) q with
            | some q => bif Nat.ble up K.2.2.1 then some (T, q) else none
            | none => none
          | none => none
        | none => none)
    | none => none
  | [] => none
theorem zq_tyx_ok {K : zq_K} {C : List zq_L} {ei : zq_L} {q q' : List Nat} {T : zq_T} {r : Nat → Int} (h : zq_tyx K C ei q = some (T, q')) (hC : zq_all r C) (h0 : 0 ≤ zq_ev r ei) (hin : zq_ev r ei < 2147483648) : zq_sty K (zq_ev r ei).toNat = some T := by
  unfold zq_tyx at h
  split at h
  · split at h
    · rename_i g q1 lo up T1 hsg
      have hk := (zq_sg_ok hsg).2
      unfold zq_sty
      cases hp : Nat.beq K.2.2.1 0 with
      | true =>
        rw [hp] at h
        simp only [cond_true] at h ⊢
        split at h
        · rename_i q2 hq2
          split at h
          · rename_i q3 hq3
            cases h
            refine hk _ ?_ ?_
            · cases hl : Nat.beq lo 0 with
              | true => have := Nat.eq_of_beq_eq_true hl; omega
              | false =>
                rw [hl] at hq2
                have := zq_prove_ok hq2 hC
                rw [zq_ev_addk] at this; omega
            · cases hl : Nat.ble 2147483648 up with
              | true => have := Nat.le_of_ble_eq_true hl; omega
              | false =>
                rw [hl] at hq3
                have := zq_prove_ok hq3 hC
                rw [zq_ev_sub, zq_ev_k] at this; omega
          · cases h
        · cases h
      | false =>
        rw [hp] at h
        simp only [cond_false] at h ⊢
        split at h
        · rename_i d q2 hd
          split at h
          · rename_i q3 hq3
            split at h
            · rename_i q4 hq4
              obtain ⟨hu, hE⟩ := zq_bif h
              cases hE
              have hu := Nat.le_of_ble_eq_true hu
              have x := zq_prove_ok hq3 hC
              have y := zq_prove_ok hq4 hC
              rw [zq_ev_addk, zq_ev_sub, zq_ev_smul] at x
              rw [zq_ev_sub, zq_ev_k, zq_ev_sub, zq_ev_smul] at y
              have hp0 : 0 < K.2.2.1 := by
                rcases Nat.eq_zero_or_pos K.2.2.1 with z | z
                · rw [z] at hp; cases hp
                · exact z
              have e : zq_ev r ei % (K.2.2.1 : Int) = zq_ev r ei - (K.2.2.1 : Int) * zq_ev r d := by
                have e1 : zq_ev r ei = (zq_ev r ei - (K.2.2.1 : Int) * zq_ev r d) + (K.2.2.1 : Int) * zq_ev r d := by omega
                rw [e1, Int.add_mul_emod_self_left, Int.emod_eq_of_lt (by omega) (by omega)]
                omega
              have e2 : (((zq_ev r ei).toNat % K.2.2.1 : Nat) : Int) = zq_ev r ei % (K.2.2.1 : Int) := by
                rw [Int.natCast_emod, Int.toNat_of_nonneg h0]
              exact hk _ (by omega) (by omega)
            · cases h
          · cases h
        · cases h
    · cases h
  · cases h
/-- a place is within an array: 0 a row of the kind says that it is so long, 1 a row of the store tells its length -/
noncomputable def zq_bnd (K : zq_K) (C : List zq_L) (sto : zq_St) (er ei : zq_L) : List Nat → Option (List Nat)
  | 0 :: j :: q => match K.2.2.2.2.1[j]? with
    | some (c0, [(0, 1)]) => zq_prove C (zq_sub (zq_k (-c0 - 1)) ei) q
    | _ => none
  | 1 :: j :: q => match sto[j]? with
    | some x => bif zq_eq x.1 er && zq_eq x.2.1 (zq_k (-1)) then zq_prove C (zq_addk (zq_sub x.2.2 ei) (-1)) q else none
    | none => none
  | _ => none
theorem zq_bnd_ok {w : zq_Wd} {K : zq_K} {C : List zq_L} {sto : zq_St} {er ei : zq_L} {q q' : List Nat} {r : Nat → Int} {P : zq_Ty} {h : zq_H} {n a : Nat} (hb : zq_bnd K C sto er ei q = some q') (hC : zq_all r C) (hS : zq_okS r P h n sto) (hK : K.1 ≠ 0) (hR : ∀ e ∈ K.2.2.2.2.1, 0 ≤ zq_ev (zq_re w K h a) e) (ha : zq_ev r er = (a : Int)) : zq_ev r ei < h a (-1) := by
  unfold zq_bnd at hb
  split at hb
  · split at hb
    · rename_i j q1 c0 hj
      have x := hR _ (List.mem_of_getElem? hj)
      have y := zq_prove_ok hb hC
      rw [zq_ev_sub, zq_ev_k] at y
      have e : zq_re w K h a 0 = h a (-1) := by
        obtain ⟨k, hk⟩ : ∃ k, K.1 = k + 1 := ⟨K.1 - 1, by omega⟩
        simp only [zq_re, hk]
      simp only [zq_ev, zq_ts, e] at x
      have y' : 0 ≤ -c0 - 1 - zq_ev r ei := y
      omega
    · cases hb
  · split at hb
    · rename_i j q1 x hj
      cases hc : (zq_eq x.1 er && zq_eq x.2.1 (zq_k (-1))) with
      | false => rw [hc] at hb; cases hb
      | true =>
        rw [hc] at hb
        simp only [Bool.and_eq_true] at hc
        have e1 := zq_eq_ok hc.1
        have e2 := zq_eq_ok hc.2
        obtain ⟨-, -, -, a', q1, -, q3⟩ := hS x (List.mem_of_getElem? hj)
        rw [e1] at q1
        rw [e2, zq_ev_k] at q3
        have ea : a' = a := by have := q1.symm.trans ha; omega
        subst ea
        have y := zq_prove_ok hb hC
        rw [zq_ev_addk, zq_ev_sub] at y
        omega
    · cases hb
  · cases hb
