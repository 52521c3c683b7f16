noncomputable def zq_fcd : FieldType → Nat
  | .int => 0
  | .long => 1
  | .object _ => 2
  | .array _ => 2
  | .byte => 3
  | .boolean => 4
  | _ => 9
noncomputable def zq_fit (code t : Nat) (C : List zq_L) (ev : zq_L) (q : List Nat) : Option (List Nat) := match code with
  | 0 => bif Nat.beq t 0 then some q else none
  | 1 => bif Nat.beq t 1 then some q else none
  | 2 => bif Nat.ble 2 t then some q else none
  | 3 => bif Nat.beq t 0 then (match zq_prove C (zq_addk ev 128) q with
    | some q => zq_prove C (zq_sub (zq_k 127) ev) q
    | none => none) else none
  | 4 => bif Nat.beq t 0 then (match zq_prove C ev q with
    | some q => zq_prove C (zq_sub (zq_k 1) ev) q
    | none => none) else none
  | _ => none
theorem zq_fit_ok {ty : FieldType} {code t : Nat} {C : List zq_L} {ev : zq_L} {q q' : List Nat} {r : Nat → Int} (h : zq_fit code t C ev q = some q') (hc : zq_fcd ty = code) (hC : zq_all r C) : narrow ty (zq_val t (zq_ev r ev)) = zq_val t (zq_ev r ev) ∧ fits ty (zq_val t (zq_ev r ev)) = true := by
  unfold zq_fit at h
  split at h
  · obtain ⟨e, -⟩ := zq_bif h
    have e := Nat.eq_of_beq_eq_true e
    subst e
    cases ty <;> simp [zq_fcd] at hc
    exact ⟨rfl, rfl⟩
  · obtain ⟨e, -⟩ := zq_bif h
    have e := Nat.eq_of_beq_eq_true e
    subst e
    cases ty <;> simp [zq_fcd] at hc
    exact ⟨rfl, rfl⟩
  · obtain ⟨e, -⟩ := zq_bif h
    have e := Nat.le_of_ble_eq_true e
    obtain ⟨k, rfl⟩ : ∃ k, t = k + 2 := ⟨t - 2, by omega⟩
    cases ty <;> simp [zq_fcd] at hc
    · cases zq_ev r ev <;> exact ⟨rfl, rfl⟩
    · cases zq_ev r ev <;> exact ⟨rfl, rfl⟩
  · cases e : Nat.beq t 0 with
    | false => rw [e] at h; cases h
    | true =>
      rw [e] at h
      simp only [cond_true] at h
      have e := Nat.eq_of_beq_eq_true e
      subst e
      cases ty <;> simp [zq_fcd] at hc
      split at h
      · rename_i q1 hq1
        have a := zq_prove_ok hq1 hC
        have b := zq_prove_ok h hC
        rw [zq_ev_addk] at a
        rw [zq_ev_sub, zq_ev_k] at b
        generalize zq_ev r ev = z at a b ⊢
        have hz : zq_in 0 z := ⟨by show -2147483648 ≤ z; omega, by show z ≤ 2147483647; omega⟩
        have e1 := zq_o32 hz
        constructor
        · show Value.int _ = Value.int _
          rw [lg_i2b_small (by rw [e1]; omega) (by rw [e1]; omega)]
        · show (decide (-128 ≤ Int32.ofInt z) && decide (Int32.ofInt z ≤ 127)) = true
          rw [Bool.and_eq_true, decide_eq_true_eq, decide_eq_true_eq, Int32.le_iff_toInt_le, Int32.le_iff_toInt_le, e1]
          exact ⟨by show -128 ≤ z; omega, by show z ≤ 127; omega⟩
      · cases h
  · cases e : Nat.beq t 0 with
    | false => rw [e] at h; cases h
    | true =>
      rw [e] at h
      simp only [cond_true] at h
      have e := Nat.eq_of_beq_eq_true e
      subst e
      cases ty <;> simp [zq_fcd] at hc
      split at h
      · rename_i q1 hq1
        have a := zq_prove_ok hq1 hC
        have b := zq_prove_ok h hC
        rw [zq_ev_sub, zq_ev_k] at b
        generalize zq_ev r ev = z at a b ⊢
        have hz : z = 0 ∨ z = 1 := by omega
        rcases hz with rfl | rfl
        · exact ⟨rfl, rfl⟩
        · exact ⟨rfl, rfl⟩
      · cases h
  · cases h
/-- all is well typed behind a write -/
theorem zq_HT.put {w : zq_Wd} {P : zq_Ty} {h : zq_H} {H H1 : Heap} (q : zq_HT w P h H) {a k : Nat} {K : zq_K} {T : zq_T} {i v : Int} (hP : P a = some k) (hK : w.2.2.2.1[k]? = some K) (hi : 0 ≤ i) (hc : zq_cell w K (zq_wr h a i v a) a H1) (oq : ∀ b : Nat, b ≠ a → H1[b]? = H[b]?) (hT : zq_sty K i.toNat = some T) (ht : zq_tok P T v) (hr : ∀ e ∈ K.2.2.2.2.1, 0 ≤ zq_ev (zq_re w K (zq_wr h a i v) a) e) : zq_HT w P (zq_wr h a i v) H1 := by
  intro b k' hb
  by_cases e : b = a
  · subst e
    have ek : k' = k := Option.some.inj (hb.symm.trans hP)
    subst ek
    obtain ⟨K', g1, g2, g3, g4, g5⟩ := q b k' hb
    have eK : K' = K := Option.some.inj (g1.symm.trans hK)
    subst eK
    have hl : zq_wr h b i v b (-1) = h b (-1) := zq_wr_ne (by omega)
    have hs : zq_size w K' (zq_wr h b i v b) = zq_size w K' (h b) := by
      unfold zq_size
      rw [hl]
    refine ⟨K', g1, hc, ?_, fun j hj => ?_, hr⟩
    · rw [hl]; exact g3
    · rw [hs] at hj
      by_cases ej : (j : Int) = i
      · subst ej
        rw [zq_wr_self]
        exact ⟨T, hT, ht⟩
      · rw [zq_wr_ne (fun z => ej z.2)]
        exact g4 j hj
  · exact zq_good_ne hi e (oq b e) (q b k' hb)
/-- a new row of the store, and what is kept of the others -/
theorem zq_okS.put {r : Nat → Int} {P : zq_Ty} {h : zq_H} {n a k : Nat} {sto : zq_St} {F : List (zq_L × Nat)} {ps : List Nat} {er ei ev : zq_L} (q : zq_okS r P h n sto) (hF : zq_okF r P n F) (ha : zq_ev r er = (a : Int)) (hP : P a = some k) (b1 : zq_bd n er = true) (b2 : zq_bd n ei = true) (b3 : zq_bd n ev = true) (hi : 0 ≤ zq_ev r ei) (hps : ∀ p ∈ ps, ∀ x, sto[p]? = some x → zq_ev r x.2.1 ≠ zq_ev r ei) :
    zq_okS r P (zq_wr h a (zq_ev r ei) (zq_ev r ev)) n ((er, ei, ev) :: zq_stf k ei F ps 0 sto) := by
  have h1 : zq_okS r P (zq_wr h a (zq_ev r ei) (zq_ev r ev)) n (zq_stf k ei F ps 0 sto) := by
    refine q.flt fun x hx => ?_
    obtain ⟨hm, hk⟩ := zq_stf_ok hx
    refine ⟨hm, fun b hb hPb => zq_wr_ne ?_⟩
    rintro ⟨rfl, ej⟩
    rcases hk with ⟨c1, c2⟩ | ⟨k', c1, c2⟩ | ⟨p, c1, -, c3⟩
    · rw [zq_ev_c c1] at ej
      rcases c2 with c2 | ⟨c2, c3⟩
      · omega
      · rw [zq_ev_c c2] at ej; exact c3 ej
    · have := (hF _ c1).2 b hb
      exact c2 (Option.some.inj (this.symm.trans hP))
    · exact hps p c1 x c3 ej
  intro x hx
  rcases List.mem_cons.mp hx with rfl | hx
  · exact ⟨b1, b2, b3, a, ha, (by rw [hP]; exact Option.some_ne_none k), zq_wr_self _ _ _ _⟩
  · exact h1 x hx
theorem zq_okX.put {w : zq_Wd} {FX : zq_FX} (hX : zq_okFX w FX) {r : Nat → Int} {P : zq_Ty} {h : zq_H} {n a k : Nat} {tok : List (Nat × List zq_L)} {ei : zq_L} {v : Int} (q : zq_okX w r P h n tok) (hP : P a = some k) : zq_okX w r P (zq_wr h a (zq_ev r ei) v) n (tok.filter (zq_tkp FX k ei)) := fun x hx => by
  obtain ⟨h1, h2⟩ := List.mem_filter.mp hx
  exact ⟨(q x h1).1, zq_tkp_ok hX h2 hP (q x h1).2⟩
theorem zq_okR.put {w : zq_Wd} {r : Nat → Int} {P : zq_Ty} {H H1 : Heap} {n a k : Nat} {raw : zq_Rw} (q : zq_okR w r P H n raw) (hP : P a = some k) (oq : ∀ b : Nat, b ≠ a → H1[b]? = H[b]?) : zq_okR w r P H1 n raw := by
  refine ⟨fun x hx => ?_, q.2⟩
  obtain ⟨b, g1, g2, g3, g4, g5⟩ := q.1 x hx
  have hne : b ≠ a := fun e => by rw [e, hP] at g4; cases g4
  refine ⟨b, g1, g2, g3, g4, g5.kept fun k' y hy => ?_⟩
  match k', hy with
  | 0, hy => cases hy; exact oq b hne
noncomputable def zq_l2 {α : Type} (L : List (List α)) (i j : Nat) : Option α := match L[i]? with
  | some l => l[j]?
  | none => none
/-- classes as the checker knows them: types of fields, which are final -/
noncomputable def zq_okCI (Ts : List Cond) (cl : List vw_C) (FT : List (List Nat)) (FN : List (List Bool)) : Prop := ∀ ci rc, cl[ci]? = some rc → (∀ w ∈ u_ws rc.1 rc.2.1 rc.2.2, w ∈ Ts) ∧ (∀ a, a < rc.2.2 → ∀ b, b < rc.2.2 → a ≠ b → (rc.2.1 a).2.1 ≠ (rc.2.1 b).2.1) ∧
  ∃ (ty0 : Nat → FieldType) (row : List Nat), (∀ k, k < rc.2.2 → parseFieldDescriptor (rc.2.1 k).2.2.1 = some (ty0 k)) ∧ FT[ci]? = some row ∧ row.length = rc.2.2 ∧ (∀ k, k < rc.2.2 → row[k]? = some (zq_fcd (ty0 k))) ∧ ∀ k, k < rc.2.2 → zq_l2 FN ci k = some (rc.2.1 k).2.2.2
noncomputable def zq_asti (i : Instr) (c : Nat) : Bool := match i with
  | .iastore => Nat.beq c 0
  | .lastore => Nat.beq c 1
  | .aastore => Nat.beq c 2
  | .bastore => Nat.beq c 3 || Nat.beq c 4
  | _ => false
/-- the class of an array's elements, where they are references -/
noncomputable def zq_cpk (KT : List zq_K) (AC : List Nat) (T : zq_T) (j c : Nat) : Bool := !Nat.beq c 2 || (match KT[T.2.2.2]?, AC[j]? with
  | some K', some ci => Nat.beq K'.1 0 && Nat.beq K'.2.1 ci
  | _, _ => false)
noncomputable def zq_s3 (KT : List zq_K) (TY : List FieldType) (FL : zq_FL) (FT : List (List Nat)) (FN : List (List Bool)) (AC : List Nat) (FX : zq_FX) (M : zq_Ms) (ini : Bool) (oc : Nat) (i : Instr) (len : Nat) (S : zq_S) (q : List Nat) : Option (zq_S × List Nat) := match S with
  | (loc, stk, C, F, sto, raw, tok, n) => match i, stk with
    | .putfield cp, (t, ev) :: (2, er) :: stk' => bif Nat.beq 3 len then (match zq_fl cp FL with
      | some (ci, f) => (match FT[ci]?, zq_l2 FN ci f with
        | some row, some fin => (match row[f]? with
          | some code => (match zq_fit code t C ev q with
            | some (0 :: q) => bif fin then none else (match zq_kn KT C F er q with
              | some (K, q) => bif Nat.beq K.1 0 && Nat.beq K.2.1 ci then (match zq_sty K f, zq_kd F er with
                | some T, some k => (match zq_vck C F T t ev q with
                  | some q => (match zq_mck M C k (zq_k f) q with
                    | some q => (match zq_rck C sto er ev f row.length K.2.2.2.2.1 q with
                      | some q => some ((loc, stk', C, F, (er, zq_k f, ev) :: zq_stf k (zq_k f) F [] 0 sto, raw, tok.filter (zq_tkp FX k (zq_k f)), n), q)
                      | none => none)
                    | none => none)
                  | none => none)
                | _, _ => none) else none
              | none => none)
            | some (1 :: j :: q) => bif !fin || (ini && Nat.beq ci oc) then (match raw[j]? with
              | some (ra, ci', fs) => bif zq_eq ra er && (Nat.beq ci' ci && Nat.blt f fs.length) then some ((loc, stk', C, F, sto, raw.set j (ra, ci, fs.set f (t, ev)), tok, n), q) else none
              | none => none) else none
            | _ => none)
          | none => none)
        | _, _ => none)
      | none => none) else none
    | i, (t, ev) :: (0, ei) :: (2, er) :: stk' => bif Nat.beq 1 len then (match zq_kn KT C F er q with
      | some (K, q) => bif Nat.beq K.1 0 then none else (match TY[K.2.1]?, zq_kd F er with
        | some ty, some k => bif zq_asti i (zq_ftc ty) then (match zq_fit (zq_ftc ty) t C ev q with
          | some q => (match zq_prove C ei q with
            | some q => (match zq_bnd K C sto er ei q with
              | some q => (match zq_tyx K C ei q with
                | some (T, q) => bif Nat.beq T.1 K.2.2.2.2.2 && zq_cpk KT AC T K.2.1 (zq_ftc ty) then (match zq_vck C F T t ev q with
                  | some q => (match zq_mck M C k ei q with
                    | some (c :: q) => (match zq_rdK C sto ei c q with
                      | some (ps, q) => some ((loc, stk', C, F, (er, ei, ev) :: zq_stf k ei F ps 0 sto, raw, tok.filter (zq_tkp FX k ei), n), q)
                      | none => none)
                    | _ => none)
                  | none => none) else none
                | none => none)
              | none => none)
            | none => none)
          | none => none) else none
        | _, _ => none)
      | none => none) else none
    | _, _ => none
/-- array types as the checker knows them: the class of the elements -/
noncomputable def zq_okAC (cl : List vw_C) (TY : List FieldType) (AC : List Nat) : Prop := ∀ (j : Nat) (C : String) (ci : Nat), TY[j]? = some (FieldType.object C) → AC[j]? = some ci → ∃ T N, cl[ci]? = some (C, T, N)
