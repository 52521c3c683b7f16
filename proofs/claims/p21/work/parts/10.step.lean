/-! A STEP of the checker: instructions over locals and stack -/
noncomputable def zq_eq (a b : zq_L) : Bool := Bool.rec (motive := fun _ => Bool) false (zq_ieq a.1 b.1) (zq_eqT a.2 b.2)
theorem zq_eq_ok {a b : zq_L} (h : zq_eq a b = true) : a = b := by
  have h' : Bool.rec (motive := fun _ => Bool) false (zq_ieq a.1 b.1) (zq_eqT a.2 b.2) = true := h
  cases he : zq_eqT a.2 b.2 with
  | false => rw [he] at h'; exact absurd (show false = true from h') Bool.false_ne_true
  | true =>
    rw [he] at h'
    have h1 := zq_ieq_ok (show zq_ieq a.1 b.1 = true from h')
    have h2 := zq_eqT_ok he
    obtain ⟨a1, a2⟩ := a
    obtain ⟨b1, b2⟩ := b
    simp only at h1 h2
    rw [h1, h2]
noncomputable def zq_lk (i t : Nat) (l : List (Nat × Nat × zq_L)) : Option zq_L := List.rec (motive := fun _ => Option zq_L) none (fun x _ ih => Bool.rec (motive := fun _ => Option zq_L) ih (Bool.rec (motive := fun _ => Option zq_L) none (some x.2.2) (Nat.beq x.2.1 t)) (Nat.beq x.1 i)) l
theorem zq_lk_c {i t : Nat} {x : Nat × Nat × zq_L} {l : List (Nat × Nat × zq_L)} : zq_lk i t (x :: l) = bif Nat.beq x.1 i then (bif Nat.beq x.2.1 t then some x.2.2 else none) else zq_lk i t l := by
  show Bool.rec (motive := fun _ => Option zq_L) (zq_lk i t l) (Bool.rec (motive := fun _ => Option zq_L) none (some x.2.2) (Nat.beq x.2.1 t)) (Nat.beq x.1 i) = _
  cases Nat.beq x.1 i <;> cases Nat.beq x.2.1 t <;> rfl
theorem zq_lk_ok {i t : Nat} {e : zq_L} : ∀ {loc : List (Nat × Nat × zq_L)}, zq_lk i t loc = some e → (i, t, e) ∈ loc
  | [], h => by cases (show none = some e from h)
  | x :: l, h => by
    rw [zq_lk_c] at h
    cases hc : Nat.beq x.1 i with
    | true =>
      rw [hc] at h
      obtain ⟨q, e1⟩ := zq_bif h
      have e2 := Nat.eq_of_beq_eq_true hc
      have e3 := Nat.eq_of_beq_eq_true q
      obtain ⟨x1, x2, x3⟩ := x
      simp only at e1 e2 e3
      rw [← e1, ← e2, ← e3]
      exact List.mem_cons_self
    | false =>
      rw [hc] at h
      exact List.mem_cons_of_mem _ (zq_lk_ok h)
/-- what must hold for the operation, proved by the stream -/
noncomputable def zq_cnd (t op : Nat) (C : List zq_L) (b : zq_L) (q : List Nat) : Option (List Nat) := match op with
  | 3 => match q with
    | 0 :: q => zq_prove C (zq_addk b (-1)) q
    | 1 :: q => zq_prove C (zq_addk (zq_neg b) (-1)) q
    | _ => none
  | 4 => match q with
    | 0 :: q => zq_prove C (zq_addk b (-1)) q
    | 1 :: q => zq_prove C (zq_addk (zq_neg b) (-1)) q
    | _ => none
  | k => bif Nat.blt k 8 then some q else match zq_prove C b q with
    | some q => zq_prove C (zq_sub (zq_k ((zq_bw t : Int) - 1)) b) q
    | none => none
theorem zq_cnd_ok {t op : Nat} {C : List zq_L} {b : zq_L} {q q' : List Nat} {r : Nat → Int} (h : zq_cnd t op C b q = some q') (hC : zq_all r C) : zq_cond t op (zq_ev r b) := by
  unfold zq_cnd at h
  split at h
  · refine ⟨fun _ => ?_, fun h => by omega⟩
    split at h
    · have := zq_prove_ok h hC; rw [zq_ev_addk] at this; omega
    · have := zq_prove_ok h hC; rw [zq_ev_addk, zq_ev_neg] at this; omega
    · cases h
  · refine ⟨fun _ => ?_, fun h => by omega⟩
    split at h
    · have := zq_prove_ok h hC; rw [zq_ev_addk] at this; omega
    · have := zq_prove_ok h hC; rw [zq_ev_addk, zq_ev_neg] at this; omega
    · cases h
  · rename_i h3 h4
    refine ⟨fun z => absurd z (by rintro (z | z); exact h3 z; exact h4 z), fun z => ?_⟩
    cases hc : Nat.blt op 8 with
    | true => rw [zq_blt] at hc; omega
    | false =>
      rw [hc] at h
      simp only [cond_false] at h
      split at h
      · rename_i q1 hq1
        have a := zq_prove_ok hq1 hC
        have b := zq_prove_ok h hC
        rw [zq_ev_sub, zq_ev_k] at b
        exact ⟨a, by omega⟩
      · cases h
noncomputable def zq_rgB (t : Nat) (v : Int) : Bool := match t with
  | 0 => decide (-2147483648 ≤ v) && decide (v ≤ 2147483647)
  | 1 => decide (-9223372036854775808 ≤ v) && decide (v ≤ 9223372036854775807)
  | _ => decide (-1 ≤ v)
theorem zq_rgB_ok {t : Nat} {v : Int} (h : zq_rgB t v = true) : zq_rg t v := by
  match t, h with
  | 0, h => simp only [zq_rgB, Bool.and_eq_true, decide_eq_true_eq] at h; exact h
  | 1, h => simp only [zq_rgB, Bool.and_eq_true, decide_eq_true_eq] at h; exact h
  | k + 2, h => simp only [zq_rgB, decide_eq_true_eq] at h; exact h
/-- conversions: 0 just the same (both bounds proved), 1 anything between the bounds, 2 up to the width -/
noncomputable def zq_nar (n : Nat) (C : List zq_L) (lo hi : Int) (a : zq_L) : List Nat → Option ((zq_L × List zq_L × Nat) × List Nat)
  | 0 :: q => match zq_prove C (zq_addk a (-lo)) q with
    | some q => match zq_prove C (zq_sub (zq_k hi) a) q with
      | some q => some ((a, [], n), q)
      | none => none
    | none => none
  | 1 :: q => some ((zq_v n, zq_bet n lo hi, n + 1), q)
  | 2 :: q => some ((zq_sub a (zq_smul (hi - lo + 1) (zq_v n)), [zq_addk (zq_sub a (zq_smul (hi - lo + 1) (zq_v n))) (-lo), zq_sub (zq_k hi) (zq_sub a (zq_smul (hi - lo + 1) (zq_v n)))], n + 1), q)
  | _ => none
theorem zq_nar_ok {n : Nat} {C : List zq_L} {lo hi : Int} {a : zq_L} {q q' : List Nat} {o : zq_L × List zq_L × Nat} {r : Nat → Int} {z : Int} (h : zq_nar n C lo hi a q = some (o, q')) (hC : zq_all r C) (ha : zq_bd n a = true) (h1 : lo ≤ z) (h2 : z ≤ hi) (h3 : lo ≤ zq_ev r a → zq_ev r a ≤ hi → z = zq_ev r a) (h4 : ∃ k, z = zq_ev r a - (hi - lo + 1) * k) : zq_RO r n z o := by
  unfold zq_nar at h
  split at h
  · split at h
    · rename_i q1 hq1
      split at h
      · rename_i q2 hq2
        cases h
        have x := zq_prove_ok hq1 hC
        have y := zq_prove_ok hq2 hC
        rw [zq_ev_addk] at x
        rw [zq_ev_sub, zq_ev_k] at y
        exact zq_RO_exact ha (h3 (by omega) (by omega)).symm
      · cases h
    · cases h
  · cases h; exact zq_RO_bet h1 h2
  · cases h
    obtain ⟨k, hk⟩ := h4
    have hx := zq_up_ext r n k
    have ea := zq_ev_ext hx ha
    have hvn : zq_bd (n + 1) (zq_v n) = true := zq_bd_v (Nat.lt_succ_self _)
    have hb : zq_bd (n + 1) (zq_sub a (zq_smul (hi - lo + 1) (zq_v n))) = true := zq_bd_sub (zq_bd_mono (Nat.le_succ n) ha) (zq_bd_smul hvn)
    have ev : zq_ev (zq_up r n k) (zq_sub a (zq_smul (hi - lo + 1) (zq_v n))) = z := by rw [zq_ev_sub, zq_ev_smul, zq_ev_v, zq_up_self, ea]; exact hk.symm
    refine ⟨Nat.le_succ _, zq_up r n k, hx, hb, ?_, ev, ?_⟩
    · intro c hc
      simp only [List.mem_cons, List.not_mem_nil, or_false] at hc
      rcases hc with rfl | rfl
      · exact zq_bd_addk hb
      · exact zq_bd_sub zq_bd_k hb
    · intro c hc
      simp only [List.mem_cons, List.not_mem_nil, or_false] at hc
      rcases hc with rfl | rfl
      · rw [zq_ev_addk, ev]; omega
      · rw [zq_ev_sub, zq_ev_k, ev]; omega
  · cases h
/-- a rest with a sign, by whole widths -/
theorem zq_bmod_k (a : Int) (m : Nat) : ∃ k : Int, a.bmod m = a - m * k := by
  unfold Int.bmod
  simp only
  split
  · exact ⟨a / m, by rw [Int.emod_def]⟩
  · exact ⟨a / m + 1, by rw [Int.emod_def, Int.mul_add]; omega⟩
noncomputable def zq_s1 (LD : zq_LD) (nL : Nat) (i : Instr) (len : Nat) (S : zq_S) (q : List Nat) : Option (zq_S × List Nat) := match S with
  | (loc, stk, C, F, sto, raw, tok, n) => match zq_cst LD i with
    | some (ln, t, v) => bif Nat.beq ln len && zq_rgB t v then some ((loc, (t, zq_k v) :: stk, C, F, sto, raw, tok, n), q) else none
    | none => match zq_ldv i with
      | some (ln, t, x) => match zq_lk x t loc with
        | some e => bif Nat.beq ln len then some ((loc, (t, e) :: stk, C, F, sto, raw, tok, n), q) else none
        | none => none
      | none => match zq_stv i, stk with
        | some (ln, t, x), (t', e) :: stk' => bif Nat.beq ln len && (Nat.beq t' t && Nat.blt (x + (bif Nat.beq t 1 then 1 else 0)) nL) then some (((x, t, e) :: zq_flt x t loc, stk', C, F, sto, raw, tok, n), q) else none
        | _, _ => match zq_bop i, stk with
          | some (t, op), (tb, b) :: (ta, a) :: stk' => bif Nat.beq 1 len && (Nat.beq tb t && Nat.beq ta t) then (match zq_cnd t op C b q with
            | some q => match zq_rule t op n C a b q with
              | some ((e, C', n'), q) => some ((loc, (t, e) :: stk', C' ++ C, F, sto, raw, tok, n'), q)
              | none => none
            | none => none) else none
          | _, _ => match i, stk with
            | .iinc x k, stk => match zq_lk x 0 loc with
              | some e0 => bif Nat.beq 3 len && (Nat.blt x nL && zq_rgB 0 k) then (match zq_rule 0 0 n C e0 (zq_k k) q with
                | some ((e, C', n'), q) => some (((x, 0, e) :: zq_flt x 0 loc, stk, C' ++ C, F, sto, raw, tok, n'), q)
                | none => none) else none
              | none => none
            | .ineg, (0, a) :: stk' => bif Nat.beq 1 len then (match zq_rule 0 1 n C (zq_k 0) a q with
              | some ((e, C', n'), q) => some ((loc, (0, e) :: stk', C' ++ C, F, sto, raw, tok, n'), q)
              | none => none) else none
            | .i2l, (0, a) :: stk' => bif Nat.beq 1 len then some ((loc, (1, a) :: stk', C, F, sto, raw, tok, n), q) else none
            | .l2i, (1, a) :: stk' => bif Nat.beq 1 len then (match zq_nar n C (-2147483648) 2147483647 a q with
              | some ((e, C', n'), q) => some ((loc, (0, e) :: stk', C' ++ C, F, sto, raw, tok, n'), q)
              | none => none) else none
            | .i2b, (0, a) :: stk' => bif Nat.beq 1 len then (match zq_nar n C (-128) 127 a q with
              | some ((e, C', n'), q) => some ((loc, (0, e) :: stk', C' ++ C, F, sto, raw, tok, n'), q)
              | none => none) else none
            | .i2c, (0, a) :: stk' => bif Nat.beq 1 len then (match zq_nar n C 0 65535 a q with
              | some ((e, C', n'), q) => some ((loc, (0, e) :: stk', C' ++ C, F, sto, raw, tok, n'), q)
              | none => none) else none
            | .dup, (t, a) :: stk' => bif Nat.beq 1 len && !Nat.beq t 1 then some ((loc, (t, a) :: (t, a) :: stk', C, F, sto, raw, tok, n), q) else none
            | .pop, (t, _) :: stk' => bif Nat.beq 1 len && !Nat.beq t 1 then some ((loc, stk', C, F, sto, raw, tok, n), q) else none
            | .dup2, (t, a) :: stk' => bif Nat.beq 1 len then (bif Nat.beq t 1 then some ((loc, (t, a) :: (t, a) :: stk', C, F, sto, raw, tok, n), q) else match stk' with
              | (u, b) :: stk'' => bif Nat.beq u 1 then none else some ((loc, (t, a) :: (u, b) :: (t, a) :: (u, b) :: stk'', C, F, sto, raw, tok, n), q)
              | [] => none) else none
            | .pop2, (t, _) :: stk' => bif Nat.beq 1 len && Nat.beq t 1 then some ((loc, stk', C, F, sto, raw, tok, n), q) else none
            | _, _ => none
theorem zq_push {w : zq_Wd} {nL : Nat} {r : Nat → Int} {P : zq_Ty} {h : zq_H} {H : Heap} {ls : Array Slot} {loc : List (Nat × Nat × zq_L)} {stk : List (Nat × zq_L)} {C C' : List zq_L} {F : List (zq_L × Nat)} {sto : List (zq_L × zq_L × zq_L)} {raw : List (zq_L × Nat × List (Nat × zq_L))} {tok : List (Nat × List zq_L)} {n n' t : Nat} {e : zq_L} {z : Int}
    (hl : lv_has ls nL (zq_lvs r loc)) (oL : zq_okL r n loc) (oT : zq_okT r n stk) (M : zq_Me w r P h H C F sto raw tok n) (o : zq_RO r n z (e, C', n')) (hz : zq_rg t z) :
    n ≤ n' ∧ ∃ r', zq_ext n r r' ∧ zq_G w nL r' P h H ls (zq_val t z :: zq_sts r stk) (loc, (t, e) :: stk, C' ++ C, F, sto, raw, tok, n') := by
  obtain ⟨hn, r', he, b1, b2, ev, al⟩ := o
  simp only at hn b1 b2 ev al
  refine ⟨hn, r', he, by rw [show (loc, (t, e) :: stk, C' ++ C, F, sto, raw, tok, n').1 = loc from rfl, zq_lvs.ext he oL]; exact hl, ?_, oL.ext hn he, ?_, (M.ext hn he).rows al b2⟩
  · show _ = zq_val t (zq_ev r' e) :: zq_sts r' stk
    rw [ev, zq_sts.ext he oT]
  · intro x hx
    rcases List.mem_cons.mp hx with rfl | hx
    · exact ⟨b1, by show zq_rg t (zq_ev r' e); rw [ev]; exact hz⟩
    · exact (oT.ext hn he) x hx
