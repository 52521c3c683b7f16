/-- states that follow a branch: target, state -/
noncomputable def zq_alt (tgt : Nat) (f : List zq_L → zq_S) : List (List zq_L) → List (Nat × zq_S)
  | [] => []
  | rows :: l => (tgt, f rows) :: zq_alt tgt f l
theorem zq_alt_in {tgt : Nat} {f : List zq_L → zq_S} {rows : List zq_L} : ∀ {l : List (List zq_L)}, rows ∈ l → (tgt, f rows) ∈ zq_alt tgt f l
  | x :: l, h => by
    rcases List.mem_cons.mp h with rfl | h
    · exact List.mem_cons_self
    · exact List.mem_cons_of_mem _ (zq_alt_in h)
/-- cases of a table -/
noncomputable def zq_tab (pc : Nat) (x : zq_L) (f : List zq_L → zq_S) : Int → List Int → List (Nat × zq_S)
  | _, [] => []
  | k, o :: l => (((pc : Int) + o).toNat, f (zq_eqr x (zq_k k))) :: zq_tab pc x f (k + 1) l
theorem zq_tab_in {pc : Nat} {x : zq_L} {f : List zq_L → zq_S} : ∀ {l : List Int} {k : Int} {j : Nat} {o : Int}, l[j]? = some o → (((pc : Int) + o).toNat, f (zq_eqr x (zq_k (k + j)))) ∈ zq_tab pc x f k l
  | [], _, _, _, h => by simp at h
  | y :: l, k, 0, o, h => by
    simp at h; subst h
    simp only [zq_tab, Int.natCast_zero, Int.add_zero]
    exact List.mem_cons_self
  | y :: l, k, j + 1, o, h => by
    simp at h
    have := zq_tab_in (pc := pc) (x := x) (f := f) (k := k + 1) h
    rw [show k + 1 + (j : Int) = k + ((j + 1 : Nat) : Int) by omega] at this
    exact List.mem_cons_of_mem _ this
/-- cases of a list of keys -/
noncomputable def zq_keys (pc : Nat) (x : zq_L) (f : List zq_L → zq_S) : List (Int × Int) → List (Nat × zq_S)
  | [] => []
  | o :: l => (((pc : Int) + o.2).toNat, f (zq_eqr x (zq_k o.1))) :: zq_keys pc x f l
theorem zq_keys_in {pc : Nat} {x : zq_L} {f : List zq_L → zq_S} {o : Int × Int} : ∀ {l : List (Int × Int)}, o ∈ l → (((pc : Int) + o.2).toNat, f (zq_eqr x (zq_k o.1))) ∈ zq_keys pc x f l
  | y :: l, h => by
    rcases List.mem_cons.mp h with rfl | h
    · exact List.mem_cons_self
    · exact List.mem_cons_of_mem _ (zq_keys_in h)
/-- gaps between keys: x lies behind lo (rows so far) and before the next key -/
noncomputable def zq_gaps (x : zq_L) : List zq_L → List (Int × Int) → List (List zq_L)
  | lo, [] => [lo]
  | lo, o :: l => (zq_ltr x (zq_k o.1) ++ lo) :: zq_gaps x (zq_ltr (zq_k o.1) x) l
theorem zq_gaps_ok {x : zq_L} {r : Nat → Int} {n : Nat} (bx : zq_bd n x = true) : ∀ {l : List (Int × Int)} {lo : List zq_L}, zq_all r lo → (∀ c ∈ lo, zq_bd n c = true) → (∀ o ∈ l, zq_ev r x ≠ o.1) → ∃ rows ∈ zq_gaps x lo l, zq_all r rows ∧ ∀ c ∈ rows, zq_bd n c = true
  | [], lo, h1, h2, _ => ⟨lo, List.mem_cons_self, h1, h2⟩
  | o :: l, lo, h1, h2, h3 => by
    have hne := h3 o List.mem_cons_self
    rcases Int.lt_or_gt_of_ne hne with z | z
    · refine ⟨_, List.mem_cons_self, fun c hc => ?_, fun c hc => ?_⟩
      · rcases List.mem_append.mp hc with hc | hc
        · rw [List.mem_singleton.mp hc, zq_ev_addk, zq_ev_sub, zq_ev_k]; omega
        · exact h1 c hc
      · rcases List.mem_append.mp hc with hc | hc
        · rw [List.mem_singleton.mp hc]; exact zq_bd_addk (zq_bd_sub zq_bd_k bx)
        · exact h2 c hc
    · obtain ⟨rows, g1, g2⟩ := zq_gaps_ok bx (l := l) (lo := zq_ltr (zq_k o.1) x) (fun c hc => by rw [List.mem_singleton.mp hc, zq_ev_addk, zq_ev_sub, zq_ev_k]; omega) (fun c hc => by rw [List.mem_singleton.mp hc]; exact zq_bd_addk (zq_bd_sub bx zq_bd_k)) (fun o' ho => h3 o' (List.mem_cons_of_mem _ ho))
      exact ⟨rows, List.mem_cons_of_mem _ g1, g2⟩
noncomputable def zq_br (i : Instr) (len pc : Nat) (S : zq_S) (q : List Nat) : Option (List (Nat × zq_S) × List Nat) := match S with
  | (loc, stk, C, F, sto, raw, tok, n) => match i, stk with
    | .goto off, stk => bif Nat.beq 3 len && decide (0 ≤ (pc : Int) + off) then some ([(((pc : Int) + off).toNat, (loc, stk, C, F, sto, raw, tok, n))], q) else none
    | .if_icmp cd off, (0, y) :: (0, x) :: stk' => bif Nat.beq 3 len && decide (0 ≤ (pc : Int) + off) then (match zq_cmp C cd x y q with
      | some (a, b, q) => some (zq_alt ((pc : Int) + off).toNat (fun rows => (loc, stk', rows ++ C, F, sto, raw, tok, n)) a ++ zq_alt (pc + 3) (fun rows => (loc, stk', rows ++ C, F, sto, raw, tok, n)) b, q)
      | none => none) else none
    | .ifCond cd off, (0, x) :: stk' => bif Nat.beq 3 len && decide (0 ≤ (pc : Int) + off) then (match zq_cmp C cd x (zq_k 0) q with
      | some (a, b, q) => some (zq_alt ((pc : Int) + off).toNat (fun rows => (loc, stk', rows ++ C, F, sto, raw, tok, n)) a ++ zq_alt (pc + 3) (fun rows => (loc, stk', rows ++ C, F, sto, raw, tok, n)) b, q)
      | none => none) else none
    | .ifnonnull off, (2, x) :: stk' => bif Nat.beq 3 len && decide (0 ≤ (pc : Int) + off) then some ([(((pc : Int) + off).toNat, (loc, stk', x :: C, F, sto, raw, tok, n)), (pc + 3, (loc, stk', zq_addk (zq_neg x) (-1) :: C, F, sto, raw, tok, n))], q) else none
    | .ifnull off, (2, x) :: stk' => bif Nat.beq 3 len && decide (0 ≤ (pc : Int) + off) then some ([(((pc : Int) + off).toNat, (loc, stk', zq_addk (zq_neg x) (-1) :: C, F, sto, raw, tok, n)), (pc + 3, (loc, stk', x :: C, F, sto, raw, tok, n))], q) else none
    | .lcmp, (1, y) :: (1, x) :: stk' => bif Nat.beq 1 len then some ([(pc + 1, (loc, (0, zq_k 1) :: stk', zq_ltr y x ++ C, F, sto, raw, tok, n)), (pc + 1, (loc, (0, zq_k 0) :: stk', zq_eqr x y ++ C, F, sto, raw, tok, n)), (pc + 1, (loc, (0, zq_k (-1)) :: stk', zq_ltr x y ++ C, F, sto, raw, tok, n))], q) else none
    | .tableswitch d lo hi offs, (0, x) :: stk' => bif decide (0 ≤ (pc : Int) + d) && (decide (hi - lo + 1 = (offs.toList.length : Int)) && offs.toList.all (fun o => decide (0 ≤ (pc : Int) + o))) then some (zq_tab pc x (fun rows => (loc, stk', rows ++ C, F, sto, raw, tok, n)) lo offs.toList ++ zq_alt ((pc : Int) + d).toNat (fun rows => (loc, stk', rows ++ C, F, sto, raw, tok, n)) [zq_ltr x (zq_k lo), zq_ltr (zq_k hi) x], q) else none
    | .lookupswitch d ps, (0, x) :: stk' => bif decide (0 ≤ (pc : Int) + d) && ((ps.toList.zip (ps.toList.drop 1)).all (fun (a, next) => decide (a.1 < next.1)) && ps.toList.all (fun o => decide (0 ≤ (pc : Int) + o.2))) then some (zq_keys pc x (fun rows => (loc, stk', rows ++ C, F, sto, raw, tok, n)) ps.toList ++ zq_alt ((pc : Int) + d).toNat (fun rows => (loc, stk', rows ++ C, F, sto, raw, tok, n)) (zq_gaps x [] ps.toList), q) else none
    | _, _ => none
