/-! THE CHECKER -/
abbrev zq_Cd : Type := List (Nat × Instr × Nat)
noncomputable def zq_code (pc : Nat) (l : zq_Cd) : Option (Instr × Nat) := List.rec (motive := fun _ => Option (Instr × Nat)) none (fun x _ ih => Bool.rec (motive := fun _ => Option (Instr × Nat)) ih (some x.2) (Nat.beq x.1 pc)) l
theorem zq_code_c {pc : Nat} {x : Nat × Instr × Nat} {l : zq_Cd} : zq_code pc (x :: l) = bif Nat.beq x.1 pc then some x.2 else zq_code pc l := by
  show Bool.rec (motive := fun _ => Option (Instr × Nat)) (zq_code pc l) (some x.2) (Nat.beq x.1 pc) = _
  cases Nat.beq x.1 pc <;> rfl
theorem zq_code_ok {pc : Nat} {o : Instr × Nat} : ∀ {l : zq_Cd}, zq_code pc l = some o → (pc, o) ∈ l
  | [], h => by cases (show none = some o from h)
  | x :: l, h => by
    rw [zq_code_c] at h
    cases hc : Nat.beq x.1 pc with
    | true =>
      rw [hc] at h
      have e1 := Nat.eq_of_beq_eq_true hc
      have e2 : x.2 = o := Option.some.inj h
      rw [← e1, ← e2]; exact List.mem_cons_self
    | false => rw [hc] at h; exact List.mem_cons_of_mem _ (zq_code_ok h)
noncomputable def zq_all2 {α : Type} (f : α → List Nat → Option (List Nat)) : List α → List Nat → Option (List Nat)
  | [], q => some q
  | x :: l, q => match f x q with
    | some q => zq_all2 f l q
    | none => none
theorem zq_all2_ok {α : Type} {f : α → List Nat → Option (List Nat)} : ∀ {l : List α} {q q' : List Nat}, zq_all2 f l q = some q' → ∀ x ∈ l, ∃ q1 q2, f x q1 = some q2
  | [], _, _, _, x, hx => by cases hx
  | y :: l, q, q', h, x, hx => by
    unfold zq_all2 at h
    split at h
    · rename_i q1 hq1
      rcases List.mem_cons.mp hx with rfl | hx
      · exact ⟨_, _, hq1⟩
      · exact zq_all2_ok h x hx
    · cases h
/-- a method's last instruction fits its answer -/
noncomputable def zq_rti (i : Instr) (res : List (Nat × zq_L)) : Bool := match i, res with
  | .ireturn, [(t, _)] => Nat.beq t 0
  | .lreturn, [(t, _)] => Nat.beq t 1
  | .areturn, [(t, _)] => Nat.beq t 2
  | .return_, [] => true
  | _, _ => false
/-- a cut: place, state, measure, cells and slots made so far at most -/
abbrev zq_Cu : Type := Nat × zq_S × zq_L × Nat × Nat
/-- what the checker is told of a method: constants, links of fields, classes, arrays, calls (instruction, contract, cells, slots), what it may write, is it a constructor, its class, its locals, variables at its start, its room for cells and slots, its ends, its cuts, its code -/
abbrev zq_Mt : Type := zq_LD × zq_FL × zq_CLt × List (Nat × Nat) × List (Instr × Nat × Nat × Nat) × zq_Ms × Bool × Nat × Nat × Nat × (Nat × Nat) × List (List (Nat × zq_L) × zq_S) × List zq_Cu × zq_Cd
/-- what it is told of the whole: kinds, array types, types of fields, final fields, classes of elements, what tokens look at, facts about memory, contracts -/
abbrev zq_Gb : Type := List zq_K × List FieldType × List (List Nat) × List (List Bool) × List Nat × zq_FX × zq_GX × List zq_Ct
noncomputable def zq_exec (g : zq_Gb) (mt : zq_Mt) (ck : Nat → Nat → Nat → zq_S → List Nat → Option (List Nat)) (ce sl pc : Nat) (S : zq_S) (q : List Nat) : Option (List Nat) := match g, mt with
  | (KT, TY, FT, FN, AC, FX, _, _), (LD, FL, CL, AL, _, M, ini, oc, nL, _, (Rc, Rs), _, _, code) => match zq_code pc code with
    | some (i, len) => match zq_s1 LD nL i len S q with
      | some (S', q) => ck ce sl (pc + len) S' q
      | none => match zq_s2 KT TY FL i len S q with
        | some (S', q) => ck ce sl (pc + len) S' q
        | none => match zq_s3 KT TY FL FT FN AC FX M ini oc i len S q with
          | some (S', q) => ck ce sl (pc + len) S' q
          | none => match zq_br i len pc S q with
            | some (su, q) => zq_all2 (fun x q => ck ce sl x.1 x.2 q) su q
            | none => match zq_s4 FT CL i len S with
              | some (S', N) => bif Nat.ble (ce + 1) Rc && Nat.ble (sl + N) Rs then ck (ce + 1) (sl + N) (pc + len) S' q else none
              | none => match zq_s5 KT TY FX AL i len S q with
                | some (S', b, q) => bif Nat.ble (ce + 1) Rc && Nat.ble (sl + b) Rs then ck (ce + 1) (sl + b) (pc + len) S' q else none
                | none => none
    | none => none
noncomputable def zq_call (g : zq_Gb) (mt : zq_Mt) (ck : Nat → Nat → Nat → zq_S → List Nat → Option (List Nat)) (ce sl pc : Nat) (S : zq_S) (q : List Nat) : Option (List Nat) := match g, mt with
  | (_, _, _, _, _, FX, _, CTs), (_, _, _, _, ML, M, _, _, _, _, (Rc, Rs), _, _, code) => match zq_code pc code, q with
    | some (i, len), j :: q => match ML[j]? with
      | some (i', ci, mc, ms) => match CTs[ci]? with
        | some ct => bif decide (i = i') && (Nat.beq len (zq_iln i) && (Nat.ble (ce + mc) Rc && Nat.ble (sl + ms) Rs)) then (match S with
          | (loc, stk, C, F, sto, raw, tok, n) => match zq_s6 M ct (loc, stk, C, F, sto, raw, tok, n) q with
            | some (gg, rest, raw', q) => zq_all2 (fun po q => ck (ce + mc) (sl + ms) (pc + zq_iln i) (zq_after FX gg ct.2.2 ct.1.2.2.2.2.2.2.2 loc rest C F sto raw' tok n po) q) ct.2.1 q
            | none => none) else none
        | none => none
      | none => none
    | _, _ => none
/-- a store into an array that keeps tokens by their own ranges -/
noncomputable def zq_stx (g : zq_Gb) (mt : zq_Mt) (ck : Nat → Nat → Nat → zq_S → List Nat → Option (List Nat)) (ce sl pc : Nat) (S : zq_S) (q : List Nat) : Option (List Nat) := match g, mt with
  | (KT, TY, FT, FN, AC, FX, GX, _), (_, FL, _, _, _, M, ini, oc, _, _, _, _, _, code) => match zq_code pc code, S.2.1, q with
    | some (i, len), (_, _) :: (0, ei) :: (2, er) :: _, c :: q => match zq_kd S.2.2.2.1 er with
      | some k => match zq_kx GX.2 S.2.2.1 ei k S.2.2.2.2.2.2.1 c q with
        | some (l, q) => match zq_s3 KT TY FL FT FN AC FX M ini oc i len S q with
          | some ((loc, stk, C, F, sto, raw, tok, n), q) => ck ce sl (pc + len) (loc, stk, C, F, sto, raw, l ++ tok, n) q
          | none => none
        | none => none
      | none => none
    | _, _, _ => none
/-- an operation that is remembered -/
noncomputable def zq_stb (mt : zq_Mt) (ck : Nat → Nat → Nat → zq_S → List Nat → Option (List Nat)) (ce sl pc : Nat) (S : zq_S) (q : List Nat) : Option (List Nat) := match mt with
  | (_, _, _, _, _, _, _, _, _, _, _, _, _, code) => match zq_code pc code with
    | some (i, len) => match zo_sb i len S q with
      | some (S', q) => ck ce sl (pc + len) S' q
      | none => none
    | none => none
/-- new cells, told where they lie -/
noncomputable def zq_lbS (S S' : zq_S) : zq_S := (S'.1, S'.2.1, zq_lbr (zq_v S.2.2.2.2.2.2.2) S.2.2.2.2.2.2.1 ++ S'.2.2.1, S'.2.2.2)
noncomputable def zq_stn (g : zq_Gb) (mt : zq_Mt) (ck : Nat → Nat → Nat → zq_S → List Nat → Option (List Nat)) (ce sl pc : Nat) (S : zq_S) (q : List Nat) : Option (List Nat) := match g, mt with
  | (KT, TY, FT, _, _, FX, _, _), (_, _, CL, AL, _, _, _, _, _, _, (Rc, Rs), _, _, code) => match zq_code pc code with
    | some (i, len) => match zq_s4 FT CL i len S with
      | some (S', N) => bif Nat.ble (ce + 1) Rc && Nat.ble (sl + N) Rs then ck (ce + 1) (sl + N) (pc + len) (zq_lbS S S') q else none
      | none => match zq_s5 KT TY FX AL i len S q with
        | some (S', b, q) => bif Nat.ble (ce + 1) Rc && Nat.ble (sl + b) Rs then ck (ce + 1) (sl + b) (pc + len) (zq_lbS S S') q else none
        | none => none
    | none => none
/-- a store beyond the bounds of tokens -/
noncomputable def zq_er (stk : List (Nat × zq_L)) : Option zq_L := match stk with
  | (_, _) :: (0, _) :: (2, er) :: _ => some er
  | (_, _) :: (2, er) :: _ => some er
  | _ => none
noncomputable def zq_stl (g : zq_Gb) (mt : zq_Mt) (ck : Nat → Nat → Nat → zq_S → List Nat → Option (List Nat)) (ce sl pc : Nat) (S : zq_S) (q : List Nat) : Option (List Nat) := match g, mt with
  | (KT, TY, FT, FN, AC, FX, _, _), (_, FL, _, _, _, M, ini, oc, _, _, _, _, _, code) => match zq_code pc code, zq_er S.2.1, q with
    | some (i, len), some er, c :: q => match zq_kb S.2.2.1 er S.2.2.2.2.2.2.1 c q with
      | some (l, q) => match zq_s3 KT TY FL FT FN AC FX M ini oc i len S q with
        | some ((loc, stk, C, F, sto, raw, tok, n), q) => ck ce sl (pc + len) (loc, stk, C, F, sto, raw, l ++ tok, n) q
        | none => none
      | none => none
    | _, _, _ => none
theorem zq_er_ok {r : Nat → Int} {P : zq_Ty} {h h' : zq_H} {F : List (zq_L × Nat)} {stk : List (Nat × zq_L)} {er : zq_L} (he : zq_er stk = some er) (hw : zq_wt r P h F stk h') : h' = h ∨ ∃ (a : Nat) (j v : Int), zq_ev r er = (a : Int) ∧ h' = zq_wr h a j v := by
  unfold zq_er at he
  split at he
  · cases he
    obtain ⟨a, k, z1, z2, z3, z4⟩ := hw.1 _ _ _ _ _ rfl
    exact Or.inr ⟨a, _, _, z3, z4⟩
  · cases he
    exact hw.2 _ _ _ _ rfl
  · cases he
noncomputable def zq_ends (mt : zq_Mt) (ce sl pc : Nat) (S : zq_S) (q : List Nat) : Option (List Nat) := match mt with
  | (_, _, _, _, _, _, _, _, _, n0, (Rc, Rs), posts, _, code) => match zq_code pc code, q with
    | some (i, len), k :: q => match posts[k]? with
      | some po => match zq_rdG po.2.2.2.2.2.2.2.2 q with
        | some (gg, q) => bif zq_idn n0 gg && (zq_rti i po.1 && (Nat.beq len 1 && (zq_mtk gg po.1 S.2.1 && (Nat.ble ce Rc && Nat.ble sl Rs)))) then zq_mtM gg po.2 S q else none
        | none => none
      | none => none
    | _, _ => none
noncomputable def zq_cut (mt : zq_Mt) (mu : Option zq_L) (ce sl pc : Nat) (S : zq_S) (q : List Nat) : Option (List Nat) := match mt with
  | (_, _, _, _, _, _, _, _, _, n0, _, _, cuts, _) => match q with
    | k :: q => match cuts[k]? with
      | some (pc', A, me, ck, cs) => match zq_rdG A.2.2.2.2.2.2.2 q with
        | some (gg, q) => bif zq_idn n0 gg && (Nat.beq pc pc' && (Nat.ble ce ck && Nat.ble sl cs)) then (match zq_mt gg A S q with
          | some q => (match zq_prove S.2.2.1 (zq_sb gg me) q with
            | some q => (match mu with
              | some m0 => zq_prove S.2.2.1 (zq_addk (zq_sub m0 (zq_sb gg me)) (-1)) q
              | none => some q)
            | none => none)
          | none => none) else none
        | none => none
      | none => none
    | [] => none
noncomputable def zq_chk (g : zq_Gb) (mt : zq_Mt) (mu : Option zq_L) : Nat → Nat → Nat → Nat → zq_S → List Nat → Option (List Nat)
  | 0, _, _, _, _, _ => none
  | f + 1, ce, sl, pc, S, q => match q with
    | 0 :: q => zq_exec g mt (zq_chk g mt mu f) ce sl pc S q
    | 1 :: q => zq_call g mt (zq_chk g mt mu f) ce sl pc S q
    | 2 :: q => zq_ends mt ce sl pc S q
    | 3 :: q => zq_cut mt mu ce sl pc S q
    | 4 :: q => (match zq_rdL q with
      | some (e, q) => bif zq_bd S.2.2.2.2.2.2.2 e then (match zq_chk g mt mu f ce sl pc (S.1, S.2.1, e :: S.2.2.1, S.2.2.2) q with
        | some q => zq_chk g mt mu f ce sl pc (S.1, S.2.1, zq_addk (zq_neg e) (-1) :: S.2.2.1, S.2.2.2) q
        | none => none) else none
      | none => none)
    | 5 :: q => zq_prove S.2.2.1 (zq_k (-1)) q
    | 6 :: q => (match zq_pb g.1 g.2.2.1 g.2.2.2.2.2.1 S q with
      | some (S', q) => zq_chk g mt mu f ce sl pc S' q
      | none => none)
    | 7 :: q => (match zq_rw S q with
      | some (S', q) => zq_chk g mt mu f ce sl pc S' q
      | none => none)
    | 8 :: q => (match zq_rr g.1 g.2.2.1 S q with
      | some (S', q) => zq_chk g mt mu f ce sl pc S' q
      | none => none)
    | 9 :: q => (match zq_gl g.2.2.2.2.2.2.1.1 g.2.2.2.2.2.1 S q with
      | some (su, q) => zq_all2 (fun S' q => zq_chk g mt mu f ce sl pc S' q) su q
      | none => none)
    | 10 :: q => zq_stx g mt (zq_chk g mt mu f) ce sl pc S q
    | 11 :: q => zq_stb mt (zq_chk g mt mu f) ce sl pc S q
    | 12 :: q => zq_stn g mt (zq_chk g mt mu f) ce sl pc S q
    | 13 :: q => zq_stl g mt (zq_chk g mt mu f) ce sl pc S q
    | _ => none
