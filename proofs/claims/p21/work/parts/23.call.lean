/-! CALLS BY CONTRACT. A contract: the state at the start (its locals are the arguments), the states behind it (an answer or none), what is written -/
abbrev zq_Ct : Type := zq_S × List (List (Nat × zq_L) × zq_S) × zq_Ms
noncomputable def zq_R0 (r : Nat → Int) (raw : zq_Rw) (a : Nat) : Prop := ∃ x ∈ raw, zq_ev r x.1 = (a : Int)
/-- what a call leaves as it was -/
noncomputable def zq_Cf (M : zq_Ms) (r : Nat → Int) (R0 : Nat → Prop) (P : zq_Ty) (h : zq_H) (H : Heap) (P' : zq_Ty) (h' : zq_H) (H' : Heap) : Prop :=
  H.size ≤ H'.size ∧ (∀ q : Nat, q < H.size → ¬ zq_A M P H R0 q → H'[q]? = H[q]?) ∧ zq_le P P' ∧ (∀ a k j, P a = some k → ¬ zq_md M r k j → h' a j = h a j) ∧ (∀ a k, P' a = some k → P a = some k ∨ (P a = none ∧ zq_nw H R0 a))
noncomputable def zq_MeS (w : zq_Wd) (r : Nat → Int) (P : zq_Ty) (h : zq_H) (H : Heap) (S : zq_S) : Prop := zq_Me w r P h H S.2.2.1 S.2.2.2.1 S.2.2.2.2.1 S.2.2.2.2.2.1 S.2.2.2.2.2.2.1 S.2.2.2.2.2.2.2
noncomputable def zq_args (ct : zq_Ct) : List (Nat × zq_L) := ct.1.1.map Prod.snd
/-- cells that nobody writes (address, cell) -/
abbrev zq_FC : Type := List (Nat × Cell)
noncomputable def zq_Fc (FC : zq_FC) (P : zq_Ty) (H : Heap) (R0 : Nat → Prop) : Prop := ∀ x ∈ FC, H[x.1]? = some x.2 ∧ P x.1 = none ∧ ¬ R0 x.1
theorem zq_Fc.at {FC : zq_FC} {M : zq_Ms} {r0 : Nat → Int} {P0 P : zq_Ty} {h0 h : zq_H} {H0 H : Heap} {R0 R1 : Nat → Prop} {locs : List Loc} (f : zq_Fc FC P0 H0 R0) (Fr : zq_Fr M r0 P0 h0 H0 R0 P h H locs) (hR : ∀ a, R1 a → zq_nw H0 R0 a) : zq_Fc FC P H R1 := by
  intro x hx
  obtain ⟨f1, f2, f3⟩ := f x hx
  have hlt : x.1 < H0.size := (Array.getElem?_eq_some_iff.mp f1).1
  have hnn : ¬ zq_nw H0 R0 x.1 := by
    rintro (z | z)
    · omega
    · exact f3 z
  refine ⟨?_, ?_, fun z => hnn (hR _ z)⟩
  · rw [Fr.1.2.1 x.1 hlt]
    · exact f1
    · rintro (⟨k, z, -⟩ | z)
      · rw [f2] at z; cases z
      · exact hnn z
  · cases hp : P x.1 with
    | none => rfl
    | some k =>
      rcases Fr.2.2.2 x.1 k hp with z | z
      · rw [f2] at z; cases z
      · exact absurd z.2 hnn
/-- how long an instruction is that is treated as a call -/
noncomputable def zq_iln : Instr → Nat
  | .ldc _ => 2
  | .arraylength => 1
  | .iaload => 1
  | .baload => 1
  | _ => 3
/-- the rule of a call, for the method that calls -/
noncomputable def zq_CallW (FC : zq_FC) (w : zq_Wd) (p : Program) (l : Launch) (e : Env) (R : Room) (s : State) (m : MethodId) (args : Array Value) (below : List Frame) (meth : Method) (c : Code) (Q : State → Prop) (cc : ByteArray) (nL : Nat) (i : Instr) (ct : zq_Ct) (mc ms : Nat) : Prop :=
  ∀ (r : Nat → Int) (P : zq_Ty) (h : zq_H) (H : Heap) (locs : List Loc) (cells slots pc : Nat) (ls : Array Slot) (rest : List Value),
    zq_okT r ct.1.2.2.2.2.2.2.2 (zq_args ct) → zq_MeS w r P h H ct.1 → zq_Fc FC P H (zq_R0 r ct.1.2.2.2.2.2.1) → (rest.map fun v => v.category).sum ≤ 8 → ls.size = nL → cells + mc ≤ R.cells → slots + ms ≤ R.slots → decode cc pc = .ok (i, zq_iln i) →
    (∀ po ∈ ct.2.1, ∀ (r' : Nat → Int) (P' : zq_Ty) (h' : zq_H) (H' : Heap) (L : List Loc), zq_ext ct.1.2.2.2.2.2.2.2 r r' → zq_okT r' po.2.2.2.2.2.2.2.2 po.1 → zq_MeS w r' P' h' H' po.2 → zq_Cf ct.2.2 r (zq_R0 r ct.1.2.2.2.2.2.1) P h H P' h' H' → (∀ q ∈ L, zq_A ct.2.2 P H (zq_R0 r ct.1.2.2.2.2.2.1) q.base) →
      W p l e R s m args below meth c H' (locs ++ L) (cells + mc) (slots + ms) Q (F0 m (pc + zq_iln i) ls (zq_sts r' po.1 ++ rest))) →
    W p l e R s m args below meth c H locs cells slots Q (F0 m pc ls ((zq_sts r (zq_args ct)).reverse ++ rest))
/-- a range is disjoint from all that is written, both by numbers -/
noncomputable def zq_dsj (g : List zq_L) (k : Nat) (lo hi : Int) (M : zq_Ms) : Bool := M.all (fun x => !Nat.beq x.1 k || (match zq_sb g x.2.1, zq_sb g x.2.2 with
  | (a, []), (b, []) => decide (hi < a) || decide (b < lo)
  | _, _ => false))
theorem zq_dsj_ok {g : List zq_L} {k : Nat} {lo hi : Int} {M : zq_Ms} {r : Nat → Int} (h : zq_dsj g k lo hi M = true) {j : Int} (h1 : lo ≤ j) (h2 : j ≤ hi) : ¬ zq_md M (zq_sv r g) k j := by
  rintro ⟨-, x, hx, e1, e2, e3⟩
  have := List.all_eq_true.mp h x hx
  simp only [Bool.or_eq_true, Bool.not_eq_true'] at this
  rcases this with q | q
  · rw [e1] at q; simp at q
  · rw [← zq_ev_sb] at e2 e3
    split at q
    · rename_i a b ha hb
      rw [ha] at e2
      rw [hb] at e3
      simp only [zq_ev, zq_ts, Bool.or_eq_true, decide_eq_true_eq] at e2 e3 q
      omega
    · cases q
/-- rows of the store that a call leaves -/
noncomputable def zq_scf (g : List zq_L) (F : List (zq_L × Nat)) (M : zq_Ms) (x : zq_L × zq_L × zq_L) : Bool := match x.2.1.2 with
  | [] => decide (x.2.1.1 < 0) || (match zq_kd F x.1 with
    | some k => zq_dsj g k x.2.1.1 x.2.1.1 M
    | none => false)
  | _ => match zq_kd F x.1 with
    | some k => M.all (fun y => !Nat.beq y.1 k)
    | none => false
noncomputable def zq_tkc (FX : zq_FX) (g : List zq_L) (M : zq_Ms) (x : Nat × List zq_L) : Bool := match zq_fxo x.1 FX with
  | some rs => rs.all (fun y => zq_dsj g y.1 y.2.1 y.2.2 M)
  | none => false
/-- what is written lies within what may be written -/
noncomputable def zq_mcv (M : zq_Ms) (C : List zq_L) (g : List zq_L) : zq_Ms → List Nat → Option (List Nat)
  | [], q => some q
  | x :: l, j :: q => match M[j]? with
    | some y => bif Nat.beq y.1 x.1 then (match zq_prove C (zq_sub (zq_sb g x.2.1) y.2.1) q with
      | some q => (match zq_prove C (zq_sub y.2.2 (zq_sb g x.2.2)) q with
        | some q => zq_mcv M C g l q
        | none => none)
      | none => none) else none
    | none => none
  | _ :: _, [] => none
theorem zq_mcv_ok {M : zq_Ms} {C g : List zq_L} {r r0 : Nat → Int} {n0 : Nat} (hC : zq_all r C) (hM : zq_okM n0 M) (he : zq_ext n0 r0 r) : ∀ {l : zq_Ms} {q q' : List Nat}, zq_mcv M C g l q = some q' → ∀ k j, zq_md l (zq_sv r g) k j → zq_md M r0 k j
  | [], _, _, _, k, j, h => by obtain ⟨-, x, hx, -⟩ := h; cases hx
  | x :: l, [], _, hs, _, _, _ => by cases hs
  | x :: l, i :: q, q', hs, k, j, h => by
    unfold zq_mcv at hs
    split at hs
    · rename_i y hy
      cases hb : Nat.beq y.1 x.1 with
      | false => rw [hb] at hs; cases hs
      | true =>
        rw [hb] at hs
        simp only [cond_true] at hs
        split at hs
        · rename_i q1 hq1
          split at hs
          · rename_i q2 hq2
            obtain ⟨h0, z, hz, e1, e2, e3⟩ := h
            rcases List.mem_cons.mp hz with rfl | hz
            · have a := zq_prove_ok hq1 hC
              have b := zq_prove_ok hq2 hC
              rw [zq_ev_sub, zq_ev_sb] at a b
              have hm := List.mem_of_getElem? hy
              refine ⟨h0, y, hm, (Nat.eq_of_beq_eq_true hb).trans e1, ?_, ?_⟩
              · rw [← zq_ev_ext he (hM y hm).1]; omega
              · rw [← zq_ev_ext he (hM y hm).2]; omega
            · exact zq_mcv_ok hC hM he hs k j ⟨h0, z, hz, e1, e2, e3⟩
          · cases hs
        · cases hs
    · cases hs
theorem zq_mcv_kd {M : zq_Ms} {C g : List zq_L} : ∀ {l : zq_Ms} {q q' : List Nat}, zq_mcv M C g l q = some q' → ∀ x ∈ l, ∃ y ∈ M, y.1 = x.1
  | [], _, _, _, x, h => by cases h
  | x :: l, [], _, hs, _, _ => by cases hs
  | x :: l, i :: q, q', hs, z, h => by
    unfold zq_mcv at hs
    split at hs
    · rename_i y hy
      cases hb : Nat.beq y.1 x.1 with
      | false => rw [hb] at hs; cases hs
      | true =>
        rw [hb] at hs
        simp only [cond_true] at hs
        split at hs
        · split at hs
          · rcases List.mem_cons.mp h with rfl | h
            · exact ⟨y, List.mem_of_getElem? hy, Nat.eq_of_beq_eq_true hb⟩
            · exact zq_mcv_kd hs z h
          · cases hs
        · cases hs
    · cases hs
/-- variables behind a call -/
noncomputable def zq_nv (n : Nat) : Nat → List zq_L
  | 0 => []
  | d + 1 => zq_v n :: zq_nv (n + 1) d
noncomputable def zq_after (FX : zq_FX) (g : List zq_L) (M : zq_Ms) (np : Nat) (loc : List (Nat × Nat × zq_L)) (rest : List (Nat × zq_L)) (C : List zq_L) (F : List (zq_L × Nat)) (sto : zq_St) (raw : zq_Rw) (tok : List (Nat × List zq_L)) (n : Nat) (po : List (Nat × zq_L) × zq_S) : zq_S :=
  let g' := g ++ zq_nv n (po.2.2.2.2.2.2.2.2 - np)
  (loc, po.1.map (fun x => (x.1, zq_sb g' x.2)) ++ rest, po.2.2.2.1.map (zq_sb g') ++ C, po.2.2.2.2.1.map (fun x => (zq_sb g' x.1, x.2)) ++ F, po.2.2.2.2.2.1.map (fun x => (zq_sb g' x.1, zq_sb g' x.2.1, zq_sb g' x.2.2)) ++ sto.filter (zq_scf g F M), raw, po.2.2.2.2.2.2.2.1.map (fun x => (x.1, x.2.map (zq_sb g'))) ++ tok.filter (zq_tkc FX g M), n + (po.2.2.2.2.2.2.2.2 - np))
/-- a call: the arguments and memory fit the contract's start; 0 no object in the making goes along, j + 1 the j-th does -/
noncomputable def zq_s6 (M : zq_Ms) (ct : zq_Ct) (S : zq_S) (q : List Nat) : Option (List zq_L × List (Nat × zq_L) × zq_Rw × List Nat) := match S with
  | (loc, stk, C, F, sto, raw, tok, n) => match q with
    | j :: q => match zq_rdG ct.1.2.2.2.2.2.2.2 q with
      | some (g, q) => match (match j with
          | 0 => some (([] : zq_Rw), raw)
          | j + 1 => match raw[j]? with
            | some x => some ([x], raw.eraseIdx j)
            | none => none) with
        | some (sel, raw') => bif zq_mtk g (zq_args ct) (stk.take (zq_args ct).length).reverse && Nat.ble (((stk.drop (zq_args ct).length).map (fun x => bif Nat.beq x.1 1 then 2 else 1)).sum) 8 then (match zq_mtM g ct.1 (loc, stk, C, F, sto, sel, tok, n) q with
          | some q => (match zq_mcv M C g ct.2.2 q with
            | some q => some (g, stk.drop (zq_args ct).length, raw', q)
            | none => none)
          | none => none) else none
        | none => none
      | none => none
    | [] => none
