/-- classes that are made: entry of the pool, class -/
abbrev zq_CLt : Type := List (Nat × Nat)
noncomputable def zq_lk1 (cp : Nat) : List (Nat × Nat) → Option Nat
  | [] => none
  | x :: l => bif Nat.beq x.1 cp then some x.2 else zq_lk1 cp l
theorem zq_lk1_ok {cp o : Nat} : ∀ {l : List (Nat × Nat)}, zq_lk1 cp l = some o → (cp, o) ∈ l
  | [], h => by cases h
  | x :: l, h => by
    unfold zq_lk1 at h
    cases hc : Nat.beq x.1 cp with
    | true =>
      rw [hc] at h
      have e1 := Nat.eq_of_beq_eq_true hc
      have e2 : x.2 = o := Option.some.inj h
      rw [← e1, ← e2]; exact List.mem_cons_self
    | false => rw [hc] at h; exact List.mem_cons_of_mem _ (zq_lk1_ok h)
noncomputable def zq_okCL (own : String) (Ts : List Cond) (cl : List vw_C) (FT : List (List Nat)) (CL : zq_CLt) : Prop := ∀ x ∈ CL, ∃ rc row, cl[x.2]? = some rc ∧ Cond.classLink own x.1 rc.1 ∈ Ts ∧ Cond.instantiable rc.1 rc.2.2 ∈ Ts ∧ Cond.initialized rc.1 ∈ Ts ∧ FT[x.2]? = some row ∧ ∀ c ∈ row, c ≠ 9
/-- 'new': an object in the making -/
noncomputable def zq_s4 (FT : List (List Nat)) (CL : zq_CLt) (i : Instr) (len : Nat) (S : zq_S) : Option (zq_S × Nat) := match S with
  | (loc, stk, C, F, sto, raw, tok, n) => match i with
    | .new cp => bif Nat.beq 3 len then (match zq_lk1 cp CL with
      | some ci => (match FT[ci]? with
        | some row => some ((loc, (2, zq_v n) :: stk, zq_v n :: C, F, sto, (zq_v n, ci, row.map zq_dfv) :: raw, tok, n + 1), row.length)
        | none => none)
      | none => none) else none
    | _ => none
/-- zero fits all types of a kind, and all places below b have one -/
noncomputable def zq_zok (et : Nat) (d : Int) (x : Nat × zq_T) : Bool := Nat.beq x.2.1 et && (decide (x.2.2.1 ≤ d) && (Nat.ble 2 et || decide (d ≤ x.2.2.2.1)))
noncomputable def zq_top (l : List (Nat × zq_T)) : Nat := l.foldl (fun m x => max m x.1) 0
theorem zq_top_ge : ∀ (l : List (Nat × zq_T)) (m : Nat), m ≤ l.foldl (fun m x => max m x.1) m
  | [], m => Nat.le_refl m
  | x :: l, m => Nat.le_trans (Nat.le_max_left m x.1) (zq_top_ge l (max m x.1))
theorem zq_top_ok : ∀ (l : List (Nat × zq_T)) (m s : Nat), m ≤ s → s < l.foldl (fun m x => max m x.1) m → ∃ x ∈ l, zq_seg s l = some x.2
  | [], m, s, h1, h2 => by simp at h2; omega
  | x :: l, m, s, h1, h2 => by
    unfold zq_seg
    cases hc : Nat.blt s x.1 with
    | true => exact ⟨x, List.mem_cons_self, rfl⟩
    | false =>
      have hn : ¬ s < x.1 := fun z => by rw [← zq_blt] at z; rw [z] at hc; cases hc
      obtain ⟨y, hy, he⟩ := zq_top_ok l (max m x.1) s (by omega) h2
      exact ⟨y, List.mem_cons_of_mem _ hy, he⟩
/-- rows of an array's kind at a length -/
noncomputable def zq_rwl (C : List zq_L) (e : zq_L) : List zq_L → List Nat → Option (List Nat)
  | [], q => some q
  | (c0, [(0, 1)]) :: l, q => match zq_prove C (zq_addk e c0) q with
    | some q => zq_rwl C e l q
    | none => none
  | (c0, [(0, -1)]) :: l, q => match zq_prove C (zq_addk (zq_neg e) c0) q with
    | some q => zq_rwl C e l q
    | none => none
  | _ :: _, _ => none
theorem zq_rwl_ok {C : List zq_L} {e : zq_L} {r : Nat → Int} (hC : zq_all r C) {z : Int} (hz : zq_ev r e = z) : ∀ {l : List zq_L} {q q' : List Nat}, zq_rwl C e l q = some q' → ∀ x ∈ l, 0 ≤ zq_ev (fun _ => z) x
  | [], _, _, _, x, hx => by cases hx
  | y :: l, q, q', h, x, hx => by
    unfold zq_rwl at h
    split at h
    · rename_i heq; cases heq
    · rename_i c0 l0 heq
      cases heq
      split at h
      · rename_i q1 hq1
        rcases List.mem_cons.mp hx with rfl | hx
        · have := zq_prove_ok hq1 hC
          rw [zq_ev_addk, hz] at this
          simp only [zq_ev, zq_ts]; omega
        · exact zq_rwl_ok hC hz h x hx
      · cases h
    · rename_i c0 l0 heq
      cases heq
      split at h
      · rename_i q1 hq1
        rcases List.mem_cons.mp hx with rfl | hx
        · have := zq_prove_ok hq1 hC
          rw [zq_ev_addk, zq_ev_neg, hz] at this
          simp only [zq_ev, zq_ts]; omega
        · exact zq_rwl_ok hC hz h x hx
      · cases h
    · cases h
noncomputable def zq_atc : ArrayType → FieldType := newarray.typeOf
noncomputable def zq_alI (AL : List (Nat × Nat)) (i : Instr) (len : Nat) (ty : FieldType) (j : Nat) : Bool := match i with
  | .newarray at_ => decide (zq_atc at_ = ty) && (Nat.beq 2 len && !Nat.beq (zq_fcd ty) 9)
  | .anewarray cp => Nat.beq 3 len && (Nat.beq (zq_ftc ty) 2 && (match zq_lk1 cp AL with
    | some j' => Nat.beq j' j
    | none => false))
  | _ => false
/-- places of a new array whose value is wanted -/
noncomputable def zq_rdm : Nat → List Nat → Option (List Nat × List Nat)
  | 0, q => some ([], q)
  | k + 1, a :: q => match zq_rdm k q with
    | some (l, q') => some (a :: l, q')
    | none => none
  | _ + 1, [] => none
noncomputable def zq_rdn (q : List Nat) : Option (List Nat × List Nat) := match q with
  | c :: q => zq_rdm c q
  | [] => none
noncomputable def zq_dfs (n : Nat) (d : Int) : List Nat → zq_St
  | [] => []
  | i :: l => (zq_v n, zq_k i, zq_k d) :: zq_dfs n d l
theorem zq_dfs_ok {n : Nat} {d : Int} : ∀ {l : List Nat} {x : zq_L × zq_L × zq_L}, x ∈ zq_dfs n d l → ∃ i : Nat, x = (zq_v n, zq_k i, zq_k d)
  | [], _, h => by cases h
  | i :: l, x, h => by
    unfold zq_dfs at h
    rcases List.mem_cons.mp h with rfl | h
    · exact ⟨i, rfl⟩
    · exact zq_dfs_ok h
/-- 'newarray', 'anewarray': kind, a bound of the length -/
noncomputable def zq_s5 (KT : List zq_K) (TY : List FieldType) (FX : zq_FX) (AL : List (Nat × Nat)) (i : Instr) (len : Nat) (S : zq_S) (q : List Nat) : Option (zq_S × Nat × List Nat) := match S with
  | (loc, stk, C, F, sto, raw, tok, n) => match stk, q with
    | (0, e) :: stk', k :: b :: q => (match KT[k]? with
      | some K => (match TY[K.2.1]? with
        | some ty => bif zq_alI AL i len ty K.2.1 && (!Nat.beq K.1 0 && (Nat.beq K.2.2.2.2.2 (zq_dfv (zq_fcd ty)).1 && (K.2.2.2.1.all (zq_zok K.2.2.2.2.2 (zq_dfv (zq_fcd ty)).2.1) && (Nat.ble b 16777216 && Nat.ble (bif Nat.beq K.2.2.1 0 then b else K.2.2.1) (zq_top K.2.2.2.1))))) then (match zq_prove C e q with
          | some q => (match zq_prove C (zq_sub (zq_k b) e) q with
            | some q => (match zq_rwl C e K.2.2.2.2.1 q with
              | some q => (match zq_rdn q with
                | some (is, q) => some ((loc, (2, zq_v n) :: stk', zq_v n :: C, (zq_v n, k) :: F, zq_dfs n (zq_dfv (zq_fcd ty)).2.1 is ++ (zq_v n, zq_k (-1), e) :: sto, raw, tok.filter (zq_tkx FX), n + 1), b, q)
                | none => none)
              | none => none)
            | none => none)
          | none => none) else none
        | none => none)
      | none => none)
    | _, _ => none

noncomputable def zq_okAL (own : String) (Ts : List Cond) (TY : List FieldType) (AL : List (Nat × Nat)) (s : State) : Prop := ∀ x ∈ AL, ∀ C, TY[x.2]? = some (FieldType.object C) → Cond.classLink own x.1 C ∈ Ts ∧ va_AO C s
/-- the words of plain array classes -/
noncomputable def zq_okAK (Ts : List Cond) (TY : List FieldType) : Prop := ∀ ty ∈ TY, zq_ftc ty ≠ 2 → Cond.arrayClass ty ∈ Ts
theorem zq_RA_cls {U : State} {cA : ClassId} {ty : FieldType} (h : va_RA U cA ty) : U.vm.findClass ("[" ++ ty.toString) = some cA := by
  cases ty with
  | object C => obtain ⟨_, _, -, -, -, h4⟩ := h; exact h4
  | _ => exact h
theorem zq_cby (ty : FieldType) : componentBytes ty ≤ 8 := by cases ty <;> simp [componentBytes]
section ZQS4
variable {p : Program} {l : Launch} {e : Env} {R : Room} {s : State} {m : MethodId} {args : Array Value} {below : List Frame} {meth : Method} {c : Code} {H : Heap} {locs : List Loc} {cells slots : Nat} {Q : State → Prop}
variable {cc : ByteArray} {pc : Nat} {ls : Array Slot} {st : List Value} {w : zq_Wd} {nL n0 : Nat} {r r0 : Nat → Int} {P P0 : zq_Ty} {h h0 : zq_H} {H0 : Heap} {R0 : Nat → Prop} {own : String} {Ts : List Cond} {TY : List FieldType} {FT : List (List Nat)} {FN : List (List Bool)} {FX : zq_FX} {M : zq_Ms} {CL : zq_CLt} {AL : List (Nat × Nat)}
set_option maxHeartbeats 4000000 in
theorem zq_s4_ok {i : Instr} {len N : Nat} {S S' : zq_S} (hs : zq_s4 FT CL i len S = some (S', N)) (hM : zq_Mc p s m args c cc own Ts) (hCL : zq_okCL own Ts w.2.1 FT CL) (hCI : zq_okCI Ts w.2.1 FT FN) (hK : va_K w.1 w.2.1 w.2.2.1 s) (G : zq_G w nL r P h H ls st S) (Fr : zq_Fr M r0 P0 h0 H0 R0 P h H locs) (Rn : zq_Rn H0 R0 r S.2.2.2.2.2.1) (hc1 : cells + 1 ≤ R.cells) (hc2 : slots + N ≤ R.slots) (hdg : decode cc pc = .ok (i, len))
    (kk : S.2.2.2.2.2.2.2 ≤ S'.2.2.2.2.2.2.2 → ∀ (r' : Nat → Int) (H' : Heap) (st' : List Value), zq_ext S.2.2.2.2.2.2.2 r r' → (zq_bd S'.2.2.2.2.2.2.2 (zq_v S.2.2.2.2.2.2.2) = true ∧ zq_ev r' (zq_v S.2.2.2.2.2.2.2) = (H.size : Int)) → zq_G w nL r' P h H' ls st' S' → zq_Fr M r0 P0 h0 H0 R0 P h H' locs → zq_Rn H0 R0 r' S'.2.2.2.2.2.1 → W p l e R s m args below meth c H' locs (cells + 1) (slots + N) Q (F0 m (pc + len) ls st')) :
    W p l e R s m args below meth c H locs cells slots Q (F0 m pc ls st) := by
  obtain ⟨hexec, hb, hown, hts⟩ := hM
  obtain ⟨loc, stk, C, F, sto, raw, tok, n⟩ := S
  obtain ⟨hl, hst, oL, oT, Me⟩ := G
  simp only at hl hst oL oT Me kk Rn
  unfold zq_s4 at hs
  simp only at hs
  split at hs
  · rename_i cp
    cases hc : Nat.beq 3 len with
    | false => rw [hc] at hs; cases hs
    | true =>
      rw [hc] at hs
      simp only [cond_true] at hs
      have e1 := Nat.eq_of_beq_eq_true hc
      subst e1
      split at hs
      · rename_i ci hci
        split at hs
        · rename_i row hrow
          cases hs
          obtain ⟨rc, row', hrc, w1, w2, w3, hrow', h9⟩ := hCL _ (zq_lk1_ok hci)
          simp only at hrc hrow'
          have er : row' = row := Option.some.inj (hrow'.symm.trans hrow)
          subst er
          obtain ⟨hin, hnm, ty0, row0, hty0, hrow0, hlen0, hcode0, -⟩ := hCI ci rc hrc
          have er : row0 = row' := Option.some.inj (hrow0.symm.trans hrow)
          subst er
          rw [hlen0] at hc2 kk
          rw [hst]
          refine zq_newR hexec hb hts hin ty0 hty0 hown (hts _ w1) (hts _ w2) (hts _ w3) hK hrc hc1 hc2 hdg fun H1 hO1 hz1 ho1 => ?_
          have hx := zq_up_ext r n (H.size : Int)
          have hn : n ≤ n + 1 := Nat.le_succ n
          have hv : zq_bd (n + 1) (zq_v n) = true := zq_bd_v (Nat.lt_succ_self _)
          have ev : zq_ev (zq_up r n (H.size : Int)) (zq_v n) = (H.size : Int) := by rw [zq_ev_v, zq_up_self]
          have M1 := (Me.ext hn hx)
          have hPn : P H.size = none := by
            cases hp : P H.size with
            | none => rfl
            | some k => have := Me.1.lt hp; omega
          have hdf : ∀ y ∈ row0.map zq_dfv, zq_bd (n + 1) y.2 = true ∧ zq_rg y.1 (zq_ev (zq_up r n (H.size : Int)) y.2) := by
            intro y hy
            obtain ⟨cd, -, rfl⟩ := List.mem_map.mp hy
            unfold zq_dfv
            split
            · exact ⟨zq_bd_k, by show zq_in 1 (zq_ev _ (zq_k 0)); rw [zq_ev_k]; exact ⟨by decide, by decide⟩⟩
            · exact ⟨zq_bd_k, by show -1 ≤ zq_ev _ (zq_k (-1)); rw [zq_ev_k]; decide⟩
            · exact ⟨zq_bd_k, by show zq_in 0 (zq_ev _ (zq_k 0)); rw [zq_ev_k]; exact ⟨by decide, by decide⟩⟩
          refine kk hn _ H1 _ hx ⟨hv, ev⟩ (zq_push2 (t := 2) hl oL oT hn hx hv ev (by show -1 ≤ (H.size : Int); omega) ⟨?_, ?_, M1.2.2.1, M1.2.2.2.1, ⟨?_, ?_⟩, M1.2.2.2.2.2⟩) (Fr.grow (by omega) (fun b hb => ho1 b (Nat.ne_of_lt hb))) ?_
          · intro b k hb'
            obtain ⟨K, y1, y2, y3⟩ := Me.1 b k hb'
            exact ⟨K, y1, y2.kept (ho1 b (Nat.ne_of_lt y2.lt)), y3⟩
          · exact ⟨fun x hx' => by
              rcases List.mem_cons.mp hx' with rfl | hx'
              · rw [ev]; omega
              · exact M1.2.1.1 x hx', fun x hx' => by
              rcases List.mem_cons.mp hx' with rfl | hx'
              · exact hv
              · exact M1.2.1.2 x hx'⟩
          · intro x hx'
            rcases List.mem_cons.mp hx' with rfl | hx'
            · refine ⟨H.size, hv, hdf, ev, hPn, ?_⟩
              intro k y hy
              match k, hy with
              | 0, hy =>
                cases hy
                refine ⟨rc, hrc, hO1.to fun i hi => ?_⟩
                have hco := hcode0 i hi
                simp only [vp_V]
                rw [List.getD_eq_getElem?_getD, List.getElem?_map, List.getElem?_map, hco]
                exact zq_dfv_ok (h9 _ (List.mem_of_getElem? hco)) _
            · obtain ⟨b, hb'⟩ := M1.2.2.2.2.1.1 x hx'
              have hlt := zq_raw_lt hb'
              obtain ⟨y1, y2, y3, y4, y5⟩ := hb'
              refine ⟨b, y1, y2, y3, y4, y5.kept fun k' y hy => ?_⟩
              match k', hy with
              | 0, hy => cases hy; exact ho1 b (Nat.ne_of_lt hlt)
          · refine List.pairwise_cons.mpr ⟨fun x hx' => ?_, M1.2.2.2.2.1.2⟩
            obtain ⟨b, hb'⟩ := M1.2.2.2.2.1.1 x hx'
            have hlt := zq_raw_lt hb'
            show zq_ev _ (zq_v n) ≠ _
            rw [ev, hb'.2.2.1]; omega
          · intro x hx' b hb'
            rcases List.mem_cons.mp hx' with rfl | hx'
            · have hb' : zq_ev (zq_up r n (H.size : Int)) (zq_v n) = (b : Int) := hb'
              rw [ev] at hb'
              exact Or.inl (by have := Fr.1.1; omega)
            · obtain ⟨d, hd⟩ := Me.2.2.2.2.1.1 x hx'
              exact Rn x hx' b (by rw [← zq_ev_ext hx hd.1]; exact hb')
        · cases hs
      · cases hs
  · cases hs
end ZQS4
