/-! a copy of the first N numbers, with a token that says so -/
theorem zj_EN_fx {N kd ks : Nat} {P P' : zq_Ty} {h h' : zq_H} {r : Nat → Int} (hP : zq_le P P') (h1 : ∀ j, 0 ≤ j → j < (N : Int) → P (r 0).toNat = some kd → h' (r 0).toNat j = h (r 0).toNat j) (h2 : ∀ j, 0 ≤ j → j < (N : Int) → P (r 1).toNat = some ks → h' (r 1).toNat j = h (r 1).toNat j) (ht : zj_EN N kd ks r P h) : zj_EN N kd ks r P' h' := by
  obtain ⟨a1, a2, a3, a4, a5⟩ := ht
  refine ⟨a1, hP _ _ a2, a3, hP _ _ a4, fun j x y => ?_⟩
  rw [h1 j x y a2, h2 j x y a4]; exact a5 j x y
noncomputable def zq_cpn (k1 k2 id N : Nat) : zq_Ct := (([(0, 2, zq_v 0), (1, 0, zq_k 0), (2, 2, zq_v 1), (3, 0, zq_k 0), (4, 0, zq_v 2)], [], [zq_v 0, zq_v 1, zq_v 2, zq_sub (zq_v 3) (zq_v 2), zq_sub (zq_v 4) (zq_v 2), zq_addk (zq_v 2) (-(N : Int))], [(zq_v 0, k1), (zq_v 1, k2)], [(zq_v 0, zq_k (-1), zq_v 3), (zq_v 1, zq_k (-1), zq_v 4)], [], [], 5), [([], ([], [], [], [], [], [], [(id, [zq_v 1, zq_v 0])], 5))], [(k2, zq_k 0, zq_addk (zq_v 2) (-1))])
set_option maxHeartbeats 4000000 in
theorem zq_copyN {FC : zq_FC} {w : zq_Wd} {p : Program} {l : Launch} {e : Env} {R : Room} {s : State} {m : MethodId} {args : Array Value} {below : List Frame} {meth : Method} {c : Code} {Q : State → Prop} {cc : ByteArray} {nL cp k1 k2 id N : Nat} {own : String} {Ts : List Cond} {TY : List FieldType} (hMc : zq_Mc p s m args c cc own Ts) (hml : c.maxLocals = nL) (hK : va_K w.1 w.2.1 w.2.2.1 s) (hTY : w.2.2.1.map Prod.snd = TY) (hk : zq_cpq w.2.2.2.1 TY k1 k2 = true) (hX : zj_is w id (zj_EN N k2 k1))
    (hl : Cond.methodLink own cp arraycopyName ∈ Ts) (hn : Cond.native arraycopyName ∈ Ts) (hst : Cond.static arraycopyName ∈ Ts) (hi : Cond.initialized "java/lang/System" ∈ Ts) (hR : 1 ≤ R.frames ∧ 8 + (nativeFrameWords "java/lang/System" "arraycopy" 5 + 11) ≤ R.locals) :
    zq_CallW FC w p l e R s m args below meth c Q cc nL (.invokestatic cp) (zq_cpn k1 k2 id N) 0 0 := by
  intro r P h H locs cells slots pc ls rest hoA hMe _ hcat hls hc1 hc2 hdg kk
  obtain ⟨hexec, hb, hown, hts⟩ := hMc
  obtain ⟨hT, hC, hF, hS, -, -⟩ := hMe
  have c0 := hC.1
  have a0 := zq_all_1 c0
  have c0 := zq_all_t c0
  have a1 := zq_all_1 c0
  have c0 := zq_all_t c0
  have a2 := zq_all_1 c0
  have c0 := zq_all_t c0
  have a3 := zq_all_1 c0
  have c0 := zq_all_t c0
  have a4 := zq_all_1 c0
  have c0 := zq_all_t c0
  have a5 := zq_all_1 c0
  have b0 := zq_okF_1 hF a0
  have b1 := zq_okF_1 (zq_okF_t hF) a1
  obtain ⟨-, -, s0⟩ := zq_okS_1 hS
  obtain ⟨-, -, s1⟩ := zq_okS_1 (zq_okS_t hS)
  simp only [zq_ev_v, zq_ev_sub, zq_ev_k, zq_ev_addk] at a0 a1 a2 a3 a4 a5 b0 b1 s0 s1
  have hrg : zq_in 0 (r 2) := by
    have := (hoA (0, zq_v 2) (by show (0, zq_v 2) ∈ [(2, zq_v 0), (0, zq_k 0), (2, zq_v 1), (0, zq_k 0), (0, zq_v 2)]; simp)).2
    rw [zq_ev_v] at this; exact this
  obtain ⟨K1, g1, cell1, len1, ty1, -⟩ := hT _ _ b0
  obtain ⟨K2, g2, cell2, len2, ty2, rows2⟩ := hT _ _ b1
  unfold zq_cpq at hk
  rw [g1, g2] at hk
  simp only [Bool.and_eq_true, Bool.not_eq_true', decide_eq_true_eq] at hk
  obtain ⟨n1, n2, t1, t2, e1, e2, e3, e4⟩ := hk
  have n1 : K1.1 ≠ 0 := fun z => by rw [z] at n1; cases n1
  have n2 : K2.1 ≠ 0 := fun z => by rw [z] at n2; cases n2
  have e1 := Nat.eq_of_beq_eq_true e1
  have e2 := Nat.eq_of_beq_eq_true e2
  have e3 := Nat.eq_of_beq_eq_true e3
  have cellOf : ∀ (K : zq_K) (a : Nat), K.1 ≠ 0 → K.2.2.2.2.2 = 0 → TY[K.2.1]? = some .int → zq_cell w K (h a) a H → ∃ cA, ArrOfT s cA .int ∧ w.2.2.1[K.2.1]? = some (cA, .int) ∧ H[a]? = some (vp_cell cA ((h a (-1)).toNat, .inl (fun i => Int32.ofInt (h a i)))) := by
    intro K a z1 z2 z3 z4
    unfold zq_cell at z4
    split at z4
    · rename_i z0; exact absurd z0 z1
    · obtain ⟨cA, ty, q1, q2⟩ := z4
      have : ty = .int := by
        rw [← hTY, List.getElem?_map, q1] at z3
        exact Option.some.inj z3
      subst this
      refine ⟨cA, (hK.2 _ _ q1).1, q1, ?_⟩
      rw [q2, z2]; rfl
  obtain ⟨cA0, hA0, -, hH0⟩ := cellOf K1 _ n1 e1 t1 cell1
  obtain ⟨cA1, hA1, hw1, hH1⟩ := cellOf K2 _ n2 e2 t2 cell2
  have l1 := len1 n1
  have l2 := len2 n2
  rw [s0] at hH0
  rw [s1] at hH1
  have z0 : (Int32.ofInt 0).toNatClampNeg = 0 := rfl
  obtain ⟨zn, zn'⟩ := zq_len hrg a2
  have hst0 : (zq_sts r (zq_args (zq_cpn k1 k2 id N))).reverse ++ rest = .int (Int32.ofInt (r 2)) :: .int (Int32.ofInt 0) :: .ref (r 1).toNat :: .int (Int32.ofInt 0) :: .ref (r 0).toNat :: rest := by
    have r0 : zq_val 2 (r 0) = .ref (r 0).toNat := by
      rw [← zq_val_of (t := 2) (a := (r 0).toNat) (Nat.le_refl 2), Int.toNat_of_nonneg a0]
    have r1 : zq_val 2 (r 1) = .ref (r 1).toNat := by
      rw [← zq_val_of (t := 2) (a := (r 1).toNat) (Nat.le_refl 2), Int.toNat_of_nonneg a1]
    show [zq_val 0 (zq_ev r (zq_v 2)), zq_val 0 (zq_ev r (zq_k 0)), zq_val 2 (zq_ev r (zq_v 1)), zq_val 0 (zq_ev r (zq_k 0)), zq_val 2 (zq_ev r (zq_v 0))] ++ rest = _
    rw [zq_ev_v, zq_ev_v, zq_ev_v, zq_ev_k, r0, r1]; rfl
  rw [hst0]
  refine zq_copyi hexec hb (by rw [hml, hls]) hown (hts _ hl) (hts _ hn) (hts _ hst) (hts _ hi) hA0 hA1 hH0 hH1 (by decide) (by decide) zn (by rw [z0, zn']; omega) (by rw [z0, zn']; omega) hR.1 (by have := hR.2; omega) hdg ?_
  intro H1 L k1' k2' k3' k4'
  let h' := zq_hc h (r 0).toNat (r 1).toNat (r 2)
  have hlen : ∀ b, h' b (-1) = h b (-1) := fun b => zq_hc_len
  have hHT : zq_HT w P h' H1 := by
    intro b k hbk
    by_cases hba : b = (r 1).toNat
    · subst hba
      have ek : k = k2 := Option.some.inj (hbk.symm.trans b1)
      subst ek
      refine ⟨K2, g2, ?_, fun _ => by rw [hlen]; exact l2, ?_, ?_⟩
      · unfold zq_cell
        split
        · rename_i z; exact absurd z n2
        · refine ⟨cA1, .int, hw1, ?_⟩
          rw [k1', hlen, s1, e2, z0, zn']
          show some (arrV cA1 (r 4).toNat (fun j => .int (va_cpy (fun i : Nat => Int32.ofInt (h (r 0).toNat i)) (fun i : Nat => Int32.ofInt (h (r 1).toNat i)) 0 0 (r 2).toNat j))) = _
          congr 2
          funext j
          show _ = Value.int (Int32.ofInt (zq_hc h (r 0).toNat (r 1).toNat (r 2) (r 1).toNat j))
          unfold zq_hc va_cpy
          by_cases hj : (j : Int) < r 2
          · rw [if_pos ⟨by omega, by omega⟩, if_pos ⟨rfl, by omega, hj⟩, show 0 + (j - 0) = j by omega]
          · rw [if_neg (by omega), if_neg (by rintro ⟨-, -, z⟩; exact hj z)]
      · intro i hi
        have hsz : zq_size w K2 (h' (r 1).toNat) = zq_size w K2 (h (r 1).toNat) := by
          unfold zq_size
          split
          · rfl
          · exact hlen _
        rw [hsz] at hi
        obtain ⟨T, q1, q2⟩ := ty2 i hi
        refine ⟨T, q1, ?_⟩
        show zq_tok P T (zq_hc h (r 0).toNat (r 1).toNat (r 2) (r 1).toNat i)
        unfold zq_hc
        by_cases hj : (i : Int) < r 2
        · rw [if_pos ⟨rfl, by omega, hj⟩]
          have hsz1 : zq_size w K1 (h (r 0).toNat) = r 3 := by
            unfold zq_size
            split
            · rename_i z; exact absurd z n1
            · exact s0
          obtain ⟨T', q1', q2'⟩ := ty1 i (by rw [hsz1]; omega)
          have eT : T' = T := by
            unfold zq_sty at q1 q1'
            rw [e3, e4] at q1'
            exact Option.some.inj (q1'.symm.trans q1)
          rw [eT] at q2'
          exact q2'
        · rw [if_neg (by rintro ⟨-, -, z⟩; exact hj z)]
          exact q2
      · have er : zq_re w K2 h' (r 1).toNat = zq_re w K2 h (r 1).toNat := by
          unfold zq_re
          split
          · rename_i z; exact absurd z n2
          · funext _; exact hlen _
        rw [er]; exact rows2
    · obtain ⟨K, q1, q2, q3, q4, q5⟩ := hT b k hbk
      have eh : h' b = h b := zq_hc_ne hba
      refine ⟨K, q1, ?_, ?_, ?_, ?_⟩
      · rw [eh]; exact q2.kept (k3' b hba)
      · rw [eh]; exact q3
      · rw [eh]; exact q4
      · have er : zq_re w K h' b = zq_re w K h b := by
          unfold zq_re
          split
          · funext j; simp only [eh, hlen]
          · funext _; rw [eh]
        rw [er]; exact q5
  have htok : zq_okX w r P h' 5 [(id, [zq_v 1, zq_v 0])] := by
    refine zq_fa1 ⟨fun e he => ?_, (hX _ _ _).mpr ?_⟩
    · rcases List.mem_cons.mp he with rfl | he
      · rfl
      · rw [List.mem_singleton.mp he]; rfl
    · show zj_EN N k2 k1 (zq_en [zq_ev r (zq_v 1), zq_ev r (zq_v 0)]) P h'
      rw [zq_ev_v, zq_ev_v]
      refine ⟨a1, b1, a0, b0, fun j x y => ?_⟩
      show zq_hc h (r 0).toNat (r 1).toNat (r 2) (r 1).toNat j = zq_hc h (r 0).toNat (r 1).toNat (r 2) (r 0).toNat j
      unfold zq_hc
      rw [if_pos ⟨rfl, x, by omega⟩]
      split <;> rfl
  have hPm : ∃ x ∈ (zq_cpn k1 k2 id N).2.2, x.1 = k2 := ⟨_, List.mem_singleton.mpr rfl, rfl⟩
  have hfr := kk _ (List.mem_singleton.mpr rfl) r P h' H1 L (fun _ _ => rfl) (fun x hx => by cases hx) ⟨hHT, ⟨zq_all_nil, fun c hc => by cases hc⟩, zq_okF_nil, zq_okS_nil, zq_okR_nil, htok⟩ ⟨by rw [k2']; exact Nat.le_refl _, fun q _ hq => ?_, fun _ _ z => z, fun a k j ha hn => ?_, fun _ _ z => Or.inl z⟩ (fun q hq => ?_)
  · exact hfr
  · refine k3' q fun z => hq (Or.inl ⟨k2, by rw [z]; exact b1, hPm⟩)
  · show zq_hc h (r 0).toNat (r 1).toNat (r 2) a j = h a j
    unfold zq_hc
    refine if_neg ?_
    rintro ⟨z1, z2, z3⟩
    subst z1
    have ek : k = k2 := Option.some.inj (ha.symm.trans b1)
    subst ek
    refine hn ⟨z2, _, List.mem_singleton.mpr rfl, rfl, ?_, ?_⟩
    · show zq_ev r (zq_k 0) ≤ j; rw [zq_ev_k]; exact z2
    · show j ≤ zq_ev r (zq_addk (zq_v 2) (-1)); rw [zq_ev_addk, zq_ev_v]; omega
  · refine Or.inl ⟨k2, ?_, hPm⟩
    rw [k4' q hq]; exact b1
/-- a place of a copy -/
noncomputable def zj_Ev (id N : Nat) : zq_S × List zq_S := (([], [], [zq_v 2, zq_sub (zq_k ((N : Int) - 1)) (zq_v 2)], [], [(zq_v 1, zq_v 2, zq_v 3)], [], [(id, [zq_v 0, zq_v 1])], 4), [([], [], [], [], [(zq_v 0, zq_v 2, zq_v 3)], [], [], 4)])
theorem zj_Ev_ok {w : zq_Wd} {id N kd ks : Nat} (hX : zj_is w id (zj_EN N kd ks)) : zq_okG1 w (zj_Ev id N) := by
  refine ⟨rfl, rfl, zq_fa1 ⟨rfl, Nat.le_refl _⟩, ?_⟩
  intro r P h H hM
  obtain ⟨hT, hC, -, hS, -, hK⟩ := hM
  have a1 := zq_all_1 hC.1
  have a2 := zq_all_1 (zq_all_t hC.1)
  obtain ⟨-, -, s1⟩ := zq_okS_1 hS
  have k0 : zj_EN N kd ks (zq_en [zq_ev r (zq_v 0), zq_ev r (zq_v 1)]) P h := zj_use hX hK
  simp only [zq_ev_v, zq_ev_sub, zq_ev_k] at a1 a2 s1 k0
  obtain ⟨k1, k2, k3, k4, k5⟩ := k0
  have k1 : 0 ≤ r 0 := k1
  have k2 : P (r 0).toNat = some kd := k2
  have k5 : ∀ j, 0 ≤ j → j < (N : Int) → h (r 0).toNat j = h (r 1).toNat j := k5
  refine ⟨_, List.mem_singleton.mpr rfl, r, fun _ _ => rfl, zq_MeS_mk rfl hT zq_all_nil zq_fan (zq_fa1 ⟨(r 0).toNat, ?_, by rw [k2]; exact Option.some_ne_none _, ?_⟩) rfl zq_fan⟩
  · show zq_ev r (zq_v 0) = _; rw [zq_ev_v]; omega
  · show h _ (zq_ev r (zq_v 2)) = zq_ev r (zq_v 3)
    rw [zq_ev_v, zq_ev_v, k5 _ a1 (by omega), s1]
/-- the journal's token, of a copy: arrays 0 .. 4 from 5 .. 9 -/
noncomputable def zg_cp (ids idd e0 e1 e2 e3 e4 : Nat) : zq_S × List zq_S := (([], [], [], [], [], [], [(ids, [zq_v 5, zq_v 6, zq_v 7, zq_v 8, zq_v 9, zq_v 10, zq_v 10, zq_v 11, zq_k 6, zq_k 0, zq_k 7, zq_k 0]), (e0, [zq_v 0, zq_v 5]), (e1, [zq_v 1, zq_v 6]), (e2, [zq_v 2, zq_v 7]), (e3, [zq_v 3, zq_v 8]), (e4, [zq_v 4, zq_v 9])], 12), [([], [], [], [], [], [], [zg_n idd (zq_v 10) (zq_v 11)], 12)])
theorem zg_cp_ok {w : zq_Wd} {ids idd e0 e1 e2 e3 e4 s0 s1 s2 s3 s4 d0 d1 d2 d3 d4 : Nat} (hX : zj_is w ids (zg_J s0 s1 s2 s3 s4)) (hY : zj_is w idd (zg_J d0 d1 d2 d3 d4)) (h0 : zj_is w e0 (zj_EN 16 d0 s0)) (h1 : zj_is w e1 (zj_EN 16 d1 s1)) (h2 : zj_is w e2 (zj_EN 16 d2 s2)) (h3 : zj_is w e3 (zj_EN 16 d3 s3)) (h4 : zj_is w e4 (zj_EN 6 d4 s4)) : zq_okG1 w (zg_cp ids idd e0 e1 e2 e3 e4) := by
  refine ⟨rfl, rfl, zq_fa1 ⟨rfl, Nat.le_refl _⟩, ?_⟩
  intro r P h H hM
  obtain ⟨hT, hC, -, hS, -, hK⟩ := hM
  have k0 : zg_J s0 s1 s2 s3 s4 (zq_en [zq_ev r (zq_v 5), zq_ev r (zq_v 6), zq_ev r (zq_v 7), zq_ev r (zq_v 8), zq_ev r (zq_v 9), zq_ev r (zq_v 10), zq_ev r (zq_v 10), zq_ev r (zq_v 11), zq_ev r (zq_k 6), zq_ev r (zq_k 0), zq_ev r (zq_k 7), zq_ev r (zq_k 0)]) P h := zj_use hX hK
  have hK := zq_okX_t hK
  have m0 : zj_EN 16 d0 s0 (zq_en [zq_ev r (zq_v 0), zq_ev r (zq_v 5)]) P h := zj_use h0 hK
  have hK := zq_okX_t hK
  have m1 : zj_EN 16 d1 s1 (zq_en [zq_ev r (zq_v 1), zq_ev r (zq_v 6)]) P h := zj_use h1 hK
  have hK := zq_okX_t hK
  have m2 : zj_EN 16 d2 s2 (zq_en [zq_ev r (zq_v 2), zq_ev r (zq_v 7)]) P h := zj_use h2 hK
  have hK := zq_okX_t hK
  have m3 : zj_EN 16 d3 s3 (zq_en [zq_ev r (zq_v 3), zq_ev r (zq_v 8)]) P h := zj_use h3 hK
  have hK := zq_okX_t hK
  have m4 : zj_EN 6 d4 s4 (zq_en [zq_ev r (zq_v 4), zq_ev r (zq_v 9)]) P h := zj_use h4 hK
  simp only [zq_ev_v, zq_ev_k] at k0 m0 m1 m2 m3 m4
  obtain ⟨-, -, -, -, -, q5, q6, q7, q8, q9, q10⟩ := k0
  obtain ⟨a0, b0, -, -, c0⟩ := m0
  obtain ⟨a1, b1, -, -, c1⟩ := m1
  obtain ⟨a2, b2, -, -, c2⟩ := m2
  obtain ⟨a3, b3, -, -, c3⟩ := m3
  obtain ⟨a4, b4, -, -, c4⟩ := m4
  have q5 : 0 ≤ r 10 := q5
  have q6 : r 10 ≤ 16 := q6
  have c0 : ∀ j, 0 ≤ j → j < 16 → h (r 0).toNat j = h (r 5).toNat j := c0
  have c1 : ∀ j, 0 ≤ j → j < 16 → h (r 1).toNat j = h (r 6).toNat j := c1
  have c2 : ∀ j, 0 ≤ j → j < 16 → h (r 2).toNat j = h (r 7).toNat j := c2
  have c3 : ∀ j, 0 ≤ j → j < 16 → h (r 3).toNat j = h (r 8).toNat j := c3
  have c4 : ∀ j, 0 ≤ j → j < 6 → h (r 4).toNat j = h (r 9).toNat j := c4
  have q10 : zg_un (zg_row (h (r 5).toNat) (h (r 6).toNat) (h (r 7).toNat) (h (r 8).toNat) (r 10)) (r 10).toNat (zg_ov (h (r 9).toNat) 6 0 7 0) (r 11) := q10
  refine ⟨_, List.mem_singleton.mpr rfl, r, fun _ _ => rfl, zq_MeS_mk rfl hT zq_all_nil zq_fan zq_fan rfl (zg_mk hY ⟨⟨a0, b0⟩, ⟨a1, b1⟩, ⟨a2, b2⟩, ⟨a3, b3⟩, ⟨a4, b4⟩⟩ ?_ ?_ ?_ ?_ ?_ ?_)⟩ <;> simp only [zq_ev_v, zq_ev_k]
  · exact q5
  · exact q6
  · exact q5
  · exact Int.le_refl _
  · omega
  · refine zg_cong (fun j x y => ?_) (fun q x y => ?_) q10
    · rw [zg_row_lt (by omega), zg_row_lt (by omega), c0 _ (by omega) (by omega), c1 _ (by omega) (by omega), c2 _ (by omega) (by omega), c3 _ (by omega) (by omega)]
    · rw [zg_ov_out y, zg_ov_out y, c4 q x (by omega)]
