/-! behind a bound: a copy; what zX says of bounds -/
noncomputable def zq_cpl (k1 k2 id N : Nat) : zq_Ct := (([(0, 2, zq_v 0), (1, 0, zq_k 0), (2, 2, zq_v 1), (3, 0, zq_k 0), (4, 0, zq_v 2)], [], [zq_v 0, zq_v 1, zq_v 2, zq_sub (zq_v 3) (zq_v 2), zq_sub (zq_v 4) (zq_v 2), zq_sub (zq_v 1) (zq_v 5), zq_sub (zq_k (N : Int)) (zq_v 2)], [(zq_v 0, k1), (zq_v 1, k2)], [(zq_v 0, zq_k (-1), zq_v 3), (zq_v 1, zq_k (-1), zq_v 4)], [], [(364, [zq_v 6, zq_v 7, zq_v 8, zq_v 5]), (366, [zq_v 9, zq_v 10, zq_v 11, zq_v 5]), (367, [zq_v 12, zq_v 13, zq_v 14, zq_v 5])], 15), [([], ([], [], [], [], [], [], [(id, [zq_v 1, zq_v 0, zq_v 2]), (364, [zq_v 6, zq_v 7, zq_v 8, zq_v 5]), (366, [zq_v 9, zq_v 10, zq_v 11, zq_v 5]), (367, [zq_v 12, zq_v 13, zq_v 14, zq_v 5])], 15))], [(k2, zq_k 0, zq_addk (zq_v 2) (-1))])
set_option maxHeartbeats 4000000 in
theorem zq_copyL {FC : zq_FC} {w : zq_Wd} {p : Program} {l : Launch} {e : Env} {R : Room} {s : State} {m : MethodId} {args : Array Value} {below : List Frame} {meth : Method} {c : Code} {Q : State → Prop} {cc : ByteArray} {nL cp k1 k2 id N : Nat} {own : String} {Ts : List Cond} {TY : List FieldType} (hMc : zq_Mc p s m args c cc own Ts) (hml : c.maxLocals = nL) (hK : va_K w.1 w.2.1 w.2.2.1 s) (hTY : w.2.2.1.map Prod.snd = TY) (hk : zq_cpq w.2.2.2.1 TY k1 k2 = true) (hX : zj_is w id (fun r => zo_CB N k2 k1 (r 0) (r 1) (r 2))) (hB0 : zj_is w 364 (fun r => zt_LTB 35 (r 0) (r 1) (r 2) (r 3))) (hB2 : zj_is w 366 (fun r => zt_LTB 65 (r 0) (r 1) (r 2) (r 3))) (hB3 : zj_is w 367 (fun r => zt_LTB 80 (r 0) (r 1) (r 2) (r 3)))
    (hl : Cond.methodLink own cp arraycopyName ∈ Ts) (hn : Cond.native arraycopyName ∈ Ts) (hst : Cond.static arraycopyName ∈ Ts) (hi : Cond.initialized "java/lang/System" ∈ Ts) (hR : 1 ≤ R.frames ∧ 8 + (nativeFrameWords "java/lang/System" "arraycopy" 5 + 11) ≤ R.locals) :
    zq_CallW FC w p l e R s m args below meth c Q cc nL (.invokestatic cp) (zq_cpl k1 k2 id N) 0 0 := by
  intro r P h H locs cells slots pc ls rest hoA hMe _ hcat hls hc1 hc2 hdg kk
  obtain ⟨hexec, hb, hown, hts⟩ := hMc
  obtain ⟨hT, hC, hF, hS, -, hK0⟩ := hMe
  have c0 := hC.1
  have a0 := zq_all_1 c0
  have c0 := zq_all_t c0
  have a1 := zq_all_1 c0
  have c0 := zq_all_t c0
  have a2 := zq_all_1 c0
  have c0 := zq_all_t c0
  have a3 := zq_all_1 c0
  have c0 := zq_all_t c0
  have a4 := zq_all_1 c0
  have c0 := zq_all_t c0
  have a5 := zq_all_1 c0
  have c0 := zq_all_t c0
  have a6 := zq_all_1 c0
  have b0 := zq_okF_1 hF a0
  have b1 := zq_okF_1 (zq_okF_t hF) a1
  obtain ⟨-, -, s0⟩ := zq_okS_1 hS
  obtain ⟨-, -, s1⟩ := zq_okS_1 (zq_okS_t hS)
  simp only [zq_ev_v, zq_ev_sub, zq_ev_k, zq_ev_addk] at a0 a1 a2 a3 a4 a5 a6 b0 b1 s0 s1
  have hrg : zq_in 0 (r 2) := by
    have := (hoA (0, zq_v 2) (by show (0, zq_v 2) ∈ [(2, zq_v 0), (0, zq_k 0), (2, zq_v 1), (0, zq_k 0), (0, zq_v 2)]; simp)).2
    rw [zq_ev_v] at this; exact this
  obtain ⟨K1, g1, cell1, len1, ty1, -⟩ := hT _ _ b0
  obtain ⟨K2, g2, cell2, len2, ty2, rows2⟩ := hT _ _ b1
  unfold zq_cpq at hk
  rw [g1, g2] at hk
  simp only [Bool.and_eq_true, Bool.not_eq_true', decide_eq_true_eq] at hk
  obtain ⟨n1, n2, t1, t2, e1, e2, e3, e4⟩ := hk
  have n1 : K1.1 ≠ 0 := fun z => by rw [z] at n1; cases n1
  have n2 : K2.1 ≠ 0 := fun z => by rw [z] at n2; cases n2
  have e1 := Nat.eq_of_beq_eq_true e1
  have e2 := Nat.eq_of_beq_eq_true e2
  have e3 := Nat.eq_of_beq_eq_true e3
  have cellOf : ∀ (K : zq_K) (a : Nat), K.1 ≠ 0 → K.2.2.2.2.2 = 0 → TY[K.2.1]? = some .int → zq_cell w K (h a) a H → ∃ cA, ArrOfT s cA .int ∧ w.2.2.1[K.2.1]? = some (cA, .int) ∧ H[a]? = some (vp_cell cA ((h a (-1)).toNat, .inl (fun i => Int32.ofInt (h a i)))) := by
    intro K a z1 z2 z3 z4
    unfold zq_cell at z4
    split at z4
    · rename_i z0; exact absurd z0 z1
    · obtain ⟨cA, ty, q1, q2⟩ := z4
      have : ty = .int := by
        rw [← hTY, List.getElem?_map, q1] at z3
        exact Option.some.inj z3
      subst this
      refine ⟨cA, (hK.2 _ _ q1).1, q1, ?_⟩
      rw [q2, z2]; rfl
  obtain ⟨cA0, hA0, -, hH0⟩ := cellOf K1 _ n1 e1 t1 cell1
  obtain ⟨cA1, hA1, hw1, hH1⟩ := cellOf K2 _ n2 e2 t2 cell2
  have l1 := len1 n1
  have l2 := len2 n2
  rw [s0] at hH0
  rw [s1] at hH1
  have z0 : (Int32.ofInt 0).toNatClampNeg = 0 := rfl
  obtain ⟨zn, zn'⟩ := zq_len hrg a2
  have hst0 : (zq_sts r (zq_args (zq_cpl k1 k2 id N))).reverse ++ rest = .int (Int32.ofInt (r 2)) :: .int (Int32.ofInt 0) :: .ref (r 1).toNat :: .int (Int32.ofInt 0) :: .ref (r 0).toNat :: rest := by
    have r0 : zq_val 2 (r 0) = .ref (r 0).toNat := by
      rw [← zq_val_of (t := 2) (a := (r 0).toNat) (Nat.le_refl 2), Int.toNat_of_nonneg a0]
    have r1 : zq_val 2 (r 1) = .ref (r 1).toNat := by
      rw [← zq_val_of (t := 2) (a := (r 1).toNat) (Nat.le_refl 2), Int.toNat_of_nonneg a1]
    show [zq_val 0 (zq_ev r (zq_v 2)), zq_val 0 (zq_ev r (zq_k 0)), zq_val 2 (zq_ev r (zq_v 1)), zq_val 0 (zq_ev r (zq_k 0)), zq_val 2 (zq_ev r (zq_v 0))] ++ rest = _
    rw [zq_ev_v, zq_ev_v, zq_ev_v, zq_ev_k, r0, r1]; rfl
  rw [hst0]
  refine zq_copyi hexec hb (by rw [hml, hls]) hown (hts _ hl) (hts _ hn) (hts _ hst) (hts _ hi) hA0 hA1 hH0 hH1 (by decide) (by decide) zn (by rw [z0, zn']; omega) (by rw [z0, zn']; omega) hR.1 (by have := hR.2; omega) hdg ?_
  intro H1 L k1' k2' k3' k4'
  let h' := zq_hc h (r 0).toNat (r 1).toNat (r 2)
  have hlen : ∀ b, h' b (-1) = h b (-1) := fun b => zq_hc_len
  have hHT : zq_HT w P h' H1 := by
    intro b k hbk
    by_cases hba : b = (r 1).toNat
    · subst hba
      have ek : k = k2 := Option.some.inj (hbk.symm.trans b1)
      subst ek
      refine ⟨K2, g2, ?_, fun _ => by rw [hlen]; exact l2, ?_, ?_⟩
      · unfold zq_cell
        split
        · rename_i z; exact absurd z n2
        · refine ⟨cA1, .int, hw1, ?_⟩
          rw [k1', hlen, s1, e2, z0, zn']
          show some (arrV cA1 (r 4).toNat (fun j => .int (va_cpy (fun i : Nat => Int32.ofInt (h (r 0).toNat i)) (fun i : Nat => Int32.ofInt (h (r 1).toNat i)) 0 0 (r 2).toNat j))) = _
          congr 2
          funext j
          show _ = Value.int (Int32.ofInt (zq_hc h (r 0).toNat (r 1).toNat (r 2) (r 1).toNat j))
          unfold zq_hc va_cpy
          by_cases hj : (j : Int) < r 2
          · rw [if_pos ⟨by omega, by omega⟩, if_pos ⟨rfl, by omega, hj⟩, show 0 + (j - 0) = j by omega]
          · rw [if_neg (by omega), if_neg (by rintro ⟨-, -, z⟩; exact hj z)]
      · intro i hi
        have hsz : zq_size w K2 (h' (r 1).toNat) = zq_size w K2 (h (r 1).toNat) := by
          unfold zq_size
          split
          · rfl
          · exact hlen _
        rw [hsz] at hi
        obtain ⟨T, q1, q2⟩ := ty2 i hi
        refine ⟨T, q1, ?_⟩
        show zq_tok P T (zq_hc h (r 0).toNat (r 1).toNat (r 2) (r 1).toNat i)
        unfold zq_hc
        by_cases hj : (i : Int) < r 2
        · rw [if_pos ⟨rfl, by omega, hj⟩]
          have hsz1 : zq_size w K1 (h (r 0).toNat) = r 3 := by
            unfold zq_size
            split
            · rename_i z; exact absurd z n1
            · exact s0
          obtain ⟨T', q1', q2'⟩ := ty1 i (by rw [hsz1]; omega)
          have eT : T' = T := by
            unfold zq_sty at q1 q1'
            rw [e3, e4] at q1'
            exact Option.some.inj (q1'.symm.trans q1)
          rw [eT] at q2'
          exact q2'
        · rw [if_neg (by rintro ⟨-, -, z⟩; exact hj z)]
          exact q2
      · have er : zq_re w K2 h' (r 1).toNat = zq_re w K2 h (r 1).toNat := by
          unfold zq_re
          split
          · rename_i z; exact absurd z n2
          · funext _; exact hlen _
        rw [er]; exact rows2
    · obtain ⟨K, q1, q2, q3, q4, q5⟩ := hT b k hbk
      have eh : h' b = h b := zq_hc_ne hba
      refine ⟨K, q1, ?_, ?_, ?_, ?_⟩
      · rw [eh]; exact q2.kept (k3' b hba)
      · rw [eh]; exact q3
      · rw [eh]; exact q4
      · have er : zq_re w K h' b = zq_re w K h b := by
          unfold zq_re
          split
          · funext j; simp only [eh, hlen]
          · funext _; rw [eh]
        rw [er]; exact q5
  have hag : ∀ (x : Int), 0 ≤ x → x < r 5 → ∀ j, h' x.toNat j = h x.toNat j := by
    intro x x0 x1 j
    show zq_hc h (r 0).toNat (r 1).toNat (r 2) x.toNat j = h x.toNat j
    rw [zq_hc_ne (by omega)]
  have htok : zq_okX w r P h' 15 [(id, [zq_v 1, zq_v 0, zq_v 2]), (364, [zq_v 6, zq_v 7, zq_v 8, zq_v 5]), (366, [zq_v 9, zq_v 10, zq_v 11, zq_v 5]), (367, [zq_v 12, zq_v 13, zq_v 14, zq_v 5])] := by
    intro x hx
    rcases List.mem_cons.mp hx with rfl | hx
    · refine ⟨fun e he => ?_, (hX _ _ _).mpr ?_⟩
      · rcases List.mem_cons.mp he with rfl | he
        · rfl
        · rcases List.mem_cons.mp he with rfl | he
          · rfl
          · rw [List.mem_singleton.mp he]; rfl
      · show zo_CB N k2 k1 (zq_ev r (zq_v 1)) (zq_ev r (zq_v 0)) (zq_ev r (zq_v 2)) P h'
        rw [zq_ev_v, zq_ev_v, zq_ev_v]
        refine ⟨⟨a1, b1⟩, ⟨a0, b0⟩, ⟨a2, by omega⟩, fun j x y => ?_⟩
        show zq_hc h (r 0).toNat (r 1).toNat (r 2) (r 1).toNat j = zq_hc h (r 0).toNat (r 1).toNat (r 2) (r 0).toNat j
        unfold zq_hc
        rw [if_pos ⟨rfl, x, by omega⟩]
        split <;> rfl
    rcases List.mem_cons.mp hx with rfl | hx
    · obtain ⟨q1, q2⟩ := hK0 _ (List.mem_cons_self ..)
      refine ⟨q1, (hB0 _ _ _).mpr ?_⟩
      have z : zt_LTB 35 (zq_ev r (zq_v 6)) (zq_ev r (zq_v 7)) (zq_ev r (zq_v 8)) (zq_ev r (zq_v 5)) P h := (hB0 _ _ _).mp q2
      exact zt_LTB_ag (fun _ _ q => q) z (fun x x0 x1 _ i => hag x x0 (by have y : x < zq_ev r (zq_v 5) := x1; rw [zq_ev_v] at y; exact y) i)
    rcases List.mem_cons.mp hx with rfl | hx
    · obtain ⟨q1, q2⟩ := hK0 _ (List.mem_cons_of_mem _ (List.mem_cons_self ..))
      refine ⟨q1, (hB2 _ _ _).mpr ?_⟩
      have z : zt_LTB 65 (zq_ev r (zq_v 9)) (zq_ev r (zq_v 10)) (zq_ev r (zq_v 11)) (zq_ev r (zq_v 5)) P h := (hB2 _ _ _).mp q2
      exact zt_LTB_ag (fun _ _ q => q) z (fun x x0 x1 _ i => hag x x0 (by have y : x < zq_ev r (zq_v 5) := x1; rw [zq_ev_v] at y; exact y) i)
    rcases List.mem_cons.mp hx with rfl | hx
    · obtain ⟨q1, q2⟩ := hK0 _ (List.mem_cons_of_mem _ (List.mem_cons_of_mem _ (List.mem_cons_self ..)))
      refine ⟨q1, (hB3 _ _ _).mpr ?_⟩
      have z : zt_LTB 80 (zq_ev r (zq_v 12)) (zq_ev r (zq_v 13)) (zq_ev r (zq_v 14)) (zq_ev r (zq_v 5)) P h := (hB3 _ _ _).mp q2
      exact zt_LTB_ag (fun _ _ q => q) z (fun x x0 x1 _ i => hag x x0 (by have y : x < zq_ev r (zq_v 5) := x1; rw [zq_ev_v] at y; exact y) i)
    · cases hx
  have hPm : ∃ x ∈ (zq_cpl k1 k2 id N).2.2, x.1 = k2 := ⟨_, List.mem_singleton.mpr rfl, rfl⟩
  have hfr := kk _ (List.mem_singleton.mpr rfl) r P h' H1 L (fun _ _ => rfl) (fun x hx => by cases hx) ⟨hHT, ⟨zq_all_nil, fun c hc => by cases hc⟩, zq_okF_nil, zq_okS_nil, zq_okR_nil, htok⟩ ⟨by rw [k2']; exact Nat.le_refl _, fun q _ hq => ?_, fun _ _ z => z, fun a k j ha hn => ?_, fun _ _ z => Or.inl z⟩ (fun q hq => ?_)
  · exact hfr
  · refine k3' q fun z => hq (Or.inl ⟨k2, by rw [z]; exact b1, hPm⟩)
  · show zq_hc h (r 0).toNat (r 1).toNat (r 2) a j = h a j
    unfold zq_hc
    refine if_neg ?_
    rintro ⟨z1, z2, z3⟩
    subst z1
    have ek : k = k2 := Option.some.inj (ha.symm.trans b1)
    subst ek
    refine hn ⟨z2, _, List.mem_singleton.mpr rfl, rfl, ?_, ?_⟩
    · show zq_ev r (zq_k 0) ≤ j; rw [zq_ev_k]; exact z2
    · show j ≤ zq_ev r (zq_addk (zq_v 2) (-1)); rw [zq_ev_addk, zq_ev_v]; omega
  · refine Or.inl ⟨k2, ?_, hPm⟩
    rw [k4' q hq]; exact b1

theorem zo_LBok {w : zq_Wd} {A0 : Nat → Nat} (hX : w.2.2.2.2 = zX A0) : zq_okLB w := by
  intro b P h z
  rw [hX] at z
  exact z
theorem zo_BTok {w : zq_Wd} {A0 : Nat → Nat} (hX : w.2.2.2.2 = zX A0) : zq_okBT w := by
  intro id hid as P h a j v hb ht
  rw [hX] at ht ⊢
  unfold zq_BT at hid
  have e : id = 364 ∨ id = 365 ∨ id = 366 ∨ id = 367 := by
    simp only [Bool.and_eq_true, Nat.ble_eq] at hid
    omega
  rcases e with e | e | e | e
  · subst e
    have t : zt_LTB 35 (zq_en as 0) (zq_en as 1) (zq_en as 2) (zq_en as 3) P h := ht
    exact zt_LTB_wr hb t
  · subst e
    have t : zt_LTB 50 (zq_en as 0) (zq_en as 1) (zq_en as 2) (zq_en as 3) P h := ht
    exact zt_LTB_wr hb t
  · subst e
    have t : zt_LTB 65 (zq_en as 0) (zq_en as 1) (zq_en as 2) (zq_en as 3) P h := ht
    exact zt_LTB_wr hb t
  · subst e
    have t : zt_LTB 80 (zq_en as 0) (zq_en as 1) (zq_en as 2) (zq_en as 3) P h := ht
    exact zt_LTB_wr hb t
