/-! an array's length, read without an instruction -/
noncomputable def zq_lrow (e : zq_L) : zq_L := zq_sb [zq_v 1] e
noncomputable def zq_glL (k : Nat) (rows : List zq_L) : zq_S × List zq_S := (([], [], [zq_v 0], [(zq_v 0, k)], [], [], [], 1), [([], [], zq_v 1 :: zq_sub (zq_k 2147483647) (zq_v 1) :: rows.map zq_lrow, [], [(zq_v 0, zq_k (-1), zq_v 1)], [], [], 2)])
theorem zq_glL_ok1 {w : zq_Wd} {k : Nat} {K : zq_K} (hK : w.2.2.2.1[k]? = some K) (h0 : K.1 ≠ 0) (hr : (K.2.2.2.2.1.all (fun e => e.2.all (fun t => Nat.beq t.1 0))) = true) (hb : (K.2.2.2.2.1.all (fun e => zq_bd 2 (zq_lrow e))) = true) : zq_okG1 w (zq_glL k K.2.2.2.2.1) := by
  have hwf : zq_wf ([], [], zq_v 1 :: zq_sub (zq_k 2147483647) (zq_v 1) :: K.2.2.2.2.1.map zq_lrow, [], [(zq_v 0, zq_k (-1), zq_v 1)], [], [], 2) = true := by
    unfold zq_wf
    simp only [List.all_cons, List.all_map, Bool.and_eq_true]
    refine ⟨rfl, rfl, ⟨rfl, rfl, hb⟩, rfl, ⟨⟨rfl, rfl, rfl⟩, rfl⟩, rfl, rfl⟩
  refine ⟨rfl, rfl, zq_fa1 ⟨hwf, by show 1 ≤ 2; omega⟩, ?_⟩
  intro r P h H hM
  obtain ⟨hT, hC, hF, -, -, -⟩ := hM
  have a1 := zq_all_1 hC.1
  have b1 := zq_okF_1 hF a1
  simp only [zq_ev_v] at a1 b1
  obtain ⟨K', k1, k2, k3, k4, k5⟩ := hT _ _ b1
  have eK : K' = K := Option.some.inj (k1.symm.trans hK)
  subst eK
  obtain ⟨l1, l2⟩ := k3 h0
  let r' := zq_up r 1 (h (r 0).toNat (-1))
  have v0 : r' 0 = r 0 := rfl
  have v1 : r' 1 = h (r 0).toNat (-1) := rfl
  have hx : zq_ext 1 r r' := fun i hi => by
    have : i = 0 := by omega
    subst this; rfl
  refine ⟨_, List.mem_singleton.mpr rfl, r', hx, zq_MeS_mk hwf hT (zq_all_cons ?_ (zq_all_cons ?_ ?_)) zq_fan (zq_fa1 ⟨(r 0).toNat, ?_, by rw [b1]; exact Option.some_ne_none _, ?_⟩) rfl zq_fan⟩
  · rw [zq_ev_v, v1]; exact l1
  · rw [zq_ev_sub, zq_ev_k, zq_ev_v, v1]; omega
  · intro e he
    obtain ⟨e0, he0, rfl⟩ := List.mem_map.mp he
    have z := k5 e0 he0
    unfold zq_lrow
    rw [zq_ev_sb]
    have e1 : zq_re w K' h (r 0).toNat = fun _ => h (r 0).toNat (-1) := by
      unfold zq_re
      split
      · rename_i hz; exact absurd hz h0
      · rfl
    rw [e1] at z
    have : zq_ev (zq_sv r' [zq_v 1]) e0 = zq_ev (fun _ => h (r 0).toNat (-1)) e0 := by
      unfold zq_ev
      congr 1
      refine zq_ts_cong ?_
      intro t ht
      have hz := List.all_eq_true.mp (List.all_eq_true.mp hr e0 he0) t ht
      rw [Nat.eq_of_beq_eq_true hz]
      show zq_ev r' (zq_v 1) = _
      rw [zq_ev_v, v1]
    rw [this]; exact z
  · show zq_ev r' (zq_v 0) = _; rw [zq_ev_v, v0]; omega
  · show h _ (zq_ev r' (zq_k (-1))) = zq_ev r' (zq_v 1); rw [zq_ev_k, zq_ev_v, v1]
/-! System.arraycopy of whole numbers, from the start of one array to the start of another one -/
section ZQCOPY
variable {p : Program} {l : Launch} {e : Env} {R : Room} {s : State} {m : MethodId} {args : Array Value} {below : List Frame} {meth : Method} {c : Code} {H : Heap} {locs : List Loc} {cells slots : Nat} {Q : State → Prop}
variable {cc : ByteArray} {pc : Nat} {ls : Array Slot} {rest : List Value}
theorem zq_copyi (hexec : p.tables.exec = Jvm.exec) (hb : c.code = cc) (hml : c.maxLocals = ls.size) {own : String} {index : Nat} (hown : s.vm.findClass own = some m.cls) (hlink : (Cond.methodLink own index arraycopyName).before args s = true) (hnat : (Cond.native arraycopyName).before args s = true) (hstat : (Cond.static arraycopyName).before args s = true) (hini : (Cond.initialized "java/lang/System").before args s = true)
    {a0 a : Nat} {c0 c1 : ClassId} {n0 n1 : Nat} {f g : Nat → Int32} (hA0 : ArrOfT s c0 .int) (hA1 : ArrOfT s c1 .int) (hc0 : H[a0]? = some (vp_cell c0 (n0, .inl f))) (hc1 : H[a]? = some (vp_cell c1 (n1, .inl g)))
    {sp dp n : Int32} (h1 : ¬ sp < 0) (h2 : ¬ dp < 0) (h3 : ¬ n < 0) (h4 : sp.toNatClampNeg + n.toNatClampNeg ≤ n0) (h5 : dp.toNatClampNeg + n.toNatClampNeg ≤ n1)
    (hframes : 1 ≤ R.frames) (hlocals : (rest.map fun v => v.category).sum + (nativeFrameWords "java/lang/System" "arraycopy" 5 + 11) ≤ R.locals) (hdg : decode cc pc = .ok (.invokestatic index, 3))
    (kk : ∀ (H1 : Heap) (L : List Loc), H1[a]? = some (vp_cell c1 (n1, .inl (va_cpy f g sp.toNatClampNeg dp.toNatClampNeg n.toNatClampNeg))) → H1.size = H.size → (∀ q : Nat, q ≠ a → H1[q]? = H[q]?) → (∀ q ∈ L, q.base = a) → W p l e R s m args below meth c H1 (locs ++ L) cells slots Q (F0 m (pc + 3) ls rest)) : W p l e R s m args below meth c H locs cells slots Q (F0 m pc ls (.int n :: .int dp :: .ref a :: .int sp :: .ref a0 :: rest)) := by
  have nn : ∀ z : Int32, ¬ z < 0 → z.toInt = (z.toNatClampNeg : Int) := by
    intro z hz
    have hz0 : (0 : Int) ≤ z.toInt := by
      have := Int32.not_lt.mp hz
      simpa using Int32.le_iff_toInt_le.mp this
    show z.toInt = ((z.toInt.toNat : Nat) : Int)
    omega
  intro T hT X
  obtain ⟨-, k0, hk0, cm0, hkk0⟩ := hA0 n0 (fun j => .int (f j))
  obtain ⟨-, k1, hk1, cm1, hkk1⟩ := hA1 n1 (fun j => .int (g j))
  obtain ⟨vm', X', step⟩ := X.arraycopy hexec hown hlink hnat hstat hini (src := a0) (dst := a) (cs := vp_cell c0 (n0, .inl f)) (cd := vp_cell c1 (n1, .inl g)) (srcPos := sp) (destPos := dp) (n := n) (by rw [hT]; exact hc0) (by rw [hT]; exact hc1)
    (fun _ h => by cases h) (fun _ h => by cases h) (fun h => by cases h) (fun h => by cases h) hk0 hk1 hkk0 hkk1 (by simp [refKind]) h1 h2 h3
    (by rw [nn sp h1, nn n h3]; show ¬ _ > ((arrV c0 n0 (fun j => .int (f j))).slots.size : Int); rw [arrV_size]; omega)
    (by rw [nn dp h2, nn n h3]; show ¬ _ > ((arrV c1 n1 (fun j => .int (g j))).slots.size : Int); rw [arrV_size]; omega)
    (fun vm₁ _ i hi => by
      have e : (vp_cell c0 (n0, .inl f)).slots.getD (sp.toNatClampNeg + i) .null = .int (f (sp.toNatClampNeg + i)) := by
        show (arrV c0 n0 (fun j => .int (f j))).slots.getD _ _ = _
        rw [Array.getD_eq_getD_getElem?, arrV_read _ _ (by omega)]
        rfl
      refine ⟨?_, ?_⟩
      · rw [e]; rfl
      · rw [e]
        exact trivial)
    (g := F0 m pc ls (.int n :: .int dp :: .ref a :: .int sp :: .ref a0 :: rest)) rfl (by rw [hml]) (rest := rest) rfl (by rw [hb]; exact hdg) hframes (by show 2 * 0 + _ + _ ≤ _; omega)
  have e1 : copied (vp_cell c0 (n0, .inl f)) (vp_cell c1 (n1, .inl g)) sp dp n = vp_cell c1 (n1, .inl (va_cpy f g sp.toNatClampNeg dp.toNatClampNeg n.toNatClampNeg)) := va_copied (fun z => .int z) c0 c1 f g h4
  rw [e1] at X' step
  have hl : a < H.size := (Array.getElem?_eq_some_iff.mp hc1).1
  have hheap : ((T.setVm vm').setCell a (vp_cell c1 (n1, .inl (va_cpy f g sp.toNatClampNeg dp.toNatClampNeg n.toNatClampNeg)))).heap = H.setIfInBounds a (vp_cell c1 (n1, .inl (va_cpy f g sp.toNatClampNeg dp.toNatClampNeg n.toNatClampNeg))) := by rw [← hT]; rfl
  obtain ⟨t, a1, b1⟩ := kk _ _ (show (H.setIfInBounds a _)[a]? = some _ by simp [Array.getElem?_setIfInBounds, hl]) (by simp) (fun q hq => by simp [Array.getElem?_setIfInBounds, Ne.symm hq]) (fun q hq => by
      obtain ⟨z, -, hz⟩ := List.mem_map.mp hq
      rw [← hz]) _ hheap X'
  exact ⟨t, step t a1, b1⟩
end ZQCOPY
noncomputable def zq_cpc (k1 k2 : Nat) : zq_Ct := (([(0, 2, zq_v 0), (1, 0, zq_k 0), (2, 2, zq_v 1), (3, 0, zq_k 0), (4, 0, zq_v 2)], [], [zq_v 0, zq_v 1, zq_v 2, zq_sub (zq_v 3) (zq_v 2), zq_sub (zq_v 4) (zq_v 2)], [(zq_v 0, k1), (zq_v 1, k2)], [(zq_v 0, zq_k (-1), zq_v 3), (zq_v 1, zq_k (-1), zq_v 4)], [], [], 5), [([], ([], [], [], [], [], [], [], 5))], [(k2, zq_k 0, zq_addk (zq_v 2) (-1))])
/-- memory behind the copy -/
noncomputable def zq_hc (h : zq_H) (a0 a1 : Nat) (n : Int) : zq_H := fun b j => if b = a1 ∧ 0 ≤ j ∧ j < n then h a0 j else h b j
theorem zq_hc_len {h : zq_H} {a0 a1 : Nat} {n : Int} {b : Nat} : zq_hc h a0 a1 n b (-1) = h b (-1) := by
  unfold zq_hc
  rw [if_neg (by rintro ⟨-, z, -⟩; omega)]
theorem zq_hc_ne {h : zq_H} {a0 a1 : Nat} {n : Int} {b : Nat} (hb : b ≠ a1) : zq_hc h a0 a1 n b = h b := by
  funext j
  unfold zq_hc
  rw [if_neg (by rintro ⟨z, -⟩; exact hb z)]
noncomputable def zq_cpq (KT : List zq_K) (TY : List FieldType) (k1 k2 : Nat) : Bool := match KT[k1]?, KT[k2]? with
  | some K1, some K2 => !Nat.beq K1.1 0 && (!Nat.beq K2.1 0 && (decide (TY[K1.2.1]? = some .int) && (decide (TY[K2.2.1]? = some .int) && (Nat.beq K1.2.2.2.2.2 0 && (Nat.beq K2.2.2.2.2.2 0 && (Nat.beq K1.2.2.1 K2.2.2.1 && decide (K1.2.2.2.1 = K2.2.2.2.1)))))))
  | _, _ => false
set_option maxHeartbeats 4000000 in
theorem zq_copyW {FC : zq_FC} {w : zq_Wd} {p : Program} {l : Launch} {e : Env} {R : Room} {s : State} {m : MethodId} {args : Array Value} {below : List Frame} {meth : Method} {c : Code} {Q : State → Prop} {cc : ByteArray} {nL cp k1 k2 : Nat} {own : String} {Ts : List Cond} {TY : List FieldType} (hMc : zq_Mc p s m args c cc own Ts) (hml : c.maxLocals = nL) (hK : va_K w.1 w.2.1 w.2.2.1 s) (hTY : w.2.2.1.map Prod.snd = TY) (hk : zq_cpq w.2.2.2.1 TY k1 k2 = true)
    (hl : Cond.methodLink own cp arraycopyName ∈ Ts) (hn : Cond.native arraycopyName ∈ Ts) (hst : Cond.static arraycopyName ∈ Ts) (hi : Cond.initialized "java/lang/System" ∈ Ts) (hR : 1 ≤ R.frames ∧ 8 + (nativeFrameWords "java/lang/System" "arraycopy" 5 + 11) ≤ R.locals) :
    zq_CallW FC w p l e R s m args below meth c Q cc nL (.invokestatic cp) (zq_cpc k1 k2) 0 0 := by
  intro r P h H locs cells slots pc ls rest hoA hMe _ hcat hls hc1 hc2 hdg kk
  obtain ⟨hexec, hb, hown, hts⟩ := hMc
  obtain ⟨hT, hC, hF, hS, -, -⟩ := hMe
  have c0 := hC.1
  have a0 := zq_all_1 c0
  have c0 := zq_all_t c0
  have a1 := zq_all_1 c0
  have c0 := zq_all_t c0
  have a2 := zq_all_1 c0
  have c0 := zq_all_t c0
  have a3 := zq_all_1 c0
  have c0 := zq_all_t c0
  have a4 := zq_all_1 c0
  have b0 := zq_okF_1 hF a0
  have b1 := zq_okF_1 (zq_okF_t hF) a1
  obtain ⟨-, -, s0⟩ := zq_okS_1 hS
  obtain ⟨-, -, s1⟩ := zq_okS_1 (zq_okS_t hS)
  simp only [zq_ev_v, zq_ev_sub, zq_ev_k] at a0 a1 a2 a3 a4 b0 b1 s0 s1
  have hrg : zq_in 0 (r 2) := by
    have := (hoA (0, zq_v 2) (by show (0, zq_v 2) ∈ [(2, zq_v 0), (0, zq_k 0), (2, zq_v 1), (0, zq_k 0), (0, zq_v 2)]; simp)).2
    rw [zq_ev_v] at this; exact this
  obtain ⟨K1, g1, cell1, len1, ty1, -⟩ := hT _ _ b0
  obtain ⟨K2, g2, cell2, len2, ty2, rows2⟩ := hT _ _ b1
  unfold zq_cpq at hk
  rw [g1, g2] at hk
  simp only [Bool.and_eq_true, Bool.not_eq_true', decide_eq_true_eq] at hk
  obtain ⟨n1, n2, t1, t2, e1, e2, e3, e4⟩ := hk
  have n1 : K1.1 ≠ 0 := fun z => by rw [z] at n1; cases n1
  have n2 : K2.1 ≠ 0 := fun z => by rw [z] at n2; cases n2
  have e1 := Nat.eq_of_beq_eq_true e1
  have e2 := Nat.eq_of_beq_eq_true e2
  have e3 := Nat.eq_of_beq_eq_true e3
  have cellOf : ∀ (K : zq_K) (a : Nat), K.1 ≠ 0 → K.2.2.2.2.2 = 0 → TY[K.2.1]? = some .int → zq_cell w K (h a) a H → ∃ cA, ArrOfT s cA .int ∧ w.2.2.1[K.2.1]? = some (cA, .int) ∧ H[a]? = some (vp_cell cA ((h a (-1)).toNat, .inl (fun i => Int32.ofInt (h a i)))) := by
    intro K a z1 z2 z3 z4
    unfold zq_cell at z4
    split at z4
    · rename_i z0; exact absurd z0 z1
    · obtain ⟨cA, ty, q1, q2⟩ := z4
      have : ty = .int := by
        rw [← hTY, List.getElem?_map, q1] at z3
        exact Option.some.inj z3
      subst this
      refine ⟨cA, (hK.2 _ _ q1).1, q1, ?_⟩
      rw [q2, z2]; rfl
  obtain ⟨cA0, hA0, -, hH0⟩ := cellOf K1 _ n1 e1 t1 cell1
  obtain ⟨cA1, hA1, hw1, hH1⟩ := cellOf K2 _ n2 e2 t2 cell2
  have l1 := len1 n1
  have l2 := len2 n2
  rw [s0] at hH0
  rw [s1] at hH1
  have z0 : (Int32.ofInt 0).toNatClampNeg = 0 := rfl
  obtain ⟨zn, zn'⟩ := zq_len hrg a2
  have hst0 : (zq_sts r (zq_args (zq_cpc k1 k2))).reverse ++ rest = .int (Int32.ofInt (r 2)) :: .int (Int32.ofInt 0) :: .ref (r 1).toNat :: .int (Int32.ofInt 0) :: .ref (r 0).toNat :: rest := by
    have r0 : zq_val 2 (r 0) = .ref (r 0).toNat := by
      rw [← zq_val_of (t := 2) (a := (r 0).toNat) (Nat.le_refl 2), Int.toNat_of_nonneg a0]
    have r1 : zq_val 2 (r 1) = .ref (r 1).toNat := by
      rw [← zq_val_of (t := 2) (a := (r 1).toNat) (Nat.le_refl 2), Int.toNat_of_nonneg a1]
    show [zq_val 0 (zq_ev r (zq_v 2)), zq_val 0 (zq_ev r (zq_k 0)), zq_val 2 (zq_ev r (zq_v 1)), zq_val 0 (zq_ev r (zq_k 0)), zq_val 2 (zq_ev r (zq_v 0))] ++ rest = _
    rw [zq_ev_v, zq_ev_v, zq_ev_v, zq_ev_k, r0, r1]; rfl
  rw [hst0]
  refine zq_copyi hexec hb (by rw [hml, hls]) hown (hts _ hl) (hts _ hn) (hts _ hst) (hts _ hi) hA0 hA1 hH0 hH1 (by decide) (by decide) zn (by rw [z0, zn']; omega) (by rw [z0, zn']; omega) hR.1 (by have := hR.2; omega) hdg ?_
  intro H1 L k1' k2' k3' k4'
  let h' := zq_hc h (r 0).toNat (r 1).toNat (r 2)
  have hlen : ∀ b, h' b (-1) = h b (-1) := fun b => zq_hc_len
  have hHT : zq_HT w P h' H1 := by
    intro b k hbk
    by_cases hba : b = (r 1).toNat
    · subst hba
      have ek : k = k2 := Option.some.inj (hbk.symm.trans b1)
      subst ek
      refine ⟨K2, g2, ?_, fun _ => by rw [hlen]; exact l2, ?_, ?_⟩
      · unfold zq_cell
        split
        · rename_i z; exact absurd z n2
        · refine ⟨cA1, .int, hw1, ?_⟩
          rw [k1', hlen, s1, e2, z0, zn']
          show some (arrV cA1 (r 4).toNat (fun j => .int (va_cpy (fun i : Nat => Int32.ofInt (h (r 0).toNat i)) (fun i : Nat => Int32.ofInt (h (r 1).toNat i)) 0 0 (r 2).toNat j))) = _
          congr 2
          funext j
          show _ = Value.int (Int32.ofInt (zq_hc h (r 0).toNat (r 1).toNat (r 2) (r 1).toNat j))
          unfold zq_hc va_cpy
          by_cases hj : (j : Int) < r 2
          · rw [if_pos ⟨by omega, by omega⟩, if_pos ⟨rfl, by omega, hj⟩, show 0 + (j - 0) = j by omega]
          · rw [if_neg (by omega), if_neg (by rintro ⟨-, -, z⟩; exact hj z)]
      · intro i hi
        have hsz : zq_size w K2 (h' (r 1).toNat) = zq_size w K2 (h (r 1).toNat) := by
          unfold zq_size
          split
          · rfl
          · exact hlen _
        rw [hsz] at hi
        obtain ⟨T, q1, q2⟩ := ty2 i hi
        refine ⟨T, q1, ?_⟩
        show zq_tok P T (zq_hc h (r 0).toNat (r 1).toNat (r 2) (r 1).toNat i)
        unfold zq_hc
        by_cases hj : (i : Int) < r 2
        · rw [if_pos ⟨rfl, by omega, hj⟩]
          have hsz1 : zq_size w K1 (h (r 0).toNat) = r 3 := by
            unfold zq_size
            split
            · rename_i z; exact absurd z n1
            · exact s0
          obtain ⟨T', q1', q2'⟩ := ty1 i (by rw [hsz1]; omega)
          have eT : T' = T := by
            unfold zq_sty at q1 q1'
            rw [e3, e4] at q1'
            exact Option.some.inj (q1'.symm.trans q1)
          rw [eT] at q2'
          exact q2'
        · rw [if_neg (by rintro ⟨-, -, z⟩; exact hj z)]
          exact q2
      · have er : zq_re w K2 h' (r 1).toNat = zq_re w K2 h (r 1).toNat := by
          unfold zq_re
          split
          · rename_i z; exact absurd z n2
          · funext _; exact hlen _
        rw [er]; exact rows2
    · obtain ⟨K, q1, q2, q3, q4, q5⟩ := hT b k hbk
      have eh : h' b = h b := zq_hc_ne hba
      refine ⟨K, q1, ?_, ?_, ?_, ?_⟩
      · rw [eh]; exact q2.kept (k3' b hba)
      · rw [eh]; exact q3
      · rw [eh]; exact q4
      · have er : zq_re w K h' b = zq_re w K h b := by
          unfold zq_re
          split
          · funext j; simp only [eh, hlen]
          · funext _; rw [eh]
        rw [er]; exact q5
  have hPm : ∃ x ∈ (zq_cpc k1 k2).2.2, x.1 = k2 := ⟨_, List.mem_singleton.mpr rfl, rfl⟩
  have hfr := kk _ (List.mem_singleton.mpr rfl) r P h' H1 L (fun _ _ => rfl) (fun x hx => by cases hx) ⟨hHT, ⟨zq_all_nil, fun c hc => by cases hc⟩, zq_okF_nil, zq_okS_nil, zq_okR_nil, zq_okX_nil⟩ ⟨by rw [k2']; exact Nat.le_refl _, fun q _ hq => ?_, fun _ _ z => z, fun a k j ha hn => ?_, fun _ _ z => Or.inl z⟩ (fun q hq => ?_)
  · exact hfr
  · refine k3' q fun z => hq (Or.inl ⟨k2, by rw [z]; exact b1, hPm⟩)
  · show zq_hc h (r 0).toNat (r 1).toNat (r 2) a j = h a j
    unfold zq_hc
    refine if_neg ?_
    rintro ⟨z1, z2, z3⟩
    subst z1
    have ek : k = k2 := Option.some.inj (ha.symm.trans b1)
    subst ek
    refine hn ⟨z2, _, List.mem_singleton.mpr rfl, rfl, ?_, ?_⟩
    · show zq_ev r (zq_k 0) ≤ j; rw [zq_ev_k]; exact z2
    · show j ≤ zq_ev r (zq_addk (zq_v 2) (-1)); rw [zq_ev_addk, zq_ev_v]; omega
  · refine Or.inl ⟨k2, ?_, hPm⟩
    rw [k4' q hq]; exact b1
