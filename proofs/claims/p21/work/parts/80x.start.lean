/-! AT THE LAW'S ENTRY: classes, array classes, fixed cells -/
theorem zs_prim {args : Array Value} {s : State} {ty : FieldType} (h : (Cond.arrayClass ty).before args s = true) : ∃ cA : ClassId, ArrOfT s cA ty ∧ s.vm.findClass ("[" ++ ty.toString) = some cA := by
  obtain ⟨cA, kA, comp, h1, h2, h3⟩ := Cond.arrayClass_spec (args := args) (first := s) (o := none) (s := s) (idx := []) h
  exact ⟨cA, fun n z => ⟨fun k h => (by cases h), kA, h2, comp, h3⟩, h1⟩
theorem zs_obj {args : Array Value} {s : State} {C : String} (h : (Cond.arrayOver (.object C)).before args s = true) : ∃ cA : ClassId, ArrOfT s cA (.object C) ∧ va_RA s cA (.object C) := by
  obtain ⟨comp, cA, kA, h1, h2, h3, h4, h5⟩ := Cond.arrayOver_spec (args := args) (first := s) (o := none) (s := s) (idx := []) h
  exact ⟨cA, fun n z => ⟨fun k h => (by cases h), kA, h3, comp, h4⟩, kA, comp, h3, h4, h1, h5⟩
theorem zs_zt {args : Array Value} {s : State} (hts : ∀ w ∈ lw_tbl, w.before args s = true) : ∀ w ∈ zt, w.before args s = true := fun w hw => hts w (List.mem_filter.mp hw).1
theorem zs_K {args : Array Value} {s : State} (hts : ∀ w ∈ lw_tbl, w.before args s = true) : ∃ D : va_G, ∀ (c : Nat) (q : vw_C), vwCl[c]? = some q → u_Kn s q.1 q.2.1 q.2.2 (D.1 c) (D.2 c) := by
  have hz := zs_zt hts
  have key : ∀ c : Nat, ∃ d : ClassId × (Nat → Nat), ∀ q : vw_C, vwCl[c]? = some q → u_Kn s q.1 q.2.1 q.2.2 d.1 d.2 := by
    intro c
    match c with
    | 0 =>
      obtain ⟨cC, iS, h⟩ := u_known (C := RX0) (T := TX0) (N := 6) (n := 6) hz zi_u0 (hts (.instantiable RX0 6) (List.mem_of_getElem? (i := 262) (by decide +kernel)))
      exact ⟨(cC, iS), fun q hq => by cases hq; exact h⟩
    | 1 =>
      obtain ⟨cC, iS, h⟩ := u_known (C := RX1) (T := TX1) (N := 5) (n := 5) hz zi_u1 (hts (.instantiable RX1 5) (List.mem_of_getElem? (i := 288) (by decide +kernel)))
      exact ⟨(cC, iS), fun q hq => by cases hq; exact h⟩
    | 2 =>
      obtain ⟨cC, iS, h⟩ := u_known (C := RX2) (T := TX2) (N := 5) (n := 5) hz zi_u2 (hts (.instantiable RX2 5) (List.mem_of_getElem? (i := 370) (by decide +kernel)))
      exact ⟨(cC, iS), fun q hq => by cases hq; exact h⟩
    | 3 =>
      obtain ⟨cC, iS, h⟩ := u_known (C := RX3) (T := TX3) (N := 2) (n := 2) hz zi_u3 (hts (.instantiable RX3 2) (List.mem_of_getElem? (i := 158) (by decide +kernel)))
      exact ⟨(cC, iS), fun q hq => by cases hq; exact h⟩
    | 4 =>
      obtain ⟨cC, iS, h⟩ := u_known (C := RX4) (T := TX4) (N := 15) (n := 15) hz zi_u4 (hts (.instantiable RX4 15) (List.mem_of_getElem? (i := 362) (by decide +kernel)))
      exact ⟨(cC, iS), fun q hq => by cases hq; exact h⟩
    | 5 =>
      obtain ⟨cC, iS, h⟩ := u_known (C := RX5) (T := TX5) (N := 5) (n := 5) hz zi_u5 (hts (.instantiable RX5 5) (List.mem_of_getElem? (i := 203) (by decide +kernel)))
      exact ⟨(cC, iS), fun q hq => by cases hq; exact h⟩
    | 6 =>
      obtain ⟨cC, iS, h⟩ := u_known (C := RX6) (T := TX6) (N := 3) (n := 3) hz zi_u6 (hts (.instantiable RX6 3) (List.mem_of_getElem? (i := 137) (by decide +kernel)))
      exact ⟨(cC, iS), fun q hq => by cases hq; exact h⟩
    | 7 =>
      obtain ⟨cC, iS, h⟩ := u_known (C := RX7) (T := TX7) (N := 4) (n := 4) hz zi_u7 (hts (.instantiable RX7 4) (List.mem_of_getElem? (i := 342) (by decide +kernel)))
      exact ⟨(cC, iS), fun q hq => by cases hq; exact h⟩
    | 8 =>
      obtain ⟨cC, iS, h⟩ := u_known (C := RX8) (T := TX8) (N := 6) (n := 6) hz zi_u8 (hts (.instantiable RX8 6) (List.mem_of_getElem? (i := 173) (by decide +kernel)))
      exact ⟨(cC, iS), fun q hq => by cases hq; exact h⟩
    | 9 =>
      obtain ⟨cC, iS, h⟩ := u_known (C := RX9) (T := TX9) (N := 6) (n := 6) hz zi_u9 (hts (.instantiable RX9 6) (List.mem_of_getElem? (i := 209) (by decide +kernel)))
      exact ⟨(cC, iS), fun q hq => by cases hq; exact h⟩
    | 10 =>
      obtain ⟨cC, iS, h⟩ := u_known (C := RX10) (T := TX10) (N := 7) (n := 7) hz zi_u10 (hts (.instantiable RX10 7) (List.mem_of_getElem? (i := 312) (by decide +kernel)))
      exact ⟨(cC, iS), fun q hq => by cases hq; exact h⟩
    | 11 =>
      obtain ⟨cC, iS, h⟩ := u_known (C := RX11) (T := TX11) (N := 17) (n := 17) hz zi_u11 (hts (.instantiable RX11 17) (List.mem_of_getElem? (i := 129) (by decide +kernel)))
      exact ⟨(cC, iS), fun q hq => by cases hq; exact h⟩
    | 12 =>
      obtain ⟨cC, iS, h⟩ := u_known (C := RX12) (T := TX12) (N := 50) (n := 50) hz zi_u12 (hts (.instantiable RX12 50) (List.mem_of_getElem? (i := 1153) (by decide +kernel)))
      exact ⟨(cC, iS), fun q hq => by cases hq; exact h⟩
    | c + 13 => exact ⟨(0, fun _ => 0), fun q hq => by cases hq⟩
  obtain ⟨d, hd⟩ := Classical.axiomOfChoice key
  exact ⟨(fun c => (d c).1, fun c => (d c).2), fun c q hq => hd c q hq⟩
theorem zs_tys {args : Array Value} {s : State} (hts : ∀ w ∈ lw_tbl, w.before args s = true) : ∃ tys : List (ClassId × FieldType), tys.map Prod.snd = zi_TY ∧ ∀ (k : Nat) (q : ClassId × FieldType), tys[k]? = some q → ArrOfT s q.1 q.2 ∧ va_RA s q.1 q.2 := by
  obtain ⟨c0, a0, b0⟩ := zs_prim (hts (.arrayClass .int) (List.mem_of_getElem? (i := 156) (by decide +kernel)))
  obtain ⟨c1, a1, b1⟩ := zs_prim (hts (.arrayClass .long) (List.mem_of_getElem? (i := 360) (by decide +kernel)))
  obtain ⟨c2, a2, b2⟩ := zs_prim (hts (.arrayClass .byte) (List.mem_of_getElem? (i := 831) (by decide +kernel)))
  obtain ⟨c3, a3, b3⟩ := zs_prim (hts (.arrayClass .boolean) (List.mem_of_getElem? (i := 530) (by decide +kernel)))
  obtain ⟨c4, a4, b4⟩ := zs_obj (hts (.arrayOver (.object "AnswerDays$Text")) (List.mem_of_getElem? (i := 368) (by decide +kernel)))
  obtain ⟨c5, a5, b5⟩ := zs_obj (hts (.arrayOver (.object "AnswerDays$Land")) (List.mem_of_getElem? (i := 477) (by decide +kernel)))
  refine ⟨[(c0, .int), (c1, .long), (c2, .byte), (c3, .boolean), (c4, .object "AnswerDays$Text"), (c5, .object "AnswerDays$Land")], rfl, ?_⟩
  intro k q hq
  match k, hq with
  | 0, hq => cases hq; exact ⟨a0, b0⟩
  | 1, hq => cases hq; exact ⟨a1, b1⟩
  | 2, hq => cases hq; exact ⟨a2, b2⟩
  | 3, hq => cases hq; exact ⟨a3, b3⟩
  | 4, hq => cases hq; exact ⟨a4, b4⟩
  | 5, hq => cases hq; exact ⟨a5, b5⟩
  | k + 6, hq => cases hq
/-- what the Statement gives, by place -/
noncomputable def zs_fl : List Cond := flatC (Jvm.Cond.and given_1 narrow_1)
theorem zs_at {args : Array Value} {s : State} (hgv : (Jvm.Cond.and given_1 narrow_1).before args s = true) {i : Nat} {c : Cond} (h : zs_fl[i]? = some c) : c.before args s = true := flat_of_before _ hgv c (List.mem_of_getElem? h)
noncomputable def zs_tm : Term := .string "AnswerDays$Tape" 46
noncomputable def zs_by : List Int32 := [100, 111, 101, 114, 32, 115, 105, 103, 110, 32, 107, 105, 110, 100, 32, 119, 111, 114, 116, 104, 32, 112, 108, 97, 99, 101, 32, 100, 97, 116, 101, 32, 119, 101, 101, 107, 32, 109, 111, 111, 100, 32, 100, 97, 121, 32, 100, 111, 110, 101, 32, 108, 97, 116, 101, 115, 116, 32, 101, 118, 101, 110, 32, 98, 97, 108, 97, 110, 99, 101, 32, 99, 108, 111, 99, 107, 32, 97, 110, 115, 119, 101, 114, 115, 32, 111, 119, 101, 115, 32, 98, 97, 114, 115, 32, 100, 111, 32, 112, 97, 121, 32, 119, 105, 110, 100, 32, 112, 97, 115, 115, 32, 98, 121, 32, 116, 111, 32, 97, 116, 32, 116, 105, 109, 101, 115, 32, 105, 102, 32, 111, 114, 32, 97, 110, 100, 32, 110, 111, 116, 32]
theorem zs_by_ok : ∀ j, j < 141 → zs_fl[45 + j]? = some (Cond.eq (.elem (.field zs_tm "java/lang/String" "value" "[B") (.int (Int32.ofNat j))) (.int (zs_by.getD j 0))) := by decide +kernel
theorem zs_by_in : ∀ j, j < 141 → (zs_by.getD j 0) = Int32.ofInt (zs_by.getD j 0).toInt ∧ 32 ≤ (zs_by.getD j 0).toInt ∧ (zs_by.getD j 0).toInt ≤ 121 := by decide +kernel
theorem zs_by_cC : ∀ j, j < 141 → (zs_by.getD j 0).toInt = zu_cC.getD j 0 := by decide +kernel
/-- the fixed addresses -/
noncomputable def zs_A1 (t q v b L a5 a6 a7 s5 s6 s7 sv sc : Nat) (xs : Nat → Int32) (n : Nat) : Nat := bif Nat.ble 1000 n then ((xs (n - 1000)).toInt + 2147483648).toNat else match n with
  | 0 => t
  | 1 => q
  | 2 => v
  | 3 => b
  | 4 => L
  | 5 => a5
  | 6 => a6
  | 7 => a7
  | 10 => s5
  | 11 => s6
  | 12 => s7
  | 13 => sv
  | 14 => sc
  | _ => 0
noncomputable def zs_A2 (c0 c1 c2 c3 c5 c6 c7 : Cell) (n : Nat) : Cell := match n with
  | 0 => c0
  | 1 => c1
  | 2 => c2
  | 3 => c3
  | 5 => c5
  | 6 => c6
  | _ => c7
theorem zs_unk {c : Cell} (h : c.vm.isStatics = true) : c.vm ≠ .unknown := fun e => by rw [e] at h; cases h
theorem zs_tab {ty : FieldType} {t N : Nat} {f : Nat → Value} {g : Nat → Int} {A : Nat → Prop} {U : State} {H : Heap} (h : va_T ty t N f A U H) (hN : N < 2 ^ 31) (hf : ∀ j, j < N → f j = .int (Int32.ofInt (g j)) ∧ zq_in 0 (g j)) : ∃ cell : Cell, H[t]? = some cell ∧ U.isArrayOf cell ty ∧ zf_ar cell N g := by
  obtain ⟨cell, h1, h2, h3, h4, h5, h6, -⟩ := h
  exact ⟨cell, h1, h2, h3, h4, h5, hN, fun j hj => ⟨by rw [h6 j hj, (hf j hj).1], (hf j hj).2⟩⟩
set_option maxHeartbeats 4000000 in
theorem zs_fix {s : State} {b L : Nat} {xs : Nat → Int32} (hL : L ≤ 3072) (hts : ∀ w ∈ lw_tbl, w.before #[Value.ref b] s = true) (hX : va_X b L xs s s.heap) (hgv : (Jvm.Cond.and given_1 narrow_1).before #[Value.ref b] s = true) : ∃ A : zf_A, zf_S A s ∧ (∀ x ∈ zf_FC A, s.heap[x.1]? = some x.2) ∧ A.1 3 = b ∧ A.1 4 = L := by
  have hA : ∀ a : Nat, a < s.heap.size → ¬ (fun _ : Nat => False) a := fun _ _ h => h
  -- the table of the most
  have m0 := zs_at hgv (i := 7) (c := .eq (.elem (.static "AnswerDays" "MOST_OF_TERM" "[I") (.int 0)) (.int 999)) (by decide +kernel)
  have m1 := zs_at hgv (i := 8) (c := .eq (.elem (.static "AnswerDays" "MOST_OF_TERM" "[I") (.int 1)) (.int 10)) (by decide +kernel)
  have m2 := zs_at hgv (i := 9) (c := .eq (.elem (.static "AnswerDays" "MOST_OF_TERM" "[I") (.int 2)) (.int 9)) (by decide +kernel)
  obtain ⟨t, ht, hT⟩ := va_Tof (tm := .static "AnswerDays" "MOST_OF_TERM" "[I") (ty := .int) (N := 3) (f := fun j => .int (Int32.ofInt (zf_mo j))) (A := fun _ => False) (by decide) (zs_at hgv (i := 5) (c := .arrayOf (.static "AnswerDays" "MOST_OF_TERM" "[I") .int) (by decide +kernel)) (va_eqt (zs_at hgv (i := 6) (c := .eq (.length (.static "AnswerDays" "MOST_OF_TERM" "[I")) (.int 3)) (by decide +kernel))) (fun j hj => by
    match j, hj with
    | 0, _ => exact va_eqt m0
    | 1, _ => exact va_eqt m1
    | 2, _ => exact va_eqt m2) hA
  obtain ⟨cf5, k5, fi5, f5, a5, c5, z51, z52, z53, z54, z55, z56, z57, -⟩ := va_Zof (hts (.laysStatic "AnswerDays" "MOST_OF_TERM" "[I") (List.mem_of_getElem? (i := 654) (by decide +kernel))) (hts (.initialized "AnswerDays") (List.mem_of_getElem? (i := 108) (by decide +kernel))) ht hA
  obtain ⟨c0, e01, e02, e03⟩ := zs_tab (g := zf_mo) hT (by decide) (fun j hj => ⟨rfl, by
    match j, hj with
    | 0, _ => exact zf_in (by decide) (by decide)
    | 1, _ => exact zf_in (by decide) (by decide)
    | 2, _ => exact zf_in (by decide) (by decide)⟩)
  -- other statics
  obtain ⟨cf6, k6, fi6, f6, a6, c6, z61, z62, z63, z64, z65, z66, z67, -⟩ := va_Zof (hts (.laysStatic "java/lang/String" "COMPACT_STRINGS" "Z") (List.mem_of_getElem? (i := 708) (by decide +kernel))) (hts (.initialized "java/lang/String") (List.mem_of_getElem? (i := 122) (by decide +kernel))) (va_eqt (zs_at hgv (i := 10) (c := .eq (.static "java/lang/String" "COMPACT_STRINGS" "Z") (.int 1)) (by decide +kernel))) hA
  have hq7 := va_Zqof (hts (.laysStatic "jdk/internal/util/Preconditions" "SIOOBE_FORMATTER" "Ljava/util/function/BiFunction;") (List.mem_of_getElem? (i := 724) (by decide +kernel))) (hts (.initialized "jdk/internal/util/Preconditions") (List.mem_of_getElem? (i := 124) (by decide +kernel))) (zs_at hgv (i := 11) (c := .isRef (.static "jdk/internal/util/Preconditions" "SIOOBE_FORMATTER" "Ljava/util/function/BiFunction;")) (by decide +kernel)) hA
  have hq7 : ∃ (cf : ClassId) (kf : Class) (fi : Nat) (f : Field) (a : Nat) (cell : Cell), s.fieldFound? "jdk/internal/util/Preconditions" "SIOOBE_FORMATTER" "Ljava/util/function/BiFunction;" = some (cf, kf, fi, f) ∧ f.isStatic = true ∧ kf.init = .initialized ∧ kf.statics = some a ∧ s.heap[a]? = some cell ∧ cell.vm.isStatics = true ∧ (cell.slots[f.slot]? = some .null ∨ ∃ t : Nat, cell.slots[f.slot]? = some (.ref t)) := by
    rcases hq7 with ⟨cf, kf, fi, f, a, cell, y1, y2, y3, y4, y5, y6, y7, -⟩ | ⟨t7, cf, kf, fi, f, a, cell, y1, y2, y3, y4, y5, y6, y7, -⟩
    · exact ⟨cf, kf, fi, f, a, cell, y1, y2, y3, y4, y5, y6, Or.inl y7⟩
    · exact ⟨cf, kf, fi, f, a, cell, y1, y2, y3, y4, y5, y6, Or.inr ⟨t7, y7⟩⟩
  obtain ⟨cf7, k7, fi7, f7, a7, c7, z71, z72, z73, z74, z75, z76, z77⟩ := hq7
  -- the text of words
  obtain ⟨adK, adV, hS, hev⟩ := vk_Sof (N := 1) (tm := fun _ => zs_tm) (len := [141]) (byt := [zs_by]) (A := fun _ => False) (fun i hi => by
      match i, hi with
      | 0, _ => decide) (fun _ _ => zs_at hgv (i := 41) (c := .exactly zs_tm "java/lang/String") (by decide +kernel)) (fun _ _ => zs_at hgv (i := 42) (c := .eq (.field zs_tm "java/lang/String" "coder" "B") (.int 0)) (by decide +kernel)) (fun _ _ => zs_at hgv (i := 43) (c := .arrayOf (.field zs_tm "java/lang/String" "value" "[B") .byte) (by decide +kernel))
    (fun i hi => by
      match i, hi with
      | 0, _ => exact zs_at hgv (i := 44) (c := .eq (.length (.field zs_tm "java/lang/String" "value" "[B")) (.int (Int32.ofNat 141))) (by decide +kernel))
    (fun i hi j hj => by
      match i, hi with
      | 0, _ => exact zs_at hgv (i := 45 + j) (zs_by_ok j hj))
    (fun i j hi hj hij => absurd (show i = j by omega) hij) hA
  obtain ⟨o1, o2, o3, o4⟩ := hS.1 0 (by decide)
  obtain ⟨cq, q1, q2, q3, -⟩ := o1
  obtain ⟨cfc, kc, ic, fc, cellc, w1, w2, w3, w4, w5, -⟩ := o2
  obtain ⟨cfv, kv, iv, fv, cellv, v1, v2, v3, v4, v5, -⟩ := o3
  have ec : cellc = cq := Option.some.inj (w3.symm.trans q1)
  have ev : cellv = cq := Option.some.inj (v3.symm.trans q1)
  subst ec
  subst ev
  obtain ⟨c2, e21, e22, e23⟩ := zs_tab (N := 141) (g := fun j => (zs_by.getD j 0).toInt) o4 (by decide) (fun j hj => ⟨congrArg Value.int (zs_by_in j hj).1, zf_in (by have := (zs_by_in j hj).2.1; omega) (by have := (zs_by_in j hj).2.2; omega)⟩)
  have hR : vk_R "AnswerDays$Tape" 46 zf_W (adK 0) s := vk_R.of (A := #[Value.ref b]) (hts (.stringRef "AnswerDays$Tape" 46 zf_W) (List.mem_of_getElem? (i := 698) (by decide +kernel))) (hev 0 (by decide))
  -- the script
  obtain ⟨scr, x1, x2, x3, x4, x5⟩ := hX
  refine ⟨(zs_A1 t (adK 0) (adV 0) b L a5 a6 a7 f5.slot f6.slot f7.slot fv.slot fc.slot xs, zs_A2 c0 cellv c2 scr c5 c6 c7), ⟨⟨⟨⟨z57, zs_unk z56⟩, ⟨z67, zs_unk z66⟩, z77, zs_unk z76⟩, ⟨v5, w5, w4, q2⟩, e03, ⟨_, e23, fun j hj => ⟨(zs_by_in j hj).2.1, (zs_by_in j hj).2.2, zs_by_cC j hj⟩⟩, ⟨x3, ?_, ?_, ?_, ?_⟩, hL⟩, ⟨⟨cf5, k5, fi5, f5, z51, z52, z53, z54, rfl⟩, ⟨cf6, k6, fi6, f6, z61, z62, z63, z64, rfl⟩, ⟨cf7, k7, fi7, f7, z71, z72, z73, z74, rfl⟩⟩, ⟨hR, ⟨cfv, kv, iv, fv, v1, v2, rfl⟩, ⟨cfc, kc, ic, fc, w1, w2, rfl⟩, q3⟩, e02, e22, x2⟩, ?_, rfl, rfl⟩
  · show L ≤ scr.slots.size; omega
  · show scr.slots.size.toInt32 = Int32.ofNat L; rw [x4]
  · show L < 2 ^ 31; omega
  · intro j hj
    have hj : j < L := hj
    have e : zf_sc (zs_A1 t (adK 0) (adV 0) b L a5 a6 a7 f5.slot f6.slot f7.slot fv.slot fc.slot xs) j = (xs j).toInt := by
      unfold zf_sc zs_A1
      rw [show Nat.ble 1000 (1000 + j) = true from Nat.ble_eq_true_of_le (Nat.le_add_right _ _)]
      simp only [cond_true, Nat.add_sub_cancel_left]
      have l1 := Int32.le_toInt (xs j)
      omega
    show scr.slots[j]? = some (.int (Int32.ofInt (zf_sc _ j))) ∧ zq_in 0 (zf_sc _ j)
    rw [e, Int32.ofInt_toInt]
    refine ⟨x5 j hj, zf_in ?_ ?_⟩
    · have := Int32.le_toInt (xs j); omega
    · have := Int32.toInt_le (xs j); rw [show Int32.maxValue.toInt = 2147483647 from by decide] at this; omega
  · intro x hx
    rcases List.mem_cons.mp hx with rfl | hx
    · exact e01
    rcases List.mem_cons.mp hx with rfl | hx
    · exact q1
    rcases List.mem_cons.mp hx with rfl | hx
    · exact e21
    rcases List.mem_cons.mp hx with rfl | hx
    · exact x1
    rcases List.mem_cons.mp hx with rfl | hx
    · exact z55
    rcases List.mem_cons.mp hx with rfl | hx
    · exact z65
    rw [List.mem_singleton.mp hx]
    exact z75

theorem zs_NW {args : Array Value} {s : State} (hts : ∀ w ∈ lw_tbl, w.before args s = true) : ∀ x ∈ zi_NW, va_Nw x s := by
  have h : ∀ x ∈ zi_NW, x ∈ lw_tbl ∧ x.onTables = true := List.forall_mem_cons.mpr ⟨⟨List.mem_of_getElem? (i := 138) (by decide +kernel), rfl⟩, List.forall_mem_cons.mpr ⟨⟨List.mem_of_getElem? (i := 174) (by decide +kernel), rfl⟩, List.forall_mem_cons.mpr ⟨⟨List.mem_of_getElem? (i := 343) (by decide +kernel), rfl⟩, List.forall_mem_cons.mpr ⟨⟨List.mem_of_getElem? (i := 371) (by decide +kernel), rfl⟩, List.forall_mem_cons.mpr ⟨⟨List.mem_of_getElem? (i := 633) (by decide +kernel), rfl⟩, List.forall_mem_cons.mpr ⟨⟨List.mem_of_getElem? (i := 796) (by decide +kernel), rfl⟩, List.forall_mem_cons.mpr ⟨⟨List.mem_of_getElem? (i := 817) (by decide +kernel), rfl⟩, List.forall_mem_cons.mpr ⟨⟨List.mem_of_getElem? (i := 870) (by decide +kernel), rfl⟩, List.forall_mem_cons.mpr ⟨⟨List.mem_of_getElem? (i := 895) (by decide +kernel), rfl⟩, List.forall_mem_cons.mpr ⟨⟨List.mem_of_getElem? (i := 904) (by decide +kernel), rfl⟩, fun _ h => absurd h List.not_mem_nil⟩⟩⟩⟩⟩⟩⟩⟩⟩⟩
  exact fun x hx => va_Nw.of (h x hx).2 (hts x (h x hx).1)
