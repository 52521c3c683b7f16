/-! FIXED CELLS. Addresses: 0 the table of the most, 1 the text of words, 2 its bytes, 3 the script, 4 how long it is, 5 6 7 the statics of AnswerDays, String, Preconditions; slots: 10 11 12 of the statics, 13 14 value and coder -/
abbrev zf_A : Type := (Nat → Nat) × (Nat → Cell)
noncomputable def zf_FC (A : zf_A) : zq_FC := [(A.1 0, A.2 0), (A.1 1, A.2 1), (A.1 2, A.2 2), (A.1 3, A.2 3), (A.1 5, A.2 5), (A.1 6, A.2 6), (A.1 7, A.2 7)]
noncomputable def zf_W : String := "doer sign kind worth place date week mood day done latest even balance clock answers owes bars do pay wind pass by to at times if or and not "
/-- an array of N ints as f tells -/
noncomputable def zf_ar (c : Cell) (N : Nat) (f : Nat → Int) : Prop := c.vm ≠ .unknown ∧ N ≤ c.slots.size ∧ c.slots.size.toInt32 = Int32.ofNat N ∧ N < 2 ^ 31 ∧ ∀ j, j < N → c.slots[j]? = some (.int (Int32.ofInt (f j))) ∧ zq_in 0 (f j)
noncomputable def zf_P1 (A : zf_A) : Prop := ((A.2 5).slots[A.1 10]? = some (.ref (A.1 0)) ∧ (A.2 5).vm ≠ .unknown) ∧ ((A.2 6).slots[A.1 11]? = some (.int 1) ∧ (A.2 6).vm ≠ .unknown) ∧ (((A.2 7).slots[A.1 12]? = some .null ∨ ∃ t : Nat, (A.2 7).slots[A.1 12]? = some (.ref t)) ∧ (A.2 7).vm ≠ .unknown)
noncomputable def zf_P2 (A : zf_A) : Prop := (A.2 1).slots[A.1 13]? = some (.ref (A.1 2)) ∧ (A.2 1).slots[A.1 14]? = some (.int 0) ∧ (A.2 1).vm ≠ .unknown ∧ (A.2 1).vm.isStatics = false
noncomputable def zf_mo (j : Nat) : Int := match j with
  | 0 => 999
  | 1 => 10
  | _ => 9
/-- the script's numbers stand from 1000 on -/
noncomputable def zf_sc (A0 : Nat → Nat) (j : Nat) : Int := (A0 (1000 + j) : Int) - 2147483648
noncomputable def zf_P3 (A : zf_A) : Prop := zf_ar (A.2 0) 3 zf_mo ∧ (∃ f, zf_ar (A.2 2) 141 f ∧ ∀ j, j < 141 → 32 ≤ f j ∧ f j ≤ 121 ∧ f j = zu_cC.getD j 0) ∧ zf_ar (A.2 3) (A.1 4) (zf_sc A.1) ∧ A.1 4 ≤ 3072
noncomputable def zf_S1 (A : zf_A) (U : State) : Prop := zq_Zv ("AnswerDays", "MOST_OF_TERM", "[I", A.1 5, A.1 10) U ∧ zq_Zv ("java/lang/String", "COMPACT_STRINGS", "Z", A.1 6, A.1 11) U ∧ zq_Zv ("jdk/internal/util/Preconditions", "SIOOBE_FORMATTER", "Ljava/util/function/BiFunction;", A.1 7, A.1 12) U
noncomputable def zf_S2 (A : zf_A) (U : State) : Prop := vk_R "AnswerDays$Tape" 46 zf_W (A.1 1) U ∧ zq_Iv ("java/lang/String", "value", "[B", A.1 13) U ∧ zq_Iv ("java/lang/String", "coder", "B", A.1 14) U ∧ U.vm.findClass "java/lang/String" = some (A.2 1).cls
noncomputable def zf_S3 (A : zf_A) (U : State) : Prop := U.isArrayOf (A.2 0) .int ∧ U.isArrayOf (A.2 2) .byte ∧ U.isArrayOf (A.2 3) .int
noncomputable def zf_S (A : zf_A) (U : State) : Prop := (zf_P1 A ∧ zf_P2 A ∧ zf_P3 A) ∧ zf_S1 A U ∧ zf_S2 A U ∧ zf_S3 A U
noncomputable def zf_AO (A : zf_A) : zq_Ao := (["AnswerDays$Text", "AnswerDays$Land"], zf_FC A, zf_S A)
theorem zf_moved {A : zf_A} {s U : State} (hvm : s.vm.Alike U.vm) (hR : vk_R "AnswerDays$Tape" 46 zf_W (A.1 1) U) (h : zf_S A s) : zf_S A U := by
  obtain ⟨h0, ⟨a1, a2, a3⟩, ⟨-, b2, b3, b4⟩, c1, c2, c3⟩ := h
  exact ⟨h0, ⟨a1.moved hvm, a2.moved hvm, a3.moved hvm⟩, ⟨hR, b2.moved hvm, b3.moved hvm, by rw [hvm.findClass]; exact b4⟩, State.isArrayOf_alike hvm c1, State.isArrayOf_alike hvm c2, State.isArrayOf_alike hvm c3⟩
theorem zf_okN {NW : List Cond} {A : zf_A} (h : NW.all zq_nwk = true) : zq_okN NW (zf_AO A) :=
  ⟨h, fun _ _ hW z => zf_moved hW.alike (z.2.2.1.1.warm hW) z, fun _ _ hv z => zf_moved (by rw [hv]; exact Vm.Alike.refl _) (z.2.2.1.1.same hv.symm) z⟩
noncomputable def zf_FX : zq_FX := [(80, []), (81, []), (82, []), (83, []), (84, [])]
theorem zf_FXok {w : zq_Wd} {A0 : Nat → Nat} (hX : w.2.2.2.2 = zX A0) : zq_okFX w zf_FX := by
  intro x hx as P P' h h' hP hq
  rw [hX]
  rcases List.mem_cons.mp hx with rfl | hx
  · exact fun z => z
  rcases List.mem_cons.mp hx with rfl | hx
  · exact fun z => z
  rcases List.mem_cons.mp hx with rfl | hx
  · exact fun z => z
  rcases List.mem_cons.mp hx with rfl | hx
  · exact fun z => z
  rw [List.mem_singleton.mp hx]
  exact fun z => z
theorem zf_in {v : Int} (h1 : -2147483648 ≤ v) (h2 : v ≤ 2147483647) : zq_in 0 v := ⟨h1, h2⟩
theorem zf_ix {i : Int} {N : Nat} (h0 : 0 ≤ i) (h1 : i < N) (hN : N < 2 ^ 31) : ¬ Int32.ofInt i < 0 ∧ (Int32.ofInt i).toNatClampNeg = i.toNat := by
  have e : (Int32.ofInt i).toInt = i := zq_o32 ⟨by show -2147483648 ≤ _; omega, by show _ ≤ 2147483647; omega⟩
  refine ⟨fun z => ?_, ?_⟩
  · have := Int32.lt_iff_toInt_lt.mp z
    rw [e] at this
    have e0 : (0 : Int32).toInt = 0 := rfl
    omega
  · show (Int32.ofInt i).toInt.toNat = _
    rw [e]
theorem zf_ald {c : Cell} {N : Nat} {f : Nat → Int} (h : zf_ar c N f) {i : Int} (h0 : 0 ≤ i) (h1 : i < N) : ¬ (Int32.ofInt i < 0 ∨ c.slots.size ≤ (Int32.ofInt i).toNatClampNeg) ∧ c.slots[(Int32.ofInt i).toNatClampNeg]? = some (.int (Int32.ofInt (f i.toNat))) := by
  obtain ⟨-, k2, -, k4, k5⟩ := h
  obtain ⟨a, b⟩ := zf_ix h0 h1 k4
  rw [b]
  refine ⟨?_, (k5 i.toNat (by omega)).1⟩
  rintro (z | z)
  · exact a z
  · omega
/-! contracts of instructions that look at them -/
noncomputable def zf_cR (id : Nat) : zq_Ct := (([], [], [], [], [], [], [], 0), [([(2, zq_v 0)], ([], [], [zq_v 0], [], [], [], [(id, [zq_v 0])], 1))], [])
noncomputable def zf_cI (v : Int) : zq_Ct := (([], [], [], [], [], [], [], 0), [([(0, zq_k v)], ([], [], [], [], [], [], [], 0))], [])
noncomputable def zf_cN : zq_Ct := (([], [], [], [], [], [], [], 0), [([(2, zq_v 0)], ([], [], [zq_addk (zq_v 0) 1], [], [], [], [], 1))], [])
noncomputable def zf_fR (id id' : Nat) : zq_Ct := (([(0, 2, zq_v 0)], [], [], [], [], [], [(id, [zq_v 0])], 1), [([(2, zq_v 1)], ([], [], [zq_v 1], [], [], [], [(id', [zq_v 1])], 2))], [])
noncomputable def zf_fI (id : Nat) (v : Int) : zq_Ct := (([(0, 2, zq_v 0)], [], [], [], [], [], [(id, [zq_v 0])], 1), [([(0, zq_k v)], ([], [], [], [], [], [], [], 1))], [])
noncomputable def zf_lB : zq_Ct := (([(0, 2, zq_v 0), (1, 0, zq_v 1)], [], [zq_v 1, zq_sub (zq_k 140) (zq_v 1)], [], [], [], [(82, [zq_v 0])], 2), [([(0, zq_v 2)], ([], [], [zq_addk (zq_v 2) (-32), zq_sub (zq_k 121) (zq_v 2)], [], [], [], [(115, [zq_v 1, zq_v 2])], 3))], [])
noncomputable def zf_lM : zq_Ct := (([(0, 2, zq_v 0), (1, 0, zq_v 1)], [], [zq_v 1, zq_sub (zq_k 2) (zq_v 1)], [], [], [], [(80, [zq_v 0])], 2), [([(0, zq_k 999)], ([], [], [zq_sub (zq_k 0) (zq_v 1)], [], [], [], [], 2)), ([(0, zq_k 10)], ([], [], [zq_addk (zq_v 1) (-1), zq_sub (zq_k 1) (zq_v 1)], [], [], [], [], 2)), ([(0, zq_k 9)], ([], [], [zq_addk (zq_v 1) (-2)], [], [], [], [], 2))], [])
noncomputable def zf_sl : zq_Ct := (([(0, 2, zq_v 0)], [], [], [], [], [], [(83, [zq_v 0, zq_v 1])], 2), [([(0, zq_v 1)], ([], [], [zq_v 1, zq_sub (zq_k 3072) (zq_v 1)], [], [], [], [], 2))], [])
noncomputable def zf_sd : zq_Ct := (([(0, 2, zq_v 0), (1, 0, zq_v 1)], [], [zq_v 1, zq_addk (zq_sub (zq_v 2) (zq_v 1)) (-1)], [], [], [], [(83, [zq_v 0, zq_v 2])], 3), [([(0, zq_v 3)], ([], [], [zq_addk (zq_v 3) 2147483648, zq_sub (zq_k 2147483647) (zq_v 3)], [], [], [], [(84, [zq_v 1, zq_v 3])], 4))], [])
noncomputable def zf_se : zq_Ct := (([(0, 2, zq_v 0), (1, 0, zq_v 1)], [], [zq_v 1, zq_addk (zq_sub (zq_v 2) (zq_v 1)) (-1)], [], [], [], [(83, [zq_v 0, zq_v 2]), (84, [zq_v 1, zq_v 3])], 4), [([(0, zq_v 3)], ([], [], [], [], [], [], [], 4))], [])
section ZFC
variable {p : Program} {l : Launch} {e : Env} {R : Room} {s : State} {m : MethodId} {args : Array Value} {below : List Frame} {meth : Method} {c : Code} {Q : State → Prop} {cc : ByteArray} {nL cp : Nat} {own : String} {Ts : List Cond} {w : zq_Wd} {A : zf_A} {NW : List Cond}
theorem zf_kk {ct : zq_Ct} {i : Instr} {r r' : Nat → Int} {P : zq_Ty} {h : zq_H} {H : Heap} {locs : List Loc} {cells slots pc : Nat} {ls : Array Slot} {rest : List Value} {po : List (Nat × zq_L) × zq_S}
    (kk : ∀ po ∈ ct.2.1, ∀ (r' : Nat → Int) (P' : zq_Ty) (h' : zq_H) (H' : Heap) (L : List Loc), zq_ext ct.1.2.2.2.2.2.2.2 r r' → zq_okT r' po.2.2.2.2.2.2.2.2 po.1 → zq_MeS w r' P' h' H' po.2 → zq_Cf ct.2.2 r (zq_R0 r ct.1.2.2.2.2.2.1) P h H P' h' H' → (∀ q ∈ L, zq_A ct.2.2 P H (zq_R0 r ct.1.2.2.2.2.2.1) q.base) →
      W p l e R s m args below meth c H' (locs ++ L) (cells + 0) (slots + 0) Q (F0 m (pc + zq_iln i) ls (zq_sts r' po.1 ++ rest)))
    (hpo : po ∈ ct.2.1) (hx : zq_ext ct.1.2.2.2.2.2.2.2 r r') (ho : zq_okT r' po.2.2.2.2.2.2.2.2 po.1) (hMe : zq_MeS w r' P h H po.2) : W p l e R s m args below meth c H locs cells slots Q (F0 m (pc + zq_iln i) ls (zq_sts r' po.1 ++ rest)) := by
  have q := kk po hpo r' P h H [] hx ho hMe ⟨Nat.le_refl _, fun _ _ _ => rfl, fun _ _ z => z, fun _ _ _ _ _ => rfl, fun _ _ z => Or.inl z⟩ (fun _ z => by cases z)
  rw [List.append_nil] at q
  exact q
theorem zf_r2 {r : Nat → Int} {i t : Nat} (h : r i = (t : Int)) : zq_sts r [(2, zq_v i)] = [Value.ref t] := by
  show [zq_val 2 (zq_ev r (zq_v i))] = _
  rw [zq_ev_v, h, zq_val_of (Nat.le_refl 2)]
/-- a static field that holds a fixed reference -/
theorem zf_gsR {C n d : String} {id a slot t : Nat} {cell : Cell} {A0 : Nat → Nat} (hX : w.2.2.2.2 = zX A0) (hid : ∀ P h, zX A0 id [(t : Int)] P h) (hMc : zq_Mc p s m args c cc own Ts) (hl : Cond.fieldLink own cp C n d ∈ Ts) (hZ : zq_Zv (C, n, d, a, slot) s) (hm : (a, cell) ∈ zf_FC A) (hk : cell.vm ≠ .unknown) (hs : cell.slots[slot]? = some (.ref t)) :
    zq_CallW (zf_FC A) w p l e R s m args below meth c Q cc nL (.getstatic cp) (zf_cR id) 0 0 := by
  intro r P h H locs cells slots pc ls rest hoA hMe hFc hcat hls hc1 hc2 hdg kk
  obtain ⟨hexec, hb, hown, hts⟩ := hMc
  obtain ⟨cf, kf, fi, f, h1, h2, h3, h4, h5⟩ := hZ
  refine W.gets hexec hb hown (hts _ hl) h1 h2 h3 h4 (hFc _ hm).1 hk (by rw [h5]; exact hs) rfl hdg ?_
  have q := zf_kk kk (List.mem_singleton.mpr rfl) (r' := zq_up r 0 (t : Int)) (fun i hi => absurd hi (Nat.not_lt_zero _)) (zq_fa1 ⟨rfl, by show -1 ≤ zq_ev _ (zq_v 0); rw [zq_ev_v, zq_up_self]; omega⟩) (zq_MeS_mk rfl hMe.1 (zq_all_cons (by rw [zq_ev_v, zq_up_self]; omega) zq_all_nil) zq_fan zq_fan rfl (zq_fa1 (by rw [hX]; show zX A0 id [zq_ev _ (zq_v 0)] P h; rw [zq_ev_v, zq_up_self]; exact hid P h)))
  rw [zf_r2 (t := t) (zq_up_self _ _ _)] at q
  exact q
theorem zf_gsRN {C n d host : String} {id a slot t : Nat} {cell : Cell} {A0 : Nat → Nat} (hX : w.2.2.2.2 = zX A0) (hid : ∀ P h, zX A0 id [(t : Int)] P h) (hMc : zq_Mc p s m args c cc own Ts) (hl : va_Nw (.fieldLinkNest own cp C n d host) s) (hZ : zq_Zv (C, n, d, a, slot) s) (hm : (a, cell) ∈ zf_FC A) (hk : cell.vm ≠ .unknown) (hs : cell.slots[slot]? = some (.ref t)) :
    zq_CallW (zf_FC A) w p l e R s m args below meth c Q cc nL (.getstatic cp) (zf_cR id) 0 0 := by
  intro r P h H locs cells slots pc ls rest hoA hMe hFc hcat hls hc1 hc2 hdg kk
  obtain ⟨hexec, hb, hown, hts⟩ := hMc
  obtain ⟨cf, kf, fi, f, h1, h2, h3, h4, h5⟩ := hZ
  refine va_WgetsN hexec hb hown (va_Nw.use rfl hl) h1 h2 h3 h4 (hFc _ hm).1 hk (by rw [h5]; exact hs) rfl hdg ?_
  have q := zf_kk kk (List.mem_singleton.mpr rfl) (r' := zq_up r 0 (t : Int)) (fun i hi => absurd hi (Nat.not_lt_zero _)) (zq_fa1 ⟨rfl, by show -1 ≤ zq_ev _ (zq_v 0); rw [zq_ev_v, zq_up_self]; omega⟩) (zq_MeS_mk rfl hMe.1 (zq_all_cons (by rw [zq_ev_v, zq_up_self]; omega) zq_all_nil) zq_fan zq_fan rfl (zq_fa1 (by rw [hX]; show zX A0 id [zq_ev _ (zq_v 0)] P h; rw [zq_ev_v, zq_up_self]; exact hid P h)))
  rw [zf_r2 (t := t) (zq_up_self _ _ _)] at q
  exact q
/-- a static number -/
theorem zf_gsI {C n d : String} {a slot : Nat} {cell : Cell} {v : Int} (hv : zq_in 0 v) (hMc : zq_Mc p s m args c cc own Ts) (hl : Cond.fieldLink own cp C n d ∈ Ts) (hZ : zq_Zv (C, n, d, a, slot) s) (hm : (a, cell) ∈ zf_FC A) (hk : cell.vm ≠ .unknown) (hs : cell.slots[slot]? = some (.int (Int32.ofInt v))) :
    zq_CallW (zf_FC A) w p l e R s m args below meth c Q cc nL (.getstatic cp) (zf_cI v) 0 0 := by
  intro r P h H locs cells slots pc ls rest hoA hMe hFc hcat hls hc1 hc2 hdg kk
  obtain ⟨hexec, hb, hown, hts⟩ := hMc
  obtain ⟨cf, kf, fi, f, h1, h2, h3, h4, h5⟩ := hZ
  refine W.gets hexec hb hown (hts _ hl) h1 h2 h3 h4 (hFc _ hm).1 hk (by rw [h5]; exact hs) rfl hdg ?_
  have q := zf_kk kk (List.mem_singleton.mpr rfl) (r' := r) (fun i hi => rfl) (zq_fa1 ⟨rfl, by show zq_in 0 (zq_ev _ (zq_k v)); rw [zq_ev_k]; exact hv⟩) (zq_MeS_mk rfl hMe.1 zq_all_nil zq_fan zq_fan rfl zq_fan)
  rw [show zq_sts r [(0, zq_k v)] = [Value.int (Int32.ofInt v)] from by show [Value.int (Int32.ofInt (zq_ev r (zq_k v)))] = _; rw [zq_ev_k]] at q
  exact q
/-- a static reference of which nothing is known -/
theorem zf_gsN {C n d : String} {a slot : Nat} {cell : Cell} (hMc : zq_Mc p s m args c cc own Ts) (hl : Cond.fieldLink own cp C n d ∈ Ts) (hZ : zq_Zv (C, n, d, a, slot) s) (hm : (a, cell) ∈ zf_FC A) (hk : cell.vm ≠ .unknown) (hs : cell.slots[slot]? = some .null ∨ ∃ t : Nat, cell.slots[slot]? = some (.ref t)) :
    zq_CallW (zf_FC A) w p l e R s m args below meth c Q cc nL (.getstatic cp) zf_cN 0 0 := by
  intro r P h H locs cells slots pc ls rest hoA hMe hFc hcat hls hc1 hc2 hdg kk
  obtain ⟨hexec, hb, hown, hts⟩ := hMc
  obtain ⟨cf, kf, fi, f, h1, h2, h3, h4, h5⟩ := hZ
  have go : ∀ (z : Int) (v : Value), -1 ≤ z → zq_val 2 z = v → cell.slots[slot]? = some v → W p l e R s m args below meth c H locs cells slots Q (F0 m pc ls ((zq_sts r (zq_args zf_cN)).reverse ++ rest)) := by
    intro z v hz hv hs
    refine W.gets hexec hb hown (hts _ hl) h1 h2 h3 h4 (hFc _ hm).1 hk (by rw [h5]; exact hs) rfl hdg ?_
    have q := zf_kk kk (List.mem_singleton.mpr rfl) (r' := zq_up r 0 z) (fun i hi => absurd hi (Nat.not_lt_zero _)) (zq_fa1 ⟨rfl, by show -1 ≤ zq_ev _ (zq_v 0); rw [zq_ev_v, zq_up_self]; omega⟩) (zq_MeS_mk rfl hMe.1 (zq_all_cons (by rw [zq_ev_addk, zq_ev_v, zq_up_self]; omega) zq_all_nil) zq_fan zq_fan rfl zq_fan)
    rw [show zq_sts (zq_up r 0 z) [(2, zq_v 0)] = [v] from by show [zq_val 2 (zq_ev _ (zq_v 0))] = _; rw [zq_ev_v, zq_up_self, hv]] at q
    exact q
  rcases hs with hs | ⟨t, hs⟩
  · exact go (-1) .null (by omega) rfl hs
  · exact go (t : Int) (.ref t) (by omega) (zq_val_of (Nat.le_refl 2)) hs
/-- the text of words -/
theorem zf_ldS {tx : String} {id q0 : Nat} {A0 : Nat → Nat} (hX : w.2.2.2.2 = zX A0) (hid : ∀ P h, zX A0 id [(q0 : Int)] P h) (hMc : zq_Mc p s m args c cc own Ts) (hR : vk_R own cp tx q0 s) :
    zq_CallW (zf_FC A) w p l e R s m args below meth c Q cc nL (.ldc cp) (zf_cR id) 0 0 := by
  intro r P h H locs cells slots pc ls rest hoA hMe hFc hcat hls hc1 hc2 hdg kk
  obtain ⟨hexec, hb, hown, hts⟩ := hMc
  refine va_ldcS hexec hb hown hR hdg ?_
  have q := zf_kk kk (List.mem_singleton.mpr rfl) (r' := zq_up r 0 (q0 : Int)) (fun i hi => absurd hi (Nat.not_lt_zero _)) (zq_fa1 ⟨rfl, by show -1 ≤ zq_ev _ (zq_v 0); rw [zq_ev_v, zq_up_self]; omega⟩) (zq_MeS_mk rfl hMe.1 (zq_all_cons (by rw [zq_ev_v, zq_up_self]; omega) zq_all_nil) zq_fan zq_fan rfl (zq_fa1 (by rw [hX]; show zX A0 id [zq_ev _ (zq_v 0)] P h; rw [zq_ev_v, zq_up_self]; exact hid P h)))
  rw [zf_r2 (t := q0) (zq_up_self _ _ _)] at q
  exact q
/-- a field of a fixed object: a fixed reference; a number -/
theorem zf_gfR {C n d : String} {id id' a slot t : Nat} {cell : Cell} {A0 : Nat → Nat} (hX : w.2.2.2.2 = zX A0) (hid0 : ∀ z P h, zX A0 id [z] P h → z = (a : Int)) (hid : ∀ P h, zX A0 id' [(t : Int)] P h) (hMc : zq_Mc p s m args c cc own Ts) (hl : Cond.fieldLink own cp C n d ∈ Ts) (hZ : zq_Iv (C, n, d, slot) s) (hm : (a, cell) ∈ zf_FC A) (hk : cell.vm ≠ .unknown) (hs : cell.slots[slot]? = some (.ref t)) :
    zq_CallW (zf_FC A) w p l e R s m args below meth c Q cc nL (.getfield cp) (zf_fR id id') 0 0 := by
  intro r P h H locs cells slots pc ls rest hoA hMe hFc hcat hls hc1 hc2 hdg kk
  obtain ⟨hexec, hb, hown, hts⟩ := hMc
  obtain ⟨cf, kf, fi, f, h1, h2, h5⟩ := hZ
  have tk := (hMe.2.2.2.2.2 (id, [zq_v 0]) (List.mem_singleton.mpr rfl)).2
  rw [hX] at tk
  have e0 : r 0 = (a : Int) := by rw [← zq_ev_v r 0]; exact hid0 _ _ _ tk
  rw [show (zq_sts r (zq_args (zf_fR id id'))).reverse = [Value.ref a] from by show (zq_sts r [(2, zq_v 0)]).reverse = _; rw [zf_r2 e0]; rfl]
  refine W.getf hexec hb hown (hts _ hl) h1 h2 (hFc _ hm).1 hk (by rw [h5]; exact hs) rfl rfl hdg ?_
  have q := zf_kk kk (List.mem_singleton.mpr rfl) (r' := zq_up r 1 (t : Int)) (zq_up_ext r 1 (t : Int)) (zq_fa1 ⟨rfl, by show -1 ≤ zq_ev _ (zq_v 1); rw [zq_ev_v, zq_up_self]; omega⟩) (zq_MeS_mk rfl hMe.1 (zq_all_cons (by rw [zq_ev_v, zq_up_self]; omega) zq_all_nil) zq_fan zq_fan rfl (zq_fa1 (by rw [hX]; show zX A0 id' [zq_ev _ (zq_v 1)] P h; rw [zq_ev_v, zq_up_self]; exact hid P h)))
  rw [zf_r2 (t := t) (zq_up_self _ _ _)] at q
  exact q
theorem zf_gfI {C n d : String} {id a slot : Nat} {cell : Cell} {v : Int} {A0 : Nat → Nat} (hX : w.2.2.2.2 = zX A0) (hid0 : ∀ z P h, zX A0 id [z] P h → z = (a : Int)) (hv : zq_in 0 v) (hMc : zq_Mc p s m args c cc own Ts) (hl : Cond.fieldLink own cp C n d ∈ Ts) (hZ : zq_Iv (C, n, d, slot) s) (hm : (a, cell) ∈ zf_FC A) (hk : cell.vm ≠ .unknown) (hs : cell.slots[slot]? = some (.int (Int32.ofInt v))) :
    zq_CallW (zf_FC A) w p l e R s m args below meth c Q cc nL (.getfield cp) (zf_fI id v) 0 0 := by
  intro r P h H locs cells slots pc ls rest hoA hMe hFc hcat hls hc1 hc2 hdg kk
  obtain ⟨hexec, hb, hown, hts⟩ := hMc
  obtain ⟨cf, kf, fi, f, h1, h2, h5⟩ := hZ
  have tk := (hMe.2.2.2.2.2 (id, [zq_v 0]) (List.mem_singleton.mpr rfl)).2
  rw [hX] at tk
  have e0 : r 0 = (a : Int) := by rw [← zq_ev_v r 0]; exact hid0 _ _ _ tk
  rw [show (zq_sts r (zq_args (zf_fI id v))).reverse = [Value.ref a] from by show (zq_sts r [(2, zq_v 0)]).reverse = _; rw [zf_r2 e0]; rfl]
  refine W.getf hexec hb hown (hts _ hl) h1 h2 (hFc _ hm).1 hk (by rw [h5]; exact hs) rfl rfl hdg ?_
  have q := zf_kk kk (List.mem_singleton.mpr rfl) (r' := r) (fun i hi => rfl) (zq_fa1 ⟨rfl, by show zq_in 0 (zq_ev _ (zq_k v)); rw [zq_ev_k]; exact hv⟩) (zq_MeS_mk rfl hMe.1 zq_all_nil zq_fan zq_fan rfl zq_fan)
  rw [show zq_sts r [(0, zq_k v)] = [Value.int (Int32.ofInt v)] from by show [Value.int (Int32.ofInt (zq_ev r (zq_k v)))] = _; rw [zq_ev_k]] at q
  exact q
/-- a fixed array's length -/
theorem zf_al {id a N : Nat} {cell : Cell} {ty : FieldType} {f : Nat → Int} {A0 : Nat → Nat} (hX : w.2.2.2.2 = zX A0) (hid0 : ∀ z P h, zX A0 id [z] P h → z = (a : Int)) (hMc : zq_Mc p s m args c cc own Ts) (ha : s.isArrayOf cell ty) (hm : (a, cell) ∈ zf_FC A) (hs : zf_ar cell N f) :
    zq_CallW (zf_FC A) w p l e R s m args below meth c Q cc nL .arraylength (zf_fI id N) 0 0 := by
  intro r P h H locs cells slots pc ls rest hoA hMe hFc hcat hls hc1 hc2 hdg kk
  obtain ⟨hexec, hb, hown, hts⟩ := hMc
  have tk := (hMe.2.2.2.2.2 (id, [zq_v 0]) (List.mem_singleton.mpr rfl)).2
  rw [hX] at tk
  have e0 : r 0 = (a : Int) := by rw [← zq_ev_v r 0]; exact hid0 _ _ _ tk
  rw [show (zq_sts r (zq_args (zf_fI id N))).reverse = [Value.ref a] from by show (zq_sts r [(2, zq_v 0)]).reverse = _; rw [zf_r2 e0]; rfl]
  refine W.alen (n := Int32.ofNat N) hexec hb (hFc _ hm).1 ha hs.2.2.1 rfl rfl hdg ?_
  have hN := hs.2.2.2.1
  have q := zf_kk kk (List.mem_singleton.mpr rfl) (r' := r) (fun i hi => rfl) (zq_fa1 ⟨rfl, by show zq_in 0 (zq_ev _ (zq_k N)); rw [zq_ev_k]; exact ⟨by show -2147483648 ≤ _; omega, by show _ ≤ 2147483647; omega⟩⟩) (zq_MeS_mk rfl hMe.1 zq_all_nil zq_fan zq_fan rfl zq_fan)
  rw [show zq_sts r [(0, zq_k (N : Int))] = [Value.int (Int32.ofNat N)] from by show [Value.int (Int32.ofInt (zq_ev r (zq_k N)))] = _; rw [zq_ev_k]; rfl] at q
  exact q
theorem zf_st2 {r : Nat → Int} {a : Nat} (h : r 0 = (a : Int)) : (zq_sts r [(2, zq_v 0), (0, zq_v 1)]).reverse = [Value.int (Int32.ofInt (r 1)), Value.ref a] := by
  show [zq_val 0 (zq_ev r (zq_v 1)), zq_val 2 (zq_ev r (zq_v 0))] = _
  rw [zq_ev_v, zq_ev_v, h, zq_val_of (Nat.le_refl 2)]
  rfl
/-- a byte of the text of words -/
theorem zf_lBk {a : Nat} {cell : Cell} {f : Nat → Int} {A0 : Nat → Nat} (hX : w.2.2.2.2 = zX A0) (hid0 : A0 2 = a) (hMc : zq_Mc p s m args c cc own Ts) (ha : s.isArrayOf cell .byte) (hm : (a, cell) ∈ zf_FC A) (hs : zf_ar cell 141 f) (hf : ∀ j, j < 141 → 32 ≤ f j ∧ f j ≤ 121 ∧ f j = zu_cC.getD j 0) :
    zq_CallW (zf_FC A) w p l e R s m args below meth c Q cc nL .baload zf_lB 0 0 := by
  intro r P h H locs cells slots pc ls rest hoA hMe hFc hcat hls hc1 hc2 hdg kk
  obtain ⟨hexec, hb, hown, hts⟩ := hMc
  have tk := (hMe.2.2.2.2.2 (82, [zq_v 0]) (List.mem_singleton.mpr rfl)).2
  rw [hX] at tk
  have e0 : r 0 = (a : Int) := by
    have z : [zq_ev r (zq_v 0)] = [(A0 2 : Int)] := tk
    rw [zq_ev_v, hid0] at z
    exact List.head_eq_of_cons_eq z
  have c1 := zq_all_1 hMe.2.1.1
  have c2 := zq_all_1 (zq_all_t hMe.2.1.1)
  simp only [zq_ev_v, zq_ev_sub, zq_ev_k] at c1 c2
  obtain ⟨k1, k2⟩ := zf_ald hs c1 (show r 1 < ((141 : Nat) : Int) by omega)
  rw [show (zq_sts r (zq_args zf_lB)).reverse = _ from zf_st2 e0]
  refine W.bald hexec hb (hFc _ hm).1 ha hs.1 k1 k2 rfl rfl hdg ?_
  obtain ⟨f1, f2, f3⟩ := hf (r 1).toNat (by omega)
  have q := zf_kk kk (List.mem_singleton.mpr rfl) (r' := zq_up r 2 (f (r 1).toNat)) (zq_up_ext r 2 _) (zq_fa1 ⟨rfl, by show zq_in 0 (zq_ev _ (zq_v 2)); rw [zq_ev_v, zq_up_self]; exact ⟨by show -2147483648 ≤ _; omega, by show _ ≤ 2147483647; omega⟩⟩) (zq_MeS_mk rfl hMe.1 (zq_all_cons (by rw [zq_ev_addk, zq_ev_v, zq_up_self]; omega) (zq_all_cons (by rw [zq_ev_sub, zq_ev_k, zq_ev_v, zq_up_self]; omega) zq_all_nil)) zq_fan zq_fan rfl (zq_fa1 (by rw [hX]; show zu_CH (zq_ev (zq_up r 2 (f (r 1).toNat)) (zq_v 1)) (zq_ev (zq_up r 2 (f (r 1).toNat)) (zq_v 2)) P h; rw [zq_ev_v, zq_ev_v, zq_up_self, zq_up_ext r 2 _ 1 (by decide)]; exact ⟨c1, by omega, f3⟩)))
  rw [show zq_sts (zq_up r 2 (f (r 1).toNat)) [(0, zq_v 2)] = [Value.int (Int32.ofInt (f (r 1).toNat))] from by show [Value.int (Int32.ofInt (zq_ev _ (zq_v 2)))] = _; rw [zq_ev_v, zq_up_self]] at q
  exact q
/-- the most of a term -/
theorem zf_lMk {a : Nat} {cell : Cell} {A0 : Nat → Nat} (hX : w.2.2.2.2 = zX A0) (hid0 : A0 0 = a) (hMc : zq_Mc p s m args c cc own Ts) (ha : s.isArrayOf cell .int) (hm : (a, cell) ∈ zf_FC A) (hs : zf_ar cell 3 zf_mo) :
    zq_CallW (zf_FC A) w p l e R s m args below meth c Q cc nL .iaload zf_lM 0 0 := by
  intro r P h H locs cells slots pc ls rest hoA hMe hFc hcat hls hc1 hc2 hdg kk
  obtain ⟨hexec, hb, hown, hts⟩ := hMc
  have tk := (hMe.2.2.2.2.2 (80, [zq_v 0]) (List.mem_singleton.mpr rfl)).2
  rw [hX] at tk
  have e0 : r 0 = (a : Int) := by
    have z : [zq_ev r (zq_v 0)] = [(A0 0 : Int)] := tk
    rw [zq_ev_v, hid0] at z
    exact List.head_eq_of_cons_eq z
  have c1 := zq_all_1 hMe.2.1.1
  have c2 := zq_all_1 (zq_all_t hMe.2.1.1)
  simp only [zq_ev_v, zq_ev_sub, zq_ev_k] at c1 c2
  obtain ⟨k1, k2⟩ := zf_ald hs c1 (show r 1 < ((3 : Nat) : Int) by omega)
  rw [show (zq_sts r (zq_args zf_lM)).reverse = _ from zf_st2 e0]
  refine W.iald hexec hb (hFc _ hm).1 ha hs.1 k1 k2 rfl rfl hdg ?_
  have vk : ∀ v : Int, zq_sts r [(0, zq_k v)] = [Value.int (Int32.ofInt v)] := fun v => by
    show [Value.int (Int32.ofInt (zq_ev r (zq_k v)))] = _
    rw [zq_ev_k]
  have c : r 1 = 0 ∨ r 1 = 1 ∨ r 1 = 2 := by omega
  rcases c with c | c | c
  · have q := zf_kk kk (List.mem_cons_self ..) (r' := r) (fun i hi => rfl) (zq_fa1 ⟨rfl, by show zq_in 0 (zq_ev _ (zq_k 999)); rw [zq_ev_k]; exact zf_in (by decide) (by decide)⟩) (zq_MeS_mk rfl hMe.1 (zq_all_cons (by rw [zq_ev_sub, zq_ev_k, zq_ev_v]; omega) zq_all_nil) zq_fan zq_fan rfl zq_fan)
    rw [vk] at q
    rw [c]; exact q
  · have q := zf_kk kk (List.mem_cons_of_mem _ (List.mem_cons_self ..)) (r' := r) (fun i hi => rfl) (zq_fa1 ⟨rfl, by show zq_in 0 (zq_ev _ (zq_k 10)); rw [zq_ev_k]; exact zf_in (by decide) (by decide)⟩) (zq_MeS_mk rfl hMe.1 (zq_all_cons (by rw [zq_ev_addk, zq_ev_v]; omega) (zq_all_cons (by rw [zq_ev_sub, zq_ev_k, zq_ev_v]; omega) zq_all_nil)) zq_fan zq_fan rfl zq_fan)
    rw [vk] at q
    rw [c]; exact q
  · have q := zf_kk kk (List.mem_cons_of_mem _ (List.mem_cons_of_mem _ (List.mem_cons_self ..))) (r' := r) (fun i hi => rfl) (zq_fa1 ⟨rfl, by show zq_in 0 (zq_ev _ (zq_k 9)); rw [zq_ev_k]; exact zf_in (by decide) (by decide)⟩) (zq_MeS_mk rfl hMe.1 (zq_all_cons (by rw [zq_ev_addk, zq_ev_v]; omega) zq_all_nil) zq_fan zq_fan rfl zq_fan)
    rw [vk] at q
    rw [c]; exact q
/-- the script's length, a number of it -/
theorem zf_slk {a N : Nat} {cell : Cell} {f : Nat → Int} {A0 : Nat → Nat} (hX : w.2.2.2.2 = zX A0) (hid0 : A0 3 = a) (hid4 : A0 4 = N) (hMc : zq_Mc p s m args c cc own Ts) (ha : s.isArrayOf cell .int) (hm : (a, cell) ∈ zf_FC A) (hs : zf_ar cell N f) (hN3 : N ≤ 3072) :
    zq_CallW (zf_FC A) w p l e R s m args below meth c Q cc nL .arraylength zf_sl 0 0 := by
  intro r P h H locs cells slots pc ls rest hoA hMe hFc hcat hls hc1 hc2 hdg kk
  obtain ⟨hexec, hb, hown, hts⟩ := hMc
  have tk := (hMe.2.2.2.2.2 (83, [zq_v 0, zq_v 1]) (List.mem_singleton.mpr rfl)).2
  rw [hX] at tk
  have z : [zq_ev r (zq_v 0), zq_ev r (zq_v 1)] = [(A0 3 : Int), (A0 4 : Int)] := tk
  rw [zq_ev_v, zq_ev_v, hid0, hid4] at z
  have e0 : r 0 = (a : Int) := List.head_eq_of_cons_eq z
  have e1 : r 1 = (N : Int) := List.head_eq_of_cons_eq (List.tail_eq_of_cons_eq z)
  rw [show (zq_sts r (zq_args zf_sl)).reverse = [Value.ref a] from by show (zq_sts r [(2, zq_v 0)]).reverse = _; rw [zf_r2 e0]; rfl]
  refine W.alen (n := Int32.ofNat N) hexec hb (hFc _ hm).1 ha hs.2.2.1 rfl rfl hdg ?_
  have q := zf_kk kk (List.mem_singleton.mpr rfl) (r' := r) (fun i hi => rfl) (zq_fa1 ⟨rfl, by show zq_in 0 (zq_ev _ (zq_v 1)); rw [zq_ev_v, e1]; exact ⟨by show -2147483648 ≤ _; omega, by show _ ≤ 2147483647; omega⟩⟩) (zq_MeS_mk rfl hMe.1 (zq_all_cons (by rw [zq_ev_v]; omega) (zq_all_cons (by rw [zq_ev_sub, zq_ev_k, zq_ev_v]; omega) zq_all_nil)) zq_fan zq_fan rfl zq_fan)
  rw [show zq_sts r [(0, zq_v 1)] = [Value.int (Int32.ofNat N)] from by show [Value.int (Int32.ofInt (zq_ev r (zq_v 1)))] = _; rw [zq_ev_v, e1]; rfl] at q
  exact q
theorem zf_sdk {a N : Nat} {cell : Cell} {A0 : Nat → Nat} (hX : w.2.2.2.2 = zX A0) (hid0 : A0 3 = a) (hid4 : A0 4 = N) (hMc : zq_Mc p s m args c cc own Ts) (ha : s.isArrayOf cell .int) (hm : (a, cell) ∈ zf_FC A) (hs : zf_ar cell N (zf_sc A0)) :
    zq_CallW (zf_FC A) w p l e R s m args below meth c Q cc nL .iaload zf_sd 0 0 := by
  intro r P h H locs cells slots pc ls rest hoA hMe hFc hcat hls hc1 hc2 hdg kk
  obtain ⟨hexec, hb, hown, hts⟩ := hMc
  have tk := (hMe.2.2.2.2.2 (83, [zq_v 0, zq_v 2]) (List.mem_singleton.mpr rfl)).2
  rw [hX] at tk
  have z : [zq_ev r (zq_v 0), zq_ev r (zq_v 2)] = [(A0 3 : Int), (A0 4 : Int)] := tk
  rw [zq_ev_v, zq_ev_v, hid0, hid4] at z
  have e0 : r 0 = (a : Int) := List.head_eq_of_cons_eq z
  have e1 : r 2 = (N : Int) := List.head_eq_of_cons_eq (List.tail_eq_of_cons_eq z)
  have c1 := zq_all_1 hMe.2.1.1
  have c2 := zq_all_1 (zq_all_t hMe.2.1.1)
  simp only [zq_ev_v, zq_ev_sub, zq_ev_addk] at c1 c2
  obtain ⟨k1, k2⟩ := zf_ald hs c1 (show r 1 < (N : Int) by omega)
  rw [show (zq_sts r (zq_args zf_sd)).reverse = _ from zf_st2 e0]
  refine W.iald hexec hb (hFc _ hm).1 ha hs.1 k1 k2 rfl rfl hdg ?_
  obtain ⟨-, f1, f2⟩ := hs.2.2.2.2 (r 1).toNat (by omega)
  have f1 : -2147483648 ≤ zf_sc A0 (r 1).toNat := f1
  have f2 : zf_sc A0 (r 1).toNat ≤ 2147483647 := f2
  have q := zf_kk kk (List.mem_singleton.mpr rfl) (r' := zq_up r 3 (zf_sc A0 (r 1).toNat)) (zq_up_ext r 3 _) (zq_fa1 ⟨rfl, by show zq_in 0 (zq_ev _ (zq_v 3)); rw [zq_ev_v, zq_up_self]; exact ⟨f1, f2⟩⟩) (zq_MeS_mk rfl hMe.1 (zq_all_cons (by rw [zq_ev_addk, zq_ev_v, zq_up_self]; omega) (zq_all_cons (by rw [zq_ev_sub, zq_ev_k, zq_ev_v, zq_up_self]; omega) zq_all_nil)) zq_fan zq_fan rfl (zq_fa1 (by
    rw [hX]
    show zq_en [zq_ev _ (zq_v 1), zq_ev _ (zq_v 3)] 1 + 2147483648 = (A0 (1000 + (zq_en [zq_ev _ (zq_v 1), zq_ev _ (zq_v 3)] 0).toNat) : Int)
    rw [zq_ev_v, zq_ev_v, zq_up_self]
    show zf_sc A0 (r 1).toNat + 2147483648 = (A0 (1000 + (r 1).toNat) : Int)
    unfold zf_sc
    omega)))
  rw [show zq_sts (zq_up r 3 (zf_sc A0 (r 1).toNat)) [(0, zq_v 3)] = [Value.int (Int32.ofInt (zf_sc A0 (r 1).toNat))] from by show [Value.int (Int32.ofInt (zq_ev _ (zq_v 3)))] = _; rw [zq_ev_v, zq_up_self]] at q
  exact q
theorem zf_sek {a N : Nat} {cell : Cell} {A0 : Nat → Nat} (hX : w.2.2.2.2 = zX A0) (hid0 : A0 3 = a) (hid4 : A0 4 = N) (hMc : zq_Mc p s m args c cc own Ts) (ha : s.isArrayOf cell .int) (hm : (a, cell) ∈ zf_FC A) (hs : zf_ar cell N (zf_sc A0)) :
    zq_CallW (zf_FC A) w p l e R s m args below meth c Q cc nL .iaload zf_se 0 0 := by
  intro r P h H locs cells slots pc ls rest hoA hMe hFc hcat hls hc1 hc2 hdg kk
  obtain ⟨hexec, hb, hown, hts⟩ := hMc
  have tk := (hMe.2.2.2.2.2 (83, [zq_v 0, zq_v 2]) (List.mem_cons_self ..)).2
  have tk4 := (hMe.2.2.2.2.2 (84, [zq_v 1, zq_v 3]) (List.mem_cons_of_mem _ (List.mem_cons_self ..))).2
  rw [hX] at tk4
  have tk4 : zq_ev r (zq_v 3) + 2147483648 = (A0 (1000 + (zq_ev r (zq_v 1)).toNat) : Int) := tk4
  rw [zq_ev_v, zq_ev_v] at tk4
  have e3 : zf_sc A0 (r 1).toNat = r 3 := by unfold zf_sc; omega
  rw [hX] at tk
  have z : [zq_ev r (zq_v 0), zq_ev r (zq_v 2)] = [(A0 3 : Int), (A0 4 : Int)] := tk
  rw [zq_ev_v, zq_ev_v, hid0, hid4] at z
  have e0 : r 0 = (a : Int) := List.head_eq_of_cons_eq z
  have e1 : r 2 = (N : Int) := List.head_eq_of_cons_eq (List.tail_eq_of_cons_eq z)
  have c1 := zq_all_1 hMe.2.1.1
  have c2 := zq_all_1 (zq_all_t hMe.2.1.1)
  simp only [zq_ev_v, zq_ev_sub, zq_ev_addk] at c1 c2
  obtain ⟨k1, k2⟩ := zf_ald hs c1 (show r 1 < (N : Int) by omega)
  rw [show (zq_sts r (zq_args zf_se)).reverse = _ from zf_st2 e0]
  refine W.iald hexec hb (hFc _ hm).1 ha hs.1 k1 k2 rfl rfl hdg ?_
  obtain ⟨-, f1, f2⟩ := hs.2.2.2.2 (r 1).toNat (by omega)
  have f1 : -2147483648 ≤ zf_sc A0 (r 1).toNat := f1
  have f2 : zf_sc A0 (r 1).toNat ≤ 2147483647 := f2
  rw [e3] at f1 f2 ⊢
  have q := zf_kk kk (List.mem_singleton.mpr rfl) (r' := r) (fun i hi => rfl) (zq_fa1 ⟨rfl, by show zq_in 0 (zq_ev _ (zq_v 3)); rw [zq_ev_v]; exact ⟨f1, f2⟩⟩) (zq_MeS_mk rfl hMe.1 zq_all_nil zq_fan zq_fan rfl zq_fan)
  rw [show zq_sts r [(0, zq_v 3)] = [Value.int (Int32.ofInt (r 3))] from by show [Value.int (Int32.ofInt (zq_ev r (zq_v 3)))] = _; rw [zq_ev_v]] at q
  exact q
/-- a call on the text of words -/
noncomputable def zf_rcv (ct : zq_Ct) : Bool := match zq_args ct with
  | (2, er) :: _ => ct.1.2.2.2.2.2.2.1.any (fun x => Nat.beq x.1 81 && zq_eqs x.2 [er])
  | _ => false
theorem zf_rcv_ok {ct : zq_Ct} {r : Nat → Int} {P : zq_Ty} {h : zq_H} {H : Heap} {A0 : Nat → Nat} (hX : w.2.2.2.2 = zX A0) (hr : zf_rcv ct = true) (hMe : zq_MeS w r P h H ct.1) : ∃ (er : zq_L) (tl : List (Nat × zq_L)), zq_args ct = (2, er) :: tl ∧ zq_ev r er = (A0 1 : Int) := by
  unfold zf_rcv at hr
  split at hr
  · rename_i er tl heq
    obtain ⟨x, hx, hq⟩ := List.any_eq_true.mp hr
    simp only [Bool.and_eq_true] at hq
    have tk := (hMe.2.2.2.2.2 x hx).2
    rw [hX, Nat.eq_of_beq_eq_true hq.1, zq_eqs_ok hq.2] at tk
    have z : [zq_ev r er] = [(A0 1 : Int)] := tk
    exact ⟨er, tl, heq, List.head_eq_of_cons_eq z⟩
  · cases hr
theorem zf_mkV {n maxL mc ms : Nat} {c0 : Cond} {R rmc : Room} {ct : zq_Ct} {y : MethodName} {ret : Option FieldType} {bytes : ByteArray} (hX : w.2.2.2.2 = zX A.1) (hM : zq_Met l w NW (zf_AO A) y (Cond.code y bytes maxL ret :: zt) rmc ct mc ms) (hk : Cond.code y bytes maxL ret ∈ zt) (hN : zq_okN NW (zf_AO A)) (hl : Cond.methodLink own cp y ∈ zt) (hin : Cond.instanceMethod y ∈ zt) (hsel : Cond.selects "java/lang/String" y y ∈ zt) (hini : Cond.initialized y.cls ∈ zt) (hp : zq_pn y n = true) (hrv : zf_rcv ct = true) (hc : zq_cb ct R rmc maxL mc ms (n + 1) = true) :
    zq_Cl l w NW (zf_AO A) own cc nL (c0 :: zt) R (.invokevirtual cp) ct mc ms := by
  intro p e s m args below meth c Q hMc hml hK hNz
  simp only [zq_cb, Bool.and_eq_true] at hc
  obtain ⟨h1, h2, h3, h4, h5, h6, h7⟩ := hc
  refine ⟨h1, ?_⟩
  intro r P h H locs cells slots pc ls rest hoA hMe hFc hcat hls hc1 hc2 hdg kk
  obtain ⟨hexec, hb, hown, hts⟩ := hMc
  obtain ⟨er, tl, hargs, ha⟩ := zf_rcv_ok hX hrv hMe
  have hS := hNz.2.2
  have hcell : ∃ cell : Cell, H[A.1 1]? = some cell ∧ cell.vm.isStatics = false ∧ s.vm.findClass "java/lang/String" = some cell.cls := ⟨A.2 1, (hFc (A.1 1, A.2 1) (List.mem_cons_of_mem _ (List.mem_cons_self ..))).1, hS.1.2.1.2.2.2, hS.2.2.1.2.2.2⟩
  have hst : zq_sts r (zq_args ct) = .ref (A.1 1) :: zq_sts r tl := by
    rw [hargs]
    show zq_val 2 (zq_ev r er) :: zq_sts r tl = _
    rw [ha, zq_val_of (Nat.le_refl 2)]
  rw [hst, List.reverse_cons, List.append_assoc]
  have hd := zq_pn_ok hp
  have hn : n = tl.length := by
    have := Nat.eq_of_beq_eq_true h3
    rw [hargs] at this
    simp at this; omega
  rw [hn] at hd
  refine zq_runW (zq_one_ok h2) (va_runV (As := zq_sts r tl) (b := A.1 1) (Pc := zq_Pc w NW (zf_AO A) ct r P h H) (n := tl.length) (C := "java/lang/String") ⟨hexec, hb, hml, hown, hts⟩ (hM r P h H) ⟨callB_of _ hts (zt_goodIn hk) rfl (Nat.eq_of_beq_eq_true h4) (Nat.eq_of_beq_eq_true h5) (hts _ (zt_cons _ hini)) (hts _ (zt_cons _ hl)) hd ⟨Nat.le_of_ble_eq_true h6, Nat.le_of_ble_eq_true h7⟩, hts _ (zt_cons _ hin), hts _ (zt_cons _ hsel)⟩ ⟨zq_blind hN, hcell, fun U hU hW => ⟨by rw [hst], hU, va_K.moved hW.alike hK, hNz.moved hN hW, hoA, hMe, hFc⟩⟩ rfl (by unfold zq_sts; rw [List.length_map]) hls rfl (lv_room hcat) hdg ⟨hc1, hc2⟩) kk
end ZFC
/-! the same for whoever calls -/
theorem zf_m0 {A : zf_A} : (A.1 0, A.2 0) ∈ zf_FC A := by simp [zf_FC]
theorem zf_m1 {A : zf_A} : (A.1 1, A.2 1) ∈ zf_FC A := by simp [zf_FC]
theorem zf_m2 {A : zf_A} : (A.1 2, A.2 2) ∈ zf_FC A := by simp [zf_FC]
theorem zf_m3 {A : zf_A} : (A.1 3, A.2 3) ∈ zf_FC A := by simp [zf_FC]
theorem zf_m5 {A : zf_A} : (A.1 5, A.2 5) ∈ zf_FC A := by simp [zf_FC]
theorem zf_m6 {A : zf_A} : (A.1 6, A.2 6) ∈ zf_FC A := by simp [zf_FC]
theorem zf_m7 {A : zf_A} : (A.1 7, A.2 7) ∈ zf_FC A := by simp [zf_FC]
section ZFK
variable {l : Launch} {w : zq_Wd} {NW : List Cond} {A : zf_A} {own host : String} {cc : ByteArray} {nL : Nat} {c0 : Cond} {R : Room} {cp : Nat}
theorem zf_k1 (hX : w.2.2.2.2 = zX A.1) (hl : Cond.fieldLink own cp "AnswerDays" "MOST_OF_TERM" "[I" ∈ zt) : zq_Cl l w NW (zf_AO A) own cc nL (c0 :: zt) R (.getstatic cp) (zf_cR 80) 0 0 :=
  fun _ _ _ _ _ _ _ _ _ hMc _ _ hNz => ⟨rfl, zf_gsR hX (fun _ _ => rfl) hMc (zt_cons _ hl) hNz.2.2.2.1.1 zf_m5 hNz.2.2.1.1.1.2 hNz.2.2.1.1.1.1⟩
theorem zf_k1N (hX : w.2.2.2.2 = zX A.1) (hl : Cond.fieldLinkNest own cp "AnswerDays" "MOST_OF_TERM" "[I" host ∈ NW) : zq_Cl l w NW (zf_AO A) own cc nL (c0 :: zt) R (.getstatic cp) (zf_cR 80) 0 0 :=
  fun _ _ _ _ _ _ _ _ _ hMc _ _ hNz => ⟨rfl, zf_gsRN hX (fun _ _ => rfl) hMc (hNz.1 _ hl) hNz.2.2.2.1.1 zf_m5 hNz.2.2.1.1.1.2 hNz.2.2.1.1.1.1⟩
theorem zf_k2 (hl : Cond.fieldLink own cp "java/lang/String" "COMPACT_STRINGS" "Z" ∈ zt) : zq_Cl l w NW (zf_AO A) own cc nL (c0 :: zt) R (.getstatic cp) (zf_cI 1) 0 0 :=
  fun _ _ _ _ _ _ _ _ _ hMc _ _ hNz => ⟨rfl, zf_gsI (zf_in (by decide) (by decide)) hMc (zt_cons _ hl) hNz.2.2.2.1.2.1 zf_m6 hNz.2.2.1.1.2.1.2 hNz.2.2.1.1.2.1.1⟩
theorem zf_k3 (hl : Cond.fieldLink own cp "jdk/internal/util/Preconditions" "SIOOBE_FORMATTER" "Ljava/util/function/BiFunction;" ∈ zt) : zq_Cl l w NW (zf_AO A) own cc nL (c0 :: zt) R (.getstatic cp) zf_cN 0 0 :=
  fun _ _ _ _ _ _ _ _ _ hMc _ _ hNz => ⟨rfl, zf_gsN hMc (zt_cons _ hl) hNz.2.2.2.1.2.2 zf_m7 hNz.2.2.1.1.2.2.2 hNz.2.2.1.1.2.2.1⟩
theorem zf_k4 (hX : w.2.2.2.2 = zX A.1) : zq_Cl l w NW (zf_AO A) "AnswerDays$Tape" cc nL (c0 :: zt) R (.ldc 46) (zf_cR 81) 0 0 :=
  fun _ _ _ _ _ _ _ _ _ hMc _ _ hNz => ⟨rfl, zf_ldS hX (fun _ _ => rfl) hMc hNz.2.2.2.2.1.1⟩
theorem zf_k5 (hX : w.2.2.2.2 = zX A.1) (hl : Cond.fieldLink own cp "java/lang/String" "value" "[B" ∈ zt) : zq_Cl l w NW (zf_AO A) own cc nL (c0 :: zt) R (.getfield cp) (zf_fR 81 82) 0 0 :=
  fun _ _ _ _ _ _ _ _ _ hMc _ _ hNz => ⟨rfl, zf_gfR hX (fun _ _ _ q => List.head_eq_of_cons_eq q) (fun _ _ => rfl) hMc (zt_cons _ hl) hNz.2.2.2.2.1.2.1 zf_m1 hNz.2.2.1.2.1.2.2.1 hNz.2.2.1.2.1.1⟩
theorem zf_k6 (hX : w.2.2.2.2 = zX A.1) (hl : Cond.fieldLink own cp "java/lang/String" "coder" "B" ∈ zt) : zq_Cl l w NW (zf_AO A) own cc nL (c0 :: zt) R (.getfield cp) (zf_fI 81 0) 0 0 :=
  fun _ _ _ _ _ _ _ _ _ hMc _ _ hNz => ⟨rfl, zf_gfI hX (fun _ _ _ q => List.head_eq_of_cons_eq q) (zf_in (by decide) (by decide)) hMc (zt_cons _ hl) hNz.2.2.2.2.1.2.2.1 zf_m1 hNz.2.2.1.2.1.2.2.1 hNz.2.2.1.2.1.2.1⟩
theorem zf_k7 (hX : w.2.2.2.2 = zX A.1) : zq_Cl l w NW (zf_AO A) own cc nL (c0 :: zt) R .arraylength (zf_fI 82 141) 0 0 :=
  fun _ _ _ _ _ _ _ _ _ hMc _ _ hNz => ⟨rfl, by obtain ⟨f, hf, -⟩ := hNz.2.2.1.2.2.2.1; exact zf_al (N := 141) hX (fun _ _ _ q => List.head_eq_of_cons_eq q) hMc hNz.2.2.2.2.2.2.1 zf_m2 hf⟩
theorem zf_k8 (hX : w.2.2.2.2 = zX A.1) : zq_Cl l w NW (zf_AO A) own cc nL (c0 :: zt) R .baload zf_lB 0 0 :=
  fun _ _ _ _ _ _ _ _ _ hMc _ _ hNz => ⟨rfl, by obtain ⟨f, hf, hf2⟩ := hNz.2.2.1.2.2.2.1; exact zf_lBk hX rfl hMc hNz.2.2.2.2.2.2.1 zf_m2 hf hf2⟩
theorem zf_k9 (hX : w.2.2.2.2 = zX A.1) : zq_Cl l w NW (zf_AO A) own cc nL (c0 :: zt) R .iaload zf_lM 0 0 :=
  fun _ _ _ _ _ _ _ _ _ hMc _ _ hNz => ⟨rfl, zf_lMk hX rfl hMc hNz.2.2.2.2.2.1 zf_m0 hNz.2.2.1.2.2.1⟩
theorem zf_k10 (hX : w.2.2.2.2 = zX A.1) : zq_Cl l w NW (zf_AO A) own cc nL (c0 :: zt) R .arraylength zf_sl 0 0 :=
  fun _ _ _ _ _ _ _ _ _ hMc _ _ hNz => ⟨rfl, by obtain ⟨hf, hf2⟩ := hNz.2.2.1.2.2.2.2; exact zf_slk hX rfl rfl hMc hNz.2.2.2.2.2.2.2 zf_m3 hf hf2⟩
theorem zf_k11 (hX : w.2.2.2.2 = zX A.1) : zq_Cl l w NW (zf_AO A) own cc nL (c0 :: zt) R .iaload zf_sd 0 0 :=
  fun _ _ _ _ _ _ _ _ _ hMc _ _ hNz => ⟨rfl, by obtain ⟨hf, -⟩ := hNz.2.2.1.2.2.2.2; exact zf_sdk hX rfl rfl hMc hNz.2.2.2.2.2.2.2 zf_m3 hf⟩
theorem zf_k13 (hX : w.2.2.2.2 = zX A.1) : zq_Cl l w NW (zf_AO A) own cc nL (c0 :: zt) R .iaload zf_se 0 0 :=
  fun _ _ _ _ _ _ _ _ _ hMc _ _ hNz => ⟨rfl, by obtain ⟨hf, -⟩ := hNz.2.2.1.2.2.2.2; exact zf_sek hX rfl rfl hMc hNz.2.2.2.2.2.2.2 zf_m3 hf⟩
end ZFK
/-! Object.<init> -/
noncomputable def zf_oi : zq_Ct := (([(0, 2, zq_v 0)], [], [zq_v 0], [], [], [], [], 1), [([], ([], [], [], [], [], [], [], 1))], [])
theorem zf_k12 {l : Launch} {w : zq_Wd} {NW : List Cond} {AO : zq_Ao} {own : String} {cc : ByteArray} {nL cp : Nat} {c0 : Cond} {R : Room} (hl : Cond.methodLink own cp Lib.objectInit ∈ zt) (hin : Cond.instanceMethod Lib.objectInit ∈ zt) (hc : Cond.code Lib.objectInit ⟨#[0xb1]⟩ 1 none ∈ zt) (hR : (Nat.ble 1 R.frames && Nat.ble 20 R.locals) = true) : zq_Cl l w NW AO own cc nL (c0 :: zt) R (.invokespecial cp) zf_oi 0 0 := by
  intro p e s m args below meth c Q hMc hml hK hNz
  refine ⟨rfl, ?_⟩
  intro r P h H locs cells slots pc ls rest hoA hMe hFc hcat hls hc1 hc2 hdg kk
  obtain ⟨hexec, hb, hown, hts⟩ := hMc
  simp only [Bool.and_eq_true] at hR
  have r1 := Nat.le_of_ble_eq_true hR.1
  have r2 := Nat.le_of_ble_eq_true hR.2
  have a0 := zq_all_1 hMe.2.1.1
  rw [zq_ev_v] at a0
  rw [show (zq_sts r (zq_args zf_oi)).reverse = [Value.ref (r 0).toNat] from by show (zq_sts r [(2, zq_v 0)]).reverse = _; rw [zf_r2 (t := (r 0).toNat) (by omega)]; rfl]
  refine W.objInit hexec hb hown (hts _ (zt_cons _ hl)) (hts _ (zt_cons _ hin)) (hts _ (zt_cons _ hc)) rfl (by rw [hml]; exact hls) rfl hdg r1 ?_ ?_
  · show 2 * 0 + (rest.map fun v => v.category).sum + 12 ≤ R.locals
    omega
  · have q := zf_kk kk (List.mem_singleton.mpr rfl) (r' := r) (fun i hi => rfl) (fun x hx => by cases hx) (zq_MeS_mk rfl hMe.1 zq_all_nil zq_fan zq_fan rfl zq_fan)
    exact q
theorem zq_ckC_app {cc : ByteArray} : ∀ {a b : zq_Cd}, zq_ckC cc a = true → zq_ckC cc b = true → zq_ckC cc (a ++ b) = true
  | [], _, _, h => h
  | x :: a, b, h1, h2 => by
    rw [List.cons_append]
    unfold zq_ckC at h1 ⊢
    rw [Bool.and_eq_true] at h1 ⊢
    exact ⟨h1.1, zq_ckC_app h1.2 h2⟩
