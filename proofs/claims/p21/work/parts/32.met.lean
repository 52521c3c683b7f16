/-! A METHOD'S CONTRACT out of what the checker accepts -/
/-- words that the kit carries beside the tables: links across a nest, classes of arrays of objects; beside: fixed cells, and what is known of the machine about them -/
abbrev zq_Ao : Type := List String × zq_FC × (State → Prop)
noncomputable def zq_Zv (z : String × String × String × Nat × Nat) (U : State) : Prop := ∃ (cf : ClassId) (kf : Class) (fi : Nat) (f : Field), U.fieldFound? z.1 z.2.1 z.2.2.1 = some (cf, kf, fi, f) ∧ f.isStatic = true ∧ kf.init = .initialized ∧ kf.statics = some z.2.2.2.1 ∧ f.slot = z.2.2.2.2
theorem zq_Zv.moved {z : String × String × String × Nat × Nat} {u U : State} (hvm : u.vm.Alike U.vm) (h : zq_Zv z u) : zq_Zv z U := by
  obtain ⟨cf, kf, fi, f, h1, h2, h3, h4, h5⟩ := h
  obtain ⟨k', hi', he⟩ := State.fieldFound?_setVm hvm h1
  exact ⟨cf, k', fi, f, hi', h2, by rw [he]; exact h3, by rw [he]; exact h4, h5⟩
noncomputable def zq_Iv (z : String × String × String × Nat) (U : State) : Prop := ∃ (cf : ClassId) (kf : Class) (fi : Nat) (f : Field), U.fieldFound? z.1 z.2.1 z.2.2.1 = some (cf, kf, fi, f) ∧ f.isStatic = false ∧ f.slot = z.2.2.2
theorem zq_Iv.moved {z : String × String × String × Nat} {u U : State} (hvm : u.vm.Alike U.vm) (h : zq_Iv z u) : zq_Iv z U := by
  obtain ⟨cf, kf, fi, f, h1, h2, h3⟩ := h
  obtain ⟨k', hi', he⟩ := State.fieldFound?_setVm hvm h1
  exact ⟨cf, k', fi, f, hi', h2, h3⟩
noncomputable def zq_Nz (NW : List Cond) (AO : zq_Ao) (U : State) : Prop := (∀ x ∈ NW, va_Nw x U) ∧ (∀ C ∈ AO.1, va_AO C U) ∧ AO.2.2 U
noncomputable def zq_nwk : Cond → Bool
  | .methodLinkNest .. => true
  | .fieldLinkNest .. => true
  | _ => false
noncomputable def zq_okN (NW : List Cond) (AO : zq_Ao) : Prop := NW.all zq_nwk = true ∧ (∀ s U : State, s.WarmedH U.vm → AO.2.2 s → AO.2.2 U) ∧ ∀ s U : State, s.vm = U.vm → AO.2.2 s → AO.2.2 U
theorem zq_Nz.moved {NW : List Cond} {AO : zq_Ao} {s U : State} (hN : zq_okN NW AO) (hW : s.WarmedH U.vm) (h : zq_Nz NW AO s) : zq_Nz NW AO U := by
  refine ⟨fun x hx => ?_, fun C hC => va_AO.moved hW.alike (h.2.1 C hC), hN.2.1 _ _ hW h.2.2⟩
  have hk := List.all_eq_true.mp hN.1 x hx
  have hz := h.1 x hx
  cases x <;> first | (simp [zq_nwk] at hk; done) | exact va_Nw.warmM hW hz | exact va_Nw.warmF hW hz
noncomputable def zq_Pc (w : zq_Wd) (NW : List Cond) (AO : zq_Ao) (ct : zq_Ct) (r : Nat → Int) (P : zq_Ty) (h : zq_H) (H0 : Heap) : Array Value → State → Prop := fun v U => v = (zq_sts r (zq_args ct)).toArray ∧ U.heap = H0 ∧ va_K w.1 w.2.1 w.2.2.1 U ∧ zq_Nz NW AO U ∧ zq_okT r ct.1.2.2.2.2.2.2.2 (zq_args ct) ∧ zq_MeS w r P h H0 ct.1 ∧ zq_Fc AO.2.1 P H0 (zq_R0 r ct.1.2.2.2.2.2.1)
noncomputable def zq_Qc (w : zq_Wd) (ct : zq_Ct) (r : Nat → Int) (P : zq_Ty) (h : zq_H) (H0 : Heap) : Array Value → State → Outcome → State → Prop := fun _ _ o t => ∃ po ∈ ct.2.1, ∃ (r' : Nat → Int) (P' : zq_Ty) (h' : zq_H), zq_ext ct.1.2.2.2.2.2.2.2 r r' ∧ o = .returned (zq_sts r' po.1).head? ∧ zq_okT r' po.2.2.2.2.2.2.2.2 po.1 ∧ zq_MeS w r' P' h' t.heap po.2 ∧ zq_Cf ct.2.2 r (zq_R0 r ct.1.2.2.2.2.2.1) P h H0 P' h' t.heap
noncomputable def zq_Met (l : Launch) (w : zq_Wd) (NW : List Cond) (AO : zq_Ao) (y : MethodName) (ws : List Cond) (rm : Room) (ct : zq_Ct) (mc ms : Nat) : Prop := ∀ (r : Nat → Int) (P : zq_Ty) (h : zq_H) (H0 : Heap), Met l y ws rm (zq_Pc w NW AO ct r P h H0) (zq_Qc w ct r P h H0) mc ms (zq_A ct.2.2 P H0 (zq_R0 r ct.1.2.2.2.2.2.1))
/-- places of the arguments -/
noncomputable def zq_argn : Nat → List (Nat × Nat × zq_L) → Bool
  | _, [] => true
  | i, x :: l => Nat.beq x.1 i && zq_argn (bif Nat.beq x.2.1 1 then i + 2 else i + 1) l
theorem zq_argn_ok {r : Nat → Int} : ∀ {l : List (Nat × Nat × zq_L)} {i : Nat}, zq_argn i l = true → lv_args i (zq_sts r (l.map Prod.snd)) = zq_lvs r l
  | [], _, _ => rfl
  | x :: l, i, h => by
    simp only [zq_argn, Bool.and_eq_true] at h
    have e1 := Nat.eq_of_beq_eq_true h.1
    have e2 := zq_argn_ok (r := r) h.2
    show (i, zq_val x.2.1 (zq_ev r x.2.2)) :: lv_args _ (zq_sts r (l.map Prod.snd)) = (x.1, _) :: zq_lvs r l
    rw [e1, ← e2, zq_val_cat]
    cases Nat.beq x.2.1 1 <;> rfl
noncomputable def zq_argw : List (Nat × Nat × zq_L) → Nat
  | [] => 0
  | x :: l => (bif Nat.beq x.2.1 1 then 2 else 1) + zq_argw l
theorem zq_argw_ok {r : Nat → Int} : ∀ {l : List (Nat × Nat × zq_L)}, (lg_sl (zq_sts r (l.map Prod.snd))).length = zq_argw l
  | [] => rfl
  | x :: l => by
    have e := zq_argw_ok (r := r) (l := l)
    show (lg_sl (zq_val x.2.1 (zq_ev r x.2.2) :: zq_sts r (l.map Prod.snd))).length = _
    unfold lg_sl at e ⊢
    rw [List.flatMap_cons, List.length_append, e, zq_val_cat, zq_argw]
    cases Nat.beq x.2.1 1 <;> rfl
/-- the answer fits the method's type -/
noncomputable def zq_b01 (po : List (Nat × zq_L) × zq_S) : Bool := match po.1 with
  | [(_, e)] => zq_eq e (zq_k 0) || (zq_eq e (zq_k 1) || (po.2.2.2.1.any (fun x => zq_eq x e) && po.2.2.2.1.any (fun x => zq_eq x (zq_sub (zq_k 1) e))))
  | _ => false
noncomputable def zq_brng (lo hi : Int) (po : List (Nat × zq_L) × zq_S) : Bool := match po.1 with
  | [(_, (c, []))] => decide (lo ≤ c) && decide (c ≤ hi)
  | [(_, e)] => po.2.2.2.1.any (fun x => zq_eq x (zq_addk e (-lo))) && po.2.2.2.1.any (fun x => zq_eq x (zq_sub (zq_k hi) e))
  | _ => false
theorem zq_brng_ok {lo hi : Int} {po : List (Nat × zq_L) × zq_S} {t : Nat} {ex : zq_L} {r : Nat → Int} (h : zq_brng lo hi po = true) (he : po.1 = [(t, ex)]) (hC : zq_all r po.2.2.2.1) : lo ≤ zq_ev r ex ∧ zq_ev r ex ≤ hi := by
  unfold zq_brng at h
  rw [he] at h
  split at h
  · rename_i c heq
    cases heq
    simp only [Bool.and_eq_true, decide_eq_true_eq] at h
    simp only [zq_ev, zq_ts]
    omega
  · rename_i ex' _ heq
    cases heq
    simp only [Bool.and_eq_true] at h
    obtain ⟨x, hx, e1⟩ := List.any_eq_true.mp h.1
    obtain ⟨y, hy, e2⟩ := List.any_eq_true.mp h.2
    have a := hC x hx
    have b := hC y hy
    rw [zq_eq_ok e1, zq_ev_addk] at a
    rw [zq_eq_ok e2, zq_ev_sub, zq_ev_k] at b
    omega
  · cases h
noncomputable def zq_rok (ret : Option FieldType) (po : List (Nat × zq_L) × zq_S) : Bool := match ret, po.1 with
  | none, [] => true
  | some .int, [(0, _)] => true
  | some .boolean, [(0, _)] => zq_b01 po
  | some .long, [(1, _)] => true
  | some .byte, [(0, _)] => zq_brng (-128) 127 po
  | some .char, [(0, _)] => zq_brng 0 65535 po
  | some (.object _), [(2, _)] => true
  | some (.array _), [(2, _)] => true
  | _, _ => false
theorem zq_b01_ok {po : List (Nat × zq_L) × zq_S} {t : Nat} {ex : zq_L} {r : Nat → Int} (h : zq_b01 po = true) (he : po.1 = [(t, ex)]) (hC : zq_all r po.2.2.2.1) : zq_ev r ex = 0 ∨ zq_ev r ex = 1 := by
  unfold zq_b01 at h
  rw [he] at h
  simp only [Bool.or_eq_true, Bool.and_eq_true] at h
  rcases h with h | h | ⟨h1, h2⟩
  · rw [zq_eq_ok h, zq_ev_k]; exact Or.inl rfl
  · rw [zq_eq_ok h, zq_ev_k]; exact Or.inr rfl
  · obtain ⟨x, hx, e1⟩ := List.any_eq_true.mp h1
    obtain ⟨y, hy, e2⟩ := List.any_eq_true.mp h2
    have a := hC x hx
    have b := hC y hy
    rw [zq_eq_ok e1] at a
    rw [zq_eq_ok e2, zq_ev_sub, zq_ev_k] at b
    omega
theorem zq_rti0 {i : Instr} {ex : zq_L} (h : zq_rti i [(0, ex)] = true) : i = .ireturn := by cases i <;> first | rfl | (simp [zq_rti] at h; done)
theorem zq_rti1 {i : Instr} {ex : zq_L} (h : zq_rti i [(1, ex)] = true) : i = .lreturn := by cases i <;> first | rfl | (simp [zq_rti] at h; done)
theorem zq_rti2 {i : Instr} {ex : zq_L} (h : zq_rti i [(2, ex)] = true) : i = .areturn := by cases i <;> first | rfl | (simp [zq_rti] at h; done)
theorem zq_rtiN {i : Instr} (h : zq_rti i [] = true) : i = .return_ := by cases i <;> first | rfl | (simp [zq_rti] at h; done)
/-- what is checked of a method: from its start, and from every cut -/
noncomputable def zq_start (ct : zq_Ct) : zq_S := (ct.1.1, [], ct.1.2.2)
/-- as Met.ofW, for a method with no row among the natives, whatever its class's name -/
theorem zq_ofWF {l : Launch} {y : MethodName} {ws ws' : List Cond} {rm : Room} {Pc : Array Value → State → Prop} {Qc : Array Value → State → Outcome → State → Prop} {mc ms : Nat} {free : Addr → Prop} {cc : ByteArray} {maxL : Nat} {ret : Option FieldType}
    (hy : plainFor y = true) (hw : ws = Cond.code y cc maxL ret :: ws')
    (body : ∀ p e s m args below meth c s₁, BodyLoose p l y (headSpec ws rm) cc maxL ret e s m args below meth c s₁ → c.maxLocals = maxL → Pc args s →
      W p l e (headSpec ws rm).room s m args below meth c s.heap [] 0 0 (MQ below Qc args s mc ms free) (entryFrame m args maxL)) : Met l y ws rm Pc Qc mc ms free := by
  refine MetFree.of_bodySF (code := cc) (maxLocals := maxL) (ret := ret) hy ?_ ?_
  · intro args s m h hn
    obtain ⟨meth, c, h1, h2, h3, h4, h5, h6, -, -⟩ := Cond.code_spec hn (atoms_spec (ws := ws) h _ (by rw [hw]; exact List.mem_cons_self))
    exact ⟨meth, c, h1, h2, h3, h4, h5, h6⟩
  · intro p e s m args below meth c s₁ B hml hP _
    have hh0 : s₁.heap = s.heap := by rw [B.state]; rfl
    obtain ⟨t, a1, o, b1, b2, b3⟩ := body p e s m args below meth c s₁ B hml hP s₁ hh0 (Stand.of_body B)
    exact ⟨t, o, a1, b1, b2, ⟨b3.1, b3.2⟩⟩
set_option maxHeartbeats 8000000 in
theorem zq_met {l : Launch} {w : zq_Wd} {NW : List Cond} {AO : zq_Ao} {y : MethodName} {cc : ByteArray} {nL : Nat} {ret : Option FieldType} {tb : List Cond} {rm : Room} {ct : zq_Ct} {oc Rc Rs : Nat} {TY : List FieldType} {FT : List (List Nat)} {FN : List (List Bool)} {AC : List Nat} {FX : zq_FX} {GL : zq_GX} {CTs : List zq_Ct} {LD : zq_LD} {FL : zq_FL} {CL : zq_CLt} {AL : List (Nat × Nat)} {ML : List (Instr × Nat × Nat × Nat)} {ini : Bool} {cuts : List zq_Cu} {code : zq_Cd}
    (hy : plainFor y = true) (hD : zq_okD y.cls (Cond.code y cc nL ret :: tb) LD) (hFL : zq_okFL y.cls (Cond.code y cc nL ret :: tb) w.2.1 FL) (hCI : zq_okCI (Cond.code y cc nL ret :: tb) w.2.1 FT FN) (hCL : zq_okCL y.cls (Cond.code y cc nL ret :: tb) w.2.1 FT CL) (hAC : zq_okAC w.2.1 TY AC) (hAL : ∀ s, zq_Nz NW AO s → zq_okAL y.cls (Cond.code y cc nL ret :: tb) TY AL s) (hAK : zq_okAK (Cond.code y cc nL ret :: tb) TY) (hFX : zq_okFX w FX) (hW : zq_okK w) (hGL : zq_okGL w GL.1 ∧ zq_okDO w GL.2)
    (hini : ini = true → y.name = "<init>" ∧ ∀ rc, w.2.1[oc]? = some rc → ∀ f, f < rc.2.2 → (rc.2.1 f).1 = y.cls) (hTY : w.2.2.1.map Prod.snd = TY) (hRc : rm.cells = Rc) (hRs : rm.slots = Rs)
    (hCode : ∀ x ∈ code, decode cc x.1 = .ok x.2)
    (hCalls : ∀ (p : Program) (e : Env) (s : State) (m : MethodId) (args : Array Value) (below : List Frame) (meth : Method) (c : Code) (Q : State → Prop), zq_Mc p s m args c cc y.cls (Cond.code y cc nL ret :: tb) → c.maxLocals = nL → va_K w.1 w.2.1 w.2.2.1 s → zq_Nz NW AO s → ∀ x ∈ ML, ∀ ct', CTs[x.2.1]? = some ct' → zq_okct ct' = true ∧ zq_CallW AO.2.1 w p l e rm s m args below meth c Q cc nL x.1 ct' x.2.2.1 x.2.2.2)
    (hct : (zq_okct ct && (zq_argn 0 ct.1.1 && (Nat.ble (zq_argw ct.1.1) nL && (ct.2.1.all (zq_rok ret) && cuts.all (fun cu => zq_wf cu.2.1 && Nat.ble ct.1.2.2.2.2.2.2.2 cu.2.1.2.2.2.2.2.2.2 && zq_bd cu.2.1.2.2.2.2.2.2.2 cu.2.2.1))))) = true)
    (hStart : ∃ f q q', zq_chk (w.2.2.2.1, TY, FT, FN, AC, FX, GL, CTs) (LD, FL, CL, AL, ML, ct.2.2, ini, oc, nL, ct.1.2.2.2.2.2.2.2, (Rc, Rs), ct.2.1, cuts, code) none f 0 0 0 (zq_start ct) q = some q')
    (hCuts : ∀ cu ∈ cuts, ∃ f q q', zq_chk (w.2.2.2.1, TY, FT, FN, AC, FX, GL, CTs) (LD, FL, CL, AL, ML, ct.2.2, ini, oc, nL, ct.1.2.2.2.2.2.2.2, (Rc, Rs), ct.2.1, cuts, code) (some cu.2.2.1) f cu.2.2.2.1 cu.2.2.2.2 cu.1 cu.2.1 q = some q') :
    zq_Met l w NW AO y (Cond.code y cc nL ret :: tb) rm ct Rc Rs := by
  intro r P h H0
  simp only [Bool.and_eq_true, List.all_eq_true] at hct
  obtain ⟨ok, ha1, ha2, ha3, ha4⟩ := hct
  have ha2 := Nat.le_of_ble_eq_true ha2
  have okk := ok
  simp only [zq_okct, Bool.and_eq_true, List.all_eq_true] at okk
  obtain ⟨ok1, ok2, ok3⟩ := okk
  refine zq_ofWF (cc := cc) (maxL := nL) (ret := ret) hy rfl ?_
  intro p e s m args below meth c s₁ B hml hv
  obtain ⟨rfl, rfl, hK, hNz, hoA, hMe, hF0⟩ := hv
  have hts := atoms_spec (ws := Cond.code y cc nL ret :: tb) B.pre
  have hown : s.vm.findClass y.cls = some m.cls := findClass_of_methodNamed B.named
  have hlocks := B.notSynchronized
  have hname : meth.name = y.name := (name_of_methodNamed B.named B.method).1
  have hMc : zq_Mc p s m (zq_sts r (zq_args ct)).toArray c cc y.cls (Cond.code y cc nL ret :: tb) := ⟨B.exec, B.bytes, hown, hts⟩
  have hr := B.returns
  have hini' : ini = true → meth.name = "<init>" ∧ ∀ rc, w.2.1[oc]? = some rc → ∀ f, f < rc.2.2 → (rc.2.1 f).1 = y.cls := fun z => ⟨by rw [hname]; exact (hini z).1, (hini z).2⟩
  have hMs : zq_okM ct.1.2.2.2.2.2.2.2 ct.2.2 := fun x hx => ok2 x hx
  have hPosts : ∀ po ∈ ct.2.1, zq_wf po.2 = true ∧ ∀ x ∈ po.1, zq_bd po.2.2.2.2.2.2.2.2 x.2 = true := fun po hpo => ⟨(ok3 po hpo).1, (ok3 po hpo).2.1⟩
  let Q := MQ below (zq_Qc w ct r P h s.heap) (zq_sts r (zq_args ct)).toArray s Rc Rs (zq_A ct.2.2 P s.heap (zq_R0 r ct.1.2.2.2.2.2.1))
  -- the ends
  have hRet : ∀ po ∈ ct.2.1, ∀ (i : Instr) (pc : Nat) (r' : Nat → Int) (P' : zq_Ty) (h' : zq_H) (H : Heap) (locs : List Loc) (ls : Array Slot), zq_rti i po.1 = true → decode cc pc = .ok (i, 1) → zq_ext ct.1.2.2.2.2.2.2.2 r r' → zq_okT r' po.2.2.2.2.2.2.2.2 po.1 → zq_MeS w r' P' h' H po.2 → zq_Fr ct.2.2 r P h s.heap (zq_R0 r ct.1.2.2.2.2.2.1) P' h' H locs → W p l e rm s m (zq_sts r (zq_args ct)).toArray below meth c H locs Rc Rs Q (F0 m pc ls (zq_sts r' po.1)) := by
    intro po hpo i pc r' P' h' H locs ls hi hdg hx hoT hMe' Fr
    have hq : ∀ t : State, t.heap = H → s.WarmedH t.vm → zq_Qc w ct r P h s.heap (zq_sts r (zq_args ct)).toArray s (.returned (zq_sts r' po.1).head?) t := by
      intro t ht _
      refine ⟨po, hpo, r', P', h', hx, rfl, hoT, by rw [ht]; exact hMe', ?_⟩
      rw [ht]
      exact ⟨Fr.1.1, fun q h1 h2 => Fr.1.2.1 q h1 h2, Fr.2.1, Fr.2.2.1, Fr.2.2.2⟩
    have hf : ∀ q ∈ locs, zq_A ct.2.2 P s.heap (zq_R0 r ct.1.2.2.2.2.2.1) q.base := Fr.1.2.2
    have hrk := ha3 po hpo
    obtain ⟨res, S'⟩ := po
    simp only at hoT hMe' hi hq ⊢
    unfold zq_rok at hrk
    simp only at hrk
    split at hrk
    · have ei := zq_rtiN hi
      subst ei
      exact W.vret B.exec B.bytes hr (fun t ht hW => hq t ht hW) hf hdg
    · rename_i ex
      have ei := zq_rti0 hi
      subst ei
      exact W.iret B.exec B.bytes hr (fun t ht hW => hq t ht hW) hf hdg
    · rename_i ex
      have h01 := zq_b01_ok (t := 0) (ex := ex) (r := r') hrk rfl hMe'.2.1.1
      have hnar : narrow .boolean (.int (Int32.ofInt (zq_ev r' ex))) = .int (Int32.ofInt (zq_ev r' ex)) := by rcases h01 with z | z <;> rw [z] <;> rfl
      have ei := zq_rti0 hi
      subst ei
      exact W.zret (ty := .boolean) B.exec B.bytes hr hnar (fun t ht hW => hq t ht hW) hf hdg
    · rename_i ex
      have ei := zq_rti1 hi
      subst ei
      exact W.lret B.exec B.bytes hr (fun t ht hW => hq t ht hW) hf hdg
    · rename_i ex
      have h01 := zq_brng_ok (t := 0) (ex := ex) (r := r') hrk rfl hMe'.2.1.1
      have hnar : narrow .byte (.int (Int32.ofInt (zq_ev r' ex))) = .int (Int32.ofInt (zq_ev r' ex)) := by
        show Value.int ((Int32.ofInt (zq_ev r' ex)).toInt8.toInt32) = _
        have e1 : (Int32.ofInt (zq_ev r' ex)).toInt = zq_ev r' ex := zq_o32 ⟨by show -2147483648 ≤ _; omega, by show _ ≤ 2147483647; omega⟩
        rw [lg_i2b_small (by rw [e1]; omega) (by rw [e1]; omega)]
      have ei := zq_rti0 hi
      subst ei
      exact W.zret (ty := .byte) B.exec B.bytes hr hnar (fun t ht hW => hq t ht hW) hf hdg
    · rename_i ex
      have h01 := zq_brng_ok (t := 0) (ex := ex) (r := r') hrk rfl hMe'.2.1.1
      have hnar : narrow .char (.int (Int32.ofInt (zq_ev r' ex))) = .int (Int32.ofInt (zq_ev r' ex)) := by
        show Value.int (((Int32.ofInt (zq_ev r' ex)).toUInt32 % 65536).toInt32) = _
        have e1 : (Int32.ofInt (zq_ev r' ex)).toInt = zq_ev r' ex := zq_o32 ⟨by show -2147483648 ≤ _; omega, by show _ ≤ 2147483647; omega⟩
        rw [lg_i2c_word (by rw [e1]; omega) (by rw [e1]; omega)]
      have ei := zq_rti0 hi
      subst ei
      exact W.zret (ty := .char) B.exec B.bytes hr hnar (fun t ht hW => hq t ht hW) hf hdg
    · rename_i cn ex
      have hv : zq_val 2 (zq_ev r' ex) = .null ∨ ∃ a, zq_val 2 (zq_ev r' ex) = .ref a := by
        cases zq_ev r' ex with
        | ofNat a => exact Or.inr ⟨a, rfl⟩
        | negSucc a => exact Or.inl rfl
      have ei := zq_rti2 hi
      subst ei
      exact W.aret B.exec B.bytes hr (Or.inl ⟨_, rfl⟩) hv (fun t ht hW => hq t ht hW) hf hdg
    · rename_i cn ex
      have hv : zq_val 2 (zq_ev r' ex) = .null ∨ ∃ a, zq_val 2 (zq_ev r' ex) = .ref a := by
        cases zq_ev r' ex with
        | ofNat a => exact Or.inr ⟨a, rfl⟩
        | negSucc a => exact Or.inl rfl
      have ei := zq_rti2 hi
      subst ei
      exact W.aret B.exec B.bytes hr (Or.inr ⟨_, rfl⟩) hv (fun t ht hW => hq t ht hW) hf hdg
    · cases hrk
  have hCwf : ∀ cu ∈ cuts, zq_wf cu.2.1 = true ∧ ct.1.2.2.2.2.2.2.2 ≤ cu.2.1.2.2.2.2.2.2.2 := fun cu hcu => ⟨(ha4 cu hcu).1.1, Nat.le_of_ble_eq_true (ha4 cu hcu).1.2⟩
  have hCl := hCalls p e s m (zq_sts r (zq_args ct)).toArray below meth c Q hMc hml hK hNz
  -- the cuts, by their measure
  have hCut : ∀ (N : Nat) cu, cu ∈ cuts → ∀ (r' : Nat → Int) (P' : zq_Ty) (h' : zq_H) (H : Heap) (locs : List Loc) (ls : Array Slot) (st : List Value), zq_ext ct.1.2.2.2.2.2.2.2 r r' → zq_G w nL r' P' h' H ls st cu.2.1 → zq_Fr ct.2.2 r P h s.heap (zq_R0 r ct.1.2.2.2.2.2.1) P' h' H locs → zq_Rn s.heap (zq_R0 r ct.1.2.2.2.2.2.1) r' cu.2.1.2.2.2.2.2.1 → 0 ≤ zq_ev r' cu.2.2.1 → zq_ev r' cu.2.2.1 < N → W p l e rm s m (zq_sts r (zq_args ct)).toArray below meth c H locs cu.2.2.2.1 cu.2.2.2.2 Q (F0 m cu.1 ls st) := by
    intro N
    induction N with
    | zero => intro cu hcu r' P' h' H locs ls st hx G Fr Rn h1 h2; omega
    | succ N ihN =>
      intro cu hcu r' P' h' H locs ls st hx G Fr Rn h1 h2
      obtain ⟨f, q, q', hq⟩ := hCuts cu hcu
      refine zq_chk_ok (mu := some cu.2.2.1) (B := N) hMc hD hFL hCI hCL hAC (hAL s hNz) hAK hFX hW hGL hini' hK hTY hMs hRc hRs hF0 hCode hCl hPosts hRet hCwf ?_ f _ _ _ _ q q' hq r' P' h' H locs ls st (hCwf cu hcu).2 hx ?_ G Fr Rn
      · intro cu' hcu' r2 P2 h3 H2 locs2 ls2 st2 hx2 G2 Fr2 Rn2 k1 k2
        rcases k2 with k2 | k2
        · cases k2
        · exact ihN cu' hcu' r2 P2 h3 H2 locs2 ls2 st2 hx2 G2 Fr2 Rn2 k1 k2
      · intro m0 hm0
        cases hm0
        exact ⟨(ha4 cu hcu).2, by omega⟩
  -- the start
  obtain ⟨f, q, q', hq⟩ := hStart
  have hl := lv_entry (zq_sts r (zq_args ct)) (n := nL) (by rw [show zq_args ct = ct.1.1.map Prod.snd from rfl, zq_argw_ok]; exact ha2)
  rw [lg_entry_eq]
  rw [show lv_args 0 (zq_sts r (zq_args ct)) = zq_lvs r ct.1.1 from zq_argn_ok ha1] at hl
  have oL : zq_okL r ct.1.2.2.2.2.2.2.2 ct.1.1 := fun x hx => hoA x.2 (List.mem_map.mpr ⟨x, hx, rfl⟩)
  refine zq_chk_ok (mu := none) (B := 0) hMc hD hFL hCI hCL hAC (hAL s hNz) hAK hFX hW hGL hini' hK hTY hMs hRc hRs hF0 hCode hCl hPosts hRet hCwf ?_ f _ _ _ _ q q' hq r P h s.heap [] _ [] (Nat.le_refl _) (fun _ _ => rfl) (fun m0 hm0 => by cases hm0) ⟨hl, rfl, oL, fun x hx => (by cases hx), hMe⟩ ⟨va_S.rf, fun _ _ z => z, fun _ _ _ _ _ => rfl, fun _ _ z => Or.inl z⟩ (fun x hx a ha => Or.inr ⟨x, hx, ha⟩)
  intro cu hcu r2 P2 h3 H2 locs2 ls2 st2 hx2 G2 Fr2 Rn2 k1 k2
  exact hCut ((zq_ev r2 cu.2.2.1).toNat + 1) cu hcu r2 P2 h3 H2 locs2 ls2 st2 hx2 G2 Fr2 Rn2 k1 (by omega)
