/-! FROM WORDS OF THE TABLES TO WHAT THE CHECKER IS TOLD -/
noncomputable def zt : List Cond := lw_tbl.filter goodWord
noncomputable def zq_hw (i : Nat) (w : Cond) : Bool := decide (lw_tbl[i]? = some w) && goodWord w
theorem zq_hw_ok {i : Nat} {w : Cond} (h : zq_hw i w = true) : w ∈ zt := by
  simp only [zq_hw, Bool.and_eq_true, decide_eq_true_eq] at h
  exact List.mem_filter.mpr ⟨List.mem_of_getElem? h.1, h.2⟩
theorem zt_good {big : List Cond} (hb : ∀ w ∈ zt, w ∈ big) : GoodIn big zt := fun w hw => ⟨hb w hw, good_of_word (List.mem_filter.mp hw).2⟩
theorem zt_cons {c : Cond} : ∀ w ∈ zt, w ∈ c :: zt := fun _ hw => List.mem_cons_of_mem _ hw
theorem zt_goodIn {c c' : Cond} (hc : c ∈ zt) : GoodIn (c' :: zt) (c :: zt) := fun w hw => by
  rcases List.mem_cons.mp hw with rfl | hw
  · exact zt_good zt_cons _ hc
  · exact zt_good zt_cons _ hw
theorem zq_okD.sub {own : String} {Ts Ts' : List Cond} {LD LD' : zq_LD} (h : zq_okD own Ts LD) (hs : ∀ x ∈ LD', x ∈ LD) (ht : ∀ w ∈ Ts, w ∈ Ts') : zq_okD own Ts' LD' := fun x hx => ⟨(h x (hs x hx)).1, fun e => ht _ ((h x (hs x hx)).2.1 e), fun e => ht _ ((h x (hs x hx)).2.2 e)⟩
theorem zq_okFL.sub {own : String} {Ts Ts' : List Cond} {cl : List vw_C} {FL FL' : zq_FL} (h : zq_okFL own Ts cl FL) (hs : ∀ x ∈ FL', x ∈ FL) (ht : ∀ w ∈ Ts, w ∈ Ts') : zq_okFL own Ts' cl FL' := fun x hx => by
  obtain ⟨r, h1, h2, h3, h4⟩ := h x (hs x hx)
  exact ⟨r, h1, h2, ht _ h3, fun w hw => ht _ (h4 w hw)⟩
theorem zq_okCL.sub {own : String} {Ts Ts' : List Cond} {cl : List vw_C} {FT : List (List Nat)} {CL CL' : zq_CLt} (h : zq_okCL own Ts cl FT CL) (hs : ∀ x ∈ CL', x ∈ CL) (ht : ∀ w ∈ Ts, w ∈ Ts') : zq_okCL own Ts' cl FT CL' := fun x hx => by
  obtain ⟨rc, row, h1, h2, h3, h4, h5⟩ := h x (hs x hx)
  exact ⟨rc, row, h1, ht _ h2, ht _ h3, ht _ h4, h5⟩
theorem zq_okCI.sub {Ts Ts' : List Cond} {cl : List vw_C} {FT : List (List Nat)} {FN : List (List Bool)} (h : zq_okCI Ts cl FT FN) (ht : ∀ w ∈ Ts, w ∈ Ts') : zq_okCI Ts' cl FT FN := fun ci rc hc => by
  obtain ⟨h1, h2⟩ := h ci rc hc
  exact ⟨fun w hw => ht _ (h1 w hw), h2⟩
theorem zq_okAK.sub {Ts Ts' : List Cond} {TY : List FieldType} (h : zq_okAK Ts TY) (ht : ∀ w ∈ Ts, w ∈ Ts') : zq_okAK Ts' TY := fun ty hy hn => ht _ (h ty hy hn)
/-! by places -/
noncomputable def zq_ckD (own : String) : List ((Nat × Nat × Int) × Nat) → Bool
  | [] => true
  | x :: l => (bif Nat.beq x.1.2.1 0 then decide (zq_mn 0 ≤ x.1.2.2) && (decide (x.1.2.2 ≤ zq_mx 0) && zq_hw x.2 (Cond.constant own x.1.1 (Int32.ofInt x.1.2.2))) else Nat.beq x.1.2.1 1 && (decide (zq_mn 1 ≤ x.1.2.2) && (decide (x.1.2.2 ≤ zq_mx 1) && zq_hw x.2 (Cond.constantLong own x.1.1 (Int64.ofInt x.1.2.2))))) && zq_ckD own l
theorem zq_ckD_ok {own : String} : ∀ {l : List ((Nat × Nat × Int) × Nat)}, zq_ckD own l = true → zq_okD own zt (l.map Prod.fst)
  | [], _ => fun x hx => by cases hx
  | y :: l, h => fun x hx => by
    simp only [zq_ckD, Bool.and_eq_true] at h
    rcases List.mem_cons.mp hx with rfl | hx
    · obtain ⟨h, -⟩ := h
      cases hc : Nat.beq y.1.2.1 0 with
      | true =>
        rw [hc] at h
        simp only [cond_true, Bool.and_eq_true, decide_eq_true_eq] at h
        have e := Nat.eq_of_beq_eq_true hc
        refine ⟨by rw [e]; exact ⟨h.1, h.2.1⟩, fun _ => zq_hw_ok h.2.2, fun z => ?_⟩
        rw [e] at z; cases z
      | false =>
        rw [hc] at h
        simp only [cond_false, Bool.and_eq_true, decide_eq_true_eq] at h
        have e := Nat.eq_of_beq_eq_true h.1
        refine ⟨by rw [e]; exact ⟨h.2.1, h.2.2.1⟩, fun z => ?_, fun _ => zq_hw_ok h.2.2.2⟩
        rw [e] at z; cases z
    · exact zq_ckD_ok h.2 x hx
noncomputable def zq_ckFL (own : String) (cl : List vw_C) : List ((Nat × Nat × Nat) × Nat) → Bool
  | [] => true
  | x :: l => (match cl[x.1.2.1]? with
    | some r => Nat.blt x.1.2.2 r.2.2 && zq_hw x.2 (Cond.fieldLink own x.1.1 (r.2.1 x.1.2.2).1 (r.2.1 x.1.2.2).2.1 (r.2.1 x.1.2.2).2.2.1)
    | none => false) && zq_ckFL own cl l
theorem zq_ckFL_ok {own : String} {cl : List vw_C} (hc : ∀ rc ∈ cl, ∀ w ∈ u_ws rc.1 rc.2.1 rc.2.2, w ∈ zt) : ∀ {l : List ((Nat × Nat × Nat) × Nat)}, zq_ckFL own cl l = true → zq_okFL own zt cl (l.map Prod.fst)
  | [], _ => fun x hx => by cases hx
  | y :: l, h => fun x hx => by
    simp only [zq_ckFL, Bool.and_eq_true] at h
    rcases List.mem_cons.mp hx with rfl | hx
    · obtain ⟨h, -⟩ := h
      split at h
      · rename_i r hr
        simp only [Bool.and_eq_true] at h
        exact ⟨r, hr, by have := h.1; simp only [Nat.blt_eq] at this; exact this, zq_hw_ok h.2, hc r (List.mem_of_getElem? hr)⟩
      · cases h
    · exact zq_ckFL_ok hc h.2 x hx
/-- the words of a class's fields, each by its place -/
noncomputable def zq_ckU : List Cond → List Nat → Bool
  | [], _ => true
  | w :: l, i :: is => zq_hw i w && zq_ckU l is
  | _ :: _, [] => false
theorem zq_ckU_ok : ∀ {l : List Cond} {is : List Nat}, zq_ckU l is = true → ∀ w ∈ l, w ∈ zt
  | [], _, _ => fun w hw => by cases hw
  | x :: l, [], h => by cases h
  | x :: l, i :: is, h => fun w hw => by
    simp only [zq_ckU, Bool.and_eq_true] at h
    rcases List.mem_cons.mp hw with rfl | hw
    · exact zq_hw_ok h.1
    · exact zq_ckU_ok h.2 w hw
noncomputable def zq_ckC (cc : ByteArray) : zq_Cd → Bool
  | [] => true
  | x :: l => (match decode cc x.1 with
    | .ok o => decide (o = x.2)
    | .error _ => false) && zq_ckC cc l
theorem zq_ckC_ok {cc : ByteArray} : ∀ {l : zq_Cd}, zq_ckC cc l = true → ∀ x ∈ l, decode cc x.1 = .ok x.2
  | [], _, x, hx => by cases hx
  | y :: l, h, x, hx => by
    simp only [zq_ckC, Bool.and_eq_true] at h
    rcases List.mem_cons.mp hx with rfl | hx
    · obtain ⟨h, -⟩ := h
      split at h
      · rename_i o ho
        rw [ho, of_decide_eq_true h]
      · cases h
    · exact zq_ckC_ok h.2 x hx
noncomputable def zq_ckK (cl : List vw_C) (KT : List zq_K) : Bool := KT.all (fun K => !Nat.beq K.1 0 || (match cl[K.2.1]? with
  | some rc => K.2.2.2.2.1.all (fun e => e.2.all (fun t => Nat.blt t.1 rc.2.2 || (Nat.blt (t.1 - rc.2.2) rc.2.2 && (match zq_sty K (t.1 - rc.2.2) with
    | some T => Nat.ble 2 T.1 && decide (0 ≤ T.2.1)
    | none => false))))
  | none => true))
theorem zq_ckK_ok {w : zq_Wd} (h : zq_ckK w.2.1 w.2.2.2.1 = true) : zq_okK w := by
  intro k K hK h0 rc hrc e he t ht
  have := List.all_eq_true.mp h K (List.mem_of_getElem? hK)
  rw [h0, hrc] at this
  simp only [show Nat.beq 0 0 = true from rfl, Bool.not_true, Bool.false_or] at this
  have := List.all_eq_true.mp (List.all_eq_true.mp this e he) t ht
  simp only [Bool.or_eq_true, Bool.and_eq_true] at this
  rcases this with z | ⟨z1, z2⟩
  · left; simpa [Nat.blt_eq] using z
  · right
    refine ⟨by simpa [Nat.blt_eq] using z1, ?_⟩
    split at z2
    · rename_i T hT
      simp only [Bool.and_eq_true, decide_eq_true_eq] at z2
      exact ⟨T, hT, Nat.le_of_ble_eq_true z2.1, z2.2⟩
    · cases z2
/-- one call, for whoever calls -/
noncomputable def zq_Cl (l : Launch) (w : zq_Wd) (NW : List Cond) (AO : zq_Ao) (own : String) (cc : ByteArray) (nL : Nat) (Ts : List Cond) (R : Room) (i : Instr) (ct : zq_Ct) (mc ms : Nat) : Prop :=
  ∀ (p : Program) (e : Env) (s : State) (m : MethodId) (args : Array Value) (below : List Frame) (meth : Method) (c : Code) (Q : State → Prop), zq_Mc p s m args c cc own Ts → c.maxLocals = nL → va_K w.1 w.2.1 w.2.2.1 s → zq_Nz NW AO s → zq_okct ct = true ∧ zq_CallW AO.2.1 w p l e R s m args below meth c Q cc nL i ct mc ms
noncomputable def zq_pn (y : MethodName) (n : Nat) : Bool := !decide (y.cls = "java/lang/invoke/MethodHandle") && (!decide (y.cls = "java/lang/invoke/VarHandle") && decide ((parseMethodDescriptor y.desc).map (fun d => d.parameters.length) = some n))
theorem zq_pn_ok {y : MethodName} {n : Nat} (h : zq_pn y n = true) : y.cls ≠ "java/lang/invoke/MethodHandle" ∧ y.cls ≠ "java/lang/invoke/VarHandle" ∧ (parseMethodDescriptor y.desc).map (fun d => d.parameters.length) = some n := by
  simp only [zq_pn, Bool.and_eq_true, Bool.not_eq_true', decide_eq_false_iff_not, decide_eq_true_eq] at h
  exact h
section ZQPIPE
variable {l : Launch} {w : zq_Wd} {NW : List Cond} {AO : zq_Ao} {own host : String} {cc bytes : ByteArray} {nL maxL mc ms : Nat} {c0 : Cond} {R rmc : Room} {cp : Nat} {ct : zq_Ct} {y : MethodName} {ret : Option FieldType}
/-- what is decided of a call: the contract's form, how many arguments, the room -/
noncomputable def zq_cb (ct : zq_Ct) (R rmc : Room) (maxL mc ms n : Nat) : Bool := zq_okct ct && (zq_one ct && (Nat.beq (zq_args ct).length n && (Nat.beq rmc.cells mc && (Nat.beq rmc.slots ms && (Nat.ble (rmc.frames + 1) R.frames && Nat.ble (8 + (maxL + 11) + rmc.locals) R.locals)))))
theorem zq_mkS {n : Nat} (hM : zq_Met l w NW AO y (Cond.code y bytes maxL ret :: zt) rmc ct mc ms) (hk : Cond.code y bytes maxL ret ∈ zt) (hN : zq_okN NW AO) (hl : Cond.methodLink own cp y ∈ zt) (hst : Cond.static y ∈ zt) (hini : Cond.initialized y.cls ∈ zt) (hp : zq_pn y n = true) (hc : zq_cb ct R rmc maxL mc ms n = true) :
    zq_Cl l w NW AO own cc nL (c0 :: zt) R (.invokestatic cp) ct mc ms := by
  intro p e s m args below meth c Q hMc hml hK hNz
  simp only [zq_cb, Bool.and_eq_true] at hc
  obtain ⟨h1, h2, h3, h4, h5, h6, h7⟩ := hc
  refine ⟨h1, zq_callS hM hN h2 hMc hml hK hNz (Nat.eq_of_beq_eq_true h4) (Nat.eq_of_beq_eq_true h5) (zt_goodIn hk) (zt_cons _ hl) (zt_cons _ hst) (zt_cons _ hini) ?_ ⟨Nat.le_of_ble_eq_true h6, Nat.le_of_ble_eq_true h7⟩⟩
  rw [Nat.eq_of_beq_eq_true h3]
  exact zq_pn_ok hp
theorem zq_mkSN {n : Nat} (hM : zq_Met l w NW AO y (Cond.code y bytes maxL ret :: zt) rmc ct mc ms) (hk : Cond.code y bytes maxL ret ∈ zt) (hN : zq_okN NW AO) (hl : Cond.methodLinkNest own cp y host ∈ NW) (hst : Cond.static y ∈ zt) (hini : Cond.initialized y.cls ∈ zt) (hp : zq_pn y n = true) (hc : zq_cb ct R rmc maxL mc ms n = true) :
    zq_Cl l w NW AO own cc nL (c0 :: zt) R (.invokestatic cp) ct mc ms := by
  intro p e s m args below meth c Q hMc hml hK hNz
  simp only [zq_cb, Bool.and_eq_true] at hc
  obtain ⟨h1, h2, h3, h4, h5, h6, h7⟩ := hc
  refine ⟨h1, zq_callSN hM hN h2 hMc hml hK hNz (Nat.eq_of_beq_eq_true h4) (Nat.eq_of_beq_eq_true h5) (zt_goodIn hk) hl (zt_cons _ hst) (zt_cons _ hini) ?_ ⟨Nat.le_of_ble_eq_true h6, Nat.le_of_ble_eq_true h7⟩⟩
  rw [Nat.eq_of_beq_eq_true h3]
  exact zq_pn_ok hp
theorem zq_mkV {n ci : Nat} {rc : vw_C} (hM : zq_Met l w NW AO y (Cond.code y bytes maxL ret :: zt) rmc ct mc ms) (hk : Cond.code y bytes maxL ret ∈ zt) (hN : zq_okN NW AO) (hl : Cond.methodLink own cp y ∈ zt) (hin : Cond.instanceMethod y ∈ zt) (hsel : Cond.selects rc.1 y y ∈ zt) (hini : Cond.initialized y.cls ∈ zt) (hcl : w.2.1[ci]? = some rc) (hp : zq_pn y n = true) (hrv : zq_rcv w.2.2.2.1 ct ci = true) (hc : zq_cb ct R rmc maxL mc ms (n + 1) = true) :
    zq_Cl l w NW AO own cc nL (c0 :: zt) R (.invokevirtual cp) ct mc ms := by
  intro p e s m args below meth c Q hMc hml hK hNz
  simp only [zq_cb, Bool.and_eq_true] at hc
  obtain ⟨h1, h2, h3, h4, h5, h6, h7⟩ := hc
  refine ⟨h1, zq_callV hM hN h2 hMc hml hK hNz (Nat.eq_of_beq_eq_true h4) (Nat.eq_of_beq_eq_true h5) (zt_goodIn hk) (zt_cons _ hl) (zt_cons _ hin) (zt_cons _ hsel) (zt_cons _ hini) hcl hrv ?_ ⟨Nat.le_of_ble_eq_true h6, Nat.le_of_ble_eq_true h7⟩⟩
  rw [Nat.eq_of_beq_eq_true h3]
  exact zq_pn_ok hp
/-- the first argument is an object -/
noncomputable def zq_fst (ct : zq_Ct) : Bool := match zq_args ct with
  | (2, er) :: _ => ct.1.2.2.1.any (fun x => zq_eq x er)
  | _ => false
theorem zq_fst_ok {ct : zq_Ct} (h : zq_fst ct = true) : ∃ (er : zq_L) (tl : List (Nat × zq_L)), zq_args ct = (2, er) :: tl ∧ (ct.1.2.2.1.any (fun x => zq_eq x er)) = true := by
  unfold zq_fst at h
  split at h
  · rename_i er tl he
    exact ⟨er, tl, he, h⟩
  · cases h
theorem zq_mkI {n : Nat} (hM : zq_Met l w NW AO y (Cond.code y bytes maxL none :: zt) rmc ct mc ms) (hk : Cond.code y bytes maxL none ∈ zt) (hN : zq_okN NW AO) (hl : Cond.methodLink own cp y ∈ zt) (hin : Cond.instanceMethod y ∈ zt) (hini : Cond.initialized y.cls ∈ zt) (hy1 : y.name = "<init>") (hp : zq_pn y n = true) (hf : zq_fst ct = true) (hc : zq_cb ct R rmc maxL mc ms (n + 1) = true) :
    zq_Cl l w NW AO own cc nL (c0 :: zt) R (.invokespecial cp) ct mc ms := by
  intro p e s m args below meth c Q hMc hml hK hNz
  simp only [zq_cb, Bool.and_eq_true] at hc
  obtain ⟨h1, h2, h3, h4, h5, h6, h7⟩ := hc
  refine ⟨h1, zq_callI hM hN h2 hMc hml hK hNz (Nat.eq_of_beq_eq_true h4) (Nat.eq_of_beq_eq_true h5) (zt_goodIn hk) (zt_cons _ hl) (zt_cons _ hin) (zt_cons _ hini) hy1 (zq_fst_ok hf) ?_ ⟨Nat.le_of_ble_eq_true h6, Nat.le_of_ble_eq_true h7⟩⟩
  rw [Nat.eq_of_beq_eq_true h3]
  exact zq_pn_ok hp
theorem zq_mkIN {n : Nat} (hM : zq_Met l w NW AO y (Cond.code y bytes maxL none :: zt) rmc ct mc ms) (hk : Cond.code y bytes maxL none ∈ zt) (hN : zq_okN NW AO) (hl : Cond.methodLinkNest own cp y host ∈ NW) (hin : Cond.instanceMethod y ∈ zt) (hini : Cond.initialized y.cls ∈ zt) (hy1 : y.name = "<init>") (hp : zq_pn y n = true) (hf : zq_fst ct = true) (hc : zq_cb ct R rmc maxL mc ms (n + 1) = true) :
    zq_Cl l w NW AO own cc nL (c0 :: zt) R (.invokespecial cp) ct mc ms := by
  intro p e s m args below meth c Q hMc hml hK hNz
  simp only [zq_cb, Bool.and_eq_true] at hc
  obtain ⟨h1, h2, h3, h4, h5, h6, h7⟩ := hc
  refine ⟨h1, zq_callIN hM hN h2 hMc hml hK hNz (Nat.eq_of_beq_eq_true h4) (Nat.eq_of_beq_eq_true h5) (zt_goodIn hk) hl (zt_cons _ hin) (zt_cons _ hini) hy1 (zq_fst_ok hf) ?_ ⟨Nat.le_of_ble_eq_true h6, Nat.le_of_ble_eq_true h7⟩⟩
  rw [Nat.eq_of_beq_eq_true h3]
  exact zq_pn_ok hp
end ZQPIPE
/-- what the whole is told, and why it is right -/
noncomputable def zq_Wok (w : zq_Wd) (TY : List FieldType) (FT : List (List Nat)) (FN : List (List Bool)) (AC : List Nat) (FX : zq_FX) (GL : zq_GX) : Prop := zq_okCI zt w.2.1 FT FN ∧ zq_okAC w.2.1 TY AC ∧ zq_okAK zt TY ∧ zq_okFX w FX ∧ zq_okK w ∧ (zq_okGL w GL.1 ∧ zq_okDO w GL.2) ∧ w.2.2.1.map Prod.snd = TY
theorem zq_mk {l : Launch} {w : zq_Wd} {NW : List Cond} {AO : zq_Ao} {y : MethodName} {cc : ByteArray} {nL : Nat} {ret : Option FieldType} {rm : Room} {ct : zq_Ct} {oc Rc Rs : Nat} {TY : List FieldType} {FT : List (List Nat)} {FN : List (List Bool)} {AC : List Nat} {FX : zq_FX} {GL : zq_GX} {CTs : List zq_Ct} {LDc LD : zq_LD} {FLc FL : zq_FL} {CLc CL : zq_CLt} {AL : List (Nat × Nat)} {ML : List (Instr × Nat × Nat × Nat)} {ini : Bool} {cuts : List zq_Cu} {code : zq_Cd} {f : Nat} {q : List Nat}
    (hw : zq_Wok w TY FT FN AC FX GL) (hy : plainFor y = true) (hD : zq_okD y.cls zt LDc) (hFL : zq_okFL y.cls zt w.2.1 FLc) (hCL : zq_okCL y.cls zt w.2.1 FT CLc) (hsub : (LD.all (fun x => LDc.any (fun z => decide (z = x))) && (FL.all (fun x => FLc.any (fun z => decide (z = x))) && CL.all (fun x => CLc.any (fun z => decide (z = x))))) = true) (hAL : ∀ s, zq_Nz NW AO s → zq_okAL y.cls zt TY AL s)
    (hini : ini = true → y.name = "<init>" ∧ ∀ rc, w.2.1[oc]? = some rc → ∀ f, f < rc.2.2 → (rc.2.1 f).1 = y.cls) (hRc : rm.cells = Rc) (hRs : rm.slots = Rs) (hCode : zq_ckC cc code = true)
    (hCalls : ∀ x ∈ ML, ∀ ct', CTs[x.2.1]? = some ct' → zq_Cl l w NW AO y.cls cc nL (Cond.code y cc nL ret :: zt) rm x.1 ct' x.2.2.1 x.2.2.2)
    (hct : (zq_okct ct && (zq_argn 0 ct.1.1 && (Nat.ble (zq_argw ct.1.1) nL && (ct.2.1.all (zq_rok ret) && cuts.all (fun cu => zq_wf cu.2.1 && Nat.ble ct.1.2.2.2.2.2.2.2 cu.2.1.2.2.2.2.2.2.2 && zq_bd cu.2.1.2.2.2.2.2.2.2 cu.2.2.1))))) = true)
    (hStart : (zq_chk (w.2.2.2.1, TY, FT, FN, AC, FX, GL, CTs) (LD, FL, CL, AL, ML, ct.2.2, ini, oc, nL, ct.1.2.2.2.2.2.2.2, (Rc, Rs), ct.2.1, cuts, code) none f 0 0 0 (zq_start ct) q).isSome = true)
    (hCuts : ∀ cu ∈ cuts, ∃ f q, (zq_chk (w.2.2.2.1, TY, FT, FN, AC, FX, GL, CTs) (LD, FL, CL, AL, ML, ct.2.2, ini, oc, nL, ct.1.2.2.2.2.2.2.2, (Rc, Rs), ct.2.1, cuts, code) (some cu.2.2.1) f cu.2.2.2.1 cu.2.2.2.2 cu.1 cu.2.1 q).isSome = true) :
    zq_Met l w NW AO y (Cond.code y cc nL ret :: zt) rm ct Rc Rs := by
  obtain ⟨w1, w2, w3, w4, w5, w6, w7⟩ := hw
  simp only [Bool.and_eq_true, List.all_eq_true, List.any_eq_true, decide_eq_true_eq] at hsub
  obtain ⟨s1, s2, s3⟩ := hsub
  have e1 : ∀ x ∈ LD, x ∈ LDc := fun x hx => by obtain ⟨z, hz, rfl⟩ := s1 x hx; exact hz
  have e2 : ∀ x ∈ FL, x ∈ FLc := fun x hx => by obtain ⟨z, hz, rfl⟩ := s2 x hx; exact hz
  have e3 : ∀ x ∈ CL, x ∈ CLc := fun x hx => by obtain ⟨z, hz, rfl⟩ := s3 x hx; exact hz
  refine zq_met (TY := TY) (FT := FT) (FN := FN) (AC := AC) (FX := FX) (GL := GL) (CTs := CTs) (LD := LD) (FL := FL) (CL := CL) (AL := AL) (ML := ML) (ini := ini) (oc := oc) (cuts := cuts) (code := code) hy (hD.sub e1 zt_cons) (hFL.sub e2 zt_cons) (w1.sub zt_cons) (hCL.sub e3 zt_cons) w2 ?_ (w3.sub zt_cons) w4 w5 w6 hini w7 hRc hRs (zq_ckC_ok hCode) ?_ hct ?_ ?_
  · intro s hs x hx C hC
    obtain ⟨a, b⟩ := hAL s hs x hx C hC
    exact ⟨zt_cons _ a, b⟩
  · intro p e s m args below meth c Q hMc hml hK hNz x hx ct' hct'
    exact hCalls x hx ct' hct' p e s m args below meth c Q hMc hml hK hNz
  · obtain ⟨q', hq⟩ := Option.isSome_iff_exists.mp hStart
    exact ⟨f, q, q', hq⟩
  · intro cu hcu
    obtain ⟨f, q, h⟩ := hCuts cu hcu
    obtain ⟨q', hq⟩ := Option.isSome_iff_exists.mp h
    exact ⟨f, q, q', hq⟩
