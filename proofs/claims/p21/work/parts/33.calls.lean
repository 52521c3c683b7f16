/-! CALLS of methods that have contracts -/
theorem zq_Nz.calling {NW : List Cond} {AO : zq_Ao} {U V : State} (hN : zq_okN NW AO) (hv : U.vm = V.vm) (h : zq_Nz NW AO U) : zq_Nz NW AO V := by
  refine ⟨fun x hx => ?_, fun C hC => va_AO.moved (by rw [hv]; exact Vm.Alike.refl _) (h.2.1 C hC), hN.2.2 _ _ hv h.2.2⟩
  have hk := List.all_eq_true.mp hN.1 x hx
  have hz := h.1 x hx
  cases x <;> first | (simp [zq_nwk] at hk; done) | exact va_Nw.same rfl hv hz
theorem zq_blind {w : zq_Wd} {NW : List Cond} {AO : zq_Ao} {ct : zq_Ct} {r : Nat → Int} {P : zq_Ty} {h : zq_H} {H0 : Heap} (hN : zq_okN NW AO) : FrameBlind (zq_Pc w NW AO ct r P h H0) := by
  intro a U g mk hp
  obtain ⟨h1, h2, h3, h4, h5⟩ := hp
  exact ⟨h1, h2, va_K.moved (u := U) (U := U.calling g mk a) (Vm.Alike.refl U.vm) h3, zq_Nz.calling (U := U) (V := U.calling g mk a) hN rfl h4, h5⟩
section ZQCALL
variable {p : Program} {l : Launch} {e : Env} {R : Room} {s : State} {m : MethodId} {args : Array Value} {below : List Frame} {meth : Method} {c : Code} {Q : State → Prop}
variable {cc bytes : ByteArray} {w : zq_Wd} {nL maxL mc ms : Nat} {own host : String} {Ts tb : List Cond} {NW : List Cond} {AO : zq_Ao} {y : MethodName} {ret : Option FieldType} {rmc : Room} {ct : zq_Ct} {cp : Nat}
theorem zq_runW {r : Nat → Int} {P : zq_Ty} {h : zq_H} {H : Heap} {locs : List Loc} {cells slots pc : Nat} {ls : Array Slot} {rest st0 : List Value} {a : Array Value} (hone : ∀ po ∈ ct.2.1, po.1.length ≤ 1)
    (hr : va_Run p l e R s m args below meth c H locs cells slots mc ms (F0 m pc ls st0) rest (zq_Qc w ct r P h H a) (zq_A ct.2.2 P H (zq_R0 r ct.1.2.2.2.2.2.1)))
    (kk : ∀ po ∈ ct.2.1, ∀ (r' : Nat → Int) (P' : zq_Ty) (h' : zq_H) (H' : Heap) (L : List Loc), zq_ext ct.1.2.2.2.2.2.2.2 r r' → zq_okT r' po.2.2.2.2.2.2.2.2 po.1 → zq_MeS w r' P' h' H' po.2 → zq_Cf ct.2.2 r (zq_R0 r ct.1.2.2.2.2.2.1) P h H P' h' H' → (∀ q ∈ L, zq_A ct.2.2 P H (zq_R0 r ct.1.2.2.2.2.2.1) q.base) →
      W p l e R s m args below meth c H' (locs ++ L) (cells + mc) (slots + ms) Q (F0 m (pc + 3) ls (zq_sts r' po.1 ++ rest))) : W p l e R s m args below meth c H locs cells slots Q (F0 m pc ls st0) := by
  intro T hT X
  obtain ⟨v, st₀, t, T', L, h0, X', hL, e1, e2, hQ, st⟩ := hr T hT X
  obtain ⟨po, hpo, r', P', h', hx, ho, hoT, hMe, hcf⟩ := hQ
  have hv : v.toList = zq_sts r' po.1 := by
    have e3 : v = (zq_sts r' po.1).head? := Outcome.returned.inj ho
    have hlen : (zq_sts r' po.1).length ≤ 1 := by unfold zq_sts; rw [List.length_map]; exact hone po hpo
    rw [e3]
    match hz : zq_sts r' po.1, hlen with
    | [], _ => rfl
    | [x], _ => rfl
    | x :: y :: z, hlen => simp at hlen
  rw [hv] at st
  obtain ⟨t2, a1, b1⟩ := kk po hpo r' P' h' T'.heap L hx hoT (by rw [e1]; exact hMe) (by rw [e1]; exact hcf) hL T' rfl X'
  exact ⟨t2, st t2 a1, b1⟩
/-- what is decided of a contract beside what the checker looks at: one answer at most -/
noncomputable def zq_one (ct : zq_Ct) : Bool := ct.2.1.all (fun po => Nat.ble po.1.length 1)
theorem zq_one_ok {ct : zq_Ct} (h : zq_one ct = true) : ∀ po ∈ ct.2.1, po.1.length ≤ 1 := fun po hpo => Nat.le_of_ble_eq_true (List.all_eq_true.mp h po hpo)
theorem zq_callS (hM : zq_Met l w NW AO y (Cond.code y bytes maxL ret :: tb) rmc ct mc ms) (hN : zq_okN NW AO) (ho : zq_one ct = true) (hMc : zq_Mc p s m args c cc own Ts) (hml : c.maxLocals = nL) (hK : va_K w.1 w.2.1 w.2.2.1 s) (hNz : zq_Nz NW AO s) (hrc : rmc.cells = mc) (hrs : rmc.slots = ms) (hG : GoodIn Ts (Cond.code y bytes maxL ret :: tb)) (hl : Cond.methodLink own cp y ∈ Ts) (hst : Cond.static y ∈ Ts) (hini : Cond.initialized y.cls ∈ Ts)
    (hd : y.cls ≠ "java/lang/invoke/MethodHandle" ∧ y.cls ≠ "java/lang/invoke/VarHandle" ∧ (parseMethodDescriptor y.desc).map (fun d => d.parameters.length) = some (zq_args ct).length) (hR : rmc.frames + 1 ≤ R.frames ∧ 8 + (maxL + 11) + rmc.locals ≤ R.locals) :
    zq_CallW AO.2.1 w p l e R s m args below meth c Q cc nL (.invokestatic cp) ct mc ms := by
  intro r P h H locs cells slots pc ls rest hoA hMe hFc hcat hls hc1 hc2 hdg kk
  obtain ⟨hexec, hb, hown, hts⟩ := hMc
  refine zq_runW (zq_one_ok ho) (va_runS (As := zq_sts r (zq_args ct)) (Pc := zq_Pc w NW AO ct r P h H) (n := (zq_args ct).length) ⟨hexec, hb, hml, hown, hts⟩ (hM r P h H) ⟨callB_of _ hts hG rfl hrc hrs (hts _ hini) (hts _ hl) hd hR, hts _ hst⟩ ⟨zq_blind hN, fun U hU hW => ⟨rfl, hU, va_K.moved hW.alike hK, hNz.moved hN hW, hoA, hMe, hFc⟩⟩ rfl (by unfold zq_sts; rw [List.length_map]) hls rfl (lv_room hcat) hdg ⟨hc1, hc2⟩) kk
theorem zq_callSN (hM : zq_Met l w NW AO y (Cond.code y bytes maxL ret :: tb) rmc ct mc ms) (hN : zq_okN NW AO) (ho : zq_one ct = true) (hMc : zq_Mc p s m args c cc own Ts) (hml : c.maxLocals = nL) (hK : va_K w.1 w.2.1 w.2.2.1 s) (hNz : zq_Nz NW AO s) (hrc : rmc.cells = mc) (hrs : rmc.slots = ms) (hG : GoodIn Ts (Cond.code y bytes maxL ret :: tb)) (hl : Cond.methodLinkNest own cp y host ∈ NW) (hst : Cond.static y ∈ Ts) (hini : Cond.initialized y.cls ∈ Ts)
    (hd : y.cls ≠ "java/lang/invoke/MethodHandle" ∧ y.cls ≠ "java/lang/invoke/VarHandle" ∧ (parseMethodDescriptor y.desc).map (fun d => d.parameters.length) = some (zq_args ct).length) (hR : rmc.frames + 1 ≤ R.frames ∧ 8 + (maxL + 11) + rmc.locals ≤ R.locals) :
    zq_CallW AO.2.1 w p l e R s m args below meth c Q cc nL (.invokestatic cp) ct mc ms := by
  intro r P h H locs cells slots pc ls rest hoA hMe hFc hcat hls hc1 hc2 hdg kk
  obtain ⟨hexec, hb, hown, hts⟩ := hMc
  refine zq_runW (zq_one_ok ho) (va_runSN (As := zq_sts r (zq_args ct)) (Pc := zq_Pc w NW AO ct r P h H) (n := (zq_args ct).length) ⟨hexec, hb, hml, hown, hts⟩ (hM r P h H) ⟨va_cnB _ hts hG rfl hrc hrs (hNz.1 _ hl) (hts _ hini) hd hR, hts _ hst, trivial⟩ ⟨zq_blind hN, fun U hU hW => ⟨rfl, hU, va_K.moved hW.alike hK, hNz.moved hN hW, hoA, hMe, hFc⟩⟩ rfl (by unfold zq_sts; rw [List.length_map]) hls rfl (lv_room hcat) hdg ⟨hc1, hc2⟩) kk
/-- the receiver of a contract: the first argument is an object of a class -/
noncomputable def zq_rcv (KT : List zq_K) (ct : zq_Ct) (ci : Nat) : Bool := match zq_args ct with
  | (2, er) :: _ => ct.1.2.2.1.any (fun x => zq_eq x er) && (match zq_kd ct.1.2.2.2.1 er with
    | some k => (match KT[k]? with
      | some K => Nat.beq K.1 0 && Nat.beq K.2.1 ci
      | none => false)
    | none => false)
  | _ => false
theorem zq_rcv_ok {ci : Nat} {rc : vw_C} {r : Nat → Int} {P : zq_Ty} {h : zq_H} {H : Heap} (hr : zq_rcv w.2.2.2.1 ct ci = true) (hrc : w.2.1[ci]? = some rc) (hMe : zq_MeS w r P h H ct.1) (hK : va_K w.1 w.2.1 w.2.2.1 s) : ∃ (a : Nat) (er : zq_L) (tl : List (Nat × zq_L)), zq_args ct = (2, er) :: tl ∧ zq_ev r er = (a : Int) ∧ ∃ cell : Cell, H[a]? = some cell ∧ cell.vm.isStatics = false ∧ s.vm.findClass rc.1 = some cell.cls := by
  unfold zq_rcv at hr
  split at hr
  · rename_i er tl heq
    simp only [Bool.and_eq_true] at hr
    obtain ⟨h1, h2⟩ := hr
    obtain ⟨x, hx, hxe⟩ := List.any_eq_true.mp h1
    have hx0 := hMe.2.1.1 x hx
    rw [zq_eq_ok hxe] at hx0
    split at h2
    · rename_i k hk
      split at h2
      · rename_i K hKT
        simp only [Bool.and_eq_true] at h2
        have k0 := Nat.eq_of_beq_eq_true h2.1
        have k1 := Nat.eq_of_beq_eq_true h2.2
        subst k1
        have hP := (hMe.2.2.1 _ (zq_kd_ok hk)).2 (zq_ev r er).toNat (by show zq_ev r er = _; omega)
        obtain ⟨K', g1, g2, -⟩ := hMe.1 _ _ hP
        have eK : K' = K := Option.some.inj (g1.symm.trans hKT)
        subst eK
        obtain ⟨rc', hrc', cell, c1, c2, c3, -⟩ := zq_cell0 g2 k0
        have erc : rc' = rc := Option.some.inj (hrc'.symm.trans hrc)
        subst erc
        refine ⟨(zq_ev r er).toNat, er, tl, heq, by omega, cell, c1, by rw [c3]; rfl, ?_⟩
        rw [c2]
        exact (hK.1 _ _ hrc).2.1
      · cases h2
    · cases h2
  · cases hr
theorem zq_callV {ci : Nat} {rc : vw_C} (hM : zq_Met l w NW AO y (Cond.code y bytes maxL ret :: tb) rmc ct mc ms) (hN : zq_okN NW AO) (ho : zq_one ct = true) (hMc : zq_Mc p s m args c cc own Ts) (hml : c.maxLocals = nL) (hK : va_K w.1 w.2.1 w.2.2.1 s) (hNz : zq_Nz NW AO s) (hrc : rmc.cells = mc) (hrs : rmc.slots = ms) (hG : GoodIn Ts (Cond.code y bytes maxL ret :: tb)) (hl : Cond.methodLink own cp y ∈ Ts) (hin : Cond.instanceMethod y ∈ Ts) (hsel : Cond.selects rc.1 y y ∈ Ts) (hini : Cond.initialized y.cls ∈ Ts) (hcl : w.2.1[ci]? = some rc) (hrv : zq_rcv w.2.2.2.1 ct ci = true)
    (hd : y.cls ≠ "java/lang/invoke/MethodHandle" ∧ y.cls ≠ "java/lang/invoke/VarHandle" ∧ (parseMethodDescriptor y.desc).map (fun d => d.parameters.length) = some ((zq_args ct).length - 1)) (hR : rmc.frames + 1 ≤ R.frames ∧ 8 + (maxL + 11) + rmc.locals ≤ R.locals) :
    zq_CallW AO.2.1 w p l e R s m args below meth c Q cc nL (.invokevirtual cp) ct mc ms := by
  intro r P h H locs cells slots pc ls rest hoA hMe hFc hcat hls hc1 hc2 hdg kk
  obtain ⟨hexec, hb, hown, hts⟩ := hMc
  obtain ⟨a, er, tl, hargs, ha, hcell⟩ := zq_rcv_ok (s := s) hrv hcl hMe hK
  have hst : zq_sts r (zq_args ct) = .ref a :: zq_sts r tl := by
    rw [hargs]
    show zq_val 2 (zq_ev r er) :: zq_sts r tl = _
    rw [ha, zq_val_of (Nat.le_refl 2)]
  rw [hst, List.reverse_cons, List.append_assoc]
  rw [hargs] at hd
  refine zq_runW (zq_one_ok ho) (va_runV (As := zq_sts r tl) (b := a) (Pc := zq_Pc w NW AO ct r P h H) (n := tl.length) (C := rc.1) ⟨hexec, hb, hml, hown, hts⟩ (hM r P h H) ⟨callB_of _ hts hG rfl hrc hrs (hts _ hini) (hts _ hl) hd hR, hts _ hin, hts _ hsel⟩ ⟨zq_blind hN, hcell, fun U hU hW => ⟨by rw [hst], hU, va_K.moved hW.alike hK, hNz.moved hN hW, hoA, hMe, hFc⟩⟩ rfl (by unfold zq_sts; rw [List.length_map]) hls rfl (lv_room hcat) hdg ⟨hc1, hc2⟩) kk
theorem zq_callI (hM : zq_Met l w NW AO y (Cond.code y bytes maxL none :: tb) rmc ct mc ms) (hN : zq_okN NW AO) (ho : zq_one ct = true) (hMc : zq_Mc p s m args c cc own Ts) (hml : c.maxLocals = nL) (hK : va_K w.1 w.2.1 w.2.2.1 s) (hNz : zq_Nz NW AO s) (hrc : rmc.cells = mc) (hrs : rmc.slots = ms) (hG : GoodIn Ts (Cond.code y bytes maxL none :: tb)) (hl : Cond.methodLink own cp y ∈ Ts) (hin : Cond.instanceMethod y ∈ Ts) (hini : Cond.initialized y.cls ∈ Ts) (hy1 : y.name = "<init>") (hfst : ∃ (er : zq_L) (tl : List (Nat × zq_L)), zq_args ct = (2, er) :: tl ∧ (ct.1.2.2.1.any (fun x => zq_eq x er)) = true)
    (hd : y.cls ≠ "java/lang/invoke/MethodHandle" ∧ y.cls ≠ "java/lang/invoke/VarHandle" ∧ (parseMethodDescriptor y.desc).map (fun d => d.parameters.length) = some ((zq_args ct).length - 1)) (hR : rmc.frames + 1 ≤ R.frames ∧ 8 + (maxL + 11) + rmc.locals ≤ R.locals) :
    zq_CallW AO.2.1 w p l e R s m args below meth c Q cc nL (.invokespecial cp) ct mc ms := by
  intro r P h H locs cells slots pc ls rest hoA hMe hFc hcat hls hc1 hc2 hdg kk
  obtain ⟨hexec, hb, hown, hts⟩ := hMc
  obtain ⟨er, tl, hargs, hpos⟩ := hfst
  obtain ⟨x, hx, hxe⟩ := List.any_eq_true.mp hpos
  have hx0 := hMe.2.1.1 x hx
  rw [zq_eq_ok hxe] at hx0
  have hst : zq_sts r (zq_args ct) = .ref (zq_ev r er).toNat :: zq_sts r tl := by
    rw [hargs]
    show zq_val 2 (zq_ev r er) :: zq_sts r tl = _
    rw [← zq_val_of (t := 2) (a := (zq_ev r er).toNat) (Nat.le_refl 2), Int.toNat_of_nonneg hx0]
  rw [hst, List.reverse_cons, List.append_assoc]
  rw [hargs] at hd
  refine zq_runW (zq_one_ok ho) (va_runI (As := zq_sts r tl) (b := (zq_ev r er).toNat) (Pc := zq_Pc w NW AO ct r P h H) (n := tl.length) ⟨hexec, hb, hml, hown, hts⟩ (hM r P h H) ⟨callB_of _ hts hG rfl hrc hrs (hts _ hini) (hts _ hl) hd hR, hy1, hts _ hin⟩ ⟨zq_blind hN, fun U hU hW => ⟨by rw [hst], hU, va_K.moved hW.alike hK, hNz.moved hN hW, hoA, hMe, hFc⟩⟩ rfl (by unfold zq_sts; rw [List.length_map]) hls rfl (lv_room hcat) hdg ⟨hc1, hc2⟩) kk
theorem zq_callIN (hM : zq_Met l w NW AO y (Cond.code y bytes maxL none :: tb) rmc ct mc ms) (hN : zq_okN NW AO) (ho : zq_one ct = true) (hMc : zq_Mc p s m args c cc own Ts) (hml : c.maxLocals = nL) (hK : va_K w.1 w.2.1 w.2.2.1 s) (hNz : zq_Nz NW AO s) (hrc : rmc.cells = mc) (hrs : rmc.slots = ms) (hG : GoodIn Ts (Cond.code y bytes maxL none :: tb)) (hl : Cond.methodLinkNest own cp y host ∈ NW) (hin : Cond.instanceMethod y ∈ Ts) (hini : Cond.initialized y.cls ∈ Ts) (hy1 : y.name = "<init>") (hfst : ∃ (er : zq_L) (tl : List (Nat × zq_L)), zq_args ct = (2, er) :: tl ∧ (ct.1.2.2.1.any (fun x => zq_eq x er)) = true)
    (hd : y.cls ≠ "java/lang/invoke/MethodHandle" ∧ y.cls ≠ "java/lang/invoke/VarHandle" ∧ (parseMethodDescriptor y.desc).map (fun d => d.parameters.length) = some ((zq_args ct).length - 1)) (hR : rmc.frames + 1 ≤ R.frames ∧ 8 + (maxL + 11) + rmc.locals ≤ R.locals) :
    zq_CallW AO.2.1 w p l e R s m args below meth c Q cc nL (.invokespecial cp) ct mc ms := by
  intro r P h H locs cells slots pc ls rest hoA hMe hFc hcat hls hc1 hc2 hdg kk
  obtain ⟨hexec, hb, hown, hts⟩ := hMc
  obtain ⟨er, tl, hargs, hpos⟩ := hfst
  obtain ⟨x, hx, hxe⟩ := List.any_eq_true.mp hpos
  have hx0 := hMe.2.1.1 x hx
  rw [zq_eq_ok hxe] at hx0
  have hst : zq_sts r (zq_args ct) = .ref (zq_ev r er).toNat :: zq_sts r tl := by
    rw [hargs]
    show zq_val 2 (zq_ev r er) :: zq_sts r tl = _
    rw [← zq_val_of (t := 2) (a := (zq_ev r er).toNat) (Nat.le_refl 2), Int.toNat_of_nonneg hx0]
  rw [hst, List.reverse_cons, List.append_assoc]
  rw [hargs] at hd
  refine zq_runW (zq_one_ok ho) (va_runIN (As := zq_sts r tl) (b := (zq_ev r er).toNat) (Pc := zq_Pc w NW AO ct r P h H) (n := tl.length) ⟨hexec, hb, hml, hown, hts⟩ (hM r P h H) ⟨va_cnB _ hts hG rfl hrc hrs (hNz.1 _ hl) (hts _ hini) hd hR, hy1, hts _ hin⟩ ⟨zq_blind hN, fun U hU hW => ⟨by rw [hst], hU, va_K.moved hW.alike hK, hNz.moved hN hW, hoA, hMe, hFc⟩⟩ rfl (by unfold zq_sts; rw [List.length_map]) hls rfl (lv_room hcat) hdg ⟨hc1, hc2⟩) kk
end ZQCALL
