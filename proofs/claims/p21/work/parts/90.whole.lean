/-! THE CLAIM OUT OF ONE WALK OF THE LAW'S BODY. Your part is whole_start (and what it stands on); all else here is the same for every law, but numbers. -/
def R_law : String := "AnswerDaysLaw"
def lw_P (b : Addr) (xs : List Int32) (args : Array Value) (s : State) : Prop := args = #[.ref b] ∧ s.IntsAt b xs ∧ xs.length ≤ 3072 ∧ (Jvm.Cond.and given_1 narrow_1).before args s = true
def lw_Q (_ : Array Value) (s : State) (o : Outcome) (t : State) : Prop := o = .returned (some (.int 1)) ∧ Framed s o t [] 600000 7302250
def lw_Z (below : List Frame) (a : Array Value) (s : State) : State → Prop := fun t => ∃ o, t.status = .running ∧ Ended t below o ∧ lw_Q a s o t
/-- the law's own end, with 1 on the stack, nothing written that was there before, its room as the claim has it -/
theorem lw_ret {p : Program} {l : Launch} {e : Env} {s : State} {m : MethodId} {below : List Frame} {meth : Method} {c : Code} {b : Nat} (hx : p.tables.exec = Jvm.exec) (hb : c.code = code) (hr : meth.sig.returnType = ret) (hlocks : meth.locks = false) {pc : Nat} {H : Heap} {ls : Array Slot} (hdg : decode code pc = .ok (.ireturn, 1)) : W p l e room_1 s m #[Value.ref b] below meth c H [] 600000 7302250 (lw_Z below #[Value.ref b] s) (F0 m pc ls [.int 1]) := by
  intro T hT X
  obtain ⟨fs, hret, hrun, hended, hW, hframe⟩ := X.leave (v := some (.int 1)) (hlocks := hlocks) (fun h => by rw [hr] at h; cases h)
  have hmeth' : T.vm.method? m = some meth := X.method'
  refine ⟨T.setFrames fs, ?_, .returned (some (.int 1)), hrun, hended, rfl, ⟨_, rfl⟩, hW, hframe⟩
  jvm_step X.here [X.here.top, hx, hb, hdg, hmeth', hr, ret, narrow_b1]
  (try refine ⟨rfl, ?_⟩); (try refine ⟨rfl, ?_⟩)
  first | (intro acts; rw [hret _ acts rfl rfl rfl]) | rw [hret _ _ rfl rfl rfl]
  exact Steps.refl _
/-- what holds at the law's entry: the machine, the code, the tables' words (any of lw_tbl by 'hts w (by decide +kernel)'), the script of L ints xs at the cell b, what the Statement gives of the start (any of its parts by flat_of_before) -/
def lw_At (p : Program) (s : State) (m : MethodId) (meth : Method) (c : Code) (b L : Nat) (xs : Nat → Int32) : Prop :=
  p.tables.exec = Jvm.exec ∧ c.code = code ∧ meth.sig.returnType = ret ∧ c.maxLocals = 4 ∧ s.vm.findClass R_law = some m.cls ∧ (∀ w ∈ lw_tbl, w.before #[Value.ref b] s = true) ∧ va_X b L xs s s.heap ∧ b < s.heap.size ∧ meth.locks = false ∧ (Jvm.Cond.and given_1 narrow_1).before #[Value.ref b] s = true
theorem zl_in {A : zf_A} : ∀ C ∈ (zf_AO A).1, C = "AnswerDays$Text" ∨ C = "AnswerDays$Land" := fun C hC => by
  rcases List.mem_cons.mp hC with rfl | hC
  · exact Or.inl rfl
  · exact Or.inr (List.mem_singleton.mp hC)
/-- what is known of a state at a cut -/
theorem zl_cu {cu : zq_Cu} (h : zl_okc cu = true) : (∀ r : Nat → Int, zq_ev r cu.2.2.1 = cu.2.2.1.1 - 102 * r 2) ∧ cu.2.2.1.1 ≤ 52326 ∧ 52326 < cu.2.2.1.1 + 102 ∧ ((cu.2.2.2.1 = 0 ∧ cu.2.2.2.2 = 0) ∨ (cu.2.2.2.1 = 5 ∧ cu.2.2.2.2 = 526 ∧ cu.2.2.1.1 = 52326)) ∧ (∀ r : Nat → Int, zq_all r cu.2.1.2.2.1 → 0 ≤ r 2 ∧ r 2 ≤ 512) ∧ zq_wf cu.2.1 = true ∧ 2 ≤ cu.2.1.2.2.2.2.2.2.2 ∧ zq_bd cu.2.1.2.2.2.2.2.2.2 cu.2.2.1 = true := by
  obtain ⟨pc, S, ⟨c, ts⟩, ck, cs⟩ := cu
  simp only [zl_okc, Bool.and_eq_true, Bool.or_eq_true, decide_eq_true_eq] at h
  obtain ⟨h1, h2, h3, h4, h5, h6, ⟨h7, h8⟩, h9⟩ := h
  refine ⟨fun r => ?_, h2, h3, ?_, fun r hr => ⟨?_, ?_⟩, h7, Nat.le_of_ble_eq_true h8, h9⟩
  · show c + zq_ts r ts = c - 102 * r 2
    rw [h1]
    simp only [zq_ts]
    omega
  · rcases h4 with h4 | ⟨h4, h4'⟩
    · left; exact ⟨congrArg Prod.fst h4, congrArg Prod.snd h4⟩
    · right; exact ⟨congrArg Prod.fst h4, congrArg Prod.snd h4, h4'⟩
  · obtain ⟨x, hx, hq⟩ := List.any_eq_true.mp h5
    have z := hr x hx
    rw [zq_eq_ok hq] at z
    simp [zq_ev, zq_ts] at z
    exact z
  · obtain ⟨x, hx, hq⟩ := List.any_eq_true.mp h6
    simp only [Bool.and_eq_true, decide_eq_true_eq] at hq
    have z := hr x hx
    obtain ⟨xc, xt⟩ := x
    simp only at hq
    rw [hq.1] at z
    simp [zq_ev, zq_ts] at z
    have := hq.2
    omega
set_option maxHeartbeats 8000000 in
/-- from the entry, for every script of at most 3072 ints, the law comes to its end with true -/
theorem whole_start {p : Program} {e : Env} {s : State} {m : MethodId} {below : List Frame} {meth : Method} {c : Code} (l : Launch) {b L : Nat} {xs : Nat → Int32} (hL : L ≤ 3072) (C0 : lw_At p s m meth c b L xs) : W p l e room_1 s m #[Value.ref b] below meth c s.heap [] 0 0 (lw_Z below #[Value.ref b] s) (entryFrame m ([Value.ref b] : List Value).toArray 4) := by
  obtain ⟨hx, hb, hr, hml, hown, hts, hX, hbl, hlocks, hgv⟩ := id C0
  obtain ⟨D, hD⟩ := zs_K hts
  obtain ⟨tys, hty, htys⟩ := zs_tys hts
  obtain ⟨A, hS, hF, hA3, hA4⟩ := zs_fix hL hts hX hgv
  have hK : va_K D vwCl tys s := ⟨hD, htys⟩
  have hNz : zq_Nz zi_NW (zf_AO A) s := ⟨zs_NW hts, fun C hC => by
    rcases zl_in C hC with rfl | rfl
    · exact va_AO.of (hts (.arrayOver (.object "AnswerDays$Text")) (List.mem_of_getElem? (i := 368) (by decide +kernel)))
    · exact va_AO.of (hts (.arrayOver (.object "AnswerDays$Land")) (List.mem_of_getElem? (i := 477) (by decide +kernel))), hS⟩
  have hz := zs_zt hts
  have hMc : zq_Mc p s m #[Value.ref b] c code RL (Cond.initialized "AnswerDaysLaw" :: zt) := ⟨hx, hb, hown, fun w hw => by
    rcases List.mem_cons.mp hw with rfl | hw
    · exact hz _ zi_in13
    · exact hz w hw⟩
  have hF0 : zq_Fc (zf_FC A) (fun _ => none) s.heap (fun _ => False) := fun x hx => ⟨hF x hx, rfl, id⟩
  have hD0 : zq_okD RL (Cond.initialized "AnswerDaysLaw" :: zt) [] := fun x hx => by cases hx
  have hFL0 : zq_okFL RL (Cond.initialized "AnswerDaysLaw" :: zt) vwCl [] := fun x hx => by cases hx
  have hCL0 : zq_okCL RL (Cond.initialized "AnswerDaysLaw" :: zt) vwCl zi_FT zl_cl := zl_clk.sub (fun _ h => h) zt_cons
  have hAL0 : zq_okAL RL (Cond.initialized "AnswerDaysLaw" :: zt) zi_TY [] s := fun x hx => by cases hx
  have hMs : zq_okM 2 zl_M := fun x hx => by
    have := List.all_eq_true.mp zl_Mok x hx
    simp only [Bool.and_eq_true] at this
    exact this
  have hCode : ∀ x ∈ zc_L_law, decode code x.1 = .ok x.2 := zq_ckC_ok zd_L_law
  have hCl : ∀ x ∈ zl_ml, ∀ ct, zl_CTs[x.2.1]? = some ct → zq_okct ct = true ∧ zq_CallW (zf_FC A) (zi_w D tys A) p l e room_1 s m #[Value.ref b] below meth c (lw_Z below #[Value.ref b] s) code 4 x.1 ct x.2.2.1 x.2.2.2 := fun x hx ct hct => zl_calls hty x hx ct hct p e s m #[Value.ref b] below meth c (lw_Z below #[Value.ref b] s) hMc hml hK hNz
  have hPo : ∀ po ∈ zl_posts, zq_wf po.2 = true ∧ ∀ x ∈ po.1, zq_bd po.2.2.2.2.2.2.2.2 x.2 = true := fun po hpo => by
    rw [List.mem_singleton.mp hpo]
    exact ⟨rfl, fun x hx => by rw [List.mem_singleton.mp hx]; rfl⟩
  let r0 : Nat → Int := fun i => match i with
    | 0 => (b : Int)
    | _ => (L : Int)
  -- the end
  have hEnd : ∀ (cc0 ss0 : Nat), cc0 ≤ 600000 → ss0 ≤ 7302250 → ∀ po ∈ zl_posts, ∀ (i : Instr) (pc : Nat) (r' : Nat → Int) (P : zq_Ty) (h : zq_H) (H : Heap) (locs : List Loc) (ls : Array Slot), zq_rti i po.1 = true → decode code pc = .ok (i, 1) → zq_ext 2 r0 r' → zq_okT r' po.2.2.2.2.2.2.2.2 po.1 → zq_MeS (zi_w D tys A) r' P h H po.2 → zq_Fr zl_M r0 (fun _ => none) (fun _ _ => 0) s.heap (fun _ => False) P h H locs → W p l e room_1 s m #[Value.ref b] below meth c H locs cc0 ss0 (lw_Z below #[Value.ref b] s) (F0 m pc ls (zq_sts r' po.1)) := by
    intro cc0 ss0 h1 h2 po hpo i pc r' P h H locs ls hi hdg _ _ _ Fr
    rw [List.mem_singleton.mp hpo] at hi ⊢
    have ei := zq_rti0 hi
    subst ei
    refine va_forget (fun q hq => ?_) (W.widen (k := 600000) (n := 7302250) h1 h2 ?_)
    · rcases Fr.1.2.2 q hq with ⟨k, z, -⟩ | z | z
      · cases z
      · exact z
      · exact absurd z id
    · exact lw_ret hx hb hr hlocks hdg
  -- the loop
  have hLoop : ∀ (N : Nat) (cu : zq_Cu), cu ∈ zl_cuts → ∀ (r' : Nat → Int) (P : zq_Ty) (h : zq_H) (H : Heap) (locs : List Loc) (ls : Array Slot) (st : List Value), zq_ext 2 r0 r' → zq_G (zi_w D tys A) 4 r' P h H ls st cu.2.1 → zq_Fr zl_M r0 (fun _ => none) (fun _ _ => 0) s.heap (fun _ => False) P h H locs → zq_Rn s.heap (fun _ => False) r' cu.2.1.2.2.2.2.2.1 → 0 ≤ zq_ev r' cu.2.2.1 → zq_ev r' cu.2.2.1 < N →
      W p l e room_1 s m #[Value.ref b] below meth c H locs (124 + 5 * (r' 2).toNat) (23603 + 526 * (r' 2).toNat) (lw_Z below #[Value.ref b] s) (F0 m cu.1 ls st) := by
    intro N
    induction N with
    | zero => intro cu hcu r' P h H locs ls st hx' G Fr Rn h1 h2; omega
    | succ N ihN =>
      intro cu hcu r' P h H locs ls st hx' G Fr Rn h1 h2
      obtain ⟨k1, k2, k3, k4, k5, k6, k7, k8⟩ := zl_cu (List.all_eq_true.mp zl_oks cu hcu)
      obtain ⟨n1, n2⟩ := k5 r' G.2.2.2.2.2.1.1
      obtain ⟨q, hq⟩ := zl_chk cu hcu
      obtain ⟨q', hq'⟩ := Option.isSome_iff_exists.mp hq
      have z := zq_chkL_ok (c0 := 124 + 5 * (r' 2).toNat) (s0 := 23603 + 526 * (r' 2).toNat) (FC := zf_FC A) (mu := some cu.2.2.1) (B := (zq_ev r' cu.2.2.1).toNat) (w := zi_w D tys A) (n0 := 2) (r0 := r0) (P0 := fun _ => none) (h0 := fun _ _ => 0) (H0 := s.heap) (R0 := fun _ => False) (own := RL) (TY := zi_TY) (FT := zi_FT) (FN := zi_FN) (AC := zi_AC) (FX := zi_FX) (GL := zi_GL) (CTs := zl_CTs) (LD := []) (FL := []) (CL := zl_cl) (AL := []) (ML := zl_ml) (M := zl_M) (ini := false) (oc := 12) (Rc := 5) (Rs := 526) (posts := zl_posts) (cuts := zl_cuts) (code := zc_L_law) (nL := 4) (l := l) (e := e) (R := room_1) (below := below) (meth := meth) (Q := lw_Z below #[Value.ref b] s)
        hMc hD0 hFL0 (zi_CI.sub zt_cons) hCL0 zi_ACok hAL0 (zi_AKok.sub zt_cons) zi_FXok zi_Kok zi_GLok (fun z => by cases z) hK hty hMs (by show 5 + (124 + 5 * (r' 2).toNat) ≤ 600000; omega) (by show 526 + (23603 + 526 * (r' 2).toNat) ≤ 7302250; omega) hF0 hCode hCl hPo
        (fun po hpo i pc r2 P2 h2' H2 locs2 ls2 a1 a2 a3 a4 a5 a6 => hEnd _ _ (by omega) (by omega) po hpo i pc r2 P2 h2' H2 locs2 ls2 a1 a2 a3 a4 a5 a6)
        (fun cu' hcu' => by
          obtain ⟨-, -, -, -, -, y6, y7, -⟩ := zl_cu (List.all_eq_true.mp zl_oks cu' hcu')
          exact ⟨y6, y7⟩)
        (fun cu' hcu' r2 P2 h2' H2 locs2 ls2 st2 hx2 G2 Fr2 Rn2 g1 g2 => by
          obtain ⟨y1, y2, y3, y4, y5, -, -, -⟩ := zl_cu (List.all_eq_true.mp zl_oks cu' hcu')
          obtain ⟨u1, u2⟩ := y5 r2 G2.2.2.2.2.2.1.1
          have g2 : zq_ev r2 cu'.2.2.1 < ((zq_ev r' cu.2.2.1).toNat : Int) := by
            rcases g2 with g2 | g2
            · cases g2
            · exact g2
          have ih := ihN cu' hcu' r2 P2 h2' H2 locs2 ls2 st2 hx2 G2 Fr2 Rn2 g1 (by omega)
          have e1 := k1 r'
          have e2 := y1 r2
          refine W.widen ?_ ?_ ih
          · rcases y4 with ⟨y, -⟩ | ⟨y, -, yc⟩ <;> rw [y] <;> omega
          · rcases y4 with ⟨-, y⟩ | ⟨-, y, yc⟩ <;> rw [y] <;> omega)
        100000 0 0 cu.1 cu.2.1 q q' hq' r' P h H locs ls st k7 hx' (fun m0 hm0 => by cases hm0; exact ⟨k8, by omega⟩) G Fr Rn
      rw [Nat.zero_add, Nat.zero_add] at z
      exact z
  -- the start
  have hl := lv_entry ([.ref b]) (n := 4) (Nat.le_of_ble_eq_true rfl)
  rw [lg_entry_eq]
  generalize (lg_sl ([.ref b]) ++ List.replicate (4 - (lg_sl ([.ref b])).length) Slot.unset).toArray = ls at hl ⊢
  have hl : lv_has ls 4 [(0, .ref b)] := hl
  obtain ⟨q', hq'⟩ := Option.isSome_iff_exists.mp zl_s
  have hG : zq_G (zi_w D tys A) 4 r0 (fun _ => none) (fun _ _ => 0) s.heap ls [] zl_S0 := by
    refine ⟨?_, rfl, fun x hx => ?_, (fun x hx => by cases hx), ?_⟩
    · have e0 : zq_lvs r0 zl_S0.1 = [(0, .ref b)] := by
        show [(0, zq_val 2 (zq_ev r0 (zq_v 0)))] = _
        rw [zq_ev_v]
        exact congrArg (fun z => [(0, z)]) (zq_val_of (t := 2) (a := b) (Nat.le_refl 2))
      rw [e0]; exact hl
    · rw [List.mem_singleton.mp hx]
      refine ⟨rfl, ?_⟩
      show -1 ≤ zq_ev r0 (zq_v 0)
      rw [zq_ev_v]
      show -1 ≤ (b : Int)
      omega
    · refine zq_MeS_mk (S := zl_S0) rfl (fun a k hk => by cases hk) (zq_all_cons ?_ (zq_all_cons ?_ (zq_all_cons ?_ zq_all_nil))) zq_fan zq_fan rfl (zq_fa1 ?_)
      · show 0 ≤ zq_ev r0 (zq_v 0)
        rw [zq_ev_v]; show 0 ≤ (b : Int); omega
      · show 0 ≤ zq_ev r0 (zq_v 1)
        rw [zq_ev_v]; show 0 ≤ (L : Int); omega
      · show 0 ≤ zq_ev r0 (3072, [(1, -1)])
        simp only [zq_ev, zq_ts]
        show 0 ≤ 3072 + (-1 * (L : Int) + 0)
        omega
      · show [zq_ev r0 (zq_v 0), zq_ev r0 (zq_v 1)] = [(A.1 3 : Int), (A.1 4 : Int)]
        rw [zq_ev_v, zq_ev_v, hA3, hA4]
        rfl
  refine zq_chkL_ok (c0 := 0) (s0 := 0) (FC := zf_FC A) (mu := none) (B := 0) (w := zi_w D tys A) (n0 := 2) (r0 := r0) (P0 := fun _ => none) (h0 := fun _ _ => 0) (H0 := s.heap) (R0 := fun _ => False) (own := RL) (TY := zi_TY) (FT := zi_FT) (FN := zi_FN) (AC := zi_AC) (FX := zi_FX) (GL := zi_GL) (CTs := zl_CTs) (LD := []) (FL := []) (CL := zl_cl) (AL := []) (ML := zl_ml) (M := zl_M) (ini := false) (oc := 12) (Rc := 124) (Rs := 23603) (posts := zl_posts) (cuts := zl_cuts0) (code := zc_L_law) (nL := 4) (l := l) (e := e) (R := room_1) (below := below) (meth := meth) (Q := lw_Z below #[Value.ref b] s)
    hMc hD0 hFL0 (zi_CI.sub zt_cons) hCL0 zi_ACok hAL0 (zi_AKok.sub zt_cons) zi_FXok zi_Kok zi_GLok (fun z => by cases z) hK hty hMs (by show 124 + 0 ≤ 600000; omega) (by show 23603 + 0 ≤ 7302250; omega) hF0 hCode hCl hPo
    (fun po hpo i pc r2 P2 h2' H2 locs2 ls2 a1 a2 a3 a4 a5 a6 => hEnd _ _ (by omega) (by omega) po hpo i pc r2 P2 h2' H2 locs2 ls2 a1 a2 a3 a4 a5 a6)
    (fun cu' hcu' => by rw [List.mem_singleton.mp hcu']; exact ⟨(zl_cu (List.all_eq_true.mp zl_oks _ (List.mem_cons_self ..))).2.2.2.2.2.1, (zl_cu (List.all_eq_true.mp zl_oks _ (List.mem_cons_self ..))).2.2.2.2.2.2.1⟩)
    (fun cu' hcu' r2 P2 h2' H2 locs2 ls2 st2 hx2 G2 Fr2 Rn2 g1 g2 => by
      rw [List.mem_singleton.mp hcu'] at G2 Rn2 g1 ⊢
      have ih := hLoop (52327 + 0) _ (List.mem_cons_self ..) r2 P2 h2' H2 locs2 ls2 st2 hx2 G2 Fr2 Rn2 g1 (by
        obtain ⟨y1, -, -, -, y5, -⟩ := zl_cu (List.all_eq_true.mp zl_oks _ (List.mem_cons_self ..))
        have e2 := y1 r2
        obtain ⟨u1, u2⟩ := y5 r2 G2.2.2.2.2.2.1.1
        rw [e2]
        show (52326 : Int) - 102 * r2 2 < _
        omega)
      exact W.widen (by show 124 + 0 ≤ 124 + 5 * (r2 2).toNat; omega) (by show 23603 + 0 ≤ 23603 + 526 * (r2 2).toNat; omega) ih)
    100000 0 0 0 zl_S0 _ q' hq' r0 (fun _ => none) (fun _ _ => 0) s.heap [] ls [] (Nat.le_refl _) (fun _ _ => rfl) (fun m0 hm0 => by cases hm0) hG ⟨va_S.rf, (fun _ _ z => z), (fun _ _ _ z _ => by cases z), (fun _ _ z => Or.inl z)⟩ (fun x hx => by cases hx)
set_option maxHeartbeats 4000000 in
theorem lw_walk (l : Launch) (b : Addr) (xs : List Int32) : MetFree l x (headSpec (Jvm.Cond.code x code maxLocals ret :: tables_1) room_1) (lw_P b xs) (fun _ _ _ _ _ => True) lw_Q := by
  refine MetFree.of_bodyS (code := code) (maxLocals := maxLocals) (ret := ret) (by decide) ?_ ?_
  · intro args s m h hn
    obtain ⟨meth, c, h1, h2, h3, h4, h5, h6, -, -⟩ := Cond.code_spec hn (atoms_spec (ws := Jvm.Cond.code x code maxLocals ret :: tables_1) h _ List.mem_cons_self)
    exact ⟨meth, c, h1, h2, h3, h4, h5, h6⟩
  · intro p e s m args below meth c s₁ B hml0 hP _
    obtain ⟨rfl, hx, hbd, hgv⟩ := hP
    obtain ⟨scr, harrAt, hlist, hof, hsmall⟩ := hx
    obtain ⟨hcb, hkn, -, -⟩ := State.arrayAt?_spec harrAt
    have hown : s.vm.findClass R_law = some m.cls := findClass_of_methodNamed B.named
    have hts0 : ∀ c ∈ (Jvm.Cond.code x code maxLocals ret :: tables_1), c.before #[Value.ref b] s = true := atoms_spec (ws := Jvm.Cond.code x code maxLocals ret :: tables_1) B.pre
    have hts : ∀ w ∈ lw_tbl, w.before #[Value.ref b] s = true := k2_hts_sels lw_privs (fun w hw => hts0 w (List.mem_cons_of_mem _ hw)) lw_privs_ok
    have hml : c.maxLocals = 4 := B.maxLocals_eq (hts0 _ List.mem_cons_self)
    have X₀ : Stand p l e room_1 s m #[Value.ref b] below meth c s₁ [] 0 0 := Stand.of_body B
    have hh0 : s₁.heap = s.heap := by rw [B.state]; rfl
    have hsz : scr.slots.size = xs.length := by rw [← Array.length_toList, hlist, List.length_map]
    have hval : ∀ j : Nat, j < xs.length → scr.slots[j]? = some (.int (xs.getD j 0)) := fun j hj => by
      rw [← Array.getElem?_toList, hlist]
      simp [hj]
    have hbl : b < s.heap.size := (Array.getElem?_eq_some_iff.mp hcb).1
    have hX : va_X b xs.length (fun j => xs.getD j 0) s s.heap := ⟨scr, hcb, hof, hkn, hsz, hval⟩
    have K : W p l e room_1 s m #[Value.ref b] below meth c s₁.heap [] 0 0 (lw_Z below #[Value.ref b] s) (entryFrame m ([Value.ref b] : List Value).toArray 4) := by
      rw [hh0]
      exact whole_start l hbd ⟨B.exec, B.bytes, B.returns, hml, hown, hts, hX, hbl, B.notSynchronized, hgv⟩
    obtain ⟨t, a1, o, b1, b2, b3⟩ := K s₁ rfl X₀
    exact ⟨t, o, a1, b1, b2, b3⟩
theorem lw_pre_spec {args : Array Value} {s : State} (h : (Jvm.Cond.and given_1 narrow_1).before args s = true) (hr : rest_1_c.before args s = true) : ∃ (b : Addr) (xs : List Int32), lw_P b xs args s := by
  have hs := flat_of_before _ h
  have hq := flat_of_before _ hr
  have hc : (Cond.count 1).before args s = true := hs _ (by decide +kernel)
  have harr : (Cond.arrayOf (.arg 0) .int).before args s = true := hs _ (by decide +kernel)
  have hle : (Cond.le (.length (.arg 0)) (.int 3072)).before args s = true := hs _ (by decide +kernel)
  have hlen : (Cond.isInt (.length (.arg 0))).before args s = true := hq _ (by decide +kernel)
  have hall : (Cond.all (.arg 0) (.isInt (.elem (.arg 0) (.index 0)))).before args s = true := hq _ (by decide +kernel)
  obtain ⟨b, xs, hb, hx⟩ := State.ints_of_pre rfl harr hlen hall
  have hsm : xs.length < 2 ^ 31 := hx.choose_spec.2.2.2
  have hev : (Term.length (.arg 0)).eval args s none [] s = some (.int xs.length.toInt32) := hx.length_eval hb
  have hv := Cond.le_ints hev (show (Term.int 3072).eval args s none [] s = some (.int 3072) from rfl)
  have hd : xs.length.toInt32 ≤ 3072 := by
    simpa [Cond.before, Cond.holds, hv] using hle
  have hN : xs.length ≤ 3072 := (Int32.ofNat_le_ofNat hsm (by decide)).mp (show Int32.ofNat xs.length ≤ Int32.ofNat 3072 from hd)
  exact ⟨b, xs, Cond.one_arg hc (show args[0]? = some (.ref b) from hb), hx, hN, h⟩
theorem lw_comes (l : Launch) : Comes l x (Jvm.Cond.code x code maxLocals ret :: tables_1) room_1 (fun tb e args s => Calls_1 tb e args s ∧ rest_1 tb e args s ∧ Pre_1 tb e args s)
    (fun _ _ args s o t => lw_Q args s o t) := by
  intro p e ha hc hk s m args below hf hfit hheap happ hpre
  obtain ⟨b, xs, hP⟩ := lw_pre_spec hpre.2.2 hpre.2.1
  obtain ⟨k, o, h1, h2, h3, hQ⟩ := lw_walk l b xs p e ha hc hk s m args below hf ((Spec.applies_iff_loose hf).mp happ).1 hP trivial
  exact ⟨k, o, h1, h2, h3, hQ⟩
theorem lw_frame {s t : State} {o : Outcome} {args : Array Value} (h : Framed s o t [] 600000 7302250) :
    Framed s o t (fieldLocs frame_1_writes args s ++ arrayLocs frame_1_arrays args s ++ staticLocs frame_1_statics s) 600000 7302250 := h
theorem lw_limb (L : Cond) (hL : ∀ (args : Array Value) (s t : State), L.after args s (.returned (some (.int 1))) t = true) :
    ArmFor flags0 classFile x code maxLocals ret World_1 tables_1 room_1 Calls_1 rest_1 Pre_1
      (fun tb e a s o t => postC L tb e a s o t ∧ Framed s o t (fieldLocs frame_1_writes a s ++ arrayLocs frame_1_arrays a s ++ staticLocs frame_1_statics s) 600000 7302250) := by
  intro l _ _ _ p e ha hc hk s m args below hf hfit hheap happ hpre
  obtain ⟨k, o, h1, h2, h3, rfl, hF⟩ := lw_comes l p e ha hc hk s m args below hf hfit hheap happ hpre
  exact ⟨k, _, h1, h2, h3, hL args s _, lw_frame hF⟩
theorem i_vc : Claimed_1_1 ∧ Claimed_1_2 := ⟨lw_limb limb_1_1 (fun args s t => by simp [limb_1_1, Cond.after, Cond.holds, Cond.value]), lw_limb limb_1_2 (fun args s t => Cond.after_iff.mpr (by
  first | (rw [show limb_1_2 = Cond.eq .result (.int 1) from rfl, Cond.eq_ints (x := 1) (y := 1) rfl rfl]; simp; done) | (simp [limb_1_2, Cond.value, Term.eval]; done)))⟩
