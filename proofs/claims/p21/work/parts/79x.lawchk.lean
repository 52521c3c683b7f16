/-! THE CHECKER once more, with cells and slots made before: for a loop that makes some in every round -/
section ZQMAINL
variable {p : Program} {l : Launch} {e : Env} {R : Room} {s : State} {m : MethodId} {args : Array Value} {below : List Frame} {meth : Method} {c : Code} {Q : State → Prop}
variable {cc : ByteArray} {w : zq_Wd} {nL n0 oc Rc Rs mc0 ms0 : Nat} {r0 : Nat → Int} {P0 : zq_Ty} {h0 : zq_H} {H0 : Heap} {R0 : Nat → Prop} {own : String} {Ts : List Cond} {TY : List FieldType} {FT : List (List Nat)} {FN : List (List Bool)} {AC : List Nat} {FX : zq_FX} {GL : zq_GX} {CTs : List zq_Ct} {LD : zq_LD} {FL : zq_FL} {CL : zq_CLt} {AL : List (Nat × Nat)} {ML : List (Instr × Nat × Nat × Nat)} {M : zq_Ms} {ini : Bool} {posts : List (List (Nat × zq_L) × zq_S)} {cuts : List zq_Cu} {code : zq_Cd}
set_option maxHeartbeats 8000000 in
/-- what the checker accepts comes to an end as told -/
theorem zq_chkL_ok {c0 s0 : Nat} {FC : zq_FC} {mu : Option zq_L} {B : Nat} (hM : zq_Mc p s m args c cc own Ts) (hD : zq_okD own Ts LD) (hFL : zq_okFL own Ts w.2.1 FL) (hCI : zq_okCI Ts w.2.1 FT FN) (hCL : zq_okCL own Ts w.2.1 FT CL) (hAC : zq_okAC w.2.1 TY AC) (hAL : zq_okAL own Ts TY AL s) (hAK : zq_okAK Ts TY) (hFX : zq_okFX w FX) (hW : zq_okK w) (hGL : zq_okGL w GL.1 ∧ zq_okDO w GL.2)
    (hini : ini = true → meth.name = "<init>" ∧ ∀ rc, w.2.1[oc]? = some rc → ∀ f, f < rc.2.2 → (rc.2.1 f).1 = own) (hK : va_K w.1 w.2.1 w.2.2.1 s) (hTY : w.2.2.1.map Prod.snd = TY) (hMs : zq_okM n0 M) (hRc : Rc + c0 ≤ R.cells) (hRs : Rs + s0 ≤ R.slots)
    (hF0 : zq_Fc FC P0 H0 R0) (hCode : ∀ x ∈ code, decode cc x.1 = .ok x.2)
    (hCalls : ∀ x ∈ ML, ∀ ct, CTs[x.2.1]? = some ct → zq_okct ct = true ∧ zq_CallW FC w p l e R s m args below meth c Q cc nL x.1 ct x.2.2.1 x.2.2.2)
    (hPosts : ∀ po ∈ posts, zq_wf po.2 = true ∧ ∀ x ∈ po.1, zq_bd po.2.2.2.2.2.2.2.2 x.2 = true)
    (hRet : ∀ po ∈ posts, ∀ (i : Instr) (pc : Nat) (r' : Nat → Int) (P : zq_Ty) (h : zq_H) (H : Heap) (locs : List Loc) (ls : Array Slot), zq_rti i po.1 = true → decode cc pc = .ok (i, 1) → zq_ext n0 r0 r' → zq_okT r' po.2.2.2.2.2.2.2.2 po.1 → zq_MeS w r' P h H po.2 → zq_Fr M r0 P0 h0 H0 R0 P h H locs → W p l e R s m args below meth c H locs (Rc + c0) (Rs + s0) Q (F0 m pc ls (zq_sts r' po.1)))
    (hCwf : ∀ cu ∈ cuts, zq_wf cu.2.1 = true ∧ n0 ≤ cu.2.1.2.2.2.2.2.2.2)
    (hCut : ∀ cu ∈ cuts, ∀ (r' : Nat → Int) (P : zq_Ty) (h : zq_H) (H : Heap) (locs : List Loc) (ls : Array Slot) (st : List Value), zq_ext n0 r0 r' → zq_G w nL r' P h H ls st cu.2.1 → zq_Fr M r0 P0 h0 H0 R0 P h H locs → zq_Rn H0 R0 r' cu.2.1.2.2.2.2.2.1 → 0 ≤ zq_ev r' cu.2.2.1 → (mu = none ∨ zq_ev r' cu.2.2.1 < B) → W p l e R s m args below meth c H locs (cu.2.2.2.1 + c0) (cu.2.2.2.2 + s0) Q (F0 m cu.1 ls st)) :
    ∀ (f ce sl pc : Nat) (S : zq_S) (q q' : List Nat), zq_chk (w.2.2.2.1, TY, FT, FN, AC, FX, GL, CTs) (LD, FL, CL, AL, ML, M, ini, oc, nL, n0, (Rc, Rs), posts, cuts, code) mu f ce sl pc S q = some q' →
    ∀ (r : Nat → Int) (P : zq_Ty) (h : zq_H) (H : Heap) (locs : List Loc) (ls : Array Slot) (st : List Value), n0 ≤ S.2.2.2.2.2.2.2 → zq_ext n0 r0 r → (∀ m0, mu = some m0 → zq_bd S.2.2.2.2.2.2.2 m0 = true ∧ zq_ev r m0 ≤ B) → zq_G w nL r P h H ls st S → zq_Fr M r0 P0 h0 H0 R0 P h H locs → zq_Rn H0 R0 r S.2.2.2.2.2.1 → W p l e R s m args below meth c H locs (ce + c0) (sl + s0) Q (F0 m pc ls st) := by
  intro f
  induction f with
  | zero => intro ce sl pc S q q' hs; cases hs
  | succ f ih =>
    intro ce sl pc S q q' hs r P h H locs ls st hn hx hmu G Fr Rn
    -- on with more variables
    have ext : ∀ {r' : Nat → Int} {n' : Nat}, S.2.2.2.2.2.2.2 ≤ n' → zq_ext S.2.2.2.2.2.2.2 r r' → n0 ≤ n' ∧ zq_ext n0 r0 r' ∧ (∀ m0, mu = some m0 → zq_bd n' m0 = true ∧ zq_ev r' m0 ≤ B) := by
      intro r' n' hle hxx
      refine ⟨Nat.le_trans hn hle, fun i hi => (hxx i (Nat.lt_of_lt_of_le hi hn)).trans (hx i hi), fun m0 hm0 => ?_⟩
      obtain ⟨a, b⟩ := hmu m0 hm0
      exact ⟨zq_bd_mono hle a, by rw [zq_ev_ext hxx a]; exact b⟩
    have same : ∀ {n' : Nat}, n' = S.2.2.2.2.2.2.2 → n0 ≤ n' ∧ (∀ m0, mu = some m0 → zq_bd n' m0 = true ∧ zq_ev r m0 ≤ B) := fun e => by rw [e]; exact ⟨hn, hmu⟩
    have hokR := G.2.2.2.2.2.2.2.2.1
    unfold zq_chk at hs
    split at hs
    · -- an instruction
      rename_i q0
      unfold zq_exec at hs
      simp only at hs
      split at hs
      · rename_i i len hcd
        have hdg := hCode _ (zq_code_ok hcd)
        simp only at hdg
        split at hs
        · rename_i S' q1 h1
          exact zq_s1_ok h1 hM hD G hdg fun hle hrw r' ls' st' hxx G' => by
            obtain ⟨e1, e2, e3⟩ := ext hle hxx
            exact ih _ _ _ _ _ _ hs r' P h H locs ls' st' e1 e2 e3 G' Fr (by rw [hrw]; exact Rn.ext hokR hxx)
        · split at hs
          · rename_i S' q1 h1
            exact zq_s2_ok h1 hM hFL hK hTY G hdg fun hle hrw r' ls' st' hxx G' => by
              obtain ⟨e1, e2, e3⟩ := ext hle hxx
              exact ih _ _ _ _ _ _ hs r' P h H locs ls' st' e1 e2 e3 G' Fr (by rw [hrw]; exact Rn.ext hokR hxx)
          · split at hs
            · rename_i S' q1 h1
              exact zq_s3_ok h1 hM hFL hCI hAC hFX hini hK hTY hMs hx G Fr Rn hdg fun hle h' H' locs' st' _ G' Fr' Rn' => by
                obtain ⟨e1, e2⟩ := same hle
                exact ih _ _ _ _ _ _ hs r P h' H' locs' ls st' e1 hx e2 G' Fr' Rn'
            · split at hs
              · rename_i su q1 h1
                exact zq_br_ok h1 hM G hdg fun x hxs hle hrw st' G' => by
                  obtain ⟨q2, q3, hq⟩ := zq_all2_ok hs x hxs
                  obtain ⟨e1, e2⟩ := same hle
                  exact ih _ _ _ _ _ _ hq r P h H locs ls st' e1 hx e2 G' Fr (by rw [hrw]; exact Rn)
              · split at hs
                · rename_i S' N h1
                  cases hb : (Nat.ble (ce + 1) Rc && Nat.ble (sl + N) Rs) with
                  | false => rw [hb] at hs; cases hs
                  | true =>
                    rw [hb] at hs
                    simp only [cond_true] at hs
                    simp only [Bool.and_eq_true] at hb
                    exact zq_s4_ok h1 hM hCL hCI hK G Fr Rn (by have := Nat.le_of_ble_eq_true hb.1; omega) (by have := Nat.le_of_ble_eq_true hb.2; omega) hdg fun hle r' H' st' hxx _ G' Fr' Rn' => by
                      obtain ⟨e1, e2, e3⟩ := ext hle hxx
                      have z := ih _ _ _ _ _ _ hs r' P h H' locs ls st' e1 e2 e3 G' Fr' Rn'
                      rw [show ce + 1 + c0 = ce + c0 + 1 by omega, show sl + N + s0 = sl + s0 + N by omega] at z
                      exact z
                · split at hs
                  · rename_i S' b q1 h1
                    cases hb : (Nat.ble (ce + 1) Rc && Nat.ble (sl + b) Rs) with
                    | false => rw [hb] at hs; cases hs
                    | true =>
                      rw [hb] at hs
                      simp only [cond_true] at hs
                      simp only [Bool.and_eq_true] at hb
                      exact zq_s5_ok h1 hM hAL hAK hW hFX hK hTY G Fr Rn (by have := Nat.le_of_ble_eq_true hb.1; omega) (by have := Nat.le_of_ble_eq_true hb.2; omega) hdg fun hle r' P' h' H' st' hxx _ G' Fr' Rn' => by
                        obtain ⟨e1, e2, e3⟩ := ext hle hxx
                        have z := ih _ _ _ _ _ _ hs r' P' h' H' locs ls st' e1 e2 e3 G' Fr' Rn'
                        rw [show ce + 1 + c0 = ce + c0 + 1 by omega, show sl + b + s0 = sl + s0 + b by omega] at z
                        exact z
                  · cases hs
      · cases hs
    · -- a call
      rename_i q0
      unfold zq_call at hs
      simp only at hs
      split at hs
      · rename_i i len j q1 hcd
        have hdg := hCode _ (zq_code_ok hcd)
        simp only at hdg
        split at hs
        · rename_i i' ci mc ms hML
          split at hs
          · rename_i ct hct
            cases hb : (decide (i = i') && (Nat.beq len (zq_iln i) && (Nat.ble (ce + mc) Rc && Nat.ble (sl + ms) Rs))) with
            | false => rw [hb] at hs; cases hs
            | true =>
              rw [hb] at hs
              simp only [cond_true] at hs
              simp only [Bool.and_eq_true, decide_eq_true_eq] at hb
              obtain ⟨b1, b2, b3, b4⟩ := hb
              have b2 := Nat.eq_of_beq_eq_true b2
              subst b1; subst b2
              obtain ⟨ok1, ok2⟩ := hCalls _ (List.mem_of_getElem? hML) ct hct
              obtain ⟨loc, stk, C, F, sto, raw, tok, n⟩ := S
              simp only at hs
              split at hs
              · rename_i gg rest raw' q2 h6
                exact zq_s6_ok h6 ok1 ok2 hF0 hFX hMs hx G Fr Rn (by have := Nat.le_of_ble_eq_true b3; show ce + c0 + mc ≤ R.cells; omega) (by have := Nat.le_of_ble_eq_true b4; show sl + s0 + ms ≤ R.slots; omega) hdg fun po hpo r' P' h' H' locs' st' hxx G' Fr' Rn' => by
                  obtain ⟨q3, q4, hq⟩ := zq_all2_ok hs po hpo
                  obtain ⟨e1, e2, e3⟩ := ext (Nat.le_add_right _ _) hxx
                  have z := ih _ _ _ _ _ _ hq r' P' h' H' locs' ls st' e1 e2 e3 G' Fr' Rn'
                  rw [show ce + mc + c0 = ce + c0 + mc by omega, show sl + ms + s0 = sl + s0 + ms by omega] at z
                  exact z
              · cases hs
          · cases hs
        · cases hs
      · cases hs
    · -- the end
      rename_i q0
      unfold zq_ends at hs
      simp only at hs
      split at hs
      · rename_i i len k q1 hcd
        have hdg := hCode _ (zq_code_ok hcd)
        simp only at hdg
        split at hs
        · rename_i po hpo
          split at hs
          · rename_i gg q2 hgg
            cases hb : (zq_idn n0 gg && (zq_rti i po.1 && (Nat.beq len 1 && (zq_mtk gg po.1 S.2.1 && (Nat.ble ce Rc && Nat.ble sl Rs))))) with
            | false => rw [hb] at hs; cases hs
            | true =>
              rw [hb] at hs
              simp only [cond_true] at hs
              simp only [Bool.and_eq_true] at hb
              obtain ⟨b1, b2, b3, b4, b5, b6⟩ := hb
              have b3 := Nat.eq_of_beq_eq_true b3
              subst b3
              have hpm := List.mem_of_getElem? hpo
              obtain ⟨p1, p2⟩ := hPosts po hpm
              obtain ⟨hl, hst, oL, oT, Me⟩ := G
              have hk := zq_mtk_ok b4
              have Mp := zq_mtM_ok hs p1 Me
              have hxx : zq_ext n0 r0 (zq_sv r gg) := fun i hi => (zq_idn_ok b1 r i hi).trans (hx i hi)
              have hstk : zq_sts r S.2.1 = zq_sts (zq_sv r gg) po.1 := by
                rw [← hk]
                simp only [zq_sts, List.map_map]
                exact List.map_congr_left fun x _ => by simp only [Function.comp]; rw [zq_ev_sb]
              refine W.widen (k := Rc + c0) (n := Rs + s0) (Nat.add_le_add_right (Nat.le_of_ble_eq_true b5) c0) (Nat.add_le_add_right (Nat.le_of_ble_eq_true b6) s0) ?_
              rw [hst, hstk]
              refine hRet po hpm i pc _ P h H locs ls b2 hdg hxx (fun x hx' => ⟨p2 x hx', ?_⟩) Mp Fr
              have := (oT (x.1, zq_sb gg x.2) (by rw [← hk]; exact List.mem_map.mpr ⟨x, hx', rfl⟩)).2
              simp only at this
              rw [zq_ev_sb] at this; exact this
          · cases hs
        · cases hs
      · cases hs
    · -- a cut
      rename_i q0
      unfold zq_cut at hs
      simp only at hs
      split at hs
      · rename_i k q1
        split at hs
        · rename_i pc' A me ck cs hcu
          split at hs
          · rename_i gg q2 hgg
            cases hb : (zq_idn n0 gg && (Nat.beq pc pc' && (Nat.ble ce ck && Nat.ble sl cs))) with
            | false => rw [hb] at hs; cases hs
            | true =>
              rw [hb] at hs
              simp only [cond_true] at hs
              simp only [Bool.and_eq_true] at hb
              obtain ⟨b1, b2, b3, b4⟩ := hb
              have b2 := Nat.eq_of_beq_eq_true b2
              subst b2
              split at hs
              · rename_i q3 hmt
                split at hs
                · rename_i q4 hq4
                  have hcm := List.mem_of_getElem? hcu
                  obtain ⟨w1, w2⟩ := hCwf _ hcm
                  have GA := zq_mt_ok hmt w1 G
                  have hxx : zq_ext n0 r0 (zq_sv r gg) := fun i hi => (zq_idn_ok b1 r i hi).trans (hx i hi)
                  have hme := zq_prove_ok hq4 G.2.2.2.2.2.1.1
                  rw [zq_ev_sb] at hme
                  refine W.widen (k := ck + c0) (n := cs + s0) (Nat.add_le_add_right (Nat.le_of_ble_eq_true b3) c0) (Nat.add_le_add_right (Nat.le_of_ble_eq_true b4) s0) ?_
                  refine hCut _ hcm _ P h H locs ls st hxx GA Fr ?_ hme ?_
                  · intro x hx' a ha
                    have hR := zq_mt_raw hmt
                    have hmem : (zq_sb gg x.1, x.2.1, x.2.2.map (fun y => (y.1, zq_sb gg y.2))) ∈ S.2.2.2.2.2.1 := by rw [← hR]; exact List.mem_map.mpr ⟨x, hx', rfl⟩
                    exact Rn _ hmem a (by show zq_ev r (zq_sb gg x.1) = _; rw [zq_ev_sb]; exact ha)
                  · cases hmq : mu with
                    | none => exact Or.inl rfl
                    | some m0 =>
                      rw [hmq] at hs
                      simp only at hs
                      have z := zq_prove_ok hs G.2.2.2.2.2.1.1
                      rw [zq_ev_addk, zq_ev_sub, zq_ev_sb] at z
                      have := (hmu m0 hmq).2
                      exact Or.inr (by show zq_ev (zq_sv r gg) me < B; omega)
                · cases hs
              · cases hs
          · cases hs
        · cases hs
      · cases hs
    · -- two cases
      rename_i q0
      split at hs
      · rename_i ex q1 hL
        cases hb : zq_bd S.2.2.2.2.2.2.2 ex with
        | false => rw [hb] at hs; cases hs
        | true =>
          rw [hb] at hs
          simp only [cond_true] at hs
          split at hs
          · rename_i q2 h2
            obtain ⟨hl, hst, oL, oT, Me⟩ := G
            rcases Int.lt_or_le (zq_ev r ex) 0 with z | z
            · exact ih _ _ _ _ _ _ hs r P h H locs ls st hn hx hmu ⟨hl, hst, oL, oT, Me.row (by rw [zq_ev_addk, zq_ev_neg]; omega) (zq_bd_addk (zq_bd_neg hb))⟩ Fr Rn
            · exact ih _ _ _ _ _ _ h2 r P h H locs ls st hn hx hmu ⟨hl, hst, oL, oT, Me.row z hb⟩ Fr Rn
          · cases hs
      · cases hs
    · -- it can't be
      have z := zq_prove_ok hs G.2.2.2.2.2.1.1
      rw [zq_ev_k] at z
      omega
    · split at hs
      · rename_i S' q1 h1
        obtain ⟨e0, P', h', G', Fr', Rn'⟩ := zq_pb_ok h1 hCI hW hFX G Fr Rn
        obtain ⟨e1, e2⟩ := same e0
        exact ih _ _ _ _ _ _ hs r P' h' H locs ls st e1 hx e2 G' Fr' Rn'
      · cases hs
    · split at hs
      · rename_i S' q1 h1
        obtain ⟨e0, e4, G'⟩ := zq_rw_ok h1 G
        obtain ⟨e1, e2⟩ := same e0
        exact ih _ _ _ _ _ _ hs r P h H locs ls st e1 hx e2 G' Fr (by rw [e4]; exact Rn)
      · cases hs
    · split at hs
      · rename_i S' q1 h1
        obtain ⟨e0, e4, G'⟩ := zq_rr_ok h1 hCI G
        obtain ⟨e1, e2⟩ := same e0
        exact ih _ _ _ _ _ _ hs r P h H locs ls st e1 hx e2 G' Fr (by rw [e4]; exact Rn)
      · cases hs
    · split at hs
      · rename_i su q1 h1
        obtain ⟨S', hS', hle, r', hxx, G', Rn'⟩ := zq_gl_ok h1 hGL.1 hFX G Rn
        obtain ⟨q2, q3, hq⟩ := zq_all2_ok hs S' hS'
        obtain ⟨e1, e2, e3⟩ := ext hle hxx
        exact ih _ _ _ _ _ _ hq r' P h H locs ls st e1 e2 e3 G' Fr Rn'
      · cases hs
    · -- a store that keeps tokens
      unfold zq_stx at hs
      simp only at hs
      split at hs
      · rename_i i len t ev ei er stk' cn q0 hcd hstk
        have hdg := hCode _ (zq_code_ok hcd)
        simp only at hdg
        split at hs
        · rename_i k hkd
          split at hs
          · rename_i lx q1 hkx
            split at hs
            · rename_i loc1 stk1 C1 F1 sto1 raw1 tok1 n1 q2 h1
              exact zq_s3_ok h1 hM hFL hCI hAC hFX hini hK hTY hMs hx G Fr Rn hdg fun hle h' H' locs' st' hwt G' Fr' Rn' => by
                obtain ⟨e1, e2⟩ := same hle
                obtain ⟨a, k', z1, z2, z3, z4⟩ := hwt.1 _ _ _ _ _ hstk
                have ek : k' = k := Option.some.inj (z1.symm.trans hkd)
                subst ek
                obtain ⟨g1, g2, g3, g4, g5⟩ := G'
                obtain ⟨m1, m2, m3, m4, m5, m6⟩ := g5
                refine ih _ _ _ _ _ _ hs r P h' H' locs' ls st' e1 hx e2 ⟨g1, g2, g3, g4, m1, m2, m3, m4, m5, ?_⟩ Fr' Rn'
                intro x hx'
                rcases List.mem_append.mp hx' with hx' | hx'
                · have hle : n1 = S.2.2.2.2.2.2.2 := hle
                  show (∀ e ∈ x.2, zq_bd n1 e = true) ∧ _
                  rw [hle, z4]
                  exact zq_kx_ok hGL.2.1 G.2.2.2.2.2.1.1 z2 G.2.2.2.2.2.2.2.2.2 hkx x hx'
                · exact m6 x hx'
            · cases hs
          · cases hs
        · cases hs
      · cases hs
    · -- an operation that is remembered
      rename_i q0
      unfold zq_stb at hs
      simp only at hs
      split at hs
      · rename_i i len hcd
        have hdg := hCode _ (zq_code_ok hcd)
        simp only at hdg
        split at hs
        · rename_i S' q1 h1
          exact zo_sb_ok h1 hM hGL.2.2.1 G hdg fun hle hrw r' ls' st' hxx G' => by
            obtain ⟨e1, e2, e3⟩ := ext hle hxx
            exact ih _ _ _ _ _ _ hs r' P h H locs ls' st' e1 e2 e3 G' Fr (by rw [hrw]; exact Rn.ext hokR hxx)
        · cases hs
      · cases hs
    · -- new cells, told where they lie
      rename_i q0
      unfold zq_stn at hs
      simp only at hs
      have lbs : ∀ {S' : zq_S} {r' : Nat → Int} {P' : zq_Ty} {h' : zq_H} {H' : Heap} {st' : List Value}, S.2.2.2.2.2.2.2 ≤ S'.2.2.2.2.2.2.2 → zq_bd S'.2.2.2.2.2.2.2 (zq_v S.2.2.2.2.2.2.2) = true → zq_ext S.2.2.2.2.2.2.2 r r' → zq_ev r' (zq_v S.2.2.2.2.2.2.2) = (H.size : Int) → zq_G w nL r' P' h' H' ls st' S' → zq_G w nL r' P' h' H' ls st' (zq_lbS S S') := by
        intro S' r' P' h' H' st' hle hbv hxx hsz G'
        obtain ⟨k1, k2⟩ := zq_lbr_ok hGL.2.2.2.1 hle hxx hbv hsz (fun a ha => by
          cases hp : P a with
          | none => exact absurd hp ha
          | some k => exact G.2.2.2.2.1.lt hp) G.2.2.2.2.2.2.2.2.2
        obtain ⟨g1, g2, g3, g4, g5⟩ := G'
        exact ⟨g1, g2, g3, g4, g5.rows k1 k2⟩
      split at hs
      · rename_i i len hcd
        have hdg := hCode _ (zq_code_ok hcd)
        simp only at hdg
        split at hs
        · rename_i S' N h1
          cases hb : (Nat.ble (ce + 1) Rc && Nat.ble (sl + N) Rs) with
          | false => rw [hb] at hs; cases hs
          | true =>
            rw [hb] at hs
            simp only [cond_true] at hs
            simp only [Bool.and_eq_true] at hb
            exact zq_s4_ok h1 hM hCL hCI hK G Fr Rn (by have := Nat.le_of_ble_eq_true hb.1; omega) (by have := Nat.le_of_ble_eq_true hb.2; omega) hdg fun hle r' H' st' hxx hsz G' Fr' Rn' => by
              obtain ⟨e1, e2, e3⟩ := ext hle hxx
              have z := ih _ _ _ _ _ _ hs r' P h H' locs ls st' e1 e2 e3 (lbs hle hsz.1 hxx hsz.2 G') Fr' Rn'
              rw [show ce + 1 + c0 = ce + c0 + 1 by omega, show sl + N + s0 = sl + s0 + N by omega] at z
              exact z
        · split at hs
          · rename_i S' b q1 h1
            cases hb : (Nat.ble (ce + 1) Rc && Nat.ble (sl + b) Rs) with
            | false => rw [hb] at hs; cases hs
            | true =>
              rw [hb] at hs
              simp only [cond_true] at hs
              simp only [Bool.and_eq_true] at hb
              exact zq_s5_ok h1 hM hAL hAK hW hFX hK hTY G Fr Rn (by have := Nat.le_of_ble_eq_true hb.1; omega) (by have := Nat.le_of_ble_eq_true hb.2; omega) hdg fun hle r' P' h' H' st' hxx hsz G' Fr' Rn' => by
                obtain ⟨e1, e2, e3⟩ := ext hle hxx
                have z := ih _ _ _ _ _ _ hs r' P' h' H' locs ls st' e1 e2 e3 (lbs hle hsz.1 hxx hsz.2 G') Fr' Rn'
                rw [show ce + 1 + c0 = ce + c0 + 1 by omega, show sl + b + s0 = sl + s0 + b by omega] at z
                exact z
          · cases hs
      · cases hs
    · -- a store beyond the bounds of tokens
      unfold zq_stl at hs
      simp only at hs
      split at hs
      · rename_i i len er cn q0 hcd her
        have hdg := hCode _ (zq_code_ok hcd)
        simp only at hdg
        split at hs
        · rename_i lx q1 hkb
          split at hs
          · rename_i loc1 stk1 C1 F1 sto1 raw1 tok1 n1 q2 h1
            exact zq_s3_ok h1 hM hFL hCI hAC hFX hini hK hTY hMs hx G Fr Rn hdg fun hle h' H' locs' st' hwt G' Fr' Rn' => by
              obtain ⟨e1, e2⟩ := same hle
              obtain ⟨g1, g2, g3, g4, g5⟩ := G'
              obtain ⟨m1, m2, m3, m4, m5, m6⟩ := g5
              refine ih _ _ _ _ _ _ hs r P h' H' locs' ls st' e1 hx e2 ⟨g1, g2, g3, g4, m1, m2, m3, m4, m5, ?_⟩ Fr' Rn'
              intro x hx'
              rcases List.mem_append.mp hx' with hx' | hx'
              · have hle : n1 = S.2.2.2.2.2.2.2 := hle
                show (∀ e ∈ x.2, zq_bd n1 e = true) ∧ _
                rw [hle]
                rcases zq_er_ok her hwt with z | ⟨a, j, v, z1, z2⟩
                · rw [z]; exact zq_kb_0 G.2.2.2.2.2.2.2.2.2 hkb x hx'
                · rw [z2]; exact zq_kb_ok hGL.2.2.2.2 G.2.2.2.2.2.1.1 z1 G.2.2.2.2.2.2.2.2.2 hkb x hx'
              · exact m6 x hx'
          · cases hs
        · cases hs
      · cases hs
    · cases hs
end ZQMAINL
