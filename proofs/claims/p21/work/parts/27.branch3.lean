section ZQBR2
variable {p : Program} {l : Launch} {e : Env} {R : Room} {s : State} {m : MethodId} {args : Array Value} {below : List Frame} {meth : Method} {c : Code} {H : Heap} {locs : List Loc} {cells slots : Nat} {Q : State → Prop}
variable {cc : ByteArray} {pc : Nat} {ls : Array Slot} {st : List Value} {w : zq_Wd} {nL : Nat} {r : Nat → Int} {P : zq_Ty} {h : zq_H} {own : String} {Ts : List Cond}
theorem zq_look {x : Int} : ∀ {ps : List (Int × Int)} {d : Int}, (∃ o ∈ ps, x = o.1 ∧ Op.lookupswitch.offset ps d x = o.2) ∨ ((∀ o ∈ ps, x ≠ o.1) ∧ Op.lookupswitch.offset ps d x = d)
  | [], d => Or.inr ⟨fun o ho => (by cases ho), rfl⟩
  | y :: l, d => by
    by_cases hx : x = y.1
    · refine Or.inl ⟨y, List.mem_cons_self, hx, ?_⟩
      obtain ⟨y1, y2⟩ := y
      simp only at hx
      subst hx
      simp [Op.lookupswitch.offset]
    · have hne : Op.lookupswitch.offset (y :: l) d x = Op.lookupswitch.offset l d x := by
        obtain ⟨y1, y2⟩ := y
        simp only at hx
        have hx' : ¬ y1 = x := fun z => hx z.symm
        simp [Op.lookupswitch.offset, hx, hx']
      rw [hne]
      rcases zq_look (x := x) (ps := l) (d := d) with ⟨o, ho, h1, h2⟩ | ⟨h1, h2⟩
      · exact Or.inl ⟨o, List.mem_cons_of_mem _ ho, h1, h2⟩
      · refine Or.inr ⟨fun o ho => ?_, h2⟩
        rcases List.mem_cons.mp ho with rfl | ho
        · exact hx
        · exact h1 o ho
set_option maxHeartbeats 4000000 in
theorem zq_br_ok {i : Instr} {len : Nat} {S : zq_S} {su : List (Nat × zq_S)} {q q' : List Nat} (hs : zq_br i len pc S q = some (su, q')) (hM : zq_Mc p s m args c cc own Ts) (G : zq_G w nL r P h H ls st S) (hdg : decode cc pc = .ok (i, len))
    (kk : ∀ x ∈ su, x.2.2.2.2.2.2.2.2 = S.2.2.2.2.2.2.2 → x.2.2.2.2.2.2.1 = S.2.2.2.2.2.1 → ∀ st', zq_G w nL r P h H ls st' x.2 → W p l e R s m args below meth c H locs cells slots Q (F0 m x.1 ls st')) :
    W p l e R s m args below meth c H locs cells slots Q (F0 m pc ls st) := by
  obtain ⟨hexec, hb, hown, hts⟩ := hM
  obtain ⟨loc, stk, C, F, sto, raw, tok, n⟩ := S
  obtain ⟨hl, hst, oL, oT, Me⟩ := G
  simp only at hl hst oL oT Me kk
  have hC := Me.2.1.1
  have mk : ∀ (stk' : List (Nat × zq_L)) (rows : List zq_L), zq_okT r n stk' → zq_all r rows → (∀ c ∈ rows, zq_bd n c = true) → zq_G w nL r P h H ls (zq_sts r stk') (loc, stk', rows ++ C, F, sto, raw, tok, n) := fun stk' rows o1 o2 o3 => ⟨hl, rfl, oL, o1, Me.rows o2 o3⟩
  have hto : ∀ off : Int, 0 ≤ (pc : Int) + off → (pc : Int) + off = (((pc : Int) + off).toNat : Int) := fun off z => by omega
  unfold zq_br at hs
  simp only at hs
  split at hs
  · obtain ⟨hc, hE⟩ := zq_bif hs
    cases hE
    simp only [Bool.and_eq_true, decide_eq_true_eq] at hc
    have e1 := Nat.eq_of_beq_eq_true hc.1
    subst e1
    exact lv_goto hexec hb hdg (hto _ hc.2) (kk _ List.mem_cons_self rfl rfl st ⟨hl, hst, oL, oT, Me⟩)
  · rename_i cd off y x stk'
    cases hc : (Nat.beq 3 len && decide (0 ≤ (pc : Int) + off)) with
    | false => rw [hc] at hs; cases hs
    | true =>
      rw [hc] at hs
      simp only [cond_true] at hs
      simp only [Bool.and_eq_true, decide_eq_true_eq] at hc
      have e1 := Nat.eq_of_beq_eq_true hc.1
      subst e1
      split at hs
      · rename_i a b q1 hcm
        cases hs
        have oy := oT (0, y) List.mem_cons_self
        have ox := oT (0, x) (List.mem_cons_of_mem _ List.mem_cons_self)
        have oT' : zq_okT r n stk' := fun z hz => oT z (List.mem_cons_of_mem _ (List.mem_cons_of_mem _ hz))
        obtain ⟨k1, k2⟩ := zq_cmp_ok hcm hC ox.1 oy.1
        rw [hst]
        refine zq_icmpR hexec hb ox.2 oy.2 hdg (hto _ hc.2) (fun z => ?_) (fun z => ?_)
        · obtain ⟨rows, g1, g2, g3⟩ := k1 z
          exact kk _ (List.mem_append_left _ (zq_alt_in g1)) rfl rfl _ (mk stk' rows oT' g2 g3)
        · obtain ⟨rows, g1, g2, g3⟩ := k2 z
          exact kk _ (List.mem_append_right _ (zq_alt_in g1)) rfl rfl _ (mk stk' rows oT' g2 g3)
      · cases hs
  · rename_i cd off x stk'
    cases hc : (Nat.beq 3 len && decide (0 ≤ (pc : Int) + off)) with
    | false => rw [hc] at hs; cases hs
    | true =>
      rw [hc] at hs
      simp only [cond_true] at hs
      simp only [Bool.and_eq_true, decide_eq_true_eq] at hc
      have e1 := Nat.eq_of_beq_eq_true hc.1
      subst e1
      split at hs
      · rename_i a b q1 hcm
        cases hs
        have ox := oT (0, x) List.mem_cons_self
        have oT' : zq_okT r n stk' := fun z hz => oT z (List.mem_cons_of_mem _ hz)
        obtain ⟨k1, k2⟩ := zq_cmp_ok (n := n) (r := r) hcm hC ox.1 zq_bd_k
        rw [zq_ev_k] at k1 k2
        rw [hst]
        refine zq_ifR hexec hb ox.2 hdg (hto _ hc.2) (fun z => ?_) (fun z => ?_)
        · obtain ⟨rows, g1, g2, g3⟩ := k1 z
          exact kk _ (List.mem_append_left _ (zq_alt_in g1)) rfl rfl _ (mk stk' rows oT' g2 g3)
        · obtain ⟨rows, g1, g2, g3⟩ := k2 z
          exact kk _ (List.mem_append_right _ (zq_alt_in g1)) rfl rfl _ (mk stk' rows oT' g2 g3)
      · cases hs
  · rename_i off x stk'
    obtain ⟨hc, hE⟩ := zq_bif hs
    cases hE
    simp only [Bool.and_eq_true, decide_eq_true_eq] at hc
    have e1 := Nat.eq_of_beq_eq_true hc.1
    subst e1
    have ox := oT (2, x) List.mem_cons_self
    have oT' : zq_okT r n stk' := fun z hz => oT z (List.mem_cons_of_mem _ hz)
    rw [hst]
    show W p l e R s m args below meth c H locs cells slots Q (F0 m pc ls (zq_val 2 (zq_ev r x) :: zq_sts r stk'))
    have n1 : 0 ≤ zq_ev r x → zq_G w nL r P h H ls (zq_sts r stk') (loc, stk', x :: C, F, sto, raw, tok, n) := fun z => mk stk' [x] oT' (fun c hc => by rw [List.mem_singleton.mp hc]; exact z) (fun c hc => by rw [List.mem_singleton.mp hc]; exact ox.1)
    have n2 : zq_ev r x < 0 → zq_G w nL r P h H ls (zq_sts r stk') (loc, stk', zq_addk (zq_neg x) (-1) :: C, F, sto, raw, tok, n) := fun z => mk stk' [zq_addk (zq_neg x) (-1)] oT' (fun c hc => by rw [List.mem_singleton.mp hc, zq_ev_addk, zq_ev_neg]; omega) (fun c hc => by rw [List.mem_singleton.mp hc]; exact zq_bd_addk (zq_bd_neg ox.1))
    cases hz : zq_ev r x with
    | ofNat a0 => exact lv_ifnonnull hexec hb hdg (hto _ hc.2) (kk _ List.mem_cons_self rfl rfl _ (n1 (by rw [hz]; exact Int.natCast_nonneg a0)))
    | negSucc a0 => exact lv_ifnonnullN hexec hb hdg (kk _ (List.mem_cons_of_mem _ List.mem_cons_self) rfl rfl _ (n2 (by rw [hz]; exact Int.negSucc_lt_zero a0)))
  · rename_i off x stk'
    obtain ⟨hc, hE⟩ := zq_bif hs
    cases hE
    simp only [Bool.and_eq_true, decide_eq_true_eq] at hc
    have e1 := Nat.eq_of_beq_eq_true hc.1
    subst e1
    have ox := oT (2, x) List.mem_cons_self
    have oT' : zq_okT r n stk' := fun z hz => oT z (List.mem_cons_of_mem _ hz)
    rw [hst]
    show W p l e R s m args below meth c H locs cells slots Q (F0 m pc ls (zq_val 2 (zq_ev r x) :: zq_sts r stk'))
    have n1 : 0 ≤ zq_ev r x → zq_G w nL r P h H ls (zq_sts r stk') (loc, stk', x :: C, F, sto, raw, tok, n) := fun z => mk stk' [x] oT' (fun c hc => by rw [List.mem_singleton.mp hc]; exact z) (fun c hc => by rw [List.mem_singleton.mp hc]; exact ox.1)
    have n2 : zq_ev r x < 0 → zq_G w nL r P h H ls (zq_sts r stk') (loc, stk', zq_addk (zq_neg x) (-1) :: C, F, sto, raw, tok, n) := fun z => mk stk' [zq_addk (zq_neg x) (-1)] oT' (fun c hc => by rw [List.mem_singleton.mp hc, zq_ev_addk, zq_ev_neg]; omega) (fun c hc => by rw [List.mem_singleton.mp hc]; exact zq_bd_addk (zq_bd_neg ox.1))
    cases hz : zq_ev r x with
    | ofNat a0 => exact lv_ifnull hexec hb hdg (kk _ (List.mem_cons_of_mem _ List.mem_cons_self) rfl rfl _ (n1 (by rw [hz]; exact Int.natCast_nonneg a0)))
    | negSucc a0 => exact lv_ifnullN hexec hb hdg (hto _ hc.2) (kk _ List.mem_cons_self rfl rfl _ (n2 (by rw [hz]; exact Int.negSucc_lt_zero a0)))
  · rename_i y x stk'
    obtain ⟨hc, hE⟩ := zq_bif hs
    cases hE
    have e1 := Nat.eq_of_beq_eq_true hc
    subst e1
    have oy := oT (1, y) List.mem_cons_self
    have ox := oT (1, x) (List.mem_cons_of_mem _ List.mem_cons_self)
    have oT' : zq_okT r n stk' := fun z hz => oT z (List.mem_cons_of_mem _ (List.mem_cons_of_mem _ hz))
    have ex : (Int64.ofInt (zq_ev r x)).toInt = zq_ev r x := zq_o64 ox.2
    have ey : (Int64.ofInt (zq_ev r y)).toInt = zq_ev r y := zq_o64 oy.2
    rw [hst]
    refine W.lcmp hexec hb hdg ?_
    have mk2 : ∀ (v : Int) (rows : List zq_L), zq_in 0 v → zq_all r rows → (∀ c ∈ rows, zq_bd n c = true) → zq_G w nL r P h H ls (zq_val 0 v :: zq_sts r stk') (loc, (0, zq_k v) :: stk', rows ++ C, F, sto, raw, tok, n) := by
      intro v rows hv o2 o3
      refine ⟨hl, ?_, oL, ?_, Me.rows o2 o3⟩
      · show _ = zq_val 0 (zq_ev r (zq_k v)) :: zq_sts r stk'
        rw [zq_ev_k]
      · intro z hz
        rcases List.mem_cons.mp hz with rfl | hz
        · exact ⟨zq_bd_k, by show zq_in 0 (zq_ev r (zq_k v)); rw [zq_ev_k]; exact hv⟩
        · exact oT' z hz
    have bl : ∀ a b : zq_L, zq_bd n a = true → zq_bd n b = true → ∀ c ∈ zq_ltr a b, zq_bd n c = true := fun a b h1 h2 c hc => by rw [List.mem_singleton.mp hc]; exact zq_bd_addk (zq_bd_sub h2 h1)
    rcases Int.lt_trichotomy (zq_ev r x) (zq_ev r y) with z | z | z
    · have e0 : lg_cmp (Int64.ofInt (zq_ev r x)) (Int64.ofInt (zq_ev r y)) = Int32.ofInt (-1) := by
        unfold lg_cmp
        rw [if_neg (by show ¬ Int64.ofInt (zq_ev r y) < Int64.ofInt (zq_ev r x); rw [Int64.lt_iff_toInt_lt, ex, ey]; omega), if_neg (fun q => by have := congrArg Int64.toInt q; rw [ex, ey] at this; omega)]
        rfl
      rw [e0]
      exact kk _ (List.mem_cons_of_mem _ (List.mem_cons_of_mem _ List.mem_cons_self)) rfl rfl _ (mk2 (-1) (zq_ltr x y) ⟨by decide, by decide⟩ (fun c hc => by rw [List.mem_singleton.mp hc, zq_ev_addk, zq_ev_sub]; omega) (bl x y ox.1 oy.1))
    · have e0 : lg_cmp (Int64.ofInt (zq_ev r x)) (Int64.ofInt (zq_ev r y)) = Int32.ofInt 0 := by
        unfold lg_cmp
        rw [if_neg (by show ¬ Int64.ofInt (zq_ev r y) < Int64.ofInt (zq_ev r x); rw [Int64.lt_iff_toInt_lt, ex, ey]; omega), if_pos (by rw [z])]
        rfl
      rw [e0]
      refine kk _ (List.mem_cons_of_mem _ List.mem_cons_self) rfl rfl _ (mk2 0 (zq_eqr x y) ⟨by decide, by decide⟩ (fun c hc => ?_) (fun c hc => ?_))
      · simp only [zq_eqr, List.mem_cons, List.not_mem_nil, or_false] at hc
        rcases hc with rfl | rfl <;> rw [zq_ev_sub] <;> omega
      · simp only [zq_eqr, List.mem_cons, List.not_mem_nil, or_false] at hc
        rcases hc with rfl | rfl
        · exact zq_bd_sub ox.1 oy.1
        · exact zq_bd_sub oy.1 ox.1
    · have e0 : lg_cmp (Int64.ofInt (zq_ev r x)) (Int64.ofInt (zq_ev r y)) = Int32.ofInt 1 := by
        unfold lg_cmp
        rw [if_pos (by show Int64.ofInt (zq_ev r y) < Int64.ofInt (zq_ev r x); rw [Int64.lt_iff_toInt_lt, ex, ey]; omega)]
        rfl
      rw [e0]
      exact kk _ List.mem_cons_self rfl rfl _ (mk2 1 (zq_ltr y x) ⟨by decide, by decide⟩ (fun c hc => by rw [List.mem_singleton.mp hc, zq_ev_addk, zq_ev_sub]; omega) (bl y x oy.1 ox.1))
  · rename_i d lo hi offs x stk'
    obtain ⟨hc, hE⟩ := zq_bif hs
    cases hE
    simp only [Bool.and_eq_true, decide_eq_true_eq, List.all_eq_true] at hc
    obtain ⟨c1, c2, c3⟩ := hc
    have ox := oT (0, x) List.mem_cons_self
    have oT' : zq_okT r n stk' := fun z hz => oT z (List.mem_cons_of_mem _ hz)
    have ex : (Int32.ofInt (zq_ev r x)).toInt = zq_ev r x := zq_o32 ox.2
    rw [hst]
    show W p l e R s m args below meth c H locs cells slots Q (F0 m pc ls (.int (Int32.ofInt (zq_ev r x)) :: zq_sts r stk'))
    by_cases h1 : zq_ev r x < lo
    · refine lv_tableOut hexec hb hdg (Or.inl (by rw [ex]; exact h1)) (hto _ c1) ?_
      exact kk _ (List.mem_append_right _ (zq_alt_in List.mem_cons_self)) rfl rfl _ (mk stk' _ oT' (fun c hc => by rw [List.mem_singleton.mp hc, zq_ev_addk, zq_ev_sub, zq_ev_k]; omega) (fun c hc => by rw [List.mem_singleton.mp hc]; exact zq_bd_addk (zq_bd_sub zq_bd_k ox.1)))
    · by_cases h2 : hi < zq_ev r x
      · refine lv_tableOut hexec hb hdg (Or.inr (by rw [ex]; exact h2)) (hto _ c1) ?_
        exact kk _ (List.mem_append_right _ (zq_alt_in (List.mem_cons_of_mem _ List.mem_cons_self))) rfl rfl _ (mk stk' _ oT' (fun c hc => by rw [List.mem_singleton.mp hc, zq_ev_addk, zq_ev_sub, zq_ev_k]; omega) (fun c hc => by rw [List.mem_singleton.mp hc]; exact zq_bd_addk (zq_bd_sub ox.1 zq_bd_k)))
      · have hj : (zq_ev r x - lo).toNat < offs.toList.length := by omega
        have hge : offs.toList[(zq_ev r x - lo).toNat]? = some offs.toList[(zq_ev r x - lo).toNat] := List.getElem?_eq_getElem hj
        generalize offs.toList[(zq_ev r x - lo).toNat] = o at hge
        refine lv_tableIn (off := o) hexec hb hdg (by rw [ex]; exact h1) (by rw [ex]; exact h2) (by rw [ex, ← Array.getElem?_toList]; exact hge) (hto _ (c3 o (List.mem_of_getElem? hge))) ?_
        have hin := zq_tab_in (pc := pc) (x := x) (f := fun rows => ((loc, stk', rows ++ C, F, sto, raw, tok, n) : zq_S)) (k := lo) hge
        have ek : lo + ((zq_ev r x - lo).toNat : Int) = zq_ev r x := by omega
        rw [ek] at hin
        refine kk _ (List.mem_append_left _ hin) rfl rfl _ (mk stk' _ oT' (fun c hc => ?_) (fun c hc => ?_))
        · simp only [zq_eqr, List.mem_cons, List.not_mem_nil, or_false] at hc
          rcases hc with rfl | rfl <;> rw [zq_ev_sub, zq_ev_k] <;> omega
        · simp only [zq_eqr, List.mem_cons, List.not_mem_nil, or_false] at hc
          rcases hc with rfl | rfl
          · exact zq_bd_sub ox.1 zq_bd_k
          · exact zq_bd_sub zq_bd_k ox.1
  · rename_i d ps x stk'
    obtain ⟨hc, hE⟩ := zq_bif hs
    cases hE
    simp only [Bool.and_eq_true, decide_eq_true_eq] at hc
    obtain ⟨c1, c2, c3⟩ := hc
    have c3 := List.all_eq_true.mp c3
    have ox := oT (0, x) List.mem_cons_self
    have oT' : zq_okT r n stk' := fun z hz => oT z (List.mem_cons_of_mem _ hz)
    have ex : (Int32.ofInt (zq_ev r x)).toInt = zq_ev r x := zq_o32 ox.2
    rw [hst]
    show W p l e R s m args below meth c H locs cells slots Q (F0 m pc ls (.int (Int32.ofInt (zq_ev r x)) :: zq_sts r stk'))
    rcases zq_look (x := zq_ev r x) (ps := ps.toList) (d := d) with ⟨o, ho, g1, g2⟩ | ⟨g1, g2⟩
    · refine lv_lookup (off := o.2) hexec hb hdg c2 (by rw [ex]; exact g2) (hto _ (of_decide_eq_true (c3 o ho))) ?_
      refine kk _ (List.mem_append_left _ (zq_keys_in ho)) rfl rfl _ (mk stk' _ oT' (fun c hc => ?_) (fun c hc => ?_))
      · simp only [zq_eqr, List.mem_cons, List.not_mem_nil, or_false] at hc
        rcases hc with rfl | rfl <;> rw [zq_ev_sub, zq_ev_k] <;> omega
      · simp only [zq_eqr, List.mem_cons, List.not_mem_nil, or_false] at hc
        rcases hc with rfl | rfl
        · exact zq_bd_sub ox.1 zq_bd_k
        · exact zq_bd_sub zq_bd_k ox.1
    · refine lv_lookup (off := d) hexec hb hdg c2 (by rw [ex]; exact g2) (hto _ c1) ?_
      obtain ⟨rows, y1, y2, y3⟩ := zq_gaps_ok (r := r) ox.1 (l := ps.toList) (lo := []) (fun c hc => by cases hc) (fun c hc => by cases hc) g1
      exact kk _ (List.mem_append_right _ (zq_alt_in y1)) rfl rfl _ (mk stk' rows oT' y2 y3)
  · cases hs
end ZQBR2
