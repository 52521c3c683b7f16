section ZQS5
variable {p : Program} {l : Launch} {e : Env} {R : Room} {s : State} {m : MethodId} {args : Array Value} {below : List Frame} {meth : Method} {c : Code} {H : Heap} {locs : List Loc} {cells slots : Nat} {Q : State → Prop}
variable {cc : ByteArray} {pc : Nat} {ls : Array Slot} {st : List Value} {w : zq_Wd} {nL n0 : Nat} {r r0 : Nat → Int} {P P0 : zq_Ty} {h h0 : zq_H} {H0 : Heap} {R0 : Nat → Prop} {own : String} {Ts : List Cond} {TY : List FieldType} {FT : List (List Nat)} {FN : List (List Bool)} {FX : zq_FX} {M : zq_Ms} {CL : zq_CLt} {AL : List (Nat × Nat)}
theorem zq_dfv_k (code : Nat) (r : Nat → Int) : zq_ev r (zq_dfv code).2 = (zq_dfv code).2.1 := by
  unfold zq_dfv
  split <;> rw [zq_ev_k] <;> rfl
theorem zq_alI_fcd {i : Instr} {len j : Nat} {ty : FieldType} (h : zq_alI AL i len ty j = true) : zq_fcd ty ≠ 9 := by
  unfold zq_alI at h
  split at h
  · rename_i at_
    simp only [Bool.and_eq_true, Bool.not_eq_true'] at h
    intro z
    rw [z] at h
    cases h.2.2
  · simp only [Bool.and_eq_true] at h
    have := Nat.eq_of_beq_eq_true h.2.1
    cases ty <;> simp [zq_ftc] at this <;> simp [zq_fcd]
  · cases h
set_option maxHeartbeats 8000000 in
theorem zq_s5_ok {i : Instr} {len b : Nat} {S S' : zq_S} {q q' : List Nat} (hs : zq_s5 w.2.2.2.1 TY FX AL i len S q = some (S', b, q')) (hM : zq_Mc p s m args c cc own Ts) (hAL : zq_okAL own Ts TY AL s) (hAK : zq_okAK Ts TY) (hW : zq_okK w) (hFX : zq_okFX w FX) (hK : va_K w.1 w.2.1 w.2.2.1 s) (hTY : w.2.2.1.map Prod.snd = TY) (G : zq_G w nL r P h H ls st S) (Fr : zq_Fr M r0 P0 h0 H0 R0 P h H locs) (Rn : zq_Rn H0 R0 r S.2.2.2.2.2.1) (hc1 : cells + 1 ≤ R.cells) (hc2 : slots + b ≤ R.slots) (hdg : decode cc pc = .ok (i, len))
    (kk : S.2.2.2.2.2.2.2 ≤ S'.2.2.2.2.2.2.2 → ∀ (r' : Nat → Int) (P' : zq_Ty) (h' : zq_H) (H' : Heap) (st' : List Value), zq_ext S.2.2.2.2.2.2.2 r r' → (zq_bd S'.2.2.2.2.2.2.2 (zq_v S.2.2.2.2.2.2.2) = true ∧ zq_ev r' (zq_v S.2.2.2.2.2.2.2) = (H.size : Int)) → zq_G w nL r' P' h' H' ls st' S' → zq_Fr M r0 P0 h0 H0 R0 P' h' H' locs → zq_Rn H0 R0 r' S'.2.2.2.2.2.1 → W p l e R s m args below meth c H' locs (cells + 1) (slots + b) Q (F0 m (pc + len) ls st')) :
    W p l e R s m args below meth c H locs cells slots Q (F0 m pc ls st) := by
  obtain ⟨hexec, hb, hown, hts⟩ := hM
  obtain ⟨loc, stk, C, F, sto, raw, tok, n⟩ := S
  obtain ⟨hl, hst, oL, oT, Me⟩ := G
  simp only at hl hst oL oT Me kk Rn
  have hC := Me.2.1.1
  unfold zq_s5 at hs
  simp only at hs
  split at hs
  · rename_i el stk' k b0 q0
    split at hs
    · rename_i K hKT
      split at hs
      · rename_i ty hty
        cases hcd : (zq_alI AL i len ty K.2.1 && (!Nat.beq K.1 0 && (Nat.beq K.2.2.2.2.2 (zq_dfv (zq_fcd ty)).1 && (K.2.2.2.1.all (zq_zok K.2.2.2.2.2 (zq_dfv (zq_fcd ty)).2.1) && (Nat.ble b0 16777216 && Nat.ble (bif Nat.beq K.2.2.1 0 then b0 else K.2.2.1) (zq_top K.2.2.2.1)))))) with
        | false => rw [hcd] at hs; cases hs
        | true =>
          rw [hcd] at hs
          simp only [cond_true] at hs
          simp only [Bool.and_eq_true, Bool.not_eq_true'] at hcd
          obtain ⟨c1, c2, c3, c4, c5, c6⟩ := hcd
          have k0 : K.1 ≠ 0 := fun z => by rw [z] at c2; cases c2
          have c3 := Nat.eq_of_beq_eq_true c3
          have c5 := Nat.le_of_ble_eq_true c5
          have c6 := Nat.le_of_ble_eq_true c6
          split at hs
          · rename_i q1 hq1
            split at hs
            · rename_i q2 hq2
              split at hs
              · rename_i q3 hq3
                split at hs
                · rename_i is q4 hq4
                  cases hs
                  have oe := oT (0, el) List.mem_cons_self
                  have oT' : zq_okT r n stk' := fun y hy => oT y (List.mem_cons_of_mem _ hy)
                  have he0 := zq_prove_ok hq1 hC
                  have heb := zq_prove_ok hq2 hC
                  rw [zq_ev_sub, zq_ev_k] at heb
                  have hein : zq_in 0 (zq_ev r el) := oe.2
                  have hx := zq_up_ext r n (H.size : Int)
                  have hn : n ≤ n + 1 := Nat.le_succ n
                  have hv : zq_bd (n + 1) (zq_v n) = true := zq_bd_v (Nat.lt_succ_self _)
                  have ev : zq_ev (zq_up r n (H.size : Int)) (zq_v n) = (H.size : Int) := by rw [zq_ev_v, zq_up_self]
                  have M1 := (Me.ext hn hx)
                  have hPn : P H.size = none := by
                    cases hp : P H.size with
                    | none => rfl
                    | some k => have := Me.1.lt hp; omega
                  have hnw : zq_nw H0 R0 H.size := Or.inl Fr.1.1
                  have hsb := Nat.add_le_add_left (show (zq_ev r el).toNat ≤ b by omega) slots
                  obtain ⟨kx, hkx⟩ : ∃ kx, K.1 = kx + 1 := ⟨K.1 - 1, by omega⟩
                  obtain ⟨cA, hcA⟩ : ∃ cA, w.2.2.1[K.2.1]? = some (cA, ty) := by
                    rw [← hTY, List.getElem?_map] at hty
                    cases hg : w.2.2.1[K.2.1]? with
                    | none => rw [hg] at hty; cases hty
                    | some x => rw [hg] at hty; obtain ⟨x1, x2⟩ := x; cases hty; exact ⟨x1, rfl⟩
                  have hRA := zq_RA_cls (hK.2 _ _ hcA).2
                  have hfc := zq_alI_fcd c1
                  have hdv := zq_dfv_ok hfc r
                  rw [zq_dfv_k, ← c3] at hdv
                  generalize hd : (zq_dfv (zq_fcd ty)).2.1 = d at hdv c4
                  have fin : ∀ (H1 : Heap), H1[H.size]? = some (arrV cA (zq_ev r el).toNat (fun _ => defaultValue ty)) → H1.size = H.size + 1 → (∀ q : Nat, q < H.size → H1[q]? = H[q]?) → W p l e R s m args below meth c H1 locs (cells + 1) (slots + (zq_ev r el).toNat) Q (F0 m (pc + len) ls (.ref H.size :: zq_sts r stk')) := by
                    intro H1 hH1 hz1 ho1
                    refine W.widen (k := cells + 1) (n := slots + b) (Nat.le_refl _) hsb ?_
                    have hgood : zq_good w (zq_Pp P H.size k) (zq_hp h H.size (fun j => if j = -1 then zq_ev r el else d)) H1 H.size k := by
                      refine ⟨K, hKT, ?_, fun _ => ?_, fun j hj => ?_, fun x hx' => ?_⟩
                      · simp only [zq_cell, hkx]
                        refine ⟨cA, ty, hcA, ?_⟩
                        rw [zq_hp_self, hH1]
                        simp only [if_true]
                        congr 2
                        funext j
                        rw [if_neg (by omega)]; exact hdv
                      · rw [zq_hp_self]
                        simp only [if_true]
                        have : zq_ev r el ≤ 2147483647 := hein.2
                        exact ⟨he0, by omega⟩
                      · rw [zq_size1 k0, zq_hp_self] at hj
                        simp only [if_true] at hj
                        rw [zq_hp_self]
                        have hnj : ¬ (j : Int) = -1 := by omega
                        simp only [if_neg hnj]
                        have hseg : ∃ x ∈ K.2.2.2.1, zq_sty K j = some x.2 := by
                          unfold zq_sty
                          cases hp : Nat.beq K.2.2.1 0 with
                          | true =>
                            rw [hp] at c6
                            simp only [cond_true] at c6 ⊢
                            exact zq_top_ok _ 0 j (Nat.zero_le _) (by unfold zq_top at c6; omega)
                          | false =>
                            rw [hp] at c6
                            simp only [cond_false] at c6 ⊢
                            have hp0 : 0 < K.2.2.1 := by
                              rcases Nat.eq_zero_or_pos K.2.2.1 with z | z
                              · rw [z] at hp; cases hp
                              · exact z
                            have := Nat.mod_lt j hp0
                            exact zq_top_ok _ 0 _ (Nat.zero_le _) (by unfold zq_top at c6; omega)
                        obtain ⟨x, hxm, hxs⟩ := hseg
                        refine ⟨x.2, hxs, ?_⟩
                        have hzk := List.all_eq_true.mp c4 x hxm
                        simp only [zq_zok, Bool.and_eq_true, Bool.or_eq_true, decide_eq_true_eq] at hzk
                        have z1 := Nat.eq_of_beq_eq_true hzk.1
                        have hdd : (K.2.2.2.2.2 < 2 → d = 0) ∧ (2 ≤ K.2.2.2.2.2 → d = -1) := by
                          rw [c3, ← hd]
                          unfold zq_dfv
                          split <;> simp [zq_k]
                        refine ⟨?_, hzk.2.1, fun z => ?_, fun z a ha => ?_⟩
                        · rw [z1]
                          rcases Nat.lt_or_ge K.2.2.2.2.2 2 with z | z
                          · rw [hdd.1 z]
                            have : K.2.2.2.2.2 = 0 ∨ K.2.2.2.2.2 = 1 := by omega
                            rcases this with y | y <;> rw [y] <;> exact ⟨by decide, by decide⟩
                          · rw [hdd.2 z]
                            obtain ⟨ky, hky⟩ : ∃ ky, K.2.2.2.2.2 = ky + 2 := ⟨K.2.2.2.2.2 - 2, by omega⟩
                            rw [hky]; show (-1 : Int) ≤ -1; omega
                        · rcases hzk.2.2 with y | y
                          · have := Nat.le_of_ble_eq_true y; omega
                          · exact y
                        · rw [z1] at z; rw [hdd.2 z] at ha; omega
                      · have hre : zq_re w K (zq_hp h H.size (fun j => if j = -1 then zq_ev r el else d)) H.size = fun _ => zq_ev r el := by
                          simp only [zq_re, hkx]
                          rw [zq_hp_self]; rfl
                        rw [hre]
                        exact zq_rwl_ok hC rfl hq3 x hx'
                    have hHT := Me.1.add hW hPn (fun b hb' hpb => by
                      cases hp : P b with
                      | none => exact absurd hp hpb
                      | some kb => exact ho1 b (Me.1.lt hp)) hgood
                    rw [← zq_val_of (t := 2) (a := H.size) (Nat.le_refl 2)]
                    refine kk hn _ _ _ H1 _ hx ⟨hv, ev⟩ (zq_push2 (t := 2) hl oL oT' hn hx hv ev (by show -1 ≤ (H.size : Int); omega) ⟨hHT, ?_, ?_, ?_, ⟨?_, M1.2.2.2.2.1.2⟩, zq_okX.hp hFX M1.2.2.2.2.2 hPn⟩) (Fr.hp hPn hnw (by omega) ho1) ?_
                    · exact ⟨fun x hx' => by
                        rcases List.mem_cons.mp hx' with rfl | hx'
                        · rw [ev]; omega
                        · exact M1.2.1.1 x hx', fun x hx' => by
                        rcases List.mem_cons.mp hx' with rfl | hx'
                        · exact hv
                        · exact M1.2.1.2 x hx'⟩
                    · intro x hx'
                      rcases List.mem_cons.mp hx' with rfl | hx'
                      · refine ⟨hv, fun a ha => ?_⟩
                        have ha : zq_ev (zq_up r n (H.size : Int)) (zq_v n) = (a : Int) := ha
                        rw [ev] at ha
                        have : a = H.size := by omega
                        rw [this]; exact zq_Pp_self _ _ _
                      · exact (M1.2.2.1.le (zq_Pp_le hPn)) x hx'
                    · intro x hx'
                      rcases List.mem_append.mp hx' with hx' | hx'
                      · obtain ⟨i9, rfl⟩ := zq_dfs_ok hx'
                        refine ⟨hv, zq_bd_k, zq_bd_k, H.size, ev, by rw [zq_Pp_self]; exact Option.some_ne_none _, ?_⟩
                        show zq_hp h H.size _ H.size (zq_ev _ (zq_k (i9 : Int))) = zq_ev _ (zq_k (zq_dfv (zq_fcd ty)).2.1)
                        rw [zq_hp_self, zq_ev_k, zq_ev_k, hd]
                        simp only [if_neg (show ¬ (i9 : Int) = -1 by omega)]
                      rcases List.mem_cons.mp hx' with rfl | hx'
                      · refine ⟨hv, zq_bd_k, zq_bd_mono hn oe.1, H.size, ev, by rw [zq_Pp_self]; exact Option.some_ne_none _, ?_⟩
                        show zq_hp h H.size _ H.size (zq_ev _ (zq_k (-1))) = zq_ev _ el
                        rw [zq_hp_self, zq_ev_k, zq_ev_ext hx oe.1]; rfl
                      · exact (M1.2.2.2.1.hp hPn) x hx'
                    · intro x hx'
                      obtain ⟨b', hb'⟩ := M1.2.2.2.2.1.1 x hx'
                      have hlt := zq_raw_lt hb'
                      obtain ⟨y1, y2, y3, y4, y5⟩ := hb'
                      refine ⟨b', y1, y2, y3, by rw [zq_Pp_ne (Nat.ne_of_lt hlt)]; exact y4, y5.kept fun k' y hy => ?_⟩
                      match k', hy with
                      | 0, hy => cases hy; exact ho1 b' hlt
                    · intro x hx' b' hb'
                      obtain ⟨d', hd'⟩ := Me.2.2.2.2.1.1 x hx'
                      exact Rn x hx' b' (by rw [← zq_ev_ext hx hd'.1]; exact hb')
                  rw [hst]
                  show W p l e R s m args below meth c H locs cells slots Q (F0 m pc ls (.int (Int32.ofInt (zq_ev r el)) :: zq_sts r stk'))
                  have hcb := zq_cby ty
                  have hbb : (zq_ev r el).toNat * componentBytes ty ≤ 536870912 := by
                    have := Nat.mul_le_mul (show (zq_ev r el).toNat ≤ 16777216 by omega) hcb
                    omega
                  unfold zq_alI at c1
                  split at c1
                  · rename_i at_
                    simp only [Bool.and_eq_true, decide_eq_true_eq] at c1
                    have e2 := Nat.eq_of_beq_eq_true c1.2.1
                    subst e2
                    have hft : zq_ftc ty ≠ 2 := by rw [← c1.1]; cases at_ <;> simp [zq_atc, newarray.typeOf, zq_ftc]
                    exact zq_newP hexec hb (hts _ (hAK ty (List.mem_of_getElem? hty) hft)) c1.1 hRA hein he0 hbb hc1 (Nat.le_trans hsb hc2) hdg fin
                  · rename_i cp
                    simp only [Bool.and_eq_true] at c1
                    have e2 := Nat.eq_of_beq_eq_true c1.1
                    subst e2
                    have e3 := Nat.eq_of_beq_eq_true c1.2.1
                    cases ty <;> simp [zq_ftc] at e3
                    have e4 := c1.2.2
                    split at e4
                    · rename_i j hj
                      have e5 := Nat.eq_of_beq_eq_true e4
                      subst e5
                      obtain ⟨z1, z2⟩ := hAL _ (zq_lk1_ok hj) _ hty
                      exact zq_newQ hexec hb hown (hts _ z1) z2 hRA hein he0 hbb hc1 (Nat.le_trans hsb hc2) hdg fin
                    · cases e4
                  · cases c1
                · cases hs
              · cases hs
            · cases hs
          · cases hs
      · cases hs
    · cases hs
  · cases hs
end ZQS5
