/-! WHAT MOVES, LAWS: carried from land to land, to images and back -/
noncomputable def zm_E (n kd ks : Nat) (a b : Int) (P : zq_Ty) (h : zq_H) : Prop := zj_EN n kd ks (zq_en [a, b]) P h
theorem zm_E_at {n kd ks : Nat} {a b : Int} {P : zq_Ty} {h : zq_H} (k : zm_E n kd ks a b P h) : zn_on a kd P ∧ ∀ j : Int, 0 ≤ j → j < (n : Int) → h a.toNat j = h b.toNat j := by
  obtain ⟨a1, a2, _, _, a5⟩ := k
  exact ⟨⟨a1, a2⟩, a5⟩
theorem zm_is_cg' {f f' : Int → Int} {M : Int} (h : zm_is f M) (e : ∀ j : Int, 0 ≤ j → j < 11 → f' j = f j) : zm_is f' M := zm_is_cg h e
/-- a land's state, of a copy -/
theorem zm_MC_cp {k k' : Nat} {bl ck tm bl' ck' tm' M : Int} {P : zq_Ty} {h : zq_H} (z : zm_MC k bl ck tm M P h) (e1 : zm_E 6 (k' + 1) (k + 1) bl' bl P h) (e2 : zm_E 4 (k' + 4) (k + 4) ck' ck P h) (e3 : zm_E 3 (k' + 7) (k + 7) tm' tm P h) : zm_MC k' bl' ck' tm' M P h := by
  obtain ⟨_, _, _, z4⟩ := z
  obtain ⟨a1, a2⟩ := zm_E_at e1
  obtain ⟨b1, b2⟩ := zm_E_at e2
  obtain ⟨c1, c2⟩ := zm_E_at e3
  refine ⟨a1, b1, c1, zm_is_cg' z4 (fun j j0 j1 => ?_)⟩
  unfold zm_f
  by_cases x : j < 6
  · rw [if_pos x, if_pos x]; exact a2 j j0 (by omega)
  · rw [if_neg x, if_neg x]
    by_cases y : j < 10
    · rw [if_pos y, if_pos y]; exact b2 (j - 6) (by omega) (by omega)
    · rw [if_neg y, if_neg y]; exact c2 0 (by omega) (by omega)
/-- a journal's states, of a copy -/
theorem zk_ZC_cp {b b' : Nat} {jk jo jt jm jk' jo' jt' jm' n M Z : Int} {P : zq_Ty} {h : zq_H} (z : zk_ZC b jk jo jt jm n M Z P h) (e1 : zm_E 16 (b' + 9) (b + 9) jk' jk P h) (e2 : zm_E 16 (b' + 10) (b + 10) jo' jo P h) (e3 : zm_E 16 (b' + 11) (b + 11) jt' jt P h) (e4 : zm_E 16 (b' + 12) (b + 12) jm' jm P h) : zk_ZC b' jk' jo' jt' jm' n M Z P h := by
  obtain ⟨_, _, _, _, z5, z6, z7⟩ := z
  obtain ⟨a1, a2⟩ := zm_E_at e1
  obtain ⟨b1, b2⟩ := zm_E_at e2
  obtain ⟨c1, c2⟩ := zm_E_at e3
  obtain ⟨d1, d2⟩ := zm_E_at e4
  refine ⟨a1, b1, c1, d1, z5, z6, fun i i0 i1 => ?_⟩
  obtain ⟨y1, y2⟩ := z7 i i0 i1
  unfold zk_E
  rw [a2 i i0 (by omega), b2 i i0 (by omega), c2 i i0 (by omega), d2 i i0 (by omega)]
  exact ⟨y1, y2⟩
/-- a journal of no entries -/
theorem zk_ZC_0 {b : Nat} {jk jo jt jm M Z : Int} {P : zq_Ty} {h : zq_H} (a1 : zn_on jk (b + 9) P) (a2 : zn_on jo (b + 10) P) (a3 : zn_on jt (b + 11) P) (a4 : zn_on jm (b + 12) P) : zk_ZC b jk jo jt jm 0 M Z P h := ⟨a1, a2, a3, a4, by omega, by omega, fun i i0 i1 => by omega⟩
/-- laws of texts that are the same objects -/
theorem zt_LT_cp {k k' : Nat} {a b l N T : Int} {P : zq_Ty} {h : zq_H} (hl : 6 ≤ l) (c : zo_CP (k' + 8) (k + 8) a b l P h) (z : zt_LT k b N T P h) : zt_LT k' a N T P h := by
  obtain ⟨c1, _, _, c4⟩ := c
  obtain ⟨_, z2, z3, z4⟩ := z
  refine ⟨c1, z2, z3, fun f f0 f1 => ?_⟩
  rw [c4 f f0 (by omega)]
  exact z4 f f0 f1
/-- no laws -/
theorem zt_LT_0 {k : Nat} {a T : Int} {P : zq_Ty} {h : zq_H} (c : zn_on a (k + 8) P) : zt_LT k a 0 T P h := ⟨c, by omega, by omega, fun f f0 f1 => by omega⟩
theorem zl_KT_0 {a T : Int} {P : zq_Ty} {h : zq_H} (c : zn_on a 1 P) : zl_KT a T 0 P h := ⟨c, by omega, fun f f0 f1 => by omega, fun f f0 f1 => by omega⟩
/-- a text of an image -/
noncomputable def ze_TXi (o a B E g n : Int) (P : zq_Ty) (h : zq_H) : Prop := zn_on a 2 P ∧ 0 ≤ B ∧ E ≤ 2800 ∧ E - B = ((zu_TL g n).length : Int) ∧ ∀ j, 0 ≤ j → j < E - B → h a.toNat (o + (71 + (B + j))) = ze_c g n j ∧ (ze_c g n j = 50 → h a.toNat (o + (2871 + (B + j))) = ze_v g n j)
noncomputable def zl_KI (o : Int) (a T N : Int) (P : zq_Ty) (h : zq_H) : Prop := zn_on a 2 P ∧ N ≤ 6 ∧ (∀ f : Int, 0 ≤ f → f < N → ze_TXi o a (400 * f) (400 * f + h a.toNat (o + (64 + f))) (zT_g T f) (zT_n T f) P h) ∧ ∀ f : Int, 0 ≤ f → f < N → zT_n T f ≤ 400
theorem zl_KI_0 {o a T : Int} {P : zq_Ty} {h : zq_H} (c : zn_on a 2 P) : zl_KI o a T 0 P h := ⟨c, by omega, fun f f0 f1 => by omega, fun f f0 f1 => by omega⟩
section ZKIFX
variable {P P' : zq_Ty} {h h' : zq_H}
theorem zl_KI_fx {o a T N : Int} (hP : zq_le P P') (h1 : ∀ j, o + 64 ≤ j → j ≤ o + 5670 → P a.toNat = some 2 → h' a.toNat j = h a.toNat j) (z : zl_KI o a T N P h) : zl_KI o a T N P' h' := by
  obtain ⟨z1, z2, z3, z4⟩ := z
  refine ⟨zn_on_le hP z1, z2, fun f f0 f1 => ?_, z4⟩
  obtain ⟨w1, w2, w3, w4, w5⟩ := z3 f f0 f1
  rw [h1 (o + (64 + f)) (by omega) (by omega) z1.2]
  refine ⟨zn_on_le hP w1, w2, w3, w4, fun j j0 j1 => ?_⟩
  rw [h1 (o + (71 + (400 * f + j))) (by omega) (by omega) z1.2, h1 (o + (2871 + (400 * f + j))) (by omega) (by omega) z1.2]
  exact w5 j j0 j1
end ZKIFX
theorem zm_zero0 : zm_pk (fun _ => 0) 11 = (2147483648 * (1 + 2 ^ 32 + 2 ^ 64 + 2 ^ 96 + 2 ^ 128 + 2 ^ 160 + 2 ^ 192 + 2 ^ 224 + 2 ^ 256 + 2 ^ 288 + 2 ^ 320) : Int) := by decide +kernel
theorem zm_zero {f : Int → Int} (h : ∀ j : Int, 0 ≤ j → j < 11 → f j = 0) : zm_is f 4586997233048136541430758450064474100387735230759824291973833691816938709832156080645343570059119116156928 := by
  refine ⟨fun i x y => by rw [h i x y]; unfold zn_in; omega, ?_⟩
  rw [zm_pk_cg 11 (g := fun _ => 0) (fun j x y => h j x (by omega)), zm_zero0]
  decide +kernel
