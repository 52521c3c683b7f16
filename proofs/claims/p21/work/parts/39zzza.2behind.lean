/-! behind the tokens: what speaks of the older ones -/
noncomputable def zo_X5 (a b co va t : Int) (P : zq_Ty) (h : zq_H) : Prop := zx_5 (zq_en [a, b, co, va, t]) P h
/-- what was read, laid: a text in kept -/
theorem zo_laid {a B co va pl g n t o : Int} {P : zq_Ty} {h : zq_H} (k1 : zo_X5 a B co va t P h) (k2 : zu_LXR co va pl g n t P h) (k3 : zu_FA o g n (-1) P h) : ze_TX a B (B + t) g n P h := by
  obtain ⟨a1, a2, a3, a0, a4, a5, a6, a7, a8, a9⟩ := k2
  have k3 : -1 = zu_res o g n := k3
  have hr := zu_res_ok o g n
  rw [← k3] at hr
  obtain ⟨b1, b2, b3, b4, b5, b6, b7, b8, b9, b10, b11⟩ := k1
  have b1 : 0 ≤ a := b1
  have b2 : P a.toNat = some 1 := b2
  have b7 : 0 ≤ B := b7
  have b10 : B + t ≤ 2800 := b10
  have b11 : ∀ j, 0 ≤ j → j < t → h a.toNat (71 + B + j) = h co.toNat j ∧ h a.toNat (2871 + B + j) = h va.toNat j := b11
  have at_ : ∀ (j : Nat) (x : Int × Int × Int × Int), (zu_TL g n)[j]? = some x → 0 ≤ x.1 ∧ h co.toNat (j : Int) = x.2.2.1 ∧ (x.2.2.1 = 50 → zu_vv x.2.2.2 (h va.toNat (j : Int))) := by
    intro j x hx
    obtain ⟨x1, -⟩ := List.getElem?_eq_some_iff.mp hx
    obtain ⟨e, e1, e2, e3, e4, -, e6⟩ := a9 (j : Int) (by omega) (by omega)
    rw [show ((j : Int)).toNat = j by omega, hx] at e1
    have e1 := Option.some.inj e1
    rw [← e1] at e3 e4 e6
    exact ⟨e3, e4, fun z => (e6 z).1⟩
  refine ⟨⟨b1, b2⟩, b7, b10, by omega, fun j j0 j1 => ?_⟩
  obtain ⟨c1, c2⟩ := b11 j j0 (by omega)
  have hl : j.toNat < (zu_TL g n).length := by omega
  obtain ⟨x, hx⟩ : ∃ x, (zu_TL g n)[j.toNat]? = some x := ⟨_, List.getElem?_eq_getElem hl⟩
  obtain ⟨d1, d2, d3⟩ := at_ j.toNat x hx
  rw [show ((j.toNat : Nat) : Int) = j by omega] at d2 d3
  have ec : ze_c g n j = x.2.2.1 := by
    unfold ze_c
    rw [if_neg (by omega), hx]
  have ev : ze_v g n j = x.2.2.2 := by
    unfold ze_v
    rw [if_neg (by omega), hx]
  rw [show 71 + (B + j) = 71 + B + j by omega, show 2871 + (B + j) = 2871 + B + j by omega, c1, c2, ec, ev]
  refine ⟨d2, fun z => ?_⟩
  have hb := zu_run_le (zu_TL g n) _ _ _ (by omega) (fun i y hy => by have := (at_ i y hy).1; omega) hr j.toNat x hx z
  rcases d3 z with ⟨w1, w2⟩ | ⟨w1, w2⟩
  · exact w2.symm
  · omega
noncomputable def zm_Q (a b o l : Int) (P : zq_Ty) (h : zq_H) : Prop := zx_7 (zq_en [a, b, o, l]) P h
theorem zm_Q_at {a b o : Int} {P : zq_Ty} {h : zq_H} (k : zm_Q a b o 5671 P h) : zn_on a 1 P ∧ zn_on b 2 P ∧ ∀ j : Int, 0 ≤ j → j < 5671 → h b.toNat (o + j) = h a.toNat j := by
  obtain ⟨a1, a2, a3, a4, _, _, _, _, a9⟩ := k
  exact ⟨⟨a1, a2⟩, ⟨a3, a4⟩, a9⟩
/-- into an image; out of it -/
theorem zm_MI {a b o M : Int} {P : zq_Ty} {h : zq_H} (q : zm_Q a b o 5671 P h) (z : zm_MK 1 0 a M P h) : zm_MK 2 o b M P h := by
  obtain ⟨q1, q2, q3⟩ := zm_Q_at q
  refine ⟨q2, zm_is_cg' z.2 (fun j j0 j1 => ?_)⟩
  show h b.toNat (o + j) = h a.toNat (0 + j)
  rw [q3 j j0 (by omega), show 0 + j = j by omega]
theorem zm_MB {a b o M : Int} {P : zq_Ty} {h : zq_H} (q : zm_Q a b o 5671 P h) (z : zm_MK 2 o b M P h) : zm_MK 1 0 a M P h := by
  obtain ⟨q1, q2, q3⟩ := zm_Q_at q
  refine ⟨q1, zm_is_cg' z.2 (fun j j0 j1 => ?_)⟩
  show h a.toNat (0 + j) = h b.toNat (o + j)
  rw [q3 j j0 (by omega), show 0 + j = j by omega]
theorem zl_KI_of {a b o T N : Int} {P : zq_Ty} {h : zq_H} (q : zm_Q a b o 5671 P h) (z : zl_KT a T N P h) : zl_KI o b T N P h := by
  obtain ⟨q1, q2, q3⟩ := zm_Q_at q
  obtain ⟨z1, z2, z3, z4⟩ := z
  refine ⟨q2, z2, fun f f0 f1 => ?_, z4⟩
  obtain ⟨w1, w2, w3, w4, w5⟩ := z3 f f0 f1
  rw [q3 (64 + f) (by omega) (by omega)]
  refine ⟨q2, w2, w3, w4, fun j j0 j1 => ?_⟩
  rw [q3 (71 + (400 * f + j)) (by omega) (by omega), q3 (2871 + (400 * f + j)) (by omega) (by omega)]
  exact w5 j j0 j1
theorem zl_KT_of {a b o T N : Int} {P : zq_Ty} {h : zq_H} (q : zm_Q a b o 5671 P h) (z : zl_KI o b T N P h) : zl_KT a T N P h := by
  obtain ⟨q1, q2, q3⟩ := zm_Q_at q
  obtain ⟨z1, z2, z3, z4⟩ := z
  refine ⟨q1, z2, fun f f0 f1 => ?_, z4⟩
  obtain ⟨w1, w2, w3, w4, w5⟩ := z3 f f0 f1
  rw [q3 (64 + f) (by omega) (by omega)] at w3 w4 w5
  refine ⟨q1, w2, w3, w4, fun j j0 j1 => ?_⟩
  have y := w5 j j0 j1
  rw [q3 (71 + (400 * f + j)) (by omega) (by omega), q3 (2871 + (400 * f + j)) (by omega) (by omega)] at y
  exact y
