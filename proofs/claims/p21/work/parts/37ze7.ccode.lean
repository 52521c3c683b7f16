/-! THE CLASS'S CODE BEING LAID: tokens. A code told by the class's numbers; an array's first cells as digits; numbers that agree; pieces -/
noncomputable def zc_CM (g n i c : Int) (_ : zq_Ty) (_ : zq_H) : Prop := ze_c g n i = zu_mp c
noncomputable def zc_CA (a s Y : Int) (P : zq_Ty) (h : zq_H) : Prop := zn_on a 33 P ∧ (0 ≤ s ∧ s ≤ 448) ∧ ∀ j, 0 ≤ j → j < s → h a.toNat j = zn_dg Y j
noncomputable def zc_CH (a s Y p : Int) (P : zq_Ty) (h : zq_H) : Prop := zn_on a 33 P ∧ 0 ≤ p ∧ (p < s ∧ s ≤ 448) ∧ ∀ j, 0 ≤ j → j < s → j ≠ p → h a.toNat j = zn_dg Y j
noncomputable def zc_AG (Y Z l u : Int) (_ : zq_Ty) (_ : zq_H) : Prop := ∀ j, l ≤ j → j < u → zn_dg Z j = zn_dg Y j
noncomputable def zc_P (o g n Y k d s t i j : Int) (_ : zq_Ty) (_ : zq_H) : Prop := zp_P o g n Y k.toNat d.toNat s t i j
noncomputable def zc_T (o g n Y k d s t i j : Int) (_ : zq_Ty) (_ : zq_H) : Prop := zp_T o g n Y k.toNat d.toNat s t i j
noncomputable def zc_Q0 (o g n Y d s t i j A S : Int) (_ : zq_Ty) (_ : zq_H) : Prop := zp_Q0 o g n Y d.toNat s t i j A S
noncomputable def zc_Q1 (o g n Y d s t i j A : Int) (_ : zq_Ty) (_ : zq_H) : Prop := zp_Q1 o g n Y d.toNat s t i j A
noncomputable def zc_D (o g n Y d s t i j : Int) (_ : zq_Ty) (_ : zq_H) : Prop := zp_D o g n Y d.toNat s t i j
noncomputable def zc_O (o g n Y d s t i j : Int) (_ : zq_Ty) (_ : zq_H) : Prop := zp_O o g n Y d.toNat s t i j
noncomputable def zc_N (o g n i j a : Int) (_ : zq_Ty) (_ : zq_H) : Prop := zp_N o g n i j a
theorem zc_cur_c {g n i p c v : Int} (h : zu_cur g n i p c v) : ze_c g n i = c := by
  obtain ⟨h0, ⟨e, e1, e2, e3, e4⟩ | ⟨h1, h2, h3⟩⟩ := h
  · unfold ze_c
    rw [if_neg (by omega), e1]; exact e3
  · unfold ze_c
    rw [if_neg (by omega), List.getElem?_eq_none (by omega), h3]
theorem zc_cur_v {g n i p c v : Int} (h : zu_cur g n i p c v) (hc : c = 50) (hv : v ≤ 1000) : ze_v g n i = v := by
  obtain ⟨h0, ⟨e, e1, e2, e3, e4⟩ | ⟨h1, h2, h3⟩⟩ := h
  · unfold ze_v
    rw [if_neg (by omega), e1]
    rcases (e4 hc).1 with ⟨_, z⟩ | ⟨z, _⟩
    · exact z
    · omega
  · omega
theorem zc_mp_c {c k m : Int} (hm : zu_mp k = m) {g n i : Int} (h : ze_c g n i = zu_mp c) (hc : c = k) : ze_c g n i = m := by rw [h, hc, hm]
section ZCFX
variable {P P' : zq_Ty} {h h' : zq_H}
theorem zc_CA_fx {a s Y : Int} (hP : zq_le P P') (h1 : ∀ j, 0 ≤ j → j < s → P a.toNat = some 33 → h' a.toNat j = h a.toNat j) (z : zc_CA a s Y P h) : zc_CA a s Y P' h' := ⟨zn_on_le hP z.1, z.2.1, fun j x y => (h1 j x y z.1.2).trans (z.2.2 j x y)⟩
theorem zc_CH_fx {a s Y p : Int} (hP : zq_le P P') (h1 : ∀ j, 0 ≤ j → j < s → j ≠ p → P a.toNat = some 33 → h' a.toNat j = h a.toNat j) (z : zc_CH a s Y p P h) : zc_CH a s Y p P' h' := ⟨zn_on_le hP z.1, z.2.1, z.2.2.1, fun j x y w => (h1 j x y w z.1.2).trans (z.2.2.2 j x y w)⟩
end ZCFX
theorem zc_mp8 {c : Int} (h0 : 0 ≤ c) (h1 : c ≤ 13) : zu_mp c = c + 8 := by
  have : ∀ k : Nat, k < 14 → zu_mp (k : Int) = (k : Int) + 8 := by decide +kernel
  have e := this c.toNat (by omega)
  rw [show ((c.toNat : Nat) : Int) = c by omega] at e
  exact e
/-- no other code of the class stands for it -/
theorem zc_mp_ne (k m : Int) (hk : ((List.range 32).all (fun q => decide ((q : Int) = k) || !decide (zu_mp (q : Int) = m)) && decide (m < 100)) = true) {c : Int} (h0 : 0 ≤ c) (h : c ≠ k) : zu_mp c ≠ m := by
  simp only [Bool.and_eq_true, decide_eq_true_eq] at hk
  by_cases hc : c < 32
  · have := List.all_eq_true.mp hk.1 c.toNat (List.mem_range.mpr (by omega))
    simp only [Bool.or_eq_true, decide_eq_true_eq, Bool.not_eq_true', decide_eq_false_iff_not] at this
    rw [show ((c.toNat : Nat) : Int) = c by omega] at this
    rcases this with e | e
    · exact absurd e h
    · exact e
  · rw [zu_mp_hi (by omega)]; omega
