/-! TOKENS of evaluation: a value (live), an end, a loop so far (value, end), a code, a value of a token, a text in kept, words asked -/
noncomputable def ze_on (b : Int) : Bool := decide (b = 1)
noncomputable def ze_EV (k g n o W b p r c q : Int) (_ : zq_Ty) (_ : zq_H) : Prop := ze_V (ze_c g n) (ze_v g n) (ze_w o W) k.toNat 0 true (ze_on b) p r (ze_on c) q
noncomputable def ze_TT (k g n p q : Int) (_ : zq_Ty) (_ : zq_H) : Prop := zt_T (ze_c g n) k.toNat p q
noncomputable def ze_SL (k K g n o W b p a c q : Int) (_ : zq_Ty) (_ : zq_H) : Prop := ∀ (r : Int) (d : Bool) (e : Int), ze_V (ze_c g n) (ze_v g n) (ze_w o W) k.toNat a true (ze_on c) q r d e → ze_V (ze_c g n) (ze_v g n) (ze_w o W) K.toNat 0 true (ze_on b) p r d e
noncomputable def ze_TL (k K g n p q : Int) (_ : zq_Ty) (_ : zq_H) : Prop := ∀ e : Int, zt_T (ze_c g n) k.toNat q e → zt_T (ze_c g n) K.toNat p e
noncomputable def ze_CD (g n p c : Int) (_ : zq_Ty) (_ : zq_H) : Prop := c = ze_c g n p
noncomputable def ze_VL (g n p v : Int) (_ : zq_Ty) (_ : zq_H) : Prop := v = ze_v g n p
noncomputable def ze_TX (a B E g n : Int) (P : zq_Ty) (h : zq_H) : Prop := zn_on a 1 P ∧ 0 ≤ B ∧ E ≤ 2800 ∧ E - B = ((zu_TL g n).length : Int) ∧ ∀ j, 0 ≤ j → j < E - B → h a.toNat (71 + (B + j)) = ze_c g n j ∧ (ze_c g n j = 50 → h a.toNat (2871 + (B + j)) = ze_v g n j)
noncomputable def ze_AW (k : Nat) (a W : Int) (P : zq_Ty) (h : zq_H) : Prop := zn_on a k P ∧ ∀ j, 0 ≤ j → j < 8 → h a.toNat j = zn_dg W j
theorem ze_c_end {g n p : Int} (h : ((zu_TL g n).length : Int) ≤ p) : ze_c g n p = 0 := by
  unfold ze_c
  rw [if_neg (by omega), List.getElem?_eq_none (by omega)]
theorem ze_on1 : ze_on 1 = true := by decide
theorem ze_on0 : ze_on 0 = false := by decide
section ZEFX
variable {P P' : zq_Ty} {h h' : zq_H}
theorem ze_TX_fx {a B E g n : Int} (hP : zq_le P P') (h1 : ∀ j, 71 ≤ j → j ≤ 5670 → P a.toNat = some 1 → h' a.toNat j = h a.toNat j) (z : ze_TX a B E g n P h) : ze_TX a B E g n P' h' := by
  obtain ⟨z1, z2, z3, z4, z5⟩ := z
  refine ⟨zn_on_le hP z1, z2, z3, z4, fun j x y => ?_⟩
  rw [h1 (71 + (B + j)) (by omega) (by omega) z1.2, h1 (2871 + (B + j)) (by omega) (by omega) z1.2]
  exact z5 j x y
theorem ze_AW_fx {k : Nat} {a W : Int} (hP : zq_le P P') (h1 : ∀ j, 0 ≤ j → j ≤ 7 → P a.toNat = some k → h' a.toNat j = h a.toNat j) (z : ze_AW k a W P h) : ze_AW k a W P' h' := ⟨zn_on_le hP z.1, fun j x y => (h1 j x (by omega) z.1.2).trans (z.2 j x y)⟩
end ZEFX
/-- an operation of 64 bits that doesn't run over -/
theorem ze_op64 {u a b : Int} (hu : u = zq_fun 1 2 a b) (a1 : -2147483648 ≤ a) (a2 : a ≤ 2147483648) (b1 : -2147483648 ≤ b) (b2 : b ≤ 2147483648) : u = a * b := by
  have h1 : -4611686018427387904 ≤ a * b ∧ a * b ≤ 4611686018427387904 := by
    rcases Int.le_total 0 a with x | x <;> rcases Int.le_total 0 b with y | y
    · exact ⟨by have := Int.mul_nonneg x y; omega, by have := Int.mul_le_mul a2 b2 y (by decide); omega⟩
    · have h1 := Int.mul_le_mul a2 (show -b ≤ 2147483648 by omega) (show 0 ≤ -b by omega) (by decide)
      have h2 := Int.mul_nonneg x (show 0 ≤ -b by omega)
      rw [Int.mul_neg] at h1 h2
      omega
    · have h1 := Int.mul_le_mul (show -a ≤ 2147483648 by omega) b2 y (by decide)
      have h2 := Int.mul_nonneg (show 0 ≤ -a by omega) y
      rw [Int.neg_mul] at h1 h2
      omega
    · have h1 := Int.mul_le_mul (show -a ≤ 2147483648 by omega) (show -b ≤ 2147483648 by omega) (show 0 ≤ -b by omega) (by decide)
      have h2 := Int.mul_nonneg (show 0 ≤ -a by omega) (show 0 ≤ -b by omega)
      rw [Int.neg_mul_neg] at h1 h2
      omega
  rw [hu]
  show (a * b).bmod (2 ^ zq_bw 1) = a * b
  exact Int.bmod_eq_of_le (by show -(2 ^ 64 / 2 : Int) ≤ _; omega) (by show _ < ((2 ^ 64 + 1) / 2 : Int); omega)
theorem ze_tdiv64 {u a b : Int} (hu : u = zq_fun 1 3 a b) (a1 : -2147483648 ≤ a) (a2 : a ≤ 2147483648) : u = a.tdiv b := by
  rw [hu]
  show (a.tdiv b).bmod (2 ^ zq_bw 1) = _
  have h := @zq_tdiv_abs a b
  exact Int.bmod_eq_of_le (by show -(2 ^ 64 / 2 : Int) ≤ _; omega) (by show _ < ((2 ^ 64 + 1) / 2 : Int); omega)
theorem ze_tmod64 {u a b : Int} (hu : u = zq_fun 1 4 a b) : u = a.tmod b := hu
theorem ze_out_t {z : Int} (h : 1000000000 < z ∨ z < -1000000000) : ze_out z = true := by
  unfold ze_out
  rcases h with h | h
  · rw [decide_eq_true h]; rfl
  · rw [decide_eq_true h, Bool.or_true]
theorem ze_out_f {z : Int} (h1 : -1000000000 ≤ z) (h2 : z ≤ 1000000000) : ze_out z = false := by
  unfold ze_out
  rw [decide_eq_false (by omega), decide_eq_false (by omega)]; rfl
theorem ze_bd_1 {z : Int} : ze_bd true true z = (0, true) := by unfold ze_bd; simp
theorem ze_bd_t {b : Bool} {z : Int} (h : ze_out z = true) : ze_bd true b z = (0, true) := by unfold ze_bd; rw [h]; simp
theorem ze_bd_f {z : Int} (h : ze_out z = false) : ze_bd true false z = (z, false) := by unfold ze_bd; rw [h]; simp
