/-! TOKENS of the class (zj_ST starts of tokens; zg_J the journal: 0 kinds, 1 ones, 2 others, 3 moved, 4 balances, 5 how many rows, 6 the hole, 7 the day, 8 and 10 places, 9 and 11 what is told of them; zj_EN a copy) -/
noncomputable def zj_ST (k : Nat) (r : Nat → Int) (P : zq_Ty) (h : zq_H) : Prop := 0 ≤ r 0 ∧ P (r 0).toNat = some k ∧ 0 ≤ r 1 ∧ r 1 ≤ 401 ∧ ∀ j, 0 ≤ j → j < r 1 → 0 ≤ h (r 0).toNat j ∧ h (r 0).toNat j ≤ 399
noncomputable def zg_in (z : Int) : Prop := -9999 ≤ z ∧ z ≤ 9999
noncomputable def zg_ov (b : Int → Int) (i x j y : Int) : Int → Int := fun q => if q = i then x else if q = j then y else b q
noncomputable def zg_mv (b : Int → Int) (a c v : Int) : Int → Int := fun q => (if q = c then v else 0) + ((if q = a then -v else 0) + b q)
noncomputable def zg_un (e : Int → Int × Int × Int × Int) : Nat → (Int → Int) → Int → Prop
  | 0, _, _ => True
  | n + 1, b, d => ((e n).1 = 2 ∧ 0 ≤ (e n).2.1 ∧ (e n).2.1 ≤ 3 ∧ 0 ≤ (e n).2.2.1 ∧ (e n).2.2.1 ≤ 6 ∧ zg_un e n b d) ∨ ((e n).1 = 3 ∧ 1 ≤ d ∧ zg_un e n b (d - 1)) ∨ (0 ≤ (e n).1 ∧ (e n).1 ≤ 1 ∧ 0 ≤ (e n).2.1 ∧ (e n).2.1 ≤ 5 ∧ 0 ≤ (e n).2.2.1 ∧ (e n).2.2.1 ≤ 5 ∧ ((e n).2.1 = (e n).2.2.1 → (e n).2.2.2 = 0) ∧ zg_in (zg_mv b (e n).2.1 (e n).2.2.1 (e n).2.2.2 (e n).2.1) ∧ zg_in (zg_mv b (e n).2.1 (e n).2.2.1 (e n).2.2.2 (e n).2.2.1) ∧ zg_un e n (zg_mv b (e n).2.1 (e n).2.2.1 (e n).2.2.2) d)
noncomputable def zg_at (z j : Int) : Int := if j < z then j else j + 1
noncomputable def zg_row (k o t m : Int → Int) (z : Int) : Int → Int × Int × Int × Int := fun j => (k (zg_at z j), o (zg_at z j), t (zg_at z j), m (zg_at z j))
noncomputable def zg_J (k0 k1 k2 k3 k4 : Nat) (r : Nat → Int) (P : zq_Ty) (h : zq_H) : Prop := (0 ≤ r 0 ∧ P (r 0).toNat = some k0) ∧ (0 ≤ r 1 ∧ P (r 1).toNat = some k1) ∧ (0 ≤ r 2 ∧ P (r 2).toNat = some k2) ∧ (0 ≤ r 3 ∧ P (r 3).toNat = some k3) ∧ (0 ≤ r 4 ∧ P (r 4).toNat = some k4) ∧ 0 ≤ r 5 ∧ r 5 ≤ 16 ∧ 0 ≤ r 6 ∧ r 6 ≤ r 5 ∧ r 8 < r 10 ∧ zg_un (zg_row (h (r 0).toNat) (h (r 1).toNat) (h (r 2).toNat) (h (r 3).toNat) (r 6)) (r 5).toNat (zg_ov (h (r 4).toNat) (r 8) (r 9) (r 10) (r 11)) (r 7)
noncomputable def zj_EN (N : Nat) (kd ks : Nat) (r : Nat → Int) (P : zq_Ty) (h : zq_H) : Prop := 0 ≤ r 0 ∧ P (r 0).toNat = some kd ∧ 0 ≤ r 1 ∧ P (r 1).toNat = some ks ∧ ∀ j, 0 ≤ j → j < (N : Int) → h (r 0).toNat j = h (r 1).toNat j
