/-! ROADS as one number: of each place the bits of those to which it has one -/
noncomputable def zn_bt (c k : Int) : Int := c / 2 ^ k.toNat % 2
noncomputable def zn_sb (c k is : Int) : Int := c - zn_bt c k * 2 ^ k.toNat + is * 2 ^ k.toNat
noncomputable def zn_ly (E f t is : Int) : Int := zn_up E f (zn_sb (zn_dg E f) t is)
noncomputable def zn_st (E a b is : Int) : Int := zn_ly (zn_ly E a b is) b a is
noncomputable def zn_nb (E : Int) : Prop := ∀ i, 0 ≤ i → i < 4 → 0 ≤ zn_dg E i ∧ zn_dg E i ≤ 15
noncomputable def zn_rd (f : Int → Int) (E : Int) : Prop := zn_nb E ∧ ∀ i, 0 ≤ i → i < 4 → f i = zn_dg E i
noncomputable def zn_sy (E : Int) : Prop := zn_nb E ∧ ∀ i j, 0 ≤ i → i < 4 → 0 ≤ j → j < 4 → zn_bt (zn_dg E i) j = zn_bt (zn_dg E j) i
theorem zn_c4 {b : Int} (h0 : 0 ≤ b) (h1 : b ≤ 3) : b = 0 ∨ b = 1 ∨ b = 2 ∨ b = 3 := by omega
theorem zn_sb_in {c k is : Int} (c0 : 0 ≤ c) (c1 : c ≤ 15) (k0 : 0 ≤ k) (k1 : k ≤ 3) (i0 : 0 ≤ is) (i1 : is ≤ 1) : 0 ≤ zn_sb c k is ∧ zn_sb c k is ≤ 15 := by
  unfold zn_sb zn_bt
  rcases zn_c4 k0 k1 with rfl | rfl | rfl | rfl
  · show 0 ≤ c - c / 1 % 2 * 1 + is * 1 ∧ c - c / 1 % 2 * 1 + is * 1 ≤ 15; omega
  · show 0 ≤ c - c / 2 % 2 * 2 + is * 2 ∧ c - c / 2 % 2 * 2 + is * 2 ≤ 15; omega
  · show 0 ≤ c - c / 4 % 2 * 4 + is * 4 ∧ c - c / 4 % 2 * 4 + is * 4 ≤ 15; omega
  · show 0 ≤ c - c / 8 % 2 * 8 + is * 8 ∧ c - c / 8 % 2 * 8 + is * 8 ≤ 15; omega
theorem zn_bt_sb {c k j is : Int} (c0 : 0 ≤ c) (c1 : c ≤ 15) (k0 : 0 ≤ k) (k1 : k ≤ 3) (j0 : 0 ≤ j) (j1 : j ≤ 3) (i0 : 0 ≤ is) (i1 : is ≤ 1) : zn_bt (zn_sb c k is) j = if j = k then is else zn_bt c j := by
  unfold zn_sb zn_bt
  have p0 : (2 : Int) ^ (0 : Int).toNat = 1 := rfl
  have p1 : (2 : Int) ^ (1 : Int).toNat = 2 := rfl
  have p2 : (2 : Int) ^ (2 : Int).toNat = 4 := rfl
  have p3 : (2 : Int) ^ (3 : Int).toNat = 8 := rfl
  rcases zn_c4 k0 k1 with rfl | rfl | rfl | rfl <;> rcases zn_c4 j0 j1 with rfl | rfl | rfl | rfl <;> simp only [p0, p1, p2, p3] <;> split <;> first | omega | exact absurd trivial (by assumption)
theorem zn_sb_id {c k is : Int} (h : zn_bt c k = is) : zn_sb c k is = c := by
  unfold zn_sb
  rw [h]; omega
theorem zn_dg_ly {E f t is i : Int} (hn : zn_nb E) (f0 : 0 ≤ f) (f1 : f ≤ 3) (t0 : 0 ≤ t) (t1 : t ≤ 3) (i0 : 0 ≤ is) (i1 : is ≤ 1) (h0 : 0 ≤ i) : zn_dg (zn_ly E f t is) i = if i = f then zn_sb (zn_dg E f) t is else zn_dg E i := by
  have hb := hn f f0 (by omega)
  have hs := zn_sb_in hb.1 hb.2 t0 t1 i0 i1
  have hi : zn_in (zn_sb (zn_dg E f) t is) := by unfold zn_in; omega
  unfold zn_ly
  split
  · rename_i h; rw [h, zn_up_same hi]
  · rename_i h; exact zn_up_ne f0 h0 (fun z => h z.symm) hi
theorem zn_nb_ly {E f t is : Int} (hn : zn_nb E) (f0 : 0 ≤ f) (f1 : f ≤ 3) (t0 : 0 ≤ t) (t1 : t ≤ 3) (i0 : 0 ≤ is) (i1 : is ≤ 1) : zn_nb (zn_ly E f t is) := by
  intro i h0 h1
  rw [zn_dg_ly hn f0 f1 t0 t1 i0 i1 h0]
  split
  · have hb := hn f f0 (by omega)
    exact zn_sb_in hb.1 hb.2 t0 t1 i0 i1
  · exact hn i h0 h1
theorem zn_dg_st {E a b is i : Int} (hn : zn_nb E) (a0 : 0 ≤ a) (a1 : a ≤ 3) (b0 : 0 ≤ b) (b1 : b ≤ 3) (ab : a ≠ b) (i0 : 0 ≤ is) (i1 : is ≤ 1) (h0 : 0 ≤ i) : zn_dg (zn_st E a b is) i = if i = a then zn_sb (zn_dg E a) b is else if i = b then zn_sb (zn_dg E b) a is else zn_dg E i := by
  unfold zn_st
  rw [zn_dg_ly (zn_nb_ly hn a0 a1 b0 b1 i0 i1) b0 b1 a0 a1 i0 i1 h0, zn_dg_ly hn a0 a1 b0 b1 i0 i1 b0, zn_dg_ly hn a0 a1 b0 b1 i0 i1 h0]
  rw [if_neg (show ¬ b = a from fun z => ab z.symm)]
  by_cases h1 : i = b
  · rw [if_pos h1, if_neg (fun z => ab (z.symm.trans h1)), if_pos h1]
  · rw [if_neg h1]
    by_cases h2 : i = a
    · rw [if_pos h2, if_pos h2]
    · rw [if_neg h2, if_neg h2, if_neg h1]
theorem zn_nb_st {E a b is : Int} (hn : zn_nb E) (a0 : 0 ≤ a) (a1 : a ≤ 3) (b0 : 0 ≤ b) (b1 : b ≤ 3) (i0 : 0 ≤ is) (i1 : is ≤ 1) : zn_nb (zn_st E a b is) := zn_nb_ly (zn_nb_ly hn a0 a1 b0 b1 i0 i1) b0 b1 a0 a1 i0 i1
theorem zn_sy_st {E a b is : Int} (hs : zn_sy E) (a0 : 0 ≤ a) (a1 : a ≤ 3) (b0 : 0 ≤ b) (b1 : b ≤ 3) (ab : a ≠ b) (i0 : 0 ≤ is) (i1 : is ≤ 1) : zn_sy (zn_st E a b is) := by
  obtain ⟨hn, hy⟩ := hs
  refine ⟨zn_nb_st hn a0 a1 b0 b1 i0 i1, fun i j x0 x1 y0 y1 => ?_⟩
  have na := hn a a0 (by omega)
  have nb := hn b b0 (by omega)
  have key : ∀ i j : Int, 0 ≤ i → i < 4 → 0 ≤ j → j < 4 → zn_bt (zn_dg (zn_st E a b is) i) j = if i = a ∧ j = b ∨ i = b ∧ j = a then is else zn_bt (zn_dg E i) j := by
    intro i j x0 x1 y0 y1
    rw [zn_dg_st hn a0 a1 b0 b1 ab i0 i1 x0]
    by_cases h1 : i = a
    · rw [if_pos h1, zn_bt_sb na.1 na.2 b0 b1 y0 (by omega) i0 i1]
      by_cases h2 : j = b
      · rw [if_pos h2, if_pos (Or.inl ⟨h1, h2⟩)]
      · rw [if_neg h2, if_neg (by rintro (z | z); exact h2 z.2; exact ab (h1.symm.trans z.1)), h1]
    · rw [if_neg h1]
      by_cases h3 : i = b
      · rw [if_pos h3, zn_bt_sb nb.1 nb.2 a0 a1 y0 (by omega) i0 i1]
        by_cases h2 : j = a
        · rw [if_pos h2, if_pos (Or.inr ⟨h3, h2⟩)]
        · rw [if_neg h2, if_neg (by rintro (z | z); exact h1 z.1; exact h2 z.2), h3]
      · rw [if_neg h3, if_neg (by rintro (z | z); exact h1 z.1; exact h3 z.1)]
  rw [key i j x0 x1 y0 y1, key j i y0 y1 x0 x1]
  by_cases h : i = a ∧ j = b ∨ i = b ∧ j = a
  · rw [if_pos h, if_pos (by rcases h with h | h; exact Or.inr ⟨h.2, h.1⟩; exact Or.inl ⟨h.2, h.1⟩)]
  · rw [if_neg h, if_neg (by rintro (z | z); exact h (Or.inr ⟨z.2, z.1⟩); exact h (Or.inl ⟨z.2, z.1⟩))]
    exact hy i j x0 x1 y0 y1
theorem zn_st_id {E a b is : Int} (hs : zn_sy E) (a0 : 0 ≤ a) (a1 : a ≤ 3) (b0 : 0 ≤ b) (b1 : b ≤ 3) (h : zn_bt (zn_dg E a) b = is) : zn_st E a b is = E := by
  have h2 : zn_bt (zn_dg E b) a = is := by rw [← h]; exact hs.2 b a b0 (by omega) a0 (by omega)
  unfold zn_st
  have e : zn_ly E a b is = E := by unfold zn_ly; rw [zn_sb_id h, zn_up_self]
  rw [e]
  unfold zn_ly
  rw [zn_sb_id h2, zn_up_self]
/-- the machine's operations on such numbers -/
theorem zn_c16 {c : Int} (h0 : 0 ≤ c) (h1 : c ≤ 15) : c = 0 ∨ c = 1 ∨ c = 2 ∨ c = 3 ∨ c = 4 ∨ c = 5 ∨ c = 6 ∨ c = 7 ∨ c = 8 ∨ c = 9 ∨ c = 10 ∨ c = 11 ∨ c = 12 ∨ c = 13 ∨ c = 14 ∨ c = 15 := by omega
theorem zn_xor_ok : ∀ c : Nat, c < 16 → ∀ b : Nat, b < 4 → zq_fun 0 7 (c : Int) (zq_fun 0 8 1 (b : Int)) = zn_sb (c : Int) (b : Int) (1 - zn_bt (c : Int) (b : Int)) := by decide +kernel
theorem zn_or_ok : ∀ c : Nat, c < 16 → ∀ b : Nat, b < 4 → ∀ i : Nat, i < 2 → zq_fun 0 6 (zq_fun 0 5 (c : Int) (zq_fun 0 7 (zq_fun 0 8 1 (b : Int)) (-1))) (zq_fun 0 8 (i : Int) (b : Int)) = zn_sb (c : Int) (b : Int) (i : Int) := by decide +kernel
theorem zn_xor {c b : Int} (c0 : 0 ≤ c) (c1 : c ≤ 15) (b0 : 0 ≤ b) (b1 : b ≤ 3) : zq_fun 0 7 c (zq_fun 0 8 1 b) = zn_sb c b (1 - zn_bt c b) := by
  have := zn_xor_ok c.toNat (by omega) b.toNat (by omega)
  rw [Int.toNat_of_nonneg c0, Int.toNat_of_nonneg b0] at this
  exact this
theorem zn_or {c b i : Int} (c0 : 0 ≤ c) (c1 : c ≤ 15) (b0 : 0 ≤ b) (b1 : b ≤ 3) (i0 : 0 ≤ i) (i1 : i ≤ 1) : zq_fun 0 6 (zq_fun 0 5 c (zq_fun 0 7 (zq_fun 0 8 1 b) (-1))) (zq_fun 0 8 i b) = zn_sb c b i := by
  have := zn_or_ok c.toNat (by omega) b.toNat (by omega) i.toNat (by omega)
  rw [Int.toNat_of_nonneg c0, Int.toNat_of_nonneg b0, Int.toNat_of_nonneg i0] at this
  exact this
theorem zn_shr {c k q b : Int} (h1 : q = zq_fun 0 9 c k) (h2 : b = zq_fun 0 5 q 1) : b = zn_bt c k := by
  have e : zq_and 0 q 1 = q % 2 := zq_and_mask (t := 0) (a := q) (k := 1) (by decide)
  rw [h2]
  show zq_and 0 q 1 = _
  rw [e, h1]; rfl
/-! TOKENS -/
noncomputable def zn_RA (k : Nat) (a E : Int) (P : zq_Ty) (h : zq_H) : Prop := zn_on a (k + 5) P ∧ zn_rd (h a.toNat) E
noncomputable def zn_RH (k : Nat) (a E x y : Int) (P : zq_Ty) (h : zq_H) : Prop := zn_on a (k + 5) P ∧ zn_nb E ∧ ∀ i, 0 ≤ i → i < 4 → i ≠ x → i ≠ y → h a.toNat i = zn_dg E i
noncomputable def zn_KR (k : Nat) (o : Int) (a E : Int) (P : zq_Ty) (h : zq_H) : Prop := zn_on a k P ∧ zn_rd (fun i => h a.toNat (o + 17 + i)) E
noncomputable def zn_KH (a E x : Int) (P : zq_Ty) (h : zq_H) : Prop := zn_on a 1 P ∧ zn_nb E ∧ ∀ i, 0 ≤ i → i < 4 → i ≠ x → h a.toNat (17 + i) = zn_dg E i
noncomputable def zn_SY (E : Int) (_ : zq_Ty) (_ : zq_H) : Prop := zn_sy E
noncomputable def zn_ST (E a b is F : Int) (_ : zq_Ty) (_ : zq_H) : Prop := F = zn_st E a b is
noncomputable def zn_LY (E f t is F : Int) (_ : zq_Ty) (_ : zq_H) : Prop := F = zn_ly E f t is
noncomputable def zn_BI (c k b : Int) (_ : zq_Ty) (_ : zq_H) : Prop := b = zn_bt c k
noncomputable def zn_BT (E a b v : Int) (_ : zq_Ty) (_ : zq_H) : Prop := v = zn_bt (zn_dg E a) b
theorem zn_rd_cong {f g : Int → Int} {E : Int} (h : ∀ i, 0 ≤ i → i < 4 → g i = f i) (z : zn_rd f E) : zn_rd g E := ⟨z.1, fun i x y => (h i x y).trans (z.2 i x y)⟩
section ZNRFX
variable {P P' : zq_Ty} {h h' : zq_H}
theorem zn_RA_fx {k : Nat} {a E : Int} (hP : zq_le P P') (h1 : ∀ j, 0 ≤ j → j ≤ 3 → P a.toNat = some (k + 5) → h' a.toNat j = h a.toNat j) (z : zn_RA k a E P h) : zn_RA k a E P' h' := ⟨zn_on_le hP z.1, zn_rd_cong (fun i x y => h1 i x (by omega) z.1.2) z.2⟩
theorem zn_RH_fx {k : Nat} {a E x y : Int} (hP : zq_le P P') (h1 : ∀ j, 0 ≤ j → j ≤ x - 1 → P a.toNat = some (k + 5) → h' a.toNat j = h a.toNat j) (h2 : ∀ j, x + 1 ≤ j → j ≤ y - 1 → P a.toNat = some (k + 5) → h' a.toNat j = h a.toNat j) (h3 : ∀ j, y + 1 ≤ j → j ≤ 3 → P a.toNat = some (k + 5) → h' a.toNat j = h a.toNat j) (z : zn_RH k a E x y P h) : zn_RH k a E x y P' h' := by
  obtain ⟨a1, a2, a3⟩ := z
  refine ⟨zn_on_le hP a1, a2, fun i p q r s => ?_⟩
  rw [← a3 i p q r s]
  by_cases c1 : i < x
  · exact h1 i p (by omega) a1.2
  · by_cases c2 : i < y
    · exact h2 i (by omega) (by omega) a1.2
    · exact h3 i (by omega) (by omega) a1.2
theorem zn_KR_fx {k : Nat} {o a E : Int} (hP : zq_le P P') (h1 : ∀ j, o + 17 ≤ j → j ≤ o + 20 → P a.toNat = some k → h' a.toNat j = h a.toNat j) (z : zn_KR k o a E P h) : zn_KR k o a E P' h' := ⟨zn_on_le hP z.1, zn_rd_cong (fun i x y => h1 _ (by omega) (by omega) z.1.2) z.2⟩
theorem zn_KH_fx {a E x : Int} (hP : zq_le P P') (h1 : ∀ j, 17 ≤ j → j ≤ 16 + x → P a.toNat = some 1 → h' a.toNat j = h a.toNat j) (h2 : ∀ j, 18 + x ≤ j → j ≤ 20 → P a.toNat = some 1 → h' a.toNat j = h a.toNat j) (z : zn_KH a E x P h) : zn_KH a E x P' h' := by
  obtain ⟨a1, a2, a3⟩ := z
  refine ⟨zn_on_le hP a1, a2, fun i p q r => ?_⟩
  rw [← a3 i p q r]
  by_cases c1 : i < x
  · exact h1 _ (by omega) (by omega) a1.2
  · exact h2 _ (by omega) (by omega) a1.2
end ZNRFX
