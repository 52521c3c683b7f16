/-! NUMBERS AS ROWS OF NUMBERS: the i-th of g (by 2^32, each 2^31 less) -/
noncomputable def zn_P (i : Int) : Int := 4294967296 ^ i.toNat
noncomputable def zn_dg (g i : Int) : Int := g / zn_P i % 4294967296 - 2147483648
noncomputable def zn_up (g i v : Int) : Int := g + (v - zn_dg g i) * zn_P i
noncomputable def zn_in (v : Int) : Prop := -2147483648 ≤ v ∧ v < 2147483648
theorem zn_P_pos (i : Int) : 0 < zn_P i := Int.pow_pos (by decide)
theorem zn_P_add {i j : Int} (hi : 0 ≤ i) (hij : i < j) : ∃ m : Int, 0 < m ∧ zn_P j = zn_P i * (4294967296 * m) := by
  refine ⟨4294967296 ^ (j.toNat - i.toNat - 1), Int.pow_pos (by decide), ?_⟩
  unfold zn_P
  rw [← Int.pow_succ', ← Int.pow_add]
  congr 1; omega
theorem zn_dg_in (g i : Int) : zn_in (zn_dg g i) := by
  unfold zn_in zn_dg
  omega
theorem zn_up_same {g i v : Int} (h : zn_in v) : zn_dg (zn_up g i v) i = v := by
  unfold zn_in at h
  have hp : zn_P i ≠ 0 := by have := zn_P_pos i; omega
  have e : zn_up g i v / zn_P i = g / zn_P i + (v - zn_dg g i) := by
    unfold zn_up
    rw [Int.add_mul_ediv_right _ _ hp]
  show zn_up g i v / zn_P i % 4294967296 - 2147483648 = v
  rw [e]
  unfold zn_dg
  omega
theorem zn_up_ne {g i j v : Int} (hi : 0 ≤ i) (hj : 0 ≤ j) (hij : i ≠ j) (h : zn_in v) : zn_dg (zn_up g i v) j = zn_dg g j := by
  unfold zn_in at h
  rcases Int.lt_or_gt_of_ne hij with q | q
  · -- a later one
    obtain ⟨m, hm, e⟩ := zn_P_add hi q
    have hp := zn_P_pos i
    have e1 : ∀ x : Int, x / zn_P j = x / zn_P i / 4294967296 / m := by
      intro x
      rw [e, Int.ediv_ediv_of_nonneg (by omega), Int.ediv_ediv_of_nonneg (by omega)]
    have e2 : zn_up g i v / zn_P i = g / zn_P i + (v - zn_dg g i) := by
      unfold zn_up
      rw [Int.add_mul_ediv_right _ _ (by omega)]
    have e3 : zn_up g i v / zn_P i / 4294967296 = g / zn_P i / 4294967296 := by
      rw [e2]
      unfold zn_dg
      omega
    unfold zn_dg
    rw [e1, e1, e3]
  · -- an earlier one
    obtain ⟨m, hm, e⟩ := zn_P_add hj q
    have hp := zn_P_pos j
    have e2 : zn_up g i v = g + ((v - zn_dg g i) * m * 4294967296) * zn_P j := by
      have e3 : zn_P j * (4294967296 * m) = m * 4294967296 * zn_P j := by rw [Int.mul_comm 4294967296 m, Int.mul_comm]
      unfold zn_up
      rw [e, e3, Int.mul_assoc (v - zn_dg g i) m 4294967296, Int.mul_assoc (v - zn_dg g i) (m * 4294967296) (zn_P j)]
    unfold zn_dg
    rw [e2, Int.add_mul_ediv_right _ _ (by omega), Int.add_mul_emod_self_right]
theorem zn_up_self {g i : Int} : zn_up g i (zn_dg g i) = g := by
  unfold zn_up
  rw [Int.sub_self, Int.zero_mul, Int.add_zero]
theorem zn_up_up {g i v w : Int} (h : zn_in v) : zn_up (zn_up g i v) i w = zn_up g i w := by
  have e : zn_up (zn_up g i v) i w = zn_up g i v + (w - v) * zn_P i := by
    show zn_up g i v + (w - zn_dg (zn_up g i v) i) * zn_P i = _
    rw [zn_up_same h]
  rw [e]
  unfold zn_up
  rw [Int.add_assoc, ← Int.add_mul]
  congr 2; omega
theorem zn_up_comm {g i j v w : Int} (hi : 0 ≤ i) (hj : 0 ≤ j) (hij : i ≠ j) (hv : zn_in v) (hw : zn_in w) : zn_up (zn_up g i v) j w = zn_up (zn_up g j w) i v := by
  have e1 : zn_up (zn_up g i v) j w = g + (v - zn_dg g i) * zn_P i + (w - zn_dg g j) * zn_P j := by
    show zn_up g i v + (w - zn_dg (zn_up g i v) j) * zn_P j = _
    rw [zn_up_ne hi hj hij hv]; rfl
  have e2 : zn_up (zn_up g j w) i v = g + (w - zn_dg g j) * zn_P j + (v - zn_dg g i) * zn_P i := by
    show zn_up g j w + (v - zn_dg (zn_up g j w) i) * zn_P i = _
    rw [zn_up_ne hj hi (fun z => hij z.symm) hw]; rfl
  rw [e1, e2, Int.add_right_comm]
/-! WHAT A LAND HOLDS of people, deeds, sights, as one number: signs 0 to 5, kinds 6 to 11, worths 12 to 17, sights 18 to 41 -/
noncomputable def zn_cn (sg kn wt si : Int → Int) (p d s S : Int) : Prop := (0 ≤ p ∧ p ≤ 6 ∧ 0 ≤ d ∧ d ≤ 6 ∧ 0 ≤ s ∧ s ≤ 6) ∧ (∀ i, 0 ≤ i → i < p → sg i = zn_dg S i) ∧ (∀ i, 0 ≤ i → i < d → kn i = zn_dg S (6 + i)) ∧ (∀ i, 0 ≤ i → i < d → wt i = zn_dg S (12 + i)) ∧ ∀ i, 0 ≤ i → i < 4 * s → si i = zn_dg S (18 + i)
theorem zn_cn_cong {sg kn wt si sg' kn' wt' si' : Int → Int} {p d s S : Int} (h1 : ∀ i, 0 ≤ i → i < p → sg' i = sg i) (h2 : ∀ i, 0 ≤ i → i < d → kn' i = kn i) (h3 : ∀ i, 0 ≤ i → i < d → wt' i = wt i) (h4 : ∀ i, 0 ≤ i → i < 4 * s → si' i = si i) (h : zn_cn sg kn wt si p d s S) : zn_cn sg' kn' wt' si' p d s S := by
  obtain ⟨c, a1, a2, a3, a4⟩ := h
  exact ⟨c, fun i x y => (h1 i x y).trans (a1 i x y), fun i x y => (h2 i x y).trans (a2 i x y), fun i x y => (h3 i x y).trans (a3 i x y), fun i x y => (h4 i x y).trans (a4 i x y)⟩
theorem zn_cn_0 {sg kn wt si : Int → Int} {S : Int} : zn_cn sg kn wt si 0 0 0 S := ⟨by omega, fun i x y => by omega, fun i x y => by omega, fun i x y => by omega, fun i x y => by omega⟩
noncomputable def zn_pe (S p v : Int) : Int := zn_up S p v
noncomputable def zn_de (S d a b : Int) : Int := zn_up (zn_up S (6 + d) a) (12 + d) b
noncomputable def zn_sg (S s x y z w : Int) : Int := zn_up (zn_up (zn_up (zn_up S (18 + 4 * s) x) (19 + 4 * s) y) (20 + 4 * s) z) (21 + 4 * s) w
theorem zn_cn_pe {sg kn wt si : Int → Int} {p d s S v : Int} (h : zn_cn sg kn wt si p d s S) (hp : p ≤ 5) (hv : zn_in v) (e : sg p = v) : zn_cn sg kn wt si (p + 1) d s (zn_pe S p v) := by
  obtain ⟨c, a1, a2, a3, a4⟩ := h
  refine ⟨by omega, fun i x y => ?_, fun i x y => ?_, fun i x y => ?_, fun i x y => ?_⟩
  · by_cases hi : i = p
    · rw [hi, e]; exact (zn_up_same hv).symm
    · rw [a1 i x (by omega)]; exact (zn_up_ne (by omega) (by omega) (by omega) hv).symm
  · rw [a2 i x y]; exact (zn_up_ne (by omega) (by omega) (by omega) hv).symm
  · rw [a3 i x y]; exact (zn_up_ne (by omega) (by omega) (by omega) hv).symm
  · rw [a4 i x y]; exact (zn_up_ne (by omega) (by omega) (by omega) hv).symm
theorem zn_cn_de {sg kn wt si : Int → Int} {p d s S a b : Int} (h : zn_cn sg kn wt si p d s S) (hd : d ≤ 5) (ha : zn_in a) (hb : zn_in b) (e1 : kn d = a) (e2 : wt d = b) : zn_cn sg kn wt si p (d + 1) s (zn_de S d a b) := by
  obtain ⟨c, a1, a2, a3, a4⟩ := h
  have u : ∀ i, 0 ≤ i → i ≠ 6 + d → i ≠ 12 + d → zn_dg (zn_de S d a b) i = zn_dg S i := by
    intro i x y z
    unfold zn_de
    rw [zn_up_ne (by omega) (by omega) (by omega) hb, zn_up_ne (by omega) (by omega) (by omega) ha]
  refine ⟨by omega, fun i x y => ?_, fun i x y => ?_, fun i x y => ?_, fun i x y => ?_⟩
  · rw [u i (by omega) (by omega) (by omega)]; exact a1 i x y
  · by_cases hi : i = d
    · rw [hi, e1]
      unfold zn_de
      rw [zn_up_ne (by omega) (by omega) (by omega) hb, zn_up_same ha]
    · rw [u (6 + i) (by omega) (by omega) (by omega)]; exact a2 i x (by omega)
  · by_cases hi : i = d
    · rw [hi, e2]
      unfold zn_de
      rw [zn_up_same hb]
    · rw [u (12 + i) (by omega) (by omega) (by omega)]; exact a3 i x (by omega)
  · rw [u (18 + i) (by omega) (by omega) (by omega)]; exact a4 i x y
theorem zn_cn_sg {sg kn wt si : Int → Int} {p d s S x y z w : Int} (h : zn_cn sg kn wt si p d s S) (hs : s ≤ 5) (hx : zn_in x) (hy : zn_in y) (hz : zn_in z) (hw : zn_in w) (e1 : si (4 * s) = x) (e2 : si (4 * s + 1) = y) (e3 : si (4 * s + 2) = z) (e4 : si (4 * s + 3) = w) : zn_cn sg kn wt si p d (s + 1) (zn_sg S s x y z w) := by
  obtain ⟨c, a1, a2, a3, a4⟩ := h
  have u : ∀ i, 0 ≤ i → i < 18 + 4 * s ∨ 21 + 4 * s < i → zn_dg (zn_sg S s x y z w) i = zn_dg S i := by
    intro i q1 q2
    unfold zn_sg
    rw [zn_up_ne (by omega) (by omega) (by omega) hw, zn_up_ne (by omega) (by omega) (by omega) hz, zn_up_ne (by omega) (by omega) (by omega) hy, zn_up_ne (by omega) (by omega) (by omega) hx]
  refine ⟨by omega, fun i q r => ?_, fun i q r => ?_, fun i q r => ?_, fun i q r => ?_⟩
  · rw [u i (by omega) (by omega)]; exact a1 i q r
  · rw [u (6 + i) (by omega) (by omega)]; exact a2 i q r
  · rw [u (12 + i) (by omega) (by omega)]; exact a3 i q r
  · by_cases h0 : i < 4 * s
    · rw [u (18 + i) (by omega) (by omega)]; exact a4 i q h0
    by_cases h1 : i = 4 * s
    · rw [h1, e1]
      unfold zn_sg
      rw [zn_up_ne (by omega) (by omega) (by omega) hw, zn_up_ne (by omega) (by omega) (by omega) hz, zn_up_ne (by omega) (by omega) (by omega) hy, zn_up_same hx]
    by_cases h2 : i = 4 * s + 1
    · rw [h2, e2]
      unfold zn_sg
      rw [show 18 + (4 * s + 1) = 19 + 4 * s by omega, zn_up_ne (by omega) (by omega) (by omega) hw, zn_up_ne (by omega) (by omega) (by omega) hz, zn_up_same hy]
    by_cases h3 : i = 4 * s + 2
    · rw [h3, e3]
      unfold zn_sg
      rw [show 18 + (4 * s + 2) = 20 + 4 * s by omega, zn_up_ne (by omega) (by omega) (by omega) hw, zn_up_same hz]
    · have h4 : i = 4 * s + 3 := by omega
      rw [h4, e4]
      unfold zn_sg
      rw [show 18 + (4 * s + 3) = 21 + 4 * s by omega, zn_up_same hw]
theorem zn_cn_le {sg kn wt si : Int → Int} {p d s t S : Int} (h : zn_cn sg kn wt si p d s S) (h0 : 0 ≤ t) (h1 : t ≤ s) : zn_cn sg kn wt si p d t S := by
  obtain ⟨c, a1, a2, a3, a4⟩ := h
  exact ⟨by omega, a1, a2, a3, fun i x y => a4 i x (by omega)⟩
/-! TOKENS -/
noncomputable def zn_on (a : Int) (k : Nat) (P : zq_Ty) : Prop := 0 ≤ a ∧ P a.toNat = some k
noncomputable def zn_LA (k : Nat) (sg kn wt si p d s S : Int) (P : zq_Ty) (h : zq_H) : Prop := zn_on sg k P ∧ zn_on kn (k + 2) P ∧ zn_on wt (k + 3) P ∧ zn_on si (k + 6) P ∧ zn_cn (h sg.toNat) (h kn.toNat) (h wt.toNat) (h si.toNat) p d s S
noncomputable def zn_KA (k : Nat) (o : Int) (a p d s S : Int) (P : zq_Ty) (h : zq_H) : Prop := zn_on a k P ∧ zn_cn (fun i => h a.toNat (o + 11 + i)) (fun i => h a.toNat (o + 21 + i)) (fun i => h a.toNat (o + 27 + i)) (fun i => h a.toNat (o + 33 + i)) p d s S
noncomputable def zn_PE (S p v T : Int) (_ : zq_Ty) (_ : zq_H) : Prop := T = zn_pe S p v
noncomputable def zn_DE (S d a b T : Int) (_ : zq_Ty) (_ : zq_H) : Prop := T = zn_de S d a b
noncomputable def zn_SI (S s x y z w T : Int) (_ : zq_Ty) (_ : zq_H) : Prop := T = zn_sg S s x y z w
noncomputable def zn_DG (S i v : Int) (_ : zq_Ty) (_ : zq_H) : Prop := v = zn_dg S i
/-- deeds that a row brings: how many, and the number then -/
noncomputable def zn_rS (f : Int → Int) (n d S : Int) : Nat → Int
  | 0 => S
  | q + 1 => if zt_ad f n d (zt_rc f n d q) q = 1 then zn_de (zn_rS f n d S q) (d + zt_rc f n d q) (f (2 * q) % 256) (f (2 * q + 1) % 256) else zn_rS f n d S q
noncomputable def zn_RS (k : Nat) (b n d i c S T : Int) (P : zq_Ty) (h : zq_H) : Prop := 0 ≤ b ∧ P b.toNat = some k ∧ 0 ≤ n ∧ n ≤ 400 ∧ 0 ≤ i ∧ i % 2 = 0 ∧ c = zt_rc (h b.toNat) n d (i / 2).toNat ∧ T = zn_rS (h b.toNat) n d S (i / 2).toNat
noncomputable def zn_RT (k : Nat) (b n d S c T : Int) (P : zq_Ty) (h : zq_H) : Prop := 0 ≤ b ∧ P b.toNat = some k ∧ 0 ≤ n ∧ n ≤ 400 ∧ c = zt_rc (h b.toNat) n d 200 ∧ T = zn_rS (h b.toNat) n d S 200
theorem zn_rS_cong {f g : Int → Int} {n d S : Int} (hj : ∀ j : Int, 0 ≤ j → j < n → g j % 256 = f j % 256) : ∀ q : Nat, zn_rS g n d S q = zn_rS f n d S q
  | 0 => rfl
  | q + 1 => by
    unfold zn_rS
    rw [zn_rS_cong hj q, zt_rc_cong hj q, zt_ad_cong hj (by omega)]
    by_cases c : zt_ad f n d (zt_rc f n d q) q = 1
    · rw [if_pos c, if_pos c]
      have h1 : 2 * (q : Int) + 1 < n := by
        unfold zt_ad at c
        by_cases z : 2 * (q : Int) + 1 < n ∧ d + zt_rc f n d q < 6 ∧ f (2 * q) % 256 ≤ 3 ∧ 1 ≤ f (2 * q + 1) % 256 ∧ f (2 * q + 1) % 256 ≤ 9
        · exact z.1
        · rw [if_neg z] at c; omega
      rw [hj (2 * q) (by omega) (by omega), hj (2 * q + 1) (by omega) h1]
    · rw [if_neg c, if_neg c]
theorem zn_rS_st {f : Int → Int} {n d S : Int} {q : Nat} (hn : n ≤ 2 * (q : Int) + 1) : ∀ m : Nat, zn_rS f n d S (q + m) = zn_rS f n d S q
  | 0 => rfl
  | m + 1 => by
    have e : zt_ad f n d (zt_rc f n d (q + m)) ((q + m : Nat) : Int) = 0 := by
      unfold zt_ad
      rw [if_neg (fun z => by have := z.1; omega)]
    show (if zt_ad f n d (zt_rc f n d (q + m)) ((q + m : Nat) : Int) = 1 then _ else zn_rS f n d S (q + m)) = _
    rw [e, if_neg (by omega), zn_rS_st hn m]
section ZNFX
variable {P P' : zq_Ty} {h h' : zq_H}
theorem zn_on_le {a : Int} {k : Nat} (hP : zq_le P P') (z : zn_on a k P) : zn_on a k P' := ⟨z.1, hP _ _ z.2⟩
theorem zn_LA_fx {k : Nat} {sg kn wt si p d s S : Int} (hP : zq_le P P') (h1 : ∀ j, 0 ≤ j → j < p → P sg.toNat = some k → h' sg.toNat j = h sg.toNat j) (h2 : ∀ j, 0 ≤ j → j < d → P kn.toNat = some (k + 2) → h' kn.toNat j = h kn.toNat j) (h3 : ∀ j, 0 ≤ j → j < d → P wt.toNat = some (k + 3) → h' wt.toNat j = h wt.toNat j) (h4 : ∀ j, 0 ≤ j → j < 4 * s → P si.toNat = some (k + 6) → h' si.toNat j = h si.toNat j) (z : zn_LA k sg kn wt si p d s S P h) : zn_LA k sg kn wt si p d s S P' h' := by
  obtain ⟨a1, a2, a3, a4, c⟩ := z
  exact ⟨zn_on_le hP a1, zn_on_le hP a2, zn_on_le hP a3, zn_on_le hP a4, zn_cn_cong (fun i x y => h1 i x y a1.2) (fun i x y => h2 i x y a2.2) (fun i x y => h3 i x y a3.2) (fun i x y => h4 i x y a4.2) c⟩
theorem zn_LA_b {k : Nat} {sg kn wt si p d s S : Int} (z : zn_LA k sg kn wt si p d s S P h) : p ≤ 6 ∧ d ≤ 6 ∧ s ≤ 6 := ⟨z.2.2.2.2.1.2.1, z.2.2.2.2.1.2.2.2.1, z.2.2.2.2.1.2.2.2.2.2⟩
theorem zn_KA_fx {k : Nat} {o a p d s S : Int} (hP : zq_le P P') (h1 : ∀ j, o + 11 ≤ j → j ≤ o + 10 + p → P a.toNat = some k → h' a.toNat j = h a.toNat j) (h2 : ∀ j, o + 21 ≤ j → j ≤ o + 20 + d → P a.toNat = some k → h' a.toNat j = h a.toNat j) (h3 : ∀ j, o + 27 ≤ j → j ≤ o + 26 + d → P a.toNat = some k → h' a.toNat j = h a.toNat j) (h4 : ∀ j, o + 33 ≤ j → j ≤ o + 32 + 4 * s → P a.toNat = some k → h' a.toNat j = h a.toNat j) (z : zn_KA k o a p d s S P h) : zn_KA k o a p d s S P' h' := by
  obtain ⟨a1, c⟩ := z
  exact ⟨zn_on_le hP a1, zn_cn_cong (fun i x y => h1 _ (by omega) (by omega) a1.2) (fun i x y => h2 _ (by omega) (by omega) a1.2) (fun i x y => h3 _ (by omega) (by omega) a1.2) (fun i x y => h4 _ (by omega) (by omega) a1.2) c⟩
theorem zn_KA_b {k : Nat} {o a p d s S : Int} (z : zn_KA k o a p d s S P h) : p ≤ 6 ∧ d ≤ 6 ∧ s ≤ 6 := ⟨z.2.1.2.1, z.2.1.2.2.2.1, z.2.1.2.2.2.2.2⟩
theorem zn_RS_fx {k : Nat} {b n d i c S T : Int} (hP : zq_le P P') (h1 : ∀ j, 0 ≤ j → j < n → P b.toNat = some k → h' b.toNat j = h b.toNat j) (z : zn_RS k b n d i c S T P h) : zn_RS k b n d i c S T P' h' := by
  obtain ⟨a1, a2, a3, a4, a5, a6, a7, a8⟩ := z
  have e : ∀ j : Int, 0 ≤ j → j < n → h' b.toNat j % 256 = h b.toNat j % 256 := fun j x y => by rw [h1 j x y a2]
  refine ⟨a1, hP _ _ a2, a3, a4, a5, a6, ?_, ?_⟩
  · rw [zt_rc_cong (f := h b.toNat) e]; exact a7
  · rw [zn_rS_cong (f := h b.toNat) e]; exact a8
theorem zn_RT_fx {k : Nat} {b n d S c T : Int} (hP : zq_le P P') (h1 : ∀ j, 0 ≤ j → j < n → P b.toNat = some k → h' b.toNat j = h b.toNat j) (z : zn_RT k b n d S c T P h) : zn_RT k b n d S c T P' h' := by
  obtain ⟨a1, a2, a3, a4, a7, a8⟩ := z
  have e : ∀ j : Int, 0 ≤ j → j < n → h' b.toNat j % 256 = h b.toNat j % 256 := fun j x y => by rw [h1 j x y a2]
  refine ⟨a1, hP _ _ a2, a3, a4, ?_, ?_⟩
  · rw [zt_rc_cong (f := h b.toNat) e]; exact a7
  · rw [zn_rS_cong (f := h b.toNat) e]; exact a8
end ZNFX
