/-! SIGHTS: of deeds that there are -/
noncomputable def zs_SV (S d s : Int) (_ : zq_Ty) (_ : zq_H) : Prop := 0 ≤ d ∧ ∀ i : Int, 0 ≤ i → i < s → 0 ≤ zn_dg S (19 + 4 * i) ∧ zn_dg S (19 + 4 * i) < d
theorem zs_up {S j v i : Int} (hj : 0 ≤ j) (h : j < 18) (hi : 0 ≤ i) (hv : zn_in v) : zn_dg (zn_up S j v) (19 + 4 * i) = zn_dg S (19 + 4 * i) := zn_up_ne hj (by omega) (by omega) hv
theorem zs_SV_p {S p v d s : Int} {P : zq_Ty} {h : zq_H} (k : zs_SV S d s P h) (h0 : 0 ≤ p) (h1 : p ≤ 5) (hv : zn_in v) : zs_SV (zn_pe S p v) d s P h := by
  refine ⟨k.1, fun i i0 i1 => ?_⟩
  unfold zn_pe
  rw [zs_up h0 (by omega) i0 hv]
  exact k.2 i i0 i1
theorem zs_de {S d a b i : Int} (h0 : 0 ≤ d) (h1 : d ≤ 5) (hi : 0 ≤ i) (ha : zn_in a) (hb : zn_in b) : zn_dg (zn_de S d a b) (19 + 4 * i) = zn_dg S (19 + 4 * i) := by
  unfold zn_de
  rw [zs_up (by omega) (by omega) hi hb, zs_up (by omega) (by omega) hi ha]
theorem zs_SV_d {S d a b e s : Int} {P : zq_Ty} {h : zq_H} (k : zs_SV S e s P h) (h0 : 0 ≤ d) (h1 : d ≤ 5) (ha : zn_in a) (hb : zn_in b) (he : e ≤ d + 1) : zs_SV (zn_de S d a b) (d + 1) s P h := by
  refine ⟨by omega, fun i i0 i1 => ?_⟩
  rw [zs_de h0 h1 i0 ha hb]
  have := k.2 i i0 i1
  omega
theorem zs_SV_s {S s x y z w d : Int} {P : zq_Ty} {h : zq_H} (k : zs_SV S d s P h) (h0 : 0 ≤ s) (y0 : 0 ≤ y) (y1 : y < d) (hx : zn_in x) (hy : zn_in y) (hz : zn_in z) (hw : zn_in w) : zs_SV (zn_sg S s x y z w) d (s + 1) P h := by
  refine ⟨k.1, fun i i0 i1 => ?_⟩
  unfold zn_sg
  rw [zn_up_ne (by omega) (by omega) (by omega) hw, zn_up_ne (by omega) (by omega) (by omega) hz]
  by_cases e : i = s
  · rw [e, zn_up_same hy]; exact ⟨y0, y1⟩
  · rw [zn_up_ne (by omega) (by omega) (by omega) hy, zn_up_ne (by omega) (by omega) (by omega) hx]
    exact k.2 i i0 (by omega)
theorem zs_rc (f : Int → Int) (n d : Int) : ∀ q : Nat, 0 ≤ zt_rc f n d q
  | 0 => Int.le_refl 0
  | q + 1 => by
    have h := zs_rc f n d q
    show 0 ≤ zt_rc f n d q + zt_ad f n d (zt_rc f n d q) q
    have : 0 ≤ zt_ad f n d (zt_rc f n d q) q := by
      unfold zt_ad
      split <;> omega
    omega
theorem zs_rS {f : Int → Int} {n d S i : Int} (hd : 0 ≤ d) (hi : 0 ≤ i) : ∀ q : Nat, zn_dg (zn_rS f n d S q) (19 + 4 * i) = zn_dg S (19 + 4 * i)
  | 0 => rfl
  | q + 1 => by
    have h := zs_rS (f := f) (n := n) (S := S) hd hi q
    have h0 := zs_rc f n d q
    show zn_dg (if zt_ad f n d (zt_rc f n d q) q = 1 then zn_de (zn_rS f n d S q) (d + zt_rc f n d q) (f (2 * q) % 256) (f (2 * q + 1) % 256) else zn_rS f n d S q) (19 + 4 * i) = _
    by_cases c : zt_ad f n d (zt_rc f n d q) q = 1
    · rw [if_pos c]
      have hc : d + zt_rc f n d q < 6 := by
        unfold zt_ad at c
        by_cases z : 2 * (q : Int) + 1 < n ∧ d + zt_rc f n d q < 6 ∧ f (2 * q) % 256 ≤ 3 ∧ 1 ≤ f (2 * q + 1) % 256 ∧ f (2 * q + 1) % 256 ≤ 9
        · exact z.2.1
        · rw [if_neg z] at c; omega
      rw [zs_de (by omega) (by omega) hi (by unfold zn_in; omega) (by unfold zn_in; omega)]
      exact h
    · rw [if_neg c]; exact h
theorem zs_SV_r {k' : Nat} {b n d S c T s : Int} {P : zq_Ty} {h : zq_H} (k : zs_SV S d s P h) (r : zn_RT k' b n d S c T P h) : zs_SV T (d + c) s P h := by
  obtain ⟨_, _, _, _, r5, r6⟩ := r
  have hc := zs_rc (h b.toNat) n d 200
  refine ⟨by have := k.1; omega, fun i i0 i1 => ?_⟩
  rw [r6, zs_rS k.1 i0]
  have := k.2 i i0 i1
  omega
