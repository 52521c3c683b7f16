/-! TOKENS of the tapes: their bytes as one number (zt_TC: 0 bytes, 1 how many, 2 the number); what a row of deeds brings (zt_RW: 0 bytes, 1 how many, 2 deeds ahead, 3 how far, 4 how many came; zt_RE: at its end) -/
noncomputable def zt_cd (f : Int → Int) : Nat → Int
  | 0 => 0
  | n + 1 => 256 * zt_cd f n + f n % 256
noncomputable def zt_TC (k : Nat) (r : Nat → Int) (P : zq_Ty) (h : zq_H) : Prop := 0 ≤ r 0 ∧ P (r 0).toNat = some k ∧ 0 ≤ r 1 ∧ r 1 ≤ 400 ∧ r 2 = zt_cd (h (r 0).toNat) (r 1).toNat
noncomputable def zt_ad (f : Int → Int) (n d c q : Int) : Int := if 2 * q + 1 < n ∧ d + c < 6 ∧ f (2 * q) % 256 ≤ 3 ∧ 1 ≤ f (2 * q + 1) % 256 ∧ f (2 * q + 1) % 256 ≤ 9 then 1 else 0
noncomputable def zt_rc (f : Int → Int) (n d : Int) : Nat → Int
  | 0 => 0
  | q + 1 => zt_rc f n d q + zt_ad f n d (zt_rc f n d q) q
noncomputable def zt_RW (k : Nat) (r : Nat → Int) (P : zq_Ty) (h : zq_H) : Prop := 0 ≤ r 0 ∧ P (r 0).toNat = some k ∧ 0 ≤ r 1 ∧ r 1 ≤ 400 ∧ 0 ≤ r 3 ∧ r 3 % 2 = 0 ∧ r 4 = zt_rc (h (r 0).toNat) (r 1) (r 2) (r 3 / 2).toNat
noncomputable def zt_RE (k : Nat) (r : Nat → Int) (P : zq_Ty) (h : zq_H) : Prop := 0 ≤ r 0 ∧ P (r 0).toNat = some k ∧ 0 ≤ r 1 ∧ r 1 ≤ 400 ∧ r 3 = zt_rc (h (r 0).toNat) (r 1) (r 2) 200
theorem zt_cd_cong {f g : Int → Int} : ∀ {n : Nat}, (∀ j : Int, 0 ≤ j → j < n → g j % 256 = f j % 256) → zt_cd g n = zt_cd f n
  | 0, _ => rfl
  | n + 1, h => by
    unfold zt_cd
    rw [h n (by omega) (by omega), zt_cd_cong (fun j a b => h j a (by omega))]
theorem zt_cd_inj {f g : Int → Int} : ∀ {n : Nat}, zt_cd f n = zt_cd g n → ∀ j : Int, 0 ≤ j → j < n → f j % 256 = g j % 256
  | 0, _, j, a, b => by omega
  | n + 1, h, j, a, b => by
    unfold zt_cd at h
    have x1 := Int.emod_nonneg (f n) (show (256 : Int) ≠ 0 by decide)
    have x2 := Int.emod_lt_of_pos (f n) (show (0 : Int) < 256 by decide)
    have y1 := Int.emod_nonneg (g n) (show (256 : Int) ≠ 0 by decide)
    have y2 := Int.emod_lt_of_pos (g n) (show (0 : Int) < 256 by decide)
    by_cases hj : j < n
    · exact zt_cd_inj (n := n) (by omega) j a hj
    · have e : j = (n : Int) := by omega
      rw [e]
      omega
theorem zt_ad_cong {f g : Int → Int} {n d c q : Int} (hj : ∀ j : Int, 0 ≤ j → j < n → g j % 256 = f j % 256) (hq : 0 ≤ q) : zt_ad g n d c q = zt_ad f n d c q := by
  unfold zt_ad
  by_cases h : 2 * q + 1 < n
  · rw [hj (2 * q) (by omega) (by omega), hj (2 * q + 1) (by omega) h]
  · rw [if_neg (fun z => h z.1), if_neg (fun z => h z.1)]
theorem zt_rc_cong {f g : Int → Int} {n d : Int} (hj : ∀ j : Int, 0 ≤ j → j < n → g j % 256 = f j % 256) : ∀ q : Nat, zt_rc g n d q = zt_rc f n d q
  | 0 => rfl
  | q + 1 => by
    unfold zt_rc
    rw [zt_rc_cong hj q, zt_ad_cong hj (by omega)]
theorem zt_rc_st {f : Int → Int} {n d : Int} {q : Nat} (hn : n ≤ 2 * (q : Int) + 1) : ∀ m : Nat, zt_rc f n d (q + m) = zt_rc f n d q
  | 0 => rfl
  | m + 1 => by
    show zt_rc f n d (q + m) + zt_ad f n d (zt_rc f n d (q + m)) ((q + m : Nat) : Int) = _
    rw [zt_rc_st hn m]
    unfold zt_ad
    rw [if_neg (fun z => by have := z.1; omega)]
    omega
/-- the rest by two -/
noncomputable def zt_PA (r : Nat → Int) : Prop := r 1 = r 0 % 2
section ZTFX
variable {P P' : zq_Ty} {h h' : zq_H} {r : Nat → Int}
theorem zt_TC_fx {k : Nat} (hP : zq_le P P') (h1 : ∀ j, 0 ≤ j → j < r 1 → P (r 0).toNat = some k → h' (r 0).toNat j = h (r 0).toNat j) (ht : zt_TC k r P h) : zt_TC k r P' h' := by
  obtain ⟨a1, a2, a3, a4, a5⟩ := ht
  refine ⟨a1, hP _ _ a2, a3, a4, ?_⟩
  rw [zt_cd_cong (f := h (r 0).toNat) (fun j x y => by rw [h1 j x (by omega) a2])]
  exact a5
theorem zt_RW_fx {k : Nat} (hP : zq_le P P') (h1 : ∀ j, 0 ≤ j → j < r 1 → P (r 0).toNat = some k → h' (r 0).toNat j = h (r 0).toNat j) (ht : zt_RW k r P h) : zt_RW k r P' h' := by
  obtain ⟨a1, a2, a3, a4, a5, a6, a7⟩ := ht
  refine ⟨a1, hP _ _ a2, a3, a4, a5, a6, ?_⟩
  rw [zt_rc_cong (f := h (r 0).toNat) (fun j x y => by rw [h1 j x y a2])]
  exact a7
theorem zt_RE_fx {k : Nat} (hP : zq_le P P') (h1 : ∀ j, 0 ≤ j → j < r 1 → P (r 0).toNat = some k → h' (r 0).toNat j = h (r 0).toNat j) (ht : zt_RE k r P h) : zt_RE k r P' h' := by
  obtain ⟨a1, a2, a3, a4, a5⟩ := ht
  refine ⟨a1, hP _ _ a2, a3, a4, ?_⟩
  rw [zt_rc_cong (f := h (r 0).toNat) (fun j x y => by rw [h1 j x y a2])]
  exact a5
end ZTFX
