/-! WHAT LAWS SAY: rows from the token p on; k: 1 who, 2 owes, 3 nobody; the last that holds counts -/
noncomputable def zl_s (c v : Int → Int) (w : Int → Int → Int) (L k : Int) (Z : Int → Int → Int) (f : Nat) (acc p : Int) : Int :=
  if L ≤ p then acc
  else if c p = 3 then
    (if c (p + 1) = 4 then Z (if c p = k ∧ (ze c v w f 10 0 true false (p + 1 + 1)).1 = 1 ∧ (ze c v w f 10 0 true false (p + 1 + 1)).2.1 = false then 1 else acc) ((ze c v w f 10 0 true false (p + 1 + 1)).2.2 + 1)
    else Z (if c p = k then 1 else acc) (p + 1 + 1))
  else if c (ze c v w f 4 0 true false (p + 1)).2.2 = 4 then
    Z (if c p = k ∧ (ze c v w f 10 0 true false ((ze c v w f 4 0 true false (p + 1)).2.2 + 1)).1 = 1 ∧ (ze c v w f 10 0 true false ((ze c v w f 4 0 true false (p + 1)).2.2 + 1)).2.1 = false ∧ (ze c v w f 4 0 true false (p + 1)).2.1 = false then (ze c v w f 4 0 true false (p + 1)).1 else acc) ((ze c v w f 10 0 true false ((ze c v w f 4 0 true false (p + 1)).2.2 + 1)).2.2 + 1)
  else Z (if c p = k ∧ (ze c v w f 4 0 true false (p + 1)).2.1 = false then (ze c v w f 4 0 true false (p + 1)).1 else acc) ((ze c v w f 4 0 true false (p + 1)).2.2 + 1)
noncomputable def zl (c v : Int → Int) (w : Int → Int → Int) (L k : Int) : Nat → Int → Int → Int
  | 0 => fun acc _ => acc
  | f + 1 => zl_s c v w L k (zl c v w L k f) f
noncomputable def zl_V (c v : Int → Int) (w : Int → Int → Int) (L k acc p r : Int) : Prop := ∃ f0 : Nat, ∀ f, f0 ≤ f → zl c v w L k f acc p = r
section ZLV
variable {c v : Int → Int} {w : Int → Int → Int} {L k : Int}
theorem zl_V_fun {acc p r r2 : Int} (h1 : zl_V c v w L k acc p r) (h2 : zl_V c v w L k acc p r2) : r = r2 := by
  obtain ⟨f1, h1⟩ := h1
  obtain ⟨f2, h2⟩ := h2
  exact (h1 (f1 + f2) (by omega)).symm.trans (h2 (f1 + f2) (by omega))
theorem zl_V_1 {acc p r : Int} (h : ∃ f0 : Nat, ∀ f, f0 ≤ f → zl_s c v w L k (zl c v w L k f) f acc p = r) : zl_V c v w L k acc p r := by
  obtain ⟨f0, h⟩ := h
  refine ⟨f0 + 1, fun f hf => ?_⟩
  obtain ⟨m, rfl⟩ : ∃ m, f = m + 1 := ⟨f - 1, by omega⟩
  exact h m (by omega)
theorem zl_end {acc p : Int} (h : L ≤ p) : zl_V c v w L k acc p acc := zl_V_1 ⟨0, fun f _ => by unfold zl_s; rw [if_pos h]⟩
/-- nobody, without 'if' -/
theorem zl_n {acc p r : Int} (h : p < L) (h3 : c p = 3) (h4 : c (p + 1) ≠ 4) (hr : zl_V c v w L k (if 3 = k then 1 else acc) (p + 1 + 1) r) : zl_V c v w L k acc p r := by
  obtain ⟨f1, hr⟩ := hr
  exact zl_V_1 ⟨f1, fun f hf => by
    unfold zl_s
    rw [if_neg (by omega), if_pos h3, if_neg h4, h3]; exact hr f hf⟩
theorem zl_nt {acc p r t y : Int} {d : Bool} (h : p < L) (h3 : c p = 3) (h4 : c (p + 1) = 4) (ht : ze_V c v w 10 0 true false (p + 1 + 1) t d y) (hr : zl_V c v w L k (if 3 = k ∧ t = 1 ∧ d = false then 1 else acc) (y + 1) r) : zl_V c v w L k acc p r := by
  obtain ⟨f1, hr⟩ := hr
  obtain ⟨f2, ht⟩ := ht
  exact zl_V_1 ⟨f1 + f2, fun f hf => by
    unfold zl_s
    rw [if_neg (by omega), if_pos h3, if_pos h4, h3, ht f (by omega)]; exact hr f (by omega)⟩
theorem zl_s0 {acc p r x q : Int} {b : Bool} (h : p < L) (h3 : c p ≠ 3) (hx : ze_V c v w 4 0 true false (p + 1) x b q) (h4 : c q ≠ 4) (hr : zl_V c v w L k (if c p = k ∧ b = false then x else acc) (q + 1) r) : zl_V c v w L k acc p r := by
  obtain ⟨f1, hr⟩ := hr
  obtain ⟨f2, hx⟩ := hx
  exact zl_V_1 ⟨f1 + f2, fun f hf => by
    unfold zl_s
    rw [if_neg (by omega), if_neg h3, hx f (by omega)]
    simp only
    rw [if_neg h4]; exact hr f (by omega)⟩
theorem zl_st {acc p r x q t y : Int} {b d : Bool} (h : p < L) (h3 : c p ≠ 3) (hx : ze_V c v w 4 0 true false (p + 1) x b q) (h4 : c q = 4) (ht : ze_V c v w 10 0 true false (q + 1) t d y) (hr : zl_V c v w L k (if c p = k ∧ t = 1 ∧ d = false ∧ b = false then x else acc) (y + 1) r) : zl_V c v w L k acc p r := by
  obtain ⟨f1, hr⟩ := hr
  obtain ⟨f2, hx⟩ := hx
  obtain ⟨f3, ht⟩ := ht
  exact zl_V_1 ⟨f1 + f2 + f3, fun f hf => by
    unfold zl_s
    rw [if_neg (by omega), if_neg h3, hx f (by omega)]
    simp only
    rw [if_pos h4, ht f (by omega)]; exact hr f (by omega)⟩
end ZLV
/-- how many tokens -/
noncomputable def ze_L (g n : Int) : Int := ((zu_TL g n).length : Int)
/-- rows so far; all rows -/
noncomputable def zl_LW (k g n W a p : Int) (_ : zq_Ty) (_ : zq_H) : Prop := ∀ r : Int, zl_V (ze_c g n) (ze_v g n) (ze_w 0 W) (ze_L g n) k a p r → zl_V (ze_c g n) (ze_v g n) (ze_w 0 W) (ze_L g n) k (-4000000000) 0 r
noncomputable def zl_TE (k g n W r : Int) (_ : zq_Ty) (_ : zq_H) : Prop := zl_V (ze_c g n) (ze_v g n) (ze_w 0 W) (ze_L g n) k (-4000000000) 0 r
/-- texts of laws as one number: digits of base 2 ^ 4096, a tape's bytes and how many for each -/
noncomputable def zT_D (T i : Int) : Int := T / (2 : Int) ^ (4096 * i.toNat) % (2 : Int) ^ 4096
noncomputable def zT_g (T f : Int) : Int := zT_D T (2 * f)
noncomputable def zT_n (T f : Int) : Int := zT_D T (2 * f + 1)
noncomputable def zl_KT (a T N : Int) (P : zq_Ty) (h : zq_H) : Prop := zn_on a 1 P ∧ N ≤ 6 ∧ (∀ f : Int, 0 ≤ f → f < N → ze_TX a (400 * f) (400 * f + h a.toNat (64 + f)) (zT_g T f) (zT_n T f) P h) ∧ ∀ f : Int, 0 ≤ f → f < N → zT_n T f ≤ 400
noncomputable def zl_TG (T f g n : Int) (_ : zq_Ty) (_ : zq_H) : Prop := g = zT_g T f ∧ n = zT_n T f
/-- what the law f says; no law: nothing -/
noncomputable def zl_RT (k T f W r : Int) (_ : zq_Ty) (_ : zq_H) : Prop := (f < 0 → r = -4000000000) ∧ (0 ≤ f → zl_V (ze_c (zT_g T f) (zT_n T f)) (ze_v (zT_g T f) (zT_n T f)) (ze_w 0 W) (ze_L (zT_g T f) (zT_n T f)) k (-4000000000) 0 r)
theorem zl_RT_u {k T f W r x : Int} {P P' : zq_Ty} {h h' : zq_H} (k1 : zl_RT k T f W r P h) (k2 : zl_RT k T f W x P' h') : r = x := by
  rcases Int.lt_or_le f 0 with z | z
  · rw [k1.1 z, k2.1 z]
  · exact zl_V_fun (k1.2 z) (k2.2 z)
/-- eight words as one number -/
noncomputable def zl_pk (w0 w1 w2 w3 w4 w5 w6 w7 : Int) : Int := zn_up (zn_up (zn_up (zn_up (zn_up (zn_up (zn_up (zn_up 0 0 w0) 1 w1) 2 w2) 3 w3) 4 w4) 5 w5) 6 w6) 7 w7
theorem zl_c8 {j : Int} (j0 : 0 ≤ j) (j1 : j < 8) : j = 0 ∨ j = 1 ∨ j = 2 ∨ j = 3 ∨ j = 4 ∨ j = 5 ∨ j = 6 ∨ j = 7 := by omega
theorem zl_pk_dg {w0 w1 w2 w3 w4 w5 w6 w7 j : Int} (i0 : zn_in w0) (i1 : zn_in w1) (i2 : zn_in w2) (i3 : zn_in w3) (i4 : zn_in w4) (i5 : zn_in w5) (i6 : zn_in w6) (i7 : zn_in w7) (j0 : 0 ≤ j) (j1 : j < 8) : zn_dg (zl_pk w0 w1 w2 w3 w4 w5 w6 w7) j = if j = 0 then w0 else if j = 1 then w1 else if j = 2 then w2 else if j = 3 then w3 else if j = 4 then w4 else if j = 5 then w5 else if j = 6 then w6 else w7 := by
  unfold zl_pk
  by_cases e7 : j = 7
  · rw [e7, zn_up_same i7]; rfl
  rw [zn_up_ne (by omega) j0 (fun z => e7 z.symm) i7]
  by_cases e6 : j = 6
  · rw [e6, zn_up_same i6]; rfl
  rw [zn_up_ne (by omega) j0 (fun z => e6 z.symm) i6]
  by_cases e5 : j = 5
  · rw [e5, zn_up_same i5]; rfl
  rw [zn_up_ne (by omega) j0 (fun z => e5 z.symm) i5]
  by_cases e4 : j = 4
  · rw [e4, zn_up_same i4]; rfl
  rw [zn_up_ne (by omega) j0 (fun z => e4 z.symm) i4]
  by_cases e3 : j = 3
  · rw [e3, zn_up_same i3]; rfl
  rw [zn_up_ne (by omega) j0 (fun z => e3 z.symm) i3]
  by_cases e2 : j = 2
  · rw [e2, zn_up_same i2]; rfl
  rw [zn_up_ne (by omega) j0 (fun z => e2 z.symm) i2]
  by_cases e1 : j = 1
  · rw [e1, zn_up_same i1]; rfl
  rw [zn_up_ne (by omega) j0 (fun z => e1 z.symm) i1]
  have e0 : j = 0 := by omega
  rw [e0, zn_up_same i0]; rfl
noncomputable def zl_PW (W w0 w1 w2 w3 w4 w5 w6 w7 : Int) (_ : zq_Ty) (_ : zq_H) : Prop := W = zl_pk w0 w1 w2 w3 w4 w5 w6 w7
/-- the words of a deed d, whose w, place p, date t, mood m, of what the land S holds -/
noncomputable def zl_WW (W S d w p t m : Int) (_ : zq_Ty) (_ : zq_H) : Prop := W = zl_pk w (zn_dg S w) (zn_dg S (d + 6)) (zn_dg S (d + 12)) p t (t % 7) m
noncomputable def zl_w1 (b w m : Int) : Int := if b = -4000000000 then w else if b < 0 ∨ m ≤ b then 6 else b
noncomputable def zl_RW (T f W w m r : Int) (P : zq_Ty) (h : zq_H) : Prop := (∃ a, zl_RT 3 T f W a P h ∧ a ≠ -4000000000 ∧ r = 7) ∨ (zl_RT 3 T f W (-4000000000) P h ∧ ∃ b, zl_RT 1 T f W b P h ∧ r = zl_w1 b w m)
noncomputable def zl_RO (T f W S d r : Int) (P : zq_Ty) (h : zq_H) : Prop := ∃ b, zl_RT 2 T f W b P h ∧ r = if b = -4000000000 then zn_dg S (d + 12) else if b < 0 then 0 else if 99 < b then 99 else b
