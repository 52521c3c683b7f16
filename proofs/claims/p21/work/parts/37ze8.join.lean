/-! SUMS being laid: what is pending told by the class's operations (A: -1, 6, 7; S: -1, 8, 9, 10); Q2: nothing pending, the sum so far on the stack, and no term goes on -/
noncomputable def zc_ma (a : Int) : Int := if a = 6 then 143 else if a = 7 then 145 else 0
noncomputable def zc_ms (s : Int) : Int := if s = 8 then 142 else if s = 9 then 147 else if s = 10 then 137 else 0
theorem zc_ma_b {a : Int} (h1 : 6 ≤ a) (h2 : a ≤ 7) : (zc_ma a = 143 ∧ a = 6) ∨ (zc_ma a = 145 ∧ a = 7) := by
  rcases (show a = 6 ∨ a = 7 by omega) with e | e
  · exact Or.inl ⟨by rw [e]; rfl, e⟩
  · exact Or.inr ⟨by rw [e]; rfl, e⟩
theorem zc_ms_b {s : Int} (h1 : 8 ≤ s) (h2 : s ≤ 10) : (zc_ms s = 142 ∧ s = 8) ∨ (zc_ms s = 147 ∧ s = 9) ∨ (zc_ms s = 137 ∧ s = 10) := by
  rcases (show s = 8 ∨ s = 9 ∨ s = 10 by omega) with e | e | e
  · exact Or.inl ⟨by rw [e]; rfl, e⟩
  · exact Or.inr (Or.inl ⟨by rw [e]; rfl, e⟩)
  · exact Or.inr (Or.inr ⟨by rw [e]; rfl, e⟩)
noncomputable def zp_Q2 (o g n Y : Int) (need : Nat) (s s2 i i2 : Int) : Prop := ze_mul (ze_c g n i2) = false ∧ 0 ≤ s ∧ s ≤ s2 ∧ (∀ q, zt_T (ze_c g n) 3 i2 q → zt_T (ze_c g n) 4 i q) ∧ ∀ W : Int, ∃ (a : Int) (b : Bool), (∀ r b2 p2, ze_V (ze_c g n) (ze_v g n) (ze_w o W) 3 a true b i2 r b2 p2 → ze_V (ze_c g n) (ze_v g n) (ze_w o W) 4 0 true false i r b2 p2) ∧ ∀ (code : Int → Int) (size : Int), zp_ag Y s s2 code → s2 ≤ size → zp_sem o W code size need s s2 (fun st => a :: st) b
section ZPQ
variable {o g n Y : Int} {need : Nat} {s s2 i i2 A : Int}
theorem zp_Q2_0 (h : zp_Q1 o g n Y need s s2 i i2 0) (hm : ze_mul (ze_c g n i2) = false) : zp_Q2 o g n Y need s s2 i i2 := by
  obtain ⟨a1, a2, a3, a4⟩ := h
  refine ⟨hm, a1, a2, fun q h1 => a3 i2 q (zt_tl_end hm) h1, fun W => ?_⟩
  obtain ⟨t, a, b, e1, e2⟩ := a4 W
  refine ⟨t, b, fun r b2 p2 h1 => e1 t b i2 r b2 p2 (ze_tl_end hm) (by unfold zp_fin; rw [if_pos rfl]; exact h1), fun code size hag hsz => ?_⟩
  have := e2 code size hag hsz
  simp only [zp_st, if_pos] at this
  exact this
theorem zp_Q2_b {op B : Int} (h : zp_Q1 o g n Y need s s2 i i2 B) (hB : (B = 143 ∧ op = 6) ∨ (B = 145 ∧ op = 7)) (hm : ze_mul (ze_c g n i2) = false) (hc : zn_dg Y s2 = op) : zp_Q2 o g n Y need s (s2 + 1) i i2 := ⟨hm, zp_Q1_a h hB hm hc⟩
theorem zp_Q0_2 (h : zp_Q2 o g n Y need s s2 i i2) (hA : A = 143 ∨ A = 145) (hc2 : ze_c g n i2 = A) : zp_Q0 o g n Y need s s2 i (i2 + 1) A 0 := by
  have hA0 : A ≠ 0 := by rcases hA with z | z <;> omega
  have ha : ze_add (ze_c g n i2) = true := by rw [hc2]; rcases hA with z | z <;> rw [z] <;> decide
  obtain ⟨hm, a1, a2, a3, a4⟩ := h
  refine ⟨a1, a2, fun p0 p q h1 h2 h3 => a3 q (zt_sl_go ha (zt_two (fun R => rfl) h1 h2) h3), fun W => ?_⟩
  obtain ⟨a, b, e1, e2⟩ := a4 W
  refine ⟨0, a, b, fun r0 b0 p0 x b1 p1 r b2 p2 h1 h2 h3 => ?_, fun code size hag hsz cw hcw st hst => ?_⟩
  · rw [if_pos rfl] at h2
    unfold zp_fin at h3
    rw [if_neg hA0] at h3
    exact e1 r b2 p2 (ze_sl_go ha (ze_term h1 h2) (by rw [hc2]; exact h3))
  · have := e2 code size hag hsz cw hcw st hst
    dsimp only
    rw [if_pos rfl]
    unfold zp_st
    rw [if_neg hA0]
    exact this
theorem zp_P4_2 (h : zp_Q2 o g n Y need s s2 i i2) (ha : ze_add (ze_c g n i2) = false) : zp_P o g n Y 4 need s s2 i i2 := by
  obtain ⟨hm, a1, a2, a3, a4⟩ := h
  refine ⟨a1, a2, a3 i2 (zt_sl_end ha), fun W r b hV code size hag hsz => ?_⟩
  obtain ⟨a, c, e1, e2⟩ := a4 W
  obtain ⟨x1, x2, -⟩ := ze_V_fun hV (e1 a c i2 (ze_sl_end ha))
  rw [x1, x2]; exact e2 code size hag hsz
theorem zp_Q2_up {Y2 : Int} (h : zp_Q2 o g n Y need s s2 i i2) (hY : ∀ j, s ≤ j → j < s2 → zn_dg Y2 j = zn_dg Y j) : zp_Q2 o g n Y2 need s s2 i i2 := by
  obtain ⟨h0, h1, h2, h3, h4⟩ := h
  refine ⟨h0, h1, h2, h3, fun W => ?_⟩
  obtain ⟨a, b, e1, e2⟩ := h4 W
  exact ⟨a, b, e1, fun code size ha hs => e2 code size (fun j x y => (ha j x y).trans (hY j x y)) hs⟩
end ZPQ
/-! the tokens by these -/
noncomputable def zc_Q0m (o g n Y d s t i j A S : Int) (_ : zq_Ty) (_ : zq_H) : Prop := zp_Q0 o g n Y d.toNat s t i j (zc_ma A) (zc_ms S)
noncomputable def zc_Q1m (o g n Y d s t i j A : Int) (_ : zq_Ty) (_ : zq_H) : Prop := zp_Q1 o g n Y d.toNat s t i j (zc_ma A)
noncomputable def zc_Q1n (o g n Y d s t i j A : Int) (_ : zq_Ty) (_ : zq_H) : Prop := zp_Q1 o g n Y d.toNat s t i j (zc_ma A) ∧ ze_mul (ze_c g n j) = false
theorem zc_Q1n_up {o g n Y Z d s t i j A : Int} {P : zq_Ty} {h : zq_H} (h0 : zc_Q1n o g n Y d s t i j A P h) (hY : ∀ q, s ≤ q → q < t → zn_dg Z q = zn_dg Y q) : zc_Q1n o g n Z d s t i j A P h := ⟨zp_Q1_up h0.1 hY, h0.2⟩
noncomputable def zc_Q2m (o g n Y d s t i j : Int) (_ : zq_Ty) (_ : zq_H) : Prop := zp_Q2 o g n Y d.toNat s t i j
/-- a sign of comparison at j, by the class's operation -/
noncomputable def zc_CS (g n j op : Int) (_ : zq_Ty) (_ : zq_H) : Prop := (op = 11 ∧ ze_c g n j = 160) ∨ (op = 12 ∧ ze_c g n j = 162) ∨ (op = 13 ∧ ze_c g n j = 161)
/-- a first token that opens no bracket -/
noncomputable def zc_NB (g n i : Int) (_ : zq_Ty) (_ : zq_H) : Prop := ze_c g n i ≠ 140
/-- a token that is no "not" -/
noncomputable def zc_NA (g n i : Int) (_ : zq_Ty) (_ : zq_H) : Prop := ze_c g n i ≠ 7
