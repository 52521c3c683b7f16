/-! CLAUSES: what the class's text holds of a tape -/
/-- a sum, a test with its STOP, within z steps -/
noncomputable def zd_S (o g n Y z s i j : Int) : Prop := ∃ t, zp_P o g n Y 4 32 s t i j ∧ zn_dg Y t = 0 ∧ t < z
noncomputable def zd_T (o g n Y z s i j : Int) : Prop := ∃ t, zp_T o g n Y 10 32 s t i j ∧ zn_dg Y t = 0 ∧ t < z
/-- the "if" of a clause, if it has one: from j on, behind it p (behind a ';' or behind the end) -/
noncomputable def zd_I (o g n Y z s j p : Int) : Prop := (s = -1 ∧ ze_c g n j ≠ 4 ∧ p = j + 1) ∨ (0 ≤ s ∧ ze_c g n j = 4 ∧ ∃ e, zd_T o g n Y z s (j + 1) e ∧ p = e + 1)
/-- "times" -/
noncomputable def zd_M (g n t j e : Int) : Prop := (t = 1 ∧ ze_c g n j ≠ 29 ∧ e = j) ∨ (ze_c g n j = 29 ∧ t = ze_v g n (j + 1) ∧ e = j + 2)
/-- an order's parts -/
noncomputable def zd_O (g n Y z k a b c i e : Int) : Prop :=
  (k = 17 ∧ ze_c g n i = 22 ∧ 0 ≤ a ∧ 0 ≤ b ∧ 0 ≤ c ∧ ∃ e1 e2, zd_S 1 g n Y z a (i + 1) e1 ∧ ze_c g n e1 = 23 ∧ zd_S 1 g n Y z b (e1 + 1) e2 ∧ ze_c g n e2 = 24 ∧ zd_S 1 g n Y z c (e2 + 1) e) ∨
  (k = 18 ∧ ze_c g n i = 25 ∧ 0 ≤ a ∧ 0 ≤ b ∧ c = -1 ∧ ∃ e1, zd_S 1 g n Y z a (i + 1) e1 ∧ ze_c g n e1 = 26 ∧ zd_S 1 g n Y z b (e1 + 1) e) ∨
  (k = 19 ∧ ze_c g n i = 27 ∧ 0 ≤ a ∧ b = -1 ∧ c = -1 ∧ zd_S 1 g n Y z a (i + 1) e) ∨
  (k = 20 ∧ ze_c g n i = 28 ∧ a = -1 ∧ b = -1 ∧ c = -1 ∧ e = i + 1)
/-- a clause ahead of its "if": kind k, times t, parts a b c -/
noncomputable def zd_B (o g n Y z k t a b c i e : Int) : Prop :=
  (o = 0 ∧ t = 1 ∧ ((k = 16 ∧ ze_c g n i = 3 ∧ e = i + 1) ∨ ((k = 14 ∨ k = 15) ∧ ze_c g n i = k - 13 ∧ 0 ≤ a ∧ zd_S 0 g n Y z a (i + 1) e))) ∨
  (o = 1 ∧ ∃ f, zd_O g n Y z k a b c i f ∧ zd_M g n t f e)
noncomputable def zd_C (o g n Y z k t a b c d i p : Int) : Prop := ∃ e, zd_B o g n Y z k t a b c i e ∧ zd_I o g n Y z d e p
/-- m clauses, up to the token p -/
noncomputable def zd_D (o g n Y z : Int) (K T S : Int → Int) (m p : Int) : Prop := ∃ ps : Int → Int, ps 0 = 0 ∧ ps m = p ∧ ∀ c, 0 ≤ c → c < m → zd_C o g n Y z (K c) (T c) (S (4 * c)) (S (4 * c + 1)) (S (4 * c + 2)) (S (4 * c + 3)) (ps c) (ps (c + 1))
section ZDU
variable {o g n Y Z z z' : Int}
theorem zd_S_up {s i j : Int} (h : zd_S o g n Y z s i j) (hY : ∀ q, 0 ≤ q → q < z → zn_dg Z q = zn_dg Y q) (hz : z ≤ z') : zd_S o g n Z z' s i j := by
  obtain ⟨t, h1, h2, h3⟩ := h
  have h0 := h1.1
  have h4 := h1.2.1
  exact ⟨t, zp_P_up h1 (fun q x y => hY q (by omega) (by omega)), (hY t (by omega) h3).trans h2, by omega⟩
theorem zd_T_up {s i j : Int} (h : zd_T o g n Y z s i j) (hY : ∀ q, 0 ≤ q → q < z → zn_dg Z q = zn_dg Y q) (hz : z ≤ z') : zd_T o g n Z z' s i j := by
  obtain ⟨t, h1, h2, h3⟩ := h
  have h0 := h1.1.1
  have h4 := h1.1.2.1
  exact ⟨t, zp_T_up h1 (fun q x y => hY q (by omega) (by omega)), (hY t (by omega) h3).trans h2, by omega⟩
theorem zd_I_up {s j p : Int} (h : zd_I o g n Y z s j p) (hY : ∀ q, 0 ≤ q → q < z → zn_dg Z q = zn_dg Y q) (hz : z ≤ z') : zd_I o g n Z z' s j p := by
  rcases h with h | ⟨h1, h2, e, h3, h4⟩
  · exact Or.inl h
  · exact Or.inr ⟨h1, h2, e, zd_T_up h3 hY hz, h4⟩
theorem zd_O_up {k a b c i e : Int} (h : zd_O g n Y z k a b c i e) (hY : ∀ q, 0 ≤ q → q < z → zn_dg Z q = zn_dg Y q) (hz : z ≤ z') : zd_O g n Z z' k a b c i e := by
  rcases h with ⟨h1, h2, h3, h4, h5, e1, e2, h6, h7, h8, h9, h10⟩ | ⟨h1, h2, h3, h4, h5, e1, h6, h7, h8⟩ | ⟨h1, h2, h3, h4, h5, h6⟩ | h
  · exact Or.inl ⟨h1, h2, h3, h4, h5, e1, e2, zd_S_up h6 hY hz, h7, zd_S_up h8 hY hz, h9, zd_S_up h10 hY hz⟩
  · exact Or.inr (Or.inl ⟨h1, h2, h3, h4, h5, e1, zd_S_up h6 hY hz, h7, zd_S_up h8 hY hz⟩)
  · exact Or.inr (Or.inr (Or.inl ⟨h1, h2, h3, h4, h5, zd_S_up h6 hY hz⟩))
  · exact Or.inr (Or.inr (Or.inr h))
theorem zd_B_up {k t a b c i e : Int} (h : zd_B o g n Y z k t a b c i e) (hY : ∀ q, 0 ≤ q → q < z → zn_dg Z q = zn_dg Y q) (hz : z ≤ z') : zd_B o g n Z z' k t a b c i e := by
  rcases h with ⟨h1, h2, h3⟩ | ⟨h1, f, h2, h3⟩
  · refine Or.inl ⟨h1, h2, ?_⟩
    rcases h3 with h3 | ⟨h3, h4, h5, h6⟩
    · exact Or.inl h3
    · exact Or.inr ⟨h3, h4, h5, zd_S_up h6 hY hz⟩
  · exact Or.inr ⟨h1, f, zd_O_up h2 hY hz, h3⟩
theorem zd_C_up {k t a b c d i p : Int} (h : zd_C o g n Y z k t a b c d i p) (hY : ∀ q, 0 ≤ q → q < z → zn_dg Z q = zn_dg Y q) (hz : z ≤ z') : zd_C o g n Z z' k t a b c d i p := by
  obtain ⟨e, h1, h2⟩ := h
  exact ⟨e, zd_B_up h1 hY hz, zd_I_up h2 hY hz⟩
theorem zd_D_up {K T S : Int → Int} {m p : Int} (h : zd_D o g n Y z K T S m p) (hY : ∀ q, 0 ≤ q → q < z → zn_dg Z q = zn_dg Y q) (hz : z ≤ z') : zd_D o g n Z z' K T S m p := by
  obtain ⟨ps, h1, h2, h3⟩ := h
  exact ⟨ps, h1, h2, fun c x y => zd_C_up (h3 c x y) hY hz⟩
theorem zd_D_cg {K T S K' T' S' : Int → Int} {m p : Int} (h : zd_D o g n Y z K T S m p) (h1 : ∀ c, 0 ≤ c → c < m → K' c = K c) (h2 : ∀ c, 0 ≤ c → c < m → T' c = T c) (h3 : ∀ c, 0 ≤ c → c < 4 * m → S' c = S c) : zd_D o g n Y z K' T' S' m p := by
  obtain ⟨ps, a1, a2, a3⟩ := h
  refine ⟨ps, a1, a2, fun c x y => ?_⟩
  rw [h1 c x y, h2 c x y, h3 (4 * c) (by omega) (by omega), h3 (4 * c + 1) (by omega) (by omega), h3 (4 * c + 2) (by omega) (by omega), h3 (4 * c + 3) (by omega) (by omega)]
  exact a3 c x y
theorem zd_D_0 {K T S : Int → Int} : zd_D o g n Y z K T S 0 0 := ⟨fun _ => 0, rfl, rfl, fun c x y => by omega⟩
theorem zd_D_1 {K T S : Int → Int} {m p p' : Int} (h : zd_D o g n Y z K T S m p) (h0 : 0 ≤ m) (hc : zd_C o g n Y z (K m) (T m) (S (4 * m)) (S (4 * m + 1)) (S (4 * m + 2)) (S (4 * m + 3)) p p') : zd_D o g n Y z K T S (m + 1) p' := by
  obtain ⟨ps, a1, a2, a3⟩ := h
  refine ⟨fun c => if c = m + 1 then p' else ps c, ?_, by simp only [if_true], fun c x y => ?_⟩
  · show (if (0 : Int) = m + 1 then p' else ps 0) = 0
    rw [if_neg (by omega)]; exact a1
  · show zd_C o g n Y z (K c) (T c) (S (4 * c)) (S (4 * c + 1)) (S (4 * c + 2)) (S (4 * c + 3)) (if c = m + 1 then p' else ps c) (if c + 1 = m + 1 then p' else ps (c + 1))
    rw [if_neg (show ¬ c = m + 1 by omega)]
    by_cases e : c = m
    · rw [if_pos (by omega), e, a2]; exact hc
    · rw [if_neg (by omega)]; exact a3 c x (by omega)
end ZDU
/-! tokens -/
noncomputable def zd_SS (o g n Y z s i j : Int) (_ : zq_Ty) (_ : zq_H) : Prop := zd_S o g n Y z s i j
noncomputable def zd_CI (o g n Y z s j p : Int) (_ : zq_Ty) (_ : zq_H) : Prop := zd_I o g n Y z s j p
noncomputable def zd_TM (g n t j e : Int) (_ : zq_Ty) (_ : zq_H) : Prop := zd_M g n t j e
noncomputable def zd_OB (g n Y z k a b c i e : Int) (_ : zq_Ty) (_ : zq_H) : Prop := zd_O g n Y z k a b c i e
noncomputable def zd_CB (o g n Y z k t a b c i e : Int) (_ : zq_Ty) (_ : zq_H) : Prop := zd_B o g n Y z k t a b c i e
noncomputable def zd_DC (ak at' as' o g n Y z m p : Int) (P : zq_Ty) (h : zq_H) : Prop := zn_on ak 30 P ∧ zn_on at' 31 P ∧ zn_on as' 32 P ∧ 0 ≤ m ∧ m ≤ 12 ∧ zd_D o g n Y z (h ak.toNat) (h at'.toNat) (h as'.toNat) m p
/-- a text that lies in arrays of these kinds -/
noncomputable def zd_TX (kk kt ks kc : Nat) (ak at' as' ac o g n m z : Int) (P : zq_Ty) (h : zq_H) : Prop := zn_on ak kk P ∧ zn_on at' kt P ∧ zn_on as' ks P ∧ zn_on ac kc P ∧ 1 ≤ m ∧ m ≤ 12 ∧ 0 ≤ z ∧ z ≤ 448 ∧ ∃ Y, (∀ j, 0 ≤ j → j < z → h ac.toNat j = zn_dg Y j) ∧ zd_D o g n Y z (h ak.toNat) (h at'.toNat) (h as'.toNat) m (ze_L g n + 1)
section ZDFX
variable {P P' : zq_Ty} {h h' : zq_H}
theorem zd_DC_fx {ak at' as' o g n Y z m p : Int} (hP : zq_le P P') (h1 : ∀ j, 0 ≤ j → j < m → P ak.toNat = some 30 → h' ak.toNat j = h ak.toNat j) (h2 : ∀ j, 0 ≤ j → j < m → P at'.toNat = some 31 → h' at'.toNat j = h at'.toNat j) (h3 : ∀ j, 0 ≤ j → j < 4 * m → P as'.toNat = some 32 → h' as'.toNat j = h as'.toNat j) (q : zd_DC ak at' as' o g n Y z m p P h) : zd_DC ak at' as' o g n Y z m p P' h' := by
  obtain ⟨a1, a2, a3, a4, a5, a6⟩ := q
  exact ⟨zn_on_le hP a1, zn_on_le hP a2, zn_on_le hP a3, a4, a5, zd_D_cg a6 (fun c x y => h1 c x y a1.2) (fun c x y => h2 c x y a2.2) (fun c x y => h3 c x y a3.2)⟩
theorem zd_TX_fx {kk kt ks kc : Nat} {ak at' as' ac o g n m z : Int} (hP : zq_le P P') (h1 : ∀ j, 0 ≤ j → j < m → P ak.toNat = some kk → h' ak.toNat j = h ak.toNat j) (h2 : ∀ j, 0 ≤ j → j < m → P at'.toNat = some kt → h' at'.toNat j = h at'.toNat j) (h3 : ∀ j, 0 ≤ j → j < 4 * m → P as'.toNat = some ks → h' as'.toNat j = h as'.toNat j) (h4 : ∀ j, 0 ≤ j → j < z → P ac.toNat = some kc → h' ac.toNat j = h ac.toNat j) (q : zd_TX kk kt ks kc ak at' as' ac o g n m z P h) : zd_TX kk kt ks kc ak at' as' ac o g n m z P' h' := by
  obtain ⟨a1, a2, a3, a4, b1, b2, b3, b4, Y, c1, c2⟩ := q
  exact ⟨zn_on_le hP a1, zn_on_le hP a2, zn_on_le hP a3, zn_on_le hP a4, b1, b2, b3, b4, Y, fun j x y => (h4 j x y a4.2).trans (c1 j x y), zd_D_cg c2 (fun c x y => h1 c x y a1.2) (fun c x y => h2 c x y a2.2) (fun c x y => h3 c x y a3.2)⟩
end ZDFX
