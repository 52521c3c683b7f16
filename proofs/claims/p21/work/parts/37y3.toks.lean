/-! TOKENS of lexing and reading -/
noncomputable def zu_on (a : Int) (k : Nat) (P : zq_Ty) : Prop := 0 ≤ a ∧ P a.toNat = some k
/-- the class's starts, ends: closed, open (with, without the last end), all -/
noncomputable def zu_SGC (st en g n i t : Int) (P : zq_Ty) (h : zq_H) : Prop := zu_on st 97 P ∧ zu_on en 98 P ∧ n ≤ 400 ∧ zu_at g n i t ∧ ∀ j, 0 ≤ j → j < t → zu_ent g n j (h st.toNat j) (h en.toNat j)
noncomputable def zu_SGN (st en g n i t k : Int) (P : zq_Ty) (h : zq_H) : Prop := zu_on st 97 P ∧ zu_on en 98 P ∧ n ≤ 400 ∧ (k = 1 ∨ k = 2) ∧ 1 ≤ t ∧ zu_at g n (h st.toNat (t - 1)) (t - 1) ∧ zu_rn g n (h st.toNat (t - 1)) i k ∧ ∀ j, 0 ≤ j → j < t - 1 → zu_ent g n j (h st.toNat j) (h en.toNat j)
noncomputable def zu_SGO (st en g n i t k : Int) (P : zq_Ty) (h : zq_H) : Prop := zu_SGN st en g n i t k P h ∧ h en.toNat (t - 1) = i
noncomputable def zu_SGD (st en g n t : Int) (P : zq_Ty) (h : zq_H) : Prop := zu_on st 97 P ∧ zu_on en 98 P ∧ n ≤ 400 ∧ 0 ≤ t ∧ t = ((zu_TL g n).length : Int) ∧ ∀ j, 0 ≤ j → j < t → zu_ent g n j (h st.toNat j) (h en.toNat j)
/-- token j is that from s to e -/
noncomputable def zu_SE (g n j s e : Int) (_ : zq_Ty) (_ : zq_H) : Prop := zu_ent g n j s e
/-- codes and numbers of the class's first tokens -/
noncomputable def zu_NMD (co nu g n t : Int) (P : zq_Ty) (h : zq_H) : Prop := zu_on co 96 P ∧ zu_on nu 99 P ∧ n ≤ 400 ∧ 0 ≤ t ∧ ∀ j, 0 ≤ j → j < t → ∃ e, (zu_TL g n)[j.toNat]? = some e ∧ zu_mp (h co.toNat j) = e.2.2.1 ∧ h co.toNat j ≠ 31 ∧ (e.2.2.1 = 50 → zu_vv e.2.2.2 (h nu.toNat j) ∧ 0 ≤ h nu.toNat j)
/-- the tokens of a tape as a program has them: codes (by M, the end's E), values, places -/
noncomputable def zu_LX (M : Int → Int) (E : Int) (kc kv kp : Nat) (co va pl g n t : Int) (P : zq_Ty) (h : zq_H) : Prop := zu_on co kc P ∧ zu_on va kv P ∧ zu_on pl kp P ∧ 0 ≤ n ∧ 0 ≤ t ∧ t ≤ 400 ∧ t = ((zu_TL g n).length : Int) ∧ h pl.toNat t = n ∧ h co.toNat t = E ∧ ∀ j, 0 ≤ j → j < t → ∃ e, (zu_TL g n)[j.toNat]? = some e ∧ h pl.toNat j = e.1 ∧ 0 ≤ e.1 ∧ M (h co.toNat j) = e.2.2.1 ∧ (E = 31 → h co.toNat j ≠ 31) ∧ (e.2.2.1 = 50 → zu_vv e.2.2.2 (h va.toNat j) ∧ 0 ≤ h va.toNat j)
noncomputable def zu_LXR (co va pl g n t : Int) (P : zq_Ty) (h : zq_H) : Prop := zu_LX (fun c => c) 0 8 9 10 co va pl g n t P h
noncomputable def zu_LXC (co va pl g n t : Int) (P : zq_Ty) (h : zq_H) : Prop := zu_LX zu_mp 31 96 99 97 co va pl g n t P h
/-- the reference's tokens so far -/
noncomputable def zu_SOF (co va pl g n k t : Int) (P : zq_Ty) (h : zq_H) : Prop := zu_on co 8 P ∧ zu_on va 9 P ∧ zu_on pl 10 P ∧ n ≤ 400 ∧ zu_at g n k t ∧ ∀ j, 0 ≤ j → j < t → ∃ e, (zu_TL g n)[j.toNat]? = some e ∧ h pl.toNat j = e.1 ∧ 0 ≤ e.1 ∧ h co.toNat j = e.2.2.1 ∧ (e.2.2.1 = 50 → zu_vv e.2.2.2 (h va.toNat j) ∧ 0 ≤ h va.toNat j)
/-- words: which one (class, reference), looks for it, a letter of the class's text, the reference's letters -/
noncomputable def zu_WDC (g n s e c : Int) (_ : zq_Ty) (_ : zq_H) : Prop := c = zu_fi (zu_bs (zu_dg g n) (e - s).toNat s) (zu_sp zu_cC) 0 29
noncomputable def zu_WDR (g n s e c : Int) (_ : zq_Ty) (_ : zq_H) : Prop := c = zu_fi (zu_bs (zu_dg g n) (e - s).toNat s) (zu_sp zu_cR) 1 0
noncomputable def zu_SCC (g n s e i w m c : Int) (_ : zq_Ty) (_ : zq_H) : Prop := 0 ≤ i ∧ -1 ≤ m ∧ m ≤ e - s ∧ c = zu_sc (zu_dg g n) s e w m (zu_sp (zu_cC.drop i.toNat))
noncomputable def zu_SCR (g n s e k w c : Int) (_ : zq_Ty) (_ : zq_H) : Prop := 0 ≤ k ∧ c = zu_fi (zu_bs (zu_dg g n) (e - s).toNat s) (zu_sp (zu_cR.drop k.toNat)) w 0
noncomputable def zu_CH (i v : Int) (_ : zq_Ty) (_ : zq_H) : Prop := 0 ≤ i ∧ i < 141 ∧ v = zu_chC i
noncomputable def zu_WR (a t : Int) (P : zq_Ty) (h : zq_H) : Prop := zu_on a 5 P ∧ 0 ≤ t ∧ t ≤ 141 ∧ ∀ j, 0 ≤ j → j < t → h a.toNat j = zu_chR j
noncomputable def zu_LN (k m : Int) (_ : zq_Ty) (_ : zq_H) : Prop := 0 ≤ k ∧ 0 ≤ m ∧ ∀ j, k ≤ j → j < k + m → zu_chR j ≠ 32
noncomputable def zu_WL (k m : Int) (_ : zq_Ty) (_ : zq_H) : Prop := zu_wl k m
noncomputable def zu_PF (g n s k i : Int) (_ : zq_Ty) (_ : zq_H) : Prop := 0 ≤ i ∧ ∀ j, 0 ≤ j → j < i → zu_chR (k + j) = zu_dg g n (s + j)
noncomputable def zu_NE (g n s e k m : Int) (_ : zq_Ty) (_ : zq_H) : Prop := zu_bs (zu_dg g n) (e - s).toNat s ≠ zu_bs zu_chR m.toNat k
/-- numbers -/
noncomputable def zu_NVC (g n s i v : Int) (_ : zq_Ty) (_ : zq_H) : Prop := s ≤ i ∧ v = zu_nm (zu_dg g n) s (i - s).toNat
noncomputable def zu_NVR (g n s i v : Int) (_ : zq_Ty) (_ : zq_H) : Prop := s ≤ i ∧ zu_vv (zu_nm (zu_dg g n) s (i - s).toNat) v
/-- bytes of one kind; the end of a token -/
noncomputable def zu_RNS (g n k j c : Int) (_ : zq_Ty) (_ : zq_H) : Prop := zu_rn g n k j c
noncomputable def zu_EN (g n k q : Int) (_ : zq_Ty) (_ : zq_H) : Prop := zu_nx (zu_dg g n) n k = q ∧ 0 ≤ k ∧ k < q ∧ q ≤ n
/-- the place of a token -/
noncomputable def zu_FT (g n i r : Int) (_ : zq_Ty) (_ : zq_H) : Prop := 0 ≤ i ∧ ((∃ e, (zu_TL g n)[i.toNat]? = some e ∧ e.1 = r) ∨ (i = ((zu_TL g n).length : Int) ∧ r = n))
section ZUFX
variable {P P' : zq_Ty} {h h' : zq_H}
theorem zu_on_le {a : Int} {k : Nat} (hP : zq_le P P') (z : zu_on a k P) : zu_on a k P' := ⟨z.1, hP _ _ z.2⟩
theorem zu_SGC_fx {st en g n i t : Int} (hP : zq_le P P') (h1 : ∀ j, 0 ≤ j → j < t → P st.toNat = some 97 → h' st.toNat j = h st.toNat j) (h2 : ∀ j, 0 ≤ j → j < t → P en.toNat = some 98 → h' en.toNat j = h en.toNat j) (z : zu_SGC st en g n i t P h) : zu_SGC st en g n i t P' h' := by
  obtain ⟨a1, a2, a3, a4, a5⟩ := z
  refine ⟨zu_on_le hP a1, zu_on_le hP a2, a3, a4, fun j x y => ?_⟩
  rw [h1 j x y a1.2, h2 j x y a2.2]
  exact a5 j x y
theorem zu_SGN_fx {st en g n i t k : Int} (hP : zq_le P P') (h1 : ∀ j, 0 ≤ j → j < t → P st.toNat = some 97 → h' st.toNat j = h st.toNat j) (h2 : ∀ j, 0 ≤ j → j < t - 1 → P en.toNat = some 98 → h' en.toNat j = h en.toNat j) (z : zu_SGN st en g n i t k P h) : zu_SGN st en g n i t k P' h' := by
  obtain ⟨a1, a2, a3, a4, a5, a6, a7, a8⟩ := z
  have e := h1 (t - 1) (by omega) (by omega) a1.2
  refine ⟨zu_on_le hP a1, zu_on_le hP a2, a3, a4, a5, by rw [e]; exact a6, by rw [e]; exact a7, fun j x y => ?_⟩
  rw [h1 j x (by omega) a1.2, h2 j x y a2.2]
  exact a8 j x y
theorem zu_SGO_fx {st en g n i t k : Int} (hP : zq_le P P') (h1 : ∀ j, 0 ≤ j → j < t → P st.toNat = some 97 → h' st.toNat j = h st.toNat j) (h2 : ∀ j, 0 ≤ j → j < t → P en.toNat = some 98 → h' en.toNat j = h en.toNat j) (z : zu_SGO st en g n i t k P h) : zu_SGO st en g n i t k P' h' := by
  refine ⟨zu_SGN_fx hP h1 (fun j x y w => h2 j x (by omega) w) z.1, ?_⟩
  have a5 := z.1.2.2.2.2.1
  rw [h2 (t - 1) (by omega) (by omega) z.1.2.1.2]
  exact z.2
theorem zu_SGD_fx {st en g n t : Int} (hP : zq_le P P') (h1 : ∀ j, 0 ≤ j → j < t → P st.toNat = some 97 → h' st.toNat j = h st.toNat j) (h2 : ∀ j, 0 ≤ j → j < t → P en.toNat = some 98 → h' en.toNat j = h en.toNat j) (z : zu_SGD st en g n t P h) : zu_SGD st en g n t P' h' := by
  obtain ⟨a1, a2, a3, a4, a5, a6⟩ := z
  refine ⟨zu_on_le hP a1, zu_on_le hP a2, a3, a4, a5, fun j x y => ?_⟩
  rw [h1 j x y a1.2, h2 j x y a2.2]
  exact a6 j x y
theorem zu_NMD_fx {co nu g n t : Int} (hP : zq_le P P') (h1 : ∀ j, 0 ≤ j → j < t → P co.toNat = some 96 → h' co.toNat j = h co.toNat j) (h2 : ∀ j, 0 ≤ j → j < t → P nu.toNat = some 99 → h' nu.toNat j = h nu.toNat j) (z : zu_NMD co nu g n t P h) : zu_NMD co nu g n t P' h' := by
  obtain ⟨a1, a2, a0, a3, a4⟩ := z
  refine ⟨zu_on_le hP a1, zu_on_le hP a2, a0, a3, fun j x y => ?_⟩
  rw [h1 j x y a1.2, h2 j x y a2.2]
  exact a4 j x y
theorem zu_LX_fx {M : Int → Int} {E : Int} {kc kv kp : Nat} {co va pl g n t : Int} (hP : zq_le P P') (h1 : ∀ j, 0 ≤ j → j ≤ 400 → P co.toNat = some kc → h' co.toNat j = h co.toNat j) (h2 : ∀ j, 0 ≤ j → j ≤ 400 → P va.toNat = some kv → h' va.toNat j = h va.toNat j) (h3 : ∀ j, 0 ≤ j → j ≤ 400 → P pl.toNat = some kp → h' pl.toNat j = h pl.toNat j) (z : zu_LX M E kc kv kp co va pl g n t P h) : zu_LX M E kc kv kp co va pl g n t P' h' := by
  obtain ⟨a1, a2, a3, a0, a4, a5, a6, a7, a8, a9⟩ := z
  refine ⟨zu_on_le hP a1, zu_on_le hP a2, zu_on_le hP a3, a0, a4, a5, a6, by rw [h3 t a4 a5 a3.2]; exact a7, by rw [h1 t a4 a5 a1.2]; exact a8, fun j x y => ?_⟩
  rw [h1 j x (by omega) a1.2, h2 j x (by omega) a2.2, h3 j x (by omega) a3.2]
  exact a9 j x y
theorem zu_SOF_fx {co va pl g n k t : Int} (hP : zq_le P P') (h1 : ∀ j, 0 ≤ j → j < t → P co.toNat = some 8 → h' co.toNat j = h co.toNat j) (h2 : ∀ j, 0 ≤ j → j < t → P va.toNat = some 9 → h' va.toNat j = h va.toNat j) (h3 : ∀ j, 0 ≤ j → j < t → P pl.toNat = some 10 → h' pl.toNat j = h pl.toNat j) (z : zu_SOF co va pl g n k t P h) : zu_SOF co va pl g n k t P' h' := by
  obtain ⟨a1, a2, a3, a4, a5, a6⟩ := z
  refine ⟨zu_on_le hP a1, zu_on_le hP a2, zu_on_le hP a3, a4, a5, fun j x y => ?_⟩
  rw [h1 j x y a1.2, h2 j x y a2.2, h3 j x y a3.2]
  exact a6 j x y
theorem zu_WR_fx {a t : Int} (hP : zq_le P P') (h1 : ∀ j, 0 ≤ j → j < t → P a.toNat = some 5 → h' a.toNat j = h a.toNat j) (z : zu_WR a t P h) : zu_WR a t P' h' := by
  obtain ⟨a1, a2, a3, a4⟩ := z
  refine ⟨zu_on_le hP a1, a2, a3, fun j x y => ?_⟩
  rw [h1 j x y a1.2]
  exact a4 j x y
end ZUFX
