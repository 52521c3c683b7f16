/-! WHAT IS TOLD ON A DAY; what is asked of it -/
noncomputable def zy_TO (S m T f u M d w q n r : Int) (P : zq_Ty) (h : zq_H) : Prop := ∃ W y, zl_WW W S d w q y u P h ∧ zk_YT M q n y P h ∧ zl_RW T f W w m r P h
theorem zy_TO_u {S m T f u M d w q n r r2 : Int} {P P' : zq_Ty} {h h' : zq_H} (a : zy_TO S m T f u M d w q n r P h) (b : zy_TO S m T f u M d w q n r2 P' h') : r = r2 := by
  obtain ⟨W, y, a1, a2, a3⟩ := a
  obtain ⟨X, z, b1, b2, b3⟩ := b
  have e : y = z := Eq.trans a2 (Eq.symm b2)
  subst e
  have e : W = X := Eq.trans a1 (Eq.symm b1)
  subst e
  exact zl_RW_u a3 b3
noncomputable def zw_t (S m T f u M d w q n : Int) : Int := Classical.epsilon (fun r => ∃ P h, zy_TO S m T f u M d w q n r P h)
theorem zw_t_of {S m T f u M d w q n r : Int} {P : zq_Ty} {h : zq_H} (k : zy_TO S m T f u M d w q n r P h) : r = zw_t S m T f u M d w q n := by
  obtain ⟨P', h', k'⟩ := Classical.epsilon_spec (p := fun r => ∃ P h, zy_TO S m T f u M d w q n r P h) ⟨r, P, h, k⟩
  exact zy_TO_u k k'
noncomputable def zw_TV (S m T f u M d w q n r : Int) (_ : zq_Ty) (_ : zq_H) : Prop := r = zw_t S m T f u M d w q n
noncomputable def zw_BA (S m T f u M d w q n b : Int) (_ : zq_Ty) (_ : zq_H) : Prop := b = if zw_t S m T f u M d w q n = 7 then 1 else 0
/-- what is owed then -/
noncomputable def zy_TW (S T f u M d w q n r : Int) (P : zq_Ty) (h : zq_H) : Prop := ∃ W y, zl_WW W S d w q y u P h ∧ zk_YT M q n y P h ∧ zl_RO T f W S d r P h
theorem zy_TW_u {S T f u M d w q n r r2 : Int} {P P' : zq_Ty} {h h' : zq_H} (a : zy_TW S T f u M d w q n r P h) (b : zy_TW S T f u M d w q n r2 P' h') : r = r2 := by
  obtain ⟨W, y, a1, a2, a3⟩ := a
  obtain ⟨X, z, b1, b2, b3⟩ := b
  have e : y = z := Eq.trans a2 (Eq.symm b2)
  subst e
  have e : W = X := Eq.trans a1 (Eq.symm b1)
  subst e
  exact zl_RO_u a3 b3
/-! the first day on which one told does -/
noncomputable def zw_FN (S m T f u M d w q x l : Int) (_ : zq_Ty) (_ : zq_H) : Prop := ∀ k : Int, 0 ≤ k → k < l → zw_t S m T f u M d w q k ≠ x
noncomputable def zw_FR (S m T f u M d w q x r : Int) (P : zq_Ty) (h : zq_H) : Prop := (0 ≤ r ∧ r ≤ 60 ∧ zw_t S m T f u M d w q r = x ∧ zw_FN S m T f u M d w q x r P h) ∨ (r = -1 ∧ zw_FN S m T f u M d w q x 61 P h)
theorem zw_FR_u {S m T f u M d w q x r r2 : Int} {P P' : zq_Ty} {h h' : zq_H} (a : zw_FR S m T f u M d w q x r P h) (b : zw_FR S m T f u M d w q x r2 P' h') : r = r2 := by
  rcases a with ⟨a1, a2, a3, a4⟩ | ⟨a1, a2⟩
  · rcases b with ⟨b1, b2, b3, b4⟩ | ⟨b1, b2⟩
    · by_cases c : r < r2
      · exact absurd a3 (b4 r a1 c)
      · by_cases d : r2 < r
        · exact absurd b3 (a4 r2 b1 d)
        · omega
    · exact absurd a3 (b2 r a1 (by omega))
  · rcases b with ⟨b1, b2, b3, b4⟩ | ⟨b1, b2⟩
    · exact absurd b3 (a2 r2 b1 (by omega))
    · omega
/-! after how many days it comes again -/
noncomputable def zw_PA (k : Nat) (a S m T f u M d w q l : Int) (P : zq_Ty) (h : zq_H) : Prop := zn_on a k P ∧ (0 ≤ l ∧ l ≤ 120) ∧ ∀ j : Int, 0 ≤ j → j < l → h a.toNat j = zw_t S m T f u M d w q j
noncomputable def zw_EQ (S m T f u M d w q p l : Int) (_ : zq_Ty) (_ : zq_H) : Prop := ∀ j : Int, 0 ≤ j → j < l → zw_t S m T f u M d w q j = zw_t S m T f u M d w q (j + p)
noncomputable def zw_NE (S m T f u M d w q p : Int) (_ : zq_Ty) (_ : zq_H) : Prop := ∃ j : Int, 0 ≤ j ∧ j + p < 120 ∧ zw_t S m T f u M d w q j ≠ zw_t S m T f u M d w q (j + p)
noncomputable def zw_PN (S m T f u M d w q l : Int) (P : zq_Ty) (h : zq_H) : Prop := 1 ≤ l ∧ ∀ p : Int, 1 ≤ p → p < l → zw_NE S m T f u M d w q p P h
noncomputable def zw_PR (S m T f u M d w q r : Int) (P : zq_Ty) (h : zq_H) : Prop := (1 ≤ r ∧ r ≤ 60 ∧ zw_EQ S m T f u M d w q r (120 - r) P h ∧ zw_PN S m T f u M d w q r P h) ∨ (r = -1 ∧ zw_PN S m T f u M d w q 61 P h)
theorem zw_NE_EQ {S m T f u M d w q p : Int} {P P' : zq_Ty} {h h' : zq_H} (a : zw_NE S m T f u M d w q p P h) (b : zw_EQ S m T f u M d w q p (120 - p) P' h') : False := by
  obtain ⟨j, j0, j1, j2⟩ := a
  exact j2 (b j j0 (by omega))
theorem zw_PR_u {S m T f u M d w q r r2 : Int} {P P' : zq_Ty} {h h' : zq_H} (a : zw_PR S m T f u M d w q r P h) (b : zw_PR S m T f u M d w q r2 P' h') : r = r2 := by
  rcases a with ⟨a1, a2, a3, a4⟩ | ⟨a1, a2⟩
  · rcases b with ⟨b1, b2, b3, b4⟩ | ⟨b1, b2⟩
    · by_cases c : r < r2
      · exact (zw_NE_EQ (b4.2 r a1 c) a3).elim
      · by_cases d : r2 < r
        · exact (zw_NE_EQ (a4.2 r2 b1 d) b3).elim
        · omega
    · exact (zw_NE_EQ (b2.2 r a1 (by omega)) a3).elim
  · rcases b with ⟨b1, b2, b3, b4⟩ | ⟨b1, b2⟩
    · exact (zw_NE_EQ (a2.2 r2 b1 (by omega)) b3).elim
    · omega
/-! how many -/
noncomputable def zw_c (g : Int → Int) : Nat → Int
  | 0 => 0
  | k + 1 => zw_c g k + if g k = 6 then 1 else 0
theorem zw_c_mono (g : Int → Int) : ∀ (a b : Nat), a ≤ b → zw_c g a ≤ zw_c g b
  | a, 0, h => by rw [show a = 0 by omega]; exact Int.le_refl _
  | a, b + 1, h => by
    by_cases e : a = b + 1
    · rw [e]; exact Int.le_refl _
    · have q := zw_c_mono g a b (by omega)
      show zw_c g a ≤ zw_c g b + (if g b = 6 then 1 else 0)
      split <;> omega
theorem zw_c_1 {g : Int → Int} {l : Int} (h0 : 0 ≤ l) : zw_c g (l + 1).toNat = zw_c g l.toNat + if g l = 6 then 1 else 0 := by
  rw [show (l + 1).toNat = l.toNat + 1 by omega]
  show zw_c g l.toNat + (if g (l.toNat : Int) = 6 then 1 else 0) = _
  rw [show ((l.toNat : Nat) : Int) = l by omega]
/-- days of nobody -/
noncomputable def zw_CC (S m T f u M d w q l c : Int) (_ : zq_Ty) (_ : zq_H) : Prop := 0 ≤ l ∧ c = zw_c (fun n => zw_t S m T f u M d w q n) l.toNat
/-- loopholes: all of the deeds before d -/
noncomputable def zw_s (t : Int → Int → Int) (m : Int) : Nat → Int
  | 0 => 0
  | d + 1 => zw_s t m d + zw_c (t d) m.toNat
theorem zw_s_1 {t : Int → Int → Int} {m d : Int} (h0 : 0 ≤ d) : zw_s t m (d + 1).toNat = zw_s t m d.toNat + zw_c (t d) m.toNat := by
  rw [show (d + 1).toNat = d.toNat + 1 by omega]
  show zw_s t m d.toNat + zw_c (t (d.toNat : Int)) m.toNat = _
  rw [show ((d.toNat : Nat) : Int) = d by omega]
theorem zw_s_mono (t : Int → Int → Int) (m : Int) : ∀ (a b : Nat), a ≤ b → zw_s t m a ≤ zw_s t m b
  | a, 0, h => by rw [show a = 0 by omega]; exact Int.le_refl _
  | a, b + 1, h => by
    by_cases e : a = b + 1
    · rw [e]; exact Int.le_refl _
    · have q := zw_s_mono t m a b (by omega)
      have z := zw_c_mono (t b) 0 m.toNat (by omega)
      have z0 : zw_c (t b) 0 = 0 := rfl
      show zw_s t m a ≤ zw_s t m b + zw_c (t b) m.toNat
      omega
noncomputable def zw_at (t : Int → Int → Int) (m d w : Int) : Int := zw_s t m d.toNat + zw_c (t d) w.toNat
/-- a loophole that is told: its place is before that of any later one -/
theorem zw_at_lt {t : Int → Int → Int} {m d w d2 w2 : Int} (h0 : 0 ≤ d) (h1 : 0 ≤ w) (h2 : w < m) (h3 : t d w = 6) (h4 : 0 ≤ w2) (h : d < d2 ∨ d = d2 ∧ w < w2) : zw_at t m d w < zw_at t m d2 w2 := by
  have a : zw_c (t d) (w + 1).toNat = zw_c (t d) w.toNat + 1 := by rw [zw_c_1 h1, if_pos h3]
  rcases h with h | ⟨h, h'⟩
  · have b := zw_c_mono (t d) (w + 1).toNat m.toNat (by omega)
    have c := zw_s_mono t m (d + 1).toNat d2.toNat (by omega)
    rw [zw_s_1 h0] at c
    have e := zw_c_mono (t d2) 0 w2.toNat (by omega)
    have e0 : zw_c (t d2) 0 = 0 := rfl
    unfold zw_at
    omega
  · subst h
    have b := zw_c_mono (t d) (w + 1).toNat w2.toNat (by omega)
    unfold zw_at
    omega
noncomputable def zw_T2 (S m T f u M q n : Int) (d w : Int) : Int := zw_t S m T f u M d w q n
noncomputable def zw_LP (S m T f u M q n i d w c : Int) (_ : zq_Ty) (_ : zq_H) : Prop := 0 ≤ d ∧ 0 ≤ w ∧ c = zw_at (zw_T2 S m T f u M q n) m d w ∧ ∀ a b : Int, 0 ≤ a → 0 ≤ b → b < m → (a < d ∨ a = d ∧ b < w) → zw_T2 S m T f u M q n a b = 6 → zw_at (zw_T2 S m T f u M q n) m a b ≠ i
noncomputable def zw_LR (S m e T f u M q n i r : Int) (P : zq_Ty) (h : zq_H) : Prop := (∃ d w, 0 ≤ d ∧ d < e ∧ 0 ≤ w ∧ w < m ∧ zw_T2 S m T f u M q n d w = 6 ∧ zw_at (zw_T2 S m T f u M q n) m d w = i ∧ r = 10 * d + w) ∨ (∃ c, zw_LP S m T f u M q n i e 0 c P h ∧ ((i = -1 ∧ r = c) ∨ (i ≠ -1 ∧ r = -1)))
theorem zw_LR_u {S m e T f u M q n i r r2 : Int} {P P' : zq_Ty} {h h' : zq_H} (a : zw_LR S m e T f u M q n i r P h) (b : zw_LR S m e T f u M q n i r2 P' h') : r = r2 := by
  rcases a with ⟨d, w, d0, d1, w0, w1, t1, c1, r1⟩ | ⟨c, k, z⟩
  · rcases b with ⟨d', w', d0', d1', w0', w1', t1', c1', r1'⟩ | ⟨c', k', z'⟩
    · by_cases x : d < d' ∨ d = d' ∧ w < w'
      · have := zw_at_lt d0 w0 w1 t1 w0' x; omega
      · by_cases y : d' < d ∨ d' = d ∧ w' < w
        · have := zw_at_lt d0' w0' w1' t1' w0 y; omega
        · have : d = d' := by omega
          have : w = w' := by omega
          omega
    · exact absurd c1 (k'.2.2.2 d w d0 w0 w1 (Or.inl d1) t1)
  · rcases b with ⟨d', w', d0', d1', w0', w1', t1', c1', r1'⟩ | ⟨c', k', z'⟩
    · exact absurd c1' (k.2.2.2 d' w' d0' w0' w1' (Or.inl d1') t1')
    · have e1 := k.2.2.1
      have e2 := k'.2.2.1
      rcases z with ⟨z1, z2⟩ | ⟨z1, z2⟩
      · rcases z' with ⟨y1, y2⟩ | ⟨y1, y2⟩
        · omega
        · exact absurd z1 y1
      · rcases z' with ⟨y1, y2⟩ | ⟨y1, y2⟩
        · exact absurd y1 z1
        · omega
