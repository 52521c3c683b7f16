/-! PIECES of a tape, pure: digits of the tape's number, kinds of bytes, words, numbers, tokens (start, end, code, value) -/
noncomputable def zu_dg (g n j : Int) : Int := g / 256 ^ (n - 1 - j).toNat % 256
theorem zu_dg_cd {f : Int → Int} : ∀ (n : Nat) (j : Int), 0 ≤ j → j < n → zu_dg (zt_cd f n) n j = f j % 256
  | 0, j, h1, h2 => by omega
  | n + 1, j, h1, h2 => by
    have d1 := Int.emod_nonneg (f n) (show (256 : Int) ≠ 0 by decide)
    have d2 := Int.emod_lt_of_pos (f n) (show (0 : Int) < 256 by decide)
    have e0 : zt_cd f (n + 1) = 256 * zt_cd f n + f n % 256 := rfl
    by_cases h : j = (n : Int)
    · have e1 : (((n + 1 : Nat) : Int) - 1 - j).toNat = 0 := by omega
      unfold zu_dg
      rw [e1, Int.pow_zero, Int.ediv_one, e0, h]
      omega
    · have e1 : (((n + 1 : Nat) : Int) - 1 - j).toNat = ((n : Int) - 1 - j).toNat + 1 := by omega
      have ih : zt_cd f n / 256 ^ ((n : Int) - 1 - j).toNat % 256 = f j % 256 := zu_dg_cd n j h1 (by omega)
      have e2 : (256 * zt_cd f n + f n % 256) / 256 = zt_cd f n := by omega
      unfold zu_dg
      rw [e1, Int.pow_succ', ← Int.ediv_ediv_of_nonneg (show (0 : Int) ≤ 256 by decide), e0, e2]
      exact ih
theorem zu_dg_TC {k : Nat} {a n g : Int} {P : zq_Ty} {h : zq_H} (ht : zt_TC k (zq_en [a, n, g]) P h) {j : Int} (h1 : 0 ≤ j) (h2 : j < n) : zu_dg g n j = h a.toNat j % 256 := by
  obtain ⟨-, -, k3, -, k5⟩ := ht
  have k3 : 0 ≤ n := k3
  have k5 : g = zt_cd (h a.toNat) n.toNat := k5
  have e : ((n.toNat : Nat) : Int) = n := by omega
  have := zu_dg_cd (f := h a.toNat) n.toNat j h1 (by omega)
  rw [e, ← k5] at this
  exact this
noncomputable def zu_kd (b : Int) : Int := if b = 32 then 0 else if 97 ≤ b ∧ b ≤ 122 then 1 else if 48 ≤ b ∧ b ≤ 57 then 2 else 3
theorem zu_kd0 {b : Int} (h : b = 32) : zu_kd b = 0 := by unfold zu_kd; rw [if_pos h]
theorem zu_kd1 {b : Int} (h1 : 97 ≤ b) (h2 : b ≤ 122) : zu_kd b = 1 := by unfold zu_kd; rw [if_neg (by omega), if_pos ⟨h1, h2⟩]
theorem zu_kd2 {b : Int} (h1 : 48 ≤ b) (h2 : b ≤ 57) : zu_kd b = 2 := by unfold zu_kd; rw [if_neg (by omega), if_neg (by omega), if_pos ⟨h1, h2⟩]
theorem zu_kd3 {b : Int} (h0 : b ≠ 32) (h1 : ¬ (97 ≤ b ∧ b ≤ 122)) (h2 : ¬ (48 ≤ b ∧ b ≤ 57)) : zu_kd b = 3 := by unfold zu_kd; rw [if_neg h0, if_neg h1, if_neg h2]
theorem zu_kd_cases (b : Int) : (b = 32 ∧ zu_kd b = 0) ∨ (97 ≤ b ∧ b ≤ 122 ∧ zu_kd b = 1) ∨ (48 ≤ b ∧ b ≤ 57 ∧ zu_kd b = 2) ∨ (b ≠ 32 ∧ ¬ (97 ≤ b ∧ b ≤ 122) ∧ ¬ (48 ≤ b ∧ b ≤ 57) ∧ zu_kd b = 3) := by
  by_cases h0 : b = 32
  · exact Or.inl ⟨h0, zu_kd0 h0⟩
  by_cases h1 : 97 ≤ b ∧ b ≤ 122
  · exact Or.inr (Or.inl ⟨h1.1, h1.2, zu_kd1 h1.1 h1.2⟩)
  by_cases h2 : 48 ≤ b ∧ b ≤ 57
  · exact Or.inr (Or.inr (Or.inl ⟨h2.1, h2.2, zu_kd2 h2.1 h2.2⟩))
  exact Or.inr (Or.inr (Or.inr ⟨h0, h1, h2, zu_kd3 h0 h1 h2⟩))
/-- where a run of one kind ends -/
noncomputable def zu_en (d : Int → Int) (n k : Int) : Nat → Int → Int
  | 0, p => p
  | F + 1, p => if p < n ∧ zu_kd (d p) = k then zu_en d n k F (p + 1) else p
theorem zu_en_eq {d : Int → Int} {n k q : Int} : ∀ (F : Nat) (p : Int), p ≤ q → q ≤ p + (F : Int) → (∀ j, p ≤ j → j < q → j < n ∧ zu_kd (d j) = k) → ¬ (q < n ∧ zu_kd (d q) = k) → zu_en d n k F p = q
  | 0, p, h1, h2, _, _ => by
    show p = q
    omega
  | F + 1, p, h1, h2, h3, h4 => by
    unfold zu_en
    by_cases e : p = q
    · rw [e, if_neg h4]
    · rw [if_pos (h3 p (Int.le_refl _) (by omega))]
      exact zu_en_eq F (p + 1) (by omega) (by omega) (fun j a b => h3 j (by omega) b) h4
/-- bytes from a place on -/
noncomputable def zu_bs (d : Int → Int) : Nat → Int → List Int
  | 0, _ => []
  | k + 1, p => d p :: zu_bs d k (p + 1)
/-- which of the words, the first one is i, z without -/
noncomputable def zu_fi (B : List Int) : List (List Int) → Int → Int → Int
  | [], _, z => z
  | w :: ws, i, z => if B = w then i else zu_fi B ws (i + 1) z
theorem zu_fi_not {B : List Int} : ∀ (ws : List (List Int)) (i z : Int), ¬ B ∈ ws → zu_fi B ws i z = z
  | [], _, _, _ => rfl
  | w :: ws, i, z, h => by
    have h1 : ¬ B = w := fun e => h (by rw [e]; exact List.mem_cons_self ..)
    have h2 : ¬ B ∈ ws := fun m => h (List.mem_cons_of_mem _ m)
    unfold zu_fi
    rw [if_neg h1]
    exact zu_fi_not ws (i + 1) z h2
theorem zu_fi_in {B : List Int} : ∀ (ws : List (List Int)) (i z : Int), zu_fi B ws i z = z ∨ (i ≤ zu_fi B ws i z ∧ zu_fi B ws i z < i + (ws.length : Int))
  | [], _, _ => Or.inl rfl
  | w :: ws, i, z => by
    unfold zu_fi
    have e : ((w :: ws).length : Int) = (ws.length : Int) + 1 := by rw [List.length_cons]; omega
    by_cases h : B = w
    · rw [if_pos h]
      refine Or.inr ⟨Int.le_refl _, ?_⟩
      omega
    · rw [if_neg h]
      rcases zu_fi_in ws (i + 1) z with h1 | ⟨h1, h2⟩
      · exact Or.inl h1
      · exact Or.inr ⟨by omega, by omega⟩
/-- words of a row of letters, each with a blank behind it -/
noncomputable def zu_cs (c : Int) : List (List Int) → List (List Int)
  | [] => []
  | w :: ws => (c :: w) :: ws
noncomputable def zu_sp : List Int → List (List Int)
  | [] => []
  | c :: l => if c = 32 then [] :: zu_sp l else zu_cs c (zu_sp l)
noncomputable def zu_cC : List Int := [100, 111, 101, 114, 32, 115, 105, 103, 110, 32, 107, 105, 110, 100, 32, 119, 111, 114, 116, 104, 32, 112, 108, 97, 99, 101, 32, 100, 97, 116, 101, 32, 119, 101, 101, 107, 32, 109, 111, 111, 100, 32, 100, 97, 121, 32, 100, 111, 110, 101, 32, 108, 97, 116, 101, 115, 116, 32, 101, 118, 101, 110, 32, 98, 97, 108, 97, 110, 99, 101, 32, 99, 108, 111, 99, 107, 32, 97, 110, 115, 119, 101, 114, 115, 32, 111, 119, 101, 115, 32, 98, 97, 114, 115, 32, 100, 111, 32, 112, 97, 121, 32, 119, 105, 110, 100, 32, 112, 97, 115, 115, 32, 98, 121, 32, 116, 111, 32, 97, 116, 32, 116, 105, 109, 101, 115, 32, 105, 102, 32, 111, 114, 32, 97, 110, 100, 32, 110, 111, 116, 32]
noncomputable def zu_cR : List Int := [97, 110, 115, 119, 101, 114, 115, 32, 111, 119, 101, 115, 32, 98, 97, 114, 115, 32, 105, 102, 32, 111, 114, 32, 97, 110, 100, 32, 110, 111, 116, 32, 100, 111, 101, 114, 32, 115, 105, 103, 110, 32, 107, 105, 110, 100, 32, 119, 111, 114, 116, 104, 32, 112, 108, 97, 99, 101, 32, 100, 97, 116, 101, 32, 119, 101, 101, 107, 32, 109, 111, 111, 100, 32, 100, 97, 121, 32, 100, 111, 110, 101, 32, 108, 97, 116, 101, 115, 116, 32, 101, 118, 101, 110, 32, 98, 97, 108, 97, 110, 99, 101, 32, 99, 108, 111, 99, 107, 32, 100, 111, 32, 98, 121, 32, 97, 116, 32, 112, 97, 121, 32, 116, 111, 32, 119, 105, 110, 100, 32, 112, 97, 115, 115, 32, 116, 105, 109, 101, 115, 32]
/-- codes of the class as the reference has them -/
noncomputable def zu_mp (c : Int) : Int := if 32 ≤ c then c + 68 else ([8, 9, 10, 11, 12, 13, 14, 15, 16, 17, 18, 19, 20, 21, 1, 2, 3, 22, 25, 27, 28, 23, 26, 24, 29, 4, 5, 6, 7, 0, 50, 0] : List Int).getD c.toNat 0
theorem zu_lnC : (zu_sp zu_cC).length = 29 := by decide +kernel
theorem zu_lnR : (zu_sp zu_cR).length = 29 := by decide +kernel
theorem zu_fiC (B : List Int) : 0 ≤ zu_fi B (zu_sp zu_cC) 0 29 ∧ zu_fi B (zu_sp zu_cC) 0 29 ≤ 29 := by
  have := zu_fi_in (B := B) (zu_sp zu_cC) 0 29
  rw [zu_lnC] at this
  omega
theorem zu_fiR (B : List Int) : 0 ≤ zu_fi B (zu_sp zu_cR) 1 0 ∧ zu_fi B (zu_sp zu_cR) 1 0 ≤ 29 := by
  have := zu_fi_in (B := B) (zu_sp zu_cR) 1 0
  rw [zu_lnR] at this
  omega
theorem zu_mp_fi (B : List Int) : zu_mp (zu_fi B (zu_sp zu_cC) 0 29) = zu_fi B (zu_sp zu_cR) 1 0 := by
  by_cases h : B ∈ zu_sp zu_cR
  · have h1 : ∀ w ∈ zu_sp zu_cR, zu_mp (zu_fi w (zu_sp zu_cC) 0 29) = zu_fi w (zu_sp zu_cR) 1 0 := by decide +kernel
    exact h1 B h
  · have h1 : ∀ w ∈ zu_sp zu_cC, w ∈ zu_sp zu_cR := by decide +kernel
    rw [zu_fi_not _ _ _ h, zu_fi_not _ _ _ (fun m => h (h1 B m))]
    decide
/-- numbers, cut -/
noncomputable def zu_nm (d : Int → Int) (p : Int) : Nat → Int
  | 0 => 0
  | k + 1 => if 10 * zu_nm d p k + (d (p + (k : Int)) - 48) < 1001 then 10 * zu_nm d p k + (d (p + (k : Int)) - 48) else 1001
noncomputable def zu_tk (d : Int → Int) (p q : Int) : Int × Int × Int × Int := (p, q, (if zu_kd (d p) = 1 then zu_fi (zu_bs d (q - p).toNat p) (zu_sp zu_cR) 1 0 else if zu_kd (d p) = 2 then 50 else 100 + d p), (if zu_kd (d p) = 2 then zu_nm d p (q - p).toNat else 0))
noncomputable def zu_nx (d : Int → Int) (n p : Int) : Int := if zu_kd (d p) = 3 then p + 1 else zu_en d n (zu_kd (d p)) 400 (p + 1)
noncomputable def zu_lx (d : Int → Int) (n : Int) : Nat → Int → List (Int × Int × Int × Int)
  | 0, _ => []
  | F + 1, p => if n ≤ p then [] else if zu_kd (d p) = 0 then zu_lx d n F (p + 1) else zu_tk d p (zu_nx d n p) :: zu_lx d n F (zu_nx d n p)
noncomputable def zu_TL (g n : Int) : List (Int × Int × Int × Int) := zu_lx (zu_dg g n) n n.toNat 0
theorem zu_lx_end {d : Int → Int} {n : Int} : ∀ (F : Nat) (p : Int), n ≤ p → zu_lx d n F p = []
  | 0, _, _ => rfl
  | F + 1, p, h => by unfold zu_lx; rw [if_pos h]
theorem zu_drop_c {α : Type} {x : α} {r : List α} : ∀ (l : List α) (t : Nat), l.drop t = x :: r → l[t]? = some x ∧ l.drop (t + 1) = r ∧ t < l.length
  | [], t, h => by rw [List.drop_nil] at h; cases h
  | a :: l, 0, h => by
    have h : a :: l = x :: r := h
    injection h with h1 h2
    rw [h1, h2]
    exact ⟨rfl, rfl, Nat.succ_pos _⟩
  | a :: l, t + 1, h => by
    obtain ⟨h1, h2, h3⟩ := zu_drop_c l t h
    exact ⟨by rw [List.getElem?_cons_succ]; exact h1, h2, Nat.succ_lt_succ h3⟩
theorem zu_drop_n {α : Type} : ∀ (l : List α) (t : Nat), l.drop t = [] → t ≤ l.length → t = l.length
  | [], t, _, h2 => by
    have : t ≤ 0 := h2
    show t = 0
    omega
  | a :: l, 0, h, _ => by cases h
  | a :: l, t + 1, h, h2 => by
    have := zu_drop_n l t h (Nat.le_of_succ_le_succ h2)
    show t + 1 = l.length + 1
    omega
/-- t tokens lie before the place k -/
noncomputable def zu_at (g n k t : Int) : Prop := 0 ≤ t ∧ 0 ≤ k ∧ k ≤ n ∧ t.toNat ≤ (zu_TL g n).length ∧ ∃ F : Nat, n ≤ k + (F : Int) ∧ (zu_TL g n).drop t.toNat = zu_lx (zu_dg g n) n F k
/-- token j is that from p to q -/
noncomputable def zu_ent (g n j p q : Int) : Prop := 0 ≤ j ∧ 0 ≤ p ∧ p < q ∧ q ≤ n ∧ (zu_TL g n)[j.toNat]? = some (zu_tk (zu_dg g n) p q) ∧ zu_nx (zu_dg g n) n p = q
theorem zu_at_0 {g n : Int} (h : 0 ≤ n) : zu_at g n 0 0 := ⟨Int.le_refl _, Int.le_refl _, h, Nat.zero_le _, n.toNat, by omega, rfl⟩
theorem zu_at_blank {g n k t : Int} (h : zu_at g n k t) (h1 : k < n) (h2 : zu_kd (zu_dg g n k) = 0) : zu_at g n (k + 1) t := by
  obtain ⟨a1, a2, a3, a4, F, a5, a6⟩ := h
  match F, a5, a6 with
  | 0, a5, _ => omega
  | F + 1, a5, a6 =>
    refine ⟨a1, by omega, by omega, a4, F, by omega, ?_⟩
    rw [a6]
    show (if n ≤ k then [] else if zu_kd (zu_dg g n k) = 0 then zu_lx (zu_dg g n) n F (k + 1) else zu_tk (zu_dg g n) k (zu_nx (zu_dg g n) n k) :: zu_lx (zu_dg g n) n F (zu_nx (zu_dg g n) n k)) = zu_lx (zu_dg g n) n F (k + 1)
    rw [if_neg (by omega), if_pos h2]
theorem zu_at_tok {g n k t q : Int} (h : zu_at g n k t) (h1 : k < n) (h2 : zu_kd (zu_dg g n k) ≠ 0) (hq : zu_nx (zu_dg g n) n k = q) (h3 : k < q) (h4 : q ≤ n) : zu_ent g n t k q ∧ zu_at g n q (t + 1) := by
  obtain ⟨a1, a2, a3, a4, F, a5, a6⟩ := h
  match F, a5, a6 with
  | 0, a5, _ => omega
  | F + 1, a5, a6 =>
    unfold zu_lx at a6
    rw [if_neg (by omega), if_neg h2, hq] at a6
    obtain ⟨b1, b2, b3⟩ := zu_drop_c _ _ a6
    have e : (t + 1).toNat = t.toNat + 1 := by omega
    refine ⟨⟨a1, a2, h3, h4, b1, hq⟩, by omega, by omega, h4, ?_, F, by omega, ?_⟩
    · rw [e]; exact b3
    · rw [e]; exact b2
theorem zu_at_end {g n k t : Int} (h : zu_at g n k t) (h1 : n ≤ k) : t = ((zu_TL g n).length : Int) := by
  obtain ⟨a1, a2, a3, a4, F, a5, a6⟩ := h
  rw [zu_lx_end F k h1] at a6
  have := zu_drop_n _ _ a6 a4
  omega
/-- bytes of one kind from k to j -/
noncomputable def zu_rn (g n k j c : Int) : Prop := 0 ≤ k ∧ k < j ∧ j ≤ n ∧ ∀ i, k ≤ i → i < j → zu_kd (zu_dg g n i) = c
theorem zu_rn_nx {g n k j c : Int} (h : zu_rn g n k j c) (hn : n ≤ 400) (hc : c = 1 ∨ c = 2) (he : ¬ (j < n ∧ zu_kd (zu_dg g n j) = c)) : zu_nx (zu_dg g n) n k = j := by
  obtain ⟨h1, h2, h3, h4⟩ := h
  have h0 := h4 k (Int.le_refl _) h2
  unfold zu_nx
  rw [h0, if_neg (by omega)]
  exact zu_en_eq 400 (k + 1) (by omega) (by omega) (fun i a b => ⟨by omega, h4 i (by omega) b⟩) he
theorem zu_en_run {d : Int → Int} {n k q : Int} : ∀ (F : Nat) (p : Int), zu_en d n k F p = q → ∀ i, p ≤ i → i < q → zu_kd (d i) = k
  | 0, p, h, i, h1, h2 => by
    have h : p = q := h
    omega
  | F + 1, p, h, i, h1, h2 => by
    unfold zu_en at h
    by_cases c : p < n ∧ zu_kd (d p) = k
    · rw [if_pos c] at h
      by_cases e : i = p
      · rw [e]; exact c.2
      · exact zu_en_run F (p + 1) h i (by omega) h2
    · rw [if_neg c] at h
      omega
theorem zu_nx_rn {g n p q : Int} (h : zu_nx (zu_dg g n) n p = q) (h0 : 0 ≤ p) (h1 : p < q) (h2 : q ≤ n) (hk : zu_kd (zu_dg g n p) = 2) : zu_rn g n p q 2 := by
  unfold zu_nx at h
  rw [hk, if_neg (by omega)] at h
  refine ⟨h0, h1, h2, fun i x y => ?_⟩
  by_cases e : i = p
  · rw [e]; exact hk
  · exact zu_en_run 400 (p + 1) h i (by omega) y
theorem zu_nx3 {g n k : Int} (h : zu_kd (zu_dg g n k) = 3) : zu_nx (zu_dg g n) n k = k + 1 := by
  unfold zu_nx
  rw [if_pos h]
/-- the class's look for a word: s to e is looked for, i the letter, w the word, m letters are the same (-1: not the same) -/
noncomputable def zu_sc (d : Int → Int) (s e w m : Int) : List (List Int) → Int
  | [] => 29
  | x :: r => if 0 ≤ m ∧ zu_bs d (e - s - m).toNat (s + m) = x then w else zu_fi (zu_bs d (e - s).toNat s) r (w + 1) 29
theorem zu_sc_0 {d : Int → Int} {s e w : Int} : ∀ ws, zu_sc d s e w 0 ws = zu_fi (zu_bs d (e - s).toNat s) ws w 29
  | [] => rfl
  | x :: r => by
    show (if 0 ≤ (0 : Int) ∧ zu_bs d (e - s - 0).toNat (s + 0) = x then w else zu_fi (zu_bs d (e - s).toNat s) r (w + 1) 29) = (if zu_bs d (e - s).toNat s = x then w else zu_fi (zu_bs d (e - s).toNat s) r (w + 1) 29)
    rw [show e - s - 0 = e - s by omega, show s + 0 = s by omega]
    by_cases h : zu_bs d (e - s).toNat s = x
    · rw [if_pos (show 0 ≤ (0 : Int) ∧ zu_bs d (e - s).toNat s = x from ⟨Int.le_refl _, h⟩), if_pos h]
    · rw [if_neg (show ¬ (0 ≤ (0 : Int) ∧ zu_bs d (e - s).toNat s = x) from fun z => h z.2), if_neg h]
noncomputable def zu_chC (i : Int) : Int := zu_cC.getD i.toNat 0
noncomputable def zu_chR (i : Int) : Int := zu_cR.getD i.toNat 0
theorem zu_lenC : zu_cC.length = 141 := by decide +kernel
theorem zu_lenR : zu_cR.length = 141 := by decide +kernel
theorem zu_drop_at {l : List Int} {i : Int} (h1 : 0 ≤ i) (h2 : i < l.length) : l.drop i.toNat = l.getD i.toNat 0 :: l.drop (i + 1).toNat := by
  have e : (i + 1).toNat = i.toNat + 1 := by omega
  have h3 : i.toNat < l.length := by omega
  rw [e, List.drop_eq_getElem_cons h3, List.getD_eq_getElem?_getD, List.getElem?_eq_getElem h3]
  rfl
theorem zu_sp_b {l : List Int} {i : Int} (h1 : 0 ≤ i) (h2 : i < l.length) (h : l.getD i.toNat 0 = 32) : zu_sp (l.drop i.toNat) = [] :: zu_sp (l.drop (i + 1).toNat) := by
  rw [zu_drop_at h1 h2]
  show (if l.getD i.toNat 0 = 32 then _ else _) = _
  rw [if_pos h]
theorem zu_sp_l {l : List Int} {i : Int} (h1 : 0 ≤ i) (h2 : i < l.length) (h : l.getD i.toNat 0 ≠ 32) : zu_sp (l.drop i.toNat) = zu_cs (l.getD i.toNat 0) (zu_sp (l.drop (i + 1).toNat)) := by
  rw [zu_drop_at h1 h2]
  show (if l.getD i.toNat 0 = 32 then _ else _) = _
  rw [if_neg h]
theorem zu_bs_c {d : Int → Int} {k p : Int} (h : 0 < k) : zu_bs d k.toNat p = d p :: zu_bs d (k - 1).toNat (p + 1) := by
  rw [show k.toNat = (k - 1).toNat + 1 by omega]
  rfl
/-- a word of the reference: from k on, m letters -/
noncomputable def zu_wl (k m : Int) : Prop := 0 ≤ k ∧ 0 ≤ m ∧ k + m < 141 ∧ zu_chR (k + m) = 32 ∧ ∀ j, k ≤ j → j < k + m → zu_chR j ≠ 32
theorem zu_sp_w {k : Int} : ∀ (m : Nat), zu_wl k m → zu_sp (zu_cR.drop k.toNat) = zu_bs zu_chR m k :: zu_sp (zu_cR.drop (k + m + 1).toNat)
  | 0, h => by
    obtain ⟨h1, h2, h3, h4, h5⟩ := h
    have e : k + ((0 : Nat) : Int) = k := by omega
    rw [e] at h3 h4 ⊢
    exact zu_sp_b h1 (by rw [zu_lenR]; omega) h4
  | m + 1, h => by
    obtain ⟨h1, h2, h3, h4, h5⟩ := h
    have e : k + ((m + 1 : Nat) : Int) = k + 1 + (m : Int) := by omega
    rw [e] at h3 h4 h5 ⊢
    have ih := zu_sp_w (k := k + 1) m ⟨by omega, by omega, h3, h4, fun j a b => h5 j (by omega) b⟩
    rw [zu_sp_l h1 (by rw [zu_lenR]; omega) (h5 k (Int.le_refl _) (by omega)), ih]
    rfl
theorem zu_lx_len {d : Int → Int} {n : Int} : ∀ (F : Nat) (p : Int), (zu_lx d n F p).length ≤ F
  | 0, _ => Nat.le_refl _
  | F + 1, p => by
    unfold zu_lx
    by_cases h1 : n ≤ p
    · rw [if_pos h1]; exact Nat.zero_le _
    · rw [if_neg h1]
      by_cases h2 : zu_kd (d p) = 0
      · rw [if_pos h2]
        exact Nat.le_succ_of_le (zu_lx_len F (p + 1))
      · rw [if_neg h2]
        exact Nat.succ_le_succ (zu_lx_len F _)
theorem zu_TL_len (g n : Int) : (zu_TL g n).length ≤ n.toNat := zu_lx_len _ _
theorem zu_ch_in (k : Int) (h1 : 0 ≤ k) (h2 : k < 141) : 32 ≤ zu_chR k ∧ zu_chR k ≤ 122 := by
  have h : ∀ j, j < 141 → 32 ≤ zu_cR.getD j 0 ∧ zu_cR.getD j 0 ≤ 122 := by decide +kernel
  exact h k.toNat (by omega)
theorem zu_bs_eq {d f : Int → Int} : ∀ (m : Nat) (p q : Int), (∀ j : Int, 0 ≤ j → j < m → d (p + j) = f (q + j)) → zu_bs d m p = zu_bs f m q
  | 0, _, _, _ => rfl
  | m + 1, p, q, h => by
    unfold zu_bs
    have h0 := h 0 (by omega) (by omega)
    rw [show p + 0 = p by omega, show q + 0 = q by omega] at h0
    rw [h0, zu_bs_eq m (p + 1) (q + 1) (fun j x y => by
      have := h (j + 1) (by omega) (by omega)
      rw [show p + 1 + j = p + (j + 1) by omega, show q + 1 + j = q + (j + 1) by omega]
      exact this)]
theorem zu_bs_ne {d f : Int → Int} : ∀ (m : Nat) (p q j : Int), 0 ≤ j → j < m → d (p + j) ≠ f (q + j) → zu_bs d m p ≠ zu_bs f m q
  | 0, _, _, j, h1, h2, _ => by omega
  | m + 1, p, q, j, h1, h2, h3 => by
    intro e
    unfold zu_bs at e
    injection e with e1 e2
    by_cases hj : j = 0
    · rw [hj, show p + 0 = p by omega, show q + 0 = q by omega] at h3
      exact h3 e1
    · refine zu_bs_ne m (p + 1) (q + 1) (j - 1) (by omega) (by omega) ?_ e2
      rw [show p + 1 + (j - 1) = p + j by omega, show q + 1 + (j - 1) = q + j by omega]
      exact h3
theorem zu_bs_len {d : Int → Int} : ∀ (m : Nat) (p : Int), (zu_bs d m p).length = m
  | 0, _ => rfl
  | m + 1, p => by
    show (zu_bs d m (p + 1)).length + 1 = m + 1
    rw [zu_bs_len m (p + 1)]
theorem zu_bs_nel {d f : Int → Int} {m m' : Nat} {p q : Int} (h : m ≠ m') : zu_bs d m p ≠ zu_bs f m' q := by
  intro e
  have := congrArg List.length e
  rw [zu_bs_len, zu_bs_len] at this
  exact h this
