/-! EVALUATION over tokens, pure, as the reference does it. Kinds: 0 a part, 1 a term goes on, 2 a term, 3 a sum goes on, 4 a sum, 5 a plain test without 'not', 6 a plain test (acc: turned so far), 7 a row of 'and' goes on, 8 a row of 'and', 9 a row of 'or' goes on, 10 a test. Answer: the value, is it broken, the place behind -/
noncomputable def ze_out (z : Int) : Bool := decide (1000000000 < z) || decide (z < -1000000000)
noncomputable def ze_op (o a b : Int) : Int := if o = 142 then a * b else if o = 147 then a.tdiv b else a.tmod b
noncomputable def ze_mul (o : Int) : Bool := decide (o = 142) || (decide (o = 147) || decide (o = 137))
noncomputable def ze_add (o : Int) : Bool := decide (o = 143) || decide (o = 145)
noncomputable def ze_cmp (o a b : Int) : Bool := if o = 160 then decide (a < b) else if o = 162 then decide (b < a) else decide (a = b)
noncomputable def ze_bi (x : Bool) : Int := bif x then 1 else 0
/-- broken or not behind an operation -/
noncomputable def ze_bd (l b : Bool) (z : Int) : Int × Bool := (bif b || (l && ze_out z) then 0 else z, b || (l && ze_out z))
noncomputable def ze_m (o acc : Int) (l : Bool) (r : Int) (b : Bool) : Int × Bool := bif !decide (o = 142) && decide (r = 0) then ze_bd l (b || l) (ze_op o acc 1) else ze_bd l b (ze_op o acc r)
noncomputable def ze_a (o acc : Int) (l : Bool) (r : Int) (b : Bool) : Int × Bool := ze_bd l b (if o = 143 then acc + r else acc - r)
abbrev ze_R : Type := Nat → Int → Bool → Bool → Int → Int × Bool × Int
noncomputable def ze_par (c v : Int → Int) (w : Int → Int → Int) (l b : Bool) (p : Int) : Int × Bool × Int := (bif l && !b then (if c p = 50 then v p else if c p = 20 ∨ c p = 21 then w (c p) (v (p + 1)) else w (c p) 0) else 0, b, if c p = 20 ∨ c p = 21 then p + 2 else p + 1)
noncomputable def ze_s (c v : Int → Int) (w : Int → Int → Int) (R : ze_R) : ze_R
  | 0, _, l, b, p => if c p = 191 then ((R 4 0 l b (p + 1)).1, (R 4 0 l b (p + 1)).2.1, (R 4 0 l b (p + 1)).2.2 + 1) else ze_par c v w l b p
  | 1, acc, l, b, p => bif ze_mul (c p) then R 1 (ze_m (c p) acc l (R 0 0 l b (p + 1)).1 (R 0 0 l b (p + 1)).2.1).1 l (ze_m (c p) acc l (R 0 0 l b (p + 1)).1 (R 0 0 l b (p + 1)).2.1).2 (R 0 0 l b (p + 1)).2.2 else (acc, b, p)
  | 2, _, l, b, p => R 1 (R 0 0 l b p).1 l (R 0 0 l b p).2.1 (R 0 0 l b p).2.2
  | 3, acc, l, b, p => bif ze_add (c p) then R 3 (ze_a (c p) acc l (R 2 0 l b (p + 1)).1 (R 2 0 l b (p + 1)).2.1).1 l (ze_a (c p) acc l (R 2 0 l b (p + 1)).1 (R 2 0 l b (p + 1)).2.1).2 (R 2 0 l b (p + 1)).2.2 else (acc, b, p)
  | 4, _, l, b, p => R 3 (R 2 0 l b p).1 l (R 2 0 l b p).2.1 (R 2 0 l b p).2.2
  | 5, _, l, b, p => if c p = 140 then ((R 10 0 l b (p + 1)).1, (R 10 0 l b (p + 1)).2.1, (R 10 0 l b (p + 1)).2.2 + 1)
    else (ze_bi (l && (!(R 4 0 l (R 4 0 l b p).2.1 ((R 4 0 l b p).2.2 + 1)).2.1 && ze_cmp (c (R 4 0 l b p).2.2) (R 4 0 l b p).1 (R 4 0 l (R 4 0 l b p).2.1 ((R 4 0 l b p).2.2 + 1)).1)), (R 4 0 l (R 4 0 l b p).2.1 ((R 4 0 l b p).2.2 + 1)).2.1, (R 4 0 l (R 4 0 l b p).2.1 ((R 4 0 l b p).2.2 + 1)).2.2)
  | 6, acc, l, b, p => if c p = 7 then R 6 (1 - acc) l b (p + 1) else (ze_bi (!decide ((R 5 0 l b p).1 = acc)), (R 5 0 l b p).2.1, (R 5 0 l b p).2.2)
  | 7, acc, l, b, p => if c p = 6 then R 7 (ze_bi (decide (acc = 1) && decide ((R 6 0 (l && decide (acc = 1)) b (p + 1)).1 = 1))) l (R 6 0 (l && decide (acc = 1)) b (p + 1)).2.1 (R 6 0 (l && decide (acc = 1)) b (p + 1)).2.2 else (acc, b, p)
  | 8, _, l, b, p => R 7 (R 6 0 l b p).1 l (R 6 0 l b p).2.1 (R 6 0 l b p).2.2
  | 9, acc, l, b, p => if c p = 5 then R 9 (ze_bi (decide (acc = 1) || decide ((R 8 0 (l && !decide (acc = 1)) b (p + 1)).1 = 1))) l (R 8 0 (l && !decide (acc = 1)) b (p + 1)).2.1 (R 8 0 (l && !decide (acc = 1)) b (p + 1)).2.2 else (acc, b, p)
  | _ + 10, _, l, b, p => R 9 (R 8 0 l b p).1 l (R 8 0 l b p).2.1 (R 8 0 l b p).2.2
noncomputable def ze (c v : Int → Int) (w : Int → Int → Int) : Nat → ze_R
  | 0 => fun _ _ _ b p => (0, b, p)
  | f + 1 => ze_s c v w (ze c v w f)
/-- comes to that, whatever it is given beyond enough -/
noncomputable def ze_V (c v : Int → Int) (w : Int → Int → Int) (k : Nat) (acc : Int) (l b : Bool) (p r : Int) (b' : Bool) (p' : Int) : Prop := ∃ f0 : Nat, ∀ f, f0 ≤ f → ze c v w f k acc l b p = (r, b', p')
/-- all but the value -/
noncomputable def ze_U (c v : Int → Int) (w : Int → Int → Int) (k : Nat) (acc : Int) (l b : Bool) (p : Int) (b' : Bool) (p' : Int) : Prop := ∃ f0 : Nat, ∀ f, f0 ≤ f → (ze c v w f k acc l b p).2 = (b', p')
section ZEV
variable {c v : Int → Int} {w : Int → Int → Int}
theorem ze_V_fun {k : Nat} {acc p r p' r2 p2 : Int} {l b b' b2 : Bool} (h1 : ze_V c v w k acc l b p r b' p') (h2 : ze_V c v w k acc l b p r2 b2 p2) : r = r2 ∧ b' = b2 ∧ p' = p2 := by
  obtain ⟨f1, h1⟩ := h1
  obtain ⟨f2, h2⟩ := h2
  have e := (h1 (f1 + f2) (by omega)).symm.trans (h2 (f1 + f2) (by omega))
  simp only [Prod.mk.injEq] at e
  exact e
theorem ze_V.U {k : Nat} {acc p r p' : Int} {l b b' : Bool} (h : ze_V c v w k acc l b p r b' p') : ze_U c v w k acc l b p b' p' := by
  obtain ⟨f0, h⟩ := h
  exact ⟨f0, fun f hf => by rw [h f hf]⟩
theorem ze_V_1 {k : Nat} {acc p r p' : Int} {l b b' : Bool} (h : ∃ f0 : Nat, ∀ f, f0 ≤ f → ze_s c v w (ze c v w f) k acc l b p = (r, b', p')) : ze_V c v w k acc l b p r b' p' := by
  obtain ⟨f0, h⟩ := h
  refine ⟨f0 + 1, fun f hf => ?_⟩
  obtain ⟨m, rfl⟩ : ∃ m, f = m + 1 := ⟨f - 1, by omega⟩
  exact h m (by omega)
/-- the place behind doesn't hang on values -/
theorem ze_pos : ∀ (f k : Nat) (acc acc' : Int) (l l' b b' : Bool) (p : Int), (ze c v w f k acc l b p).2.2 = (ze c v w f k acc' l' b' p).2.2
  | 0, _, _, _, _, _, _, _, _ => rfl
  | f + 1, k, acc, acc', l, l', b, b', p => by
    have ih := ze_pos f
    show (ze_s c v w (ze c v w f) k acc l b p).2.2 = (ze_s c v w (ze c v w f) k acc' l' b' p).2.2
    match k with
    | 0 =>
      simp only [ze_s]
      split
      · simp only; rw [ih 4 0 0 l l' b b' (p + 1)]
      · rfl
    | 1 =>
      simp only [ze_s]
      cases ze_mul (c p) with
      | true => simp only [cond_true]; rw [ih 0 0 0 l l' b b' (p + 1)]; exact ih _ _ _ _ _ _ _ _
      | false => rfl
    | 2 => simp only [ze_s]; rw [ih 0 0 0 l l' b b' p]; exact ih _ _ _ _ _ _ _ _
    | 3 =>
      simp only [ze_s]
      cases ze_add (c p) with
      | true => simp only [cond_true]; rw [ih 2 0 0 l l' b b' (p + 1)]; exact ih _ _ _ _ _ _ _ _
      | false => rfl
    | 4 => simp only [ze_s]; rw [ih 2 0 0 l l' b b' p]; exact ih _ _ _ _ _ _ _ _
    | 5 =>
      simp only [ze_s]
      split
      · simp only; rw [ih 10 0 0 l l' b b' (p + 1)]
      · simp only; rw [ih 4 0 0 l l' b b' p]; exact ih _ _ _ _ _ _ _ _
    | 6 =>
      simp only [ze_s]
      split
      · exact ih _ _ _ _ _ _ _ _
      · simp only; rw [ih 5 0 0 l l' b b' p]
    | 7 =>
      simp only [ze_s]
      split
      · rw [ih 6 0 0 (l && decide (acc = 1)) (l' && decide (acc' = 1)) b b' (p + 1)]; exact ih _ _ _ _ _ _ _ _
      · rfl
    | 8 => simp only [ze_s]; rw [ih 6 0 0 l l' b b' p]; exact ih _ _ _ _ _ _ _ _
    | 9 =>
      simp only [ze_s]
      split
      · rw [ih 8 0 0 (l && !decide (acc = 1)) (l' && !decide (acc' = 1)) b b' (p + 1)]; exact ih _ _ _ _ _ _ _ _
      · rfl
    | k + 10 => simp only [ze_s]; rw [ih 8 0 0 l l' b b' p]; exact ih _ _ _ _ _ _ _ _
theorem ze_bd_d {b : Bool} {z : Int} : (ze_bd false b z).2 = b := by unfold ze_bd; simp
theorem ze_m_d {o acc r : Int} {b : Bool} : (ze_m o acc false r b).2 = b := by
  unfold ze_m
  cases (!decide (o = 142) && decide (r = 0)) with
  | true => simp only [cond_true]; rw [ze_bd_d, Bool.or_false]
  | false => simp only [cond_false]; rw [ze_bd_d]
theorem ze_a_d {o acc r : Int} {b : Bool} : (ze_a o acc false r b).2 = b := by unfold ze_a; rw [ze_bd_d]
/-- what isn't asked for breaks nothing -/
theorem ze_dead : ∀ (f k : Nat) (acc : Int) (b : Bool) (p : Int), (ze c v w f k acc false b p).2.1 = b
  | 0, _, _, _, _ => rfl
  | f + 1, k, acc, b, p => by
    have ih := ze_dead f
    show (ze_s c v w (ze c v w f) k acc false b p).2.1 = b
    match k with
    | 0 =>
      simp only [ze_s]
      split
      · simp only; rw [ih]
      · rfl
    | 1 =>
      simp only [ze_s]
      cases ze_mul (c p) with
      | true => simp only [cond_true]; rw [ih, ze_m_d, ih]
      | false => rfl
    | 2 => simp only [ze_s]; rw [ih, ih]
    | 3 =>
      simp only [ze_s]
      cases ze_add (c p) with
      | true => simp only [cond_true]; rw [ih, ze_a_d, ih]
      | false => rfl
    | 4 => simp only [ze_s]; rw [ih, ih]
    | 5 =>
      simp only [ze_s]
      split
      · simp only; rw [ih]
      · simp only; rw [ih, ih]
    | 6 =>
      simp only [ze_s]
      split
      · rw [ih]
      · simp only; rw [ih]
    | 7 =>
      simp only [ze_s]
      split
      · simp only [Bool.false_and]; rw [ih, ih]
      · rfl
    | 8 => simp only [ze_s]; rw [ih, ih]
    | 9 =>
      simp only [ze_s]
      split
      · simp only [Bool.false_and]; rw [ih, ih]
      · rfl
    | k + 10 => simp only [ze_s]; rw [ih, ih]
theorem ze_bd_b {l : Bool} {z : Int} : (ze_bd l true z).2 = true := by unfold ze_bd; simp
theorem ze_m_b {o acc r : Int} {l : Bool} : (ze_m o acc l r true).2 = true := by
  unfold ze_m
  cases (!decide (o = 142) && decide (r = 0)) with
  | true => simp only [cond_true, Bool.true_or]; rw [ze_bd_b]
  | false => simp only [cond_false]; rw [ze_bd_b]
theorem ze_a_b {o acc r : Int} {l : Bool} : (ze_a o acc l r true).2 = true := by unfold ze_a; rw [ze_bd_b]
/-- broken stays so -/
theorem ze_brk : ∀ (f k : Nat) (acc : Int) (l : Bool) (p : Int), (ze c v w f k acc l true p).2.1 = true
  | 0, _, _, _, _ => rfl
  | f + 1, k, acc, l, p => by
    have ih := ze_brk f
    show (ze_s c v w (ze c v w f) k acc l true p).2.1 = true
    match k with
    | 0 =>
      simp only [ze_s]
      split
      · simp only; rw [ih]
      · rfl
    | 1 =>
      simp only [ze_s]
      cases ze_mul (c p) with
      | true => simp only [cond_true]; rw [ih 0 0 l (p + 1), ze_m_b, ih]
      | false => rfl
    | 2 => simp only [ze_s]; rw [ih 0 0 l p, ih]
    | 3 =>
      simp only [ze_s]
      cases ze_add (c p) with
      | true => simp only [cond_true]; rw [ih 2 0 l (p + 1), ze_a_b, ih]
      | false => rfl
    | 4 => simp only [ze_s]; rw [ih 2 0 l p, ih]
    | 5 =>
      simp only [ze_s]
      split
      · simp only; rw [ih]
      · simp only; rw [ih 4 0 l p, ih]
    | 6 =>
      simp only [ze_s]
      split
      · rw [ih]
      · simp only; rw [ih]
    | 7 =>
      simp only [ze_s]
      split
      · rw [ih 6 0 _ (p + 1), ih]
      · rfl
    | 8 => simp only [ze_s]; rw [ih 6 0 l p, ih]
    | 9 =>
      simp only [ze_s]
      split
      · rw [ih 8 0 _ (p + 1), ih]
      · rfl
    | k + 10 => simp only [ze_s]; rw [ih 8 0 l p, ih]
theorem ze_V_dead {k : Nat} {acc p r p' : Int} {l b b' : Bool} (h : ze_V c v w k acc l b p r b' p') (acc2 : Int) (b2 : Bool) : ze_U c v w k acc2 false b2 p b2 p' := by
  obtain ⟨f0, h⟩ := h
  refine ⟨f0, fun f hf => ?_⟩
  have e1 := ze_pos (c := c) (v := v) (w := w) f k acc2 acc false l b2 b p
  rw [h f hf] at e1
  have e2 := ze_dead (c := c) (v := v) (w := w) f k acc2 b2 p
  exact Prod.ext e2 e1
theorem ze_V_brk {k : Nat} {acc p r p' : Int} {l b b' : Bool} (h : ze_V c v w k acc l b p r b' p') (acc2 : Int) (l2 : Bool) : ze_U c v w k acc2 l2 true p true p' := by
  obtain ⟨f0, h⟩ := h
  refine ⟨f0, fun f hf => ?_⟩
  have e1 := ze_pos (c := c) (v := v) (w := w) f k acc2 acc l2 l true b p
  rw [h f hf] at e1
  have e2 := ze_brk (c := c) (v := v) (w := w) f k acc2 l2 p
  exact Prod.ext e2 e1
/-! rules -/
theorem ze_part_n {acc p : Int} {l b : Bool} (h : c p ≠ 191) : ze_V c v w 0 acc l b p (ze_par c v w l b p).1 b (ze_par c v w l b p).2.2 := ze_V_1 ⟨0, fun f _ => by
  simp only [ze_s]; rw [if_neg h]; rfl⟩
theorem ze_part_b {acc p r p' : Int} {l b b' : Bool} (h : c p = 191) (h1 : ze_V c v w 4 0 l b (p + 1) r b' p') : ze_V c v w 0 acc l b p r b' (p' + 1) := by
  obtain ⟨f1, h1⟩ := h1
  exact ze_V_1 ⟨f1, fun f hf => by simp only [ze_s]; rw [if_pos h, h1 f hf]⟩
theorem ze_tl_end {acc p : Int} {l b : Bool} (h : ze_mul (c p) = false) : ze_V c v w 1 acc l b p acc b p := ze_V_1 ⟨0, fun f _ => by simp only [ze_s]; rw [h]; rfl⟩
theorem ze_tl_go {acc p r1 p1 r p' : Int} {l b b1 b' : Bool} (h : ze_mul (c p) = true) (h1 : ze_V c v w 0 0 l b (p + 1) r1 b1 p1) (h2 : ze_V c v w 1 (ze_m (c p) acc l r1 b1).1 l (ze_m (c p) acc l r1 b1).2 p1 r b' p') : ze_V c v w 1 acc l b p r b' p' := by
  obtain ⟨f1, h1⟩ := h1
  obtain ⟨f2, h2⟩ := h2
  exact ze_V_1 ⟨f1 + f2, fun f hf => by simp only [ze_s]; rw [h, h1 f (by omega)]; exact h2 f (by omega)⟩
theorem ze_term {acc p r1 p1 r p' : Int} {l b b1 b' : Bool} (h1 : ze_V c v w 0 0 l b p r1 b1 p1) (h2 : ze_V c v w 1 r1 l b1 p1 r b' p') : ze_V c v w 2 acc l b p r b' p' := by
  obtain ⟨f1, h1⟩ := h1
  obtain ⟨f2, h2⟩ := h2
  exact ze_V_1 ⟨f1 + f2, fun f hf => by simp only [ze_s]; rw [h1 f (by omega)]; exact h2 f (by omega)⟩
theorem ze_sl_end {acc p : Int} {l b : Bool} (h : ze_add (c p) = false) : ze_V c v w 3 acc l b p acc b p := ze_V_1 ⟨0, fun f _ => by simp only [ze_s]; rw [h]; rfl⟩
theorem ze_sl_go {acc p r1 p1 r p' : Int} {l b b1 b' : Bool} (h : ze_add (c p) = true) (h1 : ze_V c v w 2 0 l b (p + 1) r1 b1 p1) (h2 : ze_V c v w 3 (ze_a (c p) acc l r1 b1).1 l (ze_a (c p) acc l r1 b1).2 p1 r b' p') : ze_V c v w 3 acc l b p r b' p' := by
  obtain ⟨f1, h1⟩ := h1
  obtain ⟨f2, h2⟩ := h2
  exact ze_V_1 ⟨f1 + f2, fun f hf => by simp only [ze_s]; rw [h, h1 f (by omega)]; exact h2 f (by omega)⟩
theorem ze_sum {acc p r1 p1 r p' : Int} {l b b1 b' : Bool} (h1 : ze_V c v w 2 0 l b p r1 b1 p1) (h2 : ze_V c v w 3 r1 l b1 p1 r b' p') : ze_V c v w 4 acc l b p r b' p' := by
  obtain ⟨f1, h1⟩ := h1
  obtain ⟨f2, h2⟩ := h2
  exact ze_V_1 ⟨f1 + f2, fun f hf => by simp only [ze_s]; rw [h1 f (by omega)]; exact h2 f (by omega)⟩
theorem ze_pos_b {acc p r p' : Int} {l b b' : Bool} (h : c p = 140) (h1 : ze_V c v w 10 0 l b (p + 1) r b' p') : ze_V c v w 5 acc l b p r b' (p' + 1) := by
  obtain ⟨f1, h1⟩ := h1
  exact ze_V_1 ⟨f1, fun f hf => by simp only [ze_s]; rw [if_pos h, h1 f hf]⟩
theorem ze_pos_c {acc p r1 p1 r2 p2 : Int} {l b b1 b2 : Bool} (h : c p ≠ 140) (h1 : ze_V c v w 4 0 l b p r1 b1 p1) (h2 : ze_V c v w 4 0 l b1 (p1 + 1) r2 b2 p2) : ze_V c v w 5 acc l b p (ze_bi (l && (!b2 && ze_cmp (c p1) r1 r2))) b2 p2 := by
  obtain ⟨f1, h1⟩ := h1
  obtain ⟨f2, h2⟩ := h2
  exact ze_V_1 ⟨f1 + f2, fun f hf => by simp only [ze_s]; rw [if_neg h, h1 f (by omega)]; simp only; rw [h2 f (by omega)]⟩
theorem ze_pl_n {acc p r p' : Int} {l b b' : Bool} (h : c p = 7) (h1 : ze_V c v w 6 (1 - acc) l b (p + 1) r b' p') : ze_V c v w 6 acc l b p r b' p' := by
  obtain ⟨f1, h1⟩ := h1
  exact ze_V_1 ⟨f1, fun f hf => by simp only [ze_s]; rw [if_pos h]; exact h1 f hf⟩
theorem ze_pl_p {acc p r p' : Int} {l b b' : Bool} (h : c p ≠ 7) (h1 : ze_V c v w 5 0 l b p r b' p') : ze_V c v w 6 acc l b p (ze_bi (!decide (r = acc))) b' p' := by
  obtain ⟨f1, h1⟩ := h1
  exact ze_V_1 ⟨f1, fun f hf => by simp only [ze_s]; rw [if_neg h, h1 f hf]⟩
theorem ze_bl_end {acc p : Int} {l b : Bool} (h : c p ≠ 6) : ze_V c v w 7 acc l b p acc b p := ze_V_1 ⟨0, fun f _ => by simp only [ze_s]; rw [if_neg h]⟩
theorem ze_bl_go {p r1 p1 r p' : Int} {l b b1 b' : Bool} (h : c p = 6) (h1 : ze_V c v w 6 0 l b (p + 1) r1 b1 p1) (h2 : ze_V c v w 7 (ze_bi (decide (r1 = 1))) l b1 p1 r b' p') : ze_V c v w 7 1 l b p r b' p' := by
  obtain ⟨f1, h1⟩ := h1
  obtain ⟨f2, h2⟩ := h2
  exact ze_V_1 ⟨f1 + f2, fun f hf => by
    simp only [ze_s]
    rw [if_pos h, show (l && decide True) = l by simp, h1 f (by omega)]
    simp only [decide_true, Bool.true_and]
    exact h2 f (by omega)⟩
theorem ze_bl_no {acc p p1 r p' : Int} {l b b1 b' : Bool} (ha : acc ≠ 1) (h : c p = 6) (h1 : ze_U c v w 6 0 false b (p + 1) b1 p1) (h2 : ze_V c v w 7 0 l b1 p1 r b' p') : ze_V c v w 7 acc l b p r b' p' := by
  obtain ⟨f1, h1⟩ := h1
  obtain ⟨f2, h2⟩ := h2
  exact ze_V_1 ⟨f1 + f2, fun f hf => by
    simp only [ze_s]
    rw [if_pos h, decide_eq_false ha, Bool.and_false, h1 f (by omega)]
    simp only [Bool.false_and]
    exact h2 f (by omega)⟩
theorem ze_both {acc p r1 p1 r p' : Int} {l b b1 b' : Bool} (h1 : ze_V c v w 6 0 l b p r1 b1 p1) (h2 : ze_V c v w 7 r1 l b1 p1 r b' p') : ze_V c v w 8 acc l b p r b' p' := by
  obtain ⟨f1, h1⟩ := h1
  obtain ⟨f2, h2⟩ := h2
  exact ze_V_1 ⟨f1 + f2, fun f hf => by simp only [ze_s]; rw [h1 f (by omega)]; exact h2 f (by omega)⟩
theorem ze_ol_end {acc p : Int} {l b : Bool} (h : c p ≠ 5) : ze_V c v w 9 acc l b p acc b p := ze_V_1 ⟨0, fun f _ => by simp only [ze_s]; rw [if_neg h]⟩
theorem ze_ol_go {acc p r1 p1 r p' : Int} {l b b1 b' : Bool} (ha : acc ≠ 1) (h : c p = 5) (h1 : ze_V c v w 8 0 l b (p + 1) r1 b1 p1) (h2 : ze_V c v w 9 (ze_bi (decide (r1 = 1))) l b1 p1 r b' p') : ze_V c v w 9 acc l b p r b' p' := by
  obtain ⟨f1, h1⟩ := h1
  obtain ⟨f2, h2⟩ := h2
  exact ze_V_1 ⟨f1 + f2, fun f hf => by
    simp only [ze_s]
    rw [if_pos h, decide_eq_false ha, Bool.not_false, Bool.and_true, h1 f (by omega)]
    simp only [Bool.false_or]
    exact h2 f (by omega)⟩
theorem ze_ol_no {p p1 r p' : Int} {l b b1 b' : Bool} (h : c p = 5) (h1 : ze_U c v w 8 0 false b (p + 1) b1 p1) (h2 : ze_V c v w 9 1 l b1 p1 r b' p') : ze_V c v w 9 1 l b p r b' p' := by
  obtain ⟨f1, h1⟩ := h1
  obtain ⟨f2, h2⟩ := h2
  exact ze_V_1 ⟨f1 + f2, fun f hf => by
    simp only [ze_s]
    rw [if_pos h, show (l && !decide True) = false by simp, h1 f (by omega)]
    simp only [decide_true, Bool.true_or]
    exact h2 f (by omega)⟩
theorem ze_test {acc p r1 p1 r p' : Int} {l b b1 b' : Bool} (h1 : ze_V c v w 8 0 l b p r1 b1 p1) (h2 : ze_V c v w 9 r1 l b1 p1 r b' p') : ze_V c v w 10 acc l b p r b' p' := by
  obtain ⟨f1, h1⟩ := h1
  obtain ⟨f2, h2⟩ := h2
  exact ze_V_1 ⟨f1 + f2, fun f hf => by
    show ze c v w f 9 (ze c v w f 8 0 l b p).1 l (ze c v w f 8 0 l b p).2.1 (ze c v w f 8 0 l b p).2.2 = _
    rw [h1 f (by omega)]; exact h2 f (by omega)⟩
end ZEV
