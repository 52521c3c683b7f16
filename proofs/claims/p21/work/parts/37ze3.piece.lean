/-! WHERE A PART, A TERM .. ENDS: the codes alone tell it; with that it has a value -/
noncomputable def zt_s (c : Int → Int) (R : Nat → Int → Option Int) : Nat → Int → Option Int
  | 0, p => if c p = 191 then (R 4 (p + 1)).map (fun q => q + 1) else some (if c p = 20 ∨ c p = 21 then p + 2 else p + 1)
  | 1, p => bif ze_mul (c p) then (R 0 (p + 1)).bind (R 1) else some p
  | 2, p => (R 0 p).bind (R 1)
  | 3, p => bif ze_add (c p) then (R 2 (p + 1)).bind (R 3) else some p
  | 4, p => (R 2 p).bind (R 3)
  | 5, p => if c p = 140 then (R 10 (p + 1)).map (fun q => q + 1) else (R 4 p).bind (fun q => R 4 (q + 1))
  | 6, p => if c p = 7 then R 6 (p + 1) else R 5 p
  | 7, p => if c p = 6 then (R 6 (p + 1)).bind (R 7) else some p
  | 8, p => (R 6 p).bind (R 7)
  | 9, p => if c p = 5 then (R 8 (p + 1)).bind (R 9) else some p
  | _ + 10, p => (R 8 p).bind (R 9)
noncomputable def zt0 (c : Int → Int) : Nat → Nat → Int → Option Int
  | 0 => fun _ _ => none
  | f + 1 => zt_s c (zt0 c f)
theorem zt_map {x : Option Int} {q : Int} (h : x.map (fun q => q + 1) = some q) : x = some (q - 1) := by
  cases x with
  | none => cases h
  | some y =>
    have h : some (y + 1) = some q := h
    have := Option.some.inj h
    congr 1; omega
theorem zt_bind {x : Option Int} {R : Int → Option Int} {q : Int} (h : x.bind R = some q) : ∃ p, x = some p ∧ R p = some q := by
  cases x with
  | none => cases h
  | some y => exact ⟨y, rfl, h⟩
/-- enough is enough -/
theorem zt_ok {c v : Int → Int} {w : Int → Int → Int} : ∀ (f k : Nat) (p q : Int), zt0 c f k p = some q → ∀ (m : Nat) (acc : Int) (l b : Bool), ze c v w (f + m) k acc l b p = ze c v w f k acc l b p ∧ (ze c v w f k acc l b p).2.2 = q
  | 0, _, _, _, h => by cases h
  | f + 1, k, p, q, h => by
    intro m acc l b
    have ih := zt_ok (c := c) (v := v) (w := w) f
    have h : zt_s c (zt0 c f) k p = some q := h
    rw [show f + 1 + m = (f + m) + 1 by omega]
    show ze_s c v w (ze c v w (f + m)) k acc l b p = ze_s c v w (ze c v w f) k acc l b p ∧ (ze_s c v w (ze c v w f) k acc l b p).2.2 = q
    match k, h with
    | 0, h =>
      simp only [zt_s] at h
      simp only [ze_s]
      by_cases h0 : c p = 191
      · rw [if_pos h0] at h
        have h1 := zt_map h
        obtain ⟨a1, a2⟩ := ih 4 (p + 1) _ h1 m 0 l b
        rw [if_pos h0, if_pos h0, a1]
        exact ⟨rfl, by show (ze c v w f 4 0 l b (p + 1)).2.2 + 1 = q; rw [a2]; omega⟩
      · rw [if_neg h0] at h
        rw [if_neg h0, if_neg h0]
        exact ⟨rfl, Option.some.inj h⟩
    | 1, h =>
      simp only [zt_s] at h
      simp only [ze_s]
      cases h0 : ze_mul (c p) with
      | false => rw [h0] at h; exact ⟨rfl, Option.some.inj h⟩
      | true =>
        rw [h0] at h
        obtain ⟨p1, h1, h2⟩ := zt_bind h
        obtain ⟨a1, a2⟩ := ih 0 (p + 1) _ h1 m 0 l b
        simp only [cond_true]
        rw [a1, a2]
        exact ih 1 p1 q h2 m _ _ _
    | 2, h =>
      simp only [zt_s] at h
      simp only [ze_s]
      obtain ⟨p1, h1, h2⟩ := zt_bind h
      obtain ⟨a1, a2⟩ := ih 0 p _ h1 m 0 l b
      rw [a1, a2]
      exact ih 1 p1 q h2 m _ _ _
    | 3, h =>
      simp only [zt_s] at h
      simp only [ze_s]
      cases h0 : ze_add (c p) with
      | false => rw [h0] at h; exact ⟨rfl, Option.some.inj h⟩
      | true =>
        rw [h0] at h
        obtain ⟨p1, h1, h2⟩ := zt_bind h
        obtain ⟨a1, a2⟩ := ih 2 (p + 1) _ h1 m 0 l b
        simp only [cond_true]
        rw [a1, a2]
        exact ih 3 p1 q h2 m _ _ _
    | 4, h =>
      simp only [zt_s] at h
      simp only [ze_s]
      obtain ⟨p1, h1, h2⟩ := zt_bind h
      obtain ⟨a1, a2⟩ := ih 2 p _ h1 m 0 l b
      rw [a1, a2]
      exact ih 3 p1 q h2 m _ _ _
    | 5, h =>
      simp only [zt_s] at h
      simp only [ze_s]
      by_cases h0 : c p = 140
      · rw [if_pos h0] at h
        have h1 := zt_map h
        obtain ⟨a1, a2⟩ := ih 10 (p + 1) _ h1 m 0 l b
        rw [if_pos h0, if_pos h0, a1]
        exact ⟨rfl, by show (ze c v w f 10 0 l b (p + 1)).2.2 + 1 = q; rw [a2]; omega⟩
      · rw [if_neg h0] at h
        obtain ⟨p1, h1, h2⟩ := zt_bind h
        obtain ⟨a1, a2⟩ := ih 4 p _ h1 m 0 l b
        rw [if_neg h0, if_neg h0, a1, a2]
        obtain ⟨b1, b2⟩ := ih 4 (p1 + 1) _ h2 m 0 l (ze c v w f 4 0 l b p).2.1
        rw [b1]
        exact ⟨rfl, b2⟩
    | 6, h =>
      simp only [zt_s] at h
      simp only [ze_s]
      by_cases h0 : c p = 7
      · rw [if_pos h0] at h
        rw [if_pos h0, if_pos h0]
        exact ih 6 (p + 1) q h m _ _ _
      · rw [if_neg h0] at h
        obtain ⟨a1, a2⟩ := ih 5 p _ h m 0 l b
        rw [if_neg h0, if_neg h0, a1]
        exact ⟨rfl, a2⟩
    | 7, h =>
      simp only [zt_s] at h
      simp only [ze_s]
      by_cases h0 : c p = 6
      · rw [if_pos h0] at h
        obtain ⟨p1, h1, h2⟩ := zt_bind h
        obtain ⟨a1, a2⟩ := ih 6 (p + 1) _ h1 m 0 (l && decide (acc = 1)) b
        rw [if_pos h0, if_pos h0, a1, a2]
        exact ih 7 p1 q h2 m _ _ _
      · rw [if_neg h0] at h
        rw [if_neg h0, if_neg h0]
        exact ⟨rfl, Option.some.inj h⟩
    | 8, h =>
      simp only [zt_s] at h
      simp only [ze_s]
      obtain ⟨p1, h1, h2⟩ := zt_bind h
      obtain ⟨a1, a2⟩ := ih 6 p _ h1 m 0 l b
      rw [a1, a2]
      exact ih 7 p1 q h2 m _ _ _
    | 9, h =>
      simp only [zt_s] at h
      simp only [ze_s]
      by_cases h0 : c p = 5
      · rw [if_pos h0] at h
        obtain ⟨p1, h1, h2⟩ := zt_bind h
        obtain ⟨a1, a2⟩ := ih 8 (p + 1) _ h1 m 0 (l && !decide (acc = 1)) b
        rw [if_pos h0, if_pos h0, a1, a2]
        exact ih 9 p1 q h2 m _ _ _
      · rw [if_neg h0] at h
        rw [if_neg h0, if_neg h0]
        exact ⟨rfl, Option.some.inj h⟩
    | k + 10, h =>
      have h : ((zt0 c f) 8 p).bind ((zt0 c f) 9) = some q := h
      obtain ⟨p1, h1, h2⟩ := zt_bind h
      obtain ⟨a1, a2⟩ := ih 8 p _ h1 m 0 l b
      show ze c v w (f + m) 9 (ze c v w (f + m) 8 0 l b p).1 l (ze c v w (f + m) 8 0 l b p).2.1 (ze c v w (f + m) 8 0 l b p).2.2 = ze c v w f 9 (ze c v w f 8 0 l b p).1 l (ze c v w f 8 0 l b p).2.1 (ze c v w f 8 0 l b p).2.2 ∧ (ze c v w f 9 (ze c v w f 8 0 l b p).1 l (ze c v w f 8 0 l b p).2.1 (ze c v w f 8 0 l b p).2.2).2.2 = q
      rw [a1, a2]
      exact ih 9 p1 q h2 m _ _ _
noncomputable def zt_T (c : Int → Int) (k : Nat) (p q : Int) : Prop := ∃ f0 : Nat, ∀ f, f0 ≤ f → zt0 c f k p = some q
section ZTT
variable {c v : Int → Int} {w : Int → Int → Int}
theorem zt_V {k : Nat} {p q : Int} (h : zt_T c k p q) (acc : Int) (l b : Bool) : ∃ r b', ze_V c v w k acc l b p r b' q := by
  obtain ⟨f0, h⟩ := h
  have key := zt_ok (c := c) (v := v) (w := w) f0 k p q (h f0 (Nat.le_refl _))
  refine ⟨(ze c v w f0 k acc l b p).1, (ze c v w f0 k acc l b p).2.1, f0, fun f hf => ?_⟩
  obtain ⟨a1, a2⟩ := key (f - f0) acc l b
  rw [show f = f0 + (f - f0) by omega, a1, ← a2]
theorem zt_fun {k : Nat} {p q q2 : Int} (h1 : zt_T c k p q) (h2 : zt_T c k p q2) : q = q2 := by
  obtain ⟨f1, h1⟩ := h1
  obtain ⟨f2, h2⟩ := h2
  exact Option.some.inj ((h1 (f1 + f2) (by omega)).symm.trans (h2 (f1 + f2) (by omega)))
theorem zt_V_at {k : Nat} {p q r p' acc : Int} {l b b' : Bool} (h : zt_T c k p q) (h1 : ze_V c v w k acc l b p r b' p') : p' = q := by
  obtain ⟨r2, b2, h2⟩ := zt_V (v := v) (w := w) h acc l b
  exact (ze_V_fun h1 h2).2.2
theorem zt_1 {k : Nat} {p q : Int} (h : ∃ f0 : Nat, ∀ f, f0 ≤ f → zt_s c (zt0 c f) k p = some q) : zt_T c k p q := by
  obtain ⟨f0, h⟩ := h
  refine ⟨f0 + 1, fun f hf => ?_⟩
  obtain ⟨m, rfl⟩ : ∃ m, f = m + 1 := ⟨f - 1, by omega⟩
  exact h m (by omega)
theorem zt_part_n {p : Int} (h : c p ≠ 191) : zt_T c 0 p (if c p = 20 ∨ c p = 21 then p + 2 else p + 1) := zt_1 ⟨0, fun f _ => by simp only [zt_s]; rw [if_neg h]⟩
theorem zt_part_b {p q : Int} (h : c p = 191) (h1 : zt_T c 4 (p + 1) q) : zt_T c 0 p (q + 1) := by
  obtain ⟨f1, h1⟩ := h1
  exact zt_1 ⟨f1, fun f hf => by simp only [zt_s]; rw [if_pos h, h1 f hf]; rfl⟩
theorem zt_tl_end {p : Int} (h : ze_mul (c p) = false) : zt_T c 1 p p := zt_1 ⟨0, fun f _ => by simp only [zt_s]; rw [h]; rfl⟩
theorem zt_tl_go {p q p' : Int} (h : ze_mul (c p) = true) (h1 : zt_T c 0 (p + 1) q) (h2 : zt_T c 1 q p') : zt_T c 1 p p' := by
  obtain ⟨f1, h1⟩ := h1
  obtain ⟨f2, h2⟩ := h2
  exact zt_1 ⟨f1 + f2, fun f hf => by simp only [zt_s]; rw [h, h1 f (by omega)]; exact h2 f (by omega)⟩
theorem zt_two {k k1 k2 : Nat} {p q p' : Int} (hk : ∀ R : Nat → Int → Option Int, zt_s c R k p = (R k1 p).bind (R k2)) (h1 : zt_T c k1 p q) (h2 : zt_T c k2 q p') : zt_T c k p p' := by
  obtain ⟨f1, h1⟩ := h1
  obtain ⟨f2, h2⟩ := h2
  exact zt_1 ⟨f1 + f2, fun f hf => by rw [hk, h1 f (by omega)]; exact h2 f (by omega)⟩
theorem zt_sl_end {p : Int} (h : ze_add (c p) = false) : zt_T c 3 p p := zt_1 ⟨0, fun f _ => by simp only [zt_s]; rw [h]; rfl⟩
theorem zt_sl_go {p q p' : Int} (h : ze_add (c p) = true) (h1 : zt_T c 2 (p + 1) q) (h2 : zt_T c 3 q p') : zt_T c 3 p p' := by
  obtain ⟨f1, h1⟩ := h1
  obtain ⟨f2, h2⟩ := h2
  exact zt_1 ⟨f1 + f2, fun f hf => by simp only [zt_s]; rw [h, h1 f (by omega)]; exact h2 f (by omega)⟩
theorem zt_pos_b {p q : Int} (h : c p = 140) (h1 : zt_T c 10 (p + 1) q) : zt_T c 5 p (q + 1) := by
  obtain ⟨f1, h1⟩ := h1
  exact zt_1 ⟨f1, fun f hf => by simp only [zt_s]; rw [if_pos h, h1 f hf]; rfl⟩
theorem zt_pos_c {p q p' : Int} (h : c p ≠ 140) (h1 : zt_T c 4 p q) (h2 : zt_T c 4 (q + 1) p') : zt_T c 5 p p' := by
  obtain ⟨f1, h1⟩ := h1
  obtain ⟨f2, h2⟩ := h2
  exact zt_1 ⟨f1 + f2, fun f hf => by simp only [zt_s]; rw [if_neg h, h1 f (by omega)]; exact h2 f (by omega)⟩
theorem zt_pl_n {p q : Int} (h : c p = 7) (h1 : zt_T c 6 (p + 1) q) : zt_T c 6 p q := by
  obtain ⟨f1, h1⟩ := h1
  exact zt_1 ⟨f1, fun f hf => by simp only [zt_s]; rw [if_pos h]; exact h1 f hf⟩
theorem zt_pl_p {p q : Int} (h : c p ≠ 7) (h1 : zt_T c 5 p q) : zt_T c 6 p q := by
  obtain ⟨f1, h1⟩ := h1
  exact zt_1 ⟨f1, fun f hf => by simp only [zt_s]; rw [if_neg h]; exact h1 f hf⟩
theorem zt_bl_end {p : Int} (h : c p ≠ 6) : zt_T c 7 p p := zt_1 ⟨0, fun f _ => by simp only [zt_s]; rw [if_neg h]⟩
theorem zt_bl_go {p q p' : Int} (h : c p = 6) (h1 : zt_T c 6 (p + 1) q) (h2 : zt_T c 7 q p') : zt_T c 7 p p' := by
  obtain ⟨f1, h1⟩ := h1
  obtain ⟨f2, h2⟩ := h2
  exact zt_1 ⟨f1 + f2, fun f hf => by simp only [zt_s]; rw [if_pos h, h1 f (by omega)]; exact h2 f (by omega)⟩
theorem zt_ol_end {p : Int} (h : c p ≠ 5) : zt_T c 9 p p := zt_1 ⟨0, fun f _ => by simp only [zt_s]; rw [if_neg h]⟩
theorem zt_ol_go {p q p' : Int} (h : c p = 5) (h1 : zt_T c 8 (p + 1) q) (h2 : zt_T c 9 q p') : zt_T c 9 p p' := by
  obtain ⟨f1, h1⟩ := h1
  obtain ⟨f2, h2⟩ := h2
  exact zt_1 ⟨f1 + f2, fun f hf => by simp only [zt_s]; rw [if_pos h, h1 f (by omega)]; exact h2 f (by omega)⟩
end ZTT
/-! PIECES of code -/
/-- the code from s to s2 works out what the tokens from i to i2 say (kind k) -/
noncomputable def zp_ag (Y s s2 : Int) (code : Int → Int) : Prop := ∀ j, s ≤ j → j < s2 → code j = zn_dg Y j
/-- words that a program holds, where they are asked for: of laws 8, of orders 14 -/
noncomputable def zp_cw (o W : Int) (cw : Int → Int) : Prop := ∀ j, (o = 0 ∧ 0 ≤ j ∧ j < 8) ∨ (o = 1 ∧ 8 ≤ j ∧ j < 22) → cw j = zc_w o W j
noncomputable def zp_sem (o W : Int) (code : Int → Int) (size : Int) (need : Nat) (s s2 : Int) (f : List Int → List Int) (b : Bool) : Prop := ∀ cw : Int → Int, zp_cw o W cw → ∀ st : List Int, st.length + need ≤ 32 → (b = false → zc_to code cw size s st s2 (f st)) ∧ (b = true → zc_br code cw size s st s2)
noncomputable def zp_P (o g n Y : Int) (k need : Nat) (s s2 i i2 : Int) : Prop := 0 ≤ s ∧ s ≤ s2 ∧ zt_T (ze_c g n) k i i2 ∧ ∀ (W r : Int) (b : Bool), ze_V (ze_c g n) (ze_v g n) (ze_w o W) k 0 true false i r b i2 → ∀ (code : Int → Int) (size : Int), zp_ag Y s s2 code → s2 ≤ size → zp_sem o W code size need s s2 (fun st => r :: st) b
theorem zp_ag_sub {Y s s2 t t2 : Int} {code : Int → Int} (h : zp_ag Y s s2 code) (h1 : s ≤ t) (h2 : t2 ≤ s2) : zp_ag Y t t2 code := fun j x y => h j (by omega) (by omega)
theorem zp_P_up {o g n Y Y2 : Int} {k need : Nat} {s s2 i i2 : Int} (h : zp_P o g n Y k need s s2 i i2) (hY : ∀ j, s ≤ j → j < s2 → zn_dg Y2 j = zn_dg Y j) : zp_P o g n Y2 k need s s2 i i2 := by
  obtain ⟨h1, h2, h3, h4⟩ := h
  exact ⟨h1, h2, h3, fun W r b hV code size ha hs => h4 W r b hV code size (fun j x y => (ha j x y).trans (hY j x y)) hs⟩
theorem zp_P_need {o g n Y : Int} {k need need2 : Nat} {s s2 i i2 : Int} (h : zp_P o g n Y k need s s2 i i2) (hn : need ≤ need2) : zp_P o g n Y k need2 s s2 i i2 := by
  obtain ⟨h1, h2, h3, h4⟩ := h
  exact ⟨h1, h2, h3, fun W r b hV code size ha hs cw hcw st hst => h4 W r b hV code size ha hs cw hcw st (by omega)⟩
/-! SUMS: ahead of a part (A: what is to be added, S: what is to be scaled by; 0: nothing), behind one -/
noncomputable def zp_fin (c v : Int → Int) (w : Int → Int → Int) (A a x : Int) (b : Bool) (i r : Int) (b2 : Bool) (i2 : Int) : Prop := if A = 0 then ze_V c v w 3 x true b i r b2 i2 else ze_V c v w 3 (ze_a A a true x b).1 true (ze_a A a true x b).2 i r b2 i2
noncomputable def zp_st (A a : Int) (st : List Int) : List Int := if A = 0 then st else a :: st
noncomputable def zp_Q1 (o g n Y : Int) (need : Nat) (s s2 i i2 A : Int) : Prop := 0 ≤ s ∧ s ≤ s2 ∧ (∀ p q, zt_T (ze_c g n) 1 i2 p → zt_T (ze_c g n) 3 p q → zt_T (ze_c g n) 4 i q) ∧ ∀ W : Int, ∃ (t a : Int) (b : Bool), (∀ x b1 p1 r b2 p2, ze_V (ze_c g n) (ze_v g n) (ze_w o W) 1 t true b i2 x b1 p1 → zp_fin (ze_c g n) (ze_v g n) (ze_w o W) A a x b1 p1 r b2 p2 → ze_V (ze_c g n) (ze_v g n) (ze_w o W) 4 0 true false i r b2 p2) ∧ ∀ (code : Int → Int) (size : Int), zp_ag Y s s2 code → s2 ≤ size → zp_sem o W code size need s s2 (fun st => t :: zp_st A a st) b
noncomputable def zp_Q0 (o g n Y : Int) (need : Nat) (s s2 i i2 A S : Int) : Prop := 0 ≤ s ∧ s ≤ s2 ∧ (∀ p0 p q, zt_T (ze_c g n) 0 i2 p0 → zt_T (ze_c g n) 1 p0 p → zt_T (ze_c g n) 3 p q → zt_T (ze_c g n) 4 i q) ∧ ∀ W : Int, ∃ (t a : Int) (b : Bool), (∀ r0 b0 p0 x b1 p1 r b2 p2, ze_V (ze_c g n) (ze_v g n) (ze_w o W) 0 0 true b i2 r0 b0 p0 → (if S = 0 then ze_V (ze_c g n) (ze_v g n) (ze_w o W) 1 r0 true b0 p0 x b1 p1 else ze_V (ze_c g n) (ze_v g n) (ze_w o W) 1 (ze_m S t true r0 b0).1 true (ze_m S t true r0 b0).2 p0 x b1 p1) → zp_fin (ze_c g n) (ze_v g n) (ze_w o W) A a x b1 p1 r b2 p2 → ze_V (ze_c g n) (ze_v g n) (ze_w o W) 4 0 true false i r b2 p2) ∧ ∀ (code : Int → Int) (size : Int), zp_ag Y s s2 code → s2 ≤ size → zp_sem o W code size need s s2 (fun st => if S = 0 then zp_st A a st else t :: zp_st A a st) b
theorem zp_st_len {A a : Int} {st : List Int} : (zp_st A a st).length ≤ st.length + 1 := by
  unfold zp_st
  split
  · omega
  · rw [List.length_cons]; omega
section ZPS
variable {o g n Y : Int} {need : Nat} {s s2 s3 i i2 i3 A S : Int}
theorem zp_sem_refl {W : Int} {code : Int → Int} {size : Int} {f : List Int → List Int} (hf : ∀ st, f st = st) : zp_sem o W code size need s s f false := fun cw _ st _ => ⟨fun _ => by rw [hf]; exact zc_to_refl, fun z => by cases z⟩
theorem zp_Q0_0 (h : 0 ≤ s) : zp_Q0 o g n Y need s s i i 0 0 := by
  refine ⟨h, Int.le_refl _, fun p0 p q h1 h2 h3 => ?_, fun W => ⟨0, 0, false, ?_, ?_⟩⟩
  · exact zt_two (fun R => rfl) (zt_two (fun R => rfl) h1 h2) h3
  · intro r0 b0 p0 x b1 p1 r b2 p2 h1 h2 h3
    rw [if_pos rfl] at h2
    unfold zp_fin at h3
    rw [if_pos rfl] at h3
    exact ze_sum (ze_term h1 h2) h3
  · intro code size _ _
    exact zp_sem_refl (fun st => by rw [if_pos rfl]; unfold zp_st; rw [if_pos rfl])
/-- behind a part: nothing to scale by -/
theorem zp_Q1_n (h : zp_Q0 o g n Y need s s2 i i2 A 0) {need2 : Nat} (hp : zp_P o g n Y 0 need2 s2 s3 i2 i3) (hn : need2 + 1 ≤ need) : zp_Q1 o g n Y need s s3 i i3 A := by
  obtain ⟨a1, a2, a3, a4⟩ := h
  obtain ⟨b1, b2, b3, b4⟩ := hp
  refine ⟨a1, by omega, fun p q h1 h2 => a3 i3 p q b3 h1 h2, fun W => ?_⟩
  obtain ⟨t, a, b, e1, e2⟩ := a4 W
  obtain ⟨r0, b0, e3⟩ := zt_V (v := ze_v g n) (w := ze_w o W) b3 0 true b
  refine ⟨r0, a, b0, fun x c1 p1 r c2 p2 h1 h2 => e1 r0 b0 i3 x c1 p1 r c2 p2 e3 (by rw [if_pos rfl]; exact h1) h2, fun code size hag hsz cw hcw st hst => ?_⟩
  have q1 := e2 code size (zp_ag_sub hag (Int.le_refl _) b2) (by omega) cw hcw st hst
  dsimp only at q1
  rw [if_pos rfl] at q1
  cases b with
  | true =>
    have e4 : b0 = true := by
      obtain ⟨f0, e3⟩ := e3
      have := ze_brk (c := ze_c g n) (v := ze_v g n) (w := ze_w o W) f0 0 0 true i2
      rw [e3 f0 (Nat.le_refl _)] at this
      exact this
    exact ⟨fun z => (by rw [e4] at z; cases z), fun _ => zc_br_le (q1.2 rfl) b2⟩
  | false =>
    have l := @zp_st_len A a st
    have q2 := b4 W r0 b0 e3 code size (zp_ag_sub hag a2 (Int.le_refl _)) hsz cw hcw (zp_st A a st) (by omega)
    exact ⟨fun z => zc_to_trans (q1.1 rfl) (q2.1 z), fun z => zc_to_br (q1.1 rfl) (q2.2 z)⟩
/-- behind a part: what it is scaled by is laid -/
theorem zp_Q1_s {op : Int} (h : zp_Q0 o g n Y need s s2 i i2 A S) (hS : (S = 142 ∧ op = 8) ∨ (S = 147 ∧ op = 9) ∨ (S = 137 ∧ op = 10)) {need2 : Nat} (hp : zp_P o g n Y 0 need2 s2 s3 i2 i3) (hn : need2 + 2 ≤ need) (hc : zn_dg Y s3 = op) : zp_Q1 o g n Y need s (s3 + 1) i i3 A := by
  have hS0 : S ≠ 0 := by rcases hS with ⟨z, -⟩ | ⟨z, -⟩ | ⟨z, -⟩ <;> omega
  have hop : 6 ≤ op ∧ op ≤ 13 := by rcases hS with ⟨-, z⟩ | ⟨-, z⟩ | ⟨-, z⟩ <;> omega
  obtain ⟨a1, a2, a3, a4⟩ := h
  obtain ⟨b1, b2, b3, b4⟩ := hp
  refine ⟨a1, by omega, fun p q h1 h2 => a3 i3 p q b3 h1 h2, fun W => ?_⟩
  obtain ⟨t, a, b, e1, e2⟩ := a4 W
  obtain ⟨r0, b0, e3⟩ := zt_V (v := ze_v g n) (w := ze_w o W) b3 0 true b
  refine ⟨(ze_m S t true r0 b0).1, a, (ze_m S t true r0 b0).2, fun x c1 p1 r c2 p2 h1 h2 => e1 r0 b0 i3 x c1 p1 r c2 p2 e3 (by rw [if_neg hS0]; exact h1) h2, fun code size hag hsz cw hcw st hst => ?_⟩
  have q1 := e2 code size (zp_ag_sub hag (Int.le_refl _) (by omega)) (by omega) cw hcw st hst
  dsimp only at q1
  rw [if_neg hS0] at q1
  have hcode : code s3 = op := by rw [hag s3 (by omega) (by omega)]; exact hc
  cases b with
  | true =>
    have e4 : b0 = true := by
      obtain ⟨f0, e3⟩ := e3
      have := ze_brk (c := ze_c g n) (v := ze_v g n) (w := ze_w o W) f0 0 0 true i2
      rw [e3 f0 (Nat.le_refl _)] at this
      exact this
    rw [e4, ze_m_b]
    exact ⟨fun z => (by cases z), fun _ => zc_br_le (q1.2 rfl) (by omega)⟩
  | false =>
    have l := @zp_st_len A a st
    have q2 := b4 W r0 b0 e3 code size (zp_ag_sub hag a2 (by omega)) (by omega) cw hcw (t :: zp_st A a st) (by rw [List.length_cons]; omega)
    cases b0 with
    | true =>
      rw [ze_m_b]
      exact ⟨fun z => (by cases z), fun _ => zc_br_le (zc_to_br (q1.1 rfl) (q2.2 rfl)) (by omega)⟩
    | false =>
      obtain ⟨j1, j2⟩ := zc_jn_m (a := t) (b := r0) hS
      rw [j1]
      have w1 := zc_to_trans (q1.1 rfl) (q2.1 rfl)
      refine ⟨fun z => ?_, fun z => ?_⟩
      · rw [j2 z]; exact zc_to_trans w1 (zc_two hop hcode (by omega) (by omega) z)
      · exact zc_to_br w1 (zc_twob hop hcode (by omega) (by omega) z (Int.le_refl _))
/-- on with the term -/
theorem zp_Q0_s (h : zp_Q1 o g n Y need s s2 i i2 A) (hS : S = 142 ∨ S = 147 ∨ S = 137) (hc : ze_c g n i2 = S) : zp_Q0 o g n Y need s s2 i (i2 + 1) A S := by
  have hS0 : S ≠ 0 := by rcases hS with z | z | z <;> omega
  have hm : ze_mul (ze_c g n i2) = true := by rw [hc]; rcases hS with z | z | z <;> rw [z] <;> decide
  obtain ⟨a1, a2, a3, a4⟩ := h
  refine ⟨a1, a2, fun p0 p q h1 h2 h3 => a3 p q (zt_tl_go hm h1 h2) h3, fun W => ?_⟩
  obtain ⟨t, a, b, e1, e2⟩ := a4 W
  refine ⟨t, a, b, fun r0 b0 p0 x b1 p1 r b2 p2 h1 h2 h3 => ?_, fun code size hag hsz cw hcw st hst => ?_⟩
  · rw [if_neg hS0] at h2
    exact e1 x b1 p1 r b2 p2 (ze_tl_go hm h1 (by rw [hc]; exact h2)) h3
  · dsimp only; rw [if_neg hS0]; exact e2 code size hag hsz cw hcw st hst
/-- on with the sum: nothing to add so far -/
theorem zp_Q0_a (h : zp_Q1 o g n Y need s s2 i i2 0) (hA : A = 143 ∨ A = 145) (hc : ze_c g n i2 = A) : zp_Q0 o g n Y need s s2 i (i2 + 1) A 0 := by
  have hA0 : A ≠ 0 := by rcases hA with z | z <;> omega
  have hm : ze_mul (ze_c g n i2) = false := by rw [hc]; rcases hA with z | z <;> rw [z] <;> decide
  have ha : ze_add (ze_c g n i2) = true := by rw [hc]; rcases hA with z | z <;> rw [z] <;> decide
  obtain ⟨a1, a2, a3, a4⟩ := h
  refine ⟨a1, a2, fun p0 p q h1 h2 h3 => a3 i2 q (zt_tl_end hm) (zt_sl_go ha (zt_two (fun R => rfl) h1 h2) h3), fun W => ?_⟩
  obtain ⟨t, a, b, e1, e2⟩ := a4 W
  refine ⟨0, t, b, fun r0 b0 p0 x b1 p1 r b2 p2 h1 h2 h3 => ?_, fun code size hag hsz cw hcw st hst => ?_⟩
  · rw [if_pos rfl] at h2
    unfold zp_fin at h3
    rw [if_neg hA0] at h3
    refine e1 t b i2 r b2 p2 (ze_tl_end hm) ?_
    unfold zp_fin
    rw [if_pos rfl]
    exact ze_sl_go ha (ze_term h1 h2) (by rw [hc]; exact h3)
  · have := e2 code size hag hsz cw hcw st hst
    simp only [zp_st, if_pos] at this
    dsimp only
    rw [if_pos rfl]
    unfold zp_st
    rw [if_neg hA0]
    exact this
/-- what was to be added is laid -/
theorem zp_Q1_a {op B : Int} (h : zp_Q1 o g n Y need s s2 i i2 B) (hB : (B = 143 ∧ op = 6) ∨ (B = 145 ∧ op = 7)) (hm : ze_mul (ze_c g n i2) = false) (hc : zn_dg Y s2 = op) :
    0 ≤ s ∧ s ≤ s2 + 1 ∧ (∀ q, zt_T (ze_c g n) 3 i2 q → zt_T (ze_c g n) 4 i q) ∧ ∀ W : Int, ∃ (a : Int) (b : Bool), (∀ r b2 p2, ze_V (ze_c g n) (ze_v g n) (ze_w o W) 3 a true b i2 r b2 p2 → ze_V (ze_c g n) (ze_v g n) (ze_w o W) 4 0 true false i r b2 p2) ∧ ∀ (code : Int → Int) (size : Int), zp_ag Y s (s2 + 1) code → s2 + 1 ≤ size → zp_sem o W code size need s (s2 + 1) (fun st => a :: st) b := by
  have hB0 : B ≠ 0 := by rcases hB with ⟨z, -⟩ | ⟨z, -⟩ <;> omega
  have hop : 6 ≤ op ∧ op ≤ 13 := by rcases hB with ⟨-, z⟩ | ⟨-, z⟩ <;> omega
  obtain ⟨a1, a2, a3, a4⟩ := h
  refine ⟨a1, by omega, fun q h1 => a3 i2 q (zt_tl_end hm) h1, fun W => ?_⟩
  obtain ⟨t, a, b, e1, e2⟩ := a4 W
  refine ⟨(ze_a B a true t b).1, (ze_a B a true t b).2, fun r b2 p2 h1 => e1 t b i2 r b2 p2 (ze_tl_end hm) (by unfold zp_fin; rw [if_neg hB0]; exact h1), fun code size hag hsz cw hcw st hst => ?_⟩
  have q1 := e2 code size (zp_ag_sub hag (Int.le_refl _) (by omega)) (by omega) cw hcw st hst
  have hcode : code s2 = op := by rw [hag s2 (by omega) (by omega)]; exact hc
  simp only [zp_st, if_neg hB0] at q1
  cases b with
  | true => rw [ze_a_b]; exact ⟨fun z => (by cases z), fun _ => zc_br_le (q1.2 rfl) (by omega)⟩
  | false =>
    obtain ⟨j1, j2⟩ := zc_jn_a (a := a) (b := t) hB
    rw [j1]
    refine ⟨fun z => ?_, fun z => ?_⟩
    · rw [j2 z]; exact zc_to_trans (q1.1 rfl) (zc_two hop hcode (by omega) (by omega) z)
    · exact zc_to_br (q1.1 rfl) (zc_twob hop hcode (by omega) (by omega) z (Int.le_refl _))
theorem zp_Q0_b {op B : Int} (h : zp_Q1 o g n Y need s s2 i i2 B) (hB : (B = 143 ∧ op = 6) ∨ (B = 145 ∧ op = 7)) (hc : zn_dg Y s2 = op) (hA : A = 143 ∨ A = 145) (hc2 : ze_c g n i2 = A) : zp_Q0 o g n Y need s (s2 + 1) i (i2 + 1) A 0 := by
  have hA0 : A ≠ 0 := by rcases hA with z | z <;> omega
  have hm : ze_mul (ze_c g n i2) = false := by rw [hc2]; rcases hA with z | z <;> rw [z] <;> decide
  have ha : ze_add (ze_c g n i2) = true := by rw [hc2]; rcases hA with z | z <;> rw [z] <;> decide
  obtain ⟨a1, a2, a3, a4⟩ := zp_Q1_a h hB hm hc
  refine ⟨a1, a2, fun p0 p q h1 h2 h3 => a3 q (zt_sl_go ha (zt_two (fun R => rfl) h1 h2) h3), fun W => ?_⟩
  obtain ⟨a, b, e1, e2⟩ := a4 W
  refine ⟨0, a, b, fun r0 b0 p0 x b1 p1 r b2 p2 h1 h2 h3 => ?_, fun code size hag hsz cw hcw st hst => ?_⟩
  · rw [if_pos rfl] at h2
    unfold zp_fin at h3
    rw [if_neg hA0] at h3
    exact e1 r b2 p2 (ze_sl_go ha (ze_term h1 h2) (by rw [hc2]; exact h3))
  · have := e2 code size hag hsz cw hcw st hst
    dsimp only
    rw [if_pos rfl]
    unfold zp_st
    rw [if_neg hA0]
    exact this
theorem zp_P4_0 (h : zp_Q1 o g n Y need s s2 i i2 0) (hm : ze_mul (ze_c g n i2) = false) (ha : ze_add (ze_c g n i2) = false) : zp_P o g n Y 4 need s s2 i i2 := by
  obtain ⟨a1, a2, a3, a4⟩ := h
  refine ⟨a1, a2, a3 i2 i2 (zt_tl_end hm) (zt_sl_end ha), fun W r b hV code size hag hsz cw hcw st hst => ?_⟩
  obtain ⟨t, a, c, e1, e2⟩ := a4 W
  have hV2 := e1 t c i2 t c i2 (ze_tl_end hm) (by unfold zp_fin; rw [if_pos rfl]; exact ze_sl_end ha)
  obtain ⟨x1, x2, -⟩ := ze_V_fun hV hV2
  have := e2 code size hag hsz cw hcw st hst
  simp only [zp_st, if_pos] at this
  rw [x1, x2]; exact this
theorem zp_P4_b {op B : Int} (h : zp_Q1 o g n Y need s s2 i i2 B) (hB : (B = 143 ∧ op = 6) ∨ (B = 145 ∧ op = 7)) (hc : zn_dg Y s2 = op) (hm : ze_mul (ze_c g n i2) = false) (ha : ze_add (ze_c g n i2) = false) : zp_P o g n Y 4 need s (s2 + 1) i i2 := by
  obtain ⟨a1, a2, a3, a4⟩ := zp_Q1_a h hB hm hc
  refine ⟨a1, a2, a3 i2 (zt_sl_end ha), fun W r b hV code size hag hsz cw hcw st hst => ?_⟩
  obtain ⟨a, c, e1, e2⟩ := a4 W
  obtain ⟨x1, x2, -⟩ := ze_V_fun hV (e1 a c i2 (ze_sl_end ha))
  rw [x1, x2]; exact e2 code size hag hsz cw hcw st hst
theorem zp_Q0_up {Y2 : Int} (h : zp_Q0 o g n Y need s s2 i i2 A S) (hY : ∀ j, s ≤ j → j < s2 → zn_dg Y2 j = zn_dg Y j) : zp_Q0 o g n Y2 need s s2 i i2 A S := by
  obtain ⟨h1, h2, h3, h4⟩ := h
  refine ⟨h1, h2, h3, fun W => ?_⟩
  obtain ⟨t, a, b, e1, e2⟩ := h4 W
  exact ⟨t, a, b, e1, fun code size ha hs => e2 code size (fun j x y => (ha j x y).trans (hY j x y)) hs⟩
theorem zp_Q1_up {Y2 : Int} (h : zp_Q1 o g n Y need s s2 i i2 A) (hY : ∀ j, s ≤ j → j < s2 → zn_dg Y2 j = zn_dg Y j) : zp_Q1 o g n Y2 need s s2 i i2 A := by
  obtain ⟨h1, h2, h3, h4⟩ := h
  refine ⟨h1, h2, h3, fun W => ?_⟩
  obtain ⟨t, a, b, e1, e2⟩ := h4 W
  exact ⟨t, a, b, e1, fun code size ha hs => e2 code size (fun j x y => (ha j x y).trans (hY j x y)) hs⟩
end ZPS
