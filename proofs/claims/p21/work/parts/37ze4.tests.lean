/-! PARTS as pieces of code -/
section ZPP
variable {o g n Y : Int} {need : Nat} {s s2 s3 i i2 i3 : Int}
theorem zp_one {x : Int} (hs : 0 ≤ s) (hn : 1 ≤ need) (hb : ze_c g n i ≠ 191) (hi : i2 = if ze_c g n i = 20 ∨ ze_c g n i = 21 then i + 2 else i + 1) (hst : ∀ W (cw code : Int → Int) (size : Int) (st : List Int), zp_cw o W cw → code s = zn_dg Y s → s + 1 ≤ size → st.length < 32 → zc_to code cw size s st (s + 1) ((ze_par (ze_c g n) (ze_v g n) (ze_w o W) true false i).1 :: st)) : zp_P o g n Y 0 need s (s + 1) i i2 := by
  refine ⟨hs, by omega, by rw [hi]; exact zt_part_n hb, fun W r b hV code size hag hsz cw hcw st hl => ?_⟩
  obtain ⟨x1, x2, -⟩ := ze_V_fun hV (ze_part_n (acc := 0) (l := true) (b := false) hb)
  rw [x1, x2]
  exact ⟨fun _ => hst W cw code size st hcw (hag s (Int.le_refl _) (by omega)) hsz (by omega), fun z => by cases z⟩
theorem zp_num {x : Int} (hs : 0 ≤ s) (hn : 1 ≤ need) (hc : ze_c g n i = 50) (hx : ze_v g n i = x) (hY : zn_dg Y s = 1 + 16 * x) : zp_P o g n Y 0 need s (s + 1) i (i + 1) := by
  refine zp_one (x := x) hs hn (by omega) (by rw [if_neg (by omega)]) (fun W cw code size st hcw hcd hsz hl => ?_)
  have e : (ze_par (ze_c g n) (ze_v g n) (ze_w o W) true false i).1 = x := by
    unfold ze_par
    simp only [Bool.not_false, Bool.and_true, cond_true]
    rw [if_pos hc, hx]
  rw [e]
  exact zc_num (hcd.trans hY) hs (by omega) hl
theorem zp_word (hs : 0 ≤ s) (hn : 1 ≤ need) (h0 : (o = 0 ∧ 8 ≤ ze_c g n i ∧ ze_c g n i ≤ 15) ∨ (o = 1 ∧ 16 ≤ ze_c g n i ∧ ze_c g n i ≤ 19)) (hY : zn_dg Y s = 2 + 16 * (ze_c g n i - 8)) : zp_P o g n Y 0 need s (s + 1) i (i + 1) := by
  refine zp_one (x := 0) hs hn (by omega) (by rw [if_neg (by omega)]) (fun W cw code size st hcw hcd hsz hl => ?_)
  have e : (ze_par (ze_c g n) (ze_v g n) (ze_w o W) true false i).1 = zc_w o W (ze_c g n i - 8) := by
    unfold ze_par
    simp only [Bool.not_false, Bool.and_true, cond_true]
    rw [if_neg (by omega), if_neg (by omega)]
    unfold ze_w zc_w
    rcases h0 with ⟨h1, h2, h3⟩ | ⟨h1, h2, h3⟩
    · rw [if_pos h1, if_pos h1]
    · rw [if_neg (by omega), if_neg (by omega), if_neg (by omega), if_neg (by omega)]
      congr 1; omega
  rw [e, ← hcw (ze_c g n i - 8) (by omega)]
  exact zc_word (hcd.trans hY) hs (by omega) hl (by omega)
theorem zp_wordk {f x : Int} (hs : 0 ≤ s) (hn : 1 ≤ need) (ho : o = 1) (h0 : (ze_c g n i = 20 ∧ f = 12 ∧ x ≤ 5) ∨ (ze_c g n i = 21 ∧ f = 18 ∧ x ≤ 3)) (h1 : 0 ≤ x) (hx : ze_v g n (i + 1) = x) (hY : zn_dg Y s = 2 + 16 * (f + x)) : zp_P o g n Y 0 need s (s + 1) i (i + 2) := by
  refine zp_one (x := 0) hs hn (by omega) (by rw [if_pos (by omega)]) (fun W cw code size st hcw hcd hsz hl => ?_)
  have e : (ze_par (ze_c g n) (ze_v g n) (ze_w o W) true false i).1 = zc_w o W (f + x) := by
    unfold ze_par
    simp only [Bool.not_false, Bool.and_true, cond_true]
    rw [if_neg (by omega), if_pos (by omega), hx]
    unfold ze_w zc_w
    have ho0 : ¬ o = 0 := by omega
    rcases h0 with ⟨h1, h2, -⟩ | ⟨h1, h2, -⟩
    · rw [if_neg ho0, if_neg ho0, if_pos h1]; congr 1; omega
    · rw [if_neg ho0, if_neg ho0, if_neg (by omega), if_pos h1]; congr 1; omega
  rw [e, ← hcw (f + x) (by omega)]
  exact zc_word (hcd.trans hY) hs (by omega) hl (by omega)
theorem zp_brk (hc : ze_c g n i = 191) (h : zp_P o g n Y 4 need s s2 (i + 1) i2) : zp_P o g n Y 0 need s s2 i (i2 + 1) := by
  obtain ⟨a1, a2, a3, a4⟩ := h
  refine ⟨a1, a2, zt_part_b hc a3, fun W r b hV code size hag hsz => ?_⟩
  obtain ⟨r1, b1, h1⟩ := zt_V (v := ze_v g n) (w := ze_w o W) a3 0 true false
  obtain ⟨x1, x2, -⟩ := ze_V_fun hV (ze_part_b (acc := 0) hc h1)
  rw [x1, x2]
  exact a4 W r1 b1 h1 code size hag hsz
/-! TESTS -/
theorem zp_01 {x : Bool} : ze_bi x = 0 ∨ ze_bi x = 1 := by cases x <;> decide
/-- a test's value is 0 or 1 -/
noncomputable def zp_B (c v : Int → Int) (w : Int → Int → Int) (k : Nat) (i i2 : Int) : Prop := ∀ (r : Int) (b : Bool), ze_V c v w k 0 true false i r b i2 → r = 0 ∨ r = 1
/-- a piece of a test: its value is 0 or 1 too -/
noncomputable def zp_T (o g n Y : Int) (k need : Nat) (s s2 i i2 : Int) : Prop := zp_P o g n Y k need s s2 i i2 ∧ ∀ W, zp_B (ze_c g n) (ze_v g n) (ze_w o W) k i i2
theorem zp_T_up {k : Nat} {Y2 : Int} (h : zp_T o g n Y k need s s2 i i2) (hY : ∀ j, s ≤ j → j < s2 → zn_dg Y2 j = zn_dg Y j) : zp_T o g n Y2 k need s s2 i i2 := ⟨zp_P_up h.1 hY, h.2⟩
/-- two sums held against one another -/
theorem zp_cmp {op : Int} {n1 n2 : Nat} (hb : ze_c g n i ≠ 140) (h1 : zp_P o g n Y 4 n1 s s2 i i2) (hq : (ze_c g n i2 = 160 ∧ op = 11) ∨ (ze_c g n i2 = 162 ∧ op = 12) ∨ (ze_c g n i2 = 161 ∧ op = 13)) (h2 : zp_P o g n Y 4 n2 s2 s3 (i2 + 1) i3) (hY : zn_dg Y s3 = op) (hn1 : n1 ≤ need) (hn2 : n2 + 1 ≤ need) : zp_T o g n Y 5 need s (s3 + 1) i i3 := by
  obtain ⟨a1, a2, a3, a4⟩ := h1
  obtain ⟨c1, c2, c3, c4⟩ := h2
  have hop : 6 ≤ op ∧ op ≤ 13 := by rcases hq with ⟨-, z⟩ | ⟨-, z⟩ | ⟨-, z⟩ <;> omega
  have key : ∀ (W r : Int) (b : Bool), ze_V (ze_c g n) (ze_v g n) (ze_w o W) 5 0 true false i r b i3 → ∃ r1 b1 r2, ze_V (ze_c g n) (ze_v g n) (ze_w o W) 4 0 true false i r1 b1 i2 ∧ ze_V (ze_c g n) (ze_v g n) (ze_w o W) 4 0 true b1 (i2 + 1) r2 b i3 ∧ r = ze_bi (true && (!b && ze_cmp (ze_c g n i2) r1 r2)) := by
    intro W r b hV
    obtain ⟨r1, b1, e1⟩ := zt_V (v := ze_v g n) (w := ze_w o W) a3 0 true false
    obtain ⟨r2, b2, e2⟩ := zt_V (v := ze_v g n) (w := ze_w o W) c3 0 true b1
    obtain ⟨x1, x2, -⟩ := ze_V_fun hV (ze_pos_c (acc := 0) hb e1 e2)
    rw [x2]
    exact ⟨r1, b1, r2, e1, e2, x1⟩
  refine ⟨⟨a1, by omega, zt_pos_c hb a3 c3, fun W r b hV code size hag hsz cw hcw st hl => ?_⟩, fun W r b hV => ?_⟩
  · obtain ⟨r1, b1, r2, e1, e2, e3⟩ := key W r b hV
    have q1 := a4 W r1 b1 e1 code size (zp_ag_sub hag (Int.le_refl _) (by omega)) (by omega) cw hcw st (by omega)
    cases b1 with
    | true =>
      have e4 : b = true := by
        obtain ⟨f0, e2⟩ := e2
        have := ze_brk (c := ze_c g n) (v := ze_v g n) (w := ze_w o W) f0 4 0 true (i2 + 1)
        rw [e2 f0 (Nat.le_refl _)] at this
        exact this
      rw [e4]
      exact ⟨fun z => (by cases z), fun _ => zc_br_le (q1.2 rfl) (by omega)⟩
    | false =>
      have q2 := c4 W r2 b e2 code size (zp_ag_sub hag a2 (by omega)) (by omega) cw hcw (r1 :: st) (by rw [List.length_cons]; omega)
      refine ⟨fun z => ?_, fun z => zc_br_le (zc_to_br (q1.1 rfl) (q2.2 z)) (by omega)⟩
      obtain ⟨j1, j2⟩ := zc_jn_c (a := r1) (b := r2) hq
      have w1 := zc_to_trans (q1.1 rfl) (q2.1 z)
      rw [e3, z]
      simp only [Bool.not_false, Bool.true_and]
      rw [← j1]
      exact zc_to_trans w1 (zc_two hop (by rw [hag s3 (by omega) (by omega)]; exact hY) (by omega) (by omega) j2)
  · obtain ⟨r1, b1, r2, e1, e2, e3⟩ := key W r b hV
    rw [e3]; exact zp_01
theorem zp_par (hc : ze_c g n i = 140) (h : zp_T o g n Y 10 need s s2 (i + 1) i2) : zp_T o g n Y 5 need s s2 i (i2 + 1) := by
  obtain ⟨⟨a1, a2, a3, a4⟩, hb⟩ := h
  have key : ∀ (W r : Int) (b : Bool), ze_V (ze_c g n) (ze_v g n) (ze_w o W) 5 0 true false i r b (i2 + 1) → ze_V (ze_c g n) (ze_v g n) (ze_w o W) 10 0 true false (i + 1) r b i2 := by
    intro W r b hV
    obtain ⟨r1, b1, e1⟩ := zt_V (v := ze_v g n) (w := ze_w o W) a3 0 true false
    obtain ⟨x1, x2, -⟩ := ze_V_fun hV (ze_pos_b (acc := 0) hc e1)
    rw [x1, x2]; exact e1
  exact ⟨⟨a1, a2, zt_pos_b hc a3, fun W r b hV code size hag hsz => a4 W r b (key W r b hV) code size hag hsz⟩, fun W r b hV => hb W r b (key W r b hV)⟩
/-- a row of 'not' ahead of the token j: turned tells how many, by two -/
noncomputable def zp_N (o g n i j a : Int) : Prop := (a = 0 ∨ a = 1) ∧ (∀ q, zt_T (ze_c g n) 6 j q → zt_T (ze_c g n) 6 i q) ∧ ∀ (W r : Int) (b : Bool) (p : Int), ze_V (ze_c g n) (ze_v g n) (ze_w o W) 6 a true false j r b p → ze_V (ze_c g n) (ze_v g n) (ze_w o W) 6 0 true false i r b p
theorem zp_N_0 : zp_N o g n i i 0 := ⟨Or.inl rfl, fun q h => h, fun W r b p h => h⟩
theorem zp_N_1 {j a : Int} (h : zp_N o g n i j a) (hc : ze_c g n j = 7) : zp_N o g n i (j + 1) (1 - a) := by
  obtain ⟨h1, h2, h3⟩ := h
  exact ⟨by omega, fun q z => h2 q (zt_pl_n hc z), fun W r b p z => h3 W r b p (ze_pl_n hc z)⟩
theorem zp_pl {j a : Int} (h : zp_N o g n i j a) (hc : ze_c g n j ≠ 7) (h5 : zp_T o g n Y 5 need s s2 j i2) (ha : a = 0) : zp_T o g n Y 6 need s s2 i i2 := by
  obtain ⟨n1, n2, n3⟩ := h
  obtain ⟨⟨a1, a2, a3, a4⟩, hb⟩ := h5
  have key : ∀ (W r : Int) (b : Bool), ze_V (ze_c g n) (ze_v g n) (ze_w o W) 6 0 true false i r b i2 → ze_V (ze_c g n) (ze_v g n) (ze_w o W) 5 0 true false j r b i2 := by
    intro W r b hV
    obtain ⟨r1, b1, e1⟩ := zt_V (v := ze_v g n) (w := ze_w o W) a3 0 true false
    obtain ⟨x1, x2, -⟩ := ze_V_fun hV (n3 W _ _ _ (ze_pl_p hc e1))
    have := hb W r1 b1 e1
    rw [x1, x2, ha]
    rcases this with z | z <;> rw [z] at e1 ⊢ <;> exact e1
  exact ⟨⟨a1, a2, n2 _ (zt_pl_p hc a3), fun W r b hV code size hag hsz => a4 W r b (key W r b hV) code size hag hsz⟩, fun W r b hV => hb W r b (key W r b hV)⟩
theorem zp_plt {j a : Int} (h : zp_N o g n i j a) (hc : ze_c g n j ≠ 7) (h5 : zp_T o g n Y 5 need s s2 j i2) (ha : a = 1) (hY : zn_dg Y s2 = 3) : zp_T o g n Y 6 need s (s2 + 1) i i2 := by
  obtain ⟨n1, n2, n3⟩ := h
  obtain ⟨⟨a1, a2, a3, a4⟩, hb⟩ := h5
  have key : ∀ (W r : Int) (b : Bool), ze_V (ze_c g n) (ze_v g n) (ze_w o W) 6 0 true false i r b i2 → ∃ r1, ze_V (ze_c g n) (ze_v g n) (ze_w o W) 5 0 true false j r1 b i2 ∧ r = 1 - r1 := by
    intro W r b hV
    obtain ⟨r1, b1, e1⟩ := zt_V (v := ze_v g n) (w := ze_w o W) a3 0 true false
    obtain ⟨x1, x2, -⟩ := ze_V_fun hV (n3 W _ _ _ (ze_pl_p hc e1))
    have := hb W r1 b1 e1
    rw [x2]
    refine ⟨r1, e1, ?_⟩
    rw [x1, ha]
    rcases this with z | z <;> rw [z] <;> decide
  refine ⟨⟨a1, by omega, n2 _ (zt_pl_p hc a3), fun W r b hV code size hag hsz cw hcw st hl => ?_⟩, fun W r b hV => ?_⟩
  · obtain ⟨r1, e1, e2⟩ := key W r b hV
    have e6 := zc_tn01 (hb W r1 b e1)
    have q1 := a4 W r1 b e1 code size (zp_ag_sub hag (Int.le_refl _) (by omega)) (by omega) cw hcw st hl
    rw [e2, ← e6]
    exact ⟨fun z => zc_to_trans (q1.1 z) (zc_turn (by rw [hag s2 (by omega) (by omega)]; exact hY) (by omega) (by omega)), fun z => zc_br_le (q1.2 z) (by omega)⟩
  · obtain ⟨r1, e1, e2⟩ := key W r b hV
    have := hb W r1 b e1
    omega
/-- a row of 'and' so far: the one read last ends at i2, s2 -/
noncomputable def zp_D (o g n Y : Int) (need : Nat) (s s2 i i2 : Int) : Prop := 0 ≤ s ∧ s ≤ s2 ∧ (∀ q, zt_T (ze_c g n) 7 i2 q → zt_T (ze_c g n) 8 i q) ∧ ∀ W : Int, ∃ (y : Int) (b : Bool), (y = 0 ∨ y = 1) ∧ (∀ r b2 p2, ze_V (ze_c g n) (ze_v g n) (ze_w o W) 7 y true b i2 r b2 p2 → ze_V (ze_c g n) (ze_v g n) (ze_w o W) 8 0 true false i r b2 p2) ∧ ∀ (code : Int → Int) (size : Int), zp_ag Y s s2 code → s2 ≤ size → zp_sem o W code size need s s2 (fun st => y :: st) b
theorem zp_D_1 (h : zp_T o g n Y 6 need s s2 i i2) : zp_D o g n Y need s s2 i i2 := by
  obtain ⟨⟨a1, a2, a3, a4⟩, hb⟩ := h
  refine ⟨a1, a2, fun q h => zt_two (fun R => rfl) a3 h, fun W => ?_⟩
  obtain ⟨r1, b1, e1⟩ := zt_V (v := ze_v g n) (w := ze_w o W) a3 0 true false
  exact ⟨r1, b1, hb W r1 b1 e1, fun r b2 p2 h => ze_both e1 h, fun code size hag hsz => a4 W r1 b1 e1 code size hag hsz⟩
/-- one more: at s2 the jump over it -/
theorem zp_D_2 (h : zp_D o g n Y need s s2 i i2) (hc : ze_c g n i2 = 6) (hp : zp_T o g n Y 6 need (s2 + 1) s3 (i2 + 1) i3) (hY : zn_dg Y s2 = 4 + 16 * s3) : zp_D o g n Y need s s3 i i3 := by
  obtain ⟨a1, a2, a3, a4⟩ := h
  obtain ⟨⟨c1, c2, c3, c4⟩, hb⟩ := hp
  refine ⟨a1, by omega, fun q h => a3 q (zt_bl_go hc c3 h), fun W => ?_⟩
  obtain ⟨y, b, hy, e1, e2⟩ := a4 W
  have lay : ∀ (code : Int → Int), zp_ag Y s s3 code → code s2 = 4 + 16 * s3 := fun code hag => by rw [hag s2 (by omega) (by omega)]; exact hY
  rcases hy with hy | hy
  · -- not so: what stands behind isn't asked
    obtain ⟨r1, b1, v1⟩ := zt_V (v := ze_v g n) (w := ze_w o W) c3 0 true false
    refine ⟨0, b, Or.inl rfl, fun r b2 p2 h => e1 r b2 p2 (ze_bl_no (by omega) hc (ze_V_dead v1 0 b) h), fun code size hag hsz cw hcw st hl => ?_⟩
    have q1 := e2 code size (zp_ag_sub hag (Int.le_refl _) (by omega)) (by omega) cw hcw st hl
    rw [hy] at q1
    exact ⟨fun z => zc_to_trans (q1.1 z) (zc_jmp (Or.inl ⟨rfl, rfl⟩) (lay code hag) (by omega) (by omega) rfl (by omega)), fun z => zc_br_le (q1.2 z) (by omega)⟩
  · obtain ⟨r1, b1, v1⟩ := zt_V (v := ze_v g n) (w := ze_w o W) c3 0 true b
    cases b with
    | true =>
      have e4 : b1 = true := by
        obtain ⟨f0, v1⟩ := v1
        have := ze_brk (c := ze_c g n) (v := ze_v g n) (w := ze_w o W) f0 6 0 true (i2 + 1)
        rw [v1 f0 (Nat.le_refl _)] at this
        exact this
      refine ⟨ze_bi (decide (r1 = 1)), b1, zp_01, fun r b2 p2 h => e1 r b2 p2 (by rw [hy]; exact ze_bl_go hc v1 h), fun code size hag hsz cw hcw st hl => ?_⟩
      have q1 := e2 code size (zp_ag_sub hag (Int.le_refl _) (by omega)) (by omega) cw hcw st hl
      rw [e4]
      exact ⟨fun z => (by cases z), fun _ => zc_br_le (q1.2 rfl) (by omega)⟩
    | false =>
      have h01 := hb W r1 b1 v1
      have e5 : ze_bi (decide (r1 = 1)) = r1 := by rcases h01 with z | z <;> rw [z] <;> decide
      refine ⟨r1, b1, h01, fun r b2 p2 h => e1 r b2 p2 (by rw [hy]; exact ze_bl_go hc v1 (by rw [e5]; exact h)), fun code size hag hsz cw hcw st hl => ?_⟩
      have q1 := e2 code size (zp_ag_sub hag (Int.le_refl _) (by omega)) (by omega) cw hcw st hl
      rw [hy] at q1
      have w1 := zc_to_trans (q1.1 rfl) (zc_jno (Or.inl ⟨rfl, rfl⟩) (lay code hag) (by omega) (by omega) (by omega))
      have q2 := c4 W r1 b1 v1 code size (zp_ag_sub hag (by omega) (Int.le_refl _)) hsz cw hcw st hl
      exact ⟨fun z => zc_to_trans w1 (q2.1 z), fun z => zc_br_le (zc_to_br w1 (q2.2 z)) (Int.le_refl _)⟩
theorem zp_D_P (h : zp_D o g n Y need s s2 i i2) (hc : ze_c g n i2 ≠ 6) : zp_T o g n Y 8 need s s2 i i2 := by
  obtain ⟨a1, a2, a3, a4⟩ := h
  refine ⟨⟨a1, a2, a3 i2 (zt_bl_end hc), fun W r b hV code size hag hsz => ?_⟩, fun W r b hV => ?_⟩
  · obtain ⟨y, b1, hy, e1, e2⟩ := a4 W
    obtain ⟨x1, x2, -⟩ := ze_V_fun hV (e1 y b1 i2 (ze_bl_end hc))
    rw [x1, x2]; exact e2 code size hag hsz
  · obtain ⟨y, b1, hy, e1, e2⟩ := a4 W
    obtain ⟨x1, x2, -⟩ := ze_V_fun hV (e1 y b1 i2 (ze_bl_end hc))
    rw [x1]; exact hy
/-- a row of 'or' so far -/
noncomputable def zp_O (o g n Y : Int) (need : Nat) (s s2 i i2 : Int) : Prop := 0 ≤ s ∧ s ≤ s2 ∧ (∀ q, zt_T (ze_c g n) 9 i2 q → zt_T (ze_c g n) 10 i q) ∧ ∀ W : Int, ∃ (y : Int) (b : Bool), (y = 0 ∨ y = 1) ∧ (∀ r b2 p2, ze_V (ze_c g n) (ze_v g n) (ze_w o W) 9 y true b i2 r b2 p2 → ze_V (ze_c g n) (ze_v g n) (ze_w o W) 10 0 true false i r b2 p2) ∧ ∀ (code : Int → Int) (size : Int), zp_ag Y s s2 code → s2 ≤ size → zp_sem o W code size need s s2 (fun st => y :: st) b
theorem zp_O_1 (h : zp_T o g n Y 8 need s s2 i i2) : zp_O o g n Y need s s2 i i2 := by
  obtain ⟨⟨a1, a2, a3, a4⟩, hb⟩ := h
  refine ⟨a1, a2, fun q h => zt_two (fun R => rfl) a3 h, fun W => ?_⟩
  obtain ⟨r1, b1, e1⟩ := zt_V (v := ze_v g n) (w := ze_w o W) a3 0 true false
  exact ⟨r1, b1, hb W r1 b1 e1, fun r b2 p2 h => ze_test e1 h, fun code size hag hsz => a4 W r1 b1 e1 code size hag hsz⟩
theorem zp_O_2 (h : zp_O o g n Y need s s2 i i2) (hc : ze_c g n i2 = 5) (hp : zp_T o g n Y 8 need (s2 + 1) s3 (i2 + 1) i3) (hY : zn_dg Y s2 = 5 + 16 * s3) : zp_O o g n Y need s s3 i i3 := by
  obtain ⟨a1, a2, a3, a4⟩ := h
  obtain ⟨⟨c1, c2, c3, c4⟩, hb⟩ := hp
  refine ⟨a1, by omega, fun q h => a3 q (zt_ol_go hc c3 h), fun W => ?_⟩
  obtain ⟨y, b, hy, e1, e2⟩ := a4 W
  have lay : ∀ (code : Int → Int), zp_ag Y s s3 code → code s2 = 5 + 16 * s3 := fun code hag => by rw [hag s2 (by omega) (by omega)]; exact hY
  rcases hy with hy | hy
  · obtain ⟨r1, b1, v1⟩ := zt_V (v := ze_v g n) (w := ze_w o W) c3 0 true b
    cases b with
    | true =>
      have e4 : b1 = true := by
        obtain ⟨f0, v1⟩ := v1
        have := ze_brk (c := ze_c g n) (v := ze_v g n) (w := ze_w o W) f0 8 0 true (i2 + 1)
        rw [v1 f0 (Nat.le_refl _)] at this
        exact this
      refine ⟨ze_bi (decide (r1 = 1)), b1, zp_01, fun r b2 p2 h => e1 r b2 p2 (ze_ol_go (by omega) hc v1 h), fun code size hag hsz cw hcw st hl => ?_⟩
      have q1 := e2 code size (zp_ag_sub hag (Int.le_refl _) (by omega)) (by omega) cw hcw st hl
      rw [e4]
      exact ⟨fun z => (by cases z), fun _ => zc_br_le (q1.2 rfl) (by omega)⟩
    | false =>
      have h01 := hb W r1 b1 v1
      have e5 : ze_bi (decide (r1 = 1)) = r1 := by rcases h01 with z | z <;> rw [z] <;> decide
      refine ⟨r1, b1, h01, fun r b2 p2 h => e1 r b2 p2 (ze_ol_go (by omega) hc v1 (by rw [e5]; exact h)), fun code size hag hsz cw hcw st hl => ?_⟩
      have q1 := e2 code size (zp_ag_sub hag (Int.le_refl _) (by omega)) (by omega) cw hcw st hl
      rw [hy] at q1
      have w1 := zc_to_trans (q1.1 rfl) (zc_jno (Or.inr ⟨rfl, rfl⟩) (lay code hag) (by omega) (by omega) (by omega))
      have q2 := c4 W r1 b1 v1 code size (zp_ag_sub hag (by omega) (Int.le_refl _)) hsz cw hcw st hl
      exact ⟨fun z => zc_to_trans w1 (q2.1 z), fun z => zc_br_le (zc_to_br w1 (q2.2 z)) (Int.le_refl _)⟩
  · obtain ⟨r1, b1, v1⟩ := zt_V (v := ze_v g n) (w := ze_w o W) c3 0 true false
    refine ⟨1, b, Or.inr rfl, fun r b2 p2 h => e1 r b2 p2 (by rw [hy]; exact ze_ol_no hc (ze_V_dead v1 0 b) h), fun code size hag hsz cw hcw st hl => ?_⟩
    have q1 := e2 code size (zp_ag_sub hag (Int.le_refl _) (by omega)) (by omega) cw hcw st hl
    rw [hy] at q1
    exact ⟨fun z => zc_to_trans (q1.1 z) (zc_jmp (Or.inr ⟨rfl, rfl⟩) (lay code hag) (by omega) (by omega) rfl (by omega)), fun z => zc_br_le (q1.2 z) (by omega)⟩
theorem zp_O_P (h : zp_O o g n Y need s s2 i i2) (hc : ze_c g n i2 ≠ 5) : zp_T o g n Y 10 need s s2 i i2 := by
  obtain ⟨a1, a2, a3, a4⟩ := h
  refine ⟨⟨a1, a2, a3 i2 (zt_ol_end hc), fun W r b hV code size hag hsz => ?_⟩, fun W r b hV => ?_⟩
  · obtain ⟨y, b1, hy, e1, e2⟩ := a4 W
    obtain ⟨x1, x2, -⟩ := ze_V_fun hV (e1 y b1 i2 (ze_ol_end hc))
    rw [x1, x2]; exact e2 code size hag hsz
  · obtain ⟨y, b1, hy, e1, e2⟩ := a4 W
    obtain ⟨x1, x2, -⟩ := ze_V_fun hV (e1 y b1 i2 (ze_ol_end hc))
    rw [x1]; exact hy
theorem zp_D_up {Y2 : Int} (h : zp_D o g n Y need s s2 i i2) (hY : ∀ j, s ≤ j → j < s2 → zn_dg Y2 j = zn_dg Y j) : zp_D o g n Y2 need s s2 i i2 := by
  obtain ⟨h1, h2, h3, h4⟩ := h
  refine ⟨h1, h2, h3, fun W => ?_⟩
  obtain ⟨y, b, hy, e1, e2⟩ := h4 W
  exact ⟨y, b, hy, e1, fun code size ha hs => e2 code size (fun j x y => (ha j x y).trans (hY j x y)) hs⟩
theorem zp_O_up {Y2 : Int} (h : zp_O o g n Y need s s2 i i2) (hY : ∀ j, s ≤ j → j < s2 → zn_dg Y2 j = zn_dg Y j) : zp_O o g n Y2 need s s2 i i2 := by
  obtain ⟨h1, h2, h3, h4⟩ := h
  refine ⟨h1, h2, h3, fun W => ?_⟩
  obtain ⟨y, b, hy, e1, e2⟩ := h4 W
  exact ⟨y, b, hy, e1, fun code size ha hs => e2 code size (fun j x y => (ha j x y).trans (hY j x y)) hs⟩
/-! a sum, a test with its STOP -/
theorem zp_run {k : Nat} (h : zp_P o g n Y k need s s2 i i2) (hn : need ≤ 32) (hY : zn_dg Y s2 = 0) {W r : Int} {b : Bool} (hV : ze_V (ze_c g n) (ze_v g n) (ze_w o W) k 0 true false i r b i2) {code : Int → Int} {size : Int} (hag : zp_ag Y s (s2 + 1) code) (hsz : s2 + 1 ≤ size) (h448 : size ≤ 448) {cw : Int → Int} (hcw : zp_cw o W cw) : zc_run code cw size 448 s [] = if b = true then none else some r := by
  obtain ⟨a1, a2, a3, a4⟩ := h
  have q := a4 W r b hV code size (zp_ag_sub hag (Int.le_refl _) (by omega)) (by omega) cw hcw [] (by simp only [List.length_nil]; omega)
  cases b with
  | true =>
    obtain ⟨k, c1, c2⟩ := q.2 rfl
    have := c2 (448 - k)
    rw [show 448 - k + k = 448 by omega] at this
    rw [this, if_pos rfl]
  | false =>
    obtain ⟨k, c1, c2⟩ := q.1 rfl
    have := c2 (448 - k)
    rw [show 448 - k + k = 448 by omega] at this
    rw [this, if_neg (by decide)]
    obtain ⟨m, hm⟩ : ∃ m, 448 - k = m + 1 := ⟨447 - k, by omega⟩
    rw [hm]
    exact zc_stop (by rw [hag s2 a2 (by omega)]; exact hY) (by omega) (by omega) m
end ZPP
