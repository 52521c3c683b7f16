/-! THE CLASS'S CODE, pure: steps over a stack (the latest first); none: broken -/
noncomputable def zc_jn (op a b : Int) : Int := if op = 6 then a + b else if op = 7 then a - b else if op = 8 then a * b else if op = 9 then (if b = 0 then 1000000001 else a.tdiv b) else if op = 10 then (if b = 0 then 1000000001 else a.tmod b) else if op = 11 then ze_bi (decide (a < b)) else if op = 12 then ze_bi (decide (b < a)) else ze_bi (decide (a = b))
/-- 1 less it, as the machine takes it -/
noncomputable def zc_tn (t : Int) : Int := zq_fun 0 1 1 t
theorem zc_tn01 {t : Int} (h : t = 0 ∨ t = 1) : zc_tn t = 1 - t := by
  rcases h with h | h
  · rw [h]; show ((1 : Int) - 0).bmod (2 ^ zq_bw 0) = 1 - 0; exact Int.bmod_eq_of_le (by show -(2 ^ 32 / 2 : Int) ≤ _; omega) (by show _ < ((2 ^ 32 + 1) / 2 : Int); omega)
  · rw [h]; show ((1 : Int) - 1).bmod (2 ^ zq_bw 0) = 1 - 1; exact Int.bmod_eq_of_le (by show -(2 ^ 32 / 2 : Int) ≤ _; omega) (by show _ < ((2 ^ 32 + 1) / 2 : Int); omega)
noncomputable def zc_s (code cw : Int → Int) (size : Int) (R : Int → List Int → Option Int) (pc : Int) (st : List Int) : Option Int :=
  if pc < 0 ∨ size ≤ pc then none
  else if code pc % 16 = 1 then (if 32 ≤ st.length then none else R (pc + 1) (code pc / 16 :: st))
  else if code pc % 16 = 2 then (if 32 ≤ st.length ∨ 22 ≤ code pc / 16 then none else R (pc + 1) (cw (code pc / 16) :: st))
  else match st with
    | [] => none
    | t :: r => if code pc % 16 = 0 then some ((t :: r).getLastD 0)
      else if code pc % 16 = 3 then R (pc + 1) (zc_tn t :: r)
      else if code pc % 16 = 4 then (if t = 0 then R (code pc / 16) (t :: r) else R (pc + 1) r)
      else if code pc % 16 = 5 then (if t = 1 then R (code pc / 16) (t :: r) else R (pc + 1) r)
      else match r with
        | [] => none
        | a :: r2 => bif ze_out (zc_jn (code pc % 16) a t) then none else R (pc + 1) (zc_jn (code pc % 16) a t :: r2)
noncomputable def zc_run (code cw : Int → Int) (size : Int) : Nat → Int → List Int → Option Int
  | 0 => fun _ _ => none
  | f + 1 => zc_s code cw size (zc_run code cw size f)
/-- from there it comes to there; from there it breaks before e -/
noncomputable def zc_to (code cw : Int → Int) (size pc : Int) (st : List Int) (pc' : Int) (st' : List Int) : Prop := ∃ k : Nat, (k : Int) ≤ pc' - pc ∧ ∀ f, zc_run code cw size (f + k) pc st = zc_run code cw size f pc' st'
noncomputable def zc_br (code cw : Int → Int) (size pc : Int) (st : List Int) (e : Int) : Prop := ∃ k : Nat, (k : Int) ≤ e - pc ∧ ∀ f, zc_run code cw size (f + k) pc st = none
section ZCR
variable {code cw : Int → Int} {size pc pc' pc2 e : Int} {st st' st2 : List Int}
theorem zc_to_refl : zc_to code cw size pc st pc st := ⟨0, by omega, fun f => rfl⟩
theorem zc_to_trans (h1 : zc_to code cw size pc st pc' st') (h2 : zc_to code cw size pc' st' pc2 st2) : zc_to code cw size pc st pc2 st2 := by
  obtain ⟨k1, a1, h1⟩ := h1
  obtain ⟨k2, a2, h2⟩ := h2
  refine ⟨k2 + k1, by omega, fun f => ?_⟩
  rw [← Nat.add_assoc, h1 (f + k2), h2 f]
theorem zc_to_br (h1 : zc_to code cw size pc st pc' st') (h2 : zc_br code cw size pc' st' e) : zc_br code cw size pc st e := by
  obtain ⟨k1, a1, h1⟩ := h1
  obtain ⟨k2, a2, h2⟩ := h2
  refine ⟨k2 + k1, by omega, fun f => ?_⟩
  rw [← Nat.add_assoc, h1 (f + k2), h2 f]
theorem zc_br_le (h1 : zc_br code cw size pc st e) {e' : Int} (he : e ≤ e') : zc_br code cw size pc st e' := by
  obtain ⟨k, a, h⟩ := h1
  exact ⟨k, by omega, h⟩
theorem zc_1 (h : ∀ f, zc_s code cw size (zc_run code cw size f) pc st = zc_run code cw size f pc' st') (hp : pc + 1 ≤ pc') : zc_to code cw size pc st pc' st' := ⟨1, by omega, fun f => h f⟩
theorem zc_1b (h : ∀ f, zc_s code cw size (zc_run code cw size f) pc st = none) (hp : pc + 1 ≤ e) : zc_br code cw size pc st e := ⟨1, by omega, fun f => h f⟩
theorem zc_num {x : Int} (hc : code pc = 1 + 16 * x) (h0 : 0 ≤ pc) (h1 : pc < size) (hl : st.length < 32) : zc_to code cw size pc st (pc + 1) (x :: st) := zc_1 (fun f => by
  unfold zc_s
  rw [if_neg (by omega), if_pos (by omega), if_neg (by omega), show code pc / 16 = x by omega]) (by omega)
theorem zc_word {x : Int} (hc : code pc = 2 + 16 * x) (h0 : 0 ≤ pc) (h1 : pc < size) (hl : st.length < 32) (hx : x < 22) : zc_to code cw size pc st (pc + 1) (cw x :: st) := zc_1 (fun f => by
  unfold zc_s
  rw [if_neg (by omega), if_neg (by omega), if_pos (by omega), if_neg (by omega), show code pc / 16 = x by omega]) (by omega)
theorem zc_turn {t : Int} (hc : code pc = 3) (h0 : 0 ≤ pc) (h1 : pc < size) : zc_to code cw size pc (t :: st) (pc + 1) (zc_tn t :: st) := zc_1 (fun f => by
  unfold zc_s
  rw [if_neg (by omega), if_neg (by omega), if_neg (by omega)]
  simp only
  rw [if_neg (by omega), if_pos (by omega)]) (by omega)
/-- a jump, taken or not -/
theorem zc_jmp {t x op v : Int} (hop : (op = 4 ∧ v = 0) ∨ (op = 5 ∧ v = 1)) (hc : code pc = op + 16 * x) (h0 : 0 ≤ pc) (h1 : pc < size) (ht : t = v) (hx : pc + 1 ≤ x) : zc_to code cw size pc (t :: st) x (t :: st) := zc_1 (fun f => by
  unfold zc_s
  rcases hop with ⟨h2, h3⟩ | ⟨h2, h3⟩
  · rw [if_neg (by omega), if_neg (by omega), if_neg (by omega)]
    simp only
    rw [if_neg (by omega), if_neg (by omega), if_pos (by omega), if_pos (by omega), show code pc / 16 = x by omega]
  · rw [if_neg (by omega), if_neg (by omega), if_neg (by omega)]
    simp only
    rw [if_neg (by omega), if_neg (by omega), if_neg (by omega), if_pos (by omega), if_pos (by omega), show code pc / 16 = x by omega]) (by omega)
theorem zc_jno {t x op v : Int} (hop : (op = 4 ∧ v = 0) ∨ (op = 5 ∧ v = 1)) (hc : code pc = op + 16 * x) (h0 : 0 ≤ pc) (h1 : pc < size) (ht : t ≠ v) : zc_to code cw size pc (t :: st) (pc + 1) st := zc_1 (fun f => by
  unfold zc_s
  rcases hop with ⟨h2, h3⟩ | ⟨h2, h3⟩
  · rw [if_neg (by omega), if_neg (by omega), if_neg (by omega)]
    simp only
    rw [if_neg (by omega), if_neg (by omega), if_pos (by omega), if_neg (by omega)]
  · rw [if_neg (by omega), if_neg (by omega), if_neg (by omega)]
    simp only
    rw [if_neg (by omega), if_neg (by omega), if_neg (by omega), if_pos (by omega), if_neg (by omega)]) (by omega)
theorem zc_two_s {a b op : Int} (hop : 6 ≤ op ∧ op ≤ 13) (hc : code pc = op) (h0 : 0 ≤ pc) (h1 : pc < size) (R : Int → List Int → Option Int) : zc_s code cw size R pc (b :: a :: st) = bif ze_out (zc_jn op a b) then none else R (pc + 1) (zc_jn op a b :: st) := by
  unfold zc_s
  rw [if_neg (by omega), if_neg (by omega), if_neg (by omega)]
  simp only
  rw [if_neg (by omega), if_neg (by omega), if_neg (by omega), if_neg (by omega), show code pc % 16 = op by omega]
theorem zc_two {a b op : Int} (hop : 6 ≤ op ∧ op ≤ 13) (hc : code pc = op) (h0 : 0 ≤ pc) (h1 : pc < size) (hz : ze_out (zc_jn op a b) = false) : zc_to code cw size pc (b :: a :: st) (pc + 1) (zc_jn op a b :: st) := zc_1 (fun f => by rw [zc_two_s hop hc h0 h1, hz]; rfl) (by omega)
theorem zc_twob {a b op : Int} (hop : 6 ≤ op ∧ op ≤ 13) (hc : code pc = op) (h0 : 0 ≤ pc) (h1 : pc < size) (hz : ze_out (zc_jn op a b) = true) (he : pc + 1 ≤ e) : zc_br code cw size pc (b :: a :: st) e := zc_1b (fun f => by rw [zc_two_s hop hc h0 h1, hz]; rfl) he
theorem zc_stop {t : Int} (hc : code pc = 0) (h0 : 0 ≤ pc) (h1 : pc < size) (f : Nat) : zc_run code cw size (f + 1) pc [t] = some t := by
  show zc_s code cw size (zc_run code cw size f) pc [t] = _
  unfold zc_s
  rw [if_neg (by omega), if_neg (by omega), if_neg (by omega)]
  simp only
  rw [if_pos (by omega)]
  rfl
end ZCR
/-! words of both sides by one number: of laws 8, of orders 14 -/
noncomputable def ze_w (o W c k : Int) : Int := if o = 0 then zn_dg W (c - 8) else if c = 20 then zn_dg W (4 + k) else if c = 21 then zn_dg W (10 + k) else zn_dg W (c - 16)
noncomputable def zc_w (o W j : Int) : Int := if o = 0 then zn_dg W j else zn_dg W (j - 8)
/-- codes and values of a tape's tokens -/
noncomputable def ze_c (g n i : Int) : Int := if i < 0 then 0 else match (zu_TL g n)[i.toNat]? with
  | some e => e.2.2.1
  | none => 0
noncomputable def ze_v (g n i : Int) : Int := if i < 0 then 0 else match (zu_TL g n)[i.toNat]? with
  | some e => e.2.2.2
  | none => 0
/-- the operations of both sides are one -/
theorem zc_jn_m {o op a b : Int} (h : (o = 142 ∧ op = 8) ∨ (o = 147 ∧ op = 9) ∨ (o = 137 ∧ op = 10)) : (ze_m o a true b false).2 = ze_out (zc_jn op a b) ∧ (ze_out (zc_jn op a b) = false → (ze_m o a true b false).1 = zc_jn op a b) := by
  unfold ze_m ze_bd
  rcases h with ⟨rfl, rfl⟩ | ⟨rfl, rfl⟩ | ⟨rfl, rfl⟩
  · have e : zc_jn 8 a b = ze_op 142 a b := by unfold zc_jn ze_op; simp
    rw [e]
    simp only [decide_true, Bool.not_true, Bool.false_and, cond_false, Bool.false_or, Bool.true_and]
    exact ⟨trivial, fun z => by rw [z]; rfl⟩
  · by_cases hb : b = 0
    · have e : zc_jn 9 a b = 1000000001 := by unfold zc_jn; simp [hb]
      have e2 : ze_out 1000000001 = true := by decide
      rw [e, e2, hb]
      simp only [decide_true, Bool.and_true, Bool.false_or, Bool.true_or]
      refine ⟨rfl, fun z => by cases z⟩
    · have e : zc_jn 9 a b = ze_op 147 a b := by unfold zc_jn ze_op; simp [hb]
      rw [e]
      simp only [decide_eq_false hb, Bool.and_false, cond_false, Bool.false_or, Bool.true_and]
      exact ⟨trivial, fun z => by rw [z]; rfl⟩
  · by_cases hb : b = 0
    · have e : zc_jn 10 a b = 1000000001 := by unfold zc_jn; simp [hb]
      have e2 : ze_out 1000000001 = true := by decide
      rw [e, e2, hb]
      simp only [decide_true, Bool.and_true, Bool.false_or, Bool.true_or]
      refine ⟨rfl, fun z => by cases z⟩
    · have e : zc_jn 10 a b = ze_op 137 a b := by unfold zc_jn ze_op; simp [hb]
      rw [e]
      simp only [decide_eq_false hb, Bool.and_false, cond_false, Bool.false_or, Bool.true_and]
      exact ⟨trivial, fun z => by rw [z]; rfl⟩
theorem zc_jn_a {o op a b : Int} (h : (o = 143 ∧ op = 6) ∨ (o = 145 ∧ op = 7)) : (ze_a o a true b false).2 = ze_out (zc_jn op a b) ∧ (ze_out (zc_jn op a b) = false → (ze_a o a true b false).1 = zc_jn op a b) := by
  unfold ze_a ze_bd
  rcases h with ⟨rfl, rfl⟩ | ⟨rfl, rfl⟩
  · have e : zc_jn 6 a b = a + b := by unfold zc_jn; simp
    rw [e]
    simp only [if_true, Bool.false_or, Bool.true_and]
    exact ⟨trivial, fun z => by rw [z]; rfl⟩
  · have e : zc_jn 7 a b = a - b := by unfold zc_jn; simp
    rw [e, if_neg (by decide)]
    simp only [Bool.false_or, Bool.true_and]
    exact ⟨trivial, fun z => by rw [z]; rfl⟩
theorem zc_jn_c {o op a b : Int} (h : (o = 160 ∧ op = 11) ∨ (o = 162 ∧ op = 12) ∨ (o = 161 ∧ op = 13)) : zc_jn op a b = ze_bi (ze_cmp o a b) ∧ ze_out (zc_jn op a b) = false := by
  have e : ∀ x : Bool, ze_out (ze_bi x) = false := by intro x; cases x <;> decide
  rcases h with ⟨rfl, rfl⟩ | ⟨rfl, rfl⟩ | ⟨rfl, rfl⟩
  · have e1 : zc_jn 11 a b = ze_bi (ze_cmp 160 a b) := by unfold zc_jn ze_cmp; simp
    exact ⟨e1, by rw [e1]; exact e _⟩
  · have e1 : zc_jn 12 a b = ze_bi (ze_cmp 162 a b) := by unfold zc_jn ze_cmp; simp
    exact ⟨e1, by rw [e1]; exact e _⟩
  · have e1 : zc_jn 13 a b = ze_bi (ze_cmp 161 a b) := by unfold zc_jn ze_cmp; simp
    exact ⟨e1, by rw [e1]; exact e _⟩
