/-! LINEAR EXPRESSIONS over whole-number variables, and what follows from rows 'expression ≥ 0' by a told combination -/
abbrev zq_L : Type := Int × List (Nat × Int)
def zq_ts (r : Nat → Int) : List (Nat × Int) → Int
  | [] => 0
  | t :: l => t.2 * r t.1 + zq_ts r l
def zq_ev (r : Nat → Int) (e : zq_L) : Int := e.1 + zq_ts r e.2
def zq_ins (v : Nat) (c : Int) : List (Nat × Int) → List (Nat × Int)
  | [] => bif c == 0 then [] else [(v, c)]
  | t :: l => bif Nat.blt v t.1 then (bif c == 0 then t :: l else (v, c) :: t :: l) else bif Nat.beq v t.1 then (bif c + t.2 == 0 then l else (v, c + t.2) :: l) else t :: zq_ins v c l
def zq_addT : List (Nat × Int) → List (Nat × Int) → List (Nat × Int)
  | [], b => b
  | t :: l, b => zq_ins t.1 t.2 (zq_addT l b)
def zq_add (a b : zq_L) : zq_L := (a.1 + b.1, zq_addT a.2 b.2)
def zq_mulT (k : Int) : List (Nat × Int) → List (Nat × Int)
  | [] => []
  | t :: l => (t.1, k * t.2) :: zq_mulT k l
def zq_smul (k : Int) (a : zq_L) : zq_L := bif k == 0 then (0, []) else (k * a.1, zq_mulT k a.2)
def zq_k (n : Int) : zq_L := (n, [])
def zq_v (i : Nat) : zq_L := (0, [(i, 1)])
def zq_neg (a : zq_L) : zq_L := (-a.1, zq_mulT (-1) a.2)
def zq_sub (a b : zq_L) : zq_L := zq_add a (zq_neg b)
def zq_addk (a : zq_L) (n : Int) : zq_L := (a.1 + n, a.2)
theorem zq_ts_ins (r : Nat → Int) (v : Nat) (c : Int) : ∀ l, zq_ts r (zq_ins v c l) = c * r v + zq_ts r l
  | [] => by
    simp only [zq_ins]
    cases h : (c == 0) with
    | true => simp at h; subst h; simp [zq_ts]
    | false => simp [zq_ts]
  | t :: l => by
    simp only [zq_ins]
    cases h1 : Nat.blt v t.1 with
    | true =>
      cases h : (c == 0) with
      | true => simp at h; subst h; simp [zq_ts]
      | false => simp [zq_ts]
    | false =>
      cases h2 : Nat.beq v t.1 with
      | true =>
        have e := Nat.eq_of_beq_eq_true h2
        subst e
        cases h : (c + t.2 == 0) with
        | true =>
          simp at h
          simp only [cond_true, cond_false, zq_ts]
          rw [← Int.add_assoc, ← Int.add_mul, h]; simp
        | false => simp only [cond_true, cond_false, zq_ts]; rw [Int.add_mul, Int.add_assoc]
      | false =>
        simp only [cond_false, zq_ts]
        rw [zq_ts_ins r v c l]; omega
theorem zq_ts_addT (r : Nat → Int) : ∀ a b, zq_ts r (zq_addT a b) = zq_ts r a + zq_ts r b
  | [], b => by simp [zq_addT, zq_ts]
  | t :: l, b => by simp only [zq_addT, zq_ts, zq_ts_ins, zq_ts_addT r l b]; omega
theorem zq_ts_mulT (r : Nat → Int) (k : Int) : ∀ a, zq_ts r (zq_mulT k a) = k * zq_ts r a
  | [] => by simp [zq_mulT, zq_ts]
  | t :: l => by simp only [zq_mulT, zq_ts, zq_ts_mulT r k l, Int.mul_add, Int.mul_assoc]
theorem zq_ev_add (r : Nat → Int) (a b : zq_L) : zq_ev r (zq_add a b) = zq_ev r a + zq_ev r b := by
  simp only [zq_ev, zq_add, zq_ts_addT]; omega
theorem zq_ev_smul (r : Nat → Int) (k : Int) (a : zq_L) : zq_ev r (zq_smul k a) = k * zq_ev r a := by
  unfold zq_smul
  cases h : (k == 0) with
  | true => simp at h; subst h; simp [zq_ev, zq_ts]
  | false => simp only [cond_false, zq_ev, zq_ts_mulT, Int.mul_add]
theorem zq_ev_k (r : Nat → Int) (n : Int) : zq_ev r (zq_k n) = n := by simp [zq_ev, zq_k, zq_ts]
theorem zq_ev_v (r : Nat → Int) (i : Nat) : zq_ev r (zq_v i) = r i := by simp [zq_ev, zq_v, zq_ts]
theorem zq_ev_neg (r : Nat → Int) (a : zq_L) : zq_ev r (zq_neg a) = - zq_ev r a := by
  simp only [zq_ev, zq_neg, zq_ts_mulT]; omega
theorem zq_ev_sub (r : Nat → Int) (a b : zq_L) : zq_ev r (zq_sub a b) = zq_ev r a - zq_ev r b := by
  rw [zq_sub, zq_ev_add, zq_ev_neg]; omega
theorem zq_ev_addk (r : Nat → Int) (a : zq_L) (n : Int) : zq_ev r (zq_addk a n) = zq_ev r a + n := by
  simp only [zq_ev, zq_addk]; omega
/-- only variables below n -/
def zq_bdT (n : Nat) : List (Nat × Int) → Bool
  | [] => true
  | t :: l => Nat.blt t.1 n && zq_bdT n l
def zq_bd (n : Nat) (e : zq_L) : Bool := zq_bdT n e.2
def zq_ext (n : Nat) (r r' : Nat → Int) : Prop := ∀ i, i < n → r' i = r i
theorem zq_blt {a b : Nat} : Nat.blt a b = true ↔ a < b := by
  rw [Nat.blt_eq]
theorem zq_bdT_ins {n v : Nat} {c : Int} (hv : v < n) : ∀ {l}, zq_bdT n l = true → zq_bdT n (zq_ins v c l) = true
  | [], _ => by
    simp only [zq_ins]
    cases c == 0 <;> simp [zq_bdT, hv, zq_blt]
  | t :: l, h => by
    simp only [zq_bdT, Bool.and_eq_true, zq_blt] at h
    simp only [zq_ins]
    cases Nat.blt v t.1
    · cases Nat.beq v t.1
      · simp only [cond_false, zq_bdT, Bool.and_eq_true, zq_blt]; exact ⟨h.1, zq_bdT_ins hv h.2⟩
      · cases (c + t.2 == 0)
        · simp only [cond_false, cond_true, zq_bdT, Bool.and_eq_true, zq_blt]; exact ⟨hv, h.2⟩
        · simp only [cond_true]; exact h.2
    · cases (c == 0)
      · simp only [cond_false, cond_true, zq_bdT, Bool.and_eq_true, zq_blt]; exact ⟨hv, h⟩
      · simp only [cond_true, zq_bdT, Bool.and_eq_true, zq_blt]; exact h
theorem zq_bdT_addT {n : Nat} : ∀ {a b}, zq_bdT n a = true → zq_bdT n b = true → zq_bdT n (zq_addT a b) = true
  | [], _, _, hb => hb
  | t :: l, b, ha, hb => by
    simp only [zq_bdT, Bool.and_eq_true, zq_blt] at ha
    exact zq_bdT_ins ha.1 (zq_bdT_addT ha.2 hb)
theorem zq_bdT_mulT {n : Nat} {k : Int} : ∀ {a}, zq_bdT n a = true → zq_bdT n (zq_mulT k a) = true
  | [], _ => rfl
  | t :: l, h => by
    simp only [zq_bdT, Bool.and_eq_true] at h
    simp only [zq_mulT, zq_bdT, Bool.and_eq_true]
    exact ⟨h.1, zq_bdT_mulT h.2⟩
theorem zq_bd_add {n : Nat} {a b : zq_L} (ha : zq_bd n a = true) (hb : zq_bd n b = true) : zq_bd n (zq_add a b) = true := zq_bdT_addT ha hb
theorem zq_bd_smul {n : Nat} {k : Int} {a : zq_L} (ha : zq_bd n a = true) : zq_bd n (zq_smul k a) = true := by
  unfold zq_smul
  cases k == 0
  · exact zq_bdT_mulT (k := k) ha
  · rfl
theorem zq_bd_neg {n : Nat} {a : zq_L} (ha : zq_bd n a = true) : zq_bd n (zq_neg a) = true := zq_bdT_mulT (k := -1) ha
theorem zq_bd_sub {n : Nat} {a b : zq_L} (ha : zq_bd n a = true) (hb : zq_bd n b = true) : zq_bd n (zq_sub a b) = true := zq_bd_add ha (zq_bd_neg hb)
theorem zq_bd_addk {n : Nat} {a : zq_L} {k : Int} (ha : zq_bd n a = true) : zq_bd n (zq_addk a k) = true := ha
theorem zq_bd_k {n : Nat} {k : Int} : zq_bd n (zq_k k) = true := rfl
theorem zq_bd_v {n i : Nat} (h : i < n) : zq_bd n (zq_v i) = true := by simp [zq_bd, zq_v, zq_bdT, zq_blt, h]
theorem zq_bdT_mono {n n' : Nat} (h : n ≤ n') : ∀ {l}, zq_bdT n l = true → zq_bdT n' l = true
  | [], _ => rfl
  | t :: l, q => by
    simp only [zq_bdT, Bool.and_eq_true, zq_blt] at q ⊢
    exact ⟨Nat.lt_of_lt_of_le q.1 h, zq_bdT_mono h q.2⟩
theorem zq_bd_mono {n n' : Nat} (h : n ≤ n') {e : zq_L} (q : zq_bd n e = true) : zq_bd n' e = true := zq_bdT_mono h q
theorem zq_ts_ext {n : Nat} {r r' : Nat → Int} (h : zq_ext n r r') : ∀ {l}, zq_bdT n l = true → zq_ts r' l = zq_ts r l
  | [], _ => rfl
  | t :: l, q => by
    simp only [zq_bdT, Bool.and_eq_true, zq_blt] at q
    simp only [zq_ts, h _ q.1, zq_ts_ext h q.2]
theorem zq_ev_ext {n : Nat} {r r' : Nat → Int} (h : zq_ext n r r') {e : zq_L} (q : zq_bd n e = true) : zq_ev r' e = zq_ev r e := by
  simp only [zq_ev, zq_ts_ext h q]
/-- a combination of rows, and what it shows: d times e is the combination and a number above -d -/
def zq_comb (C : List zq_L) : List (Nat × Nat) → zq_L
  | [] => (0, [])
  | t :: l => zq_add (zq_smul (t.2 : Int) (C.getD t.1 (0, []))) (zq_comb C l)
abbrev zq_W : Type := Nat × List (Nat × Nat)
def zq_ent (C : List zq_L) (e : zq_L) (w : zq_W) : Bool :=
  Nat.blt 0 w.1 && (match zq_sub (zq_smul (w.1 : Int) e) (zq_comb C w.2) with
    | (x, []) => decide (-(w.1 : Int) < x)
    | _ => false)
def zq_all (r : Nat → Int) (C : List zq_L) : Prop := ∀ e ∈ C, 0 ≤ zq_ev r e
theorem zq_comb_nn {r : Nat → Int} {C : List zq_L} (h : zq_all r C) : ∀ l, 0 ≤ zq_ev r (zq_comb C l)
  | [] => by simp [zq_comb, zq_ev, zq_ts]
  | t :: l => by
    rw [zq_comb, zq_ev_add, zq_ev_smul]
    have h1 := zq_comb_nn h l
    have h2 : 0 ≤ zq_ev r (C.getD t.1 (0, [])) := by
      rw [List.getD_eq_getElem?_getD]
      cases hc : C[t.1]? with
      | none => simp [zq_ev, zq_ts]
      | some e => exact h e (List.mem_of_getElem? hc)
    have h3 : 0 ≤ (t.2 : Int) * zq_ev r (C.getD t.1 (0, [])) := Int.mul_nonneg (Int.natCast_nonneg _) h2
    omega
theorem zq_ent_ok {r : Nat → Int} {C : List zq_L} {e : zq_L} {w : zq_W} (h : zq_all r C) (q : zq_ent C e w = true) : 0 ≤ zq_ev r e := by
  simp only [zq_ent, Bool.and_eq_true, zq_blt] at q
  obtain ⟨q1, q2⟩ := q
  have h1 := zq_comb_nn h w.2
  have h3 := zq_ev_sub r (zq_smul (w.1 : Int) e) (zq_comb C w.2)
  rw [zq_ev_smul] at h3
  split at q2
  · rename_i x hx
    simp only [decide_eq_true_eq] at q2
    rw [hx] at h3
    simp only [zq_ev, zq_ts, Int.add_zero] at h3
    have h4 : -(w.1 : Int) < (w.1 : Int) * (e.1 + zq_ts r e.2) := by
      have h1' : 0 ≤ (zq_comb C w.2).1 + zq_ts r (zq_comb C w.2).2 := h1
      omega
    show 0 ≤ e.1 + zq_ts r e.2
    generalize e.1 + zq_ts r e.2 = z at h4 ⊢
    rcases Int.lt_or_le z 0 with hz | hz
    · exfalso
      have h5 : (w.1 : Int) * z ≤ (w.1 : Int) * (-1) := Int.mul_le_mul_of_nonneg_left (by omega) (Int.natCast_nonneg _)
      omega
    · exact hz
  · cases q2
