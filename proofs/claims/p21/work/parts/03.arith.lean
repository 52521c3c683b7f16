/-! NUMBERS OF 32 AND 64 BITS as whole numbers; a rule gives of an operation's answer an expression and rows that hold of it -/
noncomputable def zq_up (r : Nat → Int) (n : Nat) (z : Int) : Nat → Int := fun i => bif Nat.beq i n then z else r i
theorem zq_up_self (r : Nat → Int) (n : Nat) (z : Int) : zq_up r n z n = z := by simp [zq_up]
theorem zq_up_ext (r : Nat → Int) (n : Nat) (z : Int) : zq_ext n r (zq_up r n z) := by
  intro i hi
  have h : Nat.beq i n = false := by
    cases h : Nat.beq i n with
    | false => rfl
    | true => have := Nat.eq_of_beq_eq_true h; omega
  simp [zq_up, h]
/-- a stream of numbers is read: whole numbers as 2 n or 2 n + 1 -/
noncomputable def zq_zig (n : Nat) : Int := Bool.rec (motive := fun _ => Int) (Int.negSucc (Nat.div n 2)) (Int.ofNat (Nat.div n 2)) (Nat.beq (Nat.mod n 2) 0)
noncomputable def zq_rdP (k : Nat) : List Nat → Option (List (Nat × Nat) × List Nat) := Nat.rec (motive := fun _ => List Nat → Option (List (Nat × Nat) × List Nat)) (fun q => some ([], q)) (fun _ ih q => List.rec (motive := fun _ => Option (List (Nat × Nat) × List Nat)) none (fun a q1 _ => List.rec (motive := fun _ => Option (List (Nat × Nat) × List Nat)) none (fun b q2 _ => Option.rec (motive := fun _ => Option (List (Nat × Nat) × List Nat)) none (fun p => some ((a, b) :: p.1, p.2)) (ih q2)) q1) q) k
noncomputable def zq_prove (C : List zq_L) (e : zq_L) : List Nat → Option (List Nat)
  | 0 :: i :: q => bif zq_row C e i then some q else none
  | (d + 1) :: k :: q => match zq_rdP k q with
    | some (l, q') => bif zq_ent C e (d + 1, l) then some q' else none
    | none => none
  | _ => none
theorem zq_prove_ok {C : List zq_L} {e : zq_L} {q q' : List Nat} (h : zq_prove C e q = some q') {r : Nat → Int} (hC : zq_all r C) : 0 ≤ zq_ev r e := by
  match q, h with
  | 0 :: i :: q1, h =>
    have h1 : (bif zq_row C e i then some q1 else none) = some q' := h
    cases hc : zq_row C e i with
    | true => exact zq_row_ok hC hc
    | false => rw [hc] at h1; cases h1
  | (d + 1) :: k :: q1, h =>
    have h1 : (match zq_rdP k q1 with
      | some (l, q') => bif zq_ent C e (d + 1, l) then some q' else none
      | none => none) = some q' := h
    split at h1
    · rename_i l q2 hw
      cases hc : zq_ent C e (d + 1, l) with
      | true => exact zq_ent_ok hC hc
      | false => rw [hc] at h1; cases h1
    · cases h1
  | [], h => cases (show none = some q' from h)
  | [0], h => cases (show none = some q' from h)
  | [d + 1], h => cases (show none = some q' from h)
noncomputable def zq_bw (t : Nat) : Nat := bif Nat.beq t 0 then 32 else 64
noncomputable def zq_M (t : Nat) : Int := bif Nat.beq t 0 then 4294967296 else 18446744073709551616
noncomputable def zq_mn (t : Nat) : Int := bif Nat.beq t 0 then -2147483648 else -9223372036854775808
noncomputable def zq_mx (t : Nat) : Int := bif Nat.beq t 0 then 2147483647 else 9223372036854775807
noncomputable def zq_in (t : Nat) (z : Int) : Prop := zq_mn t ≤ z ∧ z ≤ zq_mx t
noncomputable def zq_and (t : Nat) (a b : Int) : Int := (BitVec.ofInt (zq_bw t) a &&& BitVec.ofInt (zq_bw t) b).toInt
noncomputable def zq_or (t : Nat) (a b : Int) : Int := (BitVec.ofInt (zq_bw t) a ||| BitVec.ofInt (zq_bw t) b).toInt
noncomputable def zq_xor (t : Nat) (a b : Int) : Int := (BitVec.ofInt (zq_bw t) a ^^^ BitVec.ofInt (zq_bw t) b).toInt
/-- 0 +, 1 -, 2 *, 3 /, 4 %, 5 and, 6 or, 7 xor, 8 <<, 9 >>, 10 >>> -/
noncomputable def zq_fun (t op : Nat) (a b : Int) : Int := match op with
  | 0 => (a + b).bmod (2 ^ zq_bw t)
  | 1 => (a - b).bmod (2 ^ zq_bw t)
  | 2 => (a * b).bmod (2 ^ zq_bw t)
  | 3 => (a.tdiv b).bmod (2 ^ zq_bw t)
  | 4 => a.tmod b
  | 5 => zq_and t a b
  | 6 => zq_or t a b
  | 7 => zq_xor t a b
  | 8 => (a * 2 ^ b.toNat).bmod (2 ^ zq_bw t)
  | 9 => a / 2 ^ b.toNat
  | _ => ((a % zq_M t) / 2 ^ b.toNat).bmod (2 ^ zq_bw t)
/-- what must hold that the operation is that -/
noncomputable def zq_cond (t op : Nat) (b : Int) : Prop := (op = 3 ∨ op = 4 → b ≠ 0) ∧ (8 ≤ op → 0 ≤ b ∧ b < zq_bw t)
theorem zq_t (t : Nat) : (zq_bw t = 32 ∧ zq_M t = 4294967296 ∧ zq_mn t = -2147483648 ∧ zq_mx t = 2147483647) ∨ (zq_bw t = 64 ∧ zq_M t = 18446744073709551616 ∧ zq_mn t = -9223372036854775808 ∧ zq_mx t = 9223372036854775807) := by
  cases t with
  | zero => left; exact ⟨rfl, rfl, rfl, rfl⟩
  | succ n => right; exact ⟨rfl, rfl, rfl, rfl⟩
theorem zq_bmod_in (t : Nat) (z : Int) : zq_in t (z.bmod (2 ^ zq_bw t)) := by
  unfold zq_in
  rcases zq_t t with ⟨h1, -, h3, h4⟩ | ⟨h1, -, h3, h4⟩
  · rw [h1, h3, h4]
    have a := @Int.le_bmod z (2 ^ 32) (by decide)
    have b := @Int.bmod_lt z (2 ^ 32) (by decide)
    omega
  · rw [h1, h3, h4]
    have a := @Int.le_bmod z (2 ^ 64) (by decide)
    have b := @Int.bmod_lt z (2 ^ 64) (by decide)
    omega
theorem zq_bmod_eq {t : Nat} {z : Int} (h : zq_in t z) : z.bmod (2 ^ zq_bw t) = z := by
  unfold zq_in at h
  rcases zq_t t with ⟨h1, -, h3, h4⟩ | ⟨h1, -, h3, h4⟩
  · rw [h1]; rw [h3, h4] at h; exact Int.bmod_eq_of_le (by omega) (by omega)
  · rw [h1]; rw [h3, h4] at h; exact Int.bmod_eq_of_le (by omega) (by omega)
theorem zq_bv_in (t : Nat) (x : BitVec (zq_bw t)) : zq_in t x.toInt := by
  have a := BitVec.le_toInt x
  have b := BitVec.toInt_lt (x := x)
  unfold zq_in
  generalize x.toInt = z at a b ⊢
  rcases zq_t t with ⟨h1, -, h3, h4⟩ | ⟨h1, -, h3, h4⟩
  · rw [h1] at a b; rw [h3, h4]; constructor
    · exact a
    · exact Int.le_of_lt_add_one b
  · rw [h1] at a b; rw [h3, h4]; constructor
    · exact a
    · exact Int.le_of_lt_add_one b
theorem zq_tmod_in {t : Nat} {a b : Int} (h : zq_in t a) : zq_in t (a.tmod b) := by
  unfold zq_in at *
  have hm : zq_mn t ≤ 0 ∧ 0 ≤ zq_mx t := by rcases zq_t t with ⟨-, -, h3, h4⟩ | ⟨-, -, h3, h4⟩ <;> rw [h3, h4] <;> decide
  rcases Int.le_total 0 a with ha | ha
  · have h1 := Int.tmod_nonneg b ha
    have h2 : a.tmod b ≤ a := by
      rw [Int.tmod_def]
      have h3 : 0 ≤ b * a.tdiv b := by
        rcases Int.le_total 0 b with hb | hb
        · exact Int.mul_nonneg hb (Int.tdiv_nonneg ha hb)
        · exact Int.mul_nonneg_of_nonpos_of_nonpos hb (Int.tdiv_nonpos_of_nonneg_of_nonpos ha hb)
      omega
    omega
  · have e : a.tmod b = -((-a).tmod b) := by rw [Int.neg_tmod]; omega
    have h1 := Int.tmod_nonneg b (a := -a) (by omega)
    have h2 : (-a).tmod b ≤ -a := by
      rw [Int.tmod_def]
      have h3 : 0 ≤ b * (-a).tdiv b := by
        rcases Int.le_total 0 b with hb | hb
        · exact Int.mul_nonneg hb (Int.tdiv_nonneg (by omega) hb)
        · exact Int.mul_nonneg_of_nonpos_of_nonpos hb (Int.tdiv_nonpos_of_nonneg_of_nonpos (by omega) hb)
      omega
    omega
theorem zq_shr_in {t : Nat} {a : Int} (k : Nat) (h : zq_in t a) : zq_in t (a / 2 ^ k) := by
  unfold zq_in at *
  have hm : zq_mn t ≤ 0 ∧ 0 ≤ zq_mx t := by rcases zq_t t with ⟨-, -, h3, h4⟩ | ⟨-, -, h3, h4⟩ <;> rw [h3, h4] <;> decide
  have hp : (0 : Int) < 2 ^ k := Int.pow_pos (by decide)
  have hp1 : (1 : Int) ≤ 2 ^ k := hp
  have h1 : a / 2 ^ k * 2 ^ k ≤ a := Int.ediv_mul_le a (by omega)
  have h2 : a < (a / 2 ^ k + 1) * 2 ^ k := Int.lt_ediv_add_one_mul_self a hp
  generalize a / 2 ^ k = x at *
  generalize (2 : Int) ^ k = p at *
  constructor
  · rcases Int.lt_or_le x 0 with hx | hx
    · have h3 : (x + 1) * p ≤ (x + 1) * 1 := Int.mul_le_mul_of_nonpos_left (a := x + 1) (by omega) hp1
      omega
    · omega
  · rcases Int.le_total 0 x with hx | hx
    · have h3 : x * 1 ≤ x * p := Int.mul_le_mul_of_nonneg_left hp1 hx
      omega
    · omega
theorem zq_fun_in {t op : Nat} {a b : Int} (ha : zq_in t a) : zq_in t (zq_fun t op a b) := by
  unfold zq_fun
  split
  all_goals first | exact zq_bmod_in _ _ | exact zq_tmod_in ha | exact zq_bv_in t _ | exact zq_shr_in _ ha
