/-- what is told of an answer z: an expression over n' variables, new rows -/
noncomputable def zq_RO (r : Nat → Int) (n : Nat) (z : Int) (o : zq_L × List zq_L × Nat) : Prop :=
  n ≤ o.2.2 ∧ ∃ r', zq_ext n r r' ∧ zq_bd o.2.2 o.1 = true ∧ (∀ c ∈ o.2.1, zq_bd o.2.2 c = true) ∧ zq_ev r' o.1 = z ∧ zq_all r' o.2.1
theorem zq_RO_exact {r : Nat → Int} {n : Nat} {e : zq_L} {z : Int} (h : zq_bd n e = true) (hz : zq_ev r e = z) : zq_RO r n z (e, [], n) :=
  ⟨Nat.le_refl _, r, fun _ _ => rfl, h, fun _ h => absurd h List.not_mem_nil, hz, fun _ h => absurd h List.not_mem_nil⟩
/-- a new variable between two numbers -/
noncomputable def zq_bet (n : Nat) (lo hi : Int) : List zq_L := [zq_addk (zq_v n) (-lo), zq_sub (zq_k hi) (zq_v n)]
theorem zq_RO_bet {r : Nat → Int} {n : Nat} {z lo hi : Int} (h1 : lo ≤ z) (h2 : z ≤ hi) : zq_RO r n z (zq_v n, zq_bet n lo hi, n + 1) := by
  refine ⟨Nat.le_succ _, zq_up r n z, zq_up_ext r n z, zq_bd_v (Nat.lt_succ_self _), ?_, by rw [zq_ev_v, zq_up_self], ?_⟩
  · intro c hc
    simp only [zq_bet, List.mem_cons, List.not_mem_nil, or_false] at hc
    rcases hc with rfl | rfl
    · exact zq_bd_addk (zq_bd_v (Nat.lt_succ_self _))
    · exact zq_bd_sub zq_bd_k (zq_bd_v (Nat.lt_succ_self _))
  · intro c hc
    simp only [zq_bet, List.mem_cons, List.not_mem_nil, or_false] at hc
    rcases hc with rfl | rfl
    · rw [zq_ev_addk, zq_ev_v, zq_up_self]; omega
    · rw [zq_ev_sub, zq_ev_k, zq_ev_v, zq_up_self]; omega
noncomputable def zq_lin (op : Nat) (a b : zq_L) : Option zq_L := match op with
  | 0 => some (zq_add a b)
  | 1 => some (zq_sub a b)
  | 2 => match a.2 with
    | [] => some (zq_smul a.1 b)
    | _ => match b.2 with
      | [] => some (zq_smul b.1 a)
      | _ => none
  | 8 => match b.2 with
    | [] => some (zq_smul (2 ^ b.1.toNat) a)
    | _ => none
  | _ => none
theorem zq_ev_c {r : Nat → Int} {a : zq_L} (h : a.2 = []) : zq_ev r a = a.1 := by simp [zq_ev, h, zq_ts]
theorem zq_lin_ok {t op n : Nat} {a b e : zq_L} {r : Nat → Int} (h : zq_lin op a b = some e) (ha : zq_bd n a = true) (hb : zq_bd n b = true) (hin : zq_in t (zq_ev r e)) :
    zq_bd n e = true ∧ zq_fun t op (zq_ev r a) (zq_ev r b) = zq_ev r e := by
  unfold zq_lin at h
  split at h
  · cases h; exact ⟨zq_bd_add ha hb, by rw [zq_fun, ← zq_ev_add]; exact zq_bmod_eq hin⟩
  · cases h; exact ⟨zq_bd_sub ha hb, by rw [zq_fun, ← zq_ev_sub]; exact zq_bmod_eq hin⟩
  · split at h
    · rename_i h0; cases h
      refine ⟨zq_bd_smul hb, ?_⟩
      rw [zq_fun, zq_ev_c h0, ← zq_ev_smul]; exact zq_bmod_eq hin
    · split at h
      · rename_i h0; cases h
        refine ⟨zq_bd_smul ha, ?_⟩
        rw [zq_fun, zq_ev_c h0, Int.mul_comm, ← zq_ev_smul]; exact zq_bmod_eq hin
      · cases h
  · split at h
    · rename_i h0; cases h
      refine ⟨zq_bd_smul ha, ?_⟩
      rw [zq_fun, zq_ev_c h0, Int.mul_comm, ← zq_ev_smul]; exact zq_bmod_eq hin
    · cases h
  · cases h
/-- the operation as a division by c > 0 that leaves a rest: 0 it is the quotient, 1 the rest -/
noncomputable def zq_flo (t op : Nat) (b : zq_L) (k : Nat) : Option (Int × Nat × Nat) := match b.2 with
  | [] => match op with
    | 3 => bif decide (0 < b.1) then some (b.1, 0, 1) else none
    | 4 => bif decide (0 < b.1) then some (b.1, 1, 1) else none
    | 9 => some (2 ^ b.1.toNat, 0, 0)
    | 5 => bif decide (b.1 + 1 = 2 ^ k) && Nat.blt k (zq_bw t) then some (2 ^ k, 1, 0) else none
    | _ => none
  | _ => none
theorem zq_and_mask {t : Nat} {a : Int} {k : Nat} (hk : k < zq_bw t) : zq_and t a (2 ^ k - 1) = a % 2 ^ k := by
  unfold zq_and
  generalize zq_bw t = w at hk
  have hp : (2 : Nat) ^ k < 2 ^ w := Nat.pow_lt_pow_right (by decide) hk
  have hp0 : 0 < (2 : Nat) ^ k := Nat.pow_pos (by decide)
  have e1 : (BitVec.ofInt w (2 ^ k - 1)).toNat = 2 ^ k - 1 := by
    rw [BitVec.toNat_ofInt]
    have e : ((2 : Int) ^ k - 1) = ((2 ^ k - 1 : Nat) : Int) := by
      have : ((2 ^ k : Nat) : Int) = 2 ^ k := by push_cast; rfl
      omega
    rw [e, ← Int.natCast_emod, Int.toNat_natCast, Nat.mod_eq_of_lt (by omega)]
  have e2 : (BitVec.ofInt w a &&& BitVec.ofInt w (2 ^ k - 1)).toNat = (a % 2 ^ k).toNat := by
    rw [BitVec.toNat_and, e1, Nat.and_two_pow_sub_one_eq_mod, BitVec.toNat_ofInt]
    have h1 : (0 : Int) ≤ a % ((2 ^ w : Nat) : Int) := Int.emod_nonneg _ (by have := Nat.pow_pos (n := w) (show 0 < 2 by decide); omega)
    have h2 : ((((a % ((2 ^ w : Nat) : Int)).toNat % 2 ^ k : Nat)) : Int) = a % 2 ^ k := by
      rw [Int.natCast_emod, Int.toNat_of_nonneg h1]
      have h3 : ((2 ^ k : Nat) : Int) ∣ ((2 ^ w : Nat) : Int) := Int.natCast_dvd_natCast.mpr (Nat.pow_dvd_pow 2 (Nat.le_of_lt hk))
      rw [Int.emod_emod_of_dvd _ h3]
      push_cast; rfl
    omega
  have h4 : (0 : Int) ≤ a % 2 ^ k := Int.emod_nonneg _ (Int.ne_of_gt (Int.pow_pos (by decide)))
  have h5 : a % 2 ^ k < 2 ^ k := Int.emod_lt_of_pos _ (Int.pow_pos (by decide))
  have h6 : ((2 ^ k : Nat) : Int) = 2 ^ k := by push_cast; rfl
  have h7 : 2 * 2 ^ k ≤ 2 ^ w := by
    have := Nat.pow_le_pow_right (n := 2) (by decide) hk
    rw [Nat.pow_succ] at this; omega
  rw [BitVec.toInt_eq_toNat_of_lt (by rw [e2]; omega), e2, Int.toNat_of_nonneg h4]
theorem zq_flo_ok {t op k : Nat} {b : zq_L} {o : Int × Nat × Nat} {r : Nat → Int} {a : Int} (h : zq_flo t op b k = some o) (ha : zq_in t a) (hs : o.2.2 = 1 → 0 ≤ a) :
    0 < o.1 ∧ zq_fun t op a (zq_ev r b) = (if o.2.1 = 0 then a / o.1 else a % o.1) := by
  unfold zq_flo at h
  split at h
  · rename_i h0
    rw [zq_ev_c h0]
    split at h
    · cases hc : decide (0 < b.1) with
      | false => rw [hc] at h; cases h
      | true =>
        rw [hc] at h; cases h
        have hb := of_decide_eq_true hc
        have ha0 := hs rfl
        refine ⟨hb, ?_⟩
        rw [zq_fun, if_pos rfl, Int.tdiv_eq_ediv_of_nonneg ha0]
        refine zq_bmod_eq ?_
        have h1 : 0 ≤ a / b.1 := Int.ediv_nonneg ha0 (by omega)
        have h2 : a / b.1 ≤ a := Int.ediv_le_self _ ha0
        unfold zq_in at *
        have hm : zq_mn t ≤ 0 := by rcases zq_t t with ⟨-, -, h3, -⟩ | ⟨-, -, h3, -⟩ <;> rw [h3] <;> decide
        omega
    · cases hc : decide (0 < b.1) with
      | false => rw [hc] at h; cases h
      | true =>
        rw [hc] at h; cases h
        have hb := of_decide_eq_true hc
        refine ⟨hb, ?_⟩
        rw [zq_fun, if_neg Nat.one_ne_zero, Int.tmod_eq_emod_of_nonneg (hs rfl)]
    · cases h
      exact ⟨Int.pow_pos (by decide), by rw [zq_fun, if_pos rfl]⟩
    · cases hc : (decide (b.1 + 1 = 2 ^ k) && Nat.blt k (zq_bw t)) with
      | false => rw [hc] at h; cases h
      | true =>
        rw [hc] at h; cases h
        simp only [Bool.and_eq_true, decide_eq_true_eq, zq_blt] at hc
        refine ⟨Int.pow_pos (by decide), ?_⟩
        rw [zq_fun, if_neg Nat.one_ne_zero, show b.1 = 2 ^ k - 1 by omega]
        exact zq_and_mask hc.2
    · cases h
  · cases h
noncomputable def zq_ivl (t op k : Nat) (la ha lb hb : Int) : Option (Int × Int) := match op with
  | 2 => let lo := min (min (la * lb) (la * hb)) (min (ha * lb) (ha * hb))
         let hi := max (max (la * lb) (la * hb)) (max (ha * lb) (ha * hb))
         bif decide (zq_mn t ≤ lo) && decide (hi ≤ zq_mx t) then some (lo, hi) else none
  | 3 => bif decide (0 ≤ la) && decide (1 ≤ lb) then some (0, ha) else
         let m := max (-la) ha
         bif decide (0 ≤ m) && decide (m ≤ zq_mx t) then some (-m, m) else none
  | 4 => let m := max (max (-lb) lb) (max (-hb) hb) - 1
         some (bif decide (0 ≤ la) then 0 else -m, bif decide (ha ≤ 0) then 0 else m)
  | 5 => bif decide (0 ≤ la) then some (0, ha) else bif decide (0 ≤ lb) then some (0, hb) else none
  | 6 => bif decide (0 ≤ la) && decide (0 ≤ lb) && decide (ha < 2 ^ k) && decide (hb < 2 ^ k) && Nat.blt k (zq_bw t) then some (0, 2 ^ k - 1) else none
  | 7 => bif decide (0 ≤ la) && decide (0 ≤ lb) && decide (ha < 2 ^ k) && decide (hb < 2 ^ k) && Nat.blt k (zq_bw t) then some (0, 2 ^ k - 1) else none
  | 8 => bif decide (0 ≤ la) && decide (0 ≤ lb) && decide (ha * 2 ^ hb.toNat ≤ zq_mx t) then some (la * 2 ^ lb.toNat, ha * 2 ^ hb.toNat) else none
  | 9 => bif decide (0 ≤ la) then some (0, ha) else none
  | _ => none
theorem zq_mul_bet {a la ha c : Int} (h1 : la ≤ a) (h2 : a ≤ ha) : min (la * c) (ha * c) ≤ a * c ∧ a * c ≤ max (la * c) (ha * c) := by
  rcases Int.le_total 0 c with hc | hc
  · have x := Int.mul_le_mul_of_nonneg_right h1 hc
    have y := Int.mul_le_mul_of_nonneg_right h2 hc
    omega
  · have x := Int.mul_le_mul_of_nonpos_right h1 hc
    have y := Int.mul_le_mul_of_nonpos_right h2 hc
    omega
theorem zq_mul_box {a b la ha lb hb : Int} (h1 : la ≤ a) (h2 : a ≤ ha) (h3 : lb ≤ b) (h4 : b ≤ hb) :
    min (min (la * lb) (la * hb)) (min (ha * lb) (ha * hb)) ≤ a * b ∧ a * b ≤ max (max (la * lb) (la * hb)) (max (ha * lb) (ha * hb)) := by
  have x := zq_mul_bet (c := b) h1 h2
  have y := zq_mul_bet (c := la) h3 h4
  have z := zq_mul_bet (c := ha) h3 h4
  rw [Int.mul_comm lb la, Int.mul_comm hb la, Int.mul_comm b la] at y
  rw [Int.mul_comm lb ha, Int.mul_comm hb ha, Int.mul_comm b ha] at z
  omega
theorem zq_tdiv_abs {a b : Int} : -(max (-a) a) ≤ a.tdiv b ∧ a.tdiv b ≤ max (-a) a := by
  have h : (a.tdiv b).natAbs ≤ a.natAbs := by rw [Int.natAbs_tdiv]; exact Nat.div_le_self _ _
  omega
theorem zq_tmod_abs {a b : Int} (hb : b ≠ 0) : -(max (-b) b - 1) ≤ a.tmod b ∧ a.tmod b ≤ max (-b) b - 1 := by
  have h : (a.tmod b).natAbs < b.natAbs := by
    rw [Int.natAbs_tmod]; exact Nat.mod_lt _ (by omega)
  omega
theorem zq_tmod_sgn {a b : Int} : (0 ≤ a → 0 ≤ a.tmod b) ∧ (a ≤ 0 → a.tmod b ≤ 0) := by
  constructor
  · intro h; exact Int.tmod_nonneg b h
  · intro h
    have := Int.tmod_nonneg b (a := -a) (by omega)
    rw [Int.neg_tmod] at this
    omega
theorem zq_bvn {t : Nat} {a : Int} (h : zq_in t a) (h0 : 0 ≤ a) : (BitVec.ofInt (zq_bw t) a).toNat = a.toNat ∧ 2 * a.toNat < 2 ^ zq_bw t := by
  unfold zq_in at h
  rcases zq_t t with ⟨h1, -, -, h4⟩ | ⟨h1, -, -, h4⟩
  all_goals
    rw [h4] at h
    rw [BitVec.toNat_ofInt, h1]
    constructor
    · rw [Int.emod_eq_of_lt h0 (by simp; omega)]
    · simp; omega
theorem zq_and_le {t : Nat} {a b : Int} (hb : zq_in t b) (h0 : 0 ≤ b) : 0 ≤ zq_and t a b ∧ zq_and t a b ≤ b := by
  obtain ⟨e, hlt⟩ := zq_bvn hb h0
  unfold zq_and
  have h1 : (BitVec.ofInt (zq_bw t) a &&& BitVec.ofInt (zq_bw t) b).toNat ≤ b.toNat := by
    rw [BitVec.toNat_and, ← e]; exact Nat.and_le_right
  rw [BitVec.toInt_eq_toNat_of_lt (by omega)]
  omega
theorem zq_and_comm (t : Nat) (a b : Int) : zq_and t a b = zq_and t b a := by unfold zq_and; rw [BitVec.and_comm]
theorem zq_or_lt {t k : Nat} {a b : Int} (ha : zq_in t a) (hb : zq_in t b) (ha0 : 0 ≤ a) (hb0 : 0 ≤ b) (hak : a < 2 ^ k) (hbk : b < 2 ^ k) (hk : k < zq_bw t) : 0 ≤ zq_or t a b ∧ zq_or t a b ≤ 2 ^ k - 1 := by
  obtain ⟨ea, -⟩ := zq_bvn ha ha0
  obtain ⟨eb, -⟩ := zq_bvn hb hb0
  have hc : ((2 ^ k : Nat) : Int) = 2 ^ k := by push_cast; rfl
  have h1 : a.toNat ||| b.toNat < 2 ^ k := Nat.or_lt_two_pow (by omega) (by omega)
  have h7 : 2 * 2 ^ k ≤ 2 ^ zq_bw t := by
    have := Nat.pow_le_pow_right (n := 2) (by decide) hk
    rw [Nat.pow_succ] at this; omega
  unfold zq_or
  have h2 : (BitVec.ofInt (zq_bw t) a ||| BitVec.ofInt (zq_bw t) b).toNat = a.toNat ||| b.toNat := by rw [BitVec.toNat_or, ea, eb]
  rw [BitVec.toInt_eq_toNat_of_lt (by omega), h2]
  omega
theorem zq_xor_lt {t k : Nat} {a b : Int} (ha : zq_in t a) (hb : zq_in t b) (ha0 : 0 ≤ a) (hb0 : 0 ≤ b) (hak : a < 2 ^ k) (hbk : b < 2 ^ k) (hk : k < zq_bw t) : 0 ≤ zq_xor t a b ∧ zq_xor t a b ≤ 2 ^ k - 1 := by
  obtain ⟨ea, -⟩ := zq_bvn ha ha0
  obtain ⟨eb, -⟩ := zq_bvn hb hb0
  have hc : ((2 ^ k : Nat) : Int) = 2 ^ k := by push_cast; rfl
  have h1 : a.toNat ^^^ b.toNat < 2 ^ k := Nat.xor_lt_two_pow (by omega) (by omega)
  have h7 : 2 * 2 ^ k ≤ 2 ^ zq_bw t := by
    have := Nat.pow_le_pow_right (n := 2) (by decide) hk
    rw [Nat.pow_succ] at this; omega
  unfold zq_xor
  have h2 : (BitVec.ofInt (zq_bw t) a ^^^ BitVec.ofInt (zq_bw t) b).toNat = a.toNat ^^^ b.toNat := by rw [BitVec.toNat_xor, ea, eb]
  rw [BitVec.toInt_eq_toNat_of_lt (by omega), h2]
  omega
theorem zq_bif {α : Type} {c : Bool} {a x : α} (h : (bif c then some a else none) = some x) : c = true ∧ a = x := by
  cases c with
  | true => exact ⟨rfl, Option.some.inj h⟩
  | false => cases h
theorem zq_pow_le {a b : Nat} (h : a ≤ b) : (2 : Int) ^ a ≤ 2 ^ b := by
  have h1 := Nat.pow_le_pow_right (n := 2) (by decide) h
  have e : ∀ k : Nat, ((2 ^ k : Nat) : Int) = 2 ^ k := fun k => by push_cast; rfl
  rw [← e, ← e]; omega
theorem zq_ivl_ok {t op k : Nat} {a b la ha lb hb lo hi : Int} (h : zq_ivl t op k la ha lb hb = some (lo, hi)) (ia : zq_in t a) (ib : zq_in t b) (hc : zq_cond t op b) (h1 : la ≤ a) (h2 : a ≤ ha) (h3 : lb ≤ b) (h4 : b ≤ hb) :
    lo ≤ zq_fun t op a b ∧ zq_fun t op a b ≤ hi := by
  unfold zq_ivl at h
  split at h
  · obtain ⟨q, e⟩ := zq_bif h
    cases e
    simp only [Bool.and_eq_true, decide_eq_true_eq] at q
    have hm := zq_mul_box h1 h2 h3 h4
    rw [zq_fun, zq_bmod_eq ⟨Int.le_trans q.1 hm.1, Int.le_trans hm.2 q.2⟩]
    exact hm
  · cases hd : (decide (0 ≤ la) && decide (1 ≤ lb)) with
    | true =>
      rw [hd] at h; cases h
      simp only [Bool.and_eq_true, decide_eq_true_eq] at hd
      have e : a.tdiv b = a / b := Int.tdiv_eq_ediv_of_nonneg (by omega)
      have q1 : 0 ≤ a / b := Int.ediv_nonneg (by omega) (by omega)
      have q2 : a / b ≤ a := Int.ediv_le_self _ (by omega)
      have hm : zq_mn t ≤ 0 := by rcases zq_t t with ⟨-, -, z, -⟩ | ⟨-, -, z, -⟩ <;> rw [z] <;> decide
      unfold zq_in at ia
      rw [zq_fun, e, zq_bmod_eq ⟨by omega, by omega⟩]
      omega
    | false =>
      rw [hd] at h
      obtain ⟨q, e⟩ := zq_bif h
      cases e
      simp only [Bool.and_eq_true, decide_eq_true_eq] at q
      have hm := @zq_tdiv_abs a b
      have hn : zq_mn t ≤ - zq_mx t := by rcases zq_t t with ⟨-, -, z, y⟩ | ⟨-, -, z, y⟩ <;> rw [z, y] <;> decide
      rw [zq_fun, zq_bmod_eq ⟨by omega, by omega⟩]
      omega
  · cases h
    have hb0 := hc.1 (Or.inr rfl)
    have hm := @zq_tmod_abs a b hb0
    have hs := @zq_tmod_sgn a b
    rw [zq_fun]
    constructor
    · cases hd : decide (0 ≤ la) with
      | true => simp only [cond_true]; exact hs.1 (by have := of_decide_eq_true hd; omega)
      | false => simp only [cond_false]; omega
    · cases hd : decide (ha ≤ 0) with
      | true => simp only [cond_true]; exact hs.2 (by have := of_decide_eq_true hd; omega)
      | false => simp only [cond_false]; omega
  · rw [zq_fun]
    cases hd : decide (0 ≤ la) with
    | true =>
      rw [hd] at h; cases h
      have q := of_decide_eq_true hd
      rw [zq_and_comm]
      have := zq_and_le (a := b) ia (by omega)
      omega
    | false =>
      rw [hd] at h
      obtain ⟨q, e⟩ := zq_bif h
      cases e
      have q := of_decide_eq_true q
      have := zq_and_le (a := a) ib (by omega)
      omega
  · obtain ⟨q, e⟩ := zq_bif h
    cases e
    simp only [Bool.and_eq_true, decide_eq_true_eq, zq_blt] at q
    rw [zq_fun]
    exact zq_or_lt ia ib (by omega) (by omega) (by omega) (by omega) q.2
  · obtain ⟨q, e⟩ := zq_bif h
    cases e
    simp only [Bool.and_eq_true, decide_eq_true_eq, zq_blt] at q
    rw [zq_fun]
    exact zq_xor_lt ia ib (by omega) (by omega) (by omega) (by omega) q.2
  · obtain ⟨q, e⟩ := zq_bif h
    cases e
    simp only [Bool.and_eq_true, decide_eq_true_eq] at q
    rw [zq_fun]
    have p1 : (2 : Int) ^ lb.toNat ≤ 2 ^ b.toNat := zq_pow_le (by omega)
    have p2 : (2 : Int) ^ b.toNat ≤ 2 ^ hb.toNat := zq_pow_le (by omega)
    have p0 : (0 : Int) < 2 ^ lb.toNat := Int.pow_pos (by decide)
    have x1 : la * 2 ^ lb.toNat ≤ a * 2 ^ b.toNat := Int.mul_le_mul h1 p1 (by omega) (by omega)
    have x2 : a * 2 ^ b.toNat ≤ ha * 2 ^ hb.toNat := Int.mul_le_mul h2 p2 (by omega) (by omega)
    have x0 : 0 ≤ la * 2 ^ lb.toNat := Int.mul_nonneg q.1.1 (by omega)
    have hm : zq_mn t ≤ 0 := by rcases zq_t t with ⟨-, -, z, -⟩ | ⟨-, -, z, -⟩ <;> rw [z] <;> decide
    rw [zq_bmod_eq ⟨by omega, by omega⟩]
    exact ⟨x1, x2⟩
  · obtain ⟨q, e⟩ := zq_bif h
    cases e
    have q := of_decide_eq_true q
    rw [zq_fun]
    have q1 : 0 ≤ a / 2 ^ b.toNat := Int.ediv_nonneg (by omega) (Int.le_of_lt (Int.pow_pos (by decide)))
    have q2 : a / 2 ^ b.toNat ≤ a := Int.ediv_le_self _ (by omega)
    omega
  · cases h
/-- bounds by the operands themselves -/
noncomputable def zq_rel (op n : Nat) (C : List zq_L) (a b : zq_L) (q : List Nat) : Option ((zq_L × List zq_L × Nat) × List Nat) := match op with
  | 5 => match zq_prove C a q with
    | some q => match zq_prove C b q with
      | some q => some ((zq_v n, [zq_v n, zq_sub a (zq_v n), zq_sub b (zq_v n)], n + 1), q)
      | none => none
    | none => none
  | 4 => match zq_prove C a q with
    | some q => match zq_prove C (zq_addk b (-1)) q with
      | some q => some ((zq_v n, [zq_v n, zq_sub a (zq_v n), zq_addk (zq_sub b (zq_v n)) (-1)], n + 1), q)
      | none => none
    | none => none
  | _ => none
theorem zq_rel_ok {t op n : Nat} {C : List zq_L} {a b : zq_L} {q q' : List Nat} {o : zq_L × List zq_L × Nat} {r : Nat → Int} (h : zq_rel op n C a b q = some (o, q')) (hC : zq_all r C)
    (ha : zq_bd n a = true) (hb : zq_bd n b = true) (ia : zq_in t (zq_ev r a)) (ib : op < 8 → zq_in t (zq_ev r b)) :
    zq_RO r n (zq_fun t op (zq_ev r a) (zq_ev r b)) o := by
  have hx := zq_up_ext r n (zq_fun t op (zq_ev r a) (zq_ev r b))
  have ea := zq_ev_ext hx ha
  have eb := zq_ev_ext hx hb
  have ha' := zq_bd_mono (Nat.le_succ n) ha
  have hb' := zq_bd_mono (Nat.le_succ n) hb
  have hvn : zq_bd (n + 1) (zq_v n) = true := zq_bd_v (Nat.lt_succ_self _)
  unfold zq_rel at h
  split at h
  · split at h
    · rename_i q1 hq1
      split at h
      · rename_i q2 hq2
        cases h
        have x1 := zq_prove_ok hq1 hC
        have x2 := zq_prove_ok hq2 hC
        have y1 := zq_and_le (a := zq_ev r a) (ib (by decide)) x2
        have y2 := zq_and_le (a := zq_ev r b) ia x1
        rw [zq_and_comm] at y2
        refine ⟨Nat.le_succ _, zq_up r n _, hx, hvn, ?_, by rw [zq_ev_v, zq_up_self], ?_⟩
        · intro c hc
          simp only [List.mem_cons, List.not_mem_nil, or_false] at hc
          rcases hc with rfl | rfl | rfl
          · exact hvn
          · exact zq_bd_sub ha' hvn
          · exact zq_bd_sub hb' hvn
        · intro c hc
          simp only [List.mem_cons, List.not_mem_nil, or_false] at hc
          rcases hc with rfl | rfl | rfl
          · rw [zq_ev_v, zq_up_self]; exact y1.1
          · rw [zq_ev_sub, zq_ev_v, zq_up_self, ea]; show 0 ≤ zq_ev r a - zq_and t (zq_ev r a) (zq_ev r b); omega
          · rw [zq_ev_sub, zq_ev_v, zq_up_self, eb]; show 0 ≤ zq_ev r b - zq_and t (zq_ev r a) (zq_ev r b); omega
      · cases h
    · cases h
  · split at h
    · rename_i q1 hq1
      split at h
      · rename_i q2 hq2
        cases h
        have x1 := zq_prove_ok hq1 hC
        have x2 := zq_prove_ok hq2 hC
        rw [zq_ev_addk] at x2
        have e : (zq_ev r a).tmod (zq_ev r b) = zq_ev r a % zq_ev r b := Int.tmod_eq_emod_of_nonneg x1
        have y1 := Int.emod_nonneg (zq_ev r a) (show zq_ev r b ≠ 0 by omega)
        have y2 := Int.emod_lt_of_pos (zq_ev r a) (show 0 < zq_ev r b by omega)
        have y3 : zq_ev r a % zq_ev r b ≤ zq_ev r a := by
          have z1 := Int.mul_ediv_add_emod (zq_ev r a) (zq_ev r b)
          have z2 : 0 ≤ zq_ev r a / zq_ev r b := Int.ediv_nonneg x1 (by omega)
          have z3 : 0 ≤ zq_ev r b * (zq_ev r a / zq_ev r b) := Int.mul_nonneg (by omega) z2
          omega
        refine ⟨Nat.le_succ _, zq_up r n _, hx, hvn, ?_, by rw [zq_ev_v, zq_up_self], ?_⟩
        · intro c hc
          simp only [List.mem_cons, List.not_mem_nil, or_false] at hc
          rcases hc with rfl | rfl | rfl
          · exact hvn
          · exact zq_bd_sub ha' hvn
          · exact zq_bd_addk (zq_bd_sub hb' hvn)
        · intro c hc
          simp only [List.mem_cons, List.not_mem_nil, or_false] at hc
          rcases hc with rfl | rfl | rfl
          · rw [zq_ev_v, zq_up_self]; show 0 ≤ (zq_ev r a).tmod (zq_ev r b); omega
          · rw [zq_ev_sub, zq_ev_v, zq_up_self, ea]; show 0 ≤ zq_ev r a - (zq_ev r a).tmod (zq_ev r b); omega
          · rw [zq_ev_addk, zq_ev_sub, zq_ev_v, zq_up_self, eb]; show 0 ≤ zq_ev r b - (zq_ev r a).tmod (zq_ev r b) + -1; omega
      · cases h
    · cases h
  · cases h
/-- a rule: 0 anything, 1 just the linear one, 2 both are numbers, 3 quotient or rest, 4 by bounds, 5 the rest by a divisor that is above it -/
noncomputable def zq_rule (t op n : Nat) (C : List zq_L) (a b : zq_L) : List Nat → Option ((zq_L × List zq_L × Nat) × List Nat)
  | 0 :: q => some ((zq_v n, zq_bet n (zq_mn t) (zq_mx t), n + 1), q)
  | 1 :: q => match zq_lin op a b with
    | some e => match zq_prove C (zq_addk e (-(zq_mn t))) q with
      | some q => match zq_prove C (zq_sub (zq_k (zq_mx t)) e) q with
        | some q => some ((e, [], n), q)
        | none => none
      | none => none
    | none => none
  | 2 :: q => match a.2, b.2 with
    | [], [] => some ((zq_k (zq_fun t op a.1 b.1), [], n), q)
    | _, _ => none
  | 3 :: k :: q => match zq_flo t op b k with
    | some (c, i, s) => match (bif Nat.beq s 1 then zq_prove C a q else some q) with
      | some q => some ((bif Nat.beq i 0 then zq_v n else zq_sub a (zq_smul c (zq_v n)), [zq_sub a (zq_smul c (zq_v n)), zq_sub (zq_addk (zq_smul c (zq_v n)) (c - 1)) a], n + 1), q)
      | none => none
    | none => none
  | 4 :: k :: la :: ha :: lb :: hb :: q => match zq_ivl t op k (zq_zig la) (zq_zig ha) (zq_zig lb) (zq_zig hb) with
    | some (lo, hi) => match zq_prove C (zq_addk a (-(zq_zig la))) q with
      | some q => match zq_prove C (zq_sub (zq_k (zq_zig ha)) a) q with
        | some q => match zq_prove C (zq_addk b (-(zq_zig lb))) q with
          | some q => match zq_prove C (zq_sub (zq_k (zq_zig hb)) b) q with
            | some q => some ((zq_v n, zq_bet n lo hi, n + 1), q)
            | none => none
          | none => none
        | none => none
      | none => none
    | none => none
  | 5 :: q => zq_rel op n C a b q
  | _ => none
theorem zq_rule_ok {t op n : Nat} {C : List zq_L} {a b : zq_L} {q q' : List Nat} {o : zq_L × List zq_L × Nat} {r : Nat → Int} (h : zq_rule t op n C a b q = some (o, q')) (hC : zq_all r C)
    (ha : zq_bd n a = true) (hb : zq_bd n b = true) (ia : zq_in t (zq_ev r a)) (ib : op < 8 → zq_in t (zq_ev r b)) (hc : zq_cond t op (zq_ev r b)) :
    zq_RO r n (zq_fun t op (zq_ev r a) (zq_ev r b)) o := by
  have hin := @zq_fun_in t op (zq_ev r a) (zq_ev r b) ia
  unfold zq_rule at h
  split at h
  · cases h; exact zq_RO_bet hin.1 hin.2
  · split at h
    · rename_i e he
      split at h
      · rename_i q1 hq1
        split at h
        · rename_i q2 hq2
          cases h
          have x := zq_prove_ok hq1 hC
          have y := zq_prove_ok hq2 hC
          rw [zq_ev_addk] at x
          rw [zq_ev_sub, zq_ev_k] at y
          obtain ⟨h1, h2⟩ := zq_lin_ok (t := t) he ha hb (r := r) ⟨by omega, by omega⟩
          exact zq_RO_exact h1 h2.symm
        · cases h
      · cases h
    · cases h
  · split at h
    · rename_i h1 h2
      cases h
      refine zq_RO_exact zq_bd_k ?_
      rw [zq_ev_k, zq_ev_c h1, zq_ev_c h2]
    · cases h
  · split at h
    · rename_i c i s hf
      split at h
      · rename_i q1 hq1
        cases h
        have hs : s = 1 → 0 ≤ zq_ev r a := by
          intro e; subst e
          exact zq_prove_ok hq1 hC
        obtain ⟨hc0, hv⟩ := zq_flo_ok (r := r) (a := zq_ev r a) hf ia hs
        simp only at hc0 hv
        have hmul : c * (zq_ev r a / c) + zq_ev r a % c = zq_ev r a := Int.mul_ediv_add_emod _ _
        have hr1 := Int.emod_nonneg (zq_ev r a) (show c ≠ 0 by omega)
        have hr2 := Int.emod_lt_of_pos (zq_ev r a) hc0
        have hx := zq_up_ext r n (zq_ev r a / c)
        have ea := zq_ev_ext hx ha
        have ha' := zq_bd_mono (Nat.le_succ n) ha
        have hvn : zq_bd (n + 1) (zq_v n) = true := zq_bd_v (Nat.lt_succ_self _)
        refine ⟨Nat.le_succ _, zq_up r n (zq_ev r a / c), hx, ?_, ?_, ?_, ?_⟩
        · show zq_bd (n + 1) (bif Nat.beq i 0 then _ else _) = true
          cases Nat.beq i 0
          · exact zq_bd_sub ha' (zq_bd_smul hvn)
          · exact hvn
        · intro c' hc'
          simp only [List.mem_cons, List.not_mem_nil, or_false] at hc'
          rcases hc' with rfl | rfl
          · exact zq_bd_sub ha' (zq_bd_smul hvn)
          · exact zq_bd_sub (zq_bd_addk (zq_bd_smul hvn)) ha'
        · rw [hv]
          show zq_ev _ (bif Nat.beq i 0 then _ else _) = _
          cases hi : Nat.beq i 0 with
          | true =>
            have := Nat.eq_of_beq_eq_true hi
            rw [if_pos this]
            simp only [cond_true]
            rw [zq_ev_v, zq_up_self]
          | false =>
            rw [if_neg (fun z => by rw [z] at hi; cases hi)]
            simp only [cond_false]
            rw [zq_ev_sub, zq_ev_smul, zq_ev_v, zq_up_self, ea]
            omega
        · intro c' hc'
          simp only [List.mem_cons, List.not_mem_nil, or_false] at hc'
          rcases hc' with rfl | rfl
          · rw [zq_ev_sub, zq_ev_smul, zq_ev_v, zq_up_self, ea]; omega
          · rw [zq_ev_sub, zq_ev_addk, zq_ev_smul, zq_ev_v, zq_up_self, ea]; omega
      · cases h
    · cases h
  · split at h
    · rename_i lo hi hv
      split at h
      · rename_i q1 hq1
        split at h
        · rename_i q2 hq2
          split at h
          · rename_i q3 hq3
            split at h
            · rename_i q4 hq4
              cases h
              have x1 := zq_prove_ok hq1 hC
              have x2 := zq_prove_ok hq2 hC
              have x3 := zq_prove_ok hq3 hC
              have x4 := zq_prove_ok hq4 hC
              rw [zq_ev_addk] at x1 x3
              rw [zq_ev_sub, zq_ev_k] at x2 x4
              by_cases ho : op < 8
              · have := zq_ivl_ok hv ia (ib ho) hc (by omega) (by omega) (by omega) (by omega)
                exact zq_RO_bet this.1 this.2
              · have hbin : zq_in t (zq_ev r b) := by
                  have := hc.2 (by omega)
                  unfold zq_in
                  rcases zq_t t with ⟨z, -, z3, z4⟩ | ⟨z, -, z3, z4⟩ <;> rw [z3, z4] <;> rw [z] at this <;> omega
                have := zq_ivl_ok hv ia hbin hc (by omega) (by omega) (by omega) (by omega)
                exact zq_RO_bet this.1 this.2
            · cases h
          · cases h
        · cases h
      · cases h
    · cases h
  · exact zq_rel_ok h hC ha hb ia ib
  · cases h
