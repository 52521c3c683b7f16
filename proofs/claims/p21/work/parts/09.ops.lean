/-! OPERATIONS on two numbers -/
theorem zq_o32 {z : Int} (h : zq_in 0 z) : (Int32.ofInt z).toInt = z := by
  unfold zq_in at h
  exact Int32.toInt_ofInt_of_le (by have := h.1; simp [zq_mn] at this; omega) (by have := h.2; simp [zq_mx] at this; omega)
theorem zq_o64 {z : Int} (h : zq_in 1 z) : (Int64.ofInt z).toInt = z := by
  unfold zq_in at h
  have a : -9223372036854775808 ≤ z := h.1
  have b : z ≤ 9223372036854775807 := h.2
  exact Int64.toInt_ofInt_of_le (by omega) (by omega)
theorem zq_i32 (x : Int32) : zq_in 0 x.toInt := zq_bv_in 0 x.toBitVec
theorem zq_i64 (x : Int64) : zq_in 1 x.toInt := zq_bv_in 1 x.toBitVec
theorem zq_e32 {v : Int32} {z : Int} (h : v.toInt = z) : v = Int32.ofInt z := by rw [← h, Int32.ofInt_toInt]
theorem zq_e64 {v : Int64} {z : Int} (h : v.toInt = z) : v = Int64.ofInt z := by rw [← h, Int64.ofInt_toInt]
theorem zq_rem32 (x y : Int32) : (x - x / y * y).toInt = x.toInt.tmod y.toInt := by
  rw [Int32.toInt_sub, Int32.toInt_mul, Int32.toInt_div, Int.bmod_mul_bmod, Int.sub_bmod_bmod]
  have e : x.toInt - x.toInt.tdiv y.toInt * y.toInt = x.toInt.tmod y.toInt := by rw [Int.tmod_def, Int.mul_comm]
  rw [e]
  exact zq_bmod_eq (t := 0) (zq_tmod_in (zq_i32 x))
theorem zq_rem64 (x y : Int64) : (x - x / y * y).toInt = x.toInt.tmod y.toInt := by
  rw [Int64.toInt_sub, Int64.toInt_mul, Int64.toInt_div, Int.bmod_mul_bmod, Int.sub_bmod_bmod]
  have e : x.toInt - x.toInt.tdiv y.toInt * y.toInt = x.toInt.tmod y.toInt := by rw [Int.tmod_def, Int.mul_comm]
  rw [e]
  exact zq_bmod_eq (t := 1) (zq_tmod_in (zq_i64 x))
theorem zq_and31 {y : Int32} (h0 : 0 ≤ y.toInt) (h1 : y.toInt < 32) : y &&& 31 = y := by
  apply Int32.toInt_inj.mp
  have e : (y &&& 31).toInt = zq_and 0 y.toInt 31 := by
    show (y.toBitVec &&& (31 : Int32).toBitVec).toInt = _
    unfold zq_and
    show _ = (BitVec.ofInt 32 y.toBitVec.toInt &&& _).toInt
    rw [BitVec.ofInt_toInt]
    rfl
  rw [e, show (31 : Int) = 2 ^ 5 - 1 from rfl, zq_and_mask (by decide)]
  exact Int.emod_eq_of_lt h0 h1
theorem zq_smod {y : Int32} (h0 : 0 ≤ y.toInt) (h1 : y.toInt < 32) : (y.toBitVec.smod 32).toNat = y.toInt.toNat := by
  have e : (y.toBitVec.smod 32).toInt = y.toInt := by
    rw [BitVec.toInt_smod]
    show y.toInt.fmod 32 = y.toInt
    rw [Int.fmod_eq_emod_of_nonneg _ (by decide)]
    exact Int.emod_eq_of_lt h0 h1
  have h2 := BitVec.toInt_eq_toNat_cond (y.toBitVec.smod 32)
  have h3 := (y.toBitVec.smod 32).isLt
  rw [e] at h2
  split at h2 <;> omega
theorem zq_tonat (x : Int32) : (x.toBitVec.toNat : Int) = x.toInt % 4294967296 := by
  have h := BitVec.toInt_eq_toNat_cond x.toBitVec
  have h3 := x.toBitVec.isLt
  have e : x.toInt = x.toBitVec.toInt := rfl
  rw [e, h]
  split <;> omega
theorem zq_shl32 {x y : Int32} (h0 : 0 ≤ y.toInt) (h1 : y.toInt < 32) : (x <<< (y &&& 31)).toInt = (x.toInt * 2 ^ y.toInt.toNat).bmod (2 ^ 32) := by
  rw [zq_and31 h0 h1]
  have h := pk_shl x y _ (zq_smod h0 h1)
  show (x <<< y).toBitVec.toInt = _
  rw [BitVec.toInt_eq_toNat_bmod, h]
  have e : ((x.toBitVec.toNat * 2 ^ y.toInt.toNat % 2 ^ 32 : Nat) : Int) = (x.toBitVec.toNat : Int) * 2 ^ y.toInt.toNat % (2 ^ 32 : Nat) := by rw [Int.natCast_emod, Int.natCast_mul, Int.natCast_pow]; rfl
  rw [e, Int.emod_bmod, zq_tonat]
  have e2 : x.toInt % 4294967296 = x.toInt % ((2 ^ 32 : Nat) : Int) := rfl
  rw [e2, Int.emod_mul_bmod]
theorem zq_shr32 {x y : Int32} (h0 : 0 ≤ y.toInt) (h1 : y.toInt < 32) : (x >>> (y &&& 31)).toInt = x.toInt / 2 ^ y.toInt.toNat := by
  rw [zq_and31 h0 h1, pk_shr x y _ (zq_smod h0 h1), Int.shiftRight_eq_div_pow]
  push_cast; rfl
theorem zq_ushr32 {x y : Int32} (h0 : 0 ≤ y.toInt) (h1 : y.toInt < 32) : ((x.toUInt32 >>> (y.toUInt32 &&& Int32.toUInt32 31)).toInt32).toInt = ((x.toInt % 4294967296) / 2 ^ y.toInt.toNat).bmod (2 ^ 32) := by
  have e0 : y.toUInt32 &&& Int32.toUInt32 31 = y.toUInt32 := by
    have h2 : (y &&& 31).toUInt32 = y.toUInt32 := congrArg Int32.toUInt32 (zq_and31 h0 h1)
    exact h2
  have hs : ((y.toUInt32 &&& Int32.toUInt32 31).toBitVec % 32).toNat = y.toInt.toNat := by
    rw [e0]
    show (y.toBitVec % 32).toNat = _
    rw [BitVec.toNat_umod]
    have := zq_tonat y
    rw [Int.emod_eq_of_lt h0 (by omega)] at this
    show y.toBitVec.toNat % 32 = _
    omega
  have h := pk_ushr x y _ hs
  show (x.toUInt32 >>> (y.toUInt32 &&& Int32.toUInt32 31)).toInt32.toBitVec.toInt = _
  rw [BitVec.toInt_eq_toNat_bmod, h]
  have e : ((x.toBitVec.toNat / 2 ^ y.toInt.toNat : Nat) : Int) = (x.toBitVec.toNat : Int) / 2 ^ y.toInt.toNat := by push_cast; rfl
  rw [e, zq_tonat]
section ZQOP
variable {p : Program} {l : Launch} {e : Env} {R : Room} {s : State} {m : MethodId} {args : Array Value} {below : List Frame} {meth : Method} {c : Code} {H : Heap} {locs : List Loc} {cells slots : Nat} {Q : State → Prop}
variable {cc : ByteArray} {pc : Nat} {ls : Array Slot} {rest : List Value}
theorem zq_bopR {i : Instr} {t op : Nat} {a b : Int} (h : zq_bop i = some (t, op)) (hexec : p.tables.exec = Jvm.exec) (hb : c.code = cc) (ia : zq_in t a) (ib : zq_in t b) (hc : zq_cond t op b) (hdg : decode cc pc = .ok (i, 1))
    (k : W p l e R s m args below meth c H locs cells slots Q (F0 m (pc + 1) ls (zq_val t (zq_fun t op a b) :: rest))) : W p l e R s m args below meth c H locs cells slots Q (F0 m pc ls (zq_val t b :: zq_val t a :: rest)) := by
  have e1 : t = 0 → (Int32.ofInt a).toInt = a ∧ (Int32.ofInt b).toInt = b := fun e => by subst e; exact ⟨zq_o32 ia, zq_o32 ib⟩
  have e2 : t = 1 → (Int64.ofInt a).toInt = a ∧ (Int64.ofInt b).toInt = b := fun e => by subst e; exact ⟨zq_o64 ia, zq_o64 ib⟩
  have n32 : b ≠ 0 → t = 0 → ¬ Int32.ofInt b = 0 := fun h1 h2 h3 => by
    have := (e1 h2).2; rw [h3] at this; exact h1 this.symm
  have n64 : b ≠ 0 → t = 1 → ¬ Int64.ofInt b = 0 := fun h1 h2 h3 => by
    have := (e2 h2).2; rw [h3] at this; exact h1 this.symm
  unfold zq_bop at h
  split at h
  all_goals cases h
  · refine lv_iadd hexec hb hdg ?_
    rw [zq_e32 (v := Int32.ofInt a + Int32.ofInt b) (z := zq_fun 0 0 a b) (by rw [Int32.toInt_add, (e1 rfl).1, (e1 rfl).2]; rfl)]; exact k
  · refine lv_isub hexec hb hdg ?_
    rw [zq_e32 (v := Int32.ofInt a - Int32.ofInt b) (z := zq_fun 0 1 a b) (by rw [Int32.toInt_sub, (e1 rfl).1, (e1 rfl).2]; rfl)]; exact k
  · refine lv_imul hexec hb hdg ?_
    rw [zq_e32 (v := Int32.ofInt a * Int32.ofInt b) (z := zq_fun 0 2 a b) (by rw [Int32.toInt_mul, (e1 rfl).1, (e1 rfl).2]; rfl)]; exact k
  · refine lv_idiv hexec hb hdg (n32 (hc.1 (Or.inl rfl)) rfl) ?_
    rw [zq_e32 (v := Int32.ofInt a / Int32.ofInt b) (z := zq_fun 0 3 a b) (by rw [Int32.toInt_div, (e1 rfl).1, (e1 rfl).2]; rfl)]; exact k
  · refine lv_irem hexec hb hdg (n32 (hc.1 (Or.inr rfl)) rfl) ?_
    rw [zq_e32 (v := Int32.ofInt a - Int32.ofInt a / Int32.ofInt b * Int32.ofInt b) (z := zq_fun 0 4 a b) (by rw [zq_rem32, (e1 rfl).1, (e1 rfl).2]; rfl)]; exact k
  · refine lv_iand hexec hb hdg ?_
    rw [zq_e32 (v := Int32.ofInt a &&& Int32.ofInt b) (z := zq_fun 0 5 a b) (by rfl)]; exact k
  · refine lv_ior hexec hb hdg ?_
    rw [zq_e32 (v := Int32.ofInt a ||| Int32.ofInt b) (z := zq_fun 0 6 a b) (by rfl)]; exact k
  · refine lv_ixor hexec hb hdg ?_
    rw [zq_e32 (v := Int32.ofInt a ^^^ Int32.ofInt b) (z := zq_fun 0 7 a b) (by rfl)]; exact k
  · have hq := hc.2 (by decide)
    have hq2 : b < 32 := hq.2
    refine lv_ishl hexec hb hdg ?_
    rw [zq_e32 (v := Int32.ofInt a <<< (Int32.ofInt b &&& 31)) (z := zq_fun 0 8 a b) (by rw [zq_shl32 (by rw [(e1 rfl).2]; exact hq.1) (by rw [(e1 rfl).2]; exact hq2), (e1 rfl).1, (e1 rfl).2]; rfl)]; exact k
  · have hq := hc.2 (by decide)
    have hq2 : b < 32 := hq.2
    refine lv_ishr hexec hb hdg ?_
    rw [zq_e32 (v := Int32.ofInt a >>> (Int32.ofInt b &&& 31)) (z := zq_fun 0 9 a b) (by rw [zq_shr32 (by rw [(e1 rfl).2]; exact hq.1) (by rw [(e1 rfl).2]; exact hq2), (e1 rfl).1, (e1 rfl).2]; rfl)]; exact k
  · have hq := hc.2 (by decide)
    have hq2 : b < 32 := hq.2
    refine lv_iushr hexec hb hdg (zq_e32 (z := zq_fun 0 10 a b) (by rw [zq_ushr32 (by rw [(e1 rfl).2]; exact hq.1) (by rw [(e1 rfl).2]; exact hq2), (e1 rfl).1, (e1 rfl).2]; rfl)) k
  · refine lv_ladd hexec hb hdg ?_
    rw [zq_e64 (v := Int64.ofInt a + Int64.ofInt b) (z := zq_fun 1 0 a b) (by rw [Int64.toInt_add, (e2 rfl).1, (e2 rfl).2]; rfl)]; exact k
  · refine lv_lsub hexec hb hdg ?_
    rw [zq_e64 (v := Int64.ofInt a - Int64.ofInt b) (z := zq_fun 1 1 a b) (by rw [Int64.toInt_sub, (e2 rfl).1, (e2 rfl).2]; rfl)]; exact k
  · refine lv_lmul hexec hb hdg ?_
    rw [zq_e64 (v := Int64.ofInt a * Int64.ofInt b) (z := zq_fun 1 2 a b) (by rw [Int64.toInt_mul, (e2 rfl).1, (e2 rfl).2]; rfl)]; exact k
  · refine lv_ldiv hexec hb hdg (n64 (hc.1 (Or.inl rfl)) rfl) ?_
    rw [zq_e64 (v := Int64.ofInt a / Int64.ofInt b) (z := zq_fun 1 3 a b) (by rw [Int64.toInt_div, (e2 rfl).1, (e2 rfl).2]; rfl)]; exact k
  · refine lv_lrem hexec hb hdg (n64 (hc.1 (Or.inr rfl)) rfl) ?_
    rw [zq_e64 (v := Int64.ofInt a - Int64.ofInt a / Int64.ofInt b * Int64.ofInt b) (z := zq_fun 1 4 a b) (by rw [zq_rem64, (e2 rfl).1, (e2 rfl).2]; rfl)]; exact k
end ZQOP
