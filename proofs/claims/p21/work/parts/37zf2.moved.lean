/-! WHAT MOVES: balances, clocks, the day as one number M of 11 digits (6, 4, 1); states to come back to as one number Z, 12 digits each -/
noncomputable def zm_pk (f : Int → Int) : Nat → Int
  | 0 => 0
  | k + 1 => zn_up (zm_pk f k) (k : Int) (f (k : Int))
theorem zm_pk_dg {f : Int → Int} : ∀ (k : Nat) (j : Int), (∀ i : Int, 0 ≤ i → i < k → zn_in (f i)) → 0 ≤ j → j < k → zn_dg (zm_pk f k) j = f j
  | 0, j, _, h1, h2 => by omega
  | k + 1, j, h, h1, h2 => by
    show zn_dg (zn_up (zm_pk f k) (k : Int) (f (k : Int))) j = f j
    by_cases e : j = (k : Int)
    · rw [e]; exact zn_up_same (h (k : Int) (by omega) (by omega))
    · rw [zn_up_ne (by omega) h1 (fun z => e z.symm) (h (k : Int) (by omega) (by omega))]
      exact zm_pk_dg k j (fun i x y => h i x (by omega)) h1 (by omega)
theorem zm_pk_cg {f g : Int → Int} : ∀ k : Nat, (∀ j : Int, 0 ≤ j → j < k → f j = g j) → zm_pk f k = zm_pk g k
  | 0, _ => rfl
  | k + 1, h => by
    show zn_up (zm_pk f k) (k : Int) (f (k : Int)) = zn_up (zm_pk g k) (k : Int) (g (k : Int))
    rw [zm_pk_cg k (fun j x y => h j x (by omega)), h (k : Int) (by omega) (by omega)]
noncomputable def zm_f (b c t : Int → Int) (j : Int) : Int := if j < 6 then b j else if j < 10 then c (j - 6) else t 0
/-- eleven cells and their number -/
noncomputable def zm_is (f : Int → Int) (M : Int) : Prop := (∀ i : Int, 0 ≤ i → i < 11 → zn_in (f i)) ∧ M = zm_pk f 11
theorem zm_is_dg {f : Int → Int} {M j : Int} (h : zm_is f M) (h0 : 0 ≤ j) (h1 : j < 11) : f j = zn_dg M j := by
  rw [h.2]; exact (zm_pk_dg 11 j h.1 h0 (by omega)).symm
theorem zm_is_cg {f g : Int → Int} {M : Int} (h : zm_is f M) (e : ∀ j : Int, 0 ≤ j → j < 11 → g j = f j) : zm_is g M := ⟨fun i x y => by rw [e i x y]; exact h.1 i x y, by rw [h.2]; exact zm_pk_cg 11 (fun j x y => (e j x (by omega)).symm)⟩
/-- all but the place p are digits of M -/
noncomputable def zm_ho (f : Int → Int) (M p : Int) : Prop := 0 ≤ p ∧ p < 11 ∧ ∀ j : Int, 0 ≤ j → j < 11 → j ≠ p → f j = zn_dg M j
theorem zm_ho_0 {f : Int → Int} {M p : Int} (h : zm_is f M) (h0 : 0 ≤ p) (h1 : p < 11) : zm_ho f M p := ⟨h0, h1, fun _ x y _ => zm_is_dg h x y⟩
theorem zm_ho_cg {f g : Int → Int} {M p : Int} (h : zm_ho f M p) (e : ∀ j : Int, 0 ≤ j → j < 11 → j ≠ p → g j = f j) : zm_ho g M p := ⟨h.1, h.2.1, fun j x y z => (e j x y z).trans (h.2.2 j x y z)⟩
/-- M with another digit at p -/
noncomputable def zm_st (M p v : Int) : Int := zm_pk (fun j => if j = p then v else zn_dg M j) 11
theorem zm_st_in {M p v : Int} (hv : zn_in v) (i : Int) : zn_in (if i = p then v else zn_dg M i) := by
  split
  · exact hv
  · exact zn_dg_in M i
theorem zm_st_dg {M p v j : Int} (hv : zn_in v) (h0 : 0 ≤ j) (h1 : j < 11) : zn_dg (zm_st M p v) j = if j = p then v else zn_dg M j := zm_pk_dg 11 j (fun i _ _ => zm_st_in hv i) h0 (by omega)
theorem zm_ho_st {f : Int → Int} {M p v : Int} (h : zm_ho f M p) (hv : zn_in v) (e : f p = v) : zm_is f (zm_st M p v) := by
  refine ⟨fun i x y => ?_, zm_pk_cg 11 (fun j x y => ?_)⟩
  · by_cases q : i = p
    · rw [q, e]; exact hv
    · rw [h.2.2 i x y q]; exact zn_dg_in M i
  · by_cases q : j = p
    · rw [if_pos q, q, e]
    · rw [if_neg q, h.2.2 j x (by omega) q]
/-- two numbers of eleven digits each are one if their digits are -/
theorem zm_is_eq {f g : Int → Int} {M N : Int} (h1 : zm_is f M) (h2 : zm_is g N) (e : ∀ j : Int, 0 ≤ j → j < 11 → f j = g j) : M = N := by rw [h1.2, h2.2]; exact zm_pk_cg 11 (fun j x y => e j x (by omega))
/-! states to come back to -/
noncomputable def zz_fl (Z b M : Int) : Nat → Int
  | 0 => Z
  | t + 1 => zn_up (zz_fl Z b M t) (b + (t : Int)) (zn_dg M (t : Int))
theorem zz_fl_lo {Z b M : Int} (hb : 0 ≤ b) : ∀ (t : Nat) (j : Int), 0 ≤ j → (j < b ∨ b + (t : Int) ≤ j) → zn_dg (zz_fl Z b M t) j = zn_dg Z j
  | 0, _, _, _ => rfl
  | t + 1, j, h0, h1 => by
    show zn_dg (zn_up (zz_fl Z b M t) (b + (t : Int)) (zn_dg M (t : Int))) j = zn_dg Z j
    rw [zn_up_ne (by omega) h0 (by omega) (zn_dg_in _ _)]
    exact zz_fl_lo hb t j h0 (by omega)
theorem zz_fl_in {Z b M : Int} (hb : 0 ≤ b) : ∀ (t : Nat) (j : Int), 0 ≤ j → j < t → zn_dg (zz_fl Z b M t) (b + j) = zn_dg M j
  | 0, j, h0, h1 => by omega
  | t + 1, j, h0, h1 => by
    show zn_dg (zn_up (zz_fl Z b M t) (b + (t : Int)) (zn_dg M (t : Int))) (b + j) = zn_dg M j
    by_cases e : j = (t : Int)
    · rw [e]; exact zn_up_same (zn_dg_in _ _)
    · rw [zn_up_ne (by omega) (by omega) (by omega) (zn_dg_in _ _)]
      exact zz_fl_in hb t j h0 (by omega)
/-- one more of them, the place i -/
noncomputable def zz_st (Z i M k : Int) : Int := zn_up (zz_fl Z (12 * i) M 11) (12 * i + 11) k
theorem zz_st_lo {Z i M k j : Int} (hi : 0 ≤ i) (hk : zn_in k) (h0 : 0 ≤ j) (h1 : j < 12 * i) : zn_dg (zz_st Z i M k) j = zn_dg Z j := by
  unfold zz_st
  rw [zn_up_ne (by omega) h0 (by omega) hk]
  exact zz_fl_lo (by omega) 11 j h0 (Or.inl h1)
theorem zz_st_in {Z i M k j : Int} (hi : 0 ≤ i) (hk : zn_in k) (h0 : 0 ≤ j) (h1 : j < 11) : zn_dg (zz_st Z i M k) (12 * i + j) = zn_dg M j := by
  unfold zz_st
  rw [zn_up_ne (by omega) (by omega) (by omega) hk]
  exact zz_fl_in (by omega) 11 j h0 (by omega)
theorem zz_st_k {Z i M k : Int} (hk : zn_in k) : zn_dg (zz_st Z i M k) (12 * i + 11) = k := by unfold zz_st; exact zn_up_same hk
/-- without the eldest -/
noncomputable def zz_dr (Z : Int) : Int := Z / zn_P 12
theorem zz_dr_dg {Z j : Int} (h : 0 ≤ j) : zn_dg (zz_dr Z) j = zn_dg Z (j + 12) := by
  have e : zn_P (j + 12) = zn_P 12 * zn_P j := by
    unfold zn_P
    rw [show (j + 12).toNat = (12 : Int).toNat + j.toNat by omega, Int.pow_add]
  unfold zn_dg zz_dr
  rw [e, Int.ediv_ediv_of_nonneg (Int.le_of_lt (zn_P_pos 12))]
noncomputable def zz_n (n : Int) : Int := if 16 ≤ n then 16 else n + 1
noncomputable def zz_Z (Z n M k : Int) : Int := if 16 ≤ n then zz_st (zz_dr Z) 15 M k else zz_st Z n M k
/-- the digit behind what is undone: o, t, m of an entry of kind k over the digits N -/
noncomputable def zk_U (k o t m : Int) (N : Int → Int) (j : Int) : Int := if k = 2 then (if j = 6 + o then t else N j) else if k = 3 then (if j = 10 then N 10 - 1 else N j) else N j - (if j = o then m else 0) + (if j = t then m else 0)
noncomputable def zk_N (Z n M i j : Int) : Int := if i + 1 < n then zn_dg Z (12 * (i + 1) + j) else zn_dg M j
/-- the entry that lies at q tells the state e -/
noncomputable def zk_E (k o t m : Int → Int) (Z n M q e : Int) : Prop := k q = zn_dg Z (12 * e + 11) ∧ ∀ j : Int, 0 ≤ j → j < 11 → zn_dg Z (12 * e + j) = zk_U (k q) (o q) (t q) (m q) (zk_N Z n M e) j
/-! tokens -/
noncomputable def zm_MC (k : Nat) (bl ck tm M : Int) (P : zq_Ty) (h : zq_H) : Prop := zn_on bl (k + 1) P ∧ zn_on ck (k + 4) P ∧ zn_on tm (k + 7) P ∧ zm_is (zm_f (h bl.toNat) (h ck.toNat) (h tm.toNat)) M
noncomputable def zm_MH (k : Nat) (bl ck tm M p : Int) (P : zq_Ty) (h : zq_H) : Prop := zn_on bl (k + 1) P ∧ zn_on ck (k + 4) P ∧ zn_on tm (k + 7) P ∧ zm_ho (zm_f (h bl.toNat) (h ck.toNat) (h tm.toNat)) M p
noncomputable def zm_MK (k : Nat) (o : Int) (a M : Int) (P : zq_Ty) (h : zq_H) : Prop := zn_on a k P ∧ zm_is (fun j => h a.toNat (o + j)) M
noncomputable def zm_KH (a M p : Int) (P : zq_Ty) (h : zq_H) : Prop := zn_on a 1 P ∧ zm_ho (fun j => h a.toNat j) M p
noncomputable def zm_UM (M p v N : Int) (_ : zq_Ty) (_ : zq_H) : Prop := N = zm_st M p v
noncomputable def zm_PZ (Z n M k m N : Int) (_ : zq_Ty) (_ : zq_H) : Prop := m = zz_n n ∧ N = zz_Z Z n M k
noncomputable def zm_DR (Z N : Int) (_ : zq_Ty) (_ : zq_H) : Prop := N = zz_dr Z
noncomputable def zk_UU (k o t m N M : Int) (_ : zq_Ty) (_ : zq_H) : Prop := ∀ j : Int, 0 ≤ j → j < 11 → zn_dg M j = zk_U k o t m (zn_dg N) j
noncomputable def zk_ZC (b : Nat) (jk jo jt jm n M Z : Int) (P : zq_Ty) (h : zq_H) : Prop := zn_on jk (b + 9) P ∧ zn_on jo (b + 10) P ∧ zn_on jt (b + 11) P ∧ zn_on jm (b + 12) P ∧ 0 ≤ n ∧ n ≤ 16 ∧ ∀ i : Int, 0 ≤ i → i < n → zk_E (h jk.toNat) (h jo.toNat) (h jt.toNat) (h jm.toNat) Z n M i i
/-- all 16, being moved one place ahead: below l done, from u on not yet -/
noncomputable def zk_SH (b : Nat) (jk jo jt jm M Z l u : Int) (P : zq_Ty) (h : zq_H) : Prop := zn_on jk (b + 9) P ∧ zn_on jo (b + 10) P ∧ zn_on jt (b + 11) P ∧ zn_on jm (b + 12) P ∧ 0 ≤ l ∧ l ≤ u ∧ u ≤ 16 ∧ (∀ q : Int, 0 ≤ q → q < l → zk_E (h jk.toNat) (h jo.toNat) (h jt.toNat) (h jm.toNat) Z 16 M q (q + 1)) ∧ ∀ q : Int, u ≤ q → q < 16 → zk_E (h jk.toNat) (h jo.toNat) (h jt.toNat) (h jm.toNat) Z 16 M q q
/-- the reference's: rows of twelve -/
noncomputable def zk_ZR (k : Nat) (a n Z : Int) (P : zq_Ty) (h : zq_H) : Prop := zn_on a k P ∧ 0 ≤ n ∧ n ≤ 16 ∧ ∀ j : Int, 0 ≤ j → j < 12 * n → h a.toNat j = zn_dg Z j
noncomputable def zk_RS (a Z l u : Int) (P : zq_Ty) (h : zq_H) : Prop := zn_on a 12 P ∧ 0 ≤ l ∧ l ≤ u ∧ l ≤ 180 ∧ (∀ j : Int, 0 ≤ j → j < l → h a.toNat j = zn_dg Z (j + 12)) ∧ ∀ j : Int, u ≤ j → j < 192 → h a.toNat j = zn_dg Z j
noncomputable def zk_RF (a n Z M l : Int) (P : zq_Ty) (h : zq_H) : Prop := zn_on a 12 P ∧ 0 ≤ n ∧ n ≤ 15 ∧ 0 ≤ l ∧ l ≤ 11 ∧ (∀ j : Int, 0 ≤ j → j < 12 * n → h a.toNat j = zn_dg Z j) ∧ ∀ j : Int, 0 ≤ j → j < l → h a.toNat (12 * n + j) = zn_dg M j
/-! what calls do: outcomes r, N (M then), n', Z' -/
noncomputable def zk_same (M n Z N n' Z' : Int) : Prop := N = M ∧ n' = n ∧ Z' = Z
noncomputable def zk_done (M n Z k n' Z' : Int) : Prop := n' = zz_n n ∧ Z' = zz_Z Z n M k
noncomputable def zk_WN (M n Z q c r N n' Z' : Int) (_ : zq_Ty) (_ : zq_H) : Prop :=
  (¬ (0 ≤ q ∧ q ≤ 3 ∧ 0 ≤ c ∧ c ≤ 6) ∧ r = -1 ∧ zk_same M n Z N n' Z') ∨
  (0 ≤ q ∧ q ≤ 3 ∧ 0 ≤ c ∧ c ≤ 6 ∧ ((zn_dg M (6 + q) = c ∧ r = -3 ∧ zk_same M n Z N n' Z') ∨ (zn_dg M (6 + q) ≠ c ∧ r = zn_dg M (6 + q) ∧ N = zm_st M (6 + q) c ∧ zk_done M n Z 2 n' Z')))
noncomputable def zk_PA (M n Z r N n' Z' : Int) (_ : zq_Ty) (_ : zq_H) : Prop :=
  (999 ≤ zn_dg M 10 ∧ r = -3 ∧ zk_same M n Z N n' Z') ∨ (zn_dg M 10 < 999 ∧ r = zn_dg M 10 + 1 ∧ N = zm_st M 10 (zn_dg M 10 + 1) ∧ zk_done M n Z 3 n' Z')
/-- balances moved: the one's more by v, the other's less -/
noncomputable def zk_mv (M a b v : Int) : Int := zm_pk (fun j => zn_dg M j + (if j = a then v else 0) - (if j = b then v else 0)) 11
noncomputable def zk_PY (p M n Z a b v r N n' Z' : Int) (_ : zq_Ty) (_ : zq_H) : Prop :=
  ((¬ (1 ≤ v ∧ v ≤ 99) ∨ a = b) ∧ r = -1 ∧ zk_same M n Z N n' Z') ∨
  (1 ≤ v ∧ v ≤ 99 ∧ a ≠ b ∧ ((¬ (0 ≤ a ∧ a < p ∧ 0 ≤ b ∧ b < p) ∧ r = -2 ∧ zk_same M n Z N n' Z') ∨
    (0 ≤ a ∧ a < p ∧ 0 ≤ b ∧ b < p ∧ ((¬ (zn_dg M a + v ≤ 9999 ∧ -9999 ≤ zn_dg M b - v) ∧ r = -3 ∧ zk_same M n Z N n' Z') ∨ (zn_dg M a + v ≤ 9999 ∧ -9999 ≤ zn_dg M b - v ∧ r = zn_dg M a + v + 9999 ∧ N = zk_mv M a b v ∧ zk_done M n Z 1 n' Z')))))
/-- the deed d of w at p: S, people m, deeds e, laws T, the one in force f, mood u -/
noncomputable def zk_CM (S m e T f u M n Z d w p r N n' Z' : Int) (P : zq_Ty) (h : zq_H) : Prop :=
  (¬ (0 ≤ p ∧ p ≤ 3) ∧ r = -1 ∧ zk_same M n Z N n' Z') ∨
  (0 ≤ p ∧ p ≤ 3 ∧ ((¬ (0 ≤ d ∧ d < e ∧ 0 ≤ w ∧ w < m) ∧ r = -2 ∧ zk_same M n Z N n' Z') ∨
    (0 ≤ d ∧ d < e ∧ 0 ≤ w ∧ w < m ∧ ∃ W a, zl_WW W S d w p (zn_dg M 10 + zn_dg M (6 + p)) u P h ∧ zl_RW T f W w m a P h ∧
      ((a = 7 ∧ r = -3 ∧ zk_same M n Z N n' Z') ∨
       (a ≠ 7 ∧ (a = 6 ∨ a = w) ∧ 0 ≤ r ∧ r = a ∧ N = M ∧ zk_done M n Z 0 n' Z') ∨
       (a ≠ 7 ∧ a ≠ 6 ∧ a ≠ w ∧ ∃ o, zl_RO T f W S d o P h ∧
         ((¬ (zn_dg M w + o ≤ 9999 ∧ -9999 ≤ zn_dg M a - o) ∧ r = -3 ∧ zk_same M n Z N n' Z') ∨
          (zn_dg M w + o ≤ 9999 ∧ -9999 ≤ zn_dg M a - o ∧ 0 ≤ o ∧ 0 ≤ r ∧ r = a ∧ N = zk_mv M w a o ∧ zk_done M n Z 0 n' Z')))))))
/-- the latest is undone -/
noncomputable def zk_UN (M n Z r N n' : Int) (_ : zq_Ty) (_ : zq_H) : Prop :=
  (n ≤ 0 ∧ r = -3 ∧ N = M ∧ n' = n) ∨ (1 ≤ n ∧ r = zn_dg Z (12 * (n - 1) + 11) ∧ N = zm_pk (fun j => zn_dg Z (12 * (n - 1) + j)) 11 ∧ n' = n - 1)
noncomputable def zk_MV (M a b v N : Int) (_ : zq_Ty) (_ : zq_H) : Prop := N = zk_mv M a b v
/-- a number of just these digits -/
noncomputable def zm_CN (M : Int) (_ : zq_Ty) (_ : zq_H) : Prop := M = zm_pk (zn_dg M) 11
