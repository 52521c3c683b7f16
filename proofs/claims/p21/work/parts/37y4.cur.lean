/-! the token under the eye, out of a program's tokens -/
theorem zu_LX_cur {M : Int → Int} {E : Int} {kc kv kp : Nat} {co va pl g n t : Int} {P : zq_Ty} {h : zq_H} (hx : zu_LX M E kc kv kp co va pl g n t P h) (hE : M E = 0) {i : Int} (h0 : 0 ≤ i) (h1 : i ≤ t) : zu_cur g n i (h pl.toNat i) (M (h co.toNat i)) (h va.toNat i) := by
  obtain ⟨a1, a2, a3, a0, a4, a5, a6, a7, a8, a9⟩ := hx
  by_cases hi : i < t
  · obtain ⟨e, e1, e2, e3, e4, e5, e6⟩ := a9 i h0 hi
    exact ⟨h0, Or.inl ⟨e, e1, e2.symm, e4.symm, fun w => e6 (e4.symm.trans w)⟩⟩
  · have e : i = t := by omega
    refine ⟨h0, Or.inr ⟨by omega, ?_, ?_⟩⟩
    · rw [e]; exact a7
    · rw [e, a8]; exact hE
theorem zu_LX_in {M : Int → Int} {kc kv kp : Nat} {co va pl g n t : Int} {P : zq_Ty} {h : zq_H} (hx : zu_LX M 31 kc kv kp co va pl g n t P h) {i : Int} (h1 : i ≤ t) (hc : h co.toNat i ≠ 31) : i < ((zu_TL g n).length : Int) := by
  obtain ⟨a1, a2, a3, a0, a4, a5, a6, a7, a8, a9⟩ := hx
  by_cases hi : i = t
  · rw [hi] at hc
    exact absurd a8 hc
  · omega
theorem zu_LX_end {M : Int → Int} {kc kv kp : Nat} {co va pl g n t : Int} {P : zq_Ty} {h : zq_H} (hx : zu_LX M 31 kc kv kp co va pl g n t P h) {i : Int} (h0 : 0 ≤ i) (h1 : i ≤ t) (hc : h co.toNat i = 31) : i = ((zu_TL g n).length : Int) := by
  obtain ⟨a1, a2, a3, a0, a4, a5, a6, a7, a8, a9⟩ := hx
  by_cases hi : i < t
  · obtain ⟨e, e1, e2, e3, e4, e5, e6⟩ := a9 i h0 hi
    exact absurd hc (e5 rfl)
  · omega
theorem zu_cur_lt {g n i p c v : Int} (h : zu_cur g n i p c v) (hc : c ≠ 0) : i < ((zu_TL g n).length : Int) := by
  obtain ⟨e, e1, e2, -⟩ := zu_cur_in h (Or.inl hc)
  omega
theorem zu_cur_FT {g n i p c v r : Int} {P : zq_Ty} {h : zq_H} (hc : zu_cur g n i p c v) (e : r = p) : zu_FT g n i r P h := by
  obtain ⟨h0, hc | ⟨h1, h2, h3⟩⟩ := hc
  · obtain ⟨e', e1, e2, -⟩ := hc
    exact ⟨h0, Or.inl ⟨e', e1, by rw [e2, e]⟩⟩
  · exact ⟨h0, Or.inr ⟨by omega, by rw [e, h2]⟩⟩
theorem zu_mp_in (l1 h1 l2 h2 : Int) (hk : ((List.range 32).all (fun k => decide ((k : Int) < l1) || (decide (h1 < (k : Int)) || (decide (l2 ≤ zu_mp (k : Int)) && decide (zu_mp (k : Int) ≤ h2)))) && (decide (h1 < 32) || (decide (32 ≤ l1) && (decide (l2 ≤ l1 + 68) && decide (h1 + 68 ≤ h2))))) = true) {c : Int} (a0 : 0 ≤ c) (a1 : l1 ≤ c) (a2 : c ≤ h1) : l2 ≤ zu_mp c ∧ zu_mp c ≤ h2 := by
  simp only [Bool.and_eq_true] at hk
  obtain ⟨ha, hb⟩ := hk
  by_cases hc : c < 32
  · have := List.all_eq_true.mp ha c.toNat (List.mem_range.mpr (by omega))
    simp only [Bool.or_eq_true, Bool.and_eq_true, decide_eq_true_eq] at this
    rw [show ((c.toNat : Nat) : Int) = c by omega] at this
    omega
  · rw [zu_mp_hi (by omega)]
    simp only [Bool.or_eq_true, Bool.and_eq_true, decide_eq_true_eq] at hb
    omega
theorem zu_mp30 {c : Int} (h : c = 30) : zu_mp c = 50 := by rw [h]; decide
