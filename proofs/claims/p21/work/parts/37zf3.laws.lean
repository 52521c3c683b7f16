/-! LAWS KEPT by the class: texts of an array, each an object of its own; T holds their tapes -/
noncomputable def zt_LO (a g n : Int) (P : zq_Ty) (h : zq_H) : Prop := zn_on a 29 P ∧ zd_TX 25 26 27 28 (h a.toNat 0) (h a.toNat 1) (h a.toNat 2) (h a.toNat 3) 0 g n (h a.toNat 4) (h a.toNat 5) P h
noncomputable def zt_LT (k : Nat) (tx N T : Int) (P : zq_Ty) (h : zq_H) : Prop := zn_on tx (k + 8) P ∧ 0 ≤ N ∧ N ≤ 6 ∧ ∀ f : Int, 0 ≤ f → f < N → zt_LO (h tx.toNat f) (zT_g T f) (zT_n T f) P h
/-- T with one law more -/
noncomputable def zT_up (T N g n : Int) : Int := T % (2 : Int) ^ (8192 * N.toNat) + (g + n * (2 : Int) ^ 4096) * (2 : Int) ^ (8192 * N.toNat)
noncomputable def zt_TU (T N g n U : Int) (_ : zq_Ty) (_ : zq_H) : Prop := U = zT_up T N g n
theorem zT_pos (k : Nat) : (0 : Int) < (2 : Int) ^ k := Int.pow_pos (by decide)
theorem zT_D_def (T i : Int) : zT_D T i = T / (2 : Int) ^ (4096 * i.toNat) % (2 : Int) ^ 4096 := rfl
theorem zT_mm (X a b c : Int) : X * (a * (b * c)) = X * (c * b) * a := by
  rw [Int.mul_comm a, Int.mul_comm b c]
  exact (Int.mul_assoc X (c * b) a).symm
/-- lower digits stay -/
theorem zT_D_lo {T N g n i : Int} (hi : 0 ≤ i) (h : i < 2 * N) : zT_D (zT_up T N g n) i = zT_D T i := by
  have hN : 0 ≤ N := by omega
  obtain ⟨d, hd⟩ : ∃ d : Nat, 8192 * N.toNat = 4096 * i.toNat + (4096 + d) := ⟨8192 * N.toNat - 4096 * i.toNat - 4096, by omega⟩
  rw [zT_D_def, zT_D_def]
  unfold zT_up
  rw [hd, Int.pow_add, Int.pow_add]
  have hp := zT_pos (4096 * i.toNat)
  have hq := zT_pos 4096
  have hr := zT_pos d
  have e1 : ∀ X : Int, X * ((2 : Int) ^ (4096 * i.toNat) * ((2 : Int) ^ 4096 * (2 : Int) ^ d)) = X * ((2 : Int) ^ d * (2 : Int) ^ 4096) * (2 : Int) ^ (4096 * i.toNat) := fun X => zT_mm X _ _ _
  rw [e1, Int.add_mul_ediv_right _ _ (by omega)]
  have e2 : ∀ A X : Int, (A + X * ((2 : Int) ^ d * (2 : Int) ^ 4096)) % (2 : Int) ^ 4096 = A % (2 : Int) ^ 4096 := fun A X => by
    rw [← Int.mul_assoc, Int.add_mul_emod_self_right]
  rw [e2]
  -- T mod 2^(i + 4096 + d) behind 2^i, its lowest 4096
  have e3 : T % ((2 : Int) ^ (4096 * i.toNat) * ((2 : Int) ^ 4096 * (2 : Int) ^ d)) = T - ((2 : Int) ^ (4096 * i.toNat) * ((2 : Int) ^ 4096 * (2 : Int) ^ d)) * (T / ((2 : Int) ^ (4096 * i.toNat) * ((2 : Int) ^ 4096 * (2 : Int) ^ d))) := Int.emod_def _ _
  rw [e3]
  have e4 : T - ((2 : Int) ^ (4096 * i.toNat) * ((2 : Int) ^ 4096 * (2 : Int) ^ d)) * (T / ((2 : Int) ^ (4096 * i.toNat) * ((2 : Int) ^ 4096 * (2 : Int) ^ d))) = T + (-(T / ((2 : Int) ^ (4096 * i.toNat) * ((2 : Int) ^ 4096 * (2 : Int) ^ d)))) * ((2 : Int) ^ d * (2 : Int) ^ 4096) * (2 : Int) ^ (4096 * i.toNat) := by
    rw [← e1, Int.neg_mul, Int.mul_comm (T / _)]; omega
  rw [e4, Int.add_mul_ediv_right _ _ (by omega), e2]
theorem zT_hi {A B : Int} (h0 : 0 ≤ A) (h1 : A < B) (X : Int) : (A + X * B) / B = X := by
  rw [Int.add_mul_ediv_right _ _ (by omega), Int.ediv_eq_zero_of_lt h0 h1]; omega
theorem zT_up_g {T N g n : Int} (hN : 0 ≤ N) (h0 : 0 ≤ g) (h1 : g < (2 : Int) ^ 4096) : zT_g (zT_up T N g n) N = g := by
  unfold zT_g
  rw [zT_D_def, show 4096 * (2 * N).toNat = 8192 * N.toNat by omega]
  unfold zT_up
  have hp := zT_pos (8192 * N.toNat)
  rw [zT_hi (Int.emod_nonneg _ (by omega)) (Int.emod_lt_of_pos _ hp), Int.add_mul_emod_self_right]
  exact Int.emod_eq_of_lt h0 h1
theorem zT_up_n {T N g n : Int} (hN : 0 ≤ N) (h0 : 0 ≤ g) (h1 : g < (2 : Int) ^ 4096) (n0 : 0 ≤ n) (n1 : n < (2 : Int) ^ 4096) : zT_n (zT_up T N g n) N = n := by
  unfold zT_n
  rw [zT_D_def, show 4096 * (2 * N + 1).toNat = 8192 * N.toNat + 4096 by omega, Int.pow_add]
  unfold zT_up
  have hp := zT_pos (8192 * N.toNat)
  have hq := zT_pos 4096
  rw [← Int.ediv_ediv_of_nonneg (Int.le_of_lt hp), zT_hi (Int.emod_nonneg _ (by omega)) (Int.emod_lt_of_pos _ hp), zT_hi h0 h1]
  exact Int.emod_eq_of_lt n0 n1
theorem zT_up_lo {T N g n f : Int} (h0 : 0 ≤ f) (h1 : f < N) : zT_g (zT_up T N g n) f = zT_g T f ∧ zT_n (zT_up T N g n) f = zT_n T f := ⟨zT_D_lo (by omega) (by omega), zT_D_lo (by omega) (by omega)⟩
section ZTFX
variable {P P' : zq_Ty} {h h' : zq_H}
theorem zt_LO_fx {a g n : Int} (hP : zq_le P P') (h0 : ∀ j, 0 ≤ j → j ≤ 5 → P a.toNat = some 29 → h' a.toNat j = h a.toNat j) (h1 : ∀ (b : Nat) (j : Int), 0 ≤ j → j ≤ 447 → (P b = some 25 ∨ P b = some 26 ∨ P b = some 27 ∨ P b = some 28) → h' b j = h b j) (w : zt_LO a g n P h) : zt_LO a g n P' h' := by
  obtain ⟨w1, w2⟩ := w
  refine ⟨zn_on_le hP w1, ?_⟩
  rw [h0 0 (by omega) (by omega) w1.2, h0 1 (by omega) (by omega) w1.2, h0 2 (by omega) (by omega) w1.2, h0 3 (by omega) (by omega) w1.2, h0 4 (by omega) (by omega) w1.2, h0 5 (by omega) (by omega) w1.2]
  have m12 := w2.2.2.2.2.2.1
  have z448 := w2.2.2.2.2.2.2.2.1
  exact zd_TX_fx hP (fun j x y z => h1 _ j x (by omega) (Or.inl z)) (fun j x y z => h1 _ j x (by omega) (Or.inr (Or.inl z))) (fun j x y z => h1 _ j x (by omega) (Or.inr (Or.inr (Or.inl z)))) (fun j x y z => h1 _ j x (by omega) (Or.inr (Or.inr (Or.inr z)))) w2
theorem zt_LT_fx {k : Nat} {tx N T : Int} (hP : zq_le P P') (h2 : ∀ j, 0 ≤ j → j < N → P tx.toNat = some (k + 8) → h' tx.toNat j = h tx.toNat j) (h0 : ∀ (a : Nat) (j : Int), 0 ≤ j → j ≤ 5 → P a = some 29 → h' a j = h a j) (h1 : ∀ (b : Nat) (j : Int), 0 ≤ j → j ≤ 447 → (P b = some 25 ∨ P b = some 26 ∨ P b = some 27 ∨ P b = some 28) → h' b j = h b j) (w : zt_LT k tx N T P h) : zt_LT k tx N T P' h' := by
  obtain ⟨w1, w2, w3, w4⟩ := w
  refine ⟨zn_on_le hP w1, w2, w3, fun f x y => ?_⟩
  rw [h2 f x y w1.2]
  exact zt_LO_fx hP (fun j x y z => h0 _ j x y z) h1 (w4 f x y)
end ZTFX
/-- a law more -/
theorem zt_LT_up {k : Nat} {tx N T g n : Int} {P : zq_Ty} {h : zq_H} (w : zt_LT k tx N T P h) (hN : N ≤ 5) (ho : zt_LO (h tx.toNat N) g n P h) (g0 : 0 ≤ g) (g1 : g < (2 : Int) ^ 4096) (n0 : 0 ≤ n) (n1 : n ≤ 400) : zt_LT k tx (N + 1) (zT_up T N g n) P h := by
  obtain ⟨w1, w2, w3, w4⟩ := w
  have hq : (400 : Int) < (2 : Int) ^ 4096 := by
    have e : (2 : Int) ^ 4096 = (2 : Int) ^ 9 * (2 : Int) ^ 4087 := by rw [← Int.pow_add]
    have := zT_pos 4087
    rw [e, show (2 : Int) ^ 9 = 512 by decide]; omega
  refine ⟨w1, by omega, by omega, fun f x y => ?_⟩
  by_cases e : f = N
  · rw [e, zT_up_g w2 g0 g1, zT_up_n w2 g0 g1 n0 (by omega)]; exact ho
  · obtain ⟨e1, e2⟩ := zT_up_lo (T := T) (N := N) (g := g) (n := n) x (show f < N by omega)
    rw [e1, e2]; exact w4 f x (by omega)
