/-! help for facts -/
theorem zu_e0 (r : Nat → Int) (c : Int) : zq_ev r (c, []) = c := by simp only [zq_ev, zq_ts] <;> omega
theorem zu_e1 (r : Nat → Int) (k : Nat) : zq_ev r (0, [(k, 1)]) = r k := by simp only [zq_ev, zq_ts] <;> omega
theorem zu_e2 (r : Nat → Int) (k : Nat) (c : Int) : zq_ev r (c, [(k, 1)]) = r k + c := by simp only [zq_ev, zq_ts] <;> omega
theorem zu_e3 (r : Nat → Int) (k : Nat) (c : Int) : zq_ev r (-c, [(k, 1)]) = r k - c := by simp only [zq_ev, zq_ts] <;> omega
theorem zu_e4 (r : Nat → Int) (k : Nat) : zq_ev r (0, [(k, -1)]) = -r k := by simp only [zq_ev, zq_ts] <;> omega
theorem zu_e5 (r : Nat → Int) (k : Nat) (c : Int) : zq_ev r (c, [(k, -1)]) = -r k + c := by simp only [zq_ev, zq_ts] <;> omega
theorem zu_e6 (r : Nat → Int) (k : Nat) (c : Int) : zq_ev r (-c, [(k, -1)]) = -r k - c := by simp only [zq_ev, zq_ts] <;> omega
theorem zu_f1 {r : Nat → Int} {k : Nat} {x : Int} (v : r k = x) : zq_ev r (0, [(k, 1)]) = x := by rw [zu_e1, v]
theorem zu_f2 {r : Nat → Int} {k : Nat} {x : Int} (v : r k = x) (c : Int) : zq_ev r (c, [(k, 1)]) = x + c := by rw [zu_e2, v]
theorem zu_f3 {r : Nat → Int} {k : Nat} {x : Int} (v : r k = x) (c : Int) : zq_ev r (-c, [(k, 1)]) = x - c := by rw [zu_e3, v]
theorem zu_f4 {r : Nat → Int} {k : Nat} {x : Int} (v : r k = x) : zq_ev r (0, [(k, -1)]) = -x := by rw [zu_e4, v]
theorem zu_f5 {r : Nat → Int} {k : Nat} {x : Int} (v : r k = x) (c : Int) : zq_ev r (c, [(k, -1)]) = -x + c := by rw [zu_e5, v]
theorem zu_f6 {r : Nat → Int} {k : Nat} {x : Int} (v : r k = x) (c : Int) : zq_ev r (-c, [(k, -1)]) = -x - c := by rw [zu_e6, v]
theorem zu_fac {α : Type} {p : α → Prop} {a : α} {l : List α} (h1 : p a) (h2 : ∀ x ∈ l, p x) : ∀ x ∈ a :: l, p x := fun x hx => by
  rcases List.mem_cons.mp hx with e | e
  · rw [e]; exact h1
  · exact h2 x e
theorem zu_up_ne {r : Nat → Int} {n i : Nat} {z : Int} (h : i < n) : zq_up r n z i = r i := zq_up_ext r n z i h
theorem zu_stm {r : Nat → Int} {P : zq_Ty} {h : zq_H} {e1 e2 e3 : zq_L} {a : Int} (g : zq_ev r e1 = a) (h1 : 0 ≤ a) (h2 : P a.toNat ≠ none) (h3 : h a.toNat (zq_ev r e2) = zq_ev r e3) : ∃ b : Nat, zq_ev r e1 = (b : Int) ∧ P b ≠ none ∧ h b (zq_ev r e2) = zq_ev r e3 := ⟨a.toNat, by rw [g]; omega, h2, h3⟩
