/-! operations remembered: what their tokens say -/
noncomputable def zo_FX : zq_FX := [(85, []), (86, [])]
theorem zo_FXok {w : zq_Wd} {A0 : Nat → Nat} (hX : w.2.2.2.2 = zX A0) : zq_okFX w zo_FX := by
  intro x hx as P P' h h' hP hh ht
  rw [hX] at ht ⊢
  rcases List.mem_cons.mp hx with rfl | hx
  · exact ht
  rcases List.mem_cons.mp hx with rfl | hx
  · exact ht
  · cases hx
noncomputable def zo_DX : zq_DXt := []
theorem zo_DXok {w : zq_Wd} {A0 : Nat → Nat} (_ : w.2.2.2.2 = zX A0) : zq_okDX w zo_DX := fun _ hx => by cases hx
theorem zo_OPok {w : zq_Wd} {A0 : Nat → Nat} (hX : w.2.2.2.2 = zX A0) : zq_okOP w := by
  intro t op a b P h ht
  rw [hX]
  match t, ht with
  | 0, _ => show zq_fun 0 op a b = zq_fun 0 ((op : Int)).toNat a b; rw [Int.toNat_natCast]
  | 1, _ => show zq_fun 1 op a b = zq_fun 1 ((op : Int)).toNat a b; rw [Int.toNat_natCast]
  | k + 2, h2 => omega
/-! operations of 32 bits as whole numbers -/
noncomputable def zo_op (op a b c : Int) (_ : zq_Ty) (_ : zq_H) : Prop := c = zq_fun 0 op.toNat a b
