/-! THE REFERENCE'S RUN of orders: a clause gone along, its order, what is laid -/
noncomputable def zo_VPs (g l W p x0 x1 x2 su e : Int) (_ : zq_Ty) (_ : zq_H) : Prop := zo_VP g l W p x0 x1 x2 (1 - su) e
noncomputable def zo_PTt (g l p e : Int) (_ : zq_Ty) (_ : zq_H) : Prop := zo_PT g l p e
noncomputable def zo_PM (g l p s f : Int) (_ : zq_Ty) (_ : zq_H) : Prop := ∃ e, zo_PT g l p e ∧ zd_M g l s e f
noncomputable def zo_VM (g l W p x0 x1 x2 su f : Int) (_ : zq_Ty) (_ : zq_H) : Prop := ∃ e s, zo_VP g l W p x0 x1 x2 (1 - su) e ∧ zd_M g l s e f
noncomputable def zo_EVs (g l W p x0 x1 x2 su so : Int) (P : zq_Ty) (h : zq_H) : Prop := zo_EV g l W p x0 x1 x2 (1 - su) so P h
noncomputable def zo_SMt (x y : Int) (_ : zq_Ty) (_ : zq_H) : Prop := y = zo_sm x
/-- the first l cells of b stand in a -/
noncomputable def zo_CP (k k' : Nat) (a b l : Int) (P : zq_Ty) (h : zq_H) : Prop := zn_on a k P ∧ zn_on b k' P ∧ 0 ≤ l ∧ ∀ j : Int, 0 ≤ j → j < l → h a.toNat j = h b.toNat j
noncomputable def zo_CB (n k k' : Nat) (a b l : Int) (P : zq_Ty) (h : zq_H) : Prop := zn_on a k P ∧ zn_on b k' P ∧ (0 ≤ l ∧ l ≤ (n : Int)) ∧ ∀ j : Int, 0 ≤ j → j < l → h a.toNat j = h b.toNat j
theorem zo_CB_CP {n k k' : Nat} {a b l : Int} {P : zq_Ty} {h : zq_H} (w : zo_CB n k k' a b l P h) : zo_CP k k' a b l P h := ⟨w.1, w.2.1, w.2.2.1.1, w.2.2.2⟩
theorem zo_CB_0 {n k k' : Nat} {a b : Int} {P : zq_Ty} {h : zq_H} (h1 : zn_on a k P) (h2 : zn_on b k' P) : zo_CB n k k' a b 0 P h := ⟨h1, h2, by omega, fun j x y => by omega⟩
theorem zo_CB_1 {n k k' : Nat} {a b l v : Int} {P : zq_Ty} {h : zq_H} (hl : l < (n : Int)) (h1 : zo_CB n k k' a b l P h) (h2 : h a.toNat l = v) (h3 : h b.toNat l = v) : zo_CB n k k' a b (l + 1) P h := by
  obtain ⟨w1, w2, w3, w4⟩ := h1
  refine ⟨w1, w2, by omega, fun j x y => ?_⟩
  by_cases e : j = l
  · rw [e, h2, h3]
  · exact w4 j x (by omega)
theorem zo_CP_0 {k k' : Nat} {a b : Int} {P : zq_Ty} {h : zq_H} (h1 : zn_on a k P) (h2 : zn_on b k' P) : zo_CP k k' a b 0 P h := ⟨h1, h2, by omega, fun j x y => by omega⟩
theorem zo_CP_1 {k k' : Nat} {a b l v : Int} {P : zq_Ty} {h : zq_H} (h1 : zo_CP k k' a b l P h) (h2 : h a.toNat l = v) (h3 : h b.toNat l = v) : zo_CP k k' a b (l + 1) P h := by
  obtain ⟨w1, w2, w3, w4⟩ := h1
  refine ⟨w1, w2, by omega, fun j x y => ?_⟩
  by_cases e : j = l
  · rw [e, h2, h3]
  · exact w4 j x (by omega)
theorem zo_CP_Z {k k' : Nat} {a b n Z l : Int} {P : zq_Ty} {h : zq_H} (h0 : 192 ≤ l) (h1 : zo_CP k k' a b l P h) (h2 : zk_ZR k' b n Z P h) : zk_ZR k a n Z P h := by
  obtain ⟨w1, w2, w3, w4⟩ := h1
  obtain ⟨z1, z2, z3, z4⟩ := h2
  refine ⟨w1, z2, z3, fun j x y => ?_⟩
  rw [w4 j x (by omega)]
  exact z4 j x y
/-- numbers of a text without fault -/
theorem zu_Tlm (m : Nat) : (zx_T m).all (fun t => t.2.1.1 || (zu_lm m || (decide (t.1.2 < 50) || decide (50 < t.1.1)))) = true := by
  by_cases h : m < 16
  · have h1 : ∀ m, m < 16 → (zx_T m).all (fun t => t.2.1.1 || (zu_lm m || (decide (t.1.2 < 50) || decide (50 < t.1.1)))) = true := by decide +kernel
    exact h1 m h
  · have h1 : zx_T m = [] := by
      unfold zx_T
      split <;> first | rfl | omega
    rw [h1]
    rfl
theorem zu_run_le {n : Int} : ∀ (L : List (Int × Int × Int × Int)) (q : zx_Q) (lv cl : Int), n ≠ -1 → (∀ (j : Nat) (x : Int × Int × Int × Int), L[j]? = some x → x.1 ≠ -1) → zu_run n L q lv cl (-1) → ∀ (j : Nat) (x : Int × Int × Int × Int), L[j]? = some x → x.2.2.1 = 50 → x.2.2.2 ≤ 1000
  | [], _, _, _, _, _, _, j, x, hx, _ => by
    rw [List.getElem?_nil] at hx
    exact absurd hx (by simp)
  | e :: L, q, lv, cl, h1, h2, h, j, x, hx, hc => by
    rcases h with ⟨t, ht, hf, ho, hr⟩ | ⟨-, z⟩
    · match j, hx with
      | 0, hx =>
        rw [List.getElem?_cons_zero] at hx
        have ex := Option.some.inj hx
        rw [← ex] at hc ⊢
        have t1 := List.all_eq_true.mp (zu_Tlm q.2.2.1) t ht
        simp only [Bool.or_eq_true, decide_eq_true_eq] at t1
        obtain ⟨f1, f2, f3, -⟩ := hf
        rw [hc] at f1 f2
        rcases t1 with t1 | t1 | t1 | t1
        · have t2 := List.all_eq_true.mp (zu_T50 q.2.2.1) t ht
          rw [t1] at t2
          simp only [Bool.not_true, Bool.false_or, Bool.and_eq_true, decide_eq_true_eq] at t2
          have := f3 t1
          omega
        · exact (ho.1 t1 (by rw [hc]; decide)).2 hc
        · omega
        · omega
      | j + 1, hx =>
        rw [List.getElem?_cons_succ] at hx
        exact zu_run_le L _ _ _ h1 (fun i y hy => h2 (i + 1) y (by rw [List.getElem?_cons_succ]; exact hy)) hr j x hx hc
    · exact absurd z.symm (h2 0 e (by rw [List.getElem?_cons_zero]))
noncomputable def zo_AS1 (a N : Int) (P : zq_Ty) (h : zq_H) : Prop := zk_AS a 1 N 11 P h
