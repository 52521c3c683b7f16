/-! BOUNDS: laws kept, behind the addresses that they speak of -/
noncomputable def zt_GB (g n : Int) (_ : zq_Ty) (_ : zq_H) : Prop := 0 ≤ g ∧ g < (2 : Int) ^ 4096 ∧ 0 ≤ n ∧ n ≤ 400
noncomputable def zt_LB (b : Int) (P : zq_Ty) (_ : zq_H) : Prop := b ≤ 0 ∨ P (b - 1).toNat ≠ none
theorem zt_LB_fx {b : Int} {P P' : zq_Ty} {h h' : zq_H} (hP : zq_le P P') (z : zt_LB b P h) : zt_LB b P' h' := by
  rcases z with z | z
  · exact Or.inl z
  · refine Or.inr fun e => z ?_
    cases hq : P (b - 1).toNat with
    | none => rfl
    | some k => rw [hP _ _ hq] at e; cases e
/-- behind some cells there is a bound -/
theorem zt_LB_ex {P : zq_Ty} {h : zq_H} : ∀ (L : List Int), (∀ x ∈ L, 0 ≤ x ∧ P x.toNat ≠ none) → ∃ b, zt_LB b P h ∧ ∀ x ∈ L, x < b
  | [], _ => ⟨0, Or.inl (Int.le_refl 0), fun x hx => by cases hx⟩
  | x :: L, hL => by
    obtain ⟨b, b1, b2⟩ := zt_LB_ex L (fun y hy => hL y (List.mem_cons_of_mem _ hy))
    obtain ⟨x0, x1⟩ := hL x List.mem_cons_self
    by_cases e : x < b
    · exact ⟨b, b1, fun y hy => by
        rcases List.mem_cons.mp hy with rfl | hy
        · exact e
        · exact b2 y hy⟩
    · refine ⟨x + 1, Or.inr (by rw [show x + 1 - 1 = x by omega]; exact x1), fun y hy => ?_⟩
      rcases List.mem_cons.mp hy with rfl | hy
      · omega
      · have := b2 y hy; omega
noncomputable def zt_LTB (k : Nat) (tx N T b : Int) (P : zq_Ty) (h : zq_H) : Prop := zt_LT k tx N T P h ∧ tx < b ∧ ∀ f : Int, 0 ≤ f → f < N → h tx.toNat f < b ∧ ∀ q : Int, 0 ≤ q → q < 4 → h (h tx.toNat f).toNat q < b
theorem zt_LO_on {a g n : Int} {P : zq_Ty} {h : zq_H} (z : zt_LO a g n P h) : 0 ≤ a ∧ P a.toNat ≠ none ∧ ∀ q : Int, 0 ≤ q → q < 4 → 0 ≤ h a.toNat q ∧ P (h a.toNat q).toNat ≠ none := by
  have on : ∀ {x : Int} {k : Nat}, zn_on x k P → 0 ≤ x ∧ P x.toNat ≠ none := fun y => ⟨y.1, by rw [y.2]; exact Option.some_ne_none _⟩
  obtain ⟨z1, z2, z3, z4, z5, _⟩ := z
  refine ⟨(on z1).1, (on z1).2, fun q q0 q1 => ?_⟩
  have : q = 0 ∨ q = 1 ∨ q = 2 ∨ q = 3 := by omega
  rcases this with e | e | e | e <;> subst e
  · exact on z2
  · exact on z3
  · exact on z4
  · exact on z5
theorem zt_LTB_ex {k : Nat} {tx N T : Int} {P : zq_Ty} {h : zq_H} (z : zt_LT k tx N T P h) : ∃ b, zt_LB b P h ∧ zt_LTB k tx N T b P h := by
  obtain ⟨w1, w2, w3, w4⟩ := z
  have key : ∀ m : Nat, (m : Int) ≤ N → ∃ L : List Int, (∀ x ∈ L, 0 ≤ x ∧ P x.toNat ≠ none) ∧ tx ∈ L ∧ ∀ f : Int, 0 ≤ f → f < (m : Int) → h tx.toNat f ∈ L ∧ ∀ q : Int, 0 ≤ q → q < 4 → h (h tx.toNat f).toNat q ∈ L := by
    intro m
    induction m with
    | zero => exact fun _ => ⟨[tx], fun x hx => by rw [List.mem_singleton.mp hx]; exact ⟨w1.1, by rw [w1.2]; exact Option.some_ne_none _⟩, List.mem_singleton.mpr rfl, fun f f0 f1 => by omega⟩
    | succ m ih =>
      intro hm
      obtain ⟨L, l1, l2, l3⟩ := ih (by omega)
      obtain ⟨y1, y2, y3⟩ := zt_LO_on (w4 (m : Int) (by omega) (by omega))
      refine ⟨h tx.toNat (m : Int) :: h (h tx.toNat (m : Int)).toNat 0 :: h (h tx.toNat (m : Int)).toNat 1 :: h (h tx.toNat (m : Int)).toNat 2 :: h (h tx.toNat (m : Int)).toNat 3 :: L, fun x hx => ?_, ?_, fun f f0 f1 => ?_⟩
      · rcases List.mem_cons.mp hx with rfl | hx
        · exact ⟨y1, y2⟩
        rcases List.mem_cons.mp hx with rfl | hx
        · exact y3 0 (by decide) (by decide)
        rcases List.mem_cons.mp hx with rfl | hx
        · exact y3 1 (by decide) (by decide)
        rcases List.mem_cons.mp hx with rfl | hx
        · exact y3 2 (by decide) (by decide)
        rcases List.mem_cons.mp hx with rfl | hx
        · exact y3 3 (by decide) (by decide)
        · exact l1 x hx
      · exact List.mem_cons_of_mem _ (List.mem_cons_of_mem _ (List.mem_cons_of_mem _ (List.mem_cons_of_mem _ (List.mem_cons_of_mem _ l2))))
      · by_cases e : f = (m : Int)
        · rw [e]
          refine ⟨List.mem_cons_self, fun q q0 q1 => ?_⟩
          have : q = 0 ∨ q = 1 ∨ q = 2 ∨ q = 3 := by omega
          rcases this with e | e | e | e <;> subst e <;> simp
        · obtain ⟨g1, g2⟩ := l3 f f0 (by omega)
          refine ⟨List.mem_cons_of_mem _ (List.mem_cons_of_mem _ (List.mem_cons_of_mem _ (List.mem_cons_of_mem _ (List.mem_cons_of_mem _ g1)))), fun q q0 q1 => List.mem_cons_of_mem _ (List.mem_cons_of_mem _ (List.mem_cons_of_mem _ (List.mem_cons_of_mem _ (List.mem_cons_of_mem _ (g2 q q0 q1)))))⟩
  obtain ⟨L, l1, l2, l3⟩ := key N.toNat (by omega)
  obtain ⟨b, b1, b2⟩ := zt_LB_ex (h := h) L l1
  refine ⟨b, b1, ⟨w1, w2, w3, w4⟩, b2 _ l2, fun f f0 f1 => ?_⟩
  obtain ⟨g1, g2⟩ := l3 f f0 (by omega)
  exact ⟨b2 _ g1, fun q q0 q1 => b2 _ (g2 q q0 q1)⟩
theorem zt_LTB_le {k : Nat} {tx N T b c : Int} {P : zq_Ty} {h : zq_H} (z : zt_LTB k tx N T b P h) (hb : b ≤ c) : zt_LTB k tx N T c P h := by
  obtain ⟨z1, z2, z3⟩ := z
  exact ⟨z1, by omega, fun f f0 f1 => ⟨by have := (z3 f f0 f1).1; omega, fun q q0 q1 => by have := (z3 f f0 f1).2 q q0 q1; omega⟩⟩
/-- one bound for three lands -/
theorem zt_LTB_3 {k k1 k2 : Nat} {a N T c L U d K V : Int} {P : zq_Ty} {h : zq_H} (z : zt_LT k a N T P h) (z1 : zt_LT k1 c L U P h) (z2 : zt_LT k2 d K V P h) : ∃ b, zt_LB b P h ∧ zt_LTB k a N T b P h ∧ zt_LTB k1 c L U b P h ∧ zt_LTB k2 d K V b P h := by
  obtain ⟨b, x1, x2⟩ := zt_LTB_ex z
  obtain ⟨b1, y1, y2⟩ := zt_LTB_ex z1
  obtain ⟨b2, w1, w2⟩ := zt_LTB_ex z2
  by_cases e1 : b1 ≤ b
  · by_cases e2 : b2 ≤ b
    · exact ⟨b, x1, x2, zt_LTB_le y2 e1, zt_LTB_le w2 e2⟩
    · exact ⟨b2, w1, zt_LTB_le x2 (by omega), zt_LTB_le y2 (by omega), w2⟩
  · by_cases e2 : b2 ≤ b1
    · exact ⟨b1, y1, zt_LTB_le x2 (by omega), y2, zt_LTB_le w2 e2⟩
    · exact ⟨b2, w1, zt_LTB_le x2 (by omega), zt_LTB_le y2 (by omega), w2⟩
/-- what agrees below the bound -/
theorem zt_LTB_ag {k : Nat} {tx N T b : Int} {P P' : zq_Ty} {h h' : zq_H} (hP : zq_le P P') (z : zt_LTB k tx N T b P h) (e : ∀ (x : Int), 0 ≤ x → x < b → P x.toNat ≠ none → ∀ j, h' x.toNat j = h x.toNat j) : zt_LTB k tx N T b P' h' := by
  obtain ⟨⟨w1, w2, w3, w4⟩, z2, z3⟩ := z
  have w1n : P tx.toNat ≠ none := by rw [w1.2]; exact Option.some_ne_none _
  have e0 := e tx w1.1 z2 w1n
  have key : ∀ f : Int, 0 ≤ f → f < N → (∀ j, h' (h tx.toNat f).toNat j = h (h tx.toNat f).toNat j) ∧ ∀ q : Int, 0 ≤ q → q < 4 → ∀ j, h' (h (h tx.toNat f).toNat q).toNat j = h (h (h tx.toNat f).toNat q).toNat j := by
    intro f f0 f1
    obtain ⟨y1, y2, y3⟩ := zt_LO_on (w4 f f0 f1)
    obtain ⟨g1, g2⟩ := z3 f f0 f1
    exact ⟨e _ y1 g1 y2, fun q q0 q1 => e _ (y3 q q0 q1).1 (g2 q q0 q1) (y3 q q0 q1).2⟩
  refine ⟨⟨zn_on_le hP w1, w2, w3, fun f f0 f1 => ?_⟩, z2, fun f f0 f1 => ?_⟩
  · obtain ⟨a1, a2⟩ := key f f0 f1
    rw [e0 f]
    obtain ⟨c1, c2⟩ := w4 f f0 f1
    refine ⟨zn_on_le hP c1, ?_⟩
    rw [a1 0, a1 1, a1 2, a1 3, a1 4, a1 5]
    exact zd_TX_fx hP (fun j _ _ _ => a2 0 (by decide) (by decide) j) (fun j _ _ _ => a2 1 (by decide) (by decide) j) (fun j _ _ _ => a2 2 (by decide) (by decide) j) (fun j _ _ _ => a2 3 (by decide) (by decide) j) c2
  · obtain ⟨a1, a2⟩ := key f f0 f1
    rw [e0 f]
    obtain ⟨g1, g2⟩ := z3 f f0 f1
    exact ⟨g1, fun q q0 q1 => by rw [a1 q]; exact g2 q q0 q1⟩
/-- a store beyond the bound -/
theorem zt_LTB_wr {k : Nat} {tx N T b : Int} {P : zq_Ty} {h : zq_H} {a : Nat} {j v : Int} (hb : b ≤ (a : Int)) (z : zt_LTB k tx N T b P h) : zt_LTB k tx N T b P (zq_wr h a j v) :=
  zt_LTB_ag (fun _ _ q => q) z (fun x x0 x1 _ i => zq_wr_ne (by omega))
/-- the draft, trimmed: a law's object -/
theorem zt_LO_of {a g n ak at' as' ac k' t' s' c' m z : Int} {P : zq_Ty} {h : zq_H} (ha : zn_on a 29 P) (x : zd_TX 30 31 32 33 ak at' as' ac 0 g n m z P h) (e0 : h a.toNat 0 = k') (e1 : h a.toNat 1 = t') (e2 : h a.toNat 2 = s') (e3 : h a.toNat 3 = c') (e4 : h a.toNat 4 = m) (e5 : h a.toNat 5 = z) (c0 : zo_CP 25 30 k' ak m P h) (c1 : zo_CP 26 31 t' at' m P h) (c2 : zo_CP 27 32 s' as' (4 * m) P h) (c3 : zo_CP 28 33 c' ac z P h) : zt_LO a g n P h := by
  refine ⟨ha, ?_⟩
  rw [e0, e1, e2, e3, e4, e5]
  obtain ⟨_, _, _, _, x5, x6, x7, x8, Y, x9, x10⟩ := x
  obtain ⟨a1, _, _, a4⟩ := c0
  obtain ⟨b1, _, _, b4⟩ := c1
  obtain ⟨d1, _, _, d4⟩ := c2
  obtain ⟨f1, _, _, f4⟩ := c3
  refine ⟨a1, b1, d1, f1, x5, x6, x7, x8, Y, fun j j0 j1 => (f4 j j0 j1).trans (x9 j j0 j1), ?_⟩
  exact zd_D_cg x10 (fun i i0 i1 => a4 i i0 i1) (fun i i0 i1 => b4 i i0 i1) (fun i i0 i1 => d4 i i0 i1)
theorem zt_pow_le {a b : Nat} (h : a ≤ b) : (2 : Int) ^ a ≤ (2 : Int) ^ b := by
  obtain ⟨d, rfl⟩ : ∃ d, b = a + d := ⟨b - a, by omega⟩
  rw [Int.pow_add]
  have h1 := zT_pos a
  have h2 := zT_pos d
  have h3 := Int.mul_le_mul_of_nonneg_left (show (1 : Int) ≤ (2 : Int) ^ d by omega) (show 0 ≤ (2 : Int) ^ a by omega)
  rw [Int.mul_one] at h3
  exact h3
theorem zt_cd_in (f : Int → Int) : ∀ n : Nat, 0 ≤ zt_cd f n ∧ zt_cd f n < (256 : Int) ^ n
  | 0 => ⟨Int.le_refl 0, show (0 : Int) < 256 ^ 0 by decide⟩
  | n + 1 => by
    obtain ⟨h1, h2⟩ := zt_cd_in f n
    show 0 ≤ 256 * zt_cd f n + f n % 256 ∧ 256 * zt_cd f n + f n % 256 < (256 : Int) ^ (n + 1)
    rw [Int.pow_succ]
    omega
theorem zt_GB_of {k : Nat} {a n g : Int} {P : zq_Ty} {h : zq_H} (z : zt_TC k (zq_en [a, n, g]) P h) : zt_GB g n P h := by
  obtain ⟨_, _, z3, z4, z5⟩ := z
  have z3 : 0 ≤ n := z3
  have z4 : n ≤ 400 := z4
  have z5 : g = zt_cd (h a.toNat) n.toNat := z5
  obtain ⟨h1, h2⟩ := zt_cd_in (h a.toNat) n.toNat
  refine ⟨by rw [z5]; exact h1, ?_, z3, z4⟩
  rw [z5]
  refine Int.lt_of_lt_of_le h2 ?_
  rw [show (256 : Int) = (2 : Int) ^ 8 by decide, ← Int.pow_mul]
  exact zt_pow_le (by omega)
/-- the law more, of both sides -/
theorem zt_LT_more {k : Nat} {tx N T v g n b : Int} {P : zq_Ty} {h : zq_H} (w : zt_LTB k tx N T b P h) (hN : N ≤ 5) (hv : h tx.toNat N = v) (ho : zt_LO v g n P h) (gb : zt_GB g n P h) : zt_LT k tx (N + 1) (zT_up T N g n) P h := by
  obtain ⟨g0, g1, n0, n1⟩ := gb
  exact zt_LT_up w.1 hN (by rw [hv]; exact ho) g0 g1 n0 n1
theorem zl_KT_more {a T N g n t : Int} {P : zq_Ty} {h : zq_H} (w : zl_KT a T N P h) (h0 : 0 ≤ N) (hN : N ≤ 5) (ht : h a.toNat (64 + N) = t) (x : ze_TX a (400 * N) (400 * N + t) g n P h) (gb : zt_GB g n P h) : zl_KT a (zT_up T N g n) (N + 1) P h := by
  obtain ⟨w1, w2, w3, w4⟩ := w
  obtain ⟨g0, g1, n0, n1⟩ := gb
  have hq : (400 : Int) < (2 : Int) ^ 4096 := by
    have e : (2 : Int) ^ 4096 = (2 : Int) ^ 9 * (2 : Int) ^ 4087 := by rw [← Int.pow_add]
    have := zT_pos 4087
    rw [e, show (2 : Int) ^ 9 = 512 by decide]; omega
  refine ⟨w1, by omega, fun f f0 f1 => ?_, fun f f0 f1 => ?_⟩
  rotate_left
  · by_cases e : f = N
    · rw [e, zT_up_n h0 g0 g1 n0 (by omega)]; exact n1
    · obtain ⟨e1, e2⟩ := zT_up_lo (T := T) (N := N) (g := g) (n := n) f0 (show f < N by omega)
      rw [e2]; exact w4 f f0 (by omega)
  by_cases e : f = N
  · rw [e, ht, zT_up_g h0 g0 g1, zT_up_n h0 g0 g1 n0 (by omega)]; exact x
  · obtain ⟨e1, e2⟩ := zT_up_lo (T := T) (N := N) (g := g) (n := n) f0 (show f < N by omega)
    rw [e1, e2]; exact w3 f f0 (by omega)
