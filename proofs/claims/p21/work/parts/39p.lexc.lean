/-! LEXING: facts -/
theorem zu_e0 (r : Nat → Int) (c : Int) : zq_ev r (c, []) = c := by simp only [zq_ev, zq_ts] <;> omega
theorem zu_e1 (r : Nat → Int) (k : Nat) : zq_ev r (0, [(k, 1)]) = r k := by simp only [zq_ev, zq_ts] <;> omega
theorem zu_e2 (r : Nat → Int) (k : Nat) (c : Int) : zq_ev r (c, [(k, 1)]) = r k + c := by simp only [zq_ev, zq_ts] <;> omega
theorem zu_e3 (r : Nat → Int) (k : Nat) (c : Int) : zq_ev r (-c, [(k, 1)]) = r k - c := by simp only [zq_ev, zq_ts] <;> omega
theorem zu_e4 (r : Nat → Int) (k : Nat) : zq_ev r (0, [(k, -1)]) = -r k := by simp only [zq_ev, zq_ts] <;> omega
theorem zu_e5 (r : Nat → Int) (k : Nat) (c : Int) : zq_ev r (c, [(k, -1)]) = -r k + c := by simp only [zq_ev, zq_ts] <;> omega
theorem zu_e6 (r : Nat → Int) (k : Nat) (c : Int) : zq_ev r (-c, [(k, -1)]) = -r k - c := by simp only [zq_ev, zq_ts] <;> omega
theorem zu_f1 {r : Nat → Int} {k : Nat} {x : Int} (v : r k = x) : zq_ev r (0, [(k, 1)]) = x := by rw [zu_e1, v]
theorem zu_f2 {r : Nat → Int} {k : Nat} {x : Int} (v : r k = x) (c : Int) : zq_ev r (c, [(k, 1)]) = x + c := by rw [zu_e2, v]
theorem zu_f3 {r : Nat → Int} {k : Nat} {x : Int} (v : r k = x) (c : Int) : zq_ev r (-c, [(k, 1)]) = x - c := by rw [zu_e3, v]
theorem zu_f4 {r : Nat → Int} {k : Nat} {x : Int} (v : r k = x) : zq_ev r (0, [(k, -1)]) = -x := by rw [zu_e4, v]
theorem zu_f5 {r : Nat → Int} {k : Nat} {x : Int} (v : r k = x) (c : Int) : zq_ev r (c, [(k, -1)]) = -x + c := by rw [zu_e5, v]
theorem zu_f6 {r : Nat → Int} {k : Nat} {x : Int} (v : r k = x) (c : Int) : zq_ev r (-c, [(k, -1)]) = -x - c := by rw [zu_e6, v]
theorem zu_fac {α : Type} {p : α → Prop} {a : α} {l : List α} (h1 : p a) (h2 : ∀ x ∈ l, p x) : ∀ x ∈ a :: l, p x := fun x hx => by
  rcases List.mem_cons.mp hx with e | e
  · rw [e]; exact h1
  · exact h2 x e
theorem zu_up_ne {r : Nat → Int} {n i : Nat} {z : Int} (h : i < n) : zq_up r n z i = r i := zq_up_ext r n z i h
theorem zu_stm {r : Nat → Int} {P : zq_Ty} {h : zq_H} {e1 e2 e3 : zq_L} {a : Int} (g : zq_ev r e1 = a) (h1 : 0 ≤ a) (h2 : P a.toNat ≠ none) (h3 : h a.toNat (zq_ev r e2) = zq_ev r e3) : ∃ b : Nat, zq_ev r e1 = (b : Int) ∧ P b ≠ none ∧ h b (zq_ev r e2) = zq_ev r e3 := ⟨a.toNat, by rw [g]; omega, h2, h3⟩
noncomputable def zu_X4 (co va t o : Int) (P : zq_Ty) (h : zq_H) : Prop := zx_4 (zq_en [co, va, t, o]) P h
noncomputable def zu_TCc (a n g : Int) (P : zq_Ty) (h : zq_H) : Prop := zt_TC 95 (zq_en [a, n, g]) P h
noncomputable def zu_TCr (a n g : Int) (P : zq_Ty) (h : zq_H) : Prop := zt_TC 6 (zq_en [a, n, g]) P h
theorem zu_dgc {a n g j b : Int} {P : zq_Ty} {h : zq_H} (ht : zu_TCc a n g P h) (h1 : 0 ≤ j) (h2 : j < n) (hb : h a.toNat j = b) (b1 : 0 ≤ b) (b2 : b ≤ 255) : zu_dg g n j = b := by
  rw [zu_dg_TC ht h1 h2, hb]
  omega
theorem zu_dgr {a n g j b : Int} {P : zq_Ty} {h : zq_H} (ht : zu_TCr a n g P h) (h1 : 0 ≤ j) (h2 : j < n) (hb : h a.toNat j = b) (b1 : 0 ≤ b) (b2 : b ≤ 255) : zu_dg g n j = b := by
  rw [zu_dg_TC ht h1 h2, hb]
  omega
theorem zu_dgn {a n g j b : Int} {P : zq_Ty} {h : zq_H} (ht : zu_TCr a n g P h) (h1 : 0 ≤ j) (h2 : j < n) (hb : h a.toNat j = b) (b1 : -128 ≤ b) (b2 : b < 0) : zu_dg g n j = b + 256 := by
  rw [zu_dg_TC ht h1 h2, hb]
  omega
noncomputable def zu_cS0 : zq_S × List zq_S := (([], [], [(0, [(0, 1)]), (0, [(1, 1)]), (0, [(2, 1)]), (400, [(2, -1)])], [((0, [(0, 1)]), 97), ((0, [(1, 1)]), 98)], [], [], [], 4), [([], [], [], [], [], [], [(100, [(0, [(0, 1)]), (0, [(1, 1)]), (0, [(3, 1)]), (0, [(2, 1)]), (0, []), (0, [])])], 4)])
theorem zu_cS0_l {P : zq_Ty} {h : zq_H} {sa ea n g : Int} (a1 : 0 ≤ sa) (a2 : 0 ≤ ea) (a3 : 0 ≤ n) (a4 : 0 ≤ -n + 400) (b1 : 0 ≤ sa → P (sa).toNat = some 97) (b2 : 0 ≤ ea → P (ea).toNat = some 98) : (zu_SGC sa ea g n 0 0 P h) := by
  exact ⟨⟨a1, b1 a1⟩, ⟨a2, b2 a2⟩, by omega, zu_at_0 a3, fun j x y => by omega⟩
theorem zu_cS0_ok {w : zq_Wd} (x_SGC : zj_is w 100 (fun q => zu_SGC (q 0) (q 1) (q 2) (q 3) (q 4) (q 5))) : zq_okG1 w zu_cS0 := by
  refine ⟨rfl, rfl, zu_fac ⟨rfl, by decide⟩ zq_fan, ?_⟩
  intro r P h H hM
  have q0 : zq_ev r (0, [(0, 1)]) = r 0 := zu_e1 _ _
  have q1 : zq_ev r (0, [(1, 1)]) = r 1 := zu_e1 _ _
  have q2 : zq_ev r (0, [(2, 1)]) = r 2 := zu_e1 _ _
  have q3 : zq_ev r (400, [(2, -1)]) = -r 2 + 400 := zu_e5 _ _ _
  obtain ⟨hT, hC, hF, hS, -, hK⟩ := hM
  have c := hC.1
  have a1 := zq_all_1 c
  rw [q0] at a1
  have c := zq_all_t c
  have a2 := zq_all_1 c
  rw [q1] at a2
  have c := zq_all_t c
  have a3 := zq_all_1 c
  rw [q2] at a3
  have c := zq_all_t c
  have a4 := zq_all_1 c
  rw [q3] at a4
  have b1 : 0 ≤ r 0 → P (r 0).toNat = some 97 := fun z => by
    have z1 : 0 ≤ zq_ev r (0, [(0, 1)]) := by rw [q0]; exact z
    have z2 := zq_okF_1 (hF) z1
    simp only [q0] at z2
    exact z2
  have b2 : 0 ≤ r 1 → P (r 1).toNat = some 98 := fun z => by
    have z1 : 0 ≤ zq_ev r (0, [(1, 1)]) := by rw [q1]; exact z
    have z2 := zq_okF_1 (zq_okF_t (hF)) z1
    simp only [q1] at z2
    exact z2
  obtain t1 := zu_cS0_l (P := P) (h := h) (sa := r 0) (ea := r 1) (n := r 2) (g := r 3) a1 a2 a3 a4 b1 b2
  obtain ⟨rq, hr⟩ : ∃ rq : Nat → Int, (∀ i, i < 4 → rq i = r i) := ⟨r, fun i hi => rfl⟩
  have v0 : rq 0 = r 0 := hr 0 (by decide)
  have v1 : rq 1 = r 1 := hr 1 (by decide)
  have v2 : rq 2 = r 2 := hr 2 (by decide)
  have v3 : rq 3 = r 3 := hr 3 (by decide)
  have g0 : zq_ev rq (0, [(0, 1)]) = r 0 := zu_f1 v0
  have g1 : zq_ev rq (0, [(1, 1)]) = r 1 := zu_f1 v1
  have g2 : zq_ev rq (0, [(3, 1)]) = r 3 := zu_f1 v3
  have g3 : zq_ev rq (0, [(2, 1)]) = r 2 := zu_f1 v2
  have g4 : zq_ev rq (0, []) = 0 := zu_e0 _ _
  exact ⟨_, List.mem_cons_self .., rq, hr, zq_MeS_mk rfl hT (zq_all_nil) zq_fan (zq_fan) rfl (zu_fac ((x_SGC _ _ _).mpr (by show zu_SGC (zq_ev rq (0, [(0, 1)])) (zq_ev rq (0, [(1, 1)])) (zq_ev rq (0, [(3, 1)])) (zq_ev rq (0, [(2, 1)])) (zq_ev rq (0, [])) (zq_ev rq (0, [])) P h; simp only [g0, g1, g2, g3, g4]; exact t1)) zq_fan)⟩
noncomputable def zu_cC0 : zq_S × List zq_S := (([], [], [(-32, [(7, 1)]), (32, [(7, -1)]), (-1, [(1, 1), (5, -1)])], [], [((0, [(0, 1)]), (0, [(5, 1)]), (0, [(7, 1)]))], [], [(21, [(0, [(0, 1)]), (0, [(1, 1)]), (0, [(2, 1)])]), (100, [(0, [(3, 1)]), (0, [(4, 1)]), (0, [(2, 1)]), (0, [(1, 1)]), (0, [(5, 1)]), (0, [(6, 1)])])], 8), [([], [], [], [], [], [], [(100, [(0, [(3, 1)]), (0, [(4, 1)]), (0, [(2, 1)]), (0, [(1, 1)]), (1, [(5, 1)]), (0, [(6, 1)])])], 8)])
theorem zu_cC0_l {P : zq_Ty} {h : zq_H} {bt n g sa ea i t b : Int} (a1 : 0 ≤ b - 32) (a2 : 0 ≤ -b + 32) (a3 : 0 ≤ n - i - 1) (s1 : 0 ≤ bt ∧ P (bt).toNat ≠ none ∧ h (bt).toNat i = b) (k1 : zu_TCc bt n g P h) (k2 : zu_SGC sa ea g n i t P h) : (zu_SGC sa ea g n (i + 1) t P h) := by
  have a0 := k2.2.2.2.1.2.1
  have d := zu_dgc k1 a0 (by omega) s1.2.2 (by omega) (by omega)
  have kd : zu_kd (zu_dg g n i) = 0 := by rw [d]; exact zu_kd0 (by omega)
  obtain ⟨z1, z2, z3, z4, z5⟩ := k2
  exact ⟨z1, z2, z3, zu_at_blank z4 (by omega) kd, z5⟩
theorem zu_cC0_ok {w : zq_Wd} (x_TCc : zj_is w 21 (fun q => zu_TCc (q 0) (q 1) (q 2))) (x_SGC : zj_is w 100 (fun q => zu_SGC (q 0) (q 1) (q 2) (q 3) (q 4) (q 5))) : zq_okG1 w zu_cC0 := by
  refine ⟨rfl, rfl, zu_fac ⟨rfl, by decide⟩ zq_fan, ?_⟩
  intro r P h H hM
  have q0 : zq_ev r (-32, [(7, 1)]) = r 7 - 32 := zu_e3 _ _ _
  have q1 : zq_ev r (32, [(7, -1)]) = -r 7 + 32 := zu_e5 _ _ _
  have q2 : zq_ev r (-1, [(1, 1), (5, -1)]) = r 1 - r 5 - 1 := by simp only [zq_ev, zq_ts] <;> omega
  have q3 : zq_ev r (0, [(0, 1)]) = r 0 := zu_e1 _ _
  have q4 : zq_ev r (0, [(5, 1)]) = r 5 := zu_e1 _ _
  have q5 : zq_ev r (0, [(7, 1)]) = r 7 := zu_e1 _ _
  have q6 : zq_ev r (0, [(1, 1)]) = r 1 := zu_e1 _ _
  have q7 : zq_ev r (0, [(2, 1)]) = r 2 := zu_e1 _ _
  have q8 : zq_ev r (0, [(3, 1)]) = r 3 := zu_e1 _ _
  have q9 : zq_ev r (0, [(4, 1)]) = r 4 := zu_e1 _ _
  have q10 : zq_ev r (0, [(6, 1)]) = r 6 := zu_e1 _ _
  obtain ⟨hT, hC, hF, hS, -, hK⟩ := hM
  have c := hC.1
  have a1 := zq_all_1 c
  rw [q0] at a1
  have c := zq_all_t c
  have a2 := zq_all_1 c
  rw [q1] at a2
  have c := zq_all_t c
  have a3 := zq_all_1 c
  rw [q2] at a3
  have s1 := zq_okS_1 (hS)
  simp only [q3, q4, q5] at s1
  have k1 : zu_TCc (zq_ev r (0, [(0, 1)])) (zq_ev r (0, [(1, 1)])) (zq_ev r (0, [(2, 1)])) P h := zj_use x_TCc (hK)
  simp only [q3, q6, q7] at k1
  have k2 : zu_SGC (zq_ev r (0, [(3, 1)])) (zq_ev r (0, [(4, 1)])) (zq_ev r (0, [(2, 1)])) (zq_ev r (0, [(1, 1)])) (zq_ev r (0, [(5, 1)])) (zq_ev r (0, [(6, 1)])) P h := zj_use x_SGC (zq_okX_t (hK))
  simp only [q10, q4, q6, q7, q8, q9] at k2
  obtain t1 := zu_cC0_l (P := P) (h := h) (bt := r 0) (n := r 1) (g := r 2) (sa := r 3) (ea := r 4) (i := r 5) (t := r 6) (b := r 7) a1 a2 a3 s1 k1 k2
  obtain ⟨rq, hr⟩ : ∃ rq : Nat → Int, (∀ i, i < 8 → rq i = r i) := ⟨r, fun i hi => rfl⟩
  have v1 : rq 1 = r 1 := hr 1 (by decide)
  have v2 : rq 2 = r 2 := hr 2 (by decide)
  have v3 : rq 3 = r 3 := hr 3 (by decide)
  have v4 : rq 4 = r 4 := hr 4 (by decide)
  have v5 : rq 5 = r 5 := hr 5 (by decide)
  have v6 : rq 6 = r 6 := hr 6 (by decide)
  have g0 : zq_ev rq (0, [(3, 1)]) = r 3 := zu_f1 v3
  have g1 : zq_ev rq (0, [(4, 1)]) = r 4 := zu_f1 v4
  have g2 : zq_ev rq (0, [(2, 1)]) = r 2 := zu_f1 v2
  have g3 : zq_ev rq (0, [(1, 1)]) = r 1 := zu_f1 v1
  have g4 : zq_ev rq (1, [(5, 1)]) = r 5 + 1 := zu_f2 v5 _
  have g5 : zq_ev rq (0, [(6, 1)]) = r 6 := zu_f1 v6
  exact ⟨_, List.mem_cons_self .., rq, hr, zq_MeS_mk rfl hT (zq_all_nil) zq_fan (zq_fan) rfl (zu_fac ((x_SGC _ _ _).mpr (by show zu_SGC (zq_ev rq (0, [(3, 1)])) (zq_ev rq (0, [(4, 1)])) (zq_ev rq (0, [(2, 1)])) (zq_ev rq (0, [(1, 1)])) (zq_ev rq (1, [(5, 1)])) (zq_ev rq (0, [(6, 1)])) P h; simp only [g0, g1, g2, g3, g4, g5]; exact t1)) zq_fan)⟩
noncomputable def zu_cC1 : zq_S × List zq_S := (([], [], [(-97, [(7, 1)]), (122, [(7, -1)]), (-1, [(1, 1), (5, -1)])], [], [((0, [(0, 1)]), (0, [(5, 1)]), (0, [(7, 1)])), ((0, [(3, 1)]), (0, [(6, 1)]), (0, [(5, 1)])), ((0, [(4, 1)]), (0, [(6, 1)]), (1, [(5, 1)]))], [], [(21, [(0, [(0, 1)]), (0, [(1, 1)]), (0, [(2, 1)])]), (100, [(0, [(3, 1)]), (0, [(4, 1)]), (0, [(2, 1)]), (0, [(1, 1)]), (0, [(5, 1)]), (0, [(6, 1)])])], 8), [([], [], [], [], [], [], [(101, [(0, [(3, 1)]), (0, [(4, 1)]), (0, [(2, 1)]), (0, [(1, 1)]), (1, [(5, 1)]), (1, [(6, 1)]), (1, [])])], 8)])
theorem zu_cC1_l {P : zq_Ty} {h : zq_H} {bt n g sa ea i t b : Int} (a1 : 0 ≤ b - 97) (a2 : 0 ≤ -b + 122) (a3 : 0 ≤ n - i - 1) (s1 : 0 ≤ bt ∧ P (bt).toNat ≠ none ∧ h (bt).toNat i = b) (s2 : 0 ≤ sa ∧ P (sa).toNat ≠ none ∧ h (sa).toNat t = i) (s3 : 0 ≤ ea ∧ P (ea).toNat ≠ none ∧ h (ea).toNat t = i + 1) (k1 : zu_TCc bt n g P h) (k2 : zu_SGC sa ea g n i t P h) : (zu_SGO sa ea g n (i + 1) (t + 1) 1 P h) := by
  have a0 := k2.2.2.2.1.2.1
  have d := zu_dgc k1 a0 (by omega) s1.2.2 (by omega) (by omega)
  have kd : zu_kd (zu_dg g n i) = 1 := by rw [d]; exact zu_kd1 (by omega) (by omega)
  obtain ⟨z1, z2, z3, z4, z5⟩ := k2
  have zt := z4.1
  have e : t + 1 - 1 = t := by omega
  refine ⟨⟨z1, z2, z3, by omega, by omega, ?_, ?_, ?_⟩, ?_⟩
  · rw [e, s2.2.2]; exact z4
  · rw [e, s2.2.2]
    refine ⟨a0, by omega, by omega, fun j x y => ?_⟩
    have ej : j = i := by omega
    rw [ej]; exact kd
  · rw [e]; exact z5
  · rw [e, s3.2.2]
theorem zu_cC1_ok {w : zq_Wd} (x_TCc : zj_is w 21 (fun q => zu_TCc (q 0) (q 1) (q 2))) (x_SGC : zj_is w 100 (fun q => zu_SGC (q 0) (q 1) (q 2) (q 3) (q 4) (q 5))) (x_SGO : zj_is w 101 (fun q => zu_SGO (q 0) (q 1) (q 2) (q 3) (q 4) (q 5) (q 6))) : zq_okG1 w zu_cC1 := by
  refine ⟨rfl, rfl, zu_fac ⟨rfl, by decide⟩ zq_fan, ?_⟩
  intro r P h H hM
  have q0 : zq_ev r (-97, [(7, 1)]) = r 7 - 97 := zu_e3 _ _ _
  have q1 : zq_ev r (122, [(7, -1)]) = -r 7 + 122 := zu_e5 _ _ _
  have q2 : zq_ev r (-1, [(1, 1), (5, -1)]) = r 1 - r 5 - 1 := by simp only [zq_ev, zq_ts] <;> omega
  have q3 : zq_ev r (0, [(0, 1)]) = r 0 := zu_e1 _ _
  have q4 : zq_ev r (0, [(5, 1)]) = r 5 := zu_e1 _ _
  have q5 : zq_ev r (0, [(7, 1)]) = r 7 := zu_e1 _ _
  have q6 : zq_ev r (0, [(3, 1)]) = r 3 := zu_e1 _ _
  have q7 : zq_ev r (0, [(6, 1)]) = r 6 := zu_e1 _ _
  have q8 : zq_ev r (0, [(4, 1)]) = r 4 := zu_e1 _ _
  have q9 : zq_ev r (1, [(5, 1)]) = r 5 + 1 := zu_e2 _ _ _
  have q10 : zq_ev r (0, [(1, 1)]) = r 1 := zu_e1 _ _
  have q11 : zq_ev r (0, [(2, 1)]) = r 2 := zu_e1 _ _
  obtain ⟨hT, hC, hF, hS, -, hK⟩ := hM
  have c := hC.1
  have a1 := zq_all_1 c
  rw [q0] at a1
  have c := zq_all_t c
  have a2 := zq_all_1 c
  rw [q1] at a2
  have c := zq_all_t c
  have a3 := zq_all_1 c
  rw [q2] at a3
  have s1 := zq_okS_1 (hS)
  simp only [q3, q4, q5] at s1
  have s2 := zq_okS_1 (zq_okS_t (hS))
  simp only [q4, q6, q7] at s2
  have s3 := zq_okS_1 (zq_okS_t (zq_okS_t (hS)))
  simp only [q7, q8, q9] at s3
  have k1 : zu_TCc (zq_ev r (0, [(0, 1)])) (zq_ev r (0, [(1, 1)])) (zq_ev r (0, [(2, 1)])) P h := zj_use x_TCc (hK)
  simp only [q10, q11, q3] at k1
  have k2 : zu_SGC (zq_ev r (0, [(3, 1)])) (zq_ev r (0, [(4, 1)])) (zq_ev r (0, [(2, 1)])) (zq_ev r (0, [(1, 1)])) (zq_ev r (0, [(5, 1)])) (zq_ev r (0, [(6, 1)])) P h := zj_use x_SGC (zq_okX_t (hK))
  simp only [q10, q11, q4, q6, q7, q8] at k2
  obtain t1 := zu_cC1_l (P := P) (h := h) (bt := r 0) (n := r 1) (g := r 2) (sa := r 3) (ea := r 4) (i := r 5) (t := r 6) (b := r 7) a1 a2 a3 s1 s2 s3 k1 k2
  obtain ⟨rq, hr⟩ : ∃ rq : Nat → Int, (∀ i, i < 8 → rq i = r i) := ⟨r, fun i hi => rfl⟩
  have v1 : rq 1 = r 1 := hr 1 (by decide)
  have v2 : rq 2 = r 2 := hr 2 (by decide)
  have v3 : rq 3 = r 3 := hr 3 (by decide)
  have v4 : rq 4 = r 4 := hr 4 (by decide)
  have v5 : rq 5 = r 5 := hr 5 (by decide)
  have v6 : rq 6 = r 6 := hr 6 (by decide)
  have g0 : zq_ev rq (0, [(3, 1)]) = r 3 := zu_f1 v3
  have g1 : zq_ev rq (0, [(4, 1)]) = r 4 := zu_f1 v4
  have g2 : zq_ev rq (0, [(2, 1)]) = r 2 := zu_f1 v2
  have g3 : zq_ev rq (0, [(1, 1)]) = r 1 := zu_f1 v1
  have g4 : zq_ev rq (1, [(5, 1)]) = r 5 + 1 := zu_f2 v5 _
  have g5 : zq_ev rq (1, [(6, 1)]) = r 6 + 1 := zu_f2 v6 _
  have g6 : zq_ev rq (1, []) = 1 := zu_e0 _ _
  exact ⟨_, List.mem_cons_self .., rq, hr, zq_MeS_mk rfl hT (zq_all_nil) zq_fan (zq_fan) rfl (zu_fac ((x_SGO _ _ _).mpr (by show zu_SGO (zq_ev rq (0, [(3, 1)])) (zq_ev rq (0, [(4, 1)])) (zq_ev rq (0, [(2, 1)])) (zq_ev rq (0, [(1, 1)])) (zq_ev rq (1, [(5, 1)])) (zq_ev rq (1, [(6, 1)])) (zq_ev rq (1, [])) P h; simp only [g0, g1, g2, g3, g4, g5, g6]; exact t1)) zq_fan)⟩
noncomputable def zu_cO1 : zq_S × List zq_S := (([], [], [(-97, [(7, 1)]), (122, [(7, -1)]), (-1, [(1, 1), (5, -1)])], [], [((0, [(0, 1)]), (0, [(5, 1)]), (0, [(7, 1)]))], [], [(21, [(0, [(0, 1)]), (0, [(1, 1)]), (0, [(2, 1)])]), (101, [(0, [(3, 1)]), (0, [(4, 1)]), (0, [(2, 1)]), (0, [(1, 1)]), (0, [(5, 1)]), (0, [(6, 1)]), (1, [])])], 8), [([], [], [], [], [], [], [(102, [(0, [(3, 1)]), (0, [(4, 1)]), (0, [(2, 1)]), (0, [(1, 1)]), (1, [(5, 1)]), (0, [(6, 1)]), (1, [])])], 8)])
theorem zu_cO1_l {P : zq_Ty} {h : zq_H} {bt n g sa ea i t b : Int} (a1 : 0 ≤ b - 97) (a2 : 0 ≤ -b + 122) (a3 : 0 ≤ n - i - 1) (s1 : 0 ≤ bt ∧ P (bt).toNat ≠ none ∧ h (bt).toNat i = b) (k1 : zu_TCc bt n g P h) (k2 : zu_SGO sa ea g n i t 1 P h) : (zu_SGN sa ea g n (i + 1) t 1 P h) := by
  obtain ⟨⟨z1, z2, z3, z4, z5, z6, z7, z8⟩, z9⟩ := k2
  obtain ⟨y1, y2, y3, y4⟩ := z7
  have d := zu_dgc k1 (j := i) (by omega) (by omega) s1.2.2 (by omega) (by omega)
  have kd : zu_kd (zu_dg g n i) = 1 := by rw [d]; exact zu_kd1 (by omega) (by omega)
  refine ⟨z1, z2, z3, z4, z5, z6, ⟨y1, by omega, by omega, fun j x y => ?_⟩, z8⟩
  by_cases hj : j < i
  · exact y4 j x hj
  · have e : j = i := by omega
    rw [e]; exact kd
theorem zu_cO1_ok {w : zq_Wd} (x_TCc : zj_is w 21 (fun q => zu_TCc (q 0) (q 1) (q 2))) (x_SGO : zj_is w 101 (fun q => zu_SGO (q 0) (q 1) (q 2) (q 3) (q 4) (q 5) (q 6))) (x_SGN : zj_is w 102 (fun q => zu_SGN (q 0) (q 1) (q 2) (q 3) (q 4) (q 5) (q 6))) : zq_okG1 w zu_cO1 := by
  refine ⟨rfl, rfl, zu_fac ⟨rfl, by decide⟩ zq_fan, ?_⟩
  intro r P h H hM
  have q0 : zq_ev r (-97, [(7, 1)]) = r 7 - 97 := zu_e3 _ _ _
  have q1 : zq_ev r (122, [(7, -1)]) = -r 7 + 122 := zu_e5 _ _ _
  have q2 : zq_ev r (-1, [(1, 1), (5, -1)]) = r 1 - r 5 - 1 := by simp only [zq_ev, zq_ts] <;> omega
  have q3 : zq_ev r (0, [(0, 1)]) = r 0 := zu_e1 _ _
  have q4 : zq_ev r (0, [(5, 1)]) = r 5 := zu_e1 _ _
  have q5 : zq_ev r (0, [(7, 1)]) = r 7 := zu_e1 _ _
  have q6 : zq_ev r (0, [(1, 1)]) = r 1 := zu_e1 _ _
  have q7 : zq_ev r (0, [(2, 1)]) = r 2 := zu_e1 _ _
  have q8 : zq_ev r (0, [(3, 1)]) = r 3 := zu_e1 _ _
  have q9 : zq_ev r (0, [(4, 1)]) = r 4 := zu_e1 _ _
  have q10 : zq_ev r (0, [(6, 1)]) = r 6 := zu_e1 _ _
  have q11 : zq_ev r (1, []) = 1 := zu_e0 _ _
  obtain ⟨hT, hC, hF, hS, -, hK⟩ := hM
  have c := hC.1
  have a1 := zq_all_1 c
  rw [q0] at a1
  have c := zq_all_t c
  have a2 := zq_all_1 c
  rw [q1] at a2
  have c := zq_all_t c
  have a3 := zq_all_1 c
  rw [q2] at a3
  have s1 := zq_okS_1 (hS)
  simp only [q3, q4, q5] at s1
  have k1 : zu_TCc (zq_ev r (0, [(0, 1)])) (zq_ev r (0, [(1, 1)])) (zq_ev r (0, [(2, 1)])) P h := zj_use x_TCc (hK)
  simp only [q3, q6, q7] at k1
  have k2 : zu_SGO (zq_ev r (0, [(3, 1)])) (zq_ev r (0, [(4, 1)])) (zq_ev r (0, [(2, 1)])) (zq_ev r (0, [(1, 1)])) (zq_ev r (0, [(5, 1)])) (zq_ev r (0, [(6, 1)])) (zq_ev r (1, [])) P h := zj_use x_SGO (zq_okX_t (hK))
  simp only [q10, q11, q4, q6, q7, q8, q9] at k2
  obtain t1 := zu_cO1_l (P := P) (h := h) (bt := r 0) (n := r 1) (g := r 2) (sa := r 3) (ea := r 4) (i := r 5) (t := r 6) (b := r 7) a1 a2 a3 s1 k1 k2
  obtain ⟨rq, hr⟩ : ∃ rq : Nat → Int, (∀ i, i < 8 → rq i = r i) := ⟨r, fun i hi => rfl⟩
  have v1 : rq 1 = r 1 := hr 1 (by decide)
  have v2 : rq 2 = r 2 := hr 2 (by decide)
  have v3 : rq 3 = r 3 := hr 3 (by decide)
  have v4 : rq 4 = r 4 := hr 4 (by decide)
  have v5 : rq 5 = r 5 := hr 5 (by decide)
  have v6 : rq 6 = r 6 := hr 6 (by decide)
  have g0 : zq_ev rq (0, [(3, 1)]) = r 3 := zu_f1 v3
  have g1 : zq_ev rq (0, [(4, 1)]) = r 4 := zu_f1 v4
  have g2 : zq_ev rq (0, [(2, 1)]) = r 2 := zu_f1 v2
  have g3 : zq_ev rq (0, [(1, 1)]) = r 1 := zu_f1 v1
  have g4 : zq_ev rq (1, [(5, 1)]) = r 5 + 1 := zu_f2 v5 _
  have g5 : zq_ev rq (0, [(6, 1)]) = r 6 := zu_f1 v6
  have g6 : zq_ev rq (1, []) = 1 := zu_e0 _ _
  exact ⟨_, List.mem_cons_self .., rq, hr, zq_MeS_mk rfl hT (zq_all_nil) zq_fan (zq_fan) rfl (zu_fac ((x_SGN _ _ _).mpr (by show zu_SGN (zq_ev rq (0, [(3, 1)])) (zq_ev rq (0, [(4, 1)])) (zq_ev rq (0, [(2, 1)])) (zq_ev rq (0, [(1, 1)])) (zq_ev rq (1, [(5, 1)])) (zq_ev rq (0, [(6, 1)])) (zq_ev rq (1, [])) P h; simp only [g0, g1, g2, g3, g4, g5, g6]; exact t1)) zq_fan)⟩
noncomputable def zu_cC2 : zq_S × List zq_S := (([], [], [(-48, [(7, 1)]), (57, [(7, -1)]), (-1, [(1, 1), (5, -1)])], [], [((0, [(0, 1)]), (0, [(5, 1)]), (0, [(7, 1)])), ((0, [(3, 1)]), (0, [(6, 1)]), (0, [(5, 1)])), ((0, [(4, 1)]), (0, [(6, 1)]), (1, [(5, 1)]))], [], [(21, [(0, [(0, 1)]), (0, [(1, 1)]), (0, [(2, 1)])]), (100, [(0, [(3, 1)]), (0, [(4, 1)]), (0, [(2, 1)]), (0, [(1, 1)]), (0, [(5, 1)]), (0, [(6, 1)])])], 8), [([], [], [], [], [], [], [(101, [(0, [(3, 1)]), (0, [(4, 1)]), (0, [(2, 1)]), (0, [(1, 1)]), (1, [(5, 1)]), (1, [(6, 1)]), (2, [])])], 8)])
theorem zu_cC2_l {P : zq_Ty} {h : zq_H} {bt n g sa ea i t b : Int} (a1 : 0 ≤ b - 48) (a2 : 0 ≤ -b + 57) (a3 : 0 ≤ n - i - 1) (s1 : 0 ≤ bt ∧ P (bt).toNat ≠ none ∧ h (bt).toNat i = b) (s2 : 0 ≤ sa ∧ P (sa).toNat ≠ none ∧ h (sa).toNat t = i) (s3 : 0 ≤ ea ∧ P (ea).toNat ≠ none ∧ h (ea).toNat t = i + 1) (k1 : zu_TCc bt n g P h) (k2 : zu_SGC sa ea g n i t P h) : (zu_SGO sa ea g n (i + 1) (t + 1) 2 P h) := by
  have a0 := k2.2.2.2.1.2.1
  have d := zu_dgc k1 a0 (by omega) s1.2.2 (by omega) (by omega)
  have kd : zu_kd (zu_dg g n i) = 2 := by rw [d]; exact zu_kd2 (by omega) (by omega)
  obtain ⟨z1, z2, z3, z4, z5⟩ := k2
  have zt := z4.1
  have e : t + 1 - 1 = t := by omega
  refine ⟨⟨z1, z2, z3, by omega, by omega, ?_, ?_, ?_⟩, ?_⟩
  · rw [e, s2.2.2]; exact z4
  · rw [e, s2.2.2]
    refine ⟨a0, by omega, by omega, fun j x y => ?_⟩
    have ej : j = i := by omega
    rw [ej]; exact kd
  · rw [e]; exact z5
  · rw [e, s3.2.2]
theorem zu_cC2_ok {w : zq_Wd} (x_TCc : zj_is w 21 (fun q => zu_TCc (q 0) (q 1) (q 2))) (x_SGC : zj_is w 100 (fun q => zu_SGC (q 0) (q 1) (q 2) (q 3) (q 4) (q 5))) (x_SGO : zj_is w 101 (fun q => zu_SGO (q 0) (q 1) (q 2) (q 3) (q 4) (q 5) (q 6))) : zq_okG1 w zu_cC2 := by
  refine ⟨rfl, rfl, zu_fac ⟨rfl, by decide⟩ zq_fan, ?_⟩
  intro r P h H hM
  have q0 : zq_ev r (-48, [(7, 1)]) = r 7 - 48 := zu_e3 _ _ _
  have q1 : zq_ev r (57, [(7, -1)]) = -r 7 + 57 := zu_e5 _ _ _
  have q2 : zq_ev r (-1, [(1, 1), (5, -1)]) = r 1 - r 5 - 1 := by simp only [zq_ev, zq_ts] <;> omega
  have q3 : zq_ev r (0, [(0, 1)]) = r 0 := zu_e1 _ _
  have q4 : zq_ev r (0, [(5, 1)]) = r 5 := zu_e1 _ _
  have q5 : zq_ev r (0, [(7, 1)]) = r 7 := zu_e1 _ _
  have q6 : zq_ev r (0, [(3, 1)]) = r 3 := zu_e1 _ _
  have q7 : zq_ev r (0, [(6, 1)]) = r 6 := zu_e1 _ _
  have q8 : zq_ev r (0, [(4, 1)]) = r 4 := zu_e1 _ _
  have q9 : zq_ev r (1, [(5, 1)]) = r 5 + 1 := zu_e2 _ _ _
  have q10 : zq_ev r (0, [(1, 1)]) = r 1 := zu_e1 _ _
  have q11 : zq_ev r (0, [(2, 1)]) = r 2 := zu_e1 _ _
  obtain ⟨hT, hC, hF, hS, -, hK⟩ := hM
  have c := hC.1
  have a1 := zq_all_1 c
  rw [q0] at a1
  have c := zq_all_t c
  have a2 := zq_all_1 c
  rw [q1] at a2
  have c := zq_all_t c
  have a3 := zq_all_1 c
  rw [q2] at a3
  have s1 := zq_okS_1 (hS)
  simp only [q3, q4, q5] at s1
  have s2 := zq_okS_1 (zq_okS_t (hS))
  simp only [q4, q6, q7] at s2
  have s3 := zq_okS_1 (zq_okS_t (zq_okS_t (hS)))
  simp only [q7, q8, q9] at s3
  have k1 : zu_TCc (zq_ev r (0, [(0, 1)])) (zq_ev r (0, [(1, 1)])) (zq_ev r (0, [(2, 1)])) P h := zj_use x_TCc (hK)
  simp only [q10, q11, q3] at k1
  have k2 : zu_SGC (zq_ev r (0, [(3, 1)])) (zq_ev r (0, [(4, 1)])) (zq_ev r (0, [(2, 1)])) (zq_ev r (0, [(1, 1)])) (zq_ev r (0, [(5, 1)])) (zq_ev r (0, [(6, 1)])) P h := zj_use x_SGC (zq_okX_t (hK))
  simp only [q10, q11, q4, q6, q7, q8] at k2
  obtain t1 := zu_cC2_l (P := P) (h := h) (bt := r 0) (n := r 1) (g := r 2) (sa := r 3) (ea := r 4) (i := r 5) (t := r 6) (b := r 7) a1 a2 a3 s1 s2 s3 k1 k2
  obtain ⟨rq, hr⟩ : ∃ rq : Nat → Int, (∀ i, i < 8 → rq i = r i) := ⟨r, fun i hi => rfl⟩
  have v1 : rq 1 = r 1 := hr 1 (by decide)
  have v2 : rq 2 = r 2 := hr 2 (by decide)
  have v3 : rq 3 = r 3 := hr 3 (by decide)
  have v4 : rq 4 = r 4 := hr 4 (by decide)
  have v5 : rq 5 = r 5 := hr 5 (by decide)
  have v6 : rq 6 = r 6 := hr 6 (by decide)
  have g0 : zq_ev rq (0, [(3, 1)]) = r 3 := zu_f1 v3
  have g1 : zq_ev rq (0, [(4, 1)]) = r 4 := zu_f1 v4
  have g2 : zq_ev rq (0, [(2, 1)]) = r 2 := zu_f1 v2
  have g3 : zq_ev rq (0, [(1, 1)]) = r 1 := zu_f1 v1
  have g4 : zq_ev rq (1, [(5, 1)]) = r 5 + 1 := zu_f2 v5 _
  have g5 : zq_ev rq (1, [(6, 1)]) = r 6 + 1 := zu_f2 v6 _
  have g6 : zq_ev rq (2, []) = 2 := zu_e0 _ _
  exact ⟨_, List.mem_cons_self .., rq, hr, zq_MeS_mk rfl hT (zq_all_nil) zq_fan (zq_fan) rfl (zu_fac ((x_SGO _ _ _).mpr (by show zu_SGO (zq_ev rq (0, [(3, 1)])) (zq_ev rq (0, [(4, 1)])) (zq_ev rq (0, [(2, 1)])) (zq_ev rq (0, [(1, 1)])) (zq_ev rq (1, [(5, 1)])) (zq_ev rq (1, [(6, 1)])) (zq_ev rq (2, [])) P h; simp only [g0, g1, g2, g3, g4, g5, g6]; exact t1)) zq_fan)⟩
noncomputable def zu_cO2 : zq_S × List zq_S := (([], [], [(-48, [(7, 1)]), (57, [(7, -1)]), (-1, [(1, 1), (5, -1)])], [], [((0, [(0, 1)]), (0, [(5, 1)]), (0, [(7, 1)]))], [], [(21, [(0, [(0, 1)]), (0, [(1, 1)]), (0, [(2, 1)])]), (101, [(0, [(3, 1)]), (0, [(4, 1)]), (0, [(2, 1)]), (0, [(1, 1)]), (0, [(5, 1)]), (0, [(6, 1)]), (2, [])])], 8), [([], [], [], [], [], [], [(102, [(0, [(3, 1)]), (0, [(4, 1)]), (0, [(2, 1)]), (0, [(1, 1)]), (1, [(5, 1)]), (0, [(6, 1)]), (2, [])])], 8)])
theorem zu_cO2_l {P : zq_Ty} {h : zq_H} {bt n g sa ea i t b : Int} (a1 : 0 ≤ b - 48) (a2 : 0 ≤ -b + 57) (a3 : 0 ≤ n - i - 1) (s1 : 0 ≤ bt ∧ P (bt).toNat ≠ none ∧ h (bt).toNat i = b) (k1 : zu_TCc bt n g P h) (k2 : zu_SGO sa ea g n i t 2 P h) : (zu_SGN sa ea g n (i + 1) t 2 P h) := by
  obtain ⟨⟨z1, z2, z3, z4, z5, z6, z7, z8⟩, z9⟩ := k2
  obtain ⟨y1, y2, y3, y4⟩ := z7
  have d := zu_dgc k1 (j := i) (by omega) (by omega) s1.2.2 (by omega) (by omega)
  have kd : zu_kd (zu_dg g n i) = 2 := by rw [d]; exact zu_kd2 (by omega) (by omega)
  refine ⟨z1, z2, z3, z4, z5, z6, ⟨y1, by omega, by omega, fun j x y => ?_⟩, z8⟩
  by_cases hj : j < i
  · exact y4 j x hj
  · have e : j = i := by omega
    rw [e]; exact kd
theorem zu_cO2_ok {w : zq_Wd} (x_TCc : zj_is w 21 (fun q => zu_TCc (q 0) (q 1) (q 2))) (x_SGO : zj_is w 101 (fun q => zu_SGO (q 0) (q 1) (q 2) (q 3) (q 4) (q 5) (q 6))) (x_SGN : zj_is w 102 (fun q => zu_SGN (q 0) (q 1) (q 2) (q 3) (q 4) (q 5) (q 6))) : zq_okG1 w zu_cO2 := by
  refine ⟨rfl, rfl, zu_fac ⟨rfl, by decide⟩ zq_fan, ?_⟩
  intro r P h H hM
  have q0 : zq_ev r (-48, [(7, 1)]) = r 7 - 48 := zu_e3 _ _ _
  have q1 : zq_ev r (57, [(7, -1)]) = -r 7 + 57 := zu_e5 _ _ _
  have q2 : zq_ev r (-1, [(1, 1), (5, -1)]) = r 1 - r 5 - 1 := by simp only [zq_ev, zq_ts] <;> omega
  have q3 : zq_ev r (0, [(0, 1)]) = r 0 := zu_e1 _ _
  have q4 : zq_ev r (0, [(5, 1)]) = r 5 := zu_e1 _ _
  have q5 : zq_ev r (0, [(7, 1)]) = r 7 := zu_e1 _ _
  have q6 : zq_ev r (0, [(1, 1)]) = r 1 := zu_e1 _ _
  have q7 : zq_ev r (0, [(2, 1)]) = r 2 := zu_e1 _ _
  have q8 : zq_ev r (0, [(3, 1)]) = r 3 := zu_e1 _ _
  have q9 : zq_ev r (0, [(4, 1)]) = r 4 := zu_e1 _ _
  have q10 : zq_ev r (0, [(6, 1)]) = r 6 := zu_e1 _ _
  have q11 : zq_ev r (2, []) = 2 := zu_e0 _ _
  obtain ⟨hT, hC, hF, hS, -, hK⟩ := hM
  have c := hC.1
  have a1 := zq_all_1 c
  rw [q0] at a1
  have c := zq_all_t c
  have a2 := zq_all_1 c
  rw [q1] at a2
  have c := zq_all_t c
  have a3 := zq_all_1 c
  rw [q2] at a3
  have s1 := zq_okS_1 (hS)
  simp only [q3, q4, q5] at s1
  have k1 : zu_TCc (zq_ev r (0, [(0, 1)])) (zq_ev r (0, [(1, 1)])) (zq_ev r (0, [(2, 1)])) P h := zj_use x_TCc (hK)
  simp only [q3, q6, q7] at k1
  have k2 : zu_SGO (zq_ev r (0, [(3, 1)])) (zq_ev r (0, [(4, 1)])) (zq_ev r (0, [(2, 1)])) (zq_ev r (0, [(1, 1)])) (zq_ev r (0, [(5, 1)])) (zq_ev r (0, [(6, 1)])) (zq_ev r (2, [])) P h := zj_use x_SGO (zq_okX_t (hK))
  simp only [q10, q11, q4, q6, q7, q8, q9] at k2
  obtain t1 := zu_cO2_l (P := P) (h := h) (bt := r 0) (n := r 1) (g := r 2) (sa := r 3) (ea := r 4) (i := r 5) (t := r 6) (b := r 7) a1 a2 a3 s1 k1 k2
  obtain ⟨rq, hr⟩ : ∃ rq : Nat → Int, (∀ i, i < 8 → rq i = r i) := ⟨r, fun i hi => rfl⟩
  have v1 : rq 1 = r 1 := hr 1 (by decide)
  have v2 : rq 2 = r 2 := hr 2 (by decide)
  have v3 : rq 3 = r 3 := hr 3 (by decide)
  have v4 : rq 4 = r 4 := hr 4 (by decide)
  have v5 : rq 5 = r 5 := hr 5 (by decide)
  have v6 : rq 6 = r 6 := hr 6 (by decide)
  have g0 : zq_ev rq (0, [(3, 1)]) = r 3 := zu_f1 v3
  have g1 : zq_ev rq (0, [(4, 1)]) = r 4 := zu_f1 v4
  have g2 : zq_ev rq (0, [(2, 1)]) = r 2 := zu_f1 v2
  have g3 : zq_ev rq (0, [(1, 1)]) = r 1 := zu_f1 v1
  have g4 : zq_ev rq (1, [(5, 1)]) = r 5 + 1 := zu_f2 v5 _
  have g5 : zq_ev rq (0, [(6, 1)]) = r 6 := zu_f1 v6
  have g6 : zq_ev rq (2, []) = 2 := zu_e0 _ _
  exact ⟨_, List.mem_cons_self .., rq, hr, zq_MeS_mk rfl hT (zq_all_nil) zq_fan (zq_fan) rfl (zu_fac ((x_SGN _ _ _).mpr (by show zu_SGN (zq_ev rq (0, [(3, 1)])) (zq_ev rq (0, [(4, 1)])) (zq_ev rq (0, [(2, 1)])) (zq_ev rq (0, [(1, 1)])) (zq_ev rq (1, [(5, 1)])) (zq_ev rq (0, [(6, 1)])) (zq_ev rq (2, [])) P h; simp only [g0, g1, g2, g3, g4, g5, g6]; exact t1)) zq_fan)⟩
noncomputable def zu_cC3a : zq_S × List zq_S := (([], [], [(0, [(7, 1)]), (31, [(7, -1)]), (-1, [(1, 1), (5, -1)])], [], [((0, [(0, 1)]), (0, [(5, 1)]), (0, [(7, 1)])), ((0, [(3, 1)]), (0, [(6, 1)]), (0, [(5, 1)])), ((0, [(4, 1)]), (0, [(6, 1)]), (1, [(5, 1)]))], [], [(21, [(0, [(0, 1)]), (0, [(1, 1)]), (0, [(2, 1)])]), (100, [(0, [(3, 1)]), (0, [(4, 1)]), (0, [(2, 1)]), (0, [(1, 1)]), (0, [(5, 1)]), (0, [(6, 1)])])], 8), [([], [], [], [], [], [], [(100, [(0, [(3, 1)]), (0, [(4, 1)]), (0, [(2, 1)]), (0, [(1, 1)]), (1, [(5, 1)]), (1, [(6, 1)])])], 8)])
theorem zu_cC3a_l {P : zq_Ty} {h : zq_H} {bt n g sa ea i t b : Int} (a1 : 0 ≤ b) (a2 : 0 ≤ -b + 31) (a3 : 0 ≤ n - i - 1) (s1 : 0 ≤ bt ∧ P (bt).toNat ≠ none ∧ h (bt).toNat i = b) (s2 : 0 ≤ sa ∧ P (sa).toNat ≠ none ∧ h (sa).toNat t = i) (s3 : 0 ≤ ea ∧ P (ea).toNat ≠ none ∧ h (ea).toNat t = i + 1) (k1 : zu_TCc bt n g P h) (k2 : zu_SGC sa ea g n i t P h) : (zu_SGC sa ea g n (i + 1) (t + 1) P h) := by
  have a0 := k2.2.2.2.1.2.1
  have d := zu_dgc k1 a0 (by omega) s1.2.2 (by omega) (by omega)
  have kd : zu_kd (zu_dg g n i) = 3 := by rw [d]; exact zu_kd3 (by omega) (by omega) (by omega)
  obtain ⟨z1, z2, z3, z4, z5⟩ := k2
  obtain ⟨y1, y2⟩ := zu_at_tok z4 (by omega) (by rw [kd]; decide) (zu_nx3 kd) (by omega) (by omega)
  refine ⟨z1, z2, z3, y2, fun j x y => ?_⟩
  by_cases hj : j < t
  · exact z5 j x hj
  · have e : j = t := by omega
    rw [e, s2.2.2, s3.2.2]
    exact y1
theorem zu_cC3a_ok {w : zq_Wd} (x_TCc : zj_is w 21 (fun q => zu_TCc (q 0) (q 1) (q 2))) (x_SGC : zj_is w 100 (fun q => zu_SGC (q 0) (q 1) (q 2) (q 3) (q 4) (q 5))) : zq_okG1 w zu_cC3a := by
  refine ⟨rfl, rfl, zu_fac ⟨rfl, by decide⟩ zq_fan, ?_⟩
  intro r P h H hM
  have q0 : zq_ev r (0, [(7, 1)]) = r 7 := zu_e1 _ _
  have q1 : zq_ev r (31, [(7, -1)]) = -r 7 + 31 := zu_e5 _ _ _
  have q2 : zq_ev r (-1, [(1, 1), (5, -1)]) = r 1 - r 5 - 1 := by simp only [zq_ev, zq_ts] <;> omega
  have q3 : zq_ev r (0, [(0, 1)]) = r 0 := zu_e1 _ _
  have q4 : zq_ev r (0, [(5, 1)]) = r 5 := zu_e1 _ _
  have q5 : zq_ev r (0, [(3, 1)]) = r 3 := zu_e1 _ _
  have q6 : zq_ev r (0, [(6, 1)]) = r 6 := zu_e1 _ _
  have q7 : zq_ev r (0, [(4, 1)]) = r 4 := zu_e1 _ _
  have q8 : zq_ev r (1, [(5, 1)]) = r 5 + 1 := zu_e2 _ _ _
  have q9 : zq_ev r (0, [(1, 1)]) = r 1 := zu_e1 _ _
  have q10 : zq_ev r (0, [(2, 1)]) = r 2 := zu_e1 _ _
  obtain ⟨hT, hC, hF, hS, -, hK⟩ := hM
  have c := hC.1
  have a1 := zq_all_1 c
  rw [q0] at a1
  have c := zq_all_t c
  have a2 := zq_all_1 c
  rw [q1] at a2
  have c := zq_all_t c
  have a3 := zq_all_1 c
  rw [q2] at a3
  have s1 := zq_okS_1 (hS)
  simp only [q0, q3, q4] at s1
  have s2 := zq_okS_1 (zq_okS_t (hS))
  simp only [q4, q5, q6] at s2
  have s3 := zq_okS_1 (zq_okS_t (zq_okS_t (hS)))
  simp only [q6, q7, q8] at s3
  have k1 : zu_TCc (zq_ev r (0, [(0, 1)])) (zq_ev r (0, [(1, 1)])) (zq_ev r (0, [(2, 1)])) P h := zj_use x_TCc (hK)
  simp only [q10, q3, q9] at k1
  have k2 : zu_SGC (zq_ev r (0, [(3, 1)])) (zq_ev r (0, [(4, 1)])) (zq_ev r (0, [(2, 1)])) (zq_ev r (0, [(1, 1)])) (zq_ev r (0, [(5, 1)])) (zq_ev r (0, [(6, 1)])) P h := zj_use x_SGC (zq_okX_t (hK))
  simp only [q10, q4, q5, q6, q7, q9] at k2
  obtain t1 := zu_cC3a_l (P := P) (h := h) (bt := r 0) (n := r 1) (g := r 2) (sa := r 3) (ea := r 4) (i := r 5) (t := r 6) (b := r 7) a1 a2 a3 s1 s2 s3 k1 k2
  obtain ⟨rq, hr⟩ : ∃ rq : Nat → Int, (∀ i, i < 8 → rq i = r i) := ⟨r, fun i hi => rfl⟩
  have v1 : rq 1 = r 1 := hr 1 (by decide)
  have v2 : rq 2 = r 2 := hr 2 (by decide)
  have v3 : rq 3 = r 3 := hr 3 (by decide)
  have v4 : rq 4 = r 4 := hr 4 (by decide)
  have v5 : rq 5 = r 5 := hr 5 (by decide)
  have v6 : rq 6 = r 6 := hr 6 (by decide)
  have g0 : zq_ev rq (0, [(3, 1)]) = r 3 := zu_f1 v3
  have g1 : zq_ev rq (0, [(4, 1)]) = r 4 := zu_f1 v4
  have g2 : zq_ev rq (0, [(2, 1)]) = r 2 := zu_f1 v2
  have g3 : zq_ev rq (0, [(1, 1)]) = r 1 := zu_f1 v1
  have g4 : zq_ev rq (1, [(5, 1)]) = r 5 + 1 := zu_f2 v5 _
  have g5 : zq_ev rq (1, [(6, 1)]) = r 6 + 1 := zu_f2 v6 _
  exact ⟨_, List.mem_cons_self .., rq, hr, zq_MeS_mk rfl hT (zq_all_nil) zq_fan (zq_fan) rfl (zu_fac ((x_SGC _ _ _).mpr (by show zu_SGC (zq_ev rq (0, [(3, 1)])) (zq_ev rq (0, [(4, 1)])) (zq_ev rq (0, [(2, 1)])) (zq_ev rq (0, [(1, 1)])) (zq_ev rq (1, [(5, 1)])) (zq_ev rq (1, [(6, 1)])) P h; simp only [g0, g1, g2, g3, g4, g5]; exact t1)) zq_fan)⟩
noncomputable def zu_cC3b : zq_S × List zq_S := (([], [], [(-33, [(7, 1)]), (47, [(7, -1)]), (-1, [(1, 1), (5, -1)])], [], [((0, [(0, 1)]), (0, [(5, 1)]), (0, [(7, 1)])), ((0, [(3, 1)]), (0, [(6, 1)]), (0, [(5, 1)])), ((0, [(4, 1)]), (0, [(6, 1)]), (1, [(5, 1)]))], [], [(21, [(0, [(0, 1)]), (0, [(1, 1)]), (0, [(2, 1)])]), (100, [(0, [(3, 1)]), (0, [(4, 1)]), (0, [(2, 1)]), (0, [(1, 1)]), (0, [(5, 1)]), (0, [(6, 1)])])], 8), [([], [], [], [], [], [], [(100, [(0, [(3, 1)]), (0, [(4, 1)]), (0, [(2, 1)]), (0, [(1, 1)]), (1, [(5, 1)]), (1, [(6, 1)])])], 8)])
theorem zu_cC3b_l {P : zq_Ty} {h : zq_H} {bt n g sa ea i t b : Int} (a1 : 0 ≤ b - 33) (a2 : 0 ≤ -b + 47) (a3 : 0 ≤ n - i - 1) (s1 : 0 ≤ bt ∧ P (bt).toNat ≠ none ∧ h (bt).toNat i = b) (s2 : 0 ≤ sa ∧ P (sa).toNat ≠ none ∧ h (sa).toNat t = i) (s3 : 0 ≤ ea ∧ P (ea).toNat ≠ none ∧ h (ea).toNat t = i + 1) (k1 : zu_TCc bt n g P h) (k2 : zu_SGC sa ea g n i t P h) : (zu_SGC sa ea g n (i + 1) (t + 1) P h) := by
  have a0 := k2.2.2.2.1.2.1
  have d := zu_dgc k1 a0 (by omega) s1.2.2 (by omega) (by omega)
  have kd : zu_kd (zu_dg g n i) = 3 := by rw [d]; exact zu_kd3 (by omega) (by omega) (by omega)
  obtain ⟨z1, z2, z3, z4, z5⟩ := k2
  obtain ⟨y1, y2⟩ := zu_at_tok z4 (by omega) (by rw [kd]; decide) (zu_nx3 kd) (by omega) (by omega)
  refine ⟨z1, z2, z3, y2, fun j x y => ?_⟩
  by_cases hj : j < t
  · exact z5 j x hj
  · have e : j = t := by omega
    rw [e, s2.2.2, s3.2.2]
    exact y1
theorem zu_cC3b_ok {w : zq_Wd} (x_TCc : zj_is w 21 (fun q => zu_TCc (q 0) (q 1) (q 2))) (x_SGC : zj_is w 100 (fun q => zu_SGC (q 0) (q 1) (q 2) (q 3) (q 4) (q 5))) : zq_okG1 w zu_cC3b := by
  refine ⟨rfl, rfl, zu_fac ⟨rfl, by decide⟩ zq_fan, ?_⟩
  intro r P h H hM
  have q0 : zq_ev r (-33, [(7, 1)]) = r 7 - 33 := zu_e3 _ _ _
  have q1 : zq_ev r (47, [(7, -1)]) = -r 7 + 47 := zu_e5 _ _ _
  have q2 : zq_ev r (-1, [(1, 1), (5, -1)]) = r 1 - r 5 - 1 := by simp only [zq_ev, zq_ts] <;> omega
  have q3 : zq_ev r (0, [(0, 1)]) = r 0 := zu_e1 _ _
  have q4 : zq_ev r (0, [(5, 1)]) = r 5 := zu_e1 _ _
  have q5 : zq_ev r (0, [(7, 1)]) = r 7 := zu_e1 _ _
  have q6 : zq_ev r (0, [(3, 1)]) = r 3 := zu_e1 _ _
  have q7 : zq_ev r (0, [(6, 1)]) = r 6 := zu_e1 _ _
  have q8 : zq_ev r (0, [(4, 1)]) = r 4 := zu_e1 _ _
  have q9 : zq_ev r (1, [(5, 1)]) = r 5 + 1 := zu_e2 _ _ _
  have q10 : zq_ev r (0, [(1, 1)]) = r 1 := zu_e1 _ _
  have q11 : zq_ev r (0, [(2, 1)]) = r 2 := zu_e1 _ _
  obtain ⟨hT, hC, hF, hS, -, hK⟩ := hM
  have c := hC.1
  have a1 := zq_all_1 c
  rw [q0] at a1
  have c := zq_all_t c
  have a2 := zq_all_1 c
  rw [q1] at a2
  have c := zq_all_t c
  have a3 := zq_all_1 c
  rw [q2] at a3
  have s1 := zq_okS_1 (hS)
  simp only [q3, q4, q5] at s1
  have s2 := zq_okS_1 (zq_okS_t (hS))
  simp only [q4, q6, q7] at s2
  have s3 := zq_okS_1 (zq_okS_t (zq_okS_t (hS)))
  simp only [q7, q8, q9] at s3
  have k1 : zu_TCc (zq_ev r (0, [(0, 1)])) (zq_ev r (0, [(1, 1)])) (zq_ev r (0, [(2, 1)])) P h := zj_use x_TCc (hK)
  simp only [q10, q11, q3] at k1
  have k2 : zu_SGC (zq_ev r (0, [(3, 1)])) (zq_ev r (0, [(4, 1)])) (zq_ev r (0, [(2, 1)])) (zq_ev r (0, [(1, 1)])) (zq_ev r (0, [(5, 1)])) (zq_ev r (0, [(6, 1)])) P h := zj_use x_SGC (zq_okX_t (hK))
  simp only [q10, q11, q4, q6, q7, q8] at k2
  obtain t1 := zu_cC3b_l (P := P) (h := h) (bt := r 0) (n := r 1) (g := r 2) (sa := r 3) (ea := r 4) (i := r 5) (t := r 6) (b := r 7) a1 a2 a3 s1 s2 s3 k1 k2
  obtain ⟨rq, hr⟩ : ∃ rq : Nat → Int, (∀ i, i < 8 → rq i = r i) := ⟨r, fun i hi => rfl⟩
  have v1 : rq 1 = r 1 := hr 1 (by decide)
  have v2 : rq 2 = r 2 := hr 2 (by decide)
  have v3 : rq 3 = r 3 := hr 3 (by decide)
  have v4 : rq 4 = r 4 := hr 4 (by decide)
  have v5 : rq 5 = r 5 := hr 5 (by decide)
  have v6 : rq 6 = r 6 := hr 6 (by decide)
  have g0 : zq_ev rq (0, [(3, 1)]) = r 3 := zu_f1 v3
  have g1 : zq_ev rq (0, [(4, 1)]) = r 4 := zu_f1 v4
  have g2 : zq_ev rq (0, [(2, 1)]) = r 2 := zu_f1 v2
  have g3 : zq_ev rq (0, [(1, 1)]) = r 1 := zu_f1 v1
  have g4 : zq_ev rq (1, [(5, 1)]) = r 5 + 1 := zu_f2 v5 _
  have g5 : zq_ev rq (1, [(6, 1)]) = r 6 + 1 := zu_f2 v6 _
  exact ⟨_, List.mem_cons_self .., rq, hr, zq_MeS_mk rfl hT (zq_all_nil) zq_fan (zq_fan) rfl (zu_fac ((x_SGC _ _ _).mpr (by show zu_SGC (zq_ev rq (0, [(3, 1)])) (zq_ev rq (0, [(4, 1)])) (zq_ev rq (0, [(2, 1)])) (zq_ev rq (0, [(1, 1)])) (zq_ev rq (1, [(5, 1)])) (zq_ev rq (1, [(6, 1)])) P h; simp only [g0, g1, g2, g3, g4, g5]; exact t1)) zq_fan)⟩
noncomputable def zu_cC3c : zq_S × List zq_S := (([], [], [(-58, [(7, 1)]), (96, [(7, -1)]), (-1, [(1, 1), (5, -1)])], [], [((0, [(0, 1)]), (0, [(5, 1)]), (0, [(7, 1)])), ((0, [(3, 1)]), (0, [(6, 1)]), (0, [(5, 1)])), ((0, [(4, 1)]), (0, [(6, 1)]), (1, [(5, 1)]))], [], [(21, [(0, [(0, 1)]), (0, [(1, 1)]), (0, [(2, 1)])]), (100, [(0, [(3, 1)]), (0, [(4, 1)]), (0, [(2, 1)]), (0, [(1, 1)]), (0, [(5, 1)]), (0, [(6, 1)])])], 8), [([], [], [], [], [], [], [(100, [(0, [(3, 1)]), (0, [(4, 1)]), (0, [(2, 1)]), (0, [(1, 1)]), (1, [(5, 1)]), (1, [(6, 1)])])], 8)])
theorem zu_cC3c_l {P : zq_Ty} {h : zq_H} {bt n g sa ea i t b : Int} (a1 : 0 ≤ b - 58) (a2 : 0 ≤ -b + 96) (a3 : 0 ≤ n - i - 1) (s1 : 0 ≤ bt ∧ P (bt).toNat ≠ none ∧ h (bt).toNat i = b) (s2 : 0 ≤ sa ∧ P (sa).toNat ≠ none ∧ h (sa).toNat t = i) (s3 : 0 ≤ ea ∧ P (ea).toNat ≠ none ∧ h (ea).toNat t = i + 1) (k1 : zu_TCc bt n g P h) (k2 : zu_SGC sa ea g n i t P h) : (zu_SGC sa ea g n (i + 1) (t + 1) P h) := by
  have a0 := k2.2.2.2.1.2.1
  have d := zu_dgc k1 a0 (by omega) s1.2.2 (by omega) (by omega)
  have kd : zu_kd (zu_dg g n i) = 3 := by rw [d]; exact zu_kd3 (by omega) (by omega) (by omega)
  obtain ⟨z1, z2, z3, z4, z5⟩ := k2
  obtain ⟨y1, y2⟩ := zu_at_tok z4 (by omega) (by rw [kd]; decide) (zu_nx3 kd) (by omega) (by omega)
  refine ⟨z1, z2, z3, y2, fun j x y => ?_⟩
  by_cases hj : j < t
  · exact z5 j x hj
  · have e : j = t := by omega
    rw [e, s2.2.2, s3.2.2]
    exact y1
theorem zu_cC3c_ok {w : zq_Wd} (x_TCc : zj_is w 21 (fun q => zu_TCc (q 0) (q 1) (q 2))) (x_SGC : zj_is w 100 (fun q => zu_SGC (q 0) (q 1) (q 2) (q 3) (q 4) (q 5))) : zq_okG1 w zu_cC3c := by
  refine ⟨rfl, rfl, zu_fac ⟨rfl, by decide⟩ zq_fan, ?_⟩
  intro r P h H hM
  have q0 : zq_ev r (-58, [(7, 1)]) = r 7 - 58 := zu_e3 _ _ _
  have q1 : zq_ev r (96, [(7, -1)]) = -r 7 + 96 := zu_e5 _ _ _
  have q2 : zq_ev r (-1, [(1, 1), (5, -1)]) = r 1 - r 5 - 1 := by simp only [zq_ev, zq_ts] <;> omega
  have q3 : zq_ev r (0, [(0, 1)]) = r 0 := zu_e1 _ _
  have q4 : zq_ev r (0, [(5, 1)]) = r 5 := zu_e1 _ _
  have q5 : zq_ev r (0, [(7, 1)]) = r 7 := zu_e1 _ _
  have q6 : zq_ev r (0, [(3, 1)]) = r 3 := zu_e1 _ _
  have q7 : zq_ev r (0, [(6, 1)]) = r 6 := zu_e1 _ _
  have q8 : zq_ev r (0, [(4, 1)]) = r 4 := zu_e1 _ _
  have q9 : zq_ev r (1, [(5, 1)]) = r 5 + 1 := zu_e2 _ _ _
  have q10 : zq_ev r (0, [(1, 1)]) = r 1 := zu_e1 _ _
  have q11 : zq_ev r (0, [(2, 1)]) = r 2 := zu_e1 _ _
  obtain ⟨hT, hC, hF, hS, -, hK⟩ := hM
  have c := hC.1
  have a1 := zq_all_1 c
  rw [q0] at a1
  have c := zq_all_t c
  have a2 := zq_all_1 c
  rw [q1] at a2
  have c := zq_all_t c
  have a3 := zq_all_1 c
  rw [q2] at a3
  have s1 := zq_okS_1 (hS)
  simp only [q3, q4, q5] at s1
  have s2 := zq_okS_1 (zq_okS_t (hS))
  simp only [q4, q6, q7] at s2
  have s3 := zq_okS_1 (zq_okS_t (zq_okS_t (hS)))
  simp only [q7, q8, q9] at s3
  have k1 : zu_TCc (zq_ev r (0, [(0, 1)])) (zq_ev r (0, [(1, 1)])) (zq_ev r (0, [(2, 1)])) P h := zj_use x_TCc (hK)
  simp only [q10, q11, q3] at k1
  have k2 : zu_SGC (zq_ev r (0, [(3, 1)])) (zq_ev r (0, [(4, 1)])) (zq_ev r (0, [(2, 1)])) (zq_ev r (0, [(1, 1)])) (zq_ev r (0, [(5, 1)])) (zq_ev r (0, [(6, 1)])) P h := zj_use x_SGC (zq_okX_t (hK))
  simp only [q10, q11, q4, q6, q7, q8] at k2
  obtain t1 := zu_cC3c_l (P := P) (h := h) (bt := r 0) (n := r 1) (g := r 2) (sa := r 3) (ea := r 4) (i := r 5) (t := r 6) (b := r 7) a1 a2 a3 s1 s2 s3 k1 k2
  obtain ⟨rq, hr⟩ : ∃ rq : Nat → Int, (∀ i, i < 8 → rq i = r i) := ⟨r, fun i hi => rfl⟩
  have v1 : rq 1 = r 1 := hr 1 (by decide)
  have v2 : rq 2 = r 2 := hr 2 (by decide)
  have v3 : rq 3 = r 3 := hr 3 (by decide)
  have v4 : rq 4 = r 4 := hr 4 (by decide)
  have v5 : rq 5 = r 5 := hr 5 (by decide)
  have v6 : rq 6 = r 6 := hr 6 (by decide)
  have g0 : zq_ev rq (0, [(3, 1)]) = r 3 := zu_f1 v3
  have g1 : zq_ev rq (0, [(4, 1)]) = r 4 := zu_f1 v4
  have g2 : zq_ev rq (0, [(2, 1)]) = r 2 := zu_f1 v2
  have g3 : zq_ev rq (0, [(1, 1)]) = r 1 := zu_f1 v1
  have g4 : zq_ev rq (1, [(5, 1)]) = r 5 + 1 := zu_f2 v5 _
  have g5 : zq_ev rq (1, [(6, 1)]) = r 6 + 1 := zu_f2 v6 _
  exact ⟨_, List.mem_cons_self .., rq, hr, zq_MeS_mk rfl hT (zq_all_nil) zq_fan (zq_fan) rfl (zu_fac ((x_SGC _ _ _).mpr (by show zu_SGC (zq_ev rq (0, [(3, 1)])) (zq_ev rq (0, [(4, 1)])) (zq_ev rq (0, [(2, 1)])) (zq_ev rq (0, [(1, 1)])) (zq_ev rq (1, [(5, 1)])) (zq_ev rq (1, [(6, 1)])) P h; simp only [g0, g1, g2, g3, g4, g5]; exact t1)) zq_fan)⟩
noncomputable def zu_cC3d : zq_S × List zq_S := (([], [], [(-123, [(7, 1)]), (255, [(7, -1)]), (-1, [(1, 1), (5, -1)])], [], [((0, [(0, 1)]), (0, [(5, 1)]), (0, [(7, 1)])), ((0, [(3, 1)]), (0, [(6, 1)]), (0, [(5, 1)])), ((0, [(4, 1)]), (0, [(6, 1)]), (1, [(5, 1)]))], [], [(21, [(0, [(0, 1)]), (0, [(1, 1)]), (0, [(2, 1)])]), (100, [(0, [(3, 1)]), (0, [(4, 1)]), (0, [(2, 1)]), (0, [(1, 1)]), (0, [(5, 1)]), (0, [(6, 1)])])], 8), [([], [], [], [], [], [], [(100, [(0, [(3, 1)]), (0, [(4, 1)]), (0, [(2, 1)]), (0, [(1, 1)]), (1, [(5, 1)]), (1, [(6, 1)])])], 8)])
theorem zu_cC3d_l {P : zq_Ty} {h : zq_H} {bt n g sa ea i t b : Int} (a1 : 0 ≤ b - 123) (a2 : 0 ≤ -b + 255) (a3 : 0 ≤ n - i - 1) (s1 : 0 ≤ bt ∧ P (bt).toNat ≠ none ∧ h (bt).toNat i = b) (s2 : 0 ≤ sa ∧ P (sa).toNat ≠ none ∧ h (sa).toNat t = i) (s3 : 0 ≤ ea ∧ P (ea).toNat ≠ none ∧ h (ea).toNat t = i + 1) (k1 : zu_TCc bt n g P h) (k2 : zu_SGC sa ea g n i t P h) : (zu_SGC sa ea g n (i + 1) (t + 1) P h) := by
  have a0 := k2.2.2.2.1.2.1
  have d := zu_dgc k1 a0 (by omega) s1.2.2 (by omega) (by omega)
  have kd : zu_kd (zu_dg g n i) = 3 := by rw [d]; exact zu_kd3 (by omega) (by omega) (by omega)
  obtain ⟨z1, z2, z3, z4, z5⟩ := k2
  obtain ⟨y1, y2⟩ := zu_at_tok z4 (by omega) (by rw [kd]; decide) (zu_nx3 kd) (by omega) (by omega)
  refine ⟨z1, z2, z3, y2, fun j x y => ?_⟩
  by_cases hj : j < t
  · exact z5 j x hj
  · have e : j = t := by omega
    rw [e, s2.2.2, s3.2.2]
    exact y1
theorem zu_cC3d_ok {w : zq_Wd} (x_TCc : zj_is w 21 (fun q => zu_TCc (q 0) (q 1) (q 2))) (x_SGC : zj_is w 100 (fun q => zu_SGC (q 0) (q 1) (q 2) (q 3) (q 4) (q 5))) : zq_okG1 w zu_cC3d := by
  refine ⟨rfl, rfl, zu_fac ⟨rfl, by decide⟩ zq_fan, ?_⟩
  intro r P h H hM
  have q0 : zq_ev r (-123, [(7, 1)]) = r 7 - 123 := zu_e3 _ _ _
  have q1 : zq_ev r (255, [(7, -1)]) = -r 7 + 255 := zu_e5 _ _ _
  have q2 : zq_ev r (-1, [(1, 1), (5, -1)]) = r 1 - r 5 - 1 := by simp only [zq_ev, zq_ts] <;> omega
  have q3 : zq_ev r (0, [(0, 1)]) = r 0 := zu_e1 _ _
  have q4 : zq_ev r (0, [(5, 1)]) = r 5 := zu_e1 _ _
  have q5 : zq_ev r (0, [(7, 1)]) = r 7 := zu_e1 _ _
  have q6 : zq_ev r (0, [(3, 1)]) = r 3 := zu_e1 _ _
  have q7 : zq_ev r (0, [(6, 1)]) = r 6 := zu_e1 _ _
  have q8 : zq_ev r (0, [(4, 1)]) = r 4 := zu_e1 _ _
  have q9 : zq_ev r (1, [(5, 1)]) = r 5 + 1 := zu_e2 _ _ _
  have q10 : zq_ev r (0, [(1, 1)]) = r 1 := zu_e1 _ _
  have q11 : zq_ev r (0, [(2, 1)]) = r 2 := zu_e1 _ _
  obtain ⟨hT, hC, hF, hS, -, hK⟩ := hM
  have c := hC.1
  have a1 := zq_all_1 c
  rw [q0] at a1
  have c := zq_all_t c
  have a2 := zq_all_1 c
  rw [q1] at a2
  have c := zq_all_t c
  have a3 := zq_all_1 c
  rw [q2] at a3
  have s1 := zq_okS_1 (hS)
  simp only [q3, q4, q5] at s1
  have s2 := zq_okS_1 (zq_okS_t (hS))
  simp only [q4, q6, q7] at s2
  have s3 := zq_okS_1 (zq_okS_t (zq_okS_t (hS)))
  simp only [q7, q8, q9] at s3
  have k1 : zu_TCc (zq_ev r (0, [(0, 1)])) (zq_ev r (0, [(1, 1)])) (zq_ev r (0, [(2, 1)])) P h := zj_use x_TCc (hK)
  simp only [q10, q11, q3] at k1
  have k2 : zu_SGC (zq_ev r (0, [(3, 1)])) (zq_ev r (0, [(4, 1)])) (zq_ev r (0, [(2, 1)])) (zq_ev r (0, [(1, 1)])) (zq_ev r (0, [(5, 1)])) (zq_ev r (0, [(6, 1)])) P h := zj_use x_SGC (zq_okX_t (hK))
  simp only [q10, q11, q4, q6, q7, q8] at k2
  obtain t1 := zu_cC3d_l (P := P) (h := h) (bt := r 0) (n := r 1) (g := r 2) (sa := r 3) (ea := r 4) (i := r 5) (t := r 6) (b := r 7) a1 a2 a3 s1 s2 s3 k1 k2
  obtain ⟨rq, hr⟩ : ∃ rq : Nat → Int, (∀ i, i < 8 → rq i = r i) := ⟨r, fun i hi => rfl⟩
  have v1 : rq 1 = r 1 := hr 1 (by decide)
  have v2 : rq 2 = r 2 := hr 2 (by decide)
  have v3 : rq 3 = r 3 := hr 3 (by decide)
  have v4 : rq 4 = r 4 := hr 4 (by decide)
  have v5 : rq 5 = r 5 := hr 5 (by decide)
  have v6 : rq 6 = r 6 := hr 6 (by decide)
  have g0 : zq_ev rq (0, [(3, 1)]) = r 3 := zu_f1 v3
  have g1 : zq_ev rq (0, [(4, 1)]) = r 4 := zu_f1 v4
  have g2 : zq_ev rq (0, [(2, 1)]) = r 2 := zu_f1 v2
  have g3 : zq_ev rq (0, [(1, 1)]) = r 1 := zu_f1 v1
  have g4 : zq_ev rq (1, [(5, 1)]) = r 5 + 1 := zu_f2 v5 _
  have g5 : zq_ev rq (1, [(6, 1)]) = r 6 + 1 := zu_f2 v6 _
  exact ⟨_, List.mem_cons_self .., rq, hr, zq_MeS_mk rfl hT (zq_all_nil) zq_fan (zq_fan) rfl (zu_fac ((x_SGC _ _ _).mpr (by show zu_SGC (zq_ev rq (0, [(3, 1)])) (zq_ev rq (0, [(4, 1)])) (zq_ev rq (0, [(2, 1)])) (zq_ev rq (0, [(1, 1)])) (zq_ev rq (1, [(5, 1)])) (zq_ev rq (1, [(6, 1)])) P h; simp only [g0, g1, g2, g3, g4, g5]; exact t1)) zq_fan)⟩
noncomputable def zu_cZ1 : zq_S × List zq_S := (([], [], [(0, [(0, -1), (4, 1)])], [], [], [], [(101, [(0, [(2, 1)]), (0, [(3, 1)]), (0, [(1, 1)]), (0, [(0, 1)]), (0, [(4, 1)]), (0, [(5, 1)]), (1, [])])], 6), [([], [], [], [], [], [], [(100, [(0, [(2, 1)]), (0, [(3, 1)]), (0, [(1, 1)]), (0, [(0, 1)]), (0, [(4, 1)]), (0, [(5, 1)])])], 6)])
theorem zu_cZ1_l {P : zq_Ty} {h : zq_H} {n g sa ea i t : Int} (a1 : 0 ≤ -n + i) (k1 : zu_SGO sa ea g n i t 1 P h) : (zu_SGC sa ea g n i t P h) := by
  obtain ⟨⟨z1, z2, z3, z4, z5, z6, z7, z8⟩, z9⟩ := k1
  have ne : ¬ (i < n ∧ zu_kd (zu_dg g n i) = 1) := fun w => by have := w.1; omega
  have nx := zu_rn_nx z7 z3 (by omega) ne
  obtain ⟨y1, y2, y3, y4⟩ := z7
  have kd := y4 _ (Int.le_refl _) y2
  obtain ⟨x1, x2⟩ := zu_at_tok z6 (by omega) (by rw [kd]; decide) nx y2 y3
  rw [show t - 1 + 1 = t by omega] at x2
  refine ⟨z1, z2, z3, x2, fun j x y => ?_⟩
  by_cases hj : j < t - 1
  · exact z8 j x hj
  · have e : j = t - 1 := by omega
    rw [e, z9]
    exact x1
theorem zu_cZ1_ok {w : zq_Wd} (x_SGO : zj_is w 101 (fun q => zu_SGO (q 0) (q 1) (q 2) (q 3) (q 4) (q 5) (q 6))) (x_SGC : zj_is w 100 (fun q => zu_SGC (q 0) (q 1) (q 2) (q 3) (q 4) (q 5))) : zq_okG1 w zu_cZ1 := by
  refine ⟨rfl, rfl, zu_fac ⟨rfl, by decide⟩ zq_fan, ?_⟩
  intro r P h H hM
  have q0 : zq_ev r (0, [(0, -1), (4, 1)]) = -r 0 + r 4 := by simp only [zq_ev, zq_ts] <;> omega
  have q1 : zq_ev r (0, [(2, 1)]) = r 2 := zu_e1 _ _
  have q2 : zq_ev r (0, [(3, 1)]) = r 3 := zu_e1 _ _
  have q3 : zq_ev r (0, [(1, 1)]) = r 1 := zu_e1 _ _
  have q4 : zq_ev r (0, [(0, 1)]) = r 0 := zu_e1 _ _
  have q5 : zq_ev r (0, [(4, 1)]) = r 4 := zu_e1 _ _
  have q6 : zq_ev r (0, [(5, 1)]) = r 5 := zu_e1 _ _
  have q7 : zq_ev r (1, []) = 1 := zu_e0 _ _
  obtain ⟨hT, hC, hF, hS, -, hK⟩ := hM
  have c := hC.1
  have a1 := zq_all_1 c
  rw [q0] at a1
  have k1 : zu_SGO (zq_ev r (0, [(2, 1)])) (zq_ev r (0, [(3, 1)])) (zq_ev r (0, [(1, 1)])) (zq_ev r (0, [(0, 1)])) (zq_ev r (0, [(4, 1)])) (zq_ev r (0, [(5, 1)])) (zq_ev r (1, [])) P h := zj_use x_SGO (hK)
  simp only [q1, q2, q3, q4, q5, q6, q7] at k1
  obtain t1 := zu_cZ1_l (P := P) (h := h) (n := r 0) (g := r 1) (sa := r 2) (ea := r 3) (i := r 4) (t := r 5) a1 k1
  obtain ⟨rq, hr⟩ : ∃ rq : Nat → Int, (∀ i, i < 6 → rq i = r i) := ⟨r, fun i hi => rfl⟩
  have v0 : rq 0 = r 0 := hr 0 (by decide)
  have v1 : rq 1 = r 1 := hr 1 (by decide)
  have v2 : rq 2 = r 2 := hr 2 (by decide)
  have v3 : rq 3 = r 3 := hr 3 (by decide)
  have v4 : rq 4 = r 4 := hr 4 (by decide)
  have v5 : rq 5 = r 5 := hr 5 (by decide)
  have g0 : zq_ev rq (0, [(2, 1)]) = r 2 := zu_f1 v2
  have g1 : zq_ev rq (0, [(3, 1)]) = r 3 := zu_f1 v3
  have g2 : zq_ev rq (0, [(1, 1)]) = r 1 := zu_f1 v1
  have g3 : zq_ev rq (0, [(0, 1)]) = r 0 := zu_f1 v0
  have g4 : zq_ev rq (0, [(4, 1)]) = r 4 := zu_f1 v4
  have g5 : zq_ev rq (0, [(5, 1)]) = r 5 := zu_f1 v5
  exact ⟨_, List.mem_cons_self .., rq, hr, zq_MeS_mk rfl hT (zq_all_nil) zq_fan (zq_fan) rfl (zu_fac ((x_SGC _ _ _).mpr (by show zu_SGC (zq_ev rq (0, [(2, 1)])) (zq_ev rq (0, [(3, 1)])) (zq_ev rq (0, [(1, 1)])) (zq_ev rq (0, [(0, 1)])) (zq_ev rq (0, [(4, 1)])) (zq_ev rq (0, [(5, 1)])) P h; simp only [g0, g1, g2, g3, g4, g5]; exact t1)) zq_fan)⟩
noncomputable def zu_cX1a : zq_S × List zq_S := (([], [], [(0, [(7, 1)]), (96, [(7, -1)]), (-1, [(1, 1), (5, -1)])], [], [((0, [(0, 1)]), (0, [(5, 1)]), (0, [(7, 1)]))], [], [(21, [(0, [(0, 1)]), (0, [(1, 1)]), (0, [(2, 1)])]), (101, [(0, [(3, 1)]), (0, [(4, 1)]), (0, [(2, 1)]), (0, [(1, 1)]), (0, [(5, 1)]), (0, [(6, 1)]), (1, [])])], 8), [([], [], [], [], [], [], [(100, [(0, [(3, 1)]), (0, [(4, 1)]), (0, [(2, 1)]), (0, [(1, 1)]), (0, [(5, 1)]), (0, [(6, 1)])])], 8)])
theorem zu_cX1a_l {P : zq_Ty} {h : zq_H} {bt n g sa ea i t b : Int} (a1 : 0 ≤ b) (a2 : 0 ≤ -b + 96) (a3 : 0 ≤ n - i - 1) (s1 : 0 ≤ bt ∧ P (bt).toNat ≠ none ∧ h (bt).toNat i = b) (k1 : zu_TCc bt n g P h) (k2 : zu_SGO sa ea g n i t 1 P h) : (zu_SGC sa ea g n i t P h) := by
  have w1 := k2.1.2.2.2.2.2.2.1.1
  have w2 := k2.1.2.2.2.2.2.2.1.2.1
  have d := zu_dgc k1 (j := i) (by omega) (by omega) s1.2.2 (by omega) (by omega)
  obtain ⟨⟨z1, z2, z3, z4, z5, z6, z7, z8⟩, z9⟩ := k2
  have ne : ¬ (i < n ∧ zu_kd (zu_dg g n i) = 1) := fun w => by
    have w := w.2
    rw [d] at w
    rcases zu_kd_cases b with ⟨q1, q2⟩ | ⟨q1, q2, q3⟩ | ⟨q1, q2, q3⟩ | ⟨q1, q2, q3, q4⟩ <;> omega
  have nx := zu_rn_nx z7 z3 (by omega) ne
  obtain ⟨y1, y2, y3, y4⟩ := z7
  have kd := y4 _ (Int.le_refl _) y2
  obtain ⟨x1, x2⟩ := zu_at_tok z6 (by omega) (by rw [kd]; decide) nx y2 y3
  rw [show t - 1 + 1 = t by omega] at x2
  refine ⟨z1, z2, z3, x2, fun j x y => ?_⟩
  by_cases hj : j < t - 1
  · exact z8 j x hj
  · have e : j = t - 1 := by omega
    rw [e, z9]
    exact x1
theorem zu_cX1a_ok {w : zq_Wd} (x_TCc : zj_is w 21 (fun q => zu_TCc (q 0) (q 1) (q 2))) (x_SGO : zj_is w 101 (fun q => zu_SGO (q 0) (q 1) (q 2) (q 3) (q 4) (q 5) (q 6))) (x_SGC : zj_is w 100 (fun q => zu_SGC (q 0) (q 1) (q 2) (q 3) (q 4) (q 5))) : zq_okG1 w zu_cX1a := by
  refine ⟨rfl, rfl, zu_fac ⟨rfl, by decide⟩ zq_fan, ?_⟩
  intro r P h H hM
  have q0 : zq_ev r (0, [(7, 1)]) = r 7 := zu_e1 _ _
  have q1 : zq_ev r (96, [(7, -1)]) = -r 7 + 96 := zu_e5 _ _ _
  have q2 : zq_ev r (-1, [(1, 1), (5, -1)]) = r 1 - r 5 - 1 := by simp only [zq_ev, zq_ts] <;> omega
  have q3 : zq_ev r (0, [(0, 1)]) = r 0 := zu_e1 _ _
  have q4 : zq_ev r (0, [(5, 1)]) = r 5 := zu_e1 _ _
  have q5 : zq_ev r (0, [(1, 1)]) = r 1 := zu_e1 _ _
  have q6 : zq_ev r (0, [(2, 1)]) = r 2 := zu_e1 _ _
  have q7 : zq_ev r (0, [(3, 1)]) = r 3 := zu_e1 _ _
  have q8 : zq_ev r (0, [(4, 1)]) = r 4 := zu_e1 _ _
  have q9 : zq_ev r (0, [(6, 1)]) = r 6 := zu_e1 _ _
  have q10 : zq_ev r (1, []) = 1 := zu_e0 _ _
  obtain ⟨hT, hC, hF, hS, -, hK⟩ := hM
  have c := hC.1
  have a1 := zq_all_1 c
  rw [q0] at a1
  have c := zq_all_t c
  have a2 := zq_all_1 c
  rw [q1] at a2
  have c := zq_all_t c
  have a3 := zq_all_1 c
  rw [q2] at a3
  have s1 := zq_okS_1 (hS)
  simp only [q0, q3, q4] at s1
  have k1 : zu_TCc (zq_ev r (0, [(0, 1)])) (zq_ev r (0, [(1, 1)])) (zq_ev r (0, [(2, 1)])) P h := zj_use x_TCc (hK)
  simp only [q3, q5, q6] at k1
  have k2 : zu_SGO (zq_ev r (0, [(3, 1)])) (zq_ev r (0, [(4, 1)])) (zq_ev r (0, [(2, 1)])) (zq_ev r (0, [(1, 1)])) (zq_ev r (0, [(5, 1)])) (zq_ev r (0, [(6, 1)])) (zq_ev r (1, [])) P h := zj_use x_SGO (zq_okX_t (hK))
  simp only [q10, q4, q5, q6, q7, q8, q9] at k2
  obtain t1 := zu_cX1a_l (P := P) (h := h) (bt := r 0) (n := r 1) (g := r 2) (sa := r 3) (ea := r 4) (i := r 5) (t := r 6) (b := r 7) a1 a2 a3 s1 k1 k2
  obtain ⟨rq, hr⟩ : ∃ rq : Nat → Int, (∀ i, i < 8 → rq i = r i) := ⟨r, fun i hi => rfl⟩
  have v1 : rq 1 = r 1 := hr 1 (by decide)
  have v2 : rq 2 = r 2 := hr 2 (by decide)
  have v3 : rq 3 = r 3 := hr 3 (by decide)
  have v4 : rq 4 = r 4 := hr 4 (by decide)
  have v5 : rq 5 = r 5 := hr 5 (by decide)
  have v6 : rq 6 = r 6 := hr 6 (by decide)
  have g0 : zq_ev rq (0, [(3, 1)]) = r 3 := zu_f1 v3
  have g1 : zq_ev rq (0, [(4, 1)]) = r 4 := zu_f1 v4
  have g2 : zq_ev rq (0, [(2, 1)]) = r 2 := zu_f1 v2
  have g3 : zq_ev rq (0, [(1, 1)]) = r 1 := zu_f1 v1
  have g4 : zq_ev rq (0, [(5, 1)]) = r 5 := zu_f1 v5
  have g5 : zq_ev rq (0, [(6, 1)]) = r 6 := zu_f1 v6
  exact ⟨_, List.mem_cons_self .., rq, hr, zq_MeS_mk rfl hT (zq_all_nil) zq_fan (zq_fan) rfl (zu_fac ((x_SGC _ _ _).mpr (by show zu_SGC (zq_ev rq (0, [(3, 1)])) (zq_ev rq (0, [(4, 1)])) (zq_ev rq (0, [(2, 1)])) (zq_ev rq (0, [(1, 1)])) (zq_ev rq (0, [(5, 1)])) (zq_ev rq (0, [(6, 1)])) P h; simp only [g0, g1, g2, g3, g4, g5]; exact t1)) zq_fan)⟩
noncomputable def zu_cX1b : zq_S × List zq_S := (([], [], [(-123, [(7, 1)]), (255, [(7, -1)]), (-1, [(1, 1), (5, -1)])], [], [((0, [(0, 1)]), (0, [(5, 1)]), (0, [(7, 1)]))], [], [(21, [(0, [(0, 1)]), (0, [(1, 1)]), (0, [(2, 1)])]), (101, [(0, [(3, 1)]), (0, [(4, 1)]), (0, [(2, 1)]), (0, [(1, 1)]), (0, [(5, 1)]), (0, [(6, 1)]), (1, [])])], 8), [([], [], [], [], [], [], [(100, [(0, [(3, 1)]), (0, [(4, 1)]), (0, [(2, 1)]), (0, [(1, 1)]), (0, [(5, 1)]), (0, [(6, 1)])])], 8)])
theorem zu_cX1b_l {P : zq_Ty} {h : zq_H} {bt n g sa ea i t b : Int} (a1 : 0 ≤ b - 123) (a2 : 0 ≤ -b + 255) (a3 : 0 ≤ n - i - 1) (s1 : 0 ≤ bt ∧ P (bt).toNat ≠ none ∧ h (bt).toNat i = b) (k1 : zu_TCc bt n g P h) (k2 : zu_SGO sa ea g n i t 1 P h) : (zu_SGC sa ea g n i t P h) := by
  have w1 := k2.1.2.2.2.2.2.2.1.1
  have w2 := k2.1.2.2.2.2.2.2.1.2.1
  have d := zu_dgc k1 (j := i) (by omega) (by omega) s1.2.2 (by omega) (by omega)
  obtain ⟨⟨z1, z2, z3, z4, z5, z6, z7, z8⟩, z9⟩ := k2
  have ne : ¬ (i < n ∧ zu_kd (zu_dg g n i) = 1) := fun w => by
    have w := w.2
    rw [d] at w
    rcases zu_kd_cases b with ⟨q1, q2⟩ | ⟨q1, q2, q3⟩ | ⟨q1, q2, q3⟩ | ⟨q1, q2, q3, q4⟩ <;> omega
  have nx := zu_rn_nx z7 z3 (by omega) ne
  obtain ⟨y1, y2, y3, y4⟩ := z7
  have kd := y4 _ (Int.le_refl _) y2
  obtain ⟨x1, x2⟩ := zu_at_tok z6 (by omega) (by rw [kd]; decide) nx y2 y3
  rw [show t - 1 + 1 = t by omega] at x2
  refine ⟨z1, z2, z3, x2, fun j x y => ?_⟩
  by_cases hj : j < t - 1
  · exact z8 j x hj
  · have e : j = t - 1 := by omega
    rw [e, z9]
    exact x1
theorem zu_cX1b_ok {w : zq_Wd} (x_TCc : zj_is w 21 (fun q => zu_TCc (q 0) (q 1) (q 2))) (x_SGO : zj_is w 101 (fun q => zu_SGO (q 0) (q 1) (q 2) (q 3) (q 4) (q 5) (q 6))) (x_SGC : zj_is w 100 (fun q => zu_SGC (q 0) (q 1) (q 2) (q 3) (q 4) (q 5))) : zq_okG1 w zu_cX1b := by
  refine ⟨rfl, rfl, zu_fac ⟨rfl, by decide⟩ zq_fan, ?_⟩
  intro r P h H hM
  have q0 : zq_ev r (-123, [(7, 1)]) = r 7 - 123 := zu_e3 _ _ _
  have q1 : zq_ev r (255, [(7, -1)]) = -r 7 + 255 := zu_e5 _ _ _
  have q2 : zq_ev r (-1, [(1, 1), (5, -1)]) = r 1 - r 5 - 1 := by simp only [zq_ev, zq_ts] <;> omega
  have q3 : zq_ev r (0, [(0, 1)]) = r 0 := zu_e1 _ _
  have q4 : zq_ev r (0, [(5, 1)]) = r 5 := zu_e1 _ _
  have q5 : zq_ev r (0, [(7, 1)]) = r 7 := zu_e1 _ _
  have q6 : zq_ev r (0, [(1, 1)]) = r 1 := zu_e1 _ _
  have q7 : zq_ev r (0, [(2, 1)]) = r 2 := zu_e1 _ _
  have q8 : zq_ev r (0, [(3, 1)]) = r 3 := zu_e1 _ _
  have q9 : zq_ev r (0, [(4, 1)]) = r 4 := zu_e1 _ _
  have q10 : zq_ev r (0, [(6, 1)]) = r 6 := zu_e1 _ _
  have q11 : zq_ev r (1, []) = 1 := zu_e0 _ _
  obtain ⟨hT, hC, hF, hS, -, hK⟩ := hM
  have c := hC.1
  have a1 := zq_all_1 c
  rw [q0] at a1
  have c := zq_all_t c
  have a2 := zq_all_1 c
  rw [q1] at a2
  have c := zq_all_t c
  have a3 := zq_all_1 c
  rw [q2] at a3
  have s1 := zq_okS_1 (hS)
  simp only [q3, q4, q5] at s1
  have k1 : zu_TCc (zq_ev r (0, [(0, 1)])) (zq_ev r (0, [(1, 1)])) (zq_ev r (0, [(2, 1)])) P h := zj_use x_TCc (hK)
  simp only [q3, q6, q7] at k1
  have k2 : zu_SGO (zq_ev r (0, [(3, 1)])) (zq_ev r (0, [(4, 1)])) (zq_ev r (0, [(2, 1)])) (zq_ev r (0, [(1, 1)])) (zq_ev r (0, [(5, 1)])) (zq_ev r (0, [(6, 1)])) (zq_ev r (1, [])) P h := zj_use x_SGO (zq_okX_t (hK))
  simp only [q10, q11, q4, q6, q7, q8, q9] at k2
  obtain t1 := zu_cX1b_l (P := P) (h := h) (bt := r 0) (n := r 1) (g := r 2) (sa := r 3) (ea := r 4) (i := r 5) (t := r 6) (b := r 7) a1 a2 a3 s1 k1 k2
  obtain ⟨rq, hr⟩ : ∃ rq : Nat → Int, (∀ i, i < 8 → rq i = r i) := ⟨r, fun i hi => rfl⟩
  have v1 : rq 1 = r 1 := hr 1 (by decide)
  have v2 : rq 2 = r 2 := hr 2 (by decide)
  have v3 : rq 3 = r 3 := hr 3 (by decide)
  have v4 : rq 4 = r 4 := hr 4 (by decide)
  have v5 : rq 5 = r 5 := hr 5 (by decide)
  have v6 : rq 6 = r 6 := hr 6 (by decide)
  have g0 : zq_ev rq (0, [(3, 1)]) = r 3 := zu_f1 v3
  have g1 : zq_ev rq (0, [(4, 1)]) = r 4 := zu_f1 v4
  have g2 : zq_ev rq (0, [(2, 1)]) = r 2 := zu_f1 v2
  have g3 : zq_ev rq (0, [(1, 1)]) = r 1 := zu_f1 v1
  have g4 : zq_ev rq (0, [(5, 1)]) = r 5 := zu_f1 v5
  have g5 : zq_ev rq (0, [(6, 1)]) = r 6 := zu_f1 v6
  exact ⟨_, List.mem_cons_self .., rq, hr, zq_MeS_mk rfl hT (zq_all_nil) zq_fan (zq_fan) rfl (zu_fac ((x_SGC _ _ _).mpr (by show zu_SGC (zq_ev rq (0, [(3, 1)])) (zq_ev rq (0, [(4, 1)])) (zq_ev rq (0, [(2, 1)])) (zq_ev rq (0, [(1, 1)])) (zq_ev rq (0, [(5, 1)])) (zq_ev rq (0, [(6, 1)])) P h; simp only [g0, g1, g2, g3, g4, g5]; exact t1)) zq_fan)⟩
noncomputable def zu_cN1 : zq_S × List zq_S := (([], [], [], [], [((0, [(3, 1)]), (-1, [(5, 1)]), (0, [(4, 1)]))], [], [(102, [(0, [(2, 1)]), (0, [(3, 1)]), (0, [(1, 1)]), (0, [(0, 1)]), (0, [(4, 1)]), (0, [(5, 1)]), (1, [])])], 6), [([], [], [], [], [], [], [(101, [(0, [(2, 1)]), (0, [(3, 1)]), (0, [(1, 1)]), (0, [(0, 1)]), (0, [(4, 1)]), (0, [(5, 1)]), (1, [])])], 6)])
theorem zu_cN1_l {P : zq_Ty} {h : zq_H} {n g sa ea i t : Int} (s1 : 0 ≤ ea ∧ P (ea).toNat ≠ none ∧ h (ea).toNat (t - 1) = i) (k1 : zu_SGN sa ea g n i t 1 P h) : (zu_SGO sa ea g n i t 1 P h) := by
  exact ⟨k1, s1.2.2⟩
theorem zu_cN1_ok {w : zq_Wd} (x_SGN : zj_is w 102 (fun q => zu_SGN (q 0) (q 1) (q 2) (q 3) (q 4) (q 5) (q 6))) (x_SGO : zj_is w 101 (fun q => zu_SGO (q 0) (q 1) (q 2) (q 3) (q 4) (q 5) (q 6))) : zq_okG1 w zu_cN1 := by
  refine ⟨rfl, rfl, zu_fac ⟨rfl, by decide⟩ zq_fan, ?_⟩
  intro r P h H hM
  have q0 : zq_ev r (0, [(3, 1)]) = r 3 := zu_e1 _ _
  have q1 : zq_ev r (-1, [(5, 1)]) = r 5 - 1 := zu_e3 _ _ _
  have q2 : zq_ev r (0, [(4, 1)]) = r 4 := zu_e1 _ _
  have q3 : zq_ev r (0, [(2, 1)]) = r 2 := zu_e1 _ _
  have q4 : zq_ev r (0, [(1, 1)]) = r 1 := zu_e1 _ _
  have q5 : zq_ev r (0, [(0, 1)]) = r 0 := zu_e1 _ _
  have q6 : zq_ev r (0, [(5, 1)]) = r 5 := zu_e1 _ _
  have q7 : zq_ev r (1, []) = 1 := zu_e0 _ _
  obtain ⟨hT, hC, hF, hS, -, hK⟩ := hM
  have c := hC.1
  have s1 := zq_okS_1 (hS)
  simp only [q0, q1, q2] at s1
  have k1 : zu_SGN (zq_ev r (0, [(2, 1)])) (zq_ev r (0, [(3, 1)])) (zq_ev r (0, [(1, 1)])) (zq_ev r (0, [(0, 1)])) (zq_ev r (0, [(4, 1)])) (zq_ev r (0, [(5, 1)])) (zq_ev r (1, [])) P h := zj_use x_SGN (hK)
  simp only [q0, q2, q3, q4, q5, q6, q7] at k1
  obtain t1 := zu_cN1_l (P := P) (h := h) (n := r 0) (g := r 1) (sa := r 2) (ea := r 3) (i := r 4) (t := r 5) s1 k1
  obtain ⟨rq, hr⟩ : ∃ rq : Nat → Int, (∀ i, i < 6 → rq i = r i) := ⟨r, fun i hi => rfl⟩
  have v0 : rq 0 = r 0 := hr 0 (by decide)
  have v1 : rq 1 = r 1 := hr 1 (by decide)
  have v2 : rq 2 = r 2 := hr 2 (by decide)
  have v3 : rq 3 = r 3 := hr 3 (by decide)
  have v4 : rq 4 = r 4 := hr 4 (by decide)
  have v5 : rq 5 = r 5 := hr 5 (by decide)
  have g0 : zq_ev rq (0, [(2, 1)]) = r 2 := zu_f1 v2
  have g1 : zq_ev rq (0, [(3, 1)]) = r 3 := zu_f1 v3
  have g2 : zq_ev rq (0, [(1, 1)]) = r 1 := zu_f1 v1
  have g3 : zq_ev rq (0, [(0, 1)]) = r 0 := zu_f1 v0
  have g4 : zq_ev rq (0, [(4, 1)]) = r 4 := zu_f1 v4
  have g5 : zq_ev rq (0, [(5, 1)]) = r 5 := zu_f1 v5
  have g6 : zq_ev rq (1, []) = 1 := zu_e0 _ _
  exact ⟨_, List.mem_cons_self .., rq, hr, zq_MeS_mk rfl hT (zq_all_nil) zq_fan (zq_fan) rfl (zu_fac ((x_SGO _ _ _).mpr (by show zu_SGO (zq_ev rq (0, [(2, 1)])) (zq_ev rq (0, [(3, 1)])) (zq_ev rq (0, [(1, 1)])) (zq_ev rq (0, [(0, 1)])) (zq_ev rq (0, [(4, 1)])) (zq_ev rq (0, [(5, 1)])) (zq_ev rq (1, [])) P h; simp only [g0, g1, g2, g3, g4, g5, g6]; exact t1)) zq_fan)⟩
noncomputable def zu_cZ2 : zq_S × List zq_S := (([], [], [(0, [(0, -1), (4, 1)])], [], [], [], [(101, [(0, [(2, 1)]), (0, [(3, 1)]), (0, [(1, 1)]), (0, [(0, 1)]), (0, [(4, 1)]), (0, [(5, 1)]), (2, [])])], 6), [([], [], [], [], [], [], [(100, [(0, [(2, 1)]), (0, [(3, 1)]), (0, [(1, 1)]), (0, [(0, 1)]), (0, [(4, 1)]), (0, [(5, 1)])])], 6)])
theorem zu_cZ2_l {P : zq_Ty} {h : zq_H} {n g sa ea i t : Int} (a1 : 0 ≤ -n + i) (k1 : zu_SGO sa ea g n i t 2 P h) : (zu_SGC sa ea g n i t P h) := by
  obtain ⟨⟨z1, z2, z3, z4, z5, z6, z7, z8⟩, z9⟩ := k1
  have ne : ¬ (i < n ∧ zu_kd (zu_dg g n i) = 2) := fun w => by have := w.1; omega
  have nx := zu_rn_nx z7 z3 (by omega) ne
  obtain ⟨y1, y2, y3, y4⟩ := z7
  have kd := y4 _ (Int.le_refl _) y2
  obtain ⟨x1, x2⟩ := zu_at_tok z6 (by omega) (by rw [kd]; decide) nx y2 y3
  rw [show t - 1 + 1 = t by omega] at x2
  refine ⟨z1, z2, z3, x2, fun j x y => ?_⟩
  by_cases hj : j < t - 1
  · exact z8 j x hj
  · have e : j = t - 1 := by omega
    rw [e, z9]
    exact x1
theorem zu_cZ2_ok {w : zq_Wd} (x_SGO : zj_is w 101 (fun q => zu_SGO (q 0) (q 1) (q 2) (q 3) (q 4) (q 5) (q 6))) (x_SGC : zj_is w 100 (fun q => zu_SGC (q 0) (q 1) (q 2) (q 3) (q 4) (q 5))) : zq_okG1 w zu_cZ2 := by
  refine ⟨rfl, rfl, zu_fac ⟨rfl, by decide⟩ zq_fan, ?_⟩
  intro r P h H hM
  have q0 : zq_ev r (0, [(0, -1), (4, 1)]) = -r 0 + r 4 := by simp only [zq_ev, zq_ts] <;> omega
  have q1 : zq_ev r (0, [(2, 1)]) = r 2 := zu_e1 _ _
  have q2 : zq_ev r (0, [(3, 1)]) = r 3 := zu_e1 _ _
  have q3 : zq_ev r (0, [(1, 1)]) = r 1 := zu_e1 _ _
  have q4 : zq_ev r (0, [(0, 1)]) = r 0 := zu_e1 _ _
  have q5 : zq_ev r (0, [(4, 1)]) = r 4 := zu_e1 _ _
  have q6 : zq_ev r (0, [(5, 1)]) = r 5 := zu_e1 _ _
  have q7 : zq_ev r (2, []) = 2 := zu_e0 _ _
  obtain ⟨hT, hC, hF, hS, -, hK⟩ := hM
  have c := hC.1
  have a1 := zq_all_1 c
  rw [q0] at a1
  have k1 : zu_SGO (zq_ev r (0, [(2, 1)])) (zq_ev r (0, [(3, 1)])) (zq_ev r (0, [(1, 1)])) (zq_ev r (0, [(0, 1)])) (zq_ev r (0, [(4, 1)])) (zq_ev r (0, [(5, 1)])) (zq_ev r (2, [])) P h := zj_use x_SGO (hK)
  simp only [q1, q2, q3, q4, q5, q6, q7] at k1
  obtain t1 := zu_cZ2_l (P := P) (h := h) (n := r 0) (g := r 1) (sa := r 2) (ea := r 3) (i := r 4) (t := r 5) a1 k1
  obtain ⟨rq, hr⟩ : ∃ rq : Nat → Int, (∀ i, i < 6 → rq i = r i) := ⟨r, fun i hi => rfl⟩
  have v0 : rq 0 = r 0 := hr 0 (by decide)
  have v1 : rq 1 = r 1 := hr 1 (by decide)
  have v2 : rq 2 = r 2 := hr 2 (by decide)
  have v3 : rq 3 = r 3 := hr 3 (by decide)
  have v4 : rq 4 = r 4 := hr 4 (by decide)
  have v5 : rq 5 = r 5 := hr 5 (by decide)
  have g0 : zq_ev rq (0, [(2, 1)]) = r 2 := zu_f1 v2
  have g1 : zq_ev rq (0, [(3, 1)]) = r 3 := zu_f1 v3
  have g2 : zq_ev rq (0, [(1, 1)]) = r 1 := zu_f1 v1
  have g3 : zq_ev rq (0, [(0, 1)]) = r 0 := zu_f1 v0
  have g4 : zq_ev rq (0, [(4, 1)]) = r 4 := zu_f1 v4
  have g5 : zq_ev rq (0, [(5, 1)]) = r 5 := zu_f1 v5
  exact ⟨_, List.mem_cons_self .., rq, hr, zq_MeS_mk rfl hT (zq_all_nil) zq_fan (zq_fan) rfl (zu_fac ((x_SGC _ _ _).mpr (by show zu_SGC (zq_ev rq (0, [(2, 1)])) (zq_ev rq (0, [(3, 1)])) (zq_ev rq (0, [(1, 1)])) (zq_ev rq (0, [(0, 1)])) (zq_ev rq (0, [(4, 1)])) (zq_ev rq (0, [(5, 1)])) P h; simp only [g0, g1, g2, g3, g4, g5]; exact t1)) zq_fan)⟩
noncomputable def zu_cX2a : zq_S × List zq_S := (([], [], [(0, [(7, 1)]), (47, [(7, -1)]), (-1, [(1, 1), (5, -1)])], [], [((0, [(0, 1)]), (0, [(5, 1)]), (0, [(7, 1)]))], [], [(21, [(0, [(0, 1)]), (0, [(1, 1)]), (0, [(2, 1)])]), (101, [(0, [(3, 1)]), (0, [(4, 1)]), (0, [(2, 1)]), (0, [(1, 1)]), (0, [(5, 1)]), (0, [(6, 1)]), (2, [])])], 8), [([], [], [], [], [], [], [(100, [(0, [(3, 1)]), (0, [(4, 1)]), (0, [(2, 1)]), (0, [(1, 1)]), (0, [(5, 1)]), (0, [(6, 1)])])], 8)])
theorem zu_cX2a_l {P : zq_Ty} {h : zq_H} {bt n g sa ea i t b : Int} (a1 : 0 ≤ b) (a2 : 0 ≤ -b + 47) (a3 : 0 ≤ n - i - 1) (s1 : 0 ≤ bt ∧ P (bt).toNat ≠ none ∧ h (bt).toNat i = b) (k1 : zu_TCc bt n g P h) (k2 : zu_SGO sa ea g n i t 2 P h) : (zu_SGC sa ea g n i t P h) := by
  have w1 := k2.1.2.2.2.2.2.2.1.1
  have w2 := k2.1.2.2.2.2.2.2.1.2.1
  have d := zu_dgc k1 (j := i) (by omega) (by omega) s1.2.2 (by omega) (by omega)
  obtain ⟨⟨z1, z2, z3, z4, z5, z6, z7, z8⟩, z9⟩ := k2
  have ne : ¬ (i < n ∧ zu_kd (zu_dg g n i) = 2) := fun w => by
    have w := w.2
    rw [d] at w
    rcases zu_kd_cases b with ⟨q1, q2⟩ | ⟨q1, q2, q3⟩ | ⟨q1, q2, q3⟩ | ⟨q1, q2, q3, q4⟩ <;> omega
  have nx := zu_rn_nx z7 z3 (by omega) ne
  obtain ⟨y1, y2, y3, y4⟩ := z7
  have kd := y4 _ (Int.le_refl _) y2
  obtain ⟨x1, x2⟩ := zu_at_tok z6 (by omega) (by rw [kd]; decide) nx y2 y3
  rw [show t - 1 + 1 = t by omega] at x2
  refine ⟨z1, z2, z3, x2, fun j x y => ?_⟩
  by_cases hj : j < t - 1
  · exact z8 j x hj
  · have e : j = t - 1 := by omega
    rw [e, z9]
    exact x1
theorem zu_cX2a_ok {w : zq_Wd} (x_TCc : zj_is w 21 (fun q => zu_TCc (q 0) (q 1) (q 2))) (x_SGO : zj_is w 101 (fun q => zu_SGO (q 0) (q 1) (q 2) (q 3) (q 4) (q 5) (q 6))) (x_SGC : zj_is w 100 (fun q => zu_SGC (q 0) (q 1) (q 2) (q 3) (q 4) (q 5))) : zq_okG1 w zu_cX2a := by
  refine ⟨rfl, rfl, zu_fac ⟨rfl, by decide⟩ zq_fan, ?_⟩
  intro r P h H hM
  have q0 : zq_ev r (0, [(7, 1)]) = r 7 := zu_e1 _ _
  have q1 : zq_ev r (47, [(7, -1)]) = -r 7 + 47 := zu_e5 _ _ _
  have q2 : zq_ev r (-1, [(1, 1), (5, -1)]) = r 1 - r 5 - 1 := by simp only [zq_ev, zq_ts] <;> omega
  have q3 : zq_ev r (0, [(0, 1)]) = r 0 := zu_e1 _ _
  have q4 : zq_ev r (0, [(5, 1)]) = r 5 := zu_e1 _ _
  have q5 : zq_ev r (0, [(1, 1)]) = r 1 := zu_e1 _ _
  have q6 : zq_ev r (0, [(2, 1)]) = r 2 := zu_e1 _ _
  have q7 : zq_ev r (0, [(3, 1)]) = r 3 := zu_e1 _ _
  have q8 : zq_ev r (0, [(4, 1)]) = r 4 := zu_e1 _ _
  have q9 : zq_ev r (0, [(6, 1)]) = r 6 := zu_e1 _ _
  have q10 : zq_ev r (2, []) = 2 := zu_e0 _ _
  obtain ⟨hT, hC, hF, hS, -, hK⟩ := hM
  have c := hC.1
  have a1 := zq_all_1 c
  rw [q0] at a1
  have c := zq_all_t c
  have a2 := zq_all_1 c
  rw [q1] at a2
  have c := zq_all_t c
  have a3 := zq_all_1 c
  rw [q2] at a3
  have s1 := zq_okS_1 (hS)
  simp only [q0, q3, q4] at s1
  have k1 : zu_TCc (zq_ev r (0, [(0, 1)])) (zq_ev r (0, [(1, 1)])) (zq_ev r (0, [(2, 1)])) P h := zj_use x_TCc (hK)
  simp only [q3, q5, q6] at k1
  have k2 : zu_SGO (zq_ev r (0, [(3, 1)])) (zq_ev r (0, [(4, 1)])) (zq_ev r (0, [(2, 1)])) (zq_ev r (0, [(1, 1)])) (zq_ev r (0, [(5, 1)])) (zq_ev r (0, [(6, 1)])) (zq_ev r (2, [])) P h := zj_use x_SGO (zq_okX_t (hK))
  simp only [q10, q4, q5, q6, q7, q8, q9] at k2
  obtain t1 := zu_cX2a_l (P := P) (h := h) (bt := r 0) (n := r 1) (g := r 2) (sa := r 3) (ea := r 4) (i := r 5) (t := r 6) (b := r 7) a1 a2 a3 s1 k1 k2
  obtain ⟨rq, hr⟩ : ∃ rq : Nat → Int, (∀ i, i < 8 → rq i = r i) := ⟨r, fun i hi => rfl⟩
  have v1 : rq 1 = r 1 := hr 1 (by decide)
  have v2 : rq 2 = r 2 := hr 2 (by decide)
  have v3 : rq 3 = r 3 := hr 3 (by decide)
  have v4 : rq 4 = r 4 := hr 4 (by decide)
  have v5 : rq 5 = r 5 := hr 5 (by decide)
  have v6 : rq 6 = r 6 := hr 6 (by decide)
  have g0 : zq_ev rq (0, [(3, 1)]) = r 3 := zu_f1 v3
  have g1 : zq_ev rq (0, [(4, 1)]) = r 4 := zu_f1 v4
  have g2 : zq_ev rq (0, [(2, 1)]) = r 2 := zu_f1 v2
  have g3 : zq_ev rq (0, [(1, 1)]) = r 1 := zu_f1 v1
  have g4 : zq_ev rq (0, [(5, 1)]) = r 5 := zu_f1 v5
  have g5 : zq_ev rq (0, [(6, 1)]) = r 6 := zu_f1 v6
  exact ⟨_, List.mem_cons_self .., rq, hr, zq_MeS_mk rfl hT (zq_all_nil) zq_fan (zq_fan) rfl (zu_fac ((x_SGC _ _ _).mpr (by show zu_SGC (zq_ev rq (0, [(3, 1)])) (zq_ev rq (0, [(4, 1)])) (zq_ev rq (0, [(2, 1)])) (zq_ev rq (0, [(1, 1)])) (zq_ev rq (0, [(5, 1)])) (zq_ev rq (0, [(6, 1)])) P h; simp only [g0, g1, g2, g3, g4, g5]; exact t1)) zq_fan)⟩
noncomputable def zu_cX2b : zq_S × List zq_S := (([], [], [(-58, [(7, 1)]), (255, [(7, -1)]), (-1, [(1, 1), (5, -1)])], [], [((0, [(0, 1)]), (0, [(5, 1)]), (0, [(7, 1)]))], [], [(21, [(0, [(0, 1)]), (0, [(1, 1)]), (0, [(2, 1)])]), (101, [(0, [(3, 1)]), (0, [(4, 1)]), (0, [(2, 1)]), (0, [(1, 1)]), (0, [(5, 1)]), (0, [(6, 1)]), (2, [])])], 8), [([], [], [], [], [], [], [(100, [(0, [(3, 1)]), (0, [(4, 1)]), (0, [(2, 1)]), (0, [(1, 1)]), (0, [(5, 1)]), (0, [(6, 1)])])], 8)])
theorem zu_cX2b_l {P : zq_Ty} {h : zq_H} {bt n g sa ea i t b : Int} (a1 : 0 ≤ b - 58) (a2 : 0 ≤ -b + 255) (a3 : 0 ≤ n - i - 1) (s1 : 0 ≤ bt ∧ P (bt).toNat ≠ none ∧ h (bt).toNat i = b) (k1 : zu_TCc bt n g P h) (k2 : zu_SGO sa ea g n i t 2 P h) : (zu_SGC sa ea g n i t P h) := by
  have w1 := k2.1.2.2.2.2.2.2.1.1
  have w2 := k2.1.2.2.2.2.2.2.1.2.1
  have d := zu_dgc k1 (j := i) (by omega) (by omega) s1.2.2 (by omega) (by omega)
  obtain ⟨⟨z1, z2, z3, z4, z5, z6, z7, z8⟩, z9⟩ := k2
  have ne : ¬ (i < n ∧ zu_kd (zu_dg g n i) = 2) := fun w => by
    have w := w.2
    rw [d] at w
    rcases zu_kd_cases b with ⟨q1, q2⟩ | ⟨q1, q2, q3⟩ | ⟨q1, q2, q3⟩ | ⟨q1, q2, q3, q4⟩ <;> omega
  have nx := zu_rn_nx z7 z3 (by omega) ne
  obtain ⟨y1, y2, y3, y4⟩ := z7
  have kd := y4 _ (Int.le_refl _) y2
  obtain ⟨x1, x2⟩ := zu_at_tok z6 (by omega) (by rw [kd]; decide) nx y2 y3
  rw [show t - 1 + 1 = t by omega] at x2
  refine ⟨z1, z2, z3, x2, fun j x y => ?_⟩
  by_cases hj : j < t - 1
  · exact z8 j x hj
  · have e : j = t - 1 := by omega
    rw [e, z9]
    exact x1
theorem zu_cX2b_ok {w : zq_Wd} (x_TCc : zj_is w 21 (fun q => zu_TCc (q 0) (q 1) (q 2))) (x_SGO : zj_is w 101 (fun q => zu_SGO (q 0) (q 1) (q 2) (q 3) (q 4) (q 5) (q 6))) (x_SGC : zj_is w 100 (fun q => zu_SGC (q 0) (q 1) (q 2) (q 3) (q 4) (q 5))) : zq_okG1 w zu_cX2b := by
  refine ⟨rfl, rfl, zu_fac ⟨rfl, by decide⟩ zq_fan, ?_⟩
  intro r P h H hM
  have q0 : zq_ev r (-58, [(7, 1)]) = r 7 - 58 := zu_e3 _ _ _
  have q1 : zq_ev r (255, [(7, -1)]) = -r 7 + 255 := zu_e5 _ _ _
  have q2 : zq_ev r (-1, [(1, 1), (5, -1)]) = r 1 - r 5 - 1 := by simp only [zq_ev, zq_ts] <;> omega
  have q3 : zq_ev r (0, [(0, 1)]) = r 0 := zu_e1 _ _
  have q4 : zq_ev r (0, [(5, 1)]) = r 5 := zu_e1 _ _
  have q5 : zq_ev r (0, [(7, 1)]) = r 7 := zu_e1 _ _
  have q6 : zq_ev r (0, [(1, 1)]) = r 1 := zu_e1 _ _
  have q7 : zq_ev r (0, [(2, 1)]) = r 2 := zu_e1 _ _
  have q8 : zq_ev r (0, [(3, 1)]) = r 3 := zu_e1 _ _
  have q9 : zq_ev r (0, [(4, 1)]) = r 4 := zu_e1 _ _
  have q10 : zq_ev r (0, [(6, 1)]) = r 6 := zu_e1 _ _
  have q11 : zq_ev r (2, []) = 2 := zu_e0 _ _
  obtain ⟨hT, hC, hF, hS, -, hK⟩ := hM
  have c := hC.1
  have a1 := zq_all_1 c
  rw [q0] at a1
  have c := zq_all_t c
  have a2 := zq_all_1 c
  rw [q1] at a2
  have c := zq_all_t c
  have a3 := zq_all_1 c
  rw [q2] at a3
  have s1 := zq_okS_1 (hS)
  simp only [q3, q4, q5] at s1
  have k1 : zu_TCc (zq_ev r (0, [(0, 1)])) (zq_ev r (0, [(1, 1)])) (zq_ev r (0, [(2, 1)])) P h := zj_use x_TCc (hK)
  simp only [q3, q6, q7] at k1
  have k2 : zu_SGO (zq_ev r (0, [(3, 1)])) (zq_ev r (0, [(4, 1)])) (zq_ev r (0, [(2, 1)])) (zq_ev r (0, [(1, 1)])) (zq_ev r (0, [(5, 1)])) (zq_ev r (0, [(6, 1)])) (zq_ev r (2, [])) P h := zj_use x_SGO (zq_okX_t (hK))
  simp only [q10, q11, q4, q6, q7, q8, q9] at k2
  obtain t1 := zu_cX2b_l (P := P) (h := h) (bt := r 0) (n := r 1) (g := r 2) (sa := r 3) (ea := r 4) (i := r 5) (t := r 6) (b := r 7) a1 a2 a3 s1 k1 k2
  obtain ⟨rq, hr⟩ : ∃ rq : Nat → Int, (∀ i, i < 8 → rq i = r i) := ⟨r, fun i hi => rfl⟩
  have v1 : rq 1 = r 1 := hr 1 (by decide)
  have v2 : rq 2 = r 2 := hr 2 (by decide)
  have v3 : rq 3 = r 3 := hr 3 (by decide)
  have v4 : rq 4 = r 4 := hr 4 (by decide)
  have v5 : rq 5 = r 5 := hr 5 (by decide)
  have v6 : rq 6 = r 6 := hr 6 (by decide)
  have g0 : zq_ev rq (0, [(3, 1)]) = r 3 := zu_f1 v3
  have g1 : zq_ev rq (0, [(4, 1)]) = r 4 := zu_f1 v4
  have g2 : zq_ev rq (0, [(2, 1)]) = r 2 := zu_f1 v2
  have g3 : zq_ev rq (0, [(1, 1)]) = r 1 := zu_f1 v1
  have g4 : zq_ev rq (0, [(5, 1)]) = r 5 := zu_f1 v5
  have g5 : zq_ev rq (0, [(6, 1)]) = r 6 := zu_f1 v6
  exact ⟨_, List.mem_cons_self .., rq, hr, zq_MeS_mk rfl hT (zq_all_nil) zq_fan (zq_fan) rfl (zu_fac ((x_SGC _ _ _).mpr (by show zu_SGC (zq_ev rq (0, [(3, 1)])) (zq_ev rq (0, [(4, 1)])) (zq_ev rq (0, [(2, 1)])) (zq_ev rq (0, [(1, 1)])) (zq_ev rq (0, [(5, 1)])) (zq_ev rq (0, [(6, 1)])) P h; simp only [g0, g1, g2, g3, g4, g5]; exact t1)) zq_fan)⟩
noncomputable def zu_cN2 : zq_S × List zq_S := (([], [], [], [], [((0, [(3, 1)]), (-1, [(5, 1)]), (0, [(4, 1)]))], [], [(102, [(0, [(2, 1)]), (0, [(3, 1)]), (0, [(1, 1)]), (0, [(0, 1)]), (0, [(4, 1)]), (0, [(5, 1)]), (2, [])])], 6), [([], [], [], [], [], [], [(101, [(0, [(2, 1)]), (0, [(3, 1)]), (0, [(1, 1)]), (0, [(0, 1)]), (0, [(4, 1)]), (0, [(5, 1)]), (2, [])])], 6)])
theorem zu_cN2_l {P : zq_Ty} {h : zq_H} {n g sa ea i t : Int} (s1 : 0 ≤ ea ∧ P (ea).toNat ≠ none ∧ h (ea).toNat (t - 1) = i) (k1 : zu_SGN sa ea g n i t 2 P h) : (zu_SGO sa ea g n i t 2 P h) := by
  exact ⟨k1, s1.2.2⟩
theorem zu_cN2_ok {w : zq_Wd} (x_SGN : zj_is w 102 (fun q => zu_SGN (q 0) (q 1) (q 2) (q 3) (q 4) (q 5) (q 6))) (x_SGO : zj_is w 101 (fun q => zu_SGO (q 0) (q 1) (q 2) (q 3) (q 4) (q 5) (q 6))) : zq_okG1 w zu_cN2 := by
  refine ⟨rfl, rfl, zu_fac ⟨rfl, by decide⟩ zq_fan, ?_⟩
  intro r P h H hM
  have q0 : zq_ev r (0, [(3, 1)]) = r 3 := zu_e1 _ _
  have q1 : zq_ev r (-1, [(5, 1)]) = r 5 - 1 := zu_e3 _ _ _
  have q2 : zq_ev r (0, [(4, 1)]) = r 4 := zu_e1 _ _
  have q3 : zq_ev r (0, [(2, 1)]) = r 2 := zu_e1 _ _
  have q4 : zq_ev r (0, [(1, 1)]) = r 1 := zu_e1 _ _
  have q5 : zq_ev r (0, [(0, 1)]) = r 0 := zu_e1 _ _
  have q6 : zq_ev r (0, [(5, 1)]) = r 5 := zu_e1 _ _
  have q7 : zq_ev r (2, []) = 2 := zu_e0 _ _
  obtain ⟨hT, hC, hF, hS, -, hK⟩ := hM
  have c := hC.1
  have s1 := zq_okS_1 (hS)
  simp only [q0, q1, q2] at s1
  have k1 : zu_SGN (zq_ev r (0, [(2, 1)])) (zq_ev r (0, [(3, 1)])) (zq_ev r (0, [(1, 1)])) (zq_ev r (0, [(0, 1)])) (zq_ev r (0, [(4, 1)])) (zq_ev r (0, [(5, 1)])) (zq_ev r (2, [])) P h := zj_use x_SGN (hK)
  simp only [q0, q2, q3, q4, q5, q6, q7] at k1
  obtain t1 := zu_cN2_l (P := P) (h := h) (n := r 0) (g := r 1) (sa := r 2) (ea := r 3) (i := r 4) (t := r 5) s1 k1
  obtain ⟨rq, hr⟩ : ∃ rq : Nat → Int, (∀ i, i < 6 → rq i = r i) := ⟨r, fun i hi => rfl⟩
  have v0 : rq 0 = r 0 := hr 0 (by decide)
  have v1 : rq 1 = r 1 := hr 1 (by decide)
  have v2 : rq 2 = r 2 := hr 2 (by decide)
  have v3 : rq 3 = r 3 := hr 3 (by decide)
  have v4 : rq 4 = r 4 := hr 4 (by decide)
  have v5 : rq 5 = r 5 := hr 5 (by decide)
  have g0 : zq_ev rq (0, [(2, 1)]) = r 2 := zu_f1 v2
  have g1 : zq_ev rq (0, [(3, 1)]) = r 3 := zu_f1 v3
  have g2 : zq_ev rq (0, [(1, 1)]) = r 1 := zu_f1 v1
  have g3 : zq_ev rq (0, [(0, 1)]) = r 0 := zu_f1 v0
  have g4 : zq_ev rq (0, [(4, 1)]) = r 4 := zu_f1 v4
  have g5 : zq_ev rq (0, [(5, 1)]) = r 5 := zu_f1 v5
  have g6 : zq_ev rq (2, []) = 2 := zu_e0 _ _
  exact ⟨_, List.mem_cons_self .., rq, hr, zq_MeS_mk rfl hT (zq_all_nil) zq_fan (zq_fan) rfl (zu_fac ((x_SGO _ _ _).mpr (by show zu_SGO (zq_ev rq (0, [(2, 1)])) (zq_ev rq (0, [(3, 1)])) (zq_ev rq (0, [(1, 1)])) (zq_ev rq (0, [(0, 1)])) (zq_ev rq (0, [(4, 1)])) (zq_ev rq (0, [(5, 1)])) (zq_ev rq (2, [])) P h; simp only [g0, g1, g2, g3, g4, g5, g6]; exact t1)) zq_fan)⟩
noncomputable def zu_cD : zq_S × List zq_S := (([], [], [(0, [(0, -1), (4, 1)])], [], [], [], [(100, [(0, [(2, 1)]), (0, [(3, 1)]), (0, [(1, 1)]), (0, [(0, 1)]), (0, [(4, 1)]), (0, [(5, 1)])])], 6), [([], [], [], [], [], [], [(103, [(0, [(2, 1)]), (0, [(3, 1)]), (0, [(1, 1)]), (0, [(0, 1)]), (0, [(5, 1)])])], 6)])
theorem zu_cD_l {P : zq_Ty} {h : zq_H} {n g sa ea i t : Int} (a1 : 0 ≤ -n + i) (k1 : zu_SGC sa ea g n i t P h) : (zu_SGD sa ea g n t P h) := by
  obtain ⟨z1, z2, z3, z4, z5⟩ := k1
  exact ⟨z1, z2, z3, z4.1, zu_at_end z4 (by omega), z5⟩
theorem zu_cD_ok {w : zq_Wd} (x_SGC : zj_is w 100 (fun q => zu_SGC (q 0) (q 1) (q 2) (q 3) (q 4) (q 5))) (x_SGD : zj_is w 103 (fun q => zu_SGD (q 0) (q 1) (q 2) (q 3) (q 4))) : zq_okG1 w zu_cD := by
  refine ⟨rfl, rfl, zu_fac ⟨rfl, by decide⟩ zq_fan, ?_⟩
  intro r P h H hM
  have q0 : zq_ev r (0, [(0, -1), (4, 1)]) = -r 0 + r 4 := by simp only [zq_ev, zq_ts] <;> omega
  have q1 : zq_ev r (0, [(2, 1)]) = r 2 := zu_e1 _ _
  have q2 : zq_ev r (0, [(3, 1)]) = r 3 := zu_e1 _ _
  have q3 : zq_ev r (0, [(1, 1)]) = r 1 := zu_e1 _ _
  have q4 : zq_ev r (0, [(0, 1)]) = r 0 := zu_e1 _ _
  have q5 : zq_ev r (0, [(4, 1)]) = r 4 := zu_e1 _ _
  have q6 : zq_ev r (0, [(5, 1)]) = r 5 := zu_e1 _ _
  obtain ⟨hT, hC, hF, hS, -, hK⟩ := hM
  have c := hC.1
  have a1 := zq_all_1 c
  rw [q0] at a1
  have k1 : zu_SGC (zq_ev r (0, [(2, 1)])) (zq_ev r (0, [(3, 1)])) (zq_ev r (0, [(1, 1)])) (zq_ev r (0, [(0, 1)])) (zq_ev r (0, [(4, 1)])) (zq_ev r (0, [(5, 1)])) P h := zj_use x_SGC (hK)
  simp only [q1, q2, q3, q4, q5, q6] at k1
  obtain t1 := zu_cD_l (P := P) (h := h) (n := r 0) (g := r 1) (sa := r 2) (ea := r 3) (i := r 4) (t := r 5) a1 k1
  obtain ⟨rq, hr⟩ : ∃ rq : Nat → Int, (∀ i, i < 6 → rq i = r i) := ⟨r, fun i hi => rfl⟩
  have v0 : rq 0 = r 0 := hr 0 (by decide)
  have v1 : rq 1 = r 1 := hr 1 (by decide)
  have v2 : rq 2 = r 2 := hr 2 (by decide)
  have v3 : rq 3 = r 3 := hr 3 (by decide)
  have v5 : rq 5 = r 5 := hr 5 (by decide)
  have g0 : zq_ev rq (0, [(2, 1)]) = r 2 := zu_f1 v2
  have g1 : zq_ev rq (0, [(3, 1)]) = r 3 := zu_f1 v3
  have g2 : zq_ev rq (0, [(1, 1)]) = r 1 := zu_f1 v1
  have g3 : zq_ev rq (0, [(0, 1)]) = r 0 := zu_f1 v0
  have g4 : zq_ev rq (0, [(5, 1)]) = r 5 := zu_f1 v5
  exact ⟨_, List.mem_cons_self .., rq, hr, zq_MeS_mk rfl hT (zq_all_nil) zq_fan (zq_fan) rfl (zu_fac ((x_SGD _ _ _).mpr (by show zu_SGD (zq_ev rq (0, [(2, 1)])) (zq_ev rq (0, [(3, 1)])) (zq_ev rq (0, [(1, 1)])) (zq_ev rq (0, [(0, 1)])) (zq_ev rq (0, [(5, 1)])) P h; simp only [g0, g1, g2, g3, g4]; exact t1)) zq_fan)⟩
noncomputable def zu_cE : zq_S × List zq_S := (([], [], [(0, [(5, 1)]), (-1, [(4, 1), (5, -1)])], [], [((0, [(2, 1)]), (0, [(5, 1)]), (0, [(6, 1)]))], [], [(103, [(0, [(2, 1)]), (0, [(3, 1)]), (0, [(1, 1)]), (0, [(0, 1)]), (0, [(4, 1)])])], 7), [([], [], [(0, [(6, 1)]), (-1, [(6, -1), (7, 1)]), (0, [(0, 1), (7, -1)]), (400, [(0, -1)])], [], [((0, [(3, 1)]), (0, [(5, 1)]), (0, [(7, 1)]))], [], [(110, [(0, [(1, 1)]), (0, [(0, 1)]), (0, [(5, 1)]), (0, [(6, 1)]), (0, [(7, 1)])])], 8)])
theorem zu_cE_l {P : zq_Ty} {h : zq_H} {n g sa ea t j s : Int} (a1 : 0 ≤ j) (a2 : 0 ≤ t - j - 1) (s1 : 0 ≤ sa ∧ P (sa).toNat ≠ none ∧ h (sa).toNat j = s) (k1 : zu_SGD sa ea g n t P h) : (∃ e : Int, 0 ≤ s ∧ 0 ≤ -s + e - 1 ∧ 0 ≤ n - e ∧ 0 ≤ -n + 400 ∧ (0 ≤ ea ∧ P (ea).toNat ≠ none ∧ h (ea).toNat j = e) ∧ zu_SE g n j s e P h) := by
  obtain ⟨z1, z2, z3, z4, z5, z6⟩ := k1
  have y := z6 j a1 (by omega)
  rw [s1.2.2] at y
  obtain ⟨y1, y2, y3, y4, y5, y6⟩ := y
  exact ⟨h ea.toNat j, by omega, by omega, by omega, by omega, ⟨z2.1, by rw [z2.2]; simp, rfl⟩, y1, y2, y3, y4, y5, y6⟩
theorem zu_cE_ok {w : zq_Wd} (x_SGD : zj_is w 103 (fun q => zu_SGD (q 0) (q 1) (q 2) (q 3) (q 4))) (x_SE : zj_is w 110 (fun q => zu_SE (q 0) (q 1) (q 2) (q 3) (q 4))) : zq_okG1 w zu_cE := by
  refine ⟨rfl, rfl, zu_fac ⟨rfl, by decide⟩ zq_fan, ?_⟩
  intro r P h H hM
  have q0 : zq_ev r (0, [(5, 1)]) = r 5 := zu_e1 _ _
  have q1 : zq_ev r (-1, [(4, 1), (5, -1)]) = r 4 - r 5 - 1 := by simp only [zq_ev, zq_ts] <;> omega
  have q2 : zq_ev r (0, [(2, 1)]) = r 2 := zu_e1 _ _
  have q3 : zq_ev r (0, [(6, 1)]) = r 6 := zu_e1 _ _
  have q4 : zq_ev r (0, [(3, 1)]) = r 3 := zu_e1 _ _
  have q5 : zq_ev r (0, [(1, 1)]) = r 1 := zu_e1 _ _
  have q6 : zq_ev r (0, [(0, 1)]) = r 0 := zu_e1 _ _
  have q7 : zq_ev r (0, [(4, 1)]) = r 4 := zu_e1 _ _
  obtain ⟨hT, hC, hF, hS, -, hK⟩ := hM
  have c := hC.1
  have a1 := zq_all_1 c
  rw [q0] at a1
  have c := zq_all_t c
  have a2 := zq_all_1 c
  rw [q1] at a2
  have s1 := zq_okS_1 (hS)
  simp only [q0, q2, q3] at s1
  have k1 : zu_SGD (zq_ev r (0, [(2, 1)])) (zq_ev r (0, [(3, 1)])) (zq_ev r (0, [(1, 1)])) (zq_ev r (0, [(0, 1)])) (zq_ev r (0, [(4, 1)])) P h := zj_use x_SGD (hK)
  simp only [q2, q4, q5, q6, q7] at k1
  obtain ⟨y_0, c1, c2, c3, c4, d1, t1⟩ := zu_cE_l (P := P) (h := h) (n := r 0) (g := r 1) (sa := r 2) (ea := r 3) (t := r 4) (j := r 5) (s := r 6) a1 a2 s1 k1
  obtain ⟨rq, hr, w7⟩ : ∃ rq : Nat → Int, (∀ i, i < 7 → rq i = r i) ∧ rq 7 = y_0 := ⟨zq_up r 7 y_0, fun i hi => by rw [zu_up_ne (by omega)], rfl⟩
  have v0 : rq 0 = r 0 := hr 0 (by decide)
  have v1 : rq 1 = r 1 := hr 1 (by decide)
  have v3 : rq 3 = r 3 := hr 3 (by decide)
  have v5 : rq 5 = r 5 := hr 5 (by decide)
  have v6 : rq 6 = r 6 := hr 6 (by decide)
  have g0 : zq_ev rq (400, [(0, -1)]) = -r 0 + 400 := zu_f5 v0 _
  have g1 : zq_ev rq (0, [(0, 1), (7, -1)]) = r 0 - y_0 := by simp only [zq_ev, zq_ts, v0, v1, v3, v5, v6, w7] <;> omega
  have g2 : zq_ev rq (-1, [(6, -1), (7, 1)]) = -r 6 + y_0 - 1 := by simp only [zq_ev, zq_ts, v0, v1, v3, v5, v6, w7] <;> omega
  have g3 : zq_ev rq (0, [(6, 1)]) = r 6 := zu_f1 v6
  have g4 : zq_ev rq (0, [(3, 1)]) = r 3 := zu_f1 v3
  have g5 : zq_ev rq (0, [(5, 1)]) = r 5 := zu_f1 v5
  have g6 : zq_ev rq (0, [(7, 1)]) = y_0 := zu_f1 w7
  have g7 : zq_ev rq (0, [(1, 1)]) = r 1 := zu_f1 v1
  have g8 : zq_ev rq (0, [(0, 1)]) = r 0 := zu_f1 v0
  exact ⟨_, List.mem_cons_self .., rq, hr, zq_MeS_mk rfl hT (zq_all_cons (by rw [g3]; exact c1) (zq_all_cons (by rw [g2]; exact c2) (zq_all_cons (by rw [g1]; exact c3) (zq_all_cons (by rw [g0]; exact c4) (zq_all_nil))))) zq_fan (zu_fac (zu_stm g4 d1.1 d1.2.1 (by simp only [g5, g6]; exact d1.2.2)) (zq_fan)) rfl (zu_fac ((x_SE _ _ _).mpr (by show zu_SE (zq_ev rq (0, [(1, 1)])) (zq_ev rq (0, [(0, 1)])) (zq_ev rq (0, [(5, 1)])) (zq_ev rq (0, [(6, 1)])) (zq_ev rq (0, [(7, 1)])) P h; simp only [g3, g5, g6, g7, g8]; exact t1)) zq_fan)⟩
noncomputable def zu_n0 : zq_S × List zq_S := (([], [], [(0, [(0, 1)]), (0, [(1, 1)]), (400, [(3, -1)])], [((0, [(0, 1)]), 96), ((0, [(1, 1)]), 99)], [], [], [], 4), [([], [], [], [], [], [], [(104, [(0, [(0, 1)]), (0, [(1, 1)]), (0, [(2, 1)]), (0, [(3, 1)]), (0, [])])], 4)])
theorem zu_n0_l {P : zq_Ty} {h : zq_H} {co nu g n : Int} (a1 : 0 ≤ co) (a2 : 0 ≤ nu) (a3 : 0 ≤ -n + 400) (b1 : 0 ≤ co → P (co).toNat = some 96) (b2 : 0 ≤ nu → P (nu).toNat = some 99) : (zu_NMD co nu g n 0 P h) := by
  exact ⟨⟨a1, b1 a1⟩, ⟨a2, b2 a2⟩, by omega, Int.le_refl _, fun j x y => by omega⟩
theorem zu_n0_ok {w : zq_Wd} (x_NMD : zj_is w 104 (fun q => zu_NMD (q 0) (q 1) (q 2) (q 3) (q 4))) : zq_okG1 w zu_n0 := by
  refine ⟨rfl, rfl, zu_fac ⟨rfl, by decide⟩ zq_fan, ?_⟩
  intro r P h H hM
  have q0 : zq_ev r (0, [(0, 1)]) = r 0 := zu_e1 _ _
  have q1 : zq_ev r (0, [(1, 1)]) = r 1 := zu_e1 _ _
  have q2 : zq_ev r (400, [(3, -1)]) = -r 3 + 400 := zu_e5 _ _ _
  obtain ⟨hT, hC, hF, hS, -, hK⟩ := hM
  have c := hC.1
  have a1 := zq_all_1 c
  rw [q0] at a1
  have c := zq_all_t c
  have a2 := zq_all_1 c
  rw [q1] at a2
  have c := zq_all_t c
  have a3 := zq_all_1 c
  rw [q2] at a3
  have b1 : 0 ≤ r 0 → P (r 0).toNat = some 96 := fun z => by
    have z1 : 0 ≤ zq_ev r (0, [(0, 1)]) := by rw [q0]; exact z
    have z2 := zq_okF_1 (hF) z1
    simp only [q0] at z2
    exact z2
  have b2 : 0 ≤ r 1 → P (r 1).toNat = some 99 := fun z => by
    have z1 : 0 ≤ zq_ev r (0, [(1, 1)]) := by rw [q1]; exact z
    have z2 := zq_okF_1 (zq_okF_t (hF)) z1
    simp only [q1] at z2
    exact z2
  obtain t1 := zu_n0_l (P := P) (h := h) (co := r 0) (nu := r 1) (g := r 2) (n := r 3) a1 a2 a3 b1 b2
  obtain ⟨rq, hr⟩ : ∃ rq : Nat → Int, (∀ i, i < 4 → rq i = r i) := ⟨r, fun i hi => rfl⟩
  have v0 : rq 0 = r 0 := hr 0 (by decide)
  have v1 : rq 1 = r 1 := hr 1 (by decide)
  have v2 : rq 2 = r 2 := hr 2 (by decide)
  have v3 : rq 3 = r 3 := hr 3 (by decide)
  have g0 : zq_ev rq (0, [(0, 1)]) = r 0 := zu_f1 v0
  have g1 : zq_ev rq (0, [(1, 1)]) = r 1 := zu_f1 v1
  have g2 : zq_ev rq (0, [(2, 1)]) = r 2 := zu_f1 v2
  have g3 : zq_ev rq (0, [(3, 1)]) = r 3 := zu_f1 v3
  have g4 : zq_ev rq (0, []) = 0 := zu_e0 _ _
  exact ⟨_, List.mem_cons_self .., rq, hr, zq_MeS_mk rfl hT (zq_all_nil) zq_fan (zq_fan) rfl (zu_fac ((x_NMD _ _ _).mpr (by show zu_NMD (zq_ev rq (0, [(0, 1)])) (zq_ev rq (0, [(1, 1)])) (zq_ev rq (0, [(2, 1)])) (zq_ev rq (0, [(3, 1)])) (zq_ev rq (0, [])) P h; simp only [g0, g1, g2, g3, g4]; exact t1)) zq_fan)⟩
noncomputable def zu_nL : zq_S × List zq_S := (([], [], [(-97, [(8, 1)]), (122, [(8, -1)])], [], [((0, [(0, 1)]), (0, [(6, 1)]), (0, [(8, 1)])), ((0, [(3, 1)]), (0, [(5, 1)]), (0, [(9, 1)]))], [], [(21, [(0, [(0, 1)]), (0, [(1, 1)]), (0, [(2, 1)])]), (104, [(0, [(3, 1)]), (0, [(4, 1)]), (0, [(2, 1)]), (0, [(1, 1)]), (0, [(5, 1)])]), (110, [(0, [(2, 1)]), (0, [(1, 1)]), (0, [(5, 1)]), (0, [(6, 1)]), (0, [(7, 1)])]), (111, [(0, [(2, 1)]), (0, [(1, 1)]), (0, [(6, 1)]), (0, [(7, 1)]), (0, [(9, 1)])])], 10), [([], [], [], [], [], [], [(104, [(0, [(3, 1)]), (0, [(4, 1)]), (0, [(2, 1)]), (0, [(1, 1)]), (1, [(5, 1)])])], 10)])
theorem zu_nL_l {P : zq_Ty} {h : zq_H} {bt n g co nu j s e b c : Int} (a1 : 0 ≤ b - 97) (a2 : 0 ≤ -b + 122) (s1 : 0 ≤ bt ∧ P (bt).toNat ≠ none ∧ h (bt).toNat s = b) (s2 : 0 ≤ co ∧ P (co).toNat ≠ none ∧ h (co).toNat j = c) (k1 : zu_TCc bt n g P h) (k2 : zu_NMD co nu g n j P h) (k3 : zu_SE g n j s e P h) (k4 : zu_WDC g n s e c P h) : (zu_NMD co nu g n (j + 1) P h) := by
  obtain ⟨z1, z2, z0, z3, z4⟩ := k2
  obtain ⟨y1, y2, y3, y4, y5, y6⟩ := k3
  have d := zu_dgc k1 y2 (by omega) s1.2.2 (by omega) (by omega)
  have kd : zu_kd (zu_dg g n s) = 1 := by rw [d]; exact zu_kd1 (by omega) (by omega)
  have k4 : c = zu_fi (zu_bs (zu_dg g n) (e - s).toNat s) (zu_sp zu_cC) 0 29 := k4
  have cr := zu_fiC (zu_bs (zu_dg g n) (e - s).toNat s)
  rw [← k4] at cr
  have ec : (zu_tk (zu_dg g n) s e).2.2.1 = zu_mp c := by
    rw [k4, zu_mp_fi]
    show (if zu_kd (zu_dg g n s) = 1 then _ else _) = _
    rw [if_pos kd]
  refine ⟨z1, z2, z0, by omega, fun q x y => ?_⟩
  by_cases hq : q < j
  · exact z4 q x hq
  · have e0 : q = j := by omega
    rw [e0]
    refine ⟨_, y5, ?_, ?_, ?_⟩
    · rw [s2.2.2, ec]
    · rw [s2.2.2]; omega
    · intro w
      rw [ec] at w
      exfalso
      have h50 : ∀ k : Nat, k < 30 → zu_mp (k : Int) ≠ 50 := by decide +kernel
      refine h50 c.toNat (by omega) ?_
      rw [show ((c.toNat : Nat) : Int) = c by omega]
      exact w
theorem zu_nL_ok {w : zq_Wd} (x_TCc : zj_is w 21 (fun q => zu_TCc (q 0) (q 1) (q 2))) (x_NMD : zj_is w 104 (fun q => zu_NMD (q 0) (q 1) (q 2) (q 3) (q 4))) (x_SE : zj_is w 110 (fun q => zu_SE (q 0) (q 1) (q 2) (q 3) (q 4))) (x_WDC : zj_is w 111 (fun q => zu_WDC (q 0) (q 1) (q 2) (q 3) (q 4))) : zq_okG1 w zu_nL := by
  refine ⟨rfl, rfl, zu_fac ⟨rfl, by decide⟩ zq_fan, ?_⟩
  intro r P h H hM
  have q0 : zq_ev r (-97, [(8, 1)]) = r 8 - 97 := zu_e3 _ _ _
  have q1 : zq_ev r (122, [(8, -1)]) = -r 8 + 122 := zu_e5 _ _ _
  have q2 : zq_ev r (0, [(0, 1)]) = r 0 := zu_e1 _ _
  have q3 : zq_ev r (0, [(6, 1)]) = r 6 := zu_e1 _ _
  have q4 : zq_ev r (0, [(8, 1)]) = r 8 := zu_e1 _ _
  have q5 : zq_ev r (0, [(3, 1)]) = r 3 := zu_e1 _ _
  have q6 : zq_ev r (0, [(5, 1)]) = r 5 := zu_e1 _ _
  have q7 : zq_ev r (0, [(9, 1)]) = r 9 := zu_e1 _ _
  have q8 : zq_ev r (0, [(1, 1)]) = r 1 := zu_e1 _ _
  have q9 : zq_ev r (0, [(2, 1)]) = r 2 := zu_e1 _ _
  have q10 : zq_ev r (0, [(4, 1)]) = r 4 := zu_e1 _ _
  have q11 : zq_ev r (0, [(7, 1)]) = r 7 := zu_e1 _ _
  obtain ⟨hT, hC, hF, hS, -, hK⟩ := hM
  have c := hC.1
  have a1 := zq_all_1 c
  rw [q0] at a1
  have c := zq_all_t c
  have a2 := zq_all_1 c
  rw [q1] at a2
  have s1 := zq_okS_1 (hS)
  simp only [q2, q3, q4] at s1
  have s2 := zq_okS_1 (zq_okS_t (hS))
  simp only [q5, q6, q7] at s2
  have k1 : zu_TCc (zq_ev r (0, [(0, 1)])) (zq_ev r (0, [(1, 1)])) (zq_ev r (0, [(2, 1)])) P h := zj_use x_TCc (hK)
  simp only [q2, q8, q9] at k1
  have k2 : zu_NMD (zq_ev r (0, [(3, 1)])) (zq_ev r (0, [(4, 1)])) (zq_ev r (0, [(2, 1)])) (zq_ev r (0, [(1, 1)])) (zq_ev r (0, [(5, 1)])) P h := zj_use x_NMD (zq_okX_t (hK))
  simp only [q10, q5, q6, q8, q9] at k2
  have k3 : zu_SE (zq_ev r (0, [(2, 1)])) (zq_ev r (0, [(1, 1)])) (zq_ev r (0, [(5, 1)])) (zq_ev r (0, [(6, 1)])) (zq_ev r (0, [(7, 1)])) P h := zj_use x_SE (zq_okX_t (zq_okX_t (hK)))
  simp only [q11, q3, q6, q8, q9] at k3
  have k4 : zu_WDC (zq_ev r (0, [(2, 1)])) (zq_ev r (0, [(1, 1)])) (zq_ev r (0, [(6, 1)])) (zq_ev r (0, [(7, 1)])) (zq_ev r (0, [(9, 1)])) P h := zj_use x_WDC (zq_okX_t (zq_okX_t (zq_okX_t (hK))))
  simp only [q11, q3, q7, q8, q9] at k4
  obtain t1 := zu_nL_l (P := P) (h := h) (bt := r 0) (n := r 1) (g := r 2) (co := r 3) (nu := r 4) (j := r 5) (s := r 6) (e := r 7) (b := r 8) (c := r 9) a1 a2 s1 s2 k1 k2 k3 k4
  obtain ⟨rq, hr⟩ : ∃ rq : Nat → Int, (∀ i, i < 10 → rq i = r i) := ⟨r, fun i hi => rfl⟩
  have v1 : rq 1 = r 1 := hr 1 (by decide)
  have v2 : rq 2 = r 2 := hr 2 (by decide)
  have v3 : rq 3 = r 3 := hr 3 (by decide)
  have v4 : rq 4 = r 4 := hr 4 (by decide)
  have v5 : rq 5 = r 5 := hr 5 (by decide)
  have g0 : zq_ev rq (0, [(3, 1)]) = r 3 := zu_f1 v3
  have g1 : zq_ev rq (0, [(4, 1)]) = r 4 := zu_f1 v4
  have g2 : zq_ev rq (0, [(2, 1)]) = r 2 := zu_f1 v2
  have g3 : zq_ev rq (0, [(1, 1)]) = r 1 := zu_f1 v1
  have g4 : zq_ev rq (1, [(5, 1)]) = r 5 + 1 := zu_f2 v5 _
  exact ⟨_, List.mem_cons_self .., rq, hr, zq_MeS_mk rfl hT (zq_all_nil) zq_fan (zq_fan) rfl (zu_fac ((x_NMD _ _ _).mpr (by show zu_NMD (zq_ev rq (0, [(3, 1)])) (zq_ev rq (0, [(4, 1)])) (zq_ev rq (0, [(2, 1)])) (zq_ev rq (0, [(1, 1)])) (zq_ev rq (1, [(5, 1)])) P h; simp only [g0, g1, g2, g3, g4]; exact t1)) zq_fan)⟩
noncomputable def zu_nD : zq_S × List zq_S := (([], [], [(-48, [(8, 1)]), (57, [(8, -1)]), (1001, [(9, -1)]), (0, [(9, 1)])], [], [((0, [(0, 1)]), (0, [(6, 1)]), (0, [(8, 1)])), ((0, [(3, 1)]), (0, [(5, 1)]), (30, [])), ((0, [(4, 1)]), (0, [(5, 1)]), (0, [(9, 1)]))], [], [(21, [(0, [(0, 1)]), (0, [(1, 1)]), (0, [(2, 1)])]), (104, [(0, [(3, 1)]), (0, [(4, 1)]), (0, [(2, 1)]), (0, [(1, 1)]), (0, [(5, 1)])]), (110, [(0, [(2, 1)]), (0, [(1, 1)]), (0, [(5, 1)]), (0, [(6, 1)]), (0, [(7, 1)])]), (119, [(0, [(2, 1)]), (0, [(1, 1)]), (0, [(6, 1)]), (0, [(7, 1)]), (0, [(9, 1)])])], 10), [([], [], [], [], [], [], [(104, [(0, [(3, 1)]), (0, [(4, 1)]), (0, [(2, 1)]), (0, [(1, 1)]), (1, [(5, 1)])])], 10)])
theorem zu_nD_l {P : zq_Ty} {h : zq_H} {bt n g co nu j s e b v : Int} (a1 : 0 ≤ b - 48) (a2 : 0 ≤ -b + 57) (a3 : 0 ≤ -v + 1001) (a4 : 0 ≤ v) (s1 : 0 ≤ bt ∧ P (bt).toNat ≠ none ∧ h (bt).toNat s = b) (s2 : 0 ≤ co ∧ P (co).toNat ≠ none ∧ h (co).toNat j = 30) (s3 : 0 ≤ nu ∧ P (nu).toNat ≠ none ∧ h (nu).toNat j = v) (k1 : zu_TCc bt n g P h) (k2 : zu_NMD co nu g n j P h) (k3 : zu_SE g n j s e P h) (k4 : zu_NVC g n s e v P h) : (zu_NMD co nu g n (j + 1) P h) := by
  obtain ⟨z1, z2, z0, z3, z4⟩ := k2
  obtain ⟨y1, y2, y3, y4, y5, y6⟩ := k3
  have d := zu_dgc k1 y2 (by omega) s1.2.2 (by omega) (by omega)
  have kd : zu_kd (zu_dg g n s) = 2 := by rw [d]; exact zu_kd2 (by omega) (by omega)
  have ec : (zu_tk (zu_dg g n) s e).2.2.1 = 50 := by
    show (if zu_kd (zu_dg g n s) = 1 then _ else if zu_kd (zu_dg g n s) = 2 then _ else _) = _
    rw [if_neg (by omega), if_pos kd]
  have ev : (zu_tk (zu_dg g n) s e).2.2.2 = v := by
    show (if zu_kd (zu_dg g n s) = 2 then _ else _) = _
    rw [if_pos kd]
    exact k4.2.symm
  refine ⟨z1, z2, z0, by omega, fun q x y => ?_⟩
  by_cases hq : q < j
  · exact z4 q x hq
  · have e0 : q = j := by omega
    rw [e0]
    refine ⟨_, y5, ?_, ?_, ?_⟩
    · rw [s2.2.2, ec]; decide
    · rw [s2.2.2]; decide
    · intro _
      rw [s3.2.2, ev]
      unfold zu_vv
      exact ⟨by omega, by omega⟩
theorem zu_nD_ok {w : zq_Wd} (x_TCc : zj_is w 21 (fun q => zu_TCc (q 0) (q 1) (q 2))) (x_NMD : zj_is w 104 (fun q => zu_NMD (q 0) (q 1) (q 2) (q 3) (q 4))) (x_SE : zj_is w 110 (fun q => zu_SE (q 0) (q 1) (q 2) (q 3) (q 4))) (x_NVC : zj_is w 119 (fun q => zu_NVC (q 0) (q 1) (q 2) (q 3) (q 4))) : zq_okG1 w zu_nD := by
  refine ⟨rfl, rfl, zu_fac ⟨rfl, by decide⟩ zq_fan, ?_⟩
  intro r P h H hM
  have q0 : zq_ev r (-48, [(8, 1)]) = r 8 - 48 := zu_e3 _ _ _
  have q1 : zq_ev r (57, [(8, -1)]) = -r 8 + 57 := zu_e5 _ _ _
  have q2 : zq_ev r (1001, [(9, -1)]) = -r 9 + 1001 := zu_e5 _ _ _
  have q3 : zq_ev r (0, [(9, 1)]) = r 9 := zu_e1 _ _
  have q4 : zq_ev r (0, [(0, 1)]) = r 0 := zu_e1 _ _
  have q5 : zq_ev r (0, [(6, 1)]) = r 6 := zu_e1 _ _
  have q6 : zq_ev r (0, [(8, 1)]) = r 8 := zu_e1 _ _
  have q7 : zq_ev r (0, [(3, 1)]) = r 3 := zu_e1 _ _
  have q8 : zq_ev r (0, [(5, 1)]) = r 5 := zu_e1 _ _
  have q9 : zq_ev r (30, []) = 30 := zu_e0 _ _
  have q10 : zq_ev r (0, [(4, 1)]) = r 4 := zu_e1 _ _
  have q11 : zq_ev r (0, [(1, 1)]) = r 1 := zu_e1 _ _
  have q12 : zq_ev r (0, [(2, 1)]) = r 2 := zu_e1 _ _
  have q13 : zq_ev r (0, [(7, 1)]) = r 7 := zu_e1 _ _
  obtain ⟨hT, hC, hF, hS, -, hK⟩ := hM
  have c := hC.1
  have a1 := zq_all_1 c
  rw [q0] at a1
  have c := zq_all_t c
  have a2 := zq_all_1 c
  rw [q1] at a2
  have c := zq_all_t c
  have a3 := zq_all_1 c
  rw [q2] at a3
  have c := zq_all_t c
  have a4 := zq_all_1 c
  rw [q3] at a4
  have s1 := zq_okS_1 (hS)
  simp only [q4, q5, q6] at s1
  have s2 := zq_okS_1 (zq_okS_t (hS))
  simp only [q7, q8, q9] at s2
  have s3 := zq_okS_1 (zq_okS_t (zq_okS_t (hS)))
  simp only [q10, q3, q8] at s3
  have k1 : zu_TCc (zq_ev r (0, [(0, 1)])) (zq_ev r (0, [(1, 1)])) (zq_ev r (0, [(2, 1)])) P h := zj_use x_TCc (hK)
  simp only [q11, q12, q4] at k1
  have k2 : zu_NMD (zq_ev r (0, [(3, 1)])) (zq_ev r (0, [(4, 1)])) (zq_ev r (0, [(2, 1)])) (zq_ev r (0, [(1, 1)])) (zq_ev r (0, [(5, 1)])) P h := zj_use x_NMD (zq_okX_t (hK))
  simp only [q10, q11, q12, q7, q8] at k2
  have k3 : zu_SE (zq_ev r (0, [(2, 1)])) (zq_ev r (0, [(1, 1)])) (zq_ev r (0, [(5, 1)])) (zq_ev r (0, [(6, 1)])) (zq_ev r (0, [(7, 1)])) P h := zj_use x_SE (zq_okX_t (zq_okX_t (hK)))
  simp only [q11, q12, q13, q5, q8] at k3
  have k4 : zu_NVC (zq_ev r (0, [(2, 1)])) (zq_ev r (0, [(1, 1)])) (zq_ev r (0, [(6, 1)])) (zq_ev r (0, [(7, 1)])) (zq_ev r (0, [(9, 1)])) P h := zj_use x_NVC (zq_okX_t (zq_okX_t (zq_okX_t (hK))))
  simp only [q11, q12, q13, q3, q5] at k4
  obtain t1 := zu_nD_l (P := P) (h := h) (bt := r 0) (n := r 1) (g := r 2) (co := r 3) (nu := r 4) (j := r 5) (s := r 6) (e := r 7) (b := r 8) (v := r 9) a1 a2 a3 a4 s1 s2 s3 k1 k2 k3 k4
  obtain ⟨rq, hr⟩ : ∃ rq : Nat → Int, (∀ i, i < 10 → rq i = r i) := ⟨r, fun i hi => rfl⟩
  have v1 : rq 1 = r 1 := hr 1 (by decide)
  have v2 : rq 2 = r 2 := hr 2 (by decide)
  have v3 : rq 3 = r 3 := hr 3 (by decide)
  have v4 : rq 4 = r 4 := hr 4 (by decide)
  have v5 : rq 5 = r 5 := hr 5 (by decide)
  have g0 : zq_ev rq (0, [(3, 1)]) = r 3 := zu_f1 v3
  have g1 : zq_ev rq (0, [(4, 1)]) = r 4 := zu_f1 v4
  have g2 : zq_ev rq (0, [(2, 1)]) = r 2 := zu_f1 v2
  have g3 : zq_ev rq (0, [(1, 1)]) = r 1 := zu_f1 v1
  have g4 : zq_ev rq (1, [(5, 1)]) = r 5 + 1 := zu_f2 v5 _
  exact ⟨_, List.mem_cons_self .., rq, hr, zq_MeS_mk rfl hT (zq_all_nil) zq_fan (zq_fan) rfl (zu_fac ((x_NMD _ _ _).mpr (by show zu_NMD (zq_ev rq (0, [(3, 1)])) (zq_ev rq (0, [(4, 1)])) (zq_ev rq (0, [(2, 1)])) (zq_ev rq (0, [(1, 1)])) (zq_ev rq (1, [(5, 1)])) P h; simp only [g0, g1, g2, g3, g4]; exact t1)) zq_fan)⟩
noncomputable def zu_nOa : zq_S × List zq_S := (([], [], [(0, [(8, 1)]), (47, [(8, -1)])], [], [((0, [(0, 1)]), (0, [(6, 1)]), (0, [(8, 1)])), ((0, [(3, 1)]), (0, [(5, 1)]), (32, [(8, 1)]))], [], [(21, [(0, [(0, 1)]), (0, [(1, 1)]), (0, [(2, 1)])]), (104, [(0, [(3, 1)]), (0, [(4, 1)]), (0, [(2, 1)]), (0, [(1, 1)]), (0, [(5, 1)])]), (110, [(0, [(2, 1)]), (0, [(1, 1)]), (0, [(5, 1)]), (0, [(6, 1)]), (0, [(7, 1)])])], 9), [([], [], [], [], [], [], [(104, [(0, [(3, 1)]), (0, [(4, 1)]), (0, [(2, 1)]), (0, [(1, 1)]), (1, [(5, 1)])])], 9)])
theorem zu_nOa_l {P : zq_Ty} {h : zq_H} {bt n g co nu j s e b : Int} (a1 : 0 ≤ b) (a2 : 0 ≤ -b + 47) (s1 : 0 ≤ bt ∧ P (bt).toNat ≠ none ∧ h (bt).toNat s = b) (s2 : 0 ≤ co ∧ P (co).toNat ≠ none ∧ h (co).toNat j = b + 32) (k1 : zu_TCc bt n g P h) (k2 : zu_NMD co nu g n j P h) (k3 : zu_SE g n j s e P h) : (zu_NMD co nu g n (j + 1) P h) := by
  obtain ⟨z1, z2, z0, z3, z4⟩ := k2
  obtain ⟨y1, y2, y3, y4, y5, y6⟩ := k3
  have d := zu_dgc k1 y2 (by omega) s1.2.2 (by omega) (by omega)
  have kd : zu_kd (zu_dg g n s) = 0 ∨ zu_kd (zu_dg g n s) = 3 := by
    rw [d]
    rcases zu_kd_cases b with ⟨q1, q2⟩ | ⟨q1, q2, q3⟩ | ⟨q1, q2, q3⟩ | ⟨q1, q2, q3, q4⟩ <;> omega
  have ec : (zu_tk (zu_dg g n) s e).2.2.1 = 100 + b := by
    show (if zu_kd (zu_dg g n s) = 1 then _ else if zu_kd (zu_dg g n s) = 2 then _ else _) = _
    rw [if_neg (by omega), if_neg (by omega), d]
  refine ⟨z1, z2, z0, by omega, fun q x y => ?_⟩
  by_cases hq : q < j
  · exact z4 q x hq
  · have e0 : q = j := by omega
    rw [e0]
    refine ⟨_, y5, ?_, ?_, ?_⟩
    · rw [s2.2.2, ec, zu_mp_hi (by omega)]; omega
    · rw [s2.2.2]; omega
    · intro w
      rw [ec] at w
      exfalso
      omega
theorem zu_nOa_ok {w : zq_Wd} (x_TCc : zj_is w 21 (fun q => zu_TCc (q 0) (q 1) (q 2))) (x_NMD : zj_is w 104 (fun q => zu_NMD (q 0) (q 1) (q 2) (q 3) (q 4))) (x_SE : zj_is w 110 (fun q => zu_SE (q 0) (q 1) (q 2) (q 3) (q 4))) : zq_okG1 w zu_nOa := by
  refine ⟨rfl, rfl, zu_fac ⟨rfl, by decide⟩ zq_fan, ?_⟩
  intro r P h H hM
  have q0 : zq_ev r (0, [(8, 1)]) = r 8 := zu_e1 _ _
  have q1 : zq_ev r (47, [(8, -1)]) = -r 8 + 47 := zu_e5 _ _ _
  have q2 : zq_ev r (0, [(0, 1)]) = r 0 := zu_e1 _ _
  have q3 : zq_ev r (0, [(6, 1)]) = r 6 := zu_e1 _ _
  have q4 : zq_ev r (0, [(3, 1)]) = r 3 := zu_e1 _ _
  have q5 : zq_ev r (0, [(5, 1)]) = r 5 := zu_e1 _ _
  have q6 : zq_ev r (32, [(8, 1)]) = r 8 + 32 := zu_e2 _ _ _
  have q7 : zq_ev r (0, [(1, 1)]) = r 1 := zu_e1 _ _
  have q8 : zq_ev r (0, [(2, 1)]) = r 2 := zu_e1 _ _
  have q9 : zq_ev r (0, [(4, 1)]) = r 4 := zu_e1 _ _
  have q10 : zq_ev r (0, [(7, 1)]) = r 7 := zu_e1 _ _
  obtain ⟨hT, hC, hF, hS, -, hK⟩ := hM
  have c := hC.1
  have a1 := zq_all_1 c
  rw [q0] at a1
  have c := zq_all_t c
  have a2 := zq_all_1 c
  rw [q1] at a2
  have s1 := zq_okS_1 (hS)
  simp only [q0, q2, q3] at s1
  have s2 := zq_okS_1 (zq_okS_t (hS))
  simp only [q4, q5, q6] at s2
  have k1 : zu_TCc (zq_ev r (0, [(0, 1)])) (zq_ev r (0, [(1, 1)])) (zq_ev r (0, [(2, 1)])) P h := zj_use x_TCc (hK)
  simp only [q2, q7, q8] at k1
  have k2 : zu_NMD (zq_ev r (0, [(3, 1)])) (zq_ev r (0, [(4, 1)])) (zq_ev r (0, [(2, 1)])) (zq_ev r (0, [(1, 1)])) (zq_ev r (0, [(5, 1)])) P h := zj_use x_NMD (zq_okX_t (hK))
  simp only [q4, q5, q7, q8, q9] at k2
  have k3 : zu_SE (zq_ev r (0, [(2, 1)])) (zq_ev r (0, [(1, 1)])) (zq_ev r (0, [(5, 1)])) (zq_ev r (0, [(6, 1)])) (zq_ev r (0, [(7, 1)])) P h := zj_use x_SE (zq_okX_t (zq_okX_t (hK)))
  simp only [q10, q3, q5, q7, q8] at k3
  obtain t1 := zu_nOa_l (P := P) (h := h) (bt := r 0) (n := r 1) (g := r 2) (co := r 3) (nu := r 4) (j := r 5) (s := r 6) (e := r 7) (b := r 8) a1 a2 s1 s2 k1 k2 k3
  obtain ⟨rq, hr⟩ : ∃ rq : Nat → Int, (∀ i, i < 9 → rq i = r i) := ⟨r, fun i hi => rfl⟩
  have v1 : rq 1 = r 1 := hr 1 (by decide)
  have v2 : rq 2 = r 2 := hr 2 (by decide)
  have v3 : rq 3 = r 3 := hr 3 (by decide)
  have v4 : rq 4 = r 4 := hr 4 (by decide)
  have v5 : rq 5 = r 5 := hr 5 (by decide)
  have g0 : zq_ev rq (0, [(3, 1)]) = r 3 := zu_f1 v3
  have g1 : zq_ev rq (0, [(4, 1)]) = r 4 := zu_f1 v4
  have g2 : zq_ev rq (0, [(2, 1)]) = r 2 := zu_f1 v2
  have g3 : zq_ev rq (0, [(1, 1)]) = r 1 := zu_f1 v1
  have g4 : zq_ev rq (1, [(5, 1)]) = r 5 + 1 := zu_f2 v5 _
  exact ⟨_, List.mem_cons_self .., rq, hr, zq_MeS_mk rfl hT (zq_all_nil) zq_fan (zq_fan) rfl (zu_fac ((x_NMD _ _ _).mpr (by show zu_NMD (zq_ev rq (0, [(3, 1)])) (zq_ev rq (0, [(4, 1)])) (zq_ev rq (0, [(2, 1)])) (zq_ev rq (0, [(1, 1)])) (zq_ev rq (1, [(5, 1)])) P h; simp only [g0, g1, g2, g3, g4]; exact t1)) zq_fan)⟩
noncomputable def zu_nOb : zq_S × List zq_S := (([], [], [(-58, [(8, 1)]), (96, [(8, -1)])], [], [((0, [(0, 1)]), (0, [(6, 1)]), (0, [(8, 1)])), ((0, [(3, 1)]), (0, [(5, 1)]), (32, [(8, 1)]))], [], [(21, [(0, [(0, 1)]), (0, [(1, 1)]), (0, [(2, 1)])]), (104, [(0, [(3, 1)]), (0, [(4, 1)]), (0, [(2, 1)]), (0, [(1, 1)]), (0, [(5, 1)])]), (110, [(0, [(2, 1)]), (0, [(1, 1)]), (0, [(5, 1)]), (0, [(6, 1)]), (0, [(7, 1)])])], 9), [([], [], [], [], [], [], [(104, [(0, [(3, 1)]), (0, [(4, 1)]), (0, [(2, 1)]), (0, [(1, 1)]), (1, [(5, 1)])])], 9)])
theorem zu_nOb_l {P : zq_Ty} {h : zq_H} {bt n g co nu j s e b : Int} (a1 : 0 ≤ b - 58) (a2 : 0 ≤ -b + 96) (s1 : 0 ≤ bt ∧ P (bt).toNat ≠ none ∧ h (bt).toNat s = b) (s2 : 0 ≤ co ∧ P (co).toNat ≠ none ∧ h (co).toNat j = b + 32) (k1 : zu_TCc bt n g P h) (k2 : zu_NMD co nu g n j P h) (k3 : zu_SE g n j s e P h) : (zu_NMD co nu g n (j + 1) P h) := by
  obtain ⟨z1, z2, z0, z3, z4⟩ := k2
  obtain ⟨y1, y2, y3, y4, y5, y6⟩ := k3
  have d := zu_dgc k1 y2 (by omega) s1.2.2 (by omega) (by omega)
  have kd : zu_kd (zu_dg g n s) = 0 ∨ zu_kd (zu_dg g n s) = 3 := by
    rw [d]
    rcases zu_kd_cases b with ⟨q1, q2⟩ | ⟨q1, q2, q3⟩ | ⟨q1, q2, q3⟩ | ⟨q1, q2, q3, q4⟩ <;> omega
  have ec : (zu_tk (zu_dg g n) s e).2.2.1 = 100 + b := by
    show (if zu_kd (zu_dg g n s) = 1 then _ else if zu_kd (zu_dg g n s) = 2 then _ else _) = _
    rw [if_neg (by omega), if_neg (by omega), d]
  refine ⟨z1, z2, z0, by omega, fun q x y => ?_⟩
  by_cases hq : q < j
  · exact z4 q x hq
  · have e0 : q = j := by omega
    rw [e0]
    refine ⟨_, y5, ?_, ?_, ?_⟩
    · rw [s2.2.2, ec, zu_mp_hi (by omega)]; omega
    · rw [s2.2.2]; omega
    · intro w
      rw [ec] at w
      exfalso
      omega
theorem zu_nOb_ok {w : zq_Wd} (x_TCc : zj_is w 21 (fun q => zu_TCc (q 0) (q 1) (q 2))) (x_NMD : zj_is w 104 (fun q => zu_NMD (q 0) (q 1) (q 2) (q 3) (q 4))) (x_SE : zj_is w 110 (fun q => zu_SE (q 0) (q 1) (q 2) (q 3) (q 4))) : zq_okG1 w zu_nOb := by
  refine ⟨rfl, rfl, zu_fac ⟨rfl, by decide⟩ zq_fan, ?_⟩
  intro r P h H hM
  have q0 : zq_ev r (-58, [(8, 1)]) = r 8 - 58 := zu_e3 _ _ _
  have q1 : zq_ev r (96, [(8, -1)]) = -r 8 + 96 := zu_e5 _ _ _
  have q2 : zq_ev r (0, [(0, 1)]) = r 0 := zu_e1 _ _
  have q3 : zq_ev r (0, [(6, 1)]) = r 6 := zu_e1 _ _
  have q4 : zq_ev r (0, [(8, 1)]) = r 8 := zu_e1 _ _
  have q5 : zq_ev r (0, [(3, 1)]) = r 3 := zu_e1 _ _
  have q6 : zq_ev r (0, [(5, 1)]) = r 5 := zu_e1 _ _
  have q7 : zq_ev r (32, [(8, 1)]) = r 8 + 32 := zu_e2 _ _ _
  have q8 : zq_ev r (0, [(1, 1)]) = r 1 := zu_e1 _ _
  have q9 : zq_ev r (0, [(2, 1)]) = r 2 := zu_e1 _ _
  have q10 : zq_ev r (0, [(4, 1)]) = r 4 := zu_e1 _ _
  have q11 : zq_ev r (0, [(7, 1)]) = r 7 := zu_e1 _ _
  obtain ⟨hT, hC, hF, hS, -, hK⟩ := hM
  have c := hC.1
  have a1 := zq_all_1 c
  rw [q0] at a1
  have c := zq_all_t c
  have a2 := zq_all_1 c
  rw [q1] at a2
  have s1 := zq_okS_1 (hS)
  simp only [q2, q3, q4] at s1
  have s2 := zq_okS_1 (zq_okS_t (hS))
  simp only [q5, q6, q7] at s2
  have k1 : zu_TCc (zq_ev r (0, [(0, 1)])) (zq_ev r (0, [(1, 1)])) (zq_ev r (0, [(2, 1)])) P h := zj_use x_TCc (hK)
  simp only [q2, q8, q9] at k1
  have k2 : zu_NMD (zq_ev r (0, [(3, 1)])) (zq_ev r (0, [(4, 1)])) (zq_ev r (0, [(2, 1)])) (zq_ev r (0, [(1, 1)])) (zq_ev r (0, [(5, 1)])) P h := zj_use x_NMD (zq_okX_t (hK))
  simp only [q10, q5, q6, q8, q9] at k2
  have k3 : zu_SE (zq_ev r (0, [(2, 1)])) (zq_ev r (0, [(1, 1)])) (zq_ev r (0, [(5, 1)])) (zq_ev r (0, [(6, 1)])) (zq_ev r (0, [(7, 1)])) P h := zj_use x_SE (zq_okX_t (zq_okX_t (hK)))
  simp only [q11, q3, q6, q8, q9] at k3
  obtain t1 := zu_nOb_l (P := P) (h := h) (bt := r 0) (n := r 1) (g := r 2) (co := r 3) (nu := r 4) (j := r 5) (s := r 6) (e := r 7) (b := r 8) a1 a2 s1 s2 k1 k2 k3
  obtain ⟨rq, hr⟩ : ∃ rq : Nat → Int, (∀ i, i < 9 → rq i = r i) := ⟨r, fun i hi => rfl⟩
  have v1 : rq 1 = r 1 := hr 1 (by decide)
  have v2 : rq 2 = r 2 := hr 2 (by decide)
  have v3 : rq 3 = r 3 := hr 3 (by decide)
  have v4 : rq 4 = r 4 := hr 4 (by decide)
  have v5 : rq 5 = r 5 := hr 5 (by decide)
  have g0 : zq_ev rq (0, [(3, 1)]) = r 3 := zu_f1 v3
  have g1 : zq_ev rq (0, [(4, 1)]) = r 4 := zu_f1 v4
  have g2 : zq_ev rq (0, [(2, 1)]) = r 2 := zu_f1 v2
  have g3 : zq_ev rq (0, [(1, 1)]) = r 1 := zu_f1 v1
  have g4 : zq_ev rq (1, [(5, 1)]) = r 5 + 1 := zu_f2 v5 _
  exact ⟨_, List.mem_cons_self .., rq, hr, zq_MeS_mk rfl hT (zq_all_nil) zq_fan (zq_fan) rfl (zu_fac ((x_NMD _ _ _).mpr (by show zu_NMD (zq_ev rq (0, [(3, 1)])) (zq_ev rq (0, [(4, 1)])) (zq_ev rq (0, [(2, 1)])) (zq_ev rq (0, [(1, 1)])) (zq_ev rq (1, [(5, 1)])) P h; simp only [g0, g1, g2, g3, g4]; exact t1)) zq_fan)⟩
noncomputable def zu_nOc : zq_S × List zq_S := (([], [], [(-123, [(8, 1)]), (255, [(8, -1)])], [], [((0, [(0, 1)]), (0, [(6, 1)]), (0, [(8, 1)])), ((0, [(3, 1)]), (0, [(5, 1)]), (32, [(8, 1)]))], [], [(21, [(0, [(0, 1)]), (0, [(1, 1)]), (0, [(2, 1)])]), (104, [(0, [(3, 1)]), (0, [(4, 1)]), (0, [(2, 1)]), (0, [(1, 1)]), (0, [(5, 1)])]), (110, [(0, [(2, 1)]), (0, [(1, 1)]), (0, [(5, 1)]), (0, [(6, 1)]), (0, [(7, 1)])])], 9), [([], [], [], [], [], [], [(104, [(0, [(3, 1)]), (0, [(4, 1)]), (0, [(2, 1)]), (0, [(1, 1)]), (1, [(5, 1)])])], 9)])
theorem zu_nOc_l {P : zq_Ty} {h : zq_H} {bt n g co nu j s e b : Int} (a1 : 0 ≤ b - 123) (a2 : 0 ≤ -b + 255) (s1 : 0 ≤ bt ∧ P (bt).toNat ≠ none ∧ h (bt).toNat s = b) (s2 : 0 ≤ co ∧ P (co).toNat ≠ none ∧ h (co).toNat j = b + 32) (k1 : zu_TCc bt n g P h) (k2 : zu_NMD co nu g n j P h) (k3 : zu_SE g n j s e P h) : (zu_NMD co nu g n (j + 1) P h) := by
  obtain ⟨z1, z2, z0, z3, z4⟩ := k2
  obtain ⟨y1, y2, y3, y4, y5, y6⟩ := k3
  have d := zu_dgc k1 y2 (by omega) s1.2.2 (by omega) (by omega)
  have kd : zu_kd (zu_dg g n s) = 0 ∨ zu_kd (zu_dg g n s) = 3 := by
    rw [d]
    rcases zu_kd_cases b with ⟨q1, q2⟩ | ⟨q1, q2, q3⟩ | ⟨q1, q2, q3⟩ | ⟨q1, q2, q3, q4⟩ <;> omega
  have ec : (zu_tk (zu_dg g n) s e).2.2.1 = 100 + b := by
    show (if zu_kd (zu_dg g n s) = 1 then _ else if zu_kd (zu_dg g n s) = 2 then _ else _) = _
    rw [if_neg (by omega), if_neg (by omega), d]
  refine ⟨z1, z2, z0, by omega, fun q x y => ?_⟩
  by_cases hq : q < j
  · exact z4 q x hq
  · have e0 : q = j := by omega
    rw [e0]
    refine ⟨_, y5, ?_, ?_, ?_⟩
    · rw [s2.2.2, ec, zu_mp_hi (by omega)]; omega
    · rw [s2.2.2]; omega
    · intro w
      rw [ec] at w
      exfalso
      omega
theorem zu_nOc_ok {w : zq_Wd} (x_TCc : zj_is w 21 (fun q => zu_TCc (q 0) (q 1) (q 2))) (x_NMD : zj_is w 104 (fun q => zu_NMD (q 0) (q 1) (q 2) (q 3) (q 4))) (x_SE : zj_is w 110 (fun q => zu_SE (q 0) (q 1) (q 2) (q 3) (q 4))) : zq_okG1 w zu_nOc := by
  refine ⟨rfl, rfl, zu_fac ⟨rfl, by decide⟩ zq_fan, ?_⟩
  intro r P h H hM
  have q0 : zq_ev r (-123, [(8, 1)]) = r 8 - 123 := zu_e3 _ _ _
  have q1 : zq_ev r (255, [(8, -1)]) = -r 8 + 255 := zu_e5 _ _ _
  have q2 : zq_ev r (0, [(0, 1)]) = r 0 := zu_e1 _ _
  have q3 : zq_ev r (0, [(6, 1)]) = r 6 := zu_e1 _ _
  have q4 : zq_ev r (0, [(8, 1)]) = r 8 := zu_e1 _ _
  have q5 : zq_ev r (0, [(3, 1)]) = r 3 := zu_e1 _ _
  have q6 : zq_ev r (0, [(5, 1)]) = r 5 := zu_e1 _ _
  have q7 : zq_ev r (32, [(8, 1)]) = r 8 + 32 := zu_e2 _ _ _
  have q8 : zq_ev r (0, [(1, 1)]) = r 1 := zu_e1 _ _
  have q9 : zq_ev r (0, [(2, 1)]) = r 2 := zu_e1 _ _
  have q10 : zq_ev r (0, [(4, 1)]) = r 4 := zu_e1 _ _
  have q11 : zq_ev r (0, [(7, 1)]) = r 7 := zu_e1 _ _
  obtain ⟨hT, hC, hF, hS, -, hK⟩ := hM
  have c := hC.1
  have a1 := zq_all_1 c
  rw [q0] at a1
  have c := zq_all_t c
  have a2 := zq_all_1 c
  rw [q1] at a2
  have s1 := zq_okS_1 (hS)
  simp only [q2, q3, q4] at s1
  have s2 := zq_okS_1 (zq_okS_t (hS))
  simp only [q5, q6, q7] at s2
  have k1 : zu_TCc (zq_ev r (0, [(0, 1)])) (zq_ev r (0, [(1, 1)])) (zq_ev r (0, [(2, 1)])) P h := zj_use x_TCc (hK)
  simp only [q2, q8, q9] at k1
  have k2 : zu_NMD (zq_ev r (0, [(3, 1)])) (zq_ev r (0, [(4, 1)])) (zq_ev r (0, [(2, 1)])) (zq_ev r (0, [(1, 1)])) (zq_ev r (0, [(5, 1)])) P h := zj_use x_NMD (zq_okX_t (hK))
  simp only [q10, q5, q6, q8, q9] at k2
  have k3 : zu_SE (zq_ev r (0, [(2, 1)])) (zq_ev r (0, [(1, 1)])) (zq_ev r (0, [(5, 1)])) (zq_ev r (0, [(6, 1)])) (zq_ev r (0, [(7, 1)])) P h := zj_use x_SE (zq_okX_t (zq_okX_t (hK)))
  simp only [q11, q3, q6, q8, q9] at k3
  obtain t1 := zu_nOc_l (P := P) (h := h) (bt := r 0) (n := r 1) (g := r 2) (co := r 3) (nu := r 4) (j := r 5) (s := r 6) (e := r 7) (b := r 8) a1 a2 s1 s2 k1 k2 k3
  obtain ⟨rq, hr⟩ : ∃ rq : Nat → Int, (∀ i, i < 9 → rq i = r i) := ⟨r, fun i hi => rfl⟩
  have v1 : rq 1 = r 1 := hr 1 (by decide)
  have v2 : rq 2 = r 2 := hr 2 (by decide)
  have v3 : rq 3 = r 3 := hr 3 (by decide)
  have v4 : rq 4 = r 4 := hr 4 (by decide)
  have v5 : rq 5 = r 5 := hr 5 (by decide)
  have g0 : zq_ev rq (0, [(3, 1)]) = r 3 := zu_f1 v3
  have g1 : zq_ev rq (0, [(4, 1)]) = r 4 := zu_f1 v4
  have g2 : zq_ev rq (0, [(2, 1)]) = r 2 := zu_f1 v2
  have g3 : zq_ev rq (0, [(1, 1)]) = r 1 := zu_f1 v1
  have g4 : zq_ev rq (1, [(5, 1)]) = r 5 + 1 := zu_f2 v5 _
  exact ⟨_, List.mem_cons_self .., rq, hr, zq_MeS_mk rfl hT (zq_all_nil) zq_fan (zq_fan) rfl (zu_fac ((x_NMD _ _ _).mpr (by show zu_NMD (zq_ev rq (0, [(3, 1)])) (zq_ev rq (0, [(4, 1)])) (zq_ev rq (0, [(2, 1)])) (zq_ev rq (0, [(1, 1)])) (zq_ev rq (1, [(5, 1)])) P h; simp only [g0, g1, g2, g3, g4]; exact t1)) zq_fan)⟩
noncomputable def zu_nX : zq_S × List zq_S := (([], [], [(400, [(6, -1)]), (0, [(0, 1)])], [], [((0, [(2, 1)]), (0, [(6, 1)]), (0, [(0, 1)])), ((0, [(4, 1)]), (0, [(6, 1)]), (31, []))], [], [(103, [(0, [(2, 1)]), (0, [(3, 1)]), (0, [(1, 1)]), (0, [(0, 1)]), (0, [(6, 1)])]), (104, [(0, [(4, 1)]), (0, [(5, 1)]), (0, [(1, 1)]), (0, [(0, 1)]), (0, [(6, 1)])])], 7), [([], [], [], [], [], [], [(105, [(0, [(4, 1)]), (0, [(5, 1)]), (0, [(2, 1)]), (0, [(1, 1)]), (0, [(0, 1)]), (0, [(6, 1)])])], 7)])
theorem zu_nX_l {P : zq_Ty} {h : zq_H} {n g sa ea co nu t : Int} (a1 : 0 ≤ -t + 400) (a2 : 0 ≤ n) (s1 : 0 ≤ sa ∧ P (sa).toNat ≠ none ∧ h (sa).toNat t = n) (s2 : 0 ≤ co ∧ P (co).toNat ≠ none ∧ h (co).toNat t = 31) (k1 : zu_SGD sa ea g n t P h) (k2 : zu_NMD co nu g n t P h) : (zu_LXC co nu sa g n t P h) := by
  obtain ⟨z1, z2, z3, z4, z5, z6⟩ := k1
  obtain ⟨w1, w2, w0, w3, w4⟩ := k2
  refine ⟨w1, w2, z1, a2, z4, by omega, z5, s1.2.2, s2.2.2, fun j x y => ?_⟩
  obtain ⟨e, e1, e2, e3, e4⟩ := w4 j x y
  obtain ⟨y1, y2, y3, y4, y5, y6⟩ := z6 j x y
  rw [e1] at y5
  have ee := Option.some.inj y5
  refine ⟨e, e1, ?_, ?_, e2, fun _ => e3, e4⟩
  · rw [ee]; rfl
  · rw [ee]; exact y2
theorem zu_nX_ok {w : zq_Wd} (x_SGD : zj_is w 103 (fun q => zu_SGD (q 0) (q 1) (q 2) (q 3) (q 4))) (x_NMD : zj_is w 104 (fun q => zu_NMD (q 0) (q 1) (q 2) (q 3) (q 4))) (x_LXC : zj_is w 105 (fun q => zu_LXC (q 0) (q 1) (q 2) (q 3) (q 4) (q 5))) : zq_okG1 w zu_nX := by
  refine ⟨rfl, rfl, zu_fac ⟨rfl, by decide⟩ zq_fan, ?_⟩
  intro r P h H hM
  have q0 : zq_ev r (400, [(6, -1)]) = -r 6 + 400 := zu_e5 _ _ _
  have q1 : zq_ev r (0, [(0, 1)]) = r 0 := zu_e1 _ _
  have q2 : zq_ev r (0, [(2, 1)]) = r 2 := zu_e1 _ _
  have q3 : zq_ev r (0, [(6, 1)]) = r 6 := zu_e1 _ _
  have q4 : zq_ev r (0, [(4, 1)]) = r 4 := zu_e1 _ _
  have q5 : zq_ev r (31, []) = 31 := zu_e0 _ _
  have q6 : zq_ev r (0, [(3, 1)]) = r 3 := zu_e1 _ _
  have q7 : zq_ev r (0, [(1, 1)]) = r 1 := zu_e1 _ _
  have q8 : zq_ev r (0, [(5, 1)]) = r 5 := zu_e1 _ _
  obtain ⟨hT, hC, hF, hS, -, hK⟩ := hM
  have c := hC.1
  have a1 := zq_all_1 c
  rw [q0] at a1
  have c := zq_all_t c
  have a2 := zq_all_1 c
  rw [q1] at a2
  have s1 := zq_okS_1 (hS)
  simp only [q1, q2, q3] at s1
  have s2 := zq_okS_1 (zq_okS_t (hS))
  simp only [q3, q4, q5] at s2
  have k1 : zu_SGD (zq_ev r (0, [(2, 1)])) (zq_ev r (0, [(3, 1)])) (zq_ev r (0, [(1, 1)])) (zq_ev r (0, [(0, 1)])) (zq_ev r (0, [(6, 1)])) P h := zj_use x_SGD (hK)
  simp only [q1, q2, q3, q6, q7] at k1
  have k2 : zu_NMD (zq_ev r (0, [(4, 1)])) (zq_ev r (0, [(5, 1)])) (zq_ev r (0, [(1, 1)])) (zq_ev r (0, [(0, 1)])) (zq_ev r (0, [(6, 1)])) P h := zj_use x_NMD (zq_okX_t (hK))
  simp only [q1, q3, q4, q7, q8] at k2
  obtain t1 := zu_nX_l (P := P) (h := h) (n := r 0) (g := r 1) (sa := r 2) (ea := r 3) (co := r 4) (nu := r 5) (t := r 6) a1 a2 s1 s2 k1 k2
  obtain ⟨rq, hr⟩ : ∃ rq : Nat → Int, (∀ i, i < 7 → rq i = r i) := ⟨r, fun i hi => rfl⟩
  have v0 : rq 0 = r 0 := hr 0 (by decide)
  have v1 : rq 1 = r 1 := hr 1 (by decide)
  have v2 : rq 2 = r 2 := hr 2 (by decide)
  have v4 : rq 4 = r 4 := hr 4 (by decide)
  have v5 : rq 5 = r 5 := hr 5 (by decide)
  have v6 : rq 6 = r 6 := hr 6 (by decide)
  have g0 : zq_ev rq (0, [(4, 1)]) = r 4 := zu_f1 v4
  have g1 : zq_ev rq (0, [(5, 1)]) = r 5 := zu_f1 v5
  have g2 : zq_ev rq (0, [(2, 1)]) = r 2 := zu_f1 v2
  have g3 : zq_ev rq (0, [(1, 1)]) = r 1 := zu_f1 v1
  have g4 : zq_ev rq (0, [(0, 1)]) = r 0 := zu_f1 v0
  have g5 : zq_ev rq (0, [(6, 1)]) = r 6 := zu_f1 v6
  exact ⟨_, List.mem_cons_self .., rq, hr, zq_MeS_mk rfl hT (zq_all_nil) zq_fan (zq_fan) rfl (zu_fac ((x_LXC _ _ _).mpr (by show zu_LXC (zq_ev rq (0, [(4, 1)])) (zq_ev rq (0, [(5, 1)])) (zq_ev rq (0, [(2, 1)])) (zq_ev rq (0, [(1, 1)])) (zq_ev rq (0, [(0, 1)])) (zq_ev rq (0, [(6, 1)])) P h; simp only [g0, g1, g2, g3, g4, g5]; exact t1)) zq_fan)⟩
noncomputable def zu_w0 : zq_S × List zq_S := (([], [], [(0, [(2, -1), (3, 1)])], [], [], [], [], 4), [([], [], [], [], [], [], [(113, [(0, [(0, 1)]), (0, [(1, 1)]), (0, [(2, 1)]), (0, [(3, 1)]), (0, []), (0, []), (0, []), (0, [(4, 1)])]), (111, [(0, [(0, 1)]), (0, [(1, 1)]), (0, [(2, 1)]), (0, [(3, 1)]), (0, [(4, 1)])])], 5)])
theorem zu_w0_l {P : zq_Ty} {h : zq_H} {g n s e : Int} (a1 : 0 ≤ -s + e) : (∃ c : Int, zu_SCC g n s e 0 0 0 c P h ∧ zu_WDC g n s e c P h) := by
  refine ⟨_, ⟨Int.le_refl _, by omega, by omega, rfl⟩, ?_⟩
  exact zu_sc_0 _
theorem zu_w0_ok {w : zq_Wd} (x_SCC : zj_is w 113 (fun q => zu_SCC (q 0) (q 1) (q 2) (q 3) (q 4) (q 5) (q 6) (q 7))) (x_WDC : zj_is w 111 (fun q => zu_WDC (q 0) (q 1) (q 2) (q 3) (q 4))) : zq_okG1 w zu_w0 := by
  refine ⟨rfl, rfl, zu_fac ⟨rfl, by decide⟩ zq_fan, ?_⟩
  intro r P h H hM
  have q0 : zq_ev r (0, [(2, -1), (3, 1)]) = -r 2 + r 3 := by simp only [zq_ev, zq_ts] <;> omega
  obtain ⟨hT, hC, hF, hS, -, hK⟩ := hM
  have c := hC.1
  have a1 := zq_all_1 c
  rw [q0] at a1
  obtain ⟨y_0, t1, t2⟩ := zu_w0_l (P := P) (h := h) (g := r 0) (n := r 1) (s := r 2) (e := r 3) a1
  obtain ⟨rq, hr, w4⟩ : ∃ rq : Nat → Int, (∀ i, i < 4 → rq i = r i) ∧ rq 4 = y_0 := ⟨zq_up r 4 y_0, fun i hi => by rw [zu_up_ne (by omega)], rfl⟩
  have v0 : rq 0 = r 0 := hr 0 (by decide)
  have v1 : rq 1 = r 1 := hr 1 (by decide)
  have v2 : rq 2 = r 2 := hr 2 (by decide)
  have v3 : rq 3 = r 3 := hr 3 (by decide)
  have g0 : zq_ev rq (0, [(0, 1)]) = r 0 := zu_f1 v0
  have g1 : zq_ev rq (0, [(1, 1)]) = r 1 := zu_f1 v1
  have g2 : zq_ev rq (0, [(2, 1)]) = r 2 := zu_f1 v2
  have g3 : zq_ev rq (0, [(3, 1)]) = r 3 := zu_f1 v3
  have g4 : zq_ev rq (0, [(4, 1)]) = y_0 := zu_f1 w4
  have g5 : zq_ev rq (0, []) = 0 := zu_e0 _ _
  exact ⟨_, List.mem_cons_self .., rq, hr, zq_MeS_mk rfl hT (zq_all_nil) zq_fan (zq_fan) rfl (zu_fac ((x_SCC _ _ _).mpr (by show zu_SCC (zq_ev rq (0, [(0, 1)])) (zq_ev rq (0, [(1, 1)])) (zq_ev rq (0, [(2, 1)])) (zq_ev rq (0, [(3, 1)])) (zq_ev rq (0, [])) (zq_ev rq (0, [])) (zq_ev rq (0, [])) (zq_ev rq (0, [(4, 1)])) P h; simp only [g0, g1, g2, g3, g4, g5]; exact t1)) (zu_fac ((x_WDC _ _ _).mpr (by show zu_WDC (zq_ev rq (0, [(0, 1)])) (zq_ev rq (0, [(1, 1)])) (zq_ev rq (0, [(2, 1)])) (zq_ev rq (0, [(3, 1)])) (zq_ev rq (0, [(4, 1)])) P h; simp only [g0, g1, g2, g3, g4]; exact t2)) zq_fan))⟩
noncomputable def zu_wB1 : zq_S × List zq_S := (([], [], [(-32, [(8, 1)]), (32, [(8, -1)]), (0, [(2, 1), (3, -1), (6, 1)]), (0, [(2, -1), (3, 1), (6, -1)]), (0, [(6, 1)])], [], [], [], [(113, [(0, [(0, 1)]), (0, [(1, 1)]), (0, [(2, 1)]), (0, [(3, 1)]), (0, [(4, 1)]), (0, [(5, 1)]), (0, [(6, 1)]), (0, [(7, 1)])]), (115, [(0, [(4, 1)]), (0, [(8, 1)])])], 9), [([], [], [(0, [(5, -1), (7, 1)]), (0, [(5, 1), (7, -1)])], [], [], [], [], 9)])
theorem zu_wB1_l {P : zq_Ty} {h : zq_H} {g n s e i w m c v : Int} (a1 : 0 ≤ v - 32) (a2 : 0 ≤ -v + 32) (a3 : 0 ≤ s - e + m) (a4 : 0 ≤ -s + e - m) (a5 : 0 ≤ m) (k1 : zu_SCC g n s e i w m c P h) (k2 : zu_CH i v P h) : (0 ≤ -w + c ∧ 0 ≤ w - c) := by
  obtain ⟨z1, z2, z3, z4⟩ := k1
  obtain ⟨y1, y2, y3⟩ := k2
  have sp := zu_sp_b (l := zu_cC) z1 (by rw [zu_lenC]; omega) (y3.symm.trans (by omega) : zu_chC i = 32)
  rw [sp] at z4
  have q : c = w := by
    rw [z4]
    show (if 0 ≤ m ∧ zu_bs (zu_dg g n) (e - s - m).toNat (s + m) = [] then w else _) = w
    rw [show (e - s - m).toNat = 0 by omega]
    exact if_pos ⟨a5, rfl⟩
  exact ⟨by omega, by omega⟩
theorem zu_wB1_ok {w : zq_Wd} (x_SCC : zj_is w 113 (fun q => zu_SCC (q 0) (q 1) (q 2) (q 3) (q 4) (q 5) (q 6) (q 7))) (x_CH : zj_is w 115 (fun q => zu_CH (q 0) (q 1))) : zq_okG1 w zu_wB1 := by
  refine ⟨rfl, rfl, zu_fac ⟨rfl, by decide⟩ zq_fan, ?_⟩
  intro r P h H hM
  have q0 : zq_ev r (-32, [(8, 1)]) = r 8 - 32 := zu_e3 _ _ _
  have q1 : zq_ev r (32, [(8, -1)]) = -r 8 + 32 := zu_e5 _ _ _
  have q2 : zq_ev r (0, [(2, 1), (3, -1), (6, 1)]) = r 2 - r 3 + r 6 := by simp only [zq_ev, zq_ts] <;> omega
  have q3 : zq_ev r (0, [(2, -1), (3, 1), (6, -1)]) = -r 2 + r 3 - r 6 := by simp only [zq_ev, zq_ts] <;> omega
  have q4 : zq_ev r (0, [(6, 1)]) = r 6 := zu_e1 _ _
  have q5 : zq_ev r (0, [(0, 1)]) = r 0 := zu_e1 _ _
  have q6 : zq_ev r (0, [(1, 1)]) = r 1 := zu_e1 _ _
  have q7 : zq_ev r (0, [(2, 1)]) = r 2 := zu_e1 _ _
  have q8 : zq_ev r (0, [(3, 1)]) = r 3 := zu_e1 _ _
  have q9 : zq_ev r (0, [(4, 1)]) = r 4 := zu_e1 _ _
  have q10 : zq_ev r (0, [(5, 1)]) = r 5 := zu_e1 _ _
  have q11 : zq_ev r (0, [(7, 1)]) = r 7 := zu_e1 _ _
  have q12 : zq_ev r (0, [(8, 1)]) = r 8 := zu_e1 _ _
  obtain ⟨hT, hC, hF, hS, -, hK⟩ := hM
  have c := hC.1
  have a1 := zq_all_1 c
  rw [q0] at a1
  have c := zq_all_t c
  have a2 := zq_all_1 c
  rw [q1] at a2
  have c := zq_all_t c
  have a3 := zq_all_1 c
  rw [q2] at a3
  have c := zq_all_t c
  have a4 := zq_all_1 c
  rw [q3] at a4
  have c := zq_all_t c
  have a5 := zq_all_1 c
  rw [q4] at a5
  have k1 : zu_SCC (zq_ev r (0, [(0, 1)])) (zq_ev r (0, [(1, 1)])) (zq_ev r (0, [(2, 1)])) (zq_ev r (0, [(3, 1)])) (zq_ev r (0, [(4, 1)])) (zq_ev r (0, [(5, 1)])) (zq_ev r (0, [(6, 1)])) (zq_ev r (0, [(7, 1)])) P h := zj_use x_SCC (hK)
  simp only [q10, q11, q4, q5, q6, q7, q8, q9] at k1
  have k2 : zu_CH (zq_ev r (0, [(4, 1)])) (zq_ev r (0, [(8, 1)])) P h := zj_use x_CH (zq_okX_t (hK))
  simp only [q12, q9] at k2
  obtain ⟨c1, c2⟩ := zu_wB1_l (P := P) (h := h) (g := r 0) (n := r 1) (s := r 2) (e := r 3) (i := r 4) (w := r 5) (m := r 6) (c := r 7) (v := r 8) a1 a2 a3 a4 a5 k1 k2
  obtain ⟨rq, hr⟩ : ∃ rq : Nat → Int, (∀ i, i < 9 → rq i = r i) := ⟨r, fun i hi => rfl⟩
  have v5 : rq 5 = r 5 := hr 5 (by decide)
  have v7 : rq 7 = r 7 := hr 7 (by decide)
  have g0 : zq_ev rq (0, [(5, 1), (7, -1)]) = r 5 - r 7 := by simp only [zq_ev, zq_ts, v5, v7] <;> omega
  have g1 : zq_ev rq (0, [(5, -1), (7, 1)]) = -r 5 + r 7 := by simp only [zq_ev, zq_ts, v5, v7] <;> omega
  exact ⟨_, List.mem_cons_self .., rq, hr, zq_MeS_mk rfl hT (zq_all_cons (by rw [g1]; exact c1) (zq_all_cons (by rw [g0]; exact c2) (zq_all_nil))) zq_fan (zq_fan) rfl zq_fan⟩
noncomputable def zu_wB2 : zq_S × List zq_S := (([], [], [(-32, [(8, 1)]), (32, [(8, -1)]), (-1, [(2, -1), (3, 1), (6, -1)])], [], [], [], [(113, [(0, [(0, 1)]), (0, [(1, 1)]), (0, [(2, 1)]), (0, [(3, 1)]), (0, [(4, 1)]), (0, [(5, 1)]), (0, [(6, 1)]), (0, [(7, 1)])]), (115, [(0, [(4, 1)]), (0, [(8, 1)])])], 9), [([], [], [], [], [], [], [(113, [(0, [(0, 1)]), (0, [(1, 1)]), (0, [(2, 1)]), (0, [(3, 1)]), (1, [(4, 1)]), (1, [(5, 1)]), (0, []), (0, [(7, 1)])])], 9)])
theorem zu_wB2_l {P : zq_Ty} {h : zq_H} {g n s e i w m c v : Int} (a1 : 0 ≤ v - 32) (a2 : 0 ≤ -v + 32) (a3 : 0 ≤ -s + e - m - 1) (k1 : zu_SCC g n s e i w m c P h) (k2 : zu_CH i v P h) : (zu_SCC g n s e (i + 1) (w + 1) 0 c P h) := by
  obtain ⟨z1, z2, z3, z4⟩ := k1
  obtain ⟨y1, y2, y3⟩ := k2
  have sp := zu_sp_b (l := zu_cC) z1 (by rw [zu_lenC]; omega) (y3.symm.trans (by omega) : zu_chC i = 32)
  rw [sp] at z4
  have q : c = zu_sc (zu_dg g n) s e (w + 1) 0 (zu_sp (zu_cC.drop (i + 1).toNat)) := by
    rw [z4, zu_sc_0]
    show (if 0 ≤ m ∧ zu_bs (zu_dg g n) (e - s - m).toNat (s + m) = [] then w else _) = _
    refine if_neg (fun x => ?_)
    obtain ⟨x1, x2⟩ := x
    have := congrArg List.length x2
    rw [zu_bs_len] at this
    have this : (e - s - m).toNat = 0 := this
    omega
  exact ⟨by omega, by omega, by omega, q⟩
theorem zu_wB2_ok {w : zq_Wd} (x_SCC : zj_is w 113 (fun q => zu_SCC (q 0) (q 1) (q 2) (q 3) (q 4) (q 5) (q 6) (q 7))) (x_CH : zj_is w 115 (fun q => zu_CH (q 0) (q 1))) : zq_okG1 w zu_wB2 := by
  refine ⟨rfl, rfl, zu_fac ⟨rfl, by decide⟩ zq_fan, ?_⟩
  intro r P h H hM
  have q0 : zq_ev r (-32, [(8, 1)]) = r 8 - 32 := zu_e3 _ _ _
  have q1 : zq_ev r (32, [(8, -1)]) = -r 8 + 32 := zu_e5 _ _ _
  have q2 : zq_ev r (-1, [(2, -1), (3, 1), (6, -1)]) = -r 2 + r 3 - r 6 - 1 := by simp only [zq_ev, zq_ts] <;> omega
  have q3 : zq_ev r (0, [(0, 1)]) = r 0 := zu_e1 _ _
  have q4 : zq_ev r (0, [(1, 1)]) = r 1 := zu_e1 _ _
  have q5 : zq_ev r (0, [(2, 1)]) = r 2 := zu_e1 _ _
  have q6 : zq_ev r (0, [(3, 1)]) = r 3 := zu_e1 _ _
  have q7 : zq_ev r (0, [(4, 1)]) = r 4 := zu_e1 _ _
  have q8 : zq_ev r (0, [(5, 1)]) = r 5 := zu_e1 _ _
  have q9 : zq_ev r (0, [(6, 1)]) = r 6 := zu_e1 _ _
  have q10 : zq_ev r (0, [(7, 1)]) = r 7 := zu_e1 _ _
  have q11 : zq_ev r (0, [(8, 1)]) = r 8 := zu_e1 _ _
  obtain ⟨hT, hC, hF, hS, -, hK⟩ := hM
  have c := hC.1
  have a1 := zq_all_1 c
  rw [q0] at a1
  have c := zq_all_t c
  have a2 := zq_all_1 c
  rw [q1] at a2
  have c := zq_all_t c
  have a3 := zq_all_1 c
  rw [q2] at a3
  have k1 : zu_SCC (zq_ev r (0, [(0, 1)])) (zq_ev r (0, [(1, 1)])) (zq_ev r (0, [(2, 1)])) (zq_ev r (0, [(3, 1)])) (zq_ev r (0, [(4, 1)])) (zq_ev r (0, [(5, 1)])) (zq_ev r (0, [(6, 1)])) (zq_ev r (0, [(7, 1)])) P h := zj_use x_SCC (hK)
  simp only [q10, q3, q4, q5, q6, q7, q8, q9] at k1
  have k2 : zu_CH (zq_ev r (0, [(4, 1)])) (zq_ev r (0, [(8, 1)])) P h := zj_use x_CH (zq_okX_t (hK))
  simp only [q11, q7] at k2
  obtain t1 := zu_wB2_l (P := P) (h := h) (g := r 0) (n := r 1) (s := r 2) (e := r 3) (i := r 4) (w := r 5) (m := r 6) (c := r 7) (v := r 8) a1 a2 a3 k1 k2
  obtain ⟨rq, hr⟩ : ∃ rq : Nat → Int, (∀ i, i < 9 → rq i = r i) := ⟨r, fun i hi => rfl⟩
  have v0 : rq 0 = r 0 := hr 0 (by decide)
  have v1 : rq 1 = r 1 := hr 1 (by decide)
  have v2 : rq 2 = r 2 := hr 2 (by decide)
  have v3 : rq 3 = r 3 := hr 3 (by decide)
  have v4 : rq 4 = r 4 := hr 4 (by decide)
  have v5 : rq 5 = r 5 := hr 5 (by decide)
  have v7 : rq 7 = r 7 := hr 7 (by decide)
  have g0 : zq_ev rq (0, [(0, 1)]) = r 0 := zu_f1 v0
  have g1 : zq_ev rq (0, [(1, 1)]) = r 1 := zu_f1 v1
  have g2 : zq_ev rq (0, [(2, 1)]) = r 2 := zu_f1 v2
  have g3 : zq_ev rq (0, [(3, 1)]) = r 3 := zu_f1 v3
  have g4 : zq_ev rq (1, [(4, 1)]) = r 4 + 1 := zu_f2 v4 _
  have g5 : zq_ev rq (1, [(5, 1)]) = r 5 + 1 := zu_f2 v5 _
  have g6 : zq_ev rq (0, []) = 0 := zu_e0 _ _
  have g7 : zq_ev rq (0, [(7, 1)]) = r 7 := zu_f1 v7
  exact ⟨_, List.mem_cons_self .., rq, hr, zq_MeS_mk rfl hT (zq_all_nil) zq_fan (zq_fan) rfl (zu_fac ((x_SCC _ _ _).mpr (by show zu_SCC (zq_ev rq (0, [(0, 1)])) (zq_ev rq (0, [(1, 1)])) (zq_ev rq (0, [(2, 1)])) (zq_ev rq (0, [(3, 1)])) (zq_ev rq (1, [(4, 1)])) (zq_ev rq (1, [(5, 1)])) (zq_ev rq (0, [])) (zq_ev rq (0, [(7, 1)])) P h; simp only [g0, g1, g2, g3, g4, g5, g6, g7]; exact t1)) zq_fan)⟩
noncomputable def zu_wNa : zq_S × List zq_S := (([], [], [(-1, [(6, -1)]), (31, [(8, -1)])], [], [], [], [(113, [(0, [(0, 1)]), (0, [(1, 1)]), (0, [(2, 1)]), (0, [(3, 1)]), (0, [(4, 1)]), (0, [(5, 1)]), (0, [(6, 1)]), (0, [(7, 1)])]), (115, [(0, [(4, 1)]), (0, [(8, 1)])])], 9), [([], [], [], [], [], [], [(113, [(0, [(0, 1)]), (0, [(1, 1)]), (0, [(2, 1)]), (0, [(3, 1)]), (1, [(4, 1)]), (0, [(5, 1)]), (0, [(6, 1)]), (0, [(7, 1)])])], 9)])
theorem zu_wNa_l {P : zq_Ty} {h : zq_H} {g n s e i w m c v : Int} (a1 : 0 ≤ -m - 1) (a2 : 0 ≤ -v + 31) (k1 : zu_SCC g n s e i w m c P h) (k2 : zu_CH i v P h) : (zu_SCC g n s e (i + 1) w m c P h) := by
  obtain ⟨z1, z2, z3, z4⟩ := k1
  obtain ⟨y1, y2, y3⟩ := k2
  have nb : zu_chC i ≠ 32 := by omega
  have sp := zu_sp_l (l := zu_cC) z1 (by rw [zu_lenC]; omega) nb
  rw [sp] at z4
  have q : c = zu_sc (zu_dg g n) s e w m (zu_sp (zu_cC.drop (i + 1).toNat)) := by
    rw [z4]
    cases hw : zu_sp (zu_cC.drop (i + 1).toNat) with
    | nil => rfl
    | cons x r =>
      show (if 0 ≤ m ∧ zu_bs (zu_dg g n) (e - s - m).toNat (s + m) = zu_cC.getD i.toNat 0 :: x then w else zu_fi _ r (w + 1) 29) = (if 0 ≤ m ∧ zu_bs (zu_dg g n) (e - s - m).toNat (s + m) = x then w else zu_fi _ r (w + 1) 29)
      rw [if_neg (fun x => by omega), if_neg (fun x => by omega)]
  exact ⟨by omega, by omega, by omega, q⟩
theorem zu_wNa_ok {w : zq_Wd} (x_SCC : zj_is w 113 (fun q => zu_SCC (q 0) (q 1) (q 2) (q 3) (q 4) (q 5) (q 6) (q 7))) (x_CH : zj_is w 115 (fun q => zu_CH (q 0) (q 1))) : zq_okG1 w zu_wNa := by
  refine ⟨rfl, rfl, zu_fac ⟨rfl, by decide⟩ zq_fan, ?_⟩
  intro r P h H hM
  have q0 : zq_ev r (-1, [(6, -1)]) = -r 6 - 1 := zu_e6 _ _ _
  have q1 : zq_ev r (31, [(8, -1)]) = -r 8 + 31 := zu_e5 _ _ _
  have q2 : zq_ev r (0, [(0, 1)]) = r 0 := zu_e1 _ _
  have q3 : zq_ev r (0, [(1, 1)]) = r 1 := zu_e1 _ _
  have q4 : zq_ev r (0, [(2, 1)]) = r 2 := zu_e1 _ _
  have q5 : zq_ev r (0, [(3, 1)]) = r 3 := zu_e1 _ _
  have q6 : zq_ev r (0, [(4, 1)]) = r 4 := zu_e1 _ _
  have q7 : zq_ev r (0, [(5, 1)]) = r 5 := zu_e1 _ _
  have q8 : zq_ev r (0, [(6, 1)]) = r 6 := zu_e1 _ _
  have q9 : zq_ev r (0, [(7, 1)]) = r 7 := zu_e1 _ _
  have q10 : zq_ev r (0, [(8, 1)]) = r 8 := zu_e1 _ _
  obtain ⟨hT, hC, hF, hS, -, hK⟩ := hM
  have c := hC.1
  have a1 := zq_all_1 c
  rw [q0] at a1
  have c := zq_all_t c
  have a2 := zq_all_1 c
  rw [q1] at a2
  have k1 : zu_SCC (zq_ev r (0, [(0, 1)])) (zq_ev r (0, [(1, 1)])) (zq_ev r (0, [(2, 1)])) (zq_ev r (0, [(3, 1)])) (zq_ev r (0, [(4, 1)])) (zq_ev r (0, [(5, 1)])) (zq_ev r (0, [(6, 1)])) (zq_ev r (0, [(7, 1)])) P h := zj_use x_SCC (hK)
  simp only [q2, q3, q4, q5, q6, q7, q8, q9] at k1
  have k2 : zu_CH (zq_ev r (0, [(4, 1)])) (zq_ev r (0, [(8, 1)])) P h := zj_use x_CH (zq_okX_t (hK))
  simp only [q10, q6] at k2
  obtain t1 := zu_wNa_l (P := P) (h := h) (g := r 0) (n := r 1) (s := r 2) (e := r 3) (i := r 4) (w := r 5) (m := r 6) (c := r 7) (v := r 8) a1 a2 k1 k2
  obtain ⟨rq, hr⟩ : ∃ rq : Nat → Int, (∀ i, i < 9 → rq i = r i) := ⟨r, fun i hi => rfl⟩
  have v0 : rq 0 = r 0 := hr 0 (by decide)
  have v1 : rq 1 = r 1 := hr 1 (by decide)
  have v2 : rq 2 = r 2 := hr 2 (by decide)
  have v3 : rq 3 = r 3 := hr 3 (by decide)
  have v4 : rq 4 = r 4 := hr 4 (by decide)
  have v5 : rq 5 = r 5 := hr 5 (by decide)
  have v6 : rq 6 = r 6 := hr 6 (by decide)
  have v7 : rq 7 = r 7 := hr 7 (by decide)
  have g0 : zq_ev rq (0, [(0, 1)]) = r 0 := zu_f1 v0
  have g1 : zq_ev rq (0, [(1, 1)]) = r 1 := zu_f1 v1
  have g2 : zq_ev rq (0, [(2, 1)]) = r 2 := zu_f1 v2
  have g3 : zq_ev rq (0, [(3, 1)]) = r 3 := zu_f1 v3
  have g4 : zq_ev rq (1, [(4, 1)]) = r 4 + 1 := zu_f2 v4 _
  have g5 : zq_ev rq (0, [(5, 1)]) = r 5 := zu_f1 v5
  have g6 : zq_ev rq (0, [(6, 1)]) = r 6 := zu_f1 v6
  have g7 : zq_ev rq (0, [(7, 1)]) = r 7 := zu_f1 v7
  exact ⟨_, List.mem_cons_self .., rq, hr, zq_MeS_mk rfl hT (zq_all_nil) zq_fan (zq_fan) rfl (zu_fac ((x_SCC _ _ _).mpr (by show zu_SCC (zq_ev rq (0, [(0, 1)])) (zq_ev rq (0, [(1, 1)])) (zq_ev rq (0, [(2, 1)])) (zq_ev rq (0, [(3, 1)])) (zq_ev rq (1, [(4, 1)])) (zq_ev rq (0, [(5, 1)])) (zq_ev rq (0, [(6, 1)])) (zq_ev rq (0, [(7, 1)])) P h; simp only [g0, g1, g2, g3, g4, g5, g6, g7]; exact t1)) zq_fan)⟩
noncomputable def zu_wNb : zq_S × List zq_S := (([], [], [(-1, [(6, -1)]), (-33, [(8, 1)])], [], [], [], [(113, [(0, [(0, 1)]), (0, [(1, 1)]), (0, [(2, 1)]), (0, [(3, 1)]), (0, [(4, 1)]), (0, [(5, 1)]), (0, [(6, 1)]), (0, [(7, 1)])]), (115, [(0, [(4, 1)]), (0, [(8, 1)])])], 9), [([], [], [], [], [], [], [(113, [(0, [(0, 1)]), (0, [(1, 1)]), (0, [(2, 1)]), (0, [(3, 1)]), (1, [(4, 1)]), (0, [(5, 1)]), (0, [(6, 1)]), (0, [(7, 1)])])], 9)])
theorem zu_wNb_l {P : zq_Ty} {h : zq_H} {g n s e i w m c v : Int} (a1 : 0 ≤ -m - 1) (a2 : 0 ≤ v - 33) (k1 : zu_SCC g n s e i w m c P h) (k2 : zu_CH i v P h) : (zu_SCC g n s e (i + 1) w m c P h) := by
  obtain ⟨z1, z2, z3, z4⟩ := k1
  obtain ⟨y1, y2, y3⟩ := k2
  have nb : zu_chC i ≠ 32 := by omega
  have sp := zu_sp_l (l := zu_cC) z1 (by rw [zu_lenC]; omega) nb
  rw [sp] at z4
  have q : c = zu_sc (zu_dg g n) s e w m (zu_sp (zu_cC.drop (i + 1).toNat)) := by
    rw [z4]
    cases hw : zu_sp (zu_cC.drop (i + 1).toNat) with
    | nil => rfl
    | cons x r =>
      show (if 0 ≤ m ∧ zu_bs (zu_dg g n) (e - s - m).toNat (s + m) = zu_cC.getD i.toNat 0 :: x then w else zu_fi _ r (w + 1) 29) = (if 0 ≤ m ∧ zu_bs (zu_dg g n) (e - s - m).toNat (s + m) = x then w else zu_fi _ r (w + 1) 29)
      rw [if_neg (fun x => by omega), if_neg (fun x => by omega)]
  exact ⟨by omega, by omega, by omega, q⟩
theorem zu_wNb_ok {w : zq_Wd} (x_SCC : zj_is w 113 (fun q => zu_SCC (q 0) (q 1) (q 2) (q 3) (q 4) (q 5) (q 6) (q 7))) (x_CH : zj_is w 115 (fun q => zu_CH (q 0) (q 1))) : zq_okG1 w zu_wNb := by
  refine ⟨rfl, rfl, zu_fac ⟨rfl, by decide⟩ zq_fan, ?_⟩
  intro r P h H hM
  have q0 : zq_ev r (-1, [(6, -1)]) = -r 6 - 1 := zu_e6 _ _ _
  have q1 : zq_ev r (-33, [(8, 1)]) = r 8 - 33 := zu_e3 _ _ _
  have q2 : zq_ev r (0, [(0, 1)]) = r 0 := zu_e1 _ _
  have q3 : zq_ev r (0, [(1, 1)]) = r 1 := zu_e1 _ _
  have q4 : zq_ev r (0, [(2, 1)]) = r 2 := zu_e1 _ _
  have q5 : zq_ev r (0, [(3, 1)]) = r 3 := zu_e1 _ _
  have q6 : zq_ev r (0, [(4, 1)]) = r 4 := zu_e1 _ _
  have q7 : zq_ev r (0, [(5, 1)]) = r 5 := zu_e1 _ _
  have q8 : zq_ev r (0, [(6, 1)]) = r 6 := zu_e1 _ _
  have q9 : zq_ev r (0, [(7, 1)]) = r 7 := zu_e1 _ _
  have q10 : zq_ev r (0, [(8, 1)]) = r 8 := zu_e1 _ _
  obtain ⟨hT, hC, hF, hS, -, hK⟩ := hM
  have c := hC.1
  have a1 := zq_all_1 c
  rw [q0] at a1
  have c := zq_all_t c
  have a2 := zq_all_1 c
  rw [q1] at a2
  have k1 : zu_SCC (zq_ev r (0, [(0, 1)])) (zq_ev r (0, [(1, 1)])) (zq_ev r (0, [(2, 1)])) (zq_ev r (0, [(3, 1)])) (zq_ev r (0, [(4, 1)])) (zq_ev r (0, [(5, 1)])) (zq_ev r (0, [(6, 1)])) (zq_ev r (0, [(7, 1)])) P h := zj_use x_SCC (hK)
  simp only [q2, q3, q4, q5, q6, q7, q8, q9] at k1
  have k2 : zu_CH (zq_ev r (0, [(4, 1)])) (zq_ev r (0, [(8, 1)])) P h := zj_use x_CH (zq_okX_t (hK))
  simp only [q10, q6] at k2
  obtain t1 := zu_wNb_l (P := P) (h := h) (g := r 0) (n := r 1) (s := r 2) (e := r 3) (i := r 4) (w := r 5) (m := r 6) (c := r 7) (v := r 8) a1 a2 k1 k2
  obtain ⟨rq, hr⟩ : ∃ rq : Nat → Int, (∀ i, i < 9 → rq i = r i) := ⟨r, fun i hi => rfl⟩
  have v0 : rq 0 = r 0 := hr 0 (by decide)
  have v1 : rq 1 = r 1 := hr 1 (by decide)
  have v2 : rq 2 = r 2 := hr 2 (by decide)
  have v3 : rq 3 = r 3 := hr 3 (by decide)
  have v4 : rq 4 = r 4 := hr 4 (by decide)
  have v5 : rq 5 = r 5 := hr 5 (by decide)
  have v6 : rq 6 = r 6 := hr 6 (by decide)
  have v7 : rq 7 = r 7 := hr 7 (by decide)
  have g0 : zq_ev rq (0, [(0, 1)]) = r 0 := zu_f1 v0
  have g1 : zq_ev rq (0, [(1, 1)]) = r 1 := zu_f1 v1
  have g2 : zq_ev rq (0, [(2, 1)]) = r 2 := zu_f1 v2
  have g3 : zq_ev rq (0, [(3, 1)]) = r 3 := zu_f1 v3
  have g4 : zq_ev rq (1, [(4, 1)]) = r 4 + 1 := zu_f2 v4 _
  have g5 : zq_ev rq (0, [(5, 1)]) = r 5 := zu_f1 v5
  have g6 : zq_ev rq (0, [(6, 1)]) = r 6 := zu_f1 v6
  have g7 : zq_ev rq (0, [(7, 1)]) = r 7 := zu_f1 v7
  exact ⟨_, List.mem_cons_self .., rq, hr, zq_MeS_mk rfl hT (zq_all_nil) zq_fan (zq_fan) rfl (zu_fac ((x_SCC _ _ _).mpr (by show zu_SCC (zq_ev rq (0, [(0, 1)])) (zq_ev rq (0, [(1, 1)])) (zq_ev rq (0, [(2, 1)])) (zq_ev rq (0, [(3, 1)])) (zq_ev rq (1, [(4, 1)])) (zq_ev rq (0, [(5, 1)])) (zq_ev rq (0, [(6, 1)])) (zq_ev rq (0, [(7, 1)])) P h; simp only [g0, g1, g2, g3, g4, g5, g6, g7]; exact t1)) zq_fan)⟩
noncomputable def zu_wEa : zq_S × List zq_S := (([], [], [(0, [(6, 1)]), (0, [(2, 1), (3, -1), (6, 1)]), (31, [(8, -1)])], [], [], [], [(113, [(0, [(0, 1)]), (0, [(1, 1)]), (0, [(2, 1)]), (0, [(3, 1)]), (0, [(4, 1)]), (0, [(5, 1)]), (0, [(6, 1)]), (0, [(7, 1)])]), (115, [(0, [(4, 1)]), (0, [(8, 1)])])], 9), [([], [], [], [], [], [], [(113, [(0, [(0, 1)]), (0, [(1, 1)]), (0, [(2, 1)]), (0, [(3, 1)]), (1, [(4, 1)]), (0, [(5, 1)]), (-1, []), (0, [(7, 1)])])], 9)])
theorem zu_wEa_l {P : zq_Ty} {h : zq_H} {g n s e i w m c v : Int} (a1 : 0 ≤ m) (a2 : 0 ≤ s - e + m) (a3 : 0 ≤ -v + 31) (k1 : zu_SCC g n s e i w m c P h) (k2 : zu_CH i v P h) : (zu_SCC g n s e (i + 1) w (-1) c P h) := by
  obtain ⟨z1, z2, z3, z4⟩ := k1
  obtain ⟨y1, y2, y3⟩ := k2
  have nb : zu_chC i ≠ 32 := by omega
  have sp := zu_sp_l (l := zu_cC) z1 (by rw [zu_lenC]; omega) nb
  rw [sp] at z4
  have q : c = zu_sc (zu_dg g n) s e w (-1) (zu_sp (zu_cC.drop (i + 1).toNat)) := by
    rw [z4]
    cases hw : zu_sp (zu_cC.drop (i + 1).toNat) with
    | nil => rfl
    | cons x r =>
      show (if 0 ≤ m ∧ zu_bs (zu_dg g n) (e - s - m).toNat (s + m) = zu_cC.getD i.toNat 0 :: x then w else zu_fi _ r (w + 1) 29) = (if 0 ≤ -1 ∧ zu_bs (zu_dg g n) (e - s - -1).toNat (s + -1) = x then w else zu_fi _ r (w + 1) 29)
      rw [if_neg (fun x => by
        have x2 := x.2
        rw [show (e - s - m).toNat = 0 by omega] at x2
        cases x2), if_neg (fun x => by omega)]
  exact ⟨by omega, by omega, by omega, q⟩
theorem zu_wEa_ok {w : zq_Wd} (x_SCC : zj_is w 113 (fun q => zu_SCC (q 0) (q 1) (q 2) (q 3) (q 4) (q 5) (q 6) (q 7))) (x_CH : zj_is w 115 (fun q => zu_CH (q 0) (q 1))) : zq_okG1 w zu_wEa := by
  refine ⟨rfl, rfl, zu_fac ⟨rfl, by decide⟩ zq_fan, ?_⟩
  intro r P h H hM
  have q0 : zq_ev r (0, [(6, 1)]) = r 6 := zu_e1 _ _
  have q1 : zq_ev r (0, [(2, 1), (3, -1), (6, 1)]) = r 2 - r 3 + r 6 := by simp only [zq_ev, zq_ts] <;> omega
  have q2 : zq_ev r (31, [(8, -1)]) = -r 8 + 31 := zu_e5 _ _ _
  have q3 : zq_ev r (0, [(0, 1)]) = r 0 := zu_e1 _ _
  have q4 : zq_ev r (0, [(1, 1)]) = r 1 := zu_e1 _ _
  have q5 : zq_ev r (0, [(2, 1)]) = r 2 := zu_e1 _ _
  have q6 : zq_ev r (0, [(3, 1)]) = r 3 := zu_e1 _ _
  have q7 : zq_ev r (0, [(4, 1)]) = r 4 := zu_e1 _ _
  have q8 : zq_ev r (0, [(5, 1)]) = r 5 := zu_e1 _ _
  have q9 : zq_ev r (0, [(7, 1)]) = r 7 := zu_e1 _ _
  have q10 : zq_ev r (0, [(8, 1)]) = r 8 := zu_e1 _ _
  obtain ⟨hT, hC, hF, hS, -, hK⟩ := hM
  have c := hC.1
  have a1 := zq_all_1 c
  rw [q0] at a1
  have c := zq_all_t c
  have a2 := zq_all_1 c
  rw [q1] at a2
  have c := zq_all_t c
  have a3 := zq_all_1 c
  rw [q2] at a3
  have k1 : zu_SCC (zq_ev r (0, [(0, 1)])) (zq_ev r (0, [(1, 1)])) (zq_ev r (0, [(2, 1)])) (zq_ev r (0, [(3, 1)])) (zq_ev r (0, [(4, 1)])) (zq_ev r (0, [(5, 1)])) (zq_ev r (0, [(6, 1)])) (zq_ev r (0, [(7, 1)])) P h := zj_use x_SCC (hK)
  simp only [q0, q3, q4, q5, q6, q7, q8, q9] at k1
  have k2 : zu_CH (zq_ev r (0, [(4, 1)])) (zq_ev r (0, [(8, 1)])) P h := zj_use x_CH (zq_okX_t (hK))
  simp only [q10, q7] at k2
  obtain t1 := zu_wEa_l (P := P) (h := h) (g := r 0) (n := r 1) (s := r 2) (e := r 3) (i := r 4) (w := r 5) (m := r 6) (c := r 7) (v := r 8) a1 a2 a3 k1 k2
  obtain ⟨rq, hr⟩ : ∃ rq : Nat → Int, (∀ i, i < 9 → rq i = r i) := ⟨r, fun i hi => rfl⟩
  have v0 : rq 0 = r 0 := hr 0 (by decide)
  have v1 : rq 1 = r 1 := hr 1 (by decide)
  have v2 : rq 2 = r 2 := hr 2 (by decide)
  have v3 : rq 3 = r 3 := hr 3 (by decide)
  have v4 : rq 4 = r 4 := hr 4 (by decide)
  have v5 : rq 5 = r 5 := hr 5 (by decide)
  have v7 : rq 7 = r 7 := hr 7 (by decide)
  have g0 : zq_ev rq (0, [(0, 1)]) = r 0 := zu_f1 v0
  have g1 : zq_ev rq (0, [(1, 1)]) = r 1 := zu_f1 v1
  have g2 : zq_ev rq (0, [(2, 1)]) = r 2 := zu_f1 v2
  have g3 : zq_ev rq (0, [(3, 1)]) = r 3 := zu_f1 v3
  have g4 : zq_ev rq (1, [(4, 1)]) = r 4 + 1 := zu_f2 v4 _
  have g5 : zq_ev rq (0, [(5, 1)]) = r 5 := zu_f1 v5
  have g6 : zq_ev rq (-1, []) = -1 := zu_e0 _ _
  have g7 : zq_ev rq (0, [(7, 1)]) = r 7 := zu_f1 v7
  exact ⟨_, List.mem_cons_self .., rq, hr, zq_MeS_mk rfl hT (zq_all_nil) zq_fan (zq_fan) rfl (zu_fac ((x_SCC _ _ _).mpr (by show zu_SCC (zq_ev rq (0, [(0, 1)])) (zq_ev rq (0, [(1, 1)])) (zq_ev rq (0, [(2, 1)])) (zq_ev rq (0, [(3, 1)])) (zq_ev rq (1, [(4, 1)])) (zq_ev rq (0, [(5, 1)])) (zq_ev rq (-1, [])) (zq_ev rq (0, [(7, 1)])) P h; simp only [g0, g1, g2, g3, g4, g5, g6, g7]; exact t1)) zq_fan)⟩
noncomputable def zu_wEb : zq_S × List zq_S := (([], [], [(0, [(6, 1)]), (0, [(2, 1), (3, -1), (6, 1)]), (-33, [(8, 1)])], [], [], [], [(113, [(0, [(0, 1)]), (0, [(1, 1)]), (0, [(2, 1)]), (0, [(3, 1)]), (0, [(4, 1)]), (0, [(5, 1)]), (0, [(6, 1)]), (0, [(7, 1)])]), (115, [(0, [(4, 1)]), (0, [(8, 1)])])], 9), [([], [], [], [], [], [], [(113, [(0, [(0, 1)]), (0, [(1, 1)]), (0, [(2, 1)]), (0, [(3, 1)]), (1, [(4, 1)]), (0, [(5, 1)]), (-1, []), (0, [(7, 1)])])], 9)])
theorem zu_wEb_l {P : zq_Ty} {h : zq_H} {g n s e i w m c v : Int} (a1 : 0 ≤ m) (a2 : 0 ≤ s - e + m) (a3 : 0 ≤ v - 33) (k1 : zu_SCC g n s e i w m c P h) (k2 : zu_CH i v P h) : (zu_SCC g n s e (i + 1) w (-1) c P h) := by
  obtain ⟨z1, z2, z3, z4⟩ := k1
  obtain ⟨y1, y2, y3⟩ := k2
  have nb : zu_chC i ≠ 32 := by omega
  have sp := zu_sp_l (l := zu_cC) z1 (by rw [zu_lenC]; omega) nb
  rw [sp] at z4
  have q : c = zu_sc (zu_dg g n) s e w (-1) (zu_sp (zu_cC.drop (i + 1).toNat)) := by
    rw [z4]
    cases hw : zu_sp (zu_cC.drop (i + 1).toNat) with
    | nil => rfl
    | cons x r =>
      show (if 0 ≤ m ∧ zu_bs (zu_dg g n) (e - s - m).toNat (s + m) = zu_cC.getD i.toNat 0 :: x then w else zu_fi _ r (w + 1) 29) = (if 0 ≤ -1 ∧ zu_bs (zu_dg g n) (e - s - -1).toNat (s + -1) = x then w else zu_fi _ r (w + 1) 29)
      rw [if_neg (fun x => by
        have x2 := x.2
        rw [show (e - s - m).toNat = 0 by omega] at x2
        cases x2), if_neg (fun x => by omega)]
  exact ⟨by omega, by omega, by omega, q⟩
theorem zu_wEb_ok {w : zq_Wd} (x_SCC : zj_is w 113 (fun q => zu_SCC (q 0) (q 1) (q 2) (q 3) (q 4) (q 5) (q 6) (q 7))) (x_CH : zj_is w 115 (fun q => zu_CH (q 0) (q 1))) : zq_okG1 w zu_wEb := by
  refine ⟨rfl, rfl, zu_fac ⟨rfl, by decide⟩ zq_fan, ?_⟩
  intro r P h H hM
  have q0 : zq_ev r (0, [(6, 1)]) = r 6 := zu_e1 _ _
  have q1 : zq_ev r (0, [(2, 1), (3, -1), (6, 1)]) = r 2 - r 3 + r 6 := by simp only [zq_ev, zq_ts] <;> omega
  have q2 : zq_ev r (-33, [(8, 1)]) = r 8 - 33 := zu_e3 _ _ _
  have q3 : zq_ev r (0, [(0, 1)]) = r 0 := zu_e1 _ _
  have q4 : zq_ev r (0, [(1, 1)]) = r 1 := zu_e1 _ _
  have q5 : zq_ev r (0, [(2, 1)]) = r 2 := zu_e1 _ _
  have q6 : zq_ev r (0, [(3, 1)]) = r 3 := zu_e1 _ _
  have q7 : zq_ev r (0, [(4, 1)]) = r 4 := zu_e1 _ _
  have q8 : zq_ev r (0, [(5, 1)]) = r 5 := zu_e1 _ _
  have q9 : zq_ev r (0, [(7, 1)]) = r 7 := zu_e1 _ _
  have q10 : zq_ev r (0, [(8, 1)]) = r 8 := zu_e1 _ _
  obtain ⟨hT, hC, hF, hS, -, hK⟩ := hM
  have c := hC.1
  have a1 := zq_all_1 c
  rw [q0] at a1
  have c := zq_all_t c
  have a2 := zq_all_1 c
  rw [q1] at a2
  have c := zq_all_t c
  have a3 := zq_all_1 c
  rw [q2] at a3
  have k1 : zu_SCC (zq_ev r (0, [(0, 1)])) (zq_ev r (0, [(1, 1)])) (zq_ev r (0, [(2, 1)])) (zq_ev r (0, [(3, 1)])) (zq_ev r (0, [(4, 1)])) (zq_ev r (0, [(5, 1)])) (zq_ev r (0, [(6, 1)])) (zq_ev r (0, [(7, 1)])) P h := zj_use x_SCC (hK)
  simp only [q0, q3, q4, q5, q6, q7, q8, q9] at k1
  have k2 : zu_CH (zq_ev r (0, [(4, 1)])) (zq_ev r (0, [(8, 1)])) P h := zj_use x_CH (zq_okX_t (hK))
  simp only [q10, q7] at k2
  obtain t1 := zu_wEb_l (P := P) (h := h) (g := r 0) (n := r 1) (s := r 2) (e := r 3) (i := r 4) (w := r 5) (m := r 6) (c := r 7) (v := r 8) a1 a2 a3 k1 k2
  obtain ⟨rq, hr⟩ : ∃ rq : Nat → Int, (∀ i, i < 9 → rq i = r i) := ⟨r, fun i hi => rfl⟩
  have v0 : rq 0 = r 0 := hr 0 (by decide)
  have v1 : rq 1 = r 1 := hr 1 (by decide)
  have v2 : rq 2 = r 2 := hr 2 (by decide)
  have v3 : rq 3 = r 3 := hr 3 (by decide)
  have v4 : rq 4 = r 4 := hr 4 (by decide)
  have v5 : rq 5 = r 5 := hr 5 (by decide)
  have v7 : rq 7 = r 7 := hr 7 (by decide)
  have g0 : zq_ev rq (0, [(0, 1)]) = r 0 := zu_f1 v0
  have g1 : zq_ev rq (0, [(1, 1)]) = r 1 := zu_f1 v1
  have g2 : zq_ev rq (0, [(2, 1)]) = r 2 := zu_f1 v2
  have g3 : zq_ev rq (0, [(3, 1)]) = r 3 := zu_f1 v3
  have g4 : zq_ev rq (1, [(4, 1)]) = r 4 + 1 := zu_f2 v4 _
  have g5 : zq_ev rq (0, [(5, 1)]) = r 5 := zu_f1 v5
  have g6 : zq_ev rq (-1, []) = -1 := zu_e0 _ _
  have g7 : zq_ev rq (0, [(7, 1)]) = r 7 := zu_f1 v7
  exact ⟨_, List.mem_cons_self .., rq, hr, zq_MeS_mk rfl hT (zq_all_nil) zq_fan (zq_fan) rfl (zu_fac ((x_SCC _ _ _).mpr (by show zu_SCC (zq_ev rq (0, [(0, 1)])) (zq_ev rq (0, [(1, 1)])) (zq_ev rq (0, [(2, 1)])) (zq_ev rq (0, [(3, 1)])) (zq_ev rq (1, [(4, 1)])) (zq_ev rq (0, [(5, 1)])) (zq_ev rq (-1, [])) (zq_ev rq (0, [(7, 1)])) P h; simp only [g0, g1, g2, g3, g4, g5, g6, g7]; exact t1)) zq_fan)⟩
noncomputable def zu_wMa : zq_S × List zq_S := (([], [], [(0, [(6, 1)]), (-1, [(2, -1), (3, 1), (6, -1)]), (0, [(2, 1)]), (0, [(1, 1), (3, -1)]), (0, [(10, 1)]), (255, [(10, -1)]), (0, [(8, -1), (10, 1)]), (0, [(8, 1), (10, -1)]), (31, [(8, -1)])], [], [((0, [(9, 1)]), (0, [(2, 1), (6, 1)]), (0, [(10, 1)]))], [], [(113, [(0, [(0, 1)]), (0, [(1, 1)]), (0, [(2, 1)]), (0, [(3, 1)]), (0, [(4, 1)]), (0, [(5, 1)]), (0, [(6, 1)]), (0, [(7, 1)])]), (115, [(0, [(4, 1)]), (0, [(8, 1)])]), (21, [(0, [(9, 1)]), (0, [(1, 1)]), (0, [(0, 1)])])], 11), [([], [], [], [], [], [], [(113, [(0, [(0, 1)]), (0, [(1, 1)]), (0, [(2, 1)]), (0, [(3, 1)]), (1, [(4, 1)]), (0, [(5, 1)]), (1, [(6, 1)]), (0, [(7, 1)])])], 11)])
theorem zu_wMa_l {P : zq_Ty} {h : zq_H} {g n s e i w m c v bt b : Int} (a1 : 0 ≤ m) (a2 : 0 ≤ -s + e - m - 1) (a3 : 0 ≤ s) (a4 : 0 ≤ n - e) (a5 : 0 ≤ b) (a6 : 0 ≤ -b + 255) (a7 : 0 ≤ -v + b) (a8 : 0 ≤ v - b) (a9 : 0 ≤ -v + 31) (s1 : 0 ≤ bt ∧ P (bt).toNat ≠ none ∧ h (bt).toNat (s + m) = b) (k1 : zu_SCC g n s e i w m c P h) (k2 : zu_CH i v P h) (k3 : zu_TCc bt n g P h) : (zu_SCC g n s e (i + 1) w (m + 1) c P h) := by
  obtain ⟨z1, z2, z3, z4⟩ := k1
  obtain ⟨y1, y2, y3⟩ := k2
  have nb : zu_chC i ≠ 32 := by omega
  have sp := zu_sp_l (l := zu_cC) z1 (by rw [zu_lenC]; omega) nb
  rw [sp] at z4
  have d := zu_dgc k3 (j := s + m) (by omega) (by omega) s1.2.2 (by omega) (by omega)
  have q : c = zu_sc (zu_dg g n) s e w (m + 1) (zu_sp (zu_cC.drop (i + 1).toNat)) := by
    rw [z4]
    cases hw : zu_sp (zu_cC.drop (i + 1).toNat) with
    | nil => rfl
    | cons x r =>
      show (if 0 ≤ m ∧ zu_bs (zu_dg g n) (e - s - m).toNat (s + m) = zu_cC.getD i.toNat 0 :: x then w else zu_fi _ r (w + 1) 29) = (if 0 ≤ m + 1 ∧ zu_bs (zu_dg g n) (e - s - (m + 1)).toNat (s + (m + 1)) = x then w else zu_fi _ r (w + 1) 29)
      rw [zu_bs_c (show 0 < e - s - m by omega), d]
      have hv : zu_cC.getD i.toNat 0 = v := y3.symm
      rw [hv, show b = v by omega, show e - s - m - 1 = e - s - (m + 1) by omega, show s + m + 1 = s + (m + 1) by omega]
      by_cases hx : zu_bs (zu_dg g n) (e - s - (m + 1)).toNat (s + (m + 1)) = x
      · rw [if_pos ⟨by omega, by rw [hx]⟩, if_pos ⟨by omega, hx⟩]
      · rw [if_neg (fun y => hx (List.cons.inj y.2).2), if_neg (fun y => hx y.2)]
  exact ⟨by omega, by omega, by omega, q⟩
theorem zu_wMa_ok {w : zq_Wd} (x_SCC : zj_is w 113 (fun q => zu_SCC (q 0) (q 1) (q 2) (q 3) (q 4) (q 5) (q 6) (q 7))) (x_CH : zj_is w 115 (fun q => zu_CH (q 0) (q 1))) (x_TCc : zj_is w 21 (fun q => zu_TCc (q 0) (q 1) (q 2))) : zq_okG1 w zu_wMa := by
  refine ⟨rfl, rfl, zu_fac ⟨rfl, by decide⟩ zq_fan, ?_⟩
  intro r P h H hM
  have q0 : zq_ev r (0, [(6, 1)]) = r 6 := zu_e1 _ _
  have q1 : zq_ev r (-1, [(2, -1), (3, 1), (6, -1)]) = -r 2 + r 3 - r 6 - 1 := by simp only [zq_ev, zq_ts] <;> omega
  have q2 : zq_ev r (0, [(2, 1)]) = r 2 := zu_e1 _ _
  have q3 : zq_ev r (0, [(1, 1), (3, -1)]) = r 1 - r 3 := by simp only [zq_ev, zq_ts] <;> omega
  have q4 : zq_ev r (0, [(10, 1)]) = r 10 := zu_e1 _ _
  have q5 : zq_ev r (255, [(10, -1)]) = -r 10 + 255 := zu_e5 _ _ _
  have q6 : zq_ev r (0, [(8, -1), (10, 1)]) = -r 8 + r 10 := by simp only [zq_ev, zq_ts] <;> omega
  have q7 : zq_ev r (0, [(8, 1), (10, -1)]) = r 8 - r 10 := by simp only [zq_ev, zq_ts] <;> omega
  have q8 : zq_ev r (31, [(8, -1)]) = -r 8 + 31 := zu_e5 _ _ _
  have q9 : zq_ev r (0, [(9, 1)]) = r 9 := zu_e1 _ _
  have q10 : zq_ev r (0, [(2, 1), (6, 1)]) = r 2 + r 6 := by simp only [zq_ev, zq_ts] <;> omega
  have q11 : zq_ev r (0, [(0, 1)]) = r 0 := zu_e1 _ _
  have q12 : zq_ev r (0, [(1, 1)]) = r 1 := zu_e1 _ _
  have q13 : zq_ev r (0, [(3, 1)]) = r 3 := zu_e1 _ _
  have q14 : zq_ev r (0, [(4, 1)]) = r 4 := zu_e1 _ _
  have q15 : zq_ev r (0, [(5, 1)]) = r 5 := zu_e1 _ _
  have q16 : zq_ev r (0, [(7, 1)]) = r 7 := zu_e1 _ _
  have q17 : zq_ev r (0, [(8, 1)]) = r 8 := zu_e1 _ _
  obtain ⟨hT, hC, hF, hS, -, hK⟩ := hM
  have c := hC.1
  have a1 := zq_all_1 c
  rw [q0] at a1
  have c := zq_all_t c
  have a2 := zq_all_1 c
  rw [q1] at a2
  have c := zq_all_t c
  have a3 := zq_all_1 c
  rw [q2] at a3
  have c := zq_all_t c
  have a4 := zq_all_1 c
  rw [q3] at a4
  have c := zq_all_t c
  have a5 := zq_all_1 c
  rw [q4] at a5
  have c := zq_all_t c
  have a6 := zq_all_1 c
  rw [q5] at a6
  have c := zq_all_t c
  have a7 := zq_all_1 c
  rw [q6] at a7
  have c := zq_all_t c
  have a8 := zq_all_1 c
  rw [q7] at a8
  have c := zq_all_t c
  have a9 := zq_all_1 c
  rw [q8] at a9
  have s1 := zq_okS_1 (hS)
  simp only [q10, q4, q9] at s1
  have k1 : zu_SCC (zq_ev r (0, [(0, 1)])) (zq_ev r (0, [(1, 1)])) (zq_ev r (0, [(2, 1)])) (zq_ev r (0, [(3, 1)])) (zq_ev r (0, [(4, 1)])) (zq_ev r (0, [(5, 1)])) (zq_ev r (0, [(6, 1)])) (zq_ev r (0, [(7, 1)])) P h := zj_use x_SCC (hK)
  simp only [q0, q11, q12, q13, q14, q15, q16, q2] at k1
  have k2 : zu_CH (zq_ev r (0, [(4, 1)])) (zq_ev r (0, [(8, 1)])) P h := zj_use x_CH (zq_okX_t (hK))
  simp only [q14, q17] at k2
  have k3 : zu_TCc (zq_ev r (0, [(9, 1)])) (zq_ev r (0, [(1, 1)])) (zq_ev r (0, [(0, 1)])) P h := zj_use x_TCc (zq_okX_t (zq_okX_t (hK)))
  simp only [q11, q12, q9] at k3
  obtain t1 := zu_wMa_l (P := P) (h := h) (g := r 0) (n := r 1) (s := r 2) (e := r 3) (i := r 4) (w := r 5) (m := r 6) (c := r 7) (v := r 8) (bt := r 9) (b := r 10) a1 a2 a3 a4 a5 a6 a7 a8 a9 s1 k1 k2 k3
  obtain ⟨rq, hr⟩ : ∃ rq : Nat → Int, (∀ i, i < 11 → rq i = r i) := ⟨r, fun i hi => rfl⟩
  have v0 : rq 0 = r 0 := hr 0 (by decide)
  have v1 : rq 1 = r 1 := hr 1 (by decide)
  have v2 : rq 2 = r 2 := hr 2 (by decide)
  have v3 : rq 3 = r 3 := hr 3 (by decide)
  have v4 : rq 4 = r 4 := hr 4 (by decide)
  have v5 : rq 5 = r 5 := hr 5 (by decide)
  have v6 : rq 6 = r 6 := hr 6 (by decide)
  have v7 : rq 7 = r 7 := hr 7 (by decide)
  have g0 : zq_ev rq (0, [(0, 1)]) = r 0 := zu_f1 v0
  have g1 : zq_ev rq (0, [(1, 1)]) = r 1 := zu_f1 v1
  have g2 : zq_ev rq (0, [(2, 1)]) = r 2 := zu_f1 v2
  have g3 : zq_ev rq (0, [(3, 1)]) = r 3 := zu_f1 v3
  have g4 : zq_ev rq (1, [(4, 1)]) = r 4 + 1 := zu_f2 v4 _
  have g5 : zq_ev rq (0, [(5, 1)]) = r 5 := zu_f1 v5
  have g6 : zq_ev rq (1, [(6, 1)]) = r 6 + 1 := zu_f2 v6 _
  have g7 : zq_ev rq (0, [(7, 1)]) = r 7 := zu_f1 v7
  exact ⟨_, List.mem_cons_self .., rq, hr, zq_MeS_mk rfl hT (zq_all_nil) zq_fan (zq_fan) rfl (zu_fac ((x_SCC _ _ _).mpr (by show zu_SCC (zq_ev rq (0, [(0, 1)])) (zq_ev rq (0, [(1, 1)])) (zq_ev rq (0, [(2, 1)])) (zq_ev rq (0, [(3, 1)])) (zq_ev rq (1, [(4, 1)])) (zq_ev rq (0, [(5, 1)])) (zq_ev rq (1, [(6, 1)])) (zq_ev rq (0, [(7, 1)])) P h; simp only [g0, g1, g2, g3, g4, g5, g6, g7]; exact t1)) zq_fan)⟩
noncomputable def zu_wMb : zq_S × List zq_S := (([], [], [(0, [(6, 1)]), (-1, [(2, -1), (3, 1), (6, -1)]), (0, [(2, 1)]), (0, [(1, 1), (3, -1)]), (0, [(10, 1)]), (255, [(10, -1)]), (0, [(8, -1), (10, 1)]), (0, [(8, 1), (10, -1)]), (-33, [(8, 1)])], [], [((0, [(9, 1)]), (0, [(2, 1), (6, 1)]), (0, [(10, 1)]))], [], [(113, [(0, [(0, 1)]), (0, [(1, 1)]), (0, [(2, 1)]), (0, [(3, 1)]), (0, [(4, 1)]), (0, [(5, 1)]), (0, [(6, 1)]), (0, [(7, 1)])]), (115, [(0, [(4, 1)]), (0, [(8, 1)])]), (21, [(0, [(9, 1)]), (0, [(1, 1)]), (0, [(0, 1)])])], 11), [([], [], [], [], [], [], [(113, [(0, [(0, 1)]), (0, [(1, 1)]), (0, [(2, 1)]), (0, [(3, 1)]), (1, [(4, 1)]), (0, [(5, 1)]), (1, [(6, 1)]), (0, [(7, 1)])])], 11)])
theorem zu_wMb_l {P : zq_Ty} {h : zq_H} {g n s e i w m c v bt b : Int} (a1 : 0 ≤ m) (a2 : 0 ≤ -s + e - m - 1) (a3 : 0 ≤ s) (a4 : 0 ≤ n - e) (a5 : 0 ≤ b) (a6 : 0 ≤ -b + 255) (a7 : 0 ≤ -v + b) (a8 : 0 ≤ v - b) (a9 : 0 ≤ v - 33) (s1 : 0 ≤ bt ∧ P (bt).toNat ≠ none ∧ h (bt).toNat (s + m) = b) (k1 : zu_SCC g n s e i w m c P h) (k2 : zu_CH i v P h) (k3 : zu_TCc bt n g P h) : (zu_SCC g n s e (i + 1) w (m + 1) c P h) := by
  obtain ⟨z1, z2, z3, z4⟩ := k1
  obtain ⟨y1, y2, y3⟩ := k2
  have nb : zu_chC i ≠ 32 := by omega
  have sp := zu_sp_l (l := zu_cC) z1 (by rw [zu_lenC]; omega) nb
  rw [sp] at z4
  have d := zu_dgc k3 (j := s + m) (by omega) (by omega) s1.2.2 (by omega) (by omega)
  have q : c = zu_sc (zu_dg g n) s e w (m + 1) (zu_sp (zu_cC.drop (i + 1).toNat)) := by
    rw [z4]
    cases hw : zu_sp (zu_cC.drop (i + 1).toNat) with
    | nil => rfl
    | cons x r =>
      show (if 0 ≤ m ∧ zu_bs (zu_dg g n) (e - s - m).toNat (s + m) = zu_cC.getD i.toNat 0 :: x then w else zu_fi _ r (w + 1) 29) = (if 0 ≤ m + 1 ∧ zu_bs (zu_dg g n) (e - s - (m + 1)).toNat (s + (m + 1)) = x then w else zu_fi _ r (w + 1) 29)
      rw [zu_bs_c (show 0 < e - s - m by omega), d]
      have hv : zu_cC.getD i.toNat 0 = v := y3.symm
      rw [hv, show b = v by omega, show e - s - m - 1 = e - s - (m + 1) by omega, show s + m + 1 = s + (m + 1) by omega]
      by_cases hx : zu_bs (zu_dg g n) (e - s - (m + 1)).toNat (s + (m + 1)) = x
      · rw [if_pos ⟨by omega, by rw [hx]⟩, if_pos ⟨by omega, hx⟩]
      · rw [if_neg (fun y => hx (List.cons.inj y.2).2), if_neg (fun y => hx y.2)]
  exact ⟨by omega, by omega, by omega, q⟩
theorem zu_wMb_ok {w : zq_Wd} (x_SCC : zj_is w 113 (fun q => zu_SCC (q 0) (q 1) (q 2) (q 3) (q 4) (q 5) (q 6) (q 7))) (x_CH : zj_is w 115 (fun q => zu_CH (q 0) (q 1))) (x_TCc : zj_is w 21 (fun q => zu_TCc (q 0) (q 1) (q 2))) : zq_okG1 w zu_wMb := by
  refine ⟨rfl, rfl, zu_fac ⟨rfl, by decide⟩ zq_fan, ?_⟩
  intro r P h H hM
  have q0 : zq_ev r (0, [(6, 1)]) = r 6 := zu_e1 _ _
  have q1 : zq_ev r (-1, [(2, -1), (3, 1), (6, -1)]) = -r 2 + r 3 - r 6 - 1 := by simp only [zq_ev, zq_ts] <;> omega
  have q2 : zq_ev r (0, [(2, 1)]) = r 2 := zu_e1 _ _
  have q3 : zq_ev r (0, [(1, 1), (3, -1)]) = r 1 - r 3 := by simp only [zq_ev, zq_ts] <;> omega
  have q4 : zq_ev r (0, [(10, 1)]) = r 10 := zu_e1 _ _
  have q5 : zq_ev r (255, [(10, -1)]) = -r 10 + 255 := zu_e5 _ _ _
  have q6 : zq_ev r (0, [(8, -1), (10, 1)]) = -r 8 + r 10 := by simp only [zq_ev, zq_ts] <;> omega
  have q7 : zq_ev r (0, [(8, 1), (10, -1)]) = r 8 - r 10 := by simp only [zq_ev, zq_ts] <;> omega
  have q8 : zq_ev r (-33, [(8, 1)]) = r 8 - 33 := zu_e3 _ _ _
  have q9 : zq_ev r (0, [(9, 1)]) = r 9 := zu_e1 _ _
  have q10 : zq_ev r (0, [(2, 1), (6, 1)]) = r 2 + r 6 := by simp only [zq_ev, zq_ts] <;> omega
  have q11 : zq_ev r (0, [(0, 1)]) = r 0 := zu_e1 _ _
  have q12 : zq_ev r (0, [(1, 1)]) = r 1 := zu_e1 _ _
  have q13 : zq_ev r (0, [(3, 1)]) = r 3 := zu_e1 _ _
  have q14 : zq_ev r (0, [(4, 1)]) = r 4 := zu_e1 _ _
  have q15 : zq_ev r (0, [(5, 1)]) = r 5 := zu_e1 _ _
  have q16 : zq_ev r (0, [(7, 1)]) = r 7 := zu_e1 _ _
  have q17 : zq_ev r (0, [(8, 1)]) = r 8 := zu_e1 _ _
  obtain ⟨hT, hC, hF, hS, -, hK⟩ := hM
  have c := hC.1
  have a1 := zq_all_1 c
  rw [q0] at a1
  have c := zq_all_t c
  have a2 := zq_all_1 c
  rw [q1] at a2
  have c := zq_all_t c
  have a3 := zq_all_1 c
  rw [q2] at a3
  have c := zq_all_t c
  have a4 := zq_all_1 c
  rw [q3] at a4
  have c := zq_all_t c
  have a5 := zq_all_1 c
  rw [q4] at a5
  have c := zq_all_t c
  have a6 := zq_all_1 c
  rw [q5] at a6
  have c := zq_all_t c
  have a7 := zq_all_1 c
  rw [q6] at a7
  have c := zq_all_t c
  have a8 := zq_all_1 c
  rw [q7] at a8
  have c := zq_all_t c
  have a9 := zq_all_1 c
  rw [q8] at a9
  have s1 := zq_okS_1 (hS)
  simp only [q10, q4, q9] at s1
  have k1 : zu_SCC (zq_ev r (0, [(0, 1)])) (zq_ev r (0, [(1, 1)])) (zq_ev r (0, [(2, 1)])) (zq_ev r (0, [(3, 1)])) (zq_ev r (0, [(4, 1)])) (zq_ev r (0, [(5, 1)])) (zq_ev r (0, [(6, 1)])) (zq_ev r (0, [(7, 1)])) P h := zj_use x_SCC (hK)
  simp only [q0, q11, q12, q13, q14, q15, q16, q2] at k1
  have k2 : zu_CH (zq_ev r (0, [(4, 1)])) (zq_ev r (0, [(8, 1)])) P h := zj_use x_CH (zq_okX_t (hK))
  simp only [q14, q17] at k2
  have k3 : zu_TCc (zq_ev r (0, [(9, 1)])) (zq_ev r (0, [(1, 1)])) (zq_ev r (0, [(0, 1)])) P h := zj_use x_TCc (zq_okX_t (zq_okX_t (hK)))
  simp only [q11, q12, q9] at k3
  obtain t1 := zu_wMb_l (P := P) (h := h) (g := r 0) (n := r 1) (s := r 2) (e := r 3) (i := r 4) (w := r 5) (m := r 6) (c := r 7) (v := r 8) (bt := r 9) (b := r 10) a1 a2 a3 a4 a5 a6 a7 a8 a9 s1 k1 k2 k3
  obtain ⟨rq, hr⟩ : ∃ rq : Nat → Int, (∀ i, i < 11 → rq i = r i) := ⟨r, fun i hi => rfl⟩
  have v0 : rq 0 = r 0 := hr 0 (by decide)
  have v1 : rq 1 = r 1 := hr 1 (by decide)
  have v2 : rq 2 = r 2 := hr 2 (by decide)
  have v3 : rq 3 = r 3 := hr 3 (by decide)
  have v4 : rq 4 = r 4 := hr 4 (by decide)
  have v5 : rq 5 = r 5 := hr 5 (by decide)
  have v6 : rq 6 = r 6 := hr 6 (by decide)
  have v7 : rq 7 = r 7 := hr 7 (by decide)
  have g0 : zq_ev rq (0, [(0, 1)]) = r 0 := zu_f1 v0
  have g1 : zq_ev rq (0, [(1, 1)]) = r 1 := zu_f1 v1
  have g2 : zq_ev rq (0, [(2, 1)]) = r 2 := zu_f1 v2
  have g3 : zq_ev rq (0, [(3, 1)]) = r 3 := zu_f1 v3
  have g4 : zq_ev rq (1, [(4, 1)]) = r 4 + 1 := zu_f2 v4 _
  have g5 : zq_ev rq (0, [(5, 1)]) = r 5 := zu_f1 v5
  have g6 : zq_ev rq (1, [(6, 1)]) = r 6 + 1 := zu_f2 v6 _
  have g7 : zq_ev rq (0, [(7, 1)]) = r 7 := zu_f1 v7
  exact ⟨_, List.mem_cons_self .., rq, hr, zq_MeS_mk rfl hT (zq_all_nil) zq_fan (zq_fan) rfl (zu_fac ((x_SCC _ _ _).mpr (by show zu_SCC (zq_ev rq (0, [(0, 1)])) (zq_ev rq (0, [(1, 1)])) (zq_ev rq (0, [(2, 1)])) (zq_ev rq (0, [(3, 1)])) (zq_ev rq (1, [(4, 1)])) (zq_ev rq (0, [(5, 1)])) (zq_ev rq (1, [(6, 1)])) (zq_ev rq (0, [(7, 1)])) P h; simp only [g0, g1, g2, g3, g4, g5, g6, g7]; exact t1)) zq_fan)⟩
noncomputable def zu_wUla : zq_S × List zq_S := (([], [], [(0, [(6, 1)]), (-1, [(2, -1), (3, 1), (6, -1)]), (0, [(2, 1)]), (0, [(1, 1), (3, -1)]), (0, [(10, 1)]), (255, [(10, -1)]), (-1, [(8, 1), (10, -1)]), (31, [(8, -1)])], [], [((0, [(9, 1)]), (0, [(2, 1), (6, 1)]), (0, [(10, 1)]))], [], [(113, [(0, [(0, 1)]), (0, [(1, 1)]), (0, [(2, 1)]), (0, [(3, 1)]), (0, [(4, 1)]), (0, [(5, 1)]), (0, [(6, 1)]), (0, [(7, 1)])]), (115, [(0, [(4, 1)]), (0, [(8, 1)])]), (21, [(0, [(9, 1)]), (0, [(1, 1)]), (0, [(0, 1)])])], 11), [([], [], [], [], [], [], [(113, [(0, [(0, 1)]), (0, [(1, 1)]), (0, [(2, 1)]), (0, [(3, 1)]), (1, [(4, 1)]), (0, [(5, 1)]), (-1, []), (0, [(7, 1)])])], 11)])
theorem zu_wUla_l {P : zq_Ty} {h : zq_H} {g n s e i w m c v bt b : Int} (a1 : 0 ≤ m) (a2 : 0 ≤ -s + e - m - 1) (a3 : 0 ≤ s) (a4 : 0 ≤ n - e) (a5 : 0 ≤ b) (a6 : 0 ≤ -b + 255) (a7 : 0 ≤ v - b - 1) (a8 : 0 ≤ -v + 31) (s1 : 0 ≤ bt ∧ P (bt).toNat ≠ none ∧ h (bt).toNat (s + m) = b) (k1 : zu_SCC g n s e i w m c P h) (k2 : zu_CH i v P h) (k3 : zu_TCc bt n g P h) : (zu_SCC g n s e (i + 1) w (-1) c P h) := by
  obtain ⟨z1, z2, z3, z4⟩ := k1
  obtain ⟨y1, y2, y3⟩ := k2
  have nb : zu_chC i ≠ 32 := by omega
  have sp := zu_sp_l (l := zu_cC) z1 (by rw [zu_lenC]; omega) nb
  rw [sp] at z4
  have d := zu_dgc k3 (j := s + m) (by omega) (by omega) s1.2.2 (by omega) (by omega)
  have q : c = zu_sc (zu_dg g n) s e w (-1) (zu_sp (zu_cC.drop (i + 1).toNat)) := by
    rw [z4]
    cases hw : zu_sp (zu_cC.drop (i + 1).toNat) with
    | nil => rfl
    | cons x r =>
      show (if 0 ≤ m ∧ zu_bs (zu_dg g n) (e - s - m).toNat (s + m) = zu_cC.getD i.toNat 0 :: x then w else zu_fi _ r (w + 1) 29) = (if 0 ≤ -1 ∧ zu_bs (zu_dg g n) (e - s - -1).toNat (s + -1) = x then w else zu_fi _ r (w + 1) 29)
      rw [zu_bs_c (show 0 < e - s - m by omega), d]
      have hv : zu_cC.getD i.toNat 0 = v := y3.symm
      rw [hv, if_neg (fun y => by
        have y2 := (List.cons.inj y.2).1
        omega), if_neg (fun y => by omega)]
  exact ⟨by omega, by omega, by omega, q⟩
theorem zu_wUla_ok {w : zq_Wd} (x_SCC : zj_is w 113 (fun q => zu_SCC (q 0) (q 1) (q 2) (q 3) (q 4) (q 5) (q 6) (q 7))) (x_CH : zj_is w 115 (fun q => zu_CH (q 0) (q 1))) (x_TCc : zj_is w 21 (fun q => zu_TCc (q 0) (q 1) (q 2))) : zq_okG1 w zu_wUla := by
  refine ⟨rfl, rfl, zu_fac ⟨rfl, by decide⟩ zq_fan, ?_⟩
  intro r P h H hM
  have q0 : zq_ev r (0, [(6, 1)]) = r 6 := zu_e1 _ _
  have q1 : zq_ev r (-1, [(2, -1), (3, 1), (6, -1)]) = -r 2 + r 3 - r 6 - 1 := by simp only [zq_ev, zq_ts] <;> omega
  have q2 : zq_ev r (0, [(2, 1)]) = r 2 := zu_e1 _ _
  have q3 : zq_ev r (0, [(1, 1), (3, -1)]) = r 1 - r 3 := by simp only [zq_ev, zq_ts] <;> omega
  have q4 : zq_ev r (0, [(10, 1)]) = r 10 := zu_e1 _ _
  have q5 : zq_ev r (255, [(10, -1)]) = -r 10 + 255 := zu_e5 _ _ _
  have q6 : zq_ev r (-1, [(8, 1), (10, -1)]) = r 8 - r 10 - 1 := by simp only [zq_ev, zq_ts] <;> omega
  have q7 : zq_ev r (31, [(8, -1)]) = -r 8 + 31 := zu_e5 _ _ _
  have q8 : zq_ev r (0, [(9, 1)]) = r 9 := zu_e1 _ _
  have q9 : zq_ev r (0, [(2, 1), (6, 1)]) = r 2 + r 6 := by simp only [zq_ev, zq_ts] <;> omega
  have q10 : zq_ev r (0, [(0, 1)]) = r 0 := zu_e1 _ _
  have q11 : zq_ev r (0, [(1, 1)]) = r 1 := zu_e1 _ _
  have q12 : zq_ev r (0, [(3, 1)]) = r 3 := zu_e1 _ _
  have q13 : zq_ev r (0, [(4, 1)]) = r 4 := zu_e1 _ _
  have q14 : zq_ev r (0, [(5, 1)]) = r 5 := zu_e1 _ _
  have q15 : zq_ev r (0, [(7, 1)]) = r 7 := zu_e1 _ _
  have q16 : zq_ev r (0, [(8, 1)]) = r 8 := zu_e1 _ _
  obtain ⟨hT, hC, hF, hS, -, hK⟩ := hM
  have c := hC.1
  have a1 := zq_all_1 c
  rw [q0] at a1
  have c := zq_all_t c
  have a2 := zq_all_1 c
  rw [q1] at a2
  have c := zq_all_t c
  have a3 := zq_all_1 c
  rw [q2] at a3
  have c := zq_all_t c
  have a4 := zq_all_1 c
  rw [q3] at a4
  have c := zq_all_t c
  have a5 := zq_all_1 c
  rw [q4] at a5
  have c := zq_all_t c
  have a6 := zq_all_1 c
  rw [q5] at a6
  have c := zq_all_t c
  have a7 := zq_all_1 c
  rw [q6] at a7
  have c := zq_all_t c
  have a8 := zq_all_1 c
  rw [q7] at a8
  have s1 := zq_okS_1 (hS)
  simp only [q4, q8, q9] at s1
  have k1 : zu_SCC (zq_ev r (0, [(0, 1)])) (zq_ev r (0, [(1, 1)])) (zq_ev r (0, [(2, 1)])) (zq_ev r (0, [(3, 1)])) (zq_ev r (0, [(4, 1)])) (zq_ev r (0, [(5, 1)])) (zq_ev r (0, [(6, 1)])) (zq_ev r (0, [(7, 1)])) P h := zj_use x_SCC (hK)
  simp only [q0, q10, q11, q12, q13, q14, q15, q2] at k1
  have k2 : zu_CH (zq_ev r (0, [(4, 1)])) (zq_ev r (0, [(8, 1)])) P h := zj_use x_CH (zq_okX_t (hK))
  simp only [q13, q16] at k2
  have k3 : zu_TCc (zq_ev r (0, [(9, 1)])) (zq_ev r (0, [(1, 1)])) (zq_ev r (0, [(0, 1)])) P h := zj_use x_TCc (zq_okX_t (zq_okX_t (hK)))
  simp only [q10, q11, q8] at k3
  obtain t1 := zu_wUla_l (P := P) (h := h) (g := r 0) (n := r 1) (s := r 2) (e := r 3) (i := r 4) (w := r 5) (m := r 6) (c := r 7) (v := r 8) (bt := r 9) (b := r 10) a1 a2 a3 a4 a5 a6 a7 a8 s1 k1 k2 k3
  obtain ⟨rq, hr⟩ : ∃ rq : Nat → Int, (∀ i, i < 11 → rq i = r i) := ⟨r, fun i hi => rfl⟩
  have v0 : rq 0 = r 0 := hr 0 (by decide)
  have v1 : rq 1 = r 1 := hr 1 (by decide)
  have v2 : rq 2 = r 2 := hr 2 (by decide)
  have v3 : rq 3 = r 3 := hr 3 (by decide)
  have v4 : rq 4 = r 4 := hr 4 (by decide)
  have v5 : rq 5 = r 5 := hr 5 (by decide)
  have v7 : rq 7 = r 7 := hr 7 (by decide)
  have g0 : zq_ev rq (0, [(0, 1)]) = r 0 := zu_f1 v0
  have g1 : zq_ev rq (0, [(1, 1)]) = r 1 := zu_f1 v1
  have g2 : zq_ev rq (0, [(2, 1)]) = r 2 := zu_f1 v2
  have g3 : zq_ev rq (0, [(3, 1)]) = r 3 := zu_f1 v3
  have g4 : zq_ev rq (1, [(4, 1)]) = r 4 + 1 := zu_f2 v4 _
  have g5 : zq_ev rq (0, [(5, 1)]) = r 5 := zu_f1 v5
  have g6 : zq_ev rq (-1, []) = -1 := zu_e0 _ _
  have g7 : zq_ev rq (0, [(7, 1)]) = r 7 := zu_f1 v7
  exact ⟨_, List.mem_cons_self .., rq, hr, zq_MeS_mk rfl hT (zq_all_nil) zq_fan (zq_fan) rfl (zu_fac ((x_SCC _ _ _).mpr (by show zu_SCC (zq_ev rq (0, [(0, 1)])) (zq_ev rq (0, [(1, 1)])) (zq_ev rq (0, [(2, 1)])) (zq_ev rq (0, [(3, 1)])) (zq_ev rq (1, [(4, 1)])) (zq_ev rq (0, [(5, 1)])) (zq_ev rq (-1, [])) (zq_ev rq (0, [(7, 1)])) P h; simp only [g0, g1, g2, g3, g4, g5, g6, g7]; exact t1)) zq_fan)⟩
noncomputable def zu_wUlb : zq_S × List zq_S := (([], [], [(0, [(6, 1)]), (-1, [(2, -1), (3, 1), (6, -1)]), (0, [(2, 1)]), (0, [(1, 1), (3, -1)]), (0, [(10, 1)]), (255, [(10, -1)]), (-1, [(8, 1), (10, -1)]), (-33, [(8, 1)])], [], [((0, [(9, 1)]), (0, [(2, 1), (6, 1)]), (0, [(10, 1)]))], [], [(113, [(0, [(0, 1)]), (0, [(1, 1)]), (0, [(2, 1)]), (0, [(3, 1)]), (0, [(4, 1)]), (0, [(5, 1)]), (0, [(6, 1)]), (0, [(7, 1)])]), (115, [(0, [(4, 1)]), (0, [(8, 1)])]), (21, [(0, [(9, 1)]), (0, [(1, 1)]), (0, [(0, 1)])])], 11), [([], [], [], [], [], [], [(113, [(0, [(0, 1)]), (0, [(1, 1)]), (0, [(2, 1)]), (0, [(3, 1)]), (1, [(4, 1)]), (0, [(5, 1)]), (-1, []), (0, [(7, 1)])])], 11)])
theorem zu_wUlb_l {P : zq_Ty} {h : zq_H} {g n s e i w m c v bt b : Int} (a1 : 0 ≤ m) (a2 : 0 ≤ -s + e - m - 1) (a3 : 0 ≤ s) (a4 : 0 ≤ n - e) (a5 : 0 ≤ b) (a6 : 0 ≤ -b + 255) (a7 : 0 ≤ v - b - 1) (a8 : 0 ≤ v - 33) (s1 : 0 ≤ bt ∧ P (bt).toNat ≠ none ∧ h (bt).toNat (s + m) = b) (k1 : zu_SCC g n s e i w m c P h) (k2 : zu_CH i v P h) (k3 : zu_TCc bt n g P h) : (zu_SCC g n s e (i + 1) w (-1) c P h) := by
  obtain ⟨z1, z2, z3, z4⟩ := k1
  obtain ⟨y1, y2, y3⟩ := k2
  have nb : zu_chC i ≠ 32 := by omega
  have sp := zu_sp_l (l := zu_cC) z1 (by rw [zu_lenC]; omega) nb
  rw [sp] at z4
  have d := zu_dgc k3 (j := s + m) (by omega) (by omega) s1.2.2 (by omega) (by omega)
  have q : c = zu_sc (zu_dg g n) s e w (-1) (zu_sp (zu_cC.drop (i + 1).toNat)) := by
    rw [z4]
    cases hw : zu_sp (zu_cC.drop (i + 1).toNat) with
    | nil => rfl
    | cons x r =>
      show (if 0 ≤ m ∧ zu_bs (zu_dg g n) (e - s - m).toNat (s + m) = zu_cC.getD i.toNat 0 :: x then w else zu_fi _ r (w + 1) 29) = (if 0 ≤ -1 ∧ zu_bs (zu_dg g n) (e - s - -1).toNat (s + -1) = x then w else zu_fi _ r (w + 1) 29)
      rw [zu_bs_c (show 0 < e - s - m by omega), d]
      have hv : zu_cC.getD i.toNat 0 = v := y3.symm
      rw [hv, if_neg (fun y => by
        have y2 := (List.cons.inj y.2).1
        omega), if_neg (fun y => by omega)]
  exact ⟨by omega, by omega, by omega, q⟩
theorem zu_wUlb_ok {w : zq_Wd} (x_SCC : zj_is w 113 (fun q => zu_SCC (q 0) (q 1) (q 2) (q 3) (q 4) (q 5) (q 6) (q 7))) (x_CH : zj_is w 115 (fun q => zu_CH (q 0) (q 1))) (x_TCc : zj_is w 21 (fun q => zu_TCc (q 0) (q 1) (q 2))) : zq_okG1 w zu_wUlb := by
  refine ⟨rfl, rfl, zu_fac ⟨rfl, by decide⟩ zq_fan, ?_⟩
  intro r P h H hM
  have q0 : zq_ev r (0, [(6, 1)]) = r 6 := zu_e1 _ _
  have q1 : zq_ev r (-1, [(2, -1), (3, 1), (6, -1)]) = -r 2 + r 3 - r 6 - 1 := by simp only [zq_ev, zq_ts] <;> omega
  have q2 : zq_ev r (0, [(2, 1)]) = r 2 := zu_e1 _ _
  have q3 : zq_ev r (0, [(1, 1), (3, -1)]) = r 1 - r 3 := by simp only [zq_ev, zq_ts] <;> omega
  have q4 : zq_ev r (0, [(10, 1)]) = r 10 := zu_e1 _ _
  have q5 : zq_ev r (255, [(10, -1)]) = -r 10 + 255 := zu_e5 _ _ _
  have q6 : zq_ev r (-1, [(8, 1), (10, -1)]) = r 8 - r 10 - 1 := by simp only [zq_ev, zq_ts] <;> omega
  have q7 : zq_ev r (-33, [(8, 1)]) = r 8 - 33 := zu_e3 _ _ _
  have q8 : zq_ev r (0, [(9, 1)]) = r 9 := zu_e1 _ _
  have q9 : zq_ev r (0, [(2, 1), (6, 1)]) = r 2 + r 6 := by simp only [zq_ev, zq_ts] <;> omega
  have q10 : zq_ev r (0, [(0, 1)]) = r 0 := zu_e1 _ _
  have q11 : zq_ev r (0, [(1, 1)]) = r 1 := zu_e1 _ _
  have q12 : zq_ev r (0, [(3, 1)]) = r 3 := zu_e1 _ _
  have q13 : zq_ev r (0, [(4, 1)]) = r 4 := zu_e1 _ _
  have q14 : zq_ev r (0, [(5, 1)]) = r 5 := zu_e1 _ _
  have q15 : zq_ev r (0, [(7, 1)]) = r 7 := zu_e1 _ _
  have q16 : zq_ev r (0, [(8, 1)]) = r 8 := zu_e1 _ _
  obtain ⟨hT, hC, hF, hS, -, hK⟩ := hM
  have c := hC.1
  have a1 := zq_all_1 c
  rw [q0] at a1
  have c := zq_all_t c
  have a2 := zq_all_1 c
  rw [q1] at a2
  have c := zq_all_t c
  have a3 := zq_all_1 c
  rw [q2] at a3
  have c := zq_all_t c
  have a4 := zq_all_1 c
  rw [q3] at a4
  have c := zq_all_t c
  have a5 := zq_all_1 c
  rw [q4] at a5
  have c := zq_all_t c
  have a6 := zq_all_1 c
  rw [q5] at a6
  have c := zq_all_t c
  have a7 := zq_all_1 c
  rw [q6] at a7
  have c := zq_all_t c
  have a8 := zq_all_1 c
  rw [q7] at a8
  have s1 := zq_okS_1 (hS)
  simp only [q4, q8, q9] at s1
  have k1 : zu_SCC (zq_ev r (0, [(0, 1)])) (zq_ev r (0, [(1, 1)])) (zq_ev r (0, [(2, 1)])) (zq_ev r (0, [(3, 1)])) (zq_ev r (0, [(4, 1)])) (zq_ev r (0, [(5, 1)])) (zq_ev r (0, [(6, 1)])) (zq_ev r (0, [(7, 1)])) P h := zj_use x_SCC (hK)
  simp only [q0, q10, q11, q12, q13, q14, q15, q2] at k1
  have k2 : zu_CH (zq_ev r (0, [(4, 1)])) (zq_ev r (0, [(8, 1)])) P h := zj_use x_CH (zq_okX_t (hK))
  simp only [q13, q16] at k2
  have k3 : zu_TCc (zq_ev r (0, [(9, 1)])) (zq_ev r (0, [(1, 1)])) (zq_ev r (0, [(0, 1)])) P h := zj_use x_TCc (zq_okX_t (zq_okX_t (hK)))
  simp only [q10, q11, q8] at k3
  obtain t1 := zu_wUlb_l (P := P) (h := h) (g := r 0) (n := r 1) (s := r 2) (e := r 3) (i := r 4) (w := r 5) (m := r 6) (c := r 7) (v := r 8) (bt := r 9) (b := r 10) a1 a2 a3 a4 a5 a6 a7 a8 s1 k1 k2 k3
  obtain ⟨rq, hr⟩ : ∃ rq : Nat → Int, (∀ i, i < 11 → rq i = r i) := ⟨r, fun i hi => rfl⟩
  have v0 : rq 0 = r 0 := hr 0 (by decide)
  have v1 : rq 1 = r 1 := hr 1 (by decide)
  have v2 : rq 2 = r 2 := hr 2 (by decide)
  have v3 : rq 3 = r 3 := hr 3 (by decide)
  have v4 : rq 4 = r 4 := hr 4 (by decide)
  have v5 : rq 5 = r 5 := hr 5 (by decide)
  have v7 : rq 7 = r 7 := hr 7 (by decide)
  have g0 : zq_ev rq (0, [(0, 1)]) = r 0 := zu_f1 v0
  have g1 : zq_ev rq (0, [(1, 1)]) = r 1 := zu_f1 v1
  have g2 : zq_ev rq (0, [(2, 1)]) = r 2 := zu_f1 v2
  have g3 : zq_ev rq (0, [(3, 1)]) = r 3 := zu_f1 v3
  have g4 : zq_ev rq (1, [(4, 1)]) = r 4 + 1 := zu_f2 v4 _
  have g5 : zq_ev rq (0, [(5, 1)]) = r 5 := zu_f1 v5
  have g6 : zq_ev rq (-1, []) = -1 := zu_e0 _ _
  have g7 : zq_ev rq (0, [(7, 1)]) = r 7 := zu_f1 v7
  exact ⟨_, List.mem_cons_self .., rq, hr, zq_MeS_mk rfl hT (zq_all_nil) zq_fan (zq_fan) rfl (zu_fac ((x_SCC _ _ _).mpr (by show zu_SCC (zq_ev rq (0, [(0, 1)])) (zq_ev rq (0, [(1, 1)])) (zq_ev rq (0, [(2, 1)])) (zq_ev rq (0, [(3, 1)])) (zq_ev rq (1, [(4, 1)])) (zq_ev rq (0, [(5, 1)])) (zq_ev rq (-1, [])) (zq_ev rq (0, [(7, 1)])) P h; simp only [g0, g1, g2, g3, g4, g5, g6, g7]; exact t1)) zq_fan)⟩
noncomputable def zu_wUga : zq_S × List zq_S := (([], [], [(0, [(6, 1)]), (-1, [(2, -1), (3, 1), (6, -1)]), (0, [(2, 1)]), (0, [(1, 1), (3, -1)]), (0, [(10, 1)]), (255, [(10, -1)]), (-1, [(8, -1), (10, 1)]), (31, [(8, -1)])], [], [((0, [(9, 1)]), (0, [(2, 1), (6, 1)]), (0, [(10, 1)]))], [], [(113, [(0, [(0, 1)]), (0, [(1, 1)]), (0, [(2, 1)]), (0, [(3, 1)]), (0, [(4, 1)]), (0, [(5, 1)]), (0, [(6, 1)]), (0, [(7, 1)])]), (115, [(0, [(4, 1)]), (0, [(8, 1)])]), (21, [(0, [(9, 1)]), (0, [(1, 1)]), (0, [(0, 1)])])], 11), [([], [], [], [], [], [], [(113, [(0, [(0, 1)]), (0, [(1, 1)]), (0, [(2, 1)]), (0, [(3, 1)]), (1, [(4, 1)]), (0, [(5, 1)]), (-1, []), (0, [(7, 1)])])], 11)])
theorem zu_wUga_l {P : zq_Ty} {h : zq_H} {g n s e i w m c v bt b : Int} (a1 : 0 ≤ m) (a2 : 0 ≤ -s + e - m - 1) (a3 : 0 ≤ s) (a4 : 0 ≤ n - e) (a5 : 0 ≤ b) (a6 : 0 ≤ -b + 255) (a7 : 0 ≤ -v + b - 1) (a8 : 0 ≤ -v + 31) (s1 : 0 ≤ bt ∧ P (bt).toNat ≠ none ∧ h (bt).toNat (s + m) = b) (k1 : zu_SCC g n s e i w m c P h) (k2 : zu_CH i v P h) (k3 : zu_TCc bt n g P h) : (zu_SCC g n s e (i + 1) w (-1) c P h) := by
  obtain ⟨z1, z2, z3, z4⟩ := k1
  obtain ⟨y1, y2, y3⟩ := k2
  have nb : zu_chC i ≠ 32 := by omega
  have sp := zu_sp_l (l := zu_cC) z1 (by rw [zu_lenC]; omega) nb
  rw [sp] at z4
  have d := zu_dgc k3 (j := s + m) (by omega) (by omega) s1.2.2 (by omega) (by omega)
  have q : c = zu_sc (zu_dg g n) s e w (-1) (zu_sp (zu_cC.drop (i + 1).toNat)) := by
    rw [z4]
    cases hw : zu_sp (zu_cC.drop (i + 1).toNat) with
    | nil => rfl
    | cons x r =>
      show (if 0 ≤ m ∧ zu_bs (zu_dg g n) (e - s - m).toNat (s + m) = zu_cC.getD i.toNat 0 :: x then w else zu_fi _ r (w + 1) 29) = (if 0 ≤ -1 ∧ zu_bs (zu_dg g n) (e - s - -1).toNat (s + -1) = x then w else zu_fi _ r (w + 1) 29)
      rw [zu_bs_c (show 0 < e - s - m by omega), d]
      have hv : zu_cC.getD i.toNat 0 = v := y3.symm
      rw [hv, if_neg (fun y => by
        have y2 := (List.cons.inj y.2).1
        omega), if_neg (fun y => by omega)]
  exact ⟨by omega, by omega, by omega, q⟩
theorem zu_wUga_ok {w : zq_Wd} (x_SCC : zj_is w 113 (fun q => zu_SCC (q 0) (q 1) (q 2) (q 3) (q 4) (q 5) (q 6) (q 7))) (x_CH : zj_is w 115 (fun q => zu_CH (q 0) (q 1))) (x_TCc : zj_is w 21 (fun q => zu_TCc (q 0) (q 1) (q 2))) : zq_okG1 w zu_wUga := by
  refine ⟨rfl, rfl, zu_fac ⟨rfl, by decide⟩ zq_fan, ?_⟩
  intro r P h H hM
  have q0 : zq_ev r (0, [(6, 1)]) = r 6 := zu_e1 _ _
  have q1 : zq_ev r (-1, [(2, -1), (3, 1), (6, -1)]) = -r 2 + r 3 - r 6 - 1 := by simp only [zq_ev, zq_ts] <;> omega
  have q2 : zq_ev r (0, [(2, 1)]) = r 2 := zu_e1 _ _
  have q3 : zq_ev r (0, [(1, 1), (3, -1)]) = r 1 - r 3 := by simp only [zq_ev, zq_ts] <;> omega
  have q4 : zq_ev r (0, [(10, 1)]) = r 10 := zu_e1 _ _
  have q5 : zq_ev r (255, [(10, -1)]) = -r 10 + 255 := zu_e5 _ _ _
  have q6 : zq_ev r (-1, [(8, -1), (10, 1)]) = -r 8 + r 10 - 1 := by simp only [zq_ev, zq_ts] <;> omega
  have q7 : zq_ev r (31, [(8, -1)]) = -r 8 + 31 := zu_e5 _ _ _
  have q8 : zq_ev r (0, [(9, 1)]) = r 9 := zu_e1 _ _
  have q9 : zq_ev r (0, [(2, 1), (6, 1)]) = r 2 + r 6 := by simp only [zq_ev, zq_ts] <;> omega
  have q10 : zq_ev r (0, [(0, 1)]) = r 0 := zu_e1 _ _
  have q11 : zq_ev r (0, [(1, 1)]) = r 1 := zu_e1 _ _
  have q12 : zq_ev r (0, [(3, 1)]) = r 3 := zu_e1 _ _
  have q13 : zq_ev r (0, [(4, 1)]) = r 4 := zu_e1 _ _
  have q14 : zq_ev r (0, [(5, 1)]) = r 5 := zu_e1 _ _
  have q15 : zq_ev r (0, [(7, 1)]) = r 7 := zu_e1 _ _
  have q16 : zq_ev r (0, [(8, 1)]) = r 8 := zu_e1 _ _
  obtain ⟨hT, hC, hF, hS, -, hK⟩ := hM
  have c := hC.1
  have a1 := zq_all_1 c
  rw [q0] at a1
  have c := zq_all_t c
  have a2 := zq_all_1 c
  rw [q1] at a2
  have c := zq_all_t c
  have a3 := zq_all_1 c
  rw [q2] at a3
  have c := zq_all_t c
  have a4 := zq_all_1 c
  rw [q3] at a4
  have c := zq_all_t c
  have a5 := zq_all_1 c
  rw [q4] at a5
  have c := zq_all_t c
  have a6 := zq_all_1 c
  rw [q5] at a6
  have c := zq_all_t c
  have a7 := zq_all_1 c
  rw [q6] at a7
  have c := zq_all_t c
  have a8 := zq_all_1 c
  rw [q7] at a8
  have s1 := zq_okS_1 (hS)
  simp only [q4, q8, q9] at s1
  have k1 : zu_SCC (zq_ev r (0, [(0, 1)])) (zq_ev r (0, [(1, 1)])) (zq_ev r (0, [(2, 1)])) (zq_ev r (0, [(3, 1)])) (zq_ev r (0, [(4, 1)])) (zq_ev r (0, [(5, 1)])) (zq_ev r (0, [(6, 1)])) (zq_ev r (0, [(7, 1)])) P h := zj_use x_SCC (hK)
  simp only [q0, q10, q11, q12, q13, q14, q15, q2] at k1
  have k2 : zu_CH (zq_ev r (0, [(4, 1)])) (zq_ev r (0, [(8, 1)])) P h := zj_use x_CH (zq_okX_t (hK))
  simp only [q13, q16] at k2
  have k3 : zu_TCc (zq_ev r (0, [(9, 1)])) (zq_ev r (0, [(1, 1)])) (zq_ev r (0, [(0, 1)])) P h := zj_use x_TCc (zq_okX_t (zq_okX_t (hK)))
  simp only [q10, q11, q8] at k3
  obtain t1 := zu_wUga_l (P := P) (h := h) (g := r 0) (n := r 1) (s := r 2) (e := r 3) (i := r 4) (w := r 5) (m := r 6) (c := r 7) (v := r 8) (bt := r 9) (b := r 10) a1 a2 a3 a4 a5 a6 a7 a8 s1 k1 k2 k3
  obtain ⟨rq, hr⟩ : ∃ rq : Nat → Int, (∀ i, i < 11 → rq i = r i) := ⟨r, fun i hi => rfl⟩
  have v0 : rq 0 = r 0 := hr 0 (by decide)
  have v1 : rq 1 = r 1 := hr 1 (by decide)
  have v2 : rq 2 = r 2 := hr 2 (by decide)
  have v3 : rq 3 = r 3 := hr 3 (by decide)
  have v4 : rq 4 = r 4 := hr 4 (by decide)
  have v5 : rq 5 = r 5 := hr 5 (by decide)
  have v7 : rq 7 = r 7 := hr 7 (by decide)
  have g0 : zq_ev rq (0, [(0, 1)]) = r 0 := zu_f1 v0
  have g1 : zq_ev rq (0, [(1, 1)]) = r 1 := zu_f1 v1
  have g2 : zq_ev rq (0, [(2, 1)]) = r 2 := zu_f1 v2
  have g3 : zq_ev rq (0, [(3, 1)]) = r 3 := zu_f1 v3
  have g4 : zq_ev rq (1, [(4, 1)]) = r 4 + 1 := zu_f2 v4 _
  have g5 : zq_ev rq (0, [(5, 1)]) = r 5 := zu_f1 v5
  have g6 : zq_ev rq (-1, []) = -1 := zu_e0 _ _
  have g7 : zq_ev rq (0, [(7, 1)]) = r 7 := zu_f1 v7
  exact ⟨_, List.mem_cons_self .., rq, hr, zq_MeS_mk rfl hT (zq_all_nil) zq_fan (zq_fan) rfl (zu_fac ((x_SCC _ _ _).mpr (by show zu_SCC (zq_ev rq (0, [(0, 1)])) (zq_ev rq (0, [(1, 1)])) (zq_ev rq (0, [(2, 1)])) (zq_ev rq (0, [(3, 1)])) (zq_ev rq (1, [(4, 1)])) (zq_ev rq (0, [(5, 1)])) (zq_ev rq (-1, [])) (zq_ev rq (0, [(7, 1)])) P h; simp only [g0, g1, g2, g3, g4, g5, g6, g7]; exact t1)) zq_fan)⟩
noncomputable def zu_wUgb : zq_S × List zq_S := (([], [], [(0, [(6, 1)]), (-1, [(2, -1), (3, 1), (6, -1)]), (0, [(2, 1)]), (0, [(1, 1), (3, -1)]), (0, [(10, 1)]), (255, [(10, -1)]), (-1, [(8, -1), (10, 1)]), (-33, [(8, 1)])], [], [((0, [(9, 1)]), (0, [(2, 1), (6, 1)]), (0, [(10, 1)]))], [], [(113, [(0, [(0, 1)]), (0, [(1, 1)]), (0, [(2, 1)]), (0, [(3, 1)]), (0, [(4, 1)]), (0, [(5, 1)]), (0, [(6, 1)]), (0, [(7, 1)])]), (115, [(0, [(4, 1)]), (0, [(8, 1)])]), (21, [(0, [(9, 1)]), (0, [(1, 1)]), (0, [(0, 1)])])], 11), [([], [], [], [], [], [], [(113, [(0, [(0, 1)]), (0, [(1, 1)]), (0, [(2, 1)]), (0, [(3, 1)]), (1, [(4, 1)]), (0, [(5, 1)]), (-1, []), (0, [(7, 1)])])], 11)])
theorem zu_wUgb_l {P : zq_Ty} {h : zq_H} {g n s e i w m c v bt b : Int} (a1 : 0 ≤ m) (a2 : 0 ≤ -s + e - m - 1) (a3 : 0 ≤ s) (a4 : 0 ≤ n - e) (a5 : 0 ≤ b) (a6 : 0 ≤ -b + 255) (a7 : 0 ≤ -v + b - 1) (a8 : 0 ≤ v - 33) (s1 : 0 ≤ bt ∧ P (bt).toNat ≠ none ∧ h (bt).toNat (s + m) = b) (k1 : zu_SCC g n s e i w m c P h) (k2 : zu_CH i v P h) (k3 : zu_TCc bt n g P h) : (zu_SCC g n s e (i + 1) w (-1) c P h) := by
  obtain ⟨z1, z2, z3, z4⟩ := k1
  obtain ⟨y1, y2, y3⟩ := k2
  have nb : zu_chC i ≠ 32 := by omega
  have sp := zu_sp_l (l := zu_cC) z1 (by rw [zu_lenC]; omega) nb
  rw [sp] at z4
  have d := zu_dgc k3 (j := s + m) (by omega) (by omega) s1.2.2 (by omega) (by omega)
  have q : c = zu_sc (zu_dg g n) s e w (-1) (zu_sp (zu_cC.drop (i + 1).toNat)) := by
    rw [z4]
    cases hw : zu_sp (zu_cC.drop (i + 1).toNat) with
    | nil => rfl
    | cons x r =>
      show (if 0 ≤ m ∧ zu_bs (zu_dg g n) (e - s - m).toNat (s + m) = zu_cC.getD i.toNat 0 :: x then w else zu_fi _ r (w + 1) 29) = (if 0 ≤ -1 ∧ zu_bs (zu_dg g n) (e - s - -1).toNat (s + -1) = x then w else zu_fi _ r (w + 1) 29)
      rw [zu_bs_c (show 0 < e - s - m by omega), d]
      have hv : zu_cC.getD i.toNat 0 = v := y3.symm
      rw [hv, if_neg (fun y => by
        have y2 := (List.cons.inj y.2).1
        omega), if_neg (fun y => by omega)]
  exact ⟨by omega, by omega, by omega, q⟩
theorem zu_wUgb_ok {w : zq_Wd} (x_SCC : zj_is w 113 (fun q => zu_SCC (q 0) (q 1) (q 2) (q 3) (q 4) (q 5) (q 6) (q 7))) (x_CH : zj_is w 115 (fun q => zu_CH (q 0) (q 1))) (x_TCc : zj_is w 21 (fun q => zu_TCc (q 0) (q 1) (q 2))) : zq_okG1 w zu_wUgb := by
  refine ⟨rfl, rfl, zu_fac ⟨rfl, by decide⟩ zq_fan, ?_⟩
  intro r P h H hM
  have q0 : zq_ev r (0, [(6, 1)]) = r 6 := zu_e1 _ _
  have q1 : zq_ev r (-1, [(2, -1), (3, 1), (6, -1)]) = -r 2 + r 3 - r 6 - 1 := by simp only [zq_ev, zq_ts] <;> omega
  have q2 : zq_ev r (0, [(2, 1)]) = r 2 := zu_e1 _ _
  have q3 : zq_ev r (0, [(1, 1), (3, -1)]) = r 1 - r 3 := by simp only [zq_ev, zq_ts] <;> omega
  have q4 : zq_ev r (0, [(10, 1)]) = r 10 := zu_e1 _ _
  have q5 : zq_ev r (255, [(10, -1)]) = -r 10 + 255 := zu_e5 _ _ _
  have q6 : zq_ev r (-1, [(8, -1), (10, 1)]) = -r 8 + r 10 - 1 := by simp only [zq_ev, zq_ts] <;> omega
  have q7 : zq_ev r (-33, [(8, 1)]) = r 8 - 33 := zu_e3 _ _ _
  have q8 : zq_ev r (0, [(9, 1)]) = r 9 := zu_e1 _ _
  have q9 : zq_ev r (0, [(2, 1), (6, 1)]) = r 2 + r 6 := by simp only [zq_ev, zq_ts] <;> omega
  have q10 : zq_ev r (0, [(0, 1)]) = r 0 := zu_e1 _ _
  have q11 : zq_ev r (0, [(1, 1)]) = r 1 := zu_e1 _ _
  have q12 : zq_ev r (0, [(3, 1)]) = r 3 := zu_e1 _ _
  have q13 : zq_ev r (0, [(4, 1)]) = r 4 := zu_e1 _ _
  have q14 : zq_ev r (0, [(5, 1)]) = r 5 := zu_e1 _ _
  have q15 : zq_ev r (0, [(7, 1)]) = r 7 := zu_e1 _ _
  have q16 : zq_ev r (0, [(8, 1)]) = r 8 := zu_e1 _ _
  obtain ⟨hT, hC, hF, hS, -, hK⟩ := hM
  have c := hC.1
  have a1 := zq_all_1 c
  rw [q0] at a1
  have c := zq_all_t c
  have a2 := zq_all_1 c
  rw [q1] at a2
  have c := zq_all_t c
  have a3 := zq_all_1 c
  rw [q2] at a3
  have c := zq_all_t c
  have a4 := zq_all_1 c
  rw [q3] at a4
  have c := zq_all_t c
  have a5 := zq_all_1 c
  rw [q4] at a5
  have c := zq_all_t c
  have a6 := zq_all_1 c
  rw [q5] at a6
  have c := zq_all_t c
  have a7 := zq_all_1 c
  rw [q6] at a7
  have c := zq_all_t c
  have a8 := zq_all_1 c
  rw [q7] at a8
  have s1 := zq_okS_1 (hS)
  simp only [q4, q8, q9] at s1
  have k1 : zu_SCC (zq_ev r (0, [(0, 1)])) (zq_ev r (0, [(1, 1)])) (zq_ev r (0, [(2, 1)])) (zq_ev r (0, [(3, 1)])) (zq_ev r (0, [(4, 1)])) (zq_ev r (0, [(5, 1)])) (zq_ev r (0, [(6, 1)])) (zq_ev r (0, [(7, 1)])) P h := zj_use x_SCC (hK)
  simp only [q0, q10, q11, q12, q13, q14, q15, q2] at k1
  have k2 : zu_CH (zq_ev r (0, [(4, 1)])) (zq_ev r (0, [(8, 1)])) P h := zj_use x_CH (zq_okX_t (hK))
  simp only [q13, q16] at k2
  have k3 : zu_TCc (zq_ev r (0, [(9, 1)])) (zq_ev r (0, [(1, 1)])) (zq_ev r (0, [(0, 1)])) P h := zj_use x_TCc (zq_okX_t (zq_okX_t (hK)))
  simp only [q10, q11, q8] at k3
  obtain t1 := zu_wUgb_l (P := P) (h := h) (g := r 0) (n := r 1) (s := r 2) (e := r 3) (i := r 4) (w := r 5) (m := r 6) (c := r 7) (v := r 8) (bt := r 9) (b := r 10) a1 a2 a3 a4 a5 a6 a7 a8 s1 k1 k2 k3
  obtain ⟨rq, hr⟩ : ∃ rq : Nat → Int, (∀ i, i < 11 → rq i = r i) := ⟨r, fun i hi => rfl⟩
  have v0 : rq 0 = r 0 := hr 0 (by decide)
  have v1 : rq 1 = r 1 := hr 1 (by decide)
  have v2 : rq 2 = r 2 := hr 2 (by decide)
  have v3 : rq 3 = r 3 := hr 3 (by decide)
  have v4 : rq 4 = r 4 := hr 4 (by decide)
  have v5 : rq 5 = r 5 := hr 5 (by decide)
  have v7 : rq 7 = r 7 := hr 7 (by decide)
  have g0 : zq_ev rq (0, [(0, 1)]) = r 0 := zu_f1 v0
  have g1 : zq_ev rq (0, [(1, 1)]) = r 1 := zu_f1 v1
  have g2 : zq_ev rq (0, [(2, 1)]) = r 2 := zu_f1 v2
  have g3 : zq_ev rq (0, [(3, 1)]) = r 3 := zu_f1 v3
  have g4 : zq_ev rq (1, [(4, 1)]) = r 4 + 1 := zu_f2 v4 _
  have g5 : zq_ev rq (0, [(5, 1)]) = r 5 := zu_f1 v5
  have g6 : zq_ev rq (-1, []) = -1 := zu_e0 _ _
  have g7 : zq_ev rq (0, [(7, 1)]) = r 7 := zu_f1 v7
  exact ⟨_, List.mem_cons_self .., rq, hr, zq_MeS_mk rfl hT (zq_all_nil) zq_fan (zq_fan) rfl (zu_fac ((x_SCC _ _ _).mpr (by show zu_SCC (zq_ev rq (0, [(0, 1)])) (zq_ev rq (0, [(1, 1)])) (zq_ev rq (0, [(2, 1)])) (zq_ev rq (0, [(3, 1)])) (zq_ev rq (1, [(4, 1)])) (zq_ev rq (0, [(5, 1)])) (zq_ev rq (-1, [])) (zq_ev rq (0, [(7, 1)])) P h; simp only [g0, g1, g2, g3, g4, g5, g6, g7]; exact t1)) zq_fan)⟩
noncomputable def zu_wZ : zq_S × List zq_S := (([], [], [(-141, [(4, 1)])], [], [], [], [(113, [(0, [(0, 1)]), (0, [(1, 1)]), (0, [(2, 1)]), (0, [(3, 1)]), (0, [(4, 1)]), (0, [(5, 1)]), (0, [(6, 1)]), (0, [(7, 1)])])], 8), [([], [], [(-29, [(7, 1)]), (29, [(7, -1)])], [], [], [], [], 8)])
theorem zu_wZ_l {P : zq_Ty} {h : zq_H} {g n s e i w m c : Int} (a1 : 0 ≤ i - 141) (k1 : zu_SCC g n s e i w m c P h) : (0 ≤ c - 29 ∧ 0 ≤ -c + 29) := by
  obtain ⟨z1, z2, z3, z4⟩ := k1
  have e0 : zu_cC.drop i.toNat = [] := List.drop_eq_nil_of_le (by rw [zu_lenC]; omega)
  rw [e0] at z4
  have z4 : c = 29 := z4
  exact ⟨by omega, by omega⟩
theorem zu_wZ_ok {w : zq_Wd} (x_SCC : zj_is w 113 (fun q => zu_SCC (q 0) (q 1) (q 2) (q 3) (q 4) (q 5) (q 6) (q 7))) : zq_okG1 w zu_wZ := by
  refine ⟨rfl, rfl, zu_fac ⟨rfl, by decide⟩ zq_fan, ?_⟩
  intro r P h H hM
  have q0 : zq_ev r (-141, [(4, 1)]) = r 4 - 141 := zu_e3 _ _ _
  have q1 : zq_ev r (0, [(0, 1)]) = r 0 := zu_e1 _ _
  have q2 : zq_ev r (0, [(1, 1)]) = r 1 := zu_e1 _ _
  have q3 : zq_ev r (0, [(2, 1)]) = r 2 := zu_e1 _ _
  have q4 : zq_ev r (0, [(3, 1)]) = r 3 := zu_e1 _ _
  have q5 : zq_ev r (0, [(4, 1)]) = r 4 := zu_e1 _ _
  have q6 : zq_ev r (0, [(5, 1)]) = r 5 := zu_e1 _ _
  have q7 : zq_ev r (0, [(6, 1)]) = r 6 := zu_e1 _ _
  have q8 : zq_ev r (0, [(7, 1)]) = r 7 := zu_e1 _ _
  obtain ⟨hT, hC, hF, hS, -, hK⟩ := hM
  have c := hC.1
  have a1 := zq_all_1 c
  rw [q0] at a1
  have k1 : zu_SCC (zq_ev r (0, [(0, 1)])) (zq_ev r (0, [(1, 1)])) (zq_ev r (0, [(2, 1)])) (zq_ev r (0, [(3, 1)])) (zq_ev r (0, [(4, 1)])) (zq_ev r (0, [(5, 1)])) (zq_ev r (0, [(6, 1)])) (zq_ev r (0, [(7, 1)])) P h := zj_use x_SCC (hK)
  simp only [q1, q2, q3, q4, q5, q6, q7, q8] at k1
  obtain ⟨c1, c2⟩ := zu_wZ_l (P := P) (h := h) (g := r 0) (n := r 1) (s := r 2) (e := r 3) (i := r 4) (w := r 5) (m := r 6) (c := r 7) a1 k1
  obtain ⟨rq, hr⟩ : ∃ rq : Nat → Int, (∀ i, i < 8 → rq i = r i) := ⟨r, fun i hi => rfl⟩
  have v7 : rq 7 = r 7 := hr 7 (by decide)
  have g0 : zq_ev rq (29, [(7, -1)]) = -r 7 + 29 := zu_f5 v7 _
  have g1 : zq_ev rq (-29, [(7, 1)]) = r 7 - 29 := zu_f3 v7 _
  exact ⟨_, List.mem_cons_self .., rq, hr, zq_MeS_mk rfl hT (zq_all_cons (by rw [g1]; exact c1) (zq_all_cons (by rw [g0]; exact c2) (zq_all_nil))) zq_fan (zq_fan) rfl zq_fan⟩
noncomputable def zu_nR : zq_S × List zq_S := (([], [], [(-48, [(6, 1)]), (57, [(6, -1)])], [], [((0, [(0, 1)]), (0, [(4, 1)]), (0, [(6, 1)]))], [], [(21, [(0, [(0, 1)]), (0, [(1, 1)]), (0, [(2, 1)])]), (110, [(0, [(2, 1)]), (0, [(1, 1)]), (0, [(3, 1)]), (0, [(4, 1)]), (0, [(5, 1)])])], 7), [([], [], [], [], [], [], [(121, [(0, [(2, 1)]), (0, [(1, 1)]), (0, [(4, 1)]), (0, [(5, 1)]), (2, [])])], 7)])
theorem zu_nR_l {P : zq_Ty} {h : zq_H} {bt n g j s e b : Int} (a1 : 0 ≤ b - 48) (a2 : 0 ≤ -b + 57) (s1 : 0 ≤ bt ∧ P (bt).toNat ≠ none ∧ h (bt).toNat s = b) (k1 : zu_TCc bt n g P h) (k2 : zu_SE g n j s e P h) : (zu_RNS g n s e 2 P h) := by
  obtain ⟨y1, y2, y3, y4, y5, y6⟩ := k2
  have d := zu_dgc k1 y2 (by omega) s1.2.2 (by omega) (by omega)
  exact zu_nx_rn y6 y2 y3 y4 (by rw [d]; exact zu_kd2 (by omega) (by omega))
theorem zu_nR_ok {w : zq_Wd} (x_TCc : zj_is w 21 (fun q => zu_TCc (q 0) (q 1) (q 2))) (x_SE : zj_is w 110 (fun q => zu_SE (q 0) (q 1) (q 2) (q 3) (q 4))) (x_RNS : zj_is w 121 (fun q => zu_RNS (q 0) (q 1) (q 2) (q 3) (q 4))) : zq_okG1 w zu_nR := by
  refine ⟨rfl, rfl, zu_fac ⟨rfl, by decide⟩ zq_fan, ?_⟩
  intro r P h H hM
  have q0 : zq_ev r (-48, [(6, 1)]) = r 6 - 48 := zu_e3 _ _ _
  have q1 : zq_ev r (57, [(6, -1)]) = -r 6 + 57 := zu_e5 _ _ _
  have q2 : zq_ev r (0, [(0, 1)]) = r 0 := zu_e1 _ _
  have q3 : zq_ev r (0, [(4, 1)]) = r 4 := zu_e1 _ _
  have q4 : zq_ev r (0, [(6, 1)]) = r 6 := zu_e1 _ _
  have q5 : zq_ev r (0, [(1, 1)]) = r 1 := zu_e1 _ _
  have q6 : zq_ev r (0, [(2, 1)]) = r 2 := zu_e1 _ _
  have q7 : zq_ev r (0, [(3, 1)]) = r 3 := zu_e1 _ _
  have q8 : zq_ev r (0, [(5, 1)]) = r 5 := zu_e1 _ _
  obtain ⟨hT, hC, hF, hS, -, hK⟩ := hM
  have c := hC.1
  have a1 := zq_all_1 c
  rw [q0] at a1
  have c := zq_all_t c
  have a2 := zq_all_1 c
  rw [q1] at a2
  have s1 := zq_okS_1 (hS)
  simp only [q2, q3, q4] at s1
  have k1 : zu_TCc (zq_ev r (0, [(0, 1)])) (zq_ev r (0, [(1, 1)])) (zq_ev r (0, [(2, 1)])) P h := zj_use x_TCc (hK)
  simp only [q2, q5, q6] at k1
  have k2 : zu_SE (zq_ev r (0, [(2, 1)])) (zq_ev r (0, [(1, 1)])) (zq_ev r (0, [(3, 1)])) (zq_ev r (0, [(4, 1)])) (zq_ev r (0, [(5, 1)])) P h := zj_use x_SE (zq_okX_t (hK))
  simp only [q3, q5, q6, q7, q8] at k2
  obtain t1 := zu_nR_l (P := P) (h := h) (bt := r 0) (n := r 1) (g := r 2) (j := r 3) (s := r 4) (e := r 5) (b := r 6) a1 a2 s1 k1 k2
  obtain ⟨rq, hr⟩ : ∃ rq : Nat → Int, (∀ i, i < 7 → rq i = r i) := ⟨r, fun i hi => rfl⟩
  have v1 : rq 1 = r 1 := hr 1 (by decide)
  have v2 : rq 2 = r 2 := hr 2 (by decide)
  have v4 : rq 4 = r 4 := hr 4 (by decide)
  have v5 : rq 5 = r 5 := hr 5 (by decide)
  have g0 : zq_ev rq (0, [(2, 1)]) = r 2 := zu_f1 v2
  have g1 : zq_ev rq (0, [(1, 1)]) = r 1 := zu_f1 v1
  have g2 : zq_ev rq (0, [(4, 1)]) = r 4 := zu_f1 v4
  have g3 : zq_ev rq (0, [(5, 1)]) = r 5 := zu_f1 v5
  have g4 : zq_ev rq (2, []) = 2 := zu_e0 _ _
  exact ⟨_, List.mem_cons_self .., rq, hr, zq_MeS_mk rfl hT (zq_all_nil) zq_fan (zq_fan) rfl (zu_fac ((x_RNS _ _ _).mpr (by show zu_RNS (zq_ev rq (0, [(2, 1)])) (zq_ev rq (0, [(1, 1)])) (zq_ev rq (0, [(4, 1)])) (zq_ev rq (0, [(5, 1)])) (zq_ev rq (2, [])) P h; simp only [g0, g1, g2, g3, g4]; exact t1)) zq_fan)⟩
noncomputable def zu_vD : zq_S × List zq_S := (([], [], [(0, [(3, -1), (5, 1)]), (-1, [(4, 1), (5, -1)]), (0, [(6, 1)]), (255, [(6, -1)])], [], [((0, [(0, 1)]), (0, [(5, 1)]), (0, [(6, 1)]))], [], [(21, [(0, [(0, 1)]), (0, [(1, 1)]), (0, [(2, 1)])]), (121, [(0, [(2, 1)]), (0, [(1, 1)]), (0, [(3, 1)]), (0, [(4, 1)]), (2, [])])], 7), [([], [], [(-48, [(6, 1)]), (57, [(6, -1)])], [], [], [], [], 7)])
theorem zu_vD_l {P : zq_Ty} {h : zq_H} {bt n g k j i b : Int} (a1 : 0 ≤ -k + i) (a2 : 0 ≤ j - i - 1) (a3 : 0 ≤ b) (a4 : 0 ≤ -b + 255) (s1 : 0 ≤ bt ∧ P (bt).toNat ≠ none ∧ h (bt).toNat i = b) (k1 : zu_TCc bt n g P h) (k2 : zu_RNS g n k j 2 P h) : (0 ≤ b - 48 ∧ 0 ≤ -b + 57) := by
  obtain ⟨z1, z2, z3, z4⟩ := k2
  have kd := z4 i (by omega) (by omega)
  have d := zu_dgc k1 (j := i) (by omega) (by omega) s1.2.2 (by omega) (by omega)
  rw [d] at kd
  rcases zu_kd_cases b with ⟨q1, q2⟩ | ⟨q1, q2, q3⟩ | ⟨q1, q2, q3⟩ | ⟨q1, q2, q3, q4⟩ <;> omega
theorem zu_vD_ok {w : zq_Wd} (x_TCc : zj_is w 21 (fun q => zu_TCc (q 0) (q 1) (q 2))) (x_RNS : zj_is w 121 (fun q => zu_RNS (q 0) (q 1) (q 2) (q 3) (q 4))) : zq_okG1 w zu_vD := by
  refine ⟨rfl, rfl, zu_fac ⟨rfl, by decide⟩ zq_fan, ?_⟩
  intro r P h H hM
  have q0 : zq_ev r (0, [(3, -1), (5, 1)]) = -r 3 + r 5 := by simp only [zq_ev, zq_ts] <;> omega
  have q1 : zq_ev r (-1, [(4, 1), (5, -1)]) = r 4 - r 5 - 1 := by simp only [zq_ev, zq_ts] <;> omega
  have q2 : zq_ev r (0, [(6, 1)]) = r 6 := zu_e1 _ _
  have q3 : zq_ev r (255, [(6, -1)]) = -r 6 + 255 := zu_e5 _ _ _
  have q4 : zq_ev r (0, [(0, 1)]) = r 0 := zu_e1 _ _
  have q5 : zq_ev r (0, [(5, 1)]) = r 5 := zu_e1 _ _
  have q6 : zq_ev r (0, [(1, 1)]) = r 1 := zu_e1 _ _
  have q7 : zq_ev r (0, [(2, 1)]) = r 2 := zu_e1 _ _
  have q8 : zq_ev r (0, [(3, 1)]) = r 3 := zu_e1 _ _
  have q9 : zq_ev r (0, [(4, 1)]) = r 4 := zu_e1 _ _
  have q10 : zq_ev r (2, []) = 2 := zu_e0 _ _
  obtain ⟨hT, hC, hF, hS, -, hK⟩ := hM
  have c := hC.1
  have a1 := zq_all_1 c
  rw [q0] at a1
  have c := zq_all_t c
  have a2 := zq_all_1 c
  rw [q1] at a2
  have c := zq_all_t c
  have a3 := zq_all_1 c
  rw [q2] at a3
  have c := zq_all_t c
  have a4 := zq_all_1 c
  rw [q3] at a4
  have s1 := zq_okS_1 (hS)
  simp only [q2, q4, q5] at s1
  have k1 : zu_TCc (zq_ev r (0, [(0, 1)])) (zq_ev r (0, [(1, 1)])) (zq_ev r (0, [(2, 1)])) P h := zj_use x_TCc (hK)
  simp only [q4, q6, q7] at k1
  have k2 : zu_RNS (zq_ev r (0, [(2, 1)])) (zq_ev r (0, [(1, 1)])) (zq_ev r (0, [(3, 1)])) (zq_ev r (0, [(4, 1)])) (zq_ev r (2, [])) P h := zj_use x_RNS (zq_okX_t (hK))
  simp only [q10, q6, q7, q8, q9] at k2
  obtain ⟨c1, c2⟩ := zu_vD_l (P := P) (h := h) (bt := r 0) (n := r 1) (g := r 2) (k := r 3) (j := r 4) (i := r 5) (b := r 6) a1 a2 a3 a4 s1 k1 k2
  obtain ⟨rq, hr⟩ : ∃ rq : Nat → Int, (∀ i, i < 7 → rq i = r i) := ⟨r, fun i hi => rfl⟩
  have v6 : rq 6 = r 6 := hr 6 (by decide)
  have g0 : zq_ev rq (57, [(6, -1)]) = -r 6 + 57 := zu_f5 v6 _
  have g1 : zq_ev rq (-48, [(6, 1)]) = r 6 - 48 := zu_f3 v6 _
  exact ⟨_, List.mem_cons_self .., rq, hr, zq_MeS_mk rfl hT (zq_all_cons (by rw [g1]; exact c1) (zq_all_cons (by rw [g0]; exact c2) (zq_all_nil))) zq_fan (zq_fan) rfl zq_fan⟩
noncomputable def zu_v0 : zq_S × List zq_S := (([], [], [], [], [], [], [], 3), [([], [], [], [], [], [], [(119, [(0, [(0, 1)]), (0, [(1, 1)]), (0, [(2, 1)]), (0, [(2, 1)]), (0, [])])], 3)])
theorem zu_v0_l {P : zq_Ty} {h : zq_H} {g n s : Int}  : (zu_NVC g n s s 0 P h) := by
  refine ⟨Int.le_refl _, ?_⟩
  rw [show (s - s).toNat = 0 by omega]
  rfl
theorem zu_v0_ok {w : zq_Wd} (x_NVC : zj_is w 119 (fun q => zu_NVC (q 0) (q 1) (q 2) (q 3) (q 4))) : zq_okG1 w zu_v0 := by
  refine ⟨rfl, rfl, zu_fac ⟨rfl, by decide⟩ zq_fan, ?_⟩
  intro r P h H hM
  obtain ⟨hT, hC, hF, hS, -, hK⟩ := hM
  have c := hC.1
  obtain t1 := zu_v0_l (P := P) (h := h) (g := r 0) (n := r 1) (s := r 2) 
  obtain ⟨rq, hr⟩ : ∃ rq : Nat → Int, (∀ i, i < 3 → rq i = r i) := ⟨r, fun i hi => rfl⟩
  have v0 : rq 0 = r 0 := hr 0 (by decide)
  have v1 : rq 1 = r 1 := hr 1 (by decide)
  have v2 : rq 2 = r 2 := hr 2 (by decide)
  have g0 : zq_ev rq (0, [(0, 1)]) = r 0 := zu_f1 v0
  have g1 : zq_ev rq (0, [(1, 1)]) = r 1 := zu_f1 v1
  have g2 : zq_ev rq (0, [(2, 1)]) = r 2 := zu_f1 v2
  have g3 : zq_ev rq (0, []) = 0 := zu_e0 _ _
  exact ⟨_, List.mem_cons_self .., rq, hr, zq_MeS_mk rfl hT (zq_all_nil) zq_fan (zq_fan) rfl (zu_fac ((x_NVC _ _ _).mpr (by show zu_NVC (zq_ev rq (0, [(0, 1)])) (zq_ev rq (0, [(1, 1)])) (zq_ev rq (0, [(2, 1)])) (zq_ev rq (0, [(2, 1)])) (zq_ev rq (0, [])) P h; simp only [g0, g1, g2, g3]; exact t1)) zq_fan)⟩
noncomputable def zu_v1 : zq_S × List zq_S := (([], [], [(0, [(6, 1)]), (255, [(6, -1)]), (-1, [(1, 1), (3, -1)]), (0, [(2, 1)]), (48, [(4, -10), (6, -1), (7, 1)]), (-48, [(4, 10), (6, 1), (7, -1)]), (1001, [(7, -1)])], [], [((0, [(5, 1)]), (0, [(3, 1)]), (0, [(6, 1)]))], [], [(119, [(0, [(0, 1)]), (0, [(1, 1)]), (0, [(2, 1)]), (0, [(3, 1)]), (0, [(4, 1)])]), (21, [(0, [(5, 1)]), (0, [(1, 1)]), (0, [(0, 1)])])], 8), [([], [], [], [], [], [], [(119, [(0, [(0, 1)]), (0, [(1, 1)]), (0, [(2, 1)]), (1, [(3, 1)]), (0, [(7, 1)])])], 8)])
theorem zu_v1_l {P : zq_Ty} {h : zq_H} {g n s i v bt b u : Int} (a1 : 0 ≤ b) (a2 : 0 ≤ -b + 255) (a3 : 0 ≤ n - i - 1) (a4 : 0 ≤ s) (a5 : 0 ≤ -10 * v - b + u + 48) (a6 : 0 ≤ 10 * v + b - u - 48) (a7 : 0 ≤ -u + 1001) (s1 : 0 ≤ bt ∧ P (bt).toNat ≠ none ∧ h (bt).toNat i = b) (k1 : zu_NVC g n s i v P h) (k2 : zu_TCc bt n g P h) : (zu_NVC g n s (i + 1) u P h) := by
  obtain ⟨z1, z2⟩ := k1
  have d := zu_dgc k2 (j := i) (by omega) (by omega) s1.2.2 (by omega) (by omega)
  refine ⟨by omega, ?_⟩
  rw [show (i + 1 - s).toNat = (i - s).toNat + 1 by omega]
  show _ = (if 10 * zu_nm (zu_dg g n) s (i - s).toNat + (zu_dg g n (s + (((i - s).toNat : Nat) : Int)) - 48) < 1001 then 10 * zu_nm (zu_dg g n) s (i - s).toNat + (zu_dg g n (s + (((i - s).toNat : Nat) : Int)) - 48) else 1001)
  rw [← z2, show s + (((i - s).toNat : Nat) : Int) = i by omega, d]
  
  by_cases hu : 10 * v + (b - 48) < 1001
  · rw [if_pos hu]; omega
  · rw [if_neg hu]; omega
theorem zu_v1_ok {w : zq_Wd} (x_NVC : zj_is w 119 (fun q => zu_NVC (q 0) (q 1) (q 2) (q 3) (q 4))) (x_TCc : zj_is w 21 (fun q => zu_TCc (q 0) (q 1) (q 2))) : zq_okG1 w zu_v1 := by
  refine ⟨rfl, rfl, zu_fac ⟨rfl, by decide⟩ zq_fan, ?_⟩
  intro r P h H hM
  have q0 : zq_ev r (0, [(6, 1)]) = r 6 := zu_e1 _ _
  have q1 : zq_ev r (255, [(6, -1)]) = -r 6 + 255 := zu_e5 _ _ _
  have q2 : zq_ev r (-1, [(1, 1), (3, -1)]) = r 1 - r 3 - 1 := by simp only [zq_ev, zq_ts] <;> omega
  have q3 : zq_ev r (0, [(2, 1)]) = r 2 := zu_e1 _ _
  have q4 : zq_ev r (48, [(4, -10), (6, -1), (7, 1)]) = -10 * r 4 - r 6 + r 7 + 48 := by simp only [zq_ev, zq_ts] <;> omega
  have q5 : zq_ev r (-48, [(4, 10), (6, 1), (7, -1)]) = 10 * r 4 + r 6 - r 7 - 48 := by simp only [zq_ev, zq_ts] <;> omega
  have q6 : zq_ev r (1001, [(7, -1)]) = -r 7 + 1001 := zu_e5 _ _ _
  have q7 : zq_ev r (0, [(5, 1)]) = r 5 := zu_e1 _ _
  have q8 : zq_ev r (0, [(3, 1)]) = r 3 := zu_e1 _ _
  have q9 : zq_ev r (0, [(0, 1)]) = r 0 := zu_e1 _ _
  have q10 : zq_ev r (0, [(1, 1)]) = r 1 := zu_e1 _ _
  have q11 : zq_ev r (0, [(4, 1)]) = r 4 := zu_e1 _ _
  obtain ⟨hT, hC, hF, hS, -, hK⟩ := hM
  have c := hC.1
  have a1 := zq_all_1 c
  rw [q0] at a1
  have c := zq_all_t c
  have a2 := zq_all_1 c
  rw [q1] at a2
  have c := zq_all_t c
  have a3 := zq_all_1 c
  rw [q2] at a3
  have c := zq_all_t c
  have a4 := zq_all_1 c
  rw [q3] at a4
  have c := zq_all_t c
  have a5 := zq_all_1 c
  rw [q4] at a5
  have c := zq_all_t c
  have a6 := zq_all_1 c
  rw [q5] at a6
  have c := zq_all_t c
  have a7 := zq_all_1 c
  rw [q6] at a7
  have s1 := zq_okS_1 (hS)
  simp only [q0, q7, q8] at s1
  have k1 : zu_NVC (zq_ev r (0, [(0, 1)])) (zq_ev r (0, [(1, 1)])) (zq_ev r (0, [(2, 1)])) (zq_ev r (0, [(3, 1)])) (zq_ev r (0, [(4, 1)])) P h := zj_use x_NVC (hK)
  simp only [q10, q11, q3, q8, q9] at k1
  have k2 : zu_TCc (zq_ev r (0, [(5, 1)])) (zq_ev r (0, [(1, 1)])) (zq_ev r (0, [(0, 1)])) P h := zj_use x_TCc (zq_okX_t (hK))
  simp only [q10, q7, q9] at k2
  obtain t1 := zu_v1_l (P := P) (h := h) (g := r 0) (n := r 1) (s := r 2) (i := r 3) (v := r 4) (bt := r 5) (b := r 6) (u := r 7) a1 a2 a3 a4 a5 a6 a7 s1 k1 k2
  obtain ⟨rq, hr⟩ : ∃ rq : Nat → Int, (∀ i, i < 8 → rq i = r i) := ⟨r, fun i hi => rfl⟩
  have v0 : rq 0 = r 0 := hr 0 (by decide)
  have v1 : rq 1 = r 1 := hr 1 (by decide)
  have v2 : rq 2 = r 2 := hr 2 (by decide)
  have v3 : rq 3 = r 3 := hr 3 (by decide)
  have v7 : rq 7 = r 7 := hr 7 (by decide)
  have g0 : zq_ev rq (0, [(0, 1)]) = r 0 := zu_f1 v0
  have g1 : zq_ev rq (0, [(1, 1)]) = r 1 := zu_f1 v1
  have g2 : zq_ev rq (0, [(2, 1)]) = r 2 := zu_f1 v2
  have g3 : zq_ev rq (1, [(3, 1)]) = r 3 + 1 := zu_f2 v3 _
  have g4 : zq_ev rq (0, [(7, 1)]) = r 7 := zu_f1 v7
  exact ⟨_, List.mem_cons_self .., rq, hr, zq_MeS_mk rfl hT (zq_all_nil) zq_fan (zq_fan) rfl (zu_fac ((x_NVC _ _ _).mpr (by show zu_NVC (zq_ev rq (0, [(0, 1)])) (zq_ev rq (0, [(1, 1)])) (zq_ev rq (0, [(2, 1)])) (zq_ev rq (1, [(3, 1)])) (zq_ev rq (0, [(7, 1)])) P h; simp only [g0, g1, g2, g3, g4]; exact t1)) zq_fan)⟩
noncomputable def zu_v2 : zq_S × List zq_S := (([], [], [(0, [(6, 1)]), (255, [(6, -1)]), (-1, [(1, 1), (3, -1)]), (0, [(2, 1)]), (-1049, [(4, 10), (6, 1)]), (-1001, [(7, 1)]), (1001, [(7, -1)])], [], [((0, [(5, 1)]), (0, [(3, 1)]), (0, [(6, 1)]))], [], [(119, [(0, [(0, 1)]), (0, [(1, 1)]), (0, [(2, 1)]), (0, [(3, 1)]), (0, [(4, 1)])]), (21, [(0, [(5, 1)]), (0, [(1, 1)]), (0, [(0, 1)])])], 8), [([], [], [], [], [], [], [(119, [(0, [(0, 1)]), (0, [(1, 1)]), (0, [(2, 1)]), (1, [(3, 1)]), (0, [(7, 1)])])], 8)])
theorem zu_v2_l {P : zq_Ty} {h : zq_H} {g n s i v bt b u : Int} (a1 : 0 ≤ b) (a2 : 0 ≤ -b + 255) (a3 : 0 ≤ n - i - 1) (a4 : 0 ≤ s) (a5 : 0 ≤ 10 * v + b - 1049) (a6 : 0 ≤ u - 1001) (a7 : 0 ≤ -u + 1001) (s1 : 0 ≤ bt ∧ P (bt).toNat ≠ none ∧ h (bt).toNat i = b) (k1 : zu_NVC g n s i v P h) (k2 : zu_TCc bt n g P h) : (zu_NVC g n s (i + 1) u P h) := by
  obtain ⟨z1, z2⟩ := k1
  have d := zu_dgc k2 (j := i) (by omega) (by omega) s1.2.2 (by omega) (by omega)
  refine ⟨by omega, ?_⟩
  rw [show (i + 1 - s).toNat = (i - s).toNat + 1 by omega]
  show _ = (if 10 * zu_nm (zu_dg g n) s (i - s).toNat + (zu_dg g n (s + (((i - s).toNat : Nat) : Int)) - 48) < 1001 then 10 * zu_nm (zu_dg g n) s (i - s).toNat + (zu_dg g n (s + (((i - s).toNat : Nat) : Int)) - 48) else 1001)
  rw [← z2, show s + (((i - s).toNat : Nat) : Int) = i by omega, d]
  
  rw [if_neg (by omega)]
  omega
theorem zu_v2_ok {w : zq_Wd} (x_NVC : zj_is w 119 (fun q => zu_NVC (q 0) (q 1) (q 2) (q 3) (q 4))) (x_TCc : zj_is w 21 (fun q => zu_TCc (q 0) (q 1) (q 2))) : zq_okG1 w zu_v2 := by
  refine ⟨rfl, rfl, zu_fac ⟨rfl, by decide⟩ zq_fan, ?_⟩
  intro r P h H hM
  have q0 : zq_ev r (0, [(6, 1)]) = r 6 := zu_e1 _ _
  have q1 : zq_ev r (255, [(6, -1)]) = -r 6 + 255 := zu_e5 _ _ _
  have q2 : zq_ev r (-1, [(1, 1), (3, -1)]) = r 1 - r 3 - 1 := by simp only [zq_ev, zq_ts] <;> omega
  have q3 : zq_ev r (0, [(2, 1)]) = r 2 := zu_e1 _ _
  have q4 : zq_ev r (-1049, [(4, 10), (6, 1)]) = 10 * r 4 + r 6 - 1049 := by simp only [zq_ev, zq_ts] <;> omega
  have q5 : zq_ev r (-1001, [(7, 1)]) = r 7 - 1001 := zu_e3 _ _ _
  have q6 : zq_ev r (1001, [(7, -1)]) = -r 7 + 1001 := zu_e5 _ _ _
  have q7 : zq_ev r (0, [(5, 1)]) = r 5 := zu_e1 _ _
  have q8 : zq_ev r (0, [(3, 1)]) = r 3 := zu_e1 _ _
  have q9 : zq_ev r (0, [(0, 1)]) = r 0 := zu_e1 _ _
  have q10 : zq_ev r (0, [(1, 1)]) = r 1 := zu_e1 _ _
  have q11 : zq_ev r (0, [(4, 1)]) = r 4 := zu_e1 _ _
  obtain ⟨hT, hC, hF, hS, -, hK⟩ := hM
  have c := hC.1
  have a1 := zq_all_1 c
  rw [q0] at a1
  have c := zq_all_t c
  have a2 := zq_all_1 c
  rw [q1] at a2
  have c := zq_all_t c
  have a3 := zq_all_1 c
  rw [q2] at a3
  have c := zq_all_t c
  have a4 := zq_all_1 c
  rw [q3] at a4
  have c := zq_all_t c
  have a5 := zq_all_1 c
  rw [q4] at a5
  have c := zq_all_t c
  have a6 := zq_all_1 c
  rw [q5] at a6
  have c := zq_all_t c
  have a7 := zq_all_1 c
  rw [q6] at a7
  have s1 := zq_okS_1 (hS)
  simp only [q0, q7, q8] at s1
  have k1 : zu_NVC (zq_ev r (0, [(0, 1)])) (zq_ev r (0, [(1, 1)])) (zq_ev r (0, [(2, 1)])) (zq_ev r (0, [(3, 1)])) (zq_ev r (0, [(4, 1)])) P h := zj_use x_NVC (hK)
  simp only [q10, q11, q3, q8, q9] at k1
  have k2 : zu_TCc (zq_ev r (0, [(5, 1)])) (zq_ev r (0, [(1, 1)])) (zq_ev r (0, [(0, 1)])) P h := zj_use x_TCc (zq_okX_t (hK))
  simp only [q10, q7, q9] at k2
  obtain t1 := zu_v2_l (P := P) (h := h) (g := r 0) (n := r 1) (s := r 2) (i := r 3) (v := r 4) (bt := r 5) (b := r 6) (u := r 7) a1 a2 a3 a4 a5 a6 a7 s1 k1 k2
  obtain ⟨rq, hr⟩ : ∃ rq : Nat → Int, (∀ i, i < 8 → rq i = r i) := ⟨r, fun i hi => rfl⟩
  have v0 : rq 0 = r 0 := hr 0 (by decide)
  have v1 : rq 1 = r 1 := hr 1 (by decide)
  have v2 : rq 2 = r 2 := hr 2 (by decide)
  have v3 : rq 3 = r 3 := hr 3 (by decide)
  have v7 : rq 7 = r 7 := hr 7 (by decide)
  have g0 : zq_ev rq (0, [(0, 1)]) = r 0 := zu_f1 v0
  have g1 : zq_ev rq (0, [(1, 1)]) = r 1 := zu_f1 v1
  have g2 : zq_ev rq (0, [(2, 1)]) = r 2 := zu_f1 v2
  have g3 : zq_ev rq (1, [(3, 1)]) = r 3 + 1 := zu_f2 v3 _
  have g4 : zq_ev rq (0, [(7, 1)]) = r 7 := zu_f1 v7
  exact ⟨_, List.mem_cons_self .., rq, hr, zq_MeS_mk rfl hT (zq_all_nil) zq_fan (zq_fan) rfl (zu_fac ((x_NVC _ _ _).mpr (by show zu_NVC (zq_ev rq (0, [(0, 1)])) (zq_ev rq (0, [(1, 1)])) (zq_ev rq (0, [(2, 1)])) (zq_ev rq (1, [(3, 1)])) (zq_ev rq (0, [(7, 1)])) P h; simp only [g0, g1, g2, g3, g4]; exact t1)) zq_fan)⟩
