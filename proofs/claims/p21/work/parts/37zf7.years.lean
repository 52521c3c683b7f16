/-! YEARS: draws, deeds of days, one run -/
noncomputable def zy_dr (x : Int) : Int := (1103 * x + 12345) % 1000003
/-- a draw out of k: what is drawn, the number behind it -/
noncomputable def zy_DW (x k y v : Int) (_ : zq_Ty) (_ : zq_H) : Prop := y = zy_dr x ∧ v = y % k
theorem zy_DW_u {x k y v y2 v2 : Int} {P P' : zq_Ty} {h h' : zq_H} (a : zy_DW x k y v P h) (b : zy_DW x k y2 v2 P' h') : y = y2 ∧ v = v2 := by
  obtain ⟨a1, a2⟩ := a
  obtain ⟨b1, b2⟩ := b
  subst a1; subst b1
  exact ⟨rfl, a2.trans b2.symm⟩
theorem zk_DO_u {S m T f u M d w p r N r2 N2 : Int} {P P' : zq_Ty} {h h' : zq_H} (k1 : zk_DO S m T f u M d w p r N P h) (k2 : zk_DO S m T f u M d w p r2 N2 P' h') : r = r2 ∧ N = N2 := by
  obtain ⟨W, a, a1, a2, a3⟩ := k1
  obtain ⟨X, b, b1, b2, b3⟩ := k2
  have e : W = X := a1.trans b1.symm
  subst e
  have e := zl_RW_u a2 b2
  subst e
  rcases a3 with ⟨c1, c2, c3⟩ | ⟨c1, c2, c0, c3, c4⟩ | ⟨c1, c2, c3, o, c4, c5⟩
  · rcases b3 with ⟨d1, d2, d3⟩ | ⟨d1, d2, d0, d3, d4⟩ | ⟨d1, d2, d3, o', d4, d5⟩
    · exact ⟨by omega, c3.trans d3.symm⟩
    · exact absurd c1 d1
    · exact absurd c1 d1
  · rcases b3 with ⟨d1, d2, d3⟩ | ⟨d1, d2, d0, d3, d4⟩ | ⟨d1, d2, d3, o', d4, d5⟩
    · exact absurd d1 c1
    · exact ⟨by omega, c4.trans d4.symm⟩
    · exfalso; omega
  · rcases b3 with ⟨d1, d2, d3⟩ | ⟨d1, d2, d0, d3, d4⟩ | ⟨d1, d2, d3, o', d4, d5⟩
    · exact absurd d1 c1
    · exfalso; omega
    · have e := zl_RO_u c4 d4
      subst e
      rcases c5 with ⟨e1, e2, e3⟩ | ⟨e1, e2, e0, e3, e4, e5⟩
      · rcases d5 with ⟨f1, f2, f3⟩ | ⟨f1, f2, f0, f3, f4, f5⟩
        · exact ⟨by omega, e3.trans f3.symm⟩
        · exact absurd ⟨f1, f2⟩ e1
      · rcases d5 with ⟨f1, f2, f3⟩ | ⟨f1, f2, f0, f3, f4, f5⟩
        · exact absurd ⟨e1, e2⟩ f1
        · exact ⟨by omega, e5.trans f5.symm⟩
/-- the day isn't moved by a deed -/
theorem zk_DO_day {S m T f u M d w p r N : Int} {P : zq_Ty} {h : zq_H} (k : zk_DO S m T f u M d w p r N P h) (hw : w ≤ 5) (ha : 0 ≤ r → r ≤ 6) : zn_dg N 10 = zn_dg M 10 := by
  obtain ⟨W, a, a1, a2, a3⟩ := k
  rcases a3 with ⟨c1, c2, c3⟩ | ⟨c1, c2, c0, c3, c4⟩ | ⟨c1, c2, c3, o, c4, c5⟩
  · rw [c3]
  · rw [c4]
  · rcases c5 with ⟨e1, e2, e3⟩ | ⟨e1, e2, e0, e3, e4, e5⟩
    · rw [e3]
    · have := ha e3
      rw [e5]
      unfold zk_mv
      rw [zm_pk_dg 11 10 (fun i i0 i1 => ?_) (by decide) (by decide)]
      · rw [if_neg (by omega), if_neg (by omega)]; omega
      · have q := zn_dg_in M i
        unfold zn_in at q ⊢
        by_cases x : i = w <;> by_cases y : i = a
        · rw [if_pos x, if_pos y]; omega
        · rw [if_pos x, if_neg y, x]; rw [x] at q; omega
        · rw [if_neg x, if_pos y, y]; rw [y] at q; omega
        · rw [if_neg x, if_neg y]; omega
/-- the run of years: i done of n, x drawn last, a unanswered so far -/
noncomputable def zy_R (S m e T f u n : Int) : Nat → Int → Int → Int → Int → Int → Int → Prop
  | 0, _, _, _, _, _, _ => False
  | k + 1, i, x, a, M, A, N =>
    (¬ (i < n ∧ zn_dg M 10 < 999) ∧ A = a ∧ N = M) ∨
    (i < n ∧ zn_dg M 10 < 999 ∧ ∃ y d z w q p r N1, zy_DW x e y d zo_nP zo_nH ∧ zy_DW y m z w zo_nP zo_nH ∧ zy_DW z 4 q p zo_nP zo_nH ∧ zk_DO S m T f u M d w p r N1 zo_nP zo_nH ∧ zy_R S m e T f u n k (i + 1) q (a + if r = 6 then 1 else 0) (zm_st N1 10 (zn_dg N1 10 + 1)) A N)
noncomputable def zy_RR (S m e T f u n i x a M A N : Int) : Prop := ∃ k, zy_R S m e T f u n k i x a M A N
theorem zy_RR_end {S m e T f u n i x a M : Int} (h : ¬ (i < n ∧ zn_dg M 10 < 999)) : zy_RR S m e T f u n i x a M a M := ⟨1, Or.inl ⟨h, rfl, rfl⟩⟩
theorem zy_RR_go {S m e T f u n i x a M A N y d z w q p r N1 : Int} (h1 : i < n) (h2 : zn_dg M 10 < 999) (k1 : zy_DW x e y d zo_nP zo_nH) (k2 : zy_DW y m z w zo_nP zo_nH) (k3 : zy_DW z 4 q p zo_nP zo_nH) (k4 : zk_DO S m T f u M d w p r N1 zo_nP zo_nH) (h : zy_RR S m e T f u n (i + 1) q (a + if r = 6 then 1 else 0) (zm_st N1 10 (zn_dg N1 10 + 1)) A N) : zy_RR S m e T f u n i x a M A N := by
  obtain ⟨k, h⟩ := h
  exact ⟨k + 1, Or.inr ⟨h1, h2, y, d, z, w, q, p, r, N1, k1, k2, k3, k4, h⟩⟩
theorem zy_R_u {S m e T f u n : Int} : ∀ (k k2 : Nat) {i x a M A N A2 N2 : Int}, zy_R S m e T f u n k i x a M A N → zy_R S m e T f u n k2 i x a M A2 N2 → A = A2 ∧ N = N2
  | 0, _, _, _, _, _, _, _, _, _, h1, _ => False.elim h1
  | _ + 1, 0, _, _, _, _, _, _, _, _, _, h2 => False.elim h2
  | k + 1, k2 + 1, _, _, _, _, _, _, _, _, h1, h2 => by
    rcases h1 with ⟨a1, a2, a3⟩ | ⟨a1, a2, y, d, z, w, q, p, r, N1, b1, b2, b3, b4, b5⟩
    · rcases h2 with ⟨c1, c2, c3⟩ | ⟨c1, c2, _⟩
      · exact ⟨a2.trans c2.symm, a3.trans c3.symm⟩
      · exact absurd ⟨c1, c2⟩ a1
    · rcases h2 with ⟨c1, _, _⟩ | ⟨c1, c2, y', d', z', w', q', p', r', N1', d1, d2, d3, d4, d5⟩
      · exact absurd ⟨a1, a2⟩ c1
      · obtain ⟨e1, e2⟩ := zy_DW_u b1 d1
        subst e1; subst e2
        obtain ⟨e1, e2⟩ := zy_DW_u b2 d2
        subst e1; subst e2
        obtain ⟨e1, e2⟩ := zy_DW_u b3 d3
        subst e1; subst e2
        obtain ⟨e1, e2⟩ := zk_DO_u b4 d4
        subst e1; subst e2
        exact zy_R_u k k2 b5 d5
/-- the run from the start; what is so far of it -/
noncomputable def zy_YT (S m e T f u M0 s n A N : Int) (_ : zq_Ty) (_ : zq_H) : Prop := zy_RR S m e T f u n 0 s 0 M0 A N
noncomputable def zy_YN (S m e T f u M0 s n i x a M : Int) (_ : zq_Ty) (_ : zq_H) : Prop := ∀ A N, zy_RR S m e T f u n i x a M A N → zy_RR S m e T f u n 0 s 0 M0 A N
theorem zy_YT_u {S m e T f u M0 s n A N A2 N2 : Int} {P P' : zq_Ty} {h h' : zq_H} (k1 : zy_YT S m e T f u M0 s n A N P h) (k2 : zy_YT S m e T f u M0 s n A2 N2 P' h') : A = A2 ∧ N = N2 := by
  obtain ⟨k, h1⟩ := k1
  obtain ⟨k2, h2⟩ := k2
  exact zy_R_u k k2 h1 h2
/-- a call's outcome as what is done -/
theorem zy_CM_DO {S m e T f u M n Z d w p r N n' Z' : Int} {P : zq_Ty} {h : zq_H} (k : zk_CM S m e T f u M n Z d w p r N n' Z' P h) (h1 : 0 ≤ p) (h2 : p ≤ 3) (h3 : 0 ≤ d) (h4 : d < e) (h5 : 0 ≤ w) (h6 : w < m) : ∃ q, zk_DO S m T f u M d w p q N zo_nP zo_nH ∧ ((r < 0 ∧ q = -1) ∨ (0 ≤ r ∧ q = r)) := by
  rcases k with ⟨a1, _⟩ | ⟨_, _, ⟨a1, _⟩ | ⟨_, _, _, _, W, a, a1, a2, a3⟩⟩
  · exact absurd ⟨h1, h2⟩ a1
  · exact absurd ⟨h3, h4, h5, h6⟩ a1
  · rcases a3 with ⟨c1, c2, c3, _, _⟩ | ⟨c1, c2, c0, c3, c4, _⟩ | ⟨c1, c2, c3, o, c4, c5⟩
    · exact ⟨-1, ⟨W, a, a1, a2, Or.inl ⟨c1, rfl, c3⟩⟩, Or.inl ⟨by omega, rfl⟩⟩
    · exact ⟨r, ⟨W, a, a1, a2, Or.inr (Or.inl ⟨c1, c2, c0, c3, c4⟩)⟩, Or.inr ⟨c0, rfl⟩⟩
    · rcases c5 with ⟨d1, d2, d3, _, _⟩ | ⟨d1, d2, d5, d0, d3, d4, _⟩
      · exact ⟨-1, ⟨W, a, a1, a2, Or.inr (Or.inr ⟨c1, c2, c3, o, c4, Or.inl ⟨d1, rfl, d3⟩⟩)⟩, Or.inl ⟨by omega, rfl⟩⟩
      · exact ⟨r, ⟨W, a, a1, a2, Or.inr (Or.inr ⟨c1, c2, c3, o, c4, Or.inr ⟨d1, d2, d5, d0, d3, d4⟩⟩)⟩, Or.inr ⟨d0, rfl⟩⟩
