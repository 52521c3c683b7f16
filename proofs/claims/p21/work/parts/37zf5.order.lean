/-! ORDERS: words, clauses, runs -/
/-- how many of the first k have nothing -/
noncomputable def zo_ev (M : Int) : Nat → Int
  | 0 => 0
  | k + 1 => zo_ev M k + (if zn_dg M (k : Int) = 0 then 1 else 0)
theorem zo_ev_in (M : Int) : ∀ k : Nat, 0 ≤ zo_ev M k ∧ zo_ev M k ≤ k
  | 0 => ⟨Int.le_refl 0, Int.le_refl 0⟩
  | k + 1 => by
    have h := zo_ev_in M k
    show 0 ≤ zo_ev M k + (if zn_dg M (k : Int) = 0 then 1 else 0) ∧ zo_ev M k + (if zn_dg M (k : Int) = 0 then 1 else 0) ≤ ((k + 1 : Nat) : Int)
    by_cases e : zn_dg M (k : Int) = 0
    · rw [if_pos e]; omega
    · rw [if_neg e]; omega
/-- the words of orders: people p, done D, latest L -/
noncomputable def zo_wd (p M D L j : Int) : Int := if j = 0 then zn_dg M 10 else if j = 1 then D else if j = 2 then L else if j = 3 then zo_ev M p.toNat else if j < 10 then (if j - 4 < p then zn_dg M (j - 4) else -1) else zn_dg M (j - 4)
noncomputable def zo_W (p M D L : Int) : Int := zm_pk (zo_wd p M D L) 14
theorem zo_W_dg {p M D L j : Int} (hp : p ≤ 6) (hD : zn_in D) (hL : zn_in L) (h0 : 0 ≤ j) (h1 : j < 14) : zn_dg (zo_W p M D L) j = zo_wd p M D L j := by
  refine zm_pk_dg 14 j (fun i _ _ => ?_) h0 (by omega)
  unfold zo_wd
  have hv := zo_ev_in M p.toNat
  split
  · exact zn_dg_in _ _
  · split
    · exact hD
    · split
      · exact hL
      · split
        · unfold zn_in; omega
        · split
          · split
            · exact zn_dg_in _ _
            · unfold zn_in; omega
          · exact zn_dg_in _ _
/-- a sum as the reference takes it -/
noncomputable def zo_sm (v : Int) : Int := if v < 0 ∨ 1000000 < v then -1 else v
/-- a clause's parts: where they end -/
noncomputable def zo_PT (g l p e : Int) : Prop :=
  (ze_c g l p = 28 ∧ e = p + 1) ∨ (ze_c g l p = 27 ∧ zt_T (ze_c g l) 4 (p + 1) e) ∨
  (ze_c g l p = 25 ∧ ∃ e1, zt_T (ze_c g l) 4 (p + 1) e1 ∧ zt_T (ze_c g l) 4 (e1 + 1) e) ∨
  (ze_c g l p ≠ 28 ∧ ze_c g l p ≠ 27 ∧ ze_c g l p ≠ 25 ∧ ∃ e1 e2, zt_T (ze_c g l) 4 (p + 1) e1 ∧ zt_T (ze_c g l) 4 (e1 + 1) e2 ∧ zt_T (ze_c g l) 4 (e2 + 1) e)
/-- how often, and where the next one begins -/
noncomputable def zo_CL (g l p s q : Int) : Prop := ∃ e f, zo_PT g l p e ∧ zd_M g l s e f ∧ ((ze_c g l f ≠ 4 ∧ q = f + 1) ∨ (ze_c g l f = 4 ∧ ∃ y, zt_T (ze_c g l) 10 (f + 1) y ∧ q = y + 1))
noncomputable def zo_b (d : Bool) : Int := if d = true then 1 else 0
/-- a part's value: d tells whether it is broken -/
noncomputable def zo_X (g l W p x : Int) (d : Bool) (e : Int) : Prop := ze_V (ze_c g l) (ze_v g l) (ze_w 1 W) 4 0 true false p x d e
noncomputable def zo_VP (g l W p x0 x1 x2 bk e : Int) : Prop :=
  (ze_c g l p = 28 ∧ x0 = 0 ∧ x1 = 0 ∧ x2 = 0 ∧ bk = 0 ∧ e = p + 1) ∨
  (ze_c g l p = 27 ∧ x1 = 0 ∧ x2 = 0 ∧ ∃ d, zo_X g l W (p + 1) x0 d e ∧ bk = zo_b d) ∨
  (ze_c g l p = 25 ∧ x2 = 0 ∧ ∃ d d1 e1, zo_X g l W (p + 1) x0 d e1 ∧ zo_X g l W (e1 + 1) x1 d1 e ∧ bk = zo_b (d || d1)) ∨
  (ze_c g l p ≠ 28 ∧ ze_c g l p ≠ 27 ∧ ze_c g l p ≠ 25 ∧ ∃ d d1 d2 e1 e2, zo_X g l W (p + 1) x0 d e1 ∧ zo_X g l W (e1 + 1) x1 d1 e2 ∧ zo_X g l W (e2 + 1) x2 d2 e ∧ bk = zo_b (d || (d1 || d2)))
/-- what the parts come to, whether one is broken, whether the "if" is so -/
noncomputable def zo_EV (g l W p x0 x1 x2 bk so : Int) (P : zq_Ty) (h : zq_H) : Prop := ∃ e s f q, zo_VP g l W p x0 x1 x2 bk e ∧ zd_M g l s e f ∧ zr_IS 1 g l W f q so P h
/-! all of these tell one thing -/
theorem zd_M_fun {g l s t e f f' : Int} (h1 : zd_M g l s e f) (h2 : zd_M g l t e f') : s = t ∧ f = f' := by
  rcases h1 with ⟨a1, a2, a3⟩ | ⟨a1, a2, a3⟩ <;> rcases h2 with ⟨b1, b2, b3⟩ | ⟨b1, b2, b3⟩
  · exact ⟨by omega, by omega⟩
  · exact absurd b1 a2
  · exact absurd a1 b2
  · exact ⟨by omega, by omega⟩
theorem zo_PT_fun {g l p e e' : Int} (h1 : zo_PT g l p e) (h2 : zo_PT g l p e') : e = e' := by
  rcases h1 with ⟨a1, a2⟩ | ⟨a1, a2⟩ | ⟨a1, u, a2, a3⟩ | ⟨a1, a2, a3, u, v, a4, a5, a6⟩ <;> rcases h2 with ⟨b1, b2⟩ | ⟨b1, b2⟩ | ⟨b1, u', b2, b3⟩ | ⟨b1, b2, b3, u', v', b4, b5, b6⟩ <;> try (exfalso; omega)
  · omega
  · exact zt_fun a2 b2
  · have e1 := zt_fun a2 b2; subst e1; exact zt_fun a3 b3
  · have e1 := zt_fun a4 b4; subst e1
    have e2 := zt_fun a5 b5; subst e2
    exact zt_fun a6 b6
theorem zo_CL_fun {g l p s q s' q' : Int} (h1 : zo_CL g l p s q) (h2 : zo_CL g l p s' q') : s = s' ∧ q = q' := by
  obtain ⟨e, f, a1, a2, a3⟩ := h1
  obtain ⟨e', f', b1, b2, b3⟩ := h2
  have e1 := zo_PT_fun a1 b1; subst e1
  obtain ⟨e2, e3⟩ := zd_M_fun a2 b2
  subst e3
  refine ⟨e2, ?_⟩
  rcases a3 with ⟨a4, a5⟩ | ⟨a4, y, a5, a6⟩ <;> rcases b3 with ⟨b4, b5⟩ | ⟨b4, y', b5, b6⟩
  · omega
  · exact absurd b4 a4
  · exact absurd a4 b4
  · have e4 := zt_fun a5 b5; omega
theorem zo_X_fun {g l W p x e x' e' : Int} {d d' : Bool} (h1 : zo_X g l W p x d e) (h2 : zo_X g l W p x' d' e') : x = x' ∧ d = d' ∧ e = e' := ze_V_fun h1 h2
theorem zo_VP_fun {g l W p x0 x1 x2 bk e y0 y1 y2 bk' e' : Int} (h1 : zo_VP g l W p x0 x1 x2 bk e) (h2 : zo_VP g l W p y0 y1 y2 bk' e') : x0 = y0 ∧ x1 = y1 ∧ x2 = y2 ∧ bk = bk' ∧ e = e' := by
  rcases h1 with ⟨a1, a2, a3, a4, a5, a6⟩ | ⟨a1, a2, a3, d, a4, a5⟩ | ⟨a1, a2, d, d1, e1, a3, a4, a5⟩ | ⟨a1, a2, a3, d, d1, d2, e1, e2, a4, a5, a6, a7⟩ <;> rcases h2 with ⟨b1, b2, b3, b4, b5, b6⟩ | ⟨b1, b2, b3, c, b4, b5⟩ | ⟨b1, b2, c, c1, f1, b3, b4, b5⟩ | ⟨b1, b2, b3, c, c1, c2, f1, f2, b4, b5, b6, b7⟩ <;> try (exfalso; omega)
  · exact ⟨by omega, by omega, by omega, by omega, by omega⟩
  · obtain ⟨u1, u2, u3⟩ := zo_X_fun a4 b4
    exact ⟨u1, by omega, by omega, by rw [a5, b5, u2], u3⟩
  · obtain ⟨u1, u2, u3⟩ := zo_X_fun a3 b3
    subst u3
    obtain ⟨v1, v2, v3⟩ := zo_X_fun a4 b4
    exact ⟨u1, v1, by omega, by rw [a5, b5, u2, v2], v3⟩
  · obtain ⟨u1, u2, u3⟩ := zo_X_fun a4 b4
    subst u3
    obtain ⟨v1, v2, v3⟩ := zo_X_fun a5 b5
    subst v3
    obtain ⟨w1, w2, w3⟩ := zo_X_fun a6 b6
    exact ⟨u1, v1, w1, by rw [a7, b7, u2, v2, w2], w3⟩
theorem zr_IS_fun {o g l W e p v p' v' : Int} {P P' : zq_Ty} {h h' : zq_H} (h1 : zr_IS o g l W e p v P h) (h2 : zr_IS o g l W e p' v' P' h') : v = v' ∧ p = p' := by
  rcases h1 with ⟨a0, ⟨a1, a2⟩ | ⟨a1, y, a2, a3⟩⟩ | ⟨a0, a1, t, b, y, a2, a3, a4⟩ <;> rcases h2 with ⟨b0, ⟨b1, b2⟩ | ⟨b1, y', b2, b3⟩⟩ | ⟨b0, b1, t', b', y', b2, b3, b4⟩
  · exact ⟨by omega, by omega⟩
  · exact absurd b1 a1
  · exact absurd b1 a1
  · exact absurd a1 b1
  · have q := (ze_V_fun a2 b2).2.2; exact ⟨by omega, by omega⟩
  · obtain ⟨q1, q2, q3⟩ := ze_V_fun a2 b2; exact absurd ⟨q1.symm, q2.symm⟩ b3
  · exact absurd a1 b1
  · obtain ⟨q1, q2, q3⟩ := ze_V_fun a2 b2; exact absurd ⟨q1, q2⟩ a3
  · have q := (ze_V_fun a2 b2).2.2; exact ⟨by omega, by omega⟩
theorem zo_EV_fun {g l W p x0 x1 x2 bk so y0 y1 y2 bk' so' : Int} {P P' : zq_Ty} {h h' : zq_H} (h1 : zo_EV g l W p x0 x1 x2 bk so P h) (h2 : zo_EV g l W p y0 y1 y2 bk' so' P' h') : x0 = y0 ∧ x1 = y1 ∧ x2 = y2 ∧ bk = bk' ∧ so = so' := by
  obtain ⟨e, s, f, q, a1, a2, a3⟩ := h1
  obtain ⟨e', s', f', q', b1, b2, b3⟩ := h2
  obtain ⟨u0, u1, u2, u3, u4⟩ := zo_VP_fun a1 b1
  subst u4
  have u5 := (zd_M_fun a2 b2).2
  subst u5
  exact ⟨u0, u1, u2, u3, (zr_IS_fun a3 b3).1⟩
/-! one order -/
noncomputable def zo_fin (x N1 n1 Z1 L1 r N n' Z' L' : Int) : Prop := (x < 0 ∧ r = 0 ∧ N = 0 ∧ n' = 0 ∧ Z' = 0 ∧ L' = 0) ∨ (0 ≤ x ∧ r = 1 ∧ N = N1 ∧ n' = n1 ∧ Z' = Z1 ∧ L' = L1)
noncomputable def zo_nP : zq_Ty := fun _ => none
noncomputable def zo_nH : zq_H := fun _ _ => 0
/-- an order's head k, its parts: r: 1 it is done, 0 it can't be; then the state -/
noncomputable def zo_OO (S m e T f u M n Z L k x0 x1 x2 r N n' Z' L' : Int) : Prop := ∃ x N1 n1 Z1 L1,
  ((k = 28 ∧ L1 = L ∧ zk_PA M n Z x N1 n1 Z1 zo_nP zo_nH) ∨
   (k = 27 ∧ L1 = L ∧ zk_WN M n Z (zo_sm x0) (if 0 ≤ zo_sm x0 ∧ zo_sm x0 ≤ 3 then (zn_dg M (6 + zo_sm x0) + 1) % 7 else 0) x N1 n1 Z1 zo_nP zo_nH) ∨
   (k = 25 ∧ L1 = L ∧ zk_PY m M n Z (zo_sm x0) (zo_sm x1) 1 x N1 n1 Z1 zo_nP zo_nH) ∨
   (k ≠ 28 ∧ k ≠ 27 ∧ k ≠ 25 ∧ L1 = x ∧ zk_CM S m e T f u M n Z (zo_sm x0) (zo_sm x1) (zo_sm x2) x N1 n1 Z1 zo_nP zo_nH)) ∧
  zo_fin x N1 n1 Z1 L1 r N n' Z' L'
/-- one more, of 32 bits -/
noncomputable def zo_inc (D : Int) : Int := zq_fun 0 0 D 1
/-- the run from the clause c at the token p, done t times; R: the clause that can't be (-1: all are done) -/
noncomputable def zo_R (g l S m e T f u : Int) : Nat → Int → Int → Int → Int → Int → Int → Int → Int → Int → Int → Int → Int → Int → Prop
  | 0, _, _, _, _, _, _, _, _, _, _, _, _, _ => False
  | k + 1, c, p, t, M, n, Z, D, L, R, N, n', Z', D' =>
    (ze_L g l ≤ p ∧ R = -1 ∧ N = M ∧ n' = n ∧ Z' = Z ∧ D' = D) ∨
    (p < ze_L g l ∧ ∃ s q, zo_CL g l p s q ∧
      ((s ≤ t ∧ zo_R g l S m e T f u k (c + 1) q 0 M n Z D L R N n' Z' D') ∨
       (t < s ∧ ∃ x0 x1 x2 bk so, zo_EV g l (zo_W m M D L) p x0 x1 x2 bk so zo_nP zo_nH ∧
         ((so ≠ 1 ∧ zo_R g l S m e T f u k c p (t + 1) M n Z D L R N n' Z' D') ∨
          (so = 1 ∧ bk ≠ 0 ∧ R = c ∧ N = 0 ∧ n' = 0 ∧ Z' = 0 ∧ D' = 0) ∨
          (so = 1 ∧ bk = 0 ∧ ∃ r N1 n1 Z1 L1, zo_OO S m e T f u M n Z L (ze_c g l p) x0 x1 x2 r N1 n1 Z1 L1 ∧
            ((r = 0 ∧ R = c ∧ N = 0 ∧ n' = 0 ∧ Z' = 0 ∧ D' = 0) ∨ (r = 1 ∧ zo_R g l S m e T f u k c p (t + 1) N1 n1 Z1 (zo_inc D) L1 R N n' Z' D')))))))
/-- there is a way to its end -/
noncomputable def zo_RR (g l S m e T f u c p t M n Z D L R N n' Z' D' : Int) : Prop := ∃ k, zo_R g l S m e T f u k c p t M n Z D L R N n' Z' D'
section ZORR
variable {g l S m e T f u c p t M n Z D L R N n' Z' D' : Int}
theorem zo_RR_end (h : ze_L g l ≤ p) : zo_RR g l S m e T f u c p t M n Z D L (-1) M n Z D := ⟨1, Or.inl ⟨h, rfl, rfl, rfl, rfl, rfl⟩⟩
theorem zo_RR_next {s q : Int} (h : p < ze_L g l) (h1 : zo_CL g l p s q) (h2 : s ≤ t) (h3 : zo_RR g l S m e T f u (c + 1) q 0 M n Z D L R N n' Z' D') : zo_RR g l S m e T f u c p t M n Z D L R N n' Z' D' := by
  obtain ⟨k, h3⟩ := h3
  exact ⟨k + 1, Or.inr ⟨h, s, q, h1, Or.inl ⟨h2, h3⟩⟩⟩
theorem zo_RR_not {s q x0 x1 x2 bk so : Int} (h : p < ze_L g l) (h1 : zo_CL g l p s q) (h2 : t < s) (h4 : zo_EV g l (zo_W m M D L) p x0 x1 x2 bk so zo_nP zo_nH) (h5 : so ≠ 1) (h3 : zo_RR g l S m e T f u c p (t + 1) M n Z D L R N n' Z' D') : zo_RR g l S m e T f u c p t M n Z D L R N n' Z' D' := by
  obtain ⟨k, h3⟩ := h3
  exact ⟨k + 1, Or.inr ⟨h, s, q, h1, Or.inr ⟨h2, x0, x1, x2, bk, so, h4, Or.inl ⟨h5, h3⟩⟩⟩⟩
theorem zo_RR_bk {s q x0 x1 x2 bk : Int} (h : p < ze_L g l) (h1 : zo_CL g l p s q) (h2 : t < s) (h4 : zo_EV g l (zo_W m M D L) p x0 x1 x2 bk 1 zo_nP zo_nH) (h5 : bk ≠ 0) : zo_RR g l S m e T f u c p t M n Z D L c 0 0 0 0 := ⟨1, Or.inr ⟨h, s, q, h1, Or.inr ⟨h2, x0, x1, x2, bk, 1, h4, Or.inr (Or.inl ⟨rfl, h5, rfl, rfl, rfl, rfl, rfl⟩)⟩⟩⟩
theorem zo_RR_no {s q x0 x1 x2 N1 n1 Z1 L1 : Int} (h : p < ze_L g l) (h1 : zo_CL g l p s q) (h2 : t < s) (h4 : zo_EV g l (zo_W m M D L) p x0 x1 x2 0 1 zo_nP zo_nH) (h5 : zo_OO S m e T f u M n Z L (ze_c g l p) x0 x1 x2 0 N1 n1 Z1 L1) : zo_RR g l S m e T f u c p t M n Z D L c 0 0 0 0 := ⟨1, Or.inr ⟨h, s, q, h1, Or.inr ⟨h2, x0, x1, x2, 0, 1, h4, Or.inr (Or.inr ⟨rfl, rfl, 0, N1, n1, Z1, L1, h5, Or.inl ⟨rfl, rfl, rfl, rfl, rfl, rfl⟩⟩)⟩⟩⟩
theorem zo_RR_go {s q x0 x1 x2 N1 n1 Z1 L1 : Int} (h : p < ze_L g l) (h1 : zo_CL g l p s q) (h2 : t < s) (h4 : zo_EV g l (zo_W m M D L) p x0 x1 x2 0 1 zo_nP zo_nH) (h5 : zo_OO S m e T f u M n Z L (ze_c g l p) x0 x1 x2 1 N1 n1 Z1 L1) (h3 : zo_RR g l S m e T f u c p (t + 1) N1 n1 Z1 (zo_inc D) L1 R N n' Z' D') : zo_RR g l S m e T f u c p t M n Z D L R N n' Z' D' := by
  obtain ⟨k, h3⟩ := h3
  exact ⟨k + 1, Or.inr ⟨h, s, q, h1, Or.inr ⟨h2, x0, x1, x2, 0, 1, h4, Or.inr (Or.inr ⟨rfl, rfl, 1, N1, n1, Z1, L1, h5, Or.inr ⟨rfl, h3⟩⟩)⟩⟩⟩
end ZORR
/-! one run has one end -/
theorem zo_fin_u {x N1 n1 Z1 L1 r N n' Z' L' r2 N2 n2 Z2 L2 : Int} (h1 : zo_fin x N1 n1 Z1 L1 r N n' Z' L') (h2 : zo_fin x N1 n1 Z1 L1 r2 N2 n2 Z2 L2) : r = r2 ∧ N = N2 ∧ n' = n2 ∧ Z' = Z2 ∧ L' = L2 := by
  rcases h1 with ⟨a1, a2, a3, a4, a5, a6⟩ | ⟨a1, a2, a3, a4, a5, a6⟩ <;> rcases h2 with ⟨b1, b2, b3, b4, b5, b6⟩ | ⟨b1, b2, b3, b4, b5, b6⟩
  · exact ⟨by omega, by omega, by omega, by omega, by omega⟩
  · exfalso; omega
  · exfalso; omega
  · exact ⟨by omega, by omega, by omega, by omega, by omega⟩
theorem zo_OO_u {S m e T f u M n Z L k x0 x1 x2 r N n' Z' L' r2 N2 n2 Z2 L2 : Int} (h1 : zo_OO S m e T f u M n Z L k x0 x1 x2 r N n' Z' L') (h2 : zo_OO S m e T f u M n Z L k x0 x1 x2 r2 N2 n2 Z2 L2) : r = r2 ∧ N = N2 ∧ n' = n2 ∧ Z' = Z2 ∧ L' = L2 := by
  obtain ⟨x, M1, m1, Y1, K1, a, b⟩ := h1
  obtain ⟨x', M2, m2, Y2, K2, a', b'⟩ := h2
  have key : x = x' ∧ M1 = M2 ∧ m1 = m2 ∧ Y1 = Y2 ∧ K1 = K2 := by
    rcases a with ⟨c1, c2, c3⟩ | ⟨c1, c2, c3⟩ | ⟨c1, c2, c3⟩ | ⟨c1, c2, c3, c4, c5⟩ <;> rcases a' with ⟨d1, d2, d3⟩ | ⟨d1, d2, d3⟩ | ⟨d1, d2, d3⟩ | ⟨d1, d2, d3, d4, d5⟩ <;> try (exfalso; omega)
    · obtain ⟨e1, e2, e3, e4⟩ := zk_PA_u c3 d3; exact ⟨e1, e2, e3, e4, by omega⟩
    · obtain ⟨e1, e2, e3, e4⟩ := zk_WN_u c3 d3; exact ⟨e1, e2, e3, e4, by omega⟩
    · obtain ⟨e1, e2, e3, e4⟩ := zk_PY_u c3 d3; exact ⟨e1, e2, e3, e4, by omega⟩
    · obtain ⟨e1, e2, e3, e4⟩ := zk_CM_u c5 d5; exact ⟨e1, e2, e3, e4, by omega⟩
  obtain ⟨q1, q2, q3, q4, q5⟩ := key
  rw [← q1, ← q2, ← q3, ← q4, ← q5] at b'
  exact zo_fin_u b b'
theorem zo_R_u {g l S m e T f u : Int} : ∀ (k k2 : Nat) {c p t M n Z D L R N n' Z' D' R2 N2 n2 Z2 D2 : Int}, zo_R g l S m e T f u k c p t M n Z D L R N n' Z' D' → zo_R g l S m e T f u k2 c p t M n Z D L R2 N2 n2 Z2 D2 → R = R2 ∧ N = N2 ∧ n' = n2 ∧ Z' = Z2 ∧ D' = D2
  | 0, _, _, _, _, _, _, _, _, _, _, _, _, _, _, _, _, _, _, _, h1, _ => False.elim h1
  | _ + 1, 0, _, _, _, _, _, _, _, _, _, _, _, _, _, _, _, _, _, _, _, h2 => False.elim h2
  | k + 1, k2 + 1, _, _, _, _, _, _, _, _, _, _, _, _, _, _, _, _, _, _, h1, h2 => by
    rcases h1 with ⟨a1, a2, a3, a4, a5, a6⟩ | ⟨a1, s, q, a2, a3⟩
    · rcases h2 with ⟨b1, b2, b3, b4, b5, b6⟩ | ⟨b1, s', q', b2, b3⟩
      · exact ⟨by omega, by omega, by omega, by omega, by omega⟩
      · exfalso; omega
    · rcases h2 with ⟨b1, b2, b3, b4, b5, b6⟩ | ⟨b1, s', q', b2, b3⟩
      · exfalso; omega
      · obtain ⟨e1, e2⟩ := zo_CL_fun a2 b2
        subst e1; subst e2
        rcases a3 with ⟨a4, a5⟩ | ⟨a4, x0, x1, x2, bk, so, a5, a6⟩
        · rcases b3 with ⟨b4, b5⟩ | ⟨b4, _⟩
          · exact zo_R_u k k2 a5 b5
          · exfalso; omega
        · rcases b3 with ⟨b4, _⟩ | ⟨b4, y0, y1, y2, bk', so', b5, b6⟩
          · exfalso; omega
          · obtain ⟨e0, e1, e2, e3, e4⟩ := zo_EV_fun a5 b5
            subst e0; subst e1; subst e2; subst e3; subst e4
            rcases a6 with ⟨a7, a8⟩ | ⟨a7, a8, a9, c1, c2, c3, c4⟩ | ⟨a7, a8, r, N1, n1, Z1, L1, a9, a10⟩
            · rcases b6 with ⟨b7, b8⟩ | ⟨b7, _⟩ | ⟨b7, _⟩
              · exact zo_R_u k k2 a8 b8
              · exact absurd b7 a7
              · exact absurd b7 a7
            · rcases b6 with ⟨b7, b8⟩ | ⟨b7, b8, b9, d1, d2, d3, d4⟩ | ⟨b7, b8, _⟩
              · exact absurd a7 b7
              · exact ⟨by omega, by omega, by omega, by omega, by omega⟩
              · exact absurd b8 a8
            · rcases b6 with ⟨b7, b8⟩ | ⟨b7, b8, _⟩ | ⟨b7, b8, r', N2, n2, Z2, L2, b9, b10⟩
              · exact absurd a7 b7
              · exact absurd a8 b8
              · obtain ⟨q1, q2, q3, q4, q5⟩ := zo_OO_u a9 b9
                rcases a10 with ⟨a11, c1, c2, c3, c4, c5⟩ | ⟨a11, c1⟩
                · rcases b10 with ⟨b11, d1, d2, d3, d4, d5⟩ | ⟨b11, _⟩
                  · exact ⟨by omega, by omega, by omega, by omega, by omega⟩
                  · exfalso; omega
                · rcases b10 with ⟨b11, _⟩ | ⟨b11, d1⟩
                  · exfalso; omega
                  · rw [← q2, ← q3, ← q4, ← q5] at d1
                    exact zo_R_u k k2 c1 d1
/-! tokens: the run from here is the run from the start; its end -/
noncomputable def zo_RT (g l S m e T f u M n Z R N n' Z' D' : Int) (_ : zq_Ty) (_ : zq_H) : Prop := zo_RR g l S m e T f u 0 0 0 M n Z 0 (-1) R N n' Z' D'
noncomputable def zo_RN (g l S m e T f u M0 n0 Z0 c p t M n Z D L : Int) (_ : zq_Ty) (_ : zq_H) : Prop := ∀ R N n' Z' D', zo_RR g l S m e T f u c p t M n Z D L R N n' Z' D' → zo_RR g l S m e T f u 0 0 0 M0 n0 Z0 0 (-1) R N n' Z' D'
theorem zo_RT_u {g l S m e T f u M n Z R N n' Z' D' R2 N2 n2 Z2 D2 : Int} {P P' : zq_Ty} {h h' : zq_H} (h1 : zo_RT g l S m e T f u M n Z R N n' Z' D' P h) (h2 : zo_RT g l S m e T f u M n Z R2 N2 n2 Z2 D2 P' h') : R = R2 ∧ N = N2 ∧ n' = n2 ∧ Z' = Z2 ∧ D' = D2 := by
  obtain ⟨k, h1⟩ := h1
  obtain ⟨k2, h2⟩ := h2
  exact zo_R_u k k2 h1 h2
/-! tokens of orders -/
noncomputable def zo_OW (k : Nat) (a W : Int) (P : zq_Ty) (h : zq_H) : Prop := zn_on a k P ∧ ∀ j, 8 ≤ j → j < 22 → h a.toNat j = zn_dg W (j - 8)
noncomputable def zo_OD (W p M D L : Int) (_ : zq_Ty) (_ : zq_H) : Prop := W = zo_W p M D L
noncomputable def zo_EN (M l s : Int) (_ : zq_Ty) (_ : zq_H) : Prop := 0 ≤ l ∧ s = zo_ev M l.toNat
noncomputable def zo_WB (a p M l : Int) (P : zq_Ty) (h : zq_H) : Prop := zn_on a 102 P ∧ (0 ≤ l ∧ l ≤ 6) ∧ ∀ i : Int, 0 ≤ i → i < l → h a.toNat (12 + i) = if i < p then zn_dg M i else -1
noncomputable def zo_WC (a M l : Int) (P : zq_Ty) (h : zq_H) : Prop := zn_on a 102 P ∧ (0 ≤ l ∧ l ≤ 4) ∧ ∀ i : Int, 0 ≤ i → i < l → h a.toNat (18 + i) = zn_dg M (6 + i)
noncomputable def zo_CLt (g l p s q : Int) (_ : zq_Ty) (_ : zq_H) : Prop := zo_CL g l p s q
noncomputable def zo_OOt (S m e T f u M n Z L k x0 x1 x2 r N n' Z' L' : Int) (_ : zq_Ty) (_ : zq_H) : Prop := zo_OO S m e T f u M n Z L k x0 x1 x2 r N n' Z' L'
noncomputable def zo_LE (g l p : Int) (_ : zq_Ty) (_ : zq_H) : Prop := ze_L g l ≤ p
theorem zr_cw1 {v W : Int} {P : zq_Ty} {h : zq_H} (k : zo_OW 102 v W P h) : zp_cw 1 W (zr_cw (h v.toNat)) := by
  intro j hj
  rcases hj with ⟨h0, _⟩ | ⟨_, h1, h2⟩
  · exact absurd h0 (by decide)
  · rw [zr_cw_in (by omega) h2, k.2 j h1 h2]
    unfold zc_w
    rw [if_neg (by decide)]
theorem zd_S_T {o g n Y z s i j : Int} (h : zd_S o g n Y z s i j) : zt_T (ze_c g n) 4 i j := by
  obtain ⟨t, h1, _, _⟩ := h
  exact h1.2.2.1
theorem zd_T_T {o g n Y z s i j : Int} (h : zd_T o g n Y z s i j) : zt_T (ze_c g n) 10 i j := by
  obtain ⟨t, ⟨⟨_, _, c3, _⟩, _⟩, _, _⟩ := h
  exact c3
/-- a sum that was reckoned -/
theorem zo_X_of {g l Y z s i j W b r : Int} {cw : Int → Int} (h : zd_S 1 g l Y z s i j) (hz : z ≤ 448) (hw : zp_cw 1 W cw) (hr : zr_run Y cw z 448 s [] = if b = 1 then none else some r) : ∃ x d, zo_X g l W i x d j ∧ (b = 1 → d = true) ∧ (b ≠ 1 → d = false ∧ x = r) := zr_S_run h hz hw hr
theorem zo_X_any {g l Y z s i j W : Int} (h : zd_S 1 g l Y z s i j) : ∃ x d, zo_X g l W i x d j := zt_V (zd_S_T h) 0 true false
theorem zo_PT_of {g l Y z k a b c i e : Int} (h : zd_O g l Y z k a b c i e) : zo_PT g l i e := by
  rcases h with ⟨_, h2, _, _, _, e1, e2, h6, _, h8, _, h10⟩ | ⟨_, h2, _, _, _, e1, h6, _, h8⟩ | ⟨_, h2, _, _, _, h6⟩ | ⟨_, h2, _, _, _, h6⟩
  · exact Or.inr (Or.inr (Or.inr ⟨by omega, by omega, by omega, e1, e2, zd_S_T h6, zd_S_T h8, zd_S_T h10⟩))
  · exact Or.inr (Or.inr (Or.inl ⟨h2, e1, zd_S_T h6, zd_S_T h8⟩))
  · exact Or.inr (Or.inl ⟨h2, zd_S_T h6⟩)
  · exact Or.inl ⟨h2, h6⟩
theorem zo_VP_any {g l Y z k a b c i e W : Int} (h : zd_O g l Y z k a b c i e) : ∃ x0 x1 x2 bk, zo_VP g l W i x0 x1 x2 bk e := by
  rcases h with ⟨_, h2, _, _, _, e1, e2, h6, _, h8, _, h10⟩ | ⟨_, h2, _, _, _, e1, h6, _, h8⟩ | ⟨_, h2, _, _, _, h6⟩ | ⟨_, h2, _, _, _, h6⟩
  · obtain ⟨x0, d0, y0⟩ := zo_X_any (W := W) h6
    obtain ⟨x1, d1, y1⟩ := zo_X_any (W := W) h8
    obtain ⟨x2, d2, y2⟩ := zo_X_any (W := W) h10
    exact ⟨x0, x1, x2, _, Or.inr (Or.inr (Or.inr ⟨by omega, by omega, by omega, d0, d1, d2, e1, e2, y0, y1, y2, rfl⟩))⟩
  · obtain ⟨x0, d0, y0⟩ := zo_X_any (W := W) h6
    obtain ⟨x1, d1, y1⟩ := zo_X_any (W := W) h8
    exact ⟨x0, x1, 0, _, Or.inr (Or.inr (Or.inl ⟨h2, rfl, d0, d1, e1, y0, y1, rfl⟩))⟩
  · obtain ⟨x0, d0, y0⟩ := zo_X_any (W := W) h6
    exact ⟨x0, 0, 0, _, Or.inr (Or.inl ⟨h2, rfl, rfl, d0, y0, rfl⟩)⟩
  · exact ⟨0, 0, 0, 0, Or.inl ⟨h2, rfl, rfl, rfl, rfl, h6⟩⟩
/-- three parts: what was reckoned of them, from the first on, to the first that is broken -/
theorem zo_VP_3 {g l Y z a b c i e W B0 B1 B2 r0 r1 r2 : Int} {cw : Int → Int} (h : zd_O g l Y z 17 a b c i e) (hz : z ≤ 448) (hw : zp_cw 1 W cw) (q0 : zr_run Y cw z 448 a [] = if B0 = 1 then none else some r0) (q1 : B0 ≠ 1 → zr_run Y cw z 448 b [] = if B1 = 1 then none else some r1) (q2 : B0 ≠ 1 → B1 ≠ 1 → zr_run Y cw z 448 c [] = if B2 = 1 then none else some r2) :
    ∃ x0 x1 x2, zo_VP g l W i x0 x1 x2 (if B0 = 1 ∨ B1 = 1 ∨ B2 = 1 then 1 else 0) e ∧ (B0 ≠ 1 → B1 ≠ 1 → B2 ≠ 1 → x0 = r0 ∧ x1 = r1 ∧ x2 = r2) ∨ (B0 = 1 ∨ B1 = 1) ∧ zo_VP g l W i x0 x1 x2 1 e := by
  rcases h with ⟨_, h2, _, _, _, e1, e2, h6, _, h8, _, h10⟩ | ⟨k, _⟩ | ⟨k, _⟩ | ⟨k, _⟩
  · obtain ⟨x0, d0, y0, u0, v0⟩ := zo_X_of h6 hz hw q0
    by_cases e0 : B0 = 1
    · obtain ⟨x1, d1, y1⟩ := zo_X_any (W := W) h8
      obtain ⟨x2, d2, y2⟩ := zo_X_any (W := W) h10
      refine ⟨x0, x1, x2, Or.inr ⟨Or.inl e0, Or.inr (Or.inr (Or.inr ⟨by omega, by omega, by omega, d0, d1, d2, e1, e2, y0, y1, y2, ?_⟩))⟩⟩
      rw [u0 e0]; rfl
    · obtain ⟨x1, d1, y1, u1, v1⟩ := zo_X_of h8 hz hw (q1 e0)
      by_cases e3 : B1 = 1
      · obtain ⟨x2, d2, y2⟩ := zo_X_any (W := W) h10
        refine ⟨x0, x1, x2, Or.inr ⟨Or.inr e3, Or.inr (Or.inr (Or.inr ⟨by omega, by omega, by omega, d0, d1, d2, e1, e2, y0, y1, y2, ?_⟩))⟩⟩
        rw [u1 e3, (v0 e0).1]; rfl
      · obtain ⟨x2, d2, y2, u2, v2⟩ := zo_X_of h10 hz hw (q2 e0 e3)
        by_cases e4 : B2 = 1
        · refine ⟨x0, x1, x2, Or.inl ⟨Or.inr (Or.inr (Or.inr ⟨by omega, by omega, by omega, d0, d1, d2, e1, e2, y0, y1, y2, ?_⟩)), fun _ _ z => absurd e4 z⟩⟩
          rw [if_pos (Or.inr (Or.inr e4)), u2 e4, (v0 e0).1, (v1 e3).1]; rfl
        · refine ⟨x0, x1, x2, Or.inl ⟨Or.inr (Or.inr (Or.inr ⟨by omega, by omega, by omega, d0, d1, d2, e1, e2, y0, y1, y2, ?_⟩)), fun _ _ _ => ⟨(v0 e0).2, (v1 e3).2, (v2 e4).2⟩⟩⟩
          rw [if_neg (by omega), (v2 e4).1, (v0 e0).1, (v1 e3).1]; rfl
  all_goals exact absurd k (by decide)
theorem zo_VP_2 {g l Y z a b c i e W B0 B1 r0 r1 : Int} {cw : Int → Int} (h : zd_O g l Y z 18 a b c i e) (hz : z ≤ 448) (hw : zp_cw 1 W cw) (q0 : zr_run Y cw z 448 a [] = if B0 = 1 then none else some r0) (q1 : B0 ≠ 1 → zr_run Y cw z 448 b [] = if B1 = 1 then none else some r1) :
    ∃ x0 x1, zo_VP g l W i x0 x1 0 (if B0 = 1 ∨ B1 = 1 then 1 else 0) e ∧ (B0 ≠ 1 → B1 ≠ 1 → x0 = r0 ∧ x1 = r1) := by
  rcases h with ⟨k, _⟩ | ⟨_, h2, _, _, _, e1, h6, _, h8⟩ | ⟨k, _⟩ | ⟨k, _⟩
  · exact absurd k (by decide)
  · obtain ⟨x0, d0, y0, u0, v0⟩ := zo_X_of h6 hz hw q0
    by_cases e0 : B0 = 1
    · obtain ⟨x1, d1, y1⟩ := zo_X_any (W := W) h8
      refine ⟨x0, x1, Or.inr (Or.inr (Or.inl ⟨h2, rfl, d0, d1, e1, y0, y1, ?_⟩)), fun z _ => absurd e0 z⟩
      rw [if_pos (Or.inl e0), u0 e0]; rfl
    · obtain ⟨x1, d1, y1, u1, v1⟩ := zo_X_of h8 hz hw (q1 e0)
      refine ⟨x0, x1, Or.inr (Or.inr (Or.inl ⟨h2, rfl, d0, d1, e1, y0, y1, ?_⟩)), fun _ z => ⟨(v0 e0).2, (v1 z).2⟩⟩
      by_cases e3 : B1 = 1
      · rw [if_pos (Or.inr e3), u1 e3, (v0 e0).1]; rfl
      · rw [if_neg (by omega), (v0 e0).1, (v1 e3).1]; rfl
  · exact absurd k (by decide)
  · exact absurd k (by decide)
theorem zo_VP_1 {g l Y z a b c i e W B0 r0 : Int} {cw : Int → Int} (h : zd_O g l Y z 19 a b c i e) (hz : z ≤ 448) (hw : zp_cw 1 W cw) (q0 : zr_run Y cw z 448 a [] = if B0 = 1 then none else some r0) :
    ∃ x0, zo_VP g l W i x0 0 0 (if B0 = 1 then 1 else 0) e ∧ (B0 ≠ 1 → x0 = r0) := by
  rcases h with ⟨k, _⟩ | ⟨k, _⟩ | ⟨_, h2, _, _, _, h6⟩ | ⟨k, _⟩
  · exact absurd k (by decide)
  · exact absurd k (by decide)
  · obtain ⟨x0, d0, y0, u0, v0⟩ := zo_X_of h6 hz hw q0
    refine ⟨x0, Or.inr (Or.inl ⟨h2, rfl, rfl, d0, y0, ?_⟩), fun z => (v0 z).2⟩
    by_cases e0 : B0 = 1
    · rw [if_pos e0, u0 e0]; rfl
    · rw [if_neg e0, (v0 e0).1]; rfl
  · exact absurd k (by decide)
theorem zo_sm_c (v : Int) : (zo_sm v = -1 ∧ (v < 0 ∨ 1000000 < v)) ∨ (zo_sm v = v ∧ 0 ≤ v ∧ v ≤ 1000000) := by
  unfold zo_sm
  by_cases h : v < 0 ∨ 1000000 < v
  · rw [if_pos h]; exact Or.inl ⟨rfl, h⟩
  · rw [if_neg h]; exact Or.inr ⟨rfl, by omega, by omega⟩
theorem zo_sm_i {v : Int} (h0 : 0 ≤ v) (h1 : v ≤ 1000000) : zo_sm v = v := by
  rcases zo_sm_c v with ⟨_, h⟩ | ⟨h, _⟩
  · exfalso; omega
  · exact h
noncomputable def zo_OV (W c k v : Int) (_ : zq_Ty) (_ : zq_H) : Prop := v = ze_w 1 W c k
theorem ze_w1 {W c k : Int} : ze_w 1 W c k = if c = 20 then zn_dg W (4 + k) else if c = 21 then zn_dg W (10 + k) else zn_dg W (c - 16) := by
  unfold ze_w
  rw [if_neg (by decide)]
