/-! WHAT MOVES, the reference's: cells being filled, what is laid aside, what is done now -/
/-- the first l cells are digits of N -/
noncomputable def zk_KF (a N l : Int) (P : zq_Ty) (h : zq_H) : Prop := zn_on a 1 P ∧ (0 ≤ l ∧ l ≤ 11) ∧ ∀ j : Int, 0 ≤ j → j < l → h a.toNat j = zn_dg N j
/-- the first l cells of the row k of what is laid aside -/
noncomputable def zk_AS (a k N l : Int) (P : zq_Ty) (h : zq_H) : Prop := zn_on a 4 P ∧ 0 ≤ k ∧ k ≤ 1 ∧ (0 ≤ l ∧ l ≤ 11) ∧ ∀ j : Int, 0 ≤ j → j < l → h a.toNat (11 * k + j) = zn_dg N j
/-- the state of the row n - 1 -/
noncomputable def zk_UZ (Z n N : Int) (_ : zq_Ty) (_ : zq_H) : Prop := N = zm_pk (fun j => zn_dg Z (12 * (n - 1) + j)) 11
theorem zk_UZ_dg {Z n N j : Int} (h : N = zm_pk (fun j => zn_dg Z (12 * (n - 1) + j)) 11) (h0 : 0 ≤ j) (h1 : j < 11) : zn_dg N j = zn_dg Z (12 * (n - 1) + j) := by
  rw [h]; exact zm_pk_dg 11 j (fun _ _ _ => zn_dg_in _ _) h0 (by omega)
/-- the deed d of w at p, done at once: r who is on (-1: it can't be), N behind it -/
noncomputable def zk_DO (S m T f u M d w p r N : Int) (P : zq_Ty) (h : zq_H) : Prop :=
  ∃ W a, zl_WW W S d w p (zn_dg M 10 + zn_dg M (6 + p)) u P h ∧ zl_RW T f W w m a P h ∧
    ((a = 7 ∧ r = -1 ∧ N = M) ∨ (a ≠ 7 ∧ (a = 6 ∨ a = w) ∧ 0 ≤ r ∧ r = a ∧ N = M) ∨
     (a ≠ 7 ∧ a ≠ 6 ∧ a ≠ w ∧ ∃ o, zl_RO T f W S d o P h ∧
       ((¬ (zn_dg M w + o ≤ 9999 ∧ -9999 ≤ zn_dg M a - o) ∧ r = -1 ∧ N = M) ∨
        (zn_dg M w + o ≤ 9999 ∧ -9999 ≤ zn_dg M a - o ∧ 0 ≤ o ∧ 0 ≤ r ∧ r = a ∧ N = zk_mv M w a o))))
/-- the date at p, n days on -/
noncomputable def zk_YY (M p t y : Int) (_ : zq_Ty) (_ : zq_H) : Prop := y = t + zn_dg M (6 + p)
noncomputable def zk_YT (M p n y : Int) (_ : zq_Ty) (_ : zq_H) : Prop := y = zn_dg M 10 + n + zn_dg M (6 + p)
/-- what all but two digits share -/
theorem zm_st_two {M N w r x y L : Int} (hL : L = zm_st M w x) (hx : x = zn_dg N w) (hy : y = zn_dg N r) (hN : N = zm_pk (zn_dg N) 11) (e : ∀ j : Int, 0 ≤ j → j < 11 → j ≠ w → j ≠ r → zn_dg N j = zn_dg M j) : zm_st L r y = N := by
  rw [hN]
  unfold zm_st
  refine zm_pk_cg 11 (fun j p q => ?_)
  show (if j = r then y else zn_dg L j) = zn_dg N j
  by_cases e1 : j = r
  · rw [if_pos e1, hy, e1]
  · rw [if_neg e1, hL, zm_st_dg (by rw [hx]; exact zn_dg_in _ _) p (by omega)]
    by_cases e2 : j = w
    · rw [if_pos e2, hx, e2]
    · rw [if_neg e2]; exact (e j p (by omega) e2 e1).symm
theorem zm_st_one {M N w x : Int} (hx : x = zn_dg N w) (hN : N = zm_pk (zn_dg N) 11) (e : ∀ j : Int, 0 ≤ j → j < 11 → j ≠ w → zn_dg N j = zn_dg M j) : zm_st M w x = N := by
  rw [hN]
  unfold zm_st
  refine zm_pk_cg 11 (fun j p q => ?_)
  show (if j = w then x else zn_dg M j) = zn_dg N j
  by_cases e2 : j = w
  · rw [if_pos e2, hx, e2]
  · rw [if_neg e2]; exact (e j p (by omega) e2).symm
/-! what two tellings share -/
theorem zl_RW_u {T f W w m a b : Int} {P P' : zq_Ty} {h h' : zq_H} (k1 : zl_RW T f W w m a P h) (k2 : zl_RW T f W w m b P' h') : a = b := by
  rcases k1 with ⟨x, x1, x2, x3⟩ | ⟨x1, x, x2, x3⟩
  · rcases k2 with ⟨y, y1, y2, y3⟩ | ⟨y1, y, y2, y3⟩
    · rw [x3, y3]
    · exact absurd (zl_RT_u x1 y1) x2
  · rcases k2 with ⟨y, y1, y2, y3⟩ | ⟨y1, y, y2, y3⟩
    · exact absurd (zl_RT_u y1 x1) y2
    · rw [x3, y3, zl_RT_u x2 y2]
theorem zl_RO_u {T f W S d a b : Int} {P P' : zq_Ty} {h h' : zq_H} (k1 : zl_RO T f W S d a P h) (k2 : zl_RO T f W S d b P' h') : a = b := by
  obtain ⟨x, x1, x2⟩ := k1
  obtain ⟨y, y1, y2⟩ := k2
  rw [x2, y2, zl_RT_u x1 y1]
/-! what happened once is one thing -/
theorem zk_WN_u {M n Z q c r1 N1 n1 Z1 r2 N2 n2 Z2 : Int} {P P' : zq_Ty} {h h' : zq_H} (k1 : zk_WN M n Z q c r1 N1 n1 Z1 P h) (k2 : zk_WN M n Z q c r2 N2 n2 Z2 P' h') : r1 = r2 ∧ N1 = N2 ∧ n1 = n2 ∧ Z1 = Z2 := by
  rcases k1 with ⟨c1, a1, a2, a3, a4⟩ | ⟨p1, p2, p3, p4, ⟨c1, a1, a2, a3, a4⟩ | ⟨c1, a1, a2, a3, a4⟩⟩
  · rcases k2 with ⟨d1, b1, b2, b3, b4⟩ | ⟨q1, q2, q3, q4, _⟩
    · exact ⟨by omega, a2.trans b2.symm, a3.trans b3.symm, a4.trans b4.symm⟩
    · exfalso; omega
  · rcases k2 with ⟨d1, b1, b2, b3, b4⟩ | ⟨q1, q2, q3, q4, ⟨d1, b1, b2, b3, b4⟩ | ⟨d1, b1, b2, b3, b4⟩⟩
    · exfalso; omega
    · exact ⟨by omega, a2.trans b2.symm, a3.trans b3.symm, a4.trans b4.symm⟩
    · exact absurd c1 d1
  · rcases k2 with ⟨d1, b1, b2, b3, b4⟩ | ⟨q1, q2, q3, q4, ⟨d1, b1, b2, b3, b4⟩ | ⟨d1, b1, b2, b3, b4⟩⟩
    · exfalso; omega
    · exact absurd d1 c1
    · exact ⟨by omega, a2.trans b2.symm, a3.trans b3.symm, a4.trans b4.symm⟩
theorem zk_PA_u {M n Z r1 N1 n1 Z1 r2 N2 n2 Z2 : Int} {P P' : zq_Ty} {h h' : zq_H} (k1 : zk_PA M n Z r1 N1 n1 Z1 P h) (k2 : zk_PA M n Z r2 N2 n2 Z2 P' h') : r1 = r2 ∧ N1 = N2 ∧ n1 = n2 ∧ Z1 = Z2 := by
  rcases k1 with ⟨c1, a1, a2, a3, a4⟩ | ⟨c1, a1, a2, a3, a4⟩ <;> rcases k2 with ⟨d1, b1, b2, b3, b4⟩ | ⟨d1, b1, b2, b3, b4⟩
  · exact ⟨by omega, a2.trans b2.symm, a3.trans b3.symm, a4.trans b4.symm⟩
  · exfalso; omega
  · exfalso; omega
  · exact ⟨by omega, a2.trans b2.symm, a3.trans b3.symm, a4.trans b4.symm⟩
theorem zk_PY_u {p M n Z a b v r1 N1 n1 Z1 r2 N2 n2 Z2 : Int} {P P' : zq_Ty} {h h' : zq_H} (k1 : zk_PY p M n Z a b v r1 N1 n1 Z1 P h) (k2 : zk_PY p M n Z a b v r2 N2 n2 Z2 P' h') : r1 = r2 ∧ N1 = N2 ∧ n1 = n2 ∧ Z1 = Z2 := by
  rcases k1 with ⟨c1, a1, a2, a3, a4⟩ | ⟨p1, p2, p3, ⟨c1, a1, a2, a3, a4⟩ | ⟨u1, u2, u3, u4, ⟨c1, a1, a2, a3, a4⟩ | ⟨c1, c2, a1, a2, a3, a4⟩⟩⟩
  · rcases k2 with ⟨d1, b1, b2, b3, b4⟩ | ⟨q1, q2, q3, _⟩
    · exact ⟨by omega, a2.trans b2.symm, a3.trans b3.symm, a4.trans b4.symm⟩
    · exfalso; omega
  · rcases k2 with ⟨d1, b1, b2, b3, b4⟩ | ⟨q1, q2, q3, ⟨d1, b1, b2, b3, b4⟩ | ⟨v1, v2, v3, v4, _⟩⟩
    · exfalso; omega
    · exact ⟨by omega, a2.trans b2.symm, a3.trans b3.symm, a4.trans b4.symm⟩
    · exfalso; omega
  · rcases k2 with ⟨d1, b1, b2, b3, b4⟩ | ⟨q1, q2, q3, ⟨d1, b1, b2, b3, b4⟩ | ⟨v1, v2, v3, v4, ⟨d1, b1, b2, b3, b4⟩ | ⟨d1, d2, b1, b2, b3, b4⟩⟩⟩
    · exfalso; omega
    · exfalso; omega
    · exact ⟨by omega, a2.trans b2.symm, a3.trans b3.symm, a4.trans b4.symm⟩
    · exfalso; omega
  · rcases k2 with ⟨d1, b1, b2, b3, b4⟩ | ⟨q1, q2, q3, ⟨d1, b1, b2, b3, b4⟩ | ⟨v1, v2, v3, v4, ⟨d1, b1, b2, b3, b4⟩ | ⟨d1, d2, b1, b2, b3, b4⟩⟩⟩
    · exfalso; omega
    · exfalso; omega
    · exfalso; omega
    · exact ⟨by omega, a2.trans b2.symm, a3.trans b3.symm, a4.trans b4.symm⟩
theorem zk_CM_u {S m e T f u M n Z d w p r1 N1 n1 Z1 r2 N2 n2 Z2 : Int} {P P' : zq_Ty} {h h' : zq_H} (k1 : zk_CM S m e T f u M n Z d w p r1 N1 n1 Z1 P h) (k2 : zk_CM S m e T f u M n Z d w p r2 N2 n2 Z2 P' h') : r1 = r2 ∧ N1 = N2 ∧ n1 = n2 ∧ Z1 = Z2 := by
  rcases k1 with ⟨c1, a1, a2, a3, a4⟩ | ⟨p1, p2, ⟨c1, a1, a2, a3, a4⟩ | ⟨u1, u2, u3, u4, W, a, g1, g2, x⟩⟩
  · rcases k2 with ⟨d1, b1, b2, b3, b4⟩ | ⟨q1, q2, _⟩
    · exact ⟨by omega, a2.trans b2.symm, a3.trans b3.symm, a4.trans b4.symm⟩
    · exfalso; omega
  · rcases k2 with ⟨d1, b1, b2, b3, b4⟩ | ⟨q1, q2, ⟨d1, b1, b2, b3, b4⟩ | ⟨v1, v2, v3, v4, _⟩⟩
    · exfalso; omega
    · exact ⟨by omega, a2.trans b2.symm, a3.trans b3.symm, a4.trans b4.symm⟩
    · exfalso; omega
  · rcases k2 with ⟨d1, b1, b2, b3, b4⟩ | ⟨q1, q2, ⟨d1, b1, b2, b3, b4⟩ | ⟨v1, v2, v3, v4, W', a', h1, h2, y⟩⟩
    · exfalso; omega
    · exfalso; omega
    · have eW : W' = W := (show W' = _ from h1).trans (show W = _ from g1).symm
      subst eW
      have ea : a' = a := zl_RW_u h2 g2
      subst ea
      rcases x with ⟨c1, a1, a2, a3, a4⟩ | ⟨c1, c2, a0, a1, a2, a3, a4⟩ | ⟨c1, c2, c3, o, g3, x⟩
      · rcases y with ⟨d1, b1, b2, b3, b4⟩ | ⟨d1, d2, b0, b1, b2, b3, b4⟩ | ⟨d1, d2, d3, _⟩
        · exact ⟨by omega, a2.trans b2.symm, a3.trans b3.symm, a4.trans b4.symm⟩
        · exfalso; omega
        · exfalso; omega
      · rcases y with ⟨d1, b1, b2, b3, b4⟩ | ⟨d1, d2, b0, b1, b2, b3, b4⟩ | ⟨d1, d2, d3, _⟩
        · exfalso; omega
        · exact ⟨by omega, a2.trans b2.symm, a3.trans b3.symm, a4.trans b4.symm⟩
        · exfalso; omega
      · rcases y with ⟨d1, b1, b2, b3, b4⟩ | ⟨d1, d2, b0, b1, b2, b3, b4⟩ | ⟨d1, d2, d3, o', h3, y⟩
        · exfalso; omega
        · exfalso; omega
        · have eo : o' = o := zl_RO_u h3 g3
          subst eo
          rcases x with ⟨c4, a1, a2, a3, a4⟩ | ⟨c4, c5, c0, a0, a1, a2, a3, a4⟩ <;> rcases y with ⟨d4, b1, b2, b3, b4⟩ | ⟨d4, d5, d0, b0, b1, b2, b3, b4⟩
          · exact ⟨by omega, a2.trans b2.symm, a3.trans b3.symm, a4.trans b4.symm⟩
          · exfalso; omega
          · exfalso; omega
          · exact ⟨by omega, a2.trans b2.symm, a3.trans b3.symm, a4.trans b4.symm⟩
theorem zk_UN_u {M n Z r1 N1 n1 r2 N2 n2 : Int} {P P' : zq_Ty} {h h' : zq_H} (k1 : zk_UN M n Z r1 N1 n1 P h) (k2 : zk_UN M n Z r2 N2 n2 P' h') : r1 = r2 ∧ N1 = N2 ∧ n1 = n2 := by
  rcases k1 with ⟨c1, a1, a2, a3⟩ | ⟨c1, a1, a2, a3⟩ <;> rcases k2 with ⟨d1, b1, b2, b3⟩ | ⟨d1, b1, b2, b3⟩
  · exact ⟨by omega, a2.trans b2.symm, by omega⟩
  · exfalso; omega
  · exfalso; omega
  · exact ⟨a1.trans b1.symm, a2.trans b2.symm, by omega⟩
