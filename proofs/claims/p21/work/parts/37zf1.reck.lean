/-! THE CLASS'S RECKONER: runs of code over a stack in memory -/
noncomputable def zr_st (f : Int → Int) : Nat → List Int
  | 0 => []
  | k + 1 => f (k : Int) :: zr_st f k
theorem zr_st_len (f : Int → Int) : ∀ k, (zr_st f k).length = k
  | 0 => rfl
  | k + 1 => by show (zr_st f k).length + 1 = k + 1; rw [zr_st_len f k]
theorem zr_st_cg {f f' : Int → Int} : ∀ k : Nat, (∀ j : Int, 0 ≤ j → j < k → f' j = f j) → zr_st f' k = zr_st f k
  | 0, _ => rfl
  | k + 1, h => by
    show f' (k : Int) :: zr_st f' k = f (k : Int) :: zr_st f k
    rw [h (k : Int) (by omega) (by omega), zr_st_cg k (fun j x y => h j x (by omega))]
theorem zr_st_last (f : Int → Int) (d : Int) : ∀ k : Nat, (zr_st f (k + 1)).getLastD d = f 0
  | 0 => rfl
  | k + 1 => by
    show (f ((k + 1 : Nat) : Int) :: zr_st f (k + 1)).getLastD d = f 0
    rw [List.getLastD_cons]
    exact zr_st_last f _ k
theorem zr_st_1 {f : Int → Int} {t : Int} (h : 0 ≤ t) : zr_st f (t + 1).toNat = f t :: zr_st f t.toNat := by
  rw [show (t + 1).toNat = t.toNat + 1 by omega]
  show f (t.toNat : Int) :: zr_st f t.toNat = _
  rw [show ((t.toNat : Nat) : Int) = t by omega]
/-- words, as far as they are asked for -/
noncomputable def zr_cw (f : Int → Int) (j : Int) : Int := if 0 ≤ j ∧ j < 22 then f j else 0
theorem zr_cw_cg {f f' : Int → Int} (h : ∀ j, 0 ≤ j → j < 22 → f' j = f j) : zr_cw f' = zr_cw f := by
  funext j
  unfold zr_cw
  split
  · rename_i q; exact h j q.1 q.2
  · rfl
theorem zr_cw_in {f : Int → Int} {j : Int} (h0 : 0 ≤ j) (h1 : j < 22) : zr_cw f j = f j := by unfold zr_cw; rw [if_pos ⟨h0, h1⟩]
noncomputable def zr_run (Y : Int) (cw : Int → Int) (z : Int) (f : Nat) (q : Int) (st : List Int) : Option Int := zc_run (zn_dg Y) cw z f q st
/-- the run from the start is the run from here -/
noncomputable def zr_R (Y : Int) (cw : Int → Int) (z s i q : Int) (st : List Int) : Prop := 0 ≤ i ∧ i ≤ 448 ∧ zr_run Y cw z 448 s [] = zr_run Y cw z (448 - i).toNat q st
section ZRR
variable {Y z s i q c : Int} {cw : Int → Int} {st : List Int}
theorem zr_R_0 : zr_R Y cw z s 0 s [] := ⟨by omega, by omega, rfl⟩
theorem zr_R_go {q' : Int} {st' : List Int} (h : zr_R Y cw z s i q st) (hi : i ≤ 447) (hs : ∀ R, zc_s (zn_dg Y) cw z R q st = R q' st') : zr_R Y cw z s (i + 1) q' st' := by
  obtain ⟨h1, h2, h3⟩ := h
  refine ⟨by omega, by omega, ?_⟩
  rw [h3, show (448 - i).toNat = (448 - (i + 1)).toNat + 1 by omega]
  exact hs _
theorem zr_R_none (h : zr_R Y cw z s i q st) (hs : i ≤ 447 → ∀ R, zc_s (zn_dg Y) cw z R q st = none) : zr_run Y cw z 448 s [] = none := by
  obtain ⟨h1, h2, h3⟩ := h
  rw [h3]
  by_cases e : i = 448
  · rw [e]; rfl
  · rw [show (448 - i).toNat = (448 - (i + 1)).toNat + 1 by omega]
    exact hs (by omega) _
theorem zr_R_some {x : Int} (h : zr_R Y cw z s i q st) (hi : i ≤ 447) (hs : ∀ R, zc_s (zn_dg Y) cw z R q st = some x) : zr_run Y cw z 448 s [] = some x := by
  obtain ⟨h1, h2, h3⟩ := h
  rw [h3, show (448 - i).toNat = (448 - (i + 1)).toNat + 1 by omega]
  exact hs _
/-! a step -/
theorem zr_s_end {R : Int → List Int → Option Int} (h : q < 0 ∨ z ≤ q) : zc_s (zn_dg Y) cw z R q st = none := by unfold zc_s; rw [if_pos h]
theorem zr_s_num {R : Int → List Int → Option Int} {x : Int} (h0 : 0 ≤ q) (h1 : q < z) (hc : zn_dg Y q = 1 + 16 * x) (hl : st.length < 32) : zc_s (zn_dg Y) cw z R q st = R (q + 1) (x :: st) := by
  unfold zc_s
  rw [if_neg (by omega), if_pos (by omega), if_neg (by omega), show zn_dg Y q / 16 = x by omega]
theorem zr_s_numf {R : Int → List Int → Option Int} {x : Int} (h0 : 0 ≤ q) (h1 : q < z) (hc : zn_dg Y q = 1 + 16 * x) (hl : 32 ≤ st.length) : zc_s (zn_dg Y) cw z R q st = none := by
  unfold zc_s
  rw [if_neg (by omega), if_pos (by omega), if_pos hl]
theorem zr_s_word {R : Int → List Int → Option Int} {x : Int} (h0 : 0 ≤ q) (h1 : q < z) (hc : zn_dg Y q = 2 + 16 * x) (hl : st.length < 32) (hx : x < 22) : zc_s (zn_dg Y) cw z R q st = R (q + 1) (cw x :: st) := by
  unfold zc_s
  rw [if_neg (by omega), if_neg (by omega), if_pos (by omega), if_neg (by omega), show zn_dg Y q / 16 = x by omega]
theorem zr_s_wordf {R : Int → List Int → Option Int} {x : Int} (h0 : 0 ≤ q) (h1 : q < z) (hc : zn_dg Y q = 2 + 16 * x) (hl : 32 ≤ st.length ∨ 22 ≤ x) : zc_s (zn_dg Y) cw z R q st = none := by
  unfold zc_s
  rw [if_neg (by omega), if_neg (by omega), if_pos (by omega), if_pos (by omega)]
theorem zr_s_nil {R : Int → List Int → Option Int} {op x : Int} (h0 : 0 ≤ q) (h1 : q < z) (hc : zn_dg Y q = op + 16 * x) (ho : op = 0 ∨ 3 ≤ op) (ho2 : op ≤ 15) : zc_s (zn_dg Y) cw z R q [] = none := by
  unfold zc_s
  rw [if_neg (by omega), if_neg (by omega), if_neg (by omega)]
  all_goals rfl
theorem zr_s_stop {R : Int → List Int → Option Int} {x t : Int} (h0 : 0 ≤ q) (h1 : q < z) (hc : zn_dg Y q = 0 + 16 * x) : zc_s (zn_dg Y) cw z R q (t :: st) = some ((t :: st).getLastD 0) := by
  unfold zc_s
  rw [if_neg (by omega), if_neg (by omega), if_neg (by omega)]
  simp only
  rw [if_pos (by omega)]
theorem zr_s_turn {R : Int → List Int → Option Int} {x t : Int} (h0 : 0 ≤ q) (h1 : q < z) (hc : zn_dg Y q = 3 + 16 * x) : zc_s (zn_dg Y) cw z R q (t :: st) = R (q + 1) (zc_tn t :: st) := by
  unfold zc_s
  rw [if_neg (by omega), if_neg (by omega), if_neg (by omega)]
  simp only
  rw [if_neg (by omega), if_pos (by omega)]
theorem zr_s_j4 {R : Int → List Int → Option Int} {x t : Int} (h0 : 0 ≤ q) (h1 : q < z) (hc : zn_dg Y q = 4 + 16 * x) : zc_s (zn_dg Y) cw z R q (t :: st) = if t = 0 then R x (t :: st) else R (q + 1) st := by
  unfold zc_s
  rw [if_neg (by omega), if_neg (by omega), if_neg (by omega)]
  simp only
  rw [if_neg (by omega), if_neg (by omega), if_pos (by omega), show zn_dg Y q / 16 = x by omega]
theorem zr_s_j5 {R : Int → List Int → Option Int} {x t : Int} (h0 : 0 ≤ q) (h1 : q < z) (hc : zn_dg Y q = 5 + 16 * x) : zc_s (zn_dg Y) cw z R q (t :: st) = if t = 1 then R x (t :: st) else R (q + 1) st := by
  unfold zc_s
  rw [if_neg (by omega), if_neg (by omega), if_neg (by omega)]
  simp only
  rw [if_neg (by omega), if_neg (by omega), if_neg (by omega), if_pos (by omega), show zn_dg Y q / 16 = x by omega]
theorem zr_s_one {R : Int → List Int → Option Int} {op x t : Int} (h0 : 0 ≤ q) (h1 : q < z) (hc : zn_dg Y q = op + 16 * x) (ho : 6 ≤ op) (ho2 : op ≤ 15) : zc_s (zn_dg Y) cw z R q [t] = none := by
  unfold zc_s
  rw [if_neg (by omega), if_neg (by omega), if_neg (by omega)]
  simp only
  rw [if_neg (by omega), if_neg (by omega), if_neg (by omega), if_neg (by omega)]
  all_goals rfl
theorem zr_s_two {R : Int → List Int → Option Int} {op x t a : Int} (h0 : 0 ≤ q) (h1 : q < z) (hc : zn_dg Y q = op + 16 * x) (ho : 6 ≤ op) (ho2 : op ≤ 15) : zc_s (zn_dg Y) cw z R q (t :: a :: st) = bif ze_out (zc_jn op a t) then none else R (q + 1) (zc_jn op a t :: st) := by
  unfold zc_s
  rw [if_neg (by omega), if_neg (by omega), if_neg (by omega)]
  simp only
  rw [if_neg (by omega), if_neg (by omega), if_neg (by omega), if_neg (by omega), show zn_dg Y q % 16 = op by omega]
end ZRR
/-! tokens -/
noncomputable def zr_KS (a v Y z s i q t : Int) (P : zq_Ty) (h : zq_H) : Prop := zn_on a 103 P ∧ 0 ≤ t ∧ t ≤ 32 ∧ zn_on v 102 P ∧ zr_R Y (zr_cw (h v.toNat)) z s i q (zr_st (h a.toNat) t.toNat)
noncomputable def zr_KH (a v Y z s i q t x : Int) (P : zq_Ty) (h : zq_H) : Prop := zn_on a 103 P ∧ 0 ≤ t ∧ t ≤ 31 ∧ zn_on v 102 P ∧ zr_R Y (zr_cw (h v.toNat)) z s i q (x :: zr_st (h a.toNat) t.toNat)
noncomputable def zr_KG (a v Y z s i q t x y : Int) (P : zq_Ty) (h : zq_H) : Prop := zn_on a 103 P ∧ 0 ≤ t ∧ t ≤ 30 ∧ zn_on v 102 P ∧ zr_R Y (zr_cw (h v.toNat)) z s i q (y :: x :: zr_st (h a.toNat) t.toNat)
noncomputable def zr_RK (v Y z s b r : Int) (P : zq_Ty) (h : zq_H) : Prop := zn_on v 102 P ∧ zr_run Y (zr_cw (h v.toNat)) z 448 s [] = if b = 1 then none else some r
noncomputable def zr_JN (op x y v : Int) (_ : zq_Ty) (_ : zq_H) : Prop := v = zc_jn op x y
noncomputable def zr_CO (k : Nat) (a z Y : Int) (P : zq_Ty) (h : zq_H) : Prop := zn_on a k P ∧ (0 ≤ z ∧ z ≤ 448) ∧ ∀ j, 0 ≤ j → j < z → h a.toNat j = zn_dg Y j
/-- whether the "if" at e is so (1) or not (0); behind it p -/
noncomputable def zr_IS (o g n W e p v : Int) (_ : zq_Ty) (_ : zq_H) : Prop :=
  (v = 1 ∧ ((ze_c g n e ≠ 4 ∧ p = e + 1) ∨ (ze_c g n e = 4 ∧ ∃ y, ze_V (ze_c g n) (ze_v g n) (ze_w o W) 10 0 true false (e + 1) 1 false y ∧ p = y + 1))) ∨
  (v = 0 ∧ ze_c g n e = 4 ∧ ∃ t b y, ze_V (ze_c g n) (ze_v g n) (ze_w o W) 10 0 true false (e + 1) t b y ∧ ¬ (t = 1 ∧ b = false) ∧ p = y + 1)
/-- a text, walked clause by clause: clause c begins at the token p -/
noncomputable def zr_XP (kk kt ks kc : Nat) (ak at' as' ac o g n m z Y c p : Int) (P : zq_Ty) (h : zq_H) : Prop := zn_on ak kk P ∧ zn_on at' kt P ∧ zn_on as' ks P ∧ zn_on ac kc P ∧ 0 ≤ c ∧ c ≤ m ∧ m ≤ 12 ∧ 0 ≤ z ∧ z ≤ 448 ∧ (∀ j, 0 ≤ j → j < z → h ac.toNat j = zn_dg Y j) ∧ ∃ ps : Int → Int, ps 0 = 0 ∧ ps m = ze_L g n + 1 ∧ ps c = p ∧ ∀ i, 0 ≤ i → i < m → zd_C o g n Y z (h ak.toNat i) (h at'.toNat i) (h as'.toNat (4 * i)) (h as'.toNat (4 * i + 1)) (h as'.toNat (4 * i + 2)) (h as'.toNat (4 * i + 3)) (ps i) (ps (i + 1))
/-- what a law has said so far: who answers, what is owed, is it barred -/
noncomputable def zr_o1 (b x : Int) : Int := if b = -4000000000 then x else if b < 0 then 0 else if 99 < b then 99 else b
noncomputable def zr_HS (g n W w m x p A O B : Int) (P : zq_Ty) (h : zq_H) : Prop := ∃ a1 a2 a3, zl_LW 1 g n W a1 p P h ∧ zl_LW 2 g n W a2 p P h ∧ zl_LW 3 g n W a3 p P h ∧ A = zl_w1 a1 w m ∧ O = zr_o1 a2 x ∧ ((a3 = -4000000000 ∧ B = 0) ∨ (a3 ≠ -4000000000 ∧ B = 1))
/-- what a law says in the end -/
noncomputable def zr_GW (g n W w m r : Int) (P : zq_Ty) (h : zq_H) : Prop := (∃ a, zl_TE 3 g n W a P h ∧ a ≠ -4000000000 ∧ r = 7) ∨ (zl_TE 3 g n W (-4000000000) P h ∧ ∃ b, zl_TE 1 g n W b P h ∧ r = zl_w1 b w m)
noncomputable def zr_GO (g n W x r : Int) (P : zq_Ty) (h : zq_H) : Prop := ∃ b, zl_TE 2 g n W b P h ∧ r = zr_o1 b x
section ZRFX
variable {P P' : zq_Ty} {h h' : zq_H}
theorem zr_KS_fx {a v Y z s i q t : Int} (hP : zq_le P P') (h1 : ∀ j, 0 ≤ j → j < t → P a.toNat = some 103 → h' a.toNat j = h a.toNat j) (h2 : ∀ j, 0 ≤ j → j ≤ 21 → P v.toNat = some 102 → h' v.toNat j = h v.toNat j) (w : zr_KS a v Y z s i q t P h) : zr_KS a v Y z s i q t P' h' := by
  obtain ⟨w1, w2, w3, w5, w4⟩ := w
  exact ⟨zn_on_le hP w1, w2, w3, zn_on_le hP w5, by rw [zr_st_cg t.toNat (fun j x y => h1 j x (by omega) w1.2), zr_cw_cg (fun j x y => h2 j x (by omega) w5.2)]; exact w4⟩
theorem zr_KH_fx {a v Y z s i q t x : Int} (hP : zq_le P P') (h1 : ∀ j, 0 ≤ j → j < t → P a.toNat = some 103 → h' a.toNat j = h a.toNat j) (h2 : ∀ j, 0 ≤ j → j ≤ 21 → P v.toNat = some 102 → h' v.toNat j = h v.toNat j) (w : zr_KH a v Y z s i q t x P h) : zr_KH a v Y z s i q t x P' h' := by
  obtain ⟨w1, w2, w3, w5, w4⟩ := w
  exact ⟨zn_on_le hP w1, w2, w3, zn_on_le hP w5, by rw [zr_st_cg t.toNat (fun j x y => h1 j x (by omega) w1.2), zr_cw_cg (fun j x y => h2 j x (by omega) w5.2)]; exact w4⟩
theorem zr_KG_fx {a v Y z s i q t x y : Int} (hP : zq_le P P') (h1 : ∀ j, 0 ≤ j → j < t → P a.toNat = some 103 → h' a.toNat j = h a.toNat j) (h2 : ∀ j, 0 ≤ j → j ≤ 21 → P v.toNat = some 102 → h' v.toNat j = h v.toNat j) (w : zr_KG a v Y z s i q t x y P h) : zr_KG a v Y z s i q t x y P' h' := by
  obtain ⟨w1, w2, w3, w5, w4⟩ := w
  exact ⟨zn_on_le hP w1, w2, w3, zn_on_le hP w5, by rw [zr_st_cg t.toNat (fun j x y => h1 j x (by omega) w1.2), zr_cw_cg (fun j x y => h2 j x (by omega) w5.2)]; exact w4⟩
theorem zr_RK_fx {v Y z s b r : Int} (hP : zq_le P P') (h2 : ∀ j, 0 ≤ j → j ≤ 21 → P v.toNat = some 102 → h' v.toNat j = h v.toNat j) (w : zr_RK v Y z s b r P h) : zr_RK v Y z s b r P' h' := ⟨zn_on_le hP w.1, by rw [zr_cw_cg (fun j x y => h2 j x (by omega) w.1.2)]; exact w.2⟩
theorem zr_CO_fx {k : Nat} {a z Y : Int} (hP : zq_le P P') (h1 : ∀ j, 0 ≤ j → j < z → P a.toNat = some k → h' a.toNat j = h a.toNat j) (w : zr_CO k a z Y P h) : zr_CO k a z Y P' h' := ⟨zn_on_le hP w.1, w.2.1, fun j x y => (h1 j x y w.1.2).trans (w.2.2 j x y)⟩
theorem zr_XP_fx {kk kt ks kc : Nat} {ak at' as' ac o g n m z Y c p : Int} (hP : zq_le P P') (h1 : ∀ j, 0 ≤ j → j < m → P ak.toNat = some kk → h' ak.toNat j = h ak.toNat j) (h2 : ∀ j, 0 ≤ j → j < m → P at'.toNat = some kt → h' at'.toNat j = h at'.toNat j) (h3 : ∀ j, 0 ≤ j → j < 4 * m → P as'.toNat = some ks → h' as'.toNat j = h as'.toNat j) (h4 : ∀ j, 0 ≤ j → j < z → P ac.toNat = some kc → h' ac.toNat j = h ac.toNat j) (w : zr_XP kk kt ks kc ak at' as' ac o g n m z Y c p P h) : zr_XP kk kt ks kc ak at' as' ac o g n m z Y c p P' h' := by
  obtain ⟨a1, a2, a3, a4, b1, b2, b3, b4, b5, b6, ps, c1, c2, c3, c4⟩ := w
  refine ⟨zn_on_le hP a1, zn_on_le hP a2, zn_on_le hP a3, zn_on_le hP a4, b1, b2, b3, b4, b5, fun j x y => (h4 j x y a4.2).trans (b6 j x y), ps, c1, c2, c3, fun i x y => ?_⟩
  rw [h1 i x y a1.2, h2 i x y a2.2, h3 (4 * i) (by omega) (by omega) a3.2, h3 (4 * i + 1) (by omega) (by omega) a3.2, h3 (4 * i + 2) (by omega) (by omega) a3.2, h3 (4 * i + 3) (by omega) (by omega) a3.2]
  exact c4 i x y
end ZRFX
/-! sums and tests by what the reckoner answers -/
theorem zr_S_run {o g n Y z s i j W b r : Int} {cw : Int → Int} (h : zd_S o g n Y z s i j) (hz : z ≤ 448) (hw : zp_cw o W cw) (hr : zr_run Y cw z 448 s [] = if b = 1 then none else some r) : ∃ x d, ze_V (ze_c g n) (ze_v g n) (ze_w o W) 4 0 true false i x d j ∧ (b = 1 → d = true) ∧ (b ≠ 1 → d = false ∧ x = r) := by
  obtain ⟨t, h1, h2, h3⟩ := h
  obtain ⟨x, d, hV⟩ := zt_V (v := ze_v g n) (w := ze_w o W) h1.2.2.1 0 true false
  have e := zp_run h1 (by decide) h2 hV (code := zn_dg Y) (size := z) (fun q _ _ => rfl) (by omega) hz hw
  have e : (if b = 1 then none else some r) = if d = true then none else some x := hr.symm.trans e
  refine ⟨x, d, hV, fun hb => ?_, fun hb => ?_⟩
  · rw [if_pos hb] at e
    cases d with
    | true => rfl
    | false => rw [if_neg (by decide)] at e; cases e
  · rw [if_neg hb] at e
    cases d with
    | true => rw [if_pos rfl] at e; cases e
    | false => rw [if_neg (by decide)] at e; exact ⟨rfl, (Option.some.inj e).symm⟩
theorem zr_T_run {o g n Y z s i j W b r : Int} {cw : Int → Int} (h : zd_T o g n Y z s i j) (hz : z ≤ 448) (hw : zp_cw o W cw) (hr : zr_run Y cw z 448 s [] = if b = 1 then none else some r) : ∃ x d, ze_V (ze_c g n) (ze_v g n) (ze_w o W) 10 0 true false i x d j ∧ (b = 1 → d = true) ∧ (b ≠ 1 → d = false ∧ x = r) := by
  obtain ⟨t, h1, h2, h3⟩ := h
  obtain ⟨x, d, hV⟩ := zt_V (v := ze_v g n) (w := ze_w o W) h1.1.2.2.1 0 true false
  have e := zp_run h1.1 (by decide) h2 hV (code := zn_dg Y) (size := z) (fun q _ _ => rfl) (by omega) hz hw
  have e : (if b = 1 then none else some r) = if d = true then none else some x := hr.symm.trans e
  refine ⟨x, d, hV, fun hb => ?_, fun hb => ?_⟩
  · rw [if_pos hb] at e
    cases d with
    | true => rfl
    | false => rw [if_neg (by decide)] at e; cases e
  · rw [if_neg hb] at e
    cases d with
    | true => rw [if_pos rfl] at e; cases e
    | false => rw [if_neg (by decide)] at e; exact ⟨rfl, (Option.some.inj e).symm⟩
theorem zr_cw0 {a W : Int} {P : zq_Ty} {h : zq_H} (hw : ze_AW 102 a W P h) : zp_cw 0 W (zr_cw (h a.toNat)) := fun j hj => by
  rcases hj with ⟨-, h1, h2⟩ | ⟨h0, -⟩
  · rw [zr_cw_in h1 (by omega)]
    unfold zc_w
    rw [if_pos rfl]
    exact hw.2 j h1 h2
  · exact absurd h0 (by decide)
/-! rows of laws, walked -/
theorem zr_LW_go {k g n W a a' p p' : Int} {P : zq_Ty} {h : zq_H} (hl : zl_LW k g n W a p P h) (hs : ∀ r, zl_V (ze_c g n) (ze_v g n) (ze_w 0 W) (ze_L g n) k a' p' r → zl_V (ze_c g n) (ze_v g n) (ze_w 0 W) (ze_L g n) k a p r) : zl_LW k g n W a' p' P h := fun r hr => hl r (hs r hr)
theorem zr_in {g n p : Int} (hc : ze_c g n p ≠ 0) : p < ze_L g n := by
  rcases Int.lt_or_le p (ze_L g n) with x | x
  · exact x
  · exact absurd (ze_c_end x) hc
/-- a row that doesn't hold, or says nothing of k -/
theorem zr_row0 {Y z k t a b c e p p' g n W kk acc : Int} {P : zq_Ty} {h : zq_H} (hb : zd_B 0 g n Y z k t a b c p e) (hi : zr_IS 0 g n W e p' 0 P h) : ∀ r, zl_V (ze_c g n) (ze_v g n) (ze_w 0 W) (ze_L g n) kk acc p' r → zl_V (ze_c g n) (ze_v g n) (ze_w 0 W) (ze_L g n) kk acc p r := by
  intro r hr
  rcases hi with ⟨h0, -⟩ | ⟨-, h4, tt, bb, y, hv, hn, hp⟩
  · exact absurd h0 (by decide)
  rcases hb with ⟨-, -, ⟨-, h3, he⟩ | ⟨hk, hc, ha, t1, h5, -, -⟩⟩ | ⟨h0, -⟩
  · subst he; subst hp
    exact zl_nt (zr_in (by omega)) h3 h4 hv (by rw [if_neg (fun q => hn q.2)]; exact hr)
  · obtain ⟨x, d, hx⟩ := zt_V (v := ze_v g n) (w := ze_w 0 W) h5.2.2.1 0 true false
    subst hp
    exact zl_st (zr_in (by omega)) (by omega) hx h4 hv (by rw [if_neg (fun q => hn ⟨q.2.1, q.2.2.1⟩)]; exact hr)
  · exact absurd h0 (by decide)
/-- "bars" that holds -/
theorem zr_row3 {Y z k t a b c e p p' g n W kk acc : Int} {P : zq_Ty} {h : zq_H} (hb : zd_B 0 g n Y z k t a b c p e) (hk : k = 16) (hi : zr_IS 0 g n W e p' 1 P h) : ∀ r, zl_V (ze_c g n) (ze_v g n) (ze_w 0 W) (ze_L g n) kk (if 3 = kk then 1 else acc) p' r → zl_V (ze_c g n) (ze_v g n) (ze_w 0 W) (ze_L g n) kk acc p r := by
  intro r hr
  rcases hb with ⟨-, -, ⟨-, h3, he⟩ | ⟨hk2, -⟩⟩ | ⟨h0, -⟩
  · subst he
    rcases hi with ⟨-, ⟨h4, hp⟩ | ⟨h4, y, hv, hp⟩⟩ | ⟨h0, -⟩
    · subst hp; exact zl_n (zr_in (by omega)) h3 h4 hr
    · subst hp
      refine zl_nt (zr_in (by omega)) h3 h4 hv ?_
      by_cases q : (3 : Int) = kk
      · rw [if_pos ⟨q, rfl, rfl⟩]; rw [if_pos q] at hr; exact hr
      · rw [if_neg (fun z => q z.1)]; rw [if_neg q] at hr; exact hr
    · exact absurd h0 (by decide)
  · omega
  · exact absurd h0 (by decide)
/-- a row with a sum that holds -/
theorem zr_row1 {Y z k t a b c e p p' g n W kk acc bb v : Int} {cw : Int → Int} {P : zq_Ty} {h : zq_H} (hb : zd_B 0 g n Y z k t a b c p e) (hk : k = 14 ∨ k = 15) (hi : zr_IS 0 g n W e p' 1 P h) (hz : z ≤ 448) (hw : zp_cw 0 W cw) (hr : zr_run Y cw z 448 a [] = if bb = 1 then none else some v) : ∀ r, zl_V (ze_c g n) (ze_v g n) (ze_w 0 W) (ze_L g n) kk (if k - 13 = kk ∧ bb ≠ 1 then v else acc) p' r → zl_V (ze_c g n) (ze_v g n) (ze_w 0 W) (ze_L g n) kk acc p r := by
  intro r h9
  rcases hb with ⟨-, -, ⟨hk2, -⟩ | ⟨-, hc, ha, hS⟩⟩ | ⟨h0, -⟩
  · omega
  · obtain ⟨x, d, hx, y1, y2⟩ := zr_S_run hS hz hw hr
    have key : (if ze_c g n p = kk ∧ d = false then x else acc) = if k - 13 = kk ∧ bb ≠ 1 then v else acc := by
      by_cases q : bb = 1
      · rw [if_neg (fun w => by rw [y1 q] at w; exact absurd w.2 (by decide)), if_neg (fun w => w.2 q)]
      · obtain ⟨z1, z2⟩ := y2 q
        rw [hc, z1, z2]
        by_cases w : k - 13 = kk
        · rw [if_pos ⟨w, rfl⟩, if_pos ⟨w, q⟩]
        · rw [if_neg (fun u => w u.1), if_neg (fun u => w u.1)]
    rw [← key] at h9
    rcases hi with ⟨-, ⟨h4, hp⟩ | ⟨h4, y, hv, hp⟩⟩ | ⟨h0, -⟩
    · subst hp; exact zl_s0 (zr_in (by omega)) (by omega) hx h4 h9
    · subst hp
      refine zl_st (zr_in (by omega)) (by omega) hx h4 hv ?_
      by_cases w : ze_c g n p = kk ∧ d = false
      · rw [if_pos ⟨w.1, rfl, rfl, w.2⟩]; rw [if_pos w] at h9; exact h9
      · rw [if_neg (fun u => w ⟨u.1, u.2.2.2⟩)]; rw [if_neg w] at h9; exact h9
    · exact absurd h0 (by decide)
  · exact absurd h0 (by decide)
