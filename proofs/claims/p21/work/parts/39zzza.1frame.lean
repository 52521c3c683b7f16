/-! FRAMES: what tokens of the full state look at -/
section ZFFX
variable {P P' : zq_Ty} {h h' : zq_H}
theorem zm_MC_fx {k : Nat} {bl ck tm M : Int} (hP : zq_le P P') (h1 : ∀ j, 0 ≤ j → j < 6 → P bl.toNat = some (k + 1) → h' bl.toNat j = h bl.toNat j) (h2 : ∀ j, 0 ≤ j → j < 4 → P ck.toNat = some (k + 4) → h' ck.toNat j = h ck.toNat j) (h3 : ∀ j, 0 ≤ j → j < 1 → P tm.toNat = some (k + 7) → h' tm.toNat j = h tm.toNat j) (w : zm_MC k bl ck tm M P h) : zm_MC k bl ck tm M P' h' := by
  obtain ⟨a1, a2, a3, a4⟩ := w
  refine ⟨zn_on_le hP a1, zn_on_le hP a2, zn_on_le hP a3, zm_is_cg a4 (fun j x y => ?_)⟩
  unfold zm_f
  by_cases p : j < 6
  · rw [if_pos p, if_pos p]; exact h1 j x p a1.2
  · rw [if_neg p, if_neg p]
    by_cases q : j < 10
    · rw [if_pos q, if_pos q]; exact h2 (j - 6) (by omega) (by omega) a2.2
    · rw [if_neg q, if_neg q]; exact h3 0 (by omega) (by omega) a3.2
theorem zm_MH_fx {k : Nat} {bl ck tm M p : Int} (hP : zq_le P P') (h1 : ∀ j, 0 ≤ j → j < 6 → j ≠ p → P bl.toNat = some (k + 1) → h' bl.toNat j = h bl.toNat j) (h2 : ∀ j, 0 ≤ j → j < 4 → j + 6 ≠ p → P ck.toNat = some (k + 4) → h' ck.toNat j = h ck.toNat j) (h3 : ∀ j, 0 ≤ j → j < 1 → 10 ≠ p → P tm.toNat = some (k + 7) → h' tm.toNat j = h tm.toNat j) (w : zm_MH k bl ck tm M p P h) : zm_MH k bl ck tm M p P' h' := by
  obtain ⟨a1, a2, a3, a4⟩ := w
  refine ⟨zn_on_le hP a1, zn_on_le hP a2, zn_on_le hP a3, zm_ho_cg a4 (fun j x y z => ?_)⟩
  unfold zm_f
  by_cases r : j < 6
  · rw [if_pos r, if_pos r]; exact h1 j x r z a1.2
  · rw [if_neg r, if_neg r]
    by_cases q : j < 10
    · rw [if_pos q, if_pos q]; exact h2 (j - 6) (by omega) (by omega) (by omega) a2.2
    · rw [if_neg q, if_neg q]; exact h3 0 (by omega) (by omega) (by omega) a3.2
theorem zm_MK_fx {k : Nat} {o a M : Int} (hP : zq_le P P') (h1 : ∀ j, o ≤ j → j < o + 11 → P a.toNat = some k → h' a.toNat j = h a.toNat j) (w : zm_MK k o a M P h) : zm_MK k o a M P' h' := by
  obtain ⟨a1, a2⟩ := w
  exact ⟨zn_on_le hP a1, zm_is_cg a2 (fun j x y => h1 (o + j) (by omega) (by omega) a1.2)⟩
theorem zm_KH_fx {a M p : Int} (hP : zq_le P P') (h1 : ∀ j, 0 ≤ j → j < 11 → j ≠ p → P a.toNat = some 1 → h' a.toNat j = h a.toNat j) (w : zm_KH a M p P h) : zm_KH a M p P' h' := by
  obtain ⟨a1, a2⟩ := w
  exact ⟨zn_on_le hP a1, zm_ho_cg a2 (fun j x y z => h1 j x y z a1.2)⟩
theorem zk_E_cg {k o t m k' o' t' m' : Int → Int} {Z n M q e : Int} (hk : k' q = k q) (ho : o' q = o q) (ht : t' q = t q) (hm : m' q = m q) (w : zk_E k o t m Z n M q e) : zk_E k' o' t' m' Z n M q e := by
  unfold zk_E at w ⊢
  rw [hk, ho, ht, hm]; exact w
theorem zk_ZC_fx {b : Nat} {jk jo jt jm n M Z : Int} (hP : zq_le P P') (h1 : ∀ j, 0 ≤ j → j < n → P jk.toNat = some (b + 9) → h' jk.toNat j = h jk.toNat j) (h2 : ∀ j, 0 ≤ j → j < n → P jo.toNat = some (b + 10) → h' jo.toNat j = h jo.toNat j) (h3 : ∀ j, 0 ≤ j → j < n → P jt.toNat = some (b + 11) → h' jt.toNat j = h jt.toNat j) (h4 : ∀ j, 0 ≤ j → j < n → P jm.toNat = some (b + 12) → h' jm.toNat j = h jm.toNat j) (w : zk_ZC b jk jo jt jm n M Z P h) : zk_ZC b jk jo jt jm n M Z P' h' := by
  obtain ⟨a1, a2, a3, a4, a5, a6, a7⟩ := w
  exact ⟨zn_on_le hP a1, zn_on_le hP a2, zn_on_le hP a3, zn_on_le hP a4, a5, a6, fun i x y => zk_E_cg (h1 i x y a1.2) (h2 i x y a2.2) (h3 i x y a3.2) (h4 i x y a4.2) (a7 i x y)⟩
theorem zk_SH_fx {b : Nat} {jk jo jt jm M Z l u : Int} (hP : zq_le P P') (h1 : ∀ j, 0 ≤ j → j < 16 → (j < l ∨ u ≤ j) → P jk.toNat = some (b + 9) → h' jk.toNat j = h jk.toNat j) (h2 : ∀ j, 0 ≤ j → j < 16 → (j < l ∨ u ≤ j) → P jo.toNat = some (b + 10) → h' jo.toNat j = h jo.toNat j) (h3 : ∀ j, 0 ≤ j → j < 16 → (j < l ∨ u ≤ j) → P jt.toNat = some (b + 11) → h' jt.toNat j = h jt.toNat j) (h4 : ∀ j, 0 ≤ j → j < 16 → (j < l ∨ u ≤ j) → P jm.toNat = some (b + 12) → h' jm.toNat j = h jm.toNat j) (w : zk_SH b jk jo jt jm M Z l u P h) : zk_SH b jk jo jt jm M Z l u P' h' := by
  obtain ⟨a1, a2, a3, a4, a5, a6, a7, a8, a9⟩ := w
  refine ⟨zn_on_le hP a1, zn_on_le hP a2, zn_on_le hP a3, zn_on_le hP a4, a5, a6, a7, fun q x y => ?_, fun q x y => ?_⟩
  · exact zk_E_cg (h1 q x (by omega) (Or.inl y) a1.2) (h2 q x (by omega) (Or.inl y) a2.2) (h3 q x (by omega) (Or.inl y) a3.2) (h4 q x (by omega) (Or.inl y) a4.2) (a8 q x y)
  · exact zk_E_cg (h1 q (by omega) y (Or.inr x) a1.2) (h2 q (by omega) y (Or.inr x) a2.2) (h3 q (by omega) y (Or.inr x) a3.2) (h4 q (by omega) y (Or.inr x) a4.2) (a9 q x y)
theorem zk_ZR_fx {k : Nat} {a n Z : Int} (hP : zq_le P P') (h1 : ∀ j, 0 ≤ j → j < 12 * n → n ≤ 16 → P a.toNat = some k → h' a.toNat j = h a.toNat j) (w : zk_ZR k a n Z P h) : zk_ZR k a n Z P' h' := by
  obtain ⟨a1, a2, a3, a4⟩ := w
  exact ⟨zn_on_le hP a1, a2, a3, fun j x y => (h1 j x y a3 a1.2).trans (a4 j x y)⟩
theorem zk_RS_fx {a Z l u : Int} (hP : zq_le P P') (h1 : ∀ j, 0 ≤ j → j < 192 → (j < l ∨ u ≤ j) → P a.toNat = some 12 → h' a.toNat j = h a.toNat j) (w : zk_RS a Z l u P h) : zk_RS a Z l u P' h' := by
  obtain ⟨a1, a2, a3, a4, a5, a6⟩ := w
  exact ⟨zn_on_le hP a1, a2, a3, a4, fun j x y => (h1 j x (by omega) (Or.inl y) a1.2).trans (a5 j x y), fun j x y => (h1 j (by omega) y (Or.inr x) a1.2).trans (a6 j x y)⟩
theorem zk_RF_fx {a n Z M l : Int} (hP : zq_le P P') (h1 : ∀ j, 0 ≤ j → j < 12 * n + l → j < 192 → P a.toNat = some 12 → h' a.toNat j = h a.toNat j) (w : zk_RF a n Z M l P h) : zk_RF a n Z M l P' h' := by
  obtain ⟨a1, a2, a3, a4, a5, a6, a7⟩ := w
  exact ⟨zn_on_le hP a1, a2, a3, a4, a5, fun j x y => (h1 j x (by omega) (by omega) a1.2).trans (a6 j x y), fun j x y => (h1 (12 * n + j) (by omega) (by omega) (by omega) a1.2).trans (a7 j x y)⟩
theorem zo_OW_fx {k : Nat} {a W : Int} (hP : zq_le P P') (h1 : ∀ j, 8 ≤ j → j < 22 → P a.toNat = some k → h' a.toNat j = h a.toNat j) (w : zo_OW k a W P h) : zo_OW k a W P' h' := ⟨zn_on_le hP w.1, fun j x y => (h1 j x y w.1.2).trans (w.2 j x y)⟩
theorem zo_WB_fx {a p M l : Int} (hP : zq_le P P') (h1 : ∀ j, 12 ≤ j → j < 12 + l → P a.toNat = some 102 → h' a.toNat j = h a.toNat j) (w : zo_WB a p M l P h) : zo_WB a p M l P' h' := ⟨zn_on_le hP w.1, w.2.1, fun j x y => (h1 (12 + j) (by omega) (by omega) w.1.2).trans (w.2.2 j x y)⟩
theorem zo_WC_fx {a M l : Int} (hP : zq_le P P') (h1 : ∀ j, 18 ≤ j → j < 18 + l → P a.toNat = some 102 → h' a.toNat j = h a.toNat j) (w : zo_WC a M l P h) : zo_WC a M l P' h' := ⟨zn_on_le hP w.1, w.2.1, fun j x y => (h1 (18 + j) (by omega) (by omega) w.1.2).trans (w.2.2 j x y)⟩
theorem zk_KF_fx {a N l : Int} (hP : zq_le P P') (h1 : ∀ j, 0 ≤ j → j < l → P a.toNat = some 1 → h' a.toNat j = h a.toNat j) (w : zk_KF a N l P h) : zk_KF a N l P' h' := ⟨zn_on_le hP w.1, w.2.1, fun j x y => (h1 j x y w.1.2).trans (w.2.2 j x y)⟩
theorem zk_AS_fx {a k N l : Int} (hP : zq_le P P') (h1 : ∀ j, 11 * k ≤ j → j < 11 * k + l → P a.toNat = some 4 → h' a.toNat j = h a.toNat j) (w : zk_AS a k N l P h) : zk_AS a k N l P' h' := ⟨zn_on_le hP w.1, w.2.1, w.2.2.1, w.2.2.2.1, fun j x y => (h1 (11 * k + j) (by omega) (by omega) w.1.2).trans (w.2.2.2.2 j x y)⟩
theorem zo_AS1_fx {a N : Int} (hP : zq_le P P') (h1 : ∀ j, 11 ≤ j → j < 22 → P a.toNat = some 4 → h' a.toNat j = h a.toNat j) (w : zo_AS1 a N P h) : zo_AS1 a N P' h' := zk_AS_fx hP (fun j x y z => h1 j (by omega) (by omega) z) w
theorem zo_CB_fx {n k k' : Nat} {a b l : Int} (hP : zq_le P P') (h1 : ∀ j, 0 ≤ j → j < l → P a.toNat = some k → h' a.toNat j = h a.toNat j) (h2 : ∀ j, 0 ≤ j → j < l → P b.toNat = some k' → h' b.toNat j = h b.toNat j) (w : zo_CB n k k' a b l P h) : zo_CB n k k' a b l P' h' := by
  obtain ⟨a1, a2, a3, a4⟩ := w
  exact ⟨zn_on_le hP a1, zn_on_le hP a2, a3, fun j x y => by rw [h1 j x y a1.2, h2 j x y a2.2]; exact a4 j x y⟩
theorem zm_E_fx {n kd ks : Nat} {a b : Int} (hP : zq_le P P') (h1 : ∀ j, 0 ≤ j → j < (n : Int) → P a.toNat = some kd → h' a.toNat j = h a.toNat j) (h2 : ∀ j, 0 ≤ j → j < (n : Int) → P b.toNat = some ks → h' b.toNat j = h b.toNat j) (w : zm_E n kd ks a b P h) : zm_E n kd ks a b P' h' := zj_EN_fx hP h1 h2 w
theorem zl_KT_fx {a T N : Int} (hP : zq_le P P') (h1 : ∀ j, 64 ≤ j → j < 64 + N → N ≤ 6 → P a.toNat = some 1 → h' a.toNat j = h a.toNat j) (h2 : ∀ j, 71 ≤ j → j < 71 + 400 * N → N ≤ 6 → P a.toNat = some 1 → h' a.toNat j = h a.toNat j) (h3 : ∀ j, 2871 ≤ j → j < 2871 + 400 * N → N ≤ 6 → P a.toNat = some 1 → h' a.toNat j = h a.toNat j) (z : zl_KT a T N P h) : zl_KT a T N P' h' := by
  obtain ⟨z1, z2, z3, z4⟩ := z
  refine ⟨zn_on_le hP z1, z2, fun f f0 f1 => ?_, z4⟩
  obtain ⟨w1, w2, w3, w4, w5⟩ := z3 f f0 f1
  have c := z4 f f0 f1
  have d : ((zu_TL (zT_g T f) (zT_n T f)).length : Int) ≤ 400 := by have := zu_TL_len (zT_g T f) (zT_n T f); omega
  rw [h1 (64 + f) (by omega) (by omega) z2 z1.2]
  refine ⟨zn_on_le hP w1, w2, w3, w4, fun j j0 j1 => ?_⟩
  rw [h2 (71 + (400 * f + j)) (by omega) (by omega) z2 z1.2, h3 (2871 + (400 * f + j)) (by omega) (by omega) z2 z1.2]
  exact w5 j j0 j1
theorem zt_LO_fr {a g n : Int} (hP : zq_le P P') (h0 : ∀ j, 0 ≤ j → j ≤ 5 → P a.toNat = some 29 → h' a.toNat j = h a.toNat j) (h1 : ∀ (b : Nat) (j : Int), 0 ≤ j → j ≤ 11 → P b = some 25 → h' b j = h b j) (h2 : ∀ (b : Nat) (j : Int), 0 ≤ j → j ≤ 11 → P b = some 26 → h' b j = h b j) (h3 : ∀ (b : Nat) (j : Int), 0 ≤ j → j ≤ 47 → P b = some 27 → h' b j = h b j) (h4 : ∀ (b : Nat) (j : Int), 0 ≤ j → j ≤ 447 → P b = some 28 → h' b j = h b j) (w : zt_LO a g n P h) : zt_LO a g n P' h' := by
  obtain ⟨w1, w2⟩ := w
  refine ⟨zn_on_le hP w1, ?_⟩
  rw [h0 0 (by omega) (by omega) w1.2, h0 1 (by omega) (by omega) w1.2, h0 2 (by omega) (by omega) w1.2, h0 3 (by omega) (by omega) w1.2, h0 4 (by omega) (by omega) w1.2, h0 5 (by omega) (by omega) w1.2]
  have m12 := w2.2.2.2.2.2.1
  have z448 := w2.2.2.2.2.2.2.2.1
  exact zd_TX_fx hP (fun j x y z => h1 _ j x (by omega) z) (fun j x y z => h2 _ j x (by omega) z) (fun j x y z => h3 _ j x (by omega) z) (fun j x y z => h4 _ j x (by omega) z) w2
theorem zt_LT_fr {k : Nat} {tx N T : Int} (hP : zq_le P P') (g2 : ∀ j, 0 ≤ j → j < N → N ≤ 6 → P tx.toNat = some (k + 8) → h' tx.toNat j = h tx.toNat j) (h0 : ∀ (a : Nat) (j : Int), 0 ≤ j → j ≤ 5 → P a = some 29 → h' a j = h a j) (h1 : ∀ (b : Nat) (j : Int), 0 ≤ j → j ≤ 11 → P b = some 25 → h' b j = h b j) (h2 : ∀ (b : Nat) (j : Int), 0 ≤ j → j ≤ 11 → P b = some 26 → h' b j = h b j) (h3 : ∀ (b : Nat) (j : Int), 0 ≤ j → j ≤ 47 → P b = some 27 → h' b j = h b j) (h4 : ∀ (b : Nat) (j : Int), 0 ≤ j → j ≤ 447 → P b = some 28 → h' b j = h b j) (w : zt_LT k tx N T P h) : zt_LT k tx N T P' h' := by
  obtain ⟨w1, w2, w3, w4⟩ := w
  refine ⟨zn_on_le hP w1, w2, w3, fun f x y => ?_⟩
  rw [g2 f x y w3 w1.2]
  exact zt_LO_fr hP (fun j x y z => h0 _ j x y z) h1 h2 h3 h4 (w4 f x y)
theorem zt_LTB_fr {k : Nat} {tx N T b : Int} (hP : zq_le P P') (g2 : ∀ j, 0 ≤ j → j < N → N ≤ 6 → P tx.toNat = some (k + 8) → h' tx.toNat j = h tx.toNat j) (h0 : ∀ (a : Nat) (j : Int), 0 ≤ j → j ≤ 5 → P a = some 29 → h' a j = h a j) (h1 : ∀ (b : Nat) (j : Int), 0 ≤ j → j ≤ 11 → P b = some 25 → h' b j = h b j) (h2 : ∀ (b : Nat) (j : Int), 0 ≤ j → j ≤ 11 → P b = some 26 → h' b j = h b j) (h3 : ∀ (b : Nat) (j : Int), 0 ≤ j → j ≤ 47 → P b = some 27 → h' b j = h b j) (h4 : ∀ (b : Nat) (j : Int), 0 ≤ j → j ≤ 447 → P b = some 28 → h' b j = h b j) (w : zt_LTB k tx N T b P h) : zt_LTB k tx N T b P' h' := by
  obtain ⟨w1, w2, w3⟩ := w
  have n6 := w1.2.2.1
  refine ⟨zt_LT_fr hP g2 h0 h1 h2 h3 h4 w1, w2, fun f f0 f1 => ?_⟩
  rw [g2 f f0 f1 n6 w1.1.2]
  refine ⟨(w3 f f0 f1).1, fun q q0 q1 => ?_⟩
  rw [h0 _ q q0 (by omega) (w1.2.2.2 f f0 f1).1.2]
  exact (w3 f f0 f1).2 q q0 q1
theorem zw_PA_fx {k : Nat} {a S m T f u M d w q l : Int} (hP : zq_le P P') (h1 : ∀ j, 0 ≤ j → j < l → P a.toNat = some k → h' a.toNat j = h a.toNat j) (z : zw_PA k a S m T f u M d w q l P h) : zw_PA k a S m T f u M d w q l P' h' := ⟨zn_on_le hP z.1, z.2.1, fun j x y => (h1 j x y z.1.2).trans (z.2.2 j x y)⟩
end ZFFX
