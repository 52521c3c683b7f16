/-! THE JOURNAL: taking back row by row stays within bounds. Rows: kind, one, other, moved; a hole may stand in them (a row behind it is one place further on); balances may be told at two places -/
theorem zg_cong {e e' : Int → Int × Int × Int × Int} : ∀ {n : Nat} {b b' : Int → Int} {d : Int}, (∀ j, 0 ≤ j → j < n → e' j = e j) → (∀ q, 0 ≤ q → q ≤ 5 → b' q = b q) → zg_un e n b d → zg_un e' n b' d
  | 0, _, _, _, _, _, _ => trivial
  | n + 1, b, b', d, he, hb, h => by
    unfold zg_un at h ⊢
    rw [he n (by omega) (by omega)]
    have he' : ∀ j, 0 ≤ j → j < n → e' j = e j := fun j x y => he j x (by omega)
    rcases h with ⟨h1, h2, h3, h4, h5, h6⟩ | ⟨h1, h2, h3⟩ | ⟨h1, h2, h3, h4, h5, h6, hz, h7, h8, h9⟩
    · exact Or.inl ⟨h1, h2, h3, h4, h5, zg_cong he' hb h6⟩
    · exact Or.inr (Or.inl ⟨h1, h2, zg_cong he' hb h3⟩)
    · have mv : ∀ q, 0 ≤ q → q ≤ 5 → zg_mv b' (e n).2.1 (e n).2.2.1 (e n).2.2.2 q = zg_mv b (e n).2.1 (e n).2.2.1 (e n).2.2.2 q := fun q x y => by unfold zg_mv; rw [hb q x y]
      exact Or.inr (Or.inr ⟨h1, h2, h3, h4, h5, h6, hz, by rw [mv _ h3 h4]; exact h7, by rw [mv _ h5 h6]; exact h8, zg_cong he' mv h9⟩)
/-- the oldest row away -/
theorem zg_drop {e : Int → Int × Int × Int × Int} : ∀ {n : Nat} {b : Int → Int} {d : Int}, zg_un e (n + 1) b d → zg_un (fun j => e (j + 1)) n b d
  | 0, _, _, _ => trivial
  | n + 1, b, d, h => by
    have h : zg_un e (n + 1 + 1) b d := h
    unfold zg_un at h
    show ((e ((n : Int) + 1)).1 = 2 ∧ _) ∨ _
    have en : (((n + 1 : Nat)) : Int) = (n : Int) + 1 := by omega
    rw [en] at h
    rcases h with ⟨h1, h2, h3, h4, h5, h6⟩ | ⟨h1, h2, h3⟩ | ⟨h1, h2, h3, h4, h5, h6, hz, h7, h8, h9⟩
    · exact Or.inl ⟨h1, h2, h3, h4, h5, zg_drop h6⟩
    · exact Or.inr (Or.inl ⟨h1, h2, zg_drop h3⟩)
    · exact Or.inr (Or.inr ⟨h1, h2, h3, h4, h5, h6, hz, h7, h8, zg_drop h9⟩)
theorem zg_J_fx {k0 k1 k2 k3 k4 : Nat} {P P' : zq_Ty} {h h' : zq_H} {r : Nat → Int} (hP : zq_le P P') (h0 : ∀ j, 0 ≤ j → j ≤ r 5 → j ≠ r 6 → P (r 0).toNat = some k0 → h' (r 0).toNat j = h (r 0).toNat j) (h1 : ∀ j, 0 ≤ j → j ≤ r 5 → j ≠ r 6 → P (r 1).toNat = some k1 → h' (r 1).toNat j = h (r 1).toNat j) (h2 : ∀ j, 0 ≤ j → j ≤ r 5 → j ≠ r 6 → P (r 2).toNat = some k2 → h' (r 2).toNat j = h (r 2).toNat j) (h3 : ∀ j, 0 ≤ j → j ≤ r 5 → j ≠ r 6 → P (r 3).toNat = some k3 → h' (r 3).toNat j = h (r 3).toNat j)
    (h4 : ∀ j, 0 ≤ j → j ≤ 5 → j ≠ r 8 → j ≠ r 10 → P (r 4).toNat = some k4 → h' (r 4).toNat j = h (r 4).toNat j) (ht : zg_J k0 k1 k2 k3 k4 r P h) : zg_J k0 k1 k2 k3 k4 r P' h' := by
  obtain ⟨⟨a0, b0⟩, ⟨a1, b1⟩, ⟨a2, b2⟩, ⟨a3, b3⟩, ⟨a4, b4⟩, a5, a6, a7, a8, a9, a10⟩ := ht
  refine ⟨⟨a0, hP _ _ b0⟩, ⟨a1, hP _ _ b1⟩, ⟨a2, hP _ _ b2⟩, ⟨a3, hP _ _ b3⟩, ⟨a4, hP _ _ b4⟩, a5, a6, a7, a8, a9, zg_cong (fun j x y => ?_) (fun q x y => ?_) a10⟩
  · have z : 0 ≤ zg_at (r 6) j ∧ zg_at (r 6) j ≤ r 5 ∧ zg_at (r 6) j ≠ r 6 := by
      unfold zg_at
      split <;> omega
    unfold zg_row
    rw [h0 _ z.1 z.2.1 z.2.2 b0, h1 _ z.1 z.2.1 z.2.2 b1, h2 _ z.1 z.2.1 z.2.2 b2, h3 _ z.1 z.2.1 z.2.2 b3]
  · unfold zg_ov
    by_cases c1 : q = r 8
    · rw [if_pos c1, if_pos c1]
    · rw [if_neg c1, if_neg c1]
      by_cases c2 : q = r 10
      · rw [if_pos c2, if_pos c2]
      · rw [if_neg c2, if_neg c2]
        exact h4 q x y c1 c2 b4
/-! facts; variables 0 .. 4 the arrays -/
noncomputable def zg_t (id : Nat) (n z d i x j y : zq_L) : Nat × List zq_L := (id, [zq_v 0, zq_v 1, zq_v 2, zq_v 3, zq_v 4, n, z, d, i, x, j, y])
section ZGF
variable {w : zq_Wd} {id k0 k1 k2 k3 k4 : Nat} {r : Nat → Int} {P : zq_Ty} {h : zq_H}
theorem zg_mk (hX : zj_is w id (zg_J k0 k1 k2 k3 k4)) {n z d i x j y : zq_L} (b : (0 ≤ r 0 ∧ P (r 0).toNat = some k0) ∧ (0 ≤ r 1 ∧ P (r 1).toNat = some k1) ∧ (0 ≤ r 2 ∧ P (r 2).toNat = some k2) ∧ (0 ≤ r 3 ∧ P (r 3).toNat = some k3) ∧ (0 ≤ r 4 ∧ P (r 4).toNat = some k4)) (a5 : 0 ≤ zq_ev r n) (a6 : zq_ev r n ≤ 16) (a7 : 0 ≤ zq_ev r z) (a8 : zq_ev r z ≤ zq_ev r n) (a9 : zq_ev r i < zq_ev r j)
    (a10 : zg_un (zg_row (h (r 0).toNat) (h (r 1).toNat) (h (r 2).toNat) (h (r 3).toNat) (zq_ev r z)) (zq_ev r n).toNat (zg_ov (h (r 4).toNat) (zq_ev r i) (zq_ev r x) (zq_ev r j) (zq_ev r y)) (zq_ev r d)) : ∀ q ∈ [zg_t id n z d i x j y], w.2.2.2.2 q.1 (q.2.map (zq_ev r)) P h := by
  refine zq_fa1 ((hX _ _ _).mpr ?_)
  show zg_J k0 k1 k2 k3 k4 (zq_en [zq_ev r (zq_v 0), zq_ev r (zq_v 1), zq_ev r (zq_v 2), zq_ev r (zq_v 3), zq_ev r (zq_v 4), zq_ev r n, zq_ev r z, zq_ev r d, zq_ev r i, zq_ev r x, zq_ev r j, zq_ev r y]) P h
  rw [zq_ev_v, zq_ev_v, zq_ev_v, zq_ev_v, zq_ev_v]
  exact ⟨b.1, b.2.1, b.2.2.1, b.2.2.2.1, b.2.2.2.2, a5, a6, a7, a8, a9, a10⟩
theorem zg_use (hX : zj_is w id (zg_J k0 k1 k2 k3 k4)) {m : Nat} {n z d i x j y : zq_L} {l : List (Nat × List zq_L)} (hk : zq_okX w r P h m (zg_t id n z d i x j y :: l)) : ((0 ≤ r 0 ∧ P (r 0).toNat = some k0) ∧ (0 ≤ r 1 ∧ P (r 1).toNat = some k1) ∧ (0 ≤ r 2 ∧ P (r 2).toNat = some k2) ∧ (0 ≤ r 3 ∧ P (r 3).toNat = some k3) ∧ (0 ≤ r 4 ∧ P (r 4).toNat = some k4)) ∧ 0 ≤ zq_ev r n ∧ zq_ev r n ≤ 16 ∧ 0 ≤ zq_ev r z ∧ zq_ev r z ≤ zq_ev r n ∧ zq_ev r i < zq_ev r j ∧
    zg_un (zg_row (h (r 0).toNat) (h (r 1).toNat) (h (r 2).toNat) (h (r 3).toNat) (zq_ev r z)) (zq_ev r n).toNat (zg_ov (h (r 4).toNat) (zq_ev r i) (zq_ev r x) (zq_ev r j) (zq_ev r y)) (zq_ev r d) := by
  have k : zg_J k0 k1 k2 k3 k4 (zq_en [zq_ev r (zq_v 0), zq_ev r (zq_v 1), zq_ev r (zq_v 2), zq_ev r (zq_v 3), zq_ev r (zq_v 4), zq_ev r n, zq_ev r z, zq_ev r d, zq_ev r i, zq_ev r x, zq_ev r j, zq_ev r y]) P h := zj_use hX hk
  rw [zq_ev_v, zq_ev_v, zq_ev_v, zq_ev_v, zq_ev_v] at k
  obtain ⟨q0, q1, q2, q3, q4, q5, q6, q7, q8, q9, q10⟩ := k
  exact ⟨⟨q0, q1, q2, q3, q4⟩, q5, q6, q7, q8, q9, q10⟩
end ZGF
/-- no row -/
noncomputable def zg_0 (id k0 k1 k2 k3 k4 : Nat) : zq_S × List zq_S := (([], [], [zq_v 0, zq_v 1, zq_v 2, zq_v 3, zq_v 4], [(zq_v 0, k0), (zq_v 1, k1), (zq_v 2, k2), (zq_v 3, k3), (zq_v 4, k4)], [], [], [], 6), [([], [], [], [], [], [], [zg_t id (zq_k 0) (zq_k 0) (zq_v 5) (zq_k 6) (zq_k 0) (zq_k 7) (zq_k 0)], 6)])
theorem zg_0_ok {w : zq_Wd} {id k0 k1 k2 k3 k4 : Nat} (hX : zj_is w id (zg_J k0 k1 k2 k3 k4)) : zq_okG1 w (zg_0 id k0 k1 k2 k3 k4) := by
  refine ⟨rfl, rfl, zq_fa1 ⟨rfl, Nat.le_refl _⟩, ?_⟩
  intro r P h H hM
  obtain ⟨hT, hC, hF, -, -, -⟩ := hM
  have c := hC.1
  have a0 := zq_all_1 c
  have c := zq_all_t c
  have a1 := zq_all_1 c
  have c := zq_all_t c
  have a2 := zq_all_1 c
  have c := zq_all_t c
  have a3 := zq_all_1 c
  have c := zq_all_t c
  have a4 := zq_all_1 c
  have b0 := zq_okF_1 hF a0
  have hF := zq_okF_t hF
  have b1 := zq_okF_1 hF a1
  have hF := zq_okF_t hF
  have b2 := zq_okF_1 hF a2
  have hF := zq_okF_t hF
  have b3 := zq_okF_1 hF a3
  have hF := zq_okF_t hF
  have b4 := zq_okF_1 hF a4
  simp only [zq_ev_v] at a0 a1 a2 a3 a4 b0 b1 b2 b3 b4
  refine ⟨_, List.mem_singleton.mpr rfl, r, fun _ _ => rfl, zq_MeS_mk rfl hT zq_all_nil zq_fan zq_fan rfl (zg_mk hX ⟨⟨a0, b0⟩, ⟨a1, b1⟩, ⟨a2, b2⟩, ⟨a3, b3⟩, ⟨a4, b4⟩⟩ ?_ ?_ ?_ ?_ ?_ ?_)⟩ <;> simp only [zq_ev_k]
  · exact Int.le_refl _
  · omega
  · exact Int.le_refl _
  · exact Int.le_refl _
  · omega
  · exact trivial
