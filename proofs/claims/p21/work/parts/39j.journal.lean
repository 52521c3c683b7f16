/-- a row more, of one place -/
noncomputable def zg_p1 (id : Nat) : zq_S × List zq_S := (([], [], [zq_sub (zq_k 15) (zq_v 5), zq_v 11, zq_sub (zq_k 1) (zq_v 11), zq_v 7, zq_sub (zq_k 5) (zq_v 7), zq_addk (zq_v 8) 9999, zq_sub (zq_k 9999) (zq_v 8), zq_v 12, zq_sub (zq_k 0) (zq_v 12)], [], [(zq_v 0, zq_v 5, zq_v 11), (zq_v 1, zq_v 5, zq_v 7), (zq_v 2, zq_v 5, zq_v 7), (zq_v 3, zq_v 5, zq_v 12), (zq_v 4, zq_v 7, zq_v 8)], [], [zg_t id (zq_v 5) (zq_v 5) (zq_v 6) (zq_v 7) (zq_v 8) (zq_k 6) (zq_k 0)], 13), [([], [], [], [], [], [], [zg_n id (zq_addk (zq_v 5) 1) (zq_v 6)], 13)])
theorem zg_p1_ok {w : zq_Wd} {id k0 k1 k2 k3 k4 : Nat} (hX : zj_is w id (zg_J k0 k1 k2 k3 k4)) : zq_okG1 w (zg_p1 id) := by
  refine ⟨rfl, rfl, zq_fa1 ⟨rfl, Nat.le_refl _⟩, ?_⟩
  intro r P h H hM
  obtain ⟨hT, hC, -, hS, -, hK⟩ := hM
  obtain ⟨b, q5, q6, q7, q8, q9, q10⟩ := zg_use hX hK
  have c := hC.1
  have a1 := zq_all_1 c
  have c := zq_all_t c
  have a2 := zq_all_1 c
  have c := zq_all_t c
  have a3 := zq_all_1 c
  have c := zq_all_t c
  have a4 := zq_all_1 c
  have c := zq_all_t c
  have a5 := zq_all_1 c
  have c := zq_all_t c
  have a6 := zq_all_1 c
  have c := zq_all_t c
  have a7 := zq_all_1 c
  have c := zq_all_t c
  have a8 := zq_all_1 c
  have c := zq_all_t c
  have a9 := zq_all_1 c
  obtain ⟨-, -, s1⟩ := zq_okS_1 hS
  have hS := zq_okS_t hS
  obtain ⟨-, -, s2⟩ := zq_okS_1 hS
  have hS := zq_okS_t hS
  obtain ⟨-, -, s3⟩ := zq_okS_1 hS
  have hS := zq_okS_t hS
  obtain ⟨-, -, s4⟩ := zq_okS_1 hS
  have hS := zq_okS_t hS
  obtain ⟨-, -, s5⟩ := zq_okS_1 hS
  simp only [zq_ev_v, zq_ev_sub, zq_ev_addk, zq_ev_k] at a1 a2 a3 a4 a5 a6 a7 a8 a9 s1 s2 s3 s4 s5 q5 q6 q7 q8 q9 q10
  refine ⟨_, List.mem_singleton.mpr rfl, r, fun _ _ => rfl, zq_MeS_mk rfl hT zq_all_nil zq_fan zq_fan rfl (zg_mk hX b ?_ ?_ ?_ ?_ ?_ ?_)⟩ <;> simp only [zq_ev_v, zq_ev_k, zq_ev_addk]
  · omega
  · omega
  · omega
  · omega
  · omega
  · rw [show (r 5 + 1).toNat = (r 5).toNat + 1 by omega]
    unfold zg_un
    have en : (((r 5).toNat : Nat) : Int) = r 5 := by omega
    rw [en, zg_row_lt (by omega), s1, s2, s3, s4]
    have hv : ∀ q, q ≤ 5 → zg_mv (zg_ov (h (r 4).toNat) 6 0 7 0) (r 7) (r 7) (r 12) q = h (r 4).toNat q := fun q hq => by
      unfold zg_mv
      rw [zg_ov_out hq]
      split <;> omega
    have v7 : zg_in (zg_mv (zg_ov (h (r 4).toNat) 6 0 7 0) (r 7) (r 7) (r 12) (r 7)) := by rw [hv _ (by omega), s5]; exact ⟨by omega, by omega⟩
    refine Or.inr (Or.inr ⟨a2, (show r 11 ≤ 1 by omega), a4, (show r 7 ≤ 5 by omega), a4, (show r 7 ≤ 5 by omega), fun _ => (show r 12 = 0 by omega), v7, v7, ?_⟩)
    refine zg_cong (fun j x y => ?_) (fun q x y => ?_) q10
    · rw [zg_row_lt (by omega), zg_row_lt (by omega)]
    · show zg_mv _ (r 7) (r 7) (r 12) q = _
      rw [hv q y, zg_ov_one s5 y]
/-- a clock wound: a row more; a day passed: a row more -/
noncomputable def zg_pW (id : Nat) : zq_S × List zq_S := (([], [], [zq_sub (zq_k 15) (zq_v 5), zq_v 7, zq_sub (zq_k 3) (zq_v 7), zq_v 8, zq_sub (zq_k 6) (zq_v 8)], [], [(zq_v 0, zq_v 5, zq_k 2), (zq_v 1, zq_v 5, zq_v 7), (zq_v 2, zq_v 5, zq_v 8)], [], [zg_n id (zq_v 5) (zq_v 6)], 9), [([], [], [], [], [], [], [zg_n id (zq_addk (zq_v 5) 1) (zq_v 6)], 9)])
theorem zg_pW_ok {w : zq_Wd} {id k0 k1 k2 k3 k4 : Nat} (hX : zj_is w id (zg_J k0 k1 k2 k3 k4)) : zq_okG1 w (zg_pW id) := by
  refine ⟨rfl, rfl, zq_fa1 ⟨rfl, Nat.le_refl _⟩, ?_⟩
  intro r P h H hM
  obtain ⟨hT, hC, -, hS, -, hK⟩ := hM
  obtain ⟨b, q5, q6, q7, q8, q9, q10⟩ := zg_use hX hK
  have c := hC.1
  have a1 := zq_all_1 c
  have c := zq_all_t c
  have a2 := zq_all_1 c
  have c := zq_all_t c
  have a3 := zq_all_1 c
  have c := zq_all_t c
  have a4 := zq_all_1 c
  have c := zq_all_t c
  have a5 := zq_all_1 c
  obtain ⟨-, -, s1⟩ := zq_okS_1 hS
  have hS := zq_okS_t hS
  obtain ⟨-, -, s2⟩ := zq_okS_1 hS
  have hS := zq_okS_t hS
  obtain ⟨-, -, s3⟩ := zq_okS_1 hS
  simp only [zq_ev_v, zq_ev_sub, zq_ev_addk, zq_ev_k] at a1 a2 a3 a4 a5 s1 s2 s3 q5 q6 q7 q8 q9 q10
  refine ⟨_, List.mem_singleton.mpr rfl, r, fun _ _ => rfl, zq_MeS_mk rfl hT zq_all_nil zq_fan zq_fan rfl (zg_mk hX b ?_ ?_ ?_ ?_ ?_ ?_)⟩ <;> simp only [zq_ev_v, zq_ev_k, zq_ev_addk]
  · omega
  · omega
  · omega
  · omega
  · omega
  · rw [show (r 5 + 1).toNat = (r 5).toNat + 1 by omega]
    unfold zg_un
    have en : (((r 5).toNat : Nat) : Int) = r 5 := by omega
    rw [en, zg_row_lt (by omega), s1, s2, s3]
    exact Or.inl ⟨rfl, a2, (show r 7 ≤ 3 by omega), a4, (show r 8 ≤ 6 by omega), zg_cong (fun j x y => by rw [zg_row_lt (by omega), zg_row_lt (by omega)]) (fun _ _ _ => rfl) q10⟩
noncomputable def zg_pP (id : Nat) : zq_S × List zq_S := (([], [], [zq_sub (zq_k 15) (zq_v 5), zq_v 6], [], [(zq_v 0, zq_v 5, zq_k 3)], [], [zg_n id (zq_v 5) (zq_v 6)], 7), [([], [], [], [], [], [], [zg_n id (zq_addk (zq_v 5) 1) (zq_addk (zq_v 6) 1)], 7)])
theorem zg_pP_ok {w : zq_Wd} {id k0 k1 k2 k3 k4 : Nat} (hX : zj_is w id (zg_J k0 k1 k2 k3 k4)) : zq_okG1 w (zg_pP id) := by
  refine ⟨rfl, rfl, zq_fa1 ⟨rfl, Nat.le_refl _⟩, ?_⟩
  intro r P h H hM
  obtain ⟨hT, hC, -, hS, -, hK⟩ := hM
  obtain ⟨b, q5, q6, q7, q8, q9, q10⟩ := zg_use hX hK
  have a1 := zq_all_1 hC.1
  have a2 := zq_all_1 (zq_all_t hC.1)
  obtain ⟨-, -, s1⟩ := zq_okS_1 hS
  simp only [zq_ev_v, zq_ev_sub, zq_ev_addk, zq_ev_k] at a1 a2 s1 q5 q6 q7 q8 q9 q10
  refine ⟨_, List.mem_singleton.mpr rfl, r, fun _ _ => rfl, zq_MeS_mk rfl hT zq_all_nil zq_fan zq_fan rfl (zg_mk hX b ?_ ?_ ?_ ?_ ?_ ?_)⟩ <;> simp only [zq_ev_v, zq_ev_k, zq_ev_addk]
  · omega
  · omega
  · omega
  · omega
  · omega
  · rw [show (r 5 + 1).toNat = (r 5).toNat + 1 by omega]
    unfold zg_un
    have en : (((r 5).toNat : Nat) : Int) = r 5 := by omega
    rw [en, zg_row_lt (by omega), s1]
    exact Or.inr (Or.inl ⟨rfl, by omega, by rw [show r 6 + 1 - 1 = r 6 by omega]; exact zg_cong (fun j x y => by rw [zg_row_lt (by omega), zg_row_lt (by omega)]) (fun _ _ _ => rfl) q10⟩)
/-- the oldest row away: a hole at the start; the hole moves on -/
noncomputable def zg_dr (id : Nat) : zq_S × List zq_S := (([], [], [], [], [], [], [zg_t id (zq_k 16) (zq_k 16) (zq_v 5) (zq_v 6) (zq_v 7) (zq_v 8) (zq_v 9)], 10), [([], [], [], [], [], [], [zg_t id (zq_k 15) (zq_k 0) (zq_v 5) (zq_v 6) (zq_v 7) (zq_v 8) (zq_v 9)], 10)])
theorem zg_dr_ok {w : zq_Wd} {id k0 k1 k2 k3 k4 : Nat} (hX : zj_is w id (zg_J k0 k1 k2 k3 k4)) : zq_okG1 w (zg_dr id) := by
  refine ⟨rfl, rfl, zq_fa1 ⟨rfl, Nat.le_refl _⟩, ?_⟩
  intro r P h H hM
  obtain ⟨hT, hC, -, hS, -, hK⟩ := hM
  obtain ⟨b, q5, q6, q7, q8, q9, q10⟩ := zg_use hX hK
  simp only [zq_ev_v, zq_ev_k] at q5 q6 q7 q8 q9 q10
  refine ⟨_, List.mem_singleton.mpr rfl, r, fun _ _ => rfl, zq_MeS_mk rfl hT zq_all_nil zq_fan zq_fan rfl (zg_mk hX b ?_ ?_ ?_ ?_ ?_ ?_)⟩ <;> simp only [zq_ev_v, zq_ev_k]
  · omega
  · omega
  · exact Int.le_refl _
  · omega
  · exact q9
  · have q := zg_drop (n := 15) (show zg_un _ (15 + 1) _ _ from q10)
    refine zg_cong (n := 15) (fun j x y => ?_) (fun _ _ _ => rfl) q
    have y : j < 15 := y
    have e1 : zg_row (h (r 0).toNat) (h (r 1).toNat) (h (r 2).toNat) (h (r 3).toNat) 16 (j + 1) = (h (r 0).toNat (j + 1), h (r 1).toNat (j + 1), h (r 2).toNat (j + 1), h (r 3).toNat (j + 1)) := zg_row_lt (by omega)
    show zg_row _ _ _ _ 0 j = zg_row _ _ _ _ 16 (j + 1)
    rw [e1]
    unfold zg_row zg_at
    rw [if_neg (by omega)]
noncomputable def zg_sh (id : Nat) : zq_S × List zq_S := (([], [], [zq_sub (zq_k 14) (zq_v 5)], [], [(zq_v 0, zq_v 5, zq_v 11), (zq_v 0, zq_addk (zq_v 5) 1, zq_v 11), (zq_v 1, zq_v 5, zq_v 12), (zq_v 1, zq_addk (zq_v 5) 1, zq_v 12), (zq_v 2, zq_v 5, zq_v 13), (zq_v 2, zq_addk (zq_v 5) 1, zq_v 13), (zq_v 3, zq_v 5, zq_v 14), (zq_v 3, zq_addk (zq_v 5) 1, zq_v 14)], [], [zg_t id (zq_k 15) (zq_v 5) (zq_v 6) (zq_v 7) (zq_v 8) (zq_v 9) (zq_v 10)], 15), [([], [], [], [], [], [], [zg_t id (zq_k 15) (zq_addk (zq_v 5) 1) (zq_v 6) (zq_v 7) (zq_v 8) (zq_v 9) (zq_v 10)], 15)])
theorem zg_sh_ok {w : zq_Wd} {id k0 k1 k2 k3 k4 : Nat} (hX : zj_is w id (zg_J k0 k1 k2 k3 k4)) : zq_okG1 w (zg_sh id) := by
  refine ⟨rfl, rfl, zq_fa1 ⟨rfl, Nat.le_refl _⟩, ?_⟩
  intro r P h H hM
  obtain ⟨hT, hC, -, hS, -, hK⟩ := hM
  obtain ⟨b, q5, q6, q7, q8, q9, q10⟩ := zg_use hX hK
  have a1 := zq_all_1 hC.1
  obtain ⟨-, -, s1⟩ := zq_okS_1 hS
  have hS := zq_okS_t hS
  obtain ⟨-, -, s2⟩ := zq_okS_1 hS
  have hS := zq_okS_t hS
  obtain ⟨-, -, s3⟩ := zq_okS_1 hS
  have hS := zq_okS_t hS
  obtain ⟨-, -, s4⟩ := zq_okS_1 hS
  have hS := zq_okS_t hS
  obtain ⟨-, -, s5⟩ := zq_okS_1 hS
  have hS := zq_okS_t hS
  obtain ⟨-, -, s6⟩ := zq_okS_1 hS
  have hS := zq_okS_t hS
  obtain ⟨-, -, s7⟩ := zq_okS_1 hS
  have hS := zq_okS_t hS
  obtain ⟨-, -, s8⟩ := zq_okS_1 hS
  simp only [zq_ev_v, zq_ev_sub, zq_ev_addk, zq_ev_k] at a1 s1 s2 s3 s4 s5 s6 s7 s8 q5 q6 q7 q8 q9 q10
  refine ⟨_, List.mem_singleton.mpr rfl, r, fun _ _ => rfl, zq_MeS_mk rfl hT zq_all_nil zq_fan zq_fan rfl (zg_mk hX b ?_ ?_ ?_ ?_ ?_ ?_)⟩ <;> simp only [zq_ev_v, zq_ev_k, zq_ev_addk]
  · exact q5
  · exact q6
  · omega
  · omega
  · exact q9
  · refine zg_cong (fun j x y => ?_) (fun _ _ _ => rfl) q10
    unfold zg_row zg_at
    by_cases c1 : j < r 5
    · rw [if_pos (by omega), if_pos c1]
    · by_cases c2 : j = r 5
      · rw [if_pos (by omega), if_neg (by omega), c2, s1, s2, s3, s4, s5, s6, s7, s8]
      · rw [if_neg (by omega), if_neg c1]
/-- the last row is taken back -/
noncomputable def zg_po (id : Nat) : zq_S × List zq_S := (([], [], [zq_addk (zq_v 5) (-1)], [], [(zq_v 0, zq_addk (zq_v 5) (-1), zq_v 7), (zq_v 1, zq_addk (zq_v 5) (-1), zq_v 8), (zq_v 2, zq_addk (zq_v 5) (-1), zq_v 9), (zq_v 3, zq_addk (zq_v 5) (-1), zq_v 10)], [], [zg_n id (zq_v 5) (zq_v 6)], 11),
  [([], [], [zq_addk (zq_v 7) (-2), zq_sub (zq_k 2) (zq_v 7), zq_v 8, zq_sub (zq_k 3) (zq_v 8), zq_v 9, zq_sub (zq_k 6) (zq_v 9)], [], [], [], [zg_n id (zq_addk (zq_v 5) (-1)) (zq_v 6)], 11),
   ([], [], [zq_addk (zq_v 7) (-3), zq_sub (zq_k 3) (zq_v 7), zq_addk (zq_v 6) (-1)], [], [], [], [zg_n id (zq_addk (zq_v 5) (-1)) (zq_addk (zq_v 6) (-1))], 11),
   ([], [], [zq_v 7, zq_sub (zq_k 1) (zq_v 7), zq_v 8, zq_addk (zq_sub (zq_v 9) (zq_v 8)) (-1), zq_sub (zq_k 5) (zq_v 9), zq_addk (zq_sub (zq_v 11) (zq_v 10)) 9999, zq_sub (zq_k 9999) (zq_sub (zq_v 11) (zq_v 10)), zq_addk (zq_add (zq_v 12) (zq_v 10)) 9999, zq_sub (zq_k 9999) (zq_add (zq_v 12) (zq_v 10))], [], [(zq_v 4, zq_v 8, zq_v 11), (zq_v 4, zq_v 9, zq_v 12)], [], [zg_t id (zq_addk (zq_v 5) (-1)) (zq_addk (zq_v 5) (-1)) (zq_v 6) (zq_v 8) (zq_sub (zq_v 11) (zq_v 10)) (zq_v 9) (zq_add (zq_v 12) (zq_v 10))], 13),
   ([], [], [zq_v 7, zq_sub (zq_k 1) (zq_v 7), zq_v 9, zq_addk (zq_sub (zq_v 8) (zq_v 9)) (-1), zq_sub (zq_k 5) (zq_v 8), zq_addk (zq_sub (zq_v 11) (zq_v 10)) 9999, zq_sub (zq_k 9999) (zq_sub (zq_v 11) (zq_v 10)), zq_addk (zq_add (zq_v 12) (zq_v 10)) 9999, zq_sub (zq_k 9999) (zq_add (zq_v 12) (zq_v 10))], [], [(zq_v 4, zq_v 8, zq_v 11), (zq_v 4, zq_v 9, zq_v 12)], [], [zg_t id (zq_addk (zq_v 5) (-1)) (zq_addk (zq_v 5) (-1)) (zq_v 6) (zq_v 9) (zq_add (zq_v 12) (zq_v 10)) (zq_v 8) (zq_sub (zq_v 11) (zq_v 10))], 13),
   ([], [], [zq_v 7, zq_sub (zq_k 1) (zq_v 7), zq_v 8, zq_sub (zq_v 9) (zq_v 8), zq_sub (zq_v 8) (zq_v 9), zq_sub (zq_k 5) (zq_v 8), zq_v 10, zq_sub (zq_k 0) (zq_v 10)], [], [(zq_v 4, zq_v 8, zq_v 11)], [], [zg_t id (zq_addk (zq_v 5) (-1)) (zq_addk (zq_v 5) (-1)) (zq_v 6) (zq_v 8) (zq_v 11) (zq_k 6) (zq_k 0)], 12)])
theorem zg_po_ok {w : zq_Wd} {id k0 k1 k2 k3 k4 : Nat} (hX : zj_is w id (zg_J k0 k1 k2 k3 k4)) : zq_okG1 w (zg_po id) := by
  refine ⟨rfl, rfl, List.forall_mem_cons.mpr ⟨⟨rfl, Nat.le_refl _⟩, List.forall_mem_cons.mpr ⟨⟨rfl, Nat.le_refl _⟩, List.forall_mem_cons.mpr ⟨⟨rfl, by show 11 ≤ 13; omega⟩, List.forall_mem_cons.mpr ⟨⟨rfl, by show 11 ≤ 13; omega⟩, zq_fa1 ⟨rfl, by show 11 ≤ 12; omega⟩⟩⟩⟩⟩, ?_⟩
  intro r P h H hM
  obtain ⟨hT, hC, -, hS, -, hK⟩ := hM
  obtain ⟨b, q5, q6, q7, q8, q9, q10⟩ := zg_use hX hK
  have a1 := zq_all_1 hC.1
  obtain ⟨-, -, s1⟩ := zq_okS_1 hS
  have hS := zq_okS_t hS
  obtain ⟨-, -, s2⟩ := zq_okS_1 hS
  have hS := zq_okS_t hS
  obtain ⟨-, -, s3⟩ := zq_okS_1 hS
  have hS := zq_okS_t hS
  obtain ⟨-, -, s4⟩ := zq_okS_1 hS
  simp only [zq_ev_v, zq_ev_addk, zq_ev_k] at a1 s1 s2 s3 s4 q5 q6 q7 q8 q9 q10
  rw [show (r 5).toNat = (r 5 + -1).toNat + 1 by omega] at q10
  unfold zg_un at q10
  have en : (((r 5 + -1).toNat : Nat) : Int) = r 5 + -1 := by omega
  rw [en, zg_row_lt (by omega), s1, s2, s3, s4] at q10
  have rows : ∀ j : Nat, 0 ≤ j → j < (r 5 + -1).toNat → zg_row (h (r 0).toNat) (h (r 1).toNat) (h (r 2).toNat) (h (r 3).toNat) (r 5 + -1) j = zg_row (h (r 0).toNat) (h (r 1).toNat) (h (r 2).toNat) (h (r 3).toNat) (r 5) j := fun j x y => by rw [zg_row_lt (by omega), zg_row_lt (by omega)]
  have hP4 : P (r 4).toNat ≠ none := by rw [b.2.2.2.2.2]; exact Option.some_ne_none _
  have h4 := b.2.2.2.2.1
  rcases q10 with ⟨c1, c2, c3, c4, c5, c6⟩ | ⟨c1, c2, c3⟩ | ⟨c1, c2, c3, c4, c5, c6, cz, c7, c8, c9⟩
  · simp only at c1 c2 c3 c4 c5 c6
    refine ⟨_, List.mem_cons_self .., r, fun _ _ => rfl, zq_MeS_mk rfl hT (zq_all_cons ?_ (zq_all_cons ?_ (zq_all_cons ?_ (zq_all_cons ?_ (zq_all_cons ?_ (zq_all_cons ?_ zq_all_nil)))))) zq_fan zq_fan rfl (zg_mk hX b ?_ ?_ ?_ ?_ ?_ ?_)⟩ <;> simp only [zq_ev_v, zq_ev_k, zq_ev_addk, zq_ev_sub] <;> first | omega | exact zg_cong rows (fun _ _ _ => rfl) c6
  · simp only at c1 c2 c3
    refine ⟨_, List.mem_cons_of_mem _ (List.mem_cons_self ..), r, fun _ _ => rfl, zq_MeS_mk rfl hT (zq_all_cons ?_ (zq_all_cons ?_ (zq_all_cons ?_ zq_all_nil))) zq_fan zq_fan rfl (zg_mk hX b ?_ ?_ ?_ ?_ ?_ ?_)⟩ <;> simp only [zq_ev_v, zq_ev_k, zq_ev_addk, zq_ev_sub] <;> first | omega | exact zg_cong rows (fun _ _ _ => rfl) c3
  · simp only at c1 c2 c3 c4 c5 c6 cz c7 c8 c9
    rcases Int.lt_trichotomy (r 8) (r 9) with z | z | z
    · let r' := zq_up (zq_up r 11 (h (r 4).toNat (r 8))) 12 (h (r 4).toNat (r 9))
      have f : ∀ i, i < 11 → r' i = r i := fun i hi => by
        show zq_up (zq_up r 11 _) 12 _ i = r i
        unfold zq_up
        rw [show Nat.beq i 12 = false from by cases hb : Nat.beq i 12 with
          | false => rfl
          | true => have := Nat.eq_of_beq_eq_true hb; omega, show Nat.beq i 11 = false from by cases hb : Nat.beq i 11 with
          | false => rfl
          | true => have := Nat.eq_of_beq_eq_true hb; omega]
        rfl
      have f11 : r' 11 = h (r 4).toNat (r 8) := rfl
      have f12 : r' 12 = h (r 4).toNat (r 9) := rfl
      have v : ∀ q, q ≤ 5 → zg_mv (zg_ov (h (r 4).toNat) 6 0 7 0) (r 8) (r 9) (r 10) q = zg_ov (h (r 4).toNat) (r 8) (r' 11 - r 10) (r 9) (r' 12 + r 10) q := fun q hq => by
        unfold zg_mv
        rw [zg_ov_out hq, f11, f12]
        unfold zg_ov
        by_cases e1 : q = r 8
        · rw [if_neg (by omega), if_pos e1, if_pos e1, e1]; omega
        · by_cases e2 : q = r 9
          · rw [if_pos e2, if_neg e1, if_neg e1, if_pos e2, e2]; omega
          · rw [if_neg e2, if_neg e1, if_neg e1, if_neg e2]; omega
      have w8 : zg_ov (h (r 4).toNat) (r 8) (r' 11 - r 10) (r 9) (r' 12 + r 10) (r 8) = r' 11 - r 10 := by unfold zg_ov; rw [if_pos rfl]
      have w9 : zg_ov (h (r 4).toNat) (r 8) (r' 11 - r 10) (r 9) (r' 12 + r 10) (r 9) = r' 12 + r 10 := by unfold zg_ov; rw [if_neg (by omega), if_pos rfl]
      rw [v _ c4, w8] at c7
      rw [v _ c6, w9] at c8
      obtain ⟨i1, i2⟩ := c7
      obtain ⟨i3, i4⟩ := c8
      have b' : (0 ≤ r' 0 ∧ P (r' 0).toNat = some k0) ∧ (0 ≤ r' 1 ∧ P (r' 1).toNat = some k1) ∧ (0 ≤ r' 2 ∧ P (r' 2).toNat = some k2) ∧ (0 ≤ r' 3 ∧ P (r' 3).toNat = some k3) ∧ (0 ≤ r' 4 ∧ P (r' 4).toNat = some k4) := b
      refine ⟨_, List.mem_cons_of_mem _ (List.mem_cons_of_mem _ (List.mem_cons_self ..)), r', fun i hi => f i hi, zq_MeS_mk rfl hT (zq_all_cons ?_ (zq_all_cons ?_ (zq_all_cons ?_ (zq_all_cons ?_ (zq_all_cons ?_ (zq_all_cons ?_ (zq_all_cons ?_ (zq_all_cons ?_ (zq_all_cons ?_ zq_all_nil))))))))) zq_fan (List.forall_mem_cons.mpr ⟨⟨(r 4).toNat, ?_, hP4, ?_⟩, zq_fa1 ⟨(r 4).toNat, ?_, hP4, ?_⟩⟩) rfl (zg_mk hX b' ?_ ?_ ?_ ?_ ?_ ?_)⟩ <;> simp only [zq_ev_v, zq_ev_k, zq_ev_addk, zq_ev_sub, zq_ev_add, f 4 (by omega), f 5 (by omega), f 6 (by omega), f 7 (by omega), f 8 (by omega), f 9 (by omega), f 10 (by omega)] <;> first | omega | rfl | exact zg_cong rows (fun q x y => (v q y).symm) c9
    · have cz := cz z
      let r' := zq_up r 11 (h (r 4).toNat (r 8))
      have f : ∀ i, i < 11 → r' i = r i := fun i hi => by
        show zq_up r 11 _ i = r i
        unfold zq_up
        rw [show Nat.beq i 11 = false from by cases hb : Nat.beq i 11 with
          | false => rfl
          | true => have := Nat.eq_of_beq_eq_true hb; omega]
        rfl
      have f11 : r' 11 = h (r 4).toNat (r 8) := rfl
      have v : ∀ q, q ≤ 5 → zg_mv (zg_ov (h (r 4).toNat) 6 0 7 0) (r 8) (r 9) (r 10) q = zg_ov (h (r 4).toNat) (r 8) (r' 11) 6 0 q := fun q hq => by
        unfold zg_mv
        rw [zg_ov_out hq, zg_ov_one f11.symm hq, ← z]
        split <;> omega
      have b' : (0 ≤ r' 0 ∧ P (r' 0).toNat = some k0) ∧ (0 ≤ r' 1 ∧ P (r' 1).toNat = some k1) ∧ (0 ≤ r' 2 ∧ P (r' 2).toNat = some k2) ∧ (0 ≤ r' 3 ∧ P (r' 3).toNat = some k3) ∧ (0 ≤ r' 4 ∧ P (r' 4).toNat = some k4) := b
      refine ⟨_, List.mem_cons_of_mem _ (List.mem_cons_of_mem _ (List.mem_cons_of_mem _ (List.mem_cons_of_mem _ (List.mem_cons_self ..)))), r', fun i hi => f i hi, zq_MeS_mk rfl hT (zq_all_cons ?_ (zq_all_cons ?_ (zq_all_cons ?_ (zq_all_cons ?_ (zq_all_cons ?_ (zq_all_cons ?_ (zq_all_cons ?_ (zq_all_cons ?_ zq_all_nil)))))))) zq_fan (zq_fa1 ⟨(r 4).toNat, ?_, hP4, ?_⟩) rfl (zg_mk hX b' ?_ ?_ ?_ ?_ ?_ ?_)⟩ <;> simp only [zq_ev_v, zq_ev_k, zq_ev_addk, zq_ev_sub, zq_ev_add, f 4 (by omega), f 5 (by omega), f 6 (by omega), f 7 (by omega), f 8 (by omega), f 9 (by omega), f 10 (by omega)] <;> first | omega | rfl | exact zg_cong rows (fun q x y => (v q y).symm) c9
    · let r' := zq_up (zq_up r 11 (h (r 4).toNat (r 8))) 12 (h (r 4).toNat (r 9))
      have f : ∀ i, i < 11 → r' i = r i := fun i hi => by
        show zq_up (zq_up r 11 _) 12 _ i = r i
        unfold zq_up
        rw [show Nat.beq i 12 = false from by cases hb : Nat.beq i 12 with
          | false => rfl
          | true => have := Nat.eq_of_beq_eq_true hb; omega, show Nat.beq i 11 = false from by cases hb : Nat.beq i 11 with
          | false => rfl
          | true => have := Nat.eq_of_beq_eq_true hb; omega]
        rfl
      have f11 : r' 11 = h (r 4).toNat (r 8) := rfl
      have f12 : r' 12 = h (r 4).toNat (r 9) := rfl
      have v : ∀ q, q ≤ 5 → zg_mv (zg_ov (h (r 4).toNat) 6 0 7 0) (r 8) (r 9) (r 10) q = zg_ov (h (r 4).toNat) (r 9) (r' 12 + r 10) (r 8) (r' 11 - r 10) q := fun q hq => by
        unfold zg_mv
        rw [zg_ov_out hq, f11, f12]
        unfold zg_ov
        by_cases e1 : q = r 8
        · rw [if_neg (by omega), if_pos e1, if_neg (by omega), if_pos e1, e1]; omega
        · by_cases e2 : q = r 9
          · rw [if_pos e2, if_neg e1, if_pos e2, e2]; omega
          · rw [if_neg e2, if_neg e1, if_neg e2, if_neg e1]; omega
      have w8 : zg_ov (h (r 4).toNat) (r 9) (r' 12 + r 10) (r 8) (r' 11 - r 10) (r 8) = r' 11 - r 10 := by unfold zg_ov; rw [if_neg (by omega), if_pos rfl]
      have w9 : zg_ov (h (r 4).toNat) (r 9) (r' 12 + r 10) (r 8) (r' 11 - r 10) (r 9) = r' 12 + r 10 := by unfold zg_ov; rw [if_pos rfl]
      rw [v _ c4, w8] at c7
      rw [v _ c6, w9] at c8
      obtain ⟨i1, i2⟩ := c7
      obtain ⟨i3, i4⟩ := c8
      have b' : (0 ≤ r' 0 ∧ P (r' 0).toNat = some k0) ∧ (0 ≤ r' 1 ∧ P (r' 1).toNat = some k1) ∧ (0 ≤ r' 2 ∧ P (r' 2).toNat = some k2) ∧ (0 ≤ r' 3 ∧ P (r' 3).toNat = some k3) ∧ (0 ≤ r' 4 ∧ P (r' 4).toNat = some k4) := b
      refine ⟨_, List.mem_cons_of_mem _ (List.mem_cons_of_mem _ (List.mem_cons_of_mem _ (List.mem_cons_self ..))), r', fun i hi => f i hi, zq_MeS_mk rfl hT (zq_all_cons ?_ (zq_all_cons ?_ (zq_all_cons ?_ (zq_all_cons ?_ (zq_all_cons ?_ (zq_all_cons ?_ (zq_all_cons ?_ (zq_all_cons ?_ (zq_all_cons ?_ zq_all_nil))))))))) zq_fan (List.forall_mem_cons.mpr ⟨⟨(r 4).toNat, ?_, hP4, ?_⟩, zq_fa1 ⟨(r 4).toNat, ?_, hP4, ?_⟩⟩) rfl (zg_mk hX b' ?_ ?_ ?_ ?_ ?_ ?_)⟩ <;> simp only [zq_ev_v, zq_ev_k, zq_ev_addk, zq_ev_sub, zq_ev_add, f 4 (by omega), f 5 (by omega), f 6 (by omega), f 7 (by omega), f 8 (by omega), f 9 (by omega), f 10 (by omega)] <;> first | omega | rfl | exact zg_cong rows (fun q x y => (v q y).symm) c9
