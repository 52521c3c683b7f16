theorem zg_ov_id {b : Int → Int} {i x j y : Int} (h1 : b i = x) (h2 : b j = y) (q : Int) : zg_ov b i x j y q = b q := by
  unfold zg_ov
  by_cases c1 : q = i
  · rw [if_pos c1, c1, h1]
  · rw [if_neg c1]
    by_cases c2 : q = j
    · rw [if_pos c2, c2, h2]
    · rw [if_neg c2]
theorem zg_ov_out {b : Int → Int} {x y : Int} {q : Int} (hq : q ≤ 5) : zg_ov b 6 x 7 y q = b q := by
  unfold zg_ov
  rw [if_neg (by omega), if_neg (by omega)]
theorem zg_ov_one {b : Int → Int} {i x y : Int} (h1 : b i = x) {q : Int} (hq : q ≤ 5) : zg_ov b i x 6 y q = b q := by
  unfold zg_ov
  by_cases c1 : q = i
  · rw [if_pos c1, c1, h1]
  · rw [if_neg c1, if_neg (by omega)]
theorem zg_row_lt {k o t m : Int → Int} {z j : Int} (h : j < z) : zg_row k o t m z j = (k j, o j, t j, m j) := by
  unfold zg_row zg_at
  rw [if_pos h]
/-- no place told of -/
noncomputable def zg_n (id : Nat) (n d : zq_L) : Nat × List zq_L := zg_t id n n d (zq_k 6) (zq_k 0) (zq_k 7) (zq_k 0)
/-- balances at two places, told -/
noncomputable def zg_o2 (id : Nat) : zq_S × List zq_S := (([], [], [zq_v 7, zq_addk (zq_sub (zq_v 9) (zq_v 7)) (-1)], [], [(zq_v 4, zq_v 7, zq_v 8), (zq_v 4, zq_v 9, zq_v 10)], [], [zg_n id (zq_v 5) (zq_v 6)], 11), [([], [], [], [], [], [], [zg_t id (zq_v 5) (zq_v 5) (zq_v 6) (zq_v 7) (zq_v 8) (zq_v 9) (zq_v 10)], 11)])
theorem zg_o2_ok {w : zq_Wd} {id k0 k1 k2 k3 k4 : Nat} (hX : zj_is w id (zg_J k0 k1 k2 k3 k4)) : zq_okG1 w (zg_o2 id) := by
  refine ⟨rfl, rfl, zq_fa1 ⟨rfl, Nat.le_refl _⟩, ?_⟩
  intro r P h H hM
  obtain ⟨hT, hC, -, hS, -, hK⟩ := hM
  obtain ⟨b, q5, q6, q7, q8, q9, q10⟩ := zg_use hX hK
  have a1 := zq_all_1 hC.1
  have a2 := zq_all_1 (zq_all_t hC.1)
  obtain ⟨-, -, s1⟩ := zq_okS_1 hS
  obtain ⟨-, -, s2⟩ := zq_okS_1 (zq_okS_t hS)
  simp only [zq_ev_v, zq_ev_sub, zq_ev_addk, zq_ev_k] at a1 a2 s1 s2 q5 q6 q7 q8 q9 q10
  refine ⟨_, List.mem_singleton.mpr rfl, r, fun _ _ => rfl, zq_MeS_mk rfl hT zq_all_nil zq_fan zq_fan rfl (zg_mk hX b ?_ ?_ ?_ ?_ ?_ ?_)⟩ <;> simp only [zq_ev_v]
  · exact q5
  · exact q6
  · exact q7
  · exact q8
  · omega
  · exact zg_cong (fun _ _ _ => rfl) (fun q x y => by rw [zg_ov_id s1 s2, zg_ov_out y]) q10
noncomputable def zg_c2 (id : Nat) : zq_S × List zq_S := (([], [], [], [], [(zq_v 4, zq_v 7, zq_v 8), (zq_v 4, zq_v 9, zq_v 10)], [], [zg_t id (zq_v 5) (zq_v 5) (zq_v 6) (zq_v 7) (zq_v 8) (zq_v 9) (zq_v 10)], 11), [([], [], [], [], [], [], [zg_n id (zq_v 5) (zq_v 6)], 11)])
theorem zg_c2_ok {w : zq_Wd} {id k0 k1 k2 k3 k4 : Nat} (hX : zj_is w id (zg_J k0 k1 k2 k3 k4)) : zq_okG1 w (zg_c2 id) := by
  refine ⟨rfl, rfl, zq_fa1 ⟨rfl, Nat.le_refl _⟩, ?_⟩
  intro r P h H hM
  obtain ⟨hT, hC, -, hS, -, hK⟩ := hM
  obtain ⟨b, q5, q6, q7, q8, q9, q10⟩ := zg_use hX hK
  obtain ⟨-, -, s1⟩ := zq_okS_1 hS
  obtain ⟨-, -, s2⟩ := zq_okS_1 (zq_okS_t hS)
  simp only [zq_ev_v] at s1 s2 q5 q6 q7 q8 q9 q10
  refine ⟨_, List.mem_singleton.mpr rfl, r, fun _ _ => rfl, zq_MeS_mk rfl hT zq_all_nil zq_fan zq_fan rfl (zg_mk hX b ?_ ?_ ?_ ?_ ?_ ?_)⟩ <;> simp only [zq_ev_v, zq_ev_k]
  · exact q5
  · exact q6
  · exact q7
  · exact q8
  · omega
  · exact zg_cong (fun _ _ _ => rfl) (fun q x y => by rw [zg_ov_id s1 s2, zg_ov_out y]) q10
/-- at one place -/
noncomputable def zg_o1 (id : Nat) : zq_S × List zq_S := (([], [], [zq_sub (zq_k 5) (zq_v 7)], [], [(zq_v 4, zq_v 7, zq_v 8)], [], [zg_n id (zq_v 5) (zq_v 6)], 9), [([], [], [], [], [], [], [zg_t id (zq_v 5) (zq_v 5) (zq_v 6) (zq_v 7) (zq_v 8) (zq_k 6) (zq_k 0)], 9)])
theorem zg_o1_ok {w : zq_Wd} {id k0 k1 k2 k3 k4 : Nat} (hX : zj_is w id (zg_J k0 k1 k2 k3 k4)) : zq_okG1 w (zg_o1 id) := by
  refine ⟨rfl, rfl, zq_fa1 ⟨rfl, Nat.le_refl _⟩, ?_⟩
  intro r P h H hM
  obtain ⟨hT, hC, -, hS, -, hK⟩ := hM
  obtain ⟨b, q5, q6, q7, q8, q9, q10⟩ := zg_use hX hK
  have a1 := zq_all_1 hC.1
  obtain ⟨-, -, s1⟩ := zq_okS_1 hS
  simp only [zq_ev_v, zq_ev_sub, zq_ev_k] at a1 s1 q5 q6 q7 q8 q9 q10
  refine ⟨_, List.mem_singleton.mpr rfl, r, fun _ _ => rfl, zq_MeS_mk rfl hT zq_all_nil zq_fan zq_fan rfl (zg_mk hX b ?_ ?_ ?_ ?_ ?_ ?_)⟩ <;> simp only [zq_ev_v, zq_ev_k]
  · exact q5
  · exact q6
  · exact q7
  · exact q8
  · omega
  · exact zg_cong (fun _ _ _ => rfl) (fun q x y => by rw [zg_ov_one s1 y, zg_ov_out y]) q10
noncomputable def zg_c1 (id : Nat) : zq_S × List zq_S := (([], [], [], [], [(zq_v 4, zq_v 7, zq_v 8)], [], [zg_t id (zq_v 5) (zq_v 5) (zq_v 6) (zq_v 7) (zq_v 8) (zq_k 6) (zq_k 0)], 9), [([], [], [], [], [], [], [zg_n id (zq_v 5) (zq_v 6)], 9)])
theorem zg_c1_ok {w : zq_Wd} {id k0 k1 k2 k3 k4 : Nat} (hX : zj_is w id (zg_J k0 k1 k2 k3 k4)) : zq_okG1 w (zg_c1 id) := by
  refine ⟨rfl, rfl, zq_fa1 ⟨rfl, Nat.le_refl _⟩, ?_⟩
  intro r P h H hM
  obtain ⟨hT, hC, -, hS, -, hK⟩ := hM
  obtain ⟨b, q5, q6, q7, q8, q9, q10⟩ := zg_use hX hK
  obtain ⟨-, -, s1⟩ := zq_okS_1 hS
  simp only [zq_ev_v, zq_ev_k] at s1 q5 q6 q7 q8 q9 q10
  refine ⟨_, List.mem_singleton.mpr rfl, r, fun _ _ => rfl, zq_MeS_mk rfl hT zq_all_nil zq_fan zq_fan rfl (zg_mk hX b ?_ ?_ ?_ ?_ ?_ ?_)⟩ <;> simp only [zq_ev_v, zq_ev_k]
  · exact q5
  · exact q6
  · exact q7
  · exact q8
  · omega
  · exact zg_cong (fun _ _ _ => rfl) (fun q x y => by rw [zg_ov_one s1 y, zg_ov_out y]) q10
/-- a row more: s = 0 from the first place to the second one, 1 the other way -/
noncomputable def zg_p2 (id : Nat) (s : Bool) : zq_S × List zq_S := (([], [], [zq_sub (zq_k 15) (zq_v 5), zq_v 11, zq_sub (zq_k 1) (zq_v 11), zq_v 7, zq_sub (zq_k 5) (zq_v 9), zq_addk (zq_v 8) 9999, zq_sub (zq_k 9999) (zq_v 8), zq_addk (zq_v 10) 9999, zq_sub (zq_k 9999) (zq_v 10)], [], [(zq_v 0, zq_v 5, zq_v 11), (zq_v 1, zq_v 5, bif s then zq_v 9 else zq_v 7), (zq_v 2, zq_v 5, bif s then zq_v 7 else zq_v 9), (zq_v 3, zq_v 5, zq_v 12), (zq_v 4, zq_v 7, bif s then zq_sub (zq_v 8) (zq_v 12) else zq_add (zq_v 8) (zq_v 12)), (zq_v 4, zq_v 9, bif s then zq_add (zq_v 10) (zq_v 12) else zq_sub (zq_v 10) (zq_v 12))], [], [zg_t id (zq_v 5) (zq_v 5) (zq_v 6) (zq_v 7) (zq_v 8) (zq_v 9) (zq_v 10)], 13),
  [([], [], [], [], [], [], [zg_n id (zq_addk (zq_v 5) 1) (zq_v 6)], 13)])
theorem zg_p2_ok {w : zq_Wd} {id k0 k1 k2 k3 k4 : Nat} {s : Bool} (hX : zj_is w id (zg_J k0 k1 k2 k3 k4)) : zq_okG1 w (zg_p2 id s) := by
  refine ⟨by cases s <;> rfl, rfl, zq_fa1 ⟨rfl, Nat.le_refl _⟩, ?_⟩
  intro r P h H hM
  obtain ⟨hT, hC, -, hS, -, hK⟩ := hM
  obtain ⟨b, q5, q6, q7, q8, q9, q10⟩ := zg_use hX hK
  have c := hC.1
  have a1 := zq_all_1 c
  have c := zq_all_t c
  have a2 := zq_all_1 c
  have c := zq_all_t c
  have a3 := zq_all_1 c
  have c := zq_all_t c
  have a4 := zq_all_1 c
  have c := zq_all_t c
  have a5 := zq_all_1 c
  have c := zq_all_t c
  have a6 := zq_all_1 c
  have c := zq_all_t c
  have a7 := zq_all_1 c
  have c := zq_all_t c
  have a8 := zq_all_1 c
  have c := zq_all_t c
  have a9 := zq_all_1 c
  obtain ⟨-, -, s1⟩ := zq_okS_1 hS
  have hS := zq_okS_t hS
  obtain ⟨-, -, s2⟩ := zq_okS_1 hS
  have hS := zq_okS_t hS
  obtain ⟨-, -, s3⟩ := zq_okS_1 hS
  have hS := zq_okS_t hS
  obtain ⟨-, -, s4⟩ := zq_okS_1 hS
  have hS := zq_okS_t hS
  obtain ⟨-, -, s5⟩ := zq_okS_1 hS
  have hS := zq_okS_t hS
  obtain ⟨-, -, s6⟩ := zq_okS_1 hS
  simp only [zq_ev_v, zq_ev_sub, zq_ev_addk, zq_ev_k] at a1 a2 a3 a4 a5 a6 a7 a8 a9 s1 s2 s3 s4 s5 s6 q5 q6 q7 q8 q9 q10
  have key : ∀ (one other : Int), h (r 1).toNat (r 5) = one → h (r 2).toNat (r 5) = other → ((one = r 7 ∧ other = r 9) ∨ (one = r 9 ∧ other = r 7)) → (∀ q, zg_mv (h (r 4).toNat) one other (r 12) q = zg_ov (h (r 4).toNat) (r 7) (r 8) (r 9) (r 10) q) → zg_un (zg_row (h (r 0).toNat) (h (r 1).toNat) (h (r 2).toNat) (h (r 3).toNat) (r 5 + 1)) ((r 5).toNat + 1) (zg_ov (h (r 4).toNat) 6 0 7 0) (r 6) := by
    intro one other e1 e2 ho hmv
    unfold zg_un
    have en : (((r 5).toNat : Nat) : Int) = r 5 := by omega
    rw [en, zg_row_lt (by omega), s1, e1, e2, s4]
    have hv : ∀ q, q ≤ 5 → zg_mv (zg_ov (h (r 4).toNat) 6 0 7 0) one other (r 12) q = zg_ov (h (r 4).toNat) (r 7) (r 8) (r 9) (r 10) q := fun q hq => by
      rw [← hmv q]; unfold zg_mv; rw [zg_ov_out hq]
    have v7 : zg_ov (h (r 4).toNat) (r 7) (r 8) (r 9) (r 10) (r 7) = r 8 := by unfold zg_ov; rw [if_pos rfl]
    have v9 : zg_ov (h (r 4).toNat) (r 7) (r 8) (r 9) (r 10) (r 9) = r 10 := by unfold zg_ov; rw [if_neg (by omega), if_pos rfl]
    have hin : ∀ q, q = r 7 ∨ q = r 9 → zg_in (zg_ov (h (r 4).toNat) (r 7) (r 8) (r 9) (r 10) q) := by
      rintro q (e | e)
      · rw [e, v7]; exact ⟨by omega, by omega⟩
      · rw [e, v9]; exact ⟨by omega, by omega⟩
    have o5 : one ≤ 5 ∧ 0 ≤ one := by rcases ho with ⟨e, -⟩ | ⟨e, -⟩ <;> rw [e] <;> omega
    have t5 : other ≤ 5 ∧ 0 ≤ other := by rcases ho with ⟨-, e⟩ | ⟨-, e⟩ <;> rw [e] <;> omega
    refine Or.inr (Or.inr ⟨a2, by omega, o5.2, o5.1, t5.2, t5.1, fun (e : one = other) => by rcases ho with ⟨x, y⟩ | ⟨x, y⟩ <;> omega, ?_, ?_, ?_⟩)
    · show zg_in (zg_mv _ one other (r 12) one)
      rw [hv one o5.1]; exact hin one (by rcases ho with ⟨e, -⟩ | ⟨e, -⟩ <;> rw [e] <;> simp)
    · show zg_in (zg_mv _ one other (r 12) other)
      rw [hv other t5.1]; exact hin other (by rcases ho with ⟨-, e⟩ | ⟨-, e⟩ <;> rw [e] <;> simp)
    · refine zg_cong (fun j x y => ?_) (fun q x y => ?_) q10
      · rw [zg_row_lt (by omega), zg_row_lt (by omega)]
      · exact hv q y
  refine ⟨_, List.mem_singleton.mpr rfl, r, fun _ _ => rfl, zq_MeS_mk rfl hT zq_all_nil zq_fan zq_fan rfl (zg_mk hX b ?_ ?_ ?_ ?_ ?_ ?_)⟩ <;> simp only [zq_ev_v, zq_ev_k, zq_ev_addk]
  · omega
  · omega
  · omega
  · omega
  · omega
  · rw [show (r 5 + 1).toNat = (r 5).toNat + 1 by omega]
    cases s with
    | false =>
      simp only [cond_false, zq_ev_v, zq_ev_sub, zq_ev_add] at s2 s3 s5 s6
      refine key (r 7) (r 9) s2 s3 (Or.inl ⟨rfl, rfl⟩) fun q => ?_
      unfold zg_mv zg_ov
      by_cases c1 : q = r 7
      · rw [if_neg (by omega), if_pos c1, if_pos c1, c1, s5]; omega
      · by_cases c2 : q = r 9
        · rw [if_pos c2, if_neg c1, if_neg c1, if_pos c2, c2, s6]; omega
        · rw [if_neg c2, if_neg c1, if_neg c1, if_neg c2]; omega
    | true =>
      simp only [cond_true, zq_ev_v, zq_ev_sub, zq_ev_add] at s2 s3 s5 s6
      refine key (r 9) (r 7) s2 s3 (Or.inr ⟨rfl, rfl⟩) fun q => ?_
      unfold zg_mv zg_ov
      by_cases c1 : q = r 7
      · rw [if_pos c1, if_neg (by omega), if_pos c1, c1, s5]; omega
      · by_cases c2 : q = r 9
        · rw [if_neg c1, if_pos c2, if_neg c1, if_pos c2, c2, s6]; omega
        · rw [if_neg c1, if_neg c2, if_neg c1, if_neg c2]; omega
