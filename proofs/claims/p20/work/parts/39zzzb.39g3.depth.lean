/-! one deeper -/
noncomputable def zd_dp : zq_S × List zq_S := (([], [], [], [], [], [], [(400, [(0, [(0, 1)])])], 1), [([], [], [], [], [], [], [(401, [(1, [(0, 1)])])], 1)])
theorem zd_dp_ok {w : zq_Wd} {D : Int} (x0 : zj_is w 400 (fun q _ _ => D ≤ q 0)) (x1 : zj_is w 401 (fun q _ _ => D + 1 ≤ q 0)) : zq_okG1 w zd_dp := by
  refine ⟨rfl, rfl, zu_fac ⟨rfl, by decide⟩ zq_fan, ?_⟩
  intro r P h H hM
  obtain ⟨hT, hC, hF, hS, -, hK⟩ := hM
  have q0 : zq_ev r (0, [(0, 1)]) = r 0 := zu_e1 _ _
  have k1 : D ≤ zq_ev r (0, [(0, 1)]) := zj_use x0 hK
  rw [q0] at k1
  obtain ⟨r9, hr⟩ : ∃ r9 : Nat → Int, (∀ i, i < 1 → r9 i = r i) := ⟨r, fun i hi => rfl⟩
  have v0 : r9 0 = r 0 := hr 0 (by decide)
  have g1 : zq_ev r9 (1, [(0, 1)]) = r 0 + 1 := by simp only [zq_ev, zq_ts] <;> omega
  exact ⟨_, List.mem_cons_self .., r9, hr, zq_MeS_mk rfl hT (zq_all_nil) zq_fan (zq_fan) rfl (zu_fac ((x1 _ _ _).mpr (by show D + 1 ≤ zq_ev r9 (1, [(0, 1)]); omega)) zq_fan)⟩
