/-! MEMORY FACTS that hold in every world -/
/-- two facts of one place: equal values -/
def zq_glS : zq_S × List zq_S := (([], [], [], [], [((0, [(0, 1)]), (0, [(1, 1)]), (0, [(2, 1)])), ((0, [(0, 1)]), (0, [(1, 1)]), (0, [(3, 1)]))], [], [], 4), [([], [], [(0, [(2, 1), (3, -1)]), (0, [(2, -1), (3, 1)])], [], [], [], [], 4)])
theorem zq_glS_ok {w : zq_Wd} {r : Nat → Int} {P : zq_Ty} {h : zq_H} {H : Heap} (hM : zq_MeS w r P h H zq_glS.1) : ∃ po ∈ zq_glS.2, ∃ r', zq_ext zq_glS.1.2.2.2.2.2.2.2 r r' ∧ zq_MeS w r' P h H po := by
  obtain ⟨hT, hC, hF, hS, hR, hX⟩ := hM
  obtain ⟨-, -, -, a, ha, -, hv⟩ := hS _ (List.mem_cons_self ..)
  obtain ⟨-, -, -, b, hb, -, hu⟩ := hS _ (List.mem_cons_of_mem _ (List.mem_cons_self ..))
  have e : a = b := by
    have : (a : Int) = (b : Int) := ha.symm.trans hb
    omega
  subst e
  have e2 : r 2 = r 3 := by
    have := hv.symm.trans hu
    simpa [zq_ev, zq_ts] using this
  refine ⟨_, List.mem_cons_self .., r, fun _ _ => rfl, hT, ⟨?_, ?_⟩, ?_, ?_, ⟨?_, List.Pairwise.nil⟩, ?_⟩
  · intro c hc
    rcases List.mem_cons.mp hc with rfl | hc
    · simp [zq_ev, zq_ts]; omega
    · rcases List.mem_cons.mp hc with rfl | hc
      · simp [zq_ev, zq_ts]; omega
      · cases hc
  · intro c hc
    rcases List.mem_cons.mp hc with rfl | hc
    · rfl
    · rcases List.mem_cons.mp hc with rfl | hc
      · rfl
      · cases hc
  · intro x hx; cases hx
  · intro x hx; cases hx
  · intro x hx; cases hx
  · intro x hx; cases hx
