/-! MEMORY FACTS that hold in every world -/
/-- two facts of one place: equal values -/
noncomputable def zq_glS : zq_S × List zq_S := (([], [], [], [], [((0, [(0, 1)]), (0, [(1, 1)]), (0, [(2, 1)])), ((0, [(0, 1)]), (0, [(1, 1)]), (0, [(3, 1)]))], [], [], 4), [([], [], [(0, [(2, 1), (3, -1)]), (0, [(2, -1), (3, 1)])], [], [], [], [], 4)])
theorem zq_glS_ok {w : zq_Wd} {r : Nat → Int} {P : zq_Ty} {h : zq_H} {H : Heap} (hM : zq_MeS w r P h H zq_glS.1) : ∃ po ∈ zq_glS.2, ∃ r', zq_ext zq_glS.1.2.2.2.2.2.2.2 r r' ∧ zq_MeS w r' P h H po := by
  obtain ⟨hT, hC, hF, hS, hR, hX⟩ := hM
  obtain ⟨-, -, -, a, ha, -, hv⟩ := hS _ (List.mem_cons_self ..)
  obtain ⟨-, -, -, b, hb, -, hu⟩ := hS _ (List.mem_cons_of_mem _ (List.mem_cons_self ..))
  have e : a = b := by
    have : (a : Int) = (b : Int) := ha.symm.trans hb
    omega
  subst e
  have e2 : r 2 = r 3 := by
    have := hv.symm.trans hu
    simpa [zq_ev, zq_ts] using this
  refine ⟨_, List.mem_cons_self .., r, fun _ _ => rfl, hT, ⟨?_, ?_⟩, ?_, ?_, ⟨?_, List.Pairwise.nil⟩, ?_⟩
  · intro c hc
    rcases List.mem_cons.mp hc with rfl | hc
    · simp [zq_ev, zq_ts]; omega
    · rcases List.mem_cons.mp hc with rfl | hc
      · simp [zq_ev, zq_ts]; omega
      · cases hc
  · intro c hc
    rcases List.mem_cons.mp hc with rfl | hc
    · rfl
    · rcases List.mem_cons.mp hc with rfl | hc
      · rfl
      · cases hc
  · intro x hx; cases hx
  · intro x hx; cases hx
  · intro x hx; cases hx
  · intro x hx; cases hx
noncomputable def zq_okG1 (w : zq_Wd) (x : zq_S × List zq_S) : Prop := zq_wf x.1 = true ∧ x.1.2.2.2.2.2.1 = [] ∧ (∀ po ∈ x.2, zq_wf po = true ∧ x.1.2.2.2.2.2.2.2 ≤ po.2.2.2.2.2.2.2) ∧ ∀ (r : Nat → Int) (P : zq_Ty) (h : zq_H) (H : Heap), zq_MeS w r P h H x.1 → ∃ po ∈ x.2, ∃ r', zq_ext x.1.2.2.2.2.2.2.2 r r' ∧ zq_MeS w r' P h H po
theorem zq_glS_ok1 {w : zq_Wd} : zq_okG1 w zq_glS := ⟨rfl, rfl, fun po hpo => by rw [List.mem_singleton.mp hpo]; exact ⟨rfl, Nat.le_refl _⟩, fun _ _ _ _ hM => zq_glS_ok hM⟩
/-- a state's memory part, row by row -/
theorem zq_all_cons {r : Nat → Int} {c : zq_L} {C : List zq_L} (h1 : 0 ≤ zq_ev r c) (h2 : zq_all r C) : zq_all r (c :: C) := fun x hx => by
  rcases List.mem_cons.mp hx with rfl | hx
  · exact h1
  · exact h2 x hx
theorem zq_all_nil {r : Nat → Int} : zq_all r [] := fun x hx => by cases hx
theorem zq_okS_nil {r : Nat → Int} {P : zq_Ty} {h : zq_H} {n : Nat} : zq_okS r P h n [] := fun x hx => by cases hx
theorem zq_okF_nil {r : Nat → Int} {P : zq_Ty} {n : Nat} : zq_okF r P n [] := fun x hx => by cases hx
theorem zq_okX_nil {w : zq_Wd} {r : Nat → Int} {P : zq_Ty} {h : zq_H} {n : Nat} : zq_okX w r P h n [] := fun x hx => by cases hx
theorem zq_okR_nil {w : zq_Wd} {r : Nat → Int} {P : zq_Ty} {H : Heap} {n : Nat} : zq_okR w r P H n [] := ⟨fun x hx => (by cases hx), List.Pairwise.nil⟩
theorem zq_all_bd {n : Nat} {C : List zq_L} (h : C.all (zq_bd n) = true) : ∀ c ∈ C, zq_bd n c = true := List.all_eq_true.mp h
/-- two facts of one array: their places differ, or all is the same -/
noncomputable def zq_glD : zq_S × List zq_S := (([], [], [], [], [((0, [(0, 1)]), (0, [(1, 1)]), (0, [(2, 1)])), ((0, [(0, 1)]), (0, [(3, 1)]), (0, [(4, 1)]))], [], [], 5),
  [([], [], [(-1, [(1, 1), (3, -1)])], [], [], [], [], 5), ([], [], [(-1, [(1, -1), (3, 1)])], [], [], [], [], 5), ([], [], [(0, [(1, 1), (3, -1)]), (0, [(1, -1), (3, 1)]), (0, [(2, 1), (4, -1)]), (0, [(2, -1), (4, 1)])], [], [], [], [], 5)])
theorem zq_glD_ok1 {w : zq_Wd} : zq_okG1 w zq_glD := by
  refine ⟨rfl, rfl, ?_, ?_⟩
  · intro po hpo
    rcases List.mem_cons.mp hpo with rfl | hpo
    · exact ⟨rfl, Nat.le_refl _⟩
    rcases List.mem_cons.mp hpo with rfl | hpo
    · exact ⟨rfl, Nat.le_refl _⟩
    rw [List.mem_singleton.mp hpo]; exact ⟨rfl, Nat.le_refl _⟩
  · intro r P h H hM
    obtain ⟨hT, hC, hF, hS, hR, hX⟩ := hM
    obtain ⟨-, -, -, a, ha, -, hv⟩ := hS _ (List.mem_cons_self ..)
    obtain ⟨-, -, -, b, hb, -, hu⟩ := hS _ (List.mem_cons_of_mem _ (List.mem_cons_self ..))
    have e : a = b := by
      have : (a : Int) = (b : Int) := ha.symm.trans hb
      omega
    subst e
    have hv : h a (r 1) = r 2 := by simpa [zq_ev, zq_ts] using hv
    have hu : h a (r 3) = r 4 := by simpa [zq_ev, zq_ts] using hu
    rcases Int.lt_trichotomy (r 1) (r 3) with z | z | z
    · refine ⟨_, List.mem_cons_of_mem _ (List.mem_cons_self ..), r, fun _ _ => rfl, hT, ⟨zq_all_cons (by simp [zq_ev, zq_ts]; omega) zq_all_nil, zq_all_bd rfl⟩, zq_okF_nil, zq_okS_nil, zq_okR_nil, zq_okX_nil⟩
    · have z2 : r 2 = r 4 := by rw [← hv, ← hu, z]
      refine ⟨_, List.mem_cons_of_mem _ (List.mem_cons_of_mem _ (List.mem_cons_self ..)), r, fun _ _ => rfl, hT, ⟨zq_all_cons (by simp [zq_ev, zq_ts]; omega) (zq_all_cons (by simp [zq_ev, zq_ts]; omega) (zq_all_cons (by simp [zq_ev, zq_ts]; omega) (zq_all_cons (by simp [zq_ev, zq_ts]; omega) zq_all_nil))), zq_all_bd rfl⟩, zq_okF_nil, zq_okS_nil, zq_okR_nil, zq_okX_nil⟩
    · refine ⟨_, List.mem_cons_self .., r, fun _ _ => rfl, hT, ⟨zq_all_cons (by simp [zq_ev, zq_ts]; omega) zq_all_nil, zq_all_bd rfl⟩, zq_okF_nil, zq_okS_nil, zq_okR_nil, zq_okX_nil⟩
/-- a field, read without an instruction -/
noncomputable def zq_glF (k f : Nat) (T : zq_T) : zq_S × List zq_S := (([], [], [(0, [(0, 1)])], [((0, [(0, 1)]), k)], [], [], [], 1),
  [([], [], (bif Nat.blt T.1 2 then [(-T.2.1, [(1, 1)]), (T.2.2.1, [(1, -1)])] else [(-T.2.1, [(1, 1)])]), (bif Nat.blt T.1 2 then [] else [((0, [(1, 1)]), T.2.2.2)]), [((0, [(0, 1)]), ((f : Int), []), (0, [(1, 1)]))], [], [], 2)])
theorem zq_glF_ok1 {w : zq_Wd} {k f : Nat} {T : zq_T} {K : zq_K} {rc : vw_C} (hK : w.2.2.2.1[k]? = some K) (h0 : K.1 = 0) (hT : zq_sty K f = some T) (hrc : w.2.1[K.2.1]? = some rc) (hf : f < rc.2.2) : zq_okG1 w (zq_glF k f T) := by
  refine ⟨rfl, rfl, ?_, ?_⟩
  · intro po hpo
    rw [List.mem_singleton.mp hpo]
    refine ⟨?_, Nat.le_succ _⟩
    unfold zq_wf
    cases Nat.blt T.1 2 <;> rfl
  · intro r P h H hM
    obtain ⟨hH, hC, hF, hS, hR, hX⟩ := hM
    have c0 : 0 ≤ r 0 := by
      have := hC.1 _ (List.mem_cons_self ..)
      simpa [zq_ev, zq_ts] using this
    have hP := (hF _ (List.mem_cons_self ..)).2 (r 0).toNat (by simp [zq_ev, zq_ts]; omega)
    obtain ⟨K', k1, k2, k3, k4, k5⟩ := hH _ _ hP
    have eK : K' = K := Option.some.inj (k1.symm.trans hK)
    subst eK
    have hsz : zq_size w K' (h (r 0).toNat) = (rc.2.2 : Int) := by
      simp only [zq_size, h0, hrc]
    obtain ⟨T', t1, t2⟩ := k4 f (by rw [hsz]; omega)
    have eT : T' = T := Option.some.inj (t1.symm.trans hT)
    subst eT
    obtain ⟨q1, q2, q3, q4⟩ := t2
    let r' := zq_up r 1 (h (r 0).toNat f)
    have e0 : r' 0 = r 0 := rfl
    have e1 : r' 1 = h (r 0).toNat f := rfl
    refine ⟨_, List.mem_cons_self .., r', fun i hi => ?_, hH, ⟨?_, ?_⟩, ?_, ?_, zq_okR_nil, zq_okX_nil⟩
    · have : i = 0 := by change i < 1 at hi; omega
      subst this; rfl
    · show zq_all r' (bif Nat.blt T'.1 2 then _ else _)
      cases hb : Nat.blt T'.1 2 with
      | true =>
        have hb : T'.1 < 2 := by simpa [Nat.blt_eq] using hb
        have q3 := q3 hb
        refine zq_all_cons ?_ (zq_all_cons ?_ zq_all_nil)
        · simp [zq_ev, zq_ts, e1]; omega
        · simp [zq_ev, zq_ts, e1]; omega
      | false =>
        refine zq_all_cons ?_ zq_all_nil
        simp [zq_ev, zq_ts, e1]; omega
    · show ∀ c ∈ (bif Nat.blt T'.1 2 then _ else _), zq_bd 2 c = true
      cases Nat.blt T'.1 2 <;> exact zq_all_bd rfl
    · show zq_okF r' P 2 (bif Nat.blt T'.1 2 then _ else _)
      cases hb : Nat.blt T'.1 2 with
      | true => exact zq_okF_nil
      | false =>
        have hb : 2 ≤ T'.1 := by
          have : ¬ T'.1 < 2 := fun z => by rw [show Nat.blt T'.1 2 = true from by simpa [Nat.blt_eq] using z] at hb; cases hb
          omega
        intro x hx
        rw [List.mem_singleton.mp hx]
        refine ⟨rfl, fun a ha => q4 hb a ?_⟩
        have : zq_ev r' (0, [(1, 1)]) = (a : Int) := ha
        simpa [zq_ev, zq_ts, e1] using this
    · intro x hx
      have hx := List.mem_singleton.mp hx
      subst hx
      refine ⟨rfl, rfl, rfl, (r 0).toNat, by simp [zq_ev, zq_ts, e0]; omega, (by rw [hP]; exact Option.some_ne_none _), by simp [zq_ev, zq_ts, e1]⟩
