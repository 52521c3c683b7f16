/-- an array's cell, read without an instruction -/
theorem zq_glA_ok1 {w : zq_Wd} {k f N : Nat} {T : zq_T} {K : zq_K} (hK : w.2.2.2.1[k]? = some K) (h0 : K.1 = 1) (hT : zq_sty K f = some T) (hN : K.2.2.2.2.1.any (fun e => zq_eq e (-(N : Int), [(0, 1)])) = true) (hf : f < N) : zq_okG1 w (zq_glF k f T) := by
  refine ⟨rfl, rfl, ?_, ?_⟩
  · intro po hpo
    rw [List.mem_singleton.mp hpo]
    refine ⟨?_, Nat.le_succ _⟩
    unfold zq_wf
    cases Nat.blt T.1 2 <;> rfl
  · intro r P h H hM
    obtain ⟨hH, hC, hF, hS, hR, hX⟩ := hM
    have c0 : 0 ≤ r 0 := by
      have := hC.1 _ (List.mem_cons_self ..)
      simpa [zq_ev, zq_ts] using this
    have hP := (hF _ (List.mem_cons_self ..)).2 (r 0).toNat (by simp [zq_ev, zq_ts]; omega)
    obtain ⟨K', k1, k2, k3, k4, k5⟩ := hH _ _ hP
    have eK : K' = K := Option.some.inj (k1.symm.trans hK)
    subst eK
    have hsz : zq_size w K' (h (r 0).toNat) = h (r 0).toNat (-1) := by
      simp only [zq_size, h0]
    have hlen : (N : Int) ≤ h (r 0).toNat (-1) := by
      obtain ⟨e, he, hq⟩ := List.any_eq_true.mp hN
      have z := k5 e he
      rw [zq_eq_ok hq] at z
      have e1 : zq_re w K' h (r 0).toNat = fun _ => h (r 0).toNat (-1) := by
        unfold zq_re
        rw [h0]; rfl
      rw [e1] at z
      simp [zq_ev, zq_ts] at z
      omega
    obtain ⟨T', t1, t2⟩ := k4 f (by rw [hsz]; omega)
    have eT : T' = T := Option.some.inj (t1.symm.trans hT)
    subst eT
    obtain ⟨q1, q2, q3, q4⟩ := t2
    let r' := zq_up r 1 (h (r 0).toNat f)
    have e0 : r' 0 = r 0 := rfl
    have e1 : r' 1 = h (r 0).toNat f := rfl
    refine ⟨_, List.mem_cons_self .., r', fun i hi => ?_, hH, ⟨?_, ?_⟩, ?_, ?_, zq_okR_nil, zq_okX_nil⟩
    · have : i = 0 := by change i < 1 at hi; omega
      subst this; rfl
    · show zq_all r' (bif Nat.blt T'.1 2 then _ else _)
      cases hb : Nat.blt T'.1 2 with
      | true =>
        have hb : T'.1 < 2 := by simpa [Nat.blt_eq] using hb
        have q3 := q3 hb
        refine zq_all_cons ?_ (zq_all_cons ?_ zq_all_nil)
        · simp [zq_ev, zq_ts, e1]; omega
        · simp [zq_ev, zq_ts, e1]; omega
      | false =>
        refine zq_all_cons ?_ zq_all_nil
        simp [zq_ev, zq_ts, e1]; omega
    · show ∀ c ∈ (bif Nat.blt T'.1 2 then _ else _), zq_bd 2 c = true
      cases Nat.blt T'.1 2 <;> exact zq_all_bd rfl
    · show zq_okF r' P 2 (bif Nat.blt T'.1 2 then _ else _)
      cases hb : Nat.blt T'.1 2 with
      | true => exact zq_okF_nil
      | false =>
        have hb : 2 ≤ T'.1 := by
          have : ¬ T'.1 < 2 := fun z => by rw [show Nat.blt T'.1 2 = true from by simpa [Nat.blt_eq] using z] at hb; cases hb
          omega
        intro x hx
        rw [List.mem_singleton.mp hx]
        refine ⟨rfl, fun a ha => q4 hb a ?_⟩
        have : zq_ev r' (0, [(1, 1)]) = (a : Int) := ha
        simpa [zq_ev, zq_ts, e1] using this
    · intro x hx
      have hx := List.mem_singleton.mp hx
      subst hx
      refine ⟨rfl, rfl, rfl, (r 0).toNat, by simp [zq_ev, zq_ts, e0]; omega, (by rw [hP]; exact Option.some_ne_none _), by simp [zq_ev, zq_ts, e1]⟩
