/-- an array's cell, read without an instruction -/
theorem zq_glA_ok1 {w : zq_Wd} {k f N : Nat} {T : zq_T} {K : zq_K} (hK : w.2.2.2.1[k]? = some K) (h0 : K.1 = 1) (hT : zq_sty K f = some T) (hN : K.2.2.2.2.1.any (fun e => zq_eq e (-(N : Int), [(0, 1)])) = true) (hf : f < N) : zq_okG1 w (zq_glF k f T) := by
  refine ⟨rfl, rfl, ?_, ?_⟩
  · intro po hpo
    rw [List.mem_singleton.mp hpo]
    refine ⟨?_, Nat.le_succ _⟩
    unfold zq_wf
    cases Nat.blt T.1 2 <;> rfl
  · intro r P h H hM
    obtain ⟨hH, hC, hF, hS, hR, hX⟩ := hM
    have c0 : 0 ≤ r 0 := by
      have := hC.1 _ (List.mem_cons_self ..)
      simpa [zq_ev, zq_ts] using this
    have hP := (hF _ (List.mem_cons_self ..)).2 (r 0).toNat (by simp [zq_ev, zq_ts]; omega)
    obtain ⟨K', k1, k2, k3, k4, k5⟩ := hH _ _ hP
    have eK : K' = K := Option.some.inj (k1.symm.trans hK)
    subst eK
    have hsz : zq_size w K' (h (r 0).toNat) = h (r 0).toNat (-1) := by
      simp only [zq_size, h0]
    have hlen : (N : Int) ≤ h (r 0).toNat (-1) := by
      obtain ⟨e, he, hq⟩ := List.any_eq_true.mp hN
      have z := k5 e he
      rw [zq_eq_ok hq] at z
      have e1 : zq_re w K' h (r 0).toNat = fun _ => h (r 0).toNat (-1) := by
        unfold zq_re
        rw [h0]; rfl
      rw [e1] at z
      simp [zq_ev, zq_ts] at z
      omega
    obtain ⟨T', t1, t2⟩ := k4 f (by rw [hsz]; omega)
    have eT : T' = T := Option.some.inj (t1.symm.trans hT)
    subst eT
    obtain ⟨q1, q2, q3, q4⟩ := t2
    let r' := zq_up r 1 (h (r 0).toNat f)
    have e0 : r' 0 = r 0 := rfl
    have e1 : r' 1 = h (r 0).toNat f := rfl
    refine ⟨_, List.mem_cons_self .., r', fun i hi => ?_, hH, ⟨?_, ?_⟩, ?_, ?_, zq_okR_nil, zq_okX_nil⟩
    · have : i = 0 := by change i < 1 at hi; omega
      subst this; rfl
    · show zq_all r' (bif Nat.blt T'.1 2 then _ else _)
      cases hb : Nat.blt T'.1 2 with
      | true =>
        have hb : T'.1 < 2 := by simpa [Nat.blt_eq] using hb
        have q3 := q3 hb
        refine zq_all_cons ?_ (zq_all_cons ?_ zq_all_nil)
        · simp [zq_ev, zq_ts, e1]; omega
        · simp [zq_ev, zq_ts, e1]; omega
      | false =>
        refine zq_all_cons ?_ zq_all_nil
        simp [zq_ev, zq_ts, e1]; omega
    · show ∀ c ∈ (bif Nat.blt T'.1 2 then _ else _), zq_bd 2 c = true
      cases Nat.blt T'.1 2 <;> exact zq_all_bd rfl
    · show zq_okF r' P 2 (bif Nat.blt T'.1 2 then _ else _)
      cases hb : Nat.blt T'.1 2 with
      | true => exact zq_okF_nil
      | false =>
        have hb : 2 ≤ T'.1 := by
          have : ¬ T'.1 < 2 := fun z => by rw [show Nat.blt T'.1 2 = true from by simpa [Nat.blt_eq] using z] at hb; cases hb
          omega
        intro x hx
        rw [List.mem_singleton.mp hx]
        refine ⟨rfl, fun a ha => q4 hb a ?_⟩
        have : zq_ev r' (0, [(1, 1)]) = (a : Int) := ha
        simpa [zq_ev, zq_ts, e1] using this
    · intro x hx
      have hx := List.mem_singleton.mp hx
      subst hx
      refine ⟨rfl, rfl, rfl, (r 0).toNat, by simp [zq_ev, zq_ts, e0]; omega, (by rw [hP]; exact Option.some_ne_none _), by simp [zq_ev, zq_ts, e1]⟩
/-- an array's cell at any place, read without an instruction -/
noncomputable def zq_glI (k N : Nat) (lo hi : Int) : zq_S × List zq_S := (([], [], [zq_v 0, zq_v 1, zq_sub (zq_k ((N : Int) - 1)) (zq_v 1)], [(zq_v 0, k)], [], [], [], 2),
  [([], [], [zq_addk (zq_v 2) (-lo), zq_sub (zq_k hi) (zq_v 2)], [], [(zq_v 0, zq_v 1, zq_v 2)], [], [], 3)])
theorem zq_glI_ok1 {w : zq_Wd} {k N : Nat} {lo hi : Int} {K : zq_K} {T : zq_T} (hK : w.2.2.2.1[k]? = some K) (h0 : K.1 = 1) (hT : K.2.2.2.1 = [(N, T)]) (hTe : T = (0, lo, hi, 0)) (hp : K.2.2.1 = 0) (hN : K.2.2.2.2.1.any (fun e => zq_eq e (-(N : Int), [(0, 1)])) = true) : zq_okG1 w (zq_glI k N lo hi) := by
  refine ⟨rfl, rfl, zq_fa1 ⟨rfl, by show 2 ≤ 3; omega⟩, ?_⟩
  intro r P h H hM
  obtain ⟨hH, hC, hF, -, -, -⟩ := hM
  have a0 := zq_all_1 hC.1
  have a1 := zq_all_1 (zq_all_t hC.1)
  have a2 := zq_all_1 (zq_all_t (zq_all_t hC.1))
  have b0 := zq_okF_1 hF a0
  simp only [zq_ev_v, zq_ev_sub, zq_ev_k] at a0 a1 a2 b0
  obtain ⟨K', k1, k2, k3, k4, k5⟩ := hH _ _ b0
  have eK : K' = K := Option.some.inj (k1.symm.trans hK)
  subst eK
  have hsz : zq_size w K' (h (r 0).toNat) = h (r 0).toNat (-1) := by simp only [zq_size, h0]
  have hlen : (N : Int) ≤ h (r 0).toNat (-1) := by
    obtain ⟨e, he, hq⟩ := List.any_eq_true.mp hN
    have z := k5 e he
    rw [zq_eq_ok hq] at z
    have e1 : zq_re w K' h (r 0).toNat = fun _ => h (r 0).toNat (-1) := by
      unfold zq_re
      rw [h0]; rfl
    rw [e1] at z
    simp [zq_ev, zq_ts] at z
    omega
  obtain ⟨T', t1, t2⟩ := k4 (r 1).toNat (by rw [hsz]; omega)
  have e1 : (((r 1).toNat : Nat) : Int) = r 1 := by omega
  rw [e1] at t2
  have eT : T' = T := by
    unfold zq_sty at t1
    rw [hp, hT] at t1
    simp only [show Nat.beq 0 0 = true from rfl, cond_true, zq_seg] at t1
    rw [show Nat.blt (r 1).toNat N = true from by simp only [Nat.blt_eq]; omega] at t1
    exact (Option.some.inj t1).symm
  subst eT
  obtain ⟨q1, q2, q3, q4⟩ := t2
  rw [hTe] at q2 q3
  have q3 := q3 (by show 0 < 2; omega)
  simp only at q2 q3
  let r' := zq_up r 2 (h (r 0).toNat (r 1))
  have v0 : r' 0 = r 0 := rfl
  have v1 : r' 1 = r 1 := rfl
  have v2 : r' 2 = h (r 0).toNat (r 1) := rfl
  have hx : zq_ext 2 r r' := fun i hi => by
    match i, hi with
    | 0, _ => rfl
    | 1, _ => rfl
  refine ⟨_, List.mem_singleton.mpr rfl, r', hx, zq_MeS_mk rfl hH (zq_all_cons ?_ (zq_all_cons ?_ zq_all_nil)) zq_fan (zq_fa1 ⟨(r 0).toNat, ?_, by rw [b0]; exact Option.some_ne_none _, ?_⟩) rfl zq_fan⟩
  · rw [zq_ev_addk, zq_ev_v, v2]; omega
  · rw [zq_ev_sub, zq_ev_k, zq_ev_v, v2]; omega
  · show zq_ev r' (zq_v 0) = _
    rw [zq_ev_v, v0]; omega
  · show h (r 0).toNat (zq_ev r' (zq_v 1)) = zq_ev r' (zq_v 2)
    rw [zq_ev_v, zq_ev_v, v1, v2]
