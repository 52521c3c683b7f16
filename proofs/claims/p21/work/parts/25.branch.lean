/-! BRANCHES: the states that may follow -/
noncomputable def zq_eqr (x y : zq_L) : List zq_L := [zq_sub x y, zq_sub y x]
noncomputable def zq_ltr (x y : zq_L) : List zq_L := [zq_addk (zq_sub y x) (-1)]
noncomputable def zq_ler (x y : zq_L) : List zq_L := [zq_sub y x]
/-- 'x is not y': 0 two cases, 1 nothing is said, 2 x ≤ y is proved, 3 y ≤ x is proved -/
noncomputable def zq_ner (C : List zq_L) (x y : zq_L) : List Nat → Option (List (List zq_L) × List Nat)
  | 0 :: q => some ([zq_ltr x y, zq_ltr y x], q)
  | 1 :: q => some ([[]], q)
  | 2 :: q => match zq_prove C (zq_sub y x) q with
    | some q => some ([zq_ltr x y], q)
    | none => none
  | 3 :: q => match zq_prove C (zq_sub x y) q with
    | some q => some ([zq_ltr y x], q)
    | none => none
  | _ => none
theorem zq_ner_ok {C : List zq_L} {x y : zq_L} {q q' : List Nat} {a : List (List zq_L)} {r : Nat → Int} {n : Nat} (h : zq_ner C x y q = some (a, q')) (hC : zq_all r C) (bx : zq_bd n x = true) (b : zq_bd n y = true) (hne : zq_ev r x ≠ zq_ev r y) : ∃ rows ∈ a, zq_all r rows ∧ ∀ c ∈ rows, zq_bd n c = true := by
  have l1 : zq_ev r x < zq_ev r y → zq_all r (zq_ltr x y) := fun z c hc => by
    rw [List.mem_singleton.mp hc, zq_ev_addk, zq_ev_sub]; omega
  have l2 : zq_ev r y < zq_ev r x → zq_all r (zq_ltr y x) := fun z c hc => by
    rw [List.mem_singleton.mp hc, zq_ev_addk, zq_ev_sub]; omega
  have d1 : ∀ c ∈ zq_ltr x y, zq_bd n c = true := fun c hc => by rw [List.mem_singleton.mp hc]; exact zq_bd_addk (zq_bd_sub b bx)
  have d2 : ∀ c ∈ zq_ltr y x, zq_bd n c = true := fun c hc => by rw [List.mem_singleton.mp hc]; exact zq_bd_addk (zq_bd_sub bx b)
  unfold zq_ner at h
  split at h
  · cases h
    rcases Int.lt_or_gt_of_ne hne with z | z
    · exact ⟨_, List.mem_cons_self, l1 z, d1⟩
    · exact ⟨_, List.mem_cons_of_mem _ List.mem_cons_self, l2 z, d2⟩
  · cases h
    exact ⟨[], List.mem_cons_self, fun c hc => (by cases hc), fun c hc => (by cases hc)⟩
  · split at h
    · rename_i q1 hq1
      cases h
      have z := zq_prove_ok hq1 hC
      rw [zq_ev_sub] at z
      exact ⟨_, List.mem_cons_self, l1 (by omega), d1⟩
    · cases h
  · split at h
    · rename_i q1 hq1
      cases h
      have z := zq_prove_ok hq1 hC
      rw [zq_ev_sub] at z
      exact ⟨_, List.mem_cons_self, l2 (by omega), d2⟩
    · cases h
  · cases h
/-- rows of the branch that is taken, and of that which isn't -/
noncomputable def zq_cmp (C : List zq_L) (cd : ClassFile.Cond) (x y : zq_L) (q : List Nat) : Option (List (List zq_L) × List (List zq_L) × List Nat) := match cd with
  | .eq => match zq_ner C x y q with
    | some (a, q) => some ([zq_eqr x y], a, q)
    | none => none
  | .ne => match zq_ner C x y q with
    | some (a, q) => some (a, [zq_eqr x y], q)
    | none => none
  | .lt => some ([zq_ltr x y], [zq_ler y x], q)
  | .ge => some ([zq_ler y x], [zq_ltr x y], q)
  | .gt => some ([zq_ltr y x], [zq_ler x y], q)
  | .le => some ([zq_ler x y], [zq_ltr y x], q)
noncomputable def zq_hold (cd : ClassFile.Cond) (x y : Int) : Prop := match cd with
  | .eq => x = y
  | .ne => x ≠ y
  | .lt => x < y
  | .ge => y ≤ x
  | .gt => y < x
  | .le => x ≤ y
theorem zq_cmp_ok {C : List zq_L} {cd : ClassFile.Cond} {x y : zq_L} {q q' : List Nat} {a b : List (List zq_L)} {r : Nat → Int} {n : Nat} (h : zq_cmp C cd x y q = some (a, b, q')) (hC : zq_all r C) (bx : zq_bd n x = true) (hb : zq_bd n y = true) :
    (zq_hold cd (zq_ev r x) (zq_ev r y) → ∃ rows ∈ a, zq_all r rows ∧ ∀ c ∈ rows, zq_bd n c = true) ∧ (¬ zq_hold cd (zq_ev r x) (zq_ev r y) → ∃ rows ∈ b, zq_all r rows ∧ ∀ c ∈ rows, zq_bd n c = true) := by
  have e1 : zq_ev r x = zq_ev r y → zq_all r (zq_eqr x y) := fun z c hc => by
    simp only [zq_eqr, List.mem_cons, List.not_mem_nil, or_false] at hc
    rcases hc with rfl | rfl <;> rw [zq_ev_sub] <;> omega
  have e2 : ∀ c ∈ zq_eqr x y, zq_bd n c = true := fun c hc => by
    simp only [zq_eqr, List.mem_cons, List.not_mem_nil, or_false] at hc
    rcases hc with rfl | rfl
    · exact zq_bd_sub bx hb
    · exact zq_bd_sub hb bx
  have l1 : zq_ev r x < zq_ev r y → zq_all r (zq_ltr x y) := fun z c hc => by
    rw [List.mem_singleton.mp hc, zq_ev_addk, zq_ev_sub]; omega
  have l2 : zq_ev r y < zq_ev r x → zq_all r (zq_ltr y x) := fun z c hc => by
    rw [List.mem_singleton.mp hc, zq_ev_addk, zq_ev_sub]; omega
  have d1 : ∀ c ∈ zq_ltr x y, zq_bd n c = true := fun c hc => by rw [List.mem_singleton.mp hc]; exact zq_bd_addk (zq_bd_sub hb bx)
  have d2 : ∀ c ∈ zq_ltr y x, zq_bd n c = true := fun c hc => by rw [List.mem_singleton.mp hc]; exact zq_bd_addk (zq_bd_sub bx hb)
  have m1 : zq_ev r x ≤ zq_ev r y → zq_all r (zq_ler x y) := fun z c hc => by
    rw [List.mem_singleton.mp hc, zq_ev_sub]; omega
  have m2 : zq_ev r y ≤ zq_ev r x → zq_all r (zq_ler y x) := fun z c hc => by
    rw [List.mem_singleton.mp hc, zq_ev_sub]; omega
  have f1 : ∀ c ∈ zq_ler x y, zq_bd n c = true := fun c hc => by rw [List.mem_singleton.mp hc]; exact zq_bd_sub hb bx
  have f2 : ∀ c ∈ zq_ler y x, zq_bd n c = true := fun c hc => by rw [List.mem_singleton.mp hc]; exact zq_bd_sub bx hb
  unfold zq_cmp at h
  split at h
  · split at h
    · rename_i a0 q0 hn
      cases h
      exact ⟨fun z => ⟨_, List.mem_cons_self, e1 z, e2⟩, fun z => zq_ner_ok hn hC bx hb z⟩
    · cases h
  · split at h
    · rename_i a0 q0 hn
      cases h
      exact ⟨fun z => zq_ner_ok hn hC bx hb z, fun z => ⟨_, List.mem_cons_self, e1 (Classical.not_not.mp z), e2⟩⟩
    · cases h
  · cases h
    exact ⟨fun z => ⟨_, List.mem_cons_self, l1 z, d1⟩, fun z => ⟨_, List.mem_cons_self, m2 (Int.not_lt.mp z), f2⟩⟩
  · cases h
    exact ⟨fun z => ⟨_, List.mem_cons_self, m2 z, f2⟩, fun z => ⟨_, List.mem_cons_self, l1 (Int.not_le.mp z), d1⟩⟩
  · cases h
    exact ⟨fun z => ⟨_, List.mem_cons_self, l2 z, d2⟩, fun z => ⟨_, List.mem_cons_self, m1 (Int.not_lt.mp z), f1⟩⟩
  · cases h
    exact ⟨fun z => ⟨_, List.mem_cons_self, m1 z, f1⟩, fun z => ⟨_, List.mem_cons_self, l2 (Int.not_le.mp z), d2⟩⟩
section ZQBR
variable {p : Program} {l : Launch} {e : Env} {R : Room} {s : State} {m : MethodId} {args : Array Value} {below : List Frame} {meth : Method} {c : Code} {H : Heap} {locs : List Loc} {cells slots : Nat} {Q : State → Prop}
variable {cc : ByteArray} {pc : Nat} {ls : Array Slot} {rest : List Value}
theorem zq_icmpR {cd : ClassFile.Cond} {off : Int} {tgt : Nat} {x y : Int} (hexec : p.tables.exec = Jvm.exec) (hb : c.code = cc) (ix : zq_in 0 x) (iy : zq_in 0 y) (hdg : decode cc pc = .ok (.if_icmp cd off, 3)) (ht : (pc : Int) + off = (tgt : Int))
    (kt : zq_hold cd x y → W p l e R s m args below meth c H locs cells slots Q (F0 m tgt ls rest)) (kf : ¬ zq_hold cd x y → W p l e R s m args below meth c H locs cells slots Q (F0 m (pc + 3) ls rest)) : W p l e R s m args below meth c H locs cells slots Q (F0 m pc ls (zq_val 0 y :: zq_val 0 x :: rest)) := by
  have e1 := zq_o32 ix
  have e2 := zq_o32 iy
  have heq : Int32.ofInt x = Int32.ofInt y ↔ x = y := by rw [← Int32.toInt_inj, e1, e2]
  cases cd with
  | eq => exact lv_icmp_eq hexec hb hdg ht (fun z => kt (heq.mp z)) (fun z => kf (fun q => z (heq.mpr q)))
  | ne => exact lv_icmp_ne hexec hb hdg ht (fun z => kt (fun q => z (heq.mpr q))) (fun z => kf (fun q => q (heq.mp z)))
  | lt => exact lv_icmp_lt hexec hb hdg ht (fun z => kt (by rw [Int32.lt_iff_toInt_lt, e1, e2] at z; exact z)) (fun z => kf (by rw [Int32.lt_iff_toInt_lt, e1, e2] at z; exact z))
  | ge => exact lv_icmp_ge hexec hb hdg ht (fun z => kt (by have z : Int32.ofInt y ≤ Int32.ofInt x := z; rw [Int32.le_iff_toInt_le, e1, e2] at z; exact z)) (fun z => kf (by have z : ¬ Int32.ofInt y ≤ Int32.ofInt x := z; rw [Int32.le_iff_toInt_le, e1, e2] at z; exact z))
  | gt => exact lv_icmp_gt hexec hb hdg ht (fun z => kt (by have z : Int32.ofInt y < Int32.ofInt x := z; rw [Int32.lt_iff_toInt_lt, e1, e2] at z; exact z)) (fun z => kf (by have z : ¬ Int32.ofInt y < Int32.ofInt x := z; rw [Int32.lt_iff_toInt_lt, e1, e2] at z; exact z))
  | le => exact lv_icmp_le hexec hb hdg ht (fun z => kt (by rw [Int32.le_iff_toInt_le, e1, e2] at z; exact z)) (fun z => kf (by rw [Int32.le_iff_toInt_le, e1, e2] at z; exact z))
theorem zq_ifR {cd : ClassFile.Cond} {off : Int} {tgt : Nat} {x : Int} (hexec : p.tables.exec = Jvm.exec) (hb : c.code = cc) (ix : zq_in 0 x) (hdg : decode cc pc = .ok (.ifCond cd off, 3)) (ht : (pc : Int) + off = (tgt : Int))
    (kt : zq_hold cd x 0 → W p l e R s m args below meth c H locs cells slots Q (F0 m tgt ls rest)) (kf : ¬ zq_hold cd x 0 → W p l e R s m args below meth c H locs cells slots Q (F0 m (pc + 3) ls rest)) : W p l e R s m args below meth c H locs cells slots Q (F0 m pc ls (zq_val 0 x :: rest)) := by
  have e1 := zq_o32 ix
  have e2 : (0 : Int32).toInt = 0 := rfl
  have heq : Int32.ofInt x = 0 ↔ x = 0 := by rw [← Int32.toInt_inj, e1, e2]
  cases cd with
  | eq => exact lv_if_eq hexec hb hdg ht (fun z => kt (heq.mp z)) (fun z => kf (fun q => z (heq.mpr q)))
  | ne => exact lv_if_ne hexec hb hdg ht (fun z => kt (fun q => z (heq.mpr q))) (fun z => kf (fun q => q (heq.mp z)))
  | lt => exact lv_if_lt hexec hb hdg ht (fun z => kt (by rw [Int32.lt_iff_toInt_lt, e1, e2] at z; exact z)) (fun z => kf (by rw [Int32.lt_iff_toInt_lt, e1, e2] at z; exact z))
  | ge => exact lv_if_ge hexec hb hdg ht (fun z => kt (by have z : (0 : Int32) ≤ Int32.ofInt x := z; rw [Int32.le_iff_toInt_le, e1, e2] at z; exact z)) (fun z => kf (by have z : ¬ (0 : Int32) ≤ Int32.ofInt x := z; rw [Int32.le_iff_toInt_le, e1, e2] at z; exact z))
  | gt => exact lv_if_gt hexec hb hdg ht (fun z => kt (by have z : (0 : Int32) < Int32.ofInt x := z; rw [Int32.lt_iff_toInt_lt, e1, e2] at z; exact z)) (fun z => kf (by have z : ¬ (0 : Int32) < Int32.ofInt x := z; rw [Int32.lt_iff_toInt_lt, e1, e2] at z; exact z))
  | le => exact lv_if_le hexec hb hdg ht (fun z => kt (by rw [Int32.le_iff_toInt_le, e1, e2] at z; exact z)) (fun z => kf (by rw [Int32.le_iff_toInt_le, e1, e2] at z; exact z))
end ZQBR
