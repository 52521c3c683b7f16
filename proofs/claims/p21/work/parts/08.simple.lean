/-! INSTRUCTIONS THAT TOUCH LOCALS AND STACK ALONE, by groups, and their rows -/
/-- constants: entry of the pool, tag, number -/
abbrev zq_LD : Type := List (Nat × Nat × Int)
noncomputable def zq_ldf (t k : Nat) : zq_LD → Option Int
  | [] => none
  | x :: l => bif Nat.beq x.1 k && Nat.beq x.2.1 t then some x.2.2 else zq_ldf t k l
/-- a constant that is pushed: length, tag, number -/
noncomputable def zq_cst (LD : zq_LD) : Instr → Option (Nat × Nat × Int)
  | .iconst v => some (1, 0, v)
  | .bipush v => bif decide ((Int8.ofInt v).toInt32 = Int32.ofInt v) then some (2, 0, v) else none
  | .sipush v => bif decide ((Int16.ofInt v).toInt32 = Int32.ofInt v) then some (3, 0, v) else none
  | .lconst v => some (1, 1, (v.val : Int))
  | .ldc k => match zq_ldf 0 k LD with
    | some v => some (2, 0, v)
    | none => none
  | .ldc_w k => match zq_ldf 0 k LD with
    | some v => some (3, 0, v)
    | none => none
  | .ldc2_w k => match zq_ldf 1 k LD with
    | some v => some (3, 1, v)
    | none => none
  | .aconst_null => some (1, 2, -1)
  | _ => none
noncomputable def zq_ldv : Instr → Option (Nat × Nat × Nat)
  | .iload_n k => some (1, 0, k.val)
  | .iload k => some (2, 0, k)
  | .lload_n k => some (1, 1, k.val)
  | .lload k => some (2, 1, k)
  | .aload_n k => some (1, 2, k.val)
  | .aload k => some (2, 2, k)
  | _ => none
noncomputable def zq_stv : Instr → Option (Nat × Nat × Nat)
  | .istore_n k => some (1, 0, k.val)
  | .istore k => some (2, 0, k)
  | .lstore_n k => some (1, 1, k.val)
  | .lstore k => some (2, 1, k)
  | .astore_n k => some (1, 2, k.val)
  | .astore k => some (2, 2, k)
  | _ => none
/-- tag, operation -/
noncomputable def zq_bop : Instr → Option (Nat × Nat)
  | .iadd => some (0, 0)
  | .isub => some (0, 1)
  | .imul => some (0, 2)
  | .idiv => some (0, 3)
  | .irem => some (0, 4)
  | .iand => some (0, 5)
  | .ior => some (0, 6)
  | .ixor => some (0, 7)
  | .ishl => some (0, 8)
  | .ishr => some (0, 9)
  | .iushr => some (0, 10)
  | .ladd => some (1, 0)
  | .lsub => some (1, 1)
  | .lmul => some (1, 2)
  | .ldiv => some (1, 3)
  | .lrem => some (1, 4)
  | _ => none
noncomputable def zq_okD (own : String) (Ts : List Cond) (LD : zq_LD) : Prop := ∀ x ∈ LD, zq_rg x.2.1 x.2.2 ∧ (x.2.1 = 0 → Cond.constant own x.1 (Int32.ofInt x.2.2) ∈ Ts) ∧ (x.2.1 = 1 → Cond.constantLong own x.1 (Int64.ofInt x.2.2) ∈ Ts)
theorem zq_ldf_ok {t k : Nat} {v : Int} : ∀ {LD : zq_LD}, zq_ldf t k LD = some v → (k, t, v) ∈ LD
  | [], h => by cases h
  | x :: l, h => by
    unfold zq_ldf at h
    cases hc : (Nat.beq x.1 k && Nat.beq x.2.1 t) with
    | true =>
      rw [hc] at h
      simp only [Bool.and_eq_true] at hc
      have e1 := Nat.eq_of_beq_eq_true hc.1
      have e2 := Nat.eq_of_beq_eq_true hc.2
      have e3 : x.2.2 = v := Option.some.inj h
      rw [show (k, t, v) = x by rw [← e1, ← e2, ← e3]]
      exact List.mem_cons_self
    | false =>
      rw [hc] at h
      exact List.mem_cons_of_mem _ (zq_ldf_ok h)
section ZQSIM
variable {p : Program} {l : Launch} {e : Env} {R : Room} {s : State} {m : MethodId} {args : Array Value} {below : List Frame} {meth : Method} {c : Code} {H : Heap} {locs : List Loc} {cells slots : Nat} {Q : State → Prop}
variable {cc : ByteArray} {pc : Nat} {ls : Array Slot} {rest : List Value}
theorem zq_cstR {own : String} {Ts : List Cond} {LD : zq_LD} {i : Instr} {len t : Nat} {v : Int} (h : zq_cst LD i = some (len, t, v)) (hexec : p.tables.exec = Jvm.exec) (hb : c.code = cc) (hown : s.vm.findClass own = some m.cls) (hts : ∀ w ∈ Ts, w.before args s = true) (hD : zq_okD own Ts LD) (hdg : decode cc pc = .ok (i, len))
    (k : W p l e R s m args below meth c H locs cells slots Q (F0 m (pc + len) ls (zq_val t v :: rest))) : W p l e R s m args below meth c H locs cells slots Q (F0 m pc ls rest) := by
  unfold zq_cst at h
  split at h
  · cases h; exact lv_iconst hexec hb hdg rfl k
  · obtain ⟨q, e⟩ := zq_bif h; cases e; exact lv_bipush hexec hb hdg (of_decide_eq_true q) k
  · obtain ⟨q, e⟩ := zq_bif h; cases e; exact lv_sipush hexec hb hdg (of_decide_eq_true q) k
  · cases h; exact lv_lconst hexec hb hdg rfl k
  · split at h
    · rename_i v0 hv
      cases h
      exact lv_ldc hexec hb hown (hts _ ((hD _ (zq_ldf_ok hv)).2.1 rfl)) hdg k
    · cases h
  · split at h
    · rename_i v0 hv
      cases h
      exact lv_ldcw hexec hb hown (hts _ ((hD _ (zq_ldf_ok hv)).2.1 rfl)) hdg k
    · cases h
  · split at h
    · rename_i v0 hv
      cases h
      exact lv_ldc2 hexec hb hown (hts _ ((hD _ (zq_ldf_ok hv)).2.2 rfl)) hdg k
    · cases h
  · cases h; exact lv_null hexec hb hdg k
  · cases h
theorem zq_ldvR {i : Instr} {len t x : Nat} {z : Int} (h : zq_ldv i = some (len, t, x)) (hexec : p.tables.exec = Jvm.exec) (hb : c.code = cc) (hl : ls[x]? = some (.val (zq_val t z))) (hdg : decode cc pc = .ok (i, len))
    (k : W p l e R s m args below meth c H locs cells slots Q (F0 m (pc + len) ls (zq_val t z :: rest))) : W p l e R s m args below meth c H locs cells slots Q (F0 m pc ls rest) := by
  unfold zq_ldv at h
  split at h
  · cases h; exact lv_iload_n hexec hb hdg rfl hl k
  · cases h; exact lv_iload hexec hb hdg hl k
  · cases h; exact lv_lload_n hexec hb hdg rfl hl k
  · cases h; exact lv_lload hexec hb hdg hl k
  · cases h
    cases z with
    | ofNat a => exact lv_aload_n hexec hb hdg rfl hl k
    | negSucc a => exact lv_aload_nN hexec hb hdg rfl hl k
  · cases h
    cases z with
    | ofNat a => exact lv_aload hexec hb hdg hl k
    | negSucc a => exact lv_aloadN hexec hb hdg hl k
  · cases h
/-- what is left of the locals when one is stored -/
noncomputable def zq_flt (i t : Nat) (loc : List (Nat × Nat × zq_L)) : List (Nat × Nat × zq_L) := bif Nat.beq t 1 then loc.filter (fun q => !(q.1 == i) && (!(q.1 == i + 1) && !(q.1 + 1 == i && Nat.beq q.2.1 1))) else loc.filter (fun q => !(q.1 == i) && !(q.1 + 1 == i && Nat.beq q.2.1 1))
theorem zq_cat2 (t : Nat) (z : Int) : ((zq_val t z).category == 2) = Nat.beq t 1 := by
  rw [zq_val_cat]
  cases Nat.beq t 1 <;> rfl
theorem zq_stvR {i : Instr} {len t x nL : Nat} {z : Int} {r : Nat → Int} {loc : List (Nat × Nat × zq_L)} {ex : zq_L} (h : zq_stv i = some (len, t, x)) (hexec : p.tables.exec = Jvm.exec) (hb : c.code = cc) (hz : zq_ev r ex = z) (hl : lv_has ls nL (zq_lvs r loc)) (hx : x + (bif Nat.beq t 1 then 1 else 0) < nL) (hdg : decode cc pc = .ok (i, len))
    (k : ∀ ls' : Array Slot, lv_has ls' nL (zq_lvs r ((x, t, ex) :: zq_flt x t loc)) → W p l e R s m args below meth c H locs cells slots Q (F0 m (pc + len) ls' rest)) : W p l e R s m args below meth c H locs cells slots Q (F0 m pc ls (zq_val t z :: rest)) := by
  have e1 : ∀ x t : Nat, Nat.beq t 1 = false → (x, zq_val t z) :: (zq_lvs r loc).filter (fun q => !(q.1 == x) && !(q.1 + 1 == x && q.2.category == 2)) = zq_lvs r ((x, t, ex) :: zq_flt x t loc) := by
    intro x t ht
    unfold zq_flt zq_lvs
    rw [ht, List.filter_map, List.map_cons]
    simp only [cond_false, hz, Function.comp_def, zq_cat2]
  have e2 : ∀ x : Nat, (x, zq_val 1 z) :: (zq_lvs r loc).filter (fun q => !(q.1 == x) && (!(q.1 == x + 1) && !(q.1 + 1 == x && q.2.category == 2))) = zq_lvs r ((x, 1, ex) :: zq_flt x 1 loc) := by
    intro x
    unfold zq_flt zq_lvs
    rw [List.filter_map, List.map_cons]
    simp only [show Nat.beq 1 1 = true from rfl, cond_true, hz, Function.comp_def, zq_cat2]
  unfold zq_stv at h
  split at h
  · cases h; exact lv_istore_n hexec hb hdg rfl hl hx (e1 _ 0 rfl) k
  · cases h; exact lv_istore hexec hb hdg hl hx (e1 _ 0 rfl) k
  · cases h; exact lv_lstore_n hexec hb hdg rfl hl hx (e2 _) k
  · cases h; exact lv_lstore hexec hb hdg hl hx (e2 _) k
  · cases h
    cases z with
    | ofNat a => exact lv_astore_n hexec hb hdg rfl hl hx (e1 _ 2 rfl) k
    | negSucc a => exact lv_astore_nN hexec hb hdg rfl hl hx (e1 _ 2 rfl) k
  · cases h
    cases z with
    | ofNat a => exact lv_astore hexec hb hdg hl hx (e1 _ 2 rfl) k
    | negSucc a => exact lv_astoreN hexec hb hdg hl hx (e1 _ 2 rfl) k
  · cases h
theorem zq_iincR {nL x : Nat} {n : Int} {r : Nat → Int} {loc : List (Nat × Nat × zq_L)} {e0 ex : zq_L} (hexec : p.tables.exec = Jvm.exec) (hb : c.code = cc) (hm : (x, 0, e0) ∈ loc) (hz : Int32.ofInt (zq_ev r e0) + Int32.ofInt n = Int32.ofInt (zq_ev r ex)) (hl : lv_has ls nL (zq_lvs r loc)) (hx : x < nL) (hdg : decode cc pc = .ok (.iinc x n, 3))
    (k : ∀ ls' : Array Slot, lv_has ls' nL (zq_lvs r ((x, 0, ex) :: zq_flt x 0 loc)) → W p l e R s m args below meth c H locs cells slots Q (F0 m (pc + 3) ls' rest)) : W p l e R s m args below meth c H locs cells slots Q (F0 m pc ls rest) := by
  have e1 : (x, Value.int (Int32.ofInt (zq_ev r ex))) :: (zq_lvs r loc).filter (fun q => !(q.1 == x) && !(q.1 + 1 == x && q.2.category == 2)) = zq_lvs r ((x, 0, ex) :: zq_flt x 0 loc) := by
    unfold zq_flt zq_lvs
    rw [List.filter_map, List.map_cons]
    simp only [show Nat.beq 0 1 = false from rfl, cond_false, Function.comp_def, zq_cat2]
    rfl
  have h2 : (x, Value.int (Int32.ofInt (zq_ev r e0))) ∈ zq_lvs r loc := List.mem_map.mpr ⟨_, hm, rfl⟩
  obtain ⟨j, hj⟩ := List.getElem?_of_mem h2
  exact lv_iinc (k := j) hexec hb hdg hl hj hz hx e1 k
end ZQSIM
