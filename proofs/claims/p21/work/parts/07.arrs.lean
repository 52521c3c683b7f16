/-! ARRAYS, one cell each -/
theorem zq_ix {z : Int} {n : Nat} (h1 : zq_in 0 z) (h2 : 0 ≤ z) (h3 : z < n) : (¬ (Int32.ofInt z < 0 ∨ n ≤ (Int32.ofInt z).toNatClampNeg)) ∧ (Int32.ofInt z).toNatClampNeg = z.toNat := by
  have e : (Int32.ofInt z).toInt = z := by
    unfold zq_in at h1
    exact Int32.toInt_ofInt_of_le (by have := h1.1; simp [zq_mn] at this; omega) (by have := h1.2; simp [zq_mx] at this; omega)
  have e2 : (Int32.ofInt z).toNatClampNeg = z.toNat := by rw [← Int32.toNat_toInt, e]
  refine ⟨fun q => ?_, e2⟩
  rcases q with q | q
  · rw [Int32.lt_iff_toInt_lt, e] at q
    have : (0 : Int32).toInt = 0 := rfl
    omega
  · rw [e2] at q; omega
theorem zq_len {z : Int} (h1 : zq_in 0 z) (h2 : 0 ≤ z) : (¬ Int32.ofInt z < 0) ∧ (Int32.ofInt z).toNatClampNeg = z.toNat := by
  have h := zq_ix (n := z.toNat + 1) h1 h2 (by omega)
  exact ⟨fun q => h.1 (Or.inl q), h.2⟩
section ZQARR
variable {p : Program} {l : Launch} {e : Env} {R : Room} {s : State} {m : MethodId} {args : Array Value} {below : List Frame} {meth : Method} {c : Code} {H : Heap} {locs : List Loc} {cells slots : Nat} {Q : State → Prop}
variable {cc : ByteArray} {pc : Nat} {ls : Array Slot} {rest : List Value} {a : Nat} {cA : ClassId} {n : Nat} {f : Nat → Value} {z : Int}
theorem zq_aldI (hexec : p.tables.exec = Jvm.exec) (hb : c.code = cc) (hcell : H[a]? = some (arrV cA n f)) (hA : ArrOfT s cA .int) (h1 : zq_in 0 z) (h2 : 0 ≤ z) (h3 : z < n) (hdg : decode cc pc = .ok (.iaload, 1))
    (kk : W p l e R s m args below meth c H locs cells slots Q (F0 m (pc + 1) ls (f z.toNat :: rest))) : W p l e R s m args below meth c H locs cells slots Q (F0 m pc ls (.int (Int32.ofInt z) :: .ref a :: rest)) := by
  have q := zq_ix h1 h2 h3
  exact W.iald hexec hb hcell (hA n f) (fun h => by cases h) (by rw [arrV_size]; exact q.1) (by rw [q.2]; exact arrV_read cA f (by omega)) rfl rfl hdg kk
theorem zq_aldB (hexec : p.tables.exec = Jvm.exec) (hb : c.code = cc) (hcell : H[a]? = some (arrV cA n f)) (hA : ArrOfT s cA .byte ∨ ArrOfT s cA .boolean) (h1 : zq_in 0 z) (h2 : 0 ≤ z) (h3 : z < n) (hdg : decode cc pc = .ok (.baload, 1))
    (kk : W p l e R s m args below meth c H locs cells slots Q (F0 m (pc + 1) ls (f z.toNat :: rest))) : W p l e R s m args below meth c H locs cells slots Q (F0 m pc ls (.int (Int32.ofInt z) :: .ref a :: rest)) := by
  have q := zq_ix h1 h2 h3
  rcases hA with hA | hA
  · exact W.bald hexec hb hcell (hA n f) (fun h => by cases h) (by rw [arrV_size]; exact q.1) (by rw [q.2]; exact arrV_read cA f (by omega)) rfl rfl hdg kk
  · exact W.zald hexec hb hcell (hA n f) (fun h => by cases h) (by rw [arrV_size]; exact q.1) (by rw [q.2]; exact arrV_read cA f (by omega)) rfl rfl hdg kk
theorem zq_aldL (hexec : p.tables.exec = Jvm.exec) (hb : c.code = cc) (hcell : H[a]? = some (arrV cA n f)) (hA : ArrOfT s cA .long) (h1 : zq_in 0 z) (h2 : 0 ≤ z) (h3 : z < n) (hdg : decode cc pc = .ok (.laload, 1))
    (kk : W p l e R s m args below meth c H locs cells slots Q (F0 m (pc + 1) ls (f z.toNat :: rest))) : W p l e R s m args below meth c H locs cells slots Q (F0 m pc ls (.int (Int32.ofInt z) :: .ref a :: rest)) := by
  have q := zq_ix h1 h2 h3
  exact W.lald hexec hb hcell (hA n f) (fun h => by cases h) (by rw [arrV_size]; exact q.1) (by rw [q.2]; exact arrV_read cA f (by omega)) rfl rfl hdg kk
theorem zq_aldA {C : String} (hexec : p.tables.exec = Jvm.exec) (hb : c.code = cc) (hcell : H[a]? = some (arrV cA n f)) (hA : ArrOfT s cA (.object C)) (h1 : zq_in 0 z) (h2 : 0 ≤ z) (h3 : z < n) (hdg : decode cc pc = .ok (.aaload, 1))
    (kk : W p l e R s m args below meth c H locs cells slots Q (F0 m (pc + 1) ls (f z.toNat :: rest))) : W p l e R s m args below meth c H locs cells slots Q (F0 m pc ls (.int (Int32.ofInt z) :: .ref a :: rest)) := by
  have q := zq_ix h1 h2 h3
  exact W.aald hexec hb hcell (hA n f) rfl (fun h => by cases h) (by rw [arrV_size]; exact q.1) (by rw [q.2]; exact arrV_read cA f (by omega)) rfl rfl hdg kk
theorem zq_astI {x : Int32} (hexec : p.tables.exec = Jvm.exec) (hb : c.code = cc) (hcell : H[a]? = some (arrV cA n f)) (hA : ArrOfT s cA .int) (h1 : zq_in 0 z) (h2 : 0 ≤ z) (h3 : z < n) (hdg : decode cc pc = .ok (.iastore, 1))
    (kk : ∀ (H1 : Heap), H1[a]? = some (arrV cA n (updV f z.toNat (.int x))) → H1.size = H.size → (∀ q : Nat, q ≠ a → H1[q]? = H[q]?) → W p l e R s m args below meth c H1 (locs ++ [⟨a, z.toNat⟩]) cells slots Q (F0 m (pc + 1) ls rest)) : W p l e R s m args below meth c H locs cells slots Q (F0 m pc ls (.int x :: .int (Int32.ofInt z) :: .ref a :: rest)) := by
  have q := zq_ix h1 h2 h3
  refine W.iast hexec hb hcell (hA n f) (fun h => by cases h) (by rw [arrV_size]; exact q.1) rfl rfl hdg fun H1 e1 e2 e3 => ?_
  rw [q.2] at e1 ⊢
  rw [arrV_store] at e1
  exact kk H1 e1 e2 e3
theorem zq_astB {x : Int32} (hexec : p.tables.exec = Jvm.exec) (hb : c.code = cc) (hcell : H[a]? = some (arrV cA n f)) (hA : (ArrOfT s cA .byte ∧ narrow .byte (.int x) = .int x) ∨ (ArrOfT s cA .boolean ∧ narrow .boolean (.int x) = .int x)) (h1 : zq_in 0 z) (h2 : 0 ≤ z) (h3 : z < n) (hdg : decode cc pc = .ok (.bastore, 1))
    (kk : ∀ (H1 : Heap), H1[a]? = some (arrV cA n (updV f z.toNat (.int x))) → H1.size = H.size → (∀ q : Nat, q ≠ a → H1[q]? = H[q]?) → W p l e R s m args below meth c H1 (locs ++ [⟨a, z.toNat⟩]) cells slots Q (F0 m (pc + 1) ls rest)) : W p l e R s m args below meth c H locs cells slots Q (F0 m pc ls (.int x :: .int (Int32.ofInt z) :: .ref a :: rest)) := by
  have q := zq_ix h1 h2 h3
  rcases hA with ⟨hA, hx⟩ | ⟨hA, hx⟩
  · refine W.bast hexec hb hcell (hA n f) (fun h => by cases h) (by rw [arrV_size]; exact q.1) rfl rfl hdg fun H1 e1 e2 e3 => ?_
    rw [q.2] at e1 ⊢
    rw [hx, arrV_store] at e1
    exact kk H1 e1 e2 e3
  · refine W.zast hexec hb hcell (hA n f) (fun h => by cases h) (by rw [arrV_size]; exact q.1) rfl rfl hdg fun H1 e1 e2 e3 => ?_
    rw [q.2] at e1 ⊢
    rw [hx, arrV_store] at e1
    exact kk H1 e1 e2 e3
theorem zq_astL {x : Int64} (hexec : p.tables.exec = Jvm.exec) (hb : c.code = cc) (hcell : H[a]? = some (arrV cA n f)) (hA : ArrOfT s cA .long) (h1 : zq_in 0 z) (h2 : 0 ≤ z) (h3 : z < n) (hdg : decode cc pc = .ok (.lastore, 1))
    (kk : ∀ (H1 : Heap), H1[a]? = some (arrV cA n (updV f z.toNat (.long x))) → H1.size = H.size → (∀ q : Nat, q ≠ a → H1[q]? = H[q]?) → W p l e R s m args below meth c H1 (locs ++ [⟨a, z.toNat⟩]) cells slots Q (F0 m (pc + 1) ls rest)) : W p l e R s m args below meth c H locs cells slots Q (F0 m pc ls (.long x :: .int (Int32.ofInt z) :: .ref a :: rest)) := by
  have q := zq_ix h1 h2 h3
  refine W.last hexec hb hcell (hA n f) (fun h => by cases h) (by rw [arrV_size]; exact q.1) rfl rfl hdg fun H1 e1 e2 e3 => ?_
  rw [q.2] at e1 ⊢
  rw [arrV_store] at e1
  exact kk H1 e1 e2 e3
theorem zq_astN {C : String} (hexec : p.tables.exec = Jvm.exec) (hb : c.code = cc) (hcell : H[a]? = some (arrV cA n f)) (hA : ArrOfT s cA (.object C)) (h1 : zq_in 0 z) (h2 : 0 ≤ z) (h3 : z < n) (hdg : decode cc pc = .ok (.aastore, 1))
    (kk : ∀ (H1 : Heap), H1[a]? = some (arrV cA n (updV f z.toNat .null)) → H1.size = H.size → (∀ q : Nat, q ≠ a → H1[q]? = H[q]?) → W p l e R s m args below meth c H1 (locs ++ [⟨a, z.toNat⟩]) cells slots Q (F0 m (pc + 1) ls rest)) : W p l e R s m args below meth c H locs cells slots Q (F0 m pc ls (.null :: .int (Int32.ofInt z) :: .ref a :: rest)) := by
  have q := zq_ix h1 h2 h3
  refine va_WaastN (C := C) hexec hb hcell (hA n f) (fun h => by cases h) (by rw [arrV_size]; exact q.1) rfl rfl hdg fun H1 e1 e2 e3 => ?_
  rw [q.2] at e1 ⊢
  rw [arrV_store] at e1
  exact kk H1 e1 e2 e3
theorem zq_astA {D : va_G} {C : String} {T : u_T} {N ci v : Nat} {cl : List vw_C} {tys : List (ClassId × FieldType)} {V : Nat → Value} (hexec : p.tables.exec = Jvm.exec) (hb : c.code = cc) (hcell : H[a]? = some (arrV cA n f)) (hK : va_K D cl tys s) (hc : cl[ci]? = some (C, T, N)) (hR : va_RA s cA (.object C)) (hv : t_OB v (D.1 ci) N (D.2 ci) H V) (h1 : zq_in 0 z) (h2 : 0 ≤ z) (h3 : z < n) (hdg : decode cc pc = .ok (.aastore, 1))
    (kk : ∀ (H1 : Heap), H1[a]? = some (arrV cA n (updV f z.toNat (.ref v))) → H1.size = H.size → (∀ q : Nat, q ≠ a → H1[q]? = H[q]?) → W p l e R s m args below meth c H1 (locs ++ [⟨a, z.toNat⟩]) cells slots Q (F0 m (pc + 1) ls rest)) : W p l e R s m args below meth c H locs cells slots Q (F0 m pc ls (.ref v :: .int (Int32.ofInt z) :: .ref a :: rest)) := by
  have q := zq_ix h1 h2 h3
  obtain ⟨cellV, g1, g2, g3, -⟩ := hv
  have hcls := (hK.1 ci _ hc).2
  obtain ⟨kA, comp, k1, k2, k3, -⟩ := hR
  have hcomp : comp = D.1 ci := Option.some.inj (k3.symm.trans hcls.1)
  subst hcomp
  obtain ⟨kC, hkC, -⟩ := hcls.2
  refine W.aast hexec hb hcell (fun q h => by cases h) (fun h => by cases h) k1 k2 rfl hkC ⟨fun x => q.1 (Or.inl x), by rw [arrV_size, q.2]; omega⟩ g1 (fun q h => by rw [g3] at h; cases h) (by rw [g2]; exact hkC) (by rw [g2]; exact va_assign hcls) rfl rfl hdg fun H1 e1 e2 e3 => ?_
  rw [q.2] at e1 ⊢
  rw [arrV_store] at e1
  exact kk H1 e1 e2 e3
theorem zq_alenR {ty : FieldType} (hexec : p.tables.exec = Jvm.exec) (hb : c.code = cc) (hcell : H[a]? = some (arrV cA n f)) (hA : ArrOfT s cA ty) (hdg : decode cc pc = .ok (.arraylength, 1))
    (kk : W p l e R s m args below meth c H locs cells slots Q (F0 m (pc + 1) ls (.int (Int32.ofInt n) :: rest))) : W p l e R s m args below meth c H locs cells slots Q (F0 m pc ls (.ref a :: rest)) := by
  refine W.alen (n := Int32.ofInt n) hexec hb hcell (hA n f) ?_ rfl rfl hdg kk
  rw [arrV_size]
  rfl
theorem zq_newP {atype : ArrayType} {ty : FieldType} (hexec : p.tables.exec = Jvm.exec) (hb : c.code = cc) (harr : (Cond.arrayClass ty).before args s = true) (hty : newarray.typeOf atype = ty) (hR : s.vm.findClass ("[" ++ ty.toString) = some cA) (h1 : zq_in 0 z) (h2 : 0 ≤ z) (hbytes : z.toNat * componentBytes ty ≤ 536870912) (hcells : cells + 1 ≤ R.cells) (hslots : slots + z.toNat ≤ R.slots) (hdg : decode cc pc = .ok (.newarray atype, 2))
    (kk : ∀ (H1 : Heap), H1[H.size]? = some (arrV cA z.toNat (fun _ => defaultValue ty)) → H1.size = H.size + 1 → (∀ q : Nat, q < H.size → H1[q]? = H[q]?) → W p l e R s m args below meth c H1 locs (cells + 1) (slots + z.toNat) Q (F0 m (pc + 2) ls (.ref H.size :: rest))) : W p l e R s m args below meth c H locs cells slots Q (F0 m pc ls (.int (Int32.ofInt z) :: rest)) := by
  subst hty
  have q := zq_len h1 h2
  refine va_newaK hexec hb harr rfl hdg rfl q.1 q.2 hbytes hcells hslots rfl fun H1 cA' e1 e2 e3 e4 e5 => ?_
  have e : cA' = cA := Option.some.inj (e5.symm.trans hR)
  subst e
  exact kk H1 e1 e2 e3
theorem zq_newQ {own C : String} {index : Nat} (hexec : p.tables.exec = Jvm.exec) (hb : c.code = cc) (hown : s.vm.findClass own = some m.cls) (hclink : (Cond.classLink own index C).before args s = true) (hover : va_AO C s) (hR : s.vm.findClass ("[" ++ (FieldType.object C).toString) = some cA) (h1 : zq_in 0 z) (h2 : 0 ≤ z) (hbytes : z.toNat * 4 ≤ 536870912) (hcells : cells + 1 ≤ R.cells) (hslots : slots + z.toNat ≤ R.slots) (hdg : decode cc pc = .ok (.anewarray index, 3))
    (kk : ∀ (H1 : Heap), H1[H.size]? = some (arrV cA z.toNat (fun _ => .null)) → H1.size = H.size + 1 → (∀ q : Nat, q < H.size → H1[q]? = H[q]?) → W p l e R s m args below meth c H1 locs (cells + 1) (slots + z.toNat) Q (F0 m (pc + 3) ls (.ref H.size :: rest))) : W p l e R s m args below meth c H locs cells slots Q (F0 m pc ls (.int (Int32.ofInt z) :: rest)) := by
  have q := zq_len h1 h2
  refine W.anew hexec hb hown hclink (va_AO.use hover) rfl hdg rfl q.1 (by rw [q.2]; exact hbytes) hcells (by rw [q.2]; exact hslots) fun cA' kA comp f1 f2 f3 f4 => ?_
  have e : cA' = cA := Option.some.inj (f1.symm.trans hR)
  subst e
  rw [q.2]
  refine kk _ ?_ (by simp) (fun x hx => by rw [Array.getElem?_push, if_neg (Nat.ne_of_lt hx)])
  rw [← arrV_new]; simp
end ZQARR
