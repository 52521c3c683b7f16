/-! VALUES as whole numbers, KINDS of cells, a typed heap -/
noncomputable def zq_val (t : Nat) (z : Int) : Value := match t with
  | 0 => .int (Int32.ofInt z)
  | 1 => .long (Int64.ofInt z)
  | _ => match z with
    | .ofNat a => .ref a
    | .negSucc _ => .null
noncomputable def zq_rg (t : Nat) (z : Int) : Prop := match t with
  | 0 => zq_in 0 z
  | 1 => zq_in 1 z
  | _ => -1 ≤ z
theorem zq_val_ref (t a : Nat) : zq_val (t + 2) (a : Int) = .ref a := rfl
theorem zq_val_null (t : Nat) : zq_val (t + 2) (-1) = .null := rfl
theorem zq_val_cat (t : Nat) (z : Int) : (zq_val t z).category = bif Nat.beq t 1 then 2 else 1 := by
  match t with
  | 0 => rfl
  | 1 => rfl
  | k + 2 => cases z <;> rfl
/-- a slot's type: tag (0 int, 1 long, 2 reference), from, to, kind of a reference -/
abbrev zq_T : Type := Nat × Int × Int × Nat
/-- a kind: is it an array (1), its class (of an array: the place in the list of array types), the period of its types, the types by places (each up to, without, a place), rows that hold of it, an array's tag -/
abbrev zq_K : Type := Nat × Nat × Nat × List (Nat × zq_T) × List zq_L × Nat
noncomputable def zq_seg (s : Nat) : List (Nat × zq_T) → Option zq_T
  | [] => none
  | x :: l => bif Nat.blt s x.1 then some x.2 else zq_seg s l
noncomputable def zq_sty (K : zq_K) (i : Nat) : Option zq_T := zq_seg (bif Nat.beq K.2.2.1 0 then i else i % K.2.2.1) K.2.2.2.1
noncomputable def zq_tg (K : zq_K) (i : Nat) : Nat := bif Nat.beq K.1 0 then (match zq_sty K i with
  | some T => T.1
  | none => 0) else K.2.2.2.2.2
abbrev zq_Ty : Type := Nat → Option Nat
abbrev zq_H : Type := Nat → Int → Int
/-- the world: class numbers and slots, classes, array types, kinds, what tokens say -/
abbrev zq_Wd : Type := va_G × List vw_C × List (ClassId × FieldType) × List zq_K × (Nat → List Int → zq_Ty → zq_H → Prop)
noncomputable def zq_tok (P : zq_Ty) (T : zq_T) (z : Int) : Prop := zq_rg T.1 z ∧ T.2.1 ≤ z ∧ (T.1 < 2 → z ≤ T.2.2.1) ∧ (2 ≤ T.1 → ∀ a : Nat, z = (a : Int) → P a = some T.2.2.2)
noncomputable def zq_fs (K : zq_K) (N : Nat) (f : Int → Int) : List Value := (List.range N).map (fun i => zq_val (zq_tg K i) (f i))
noncomputable def zq_cell (w : zq_Wd) (K : zq_K) (f : Int → Int) (a : Nat) (H : Heap) : Prop := match K.1 with
  | 0 => ∃ r : vw_C, w.2.1[K.2.1]? = some r ∧ t_OB a (w.1.1 K.2.1) r.2.2 (w.1.2 K.2.1) H (fun i => zq_val (zq_tg K i) (f i))
  | _ => ∃ cA ty, w.2.2.1[K.2.1]? = some (cA, ty) ∧ H[a]? = some (arrV cA (f (-1)).toNat (fun i => zq_val K.2.2.2.2.2 (f i)))
/-- how many slots -/
noncomputable def zq_size (w : zq_Wd) (K : zq_K) (f : Int → Int) : Int := match K.1 with
  | 0 => match w.2.1[K.2.1]? with
    | some r => (r.2.2 : Int)
    | none => 0
  | _ => f (-1)
/-- what the variables of a kind's rows are: of an object its fields, then its arrays' lengths; of an array its length -/
noncomputable def zq_re (w : zq_Wd) (K : zq_K) (h : zq_H) (a : Nat) : Nat → Int := match K.1 with
  | 0 => fun i => if (i : Int) < zq_size w K (h a) then h a i else h (h a (i - zq_size w K (h a))).toNat (-1)
  | _ => fun _ => h a (-1)
noncomputable def zq_good (w : zq_Wd) (P : zq_Ty) (h : zq_H) (H : Heap) (a k : Nat) : Prop :=
  ∃ K, w.2.2.2.1[k]? = some K ∧ zq_cell w K (h a) a H ∧ (K.1 ≠ 0 → 0 ≤ h a (-1) ∧ h a (-1) < 2 ^ 31) ∧ (∀ i : Nat, (i : Int) < zq_size w K (h a) → ∃ T, zq_sty K i = some T ∧ zq_tok P T (h a i)) ∧ ∀ e ∈ K.2.2.2.2.1, 0 ≤ zq_ev (zq_re w K h a) e
noncomputable def zq_HT (w : zq_Wd) (P : zq_Ty) (h : zq_H) (H : Heap) : Prop := ∀ a k, P a = some k → zq_good w P h H a k
noncomputable def zq_le (P P' : zq_Ty) : Prop := ∀ a k, P a = some k → P' a = some k
theorem zq_tok.mono {P P' : zq_Ty} (hP : zq_le P P') {T : zq_T} {z : Int} (h : zq_tok P T z) : zq_tok P' T z := ⟨h.1, h.2.1, h.2.2.1, fun q a e => hP _ _ (h.2.2.2 q a e)⟩
theorem zq_cell.kept {w : zq_Wd} {K : zq_K} {f : Int → Int} {a : Nat} {H H1 : Heap} (h : zq_cell w K f a H) (e : H1[a]? = H[a]?) : zq_cell w K f a H1 := by
  unfold zq_cell at *
  split at h
  · obtain ⟨r, h1, h2⟩ := h
    exact ⟨r, h1, h2.kept e⟩
  · obtain ⟨cA, ty, h1, h2⟩ := h
    exact ⟨cA, ty, h1, e.trans h2⟩
theorem zq_cell.lt {w : zq_Wd} {K : zq_K} {f : Int → Int} {a : Nat} {H : Heap} (h : zq_cell w K f a H) : a < H.size := by
  unfold zq_cell at h
  split at h
  · obtain ⟨r, h1, cell, h2, -⟩ := h
    exact (Array.getElem?_eq_some_iff.mp h2).1
  · obtain ⟨cA, ty, h1, h2⟩ := h
    exact (Array.getElem?_eq_some_iff.mp h2).1
theorem zq_HT.lt {w : zq_Wd} {P : zq_Ty} {h : zq_H} {H : Heap} (q : zq_HT w P h H) {a k : Nat} (e : P a = some k) : a < H.size := by
  obtain ⟨K, -, hc, -⟩ := q a k e
  exact hc.lt
/-- the abstract state: locals (place, tag, expression), stack, rows, kinds of references, what cells hold (reference, place, value; place -1: an array's length), objects in the making (reference, class, fields), tokens, how many variables -/
abbrev zq_S : Type := List (Nat × Nat × zq_L) × List (Nat × zq_L) × List zq_L × List (zq_L × Nat) × List (zq_L × zq_L × zq_L) × List (zq_L × Nat × List (Nat × zq_L)) × List (Nat × List zq_L) × Nat
noncomputable def zq_lvs (r : Nat → Int) (loc : List (Nat × Nat × zq_L)) : List (Nat × Value) := loc.map (fun x => (x.1, zq_val x.2.1 (zq_ev r x.2.2)))
noncomputable def zq_sts (r : Nat → Int) (stk : List (Nat × zq_L)) : List Value := stk.map (fun x => zq_val x.1 (zq_ev r x.2))
noncomputable def zq_okF (r : Nat → Int) (P : zq_Ty) (n : Nat) (F : List (zq_L × Nat)) : Prop := ∀ x ∈ F, zq_bd n x.1 = true ∧ ∀ a : Nat, zq_ev r x.1 = (a : Int) → P a = some x.2
noncomputable def zq_okS (r : Nat → Int) (P : zq_Ty) (h : zq_H) (n : Nat) (sto : List (zq_L × zq_L × zq_L)) : Prop := ∀ x ∈ sto, zq_bd n x.1 = true ∧ zq_bd n x.2.1 = true ∧ zq_bd n x.2.2 = true ∧ ∃ a : Nat, zq_ev r x.1 = (a : Int) ∧ P a ≠ none ∧ h a (zq_ev r x.2.1) = zq_ev r x.2.2
noncomputable def zq_rawAt (w : zq_Wd) (r : Nat → Int) (P : zq_Ty) (H : Heap) (n : Nat) (x : zq_L × Nat × List (Nat × zq_L)) (a : Nat) : Prop :=
  zq_bd n x.1 = true ∧ (∀ y ∈ x.2.2, zq_bd n y.2 = true ∧ zq_rg y.1 (zq_ev r y.2)) ∧ zq_ev r x.1 = (a : Int) ∧ P a = none ∧ va_P w.1 w.2.1 [(a, .inr (x.2.1, x.2.2.map (fun y => zq_val y.1 (zq_ev r y.2))))] H
noncomputable def zq_okR (w : zq_Wd) (r : Nat → Int) (P : zq_Ty) (H : Heap) (n : Nat) (raw : List (zq_L × Nat × List (Nat × zq_L))) : Prop :=
  (∀ x ∈ raw, ∃ a : Nat, zq_rawAt w r P H n x a) ∧ raw.Pairwise (fun x y => zq_ev r x.1 ≠ zq_ev r y.1)
noncomputable def zq_okX (w : zq_Wd) (r : Nat → Int) (P : zq_Ty) (h : zq_H) (n : Nat) (tok : List (Nat × List zq_L)) : Prop := ∀ x ∈ tok, (∀ e ∈ x.2, zq_bd n e = true) ∧ w.2.2.2.2 x.1 (x.2.map (zq_ev r)) P h
/-- memory's part -/
noncomputable def zq_Me (w : zq_Wd) (r : Nat → Int) (P : zq_Ty) (h : zq_H) (H : Heap) (C : List zq_L) (F : List (zq_L × Nat)) (sto : List (zq_L × zq_L × zq_L)) (raw : List (zq_L × Nat × List (Nat × zq_L))) (tok : List (Nat × List zq_L)) (n : Nat) : Prop :=
  zq_HT w P h H ∧ (zq_all r C ∧ ∀ c ∈ C, zq_bd n c = true) ∧ zq_okF r P n F ∧ zq_okS r P h n sto ∧ zq_okR w r P H n raw ∧ zq_okX w r P h n tok
noncomputable def zq_okL (r : Nat → Int) (n : Nat) (loc : List (Nat × Nat × zq_L)) : Prop := ∀ x ∈ loc, zq_bd n x.2.2 = true ∧ zq_rg x.2.1 (zq_ev r x.2.2)
noncomputable def zq_okT (r : Nat → Int) (n : Nat) (stk : List (Nat × zq_L)) : Prop := ∀ x ∈ stk, zq_bd n x.2 = true ∧ zq_rg x.1 (zq_ev r x.2)
noncomputable def zq_G (w : zq_Wd) (nL : Nat) (r : Nat → Int) (P : zq_Ty) (h : zq_H) (H : Heap) (ls : Array Slot) (st : List Value) (S : zq_S) : Prop :=
  lv_has ls nL (zq_lvs r S.1) ∧ st = zq_sts r S.2.1 ∧ zq_okL r S.2.2.2.2.2.2.2 S.1 ∧ zq_okT r S.2.2.2.2.2.2.2 S.2.1 ∧ zq_Me w r P h H S.2.2.1 S.2.2.2.1 S.2.2.2.2.1 S.2.2.2.2.2.1 S.2.2.2.2.2.2.1 S.2.2.2.2.2.2.2
/-! more variables change nothing -/
theorem zq_okL.ext {r r' : Nat → Int} {n n' : Nat} (hn : n ≤ n') (he : zq_ext n r r') {loc : List (Nat × Nat × zq_L)} (h : zq_okL r n loc) : zq_okL r' n' loc := fun x hx => ⟨zq_bd_mono hn (h x hx).1, by rw [zq_ev_ext he (h x hx).1]; exact (h x hx).2⟩
theorem zq_okT.ext {r r' : Nat → Int} {n n' : Nat} (hn : n ≤ n') (he : zq_ext n r r') {stk : List (Nat × zq_L)} (h : zq_okT r n stk) : zq_okT r' n' stk := fun x hx => ⟨zq_bd_mono hn (h x hx).1, by rw [zq_ev_ext he (h x hx).1]; exact (h x hx).2⟩
theorem zq_lvs.ext {r r' : Nat → Int} {n : Nat} (he : zq_ext n r r') {loc : List (Nat × Nat × zq_L)} (h : zq_okL r n loc) : zq_lvs r' loc = zq_lvs r loc := by
  unfold zq_lvs
  exact List.map_congr_left fun x hx => by rw [zq_ev_ext he (h x hx).1]
theorem zq_sts.ext {r r' : Nat → Int} {n : Nat} (he : zq_ext n r r') {stk : List (Nat × zq_L)} (h : zq_okT r n stk) : zq_sts r' stk = zq_sts r stk := by
  unfold zq_sts
  exact List.map_congr_left fun x hx => by rw [zq_ev_ext he (h x hx).1]
theorem zq_all.ext {r r' : Nat → Int} {n : Nat} (he : zq_ext n r r') {C : List zq_L} (h : zq_all r C) (hb : ∀ c ∈ C, zq_bd n c = true) : zq_all r' C := fun c hc => by rw [zq_ev_ext he (hb c hc)]; exact h c hc
theorem zq_okF.ext {r r' : Nat → Int} {n n' : Nat} (hn : n ≤ n') (he : zq_ext n r r') {P : zq_Ty} {F : List (zq_L × Nat)} (h : zq_okF r P n F) : zq_okF r' P n' F := fun x hx => ⟨zq_bd_mono hn (h x hx).1, by rw [zq_ev_ext he (h x hx).1]; exact (h x hx).2⟩
theorem zq_okS.ext {r r' : Nat → Int} {n n' : Nat} (hn : n ≤ n') (he : zq_ext n r r') {P : zq_Ty} {h0 : zq_H} {sto : List (zq_L × zq_L × zq_L)} (h : zq_okS r P h0 n sto) : zq_okS r' P h0 n' sto := fun x hx => by
  obtain ⟨b1, b2, b3, q⟩ := h x hx
  refine ⟨zq_bd_mono hn b1, zq_bd_mono hn b2, zq_bd_mono hn b3, ?_⟩
  rw [zq_ev_ext he b1, zq_ev_ext he b2, zq_ev_ext he b3]; exact q
theorem zq_rawAt.ext {w : zq_Wd} {r r' : Nat → Int} {n n' : Nat} (hn : n ≤ n') (he : zq_ext n r r') {P : zq_Ty} {H : Heap} {x : zq_L × Nat × List (Nat × zq_L)} {a : Nat} (h : zq_rawAt w r P H n x a) : zq_rawAt w r' P H n' x a := by
  obtain ⟨b1, b2, q1, q2, q3⟩ := h
  refine ⟨zq_bd_mono hn b1, fun y hy => ⟨zq_bd_mono hn (b2 y hy).1, by rw [zq_ev_ext he (b2 y hy).1]; exact (b2 y hy).2⟩, by rw [zq_ev_ext he b1]; exact q1, q2, ?_⟩
  have e : x.2.2.map (fun y => zq_val y.1 (zq_ev r' y.2)) = x.2.2.map (fun y => zq_val y.1 (zq_ev r y.2)) := List.map_congr_left fun y hy => by rw [zq_ev_ext he (b2 y hy).1]
  rw [e]; exact q3
theorem zq_okR.ext {w : zq_Wd} {r r' : Nat → Int} {n n' : Nat} (hn : n ≤ n') (he : zq_ext n r r') {P : zq_Ty} {H : Heap} {raw : List (zq_L × Nat × List (Nat × zq_L))} (h : zq_okR w r P H n raw) : zq_okR w r' P H n' raw := by
  refine ⟨fun x hx => ?_, ?_⟩
  · obtain ⟨a, ha⟩ := h.1 x hx
    exact ⟨a, ha.ext hn he⟩
  · refine List.Pairwise.imp_of_mem ?_ h.2
    intro x y hx hy q
    obtain ⟨a, ha⟩ := h.1 x hx
    obtain ⟨b, hb⟩ := h.1 y hy
    rw [zq_ev_ext he ha.1, zq_ev_ext he hb.1]; exact q
theorem zq_okX.ext {w : zq_Wd} {r r' : Nat → Int} {n n' : Nat} (hn : n ≤ n') (he : zq_ext n r r') {P : zq_Ty} {h0 : zq_H} {tok : List (Nat × List zq_L)} (h : zq_okX w r P h0 n tok) : zq_okX w r' P h0 n' tok := fun x hx => by
  obtain ⟨b, q⟩ := h x hx
  refine ⟨fun e h => zq_bd_mono hn (b e h), ?_⟩
  rw [show x.2.map (zq_ev r') = x.2.map (zq_ev r) from List.map_congr_left fun e h => zq_ev_ext he (b e h)]
  exact q
theorem zq_Me.ext {w : zq_Wd} {r r' : Nat → Int} {n n' : Nat} (hn : n ≤ n') (he : zq_ext n r r') {P : zq_Ty} {h : zq_H} {H : Heap} {C : List zq_L} {F : List (zq_L × Nat)} {sto : List (zq_L × zq_L × zq_L)} {raw : List (zq_L × Nat × List (Nat × zq_L))} {tok : List (Nat × List zq_L)}
    (q : zq_Me w r P h H C F sto raw tok n) : zq_Me w r' P h H C F sto raw tok n' :=
  ⟨q.1, ⟨q.2.1.1.ext he q.2.1.2, fun c hc => zq_bd_mono hn (q.2.1.2 c hc)⟩, q.2.2.1.ext hn he, q.2.2.2.1.ext hn he, q.2.2.2.2.1.ext hn he, q.2.2.2.2.2.ext hn he⟩
/-- new rows -/
theorem zq_Me.rows {w : zq_Wd} {r : Nat → Int} {n : Nat} {P : zq_Ty} {h : zq_H} {H : Heap} {C C' : List zq_L} {F : List (zq_L × Nat)} {sto : List (zq_L × zq_L × zq_L)} {raw : List (zq_L × Nat × List (Nat × zq_L))} {tok : List (Nat × List zq_L)}
    (q : zq_Me w r P h H C F sto raw tok n) (h1 : zq_all r C') (h2 : ∀ c ∈ C', zq_bd n c = true) : zq_Me w r P h H (C' ++ C) F sto raw tok n :=
  ⟨q.1, ⟨fun c hc => (List.mem_append.mp hc).elim (h1 c) (q.2.1.1 c), fun c hc => (List.mem_append.mp hc).elim (h2 c) (q.2.1.2 c)⟩, q.2.2⟩
theorem zq_Me.row {w : zq_Wd} {r : Nat → Int} {n : Nat} {P : zq_Ty} {h : zq_H} {H : Heap} {C : List zq_L} {c : zq_L} {F : List (zq_L × Nat)} {sto : List (zq_L × zq_L × zq_L)} {raw : List (zq_L × Nat × List (Nat × zq_L))} {tok : List (Nat × List zq_L)}
    (q : zq_Me w r P h H C F sto raw tok n) (h1 : 0 ≤ zq_ev r c) (h2 : zq_bd n c = true) : zq_Me w r P h H (c :: C) F sto raw tok n :=
  q.rows (C' := [c]) (fun x hx => by rw [List.mem_singleton.mp hx]; exact h1) (fun x hx => by rw [List.mem_singleton.mp hx]; exact h2)
