/-! NEW CELLS -/
noncomputable def zq_hp (h : zq_H) (a : Nat) (f : Int → Int) : zq_H := fun b j => if b = a then f j else h b j
noncomputable def zq_Pp (P : zq_Ty) (a k : Nat) : zq_Ty := fun b => if b = a then some k else P b
theorem zq_hp_self (h : zq_H) (a : Nat) (f : Int → Int) : zq_hp h a f a = f := by funext j; simp [zq_hp]
theorem zq_hp_ne {h : zq_H} {a b : Nat} {f : Int → Int} (q : b ≠ a) : zq_hp h a f b = h b := by funext j; simp [zq_hp, q]
theorem zq_Pp_self (P : zq_Ty) (a k : Nat) : zq_Pp P a k a = some k := by simp [zq_Pp]
theorem zq_Pp_ne {P : zq_Ty} {a b k : Nat} (q : b ≠ a) : zq_Pp P a k b = P b := by simp [zq_Pp, q]
theorem zq_Pp_le {P : zq_Ty} {a k : Nat} (h : P a = none) : zq_le P (zq_Pp P a k) := fun b k' hb => by
  have hne : b ≠ a := fun e => by rw [e, h] at hb; cases hb
  rw [zq_Pp_ne hne]; exact hb
/-- rows of an object's kind speak of its fields, and of the lengths of arrays that fields hold which are never null -/
noncomputable def zq_okK (w : zq_Wd) : Prop := ∀ (k : Nat) (K : zq_K), w.2.2.2.1[k]? = some K → K.1 = 0 → ∀ rc, w.2.1[K.2.1]? = some rc → ∀ e ∈ K.2.2.2.2.1, ∀ t ∈ e.2, t.1 < rc.2.2 ∨ (t.1 - rc.2.2 < rc.2.2 ∧ ∃ T, zq_sty K (t.1 - rc.2.2) = some T ∧ 2 ≤ T.1 ∧ 0 ≤ T.2.1)
theorem zq_re_hp {w : zq_Wd} (hW : zq_okK w) {K : zq_K} {P : zq_Ty} {h : zq_H} {H : Heap} {a b k : Nat} {f : Int → Int} (hb : b ≠ a) (ha : P a = none) (hK : w.2.2.2.1[k]? = some K) (hc : zq_cell w K (h b) b H) (ht : ∀ i : Nat, (i : Int) < zq_size w K (h b) → ∃ T, zq_sty K i = some T ∧ zq_tok P T (h b i)) : ∀ e ∈ K.2.2.2.2.1, zq_ev (zq_re w K (zq_hp h a f) b) e = zq_ev (zq_re w K h b) e := by
  intro e he
  unfold zq_ev
  rw [zq_ts_cong]
  intro t htm
  by_cases h0 : K.1 = 0
  · obtain ⟨rc, hrc, -⟩ := zq_cell0 hc h0
    rw [zq_re0 h0 hrc, zq_re0 h0 hrc, zq_hp_ne hb]
    by_cases hi : t.1 < rc.2.2
    · rw [if_pos hi, if_pos hi]
    · rw [if_neg hi, if_neg hi]
      rcases hW k K hK h0 rc hrc e he t htm with q | ⟨q1, T, q2, q3, q4⟩
      · exact absurd q hi
      · obtain ⟨T', g1, g2⟩ := ht (t.1 - rc.2.2) (by rw [zq_size0 h0 hrc]; omega)
        have eT : T' = T := Option.some.inj (g1.symm.trans q2)
        subst eT
        have e1 : ((t.1 - rc.2.2 : Nat) : Int) = (t.1 : Int) - (rc.2.2 : Int) := by omega
        rw [e1] at g2
        have g3 := g2.2.1
        have hP := g2.2.2.2 q3 (h b ((t.1 : Int) - (rc.2.2 : Int))).toNat (by omega)
        have hne : (h b ((t.1 : Int) - (rc.2.2 : Int))).toNat ≠ a := fun z => by rw [z, ha] at hP; cases hP
        rw [zq_hp_ne hne]
  · obtain ⟨kx, hkx⟩ : ∃ kx, K.1 = kx + 1 := ⟨K.1 - 1, by omega⟩
    simp only [zq_re, hkx]
    rw [zq_hp_ne hb]
/-- a new typed cell beside the others -/
theorem zq_HT.add {w : zq_Wd} (hW : zq_okK w) {P : zq_Ty} {h : zq_H} {H H1 : Heap} {a k : Nat} {f : Int → Int} (q : zq_HT w P h H) (ha : P a = none) (oq : ∀ b : Nat, b ≠ a → P b ≠ none → H1[b]? = H[b]?) (hg : zq_good w (zq_Pp P a k) (zq_hp h a f) H1 a k) : zq_HT w (zq_Pp P a k) (zq_hp h a f) H1 := by
  intro b k' hb
  by_cases e : b = a
  · subst e
    rw [zq_Pp_self] at hb
    cases hb
    exact hg
  · rw [zq_Pp_ne e] at hb
    obtain ⟨K, g1, g2, g3, g4, g5⟩ := q b k' hb
    have hr := zq_re_hp hW (f := f) e ha g1 g2 g4
    refine ⟨K, g1, ?_, ?_, ?_, fun x hx => by rw [hr x hx]; exact g5 x hx⟩
    · rw [zq_hp_ne e]; exact g2.kept (oq b e (by rw [hb]; exact Option.some_ne_none _))
    · rw [zq_hp_ne e]; exact g3
    · rw [zq_hp_ne e]
      intro i hi
      obtain ⟨T, y1, y2⟩ := g4 i hi
      exact ⟨T, y1, y2.mono (zq_Pp_le ha)⟩
theorem zq_okF.le {r : Nat → Int} {P P' : zq_Ty} {n : Nat} {F : List (zq_L × Nat)} (q : zq_okF r P n F) (hP : zq_le P P') : zq_okF r P' n F := fun x hx => ⟨(q x hx).1, fun a ha => hP _ _ ((q x hx).2 a ha)⟩
theorem zq_okS.hp {r : Nat → Int} {P : zq_Ty} {h : zq_H} {n a k : Nat} {sto : zq_St} {f : Int → Int} (q : zq_okS r P h n sto) (ha : P a = none) : zq_okS r (zq_Pp P a k) (zq_hp h a f) n sto := fun x hx => by
  obtain ⟨b1, b2, b3, b, e1, e2, e3⟩ := q x hx
  have hne : b ≠ a := fun z => by rw [z] at e2; exact e2 ha
  exact ⟨b1, b2, b3, b, e1, by rw [zq_Pp_ne hne]; exact e2, by rw [zq_hp_ne hne]; exact e3⟩
noncomputable def zq_tkx (FX : zq_FX) (x : Nat × List zq_L) : Bool := (zq_fxo x.1 FX).isSome
theorem zq_okX.hp {w : zq_Wd} {FX : zq_FX} (hX : zq_okFX w FX) {r : Nat → Int} {P : zq_Ty} {h : zq_H} {n a k : Nat} {tok : List (Nat × List zq_L)} {f : Int → Int} (q : zq_okX w r P h n tok) (ha : P a = none) : zq_okX w r (zq_Pp P a k) (zq_hp h a f) n (tok.filter (zq_tkx FX)) := fun x hx => by
  obtain ⟨h1, h2⟩ := List.mem_filter.mp hx
  obtain ⟨rs, hrs⟩ := Option.isSome_iff_exists.mp h2
  refine ⟨(q x h1).1, hX _ (zq_fxo_ok hrs) _ P _ h _ (zq_Pp_le ha) (fun b k' j hb _ => ?_) (q x h1).2⟩
  have hne : b ≠ a := fun z => by rw [z, ha] at hb; cases hb
  rw [zq_hp_ne hne]
theorem zq_Fr.hp {M : zq_Ms} {r0 : Nat → Int} {P0 P : zq_Ty} {h0 h : zq_H} {H0 H H1 : Heap} {R0 : Nat → Prop} {locs : List Loc} (F : zq_Fr M r0 P0 h0 H0 R0 P h H locs) {a k : Nat} {f : Int → Int} (ha : P a = none) (hn : zq_nw H0 R0 a) (hz : H.size ≤ H1.size) (oq : ∀ b : Nat, b < H.size → H1[b]? = H[b]?) : zq_Fr M r0 P0 h0 H0 R0 (zq_Pp P a k) (zq_hp h a f) H1 locs := by
  refine ⟨⟨Nat.le_trans F.1.1 hz, fun b h1 h2 => by rw [oq b (Nat.lt_of_lt_of_le h1 F.1.1)]; exact F.1.2.1 b h1 h2, F.1.2.2⟩, fun b k' hb => zq_Pp_le ha _ _ (F.2.1 b k' hb), fun b k' j hb hm => ?_, fun b k' hb => ?_⟩
  · have hne : b ≠ a := fun z => by have := F.2.1 _ _ hb; rw [z, ha] at this; cases this
    rw [zq_hp_ne hne]; exact F.2.2.1 b k' j hb hm
  · by_cases e : b = a
    · subst e
      refine Or.inr ⟨?_, hn⟩
      cases hp : P0 b with
      | none => rfl
      | some k2 => have := F.2.1 _ _ hp; rw [ha] at this; cases this
    · rw [zq_Pp_ne e] at hb; exact F.2.2.2 b k' hb
theorem zq_Fr.grow {M : zq_Ms} {r0 : Nat → Int} {P0 P : zq_Ty} {h0 h : zq_H} {H0 H H1 : Heap} {R0 : Nat → Prop} {locs : List Loc} (F : zq_Fr M r0 P0 h0 H0 R0 P h H locs) (hz : H.size ≤ H1.size) (oq : ∀ b : Nat, b < H.size → H1[b]? = H[b]?) : zq_Fr M r0 P0 h0 H0 R0 P h H1 locs :=
  ⟨⟨Nat.le_trans F.1.1 hz, fun b h1 h2 => by rw [oq b (Nat.lt_of_lt_of_le h1 F.1.1)]; exact F.1.2.1 b h1 h2, F.1.2.2⟩, F.2.1, F.2.2.1, F.2.2.2⟩
/-- an object in the making: default values of its fields -/
noncomputable def zq_dfv (code : Nat) : Nat × zq_L := match code with
  | 1 => (1, zq_k 0)
  | 2 => (2, zq_k (-1))
  | _ => (0, zq_k 0)
theorem zq_dfv_ok {ty : FieldType} (h : zq_fcd ty ≠ 9) (r : Nat → Int) : defaultValue ty = zq_val (zq_dfv (zq_fcd ty)).1 (zq_ev r (zq_dfv (zq_fcd ty)).2) := by
  cases ty <;> simp [zq_fcd] at h <;> rfl
theorem zq_raw_lt {w : zq_Wd} {r : Nat → Int} {P : zq_Ty} {H : Heap} {n a : Nat} {x : zq_L × Nat × List (Nat × zq_L)} (q : zq_rawAt w r P H n x a) : a < H.size := by
  obtain ⟨-, -, -, -, g⟩ := q
  obtain ⟨rc, -, cell, hc, -⟩ := g 0 _ rfl
  exact (Array.getElem?_eq_some_iff.mp hc).1
