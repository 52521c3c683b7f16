/-! THE READING of a text as one run over its tokens: the place where it can't go on, -1 without -/
noncomputable def zu_lm (m : Nat) : Bool := Nat.beq m 1 || (Nat.beq m 5 || Nat.beq m 12)
noncomputable def zu_lf (c : Int) : Bool := (decide (8 ≤ c) && decide (c ≤ 21)) || decide (c = 50)
/-- besides the table: 50 parts, numbers to 1000, 12 clauses -/
noncomputable def zu_ok (m : Nat) (lv cl c v : Int) : Prop := (zu_lm m = true → zu_lf c = true → lv < 50 ∧ (c = 50 → v ≤ 1000)) ∧ (m = 0 → cl < 12)
noncomputable def zu_nl (m : Nat) (lv c : Int) : Int := bif zu_lm m && zu_lf c then lv + 1 else lv
noncomputable def zu_nc (cl c : Int) : Int := bif decide (c = 159) then cl + 1 else cl
noncomputable def zu_run (n : Int) : List (Int × Int × Int × Int) → zx_Q → Int → Int → Int → Prop
  | [], q, _, _, r => (zx_acc q ∧ r = -1) ∨ (¬ zx_acc q ∧ r = n)
  | e :: L, q, lv, cl, r => (∃ t ∈ zx_T q.2.2.1, zx_fit t q e.2.2.1 e.2.2.2 ∧ zu_ok q.2.2.1 lv cl e.2.2.1 e.2.2.2 ∧ zu_run n L (zx_to t q) (zu_nl q.2.2.1 lv e.2.2.1) (zu_nc cl e.2.2.1) r) ∨ ((¬ ∃ t ∈ zx_T q.2.2.1, zx_fit t q e.2.2.1 e.2.2.2 ∧ zu_ok q.2.2.1 lv cl e.2.2.1 e.2.2.2) ∧ r = e.1)
theorem zu_run_ex {n : Int} : ∀ (L : List (Int × Int × Int × Int)) (q : zx_Q) (lv cl : Int), ∃ r, zu_run n L q lv cl r
  | [], q, lv, cl => by
    by_cases h : zx_acc q
    · exact ⟨-1, Or.inl ⟨h, rfl⟩⟩
    · exact ⟨n, Or.inr ⟨h, rfl⟩⟩
  | e :: L, q, lv, cl => by
    by_cases h : ∃ t ∈ zx_T q.2.2.1, zx_fit t q e.2.2.1 e.2.2.2 ∧ zu_ok q.2.2.1 lv cl e.2.2.1 e.2.2.2
    · obtain ⟨t, ht, hf, ho⟩ := h
      obtain ⟨r, hr⟩ := zu_run_ex L (zx_to t q) (zu_nl q.2.2.1 lv e.2.2.1) (zu_nc cl e.2.2.1)
      exact ⟨r, Or.inl ⟨t, ht, hf, ho, hr⟩⟩
    · exact ⟨e.1, Or.inr ⟨h, rfl⟩⟩
noncomputable def zu_res (o g n : Int) : Int := Classical.choose (zu_run_ex (n := n) (zu_TL g n) (o, 0, 0, 0, 0) 0 0)
theorem zu_res_ok (o g n : Int) : zu_run n (zu_TL g n) (o, 0, 0, 0, 0) 0 0 (zu_res o g n) := Classical.choose_spec (zu_run_ex (n := n) (zu_TL g n) (o, 0, 0, 0, 0) 0 0)
/-- two rows of the table that can't both fit, or are one -/
noncomputable def zu_dj (t t' : zx_R) : Bool := zx_eq t t' || (decide (t.1.2 < t'.1.1) || (decide (t'.1.2 < t.1.1) || (decide (0 ≤ t.2.2.1.1) && (decide (0 ≤ t'.2.2.1.1) && decide (t.2.2.1.1 ≠ t'.2.2.1.1)))))
theorem zu_dj_ok {t t' : zx_R} {q : zx_Q} {c v : Int} (h : zu_dj t t' = true) (h1 : zx_fit t q c v) (h2 : zx_fit t' q c v) : t = t' := by
  obtain ⟨a1, a2, -, a4, -⟩ := h1
  obtain ⟨b1, b2, -, b4, -⟩ := h2
  simp only [zu_dj, Bool.or_eq_true, Bool.and_eq_true, decide_eq_true_eq] at h
  rcases h with h | h | h | ⟨h3, h4, h5⟩
  · exact zx_eq_ok h
  · omega
  · omega
  · exact absurd ((a4 h3).symm.trans (b4 h4)) h5
theorem zu_run_go {n : Int} {e : Int × Int × Int × Int} {L : List (Int × Int × Int × Int)} {q : zx_Q} {lv cl r : Int} {t : zx_R} (hd : ((zx_T q.2.2.1).any (fun o => zx_eq o t) && (zx_T q.2.2.1).all (zu_dj t)) = true) (hf : zx_fit t q e.2.2.1 e.2.2.2) (ho : zu_ok q.2.2.1 lv cl e.2.2.1 e.2.2.2) (h : zu_run n (e :: L) q lv cl r) : zu_run n L (zx_to t q) (zu_nl q.2.2.1 lv e.2.2.1) (zu_nc cl e.2.2.1) r := by
  simp only [Bool.and_eq_true] at hd
  obtain ⟨t0, ht0, he⟩ := List.any_eq_true.mp hd.1
  rw [zx_eq_ok he] at ht0
  rcases h with ⟨t', ht', hf', -, hr⟩ | ⟨hn, -⟩
  · have := List.all_eq_true.mp hd.2 t' ht'
    rw [zu_dj_ok this hf hf']
    exact hr
  · exact absurd ⟨t, ht0, hf, ho⟩ hn
theorem zu_run_no {n : Int} {e : Int × Int × Int × Int} {L : List (Int × Int × Int × Int)} {q : zx_Q} {lv cl r : Int} (hn : ∀ t ∈ zx_T q.2.2.1, zx_fit t q e.2.2.1 e.2.2.2 → zu_ok q.2.2.1 lv cl e.2.2.1 e.2.2.2 → False) (h : zu_run n (e :: L) q lv cl r) : r = e.1 := by
  rcases h with ⟨t, ht, hf, ho, -⟩ | ⟨-, h⟩
  · exact (hn t ht hf ho).elim
  · exact h
/-- the value of a token and what a program has of it -/
noncomputable def zu_vv (x v : Int) : Prop := (v < 1001 ∧ x = v) ∨ (1001 ≤ v ∧ x = 1001)
/-- the token i, or the end: its place, its code, its value -/
noncomputable def zu_cur (g n i p c v : Int) : Prop := 0 ≤ i ∧ ((∃ e, (zu_TL g n)[i.toNat]? = some e ∧ e.1 = p ∧ e.2.2.1 = c ∧ (c = 50 → zu_vv e.2.2.2 v ∧ 0 ≤ v)) ∨ (i.toNat = (zu_TL g n).length ∧ p = n ∧ c = 0))
/-- the run from the token i on -/
noncomputable def zu_RN (g n i o x m a b lv cl r : Int) (_ : zq_Ty) (_ : zq_H) : Prop := 0 ≤ i ∧ i ≤ ((zu_TL g n).length : Int) ∧ zu_run n ((zu_TL g n).drop i.toNat) (o, x, m.toNat, a, b) lv cl r
/-- the fault of a text -/
noncomputable def zu_FA (o g n r : Int) (_ : zq_Ty) (_ : zq_H) : Prop := r = zu_res o g n
theorem zu_drop_at' {α : Type} {l : List α} {t : Nat} {e : α} (h : l[t]? = some e) : l.drop t = e :: l.drop (t + 1) := by
  obtain ⟨h1, h2⟩ := List.getElem?_eq_some_iff.mp h
  rw [List.drop_eq_getElem_cons h1, h2]
theorem zu_cur_in {g n i p c v : Int} (h : zu_cur g n i p c v) (hc : c ≠ 0 ∨ i < ((zu_TL g n).length : Int)) : ∃ e, (zu_TL g n).drop i.toNat = e :: (zu_TL g n).drop (i + 1).toNat ∧ i + 1 ≤ ((zu_TL g n).length : Int) ∧ e.1 = p ∧ e.2.2.1 = c ∧ (c = 50 → zu_vv e.2.2.2 v ∧ 0 ≤ v) := by
  obtain ⟨h0, h | ⟨h1, -, h3⟩⟩ := h
  · obtain ⟨e, h1, h2, h3, h4⟩ := h
    obtain ⟨x1, -⟩ := List.getElem?_eq_some_iff.mp h1
    refine ⟨e, ?_, by omega, h2, h3, h4⟩
    rw [zu_drop_at' h1, show (i + 1).toNat = i.toNat + 1 by omega]
  · rcases hc with hc | hc
    · exact absurd h3 hc
    · omega
/-! a step -/
theorem zu_RN_go {P : zq_Ty} {h : zq_H} {g n i o x a b lv cl r p c v : Int} {m : Nat} (t : zx_R) (hc : zu_cur g n i p c v) (hr : zu_RN g n i o x (m : Int) a b lv cl r P h) (hd : ((zx_T m).any (fun o => zx_eq o t) && (zx_T m).all (zu_dj t)) = true) (hl : (decide (0 < t.1.1) && (!(zu_lm m) || ((decide (8 ≤ t.1.1) && decide (t.1.2 ≤ 21)) || (decide (t.1.1 = 50) && decide (t.1.2 = 50)) || ((decide (t.1.2 < 8) || (decide (21 < t.1.1))) && (decide (t.1.2 < 50) || decide (50 < t.1.1)))))) = true)
    (f1 : t.1.1 ≤ c) (f2 : c ≤ t.1.2) (f3 : t.2.1.1 = true → t.1.1 = 50 ∧ t.1.2 = 50 ∧ t.2.1.2.1 ≤ v ∧ v ≤ t.2.1.2.2 ∧ t.2.1.2.2 ≤ 1000) (f4 : 0 ≤ t.2.2.1.1 → x = t.2.2.1.1) (f5 : 0 ≤ t.2.2.1.2 → o = t.2.2.1.2) (f6 : t.2.2.2.1.1 ≤ a) (f7 : a ≤ t.2.2.2.1.2.1) (f8 : t.2.2.2.1.2.2.1 ≤ b) (f9 : b ≤ t.2.2.2.1.2.2.2.1) (f10 : a + b ≤ t.2.2.2.1.2.2.2.2)
    (g1 : (zu_lm m && zu_lf t.1.1) = true → lv < 50 ∧ (t.1.1 = 50 → v ≤ 1000)) (g2 : m = 0 → cl < 12) :
    i + 1 ≤ ((zu_TL g n).length : Int) ∧ zu_RN g n (i + 1) o (bif decide (0 ≤ t.2.2.2.2.1) then t.2.2.2.2.1 else x) (t.2.2.2.2.2.1 : Int) (a + t.2.2.2.2.2.2.1) (b + t.2.2.2.2.2.2.2) (bif zu_lm m && zu_lf t.1.1 then lv + 1 else lv) (bif decide (t.1.1 = 159) && decide (t.1.2 = 159) then cl + 1 else bif decide (t.1.2 < 159) || decide (159 < t.1.1) then cl else zu_nc cl c) r P h := by
  obtain ⟨r0, r1, r2⟩ := hr
  simp only [Bool.and_eq_true, decide_eq_true_eq] at hl
  obtain ⟨e, e1, e2, e3, e4, e5⟩ := zu_cur_in hc (Or.inl (by omega))
  rw [e1, show ((m : Int)).toNat = m by omega] at r2
  have hlf : zu_lm m = true → zu_lf c = zu_lf t.1.1 ∧ (zu_lf c = true → c = 50 → t.1.1 = 50) := by
    intro hm
    rw [hm] at hl
    simp only [Bool.not_true, Bool.false_or, Bool.or_eq_true, Bool.and_eq_true, decide_eq_true_eq] at hl
    obtain ⟨-, hl⟩ := hl
    unfold zu_lf
    rcases hl with (⟨x1, x2⟩ | ⟨x1, x2⟩) | ⟨x1, x2⟩
    · rw [decide_eq_true (show 8 ≤ c by omega), decide_eq_true (show c ≤ 21 by omega), decide_eq_true x1, decide_eq_true (show t.1.1 ≤ 21 by omega)]
      exact ⟨rfl, fun _ z => by omega⟩
    · have : c = 50 := by omega
      rw [this, x1]
      exact ⟨rfl, fun _ _ => rfl⟩
    · have y1 : (decide (8 ≤ c) && decide (c ≤ 21)) = false := by
        rcases x1 with z | z
        · rw [decide_eq_false (show ¬ 8 ≤ c by omega)]; rfl
        · rw [decide_eq_false (show ¬ c ≤ 21 by omega), Bool.and_false]
      have y2 : (decide (8 ≤ t.1.1) && decide (t.1.1 ≤ 21)) = false := by
        rcases x1 with z | z
        · rw [decide_eq_false (show ¬ 8 ≤ t.1.1 by omega)]; rfl
        · rw [decide_eq_false (show ¬ t.1.1 ≤ 21 by omega), Bool.and_false]
      have y3 : decide (c = 50) = false := decide_eq_false (by rcases x2 with z | z <;> omega)
      have y4 : decide (t.1.1 = 50) = false := decide_eq_false (by rcases x2 with z | z <;> omega)
      rw [y1, y2, y3, y4]
      exact ⟨rfl, fun z _ => by cases z⟩
  have hv : t.2.1.1 = true → t.2.1.2.1 ≤ e.2.2.2 ∧ e.2.2.2 ≤ t.2.1.2.2 := by
    intro z
    obtain ⟨z0, z0', z1, z2, z3⟩ := f3 z
    rcases (e5 (by omega)).1 with ⟨y1, y2⟩ | ⟨y1, y2⟩
    · rw [y2]; exact ⟨z1, z2⟩
    · omega
  have fit : zx_fit t (o, x, m, a, b) e.2.2.1 e.2.2.2 := ⟨by rw [e4]; exact f1, by rw [e4]; exact f2, hv, f4, f5, f6, f7, f8, f9, f10⟩
  have ok : zu_ok m lv cl e.2.2.1 e.2.2.2 := by
    refine ⟨fun z1 z2 => ?_, g2⟩
    rw [e4] at z2 ⊢
    obtain ⟨y1, y2⟩ := hlf z1
    have := g1 (by rw [z1, ← y1, z2]; rfl)
    refine ⟨this.1, fun z3 => ?_⟩
    rcases (e5 z3).1 with ⟨w1, w2⟩ | ⟨w1, w2⟩
    · rw [w2]; exact this.2 (y2 z2 z3)
    · have := this.2 (y2 z2 z3); omega
  have key := zu_run_go (q := (o, x, m, a, b)) hd fit ok r2
  refine ⟨e2, by omega, e2, ?_⟩
  have q1 : zu_nl m lv e.2.2.1 = (bif zu_lm m && zu_lf t.1.1 then lv + 1 else lv) := by
    unfold zu_nl
    rw [e4]
    cases hm : zu_lm m with
    | false => rfl
    | true => rw [(hlf hm).1]
  have q2 : zu_nc cl e.2.2.1 = (bif decide (t.1.1 = 159) && decide (t.1.2 = 159) then cl + 1 else bif decide (t.1.2 < 159) || decide (159 < t.1.1) then cl else zu_nc cl c) := by
    rw [e4]
    cases h1 : (decide (t.1.1 = 159) && decide (t.1.2 = 159)) with
    | true =>
      simp only [Bool.and_eq_true, decide_eq_true_eq] at h1
      have : c = 159 := by omega
      unfold zu_nc
      rw [this]; rfl
    | false =>
      cases h2 : (decide (t.1.2 < 159) || decide (159 < t.1.1)) with
      | true =>
        simp only [Bool.or_eq_true, decide_eq_true_eq] at h2
        unfold zu_nc
        rw [decide_eq_false (show ¬ c = 159 by omega)]; rfl
      | false => rfl
  rw [← q1, ← q2, show ((t.2.2.2.2.2.1 : Nat) : Int).toNat = t.2.2.2.2.2.1 by omega]
  exact key
/-! nothing fits -/
noncomputable def zu_lr (t : zx_R) : Bool := (decide (8 ≤ t.1.1) && decide (t.1.2 ≤ 21)) || (decide (t.1.1 = 50) && decide (t.1.2 = 50))
noncomputable def zu_dr (lo hi : Int) (t : zx_R) : Bool := decide (t.1.2 < lo) || decide (hi < t.1.1)
noncomputable def zu_dc (lo hi : Int) (t : zx_R) : Bool := (List.range 32).all (fun k => decide ((k : Int) < lo) || (decide (hi < (k : Int)) || (decide (zu_mp (k : Int) < t.1.1) || decide (t.1.2 < zu_mp (k : Int))))) && (decide (hi < 32) || ((decide (t.1.2 < lo + 68) && decide (t.1.2 < 100)) || ((decide (32 ≤ lo) && decide (t.1.2 < lo + 68)) || (decide (t.1.2 < 100) || decide (hi + 68 < t.1.1)))))
theorem zu_dr_ok {lo hi c : Int} (h1 : lo ≤ c) (h2 : c ≤ hi) : ∀ t, zu_dr lo hi t = true → t.1.1 ≤ c → c ≤ t.1.2 → False := by
  intro t h h3 h4
  simp only [zu_dr, Bool.or_eq_true, decide_eq_true_eq] at h
  omega
theorem zu_mp_hi {c : Int} (h : 32 ≤ c) : zu_mp c = c + 68 := by unfold zu_mp; rw [if_pos h]
theorem zu_dc_ok {lo hi c : Int} (h0 : 0 ≤ c) (h1 : lo ≤ c) (h2 : c ≤ hi) : ∀ t, zu_dc lo hi t = true → t.1.1 ≤ zu_mp c → zu_mp c ≤ t.1.2 → False := by
  intro t h h3 h4
  simp only [zu_dc, Bool.and_eq_true] at h
  obtain ⟨ha, hb⟩ := h
  by_cases hc : c < 32
  · have := List.all_eq_true.mp ha c.toNat (List.mem_range.mpr (by omega))
    simp only [Bool.or_eq_true, decide_eq_true_eq] at this
    rw [show ((c.toNat : Nat) : Int) = c by omega] at this
    omega
  · rw [zu_mp_hi (by omega)] at h3 h4
    simp only [Bool.or_eq_true, Bool.and_eq_true, decide_eq_true_eq] at hb
    omega
noncomputable def zu_ckn (m : Nat) (G : zx_Gd) (s : Int) (dis : zx_R → Bool) (uv : Bool) (vl vh : Int) (fl fc ins : Bool) : Bool := (uv && decide (vh < 0)) || ((ins || (zx_A m).all (fun r => decide (r.2 < G.2.1.1) || (decide (G.2.1.2 < r.1) || (decide (0 < G.2.2.1.1) || (decide (0 < G.2.2.2.1) || decide (0 < s)))))) && (zx_T m).all (fun t => zx_exc G t || (decide (t.2.2.2.1.2.2.2.2 < s) || (dis t || ((uv && (t.2.1.1 && (decide (t.2.1.2.1 ≤ 1001) && (decide (t.2.1.2.2 ≤ 1000) && (decide (vh < t.2.1.2.1) || decide (t.2.1.2.2 < vl)))))) || ((zu_lm m && (zu_lr t && (fl || (uv && decide (1001 ≤ vl))))) || (Nat.beq m 0 && fc)))))))
theorem zu_RN_no {P : zq_Ty} {h : zq_H} {g n i o x a b lv cl r p c v : Int} {m : Nat} (G : zx_Gd) (s : Int) (dis : zx_R → Bool) (uv : Bool) (vl vh : Int) (fl fc ins : Bool) (hk : zu_ckn m G s dis uv vl vh fl fc ins = true) (hc : zu_cur g n i p c v) (hr : zu_RN g n i o x (m : Int) a b lv cl r P h) (hg : zx_gd G (o, x, m, a, b)) (hs : s ≤ a + b) (hd : ∀ t, dis t = true → t.1.1 ≤ c → c ≤ t.1.2 → False) (h3 : uv = true → c = 50 ∧ vl ≤ v ∧ v ≤ vh) (h4 : fl = true → 50 ≤ lv) (h5 : fc = true → 12 ≤ cl) (h6 : ins = true → i < ((zu_TL g n).length : Int)) : r = p := by
  obtain ⟨r0, r1, r2⟩ := hr
  rw [show ((m : Int)).toNat = m by omega] at r2
  by_cases hneg : uv = true ∧ vh < 0
  · exfalso
    obtain ⟨u0, u1, u2⟩ := h3 hneg.1
    obtain ⟨e, e1, e2, e3, e4, e5⟩ := zu_cur_in hc (Or.inl (by omega))
    have := (e5 u0).2
    have := hneg.2
    omega
  have hk : ((ins || (zx_A m).all (fun r => decide (r.2 < G.2.1.1) || (decide (G.2.1.2 < r.1) || (decide (0 < G.2.2.1.1) || (decide (0 < G.2.2.2.1) || decide (0 < s)))))) && (zx_T m).all (fun t => zx_exc G t || (decide (t.2.2.2.1.2.2.2.2 < s) || (dis t || ((uv && (t.2.1.1 && (decide (t.2.1.2.1 ≤ 1001) && (decide (t.2.1.2.2 ≤ 1000) && (decide (vh < t.2.1.2.1) || decide (t.2.1.2.2 < vl)))))) || ((zu_lm m && (zu_lr t && (fl || (uv && decide (1001 ≤ vl))))) || (Nat.beq m 0 && fc))))))) = true := by
    unfold zu_ckn at hk
    rw [Bool.or_eq_true] at hk
    rcases hk with hk | hk
    · simp only [Bool.and_eq_true, decide_eq_true_eq] at hk
      exact absurd hk hneg
    · exact hk
  simp only [Bool.and_eq_true] at hk
  obtain ⟨k1, k3⟩ := hk
  by_cases hi' : i < ((zu_TL g n).length : Int)
  · obtain ⟨e, e1, e2, e3, e4, e5⟩ := zu_cur_in hc (Or.inr hi')
    rw [e1] at r2
    rw [← e3]
    refine zu_run_no (q := (o, x, m, a, b)) (fun t ht hf ho => ?_) r2
    have := List.all_eq_true.mp k3 t ht
    simp only [Bool.or_eq_true, Bool.and_eq_true, decide_eq_true_eq] at this
    have hf1 : t.1.1 ≤ e.2.2.1 := hf.1
    have hf2 : e.2.2.1 ≤ t.1.2 := hf.2.1
    rw [e4] at hf1 hf2
    rcases this with z | z | z | z | z | z
    · exact zx_exc_ok z hg hf
    · have : a + b ≤ t.2.2.2.1.2.2.2.2 := hf.2.2.2.2.2.2.2.2.2
      omega
    · exact hd t z hf1 hf2
    · obtain ⟨z1, z2, z3, z4, z5⟩ := z
      obtain ⟨y1, y2⟩ := hf.2.2.1 z2
      obtain ⟨u0, u1, u2⟩ := h3 z1
      rcases (e5 u0).1 with ⟨w1, w2⟩ | ⟨w1, w2⟩
      · omega
      · omega
    · obtain ⟨z1, z2, z3⟩ := z
      simp only [zu_lr, Bool.or_eq_true, Bool.and_eq_true, decide_eq_true_eq] at z2
      have lf : zu_lf e.2.2.1 = true := by
        rw [e4]
        unfold zu_lf
        rcases z2 with ⟨w1, w2⟩ | ⟨w1, w2⟩
        · rw [decide_eq_true (show 8 ≤ c by omega), decide_eq_true (show c ≤ 21 by omega)]; rfl
        · rw [decide_eq_true (show c = 50 by omega), Bool.or_true]
      obtain ⟨y1, y2⟩ := ho.1 z1 lf
      rcases z3 with z3 | ⟨z3, z4⟩
      · have := h4 z3; omega
      · obtain ⟨hc50, u1, u2⟩ := h3 z3
        have := y2 (by rw [e4]; exact hc50)
        rcases (e5 hc50).1 with ⟨w1, w2⟩ | ⟨w1, w2⟩
        · omega
        · omega
    · have := ho.2 (Nat.eq_of_beq_eq_true z.1)
      have := h5 z.2
      omega
  · obtain ⟨c0, hc | ⟨c1, c2, c3⟩⟩ := hc
    · obtain ⟨e, c1, -⟩ := hc
      obtain ⟨x1, -⟩ := List.getElem?_eq_some_iff.mp c1
      omega
    · rw [c1, List.drop_length] at r2
      rcases r2 with ⟨ha, -⟩ | ⟨-, hn⟩
      · exfalso
        simp only [Bool.or_eq_true, decide_eq_true_eq] at k1
        rcases k1 with z | z
        · exact hi' (h6 z)
        · obtain ⟨a1, a2, w, hw, w1, w2⟩ := ha
          obtain ⟨g1, g2, g3, g4, g5, g6, g7, g8⟩ := hg
          have := List.all_eq_true.mp z w hw
          simp only [Bool.or_eq_true, decide_eq_true_eq] at this
          have a1 : a = 0 := a1
          have a2 : b = 0 := a2
          have w1 : w.1 ≤ x := w1
          have w2 : x ≤ w.2 := w2
          have g3 : G.2.1.1 ≤ x := g3
          have g4 : x ≤ G.2.1.2 := g4
          have g5 : G.2.2.1.1 ≤ a := g5
          have g7 : G.2.2.2.1 ≤ b := g7
          omega
      · rw [hn, c2]
/-! another mode in which the same fits -/
noncomputable def zu_xb (G : zx_Gd) (x2 : Int) : Int := bif decide (0 ≤ x2) then G.2.1.1 else -1
noncomputable def zu_G2 (G : zx_Gd) (x2 : Int) : zx_Gd := (G.1, (bif decide (0 ≤ x2) then (x2, x2) else G.2.1), G.2.2)
noncomputable def zu_ckm (m : Nat) (G : zx_Gd) (x2 : Int) (m2 : Nat) (dis : zx_R → Bool) (ins : Bool) : Bool := (!(Nat.beq m 0) && (!(Nat.beq m2 0) && decide (zu_lm m = zu_lm m2))) && ((decide (x2 < 0) || (decide (G.2.1.1 = G.2.1.2) && decide (0 ≤ G.2.1.1))) && ((ins || (zx_cka G m x2 m2 && zx_cka (zu_G2 G x2) m2 (zu_xb G x2) m)) && ((zx_T m).all (fun t => zx_exc G t || (dis t || (zx_T m2).any (zx_cov G x2 t))) && (zx_T m2).all (fun t => zx_exc (zu_G2 G x2) t || (dis t || (zx_T m).any (zx_cov (zu_G2 G x2) (zu_xb G x2) t))))))
theorem zu_RN_ren {P : zq_Ty} {h : zq_H} {g n i o x a b lv cl r p c v : Int} {m : Nat} (G : zx_Gd) (x2 : Int) (m2 : Nat) (dis : zx_R → Bool) (ins : Bool) (hk : zu_ckm m G x2 m2 dis ins = true) (hc : zu_cur g n i p c v) (hr : zu_RN g n i o x (m : Int) a b lv cl r P h) (hg : zx_gd G (o, x, m, a, b)) (hd : ∀ t, dis t = true → t.1.1 ≤ c → c ≤ t.1.2 → False) (h6 : ins = true → i < ((zu_TL g n).length : Int)) : zu_RN g n i o (bif decide (0 ≤ x2) then x2 else x) (m2 : Int) a b lv cl r P h := by
  obtain ⟨r0, r1, r2⟩ := hr
  rw [show ((m : Int)).toNat = m by omega] at r2
  simp only [zu_ckm, Bool.and_eq_true, Bool.not_eq_true', decide_eq_true_eq] at hk
  obtain ⟨⟨k1, k2, k3⟩, k4, k5, k6, k7⟩ := hk
  have m0 : m ≠ 0 := fun z => by rw [z] at k1; exact absurd k1 (by decide)
  have m20 : m2 ≠ 0 := fun z => by rw [z] at k2; exact absurd k2 (by decide)
  refine ⟨r0, r1, ?_⟩
  rw [show ((m2 : Int)).toNat = m2 by omega]
  have hq : ((o, (bif decide (0 ≤ x2) then x2 else x), m2, a, b) : zx_Q) = zx_at x2 m2 (o, x, m, a, b) := rfl
  obtain ⟨g1, g2, g3, g4, g5, g6, g7, g8⟩ := hg
  have g3 : G.2.1.1 ≤ x := g3
  have g4 : x ≤ G.2.1.2 := g4
  have hg : zx_gd G (o, x, m, a, b) := ⟨g1, g2, g3, g4, g5, g6, g7, g8⟩
  have hg2 : zx_gd (zu_G2 G x2) (zx_at x2 m2 (o, x, m, a, b)) := by
    unfold zu_G2 zx_at
    cases hx : decide (0 ≤ x2) with
    | true => exact ⟨g1, g2, Int.le_refl _, Int.le_refl _, g5, g6, g7, g8⟩
    | false => exact ⟨g1, g2, g3, g4, g5, g6, g7, g8⟩
  have hb : zx_at (zu_xb G x2) m (zx_at x2 m2 (o, x, m, a, b)) = (o, x, m, a, b) := by
    unfold zx_at zu_xb
    cases hx : decide (0 ≤ x2) with
    | true =>
      have hx := of_decide_eq_true hx
      have : G.2.1.1 = x ∧ 0 ≤ G.2.1.1 := by
        simp only [Bool.or_eq_true, Bool.and_eq_true, decide_eq_true_eq] at k4
        omega
      simp only [cond_true]
      rw [this.1, decide_eq_true (show 0 ≤ x by omega)]
      rfl
    | false => rfl
  rw [hq]
  by_cases hi' : i < ((zu_TL g n).length : Int)
  · obtain ⟨e, e1, e2, e3, e4, e5⟩ := zu_cur_in hc (Or.inr hi')
    rw [e1] at r2 ⊢
    have okk : zu_ok m lv cl e.2.2.1 e.2.2.2 ↔ zu_ok m2 lv cl e.2.2.1 e.2.2.2 := by
      unfold zu_ok
      rw [k3]
      exact ⟨fun z => ⟨z.1, fun w => absurd w m20⟩, fun z => ⟨z.1, fun w => absurd w m0⟩⟩
    have fwd : ∀ t ∈ zx_T m, zx_fit t (o, x, m, a, b) e.2.2.1 e.2.2.2 → ∃ t' ∈ zx_T m2, zx_fit t' (zx_at x2 m2 (o, x, m, a, b)) e.2.2.1 e.2.2.2 ∧ zx_to t' (zx_at x2 m2 (o, x, m, a, b)) = zx_to t (o, x, m, a, b) := by
      intro t ht hf
      have := List.all_eq_true.mp k6 t ht
      simp only [Bool.or_eq_true, decide_eq_true_eq] at this
      have hf1 : t.1.1 ≤ e.2.2.1 := hf.1
      have hf2 : e.2.2.1 ≤ t.1.2 := hf.2.1
      rcases this with z | z | z
      · exact (zx_exc_ok z hg hf).elim
      · exact (hd t z (by omega) (by omega)).elim
      · obtain ⟨t', ht', z⟩ := List.any_eq_true.mp z
        obtain ⟨z1, z2⟩ := zx_cov_ok (m := m2) z hg hf
        exact ⟨t', ht', z1, z2⟩
    rcases r2 with ⟨t, ht, hf, ho, hr⟩ | ⟨hn, hr⟩
    · obtain ⟨t', ht', z1, z2⟩ := fwd t ht hf
      refine Or.inl ⟨t', ht', z1, okk.mp ho, ?_⟩
      rw [z2]
      have : zu_nl m2 lv e.2.2.1 = zu_nl m lv e.2.2.1 := by unfold zu_nl; rw [k3]
      show zu_run n _ _ (zu_nl m2 lv e.2.2.1) _ r
      rw [this]
      exact hr
    · refine Or.inr ⟨?_, hr⟩
      rintro ⟨t', ht', hf', ho'⟩
      have := List.all_eq_true.mp k7 t' ht'
      simp only [Bool.or_eq_true, decide_eq_true_eq] at this
      have hf1 : t'.1.1 ≤ e.2.2.1 := hf'.1
      have hf2 : e.2.2.1 ≤ t'.1.2 := hf'.2.1
      rcases this with z | z | z
      · exact zx_exc_ok z hg2 hf'
      · exact hd t' z (by omega) (by omega)
      · obtain ⟨t, ht, z⟩ := List.any_eq_true.mp z
        obtain ⟨z1, -⟩ := zx_cov_ok (m := m) z hg2 hf'
        rw [hb] at z1
        exact hn ⟨t, ht, z1, okk.mpr ho'⟩
  · obtain ⟨c0, hc | ⟨c1, c2, c3⟩⟩ := hc
    · obtain ⟨e, c1, -⟩ := hc
      obtain ⟨x1, -⟩ := List.getElem?_eq_some_iff.mp c1
      omega
    · rw [c1, List.drop_length] at r2 ⊢
      have acs : zx_acc (o, x, m, a, b) ↔ zx_acc (zx_at x2 m2 (o, x, m, a, b)) := by
        simp only [Bool.or_eq_true, Bool.and_eq_true, decide_eq_true_eq] at k5
        rcases k5 with z | z
        · exact absurd (h6 z) hi'
        · refine ⟨zx_cka_ok (q := (o, x, m, a, b)) z.1 hg, fun w => ?_⟩
          have := zx_cka_ok (q := zx_at x2 m2 (o, x, m, a, b)) z.2 hg2 w
          rw [hb] at this
          exact this
      rcases r2 with ⟨ha, hr⟩ | ⟨ha, hr⟩
      · exact Or.inl ⟨acs.mp ha, hr⟩
      · exact Or.inr ⟨fun z => ha (acs.mpr z), hr⟩
/-! the end -/
theorem zu_RN_end {P : zq_Ty} {h : zq_H} {g n i o x a b lv cl r : Int} {m : Nat} (hr : zu_RN g n i o x (m : Int) a b lv cl r P h) (hi : i = ((zu_TL g n).length : Int)) (ha : zx_acc (o, x, m, a, b)) : r = -1 := by
  obtain ⟨r0, r1, r2⟩ := hr
  rw [show ((m : Int)).toNat = m by omega, show i.toNat = (zu_TL g n).length by omega, List.drop_length] at r2
  rcases r2 with ⟨-, z⟩ | ⟨z, -⟩
  · exact z
  · exact absurd ha z
/-- a text without fault goes on well to its end -/
theorem zu_run_suf {n : Int} {fc fv : Int → Int} {e : Int} : ∀ (L : List (Int × Int × Int × Int)) (q : zx_Q) (lv cl i : Int), i + (L.length : Int) = e → (∀ (j : Nat) (x : Int × Int × Int × Int), L[j]? = some x → x.1 ≠ -1 ∧ fc (i + (j : Int)) = x.2.2.1 ∧ (x.2.2.1 = 50 → x.2.2.2 ≤ 1000 → fv (i + (j : Int)) = x.2.2.2)) → n ≠ -1 → (∀ t m, t ∈ zx_T m → t.2.1.1 = true → t.1.1 = 50 ∧ t.1.2 = 50 ∧ t.2.1.2.2 ≤ 1000) → zu_run n L q lv cl (-1) → zx_suf fc fv i e q
  | [], q, lv, cl, i, h1, _, h3, _, h => by
    have h1 : i + ((0 : Nat) : Int) = e := h1
    have : e = i := by omega
    rw [this]
    refine zx_suf_end.mpr ?_
    rcases h with ⟨z, -⟩ | ⟨-, z⟩
    · exact z
    · exact absurd z.symm h3
  | x :: L, q, lv, cl, i, h1, h2, h3, h4, h => by
    have h1 : i + ((L.length + 1 : Nat) : Int) = e := h1
    obtain ⟨w0, w1, w2⟩ := h2 0 x rfl
    rcases h with ⟨t, ht, hf, ho, hr⟩ | ⟨-, z⟩
    · refine (zx_suf_step (by omega)).mpr ⟨t, ht, ?_, zu_run_suf L (zx_to t q) _ _ (i + 1) (by omega) (fun j y hj => ?_) h3 h4 hr⟩
      · obtain ⟨f1, f2, f3, f4⟩ := hf
        have e0 : i + ((0 : Nat) : Int) = i := by omega
        rw [e0] at w1 w2
        refine ⟨by rw [w1]; exact f1, by rw [w1]; exact f2, fun z => ?_, f4⟩
        obtain ⟨y1, y2, y3⟩ := h4 t _ ht z
        obtain ⟨v1, v2⟩ := f3 z
        rw [w2 (by omega) (by omega)]
        exact ⟨v1, v2⟩
      · have := h2 (j + 1) y (by rw [List.getElem?_cons_succ]; exact hj)
        rw [show i + ((j + 1 : Nat) : Int) = i + 1 + (j : Int) by omega] at this
        exact this
    · exact absurd z.symm w0
theorem zu_T50 (m : Nat) : (zx_T m).all (fun t => !t.2.1.1 || (decide (t.1.1 = 50) && (decide (t.1.2 = 50) && decide (t.2.1.2.2 ≤ 1000)))) = true := by
  by_cases h : m < 16
  · have h1 : ∀ m, m < 16 → (zx_T m).all (fun t => !t.2.1.1 || (decide (t.1.1 = 50) && (decide (t.1.2 = 50) && decide (t.2.1.2.2 ≤ 1000)))) = true := by decide +kernel
    exact h1 m h
  · have h1 : zx_T m = [] := by
      unfold zx_T
      split <;> first | rfl | omega
    rw [h1]
    rfl
