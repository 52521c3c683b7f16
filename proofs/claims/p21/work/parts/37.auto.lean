/-! THE GRAMMAR OF LAWS AND ORDERS as an automaton with two counters. A state: orders?, place, mode, open (, open [ -/
abbrev zx_Q : Type := Int × Int × Nat × Int × Int
/-- code from, to; is the value looked at, from, to; place, orders (-1: any); ( from, to, [ from, to, both at most; then: place (-1: stays), mode, more (, more [ -/
abbrev zx_R : Type := (Int × Int) × (Bool × Int × Int) × (Int × Int) × (Int × Int × Int × Int × Int) × (Int × Nat × Int × Int)
noncomputable def zx_fit (t : zx_R) (q : zx_Q) (c v : Int) : Prop := t.1.1 ≤ c ∧ c ≤ t.1.2 ∧ (t.2.1.1 = true → t.2.1.2.1 ≤ v ∧ v ≤ t.2.1.2.2) ∧ (0 ≤ t.2.2.1.1 → q.2.1 = t.2.2.1.1) ∧ (0 ≤ t.2.2.1.2 → q.1 = t.2.2.1.2) ∧ t.2.2.2.1.1 ≤ q.2.2.2.1 ∧ q.2.2.2.1 ≤ t.2.2.2.1.2.1 ∧ t.2.2.2.1.2.2.1 ≤ q.2.2.2.2 ∧ q.2.2.2.2 ≤ t.2.2.2.1.2.2.2.1 ∧ q.2.2.2.1 + q.2.2.2.2 ≤ t.2.2.2.1.2.2.2.2
noncomputable def zx_to (t : zx_R) (q : zx_Q) : zx_Q := (q.1, (bif decide (0 ≤ t.2.2.2.2.1) then t.2.2.2.2.1 else q.2.1), t.2.2.2.2.2.1, q.2.2.2.1 + t.2.2.2.2.2.2.1, q.2.2.2.2 + t.2.2.2.2.2.2.2)
noncomputable def zx_par (x : Int) : List zx_R := [
  ((191, 191), (false, 0, 0), (-1, -1), (0, 8, 0, 8, 7), (x, 1, 0, 1)),
  ((50, 50), (false, 0, 0), (-1, -1), (0, 8, 0, 8, 8), (x, 2, 0, 0)),
  ((8, 15), (false, 0, 0), (-1, 0), (0, 8, 0, 8, 8), (x, 2, 0, 0)),
  ((16, 19), (false, 0, 0), (-1, 1), (0, 8, 0, 8, 8), (x, 2, 0, 0)),
  ((20, 20), (false, 0, 0), (-1, 1), (0, 8, 0, 8, 8), (x, 3, 0, 0)),
  ((21, 21), (false, 0, 0), (-1, 1), (0, 8, 0, 8, 8), (x, 4, 0, 0))]
noncomputable def zx_mul : List zx_R := [
  ((137, 137), (false, 0, 0), (-1, -1), (0, 8, 0, 8, 8), (-1, 1, 0, 0)),
  ((142, 142), (false, 0, 0), (-1, -1), (0, 8, 0, 8, 8), (-1, 1, 0, 0)),
  ((147, 147), (false, 0, 0), (-1, -1), (0, 8, 0, 8, 8), (-1, 1, 0, 0))]
noncomputable def zx_add : List zx_R := [
  ((143, 143), (false, 0, 0), (-1, -1), (0, 8, 0, 8, 8), (-1, 1, 0, 0)),
  ((145, 145), (false, 0, 0), (-1, -1), (0, 8, 0, 8, 8), (-1, 1, 0, 0))]
noncomputable def zx_aft : List zx_R := [
  ((193, 193), (false, 0, 0), (-1, -1), (0, 8, 1, 8, 8), (-1, 2, 0, -1)),
  ((29, 29), (false, 0, 0), (0, 1), (0, 0, 0, 0, 0), (0, 8, 0, 0)),
  ((4, 4), (false, 0, 0), (0, -1), (0, 0, 0, 0, 0), (0, 5, 0, 0)),
  ((159, 159), (false, 0, 0), (0, -1), (0, 0, 0, 0, 0), (0, 0, 0, 0)),
  ((23, 23), (false, 0, 0), (1, -1), (0, 0, 0, 0, 0), (2, 1, 0, 0)),
  ((24, 24), (false, 0, 0), (2, -1), (0, 0, 0, 0, 0), (0, 1, 0, 0)),
  ((26, 26), (false, 0, 0), (3, -1), (0, 0, 0, 0, 0), (0, 1, 0, 0)),
  ((160, 162), (false, 0, 0), (4, -1), (0, 8, 0, 0, 8), (5, 1, 0, 0)),
  ((5, 5), (false, 0, 0), (5, -1), (0, 8, 0, 0, 8), (0, 5, 0, 0)),
  ((6, 6), (false, 0, 0), (5, -1), (0, 8, 0, 0, 8), (0, 5, 0, 0)),
  ((141, 141), (false, 0, 0), (5, -1), (1, 8, 0, 0, 8), (0, 6, -1, 0)),
  ((159, 159), (false, 0, 0), (5, -1), (0, 0, 0, 0, 8), (0, 0, 0, 0))]
noncomputable def zx_or : zx_R := ((5, 5), (false, 0, 0), (-1, -1), (0, 8, 0, 0, 8), (0, 5, 0, 0))
noncomputable def zx_and : zx_R := ((6, 6), (false, 0, 0), (-1, -1), (0, 8, 0, 0, 8), (0, 5, 0, 0))
noncomputable def zx_cls : List zx_R := [
  ((141, 141), (false, 0, 0), (-1, -1), (1, 8, 0, 0, 8), (0, 6, -1, 0)),
  ((159, 159), (false, 0, 0), (-1, -1), (0, 0, 0, 0, 8), (0, 0, 0, 0))]
noncomputable def zx_opn : zx_R := ((140, 140), (false, 0, 0), (-1, -1), (0, 7, 0, 0, 7), (0, 5, 1, 0))
noncomputable def zx_tim : zx_R := ((29, 29), (false, 0, 0), (-1, 1), (0, 0, 0, 0, 0), (0, 8, 0, 0))
noncomputable def zx_if : zx_R := ((4, 4), (false, 0, 0), (-1, -1), (0, 0, 0, 0, 0), (0, 5, 0, 0))
noncomputable def zx_nxt : zx_R := ((159, 159), (false, 0, 0), (-1, -1), (0, 0, 0, 0, 0), (0, 0, 0, 0))
/-- what may follow: 0 a clause begins, 1 a part, 2 behind a part, 3 a number behind 'balance', 4 one behind 'clock', 5 a plain test, 6 behind a closed test, 7 behind the sums, 8 a number behind 'times', 9 behind the times, 10 behind a sum, 11 behind a term, 12 a plain test without 'not', 13 behind a test, 14 behind an 'and' row, 15 behind a clause -/
noncomputable def zx_T : Nat → List zx_R
  | 0 => [((1, 2), (false, 0, 0), (-1, 0), (0, 0, 0, 0, 0), (0, 1, 0, 0)), ((3, 3), (false, 0, 0), (-1, 0), (0, 0, 0, 0, 0), (0, 7, 0, 0)), ((22, 22), (false, 0, 0), (-1, 1), (0, 0, 0, 0, 0), (1, 1, 0, 0)), ((25, 25), (false, 0, 0), (-1, 1), (0, 0, 0, 0, 0), (3, 1, 0, 0)), ((27, 27), (false, 0, 0), (-1, 1), (0, 0, 0, 0, 0), (0, 1, 0, 0)), ((28, 28), (false, 0, 0), (-1, 1), (0, 0, 0, 0, 0), (0, 7, 0, 0))]
  | 1 => zx_par (-1)
  | 2 => zx_mul ++ (zx_add ++ zx_aft)
  | 3 => [((50, 50), (true, 0, 5), (-1, -1), (0, 8, 0, 8, 8), (-1, 2, 0, 0))]
  | 4 => [((50, 50), (true, 0, 3), (-1, -1), (0, 8, 0, 8, 8), (-1, 2, 0, 0))]
  | 5 => ((7, 7), (false, 0, 0), (-1, -1), (0, 8, 0, 0, 8), (0, 5, 0, 0)) :: zx_opn :: zx_par 4
  | 6 => zx_or :: zx_and :: zx_cls
  | 7 => [zx_tim, zx_if, zx_nxt]
  | 8 => [((50, 50), (true, 1, 20), (-1, -1), (0, 0, 0, 0, 0), (0, 9, 0, 0))]
  | 9 => [zx_if, zx_nxt]
  | 10 => zx_aft
  | 11 => zx_add ++ zx_aft
  | 12 => zx_opn :: zx_par 4
  | 13 => zx_cls
  | 14 => zx_or :: zx_cls
  | 15 => [zx_nxt]
  | _ => []
/-- where a text may end: places -/
noncomputable def zx_A : Nat → List (Int × Int)
  | 2 => [(0, 0), (5, 5)]
  | 6 => [(0, 0)]
  | 7 => [(0, 0)]
  | 9 => [(0, 0)]
  | 10 => [(0, 0), (5, 5)]
  | 11 => [(0, 0), (5, 5)]
  | 13 => [(0, 0)]
  | 14 => [(0, 0)]
  | 15 => [(0, 0)]
  | _ => []
noncomputable def zx_acc (q : zx_Q) : Prop := q.2.2.2.1 = 0 ∧ q.2.2.2.2 = 0 ∧ ∃ x ∈ zx_A q.2.2.1, x.1 ≤ q.2.1 ∧ q.2.1 ≤ x.2
noncomputable def zx_path (fc fv : Int → Int) : Nat → Int → zx_Q → Prop
  | 0, _, q => zx_acc q
  | n + 1, p, q => ∃ t ∈ zx_T q.2.2.1, zx_fit t q (fc p) (fv p) ∧ zx_path fc fv n (p + 1) (zx_to t q)
/-- from the place p in the state q the text goes on well to its end e -/
noncomputable def zx_suf (fc fv : Int → Int) (p e : Int) (q : zx_Q) : Prop := p ≤ e → zx_path fc fv (e - p).toNat p q
theorem zx_path_cong {fc fv gc gv : Int → Int} : ∀ {n : Nat} {p : Int} {q : zx_Q}, (∀ j, p ≤ j → j < p + n → gc j = fc j ∧ gv j = fv j) → zx_path fc fv n p q → zx_path gc gv n p q
  | 0, _, _, _, h => h
  | n + 1, p, q, hj, h => by
    obtain ⟨t, ht, hf, hp⟩ := h
    obtain ⟨e1, e2⟩ := hj p (Int.le_refl _) (by omega)
    exact ⟨t, ht, (by rw [e1, e2]; exact hf), zx_path_cong (fun j h1 h2 => hj j (by omega) (by omega)) hp⟩
theorem zx_suf_cong {fc fv gc gv : Int → Int} {p e : Int} {q : zx_Q} (hj : ∀ j, p ≤ j → j < e → gc j = fc j ∧ gv j = fv j) (h : zx_suf fc fv p e q) : zx_suf gc gv p e q := fun hpe => zx_path_cong (fun j h1 h2 => hj j h1 (by omega)) (h hpe)
theorem zx_path_shift {fc fv : Int → Int} {d : Int} : ∀ {n : Nat} {p : Int} {q : zx_Q}, zx_path fc fv n p q → zx_path (fun j => fc (j - d)) (fun j => fv (j - d)) n (p + d) q
  | 0, _, _, h => h
  | n + 1, p, q, h => by
    obtain ⟨t, ht, hf, hp⟩ := h
    refine ⟨t, ht, ?_, ?_⟩
    · simp only [show p + d - d = p by omega]; exact hf
    · have := zx_path_shift (d := d) hp
      rw [show p + d + 1 = p + 1 + d by omega]; exact this
theorem zx_suf_step {fc fv : Int → Int} {p e : Int} {q : zx_Q} (hp : p < e) : zx_suf fc fv p e q ↔ ∃ t ∈ zx_T q.2.2.1, zx_fit t q (fc p) (fv p) ∧ zx_suf fc fv (p + 1) e (zx_to t q) := by
  have e1 : (e - p).toNat = (e - (p + 1)).toNat + 1 := by omega
  constructor
  · intro h
    have := h (by omega)
    rw [e1] at this
    obtain ⟨t, ht, hf, hr⟩ := this
    exact ⟨t, ht, hf, fun _ => hr⟩
  · rintro ⟨t, ht, hf, hr⟩ _
    rw [e1]
    exact ⟨t, ht, hf, hr (by omega)⟩
theorem zx_suf_end {fc fv : Int → Int} {p : Int} {q : zx_Q} : zx_suf fc fv p p q ↔ zx_acc q := by
  unfold zx_suf
  rw [show (p - p).toNat = 0 by omega]
  exact ⟨fun h => h (Int.le_refl _), fun h _ => h⟩
/-! one state allows what another one does -/
abbrev zx_Gd : Type := (Int × Int) × (Int × Int) × (Int × Int) × (Int × Int)
noncomputable def zx_gd (G : zx_Gd) (q : zx_Q) : Prop := G.1.1 ≤ q.1 ∧ q.1 ≤ G.1.2 ∧ G.2.1.1 ≤ q.2.1 ∧ q.2.1 ≤ G.2.1.2 ∧ G.2.2.1.1 ≤ q.2.2.2.1 ∧ q.2.2.2.1 ≤ G.2.2.1.2 ∧ G.2.2.2.1 ≤ q.2.2.2.2 ∧ q.2.2.2.2 ≤ G.2.2.2.2
noncomputable def zx_exc (G : zx_Gd) (t : zx_R) : Bool := (decide (0 ≤ t.2.2.1.1) && (decide (t.2.2.1.1 < G.2.1.1) || decide (G.2.1.2 < t.2.2.1.1))) || ((decide (0 ≤ t.2.2.1.2) && (decide (t.2.2.1.2 < G.1.1) || decide (G.1.2 < t.2.2.1.2))) || (decide (G.2.2.1.2 < t.2.2.2.1.1) || (decide (t.2.2.2.1.2.1 < G.2.2.1.1) || (decide (G.2.2.2.2 < t.2.2.2.1.2.2.1) || (decide (t.2.2.2.1.2.2.2.1 < G.2.2.2.1) || decide (t.2.2.2.1.2.2.2.2 < G.2.2.1.1 + G.2.2.2.1))))))
theorem zx_exc_ok {G : zx_Gd} {t : zx_R} {q : zx_Q} {c v : Int} (h : zx_exc G t = true) (hg : zx_gd G q) (hf : zx_fit t q c v) : False := by
  obtain ⟨g1, g2, g3, g4, g5, g6, g7, g8⟩ := hg
  obtain ⟨-, -, -, f4, f5, f6, f7, f8, f9, f10⟩ := hf
  simp only [zx_exc, Bool.or_eq_true, Bool.and_eq_true, decide_eq_true_eq] at h
  rcases h with ⟨h1, h2⟩ | ⟨h1, h2⟩ | h | h | h | h | h
  · have := f4 h1; omega
  · have := f5 h1; omega
  · omega
  · omega
  · omega
  · omega
  · omega
/-- the place behind a step, where it is known -/
noncomputable def zx_xf (G : zx_Gd) : Int := bif decide (G.2.1.1 = G.2.1.2) then G.2.1.1 else -1
noncomputable def zx_src (G : zx_Gd) (t : zx_R) : Int := bif decide (0 ≤ t.2.2.2.2.1) then t.2.2.2.2.1 else zx_xf G
/-- t' does from the place x (-1: the same) what t does -/
noncomputable def zx_cov (G : zx_Gd) (x : Int) (t t' : zx_R) : Bool := decide (t'.1 = t.1) && (decide (t'.2.1 = t.2.1) && ((decide (t'.2.2.1.1 < 0) || bif decide (0 ≤ x) then decide (t'.2.2.1.1 = x) else decide (t'.2.2.1.1 = t.2.2.1.1)) && ((decide (t'.2.2.1.2 < 0) || decide (t'.2.2.1.2 = t.2.2.1.2)) && ((decide (t'.2.2.2.1 = t.2.2.2.1) || (decide (t'.2.2.2.1.1 ≤ t.2.2.2.1.1) && (decide (t.2.2.2.1.2.1 ≤ t'.2.2.2.1.2.1) && (decide (t'.2.2.2.1.2.2.1 ≤ t.2.2.2.1.2.2.1) && (decide (t.2.2.2.1.2.2.2.1 ≤ t'.2.2.2.1.2.2.2.1) && decide (t.2.2.2.1.2.1 + t.2.2.2.1.2.2.2.1 ≤ t'.2.2.2.1.2.2.2.2)))))) && (decide (t'.2.2.2.2.2 = t.2.2.2.2.2) &&
  (bif decide (0 ≤ zx_src G t) then decide ((bif decide (0 ≤ t'.2.2.2.2.1) then t'.2.2.2.2.1 else bif decide (0 ≤ x) then x else zx_xf G) = zx_src G t) else decide (t.2.2.2.2.1 < 0) && (decide (x < 0) && decide (t'.2.2.2.2.1 < 0))))))))
noncomputable def zx_at (x : Int) (m : Nat) (q : zx_Q) : zx_Q := (q.1, (bif decide (0 ≤ x) then x else q.2.1), m, q.2.2.2.1, q.2.2.2.2)
theorem zx_cov_ok {G : zx_Gd} {x : Int} {m : Nat} {t t' : zx_R} {q : zx_Q} {c v : Int} (h : zx_cov G x t t' = true) (hg : zx_gd G q) (hf : zx_fit t q c v) : zx_fit t' (zx_at x m q) c v ∧ zx_to t' (zx_at x m q) = zx_to t q := by
  obtain ⟨g1, g2, g3, g4, g5, g6, g7, g8⟩ := hg
  obtain ⟨f1, f2, f3, f4, f5, f6, f7, f8, f9, f10⟩ := hf
  simp only [zx_cov, Bool.or_eq_true, Bool.and_eq_true, decide_eq_true_eq] at h
  obtain ⟨h1, h2, h3, h4, h5, h6, h7⟩ := h
  refine ⟨⟨by rw [h1]; exact f1, by rw [h1]; exact f2, by rw [h2]; exact f3, ?_, ?_, ?_⟩, ?_⟩
  · intro z
    rcases h3 with h3 | h3
    · omega
    · show (bif decide (0 ≤ x) then x else q.2.1) = _
      cases hx : decide (0 ≤ x) with
      | true => rw [hx] at h3; simp only [cond_true, decide_eq_true_eq] at h3; simp only [cond_true]; exact h3.symm
      | false => rw [hx] at h3; simp only [cond_false, decide_eq_true_eq] at h3; simp only [cond_false]; rw [h3]; exact f4 (by omega)
  · intro z
    rcases h4 with h4 | h4
    · omega
    · show q.1 = _
      rw [h4]; exact f5 (by omega)
  · show t'.2.2.2.1.1 ≤ q.2.2.2.1 ∧ q.2.2.2.1 ≤ t'.2.2.2.1.2.1 ∧ t'.2.2.2.1.2.2.1 ≤ q.2.2.2.2 ∧ q.2.2.2.2 ≤ t'.2.2.2.1.2.2.2.1 ∧ q.2.2.2.1 + q.2.2.2.2 ≤ t'.2.2.2.1.2.2.2.2
    rcases h5 with h5 | ⟨k1, k2, k3, k4, k5⟩
    · rw [h5]; exact ⟨f6, f7, f8, f9, f10⟩
    · exact ⟨by omega, by omega, by omega, by omega, by omega⟩
  · show (q.1, (bif decide (0 ≤ t'.2.2.2.2.1) then t'.2.2.2.2.1 else (bif decide (0 ≤ x) then x else q.2.1)), t'.2.2.2.2.2.1, q.2.2.2.1 + t'.2.2.2.2.2.2.1, q.2.2.2.2 + t'.2.2.2.2.2.2.2) = (q.1, (bif decide (0 ≤ t.2.2.2.2.1) then t.2.2.2.2.1 else q.2.1), t.2.2.2.2.2.1, q.2.2.2.1 + t.2.2.2.2.2.2.1, q.2.2.2.2 + t.2.2.2.2.2.2.2)
    rw [h6]
    have hxf : 0 ≤ zx_xf G → q.2.1 = zx_xf G := by
      intro z
      unfold zx_xf at z ⊢
      cases hd : decide (G.2.1.1 = G.2.1.2) with
      | true =>
        have := of_decide_eq_true hd
        simp only [cond_true]; omega
      | false => rw [hd] at z; simp only [cond_false] at z; omega
    have key : (bif decide (0 ≤ t'.2.2.2.2.1) then t'.2.2.2.2.1 else (bif decide (0 ≤ x) then x else q.2.1)) = (bif decide (0 ≤ t.2.2.2.2.1) then t.2.2.2.2.1 else q.2.1) := by
      cases hs : decide (0 ≤ zx_src G t) with
      | true =>
        rw [hs] at h7; simp only [cond_true, decide_eq_true_eq] at h7
        have hs0 := of_decide_eq_true hs
        have e1 : (bif decide (0 ≤ t.2.2.2.2.1) then t.2.2.2.2.1 else q.2.1) = zx_src G t := by
          unfold zx_src at hs0 ⊢
          cases hd : decide (0 ≤ t.2.2.2.2.1) with
          | true => rfl
          | false => rw [hd] at hs0; simp only [cond_false] at hs0 ⊢; exact hxf hs0
        rw [e1, ← h7]
        cases hd : decide (0 ≤ t'.2.2.2.2.1) with
        | true => rfl
        | false =>
          rw [hd] at h7; simp only [cond_false] at h7 ⊢
          cases hx : decide (0 ≤ x) with
          | true => rfl
          | false => rw [hx] at h7; simp only [cond_false] at h7 ⊢; exact hxf (by rw [h7]; exact hs0)
      | false =>
        rw [hs] at h7; simp only [cond_false, Bool.and_eq_true, decide_eq_true_eq] at h7
        obtain ⟨a1, a2, a3⟩ := h7
        rw [show decide (0 ≤ t'.2.2.2.2.1) = false from decide_eq_false (by omega), show decide (0 ≤ x) = false from decide_eq_false (by omega), show decide (0 ≤ t.2.2.2.2.1) = false from decide_eq_false (by omega)]
        rfl
    rw [key]
/-- where the one may end the other may end -/
noncomputable def zx_cka (G : zx_Gd) (m : Nat) (x : Int) (m2 : Nat) : Bool := (zx_A m).all (fun r => decide (r.2 < G.2.1.1) || (decide (G.2.1.2 < r.1) || (decide (0 < G.2.2.1.1) || (decide (0 < G.2.2.2.1) || (zx_A m2).any (fun r' => bif decide (0 ≤ x) then decide (r'.1 ≤ x) && decide (x ≤ r'.2) else decide (r'.1 ≤ r.1) && decide (r.2 ≤ r'.2))))))
theorem zx_cka_ok {G : zx_Gd} {x : Int} {m2 : Nat} {q : zx_Q} (h : zx_cka G q.2.2.1 x m2 = true) (hg : zx_gd G q) (ha : zx_acc q) : zx_acc (zx_at x m2 q) := by
  obtain ⟨g1, g2, g3, g4, g5, g6, g7, g8⟩ := hg
  obtain ⟨a1, a2, r, hr, r1, r2⟩ := ha
  have := List.all_eq_true.mp h r hr
  simp only [Bool.or_eq_true, decide_eq_true_eq] at this
  rcases this with z | z | z | z | z
  · omega
  · omega
  · omega
  · omega
  · obtain ⟨r', hr', z⟩ := List.any_eq_true.mp z
    refine ⟨a1, a2, r', hr', ?_⟩
    show r'.1 ≤ (bif decide (0 ≤ x) then x else q.2.1) ∧ (bif decide (0 ≤ x) then x else q.2.1) ≤ r'.2
    cases hx : decide (0 ≤ x) with
    | true => rw [hx] at z; simp only [cond_true, Bool.and_eq_true, decide_eq_true_eq] at z ⊢; exact z
    | false => rw [hx] at z; simp only [cond_false, Bool.and_eq_true, decide_eq_true_eq] at z ⊢; omega
/-- all that the one allows the other allows -/
noncomputable def zx_ckr (G : zx_Gd) (m : Nat) (x : Int) (m2 : Nat) : Bool := zx_cka G m x m2 && (zx_T m).all (fun t => zx_exc G t || (zx_T m2).any (zx_cov G x t))
theorem zx_ckr_ok {G : zx_Gd} {x : Int} {m2 : Nat} {q : zx_Q} {fc fv : Int → Int} {p e : Int} (h : zx_ckr G q.2.2.1 x m2 = true) (hg : zx_gd G q) (hs : zx_suf fc fv p e q) : zx_suf fc fv p e (zx_at x m2 q) := by
  simp only [zx_ckr, Bool.and_eq_true] at h
  rcases Int.lt_trichotomy p e with hp | hp | hp
  · obtain ⟨t, ht, hf, hr⟩ := (zx_suf_step hp).mp hs
    have := List.all_eq_true.mp h.2 t ht
    simp only [Bool.or_eq_true] at this
    rcases this with z | z
    · exact (zx_exc_ok z hg hf).elim
    · obtain ⟨t', ht', z⟩ := List.any_eq_true.mp z
      obtain ⟨z1, z2⟩ := zx_cov_ok (m := m2) z hg hf
      exact (zx_suf_step hp).mpr ⟨t', ht', z1, by rw [z2]; exact hr⟩
  · subst hp
    exact zx_suf_end.mpr (zx_cka_ok h.1 hg (zx_suf_end.mp hs))
  · intro z; omega
noncomputable def zx_eq (o t : zx_R) : Bool := decide (o.1 = t.1) && (decide (o.2.1 = t.2.1) && (decide (o.2.2.1 = t.2.2.1) && (decide (o.2.2.2.1 = t.2.2.2.1) && decide (o.2.2.2.2 = t.2.2.2.2))))
theorem zx_eq_ok {o t : zx_R} (h : zx_eq o t = true) : o = t := by
  simp only [zx_eq, Bool.and_eq_true, decide_eq_true_eq] at h
  obtain ⟨h1, h2, h3, h4, h5⟩ := h
  exact Prod.ext h1 (Prod.ext h2 (Prod.ext h3 (Prod.ext h4 h5)))
/-- a look ahead: one of the steps told, or (within a range of codes, or at the end) the other state -/
noncomputable def zx_ckl (G : zx_Gd) (m : Nat) (x : Int) (m2 : Nat) (ops : List zx_R) (gaps : List (Int × Int)) (en : Bool) : Bool := (zx_A m).all (fun r => decide (r.2 < G.2.1.1) || (decide (G.2.1.2 < r.1) || (decide (0 < G.2.2.1.1) || (decide (0 < G.2.2.2.1) || (en && zx_cka G m x m2))))) && (zx_T m).all (fun t => zx_exc G t || (ops.any (fun o => zx_eq o t) || (gaps.any (fun g => decide (g.1 ≤ t.1.1) && decide (t.1.2 ≤ g.2)) && (zx_T m2).any (zx_cov G x t))))
theorem zx_ckl_ok {G : zx_Gd} {x : Int} {m2 : Nat} {q : zx_Q} {fc fv : Int → Int} {p e : Int} {ops : List zx_R} {gaps : List (Int × Int)} {en : Bool} (h : zx_ckl G q.2.2.1 x m2 ops gaps en = true) (hg : zx_gd G q) (hpe : p ≤ e) (hs : zx_suf fc fv p e q) :
    (∃ t ∈ ops, p < e ∧ zx_fit t q (fc p) (fv p) ∧ zx_suf fc fv (p + 1) e (zx_to t q)) ∨ (∃ g ∈ gaps, p < e ∧ g.1 ≤ fc p ∧ fc p ≤ g.2 ∧ zx_suf fc fv p e (zx_at x m2 q)) ∨ (en = true ∧ p = e ∧ q.2.2.2.1 = 0 ∧ q.2.2.2.2 = 0 ∧ zx_suf fc fv p e (zx_at x m2 q)) := by
  simp only [zx_ckl, Bool.and_eq_true] at h
  rcases Int.lt_or_eq_of_le hpe with hp | hp
  · obtain ⟨t, ht, hf, hr⟩ := (zx_suf_step hp).mp hs
    have := List.all_eq_true.mp h.2 t ht
    simp only [Bool.or_eq_true, Bool.and_eq_true] at this
    rcases this with z | z | ⟨z, z'⟩
    · exact (zx_exc_ok z hg hf).elim
    · obtain ⟨o, ho, z⟩ := List.any_eq_true.mp z
      rw [← zx_eq_ok z] at hf hr
      exact Or.inl ⟨o, ho, hp, hf, hr⟩
    · obtain ⟨g, hgm, z⟩ := List.any_eq_true.mp z
      simp only [Bool.and_eq_true, decide_eq_true_eq] at z
      obtain ⟨t', ht', z'⟩ := List.any_eq_true.mp z'
      obtain ⟨z1, z2⟩ := zx_cov_ok (m := m2) z' hg hf
      have f1 := hf.1
      have f2 := hf.2.1
      exact Or.inr (Or.inl ⟨g, hgm, hp, by omega, by omega, (zx_suf_step hp).mpr ⟨t', ht', z1, by rw [z2]; exact hr⟩⟩)
  · subst hp
    have ha := zx_suf_end.mp hs
    obtain ⟨a1, a2, r, hr, r1, r2⟩ := ha
    obtain ⟨g1, g2, g3, g4, g5, g6, g7, g8⟩ := hg
    have := List.all_eq_true.mp h.1 r hr
    simp only [Bool.or_eq_true, Bool.and_eq_true, decide_eq_true_eq] at this
    rcases this with z | z | z | z | ⟨z1, z2⟩
    · omega
    · omega
    · omega
    · omega
    · exact Or.inr (Or.inr ⟨z1, rfl, a1, a2, zx_suf_end.mpr (zx_cka_ok z2 ⟨g1, g2, g3, g4, g5, g6, g7, g8⟩ ⟨a1, a2, r, hr, r1, r2⟩)⟩)
