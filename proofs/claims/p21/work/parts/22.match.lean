/-! AN ABSTRACT STATE UNDER A SUBSTITUTION -/
noncomputable def zq_sbT (g : List zq_L) (l : List (Nat × Int)) : zq_L := List.rec (motive := fun _ => zq_L) (0, []) (fun t _ ih => zq_add (zq_smul t.2 (zq_nth (0, []) g t.1)) ih) l
theorem zq_sbT_c {g : List zq_L} {t : Nat × Int} {l : List (Nat × Int)} : zq_sbT g (t :: l) = zq_add (zq_smul t.2 (g.getD t.1 (0, []))) (zq_sbT g l) := by
  rw [← zq_nth_eq]; rfl
noncomputable def zq_sb (g : List zq_L) (e : zq_L) : zq_L := zq_addk (zq_sbT g e.2) e.1
noncomputable def zq_sv (r : Nat → Int) (g : List zq_L) : Nat → Int := fun i => zq_ev r (g.getD i (0, []))
theorem zq_ev_sbT (r : Nat → Int) (g : List zq_L) : ∀ l, zq_ev r (zq_sbT g l) = zq_ts (zq_sv r g) l
  | [] => by
    show zq_ev r (0, []) = zq_ts (zq_sv r g) []
    simp [zq_ev, zq_ts]
  | t :: l => by rw [zq_sbT_c, zq_ev_add, zq_ev_smul, zq_ev_sbT r g l]; rfl
theorem zq_ev_sb (r : Nat → Int) (g : List zq_L) (e : zq_L) : zq_ev r (zq_sb g e) = zq_ev (zq_sv r g) e := by
  rw [zq_sb, zq_ev_addk, zq_ev_sbT]
  show _ = e.1 + zq_ts _ e.2
  omega
noncomputable def zq_bdg (n : Nat) (g : List zq_L) : Bool := g.all (zq_bd n)
theorem zq_bdg_get {n : Nat} {g : List zq_L} (h : zq_bdg n g = true) (i : Nat) : zq_bd n (g.getD i (0, [])) = true := by
  rw [List.getD_eq_getElem?_getD]
  cases hc : g[i]? with
  | none => rfl
  | some e => exact List.all_eq_true.mp h e (List.mem_of_getElem? hc)
theorem zq_bd_sbT {n : Nat} {g : List zq_L} (h : zq_bdg n g = true) : ∀ l, zq_bd n (zq_sbT g l) = true
  | [] => rfl
  | t :: l => by rw [zq_sbT_c]; exact zq_bd_add (zq_bd_smul (zq_bdg_get h t.1)) (zq_bd_sbT h l)
theorem zq_bd_sb {n : Nat} {g : List zq_L} (h : zq_bdg n g = true) (e : zq_L) : zq_bd n (zq_sb g e) = true := zq_bd_addk (zq_bd_sbT h e.2)
/-- all expressions of a state are over its variables -/
noncomputable def zq_wf (A : zq_S) : Bool := match A with
  | (loc, stk, C, F, sto, raw, tok, n) => loc.all (fun x => zq_bd n x.2.2) && (stk.all (fun x => zq_bd n x.2) && (C.all (zq_bd n) && (F.all (fun x => zq_bd n x.1) && (sto.all (fun x => zq_bd n x.1 && (zq_bd n x.2.1 && zq_bd n x.2.2)) && (raw.all (fun x => zq_bd n x.1 && x.2.2.all (fun y => zq_bd n y.2)) && tok.all (fun x => x.2.all (zq_bd n)))))))
noncomputable def zq_mtk (g : List zq_L) : List (Nat × zq_L) → List (Nat × zq_L) → Bool
  | [], [] => true
  | x :: l, y :: m => Nat.beq x.1 y.1 && (zq_eq (zq_sb g x.2) y.2 && zq_mtk g l m)
  | _, _ => false
theorem zq_mtk_ok {g : List zq_L} : ∀ {a b : List (Nat × zq_L)}, zq_mtk g a b = true → a.map (fun x => (x.1, zq_sb g x.2)) = b
  | [], [], _ => rfl
  | x :: l, y :: m, h => by
    simp only [zq_mtk, Bool.and_eq_true] at h
    rw [List.map_cons, zq_mtk_ok h.2.2, zq_eq_ok h.2.1, Nat.eq_of_beq_eq_true h.1]
  | [], _ :: _, h => by cases h
  | _ :: _, [], h => by cases h
noncomputable def zq_mtC (g : List zq_L) (C : List zq_L) : List zq_L → List Nat → Option (List Nat)
  | [], q => some q
  | e :: l, q => match zq_prove C (zq_sb g e) q with
    | some q => zq_mtC g C l q
    | none => none
theorem zq_mtC_ok {g C : List zq_L} {r : Nat → Int} (hC : zq_all r C) : ∀ {l : List zq_L} {q q' : List Nat}, zq_mtC g C l q = some q' → zq_all (zq_sv r g) l
  | [], _, _, _ => fun e he => by cases he
  | x :: l, q, q', h => by
    unfold zq_mtC at h
    split at h
    · rename_i q1 hq1
      intro e he
      rcases List.mem_cons.mp he with rfl | he
      · rw [← zq_ev_sb]; exact zq_prove_ok hq1 hC
      · exact zq_mtC_ok hC h e he
    · cases h
noncomputable def zq_mtF (g : List zq_L) (F : List (zq_L × Nat)) (x : zq_L × Nat) : Bool := match zq_kd F (zq_sb g x.1) with
  | some k => Nat.beq k x.2
  | none => false
noncomputable def zq_mtS (g : List zq_L) (sto : zq_St) (x : zq_L × zq_L × zq_L) : Bool := zq_anyf (fun y => zq_eq y.1 (zq_sb g x.1) && (zq_eq y.2.1 (zq_sb g x.2.1) && zq_eq y.2.2 (zq_sb g x.2.2))) sto
noncomputable def zq_eqs : List zq_L → List zq_L → Bool
  | [], [] => true
  | x :: l, y :: m => zq_eq x y && zq_eqs l m
  | _, _ => false
theorem zq_eqs_ok : ∀ {a b : List zq_L}, zq_eqs a b = true → a = b
  | [], [], _ => rfl
  | x :: l, y :: m, h => by
    simp only [zq_eqs, Bool.and_eq_true] at h
    rw [zq_eq_ok h.1, zq_eqs_ok h.2]
  | [], _ :: _, h => by cases h
  | _ :: _, [], h => by cases h
noncomputable def zq_mtX (g : List zq_L) (tok : List (Nat × List zq_L)) (x : Nat × List zq_L) : Bool := zq_anyf (fun y => Nat.beq y.1 x.1 && zq_eqs y.2 (x.2.map (zq_sb g))) tok
noncomputable def zq_mtR (g : List zq_L) : zq_Rw → zq_Rw → Bool
  | [], [] => true
  | x :: l, y :: m => zq_eq (zq_sb g x.1) y.1 && (Nat.beq x.2.1 y.2.1 && (zq_mtk g x.2.2 y.2.2 && zq_mtR g l m))
  | _, _ => false
theorem zq_mtR_ok {g : List zq_L} : ∀ {a b : zq_Rw}, zq_mtR g a b = true → a.map (fun x => (zq_sb g x.1, x.2.1, x.2.2.map (fun y => (y.1, zq_sb g y.2)))) = b
  | [], [], _ => rfl
  | x :: l, y :: m, h => by
    simp only [zq_mtR, Bool.and_eq_true] at h
    rw [List.map_cons, zq_mtR_ok h.2.2.2, zq_eq_ok h.1, Nat.eq_of_beq_eq_true h.2.1, zq_mtk_ok h.2.2.1]
  | [], _ :: _, h => by cases h
  | _ :: _, [], h => by cases h
/-- memory's part fits -/
noncomputable def zq_mtM (g : List zq_L) (A S : zq_S) (q : List Nat) : Option (List Nat) := bif zq_bdg S.2.2.2.2.2.2.2 g && (A.2.2.2.1.all (zq_mtF g S.2.2.2.1) && (A.2.2.2.2.1.all (zq_mtS g S.2.2.2.2.1) && (zq_mtR g A.2.2.2.2.2.1 S.2.2.2.2.2.1 && A.2.2.2.2.2.2.1.all (zq_mtX g S.2.2.2.2.2.2.1)))) then zq_mtC g S.2.2.1 A.2.2.1 q else none
theorem zq_mtM_ok {w : zq_Wd} {r : Nat → Int} {P : zq_Ty} {h : zq_H} {H : Heap} {g : List zq_L} {A S : zq_S} {q q' : List Nat} (hm : zq_mtM g A S q = some q') (hA : zq_wf A = true) (M : zq_Me w r P h H S.2.2.1 S.2.2.2.1 S.2.2.2.2.1 S.2.2.2.2.2.1 S.2.2.2.2.2.2.1 S.2.2.2.2.2.2.2) :
    zq_Me w (zq_sv r g) P h H A.2.2.1 A.2.2.2.1 A.2.2.2.2.1 A.2.2.2.2.2.1 A.2.2.2.2.2.2.1 A.2.2.2.2.2.2.2 := by
  obtain ⟨loc, stk, C, F, sto, raw, tok, n⟩ := A
  simp only [zq_wf, Bool.and_eq_true, List.all_eq_true] at hA
  obtain ⟨-, -, a3, a4, a5, a6, a7⟩ := hA
  unfold zq_mtM at hm
  cases hc : (zq_bdg S.2.2.2.2.2.2.2 g && (F.all (zq_mtF g S.2.2.2.1) && (sto.all (zq_mtS g S.2.2.2.2.1) && (zq_mtR g raw S.2.2.2.2.2.1 && tok.all (zq_mtX g S.2.2.2.2.2.2.1))))) with
  | false => rw [hc] at hm; cases hm
  | true =>
    rw [hc] at hm
    simp only [cond_true] at hm
    simp only [Bool.and_eq_true, List.all_eq_true] at hc
    obtain ⟨c1, c2, c3, c4, c5⟩ := hc
    have hR := zq_mtR_ok c4
    refine ⟨M.1, ⟨zq_mtC_ok M.2.1.1 hm, a3⟩, ?_, ?_, ⟨?_, ?_⟩, ?_⟩
    · intro x hx
      refine ⟨a4 x hx, fun a ha => ?_⟩
      have := c2 x hx
      unfold zq_mtF at this
      split at this
      · rename_i k hk
        have e := Nat.eq_of_beq_eq_true this
        subst e
        exact (M.2.2.1 _ (zq_kd_ok hk)).2 a (by show zq_ev r (zq_sb g x.1) = _; rw [zq_ev_sb]; exact ha)
      · cases this
    · intro x hx
      have hb := a5 x hx
      obtain ⟨y, hy, he⟩ := zq_anyf_any (c3 x hx)
      simp only [Bool.and_eq_true] at he
      obtain ⟨-, -, -, a, k1, k2, k3⟩ := M.2.2.2.1 y hy
      rw [zq_eq_ok he.1, zq_ev_sb] at k1
      rw [zq_eq_ok he.2.1, zq_eq_ok he.2.2, zq_ev_sb, zq_ev_sb] at k3
      exact ⟨hb.1, hb.2.1, hb.2.2, a, k1, k2, k3⟩
    · intro x hx
      have hb := a6 x hx
      have hm' : (zq_sb g x.1, x.2.1, x.2.2.map (fun y => (y.1, zq_sb g y.2))) ∈ S.2.2.2.2.2.1 := by rw [← hR]; exact List.mem_map.mpr ⟨x, hx, rfl⟩
      obtain ⟨a, y1, y2, y3, y4, y5⟩ := M.2.2.2.2.1.1 _ hm'
      simp only at y1 y2 y3 y5
      rw [zq_ev_sb] at y3
      refine ⟨a, hb.1, fun y hy => ⟨hb.2 y hy, ?_⟩, y3, y4, ?_⟩
      · have := (y2 _ (List.mem_map.mpr ⟨y, hy, rfl⟩)).2
        simp only at this
        rw [zq_ev_sb] at this; exact this
      · rw [List.map_map] at y5
        have e : x.2.2.map ((fun y => zq_val y.1 (zq_ev r y.2)) ∘ fun y => (y.1, zq_sb g y.2)) = x.2.2.map (fun y => zq_val y.1 (zq_ev (zq_sv r g) y.2)) := List.map_congr_left fun y _ => by simp only [Function.comp]; rw [zq_ev_sb]
        rw [e] at y5; exact y5
    · have hp := M.2.2.2.2.1.2
      rw [← hR, List.pairwise_map] at hp
      exact hp.imp fun {x y} q => by simp only at q; rw [zq_ev_sb, zq_ev_sb] at q; exact q
    · intro x hx
      refine ⟨a7 x hx, ?_⟩
      obtain ⟨y, hy, he⟩ := zq_anyf_any (c5 x hx)
      simp only [Bool.and_eq_true] at he
      have e1 := Nat.eq_of_beq_eq_true he.1
      have e2 := zq_eqs_ok he.2
      have := (M.2.2.2.2.2 y hy).2
      rw [e1, e2, List.map_map] at this
      rw [show x.2.map (zq_ev (zq_sv r g)) = x.2.map (zq_ev r ∘ zq_sb g) from List.map_congr_left fun z _ => by simp only [Function.comp]; rw [zq_ev_sb]]
      exact this
/-- the whole state fits -/
noncomputable def zq_mt (g : List zq_L) (A S : zq_S) (q : List Nat) : Option (List Nat) := bif A.1.all (fun x => match zq_lk x.1 x.2.1 S.1 with
    | some e => zq_eq e (zq_sb g x.2.2)
    | none => false) && zq_mtk g A.2.1 S.2.1 then zq_mtM g A S q else none
theorem zq_mt_ok {w : zq_Wd} {nL : Nat} {r : Nat → Int} {P : zq_Ty} {h : zq_H} {H : Heap} {ls : Array Slot} {st : List Value} {g : List zq_L} {A S : zq_S} {q q' : List Nat} (hm : zq_mt g A S q = some q') (hA : zq_wf A = true) (G : zq_G w nL r P h H ls st S) : zq_G w nL (zq_sv r g) P h H ls st A := by
  obtain ⟨hl, hst, oL, oT, Me⟩ := G
  unfold zq_mt at hm
  cases hc : (A.1.all (fun x => match zq_lk x.1 x.2.1 S.1 with
    | some e => zq_eq e (zq_sb g x.2.2)
    | none => false) && zq_mtk g A.2.1 S.2.1) with
  | false => rw [hc] at hm; cases hm
  | true =>
    rw [hc] at hm
    simp only [cond_true] at hm
    simp only [Bool.and_eq_true, List.all_eq_true] at hc
    have hk := zq_mtk_ok hc.2
    have hW := hA
    obtain ⟨loc, stk, C, F, sto, raw, tok, n⟩ := A
    simp only [zq_wf, Bool.and_eq_true, List.all_eq_true] at hW
    obtain ⟨a1, a2, -⟩ := hW
    have hloc : ∀ x ∈ loc, (x.1, x.2.1, zq_sb g x.2.2) ∈ S.1 := by
      intro x hx
      have := hc.1 x hx
      split at this
      · rename_i ex hex
        have e := zq_eq_ok this
        subst e
        exact zq_lk_ok hex
      · cases this
    refine ⟨⟨hl.1, hl.2.1, fun y hy => ?_⟩, ?_, fun x hx => ⟨a1 x hx, ?_⟩, fun x hx => ⟨a2 x hx, ?_⟩, zq_mtM_ok hm hA Me⟩
    · obtain ⟨x, hx, rfl⟩ := List.mem_map.mp hy
      have := hl.2.2 (x.1, zq_val x.2.1 (zq_ev r (zq_sb g x.2.2))) (List.mem_map.mpr ⟨_, hloc x hx, rfl⟩)
      rw [zq_ev_sb] at this; exact this
    · rw [hst, ← hk]
      simp only [zq_sts, List.map_map]
      exact List.map_congr_left fun x _ => by simp only [Function.comp]; rw [zq_ev_sb]
    · have := (oL _ (hloc x hx)).2
      simp only at this
      rw [zq_ev_sb] at this; exact this
    · have := (oT (x.1, zq_sb g x.2) (by rw [← hk]; exact List.mem_map.mpr ⟨x, hx, rfl⟩)).2
      simp only at this
      rw [zq_ev_sb] at this; exact this
theorem zq_mtM_raw {g : List zq_L} {A S : zq_S} {q q' : List Nat} (hm : zq_mtM g A S q = some q') : A.2.2.2.2.2.1.map (fun x => (zq_sb g x.1, x.2.1, x.2.2.map (fun y => (y.1, zq_sb g y.2)))) = S.2.2.2.2.2.1 := by
  unfold zq_mtM at hm
  cases hc : (zq_bdg S.2.2.2.2.2.2.2 g && (A.2.2.2.1.all (zq_mtF g S.2.2.2.1) && (A.2.2.2.2.1.all (zq_mtS g S.2.2.2.2.1) && (zq_mtR g A.2.2.2.2.2.1 S.2.2.2.2.2.1 && A.2.2.2.2.2.2.1.all (zq_mtX g S.2.2.2.2.2.2.1))))) with
  | false => rw [hc] at hm; cases hm
  | true => simp only [Bool.and_eq_true] at hc; exact zq_mtR_ok hc.2.2.2.1
theorem zq_mt_raw {g : List zq_L} {A S : zq_S} {q q' : List Nat} (hm : zq_mt g A S q = some q') : A.2.2.2.2.2.1.map (fun x => (zq_sb g x.1, x.2.1, x.2.2.map (fun y => (y.1, zq_sb g y.2)))) = S.2.2.2.2.2.1 := by
  unfold zq_mt at hm
  cases hc : (A.1.all (fun x => match zq_lk x.1 x.2.1 S.1 with
    | some e => zq_eq e (zq_sb g x.2.2)
    | none => false) && zq_mtk g A.2.1 S.2.1) with
  | false => rw [hc] at hm; cases hm
  | true => rw [hc] at hm; exact zq_mtM_raw hm
/-- the first n variables stay -/
noncomputable def zq_idl (g : List zq_L) : Nat → Nat → Bool := List.rec (motive := fun _ => Nat → Nat → Bool) (fun _ n => Nat.beq n 0) (fun a _ ih i n => Nat.rec (motive := fun _ => Bool) true (fun m _ => Bool.rec (motive := fun _ => Bool) false (ih (Nat.succ i) m) (zq_eq a (zq_v i))) n) g
theorem zq_idl_ok : ∀ {g : List zq_L} {i n : Nat}, zq_idl g i n = true → ∀ j, j < n → g.getD j (0, []) = zq_v (i + j)
  | [], i, n, h, j, hj => by
    have := Nat.eq_of_beq_eq_true (show Nat.beq n 0 = true from h)
    omega
  | a :: l, i, 0, _, j, hj => by omega
  | a :: l, i, n + 1, h, j, hj => by
    have h' : Bool.rec (motive := fun _ => Bool) false (zq_idl l (Nat.succ i) n) (zq_eq a (zq_v i)) = true := h
    cases he : zq_eq a (zq_v i) with
    | false => rw [he] at h'; exact absurd (show false = true from h') Bool.false_ne_true
    | true =>
      rw [he] at h'
      cases j with
      | zero => exact zq_eq_ok he
      | succ j =>
        show l.getD j (0, []) = zq_v (i + (j + 1))
        rw [zq_idl_ok (show zq_idl l (Nat.succ i) n = true from h') j (by omega)]
        congr 1; omega
noncomputable def zq_idn (n : Nat) (g : List zq_L) : Bool := zq_idl g 0 n
theorem zq_idn_ok {n : Nat} {g : List zq_L} (h : zq_idn n g = true) (r : Nat → Int) : zq_ext n r (zq_sv r g) := by
  intro i hi
  have := zq_idl_ok (show zq_idl g 0 n = true from h) i hi
  unfold zq_sv
  rw [this, zq_ev_v, Nat.zero_add]
noncomputable def zq_rdG : Nat → List Nat → Option (List zq_L × List Nat)
  | 0, q => some ([], q)
  | k + 1, q => match zq_rdL q with
    | some (e, q) => match zq_rdG k q with
      | some (l, q) => some (e :: l, q)
      | none => none
    | none => none
