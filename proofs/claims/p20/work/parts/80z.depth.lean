/-! THE WORLD'S NUMBER, changed -/
noncomputable def zd_up (A : zf_A) (v : Nat) : zf_A := (fun i => if i = 500 then v else A.1 i, A.2)
theorem zd_sc {A : zf_A} {v : Nat} : zf_sc (zd_up A v).1 = zf_sc A.1 := by
  funext j
  show (((if 1000 + j = 500 then v else A.1 (1000 + j)) : Nat) : Int) - 2147483648 = (A.1 (1000 + j) : Int) - 2147483648
  rw [if_neg (by omega)]
theorem zd_AO {A : zf_A} {v : Nat} : zf_AO (zd_up A v) = zf_AO A := by
  have e : zf_P3 (zd_up A v) = zf_P3 A := by
    unfold zf_P3
    rw [zd_sc]
    rfl
  have e2 : zf_S (zd_up A v) = zf_S A := by
    funext U
    unfold zf_S
    rw [e]
    rfl
  unfold zf_AO
  rw [e2]
  rfl
theorem zd_h401 {A : zf_A} : ∀ (as : List Int) (P : zq_Ty) (h : zq_H), zX A.1 401 as P h → zX (zd_up A (A.1 500 + 1)).1 400 as P h := by
  intro as P h k
  have k : (A.1 500 : Int) + 1 ≤ zq_en as 0 := k
  show ((A.1 500 + 1 : Nat) : Int) ≤ zq_en as 0
  omega
theorem zd_h400 {A : zf_A} : ∀ (v : Int) (P : zq_Ty) (h : zq_H), 0 ≤ v → zX (zd_up A 0).1 400 [v] P h := by
  intro v P h k
  show ((0 : Nat) : Int) ≤ v
  omega
