/-! TOKENS of the reference: 1 a text of kept goes on well; 2 the laws kept are well formed; 3 what is read so far; 4 what is read is a text; 5 a text copied so far; 6 an image; 7 an image copied so far -/
noncomputable def zx_pre (gc gv : Int → Int) (i o : Int) (q : zx_Q) : Prop := ∀ (fc fv : Int → Int) (e : Int), (∀ j, 0 ≤ j → j < i → fc j = gc j ∧ fv j = gv j) → i ≤ e → zx_suf fc fv i e q → zx_suf fc fv 0 e (o, 0, 0, 0, 0)
noncomputable def zx_txt (f : Int → Int) (t o : Int) : Prop := 0 ≤ f (64 + t) ∧ f (64 + t) ≤ 400 ∧ zx_suf (fun j => f (71 + j)) (fun j => f (2871 + j)) (400 * t) (400 * t + f (64 + t)) (o, 0, 0, 0, 0)
noncomputable def zx_1 (r : Nat → Int) (P : zq_Ty) (h : zq_H) : Prop := 0 ≤ r 0 ∧ P (r 0).toNat = some 1 ∧ 0 ≤ r 1 ∧ r 2 ≤ 2800 ∧ zx_suf (fun j => h (r 0).toNat (71 + j)) (fun j => h (r 0).toNat (2871 + j)) (r 1) (r 2) (r 3, r 4, (r 5).toNat, r 6, r 7)
noncomputable def zx_2 (r : Nat → Int) (P : zq_Ty) (h : zq_H) : Prop := 0 ≤ r 0 ∧ P (r 0).toNat = some 1 ∧ r 1 ≤ 6 ∧ ∀ t, 0 ≤ t → t < r 1 → zx_txt (h (r 0).toNat) t 0
noncomputable def zx_3 (r : Nat → Int) (P : zq_Ty) (h : zq_H) : Prop := 0 ≤ r 0 ∧ P (r 0).toNat = some 8 ∧ 0 ≤ r 1 ∧ P (r 1).toNat = some 9 ∧ 0 ≤ r 2 ∧ r 2 ≤ 401 ∧ zx_pre (h (r 0).toNat) (h (r 1).toNat) (r 2) (r 3) (r 3, r 4, (r 5).toNat, r 6, r 7)
noncomputable def zx_4 (r : Nat → Int) (P : zq_Ty) (h : zq_H) : Prop := 0 ≤ r 0 ∧ P (r 0).toNat = some 8 ∧ 0 ≤ r 1 ∧ P (r 1).toNat = some 9 ∧ 0 ≤ r 2 ∧ r 2 ≤ 401 ∧ zx_suf (h (r 0).toNat) (h (r 1).toNat) 0 (r 2) (r 3, 0, 0, 0, 0)
noncomputable def zx_5 (r : Nat → Int) (P : zq_Ty) (h : zq_H) : Prop := 0 ≤ r 0 ∧ P (r 0).toNat = some 1 ∧ 0 ≤ r 2 ∧ P (r 2).toNat = some 8 ∧ 0 ≤ r 3 ∧ P (r 3).toNat = some 9 ∧ 0 ≤ r 1 ∧ 0 ≤ r 4 ∧ r 4 ≤ 401 ∧ r 1 + r 4 ≤ 2800 ∧ ∀ j, 0 ≤ j → j < r 4 → h (r 0).toNat (71 + r 1 + j) = h (r 2).toNat j ∧ h (r 0).toNat (2871 + r 1 + j) = h (r 3).toNat j
noncomputable def zx_6 (r : Nat → Int) (P : zq_Ty) (h : zq_H) : Prop := 0 ≤ r 0 ∧ P (r 0).toNat = some 2 ∧ 0 ≤ r 1 ∧ P (r 1).toNat = some 3 ∧ 0 ≤ r 2 ∧ r 2 ≤ 1 ∧ (h (r 1).toNat (r 2) ≠ 0 → -1 ≤ h (r 0).toNat (5671 * r 2 + 63) ∧ h (r 0).toNat (5671 * r 2 + 63) < h (r 0).toNat (5671 * r 2 + 62) ∧ h (r 0).toNat (5671 * r 2 + 62) ≤ 6 ∧ ∀ t, 0 ≤ t → t < h (r 0).toNat (5671 * r 2 + 62) → zx_txt (fun j => h (r 0).toNat (5671 * r 2 + j)) t 0)
noncomputable def zx_7 (r : Nat → Int) (P : zq_Ty) (h : zq_H) : Prop := 0 ≤ r 0 ∧ P (r 0).toNat = some 1 ∧ 0 ≤ r 1 ∧ P (r 1).toNat = some 2 ∧ 0 ≤ r 2 ∧ 0 ≤ r 3 ∧ r 3 ≤ 5671 ∧ r 2 + r 3 ≤ 11342 ∧ ∀ j, 0 ≤ j → j < r 3 → h (r 1).toNat (r 2 + j) = h (r 0).toNat j
noncomputable def zX (A0 : Nat → Nat) (id : Nat) (as : List Int) (P : zq_Ty) (h : zq_H) : Prop := match id with
  | 80 => as = [(A0 0 : Int)]
  | 81 => as = [(A0 1 : Int)]
  | 82 => as = [(A0 2 : Int)]
  | 83 => as = [(A0 3 : Int), (A0 4 : Int)]
  | 84 => zq_en as 1 + 2147483648 = (A0 (1000 + (zq_en as 0).toNat) : Int)
  | 1 => zx_1 (zq_en as) P h
  | 2 => zx_2 (zq_en as) P h
  | 3 => zx_3 (zq_en as) P h
  | 4 => zx_4 (zq_en as) P h
  | 5 => zx_5 (zq_en as) P h
  | 6 => zx_6 (zq_en as) P h
  | 7 => zx_7 (zq_en as) P h
  | 20 => zj_ST 97 (zq_en as) P h
  | 21 => zt_TC 95 (zq_en as) P h
  | 22 => zt_TC 6 (zq_en as) P h
  | 23 => zt_RW 95 (zq_en as) P h
  | 24 => zt_RW 6 (zq_en as) P h
  | 25 => zt_RE 95 (zq_en as) P h
  | 26 => zt_RE 6 (zq_en as) P h
  | 27 => zt_PA (zq_en as)
  | 30 => zg_J 44 45 46 47 36 (zq_en as) P h
  | 31 => zg_J 59 60 61 62 51 (zq_en as) P h
  | 32 => zg_J 74 75 76 77 66 (zq_en as) P h
  | 33 => zg_J 89 90 91 92 81 (zq_en as) P h
  | 40 => zj_EN 16 44 59 (zq_en as) P h
  | 41 => zj_EN 16 45 60 (zq_en as) P h
  | 42 => zj_EN 16 46 61 (zq_en as) P h
  | 43 => zj_EN 16 47 62 (zq_en as) P h
  | 44 => zj_EN 6 36 51 (zq_en as) P h
  | 45 => zj_EN 3 42 57 (zq_en as) P h
  | 46 => zj_EN 16 59 44 (zq_en as) P h
  | 47 => zj_EN 16 60 45 (zq_en as) P h
  | 48 => zj_EN 16 61 46 (zq_en as) P h
  | 49 => zj_EN 16 62 47 (zq_en as) P h
  | 50 => zj_EN 6 51 36 (zq_en as) P h
  | 51 => zj_EN 3 57 42 (zq_en as) P h
  | 52 => zj_EN 16 74 44 (zq_en as) P h
  | 53 => zj_EN 16 75 45 (zq_en as) P h
  | 54 => zj_EN 16 76 46 (zq_en as) P h
  | 55 => zj_EN 16 77 47 (zq_en as) P h
  | 56 => zj_EN 6 66 36 (zq_en as) P h
  | 57 => zj_EN 3 72 42 (zq_en as) P h
  | 58 => zj_EN 16 89 44 (zq_en as) P h
  | 59 => zj_EN 16 90 45 (zq_en as) P h
  | 60 => zj_EN 16 91 46 (zq_en as) P h
  | 61 => zj_EN 16 92 47 (zq_en as) P h
  | 62 => zj_EN 6 81 36 (zq_en as) P h
  | 63 => zj_EN 3 87 42 (zq_en as) P h
  | 64 => zj_EN 16 44 74 (zq_en as) P h
  | 65 => zj_EN 16 45 75 (zq_en as) P h
  | 66 => zj_EN 16 46 76 (zq_en as) P h
  | 67 => zj_EN 16 47 77 (zq_en as) P h
  | 68 => zj_EN 6 36 66 (zq_en as) P h
  | 69 => zj_EN 3 42 72 (zq_en as) P h
  | 70 => zj_EN 16 44 89 (zq_en as) P h
  | 71 => zj_EN 16 45 90 (zq_en as) P h
  | 72 => zj_EN 16 46 91 (zq_en as) P h
  | 73 => zj_EN 16 47 92 (zq_en as) P h
  | 74 => zj_EN 6 36 81 (zq_en as) P h
  | 75 => zj_EN 3 42 87 (zq_en as) P h
  | 100 => zu_SGC (zq_en as 0) (zq_en as 1) (zq_en as 2) (zq_en as 3) (zq_en as 4) (zq_en as 5) P h
  | 101 => zu_SGO (zq_en as 0) (zq_en as 1) (zq_en as 2) (zq_en as 3) (zq_en as 4) (zq_en as 5) (zq_en as 6) P h
  | 102 => zu_SGN (zq_en as 0) (zq_en as 1) (zq_en as 2) (zq_en as 3) (zq_en as 4) (zq_en as 5) (zq_en as 6) P h
  | 103 => zu_SGD (zq_en as 0) (zq_en as 1) (zq_en as 2) (zq_en as 3) (zq_en as 4) P h
  | 104 => zu_NMD (zq_en as 0) (zq_en as 1) (zq_en as 2) (zq_en as 3) (zq_en as 4) P h
  | 105 => zu_LXC (zq_en as 0) (zq_en as 1) (zq_en as 2) (zq_en as 3) (zq_en as 4) (zq_en as 5) P h
  | 106 => zu_SOF (zq_en as 0) (zq_en as 1) (zq_en as 2) (zq_en as 3) (zq_en as 4) (zq_en as 5) (zq_en as 6) P h
  | 107 => zu_LXR (zq_en as 0) (zq_en as 1) (zq_en as 2) (zq_en as 3) (zq_en as 4) (zq_en as 5) P h
  | 108 => zu_WR (zq_en as 0) (zq_en as 1) P h
  | 109 => zu_NE (zq_en as 0) (zq_en as 1) (zq_en as 2) (zq_en as 3) (zq_en as 4) (zq_en as 5) P h
  | 110 => zu_SE (zq_en as 0) (zq_en as 1) (zq_en as 2) (zq_en as 3) (zq_en as 4) P h
  | 111 => zu_WDC (zq_en as 0) (zq_en as 1) (zq_en as 2) (zq_en as 3) (zq_en as 4) P h
  | 112 => zu_WDR (zq_en as 0) (zq_en as 1) (zq_en as 2) (zq_en as 3) (zq_en as 4) P h
  | 113 => zu_SCC (zq_en as 0) (zq_en as 1) (zq_en as 2) (zq_en as 3) (zq_en as 4) (zq_en as 5) (zq_en as 6) (zq_en as 7) P h
  | 114 => zu_SCR (zq_en as 0) (zq_en as 1) (zq_en as 2) (zq_en as 3) (zq_en as 4) (zq_en as 5) (zq_en as 6) P h
  | 115 => zu_CH (zq_en as 0) (zq_en as 1) P h
  | 116 => zu_LN (zq_en as 0) (zq_en as 1) P h
  | 117 => zu_WL (zq_en as 0) (zq_en as 1) P h
  | 118 => zu_PF (zq_en as 0) (zq_en as 1) (zq_en as 2) (zq_en as 3) (zq_en as 4) P h
  | 119 => zu_NVC (zq_en as 0) (zq_en as 1) (zq_en as 2) (zq_en as 3) (zq_en as 4) P h
  | 120 => zu_NVR (zq_en as 0) (zq_en as 1) (zq_en as 2) (zq_en as 3) (zq_en as 4) P h
  | 121 => zu_RNS (zq_en as 0) (zq_en as 1) (zq_en as 2) (zq_en as 3) (zq_en as 4) P h
  | 122 => zu_EN (zq_en as 0) (zq_en as 1) (zq_en as 2) (zq_en as 3) P h
  | 123 => zu_FT (zq_en as 0) (zq_en as 1) (zq_en as 2) (zq_en as 3) P h
  | 124 => zu_RN (zq_en as 0) (zq_en as 1) (zq_en as 2) (zq_en as 3) (zq_en as 4) (zq_en as 5) (zq_en as 6) (zq_en as 7) (zq_en as 8) (zq_en as 9) (zq_en as 10) P h
  | 125 => zu_FA (zq_en as 0) (zq_en as 1) (zq_en as 2) (zq_en as 3) P h
  | 131 => zn_PE (zq_en as 0) (zq_en as 1) (zq_en as 2) (zq_en as 3) P h
  | 132 => zn_DE (zq_en as 0) (zq_en as 1) (zq_en as 2) (zq_en as 3) (zq_en as 4) P h
  | 133 => zn_SI (zq_en as 0) (zq_en as 1) (zq_en as 2) (zq_en as 3) (zq_en as 4) (zq_en as 5) (zq_en as 6) P h
  | 134 => zn_DG (zq_en as 0) (zq_en as 1) (zq_en as 2) P h
  | 140 => zn_LA 35 (zq_en as 0) (zq_en as 1) (zq_en as 2) (zq_en as 3) (zq_en as 4) (zq_en as 5) (zq_en as 6) (zq_en as 7) P h
  | 141 => zn_LA 50 (zq_en as 0) (zq_en as 1) (zq_en as 2) (zq_en as 3) (zq_en as 4) (zq_en as 5) (zq_en as 6) (zq_en as 7) P h
  | 142 => zn_LA 65 (zq_en as 0) (zq_en as 1) (zq_en as 2) (zq_en as 3) (zq_en as 4) (zq_en as 5) (zq_en as 6) (zq_en as 7) P h
  | 143 => zn_LA 80 (zq_en as 0) (zq_en as 1) (zq_en as 2) (zq_en as 3) (zq_en as 4) (zq_en as 5) (zq_en as 6) (zq_en as 7) P h
  | 148 => zn_KA 1 0 (zq_en as 0) (zq_en as 1) (zq_en as 2) (zq_en as 3) (zq_en as 4) P h
  | 150 => zn_KA 2 0 (zq_en as 0) (zq_en as 1) (zq_en as 2) (zq_en as 3) (zq_en as 4) P h
  | 151 => zn_KA 2 5671 (zq_en as 0) (zq_en as 1) (zq_en as 2) (zq_en as 3) (zq_en as 4) P h
  | 152 => zn_RS 95 (zq_en as 0) (zq_en as 1) (zq_en as 2) (zq_en as 3) (zq_en as 4) (zq_en as 5) (zq_en as 6) P h
  | 154 => zn_RT 95 (zq_en as 0) (zq_en as 1) (zq_en as 2) (zq_en as 3) (zq_en as 4) (zq_en as 5) P h
  | 153 => zn_RS 6 (zq_en as 0) (zq_en as 1) (zq_en as 2) (zq_en as 3) (zq_en as 4) (zq_en as 5) (zq_en as 6) P h
  | 155 => zn_RT 6 (zq_en as 0) (zq_en as 1) (zq_en as 2) (zq_en as 3) (zq_en as 4) (zq_en as 5) P h
  | 160 => zj_EN 6 35 50 (zq_en as) P h
  | 161 => zj_EN 6 37 52 (zq_en as) P h
  | 162 => zj_EN 6 38 53 (zq_en as) P h
  | 163 => zj_EN 24 41 56 (zq_en as) P h
  | 164 => zj_EN 6 50 35 (zq_en as) P h
  | 165 => zj_EN 6 52 37 (zq_en as) P h
  | 166 => zj_EN 6 53 38 (zq_en as) P h
  | 167 => zj_EN 24 56 41 (zq_en as) P h
  | 168 => zj_EN 6 65 35 (zq_en as) P h
  | 169 => zj_EN 6 67 37 (zq_en as) P h
  | 170 => zj_EN 6 68 38 (zq_en as) P h
  | 171 => zj_EN 24 71 41 (zq_en as) P h
  | 172 => zj_EN 6 80 35 (zq_en as) P h
  | 173 => zj_EN 6 82 37 (zq_en as) P h
  | 174 => zj_EN 6 83 38 (zq_en as) P h
  | 175 => zj_EN 24 86 41 (zq_en as) P h
  | 176 => zj_EN 6 35 65 (zq_en as) P h
  | 177 => zj_EN 6 37 67 (zq_en as) P h
  | 178 => zj_EN 6 38 68 (zq_en as) P h
  | 179 => zj_EN 24 41 71 (zq_en as) P h
  | 180 => zj_EN 6 35 80 (zq_en as) P h
  | 181 => zj_EN 6 37 82 (zq_en as) P h
  | 182 => zj_EN 6 38 83 (zq_en as) P h
  | 183 => zj_EN 24 41 86 (zq_en as) P h
  | 85 => zq_en as 3 = zq_fun 0 (zq_en as 0).toNat (zq_en as 1) (zq_en as 2)
  | 86 => zq_en as 3 = zq_fun 1 (zq_en as 0).toNat (zq_en as 1) (zq_en as 2)
  | 220 => ze_EV (zq_en as 0) (zq_en as 1) (zq_en as 2) (zq_en as 3) (zq_en as 4) (zq_en as 5) (zq_en as 6) (zq_en as 7) (zq_en as 8) (zq_en as 9) P h
  | 221 => ze_TT (zq_en as 0) (zq_en as 1) (zq_en as 2) (zq_en as 3) (zq_en as 4) P h
  | 222 => ze_SL (zq_en as 0) (zq_en as 1) (zq_en as 2) (zq_en as 3) (zq_en as 4) (zq_en as 5) (zq_en as 6) (zq_en as 7) (zq_en as 8) (zq_en as 9) (zq_en as 10) P h
  | 223 => ze_TL (zq_en as 0) (zq_en as 1) (zq_en as 2) (zq_en as 3) (zq_en as 4) (zq_en as 5) P h
  | 224 => ze_CD (zq_en as 0) (zq_en as 1) (zq_en as 2) (zq_en as 3) P h
  | 225 => ze_VL (zq_en as 0) (zq_en as 1) (zq_en as 2) (zq_en as 3) P h
  | 226 => ze_TX (zq_en as 0) (zq_en as 1) (zq_en as 2) (zq_en as 3) (zq_en as 4) P h
  | 227 => ze_AW 11 (zq_en as 0) (zq_en as 1) P h
  | 230 => zl_LW (zq_en as 0) (zq_en as 1) (zq_en as 2) (zq_en as 3) (zq_en as 4) (zq_en as 5) P h
  | 231 => zl_TE (zq_en as 0) (zq_en as 1) (zq_en as 2) (zq_en as 3) (zq_en as 4) P h
  | 232 => zl_KT (zq_en as 0) (zq_en as 1) (zq_en as 2) P h
  | 233 => zl_TG (zq_en as 0) (zq_en as 1) (zq_en as 2) (zq_en as 3) P h
  | 234 => zl_RT (zq_en as 0) (zq_en as 1) (zq_en as 2) (zq_en as 3) (zq_en as 4) P h
  | 235 => zl_PW (zq_en as 0) (zq_en as 1) (zq_en as 2) (zq_en as 3) (zq_en as 4) (zq_en as 5) (zq_en as 6) (zq_en as 7) (zq_en as 8) P h
  | 236 => zl_WW (zq_en as 0) (zq_en as 1) (zq_en as 2) (zq_en as 3) (zq_en as 4) (zq_en as 5) (zq_en as 6) P h
  | 237 => zl_RW (zq_en as 0) (zq_en as 1) (zq_en as 2) (zq_en as 3) (zq_en as 4) (zq_en as 5) P h
  | 238 => zl_RO (zq_en as 0) (zq_en as 1) (zq_en as 2) (zq_en as 3) (zq_en as 4) (zq_en as 5) P h
  | 239 => zc_CM (zq_en as 0) (zq_en as 1) (zq_en as 2) (zq_en as 3) P h
  | 240 => zc_CA (zq_en as 0) (zq_en as 1) (zq_en as 2) P h
  | 241 => zc_AG (zq_en as 0) (zq_en as 1) (zq_en as 2) (zq_en as 3) P h
  | 242 => zc_CH (zq_en as 0) (zq_en as 1) (zq_en as 2) (zq_en as 3) P h
  | 243 => zc_P (zq_en as 0) (zq_en as 1) (zq_en as 2) (zq_en as 3) (zq_en as 4) (zq_en as 5) (zq_en as 6) (zq_en as 7) (zq_en as 8) (zq_en as 9) P h
  | 244 => zc_T (zq_en as 0) (zq_en as 1) (zq_en as 2) (zq_en as 3) (zq_en as 4) (zq_en as 5) (zq_en as 6) (zq_en as 7) (zq_en as 8) (zq_en as 9) P h
  | 245 => zc_Q0m (zq_en as 0) (zq_en as 1) (zq_en as 2) (zq_en as 3) (zq_en as 4) (zq_en as 5) (zq_en as 6) (zq_en as 7) (zq_en as 8) (zq_en as 9) (zq_en as 10) P h
  | 246 => zc_Q1m (zq_en as 0) (zq_en as 1) (zq_en as 2) (zq_en as 3) (zq_en as 4) (zq_en as 5) (zq_en as 6) (zq_en as 7) (zq_en as 8) (zq_en as 9) P h
  | 247 => zc_D (zq_en as 0) (zq_en as 1) (zq_en as 2) (zq_en as 3) (zq_en as 4) (zq_en as 5) (zq_en as 6) (zq_en as 7) (zq_en as 8) P h
  | 248 => zc_O (zq_en as 0) (zq_en as 1) (zq_en as 2) (zq_en as 3) (zq_en as 4) (zq_en as 5) (zq_en as 6) (zq_en as 7) (zq_en as 8) P h
  | 249 => zc_N (zq_en as 0) (zq_en as 1) (zq_en as 2) (zq_en as 3) (zq_en as 4) (zq_en as 5) P h
  | 250 => zc_Q1n (zq_en as 0) (zq_en as 1) (zq_en as 2) (zq_en as 3) (zq_en as 4) (zq_en as 5) (zq_en as 6) (zq_en as 7) (zq_en as 8) (zq_en as 9) P h
  | 251 => zc_Q2m (zq_en as 0) (zq_en as 1) (zq_en as 2) (zq_en as 3) (zq_en as 4) (zq_en as 5) (zq_en as 6) (zq_en as 7) (zq_en as 8) P h
  | 252 => zc_CS (zq_en as 0) (zq_en as 1) (zq_en as 2) (zq_en as 3) P h
  | 253 => zc_NB (zq_en as 0) (zq_en as 1) (zq_en as 2) P h
  | 254 => zc_NA (zq_en as 0) (zq_en as 1) (zq_en as 2) P h
  | 255 => zd_SS (zq_en as 0) (zq_en as 1) (zq_en as 2) (zq_en as 3) (zq_en as 4) (zq_en as 5) (zq_en as 6) (zq_en as 7) P h
  | 256 => zd_CI (zq_en as 0) (zq_en as 1) (zq_en as 2) (zq_en as 3) (zq_en as 4) (zq_en as 5) (zq_en as 6) (zq_en as 7) P h
  | 257 => zd_TM (zq_en as 0) (zq_en as 1) (zq_en as 2) (zq_en as 3) (zq_en as 4) P h
  | 258 => zd_OB (zq_en as 0) (zq_en as 1) (zq_en as 2) (zq_en as 3) (zq_en as 4) (zq_en as 5) (zq_en as 6) (zq_en as 7) (zq_en as 8) (zq_en as 9) P h
  | 259 => zd_CB (zq_en as 0) (zq_en as 1) (zq_en as 2) (zq_en as 3) (zq_en as 4) (zq_en as 5) (zq_en as 6) (zq_en as 7) (zq_en as 8) (zq_en as 9) (zq_en as 10) (zq_en as 11) P h
  | 260 => zd_DC (zq_en as 0) (zq_en as 1) (zq_en as 2) (zq_en as 3) (zq_en as 4) (zq_en as 5) (zq_en as 6) (zq_en as 7) (zq_en as 8) (zq_en as 9) P h
  | 261 => zd_TX 30 31 32 33 (zq_en as 0) (zq_en as 1) (zq_en as 2) (zq_en as 3) (zq_en as 4) (zq_en as 5) (zq_en as 6) (zq_en as 7) (zq_en as 8) P h
  | 262 => zd_TX 25 26 27 28 (zq_en as 0) (zq_en as 1) (zq_en as 2) (zq_en as 3) (zq_en as 4) (zq_en as 5) (zq_en as 6) (zq_en as 7) (zq_en as 8) P h
  | 263 => zr_KS (zq_en as 0) (zq_en as 1) (zq_en as 2) (zq_en as 3) (zq_en as 4) (zq_en as 5) (zq_en as 6) (zq_en as 7) P h
  | 264 => zr_KH (zq_en as 0) (zq_en as 1) (zq_en as 2) (zq_en as 3) (zq_en as 4) (zq_en as 5) (zq_en as 6) (zq_en as 7) (zq_en as 8) P h
  | 265 => zr_KG (zq_en as 0) (zq_en as 1) (zq_en as 2) (zq_en as 3) (zq_en as 4) (zq_en as 5) (zq_en as 6) (zq_en as 7) (zq_en as 8) (zq_en as 9) P h
  | 266 => zr_RK (zq_en as 0) (zq_en as 1) (zq_en as 2) (zq_en as 3) (zq_en as 4) (zq_en as 5) P h
  | 267 => zr_JN (zq_en as 0) (zq_en as 1) (zq_en as 2) (zq_en as 3) P h
  | 270 => zr_CO 28 (zq_en as 0) (zq_en as 1) (zq_en as 2) P h
  | 271 => zr_CO 33 (zq_en as 0) (zq_en as 1) (zq_en as 2) P h
  | 272 => zr_IS (zq_en as 0) (zq_en as 1) (zq_en as 2) (zq_en as 3) (zq_en as 4) (zq_en as 5) (zq_en as 6) P h
  | 273 => zr_XP 25 26 27 28 (zq_en as 0) (zq_en as 1) (zq_en as 2) (zq_en as 3) (zq_en as 4) (zq_en as 5) (zq_en as 6) (zq_en as 7) (zq_en as 8) (zq_en as 9) (zq_en as 10) (zq_en as 11) P h
  | 274 => zr_XP 30 31 32 33 (zq_en as 0) (zq_en as 1) (zq_en as 2) (zq_en as 3) (zq_en as 4) (zq_en as 5) (zq_en as 6) (zq_en as 7) (zq_en as 8) (zq_en as 9) (zq_en as 10) (zq_en as 11) P h
  | 275 => zr_HS (zq_en as 0) (zq_en as 1) (zq_en as 2) (zq_en as 3) (zq_en as 4) (zq_en as 5) (zq_en as 6) (zq_en as 7) (zq_en as 8) (zq_en as 9) P h
  | 276 => zr_GW (zq_en as 0) (zq_en as 1) (zq_en as 2) (zq_en as 3) (zq_en as 4) (zq_en as 5) P h
  | 277 => zr_GO (zq_en as 0) (zq_en as 1) (zq_en as 2) (zq_en as 3) (zq_en as 4) P h
  | 278 => ze_AW 102 (zq_en as 0) (zq_en as 1) P h
  | 279 => zo_OW 102 (zq_en as 0) (zq_en as 1) P h
  | 280 => zm_MC 35 (zq_en as 0) (zq_en as 1) (zq_en as 2) (zq_en as 3) P h
  | 281 => zm_MC 50 (zq_en as 0) (zq_en as 1) (zq_en as 2) (zq_en as 3) P h
  | 282 => zm_MC 65 (zq_en as 0) (zq_en as 1) (zq_en as 2) (zq_en as 3) P h
  | 283 => zm_MC 80 (zq_en as 0) (zq_en as 1) (zq_en as 2) (zq_en as 3) P h
  | 284 => zm_MH 35 (zq_en as 0) (zq_en as 1) (zq_en as 2) (zq_en as 3) (zq_en as 4) P h
  | 285 => zm_MH 50 (zq_en as 0) (zq_en as 1) (zq_en as 2) (zq_en as 3) (zq_en as 4) P h
  | 286 => zm_MK 1 0 (zq_en as 0) (zq_en as 1) P h
  | 287 => zm_MK 2 0 (zq_en as 0) (zq_en as 1) P h
  | 288 => zm_MK 2 5671 (zq_en as 0) (zq_en as 1) P h
  | 289 => zm_KH (zq_en as 0) (zq_en as 1) (zq_en as 2) P h
  | 290 => zm_UM (zq_en as 0) (zq_en as 1) (zq_en as 2) (zq_en as 3) P h
  | 291 => zm_PZ (zq_en as 0) (zq_en as 1) (zq_en as 2) (zq_en as 3) (zq_en as 4) (zq_en as 5) P h
  | 292 => zk_UU (zq_en as 0) (zq_en as 1) (zq_en as 2) (zq_en as 3) (zq_en as 4) (zq_en as 5) P h
  | 293 => zk_ZC 35 (zq_en as 0) (zq_en as 1) (zq_en as 2) (zq_en as 3) (zq_en as 4) (zq_en as 5) (zq_en as 6) P h
  | 294 => zk_ZC 50 (zq_en as 0) (zq_en as 1) (zq_en as 2) (zq_en as 3) (zq_en as 4) (zq_en as 5) (zq_en as 6) P h
  | 295 => zk_SH 35 (zq_en as 0) (zq_en as 1) (zq_en as 2) (zq_en as 3) (zq_en as 4) (zq_en as 5) (zq_en as 6) (zq_en as 7) P h
  | 296 => zk_SH 50 (zq_en as 0) (zq_en as 1) (zq_en as 2) (zq_en as 3) (zq_en as 4) (zq_en as 5) (zq_en as 6) (zq_en as 7) P h
  | 297 => zk_ZR 12 (zq_en as 0) (zq_en as 1) (zq_en as 2) P h
  | 298 => zk_ZR 13 (zq_en as 0) (zq_en as 1) (zq_en as 2) P h
  | 299 => zk_RS (zq_en as 0) (zq_en as 1) (zq_en as 2) (zq_en as 3) P h
  | 300 => zk_RF (zq_en as 0) (zq_en as 1) (zq_en as 2) (zq_en as 3) (zq_en as 4) P h
  | 301 => zk_WN (zq_en as 0) (zq_en as 1) (zq_en as 2) (zq_en as 3) (zq_en as 4) (zq_en as 5) (zq_en as 6) (zq_en as 7) (zq_en as 8) P h
  | 302 => zk_PA (zq_en as 0) (zq_en as 1) (zq_en as 2) (zq_en as 3) (zq_en as 4) (zq_en as 5) (zq_en as 6) P h
  | 303 => zk_PY (zq_en as 0) (zq_en as 1) (zq_en as 2) (zq_en as 3) (zq_en as 4) (zq_en as 5) (zq_en as 6) (zq_en as 7) (zq_en as 8) (zq_en as 9) (zq_en as 10) P h
  | 304 => zk_CM (zq_en as 0) (zq_en as 1) (zq_en as 2) (zq_en as 3) (zq_en as 4) (zq_en as 5) (zq_en as 6) (zq_en as 7) (zq_en as 8) (zq_en as 9) (zq_en as 10) (zq_en as 11) (zq_en as 12) (zq_en as 13) (zq_en as 14) (zq_en as 15) P h
  | 305 => zk_UN (zq_en as 0) (zq_en as 1) (zq_en as 2) (zq_en as 3) (zq_en as 4) (zq_en as 5) P h
  | 306 => zt_LO (zq_en as 0) (zq_en as 1) (zq_en as 2) P h
  | 307 => zt_LT 35 (zq_en as 0) (zq_en as 1) (zq_en as 2) P h
  | 308 => zt_LT 50 (zq_en as 0) (zq_en as 1) (zq_en as 2) P h
  | 309 => zt_LT 65 (zq_en as 0) (zq_en as 1) (zq_en as 2) P h
  | 310 => zt_LT 80 (zq_en as 0) (zq_en as 1) (zq_en as 2) P h
  | 311 => zt_TU (zq_en as 0) (zq_en as 1) (zq_en as 2) (zq_en as 3) (zq_en as 4) P h
  | 312 => zk_MV (zq_en as 0) (zq_en as 1) (zq_en as 2) (zq_en as 3) (zq_en as 4) P h
  | 313 => zm_DR (zq_en as 0) (zq_en as 1) P h
  | 314 => zm_CN (zq_en as 0) P h
  | 315 => zk_KF (zq_en as 0) (zq_en as 1) (zq_en as 2) P h
  | 316 => zk_AS (zq_en as 0) (zq_en as 1) (zq_en as 2) (zq_en as 3) P h
  | 317 => zk_UZ (zq_en as 0) (zq_en as 1) (zq_en as 2) P h
  | 318 => zk_DO (zq_en as 0) (zq_en as 1) (zq_en as 2) (zq_en as 3) (zq_en as 4) (zq_en as 5) (zq_en as 6) (zq_en as 7) (zq_en as 8) (zq_en as 9) (zq_en as 10) P h
  | 319 => zk_YY (zq_en as 0) (zq_en as 1) (zq_en as 2) (zq_en as 3) P h
  | 320 => zk_YT (zq_en as 0) (zq_en as 1) (zq_en as 2) (zq_en as 3) P h
  | 321 => zo_EN (zq_en as 0) (zq_en as 1) (zq_en as 2) P h
  | 322 => zo_WB (zq_en as 0) (zq_en as 1) (zq_en as 2) (zq_en as 3) P h
  | 323 => zo_WC (zq_en as 0) (zq_en as 1) (zq_en as 2) P h
  | 324 => zo_OD (zq_en as 0) (zq_en as 1) (zq_en as 2) (zq_en as 3) (zq_en as 4) P h
  | 325 => zo_CLt (zq_en as 0) (zq_en as 1) (zq_en as 2) (zq_en as 3) (zq_en as 4) P h
  | 326 => zo_EV (zq_en as 0) (zq_en as 1) (zq_en as 2) (zq_en as 3) (zq_en as 4) (zq_en as 5) (zq_en as 6) (zq_en as 7) (zq_en as 8) P h
  | 327 => zo_LE (zq_en as 0) (zq_en as 1) (zq_en as 2) P h
  | 329 => zo_OOt (zq_en as 0) (zq_en as 1) (zq_en as 2) (zq_en as 3) (zq_en as 4) (zq_en as 5) (zq_en as 6) (zq_en as 7) (zq_en as 8) (zq_en as 9) (zq_en as 10) (zq_en as 11) (zq_en as 12) (zq_en as 13) (zq_en as 14) (zq_en as 15) (zq_en as 16) (zq_en as 17) (zq_en as 18) P h
  | 330 => zo_RT (zq_en as 0) (zq_en as 1) (zq_en as 2) (zq_en as 3) (zq_en as 4) (zq_en as 5) (zq_en as 6) (zq_en as 7) (zq_en as 8) (zq_en as 9) (zq_en as 10) (zq_en as 11) (zq_en as 12) (zq_en as 13) (zq_en as 14) (zq_en as 15) P h
  | 331 => zo_RN (zq_en as 0) (zq_en as 1) (zq_en as 2) (zq_en as 3) (zq_en as 4) (zq_en as 5) (zq_en as 6) (zq_en as 7) (zq_en as 8) (zq_en as 9) (zq_en as 10) (zq_en as 11) (zq_en as 12) (zq_en as 13) (zq_en as 14) (zq_en as 15) (zq_en as 16) (zq_en as 17) (zq_en as 18) P h
  | 332 => zo_OV (zq_en as 0) (zq_en as 1) (zq_en as 2) (zq_en as 3) P h
  | 333 => zo_VPs (zq_en as 0) (zq_en as 1) (zq_en as 2) (zq_en as 3) (zq_en as 4) (zq_en as 5) (zq_en as 6) (zq_en as 7) (zq_en as 8) P h
  | 334 => zo_PTt (zq_en as 0) (zq_en as 1) (zq_en as 2) (zq_en as 3) P h
  | 335 => zo_PM (zq_en as 0) (zq_en as 1) (zq_en as 2) (zq_en as 3) (zq_en as 4) P h
  | 336 => zo_VM (zq_en as 0) (zq_en as 1) (zq_en as 2) (zq_en as 3) (zq_en as 4) (zq_en as 5) (zq_en as 6) (zq_en as 7) (zq_en as 8) P h
  | 337 => zo_EVs (zq_en as 0) (zq_en as 1) (zq_en as 2) (zq_en as 3) (zq_en as 4) (zq_en as 5) (zq_en as 6) (zq_en as 7) (zq_en as 8) P h
  | 338 => zo_SMt (zq_en as 0) (zq_en as 1) P h
  | 339 => zo_CB 192 13 12 (zq_en as 0) (zq_en as 1) (zq_en as 2) P h
  | 340 => zo_CB 192 12 13 (zq_en as 0) (zq_en as 1) (zq_en as 2) P h
  | 341 => zo_AS1 (zq_en as 0) (zq_en as 1) P h
  | 342 => zy_DW (zq_en as 0) (zq_en as 1) (zq_en as 2) (zq_en as 3) P h
  | 343 => zy_YN (zq_en as 0) (zq_en as 1) (zq_en as 2) (zq_en as 3) (zq_en as 4) (zq_en as 5) (zq_en as 6) (zq_en as 7) (zq_en as 8) (zq_en as 9) (zq_en as 10) (zq_en as 11) (zq_en as 12) P h
  | 344 => zy_YT (zq_en as 0) (zq_en as 1) (zq_en as 2) (zq_en as 3) (zq_en as 4) (zq_en as 5) (zq_en as 6) (zq_en as 7) (zq_en as 8) (zq_en as 9) (zq_en as 10) P h
  | 348 => zl_KI 0 (zq_en as 0) (zq_en as 1) (zq_en as 2) P h
  | 349 => zl_KI 5671 (zq_en as 0) (zq_en as 1) (zq_en as 2) P h
  | 350 => zm_E 4 39 54 (zq_en as 0) (zq_en as 1) P h
  | 351 => zm_E 4 54 39 (zq_en as 0) (zq_en as 1) P h
  | 352 => zm_E 4 69 39 (zq_en as 0) (zq_en as 1) P h
  | 353 => zm_E 4 84 39 (zq_en as 0) (zq_en as 1) P h
  | 354 => zm_E 4 39 69 (zq_en as 0) (zq_en as 1) P h
  | 355 => zm_E 4 39 84 (zq_en as 0) (zq_en as 1) P h
  | 356 => zo_CB 6 43 58 (zq_en as 0) (zq_en as 1) (zq_en as 2) P h
  | 357 => zo_CB 6 58 43 (zq_en as 0) (zq_en as 1) (zq_en as 2) P h
  | 358 => zo_CB 6 73 43 (zq_en as 0) (zq_en as 1) (zq_en as 2) P h
  | 359 => zo_CB 6 88 43 (zq_en as 0) (zq_en as 1) (zq_en as 2) P h
  | 360 => zo_CB 6 43 73 (zq_en as 0) (zq_en as 1) (zq_en as 2) P h
  | 361 => zo_CB 6 43 88 (zq_en as 0) (zq_en as 1) (zq_en as 2) P h
  | 362 => zt_LB (zq_en as 0) P h
  | 363 => zt_GB (zq_en as 0) (zq_en as 1) P h
  | 364 => zt_LTB 35 (zq_en as 0) (zq_en as 1) (zq_en as 2) (zq_en as 3) P h
  | 365 => zt_LTB 50 (zq_en as 0) (zq_en as 1) (zq_en as 2) (zq_en as 3) P h
  | 366 => zt_LTB 65 (zq_en as 0) (zq_en as 1) (zq_en as 2) (zq_en as 3) P h
  | 367 => zt_LTB 80 (zq_en as 0) (zq_en as 1) (zq_en as 2) (zq_en as 3) P h
  | 368 => zo_CB 12 25 30 (zq_en as 0) (zq_en as 1) (zq_en as 2) P h
  | 369 => zo_CB 12 26 31 (zq_en as 0) (zq_en as 1) (zq_en as 2) P h
  | 370 => zo_CB 48 27 32 (zq_en as 0) (zq_en as 1) (zq_en as 2) P h
  | 371 => zo_CB 448 28 33 (zq_en as 0) (zq_en as 1) (zq_en as 2) P h
  | 372 => zs_SV (zq_en as 0) (zq_en as 1) (zq_en as 2) P h
  | 374 => zw_TV (zq_en as 0) (zq_en as 1) (zq_en as 2) (zq_en as 3) (zq_en as 4) (zq_en as 5) (zq_en as 6) (zq_en as 7) (zq_en as 8) (zq_en as 9) (zq_en as 10) P h
  | 375 => zy_TW (zq_en as 0) (zq_en as 1) (zq_en as 2) (zq_en as 3) (zq_en as 4) (zq_en as 5) (zq_en as 6) (zq_en as 7) (zq_en as 8) (zq_en as 9) P h
  | 376 => zw_FN (zq_en as 0) (zq_en as 1) (zq_en as 2) (zq_en as 3) (zq_en as 4) (zq_en as 5) (zq_en as 6) (zq_en as 7) (zq_en as 8) (zq_en as 9) (zq_en as 10) P h
  | 377 => zw_FR (zq_en as 0) (zq_en as 1) (zq_en as 2) (zq_en as 3) (zq_en as 4) (zq_en as 5) (zq_en as 6) (zq_en as 7) (zq_en as 8) (zq_en as 9) (zq_en as 10) P h
  | 378 => zw_PA 108 (zq_en as 0) (zq_en as 1) (zq_en as 2) (zq_en as 3) (zq_en as 4) (zq_en as 5) (zq_en as 6) (zq_en as 7) (zq_en as 8) (zq_en as 9) (zq_en as 10) P h
  | 379 => zw_PA 14 (zq_en as 0) (zq_en as 1) (zq_en as 2) (zq_en as 3) (zq_en as 4) (zq_en as 5) (zq_en as 6) (zq_en as 7) (zq_en as 8) (zq_en as 9) (zq_en as 10) P h
  | 380 => zw_EQ (zq_en as 0) (zq_en as 1) (zq_en as 2) (zq_en as 3) (zq_en as 4) (zq_en as 5) (zq_en as 6) (zq_en as 7) (zq_en as 8) (zq_en as 9) (zq_en as 10) P h
  | 381 => zw_NE (zq_en as 0) (zq_en as 1) (zq_en as 2) (zq_en as 3) (zq_en as 4) (zq_en as 5) (zq_en as 6) (zq_en as 7) (zq_en as 8) (zq_en as 9) P h
  | 382 => zw_PN (zq_en as 0) (zq_en as 1) (zq_en as 2) (zq_en as 3) (zq_en as 4) (zq_en as 5) (zq_en as 6) (zq_en as 7) (zq_en as 8) (zq_en as 9) P h
  | 383 => zw_PR (zq_en as 0) (zq_en as 1) (zq_en as 2) (zq_en as 3) (zq_en as 4) (zq_en as 5) (zq_en as 6) (zq_en as 7) (zq_en as 8) (zq_en as 9) P h
  | 384 => zw_CC (zq_en as 0) (zq_en as 1) (zq_en as 2) (zq_en as 3) (zq_en as 4) (zq_en as 5) (zq_en as 6) (zq_en as 7) (zq_en as 8) (zq_en as 9) (zq_en as 10) P h
  | 385 => zw_LP (zq_en as 0) (zq_en as 1) (zq_en as 2) (zq_en as 3) (zq_en as 4) (zq_en as 5) (zq_en as 6) (zq_en as 7) (zq_en as 8) (zq_en as 9) (zq_en as 10) (zq_en as 11) P h
  | 386 => zw_LR (zq_en as 0) (zq_en as 1) (zq_en as 2) (zq_en as 3) (zq_en as 4) (zq_en as 5) (zq_en as 6) (zq_en as 7) (zq_en as 8) (zq_en as 9) (zq_en as 10) P h
  | 387 => zw_BA (zq_en as 0) (zq_en as 1) (zq_en as 2) (zq_en as 3) (zq_en as 4) (zq_en as 5) (zq_en as 6) (zq_en as 7) (zq_en as 8) (zq_en as 9) (zq_en as 10) P h
  | _ => False
theorem zx_pre_cong {gc gv gc' gv' : Int → Int} {i o : Int} {q : zx_Q} (hj : ∀ j, 0 ≤ j → j < i → gc' j = gc j ∧ gv' j = gv j) (h : zx_pre gc gv i o q) : zx_pre gc' gv' i o q := fun fc fv e h1 h2 h3 => h fc fv e (fun j a b => by
  obtain ⟨x1, x2⟩ := h1 j a b
  obtain ⟨y1, y2⟩ := hj j a b
  exact ⟨x1.trans y1, x2.trans y2⟩) h2 h3
theorem zx_txt_cong {f f' : Int → Int} {t o : Int} (ht : 0 ≤ t) (hs : f' (64 + t) = f (64 + t)) (hj : ∀ j, 400 * t ≤ j → j < 400 * t + 400 → f' (71 + j) = f (71 + j) ∧ f' (2871 + j) = f (2871 + j)) (h : zx_txt f t o) : zx_txt f' t o := by
  obtain ⟨h1, h2, h3⟩ := h
  refine ⟨by rw [hs]; exact h1, by rw [hs]; exact h2, ?_⟩
  rw [hs]
  exact zx_suf_cong (fun j a b => hj j a (by omega)) h3
/-! what tokens look at -/
noncomputable def zx_FX : zq_FX := [(1, [(1, 71, 5670)]), (2, [(1, 64, 5670)]), (3, [(8, 0, 400), (9, 0, 400)]), (4, [(8, 0, 400), (9, 0, 400)]), (5, [(1, 71, 5670), (8, 0, 400), (9, 0, 400)]), (6, [(2, 0, 11341), (3, 0, 1)]), (7, [(1, 0, 5670), (2, 0, 11341)])]
section ZXFX
variable {P P' : zq_Ty} {h h' : zq_H}
theorem zx_fx1 {r : Nat → Int} (hP : zq_le P P') (hh : ∀ a j, P a = some 1 → 71 ≤ j → j ≤ 5670 → h' a j = h a j) (ht : zx_1 r P h) : zx_1 r P' h' := by
  obtain ⟨h1, h2, h3, h4, h5⟩ := ht
  exact ⟨h1, hP _ _ h2, h3, h4, zx_suf_cong (fun j a b => ⟨hh _ _ h2 (by omega) (by omega), hh _ _ h2 (by omega) (by omega)⟩) h5⟩
theorem zx_fx2 {r : Nat → Int} (hP : zq_le P P') (hh : ∀ a j, P a = some 1 → 64 ≤ j → j ≤ 5670 → h' a j = h a j) (ht : zx_2 r P h) : zx_2 r P' h' := by
  obtain ⟨h1, h2, h3, h4⟩ := ht
  exact ⟨h1, hP _ _ h2, h3, fun t a b => zx_txt_cong a (hh _ _ h2 (by omega) (by omega)) (fun j x y => ⟨hh _ _ h2 (by omega) (by omega), hh _ _ h2 (by omega) (by omega)⟩) (h4 t a b)⟩
theorem zx_fx3 {r : Nat → Int} (hP : zq_le P P') (hh : ∀ a j, P a = some 8 → 0 ≤ j → j ≤ 400 → h' a j = h a j) (hh9 : ∀ a j, P a = some 9 → 0 ≤ j → j ≤ 400 → h' a j = h a j) (ht : zx_3 r P h) : zx_3 r P' h' := by
  obtain ⟨h1, h2, h3, h4, h5, h6, h7⟩ := ht
  exact ⟨h1, hP _ _ h2, h3, hP _ _ h4, h5, h6, zx_pre_cong (fun j a b => ⟨hh _ _ h2 (by omega) (by omega), hh9 _ _ h4 (by omega) (by omega)⟩) h7⟩
theorem zx_fx4 {r : Nat → Int} (hP : zq_le P P') (hh : ∀ a j, P a = some 8 → 0 ≤ j → j ≤ 400 → h' a j = h a j) (hh9 : ∀ a j, P a = some 9 → 0 ≤ j → j ≤ 400 → h' a j = h a j) (ht : zx_4 r P h) : zx_4 r P' h' := by
  obtain ⟨h1, h2, h3, h4, h5, h6, h7⟩ := ht
  exact ⟨h1, hP _ _ h2, h3, hP _ _ h4, h5, h6, zx_suf_cong (fun j a b => ⟨hh _ _ h2 (by omega) (by omega), hh9 _ _ h4 (by omega) (by omega)⟩) h7⟩
theorem zx_fx5 {r : Nat → Int} (hP : zq_le P P') (hh : ∀ a j, P a = some 1 → 71 ≤ j → j ≤ 5670 → h' a j = h a j) (hh8 : ∀ a j, P a = some 8 → 0 ≤ j → j ≤ 400 → h' a j = h a j) (hh9 : ∀ a j, P a = some 9 → 0 ≤ j → j ≤ 400 → h' a j = h a j) (ht : zx_5 r P h) : zx_5 r P' h' := by
  obtain ⟨h1, h2, h3, h4, h5, h6, h7, h8, h9, h10, h11⟩ := ht
  refine ⟨h1, hP _ _ h2, h3, hP _ _ h4, h5, hP _ _ h6, h7, h8, h9, h10, fun j a b => ?_⟩
  obtain ⟨x, y⟩ := h11 j a b
  rw [hh _ _ h2 (by omega) (by omega), hh _ _ h2 (by omega) (by omega), hh8 _ _ h4 (by omega) (by omega), hh9 _ _ h6 (by omega) (by omega)]
  exact ⟨x, y⟩
theorem zx_fx6 {r : Nat → Int} (hP : zq_le P P') (hh : ∀ a j, P a = some 2 → 0 ≤ j → j ≤ 11341 → h' a j = h a j) (hh3 : ∀ a j, P a = some 3 → 0 ≤ j → j ≤ 1 → h' a j = h a j) (ht : zx_6 r P h) : zx_6 r P' h' := by
  obtain ⟨h1, h2, h3, h4, h5, h6, h7⟩ := ht
  refine ⟨h1, hP _ _ h2, h3, hP _ _ h4, h5, h6, fun z => ?_⟩
  rw [hh3 _ _ h4 (by omega) (by omega)] at z
  obtain ⟨y0, y1, y2, y3⟩ := h7 z
  have e1 := hh _ (5671 * r 2 + 62) h2 (by omega) (by omega)
  rw [e1, hh _ (5671 * r 2 + 63) h2 (by omega) (by omega)]
  exact ⟨y0, y1, y2, fun t a b => zx_txt_cong a (hh _ _ h2 (by omega) (by omega)) (fun j x y => ⟨hh _ _ h2 (by omega) (by omega), hh _ _ h2 (by omega) (by omega)⟩) (y3 t a b)⟩
theorem zx_fx7 {r : Nat → Int} (hP : zq_le P P') (hh : ∀ a j, P a = some 1 → 0 ≤ j → j ≤ 5670 → h' a j = h a j) (hh2 : ∀ a j, P a = some 2 → 0 ≤ j → j ≤ 11341 → h' a j = h a j) (ht : zx_7 r P h) : zx_7 r P' h' := by
  obtain ⟨h1, h2, h3, h4, h5, h6, h7, h8, h9⟩ := ht
  refine ⟨h1, hP _ _ h2, h3, hP _ _ h4, h5, h6, h7, h8, fun j a b => ?_⟩
  rw [hh _ _ h2 (by omega) (by omega), hh2 _ _ h4 (by omega) (by omega)]
  exact h9 j a b
end ZXFX
theorem zx_FXok {w : zq_Wd} {A0 : Nat → Nat} (hX : w.2.2.2.2 = zX A0) : zq_okFX w zx_FX := by
  intro x hx as P P' h h' hP hh ht
  rw [hX] at ht ⊢
  have g : ∀ (k : Nat) (lo hi : Int), (k, lo, hi) ∈ x.2 → ∀ a j, P a = some k → lo ≤ j → j ≤ hi → h' a j = h a j := fun k lo hi hm a j hp h1 h2 => hh a k j hp ⟨_, hm, rfl, h1, h2⟩
  rcases List.mem_cons.mp hx with rfl | hx
  · exact zx_fx1 hP (g 1 71 5670 (by decide)) ht
  rcases List.mem_cons.mp hx with rfl | hx
  · exact zx_fx2 hP (g 1 64 5670 (by decide)) ht
  rcases List.mem_cons.mp hx with rfl | hx
  · exact zx_fx3 hP (g 8 0 400 (by decide)) (g 9 0 400 (by decide)) ht
  rcases List.mem_cons.mp hx with rfl | hx
  · exact zx_fx4 hP (g 8 0 400 (by decide)) (g 9 0 400 (by decide)) ht
  rcases List.mem_cons.mp hx with rfl | hx
  · exact zx_fx5 hP (g 1 71 5670 (by decide)) (g 8 0 400 (by decide)) (g 9 0 400 (by decide)) ht
  rcases List.mem_cons.mp hx with rfl | hx
  · exact zx_fx6 hP (g 2 0 11341 (by decide)) (g 3 0 1 (by decide)) ht
  rcases List.mem_cons.mp hx with rfl | hx
  · exact zx_fx7 hP (g 1 0 5670 (by decide)) (g 2 0 11341 (by decide)) ht
  · cases hx
/-- by their arguments -/
noncomputable def zx_DX : zq_DXt := [(2, [(1, (64, []), (63, [(1, 1)])), (1, (71, []), (70, [(1, 400)])), (1, (2871, []), (2870, [(1, 400)]))]),
  (5, [(1, (71, [(1, 1)]), (70, [(1, 1), (4, 1)])), (1, (2871, [(1, 1)]), (2870, [(1, 1), (4, 1)])), (8, (0, []), (-1, [(4, 1)])), (9, (0, []), (-1, [(4, 1)]))]),
  (6, [(2, (0, [(2, 5671)]), (5670, [(2, 5671)])), (3, (0, [(2, 1)]), (0, [(2, 1)]))]),
  (7, [(1, (0, []), (-1, [(3, 1)])), (2, (0, [(2, 1)]), (-1, [(2, 1), (3, 1)]))])]
theorem zx_DXok {w : zq_Wd} {A0 : Nat → Nat} (hX : w.2.2.2.2 = zX A0) : zq_okDX w zx_DX := by
  intro x hx as P h a k j v hP hh ht
  rw [hX] at ht ⊢
  have g : ∀ (kk : Nat) (lo hi : zq_L), (kk, lo, hi) ∈ x.2 → ∀ b i, P b = some kk → zq_ev (zq_en as) lo ≤ i → i ≤ zq_ev (zq_en as) hi → zq_wr h a j v b i = h b i := by
    intro kk lo hi hm b i hb h1 h2
    refine zq_wr_ne ?_
    rintro ⟨rfl, rfl⟩
    have e : k = kk := Option.some.inj (hP.symm.trans hb)
    have := hh _ hm e.symm
    simp only at this
    omega
  rcases List.mem_cons.mp hx with rfl | hx
  · obtain ⟨h1, h2, h3, h4⟩ := ht
    have g1 := g 1 (64, []) (63, [(1, 1)]) (by decide)
    have g2 := g 1 (71, []) (70, [(1, 400)]) (by decide)
    have g3 := g 1 (2871, []) (2870, [(1, 400)]) (by decide)
    simp only [zq_ev, zq_ts] at g1 g2 g3
    refine ⟨h1, h2, h3, fun t a1 b1 => zx_txt_cong a1 (g1 _ _ h2 (by omega) (by omega)) (fun i x1 y1 => ⟨g2 _ _ h2 (by omega) (by omega), g3 _ _ h2 (by omega) (by omega)⟩) (h4 t a1 b1)⟩
  rcases List.mem_cons.mp hx with rfl | hx
  · obtain ⟨h1, h2, h3, h4, h5, h6, h7, h8, h9, h10, h11⟩ := ht
    have g1 := g 1 (71, [(1, 1)]) (70, [(1, 1), (4, 1)]) (by decide)
    have g2 := g 1 (2871, [(1, 1)]) (2870, [(1, 1), (4, 1)]) (by decide)
    have g3 := g 8 (0, []) (-1, [(4, 1)]) (by decide)
    have g4 := g 9 (0, []) (-1, [(4, 1)]) (by decide)
    simp only [zq_ev, zq_ts] at g1 g2 g3 g4
    refine ⟨h1, h2, h3, h4, h5, h6, h7, h8, h9, h10, fun i a1 b1 => ?_⟩
    obtain ⟨x1, y1⟩ := h11 i a1 b1
    rw [g1 _ _ h2 (by omega) (by omega), g2 _ _ h2 (by omega) (by omega), g3 _ _ h4 (by omega) (by omega), g4 _ _ h6 (by omega) (by omega)]
    exact ⟨x1, y1⟩
  rcases List.mem_cons.mp hx with rfl | hx
  · obtain ⟨h1, h2, h3, h4, h5, h6, h7⟩ := ht
    have g1 := g 2 (0, [(2, 5671)]) (5670, [(2, 5671)]) (by decide)
    have g2 := g 3 (0, [(2, 1)]) (0, [(2, 1)]) (by decide)
    simp only [zq_ev, zq_ts] at g1 g2
    refine ⟨h1, h2, h3, h4, h5, h6, fun z => ?_⟩
    rw [g2 _ _ h4 (by omega) (by omega)] at z
    obtain ⟨y0, y1, y2, y3⟩ := h7 z
    have e1 := g1 _ (5671 * zq_en as 2 + 62) h2 (by omega) (by omega)
    rw [e1, g1 _ (5671 * zq_en as 2 + 63) h2 (by omega) (by omega)]
    exact ⟨y0, y1, y2, fun t a1 b1 => zx_txt_cong a1 (g1 _ _ h2 (by omega) (by omega)) (fun i x1 y1 => ⟨g1 _ _ h2 (by omega) (by omega), g1 _ _ h2 (by omega) (by omega)⟩) (y3 t a1 b1)⟩
  rcases List.mem_cons.mp hx with rfl | hx
  · obtain ⟨h1, h2, h3, h4, h5, h6, h7, h8, h9⟩ := ht
    have g1 := g 1 (0, []) (-1, [(3, 1)]) (by decide)
    have g2 := g 2 (0, [(2, 1)]) (-1, [(2, 1), (3, 1)]) (by decide)
    simp only [zq_ev, zq_ts] at g1 g2
    refine ⟨h1, h2, h3, h4, h5, h6, h7, h8, fun i a1 b1 => ?_⟩
    rw [g1 _ _ h2 (by omega) (by omega), g2 _ _ h4 (by omega) (by omega)]
    exact h9 i a1 b1
  · cases hx
