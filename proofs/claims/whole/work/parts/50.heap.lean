/-! the whole heap, by what the two objects hold -/
def rRow : Nat → Option Nat := (va_up (va_up (va_up (va_up (va_up (va_up (fun _ => none) 0 (some 142)) 1 (some 144)) 2 (some 146)) 3 (some 148)) 4 (some 150)) 5 (some 152))
def rTxt : Nat → Option Nat := (va_up (va_up (va_up (va_up (fun _ => none) 0 (some 154)) 1 (some 156)) 2 (some 158)) 3 (some 160))
def rKep : Nat → Option Nat := (va_up (va_up (va_up (fun _ => none) 0 (some 162)) 1 (some 164)) 2 (some 166))
def arR (t n : Nat) (f : Nat → Option Nat) : va_E := .inl (t, n, .inr (.inr (.inr (.inr f))))
def arB (n : Nat) (f : Nat → Int32) : va_E := .inl (2, n, .inl f)
def arZ (n : Nat) (f : Nat → Int32) : va_E := .inl (3, n, .inl f)
def arL (n : Nat) (f : Nat → Int64) : va_E := .inl (1, n, .inr (.inl f))
def oC (c : Nat) (n : Int32) : va_E := .inr (1, [.ref (c + 1), .ref (c + 2), .ref (c + 3), .int n])
def oX (fi ak : Int32) (up lo : Int64) : va_E := .inr (9, [.ref 2, .ref 3, .ref 4, .ref 8, .ref 12, .ref 16, .ref 20, .ref 22, .ref 23, .ref 70, .ref 93, .ref 131, .ref 140, .ref 141, .int fi, .int ak, .long up, .long lo])
def oN (ci a : Nat) (n : Int32) : va_E := .inr (ci, [.ref a, .int n])
def oM (ps ak : Int32) (up lo : Int64) (fi fr pl en rm pd : Int32) : va_E := .inr (10, mfl ps ak up lo fi fr pl en rm pd)
def upF (F : Nat → Nat → Int32) (k : Nat) (g : Nat → Int32) : Nat → Nat → Int32 := fun j => if j = k then g else F j
theorem upF_eq (F : Nat → Nat → Int32) (k : Nat) (g : Nat → Int32) : upF F k g k = g := if_pos rfl
theorem upF_ne {F : Nat → Nat → Int32} {k j : Nat} {g : Nat → Int32} (h : j ≠ k) : upF F k g j = F j := if_neg h
def hA (I : Nat → Int32) (J : Nat → Int64) (F : Nat → Nat → Int32) : mH := [dm, oX (I 1) (I 2) (J 1) (J 2), arR 4 6 rRow, arR 5 4 rTxt, oC 4 (I 4), ar 7 (F 5), ar 7 (F 6), ar 7 (F 7), oC 8 (I 8), ar 7 (F 9), ar 7 (F 10), ar 7 (F 11), oQ 12 (I 12) (I 13) (I 14), ar 7 (F 13), ar 7 (F 14), ar 7 (F 15), oQ 16 (I 16) (I 17) (I 18), ar 7 (F 17), ar 7 (F 18), ar 7 (F 19), oN 2 21 (I 20), ar 40 (F 21), arR 6 3 rKep]
def hB (I : Nat → Int32) (J : Nat → Int64) (F : Nat → Nat → Int32) (G : Nat → Int64) : mH := [arZ 41 (F 140), ar 6 (F 141), oN 6 143 (I 142), ar 40 (F 143), oN 6 145 (I 144), ar 40 (F 145), oN 6 147 (I 146), ar 40 (F 147), oN 6 149 (I 148), ar 40 (F 149), oN 6 151 (I 150), ar 40 (F 151), oN 6 153 (I 152), ar 40 (F 153), oN 7 155 (I 154), arB 60 (F 155), oN 7 157 (I 156), arB 60 (F 157), oN 7 159 (I 158), arB 60 (F 159), oN 7 161 (I 160), arB 60 (F 161), oN 2 163 (I 162), ar 40 (F 163), oN 2 165 (I 164), ar 40 (F 165), oN 2 167 (I 166), ar 40 (F 167), oM (I 168) (I 169) (J 168) (J 169) (I 170) (I 171) (I 172) (I 173) (I 174) (I 175), ar 3965 (F 169), ar 7 (F 170), ar 7 (F 171), ar 7 (F 172), ar 6 (F 173), ar 240 (F 174), ar 4 (F 175), ar 240 (F 176), ar 6 (F 177), ar 21 (F 178), ar 7 (F 179), arZ 256 (F 180), ar 7 (F 181), arL 41 G]
def hX (X : Nat → va_E) : mH := (List.range' 23 117).map X
def hp (I : Nat → Int32) (J : Nat → Int64) (F : Nat → Nat → Int32) (G : Nat → Int64) (X : Nat → va_E) : mH := hA I J F ++ (hX X ++ hB I J F G)
section HV
variable {I : Nat → Int32} {J : Nat → Int64} {F : Nat → Nat → Int32} {G : Nat → Int64} {X : Nat → va_E}
theorem hA_len : (hA I J F).length = 23 := rfl
theorem hB_len : (hB I J F G).length = 43 := rfl
theorem hX_len : (hX X).length = 117 := by simp [hX]
theorem hp_len : (hp I J F G X).length = 183 := by simp [hp, hA_len, hX_len, hB_len]
theorem hp_a {k : Nat} (hk : k < 23) : (hp I J F G X)[k]? = (hA I J F)[k]? := by
  unfold hp
  rw [List.getElem?_append_left (by rw [hA_len]; exact hk)]
theorem hp_x {k : Nat} (h1 : 23 ≤ k) (h2 : k < 140) : (hp I J F G X)[k]? = some (X k) := by
  unfold hp
  rw [List.getElem?_append_right (by rw [hA_len]; exact h1), hA_len, List.getElem?_append_left (by rw [hX_len]; omega)]
  unfold hX
  rw [List.getElem?_map, List.getElem?_range' (by omega)]
  simp only [Option.map_some]
  congr 2
  omega
theorem hp_b {k : Nat} : (hp I J F G X)[140 + k]? = (hB I J F G)[k]? := by
  unfold hp
  rw [List.getElem?_append_right (by rw [hA_len]; omega), hA_len, List.getElem?_append_right (by rw [hX_len]; omega), hX_len, show 140 + k - 23 - 117 = k by omega]
theorem hp_sa {k : Nat} {v : va_E} (hk : k < 23) : (hp I J F G X).set k v = (hA I J F).set k v ++ (hX X ++ hB I J F G) := by
  unfold hp
  rw [List.set_append_left _ _ (by rw [hA_len]; exact hk)]
theorem hp_sb {k : Nat} {v : va_E} : (hp I J F G X).set (140 + k) v = hA I J F ++ (hX X ++ (hB I J F G).set k v) := by
  unfold hp
  rw [List.set_append_right _ _ (by rw [hA_len]; omega), hA_len, List.set_append_right _ _ (by rw [hX_len]; omega), hX_len, show 140 + k - 23 - 117 = k by omega]
theorem k0 : (hp I J F G X)[0]? = some (dm) := (hp_a (by decide)).trans rfl
theorem k1 : (hp I J F G X)[1]? = some (oX (I 1) (I 2) (J 1) (J 2)) := (hp_a (by decide)).trans rfl
theorem k2 : (hp I J F G X)[2]? = some (arR 4 6 rRow) := (hp_a (by decide)).trans rfl
theorem k3 : (hp I J F G X)[3]? = some (arR 5 4 rTxt) := (hp_a (by decide)).trans rfl
theorem k4 : (hp I J F G X)[4]? = some (oC 4 (I 4)) := (hp_a (by decide)).trans rfl
theorem k5 : (hp I J F G X)[5]? = some (ar 7 (F 5)) := (hp_a (by decide)).trans rfl
theorem k6 : (hp I J F G X)[6]? = some (ar 7 (F 6)) := (hp_a (by decide)).trans rfl
theorem k7 : (hp I J F G X)[7]? = some (ar 7 (F 7)) := (hp_a (by decide)).trans rfl
theorem k8 : (hp I J F G X)[8]? = some (oC 8 (I 8)) := (hp_a (by decide)).trans rfl
theorem k9 : (hp I J F G X)[9]? = some (ar 7 (F 9)) := (hp_a (by decide)).trans rfl
theorem k10 : (hp I J F G X)[10]? = some (ar 7 (F 10)) := (hp_a (by decide)).trans rfl
theorem k11 : (hp I J F G X)[11]? = some (ar 7 (F 11)) := (hp_a (by decide)).trans rfl
theorem k12 : (hp I J F G X)[12]? = some (oQ 12 (I 12) (I 13) (I 14)) := (hp_a (by decide)).trans rfl
theorem k13 : (hp I J F G X)[13]? = some (ar 7 (F 13)) := (hp_a (by decide)).trans rfl
theorem k14 : (hp I J F G X)[14]? = some (ar 7 (F 14)) := (hp_a (by decide)).trans rfl
theorem k15 : (hp I J F G X)[15]? = some (ar 7 (F 15)) := (hp_a (by decide)).trans rfl
theorem k16 : (hp I J F G X)[16]? = some (oQ 16 (I 16) (I 17) (I 18)) := (hp_a (by decide)).trans rfl
theorem k17 : (hp I J F G X)[17]? = some (ar 7 (F 17)) := (hp_a (by decide)).trans rfl
theorem k18 : (hp I J F G X)[18]? = some (ar 7 (F 18)) := (hp_a (by decide)).trans rfl
theorem k19 : (hp I J F G X)[19]? = some (ar 7 (F 19)) := (hp_a (by decide)).trans rfl
theorem k20 : (hp I J F G X)[20]? = some (oN 2 21 (I 20)) := (hp_a (by decide)).trans rfl
theorem k21 : (hp I J F G X)[21]? = some (ar 40 (F 21)) := (hp_a (by decide)).trans rfl
theorem k22 : (hp I J F G X)[22]? = some (arR 6 3 rKep) := (hp_a (by decide)).trans rfl
theorem k140 : (hp I J F G X)[140]? = some (arZ 41 (F 140)) := (hp_b (k := 0)).trans rfl
theorem k141 : (hp I J F G X)[141]? = some (ar 6 (F 141)) := (hp_b (k := 1)).trans rfl
theorem k142 : (hp I J F G X)[142]? = some (oN 6 143 (I 142)) := (hp_b (k := 2)).trans rfl
theorem k143 : (hp I J F G X)[143]? = some (ar 40 (F 143)) := (hp_b (k := 3)).trans rfl
theorem k144 : (hp I J F G X)[144]? = some (oN 6 145 (I 144)) := (hp_b (k := 4)).trans rfl
theorem k145 : (hp I J F G X)[145]? = some (ar 40 (F 145)) := (hp_b (k := 5)).trans rfl
theorem k146 : (hp I J F G X)[146]? = some (oN 6 147 (I 146)) := (hp_b (k := 6)).trans rfl
theorem k147 : (hp I J F G X)[147]? = some (ar 40 (F 147)) := (hp_b (k := 7)).trans rfl
theorem k148 : (hp I J F G X)[148]? = some (oN 6 149 (I 148)) := (hp_b (k := 8)).trans rfl
theorem k149 : (hp I J F G X)[149]? = some (ar 40 (F 149)) := (hp_b (k := 9)).trans rfl
theorem k150 : (hp I J F G X)[150]? = some (oN 6 151 (I 150)) := (hp_b (k := 10)).trans rfl
theorem k151 : (hp I J F G X)[151]? = some (ar 40 (F 151)) := (hp_b (k := 11)).trans rfl
theorem k152 : (hp I J F G X)[152]? = some (oN 6 153 (I 152)) := (hp_b (k := 12)).trans rfl
theorem k153 : (hp I J F G X)[153]? = some (ar 40 (F 153)) := (hp_b (k := 13)).trans rfl
theorem k154 : (hp I J F G X)[154]? = some (oN 7 155 (I 154)) := (hp_b (k := 14)).trans rfl
theorem k155 : (hp I J F G X)[155]? = some (arB 60 (F 155)) := (hp_b (k := 15)).trans rfl
theorem k156 : (hp I J F G X)[156]? = some (oN 7 157 (I 156)) := (hp_b (k := 16)).trans rfl
theorem k157 : (hp I J F G X)[157]? = some (arB 60 (F 157)) := (hp_b (k := 17)).trans rfl
theorem k158 : (hp I J F G X)[158]? = some (oN 7 159 (I 158)) := (hp_b (k := 18)).trans rfl
theorem k159 : (hp I J F G X)[159]? = some (arB 60 (F 159)) := (hp_b (k := 19)).trans rfl
theorem k160 : (hp I J F G X)[160]? = some (oN 7 161 (I 160)) := (hp_b (k := 20)).trans rfl
theorem k161 : (hp I J F G X)[161]? = some (arB 60 (F 161)) := (hp_b (k := 21)).trans rfl
theorem k162 : (hp I J F G X)[162]? = some (oN 2 163 (I 162)) := (hp_b (k := 22)).trans rfl
theorem k163 : (hp I J F G X)[163]? = some (ar 40 (F 163)) := (hp_b (k := 23)).trans rfl
theorem k164 : (hp I J F G X)[164]? = some (oN 2 165 (I 164)) := (hp_b (k := 24)).trans rfl
theorem k165 : (hp I J F G X)[165]? = some (ar 40 (F 165)) := (hp_b (k := 25)).trans rfl
theorem k166 : (hp I J F G X)[166]? = some (oN 2 167 (I 166)) := (hp_b (k := 26)).trans rfl
theorem k167 : (hp I J F G X)[167]? = some (ar 40 (F 167)) := (hp_b (k := 27)).trans rfl
theorem k168 : (hp I J F G X)[168]? = some (oM (I 168) (I 169) (J 168) (J 169) (I 170) (I 171) (I 172) (I 173) (I 174) (I 175)) := (hp_b (k := 28)).trans rfl
theorem k169 : (hp I J F G X)[169]? = some (ar 3965 (F 169)) := (hp_b (k := 29)).trans rfl
theorem k170 : (hp I J F G X)[170]? = some (ar 7 (F 170)) := (hp_b (k := 30)).trans rfl
theorem k171 : (hp I J F G X)[171]? = some (ar 7 (F 171)) := (hp_b (k := 31)).trans rfl
theorem k172 : (hp I J F G X)[172]? = some (ar 7 (F 172)) := (hp_b (k := 32)).trans rfl
theorem k173 : (hp I J F G X)[173]? = some (ar 6 (F 173)) := (hp_b (k := 33)).trans rfl
theorem k174 : (hp I J F G X)[174]? = some (ar 240 (F 174)) := (hp_b (k := 34)).trans rfl
theorem k175 : (hp I J F G X)[175]? = some (ar 4 (F 175)) := (hp_b (k := 35)).trans rfl
theorem k176 : (hp I J F G X)[176]? = some (ar 240 (F 176)) := (hp_b (k := 36)).trans rfl
theorem k177 : (hp I J F G X)[177]? = some (ar 6 (F 177)) := (hp_b (k := 37)).trans rfl
theorem k178 : (hp I J F G X)[178]? = some (ar 21 (F 178)) := (hp_b (k := 38)).trans rfl
theorem k179 : (hp I J F G X)[179]? = some (ar 7 (F 179)) := (hp_b (k := 39)).trans rfl
theorem k180 : (hp I J F G X)[180]? = some (arZ 256 (F 180)) := (hp_b (k := 40)).trans rfl
theorem k181 : (hp I J F G X)[181]? = some (ar 7 (F 181)) := (hp_b (k := 41)).trans rfl
theorem k182 : (hp I J F G X)[182]? = some (arL 41 G) := (hp_b (k := 42)).trans rfl
theorem k_rowO {r : Nat} (hr : r < 6) : (hp I J F G X)[142 + 2 * r]? = some (oN 6 (143 + 2 * r) (I (142 + 2 * r))) := by
  match r, hr with
  | 0, _ => exact k142
  | 1, _ => exact k144
  | 2, _ => exact k146
  | 3, _ => exact k148
  | 4, _ => exact k150
  | 5, _ => exact k152
theorem k_rowA {r : Nat} (hr : r < 6) : (hp I J F G X)[143 + 2 * r]? = some (ar 40 (F (143 + 2 * r))) := by
  match r, hr with
  | 0, _ => exact k143
  | 1, _ => exact k145
  | 2, _ => exact k147
  | 3, _ => exact k149
  | 4, _ => exact k151
  | 5, _ => exact k153
theorem x_rowR {r : Nat} (hr : r < 6) : aR 4 (hp I J F G X) 2 (nI r) = some (142 + 2 * r) := by
  have e : rRow r = some (142 + 2 * r) := by
    match r, hr with
    | 0, _ => rfl
    | 1, _ => rfl
    | 2, _ => rfl
    | 3, _ => rfl
    | 4, _ => rfl
    | 5, _ => rfl
  simp only [aR, k2, arR, vin_nI hr (show 6 < 2 ^ 31 by decide), nI_clamp (show r < 2 ^ 31 by omega), if_true, e]
theorem x_rowI {r : Nat} (hr : r < 6) : isO (hp I J F G X) (142 + 2 * r) 6 = true := isO_at (k_rowO hr)
theorem x_rowN {r : Nat} (hr : r < 6) : gI (hp I J F G X) (142 + 2 * r) 6 1 = some (I (142 + 2 * r)) := gI_at (k_rowO hr) rfl
theorem x_rowF {r : Nat} (hr : r < 6) : gR (hp I J F G X) (142 + 2 * r) 6 0 = some (143 + 2 * r) := gR_at (k_rowO hr) rfl
theorem x_rowsO {r : Nat} (hr : r < 6) (x : Int32) : (hp I J F G X).set (142 + 2 * r) (oN 6 (143 + 2 * r) x) = hp (upd I (142 + 2 * r) x) J F G X := by
  match r, hr with
  | 0, _ => exact (hp_sb (k := 2)).trans rfl
  | 1, _ => exact (hp_sb (k := 4)).trans rfl
  | 2, _ => exact (hp_sb (k := 6)).trans rfl
  | 3, _ => exact (hp_sb (k := 8)).trans rfl
  | 4, _ => exact (hp_sb (k := 10)).trans rfl
  | 5, _ => exact (hp_sb (k := 12)).trans rfl
theorem x_rowpN {r : Nat} (hr : r < 6) (x : Int32) : pF (hp I J F G X) (142 + 2 * r) 6 1 (.int x) = some (hp (upd I (142 + 2 * r) x) J F G X) := (pF_at (k_rowO hr) (Nat.le_of_ble_eq_true rfl)).trans (congrArg some (x_rowsO hr x))
theorem x_rowsA {r : Nat} (hr : r < 6) (g : Nat → Int32) : (hp I J F G X).set (143 + 2 * r) (ar 40 g) = hp I J (upF F (143 + 2 * r) g) G X := by
  match r, hr with
  | 0, _ => exact (hp_sb (k := 3)).trans rfl
  | 1, _ => exact (hp_sb (k := 5)).trans rfl
  | 2, _ => exact (hp_sb (k := 7)).trans rfl
  | 3, _ => exact (hp_sb (k := 9)).trans rfl
  | 4, _ => exact (hp_sb (k := 11)).trans rfl
  | 5, _ => exact (hp_sb (k := 13)).trans rfl
theorem x_rowg {r k : Nat} (hr : r < 6) (hk : k < 40) : aI 0 (hp I J F G X) (143 + 2 * r) (nI k) = some (F (143 + 2 * r) k) := by rw [aI_at (k_rowA hr) (vin_nI hk (by decide)), nI_clamp (by omega)]
theorem x_rows {r k : Nat} (hr : r < 6) (hk : k < 40) (x : Int32) : sI (hp I J F G X) (143 + 2 * r) (nI k) x = some (hp I J (upF F (143 + 2 * r) (upd (F (143 + 2 * r)) k x)) G X) := by rw [sI_at (k_rowA hr) (vin_nI hk (by decide)), nI_clamp (by omega), x_rowsA hr]
theorem k_txtO {r : Nat} (hr : r < 4) : (hp I J F G X)[154 + 2 * r]? = some (oN 7 (155 + 2 * r) (I (154 + 2 * r))) := by
  match r, hr with
  | 0, _ => exact k154
  | 1, _ => exact k156
  | 2, _ => exact k158
  | 3, _ => exact k160
theorem k_txtA {r : Nat} (hr : r < 4) : (hp I J F G X)[155 + 2 * r]? = some (arB 60 (F (155 + 2 * r))) := by
  match r, hr with
  | 0, _ => exact k155
  | 1, _ => exact k157
  | 2, _ => exact k159
  | 3, _ => exact k161
theorem x_txtR {r : Nat} (hr : r < 4) : aR 5 (hp I J F G X) 3 (nI r) = some (154 + 2 * r) := by
  have e : rTxt r = some (154 + 2 * r) := by
    match r, hr with
    | 0, _ => rfl
    | 1, _ => rfl
    | 2, _ => rfl
    | 3, _ => rfl
  simp only [aR, k3, arR, vin_nI hr (show 4 < 2 ^ 31 by decide), nI_clamp (show r < 2 ^ 31 by omega), if_true, e]
theorem x_txtI {r : Nat} (hr : r < 4) : isO (hp I J F G X) (154 + 2 * r) 7 = true := isO_at (k_txtO hr)
theorem x_txtN {r : Nat} (hr : r < 4) : gI (hp I J F G X) (154 + 2 * r) 7 1 = some (I (154 + 2 * r)) := gI_at (k_txtO hr) rfl
theorem x_txtF {r : Nat} (hr : r < 4) : gR (hp I J F G X) (154 + 2 * r) 7 0 = some (155 + 2 * r) := gR_at (k_txtO hr) rfl
theorem x_txtsO {r : Nat} (hr : r < 4) (x : Int32) : (hp I J F G X).set (154 + 2 * r) (oN 7 (155 + 2 * r) x) = hp (upd I (154 + 2 * r) x) J F G X := by
  match r, hr with
  | 0, _ => exact (hp_sb (k := 14)).trans rfl
  | 1, _ => exact (hp_sb (k := 16)).trans rfl
  | 2, _ => exact (hp_sb (k := 18)).trans rfl
  | 3, _ => exact (hp_sb (k := 20)).trans rfl
theorem x_txtpN {r : Nat} (hr : r < 4) (x : Int32) : pF (hp I J F G X) (154 + 2 * r) 7 1 (.int x) = some (hp (upd I (154 + 2 * r) x) J F G X) := (pF_at (k_txtO hr) (Nat.le_of_ble_eq_true rfl)).trans (congrArg some (x_txtsO hr x))
theorem x_txtsA {r : Nat} (hr : r < 4) (g : Nat → Int32) : (hp I J F G X).set (155 + 2 * r) (arB 60 g) = hp I J (upF F (155 + 2 * r) g) G X := by
  match r, hr with
  | 0, _ => exact (hp_sb (k := 15)).trans rfl
  | 1, _ => exact (hp_sb (k := 17)).trans rfl
  | 2, _ => exact (hp_sb (k := 19)).trans rfl
  | 3, _ => exact (hp_sb (k := 21)).trans rfl
theorem x_txtg {r k : Nat} (hr : r < 4) (hk : k < 60) : aI 2 (hp I J F G X) (155 + 2 * r) (nI k) = some (F (155 + 2 * r) k) := by rw [aI_at (k_txtA hr) (vin_nI hk (by decide)), nI_clamp (by omega)]
theorem k_kepO {r : Nat} (hr : r < 3) : (hp I J F G X)[162 + 2 * r]? = some (oN 2 (163 + 2 * r) (I (162 + 2 * r))) := by
  match r, hr with
  | 0, _ => exact k162
  | 1, _ => exact k164
  | 2, _ => exact k166
theorem k_kepA {r : Nat} (hr : r < 3) : (hp I J F G X)[163 + 2 * r]? = some (ar 40 (F (163 + 2 * r))) := by
  match r, hr with
  | 0, _ => exact k163
  | 1, _ => exact k165
  | 2, _ => exact k167
theorem x_kepR {r : Nat} (hr : r < 3) : aR 6 (hp I J F G X) 22 (nI r) = some (162 + 2 * r) := by
  have e : rKep r = some (162 + 2 * r) := by
    match r, hr with
    | 0, _ => rfl
    | 1, _ => rfl
    | 2, _ => rfl
  simp only [aR, k22, arR, vin_nI hr (show 3 < 2 ^ 31 by decide), nI_clamp (show r < 2 ^ 31 by omega), if_true, e]
theorem x_kepI {r : Nat} (hr : r < 3) : isO (hp I J F G X) (162 + 2 * r) 2 = true := isO_at (k_kepO hr)
theorem x_kepN {r : Nat} (hr : r < 3) : gI (hp I J F G X) (162 + 2 * r) 2 1 = some (I (162 + 2 * r)) := gI_at (k_kepO hr) rfl
theorem x_kepF {r : Nat} (hr : r < 3) : gR (hp I J F G X) (162 + 2 * r) 2 0 = some (163 + 2 * r) := gR_at (k_kepO hr) rfl
theorem x_kepsO {r : Nat} (hr : r < 3) (x : Int32) : (hp I J F G X).set (162 + 2 * r) (oN 2 (163 + 2 * r) x) = hp (upd I (162 + 2 * r) x) J F G X := by
  match r, hr with
  | 0, _ => exact (hp_sb (k := 22)).trans rfl
  | 1, _ => exact (hp_sb (k := 24)).trans rfl
  | 2, _ => exact (hp_sb (k := 26)).trans rfl
theorem x_keppN {r : Nat} (hr : r < 3) (x : Int32) : pF (hp I J F G X) (162 + 2 * r) 2 1 (.int x) = some (hp (upd I (162 + 2 * r) x) J F G X) := (pF_at (k_kepO hr) (Nat.le_of_ble_eq_true rfl)).trans (congrArg some (x_kepsO hr x))
theorem x_kepsA {r : Nat} (hr : r < 3) (g : Nat → Int32) : (hp I J F G X).set (163 + 2 * r) (ar 40 g) = hp I J (upF F (163 + 2 * r) g) G X := by
  match r, hr with
  | 0, _ => exact (hp_sb (k := 23)).trans rfl
  | 1, _ => exact (hp_sb (k := 25)).trans rfl
  | 2, _ => exact (hp_sb (k := 27)).trans rfl
theorem x_kepg {r k : Nat} (hr : r < 3) (hk : k < 40) : aI 0 (hp I J F G X) (163 + 2 * r) (nI k) = some (F (163 + 2 * r) k) := by rw [aI_at (k_kepA hr) (vin_nI hk (by decide)), nI_clamp (by omega)]
theorem x_keps {r k : Nat} (hr : r < 3) (hk : k < 40) (x : Int32) : sI (hp I J F G X) (163 + 2 * r) (nI k) x = some (hp I J (upF F (163 + 2 * r) (upd (F (163 + 2 * r)) k x)) G X) := by rw [sI_at (k_kepA hr) (vin_nI hk (by decide)), nI_clamp (by omega), x_kepsA hr]
theorem x_f0 : gR (hp I J F G X) 1 9 0 = some 2 := gR_at k1 rfl
theorem x_f1 : gR (hp I J F G X) 1 9 1 = some 3 := gR_at k1 rfl
theorem x_f2 : gR (hp I J F G X) 1 9 2 = some 4 := gR_at k1 rfl
theorem x_f3 : gR (hp I J F G X) 1 9 3 = some 8 := gR_at k1 rfl
theorem x_f4 : gR (hp I J F G X) 1 9 4 = some 12 := gR_at k1 rfl
theorem x_f5 : gR (hp I J F G X) 1 9 5 = some 16 := gR_at k1 rfl
theorem x_f6 : gR (hp I J F G X) 1 9 6 = some 20 := gR_at k1 rfl
theorem x_f7 : gR (hp I J F G X) 1 9 7 = some 22 := gR_at k1 rfl
theorem x_f8 : gR (hp I J F G X) 1 9 8 = some 23 := gR_at k1 rfl
theorem x_f9 : gR (hp I J F G X) 1 9 9 = some 70 := gR_at k1 rfl
theorem x_f10 : gR (hp I J F G X) 1 9 10 = some 93 := gR_at k1 rfl
theorem x_f11 : gR (hp I J F G X) 1 9 11 = some 131 := gR_at k1 rfl
theorem x_f12 : gR (hp I J F G X) 1 9 12 = some 140 := gR_at k1 rfl
theorem x_f13 : gR (hp I J F G X) 1 9 13 = some 141 := gR_at k1 rfl
theorem x_is : isO (hp I J F G X) 1 9 = true := isO_at k1
theorem x_fi : gI (hp I J F G X) 1 9 14 = some (I 1) := gI_at k1 rfl
theorem x_pfi (x : Int32) : pF (hp I J F G X) 1 9 14 (.int x) = some (hp (upd I 1 x) J F G X) := (pF_at k1 (Nat.le_of_ble_eq_true rfl)).trans (congrArg some ((hp_sa (by decide)).trans rfl))
theorem x_ak : gI (hp I J F G X) 1 9 15 = some (I 2) := gI_at k1 rfl
theorem x_pak (x : Int32) : pF (hp I J F G X) 1 9 15 (.int x) = some (hp (upd I 2 x) J F G X) := (pF_at k1 (Nat.le_of_ble_eq_true rfl)).trans (congrArg some ((hp_sa (by decide)).trans rfl))
theorem x_up : gL (hp I J F G X) 1 9 16 = some (J 1) := gL_at k1 rfl
theorem x_pup (x : Int64) : pF (hp I J F G X) 1 9 16 (.long x) = some (hp I (vp_updL J 1 x) F G X) := (pF_at k1 (Nat.le_of_ble_eq_true rfl)).trans (congrArg some ((hp_sa (by decide)).trans rfl))
theorem x_lo : gL (hp I J F G X) 1 9 17 = some (J 2) := gL_at k1 rfl
theorem x_plo (x : Int64) : pF (hp I J F G X) 1 9 17 (.long x) = some (hp I (vp_updL J 2 x) F G X) := (pF_at k1 (Nat.le_of_ble_eq_true rfl)).trans (congrArg some ((hp_sa (by decide)).trans rfl))
theorem x_cn : gI (hp I J F G X) 4 1 3 = some (I 4) := gI_at k4 rfl
theorem x_pcn (x : Int32) : pF (hp I J F G X) 4 1 3 (.int x) = some (hp (upd I 4 x) J F G X) := (pF_at k4 (Nat.le_of_ble_eq_true rfl)).trans (congrArg some ((hp_sa (by decide)).trans rfl))
theorem x_rn : gI (hp I J F G X) 8 1 3 = some (I 8) := gI_at k8 rfl
theorem x_prn (x : Int32) : pF (hp I J F G X) 8 1 3 (.int x) = some (hp (upd I 8 x) J F G X) := (pF_at k8 (Nat.le_of_ble_eq_true rfl)).trans (congrArg some ((hp_sa (by decide)).trans rfl))
theorem x_qs : gI (hp I J F G X) 12 5 3 = some (I 12) := gI_at k12 rfl
theorem x_pqs (x : Int32) : pF (hp I J F G X) 12 5 3 (.int x) = some (hp (upd I 12 x) J F G X) := (pF_at k12 (Nat.le_of_ble_eq_true rfl)).trans (congrArg some ((hp_sa (by decide)).trans rfl))
theorem x_qn : gI (hp I J F G X) 12 5 4 = some (I 13) := gI_at k12 rfl
theorem x_pqn (x : Int32) : pF (hp I J F G X) 12 5 4 (.int x) = some (hp (upd I 13 x) J F G X) := (pF_at k12 (Nat.le_of_ble_eq_true rfl)).trans (congrArg some ((hp_sa (by decide)).trans rfl))
theorem x_qu : gI (hp I J F G X) 12 5 5 = some (I 14) := gI_at k12 rfl
theorem x_pqu (x : Int32) : pF (hp I J F G X) 12 5 5 (.int x) = some (hp (upd I 14 x) J F G X) := (pF_at k12 (Nat.le_of_ble_eq_true rfl)).trans (congrArg some ((hp_sa (by decide)).trans rfl))
theorem x_as : gI (hp I J F G X) 16 5 3 = some (I 16) := gI_at k16 rfl
theorem x_pas (x : Int32) : pF (hp I J F G X) 16 5 3 (.int x) = some (hp (upd I 16 x) J F G X) := (pF_at k16 (Nat.le_of_ble_eq_true rfl)).trans (congrArg some ((hp_sa (by decide)).trans rfl))
theorem x_an : gI (hp I J F G X) 16 5 4 = some (I 17) := gI_at k16 rfl
theorem x_pan (x : Int32) : pF (hp I J F G X) 16 5 4 (.int x) = some (hp (upd I 17 x) J F G X) := (pF_at k16 (Nat.le_of_ble_eq_true rfl)).trans (congrArg some ((hp_sa (by decide)).trans rfl))
theorem x_au : gI (hp I J F G X) 16 5 5 = some (I 18) := gI_at k16 rfl
theorem x_pau (x : Int32) : pF (hp I J F G X) 16 5 5 (.int x) = some (hp (upd I 18 x) J F G X) := (pF_at k16 (Nat.le_of_ble_eq_true rfl)).trans (congrArg some ((hp_sa (by decide)).trans rfl))
theorem x_dn : gI (hp I J F G X) 20 2 1 = some (I 20) := gI_at k20 rfl
theorem x_pdn (x : Int32) : pF (hp I J F G X) 20 2 1 (.int x) = some (hp (upd I 20 x) J F G X) := (pF_at k20 (Nat.le_of_ble_eq_true rfl)).trans (congrArg some ((hp_sa (by decide)).trans rfl))
theorem y_ps : gI (hp I J F G X) 168 10 1 = some (I 168) := gI_at k168 rfl
theorem y_pps (x : Int32) : pF (hp I J F G X) 168 10 1 (.int x) = some (hp (upd I 168 x) J F G X) := (pF_at k168 (Nat.le_of_ble_eq_true rfl)).trans (congrArg some ((hp_sb (k := 28)).trans rfl))
theorem y_ak : gI (hp I J F G X) 168 10 9 = some (I 169) := gI_at k168 rfl
theorem y_pak (x : Int32) : pF (hp I J F G X) 168 10 9 (.int x) = some (hp (upd I 169 x) J F G X) := (pF_at k168 (Nat.le_of_ble_eq_true rfl)).trans (congrArg some ((hp_sb (k := 28)).trans rfl))
theorem y_up : gL (hp I J F G X) 168 10 10 = some (J 168) := gL_at k168 rfl
theorem y_pup (x : Int64) : pF (hp I J F G X) 168 10 10 (.long x) = some (hp I (vp_updL J 168 x) F G X) := (pF_at k168 (Nat.le_of_ble_eq_true rfl)).trans (congrArg some ((hp_sb (k := 28)).trans rfl))
theorem y_lo : gL (hp I J F G X) 168 10 11 = some (J 169) := gL_at k168 rfl
theorem y_plo (x : Int64) : pF (hp I J F G X) 168 10 11 (.long x) = some (hp I (vp_updL J 169 x) F G X) := (pF_at k168 (Nat.le_of_ble_eq_true rfl)).trans (congrArg some ((hp_sb (k := 28)).trans rfl))
theorem y_fi : gI (hp I J F G X) 168 10 12 = some (I 170) := gI_at k168 rfl
theorem y_pfi (x : Int32) : pF (hp I J F G X) 168 10 12 (.int x) = some (hp (upd I 170 x) J F G X) := (pF_at k168 (Nat.le_of_ble_eq_true rfl)).trans (congrArg some ((hp_sb (k := 28)).trans rfl))
theorem y_fr : gI (hp I J F G X) 168 10 14 = some (I 171) := gI_at k168 rfl
theorem y_pfr (x : Int32) : pF (hp I J F G X) 168 10 14 (.int x) = some (hp (upd I 171 x) J F G X) := (pF_at k168 (Nat.le_of_ble_eq_true rfl)).trans (congrArg some ((hp_sb (k := 28)).trans rfl))
theorem y_pl : gI (hp I J F G X) 168 10 15 = some (I 172) := gI_at k168 rfl
theorem y_ppl (x : Int32) : pF (hp I J F G X) 168 10 15 (.int x) = some (hp (upd I 172 x) J F G X) := (pF_at k168 (Nat.le_of_ble_eq_true rfl)).trans (congrArg some ((hp_sb (k := 28)).trans rfl))
theorem y_en : gI (hp I J F G X) 168 10 16 = some (I 173) := gI_at k168 rfl
theorem y_pen (x : Int32) : pF (hp I J F G X) 168 10 16 (.int x) = some (hp (upd I 173 x) J F G X) := (pF_at k168 (Nat.le_of_ble_eq_true rfl)).trans (congrArg some ((hp_sb (k := 28)).trans rfl))
theorem y_rm : gI (hp I J F G X) 168 10 18 = some (I 174) := gI_at k168 rfl
theorem y_prm (x : Int32) : pF (hp I J F G X) 168 10 18 (.int x) = some (hp (upd I 174 x) J F G X) := (pF_at k168 (Nat.le_of_ble_eq_true rfl)).trans (congrArg some ((hp_sb (k := 28)).trans rfl))
theorem y_pd : gI (hp I J F G X) 168 10 20 = some (I 175) := gI_at k168 rfl
theorem y_ppd (x : Int32) : pF (hp I J F G X) 168 10 20 (.int x) = some (hp (upd I 175 x) J F G X) := (pF_at k168 (Nat.le_of_ble_eq_true rfl)).trans (congrArg some ((hp_sb (k := 28)).trans rfl))
theorem x_ci : isO (hp I J F G X) 4 1 = true := isO_at k4
theorem x_c0 : gR (hp I J F G X) 4 1 0 = some 5 := gR_at k4 rfl
theorem x_c1 : gR (hp I J F G X) 4 1 1 = some 6 := gR_at k4 rfl
theorem x_c2 : gR (hp I J F G X) 4 1 2 = some 7 := gR_at k4 rfl
theorem x_ri : isO (hp I J F G X) 8 1 = true := isO_at k8
theorem x_r0 : gR (hp I J F G X) 8 1 0 = some 9 := gR_at k8 rfl
theorem x_r1 : gR (hp I J F G X) 8 1 1 = some 10 := gR_at k8 rfl
theorem x_r2 : gR (hp I J F G X) 8 1 2 = some 11 := gR_at k8 rfl
theorem x_qi : isO (hp I J F G X) 12 5 = true := isO_at k12
theorem x_q0 : gR (hp I J F G X) 12 5 0 = some 13 := gR_at k12 rfl
theorem x_q1 : gR (hp I J F G X) 12 5 1 = some 14 := gR_at k12 rfl
theorem x_q2 : gR (hp I J F G X) 12 5 2 = some 15 := gR_at k12 rfl
theorem x_ai : isO (hp I J F G X) 16 5 = true := isO_at k16
theorem x_a0 : gR (hp I J F G X) 16 5 0 = some 17 := gR_at k16 rfl
theorem x_a1 : gR (hp I J F G X) 16 5 1 = some 18 := gR_at k16 rfl
theorem x_a2 : gR (hp I J F G X) 16 5 2 = some 19 := gR_at k16 rfl
theorem x_di : isO (hp I J F G X) 20 2 = true := isO_at k20
theorem x_d0 : gR (hp I J F G X) 20 2 0 = some 21 := gR_at k20 rfl
theorem y_is : isO (hp I J F G X) 168 10 = true := isO_at k168
theorem y_f0 : gR (hp I J F G X) 168 10 0 = some 169 := gR_at k168 rfl
theorem y_f2 : gR (hp I J F G X) 168 10 2 = some 170 := gR_at k168 rfl
theorem y_f3 : gR (hp I J F G X) 168 10 3 = some 171 := gR_at k168 rfl
theorem y_f4 : gR (hp I J F G X) 168 10 4 = some 172 := gR_at k168 rfl
theorem y_f5 : gR (hp I J F G X) 168 10 5 = some 173 := gR_at k168 rfl
theorem y_f6 : gR (hp I J F G X) 168 10 6 = some 174 := gR_at k168 rfl
theorem y_f7 : gR (hp I J F G X) 168 10 7 = some 175 := gR_at k168 rfl
theorem y_f8 : gR (hp I J F G X) 168 10 8 = some 176 := gR_at k168 rfl
theorem y_f13 : gR (hp I J F G X) 168 10 13 = some 177 := gR_at k168 rfl
theorem y_f17 : gR (hp I J F G X) 168 10 17 = some 178 := gR_at k168 rfl
theorem y_f19 : gR (hp I J F G X) 168 10 19 = some 179 := gR_at k168 rfl
theorem y_f21 : gR (hp I J F G X) 168 10 21 = some 180 := gR_at k168 rfl
theorem y_f22 : gR (hp I J F G X) 168 10 22 = some 181 := gR_at k168 rfl
theorem y_f23 : gR (hp I J F G X) 168 10 23 = some 182 := gR_at k168 rfl
theorem x_g5 {k : Nat} (hk : k < 7) : aI 0 (hp I J F G X) 5 (nI k) = some (F 5 k) := by rw [aI_at k5 (vin_nI hk (by decide)), nI_clamp (by omega)]
theorem x_s5 {k : Nat} (hk : k < 7) (x : Int32) : sI (hp I J F G X) 5 (nI k) x = some (hp I J (upF F 5 (upd (F 5) k x)) G X) := by
  rw [sI_at k5 (vin_nI hk (by decide)), nI_clamp (by omega)]
  exact congrArg some ((hp_sa (by decide)).trans rfl)
theorem x_g6 {k : Nat} (hk : k < 7) : aI 0 (hp I J F G X) 6 (nI k) = some (F 6 k) := by rw [aI_at k6 (vin_nI hk (by decide)), nI_clamp (by omega)]
theorem x_s6 {k : Nat} (hk : k < 7) (x : Int32) : sI (hp I J F G X) 6 (nI k) x = some (hp I J (upF F 6 (upd (F 6) k x)) G X) := by
  rw [sI_at k6 (vin_nI hk (by decide)), nI_clamp (by omega)]
  exact congrArg some ((hp_sa (by decide)).trans rfl)
theorem x_g7 {k : Nat} (hk : k < 7) : aI 0 (hp I J F G X) 7 (nI k) = some (F 7 k) := by rw [aI_at k7 (vin_nI hk (by decide)), nI_clamp (by omega)]
theorem x_s7 {k : Nat} (hk : k < 7) (x : Int32) : sI (hp I J F G X) 7 (nI k) x = some (hp I J (upF F 7 (upd (F 7) k x)) G X) := by
  rw [sI_at k7 (vin_nI hk (by decide)), nI_clamp (by omega)]
  exact congrArg some ((hp_sa (by decide)).trans rfl)
theorem x_g9 {k : Nat} (hk : k < 7) : aI 0 (hp I J F G X) 9 (nI k) = some (F 9 k) := by rw [aI_at k9 (vin_nI hk (by decide)), nI_clamp (by omega)]
theorem x_s9 {k : Nat} (hk : k < 7) (x : Int32) : sI (hp I J F G X) 9 (nI k) x = some (hp I J (upF F 9 (upd (F 9) k x)) G X) := by
  rw [sI_at k9 (vin_nI hk (by decide)), nI_clamp (by omega)]
  exact congrArg some ((hp_sa (by decide)).trans rfl)
theorem x_g10 {k : Nat} (hk : k < 7) : aI 0 (hp I J F G X) 10 (nI k) = some (F 10 k) := by rw [aI_at k10 (vin_nI hk (by decide)), nI_clamp (by omega)]
theorem x_s10 {k : Nat} (hk : k < 7) (x : Int32) : sI (hp I J F G X) 10 (nI k) x = some (hp I J (upF F 10 (upd (F 10) k x)) G X) := by
  rw [sI_at k10 (vin_nI hk (by decide)), nI_clamp (by omega)]
  exact congrArg some ((hp_sa (by decide)).trans rfl)
theorem x_g11 {k : Nat} (hk : k < 7) : aI 0 (hp I J F G X) 11 (nI k) = some (F 11 k) := by rw [aI_at k11 (vin_nI hk (by decide)), nI_clamp (by omega)]
theorem x_s11 {k : Nat} (hk : k < 7) (x : Int32) : sI (hp I J F G X) 11 (nI k) x = some (hp I J (upF F 11 (upd (F 11) k x)) G X) := by
  rw [sI_at k11 (vin_nI hk (by decide)), nI_clamp (by omega)]
  exact congrArg some ((hp_sa (by decide)).trans rfl)
theorem x_g13 {k : Nat} (hk : k < 7) : aI 0 (hp I J F G X) 13 (nI k) = some (F 13 k) := by rw [aI_at k13 (vin_nI hk (by decide)), nI_clamp (by omega)]
theorem x_s13 {k : Nat} (hk : k < 7) (x : Int32) : sI (hp I J F G X) 13 (nI k) x = some (hp I J (upF F 13 (upd (F 13) k x)) G X) := by
  rw [sI_at k13 (vin_nI hk (by decide)), nI_clamp (by omega)]
  exact congrArg some ((hp_sa (by decide)).trans rfl)
theorem x_g14 {k : Nat} (hk : k < 7) : aI 0 (hp I J F G X) 14 (nI k) = some (F 14 k) := by rw [aI_at k14 (vin_nI hk (by decide)), nI_clamp (by omega)]
theorem x_s14 {k : Nat} (hk : k < 7) (x : Int32) : sI (hp I J F G X) 14 (nI k) x = some (hp I J (upF F 14 (upd (F 14) k x)) G X) := by
  rw [sI_at k14 (vin_nI hk (by decide)), nI_clamp (by omega)]
  exact congrArg some ((hp_sa (by decide)).trans rfl)
theorem x_g15 {k : Nat} (hk : k < 7) : aI 0 (hp I J F G X) 15 (nI k) = some (F 15 k) := by rw [aI_at k15 (vin_nI hk (by decide)), nI_clamp (by omega)]
theorem x_s15 {k : Nat} (hk : k < 7) (x : Int32) : sI (hp I J F G X) 15 (nI k) x = some (hp I J (upF F 15 (upd (F 15) k x)) G X) := by
  rw [sI_at k15 (vin_nI hk (by decide)), nI_clamp (by omega)]
  exact congrArg some ((hp_sa (by decide)).trans rfl)
theorem x_g17 {k : Nat} (hk : k < 7) : aI 0 (hp I J F G X) 17 (nI k) = some (F 17 k) := by rw [aI_at k17 (vin_nI hk (by decide)), nI_clamp (by omega)]
theorem x_s17 {k : Nat} (hk : k < 7) (x : Int32) : sI (hp I J F G X) 17 (nI k) x = some (hp I J (upF F 17 (upd (F 17) k x)) G X) := by
  rw [sI_at k17 (vin_nI hk (by decide)), nI_clamp (by omega)]
  exact congrArg some ((hp_sa (by decide)).trans rfl)
theorem x_g18 {k : Nat} (hk : k < 7) : aI 0 (hp I J F G X) 18 (nI k) = some (F 18 k) := by rw [aI_at k18 (vin_nI hk (by decide)), nI_clamp (by omega)]
theorem x_s18 {k : Nat} (hk : k < 7) (x : Int32) : sI (hp I J F G X) 18 (nI k) x = some (hp I J (upF F 18 (upd (F 18) k x)) G X) := by
  rw [sI_at k18 (vin_nI hk (by decide)), nI_clamp (by omega)]
  exact congrArg some ((hp_sa (by decide)).trans rfl)
theorem x_g19 {k : Nat} (hk : k < 7) : aI 0 (hp I J F G X) 19 (nI k) = some (F 19 k) := by rw [aI_at k19 (vin_nI hk (by decide)), nI_clamp (by omega)]
theorem x_s19 {k : Nat} (hk : k < 7) (x : Int32) : sI (hp I J F G X) 19 (nI k) x = some (hp I J (upF F 19 (upd (F 19) k x)) G X) := by
  rw [sI_at k19 (vin_nI hk (by decide)), nI_clamp (by omega)]
  exact congrArg some ((hp_sa (by decide)).trans rfl)
theorem x_g21 {k : Nat} (hk : k < 40) : aI 0 (hp I J F G X) 21 (nI k) = some (F 21 k) := by rw [aI_at k21 (vin_nI hk (by decide)), nI_clamp (by omega)]
theorem x_s21 {k : Nat} (hk : k < 40) (x : Int32) : sI (hp I J F G X) 21 (nI k) x = some (hp I J (upF F 21 (upd (F 21) k x)) G X) := by
  rw [sI_at k21 (vin_nI hk (by decide)), nI_clamp (by omega)]
  exact congrArg some ((hp_sa (by decide)).trans rfl)
theorem x_g141 {k : Nat} (hk : k < 6) : aI 0 (hp I J F G X) 141 (nI k) = some (F 141 k) := by rw [aI_at k141 (vin_nI hk (by decide)), nI_clamp (by omega)]
theorem x_s141 {k : Nat} (hk : k < 6) (x : Int32) : sI (hp I J F G X) 141 (nI k) x = some (hp I J (upF F 141 (upd (F 141) k x)) G X) := by
  rw [sI_at k141 (vin_nI hk (by decide)), nI_clamp (by omega)]
  exact congrArg some ((hp_sb (k := 1)).trans rfl)
theorem y_g169 {k : Nat} (hk : k < 3965) : aI 0 (hp I J F G X) 169 (nI k) = some (F 169 k) := by rw [aI_at k169 (vin_nI hk (by decide)), nI_clamp (by omega)]
theorem y_s169 {k : Nat} (hk : k < 3965) (x : Int32) : sI (hp I J F G X) 169 (nI k) x = some (hp I J (upF F 169 (upd (F 169) k x)) G X) := by
  rw [sI_at k169 (vin_nI hk (by decide)), nI_clamp (by omega)]
  exact congrArg some ((hp_sb (k := 29)).trans rfl)
theorem y_g170 {k : Nat} (hk : k < 7) : aI 0 (hp I J F G X) 170 (nI k) = some (F 170 k) := by rw [aI_at k170 (vin_nI hk (by decide)), nI_clamp (by omega)]
theorem y_s170 {k : Nat} (hk : k < 7) (x : Int32) : sI (hp I J F G X) 170 (nI k) x = some (hp I J (upF F 170 (upd (F 170) k x)) G X) := by
  rw [sI_at k170 (vin_nI hk (by decide)), nI_clamp (by omega)]
  exact congrArg some ((hp_sb (k := 30)).trans rfl)
theorem y_g171 {k : Nat} (hk : k < 7) : aI 0 (hp I J F G X) 171 (nI k) = some (F 171 k) := by rw [aI_at k171 (vin_nI hk (by decide)), nI_clamp (by omega)]
theorem y_s171 {k : Nat} (hk : k < 7) (x : Int32) : sI (hp I J F G X) 171 (nI k) x = some (hp I J (upF F 171 (upd (F 171) k x)) G X) := by
  rw [sI_at k171 (vin_nI hk (by decide)), nI_clamp (by omega)]
  exact congrArg some ((hp_sb (k := 31)).trans rfl)
theorem y_g172 {k : Nat} (hk : k < 7) : aI 0 (hp I J F G X) 172 (nI k) = some (F 172 k) := by rw [aI_at k172 (vin_nI hk (by decide)), nI_clamp (by omega)]
theorem y_s172 {k : Nat} (hk : k < 7) (x : Int32) : sI (hp I J F G X) 172 (nI k) x = some (hp I J (upF F 172 (upd (F 172) k x)) G X) := by
  rw [sI_at k172 (vin_nI hk (by decide)), nI_clamp (by omega)]
  exact congrArg some ((hp_sb (k := 32)).trans rfl)
theorem y_g173 {k : Nat} (hk : k < 6) : aI 0 (hp I J F G X) 173 (nI k) = some (F 173 k) := by rw [aI_at k173 (vin_nI hk (by decide)), nI_clamp (by omega)]
theorem y_s173 {k : Nat} (hk : k < 6) (x : Int32) : sI (hp I J F G X) 173 (nI k) x = some (hp I J (upF F 173 (upd (F 173) k x)) G X) := by
  rw [sI_at k173 (vin_nI hk (by decide)), nI_clamp (by omega)]
  exact congrArg some ((hp_sb (k := 33)).trans rfl)
theorem y_g174 {k : Nat} (hk : k < 240) : aI 0 (hp I J F G X) 174 (nI k) = some (F 174 k) := by rw [aI_at k174 (vin_nI hk (by decide)), nI_clamp (by omega)]
theorem y_s174 {k : Nat} (hk : k < 240) (x : Int32) : sI (hp I J F G X) 174 (nI k) x = some (hp I J (upF F 174 (upd (F 174) k x)) G X) := by
  rw [sI_at k174 (vin_nI hk (by decide)), nI_clamp (by omega)]
  exact congrArg some ((hp_sb (k := 34)).trans rfl)
theorem y_g175 {k : Nat} (hk : k < 4) : aI 0 (hp I J F G X) 175 (nI k) = some (F 175 k) := by rw [aI_at k175 (vin_nI hk (by decide)), nI_clamp (by omega)]
theorem y_s175 {k : Nat} (hk : k < 4) (x : Int32) : sI (hp I J F G X) 175 (nI k) x = some (hp I J (upF F 175 (upd (F 175) k x)) G X) := by
  rw [sI_at k175 (vin_nI hk (by decide)), nI_clamp (by omega)]
  exact congrArg some ((hp_sb (k := 35)).trans rfl)
theorem y_g176 {k : Nat} (hk : k < 240) : aI 0 (hp I J F G X) 176 (nI k) = some (F 176 k) := by rw [aI_at k176 (vin_nI hk (by decide)), nI_clamp (by omega)]
theorem y_s176 {k : Nat} (hk : k < 240) (x : Int32) : sI (hp I J F G X) 176 (nI k) x = some (hp I J (upF F 176 (upd (F 176) k x)) G X) := by
  rw [sI_at k176 (vin_nI hk (by decide)), nI_clamp (by omega)]
  exact congrArg some ((hp_sb (k := 36)).trans rfl)
theorem y_g177 {k : Nat} (hk : k < 6) : aI 0 (hp I J F G X) 177 (nI k) = some (F 177 k) := by rw [aI_at k177 (vin_nI hk (by decide)), nI_clamp (by omega)]
theorem y_s177 {k : Nat} (hk : k < 6) (x : Int32) : sI (hp I J F G X) 177 (nI k) x = some (hp I J (upF F 177 (upd (F 177) k x)) G X) := by
  rw [sI_at k177 (vin_nI hk (by decide)), nI_clamp (by omega)]
  exact congrArg some ((hp_sb (k := 37)).trans rfl)
theorem y_g178 {k : Nat} (hk : k < 21) : aI 0 (hp I J F G X) 178 (nI k) = some (F 178 k) := by rw [aI_at k178 (vin_nI hk (by decide)), nI_clamp (by omega)]
theorem y_s178 {k : Nat} (hk : k < 21) (x : Int32) : sI (hp I J F G X) 178 (nI k) x = some (hp I J (upF F 178 (upd (F 178) k x)) G X) := by
  rw [sI_at k178 (vin_nI hk (by decide)), nI_clamp (by omega)]
  exact congrArg some ((hp_sb (k := 38)).trans rfl)
theorem y_g179 {k : Nat} (hk : k < 7) : aI 0 (hp I J F G X) 179 (nI k) = some (F 179 k) := by rw [aI_at k179 (vin_nI hk (by decide)), nI_clamp (by omega)]
theorem y_s179 {k : Nat} (hk : k < 7) (x : Int32) : sI (hp I J F G X) 179 (nI k) x = some (hp I J (upF F 179 (upd (F 179) k x)) G X) := by
  rw [sI_at k179 (vin_nI hk (by decide)), nI_clamp (by omega)]
  exact congrArg some ((hp_sb (k := 39)).trans rfl)
theorem y_g181 {k : Nat} (hk : k < 7) : aI 0 (hp I J F G X) 181 (nI k) = some (F 181 k) := by rw [aI_at k181 (vin_nI hk (by decide)), nI_clamp (by omega)]
theorem y_s181 {k : Nat} (hk : k < 7) (x : Int32) : sI (hp I J F G X) 181 (nI k) x = some (hp I J (upF F 181 (upd (F 181) k x)) G X) := by
  rw [sI_at k181 (vin_nI hk (by decide)), nI_clamp (by omega)]
  exact congrArg some ((hp_sb (k := 41)).trans rfl)
theorem hp_qq (o w' g : Nat → Int32) (s n u : Int32) : putQ (hp I J F G X) 12 o w' g s n u = hp (upd (upd (upd I 12 s) 13 n) 14 u) J (upF (upF (upF F 13 o) 14 w') 15 g) G X := by
  unfold putQ
  rw [hp_sa (by decide)]
  rfl
theorem hp_qa (o w' g : Nat → Int32) (s n u : Int32) : putQ (hp I J F G X) 16 o w' g s n u = hp (upd (upd (upd I 16 s) 17 n) 18 u) J (upF (upF (upF F 17 o) 18 w') 19 g) G X := by
  unfold putQ
  rw [hp_sa (by decide)]
  rfl
theorem hp_m (row st : Nat → Int32) : putM (hp I J F G X) row st = hp I J (upF (upF F 169 row) 179 st) G X := by
  unfold putM
  rw [show (169 : Nat) = 140 + 29 from rfl, hp_sb]
  rfl
theorem hp_C : Cat (hp I J F G X) 4 (F 5) (F 6) (F 7) (I 4) := ⟨k4, k5, k6, k7⟩
theorem hp_D : Cat (hp I J F G X) 8 (F 9) (F 10) (F 11) (I 8) := ⟨k8, k9, k10, k11⟩
theorem hp_M : Mat (hp I J F G X) (F 170) (F 171) := ⟨⟨_, _, _, _, _, _, _, _, _, _, k168⟩, k170, k171, by rw [hp_len]; decide⟩
end HV
