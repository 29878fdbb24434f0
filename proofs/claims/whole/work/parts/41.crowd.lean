/-! the crowd: who is there, of which kind, asleep -/
def bI (b : Bool) : Int32 := if b = true then 1 else 0
theorem bI_t : bI true = 1 := rfl
theorem bI_f : bI false = 0 := rfl
theorem bI_and (b : Bool) : bI b &&& 1 = bI b := by cases b <;> decide
theorem bI_0 {b : Bool} : bI b = 0 ↔ b = false := by cases b <;> simp [bI]
def Cat (h : mH) (c : Nat) (kf pf rf : Nat → Int32) (num : Int32) : Prop := h[c]? = some (.inr (1, [.ref (c + 1), .ref (c + 2), .ref (c + 3), .int num])) ∧ h[c + 1]? = some (ar 7 kf) ∧ h[c + 2]? = some (ar 7 pf) ∧ h[c + 3]? = some (ar 7 rf)
def apart4 (c q : Nat) : Prop := c + 3 < q ∨ q + 3 < c
theorem Cat_putQ {h : mH} {c q : Nat} {kf pf rf o w g : Nat → Int32} {num s n u : Int32} (ha : apart4 c q) (hc : Cat h c kf pf rf num) : Cat (putQ h q o w g s n u) c kf pf rf num := by
  unfold apart4 at ha
  obtain ⟨h0, h1, h2, h3⟩ := hc
  exact ⟨by rw [putQ_o (by omega)]; exact h0, by rw [putQ_o (by omega)]; exact h1, by rw [putQ_o (by omega)]; exact h2, by rw [putQ_o (by omega)]; exact h3⟩
section CV
variable {h : mH} {c : Nat} {kf pf rf : Nat → Int32} {num : Int32}
theorem c_num (hc : Cat h c kf pf rf num) : gI h c 1 3 = some num := gI_at hc.1 rfl
theorem c_r0 (hc : Cat h c kf pf rf num) : gR h c 1 0 = some (c + 1) := gR_at hc.1 rfl
theorem c_r1 (hc : Cat h c kf pf rf num) : gR h c 1 1 = some (c + 2) := gR_at hc.1 rfl
theorem c_r2 (hc : Cat h c kf pf rf num) : gR h c 1 2 = some (c + 3) := gR_at hc.1 rfl
theorem c_is (hc : Cat h c kf pf rf num) : isO h c 1 = true := isO_at hc.1
theorem c_ak (hc : Cat h c kf pf rf num) {k : Nat} (hk : k < 7) : aI 0 h (c + 1) (nI k) = some (kf k) := by rw [aI_at hc.2.1 (vin_nI hk (by decide)), nI_clamp (by omega)]
theorem c_ap (hc : Cat h c kf pf rf num) {k : Nat} (hk : k < 7) : aI 0 h (c + 2) (nI k) = some (pf k) := by rw [aI_at hc.2.2.1 (vin_nI hk (by decide)), nI_clamp (by omega)]
theorem c_ar (hc : Cat h c kf pf rf num) {k : Nat} (hk : k < 7) : aI 0 h (c + 3) (nI k) = some (rf k) := by rw [aI_at hc.2.2.2 (vin_nI hk (by decide)), nI_clamp (by omega)]
end CV
theorem d1 {d : Nat} (hd : 1 ≤ d) : ∃ e, d = e + 1 := ⟨d - 1, by omega⟩
theorem has_s {d : Nat} (hd : 1 ≤ d) {h : mH} {c : Nat} {kf pf rf : Nat → Int32} {num : Int32} (hc : Cat h c kf pf rf num) (v : Int32) : cI (rn d) 10 [.ref c, .int v] h = some (bI (!decide (v < 0) && decide (v < num)), h) := by
  obtain ⟨d, rfl⟩ := d1 hd
  unfold cI
  rw [rX1_has, xX1_has_0]
  by_cases h0 : v < 0
  · simp [h0, bI]
  · rw [if_neg h0, c_num hc, Option.bind_some]
    by_cases h1 : num ≤ v
    · have : ¬ v < num := by simpa using h1
      simp [h0, h1, this, bI]
    · have : v < num := by simpa using h1
      simp [h0, h1, this, bI]
/-- a person of the crowd -/
theorem has_p {d : Nat} (hd : 1 ≤ d) {h : mH} {c : Nat} {kf pf rf : Nat → Int32} {np : Nat} (hc : Cat h c kf pf rf (nI np)) (hn : np ≤ 7) {k : Nat} (hk : k < np) : cI (rn d) 10 [.ref c, .int (nI k)] h = some (1, h) := by
  rw [has_s hd hc]
  have h0 : ¬ nI k < 0 := nI_pos (by omega)
  have h1 : nI k < nI np := nI_lt hk (by omega)
  simp [h0, h1, bI]
theorem has_no {d : Nat} (hd : 1 ≤ d) {h : mH} {c : Nat} {kf pf rf : Nat → Int32} {num : Int32} (hc : Cat h c kf pf rf num) : cI (rn d) 10 [.ref c, .int (-9)] h = some (0, h) := by
  rw [has_s hd hc]
  have h0 : (-9 : Int32) < 0 := by decide
  simp [h0, bI]
def asl (kd : Nat → Nat) (nt i : Nat) : Bool := kd i == 2 || (kd i == 5 && nt % 3 != 0)
def isk (kd : Nat → Nat) (i w : Nat) : Bool := kd i == w || w == 0 || (kd i == 4 && w == 1) || (kd i == 5 && w == 2)
theorem nI_inj {a b : Nat} (ha : a < 2 ^ 31) (hb : b < 2 ^ 31) : nI a = nI b ↔ a = b := nI_eq ha hb
theorem asleep_p {d : Nat} (hd : 2 ≤ d) {h : mH} {c : Nat} {kf pf rf : Nat → Int32} {np : Nat} (hc : Cat h c kf pf rf (nI np)) (hn : np ≤ 7) {kd : Nat → Nat} (hk : ∀ k, k < np → kf k = nI (kd k) ∧ kd k < 6) {i nt : Nat} (hi : i < np) (ht : nt < 1000) : cI (rn d) 13 [.ref c, .int (nI i), .int (nI nt)] h = some (bI (asl kd nt i), h) := by
  obtain ⟨d, rfl⟩ := d1 (show 1 ≤ d by omega)
  obtain ⟨k1, k2⟩ := hk i hi
  unfold cI
  rw [rX1_isAsleep, xX1_isAsleep_0, if_neg (nI_pos (by omega)), c_num hc, Option.bind_some, if_pos (nI_lt hi (by omega)), c_r0 hc, Option.bind_some, c_ak hc (by omega), Option.bind_some, k1]
  have e2 : (nI (kd i) = 2) ↔ kd i = 2 := nI_inj (b := 2) (by omega) (by decide)
  have e5 : (nI (kd i) = 5) ↔ kd i = 5 := nI_inj (b := 5) (by omega) (by decide)
  have e3 : nI nt - nI nt / 3 * 3 = nI (nt % 3) := pk_rem (d := 3) (by omega) (by decide) (by decide)
  have e0 : (nI (nt % 3) = 0) ↔ nt % 3 = 0 := nI_inj (b := 0) (by omega) (by decide)
  simp only [Option.bind_some, c_r0 hc, c_ak hc (show i < 7 by omega), k1, e2, e5, e3, e0]
  unfold asl
  by_cases a : kd i = 2
  · simp [a, bI]
  · by_cases b : kd i = 5
    · by_cases z : nt % 3 = 0
      · simp [b, z, bI]
      · simp [b, z, bI]
    · simp [a, b, bI]
theorem asleep_no {d : Nat} (hd : 2 ≤ d) {h : mH} {c : Nat} {kf pf rf : Nat → Int32} {num : Int32} (hc : Cat h c kf pf rf num) (v : Int32) : cI (rn d) 13 [.ref c, .int (-9), .int v] h = some (0, h) := by
  obtain ⟨d, rfl⟩ := d1 (show 1 ≤ d by omega)
  unfold cI
  rw [rX1_isAsleep, xX1_isAsleep_0, if_pos (show (-9 : Int32) < 0 by decide)]
theorem isOf_p {d : Nat} (hd : 2 ≤ d) {h : mH} {c : Nat} {kf pf rf : Nat → Int32} {np : Nat} (hc : Cat h c kf pf rf (nI np)) (hn : np ≤ 7) {kd : Nat → Nat} (hk : ∀ k, k < np → kf k = nI (kd k) ∧ kd k < 6) {i w : Nat} (hi : i < np) (hw : w < 6) : cI (rn d) 12 [.ref c, .int (nI i), .int (nI w)] h = some (bI (isk kd i w), h) := by
  obtain ⟨d, rfl⟩ := d1 (show 1 ≤ d by omega)
  obtain ⟨k1, k2⟩ := hk i hi
  unfold cI
  rw [rX1_isOf, xX1_isOf_0, if_pos (c_is hc), has_p (by omega) hc hn hi, Option.bind_some, if_neg (show ¬ (1 : Int32) = 0 by decide), c_r0 hc, Option.bind_some, c_ak hc (by omega), Option.bind_some, k1, xX1_isOf_36]
  have ew : (nI (kd i) = nI w) ↔ kd i = w := nI_inj (by omega) (by omega)
  have e4 : (nI (kd i) = 4) ↔ kd i = 4 := nI_inj (b := 4) (by omega) (by decide)
  have e5 : (nI (kd i) = 5) ↔ kd i = 5 := nI_inj (b := 5) (by omega) (by decide)
  have w0 : (nI w = 0) ↔ w = 0 := nI_inj (b := 0) (by omega) (by decide)
  have w1 : (nI w = 1) ↔ w = 1 := nI_inj (b := 1) (by omega) (by decide)
  have w2 : (nI w = 2) ↔ w = 2 := nI_inj (b := 2) (by omega) (by decide)
  simp only [ew, e4, e5, w0, w1, w2]
  unfold isk
  by_cases a : kd i = w
  · simp [a, bI]
  · by_cases b : w = 0
    · simp [b, bI]
    · by_cases z : kd i = 4
      · by_cases y : w = 1
        · simp [z, y, bI]
        · have a' : ¬ 4 = w := z ▸ a
          simp [z, y, b, bI, a']
      · by_cases y : kd i = 5
        · by_cases x : w = 2
          · simp [y, x, bI]
          · have a' : ¬ 5 = w := y ▸ a
            simp [y, x, b, bI, a']
        · simp [a, b, z, y, bI]
theorem isOf_no {d : Nat} (hd : 2 ≤ d) {h : mH} {c : Nat} {kf pf rf : Nat → Int32} {num : Int32} (hc : Cat h c kf pf rf num) (v : Int32) : cI (rn d) 12 [.ref c, .int (-9), .int v] h = some (0, h) := by
  obtain ⟨d, rfl⟩ := d1 (show 1 ≤ d by omega)
  unfold cI
  rw [rX1_isOf, xX1_isOf_0, if_pos (c_is hc), has_no (by omega) hc, Option.bind_some, if_pos rfl]
