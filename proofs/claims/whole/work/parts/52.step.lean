/-! the invariant of the law's loop, and how a step of it is shown -/
def Qsh (X : Nat → va_E) (q : Nat) : Prop := ∃ o w g s n u, X q = oQ q s n u ∧ X (q + 1) = ar 7 o ∧ X (q + 2) = ar 7 w ∧ X (q + 3) = ar 7 g
def ShW (X : Nat → va_E) : Prop := (∃ vc vg a b c d e f g, X 23 = .inr (4, [.ref 24, .ref 25, vc, vg, .int a, .int b, .int c, .int d, .int e, .int f, .long g])) ∧ (∃ f, X 24 = arR 7 11 f ∧ ∀ k, k < 11 → f k = some (26 + 4 * k)) ∧ (∃ f, X 25 = arL 11 f) ∧ ∀ k, k < 11 → Qsh X (26 + 4 * k)
def ShT (X : Nat → va_E) : Prop := (∃ vc a b c e, X 70 = .inr (8, [.ref 71, .ref 72, vc, .int a, .int b, .int c, .int e, .ref 76])) ∧ (∃ f, X 71 = arR 7 4 f ∧ ∀ k, k < 4 → f k = some (77 + 4 * k)) ∧ Qsh X 72 ∧ (∃ f, X 76 = ar 3 f) ∧ ∀ k, k < 4 → Qsh X (77 + 4 * k)
def ShG (X : Nat → va_E) : Prop := (∃ vc a b, X 93 = .inr (0, [.ref 94, vc, .int a, .int b])) ∧ (∃ f, X 94 = arR 7 9 f ∧ ∀ k, k < 9 → f k = some (95 + 4 * k)) ∧ ∀ k, k < 9 → Qsh X (95 + 4 * k)
def ShR (X : Nat → va_E) : Prop := (∃ a b c, X 131 = .inr (3, [.ref 132, .int a, .int b, .long c])) ∧ (∃ f, X 132 = arR 8 7 f ∧ ∀ k, k < 7 → f k = some (133 + k)) ∧ ∀ k, k < 7 → ∃ f, X (133 + k) = ar 7 f
def ShX (X : Nat → va_E) : Prop := ShW X ∧ ShT X ∧ ShG X ∧ ShR X
def szT (k : Nat) : Nat := if k ≤ 25 then 11 else if k < 70 then (if (k - 26) % 4 = 0 then 6 else 7) else if k = 70 then 8 else if k = 71 then 4 else if k < 76 then (if k = 72 then 6 else 7) else if k = 76 then 3 else if k < 93 then (if (k - 77) % 4 = 0 then 6 else 7) else if k = 93 then 4 else if k = 94 then 9 else if k < 131 then (if (k - 95) % 4 = 0 then 6 else 7) else if k = 131 then 4 else 7
theorem Qsh_sz {X : Nat → va_E} {q k : Nat} (h : Qsh X q) (h1 : q ≤ k) (h2 : k ≤ q + 3) : szE (X k) = if k = q then 6 else 7 := by
  obtain ⟨o, w, g, s, n, u, e0, e1, e2, e3⟩ := h
  have : k = q ∨ k = q + 1 ∨ k = q + 2 ∨ k = q + 3 := by omega
  rcases this with rfl | rfl | rfl | rfl
  · rw [e0, if_pos rfl]; rfl
  · rw [e1, if_neg (by omega)]; rfl
  · rw [e2, if_neg (by omega)]; rfl
  · rw [e3, if_neg (by omega)]; rfl
theorem Sh_sz {X : Nat → va_E} (h : ShX X) {k : Nat} (h1 : 23 ≤ k) (h2 : k < 140) : szE (X k) = szT k := by
  obtain ⟨⟨⟨_, _, _, _, _, _, _, _, _, w1⟩, ⟨_, w2, _⟩, ⟨_, w3⟩, w4⟩, ⟨⟨_, _, _, _, _, t1⟩, ⟨_, t2, _⟩, t3, ⟨_, t4⟩, t5⟩, ⟨⟨_, _, _, g1⟩, ⟨_, g2, _⟩, g3⟩, ⟨⟨_, _, _, r1⟩, ⟨_, r2, _⟩, r3⟩⟩ := h
  have qq : ∀ (b n : Nat), (∀ k, k < n → Qsh X (b + 4 * k)) → b ≤ k → k < b + 4 * n → szE (X k) = if (k - b) % 4 = 0 then 6 else 7 := by
    intro b n hq hb hk
    have := Qsh_sz (k := k) (hq ((k - b) / 4) (by omega)) (by omega) (by omega)
    rw [this]
    by_cases e : (k - b) % 4 = 0
    · rw [if_pos e, if_pos (by omega)]
    · rw [if_neg e, if_neg (by omega)]
  unfold szT
  by_cases a1 : k ≤ 25
  · rw [if_pos a1]
    have : k = 23 ∨ k = 24 ∨ k = 25 := by omega
    rcases this with rfl | rfl | rfl
    · rw [w1]; rfl
    · rw [w2]; rfl
    · rw [w3]; rfl
  rw [if_neg a1]
  by_cases a2 : k < 70
  · rw [if_pos a2]; exact qq 26 11 w4 (by omega) (by omega)
  rw [if_neg a2]
  by_cases a3 : k = 70
  · subst a3; rw [t1]; rfl
  rw [if_neg a3]
  by_cases a4 : k = 71
  · subst a4; rw [t2]; rfl
  rw [if_neg a4]
  by_cases a5 : k < 76
  · rw [if_pos a5]; exact Qsh_sz t3 (by omega) (by omega)
  rw [if_neg a5]
  by_cases a6 : k = 76
  · subst a6; rw [t4]; rfl
  rw [if_neg a6]
  by_cases a7 : k < 93
  · rw [if_pos a7]; exact qq 77 4 t5 (by omega) (by omega)
  rw [if_neg a7]
  by_cases a8 : k = 93
  · subst a8; rw [g1]; rfl
  rw [if_neg a8]
  by_cases a9 : k = 94
  · subst a9; rw [g2]; rfl
  rw [if_neg a9]
  by_cases b1 : k < 131
  · rw [if_pos b1]; exact qq 95 9 g3 (by omega) (by omega)
  rw [if_neg b1]
  by_cases b2 : k = 131
  · subst b2; rw [r1]; rfl
  rw [if_neg b2]
  by_cases b3 : k = 132
  · subst b3; rw [r2]; rfl
  obtain ⟨f, hf⟩ := r3 (k - 133) (by omega)
  rw [show 133 + (k - 133) = k by omega] at hf
  rw [hf]; rfl
def LI (h : mH) : Prop := ∃ I J F G X np kd pt pr ds ks, h = hp I J F G X ∧ RelA np kd pt pr ds ks I J F ∧ ShX X
section SM
variable {I I' : Nat → Int32} {J J' : Nat → Int64} {F F' : Nat → Nat → Int32} {G G' : Nat → Int64} {X X' : Nat → va_E}
theorem sl_hp (h : ShX X) (h' : ShX X') : sl (hp I J F G X) = sl (hp I' J' F' G' X') := by
  have e : (hX X).map szE = (hX X').map szE := by
    unfold hX
    rw [List.map_map, List.map_map]
    refine List.map_congr_left (fun k hk => ?_)
    have := List.mem_range'_1.mp hk
    show szE (X k) = szE (X' k)
    rw [Sh_sz h (by omega) (by omega), Sh_sz h' (by omega) (by omega)]
  unfold sl hp
  rw [List.map_append, List.map_append, List.map_append, List.map_append, e]
  rfl
/-- one call of both: the component's part first -/
def okI (mx mm : Nat) (as : List Value) (I : Nat → Int32) (J : Nat → Int64) (F : Nat → Nat → Int32) (G : Nat → Int64) (X : Nat → va_E) : Prop := ∃ v I1 J1 F1 X1 I2 J2 F2 G2 np kd pt pr ds ks, cI (rn 60) mx (.ref 1 :: as) (hp I J F G X) = some (v, hp I1 J1 F1 G X1) ∧ cI (rn 60) mm (.ref 168 :: as) (hp I1 J1 F1 G X1) = some (v, hp I2 J2 F2 G2 X1) ∧ RelA np kd pt pr ds ks I2 J2 F2 ∧ ShX X1
def okL (mx mm : Nat) (as : List Value) (I : Nat → Int32) (J : Nat → Int64) (F : Nat → Nat → Int32) (G : Nat → Int64) (X : Nat → va_E) : Prop := ∃ v I1 J1 F1 X1 I2 J2 F2 G2 np kd pt pr ds ks, cL (rn 60) mx (.ref 1 :: as) (hp I J F G X) = some (v, hp I1 J1 F1 G X1) ∧ cL (rn 60) mm (.ref 168 :: as) (hp I1 J1 F1 G X1) = some (v, hp I2 J2 F2 G2 X1) ∧ RelA np kd pt pr ds ks I2 J2 F2 ∧ ShX X1
end SM
theorem cIv {d mi : Nat} {as : List Value} {h h' : mH} {v : Int32} (e : cI (rn d) mi as h = some (v, h')) : rn d mi as h = some (some (.int v), h') := by
  unfold cI at e
  split at e
  · next x h1 hx => cases e; exact hx
  · cases e
theorem cLv {d mi : Nat} {as : List Value} {h h' : mH} {v : Int64} (e : cL (rn d) mi as h = some (v, h')) : rn d mi as h = some (some (.long v), h') := by
  unfold cL at e
  split at e
  · next x h1 hx => cases e; exact hx
  · cases e
def gdI (mx mm n : Nat) : Prop := ∀ h, LI h → ∀ as : List Int32, as.length = n → ∃ (a : Int32) (h1 h2 : mH), rn 60 mx (.ref 1 :: as.map .int) h = some (some (.int a), h1) ∧ rn 60 mm (.ref 168 :: as.map .int) h1 = some (some (.int a), h2) ∧ LI h2 ∧ isO h 1 9 = true ∧ isO h1 168 10 = true ∧ h1.length = h.length ∧ sl h1 = sl h ∧ h2.length = h.length ∧ sl h2 = sl h
def gdL (mx mm n : Nat) : Prop := ∀ h, LI h → ∀ as : List Int32, as.length = n → ∃ (a : Int64) (h1 h2 : mH), rn 60 mx (.ref 1 :: as.map .int) h = some (some (.long a), h1) ∧ rn 60 mm (.ref 168 :: as.map .int) h1 = some (some (.long a), h2) ∧ LI h2 ∧ isO h 1 9 = true ∧ isO h1 168 10 = true ∧ h1.length = h.length ∧ sl h1 = sl h ∧ h2.length = h.length ∧ sl h2 = sl h
theorem gdI_of {mx mm n : Nat} (H : ∀ (as : List Int32), as.length = n → ∀ I J F G X np kd pt pr ds ks, RelA np kd pt pr ds ks I J F → ShX X → okI mx mm (as.map .int) I J F G X) : gdI mx mm n := by
  intro h hL as hn
  obtain ⟨I, J, F, G, X, np, kd, pt, pr, ds, ks, rfl, hR, hS⟩ := hL
  obtain ⟨v, I1, J1, F1, X1, I2, J2, F2, G2, np', kd', pt', pr', ds', ks', e1, e2, e3, e4⟩ := H as hn I J F G X np kd pt pr ds ks hR hS
  exact ⟨v, _, _, cIv e1, cIv e2, ⟨I2, J2, F2, G2, X1, np', kd', pt', pr', ds', ks', rfl, e3, e4⟩, x_is, y_is, by rw [hp_len, hp_len], sl_hp e4 hS, by rw [hp_len, hp_len], sl_hp e4 hS⟩
theorem gdL_of {mx mm n : Nat} (H : ∀ (as : List Int32), as.length = n → ∀ I J F G X np kd pt pr ds ks, RelA np kd pt pr ds ks I J F → ShX X → okL mx mm (as.map .int) I J F G X) : gdL mx mm n := by
  intro h hL as hn
  obtain ⟨I, J, F, G, X, np, kd, pt, pr, ds, ks, rfl, hR, hS⟩ := hL
  obtain ⟨v, I1, J1, F1, X1, I2, J2, F2, G2, np', kd', pt', pr', ds', ks', e1, e2, e3, e4⟩ := H as hn I J F G X np kd pt pr ds ks hR hS
  exact ⟨v, _, _, cLv e1, cLv e2, ⟨I2, J2, F2, G2, X1, np', kd', pt', pr', ds', ks', rfl, e3, e4⟩, x_is, y_is, by rw [hp_len, hp_len], sl_hp e4 hS, by rw [hp_len, hp_len], sl_hp e4 hS⟩
theorem as0 {as : List Int32} (h : as.length = 0) : as = [] := List.length_eq_zero_iff.mp h
theorem as1 {as : List Int32} (h : as.length = 1) : ∃ a, as = [a] := by
  match as, h with
  | [a], _ => exact ⟨a, rfl⟩
theorem as2 {as : List Int32} (h : as.length = 2) : ∃ a b, as = [a, b] := by
  match as, h with
  | [a, b], _ => exact ⟨a, b, rfl⟩
theorem as3 {as : List Int32} (h : as.length = 3) : ∃ a b c, as = [a, b, c] := by
  match as, h with
  | [a, b, c], _ => exact ⟨a, b, c, rfl⟩
theorem as5 {as : List Int32} (h : as.length = 5) : ∃ a b c d e, as = [a, b, c, d, e] := by
  match as, h with
  | [a, b, c, d, e], _ => exact ⟨a, b, c, d, e, rfl⟩
/-! small calls -/
theorem nat0 (d : Nat) (as : List Value) (h : mH) : cV (rn (d + 1)) 0 as h = some h := rfl
def bad (a : Int32) (n : Nat) : Prop := a < 0 ∨ nI n ≤ a
theorem ix (a : Int32) {n : Nat} (hn : n < 2 ^ 31) : bad a n ∨ ∃ k, k < n ∧ a = nI k := by
  rcases pk_ix a hn with h | h | h
  · exact Or.inl (Or.inl h)
  · exact Or.inl (Or.inr h)
  · exact Or.inr h
theorem nI_lt0 {k : Nat} (h : k < 2 ^ 31) : ¬ nI k < 0 := nI_pos h
theorem isRow_x {d r : Nat} {h : mH} (hr : r < 6) : cI (rn (d + 1)) 122 [.int (nI r)] h = some (1, h) := by
  unfold cI; rw [rX9_isRow, xX9_isRow_0, if_neg (nI_pos (by omega)), if_neg (show ¬ (6 : Int32) ≤ nI r from nI_ge (b := 6) hr (by decide))]
theorem isRow_xn {d : Nat} {a : Int32} {h : mH} (hr : bad a 6) : cI (rn (d + 1)) 122 [.int a] h = some (0, h) := by
  unfold cI; rw [rX9_isRow, xX9_isRow_0]
  rcases hr with e | e
  · rw [if_pos e]
  · by_cases z : a < 0
    · rw [if_pos z]
    · rw [if_neg z, if_pos (show (6 : Int32) ≤ a from e)]
theorem isText_x {d r : Nat} {h : mH} (hr : r < 4) : cI (rn (d + 1)) 123 [.int (nI r)] h = some (1, h) := by
  unfold cI; rw [rX9_isText, xX9_isText_0, if_neg (nI_pos (by omega)), if_neg (show ¬ (4 : Int32) ≤ nI r from nI_ge (b := 4) hr (by decide))]
theorem isText_xn {d : Nat} {a : Int32} {h : mH} (hr : bad a 4) : cI (rn (d + 1)) 123 [.int a] h = some (0, h) := by
  unfold cI; rw [rX9_isText, xX9_isText_0]
  rcases hr with e | e
  · rw [if_pos e]
  · by_cases z : a < 0
    · rw [if_pos z]
    · rw [if_neg z, if_pos (show (4 : Int32) ≤ a from e)]
theorem isKept_x {d r : Nat} {h : mH} (hr : r < 3) : cI (rn (d + 1)) 124 [.int (nI r)] h = some (1, h) := by
  unfold cI; rw [rX9_isKeptPlace, xX9_isKeptPlace_0, if_neg (nI_pos (by omega)), if_neg (show ¬ (3 : Int32) ≤ nI r from nI_ge (b := 3) hr (by decide))]
theorem isKept_xn {d : Nat} {a : Int32} {h : mH} (hr : bad a 3) : cI (rn (d + 1)) 124 [.int a] h = some (0, h) := by
  unfold cI; rw [rX9_isKeptPlace, xX9_isKeptPlace_0]
  rcases hr with e | e
  · rw [if_pos e]
  · by_cases z : a < 0
    · rw [if_pos z]
    · rw [if_neg z, if_pos (show (3 : Int32) ≤ a from e)]
theorem i64 {a b : Int32} : a.toInt64 < b.toInt64 ↔ a < b := by
  rw [Int64.lt_iff_toInt_lt, Int32.lt_iff_toInt_lt, Int32.toInt_toInt64, Int32.toInt_toInt64]
theorem in_y {d n : Nat} {a : Int32} {x y : Int64} {h : mH} {k : Nat} (hn : n < 2 ^ 31) (hk : k < n) (ha : a = nI k) (hx : x = Int32.toInt64 0) (hy : y = (nI n - 1).toInt64) : cI (rn (d + 1)) 148 [.long a.toInt64, .long x, .long y] h = some (1, h) := by
  subst ha hx hy
  obtain ⟨n, rfl⟩ : ∃ m, n = m + 1 := ⟨n - 1, by omega⟩
  rw [show nI (n + 1) - 1 = nI n from nI_pred _]
  unfold cI
  rw [rX10_in, xX10_in_0, if_neg (by rw [lg_cmp_lt, i64]; exact nI_pos (by omega)), if_neg (by rw [lg_cmp_gt, i64, nI_ltI (by omega) (by omega)]; omega)]
theorem in_yn {d n : Nat} {a : Int32} {x y : Int64} {h : mH} (hn : n < 2 ^ 31) (hb : bad a n) (hx : x = Int32.toInt64 0) (hy : y = (nI n - 1).toInt64) : cI (rn (d + 1)) 148 [.long a.toInt64, .long x, .long y] h = some (0, h) := by
  subst hx hy
  unfold cI
  rw [rX10_in, xX10_in_0]
  by_cases z : a < 0
  · rw [if_pos (by rw [lg_cmp_lt, i64]; exact z)]
  · rcases hb with e | e
    · exact absurd e z
    · rw [if_neg (by rw [lg_cmp_lt, i64]; exact z), if_pos]
      rw [lg_cmp_gt, i64]
      obtain ⟨j, hj, rfl⟩ := nI_of z
      have := (nI_leI hn hj).mp e
      cases n with
      | zero => exact Int32.lt_of_lt_of_le (show nI 0 - 1 < 0 by decide) (nI_pos' hj)
      | succ n => rw [show nI (n + 1) - 1 = nI n from nI_pred _, nI_ltI (by omega) hj]; omega
theorem isRow_y {d r : Nat} {h : mH} (hr : r < 6) : cI (rn (d + 2)) 152 [.int (nI r)] h = some (1, h) := by
  unfold cI; rw [rX10_isRow, xX10_isRow_0, in_y (x := 0) (y := 5) (n := 6) (by decide) hr rfl (by decide) (by decide), Option.bind_some, if_pos (by show (1 : Int32) &&& 1 = 1; decide)]
theorem isRow_yn {d : Nat} {a : Int32} {h : mH} (hr : bad a 6) : cI (rn (d + 2)) 152 [.int a] h = some (0, h) := by
  unfold cI; rw [rX10_isRow, xX10_isRow_0, in_yn (x := 0) (y := 5) (n := 6) (by decide) hr (by decide) (by decide), Option.bind_some, if_pos (by show (0 : Int32) &&& 1 = 0; decide)]
theorem isText_y {d r : Nat} {h : mH} (hr : r < 4) : cI (rn (d + 2)) 153 [.int (nI r)] h = some (1, h) := by
  unfold cI; rw [rX10_isText, xX10_isText_0, in_y (x := 0) (y := 3) (n := 4) (by decide) hr rfl (by decide) (by decide), Option.bind_some, if_pos (by show (1 : Int32) &&& 1 = 1; decide)]
theorem isText_yn {d : Nat} {a : Int32} {h : mH} (hr : bad a 4) : cI (rn (d + 2)) 153 [.int a] h = some (0, h) := by
  unfold cI; rw [rX10_isText, xX10_isText_0, in_yn (x := 0) (y := 3) (n := 4) (by decide) hr (by decide) (by decide), Option.bind_some, if_pos (by show (0 : Int32) &&& 1 = 0; decide)]
/-! findings -/
section FN
variable {I : Nat → Int32} {J : Nat → Int64} {F : Nat → Nat → Int32} {G : Nat → Int64} {X : Nat → va_E}
theorem aN_at {h : mH} {a n : Nat} {f : Nat → Int32} (h0 : h[a]? = some (ar n f)) : aN h a = some (nI n) := by
  simp [aN, h0, ar, nI]
theorem find_x {d f : Nat} (hf : f < 6) : cI (rn (d + 1)) 127 [.ref 1, .int (nI f)] (hp I J F G X) = some (-3, hp (upd I 1 (nI f)) J (upF F 141 (upd (F 141) f (F 141 f + 1))) G X) := by
  unfold cI
  rw [rX9_find, xX9_find_0, x_pfi, Option.bind_some, if_neg (nI_pos (by omega)), x_f13, Option.bind_some, aN_at k141, Option.bind_some, if_neg (nI_ge hf (by decide)), Option.bind_some, x_g141 hf, Option.bind_some, x_s141 hf, Option.bind_some]
theorem find_y {d f : Nat} (hf : f < 6) : cI (rn (d + 1)) 150 [.ref 168, .int (nI f)] (hp I J F G X) = some (-3, hp (upd I 170 (nI f)) J (upF F 177 (upd (F 177) f (F 177 f + 1))) G X) := by
  unfold cI
  rw [rX10_find, xX10_find_0, y_pfi, Option.bind_some, y_f13, Option.bind_some, y_g177 hf, Option.bind_some, y_s177 hf, Option.bind_some]
theorem tell_y {d : Nat} (v : Int32) : cI (rn (d + 1)) 151 [.ref 168, .int v] (hp I J F G X) = some (1, hp (upd I 169 v) J F G X) := by
  unfold cI
  rw [rX10_tell, xX10_tell_0, y_pak, Option.bind_some]
end FN
section RF
variable {I : Nat → Int32} {J : Nat → Int64} {F : Nat → Nat → Int32} {G : Nat → Int64} {X : Nat → va_E} {np : Nat} {kd pt pr : Nat → Nat} {ds : List Nat} {ks : Nat → Option (List Nat)}
/-- both have found the same -/
theorem rel_find {f : Nat} (hf : f < 6) (h : RelA np kd pt pr ds ks I J F) : RelA np kd pt pr ds ks (upd (upd I 1 (nI f)) 170 (nI f)) J (upF (upF F 141 (upd (F 141) f (F 141 f + 1))) 177 (upd (F 177) f (F 177 f + 1))) := by
  obtain ⟨h1, h2, h3, h4, h5, h6, h7⟩ := h
  refine ⟨?_, ?_, rRows_c h3 (by intros; simp (disch := omega) only [upd_ne, upF_ne]) (by intros; simp (disch := omega) only [upd_ne, upF_ne]), rTxts_c h4 (by intros; simp (disch := omega) only [upd_ne, upF_ne]) (by intros; simp (disch := omega) only [upd_ne, upF_ne]), rCrowd_c h5 (by intros; simp (disch := omega) only [upd_ne, upF_ne]) (by intros; simp (disch := omega) only [upd_ne, upF_ne]), rLine_c h5.2.2.1 h6 (by intros; simp (disch := omega) only [upd_ne, upF_ne]) (by intros; simp (disch := omega) only [upd_ne, upF_ne]) (by intros; simp (disch := omega) only [upd_ne, upF_ne]), rKept_c h5.2.2.1 h7 (by intros; simp (disch := omega) only [upd_ne, upF_ne]) (by intros; simp (disch := omega) only [upd_ne, upF_ne]) (by intros; simp (disch := omega) only [upd_ne, upF_ne])⟩
  · refine ⟨?_, ?_, h1.2.2⟩
    · rw [upd_eq, upd_ne (by decide), upd_eq]
    · rw [upd_ne (by decide), upd_ne (by decide), upd_ne (by decide), upd_ne (by decide)]; exact h1.2.1
  · intro j hj
    rw [upF_ne (by decide), upF_eq, upF_eq]
    by_cases e : j = f
    · subst e; rw [upd_eq, upd_eq, h2 j hj]
    · rw [upd_ne e, upd_ne e, h2 j hj]
/-- both tell the same number -/
theorem rel_tell (v : Int32) (h : RelA np kd pt pr ds ks I J F) : RelA np kd pt pr ds ks (upd (upd I 2 v) 169 v) J F := by
  obtain ⟨h1, h2, h3, h4, h5, h6, h7⟩ := h
  refine ⟨?_, h2, rRows_c h3 (by intros; simp (disch := omega) only [upd_ne, upF_ne]) (by intros; simp (disch := omega) only [upd_ne, upF_ne]), rTxts_c h4 (by intros; simp (disch := omega) only [upd_ne, upF_ne]) (by intros; simp (disch := omega) only [upd_ne, upF_ne]), rCrowd_c h5 (by intros; simp (disch := omega) only [upd_ne, upF_ne]) (by intros; simp (disch := omega) only [upd_ne, upF_ne]), rLine_c h5.2.2.1 h6 (by intros; simp (disch := omega) only [upd_ne, upF_ne]) (by intros; simp (disch := omega) only [upd_ne, upF_ne]) (by intros; simp (disch := omega) only [upd_ne, upF_ne]), rKept_c h5.2.2.1 h7 (by intros; simp (disch := omega) only [upd_ne, upF_ne]) (by intros; simp (disch := omega) only [upd_ne, upF_ne]) (by intros; simp (disch := omega) only [upd_ne, upF_ne])⟩
  refine ⟨?_, ?_, h1.2.2⟩
  · rw [upd_ne (by decide), upd_ne (by decide), upd_ne (by decide), upd_ne (by decide)]; exact h1.1
  · rw [upd_ne (by decide), upd_eq, upd_eq]
end RF
