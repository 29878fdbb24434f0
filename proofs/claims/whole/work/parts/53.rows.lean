/-! rows: both sides -/
theorem set_same {H : mH} {a : Nat} {v : va_E} (h : H[a]? = some v) : H.set a v = H := by
  apply lst_ext
  intro k
  rw [List.getElem?_set]
  by_cases e : a = k
  · subst e
    rw [if_pos rfl, if_pos (List.getElem?_eq_some_iff.mp h).1, h]
  · rw [if_neg e]
theorem okI_mk {mx mm : Nat} {as : List Value} {I I1 I2 : Nat → Int32} {J J1 J2 : Nat → Int64} {F F1 F2 : Nat → Nat → Int32} {G G2 : Nat → Int64} {X X1 : Nat → va_E} {np : Nat} {kd pt pr : Nat → Nat} {ds : List Nat} {ks : Nat → Option (List Nat)} {v : Int32} (e1 : cI (rn 60) mx (.ref 1 :: as) (hp I J F G X) = some (v, hp I1 J1 F1 G X1)) (e2 : cI (rn 60) mm (.ref 168 :: as) (hp I1 J1 F1 G X1) = some (v, hp I2 J2 F2 G2 X1)) (hR : RelA np kd pt pr ds ks I2 J2 F2) (hS : ShX X1) : okI mx mm as I J F G X := ⟨v, I1, J1, F1, X1, I2, J2, F2, G2, np, kd, pt, pr, ds, ks, e1, e2, hR, hS⟩
theorem fill_loop {d n : Nat} {a : Nat} {v : Int32} {f : Nat → Int32} (hn : n < 2 ^ 31) : ∀ (m i : Nat) (H : mH), n - i = m → i ≤ n → H[a]? = some (ar n (fun k => if k < i then v else f k)) → ex cdJ7_fill_53178 (rn d) 5 [.ref a, .int v, .int (nI i), .int (nI n)] [] H = some (none, H.set a (ar n (fun k => if k < n then v else f k))) := by
  intro m
  induction m with
  | zero =>
    intro i H h1 h2 h0
    have : i = n := by omega
    subst this
    rw [xJ7_fill_53178_5, if_pos (nI_le (Nat.le_refl _) hn)]
    rw [set_same h0]
  | succ m ih =>
    intro i H h1 h2 h0
    have ha : a < H.length := (List.getElem?_eq_some_iff.mp h0).1
    have e : upd (fun k => if k < i then v else f k) i v = (fun k => if k < i + 1 then v else f k) := by
      funext k
      by_cases z : k = i
      · subst z; rw [upd_eq, if_pos (by omega)]
      · rw [upd_ne z]
        by_cases z2 : k < i
        · rw [if_pos z2, if_pos (by omega)]
        · rw [if_neg z2, if_neg (by omega)]
    rw [xJ7_fill_53178_5, if_neg (nI_ge (by omega) hn), sI_at h0 (vin_nI (by omega) hn), Option.bind_some, nI_1, nI_clamp (by omega), e, ih (i + 1) _ (by omega) (by omega) (List.getElem?_set_self ha), List.set_set]
theorem fill_x {d n a : Nat} {v : Int32} {f : Nat → Int32} {H : mH} (hn : n < 2 ^ 31) (h0 : H[a]? = some (ar n f)) : cV (rn (d + 1)) 2 [.ref a, .int v] H = some (H.set a (ar n (fun k => if k < n then v else f k))) := by
  unfold cV
  have := fill_loop (d := d) (a := a) (v := v) (f := f) hn n 0 H rfl (Nat.zero_le _) (by simpa using h0)
  rw [nI_0] at this
  rw [rJ7_fill_53178, xJ7_fill_53178_0, aN_at h0, Option.bind_some, this]
theorem okI_same {mx mm : Nat} {as : List Value} {I : Nat → Int32} {J : Nat → Int64} {F : Nat → Nat → Int32} {G : Nat → Int64} {X : Nat → va_E} {np : Nat} {kd pt pr : Nat → Nat} {ds : List Nat} {ks : Nat → Option (List Nat)} {v : Int32} (hR : RelA np kd pt pr ds ks I J F) (hS : ShX X) (e1 : cI (rn 60) mx (.ref 1 :: as) (hp I J F G X) = some (v, hp I J F G X)) (e2 : cI (rn 60) mm (.ref 168 :: as) (hp I J F G X) = some (v, hp I J F G X)) : okI mx mm as I J F G X := okI_mk e1 e2 hR hS
theorem okI_find {mx mm : Nat} {as : List Value} {I : Nat → Int32} {J : Nat → Int64} {F : Nat → Nat → Int32} {G : Nat → Int64} {X : Nat → va_E} {np : Nat} {kd pt pr : Nat → Nat} {ds : List Nat} {ks : Nat → Option (List Nat)} (f : Nat) (hf : f < 6) (hR : RelA np kd pt pr ds ks I J F) (hS : ShX X) (e1 : cI (rn 60) mx (.ref 1 :: as) (hp I J F G X) = some (-3, hp (upd I 1 (nI f)) J (upF F 141 (upd (F 141) f (F 141 f + 1))) G X)) (e2 : cI (rn 60) mm (.ref 168 :: as) (hp (upd I 1 (nI f)) J (upF F 141 (upd (F 141) f (F 141 f + 1))) G X) = some (-3, hp (upd (upd I 1 (nI f)) 170 (nI f)) J (upF (upF F 141 (upd (F 141) f (F 141 f + 1))) 177 (upd (F 177) f (F 177 f + 1))) G X)) : okI mx mm as I J F G X := okI_mk e1 e2 (rel_find hf hR) hS
section RW
variable {I : Nat → Int32} {J : Nat → Int64} {F : Nat → Nat → Int32} {G : Nat → Int64} {X : Nat → va_E}
theorem begin_x {d r n : Nat} (hr : r < 6) (hn : n ≤ 40) : cV (rn (d + 2)) 61 [.ref (142 + 2 * r), .int (nI n)] (hp I J F G X) = some (hp (upd I (142 + 2 * r) (nI n)) J (upF F (143 + 2 * r) (fun k => if k < 40 then 0 else F (143 + 2 * r) k)) G X) := by
  unfold cV
  rw [rX6_beginWith, xX6_beginWith_0, nat0, Option.bind_some, if_neg (show ¬ (40 : Int32) < nI n from fun z => by have := (nI_ltI (a := 40) (by decide) (by omega)).mp z; omega), x_rowpN hr, Option.bind_some, x_rowF hr, Option.bind_some, fill_x (by decide) (k_rowA hr), Option.bind_some, x_rowsA hr]
theorem make_loop {d r : Nat} (hr : r < 6) (v2 : Int32) {f : Nat → Int32} : ∀ (m i : Nat) (F : Nat → Nat → Int32), 40 - i = m → i ≤ 40 → F 174 = (fun j => if 40 * r ≤ j ∧ j < 40 * r + i then 0 else f j) → ex cdX10_makeRow (rn d) 9 [.ref 168, .int (nI r), .int v2, .int (nI i)] [] (hp I J F G X) = some (none, hp I J (upF F 174 (fun j => if 40 * r ≤ j ∧ j < 40 * r + 40 then 0 else f j)) G X) := by
  intro m
  induction m with
  | zero =>
    intro i F h1 h2 h0
    have : i = 40 := by omega
    subst this
    rw [xX10_makeRow_9, if_pos (by decide), ← h0]
    congr 3
    funext j
    by_cases z : j = 174
    · subst z; rw [upF_eq]
    · rw [upF_ne z]
  | succ m ih =>
    intro i F h1 h2 h0
    rw [xX10_makeRow_9, if_neg (show ¬ (40 : Int32) ≤ nI i from nI_ge (b := 40) (by omega) (by decide)), y_f6, Option.bind_some, show (40 : Int32) * nI r = nI (40 * r) from pk_mul 40 r, nI_add, y_s174 (by omega), Option.bind_some, nI_1, ih (i + 1) _ (by omega) (by omega) ?_]
    · congr 3
      funext j
      by_cases z : j = 174
      · subst z; rw [upF_eq, upF_eq]
      · rw [upF_ne z, upF_ne z, upF_ne z]
    · rw [upF_eq, h0]
      funext j
      by_cases z : j = 40 * r + i
      · subst z; rw [upd_eq, if_pos (by omega)]
      · rw [upd_ne z]
        by_cases z2 : 40 * r ≤ j ∧ j < 40 * r + i
        · rw [if_pos z2, if_pos (by omega)]
        · rw [if_neg z2, if_neg (by omega)]
theorem make_y {d r : Nat} {v : Int32} (hr : r < 6) : cV (rn (d + 1)) 155 [.ref 168, .int (nI r), .int v] (hp I J F G X) = some (hp I J (upF (upF F 173 (upd (F 173) r v)) 174 (fun j => if 40 * r ≤ j ∧ j < 40 * r + 40 then 0 else F 174 j)) G X) := by
  unfold cV
  have := make_loop (d := d) (I := I) (J := J) (G := G) (X := X) hr v (f := F 174) 40 0 (upF F 173 (upd (F 173) r v)) rfl (by omega) (by
    rw [upF_ne (by decide)]
    funext j
    rw [if_neg (by omega)])
  rw [nI_0] at this
  rw [rX10_makeRow, xX10_makeRow_0, y_f5, Option.bind_some, y_s173 hr, Option.bind_some, this]
end RW
section RR
variable {I : Nat → Int32} {J : Nat → Int64} {F : Nat → Nat → Int32} {G : Nat → Int64} {X : Nat → va_E} {np : Nat} {kd pt pr : Nat → Nat} {ds : List Nat} {ks : Nat → Option (List Nat)} {I' : Nat → Int32} {F' : Nat → Nat → Int32}
theorem rel_row {r : Nat} {s : Int32} {g : Nat → Int32} (hr : r < 6) (hs : s = -1 ∨ ∃ n, n ≤ 40 ∧ s = nI n) (h : RelA np kd pt pr ds ks I J F) (a : ∀ k, k ≠ 142 + 2 * r → I' k = I k) (a2 : I' (142 + 2 * r) = s) (b : ∀ k, k ≠ 143 + 2 * r → k ≠ 173 → k ≠ 174 → F' k = F k) (b2 : F' (143 + 2 * r) = g) (b3 : ∀ j, j ≠ r → F' 173 j = F 173 j) (b4 : F' 173 r = s) (b5 : ∀ k, k < 40 → F' 174 (40 * r + k) = g k) (b6 : ∀ j, (j < 40 * r ∨ 40 * r + 40 ≤ j) → F' 174 j = F 174 j) : RelA np kd pt pr ds ks I' J F' := by
  obtain ⟨h1, h2, h3, h4, h5, h6, h7⟩ := h
  refine ⟨rMain_c h1 (fun k hk => a k (by omega)) (fun _ _ => rfl), rFnd_c h2 (fun k hk => b k (by omega) (by omega) (by omega)), ?_, rTxts_c h4 (fun k k1 k2 => a k (by omega)) (fun k hk => b k (by omega) (by omega) (by omega)), rCrowd_c h5 (fun k hk => a k (by omega)) (fun k hk => b k (by omega) (by omega) (by omega)), rLine_c h5.2.2.1 h6 (fun k hk => a k (by omega)) (fun k hk => b k (by omega) (by omega) (by omega)) (fun k _ => by rw [b 169 (by omega) (by omega) (by omega)]), rKept_c h5.2.2.1 h7 (fun k k1 k2 => a k (by omega)) (fun k k1 k2 => b k (by omega) (by omega) (by omega)) (fun k _ _ => by rw [b 169 (by omega) (by omega) (by omega)])⟩
  intro j hj
  by_cases e : j = r
  · subst e
    rw [a2, b4, b2]
    exact ⟨rfl, hs, b5⟩
  · obtain ⟨u1, u2, u3⟩ := h3 j hj
    rw [a _ (by omega), b3 j e, b (143 + 2 * j) (by omega) (by omega) (by omega)]
    refine ⟨u1, u2, fun k hk => ?_⟩
    rw [b6 _ (by omega)]
    exact u3 k hk
theorem g_row : gdI 79 154 2 := gdI_of (fun as hn I J F G X np kd pt pr ds ks hR hS => by
  obtain ⟨a, n, rfl⟩ := as2 hn
  show okI _ _ [.int a, .int n] I J F G X
  rcases ix a (n := 6) (by decide) with ha | ⟨r, hr, rfl⟩
  · refine okI_same (v := -1) hR hS ?_ ?_
    · unfold cI; rw [rX9_row, xX9_row_0, isRow_xn ha, Option.bind_some, if_pos rfl]
    · unfold cI; rw [rX10_row, xX10_row_0, isRow_yn ha, Option.bind_some, if_pos rfl]
  by_cases hn40 : n ≤ 40
  · by_cases hn0 : 0 ≤ n
    · obtain ⟨m, hm, rfl⟩ : ∃ m, m < 2 ^ 31 ∧ n = nI m := nI_of (Int32.not_lt.mpr hn0)
      have hm40 : m ≤ 40 := (nI_leI hm (by decide)).mp hn40
      apply okI_mk (v := nI m)
      · unfold cI; rw [rX9_row, xX9_row_0, isRow_x hr, Option.bind_some, if_neg (show ¬ (1 : Int32) = 0 by decide), if_pos hn40, if_pos hn0, x_f0, Option.bind_some, x_rowR hr, Option.bind_some, if_pos (x_rowI hr), begin_x hr hm40, Option.bind_some]
      · unfold cI; rw [rX10_row, xX10_row_0, isRow_y hr, Option.bind_some, if_neg (show ¬ (1 : Int32) = 0 by decide), if_pos hn40, if_pos hn0, if_pos y_is, make_y hr, Option.bind_some]
      · refine rel_row hr (Or.inr ⟨m, hm40, rfl⟩) hR (fun k hk => upd_ne hk) (upd_eq _ _ _) (fun k k1 k2 k3 => by rw [upF_ne k3, upF_ne k2, upF_ne k1]) (by rw [upF_ne (by omega), upF_ne (by omega), upF_eq]) (fun j hj => by rw [upF_ne (by decide), upF_eq, upd_ne hj, upF_ne (by omega)]) (by rw [upF_ne (by decide), upF_eq, upd_eq]) (fun k hk => ?_) (fun j hj => ?_)
        · rw [upF_eq, if_pos (by omega), if_pos hk]
        · rw [upF_eq, if_neg (by omega), upF_ne (by omega)]
      · exact hS
    · refine okI_find 5 (by decide) hR hS ?_ ?_
      · unfold cI; rw [rX9_row, xX9_row_0, isRow_x hr, Option.bind_some, if_neg (show ¬ (1 : Int32) = 0 by decide), if_pos hn40, if_neg hn0, if_pos x_is, show (5 : Int32) = nI 5 from rfl, find_x (by decide), Option.bind_some]
      · unfold cI; rw [rX10_row, xX10_row_0, isRow_y hr, Option.bind_some, if_neg (show ¬ (1 : Int32) = 0 by decide), if_pos hn40, if_neg hn0, if_pos y_is, show (5 : Int32) = nI 5 from rfl, find_y (by decide), Option.bind_some, upF_ne (by decide)]
  · refine okI_same (v := -1) hR hS ?_ ?_
    · unfold cI; rw [rX9_row, xX9_row_0, isRow_x hr, Option.bind_some, if_neg (show ¬ (1 : Int32) = 0 by decide), if_neg hn40]
    · unfold cI; rw [rX10_row, xX10_row_0, isRow_y hr, Option.bind_some, if_neg (show ¬ (1 : Int32) = 0 by decide), if_neg hn40])
end RR
