/-! deeds, the reference's side -/
def kpR (f : Nat → Int32) (D : Nat) : Nat → Int32 := upd (fun x => if 25 + 24 * D ≤ x ∧ x < 25 + 24 * D + 24 then f (x - (25 + 24 * D) + 1) else f x) 0 (nI (D + 1))
theorem kpR_0 (f : Nat → Int32) (D : Nat) : kpR f D 0 = nI (D + 1) := upd_eq _ _ _
theorem kpR_o {f : Nat → Int32} {D x : Nat} (h0 : x ≠ 0) (h : x < 25 + 24 * D ∨ 25 + 24 * D + 24 ≤ x) : kpR f D x = f x := by
  unfold kpR
  rw [upd_ne h0, if_neg (by omega)]
theorem kpR_i {f : Nat → Int32} {D k : Nat} (h1 : 1 ≤ k) (h2 : k ≤ 24) : kpR f D (24 + 24 * D + k) = f k := by
  unfold kpR
  rw [upd_ne (by omega), if_pos (by omega)]
  congr 1
  omega
theorem c25 (D k : Nat) : (25 : Int32) + 24 * nI D + nI k = nI (25 + 24 * D + k) := by
  rw [show (24 : Int32) * nI D = nI (24 * D) from pk_mul 24 D, show (25 : Int32) + nI (24 * D) = nI (25 + 24 * D) from nI_add 25 _, nI_add]
theorem c1p (k : Nat) : (1 : Int32) + nI k = nI (1 + k) := nI_add 1 k
section DY
variable {I : Nat → Int32} {J : Nat → Int64} {F : Nat → Nat → Int32} {G : Nat → Int64} {X : Nat → va_E} {np : Nat} {kd pt : Nat → Nat} {ds : List Nat}
theorem y_srow0 (x : Int32) : sI (hp I J F G X) 169 0 x = some (hp I J (upF F 169 (upd (F 169) 0 x)) G X) := y_s169 (k := 0) (by decide) x
theorem keepPast_loop {d D : Nat} {f : Nat → Int32} (hD : D < 40) (hf : f 0 = nI D) : ∀ (m k : Nat) (F : Nat → Nat → Int32), 24 - k = m → k ≤ 24 → F 169 = (fun x => if 25 + 24 * D ≤ x ∧ x < 25 + 24 * D + k then f (x - (25 + 24 * D) + 1) else f x) → ex cdX10_keepPast (rn d) 2 [.ref 168, .int (nI k)] [] (hp I J F G X) = some (none, hp I J (upF F 169 (kpR f D)) G X) := by
  intro m
  induction m with
  | zero =>
    intro k F e1 e2 h0
    have : k = 24 := by omega
    subst this
    have h00 : F 169 0 = nI D := by rw [h0]; dsimp only; rw [if_neg (by omega)]; exact hf
    rw [xX10_keepPast_2, if_pos (by decide), y_f0, Option.bind_some, y_row0, Option.bind_some, y_srow0, Option.bind_some, h00, nI_1, h0]
    rfl
  | succ m ih =>
    intro k F e1 e2 h0
    have h00 : F 169 0 = nI D := by rw [h0]; dsimp only; rw [if_neg (by omega)]; exact hf
    have h0k : F 169 (1 + k) = f (1 + k) := by rw [h0]; dsimp only; rw [if_neg (by omega)]
    rw [xX10_keepPast_2, if_neg (show ¬ (24 : Int32) ≤ nI k from nI_ge (b := 24) (by omega) (by decide)), y_f0, Option.bind_some, Option.bind_some, y_row0, Option.bind_some, Option.bind_some, h00, c25, c1p, y_g169 (by omega), Option.bind_some, h0k, y_s169 (by omega), Option.bind_some, nI_1, ih (k + 1) _ (by omega) (by omega) ?_]
    · congr 3
      funext y
      by_cases z : y = 169
      · subst z; rw [upF_eq, upF_eq]
      · rw [upF_ne z, upF_ne z, upF_ne z]
    · rw [upF_eq, h0]
      funext x
      by_cases z : x = 25 + 24 * D + k
      · subst z
        rw [upd_eq, if_pos (by omega)]
        congr 1
        omega
      · rw [upd_ne z]
        by_cases z2 : 25 + 24 * D ≤ x ∧ x < 25 + 24 * D + k
        · rw [if_pos z2, if_pos (by omega)]
        · rw [if_neg z2, if_neg (by omega)]
theorem keepPast_y {d D : Nat} {row st : Nat → Int32} (hD : D < 40) (hf : row 0 = nI D) : cV (rn (d + 1)) 193 [.ref 168] (hp I J (tF F row st) G X) = some (hp I J (tF F (kpR row D) st) G X) := by
  refine cVo ?_
  have := keepPast_loop (d := d) (I := I) (J := J) (G := G) (X := X) (f := row) hD hf 24 0 (tF F row st) rfl (by omega) (by
    rw [tF_169]
    funext x
    rw [if_neg (by omega)])
  rw [nI_0, tF_row] at this
  rw [rX10_keepPast, xX10_keepPast_0, this]
theorem seg_deed {f row : Nat → Int32} {c : Nat} (hn : np ≤ 7) (hS : SegRel f 0 np kd pt ds) (hd : okDs np kd pt ds) (hl : ds.length < 40) (h1 : ∀ x, (x < 1 ∨ 24 < x) → row x = kpR f ds.length x) (h2 : LineN row 0 np (rep np kd pt (ds ++ [c]))) : SegRel row 0 np kd pt (ds ++ [c]) := by
  obtain ⟨s1, s2, s3⟩ := hS
  refine ⟨by rw [h1 0 (by omega), kpR_0]; simp, h2, fun k hk => ?_⟩
  by_cases z : k < ds.length
  · rw [List.take_append_of_le_length (by omega)]
    exact LineN_c (lB_len hn (rep_lB hd k (by omega))) hn (s3 k z) (fun x x1 x2 => by rw [h1 x (by omega), kpR_o (by omega) (by omega)])
  · have z2 : k = ds.length := by simp at hk; omega
    subst z2
    rw [List.take_append_of_le_length (Nat.le_refl _), List.take_length]
    exact LineN_cp (lB_len hn (rep_lBf hd)) hn s2 (fun j j1 j2 => by rw [h1 _ (by omega), show 0 + 24 + 24 * ds.length + j = 24 + 24 * ds.length + j by omega, kpR_i j1 j2, Nat.zero_add])
theorem kp_line {f : Nat → Int32} {D : Nat} {A : LSt} (hl : A.1.length ≤ 7) (hn : np ≤ 7) (h : LineN f 0 np A) : LineN (kpR f D) 0 np A := LineN_c hl hn h (fun x x1 x2 => kpR_o (by omega) (by omega))
/-- a night of the reference -/
theorem night_y {d c : Nat} {row st : Nat → Int32} (hS : SegRel row 0 np kd pt ds) (hd : okDs np kd pt ds) (hl : ds.length < 40) (hn : np ≤ 7) (hk : kOK (F 170) kd np) (hp' : ∀ k, k < np → F 171 k = nI (pt k) ∧ pt k < 1000) (hc : c < 2) : ∃ row' st', cV (rn (d + 8)) 193 [.ref 168] (hp I J (tF F row st) G X) = some (hp I J (tF F (kpR row ds.length) st) G X) ∧ cI (rn (d + 8)) 184 [.ref 168, .int 0, .int (nI c)] (hp I J (tF F (kpR row ds.length) st) G X) = some (oI (passA kd pt (rep np kd pt ds) (c == 1)).1, hp I J (tF F row' st') G X) ∧ SegRel row' 0 np kd pt (ds ++ [c]) ∧ ∀ k, 985 ≤ k → row' k = row k := by
  have hA := rep_lBf hd
  obtain ⟨row', st', e1, e2, e3⟩ := pass_m (d := d + 8) (by omega) (b := 0) (F := tF F (kpR row ds.length) st) (I := I) (J := J) (G := G) (X := X) (np := np) (kd := kd) (pt := pt) (A := rep np kd pt ds) (m := ds.length) (by rw [tF_169]; exact kp_line (lB_len hn hA) hn hS.2.1) hn (by rw [tF_ne (by decide) (by decide)]; exact hk) (by rw [tF_ne (by decide) (by decide)]; exact hp') (by decide) hA (by omega) (c == 1)
  rw [tF_tF, nI_0, show bI (c == 1) = nI c by rcases c2 hc with rfl | rfl <;> rfl] at e1
  unfold RFr at e3
  rw [tF_169] at e3
  refine ⟨row', st', keepPast_y (d := d + 7) hl hS.1, e1, seg_deed hn hS hd hl (fun x hx => e3 x (by omega)) ?_, fun k hk => by rw [e3 k (by omega), kpR_o (by omega) (by omega)]⟩
  rw [rep_snoc]
  unfold doD
  rw [if_pos hc]
  exact e2
end DY
theorem bad_ne {a : Int32} {n k : Nat} (h : bad a n) (hk : k < n) (hn : n < 2 ^ 31) : ¬ a = nI k := by
  intro e
  subst e
  rcases h with h | h
  · exact nI_pos (by omega) h
  · exact nI_ge hk hn h
theorem bI_dt {p : Prop} {_ : Decidable p} (h : p) : bI (decide p) = 1 := by rw [decide_eq_true h]; rfl
theorem bI_df {p : Prop} {_ : Decidable p} (h : ¬ p) : bI (decide p) = 0 := by rw [decide_eq_false h]; rfl
theorem night_go {d c : Nat} {h : mH} (hc : c < 2) : ex cdX9_night (rn d) 0 [.ref 1, .int (nI c)] [] h = ex cdX9_night (rn d) 11 [.ref 1, .int (nI c)] [] h := by
  rw [xX9_night_0]
  rcases c2 hc with rfl | rfl
  · rw [if_pos (by decide)]
  · rw [if_neg (by decide), if_pos (by decide)]
theorem g_night : gdI 92 194 1 := gdI_of (fun as hn I J F G X np kd pt pr ds ks hR hS => by
  obtain ⟨a, rfl⟩ := as1 hn
  show okI _ _ [.int a] I J F G X
  obtain ⟨hn7, h4, h168, hk, hk', hp', hp'', hA, hQ, hL⟩ := rel_ctx (G := G) (X := X) hR
  obtain ⟨hD, -, hSg⟩ := hR.2.2.2.2.2.1
  have hD3 := hD.2.2.1
  have hr0 : F 169 0 = nI ds.length := hSg.1
  rcases ix a (n := 2) (by decide) with ha | ⟨c, hc, rfl⟩
  · refine okI_same (v := -1) hR hS ?_ ?_
    · refine cIo ?_; rw [rX9_night, xX9_night_0, if_neg (show ¬ a = 0 from bad_ne (k := 0) ha (by decide) (by decide)), if_neg (show ¬ a = 1 from bad_ne (k := 1) ha (by decide) (by decide))]
    · refine cIo ?_; rw [rX10_night, xX10_night_0, in_yn (x := 0) (y := 1) (n := 2) (by decide) ha (by decide) (by decide), Option.bind_some, if_pos rfl]
  have iny := fun (d : Nat) (h : mH) => in_y (d := d) (h := h) (x := 0) (y := 1) (n := 2) (by decide) hc rfl (by decide) (by decide)
  by_cases h0 : np = 0
  · subst h0
    refine okI_same (v := -4) hR hS ?_ ?_
    · refine cIo ?_; rw [rX9_night, night_go hc, xX9_night_11, x_f2, Option.bind_some, x_cn, Option.bind_some, h4, if_pos (by decide)]
    · refine cIo ?_; rw [rX10_night, xX10_night_0, iny, Option.bind_some, if_neg one_ne, y_ps, Option.bind_some, h168, if_pos (by decide)]
  have np0 : ¬ nI np = 0 := nI_ne0 (by omega) (by omega)
  by_cases hl : ds.length < 40
  · obtain ⟨I1, F1, e1, e2, e3, e4, e5⟩ := night_x (d := 50) (J := J) (G := G) (X := X) hD hQ hl hn7 h4 hk hp' hc
    obtain ⟨row', st', u1, u2, u3, u4⟩ := night_y (d := 51) (I := I1) (J := J) (F := F1) (G := G) (X := X) (row := F1 169) (st := F1 179) (by rw [e5 169 (by omega)]; exact hSg) hD.2.1 hl hn7 (by rw [e5 170 (by omega)]; exact hk') (by rw [e5 171 (by omega)]; exact hp'') hc
    rw [tF_same] at u1
    have hr1 : F1 169 0 = nI ds.length := by rw [e5 169 (by omega)]; exact hr0
    have h1681 : I1 168 = nI np := by rw [e4 168 (by omega)]; exact h168
    refine okI_mk (J2 := J) (G2 := G) (v := oI (passA kd pt (rep np kd pt ds) (c == 1)).1) (I1 := I1) (J1 := J) (F1 := F1) (X1 := X) (I2 := I1) (F2 := tF F1 row' st') ?_ ?_ (rel_line (ds' := ds ++ [c]) hR (fun k hk => e4 k (by omega)) (fun k hk => by rw [tF_ne (by omega) (by omega), e5 k (by omega)]) ⟨by rw [tF_ne (by decide) (by decide)]; exact e2, QN_c e3 (fun _ _ _ => rfl) (fun k k1 k2 => tF_ne (by omega) (by omega)), by rw [tF_169]; exact u3⟩ (fun k k1 k2 => by rw [tF_169, u4 k k1, e5 169 (by omega)])) hS
    · refine cIo ?_; rw [rX9_night, night_go hc, xX9_night_11, x_f2, Option.bind_some, x_cn, Option.bind_some, h4, if_neg np0, x_f6, Option.bind_some, if_pos x_di, show (1 : Int32) = nI 1 from rfl, room_x hD3 (by omega) (by decide), Option.bind_some, bI_dt (by omega), if_neg one_ne, if_pos x_is, e1, Option.bind_some]
    · refine cIo ?_; rw [rX10_night, xX10_night_0, iny, Option.bind_some, if_neg one_ne, y_ps, Option.bind_some, h1681, if_neg np0, y_f0, Option.bind_some, y_row0, Option.bind_some, hr1, if_neg (show ¬ nI ds.length = 40 from fun z => by have := (nI_inj (b := 40) (by omega) (by decide)).mp z; omega), if_pos y_is, u1, Option.bind_some, if_pos y_is, u2, Option.bind_some]
  · have hl40 : ds.length = 40 := by have := hD.1; omega
    refine okI_same (v := -2) hR hS ?_ ?_
    · refine cIo ?_; rw [rX9_night, night_go hc, xX9_night_11, x_f2, Option.bind_some, x_cn, Option.bind_some, h4, if_neg np0, x_f6, Option.bind_some, if_pos x_di, show (1 : Int32) = nI 1 from rfl, room_x hD3 (by omega) (by decide), Option.bind_some, bI_df (by omega), if_pos rfl]
    · refine cIo ?_; rw [rX10_night, xX10_night_0, iny, Option.bind_some, if_neg one_ne, y_ps, Option.bind_some, h168, if_neg np0, y_f0, Option.bind_some, y_row0, Option.bind_some, hr0, hl40, if_pos (by decide)])
/-! a trade -/
theorem trd (i j : Nat) : (2 : Int32) + nI i * 7 + nI j = nI (2 + i * 7 + j) := by
  rw [show nI i * (7 : Int32) = nI (i * 7) from pk_mul i 7, show (2 : Int32) + nI (i * 7) = nI (2 + i * 7) from nI_add 2 _, nI_add]
theorem areTwo_yn {I : Nat → Int32} {J : Nat → Int64} {F : Nat → Nat → Int32} {G : Nat → Int64} {X : Nat → va_E} {d np i j : Nat} (hn : np ≤ 7) (hi : i < np) (hj : j < np) (h : I 168 = nI np) : cI (rn (d + 3)) 195 [.ref 168, .int (nI i), .int (nI j)] (hp I J F G X) = some (bI (decide (i ≠ j)), (hp I J F G X)) := by
  refine cIo ?_
  rw [rX10_areTwo, xX10_areTwo_0, if_pos y_is, isP_y hn hi h, Option.bind_some, if_neg one_ne, if_pos y_is, isP_y hn hj h, Option.bind_some, if_neg one_ne]
  by_cases e : i = j
  · subst e
    rw [if_pos rfl, bI_df (by simp)]
  · rw [if_neg (fun z => e ((nI_inj (by omega) (by omega)).mp z)), bI_dt e]
theorem areTwo_y1 {I : Nat → Int32} {J : Nat → Int64} {F : Nat → Nat → Int32} {G : Nat → Int64} {X : Nat → va_E} {d np : Nat} {a b : Int32} (hn : np ≤ 7) (hi : bad a np) (h : I 168 = nI np) : cI (rn (d + 3)) 195 [.ref 168, .int a, .int b] (hp I J F G X) = some (0, (hp I J F G X)) := by
  refine cIo ?_
  rw [rX10_areTwo, xX10_areTwo_0, if_pos y_is, isP_yn hn hi h, Option.bind_some, if_pos rfl]
theorem areTwo_y2 {I : Nat → Int32} {J : Nat → Int64} {F : Nat → Nat → Int32} {G : Nat → Int64} {X : Nat → va_E} {d np i : Nat} {b : Int32} (hn : np ≤ 7) (hi : i < np) (hj : bad b np) (h : I 168 = nI np) : cI (rn (d + 3)) 195 [.ref 168, .int (nI i), .int b] (hp I J F G X) = some (0, (hp I J F G X)) := by
  refine cIo ?_
  rw [rX10_areTwo, xX10_areTwo_0, if_pos y_is, isP_y hn hi h, Option.bind_some, if_neg one_ne, if_pos y_is, isP_yn hn hj h, Option.bind_some, if_pos rfl]
theorem plc_none {L : List Nat} {x : Nat} (h : plc L x = none) : x ∉ L := by
  intro hx
  obtain ⟨j, hj, -⟩ := plc_mem hx
  rw [hj] at h
  cases h
theorem plc_some {L : List Nat} {x j : Nat} (h : plc L x = some j) : L[j]? = some x := by
  unfold plc at h
  obtain ⟨h1, h2, h3⟩ := List.findIdx?_eq_some_iff_getElem.mp h
  rw [List.getElem?_eq_getElem h1]
  simp at h2
  rw [h2]
theorem g_trade : gdI 93 196 2 := gdI_of (fun as hn I J F G X np kd pt pr ds ks hR hS => by
  obtain ⟨a, b, rfl⟩ := as2 hn
  show okI _ _ [.int a, .int b] I J F G X
  obtain ⟨hn7, h4, h168, hk, hk', hp', hp'', hA, hQ, hL⟩ := rel_ctx (G := G) (X := X) hR
  obtain ⟨hD, -, hSg⟩ := hR.2.2.2.2.2.1
  have hD3 := hD.2.2.1
  have hr0 : F 169 0 = nI ds.length := hSg.1
  rcases ix a (n := np) (by omega) with ha | ⟨i, hi, rfl⟩
  · refine okI_same (v := -1) hR hS ?_ ?_
    · refine cIo ?_; rw [rX9_trade, xX9_trade_0, x_f2, Option.bind_some, if_pos x_ci, has_xn ha h4, Option.bind_some, if_pos rfl]
    · refine cIo ?_; rw [rX10_trade, xX10_trade_0, if_pos y_is, areTwo_y1 hn7 ha h168, Option.bind_some, if_pos rfl]
  rcases ix b (n := np) (by omega) with hb | ⟨j, hj, rfl⟩
  · refine okI_same (v := -1) hR hS ?_ ?_
    · refine cIo ?_; rw [rX9_trade, xX9_trade_0, x_f2, Option.bind_some, if_pos x_ci, has_x hn7 hi h4, Option.bind_some, if_neg one_ne, x_f2, Option.bind_some, if_pos x_ci, has_xn hb h4, Option.bind_some, if_pos rfl]
    · refine cIo ?_; rw [rX10_trade, xX10_trade_0, if_pos y_is, areTwo_y2 hn7 hi hb h168, Option.bind_some, if_pos rfl]
  have at2 := fun d => areTwo_yn (d := d) (J := J) (F := F) (G := G) (X := X) hn7 hi hj h168
  by_cases hij : i = j
  · subst hij
    refine okI_same (v := -1) hR hS ?_ ?_
    · refine cIo ?_; rw [rX9_trade, xX9_trade_0, x_f2, Option.bind_some, if_pos x_ci, has_x hn7 hi h4, Option.bind_some, if_neg one_ne, x_f2, Option.bind_some, if_pos x_ci, has_x hn7 hi h4, Option.bind_some, if_neg one_ne, if_pos rfl]
    · refine cIo ?_; rw [rX10_trade, xX10_trade_0, if_pos y_is, at2, Option.bind_some, bI_df (by simp), if_pos rfl]
  have hne : ¬ nI i = nI j := fun z => hij ((nI_inj (by omega) (by omega)).mp z)
  generalize hAe : rep np kd pt ds = A at hA hQ hL
  obtain ⟨L, wt, wn, nt, gu⟩ := A
  have hl := lB_len hn7 hA
  dsimp only at hl
  have px := fun d x (hx : x < 7) => place_x (d := d) (J := J) (G := G) (X := X) (x := x) hQ hn7 hA hx
  have py := fun d x (hx : x < 7) => place_y (d := d) (I := I) (J := J) (G := G) (X := X) (b := 0) (x := x) (by decide) hL hn7 hA hx
  rw [nI_0] at py
  have pxi := fun d => px d i (by omega)
  have pxj := fun d => px d j (by omega)
  have pyi := fun d => py d i (by omega)
  have pyj := fun d => py d j (by omega)
  cases hpi : plc L i with
  | none =>
    rw [hpi] at pxi pyi
    refine okI_same (v := -4) hR hS ?_ ?_
    · refine cIo ?_; rw [rX9_trade, xX9_trade_0, x_f2, Option.bind_some, if_pos x_ci, has_x hn7 hi h4, Option.bind_some, if_neg one_ne, x_f2, Option.bind_some, if_pos x_ci, has_x hn7 hj h4, Option.bind_some, if_neg one_ne, if_neg hne, x_f4, Option.bind_some, if_pos x_qi, pxi, Option.bind_some, if_pos oI_none]
    · refine cIo ?_; rw [rX10_trade, xX10_trade_0, if_pos y_is, at2, Option.bind_some, bI_dt hij, if_neg one_ne, if_pos y_is, pyi, Option.bind_some, if_pos y_is, pyj, Option.bind_some, if_pos oI_none]
  | some a =>
  rw [hpi, oI_some] at pxi pyi
  have ha := plc_some hpi
  have ha1 := (List.getElem?_eq_some_iff.mp ha).1
  cases hpj : plc L j with
  | none =>
    rw [hpj] at pxj pyj
    refine okI_same (v := -4) hR hS ?_ ?_
    · refine cIo ?_; rw [rX9_trade, xX9_trade_0, x_f2, Option.bind_some, if_pos x_ci, has_x hn7 hi h4, Option.bind_some, if_neg one_ne, x_f2, Option.bind_some, if_pos x_ci, has_x hn7 hj h4, Option.bind_some, if_neg one_ne, if_neg hne, x_f4, Option.bind_some, if_pos x_qi, pxi, Option.bind_some, if_neg (nI_ne9 (by omega)), x_f4, Option.bind_some, if_pos x_qi, pxj, Option.bind_some, if_pos oI_none]
    · refine cIo ?_; rw [rX10_trade, xX10_trade_0, if_pos y_is, at2, Option.bind_some, bI_dt hij, if_neg one_ne, if_pos y_is, pyi, Option.bind_some, if_pos y_is, pyj, Option.bind_some, if_neg (nI_ne9 (by omega)), if_pos oI_none]
  | some b =>
  rw [hpj, oI_some] at pxj pyj
  have hb := plc_some hpj
  have hb1 := (List.getElem?_eq_some_iff.mp hb).1
  by_cases hfl : ds.length < 40
  · have ad := add_x (d := 58) (J := J) (F := F) (G := G) (X := X) (v := nI (2 + i * 7 + j)) hD3 hfl
    have hQ1 : QN (upd I 20 (nI (ds.length + 1))) (upF F 21 (upd (F 21) ds.length (nI (2 + i * 7 + j)))) 12 np (L, wt, wn, nt, gu) := QN_c hQ (fun k k1 k2 => upd_ne (by omega)) (fun k k1 k2 => upF_ne (by omega))
    have hokD : okD (rep np kd pt ds) (2 + i * 7 + j) := by
      rw [hAe]
      refine Or.inr ?_
      rw [show (2 + i * 7 + j - 2) / 7 = i by omega, show (2 + i * 7 + j - 2) % 7 = j by omega]
      exact ⟨List.mem_of_getElem? ha, List.mem_of_getElem? hb, hij⟩
    have hrep : rep np kd pt (ds ++ [2 + i * 7 + j]) = (swp L i j, wt, wn, nt, gu) := by
      rw [rep_snoc, hAe]
      unfold doD
      rw [if_neg (by omega), show (2 + i * 7 + j - 2) / 7 = i by omega, show (2 + i * 7 + j - 2) % 7 = j by omega]
    obtain ⟨I1, F1, g1, g2, g3, g4⟩ := swp_q (d := 57) (J := J) (G := G) (X := X) hQ1 hn7 hA (List.mem_of_getElem? ha) (List.mem_of_getElem? hb) hij
    have f169 : F1 169 = F 169 := by rw [g4 169 (by omega), upF_ne (by decide)]
    have h168' : I1 168 = nI np := by rw [g3 168 (by omega), upd_ne (by decide)]; exact h168
    have kp := keepPast_y (d := 58) (I := I1) (J := J) (F := F1) (G := G) (X := X) (row := F1 169) (st := F1 179) hfl (by rw [f169]; exact hr0)
    rw [tF_same] at kp
    have hQ2 : LineN (F1 169) 0 np (L, wt, wn, nt, gu) := by rw [f169]; exact hL
    have pyi := place_y (d := 58) (I := I1) (J := J) (F := F1) (G := G) (X := X) (b := 0) (x := i) (by decide) hQ2 hn7 hA (by omega)
    have pyj := place_y (d := 58) (I := I1) (J := J) (F := F1) (G := G) (X := X) (b := 0) (x := j) (by decide) hQ2 hn7 hA (by omega)
    rw [hpi, nI_0, oI_some] at pyi
    rw [hpj, nI_0, oI_some] at pyj
    refine okI_mk (J2 := J) (G2 := G) (v := 1) (I1 := I1) (J1 := J) (F1 := F1) (X1 := X) (I2 := I1) (F2 := tF F1 (upd (upd (kpR (F1 169) ds.length) (3 + a) (nI j)) (3 + b) (nI i)) (F1 179)) ?_ ?_ (rel_line (ds' := ds ++ [2 + i * 7 + j]) hR (fun k hk => by rw [g3 k (by omega), upd_ne (by omega)]) (fun k hk => by rw [tF_ne (by omega) (by omega), g4 k (by omega), upF_ne (by omega)]) ⟨?_, ?_, ?_⟩ (fun k k1 k2 => by rw [tF_169, upd_ne (by omega), upd_ne (by omega), kpR_o (by omega) (by omega), f169])) hS
    · refine cIo ?_; rw [rX9_trade, xX9_trade_0, x_f2, Option.bind_some, if_pos x_ci, has_x hn7 hi h4, Option.bind_some, if_neg one_ne, x_f2, Option.bind_some, if_pos x_ci, has_x hn7 hj h4, Option.bind_some, if_neg one_ne, if_neg hne, x_f4, Option.bind_some, if_pos x_qi, pxi, Option.bind_some, if_neg (nI_ne9 (by omega)), x_f4, Option.bind_some, if_pos x_qi, pxj, Option.bind_some, if_neg (nI_ne9 (by omega)), x_f6, Option.bind_some, if_pos x_di, cn_1, room_x hD3 (by omega) (by decide), Option.bind_some, bI_dt (by omega), if_neg one_ne, x_f6, Option.bind_some, if_pos x_di, trd, ad, Option.bind_some, x_f4, Option.bind_some, if_pos x_qi, g1, Option.bind_some]
    · refine cIo ?_; rw [rX10_trade, xX10_trade_0, if_pos y_is, areTwo_yn hn7 hi hj h168', Option.bind_some, bI_dt hij, if_neg one_ne, if_pos y_is, pyi, Option.bind_some, if_pos y_is, pyj, Option.bind_some, if_neg (nI_ne9 (by omega)), if_neg (nI_ne9 (by omega)), y_f0, Option.bind_some, y_row0, Option.bind_some, f169, hr0, if_neg (show ¬ nI ds.length = 40 from fun z => by have := (nI_inj (b := 40) (by omega) (by decide)).mp z; omega), if_pos y_is]
      rw [f169] at kp
      rw [kp, Option.bind_some, y_f0, Option.bind_some]
      dsimp only
      rw [c3', y_s169 (by omega), Option.bind_some, y_f0, Option.bind_some, c3', y_s169 (by omega), Option.bind_some, tF_169, tF_row, tF_169, tF_row]
    · rw [tF_ne (by decide) (by decide), g3 20 (by omega), g4 21 (by omega), upd_eq, upF_eq]
      exact rDs_snoc hD hfl hokD
    · rw [hrep]
      exact QN_c g2 (fun _ _ _ => rfl) (fun k k1 k2 => tF_ne (by omega) (by omega))
    · rw [tF_169]
      refine seg_deed (f := F 169) hn7 hSg hD.2.1 hfl (fun x hx => by rw [upd_ne (by omega), upd_ne (by omega), f169]) ?_
      rw [hrep]
      have hkp := kp_line (D := ds.length) hl hn7 hL
      obtain ⟨l1, l2, l3, l4, l5, l6⟩ := hkp
      dsimp only at l1 l2 l3 l4 l5 l6
      rw [f169]
      refine ⟨by rw [upd_ne (by omega), upd_ne (by omega)]; exact l1, ?_, fun k x hk => ?_, fun k hk => by rw [upd_ne (by omega), upd_ne (by omega)]; exact l4 k hk, fun k hk => by rw [upd_ne (by omega), upd_ne (by omega)]; exact l5 k hk, by rw [upd_ne (by omega), upd_ne (by omega)]; exact l6⟩
      · rw [upd_ne (by omega), upd_ne (by omega), l2]
        show nI L.length = nI (swp L i j).length
        rw [swp_len]
      · rcases swp_at hA.1 ha hb hij hk with ⟨rfl, rfl⟩ | ⟨rfl, h2, rfl⟩ | ⟨h1, h2, h3⟩
        · rw [show 0 + 3 + k = 3 + k by omega, upd_eq]
        · rw [upd_ne (by omega), show 0 + 3 + k = 3 + k by omega, upd_eq]
        · rw [upd_ne (by omega), upd_ne (by omega)]; exact l3 k x h3
  · have hl40 : ds.length = 40 := by have := hD.1; omega
    refine okI_same (v := -2) hR hS ?_ ?_
    · refine cIo ?_; rw [rX9_trade, xX9_trade_0, x_f2, Option.bind_some, if_pos x_ci, has_x hn7 hi h4, Option.bind_some, if_neg one_ne, x_f2, Option.bind_some, if_pos x_ci, has_x hn7 hj h4, Option.bind_some, if_neg one_ne, if_neg hne, x_f4, Option.bind_some, if_pos x_qi, pxi, Option.bind_some, if_neg (nI_ne9 (by omega)), x_f4, Option.bind_some, if_pos x_qi, pxj, Option.bind_some, if_neg (nI_ne9 (by omega)), x_f6, Option.bind_some, if_pos x_di, cn_1, room_x hD3 (by omega) (by decide), Option.bind_some, bI_df (by omega), if_pos rfl]
    · refine cIo ?_; rw [rX10_trade, xX10_trade_0, if_pos y_is, at2, Option.bind_some, bI_dt hij, if_neg one_ne, if_pos y_is, pyi, Option.bind_some, if_pos y_is, pyj, Option.bind_some, if_neg (nI_ne9 (by omega)), if_neg (nI_ne9 (by omega)), y_f0, Option.bind_some, y_row0, Option.bind_some, hr0, hl40, if_pos (by decide)])
