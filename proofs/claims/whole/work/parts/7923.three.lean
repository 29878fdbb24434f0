/-! push, pair, cheap: both -/
theorem tn_x {d n : Nat} {h : mH} (h1 : 1 ≤ n) (h7 : n ≤ 7) : cI (rn (d + 1)) 126 [.int (nI n)] h = some (1, h) := by
  refine cIo ?_
  rw [rX9_isTradeNights, xX9_isTradeNights_0, if_neg (nI_l1 h1 (by omega)), if_neg (show ¬ (7 : Int32) < nI n from fun z => by have := (nI_ltI (a := 7) (by decide) (by omega)).mp z; omega)]
theorem tn_xn {d : Nat} {a : Int32} {h : mH} (hb : bad1 a 7) : cI (rn (d + 1)) 126 [.int a] h = some (0, h) := by
  refine cIo ?_
  rw [rX9_isTradeNights, xX9_isTradeNights_0]
  by_cases z : a < 1
  · rw [if_pos z]
  · rcases hb with e | e
    · exact absurd e z
    · rw [if_neg z, if_pos (show (7 : Int32) < a from e)]
theorem row90 {I : Nat → Int32} {J : Nat → Int64} {F : Nat → Nat → Int32} {G : Nat → Int64} {X : Nat → va_E} {d t r : Nat} {i n : Int32} {f : Nat → Int32} {vc : Value} {a b c e : Int32} (hr : r < 6) (ht : t ≤ 3) (h70 : X 70 = srO vc a b c e) (h76 : X 76 = ar 3 f) : ∀ (q k : Nat) (F : Nat → Nat → Int32), t - k = q → k ≤ t → ∃ g, ex cdX9_push (rn d) 90 [.ref 1, .int i, .int n, .int (nI r), .int (nI t), .ref (142 + 2 * r), .int (nI k)] [] (hp I J F G X) = some (some (.int (nI t)), hp I J (upF F (143 + 2 * r) g) G X) ∧ ∀ j, g j = if k ≤ j ∧ j < t then f j else F (143 + 2 * r) j := by
  intro q
  induction q with
  | zero =>
    intro k F h1 h2
    have : k = t := by omega
    subst this
    refine ⟨F (143 + 2 * r), ?_, fun j => by rw [if_neg (by omega)]⟩
    rw [xX9_push_90, if_pos (nI_le (Nat.le_refl _) (by omega))]
    have : upF F (143 + 2 * r) (F (143 + 2 * r)) = F := by
      funext j
      by_cases z : j = 143 + 2 * r
      · subst z; rw [upF_eq]
      · rw [upF_ne z]
    rw [this]
  | succ q ih =>
    intro k F h1 h2
    obtain ⟨g, a1, a2⟩ := ih (k + 1) (upF F (143 + 2 * r) (upd (F (143 + 2 * r)) k (f k))) (by omega) (by omega)
    rw [upF_upF] at a1
    refine ⟨g, ?_, fun j => ?_⟩
    · rw [xX9_push_90, if_neg (nI_ge (by omega) (by omega)), x_rowF hr, Option.bind_some, x_f9, Option.bind_some, gRx (by decide) (by decide) h70 rfl, Option.bind_some, aIx (by decide) (by decide) h76 (by omega) (by decide), Option.bind_some, x_rows hr (by omega), Option.bind_some, nI_1]
      exact a1
    · rw [a2, upF_eq]
      by_cases e : j = k
      · subst e; rw [if_neg (by omega), upd_eq, if_pos (by omega)]
      · rw [upd_ne e]
        by_cases e2 : k + 1 ≤ j ∧ j < t
        · rw [if_pos e2, if_pos (by omega)]
        · rw [if_neg e2, if_neg (by omega)]
theorem g_cheap : gdI 106 221 2 := gdI_of (fun as hn I J F G X np kd pt pr ds ks hR hS => by
  obtain ⟨a, b, rfl⟩ := as2 hn
  show okI _ _ [.int a, .int b] I J F G X
  obtain ⟨hn7, h4, h168, hk, hk', hp', hp'', hA, hQ, hL⟩ := rel_ctx (G := G) (X := X) hR
  have hC := hR.2.2.2.2.1.2.2.2
  rcases ix a (n := np) (by omega) with ha | ⟨i, hi, rfl⟩
  · refine okI_same (v := -1) hR hS ?_ ?_
    · refine cIo ?_; rw [rX9_cheap, xX9_cheap_0, x_f2, Option.bind_some, if_pos x_ci, has_xn ha h4, Option.bind_some, if_pos rfl]
    · refine cIo ?_; rw [rX10_cheap, xX10_cheap_0, if_pos y_is, isP_yn hn7 ha h168, Option.bind_some, if_pos rfl]
  rcases ix1 b (n := 7) (by decide) with hb | ⟨n, hn1, hnn, rfl⟩
  · refine okI_same (v := -1) hR hS ?_ ?_
    · refine cIo ?_; rw [rX9_cheap, xX9_cheap_0, x_f2, Option.bind_some, if_pos x_ci, has_x hn7 hi h4, Option.bind_some, if_neg one_ne, tn_xn hb, Option.bind_some, if_pos rfl]
    · refine cIo ?_; rw [rX10_cheap, xX10_cheap_0, if_pos y_is, isP_y hn7 hi h168, Option.bind_some, if_neg one_ne, in_yn1 (x := 1) (y := 7) hb (by decide) (by decide), Option.bind_some, if_pos rfl]
  generalize hAe : rep np kd pt ds = A at hA hQ hL
  obtain ⟨X1, X2, f, a1, a2, a3, a4, a5, a6, a7, a8⟩ := sstart_x (d := 56) (J := J) (G := G) (nI i) (-2) hS.2.1 hnn hn7 hA hQ
  obtain ⟨X3, b1, b2, b3, b4, b5⟩ := lc_x (P := A.1.length - 1) (I := I) (J := J) (F := F) (G := G) (pr := pr) (show i < 7 by omega) hnn hn7 h4 hk hp' (fun i hi => ⟨(hC i hi).2.2.2.2.2.2.2.1, (hC i hi).2.2.2.2.2.2.2.2.2⟩) 3 0 58 X2 A 40 0 none rfl (by omega) rfl a4 a5 a7 hA (by omega) (by omega) (fun x hx => by cases hx)
  rw [show omin none (mnT (fun A => rcT kd pt i none n none A) pr (A.1.length - 1) 3 A 0) = mnT (fun A => rcT kd pt i none n none A) pr (A.1.length - 1) 3 A 0 from rfl] at b2
  rw [nI_0] at b1
  have hS3 : ShX X3 := ShX_T (f := f) hS (fun k hk => by rw [b5 k (by omega), a8 k hk]) b2 b3 (by rw [b5 76 (by omega)]; exact a6)
  obtain ⟨row, st, c, c1, c2⟩ := cheap_y (I := I) (J := J) (F := F) (G := G) (X := X3) (pr := pr) hi hn1 hnn hn7 h168 hk' hp'' (fun i hi => ⟨(hC i hi).2.2.2.2.2.2.2.2.1, (hC i hi).2.2.2.2.2.2.2.2.2⟩) hL hA (by omega)
  have lp : cI (rn 59) 74 [.ref 70] (hp I J F G X2) = some (oI (mnT (fun A => rcT kd pt i none n none A) pr (A.1.length - 1) 3 A 0), hp I J F G X3) := by
    refine cIo ?_
    rw [rX8_leastPrice, xX8_leastPrice_0, if_pos (isOx (by decide) (by decide) a4), b1, Option.bind_some, gIx (by decide) (by decide) b2 rfl, Option.bind_some]
  refine okI_mk (v := oI (mnT (fun A => rcT kd pt i none n none A) pr (A.1.length - 1) 3 A 0)) (I1 := I) (J1 := J) (F1 := F) (X1 := X3) (I2 := upd I 175 c) (J2 := J) (G2 := G) (F2 := tF F row st) ?_ c1 (rel_scr hR (fun k hk => upd_ne (by omega)) (fun k hk => tF_ne (by omega) (by omega)) (fun k hk => by rw [tF_169, c2 k hk])) hS3
  refine cIo ?_
  rw [rX9_cheap, xX9_cheap_0, x_f2, Option.bind_some, if_pos x_ci, has_x hn7 hi h4, Option.bind_some, if_neg one_ne, tn_x hn1 hnn, Option.bind_some, if_neg one_ne, x_f9, Option.bind_some, x_f2, Option.bind_some, x_f4, Option.bind_some, if_pos (by obtain ⟨⟨_, _, _, _, _, w1⟩, -⟩ := hS.2.1; exact isOx (by decide) (by decide) w1), a1, Option.bind_some, x_f9, Option.bind_some, if_pos a2, a3, Option.bind_some, x_f9, Option.bind_some, if_pos (isOx (by decide) (by decide) a4), lp, Option.bind_some])
theorem g_pair : gdI 105 220 3 := gdI_of (fun as hn I J F G X np kd pt pr ds ks hR hS => by
  obtain ⟨a, b, c, rfl⟩ := as3 hn
  show okI _ _ [.int a, .int b, .int c] I J F G X
  obtain ⟨hn7, h4, h168, hk, hk', hp', hp'', hA, hQ, hL⟩ := rel_ctx (G := G) (X := X) hR
  have hC := hR.2.2.2.2.1.2.2.2
  have no2 : ∀ d, cI (rn (d + 3)) 195 [.ref 168, .int a, .int b] (hp I J F G X) = some (0, (hp I J F G X)) → cI (rn (d + 4)) 220 [.ref 168, .int a, .int b, .int c] (hp I J F G X) = some (-1, (hp I J F G X)) := by
    intro d h2
    refine cIo ?_
    rw [rX10_pair, xX10_pair_0, if_pos y_is, h2, Option.bind_some, if_pos rfl]
  rcases ix a (n := np) (by omega) with ha | ⟨i, hi, rfl⟩
  · refine okI_same (v := -1) hR hS ?_ (no2 56 ?_)
    · refine cIo ?_; rw [rX9_pair, xX9_pair_0, x_f2, Option.bind_some, if_pos x_ci, has_xn ha h4, Option.bind_some, if_pos rfl]
    · refine cIo ?_; rw [rX10_areTwo, xX10_areTwo_0, if_pos y_is, isP_yn hn7 ha h168, Option.bind_some, if_pos rfl]
  rcases ix b (n := np) (by omega) with hb | ⟨j, hj, rfl⟩
  · refine okI_same (v := -1) hR hS ?_ (no2 56 ?_)
    · refine cIo ?_; rw [rX9_pair, xX9_pair_0, x_f2, Option.bind_some, if_pos x_ci, has_x hn7 hi h4, Option.bind_some, if_neg one_ne, x_f2, Option.bind_some, if_pos x_ci, has_xn hb h4, Option.bind_some, if_pos rfl]
    · refine cIo ?_; rw [rX10_areTwo, xX10_areTwo_0, if_pos y_is, isP_y hn7 hi h168, Option.bind_some, if_neg one_ne, if_pos y_is, isP_yn hn7 hb h168, Option.bind_some, if_pos rfl]
  by_cases hij : i = j
  · subst hij
    refine okI_same (v := -1) hR hS ?_ (no2 56 ?_)
    · refine cIo ?_; rw [rX9_pair, xX9_pair_0, x_f2, Option.bind_some, if_pos x_ci, has_x hn7 hi h4, Option.bind_some, if_neg one_ne, x_f2, Option.bind_some, if_pos x_ci, has_x hn7 hi h4, Option.bind_some, if_neg one_ne, if_pos rfl]
    · refine cIo ?_; rw [rX10_areTwo, xX10_areTwo_0, if_pos y_is, isP_y hn7 hi h168, Option.bind_some, if_neg one_ne, if_pos y_is, isP_y hn7 hi h168, Option.bind_some, if_neg one_ne, if_pos rfl]
  have hnij : ¬ nI i = nI j := fun z => hij ((nI_inj (by omega) (by omega)).mp z)
  rcases ix1 c (n := 7) (by decide) with hc | ⟨n, hn1, hnn, rfl⟩
  · have h2 : ∀ d, cI (rn (d + 3)) 195 [.ref 168, .int (nI i), .int (nI j)] (hp I J F G X) = some (1, (hp I J F G X)) := by
      intro d
      refine cIo ?_
      rw [rX10_areTwo, xX10_areTwo_0, if_pos y_is, isP_y hn7 hi h168, Option.bind_some, if_neg one_ne, if_pos y_is, isP_y hn7 hj h168, Option.bind_some, if_neg one_ne, if_neg hnij]
    refine okI_same (v := -1) hR hS ?_ ?_
    · refine cIo ?_; rw [rX9_pair, xX9_pair_0, x_f2, Option.bind_some, if_pos x_ci, has_x hn7 hi h4, Option.bind_some, if_neg one_ne, x_f2, Option.bind_some, if_pos x_ci, has_x hn7 hj h4, Option.bind_some, if_neg one_ne, if_neg hnij, tn_xn hc, Option.bind_some, if_pos rfl]
    · refine cIo ?_; rw [rX10_pair, xX10_pair_0, if_pos y_is, h2 56, Option.bind_some, if_neg one_ne, in_yn1 (x := 1) (y := 7) hc (by decide) (by decide), Option.bind_some, if_pos rfl]
  generalize hAe : rep np kd pt ds = A at hA hQ hL
  obtain ⟨X1, X2, f, a1, a2, a3, a4, a5, a6, a7, a8⟩ := sstart_x (d := 56) (J := J) (G := G) (nI i) (nI j) hS.2.1 hnn hn7 hA hQ
  obtain ⟨X3, f3, b1, b2, b3, b4, b5⟩ := few_x (D := 59) (P := A.1.length - 1) (I := I) (J := J) (F := F) (G := G) (X := X2) (jo := some j) (e := -9) (by omega) (show i < 7 by omega) (fun k hk => by cases hk; omega) hnn hn7 h4 hk hp' rfl a4 a5 a6 a7 hA (by omega)
  have hS3 : ShX X3 := ShX_T (f := f3) hS (fun k hk => by rw [b4 k (by omega), a8 k hk]) (by rw [b4 70 (by omega)]; exact a4) b2 b3
  obtain ⟨row, st, c, c1, c2⟩ := pair_y (I := I) (J := J) (F := F) (G := G) (X := X3) (pr := pr) hi hj hij hn1 hnn hn7 h168 hk' hp'' (fun i hi => ⟨(hC i hi).2.2.2.2.2.2.2.2.1, (hC i hi).2.2.2.2.2.2.2.2.2⟩) hL hA (by omega)
  refine okI_mk (v := oI (fwT (fun A => rcT kd pt i (some j) n none A) (A.1.length - 1) A)) (I1 := I) (J1 := J) (F1 := F) (X1 := X3) (I2 := upd I 175 c) (J2 := J) (G2 := G) (F2 := tF F row st) ?_ c1 (rel_scr hR (fun k hk => upd_ne (by omega)) (fun k hk => tF_ne (by omega) (by omega)) (fun k hk => by rw [tF_169, c2 k hk])) hS3
  refine cIo ?_
  rw [rX9_pair, xX9_pair_0, x_f2, Option.bind_some, if_pos x_ci, has_x hn7 hi h4, Option.bind_some, if_neg one_ne, x_f2, Option.bind_some, if_pos x_ci, has_x hn7 hj h4, Option.bind_some, if_neg one_ne, if_neg hnij, tn_x hn1 hnn, Option.bind_some, if_neg one_ne, x_f9, Option.bind_some, x_f2, Option.bind_some, x_f4, Option.bind_some, if_pos (by obtain ⟨⟨_, _, _, _, _, w1⟩, -⟩ := hS.2.1; exact isOx (by decide) (by decide) w1), a1, Option.bind_some, x_f9, Option.bind_some, if_pos a2, a3, Option.bind_some, x_f9, Option.bind_some, if_pos (isOx (by decide) (by decide) a4), b1, Option.bind_some])
theorem g_push : gdI 104 219 3 := gdI_of (fun as hn I J F G X np kd pt pr ds ks hR hS => by
  obtain ⟨a, b, c, rfl⟩ := as3 hn
  show okI _ _ [.int a, .int b, .int c] I J F G X
  obtain ⟨hn7, h4, h168, hk, hk', hp', hp'', hA, hQ, hL⟩ := rel_ctx (G := G) (X := X) hR
  have hC := hR.2.2.2.2.1.2.2.2
  rcases ix a (n := np) (by omega) with ha | ⟨i, hi, rfl⟩
  · refine okI_same (v := -1) hR hS ?_ ?_
    · refine cIo ?_; rw [rX9_push, xX9_push_0, x_f2, Option.bind_some, if_pos x_ci, has_xn ha h4, Option.bind_some, if_pos rfl]
    · refine cIo ?_; rw [rX10_push, xX10_push_0, if_pos y_is, isP_yn hn7 ha h168, Option.bind_some, if_pos rfl]
  rcases ix1 b (n := 7) (by decide) with hb | ⟨n, hn1, hnn, rfl⟩
  · refine okI_same (v := -1) hR hS ?_ ?_
    · refine cIo ?_; rw [rX9_push, xX9_push_0, x_f2, Option.bind_some, if_pos x_ci, has_x hn7 hi h4, Option.bind_some, if_neg one_ne, tn_xn hb, Option.bind_some, if_pos rfl]
    · refine cIo ?_; rw [rX10_push, xX10_push_0, if_pos y_is, isP_y hn7 hi h168, Option.bind_some, if_neg one_ne, in_yn1 (x := 1) (y := 7) hb (by decide) (by decide), Option.bind_some, if_pos rfl]
  rcases ix c (n := 6) (by decide) with hc | ⟨r, hr, rfl⟩
  · refine okI_same (v := -1) hR hS ?_ ?_
    · refine cIo ?_; rw [rX9_push, xX9_push_0, x_f2, Option.bind_some, if_pos x_ci, has_x hn7 hi h4, Option.bind_some, if_neg one_ne, tn_x hn1 hnn, Option.bind_some, if_neg one_ne, isRow_xn hc, Option.bind_some, if_pos rfl]
    · refine cIo ?_; rw [rX10_push, xX10_push_0, if_pos y_is, isP_y hn7 hi h168, Option.bind_some, if_neg one_ne, in_y1 (x := 1) (y := 7) (n := 7) (by decide) hn1 hnn (by decide) (by decide), Option.bind_some, if_neg one_ne, isRow_yn hc, Option.bind_some, if_pos rfl]
  generalize hAe : rep np kd pt ds = A at hA hQ hL
  obtain ⟨X1, X2, f, a1, a2, a3, a4, a5, a6, a7, a8⟩ := sstart_x (d := 56) (J := J) (G := G) (nI i) (-2) hS.2.1 hnn hn7 hA hQ
  obtain ⟨X3, f3, b1, b2, b3, b4, b5⟩ := few_x (D := 59) (P := A.1.length - 1) (I := I) (J := J) (F := F) (G := G) (X := X2) (jo := none) (e := -9) (by omega) (show i < 7 by omega) (fun k hk => by cases hk) hnn hn7 h4 hk hp' rfl a4 a5 a6 a7 hA (by omega)
  have h70 : X3 70 = srO (.ref 4) (nI n) (nI i) (-2) (-9) := by rw [b4 70 (by omega)]; exact a4
  have hS3 : ShX X3 := ShX_T (f := f3) hS (fun k hk => by rw [b4 k (by omega), a8 k hk]) h70 b2 b3
  have xstart : ∀ R : mR, (if oI (fwT (fun A => rcT kd pt i none n none A) (A.1.length - 1) A) = (-9) then (some (some (.int (-9)), hp I J F G X3)) else ((gR (hp I J F G X3) 1 9 0).bind fun q13 => (aR 4 (hp I J F G X3) q13 (nI r)).bind fun q14 => if isO (hp I J F G X3) q14 6 = true then ((cV (rn 59) 61 [.ref q14, .int (oI (fwT (fun A => rcT kd pt i none n none A) (A.1.length - 1) A))] (hp I J F G X3)).bind fun h15 => ex cdX9_push (rn 59) 90 [.ref 1, .int (nI i), .int (nI n), .int (nI r), .int (oI (fwT (fun A => rcT kd pt i none n none A) (A.1.length - 1) A)), .ref q14, .int 0] [] h15) else none)) = R → rn 60 104 [.ref 1, .int (nI i), .int (nI n), .int (nI r)] (hp I J F G X) = R := by
    intro R hR
    rw [rX9_push, xX9_push_0, x_f2, Option.bind_some, if_pos x_ci, has_x hn7 hi h4, Option.bind_some, if_neg one_ne, tn_x hn1 hnn, Option.bind_some, if_neg one_ne, isRow_x hr, Option.bind_some, if_neg one_ne, x_f9, Option.bind_some, x_f2, Option.bind_some, x_f4, Option.bind_some, if_pos (by obtain ⟨⟨_, _, _, _, _, w1⟩, -⟩ := hS.2.1; exact isOx (by decide) (by decide) w1), a1, Option.bind_some, x_f9, Option.bind_some, if_pos a2, a3, Option.bind_some, x_f9, Option.bind_some, if_pos (isOx (by decide) (by decide) a4), b1, Option.bind_some]
    exact hR
  cases hz : fwT (fun A => rcT kd pt i none n none A) (A.1.length - 1) A with
  | none =>
    rw [hz] at xstart
    obtain ⟨row, st, c, c1, c2⟩ := (push_y (I := I) (J := J) (F := F) (G := G) (X := X3) (pr := pr) hi hn1 hnn hr hn7 h168 hk' hp'' (fun i hi => ⟨(hC i hi).2.2.2.2.2.2.2.2.1, (hC i hi).2.2.2.2.2.2.2.2.2⟩) hL hA (by omega)).1 hz
    refine okI_mk (v := -9) (I1 := I) (J1 := J) (F1 := F) (X1 := X3) (I2 := upd I 175 c) (J2 := J) (G2 := G) (F2 := tF F row st) (cIo (xstart _ ?_)) c1 (rel_scr hR (fun k hk => upd_ne (by omega)) (fun k hk => tF_ne (by omega) (by omega)) (fun k hk => by rw [tF_169, c2 k hk])) hS3
    rw [if_pos oI_none]
  | some t =>
    rw [hz] at xstart
    have ht4 : t < 4 := Sx_lt 4 (fun v hv y hy => by
        by_cases e : (fsT (fun A => rcT kd pt i none n none A) (A.1.length - 1) v A).isSome = true
        · rw [if_pos e] at hy; cases hy; exact hv
        · rw [if_neg e] at hy; cases hy) hz
    obtain ⟨w, hw⟩ : ∃ w, fsT (fun A => rcT kd pt i none n none A) (A.1.length - 1) t A = some w := by
      have : ∀ N, Sx (fun t => if (fsT (fun A => rcT kd pt i none n none A) (A.1.length - 1) t A).isSome = true then some t else none) N = some t → (fsT (fun A => rcT kd pt i none n none A) (A.1.length - 1) t A).isSome = true := by
        intro N
        induction N with
        | zero => intro h; cases h
        | succ N ihN =>
          intro h
          have h' : orO (Sx (fun t => if (fsT (fun A => rcT kd pt i none n none A) (A.1.length - 1) t A).isSome = true then some t else none) N) (if (fsT (fun A => rcT kd pt i none n none A) (A.1.length - 1) N A).isSome = true then some N else none) = some t := h
          cases e : Sx (fun t => if (fsT (fun A => rcT kd pt i none n none A) (A.1.length - 1) t A).isSome = true then some t else none) N with
          | some y => rw [e] at h'; exact ihN (e.trans h')
          | none =>
            rw [e] at h'
            by_cases z : (fsT (fun A => rcT kd pt i none n none A) (A.1.length - 1) N A).isSome = true
            · rw [if_pos z] at h'; cases h'; exact z
            · rw [if_neg z] at h'; cases h'
      exact Option.isSome_iff_exists.mp (this 4 hz)
    have hdig := b5 t w hz hw
    obtain ⟨gx, d1, d2⟩ := row90 (I := upd I (142 + 2 * r) (nI t)) (J := J) (F := F) (G := G) (X := X3) (d := 59) (t := t) (r := r) (i := nI i) (n := nI n) hr (by omega) h70 b3 t 0 (upF F (143 + 2 * r) (fun k => if k < 40 then 0 else F (143 + 2 * r) k)) (by omega) (by omega)
    rw [upF_upF, nI_0] at d1
    simp only [upF_eq] at d2
    obtain ⟨row, st, c, ff, c1, c2, c3, c4⟩ := (push_y (I := upd I (142 + 2 * r) (nI t)) (J := J) (F := upF F (143 + 2 * r) gx) (G := G) (X := X3) (np := np) (kd := kd) (pt := pt) (pr := pr) (A := A) (mm := 40) hi hn1 hnn hr hn7 (by rw [upd_ne (by omega)]; exact h168) (by rw [upF_ne (by omega)]; exact hk') (by rw [upF_ne (by omega)]; exact hp'') (fun i hi => by rw [upF_ne (by omega)]; exact ⟨(hC i hi).2.2.2.2.2.2.2.2.1, (hC i hi).2.2.2.2.2.2.2.2.2⟩) (by rw [upF_ne (by omega)]; exact hL) hA (by omega)).2 t w hz hw
    rw [upF_ne (show 173 ≠ 143 + 2 * r by omega)] at c1
    have hrel : RelA np kd pt pr ds ks (upd I (142 + 2 * r) (nI t)) J (upF (upF (upF F (143 + 2 * r) gx) 173 (upd (F 173) r (nI t))) 174 ff) := by
      refine rel_row hr (Or.inr ⟨t, by omega, rfl⟩) hR (fun k hk => upd_ne hk) (upd_eq _ _ _) (fun k k1 k2 k3 => by rw [upF_ne k3, upF_ne k2, upF_ne k1]) (by rw [upF_ne (by omega), upF_ne (by omega), upF_eq]) (fun j hj => by rw [upF_ne (by decide), upF_eq, upd_ne hj]) (by rw [upF_ne (by decide), upF_eq, upd_eq]) (fun k hk => ?_) (fun j hj => ?_)
      · rw [upF_eq, c3 k hk, d2 k]
        by_cases e : k < t
        · rw [if_pos e, if_pos (by omega), hdig k e]
        · rw [if_neg e, if_neg (by omega), if_pos hk]
      · rw [upF_eq, c4 j hj, upF_ne (by omega)]
    refine okI_mk (v := nI t) (I1 := upd I (142 + 2 * r) (nI t)) (J1 := J) (F1 := upF F (143 + 2 * r) gx) (X1 := X3) (I2 := upd (upd I (142 + 2 * r) (nI t)) 175 c) (J2 := J) (G2 := G) (F2 := upF (upF (tF (upF F (143 + 2 * r) gx) row st) 173 (upd (F 173) r (nI t))) 174 ff) (cIo (xstart _ ?_)) c1 (rel_scr hrel (fun k hk => upd_ne (by omega)) (fun k hk => ?_) (fun k hk => ?_)) hS3
    · rw [if_neg (show ¬ oI (some t) = -9 from nI_ne9 (k := t) (by omega)), x_f0, Option.bind_some, x_rowR hr, Option.bind_some, if_pos (x_rowI hr), show oI (some t) = nI t from rfl, begin_x hr (by omega), Option.bind_some]
      exact d1
    · by_cases e1 : k = 174
      · subst e1; rw [upF_eq, upF_eq]
      · rw [upF_ne e1, upF_ne e1]
        by_cases e2 : k = 173
        · subst e2; rw [upF_eq, upF_eq]
        · rw [upF_ne e2, upF_ne e2, tF_ne (by omega) (by omega)]
    · rw [upF_ne (by decide), upF_ne (by decide), upF_ne (by decide), upF_ne (by decide), tF_169, c2 k hk])
