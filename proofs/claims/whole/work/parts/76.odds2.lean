/-! soonest, rows, odds, mid: both -/
section WB
variable {I : Nat → Int32} {J : Nat → Int64} {F : Nat → Nat → Int32} {G : Nat → Int64} {X : Nat → va_E} {np : Nat} {kd pt : Nat → Nat}
theorem pFy {k ci j : Nat} {fs : List Value} {v : Value} (h1 : 23 ≤ k) (h2 : k < 140) (h0 : X k = .inr (ci, fs)) (h : j < fs.length) : ∃ X', pF (hp I J F G X) k ci j v = some (hp I J F G X') ∧ X' k = .inr (ci, fs.set j v) ∧ ∀ i, i ≠ k → X' i = X i := ⟨_, pFx h1 h2 h0 h, if_pos rfl, fun _ hi => if_neg hi⟩
theorem WT_ne {X' : Nat → va_E} (h : WT X) (hf : ∀ i, i ≠ 23 → i ≠ 25 → X' i = X i) : WT X' := by
  obtain ⟨⟨f, a, b⟩, c⟩ := h
  refine ⟨⟨f, by rw [hf 24 (by decide) (by decide)]; exact a, b⟩, fun k hk => ?_⟩
  obtain ⟨o, w, g, s, n, u, e0, e1, e2, e3⟩ := c k hk
  exact ⟨o, w, g, s, n, u, by rw [hf _ (by omega) (by omega)]; exact e0, by rw [hf _ (by omega) (by omega)]; exact e1, by rw [hf _ (by omega) (by omega)]; exact e2, by rw [hf _ (by omega) (by omega)]; exact e3⟩
theorem wbegin_x {d n mm : Nat} {A : LSt} (hS : ShW X) (hn10 : n ≤ 10) (hn : np ≤ 7) (hA : lB np mm A) (hQ : QN I F 12 np A) : ∃ X' vg aw cw yw cb sn ft, cV (rn (d + 3)) 30 [.ref 23, .ref 4, .ref 12, .int (nI n)] (hp I J F G X) = some (hp I J F G X') ∧ X' 23 = wkO (.ref 4) vg (nI n) aw cw yw cb sn ft ∧ WT X' ∧ (∃ g, X' 25 = arL 11 g) ∧ QX X' 26 A ∧ ∀ k, (k < 23 ∨ 70 ≤ k) → X' k = X k := by
  obtain ⟨⟨vc, vg, a, b, c, d', e, f, g, w1⟩, w2, ⟨pg, w3⟩, w4⟩ := hS
  obtain ⟨X1, a1, a2, a3⟩ := pFy (I := I) (J := J) (F := F) (G := G) (k := 23) (j := 2) (v := .ref 4) (by decide) (by decide) w1 (Nat.le_of_ble_eq_true rfl)
  obtain ⟨X2, b1, b2, b3⟩ := pFy (I := I) (J := J) (F := F) (G := G) (X := X1) (k := 23) (j := 4) (v := .int (nI n)) (by decide) (by decide) a2 (Nat.le_of_ble_eq_true rfl)
  have hW : WT X2 := WT_ne (X := X) ⟨w2, w4⟩ (fun i h1 h2 => by rw [b3 i h1, a3 i h1])
  obtain ⟨X3, c1, c2, c3⟩ := setX_x (d := d) (I := I) (J := J) (F := F) (G := G) (X := X2) (q := 26) (by decide) (by decide) hn hA hQ (hW.2 0 (by decide))
  refine ⟨X3, vg, b, c, d', e, f, g, ?_, ?_, WT_q (k := 0) (by decide) hW c3 (QX_sh c2), ⟨pg, ?_⟩, c2, fun k hk => ?_⟩
  · refine cVo ?_
    have hs0 := stp (I := I) (J := J) (F := F) (G := G) (k := 0) hW (by decide)
    rw [nI_0] at hs0
    rw [rX4_begin, xX4_begin_0, a1, Option.bind_some, nat0, Option.bind_some, if_neg (show ¬ (10 : Int32) < nI n from fun z => by have := (nI_ltI (a := 10) (by decide) (by omega)).mp z; omega), b1, Option.bind_some, gRx (by decide) (by decide) b2 rfl, Option.bind_some, hs0, Option.bind_some, if_pos (Qsh_is (by decide) (by decide) (hW.2 0 (by decide))), c1, Option.bind_some]
  · rw [c3 23 (by omega), b2]; rfl
  · rw [c3 25 (by omega), b3 25 (by decide), a3 25 (by decide)]; exact w3
  · rw [c3 k (by omega), b3 k (by omega), a3 k (by omega)]
theorem wpow_x {d cw yw : Nat} {vg : Value} {len aw cb sn : Int32} {ft : Int64} {v1 v2 v3 : Int32} (hc : cw + yw < 100) : ∀ (m k : Nat) (X : Nat → va_E) (g : Nat → Int64), 11 - k = m → 1 ≤ k → k ≤ 11 → X 23 = wkO (.ref 4) vg len aw (nI cw) (nI yw) cb sn ft → X 25 = arL 11 g → (∀ j, j < k → g j = lN ((cw + yw) ^ j)) → ∃ X', ex cdX4_waitFor (rn d) 33 [.ref 23, .int v1, .int v2, .int v3, .int (nI k)] [] (hp I J F G X) = some (none, hp I J F G X') ∧ PW X' (cw + yw) ∧ ∀ i, i ≠ 25 → X' i = X i := by
  intro m
  induction m with
  | zero =>
    intro k X g h1 h0 h2 hX h25 hg
    have : k = 11 := by omega
    subst this
    exact ⟨X, by rw [xX4_waitFor_33, if_pos (by decide)], ⟨g, h25, hg⟩, fun _ _ => rfl⟩
  | succ m ih =>
    intro k X g h1 h0 h2 hX h25 hg
    obtain ⟨k, rfl⟩ : ∃ j, k = j + 1 := ⟨k - 1, by omega⟩
    obtain ⟨X1, e1, e2⟩ : ∃ X1 : Nat → va_E, X1 25 = arL 11 (vp_updL g (k + 1) (lN ((cw + yw) ^ (k + 1)))) ∧ sL (hp I J F G X) 25 (nI (k + 1)) (lN ((cw + yw) ^ (k + 1))) = some (hp I J F G X1) ∧ ∀ i, i ≠ 25 → X1 i = X i := ⟨_, if_pos rfl, sLx (by decide) (by decide) h25 (by omega) (by decide), fun _ hi => if_neg hi⟩
    obtain ⟨e2, e3⟩ := e2
    obtain ⟨X', u1, u2, u3⟩ := ih (k + 1 + 1) X1 _ (by omega) (by omega) (by omega) (by rw [e3 23 (by decide)]; exact hX) e1 (fun j hj => by
      by_cases e : j = k + 1
      · subst e; rw [updL_eq]
      · rw [updL_ne e]; exact hg j (by omega))
    refine ⟨X', ?_, u2, fun i hi => by rw [u3 i hi, e3 i hi]⟩
    rw [xX4_waitFor_33, if_neg (show ¬ (10 : Int32) < nI (k + 1) from fun z => by have := (nI_ltI (a := 10) (by decide) (by omega)).mp z; omega), gRx (by decide) (by decide) hX rfl, Option.bind_some, Option.bind_some, nI_pred, aLx (by decide) (by decide) h25 (by omega) (by decide), Option.bind_some, gIx (by decide) (by decide) hX rfl, Option.bind_some, gIx (by decide) (by decide) hX rfl, Option.bind_some, hg k (by omega), nI_add, nI_l (by omega), lN_mul, ← Nat.pow_succ, e2, Option.bind_some, nI_1]
    exact u1
theorem wwait_x {d n cw yw : Nat} {tg : Option Nat} {vg : Value} {aw0 cw0 yw0 cb sn : Int32} {ft : Int64} (hc : cw + yw < 100) (hX : X 23 = wkO (.ref 4) vg (nI n) aw0 cw0 yw0 cb sn ft) (hP : ∃ g, X 25 = arL 11 g) : ∃ X', cV (rn (d + 1)) 31 [.ref 23, .int (awI tg), .int (nI cw), .int (nI yw)] (hp I J F G X) = some (hp I J F G X') ∧ X' 23 = wkO (.ref 4) vg (nI n) (awI tg) (nI cw) (nI yw) cb (nI n) ft ∧ PW X' (cw + yw) ∧ ∀ i, i ≠ 23 → i ≠ 25 → X' i = X i := by
  obtain ⟨g, h25⟩ := hP
  obtain ⟨X1, a1, a2, a3⟩ := pFy (I := I) (J := J) (F := F) (G := G) (k := 23) (j := 5) (v := .int (awI tg)) (by decide) (by decide) hX (Nat.le_of_ble_eq_true rfl)
  obtain ⟨X2, b1, b2, b3⟩ := pFy (I := I) (J := J) (F := F) (G := G) (X := X1) (k := 23) (j := 6) (v := .int (nI cw)) (by decide) (by decide) a2 (Nat.le_of_ble_eq_true rfl)
  obtain ⟨X3, c1, c2, c3⟩ := pFy (I := I) (J := J) (F := F) (G := G) (X := X2) (k := 23) (j := 7) (v := .int (nI yw)) (by decide) (by decide) b2 (Nat.le_of_ble_eq_true rfl)
  obtain ⟨X4, d1, d2, d3⟩ := pFy (I := I) (J := J) (F := F) (G := G) (X := X3) (k := 23) (j := 9) (v := .int (nI n)) (by decide) (by decide) c2 (Nat.le_of_ble_eq_true rfl)
  have h25' : X4 25 = arL 11 g := by rw [d3 25 (by decide), c3 25 (by decide), b3 25 (by decide), a3 25 (by decide)]; exact h25
  obtain ⟨X5, e1, e2, e3⟩ : ∃ X5 : Nat → va_E, X5 25 = arL 11 (vp_updL g 0 1) ∧ sL (hp I J F G X4) 25 0 1 = some (hp I J F G X5) ∧ ∀ i, i ≠ 25 → X5 i = X4 i := ⟨_, if_pos rfl, sLx (i := 0) (by decide) (by decide) h25' (by decide) (by decide), fun _ hi => if_neg hi⟩
  have d2' : X5 23 = wkO (.ref 4) vg (nI n) (awI tg) (nI cw) (nI yw) cb (nI n) ft := by rw [e3 23 (by decide), d2]; rfl
  obtain ⟨X6, f1, f2, f3⟩ := wpow_x (d := d) (I := I) (J := J) (F := F) (G := G) (v1 := awI tg) (v2 := nI cw) (v3 := nI yw) hc 10 1 X5 _ rfl (by omega) (by omega) d2' e1 (fun j hj => by
    have : j = 0 := by omega
    subst this
    rw [updL_eq]; rfl)
  refine ⟨X6, ?_, by rw [f3 23 (by decide)]; exact d2', f2, fun i h1 h2 => by rw [f3 i h2, e3 i h2, d3 i h1, c3 i h1, b3 i h1, a3 i h1]⟩
  refine cVo ?_
  rw [rX4_waitFor, xX4_waitFor_0, a1, Option.bind_some, b1, Option.bind_some, c1, Option.bind_some, gIx (by decide) (by decide) c2 rfl, Option.bind_some, d1, Option.bind_some, gRx (by decide) (by decide) d2 rfl, Option.bind_some, e2, Option.bind_some]
  exact f1
/-- begin, wait, walk -/
theorem walk_x {D n mm cw yw : Nat} {tg : Option Nat} {A : LSt} (hS : ShX X) (hD : 40 ≤ D) (hn10 : n ≤ 10) (hc : cw + yw < 100) (htg : ∀ i, tg = some i → i < 7) (hn : np ≤ 7) (h4 : I 4 = nI np) (hk : kOK (F 5) kd np) (hp' : ∀ k, k < np → F 6 k = nI (pt k) ∧ pt k < 1000) (hA : lB np mm A) (hm : mm + n < 900) (hQ : QN I F 12 np A) : ∃ X1 X2 X3, cV (rn D) 30 [.ref 23, .ref 4, .ref 12, .int (nI n)] (hp I J F G X) = some (hp I J F G X1) ∧ isO (hp I J F G X1) 23 4 = true ∧ cV (rn D) 31 [.ref 23, .int (awI tg), .int (nI cw), .int (nI yw)] (hp I J F G X1) = some (hp I J F G X2) ∧ isO (hp I J F G X2) 23 4 = true ∧ cL (rn D) 33 [.ref 23] (hp I J F G X2) = some (lN (wy kd pt tg cw yw (cw + yw) n A), hp I J F G X3) ∧ isO (hp I J F G X3) 23 4 = true ∧ gI (hp I J F G X3) 23 4 9 = some (nI (wsn kd pt tg cw yw n A 0 n)) ∧ cL (rn D) 32 [.ref 23, .int (nI n)] (hp I J F G X3) = some (lN ((cw + yw) ^ n), hp I J F G X3) ∧ ShX X3 := by
  obtain ⟨D, rfl⟩ : ∃ e, D = e + 40 := ⟨D - 40, by omega⟩
  obtain ⟨X1, vg, aw0, cw0, yw0, cb, sn, ft, a1, a2, a3, a4, a5, a6⟩ := wbegin_x (d := D + 37) (I := I) (J := J) (F := F) (G := G) (X := X) hS.1 hn10 hn hA hQ
  obtain ⟨X2, b1, b2, b3, b4⟩ := wwait_x (d := D + 39) (I := I) (J := J) (F := F) (G := G) (X := X1) (tg := tg) hc a2 a4
  have hW2 : WT X2 := WT_ne a3 b4
  have hQ2 : QX X2 (26 + 4 * 0) A := QX_fr a5 (q' := 22) (fun k hk => by rcases Nat.lt_or_ge k 22 with z | z <;> exact b4 k (by omega) (by omega)) (by unfold apart4; omega)
  obtain ⟨X3, c1, c2, c3, c4, c5⟩ := wF_x (I := I) (J := J) (F := F) (G := G) (s := cw + yw) hn10 (by omega) (by omega) htg hn h4 hk hp' n 0 (D + 39) X2 A mm n (by omega) (by omega) b2 hW2 b3 hQ2 hA hm (by omega)
  rw [nI_0] at c1
  have c1' : cL (rn (D + 40)) 33 [.ref 23] (hp I J F G X2) = some (lN (wy kd pt tg cw yw (cw + yw) n A), hp I J F G X3) := by
    refine cLo ?_
    rw [rX4_ways, xX4_ways_0, if_pos (isOx (by decide) (by decide) b2), c1, Option.bind_some]
  obtain ⟨g, hg1, hg2⟩ := b3
  have h25 : X3 25 = arL 11 g := by rw [c5 25 (by omega)]; exact hg1
  refine ⟨X1, X2, X3, a1, isOx (by decide) (by decide) a2, b1, isOx (by decide) (by decide) b2, c1', isOx (by decide) (by decide) c2, gIx (by decide) (by decide) c2 rfl, ?_, ?_⟩
  · refine cLo ?_
    rw [rX4_allWays, xX4_allWays_0, if_neg (nI_pos (by omega)), if_neg (show ¬ (10 : Int32) < nI n from fun z => by have := (nI_ltI (a := 10) (by decide) (by omega)).mp z; omega), gRx (by decide) (by decide) c2 rfl, Option.bind_some, aLx (by decide) (by decide) h25 (by omega) (by decide), Option.bind_some, hg2 n (by omega)]
  · have fr : ∀ k, 70 ≤ k → X3 k = X k := fun k hk => by rw [c5 k (by omega), b4 k (by omega) (by omega), a6 k (by omega)]
    obtain ⟨-, hT, hG, hR⟩ := hS
    refine ⟨⟨⟨_, _, _, _, _, _, _, _, _, c2⟩, c3.1, ⟨g, h25⟩, c3.2⟩, ?_, ?_, ?_⟩
    · obtain ⟨t1, t2, t3, t4, t5⟩ := hT
      refine ⟨by rw [fr 70 (by omega)]; exact t1, by rw [fr 71 (by omega)]; exact t2, ?_, by rw [fr 76 (by omega)]; exact t4, fun k hk => ?_⟩
      · obtain ⟨o, w, g, s, n, u, e0, e1, e2, e3⟩ := t3
        exact ⟨o, w, g, s, n, u, by rw [fr _ (by omega)]; exact e0, by rw [fr _ (by omega)]; exact e1, by rw [fr _ (by omega)]; exact e2, by rw [fr _ (by omega)]; exact e3⟩
      · obtain ⟨o, w, g, s, n, u, e0, e1, e2, e3⟩ := t5 k hk
        exact ⟨o, w, g, s, n, u, by rw [fr _ (by omega)]; exact e0, by rw [fr _ (by omega)]; exact e1, by rw [fr _ (by omega)]; exact e2, by rw [fr _ (by omega)]; exact e3⟩
    · obtain ⟨t1, t2, t3⟩ := hG
      refine ⟨by rw [fr 93 (by omega)]; exact t1, by rw [fr 94 (by omega)]; exact t2, fun k hk => ?_⟩
      obtain ⟨o, w, g, s, n, u, e0, e1, e2, e3⟩ := t3 k hk
      exact ⟨o, w, g, s, n, u, by rw [fr _ (by omega)]; exact e0, by rw [fr _ (by omega)]; exact e1, by rw [fr _ (by omega)]; exact e2, by rw [fr _ (by omega)]; exact e3⟩
    · obtain ⟨t1, t2, t3⟩ := hR
      exact ⟨by rw [fr 131 (by omega)]; exact t1, by rw [fr 132 (by omega)]; exact t2, fun k hk => by rw [fr _ (by omega)]; exact t3 k hk⟩
end WB
theorem n10 {n : Nat} (h : n ≤ 10) : nI n ≤ 10 := nI_le (b := 10) h (by decide)
theorem bad1_10 {a : Int32} (h : bad1 a 10) (z : ¬ a < 1) : ¬ a ≤ 10 := by
  rcases h with e | e
  · exact absurd e z
  · exact Int32.not_le.mpr e
theorem g_soonest : gdI 100 207 2 := gdI_of (fun as hn I J F G X np kd pt pr ds ks hR hS => by
  obtain ⟨a, b, rfl⟩ := as2 hn
  show okI _ _ [.int a, .int b] I J F G X
  obtain ⟨hn7, h4, h168, hk, hk', hp', hp'', hA, hQ, hL⟩ := rel_ctx (G := G) (X := X) hR
  rcases ix a (n := np) (by omega) with ha | ⟨i, hi, rfl⟩
  · refine okI_same (v := -1) hR hS ?_ ?_
    · refine cIo ?_; rw [rX9_soonest, xX9_soonest_0, x_f2, Option.bind_some, if_pos x_ci, has_xn ha h4, Option.bind_some, if_pos rfl]
    · refine cIo ?_; rw [rX10_soonest, xX10_soonest_0, if_pos y_is, isP_yn hn7 ha h168, Option.bind_some, if_pos rfl]
  rcases ix1 b (n := 10) (by decide) with hb | ⟨n, hn1, hn10, rfl⟩
  · refine okI_same (v := -1) hR hS ?_ ?_
    · refine cIo ?_; rw [rX9_soonest, xX9_soonest_0, x_f2, Option.bind_some, if_pos x_ci, has_x hn7 hi h4, Option.bind_some, if_neg one_ne]
      by_cases z : b < 1
      · rw [if_pos z]
      · rw [if_neg z, if_neg (bad1_10 hb z)]
    · refine cIo ?_; rw [rX10_soonest, xX10_soonest_0, if_pos y_is, isP_y hn7 hi h168, Option.bind_some, if_neg one_ne, in_yn1 (x := 1) (y := 10) hb (by decide) (by decide), Option.bind_some, if_pos rfl]
  generalize hAe : rep np kd pt ds = A at hA hQ hL
  obtain ⟨X1, X2, X3, a1, a2, a3, a4, a5, a6, a7, a8, a9⟩ := walk_x (D := 59) (n := n) (cw := 1) (yw := 1) (tg := some i) (J := J) (G := G) hS (by decide) hn10 (by decide) (fun j hj => by cases hj; omega) hn7 h4 hk hp' hA (by omega) hQ
  obtain ⟨row', st', b1, b2⟩ := soon_loop (d := 50) (n := n) (i := i) (I := I) (J := J) (F := F) (G := G) (X := X3) (by omega) hn10 hn7 hk' hp'' hA (by omega) (2 ^ n) 0 (F 169) (F 179) .null rfl (Nat.zero_le _) hL
  rw [nI_0, tF_same] at b1
  have hw := wsn_min (kd := kd) (pt := pt) (i := i) n 40 A 0 n hA
  have hsl : ∀ k, So (fun v => gb kd pt i n v A) (2 ^ n) = some k → k < n := by
    have : ∀ u k, So (fun v => gb kd pt i n v A) u = some k → k < n := by
      intro u
      induction u with
      | zero => intro k hk; cases hk
      | succ u ihu =>
        intro k hk
        have hk' : omin (So (fun v => gb kd pt i n v A) u) (gb kd pt i n u A) = some k := hk
        cases e1 : So (fun v => gb kd pt i n v A) u with
        | none => rw [e1] at hk'; exact gb_lt n u A k hk'
        | some a =>
          have ha := ihu a e1
          cases e2 : gb kd pt i n u A with
          | none => rw [e1, e2] at hk'; cases hk'; exact ha
          | some b => rw [e1, e2] at hk'; have : min a b = k := Option.some.inj hk'; omega
    exact this _
  refine okI_mk (J2 := J) (G2 := G) (v := oI (So (fun v => gb kd pt i n v A) (2 ^ n))) (I1 := I) (J1 := J) (F1 := F) (X1 := X3) (I2 := I) (F2 := tF F row' st') ?_ ?_ (rel_scr hR (fun _ _ => rfl) (fun k hk => tF_ne (by omega) (by omega)) (fun k hk => by rw [tF_169, b2 k hk])) a9
  · refine cIo ?_
    have a3' : cV (rn 59) 31 [.ref 23, .int (nI i), .int 1, .int 1] (hp I J F G X1) = some (hp I J F G X2) := a3
    rw [rX9_soonest, xX9_soonest_0, x_f2, Option.bind_some, if_pos x_ci, has_x hn7 hi h4, Option.bind_some, if_neg one_ne, if_neg (nI_l1 hn1 (by omega)), if_pos (n10 hn10), x_f8, Option.bind_some, x_f2, Option.bind_some, x_f4, Option.bind_some, if_pos (by obtain ⟨⟨_, _, _, _, _, _, _, _, _, w1⟩, -⟩ := hS.1; exact isOx (by decide) (by decide) w1), a1, Option.bind_some, x_f8, Option.bind_some, if_pos a2, a3', Option.bind_some, x_f8, Option.bind_some, if_pos a4, a5, Option.bind_some, x_f8, Option.bind_some, a7, Option.bind_some, hw]
    cases e : So (fun v => gb kd pt i n v A) (2 ^ n) with
    | none => rw [show apS n 0 none = n from rfl, if_pos (nI_le (Nat.le_refl _) (by omega))]; rfl
    | some k =>
      have hkn := hsl k e
      have e2 : apS n 0 (some k) = k := by show min n (0 + k) = k; omega
      rw [e2, if_neg (nI_ge hkn (by omega)), Option.bind_some, a7, Option.bind_some, hw, e, e2]
      rfl
  · refine cIo ?_
    rw [rX10_soonest, xX10_soonest_0, if_pos y_is, isP_y hn7 hi h168, Option.bind_some, if_neg one_ne, in_y1 (x := 1) (y := 10) (n := 10) (by decide) hn1 hn10 (by decide) (by decide), Option.bind_some, if_neg one_ne]
    exact b1)
theorem wtm_one : ∀ (m v : Nat), wtm 1 1 m v = 1
  | 0, _ => rfl
  | m + 1, v => by rw [wtm_s, wtm_one m (v / 2)]; cases bt v <;> rfl
theorem g_rows : gdI 101 208 2 := gdI_of (fun as hn I J F G X np kd pt pr ds ks hR hS => by
  obtain ⟨a, b, rfl⟩ := as2 hn
  show okI _ _ [.int a, .int b] I J F G X
  obtain ⟨hn7, h4, h168, hk, hk', hp', hp'', hA, hQ, hL⟩ := rel_ctx (G := G) (X := X) hR
  rcases ix a (n := np) (by omega) with ha | ⟨i, hi, rfl⟩
  · refine okI_same (v := -1) hR hS ?_ ?_
    · refine cIo ?_; rw [rX9_rows, xX9_rows_0, x_f2, Option.bind_some, if_pos x_ci, has_xn ha h4, Option.bind_some, if_pos rfl]
    · refine cIo ?_; rw [rX10_rows, xX10_rows_0, if_pos y_is, isP_yn hn7 ha h168, Option.bind_some, if_pos rfl]
  rcases ix1 b (n := 10) (by decide) with hb | ⟨n, hn1, hn10, rfl⟩
  · refine okI_same (v := -1) hR hS ?_ ?_
    · refine cIo ?_; rw [rX9_rows, xX9_rows_0, x_f2, Option.bind_some, if_pos x_ci, has_x hn7 hi h4, Option.bind_some, if_neg one_ne]
      by_cases z : b < 1
      · rw [if_pos z]
      · rw [if_neg z, if_neg (bad1_10 hb z)]
    · refine cIo ?_; rw [rX10_rows, xX10_rows_0, if_pos y_is, isP_y hn7 hi h168, Option.bind_some, if_neg one_ne, in_yn1 (x := 1) (y := 10) hb (by decide) (by decide), Option.bind_some, if_pos rfl]
  generalize hAe : rep np kd pt ds = A at hA hQ hL
  obtain ⟨X1, X2, X3, a1, a2, a3, a4, a5, a6, a7, a8, a9⟩ := walk_x (D := 59) (n := n) (cw := 1) (yw := 1) (tg := some i) (J := J) (G := G) hS (by decide) hn10 (by decide) (fun j hj => by cases hj; omega) hn7 h4 hk hp' hA (by omega) hQ
  obtain ⟨row', st', b1, b2⟩ := rows_loop (d := 50) (n := n) (i := i) (I := I) (J := J) (F := F) (G := G) (X := X3) (by omega) hn10 hn7 hk' hp'' hA (by omega) (2 ^ n) 0 (F 169) (F 179) rfl (Nat.zero_le _) hL
  rw [nI_0, tF_same] at b1
  have hw : wy kd pt (some i) 1 1 (1 + 1) n A = Sn (fun v => cn kd pt (some i) n v A) (2 ^ n) := by
    rw [wy_sum n 40 A hA]
    exact Sm_congr _ (fun v _ => by rw [wtm_one, Nat.one_mul])
  refine okI_mk (J2 := J) (G2 := G) (v := nI (Sn (fun v => cn kd pt (some i) n v A) (2 ^ n))) (I1 := I) (J1 := J) (F1 := F) (X1 := X3) (I2 := I) (F2 := tF F row' st') ?_ ?_ (rel_scr hR (fun _ _ => rfl) (fun k hk => tF_ne (by omega) (by omega)) (fun k hk => by rw [tF_169, b2 k hk])) a9
  · refine cIo ?_
    have a3' : cV (rn 59) 31 [.ref 23, .int (nI i), .int 1, .int 1] (hp I J F G X1) = some (hp I J F G X2) := a3
    rw [rX9_rows, xX9_rows_0, x_f2, Option.bind_some, if_pos x_ci, has_x hn7 hi h4, Option.bind_some, if_neg one_ne, if_neg (nI_l1 hn1 (by omega)), if_pos (n10 hn10), x_f8, Option.bind_some, x_f2, Option.bind_some, x_f4, Option.bind_some, if_pos (by obtain ⟨⟨_, _, _, _, _, _, _, _, _, w1⟩, -⟩ := hS.1; exact isOx (by decide) (by decide) w1), a1, Option.bind_some, x_f8, Option.bind_some, if_pos a2, a3', Option.bind_some, x_f8, Option.bind_some, if_pos a4, a5, Option.bind_some, lN_i, hw]
  · refine cIo ?_
    rw [rX10_rows, xX10_rows_0, if_pos y_is, isP_y hn7 hi h168, Option.bind_some, if_neg one_ne, in_y1 (x := 1) (y := 10) (n := 10) (by decide) hn1 hn10 (by decide) (by decide), Option.bind_some, if_neg one_ne]
    exact b1)
theorem p12 {n : Nat} (h : n ≤ 10) : 12 ^ n ≤ 61917364224 := Nat.pow_le_pow_right (n := 12) (by decide) h
theorem tell_x {I : Nat → Int32} {J : Nat → Int64} {F : Nat → Nat → Int32} {G : Nat → Int64} {X : Nat → va_E} {u n : Nat} (hn10 : n ≤ 10) (hu : u < 2 ^ 63) : cV (rn 59) 132 [.ref 1, .long (lN u), .long (lN (12 ^ n))] (hp I J F G X) = some (hp I (vp_updL (vp_updL J 1 (lN (u / Nat.gcd u (12 ^ n)))) 2 (lN (12 ^ n / Nat.gcd u (12 ^ n)))) F G X) := by
  have h12 := p12 hn10
  have h0 : 0 < 12 ^ n := Nat.pow_pos (by decide)
  refine cVo ?_
  have hg := Nat.gcd_pos_of_pos_right u h0
  have hgl : Nat.gcd u (12 ^ n) ≤ 12 ^ n := Nat.le_of_dvd h0 (Nat.gcd_dvd_right u _)
  have hgz : ¬ lN (Nat.gcd u (12 ^ n)) = 0 := fun z => by have := (pk_lEQ (b := 0) (by omega) (by decide)).mp z; omega
  have hcd : cL (rn 58) 133 [.long (lN u), .long (lN (12 ^ n))] (hp I J F G X) = some (lN (Nat.gcd u (12 ^ n)), (hp I J F G X)) := by
    refine cLo ?_
    have := div_x (d := 57) (h := (hp I J F G X)) (v0 := lN u) (v2 := lN (12 ^ n)) 40 u (12 ^ n) 0 .null (by omega) (by omega) hu (by omega)
    rw [nI_0] at this
    rw [rX9_commonDivisor, xX9_commonDivisor_0, this]
  rw [rX9_tellChance, xX9_tellChance_0, hcd, Option.bind_some, if_neg (fun z => hgz ((lg_cmp_eq _ _).mp z)), if_neg hgz, x_pup, Option.bind_some, if_neg hgz, x_plo, Option.bind_some, pk_lDiv hu hg (by omega), pk_lDiv (by omega) hg (by omega)]
theorem isCh_x {d p : Nat} {h : mH} (hp : p ≤ 12) : cI (rn (d + 1)) 125 [.int (nI p)] h = some (1, h) := by
  refine cIo ?_; rw [rX9_isChance, xX9_isChance_0, if_neg (nI_pos (by omega)), if_neg (show ¬ (12 : Int32) < nI p from fun z => by have := (nI_ltI (a := 12) (by decide) (by omega)).mp z; omega)]
theorem isCh_xn {d : Nat} {p : Int32} {h : mH} (hp : bad p 13) : cI (rn (d + 1)) 125 [.int p] h = some (0, h) := by
  refine cIo ?_; rw [rX9_isChance, xX9_isChance_0]
  by_cases z : p < 0
  · rw [if_pos z]
  · rcases hp with e | e
    · exact absurd e z
    · rw [if_neg z, if_pos (Int32.lt_of_lt_of_le (show (12 : Int32) < nI 13 by decide) e)]
theorem bad_gt {a : Int32} (h : bad a 11) (z : ¬ a < 0) : (10 : Int32) < a := by
  rcases h with e | e
  · exact absurd e z
  · exact Int32.lt_of_lt_of_le (show (10 : Int32) < nI 11 by decide) e
theorem g_odds : gdI 102 211 3 := gdI_of (fun as hn I J F G X np kd pt pr ds ks hR hS => by
  obtain ⟨a, b, c, rfl⟩ := as3 hn
  show okI _ _ [.int a, .int b, .int c] I J F G X
  obtain ⟨hn7, h4, h168, hk, hk', hp', hp'', hA, hQ, hL⟩ := rel_ctx (G := G) (X := X) hR
  rcases ix a (n := np) (by omega) with ha | ⟨i, hi, rfl⟩
  · refine okI_same (v := -1) hR hS ?_ ?_
    · refine cIo ?_; rw [rX9_odds, xX9_odds_0, x_f2, Option.bind_some, if_pos x_ci, has_xn ha h4, Option.bind_some, if_pos rfl]
    · refine cIo ?_; rw [rX10_odds, xX10_odds_0, if_pos y_is, isP_yn hn7 ha h168, Option.bind_some, if_pos rfl]
  rcases ix b (n := 11) (by decide) with hb | ⟨n, hn11, rfl⟩
  · refine okI_same (v := -1) hR hS ?_ ?_
    · refine cIo ?_; rw [rX9_odds, xX9_odds_0, x_f2, Option.bind_some, if_pos x_ci, has_x hn7 hi h4, Option.bind_some, if_neg one_ne]
      by_cases z : b < 0
      · rw [if_pos z]
      · rw [if_neg z, if_pos (bad_gt hb z)]
    · refine cIo ?_; rw [rX10_odds, xX10_odds_0, if_pos y_is, isP_y hn7 hi h168, Option.bind_some, if_neg one_ne, in_yn (x := 0) (y := 10) (n := 11) (by decide) hb (by decide) (by decide), Option.bind_some, if_pos rfl]
  have z1 : ¬ (10 : Int32) < nI n := fun z => by have := (nI_ltI (a := 10) (by decide) (by omega)).mp z; omega
  have iny := fun (d : Nat) (h : mH) => in_y (d := d) (h := h) (x := 0) (y := 10) (n := 11) (by decide) hn11 rfl (by decide) (by decide)
  rcases ix c (n := 13) (by decide) with hc | ⟨p, hp13, rfl⟩
  · refine okI_same (v := -1) hR hS ?_ ?_
    · refine cIo ?_; rw [rX9_odds, xX9_odds_0, x_f2, Option.bind_some, if_pos x_ci, has_x hn7 hi h4, Option.bind_some, if_neg one_ne, if_neg (nI_pos (by omega)), if_neg z1, isCh_xn hc, Option.bind_some, if_pos rfl]
    · refine cIo ?_; rw [rX10_odds, xX10_odds_0, if_pos y_is, isP_y hn7 hi h168, Option.bind_some, if_neg one_ne, iny, Option.bind_some, if_neg one_ne, in_yn (x := 0) (y := 12) (n := 13) (by decide) hc (by decide) (by decide), Option.bind_some, if_pos rfl]
  have iny2 := fun (d : Nat) (h : mH) => in_y (d := d) (h := h) (x := 0) (y := 12) (n := 13) (by decide) hp13 rfl (by decide) (by decide)
  generalize hAe : rep np kd pt ds = A at hA hQ hL
  obtain ⟨X1, X2, X3, a1, a2, a3, a4, a5, a6, a7, a8, a9⟩ := walk_x (D := 59) (n := n) (cw := p) (yw := 12 - p) (tg := some i) (J := J) (G := G) hS (by decide) (show n ≤ 10 by omega) (by omega) (fun j hj => by cases hj; omega) hn7 h4 hk hp' hA (by omega) hQ
  rw [show p + (12 - p) = 12 by omega] at a5 a8
  have hle := wy_le (kd := kd) (pt := pt) (tg := some i) (cw := p) (yw := 12 - p) (m := n) hA
  have hws := wy_sum (kd := kd) (pt := pt) (tg := some i) (cw := p) (yw := 12 - p) n 40 A hA
  have htot := wtm_tot p (12 - p) n
  rw [show p + (12 - p) = 12 by omega] at hle hws htot
  have h12 := p12 (show n ≤ 10 by omega)
  have h0 : 0 < 12 ^ n := Nat.pow_pos (by decide)
  generalize wy kd pt (some i) p (12 - p) 12 n A = u at a5 hle hws
  have hu : u < 2 ^ 63 := by
    have : (n + 1) * 12 ^ n ≤ 11 * 61917364224 := Nat.mul_le_mul (by omega) h12
    omega
  obtain ⟨row', st', w9, b1, b2⟩ := odds_loop (d := 50) (n := n) (i := i) (p := p) (I := I) (J := vp_updL (vp_updL J 1 (lN (u / Nat.gcd u (12 ^ n)))) 2 (lN (12 ^ n / Nat.gcd u (12 ^ n)))) (F := F) (G := G) (X := X3) (by omega) (by omega) (by omega) hn7 hk' hp'' hA (by omega) (2 ^ n) 0 (F 169) (F 179) .null rfl (Nat.zero_le _) hL
  rw [nI_0, tF_same, ← hws, htot] at b1
  refine okI_mk (G2 := G) (v := 1) (I1 := I) (J1 := vp_updL (vp_updL J 1 (lN (u / Nat.gcd u (12 ^ n)))) 2 (lN (12 ^ n / Nat.gcd u (12 ^ n)))) (F1 := F) (X1 := X3) (I2 := I) (F2 := tF F row' st') ?_ ?_ (rel_scr (rel_ways (lN (u / Nat.gcd u (12 ^ n))) (lN (12 ^ n / Nat.gcd u (12 ^ n))) hR) (fun _ _ => rfl) (fun k hk => tF_ne (by omega) (by omega)) (fun k hk => by rw [tF_169, b2 k hk])) a9
  · refine cIo ?_
    have a3' : cV (rn 59) 31 [.ref 23, .int (nI i), .int (nI p), .int (nI (12 - p))] (hp I J F G X1) = some (hp I J F G X2) := a3
    rw [rX9_odds, xX9_odds_0, x_f2, Option.bind_some, if_pos x_ci, has_x hn7 hi h4, Option.bind_some, if_neg one_ne, if_neg (nI_pos (by omega)), if_neg z1, isCh_x (by omega), Option.bind_some, if_neg one_ne, x_f8, Option.bind_some, x_f2, Option.bind_some, x_f4, Option.bind_some, if_pos (by obtain ⟨⟨_, _, _, _, _, _, _, _, _, w1⟩, -⟩ := hS.1; exact isOx (by decide) (by decide) w1), a1, Option.bind_some, x_f8, Option.bind_some, if_pos a2, show (12 : Int32) - nI p = nI (12 - p) from pk_sub (a := 12) (by omega), a3', Option.bind_some, x_f8, Option.bind_some, if_pos a4, a5, Option.bind_some, x_f8, Option.bind_some, if_pos a6, a8, Option.bind_some, if_pos x_is]
    dsimp only
    rw [tell_x (by omega) hu, Option.bind_some]
  · refine cIo ?_
    rw [rX10_odds, xX10_odds_0, if_pos y_is, isP_y hn7 hi h168, Option.bind_some, if_neg one_ne, iny, Option.bind_some, if_neg one_ne, iny2, Option.bind_some, if_neg one_ne]
    refine Eq.trans b1 ?_
    rw [xX10_odds_43, pow1 n (by omega), if_pos (nI_le (Nat.le_refl _) (by have := le_p10 (show n ≤ 10 by omega); omega)), if_pos y_is, tell_parts h0 hu (by omega), Option.bind_some])
theorem g_mid : gdI 103 212 2 := gdI_of (fun as hn I J F G X np kd pt pr ds ks hR hS => by
  obtain ⟨b, c, rfl⟩ := as2 hn
  show okI _ _ [.int b, .int c] I J F G X
  obtain ⟨hn7, h4, h168, hk, hk', hp', hp'', hA, hQ, hL⟩ := rel_ctx (G := G) (X := X) hR
  rcases ix b (n := 11) (by decide) with hb | ⟨n, hn11, rfl⟩
  · refine okI_same (v := -1) hR hS ?_ ?_
    · refine cIo ?_; rw [rX9_mid, xX9_mid_0]
      by_cases z : b < 0
      · rw [if_pos z]
      · rw [if_neg z, if_pos (bad_gt hb z)]
    · refine cIo ?_; rw [rX10_mid, xX10_mid_0, in_yn (x := 0) (y := 10) (n := 11) (by decide) hb (by decide) (by decide), Option.bind_some, if_pos rfl]
  have z1 : ¬ (10 : Int32) < nI n := fun z => by have := (nI_ltI (a := 10) (by decide) (by omega)).mp z; omega
  have iny := fun (d : Nat) (h : mH) => in_y (d := d) (h := h) (x := 0) (y := 10) (n := 11) (by decide) hn11 rfl (by decide) (by decide)
  rcases ix c (n := 13) (by decide) with hc | ⟨p, hp13, rfl⟩
  · refine okI_same (v := -1) hR hS ?_ ?_
    · refine cIo ?_; rw [rX9_mid, xX9_mid_0, if_neg (nI_pos (by omega)), if_neg z1, isCh_xn hc, Option.bind_some, if_pos rfl]
    · refine cIo ?_; rw [rX10_mid, xX10_mid_0, iny, Option.bind_some, if_neg one_ne, in_yn (x := 0) (y := 12) (n := 13) (by decide) hc (by decide) (by decide), Option.bind_some, if_pos rfl]
  have iny2 := fun (d : Nat) (h : mH) => in_y (d := d) (h := h) (x := 0) (y := 12) (n := 13) (by decide) hp13 rfl (by decide) (by decide)
  generalize hAe : rep np kd pt ds = A at hA hQ hL
  obtain ⟨X1, X2, X3, a1, a2, a3, a4, a5, a6, a7, a8, a9⟩ := walk_x (D := 59) (n := n) (cw := p) (yw := 12 - p) (tg := none) (J := J) (G := G) hS (by decide) (show n ≤ 10 by omega) (by omega) (fun j hj => by cases hj) hn7 h4 hk hp' hA (by omega) hQ
  rw [show p + (12 - p) = 12 by omega] at a5 a8
  have hle := wy_le (kd := kd) (pt := pt) (tg := none) (cw := p) (yw := 12 - p) (m := n) hA
  have hws := wy_sum (kd := kd) (pt := pt) (tg := none) (cw := p) (yw := 12 - p) n 40 A hA
  have htot := wtm_tot p (12 - p) n
  rw [show p + (12 - p) = 12 by omega] at hle hws htot
  have h12 := p12 (show n ≤ 10 by omega)
  have h0 : 0 < 12 ^ n := Nat.pow_pos (by decide)
  generalize wy kd pt none p (12 - p) 12 n A = u at a5 hle hws
  have hu : u < 2 ^ 63 := by
    have : (n + 1) * 12 ^ n ≤ 11 * 61917364224 := Nat.mul_le_mul (by omega) h12
    omega
  obtain ⟨row', st', w8, w10, w11, b1, b2⟩ := mid_loop (d := 51) (n := n) (p := p) (I := I) (J := vp_updL (vp_updL J 1 (lN (u / Nat.gcd u (12 ^ n)))) 2 (lN (12 ^ n / Nat.gcd u (12 ^ n)))) (F := F) (G := G) (X := X3) (by omega) (by omega) hn7 hk' hp'' hA (by omega) (2 ^ n) 0 (F 169) (F 179) .null .null .null rfl (Nat.zero_le _) hL
  rw [nI_0, tF_same, ← hws, htot] at b1
  refine okI_mk (G2 := G) (v := 1) (I1 := I) (J1 := vp_updL (vp_updL J 1 (lN (u / Nat.gcd u (12 ^ n)))) 2 (lN (12 ^ n / Nat.gcd u (12 ^ n)))) (F1 := F) (X1 := X3) (I2 := I) (F2 := tF F row' st') ?_ ?_ (rel_scr (rel_ways (lN (u / Nat.gcd u (12 ^ n))) (lN (12 ^ n / Nat.gcd u (12 ^ n))) hR) (fun _ _ => rfl) (fun k hk => tF_ne (by omega) (by omega)) (fun k hk => by rw [tF_169, b2 k hk])) a9
  · refine cIo ?_
    have a3' : cV (rn 59) 31 [.ref 23, .int (-1), .int (nI p), .int (nI (12 - p))] (hp I J F G X1) = some (hp I J F G X2) := a3
    rw [rX9_mid, xX9_mid_0, if_neg (nI_pos (by omega)), if_neg z1, isCh_x (by omega), Option.bind_some, if_neg one_ne, x_f8, Option.bind_some, x_f2, Option.bind_some, x_f4, Option.bind_some, if_pos (by obtain ⟨⟨_, _, _, _, _, _, _, _, _, w1⟩, -⟩ := hS.1; exact isOx (by decide) (by decide) w1), a1, Option.bind_some, x_f8, Option.bind_some, if_pos a2, show (12 : Int32) - nI p = nI (12 - p) from pk_sub (a := 12) (by omega), a3', Option.bind_some, x_f8, Option.bind_some, if_pos a4, a5, Option.bind_some, x_f8, Option.bind_some, if_pos a6, a8, Option.bind_some, if_pos x_is]
    dsimp only
    rw [tell_x (by omega) hu, Option.bind_some]
  · refine cIo ?_
    rw [rX10_mid, xX10_mid_0, iny, Option.bind_some, if_neg one_ne, iny2, Option.bind_some, if_neg one_ne]
    refine Eq.trans b1 ?_
    rw [xX10_mid_34, pow1 n (by omega), if_pos (nI_le (Nat.le_refl _) (by have := le_p10 (show n ≤ 10 by omega); omega)), if_pos y_is, tell_parts h0 hu (by omega), Option.bind_some])
