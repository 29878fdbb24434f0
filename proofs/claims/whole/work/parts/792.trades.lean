/-! the search for trades: begin, fewest, cheapest -/
section TB
variable {I : Nat → Int32} {J : Nat → Int64} {F : Nat → Nat → Int32} {G : Nat → Int64} {X : Nat → va_E} {np : Nat} {kd pt pr : Nat → Nat}
theorem nth_at {A : LSt} {k : Nat} (h : k < A.1.length) : ∃ y, A.1[k]? = some y ∧ A.1.getD k 0 = y ∧ y ∈ A.1 := ⟨A.1[k], List.getElem?_eq_getElem h, by rw [List.getD_eq_getElem?_getD, List.getElem?_eq_getElem h]; rfl, List.getElem_mem h⟩
theorem cst_le {m k : Nat} {A : LSt} (hA : lB np m A) (hpr : ∀ i, i < np → pr i < 10) (h : k + 1 < A.1.length) : cst pr A k ≤ 18 := by
  obtain ⟨y, -, y2, y3⟩ := nth_at (A := A) (k := k) (by omega)
  obtain ⟨x, -, x2, x3⟩ := nth_at (A := A) (k := k + 1) h
  unfold cst
  rw [y2, x2]
  have := hpr y (hA.2.1 y y3)
  have := hpr x (hA.2.1 x x3)
  omega
theorem csT_le {P v : Nat} (hP : 0 < P) (hpr : ∀ i, i < np → pr i < 10) : ∀ (t m : Nat) (A : LSt), lB np m A → A.1.length - 1 = P → csT pr P t v A ≤ 18 * t
  | 0, _, _, _, _ => Nat.zero_le _
  | t + 1, m, A, hA, hl => by
    have hd : v / P ^ t % P < P := Nat.mod_lt _ hP
    have h1 : v / P ^ t % P + 1 < A.1.length := by omega
    have := cst_le (pr := pr) hA hpr h1
    have := csT_le (v := v) hP hpr t m _ (swA_lB hA h1) (by rw [swA_len h1]; exact hl)
    show cst pr A (v / P ^ t % P) + csT pr P t v (swA A (v / P ^ t % P)) ≤ _
    omega
theorem sbegin_x {d n mm : Nat} {A : LSt} (hS : ShT X) (hn7 : n ≤ 7) (hn : np ≤ 7) (hA : lB np mm A) (hQ : QN I F 12 np A) : ∃ X' a b f, cV (rn (d + 3)) 70 [.ref 70, .ref 4, .ref 12, .int (nI n)] (hp I J F G X) = some (hp I J F G X') ∧ X' 70 = srO (.ref 4) (nI n) a b (-9) ∧ TT X' ∧ X' 76 = ar 3 f ∧ QX X' 77 A ∧ ∀ k, (k < 70 ∨ 93 ≤ k) → X' k = X k := by
  obtain ⟨⟨vc, a, b, c, e, w1⟩, w2, w3, ⟨f, w4⟩, w5⟩ := hS
  obtain ⟨X1, a1, a2, a3⟩ := pFy (I := I) (J := J) (F := F) (G := G) (k := 70) (j := 2) (v := .ref 4) (by decide) (by decide) w1 (Nat.le_of_ble_eq_true rfl)
  obtain ⟨X2, b1, b2, b3⟩ := pFy (I := I) (J := J) (F := F) (G := G) (X := X1) (k := 70) (j := 3) (v := .int (nI n)) (by decide) (by decide) a2 (Nat.le_of_ble_eq_true rfl)
  obtain ⟨X3, c1, c2, c3⟩ := pFy (I := I) (J := J) (F := F) (G := G) (X := X2) (k := 70) (j := 6) (v := .int (-9)) (by decide) (by decide) b2 (Nat.le_of_ble_eq_true rfl)
  have fr : ∀ i, i ≠ 70 → X3 i = X i := fun i hi => by rw [c3 i hi, b3 i hi, a3 i hi]
  have hT : TT X3 := TT_ne (X := X) ⟨w2, w3, w5⟩ (fun i h1 _ => fr i h1)
  obtain ⟨X4, d1, d2, d3⟩ := setX_x (d := d) (I := I) (J := J) (F := F) (G := G) (X := X3) (q := 77) (by decide) (by decide) hn hA hQ (hT.2.2 0 (by decide))
  refine ⟨X4, b, c, f, ?_, ?_, TT_q (k := 0) (by decide) hT d3 (QX_sh d2), ?_, d2, fun k hk => ?_⟩
  · refine cVo ?_
    have hs0 := tstp (I := I) (J := J) (F := F) (G := G) (k := 0) hT (by decide)
    rw [nI_0] at hs0
    rw [rX8_begin, xX8_begin_0, a1, Option.bind_some, nat0, Option.bind_some, if_neg (show ¬ (7 : Int32) < nI n from fun z => by have := (nI_ltI (a := 7) (by decide) (by omega)).mp z; omega), b1, Option.bind_some, c1, Option.bind_some, gRx (by decide) (by decide) c2 rfl, Option.bind_some, hs0, Option.bind_some, if_pos (Qsh_is (by decide) (by decide) (hT.2.2 0 (by decide))), d1, Option.bind_some]
  · rw [d3 70 (by omega), c2]; rfl
  · rw [d3 76 (by omega), fr 76 (by decide)]; exact w4
  · rw [d3 k (by omega), fr k (by omega)]
theorem sstart_x {d n mm : Nat} {A : LSt} (i j : Int32) (hS : ShT X) (hn7 : n ≤ 7) (hn : np ≤ 7) (hA : lB np mm A) (hQ : QN I F 12 np A) : ∃ X1 X2 f, cV (rn (d + 3)) 70 [.ref 70, .ref 4, .ref 12, .int (nI n)] (hp I J F G X) = some (hp I J F G X1) ∧ isO (hp I J F G X1) 70 8 = true ∧ cV (rn (d + 3)) 71 [.ref 70, .int i, .int j] (hp I J F G X1) = some (hp I J F G X2) ∧ X2 70 = srO (.ref 4) (nI n) i j (-9) ∧ TT X2 ∧ X2 76 = ar 3 f ∧ QX X2 77 A ∧ ∀ k, (k < 70 ∨ 93 ≤ k) → X2 k = X k := by
  obtain ⟨X1, a, b, f, a1, a2, a3, a4, a5, a6⟩ := sbegin_x (d := d) (I := I) (J := J) (F := F) (G := G) (X := X) hS hn7 hn hA hQ
  obtain ⟨X2, b1, b2, b3⟩ := pFy (I := I) (J := J) (F := F) (G := G) (X := X1) (k := 70) (j := 4) (v := .int i) (by decide) (by decide) a2 (Nat.le_of_ble_eq_true rfl)
  obtain ⟨X3, c1, c2, c3⟩ := pFy (I := I) (J := J) (F := F) (G := G) (X := X2) (k := 70) (j := 5) (v := .int j) (by decide) (by decide) b2 (Nat.le_of_ble_eq_true rfl)
  have fr : ∀ i, i ≠ 70 → X3 i = X1 i := fun i hi => by rw [c3 i hi, b3 i hi]
  refine ⟨X1, X3, f, a1, isOx (by decide) (by decide) a2, ?_, ?_, TT_ne a3 (fun i h1 _ => fr i h1), by rw [fr 76 (by decide)]; exact a4, QX_kp a5 (fun k k1 k2 => fr k (by omega)), fun k hk => by rw [fr k (by omega), a6 k hk]⟩
  · refine cVo ?_
    rw [rX8_seek, xX8_seek_0, b1, Option.bind_some, c1, Option.bind_some]
  · rw [c2]; rfl
theorem ShX_T {X' : Nat → va_E} {vc : Value} {n i j e : Int32} {f : Nat → Int32} (h : ShX X) (fr : ∀ k, (k < 70 ∨ 93 ≤ k) → X' k = X k) (h70 : X' 70 = srO vc n i j e) (hT : TT X') (h76 : X' 76 = ar 3 f) : ShX X' := by
  obtain ⟨hW, -, hG, hR⟩ := h
  refine ⟨?_, ⟨⟨_, _, _, _, _, h70⟩, hT.1, hT.2.1, ⟨f, h76⟩, hT.2.2⟩, ?_, ?_⟩
  · obtain ⟨t1, t2, t3, t4⟩ := hW
    refine ⟨by rw [fr 23 (by omega)]; exact t1, by rw [fr 24 (by omega)]; exact t2, by rw [fr 25 (by omega)]; exact t3, fun k hk => ?_⟩
    obtain ⟨o, w, g, s, n, u, e0, e1, e2, e3⟩ := t4 k hk
    exact ⟨o, w, g, s, n, u, by rw [fr _ (by omega)]; exact e0, by rw [fr _ (by omega)]; exact e1, by rw [fr _ (by omega)]; exact e2, by rw [fr _ (by omega)]; exact e3⟩
  · obtain ⟨t1, t2, t3⟩ := hG
    refine ⟨by rw [fr 93 (by omega)]; exact t1, by rw [fr 94 (by omega)]; exact t2, fun k hk => ?_⟩
    obtain ⟨o, w, g, s, n, u, e0, e1, e2, e3⟩ := t3 k hk
    exact ⟨o, w, g, s, n, u, by rw [fr _ (by omega)]; exact e0, by rw [fr _ (by omega)]; exact e1, by rw [fr _ (by omega)]; exact e2, by rw [fr _ (by omega)]; exact e3⟩
  · obtain ⟨t1, t2, t3⟩ := hR
    exact ⟨by rw [fr 131 (by omega)]; exact t1, by rw [fr 132 (by omega)]; exact t2, fun k hk => by rw [fr _ (by omega)]; exact t3 k hk⟩
def fwT (R : LSt → Bool) (P : Nat) (A : LSt) : Option Nat := Sx (fun t => if (fsT R P t A).isSome = true then some t else none) 4
theorem few_x {D n i P mm : Nat} {jo : Option Nat} {e : Int32} {A : LSt} {f : Nat → Int32} (hD : 20 ≤ D) (hi : i < 7) (hj : ∀ j, jo = some j → j < 7) (hn7 : n ≤ 7) (hn : np ≤ 7) (h4 : I 4 = nI np) (hk : kOK (F 5) kd np) (hp' : ∀ k, k < np → F 6 k = nI (pt k) ∧ pt k < 1000) (hP : A.1.length - 1 = P) (hX : X 70 = srO (.ref 4) (nI n) (nI i) (folI jo) e) (hT : TT X) (h76 : X 76 = ar 3 f) (hQ : QX X 77 A) (hA : lB np mm A) (hm : mm < 800) : ∃ X' f', cI (rn D) 72 [.ref 70] (hp I J F G X) = some (oI (fwT (fun A => rcT kd pt i jo n none A) P A), hp I J F G X') ∧ TT X' ∧ X' 76 = ar 3 f' ∧ (∀ k, (k < 72 ∨ 93 ≤ k) → X' k = X k) ∧ ∀ t v, fwT (fun A => rcT kd pt i jo n none A) P A = some t → fsT (fun A => rcT kd pt i jo n none A) P t A = some v → ∀ s, s < t → f' s = nI (v / P ^ (t - 1 - s) % P) := by
  obtain ⟨D, rfl⟩ : ∃ z, D = (z + 19) + 1 := ⟨D - 20, by omega⟩
  have lp : ∀ (q t : Nat) (X : Nat → va_E) (f : Nat → Int32), 4 - t = q → t ≤ 4 → X 70 = srO (.ref 4) (nI n) (nI i) (folI jo) e → TT X → X 76 = ar 3 f → QX X 77 A → Sx (fun t => if (fsT (fun A => rcT kd pt i jo n none A) P t A).isSome = true then some t else none) t = none → ∃ X' f', ex cdX8_fewestTrades (rn (D + 19)) 2 [.ref 70, .int (nI t)] [] (hp I J F G X) = some (some (.int (oI (fwT (fun A => rcT kd pt i jo n none A) P A))), hp I J F G X') ∧ TT X' ∧ X' 76 = ar 3 f' ∧ (∀ k, (k < 72 ∨ 93 ≤ k) → X' k = X k) ∧ ∀ t v, fwT (fun A => rcT kd pt i jo n none A) P A = some t → fsT (fun A => rcT kd pt i jo n none A) P t A = some v → ∀ s, s < t → f' s = nI (v / P ^ (t - 1 - s) % P) := by
    intro q
    induction q with
    | zero =>
      intro t X f g1 g2 hX hT h76 hQ hS
      have : t = 4 := by omega
      subst this
      have hf : fwT (fun A => rcT kd pt i jo n none A) P A = none := hS
      refine ⟨X, f, ?_, hT, h76, fun _ _ => rfl, fun t v h => by rw [hf] at h; cases h⟩
      rw [xX8_fewestTrades_2, if_pos (by decide), hf]
      rfl
    | succ q ihq =>
      intro t X f g1 g2 hX hT h76 hQ hS
      obtain ⟨X1, f1, a1, a2, a3, a4, a5, a6⟩ := rb_x (P := P) (many := t) (I := I) (J := J) (F := F) (G := G) (e := e) (by omega) hi hj hn7 hn h4 hk hp' t 0 (D + 19) X A mm f (by omega) (by omega) hP hX hT h76 hQ hA hm
      rw [nI_0] at a1
      have hstep : Sx (fun t => if (fsT (fun A => rcT kd pt i jo n none A) P t A).isSome = true then some t else none) (t + 1) = if (fsT (fun A => rcT kd pt i jo n none A) P t A).isSome = true then some t else none := by
        show orO (Sx (fun t => if (fsT (fun A => rcT kd pt i jo n none A) P t A).isSome = true then some t else none) t) _ = _
        rw [hS]; rfl
      rw [xX8_fewestTrades_2, if_neg (show ¬ (3 : Int32) < nI t from fun z => by have := (nI_ltI (a := 3) (by decide) (by omega)).mp z; omega), if_pos (isOx (by decide) (by decide) hX), a1, Option.bind_some]
      cases hu : fsT (fun A => rcT kd pt i jo n none A) P t A with
      | none =>
        rw [hu, if_neg (show ¬ (none : Option Nat).isSome = true by decide)] at hstep
        obtain ⟨X2, f2, b1, b2, b3, b4, b5⟩ := ihq (t + 1) X1 f1 (by omega) (by omega) (by rw [a4 70 (by omega)]; exact hX) a2 a3 (QX_kp hQ (fun k k1 k2 => a4 k (by omega))) hstep
        refine ⟨X2, f2, ?_, b2, b3, fun k hk => by rw [b4 k hk, a4 k (by omega)], b5⟩
        rw [if_pos (by rfl), nI_1]
        exact b1
      | some u =>
        rw [hu, if_pos (show (some u : Option Nat).isSome = true from rfl)] at hstep
        have hful : fwT (fun A => rcT kd pt i jo n none A) P A = some t := by
          show Sx (fun t => if (fsT (fun A => rcT kd pt i jo n none A) P t A).isSome = true then some t else none) 4 = _
          have : ∀ w, Sx (fun t => if (fsT (fun A => rcT kd pt i jo n none A) P t A).isSome = true then some t else none) (t + 1 + w) = some t := by
            intro w
            induction w with
            | zero => exact hstep
            | succ w ihw =>
              show orO (Sx (fun t => if (fsT (fun A => rcT kd pt i jo n none A) P t A).isSome = true then some t else none) (t + 1 + w)) _ = _
              rw [ihw]; rfl
          have := this (4 - (t + 1))
          rwa [show t + 1 + (4 - (t + 1)) = 4 by omega] at this
        refine ⟨X1, f1, ?_, a2, a3, fun k hk => a4 k (by omega), fun t' v h1 h2 s hs => ?_⟩
        · rw [if_neg (show ¬ bI (some u).isSome = 0 from (by decide : ¬ bI true = 0)), hful]
          rfl
        · rw [hful] at h1
          cases h1
          have := a6 v h2 s hs
          rwa [Nat.zero_add] at this
  obtain ⟨X1, f1, a1, a2, a3, a4, a5⟩ := lp 4 0 X f rfl (by omega) hX hT h76 hQ rfl
  rw [nI_0] at a1
  refine ⟨X1, f1, ?_, a2, a3, a4, a5⟩
  refine cIo ?_
  rw [rX8_fewestTrades, xX8_fewestTrades_0]
  exact a1
theorem lc_x {n i P : Nat} (hi : i < 7) (hn7 : n ≤ 7) (hn : np ≤ 7) (h4 : I 4 = nI np) (hk : kOK (F 5) kd np) (hp' : ∀ k, k < np → F 6 k = nI (pt k) ∧ pt k < 1000) (hpr : ∀ i, i < np → F 7 i = nI (pr i) ∧ pr i < 10) : ∀ (m dp D : Nat) (X : Nat → va_E) (A : LSt) (mm pd : Nat) (b : Option Nat), dp + m = 3 → 12 + m ≤ D → A.1.length - 1 = P → X 70 = srO (.ref 4) (nI n) (nI i) (-2) (oI b) → TT X → QX X (77 + 4 * dp) A → lB np mm A → mm < 800 → pd + 20 * m < 1000 → (∀ x, b = some x → x < 1000) →
    ∃ X', cV (rn D) 75 [.ref 70, .int (nI dp), .int (nI pd)] (hp I J F G X) = some (hp I J F G X') ∧ X' 70 = srO (.ref 4) (nI n) (nI i) (-2) (oI (omin b (mnT (fun A => rcT kd pt i none n none A) pr P m A pd))) ∧ TT X' ∧ (∀ x, omin b (mnT (fun A => rcT kd pt i none n none A) pr P m A pd) = some x → x < 1000) ∧ ∀ k, (k < 70 ∨ k = 71 ∨ k = 76 ∨ (77 ≤ k ∧ k < 77 + 4 * (dp + 1)) ∨ 93 ≤ k) → X' k = X k := by
  have hj : ∀ j, (none : Option Nat) = some j → j < 7 := fun j h => by cases h
  intro m
  induction m with
  | zero =>
    intro dp D X A mm pd b h1 h2 hP hX hT hQ hA hm hpd hb
    obtain ⟨D, rfl⟩ : ∃ z, D = (z + 9) + 1 := ⟨D - 10, by omega⟩
    obtain ⟨X1, a1, a2, a3⟩ := reach_x (d := D) (I := I) (J := J) (F := F) (G := G) (k := dp) (jo := none) (by omega) hi hj hn7 hn h4 hk hp' hX hT hQ hA hm
    have hX1 : X1 70 = srO (.ref 4) (nI n) (nI i) (-2) (oI b) := by rw [a2 70 (by omega)]; exact hX
    have go25 : (b = none ∨ ∃ x, b = some x ∧ pd < x) → ∃ X', ex cdX8_lookForCheaper (rn (D + 9)) 25 [.ref 70, .int (nI dp), .int (nI pd), .null, .null, .null] [] (hp I J F G X) = some (none, hp I J F G X') ∧ X' 70 = srO (.ref 4) (nI n) (nI i) (-2) (oI (omin b (mnT (fun A => rcT kd pt i none n none A) pr P 0 A pd))) ∧ TT X' ∧ (∀ x, omin b (mnT (fun A => rcT kd pt i none n none A) pr P 0 A pd) = some x → x < 1000) ∧ ∀ k, (k < 70 ∨ k = 71 ∨ k = 76 ∨ (77 ≤ k ∧ k < 77 + 4 * (dp + 1)) ∨ 93 ≤ k) → X' k = X k := by
      intro hok
      rw [xX8_lookForCheaper_25, gRx (by decide) (by decide) hX rfl, Option.bind_some, tstp hT (by omega), Option.bind_some, if_pos (isOx (by decide) (by decide) hX), a1, Option.bind_some]
      cases hr : rcT kd pt i none n none A with
      | false =>
        have hmn : mnT (fun A => rcT kd pt i none n none A) pr P 0 A pd = none := if_neg (show ¬ rcT kd pt i none n none A = true by rw [hr]; decide)
        rw [hmn, omin_n]
        refine ⟨X1, ?_, hX1, a3, hb, fun k hk => a2 k (by omega)⟩
        rw [if_pos (by rfl), if_neg (show ¬ nI dp < 3 from nI_nlt (b := 3) (by omega) (by omega))]
      | true =>
        rw [mn_R (R := fun A => rcT kd pt i none n none A) 0 hr]
        obtain ⟨X2, b1, b2, b3⟩ := pFy (I := I) (J := J) (F := F) (G := G) (X := X1) (k := 70) (j := 6) (v := .int (nI pd)) (by decide) (by decide) hX1 (Nat.le_of_ble_eq_true rfl)
        have hom : omin b (some pd) = some pd := by
          rcases hok with rfl | ⟨x, rfl, hx⟩
          · rfl
          · show some (min x pd) = some pd
            rw [Nat.min_eq_right (by omega)]
        rw [hom]
        refine ⟨X2, ?_, ?_, TT_ne a3 (fun k k1 _ => b3 k k1), fun x hx => by cases hx; omega, fun k hk => by rw [b3 k (by omega), a2 k (by omega)]⟩
        · rw [if_neg (show ¬ bI true = 0 by decide), b1, Option.bind_some]
        · rw [b2]; rfl
    have key : ∃ X', ex cdX8_lookForCheaper (rn (D + 9)) 0 [.ref 70, .int (nI dp), .int (nI pd), .null, .null, .null] [] (hp I J F G X) = some (none, hp I J F G X') ∧ X' 70 = srO (.ref 4) (nI n) (nI i) (-2) (oI (omin b (mnT (fun A => rcT kd pt i none n none A) pr P 0 A pd))) ∧ TT X' ∧ (∀ x, omin b (mnT (fun A => rcT kd pt i none n none A) pr P 0 A pd) = some x → x < 1000) ∧ ∀ k, (k < 70 ∨ k = 71 ∨ k = 76 ∨ (77 ≤ k ∧ k < 77 + 4 * (dp + 1)) ∨ 93 ≤ k) → X' k = X k := by
      rw [xX8_lookForCheaper_0, gRx (by decide) (by decide) hX rfl, Option.bind_some, gIx (by decide) (by decide) hX rfl, Option.bind_some]
      cases b with
      | none => rw [if_pos (show oI none = -9 from rfl)]; exact go25 (Or.inl rfl)
      | some x =>
        have hx := hb x rfl
        rw [if_neg (show ¬ oI (some x) = -9 from nI_ne9 (by omega)), Option.bind_some]
        by_cases c : pd < x
        · rw [if_pos (show nI pd < oI (some x) from nI_lt c (by omega))]
          exact go25 (Or.inr ⟨x, rfl, c⟩)
        · rw [if_neg (show ¬ nI pd < oI (some x) from nI_nlt (by omega) (by omega)), omin_le (c := pd) (fun y hy => mn_ge 0 _ _ y hy) (by omega)]
          exact ⟨X, rfl, hX, hT, hb, fun _ _ => rfl⟩
    obtain ⟨X', z1, z2⟩ := key
    exact ⟨X', cVo (by rw [rX8_lookForCheaper]; exact z1), z2⟩
  | succ m ih =>
    intro dp D X A mm pd b h1 h2 hP hX hT hQ hA hm hpd hb
    obtain ⟨D, rfl⟩ : ∃ z, D = (z + 9) + 1 := ⟨D - 10, by omega⟩
    obtain ⟨X1, a1, a2, a3⟩ := reach_x (d := D) (I := I) (J := J) (F := F) (G := G) (k := dp) (jo := none) (by omega) hi hj hn7 hn h4 hk hp' hX hT hQ hA hm
    have hl := lB_len hn hA
    have hX1 : X1 70 = srO (.ref 4) (nI n) (nI i) (-2) (oI b) := by rw [a2 70 (by omega)]; exact hX
    have lp : ∀ (q k : Nat) (X : Nat → va_E) (b' : Option Nat) (v4 v5 : Value), P - k = q → k ≤ P → b' = omin b (So (fun k => mnT (fun A => rcT kd pt i none n none A) pr P m (swA A k) (pd + cst pr A k)) k) → X 70 = srO (.ref 4) (nI n) (nI i) (-2) (oI b') → TT X → QX X (77 + 4 * dp) A → (∀ x, b' = some x → x < 1000) →
        ∃ X', ex cdX8_lookForCheaper (rn (D + 9)) 52 [.ref 70, .int (nI dp), .int (nI pd), .int (nI k), v4, v5] [] (hp I J F G X) = some (none, hp I J F G X') ∧ X' 70 = srO (.ref 4) (nI n) (nI i) (-2) (oI (omin b (So (fun k => mnT (fun A => rcT kd pt i none n none A) pr P m (swA A k) (pd + cst pr A k)) P))) ∧ TT X' ∧ (∀ x, omin b (So (fun k => mnT (fun A => rcT kd pt i none n none A) pr P m (swA A k) (pd + cst pr A k)) P) = some x → x < 1000) ∧ ∀ k, (k < 70 ∨ k = 71 ∨ k = 76 ∨ (77 ≤ k ∧ k < 77 + 4 * (dp + 1)) ∨ 93 ≤ k) → X' k = X k := by
      intro q
      induction q with
      | zero =>
        intro k X b' v4 v5 g1 g2 hb' hX hT hQ hbb
        have : k = P := by omega
        subst this
        rw [← hb']
        refine ⟨X, ?_, hX, hT, hbb, fun _ _ => rfl⟩
        rw [xX8_lookForCheaper_52, gRx (by decide) (by decide) hX rfl, Option.bind_some, tstp hT (by omega), Option.bind_some, QX_size (by omega) (by omega) hQ, Option.bind_some, nI_1, if_pos (nI_le (by omega) (by omega))]
      | succ q ihq =>
        intro k X b' v4 v5 g1 g2 hb' hX hT hQ hbb
        have hkL : k + 1 < A.1.length := by omega
        obtain ⟨X2, b1, b2, b3, b4⟩ := tradeAt_x (d := D + 6) (I := I) (J := J) (F := F) (G := G) (X := X) (k := dp) (v := k) (by omega) hX hT hQ hn hA hkL
        have hX2 : X2 70 = srO (.ref 4) (nI n) (nI i) (-2) (oI b') := by rw [b3 70 (by omega)]; exact hX
        have hc18 := cst_le (pr := pr) hA (fun i hi => (hpr i hi).2) hkL
        obtain ⟨y, y1, y2, y3⟩ := nth_at (A := A) (k := k) (by omega)
        obtain ⟨x, x1, x2, x3⟩ := nth_at (A := A) (k := k + 1) hkL
        have hy := hA.2.1 y y3
        have hx := hA.2.1 x x3
        have hcst : cst pr A k = pr y + pr x := by unfold cst; rw [y2, x2]
        obtain ⟨X3, c1, c2, c3, c4, c5⟩ := ih (dp + 1) (D + 9) X2 (swA A k) mm (pd + cst pr A k) b' (by omega) (by omega) (by rw [swA_len hkL]; exact hP) hX2 b4 b2 (swA_lB hA hkL) hm (by omega) hbb
        have fr : ∀ j, (j < 70 ∨ j = 71 ∨ j = 76 ∨ (77 ≤ j ∧ j < 77 + 4 * (dp + 1)) ∨ 93 ≤ j) → X3 j = X j := fun j hj => by rw [c5 j (by omega), b3 j (by omega)]
        obtain ⟨X4, u1, u2⟩ := ihq (k + 1) X3 (omin b' (mnT (fun A => rcT kd pt i none n none A) pr P m (swA A k) (pd + cst pr A k))) (.int (nI y)) (.int (nI x)) (by omega) (by omega) (by rw [hb', omin_as]; rfl) c2 c3 (QX_kp hQ (fun j j1 j2 => fr j (by omega))) c4
        refine ⟨X4, ?_, u2.1, u2.2.1, u2.2.2.1, fun j hj => by rw [u2.2.2.2 j hj, fr j hj]⟩
        obtain ⟨o, w, g, e0, e1, e2, e3, e4, e5⟩ := hQ
        have ha1 : aI 0 (hp I J F G X) (77 + 4 * dp + 1) (nI k) = some (nI y) := by rw [aIx (by omega) (by omega) e1 (by omega) (by decide), e4 k y y1]
        have ha2 : aI 0 (hp I J F G X) (77 + 4 * dp + 1) (nI (k + 1)) = some (nI x) := by rw [aIx (by omega) (by omega) e1 (by omega) (by decide), e4 (k + 1) x x1]
        have hs : gI (hp I J F G X) (77 + 4 * dp) 5 3 = some (nI A.1.length) := gIx (by omega) (by omega) e0 rfl
        have h0 : gR (hp I J F G X) (77 + 4 * dp) 5 0 = some (77 + 4 * dp + 1) := gRx (by omega) (by omega) e0 rfl
        rw [xX8_lookForCheaper_52, gRx (by decide) (by decide) hX rfl, Option.bind_some, tstp hT (by omega), Option.bind_some, hs, Option.bind_some, nI_1, if_neg (nI_ge (by omega) (by omega)), Option.bind_some, tstp hT (by omega), Option.bind_some, h0, Option.bind_some, ha1, Option.bind_some, Option.bind_some, tstp hT (by omega), Option.bind_some, h0, Option.bind_some, ha2, Option.bind_some, if_pos (isOx (by decide) (by decide) hX), b1, Option.bind_some, gRx (by decide) (by decide) hX2 rfl, Option.bind_some, x_c2, Option.bind_some, x_g7 (by omega), Option.bind_some, Option.bind_some, x_c2, Option.bind_some, x_g7 (by omega), Option.bind_some, if_pos (isOx (by decide) (by decide) hX2), (hpr y hy).1, (hpr x hx).1, nI_add, nI_add, nI_1, Nat.add_assoc pd, ← hcst, c1, Option.bind_some]
        exact u1
    have go25 : (b = none ∨ ∃ x, b = some x ∧ pd < x) → ∃ X', ex cdX8_lookForCheaper (rn (D + 9)) 25 [.ref 70, .int (nI dp), .int (nI pd), .null, .null, .null] [] (hp I J F G X) = some (none, hp I J F G X') ∧ X' 70 = srO (.ref 4) (nI n) (nI i) (-2) (oI (omin b (mnT (fun A => rcT kd pt i none n none A) pr P (m + 1) A pd))) ∧ TT X' ∧ (∀ x, omin b (mnT (fun A => rcT kd pt i none n none A) pr P (m + 1) A pd) = some x → x < 1000) ∧ ∀ k, (k < 70 ∨ k = 71 ∨ k = 76 ∨ (77 ≤ k ∧ k < 77 + 4 * (dp + 1)) ∨ 93 ≤ k) → X' k = X k := by
      intro hok
      rw [xX8_lookForCheaper_25, gRx (by decide) (by decide) hX rfl, Option.bind_some, tstp hT (by omega), Option.bind_some, if_pos (isOx (by decide) (by decide) hX), a1, Option.bind_some]
      cases hr : rcT kd pt i none n none A with
      | false =>
        have hmn : mnT (fun A => rcT kd pt i none n none A) pr P (m + 1) A pd = So (fun k => mnT (fun A => rcT kd pt i none n none A) pr P m (swA A k) (pd + cst pr A k)) P := by
          show omin (if rcT kd pt i none n none A = true then some pd else none) _ = _
          rw [if_neg (by rw [hr]; decide)]
          rfl
        rw [hmn]
        obtain ⟨X2, u1, u2, u3, u4, u5⟩ := lp P 0 X1 b .null .null (by omega) (by omega) (omin_n b).symm hX1 a3 (QX_kp hQ (fun j j1 j2 => a2 j (by omega))) hb
        rw [nI_0] at u1
        refine ⟨X2, ?_, u2, u3, u4, fun k hk => by rw [u5 k hk, a2 k (by omega)]⟩
        rw [if_pos (by rfl), if_pos (show nI dp < 3 from nI_lt (b := 3) (by omega) (by decide))]
        exact u1
      | true =>
        rw [mn_R (R := fun A => rcT kd pt i none n none A) (m + 1) hr]
        obtain ⟨X2, b1, b2, b3⟩ := pFy (I := I) (J := J) (F := F) (G := G) (X := X1) (k := 70) (j := 6) (v := .int (nI pd)) (by decide) (by decide) hX1 (Nat.le_of_ble_eq_true rfl)
        have hom : omin b (some pd) = some pd := by
          rcases hok with rfl | ⟨x, rfl, hx⟩
          · rfl
          · show some (min x pd) = some pd
            rw [Nat.min_eq_right (by omega)]
        rw [hom]
        refine ⟨X2, ?_, ?_, TT_ne a3 (fun k k1 _ => b3 k k1), fun x hx => by cases hx; omega, fun k hk => by rw [b3 k (by omega), a2 k (by omega)]⟩
        · rw [if_neg (show ¬ bI true = 0 by decide), b1, Option.bind_some]
        · rw [b2]; rfl
    have key : ∃ X', ex cdX8_lookForCheaper (rn (D + 9)) 0 [.ref 70, .int (nI dp), .int (nI pd), .null, .null, .null] [] (hp I J F G X) = some (none, hp I J F G X') ∧ X' 70 = srO (.ref 4) (nI n) (nI i) (-2) (oI (omin b (mnT (fun A => rcT kd pt i none n none A) pr P (m + 1) A pd))) ∧ TT X' ∧ (∀ x, omin b (mnT (fun A => rcT kd pt i none n none A) pr P (m + 1) A pd) = some x → x < 1000) ∧ ∀ k, (k < 70 ∨ k = 71 ∨ k = 76 ∨ (77 ≤ k ∧ k < 77 + 4 * (dp + 1)) ∨ 93 ≤ k) → X' k = X k := by
      rw [xX8_lookForCheaper_0, gRx (by decide) (by decide) hX rfl, Option.bind_some, gIx (by decide) (by decide) hX rfl, Option.bind_some]
      cases b with
      | none => rw [if_pos (show oI none = -9 from rfl)]; exact go25 (Or.inl rfl)
      | some x =>
        have hx := hb x rfl
        rw [if_neg (show ¬ oI (some x) = -9 from nI_ne9 (by omega)), Option.bind_some]
        by_cases c : pd < x
        · rw [if_pos (show nI pd < oI (some x) from nI_lt c (by omega))]
          exact go25 (Or.inr ⟨x, rfl, c⟩)
        · rw [if_neg (show ¬ nI pd < oI (some x) from nI_nlt (by omega) (by omega)), omin_le (c := pd) (fun y hy => mn_ge (m + 1) _ _ y hy) (by omega)]
          exact ⟨X, rfl, hX, hT, hb, fun _ _ => rfl⟩
    obtain ⟨X', z1, z2⟩ := key
    exact ⟨X', cVo (by rw [rX8_lookForCheaper]; exact z1), z2⟩
end TB
