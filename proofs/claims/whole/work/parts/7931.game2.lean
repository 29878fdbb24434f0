/-! the game: the component -/
def gmO (vc : Value) (i n : Int32) : va_E := .inr (0, [.ref 94, vc, .int i, .int n])
def GT (X : Nat → va_E) : Prop := (∃ f, X 94 = arR 7 9 f ∧ ∀ k, k < 9 → f k = some (95 + 4 * k)) ∧ ∀ k, k < 9 → Qsh X (95 + 4 * k)
def okG (kd pt : Nat → Nat) (i m cl : Nat) (p : Option Nat × LSt) : Bool := twO (tvG kd pt i m cl) (if p.1 = some i then none else some p.2)
def tBG (kd pt : Nat → Nat) (i m cl : Nat) (B : LSt) : Bool := okG kd pt i m cl (passA kd pt B true) && (decide (cl = 0) || okG kd pt i m (cl - 1) (passA kd pt B false))
theorem tvG_B (kd pt : Nat → Nat) (i m cl : Nat) (A : LSt) : tvG kd pt i (m + 1) cl A = (tBG kd pt i m cl A || tBG kd pt i m cl (trB i 2 A)) := by
  have e3 : trB i 3 A = trB i 2 A := by unfold trB; rw [if_neg (by decide), if_neg (by decide)]
  rw [tvG_s]
  unfold stG
  rw [e3, trB_0 (d := 0) (Or.inl (by decide)), trB_0 (d := 1) (Or.inl (by decide))]
  rfl
section GC
variable {I : Nat → Int32} {J : Nat → Int64} {F : Nat → Nat → Int32} {G : Nat → Int64} {X : Nat → va_E} {np : Nat} {kd pt : Nat → Nat}
theorem GT_q {X' : Nat → va_E} {k : Nat} (hk : k < 9) (h : GT X) (hf : FX X X' (95 + 4 * k)) (hq : Qsh X' (95 + 4 * k)) : GT X' := by
  obtain ⟨⟨f, a, b⟩, e⟩ := h
  refine ⟨⟨f, by rw [hf 94 (by omega)]; exact a, b⟩, fun j hj => ?_⟩
  by_cases z : j = k
  · subst z; exact hq
  · exact Qsh_fr (e j hj) hf (by unfold apart4; omega)
theorem GT_ne {X' : Nat → va_E} (h : GT X) (hf : ∀ i, i ≠ 93 → X' i = X i) : GT X' := by
  obtain ⟨⟨f, a, b⟩, e⟩ := h
  refine ⟨⟨f, by rw [hf 94 (by decide)]; exact a, b⟩, fun k hk => ?_⟩
  obtain ⟨o, w, g, s, n, u, e0, e1, e2, e3⟩ := e k hk
  exact ⟨o, w, g, s, n, u, by rw [hf _ (by omega)]; exact e0, by rw [hf _ (by omega)]; exact e1, by rw [hf _ (by omega)]; exact e2, by rw [hf _ (by omega)]; exact e3⟩
theorem gstp {k : Nat} (h : GT X) (hk : k < 9) : aR 7 (hp I J F G X) 94 (nI k) = some (95 + 4 * k) := by
  obtain ⟨⟨f, a, b⟩, -⟩ := h
  exact aRx (by decide) (by decide) a hk (by decide) (b k hk)
theorem swapR_x {d q v m : Nat} {A : LSt} (h1 : 23 ≤ q) (h2 : q + 3 < 140) (hQ : QX X q A) (hn : np ≤ 7) (hA : lB np m A) (hv : v + 1 < A.1.length) : ∃ X', cV (rn (d + 1)) 46 [.ref q, .int (nI (v + 1)), .int (nI v)] (hp I J F G X) = some (hp I J F G X') ∧ QX X' q (swA A v) ∧ FX X X' q := by
  have hl := lB_len hn hA
  obtain ⟨L, wt, wn, nt, gu⟩ := A
  obtain ⟨o, w, g, e0, e1, e2, e3, e4, e5⟩ := hQ
  have hH : putQ (hp I J F G X) q o w g (nI L.length) (nI nt) gu = (hp I J F G X) := putQ_same ((hp_x h1 (by omega)).trans (congrArg some e0)) ((hp_x (by omega) (by omega)).trans (congrArg some e1)) ((hp_x (by omega) (by omega)).trans (congrArg some e2)) ((hp_x (by omega) (by omega)).trans (congrArg some e3))
  have sw := swap_s (d := d + 1) (h := (hp I J F G X)) (q := q) (w := w) (g := g) (n := nI nt) (u := gu) (o := o) (a := v + 1) (b := v) (m := L.length) (by omega) (by rw [hp_len]; omega) hv (by dsimp only at hv; omega) hl
  rw [hH, hp_qx h1 h2] at sw
  refine ⟨_, sw, ⟨_, _, _, ?_, qX_1, qX_2, qX_3, ?_, e5⟩, qX_fr⟩
  · rw [qX_0]
    show oQ q (nI L.length) _ _ = oQ q (nI (swL L v).length) _ _
    rw [swL_len hv]
    rfl
  · dsimp only at hv e4
    obtain ⟨A, y, x, B, rfl, rfl⟩ := sw_split hv
    have := oL_swap e4
    show oL _ (swL _ _)
    rw [swL_app]
    exact this
theorem c2m (k : Nat) : (2 : Int32) * nI k = nI (2 * k) := pk_mul 2 k
theorem wonF_x {n i : Nat} (hi : i < 7) (hn4 : n ≤ 4) (hn : np ≤ 7) (h4 : I 4 = nI np) (hk : kOK (F 5) kd np) (hp' : ∀ k, k < np → F 6 k = nI (pt k) ∧ pt k < 1000) : ∀ (m dp D : Nat) (X : Nat → va_E) (A : LSt) (mm cl : Nat), dp + m = n → 2 * m + 14 ≤ D → X 93 = gmO (.ref 4) (nI i) (nI n) → GT X → QX X (95 + 4 * (2 * dp)) A → lB np mm A → mm + m < 900 → cl < 1000 →
    ∃ X', cI (rn D) 7 [.ref 93, .int (nI dp), .int (nI cl)] (hp I J F G X) = some (bI (tvG kd pt i m cl A), hp I J F G X') ∧ GT X' ∧ ∀ k, (k < 95 ∨ (95 ≤ k ∧ k < 95 + 4 * (2 * dp + 1)) ∨ 131 ≤ k) → X' k = X k := by
  intro m
  induction m with
  | zero =>
    intro dp D X A mm cl h1 h2 hX hT hQ hA hm hcl
    obtain ⟨D, rfl⟩ : ∃ z, D = z + 1 := ⟨D - 1, by omega⟩
    refine ⟨X, ?_, hT, fun _ _ => rfl⟩
    refine cIo ?_
    rw [rX0_isWonFrom, xX0_isWonFrom_0, gIx (by decide) (by decide) hX rfl, Option.bind_some, if_pos (nI_le (by omega) (by omega))]
    rfl
  | succ m ih =>
    intro dp D X A mm cl h1 h2 hX hT hQ hA hm hcl
    -- one kind of night
    have one : ∀ (D k bd : Nat) (X : Nat → va_E) (B : LSt) (v5 v6 : Value), 2 * m + 14 ≤ D → k < 2 → k < bd → bd ≤ 2 → k ≤ cl → X 93 = gmO (.ref 4) (nI i) (nI n) → GT X → QX X (95 + 4 * (2 * dp + 1)) B → lB np mm B →
        ∃ X' w5 w6, ex cdX0_isWonBehindTrade (rn D) 13 [.ref 93, .int (nI dp), .int (nI cl), .int (nI bd), .int (nI k), v5, v6] [] (hp I J F G X) = (if okG kd pt i m (cl - k) (passA kd pt B (decide (k = 0))) = true then ex cdX0_isWonBehindTrade (rn D) 13 [.ref 93, .int (nI dp), .int (nI cl), .int (nI bd), .int (nI (k + 1)), w5, w6] [] (hp I J F G X') else some (some (.int 0), hp I J F G X')) ∧ GT X' ∧ ∀ k, (k < 95 ∨ (95 ≤ k ∧ k < 95 + 4 * (2 * dp + 2)) ∨ 131 ≤ k) → X' k = X k := by
      intro D k bd X B v5 v6 hD hk2 hkb hb2 hkc hX hT hQ hB
      obtain ⟨D, rfl⟩ : ∃ z, D = z + 14 := ⟨D - 14, by omega⟩
      obtain ⟨X1, a1, a2, a3⟩ := setXX_x (d := D + 12) (I := I) (J := J) (F := F) (G := G) (X := X) (q := 95 + 4 * (2 * dp + 2)) (p := 95 + 4 * (2 * dp + 1)) (by omega) (by omega) (by omega) (by omega) (by unfold apart4; omega) hn hB hQ (hT.2 (2 * dp + 2) (by omega))
      obtain ⟨X2, b1, b2, b3⟩ := passX_x (d := D + 6) (I := I) (J := J) (F := F) (G := G) (X := X1) (q := 95 + 4 * (2 * dp + 2)) (by omega) (by omega) a2 hn h4 hk hp' hB (by omega) (decide (k = 0))
      have hB2 := passA_lB kd pt (decide (k = 0)) hB
      have hlt : ∀ x, (passA kd pt B (decide (k = 0))).1 = some x → x < 7 := fun x hx => Nat.lt_of_lt_of_le (passA_lt (kd := kd) (pt := pt) (z := x) hB hx) hn
      generalize passA kd pt B (decide (k = 0)) = p at b1 b2 hB2 hlt
      have hX1 : X1 93 = gmO (.ref 4) (nI i) (nI n) := by rw [a3 93 (by omega)]; exact hX
      have hX2 : X2 93 = gmO (.ref 4) (nI i) (nI n) := by rw [b3 93 (by omega)]; exact hX1
      have hT2 : GT X2 := GT_q (k := 2 * dp + 2) (by omega) (GT_q (k := 2 * dp + 2) (by omega) hT a3 (QX_sh a2)) b3 (QX_sh b2)
      have fr2 : ∀ k, (k < 95 ∨ (95 ≤ k ∧ k < 95 + 4 * (2 * dp + 2)) ∨ 131 ≤ k) → X2 k = X k := fun k hk => by rw [b3 k (by omega), a3 k (by omega)]
      obtain ⟨X3, c1, c2, c3⟩ := ih (dp + 1) (D + 14) X2 p.2 (mm + 1) (cl - k) (by omega) (by omega) hX2 hT2 (by rw [show 2 * (dp + 1) = 2 * dp + 2 by omega]; exact b2) hB2 (by omega) (by omega)
      have q2 : ∀ X' : Nat → va_E, GT X' → aR 7 (hp I J F G X') 94 (2 * nI dp + 2) = some (95 + 4 * (2 * dp + 2)) := fun X' h => by
        rw [c2m, show nI (2 * dp) + 2 = nI (2 * dp + 2) from nI_add _ 2]; exact gstp h (by omega)
      have q1 : ∀ X' : Nat → va_E, GT X' → aR 7 (hp I J F G X') 94 (2 * nI dp + 1) = some (95 + 4 * (2 * dp + 1)) := fun X' h => by
        rw [c2m, nI_1]; exact gstp h (by omega)
      have mid : ∃ w6, ex cdX0_isWonBehindTrade (rn (D + 14)) 13 [.ref 93, .int (nI dp), .int (nI cl), .int (nI bd), .int (nI k), v5, v6] [] (hp I J F G X) = ex cdX0_isWonBehindTrade (rn (D + 14)) 77 [.ref 93, .int (nI dp), .int (nI cl), .int (nI bd), .int (nI k), .ref (95 + 4 * (2 * dp + 2)), w6] [.int (bI (decide (p.1 = some i)))] (hp I J F G X2) := by
        refine ⟨v6, ?_⟩
        have e62 : ex cdX0_isWonBehindTrade (rn (D + 14)) 62 [.ref 93, .int (nI dp), .int (nI cl), .int (nI bd), .int (nI k), .ref (95 + 4 * (2 * dp + 2)), v6] [.int (bI (decide (k = 0))), .ref 4, .ref (95 + 4 * (2 * dp + 2))] (hp I J F G X1) = ex cdX0_isWonBehindTrade (rn (D + 14)) 77 [.ref 93, .int (nI dp), .int (nI cl), .int (nI bd), .int (nI k), .ref (95 + 4 * (2 * dp + 2)), v6] [.int (bI (decide (p.1 = some i)))] (hp I J F G X2) := by
          rw [xX0_isWonBehindTrade_62, if_pos (QX_is (by omega) (by omega) a2), b1, Option.bind_some, gIx (by decide) (by decide) hX2 rfl, Option.bind_some]
          by_cases e : p.1 = some i
          · rw [if_pos ((oI_iq hlt hi).mpr e), decide_eq_true e]; rfl
          · rw [if_neg (fun z => e ((oI_iq hlt hi).mp z)), decide_eq_false e]; rfl
        rw [xX0_isWonBehindTrade_13, if_neg (nI_ge hkb (by omega)), gRx (by decide) (by decide) hX rfl, Option.bind_some, q2 X hT, Option.bind_some, Option.bind_some, q1 X hT, Option.bind_some, if_pos (Qsh_is (by omega) (by omega) (hT.2 (2 * dp + 2) (by omega))), a1, Option.bind_some, gRx (by decide) (by decide) hX1 rfl, Option.bind_some]
        rcases (show k = 0 ∨ k = 1 by omega) with e | e
        · subst e; rw [if_pos (by rfl)]; exact e62
        · subst e; rw [if_neg (by decide)]; exact e62
      obtain ⟨w6, mid⟩ := mid
      rw [mid, xX0_isWonBehindTrade_77]
      unfold okG
      by_cases e : p.1 = some i
      · refine ⟨X2, .ref (95 + 4 * (2 * dp + 2)), .int (bI true), ?_, hT2, fr2⟩
        rw [decide_eq_true e, if_neg (show ¬ bI true = 0 by decide), if_pos e, if_pos (show twO (tvG kd pt i m (cl - k)) none = true from rfl), nI_1]
      · rw [decide_eq_false e, if_pos (by rfl), if_pos (isOx (by decide) (by decide) hX2), nI_1, pk_sub hkc, c1, Option.bind_some, if_neg e]
        show ∃ X' w5 w6, _ = (if tvG kd pt i m (cl - k) p.2 = true then _ else _) ∧ _
        refine ⟨X3, .ref (95 + 4 * (2 * dp + 2)), .int (bI false), ?_, c2, fun j hj => by rw [c3 j (by omega), fr2 j hj]⟩
        cases tvG kd pt i m (cl - k) p.2 with
        | false => rw [if_pos (by rfl), if_neg (by decide)]
        | true => rw [if_neg (show ¬ bI true = 0 by decide), if_pos rfl, nI_1]
    -- behind the trade
    have beh : ∀ (D : Nat) (X : Nat → va_E) (B : LSt), 2 * m + 15 ≤ D → X 93 = gmO (.ref 4) (nI i) (nI n) → GT X → QX X (95 + 4 * (2 * dp + 1)) B → lB np mm B →
        ∃ X', cI (rn D) 8 [.ref 93, .int (nI dp), .int (nI cl)] (hp I J F G X) = some (bI (tBG kd pt i m cl B), hp I J F G X') ∧ GT X' ∧ ∀ k, (k < 95 ∨ (95 ≤ k ∧ k < 95 + 4 * (2 * dp + 2)) ∨ 131 ≤ k) → X' k = X k := by
      intro D X B hD hX hT hQ hB
      obtain ⟨D, rfl⟩ : ∃ z, D = z + 1 := ⟨D - 1, by omega⟩
      obtain ⟨bd, hbd⟩ : ∃ bd, bd = if cl = 0 then 1 else 2 := ⟨_, rfl⟩
      have hb12 : 0 < bd ∧ bd ≤ 2 := by rw [hbd]; split <;> omega
      obtain ⟨X1, w5, w6, a1, a2, a3⟩ := one D 0 bd X B .null .null (by omega) (by decide) hb12.1 hb12.2 (by omega) hX hT hQ hB
      have st : ∀ R : mR, ex cdX0_isWonBehindTrade (rn D) 13 [.ref 93, .int (nI dp), .int (nI cl), .int (nI bd), .int (nI 0), .null, .null] [] (hp I J F G X) = R → rn (D + 1) 8 [.ref 93, .int (nI dp), .int (nI cl)] (hp I J F G X) = R := by
        intro R hR
        rw [rX0_isWonBehindTrade, xX0_isWonBehindTrade_0]
        by_cases e : cl = 0
        · rw [if_pos e] at hbd
          rw [if_pos (show nI cl ≤ 0 by rw [e]; decide)]
          rw [hbd] at hR
          exact hR
        · rw [if_neg e] at hbd
          rw [if_neg (nI_nle (by omega) (by omega))]
          rw [hbd] at hR
          exact hR
      have e0 : okG kd pt i m (cl - 0) (passA kd pt B (decide (0 = 0))) = okG kd pt i m cl (passA kd pt B true) := rfl
      rw [e0] at a1
      unfold tBG
      cases h0 : okG kd pt i m cl (passA kd pt B true) with
      | false =>
        rw [h0, if_neg (by decide)] at a1
        exact ⟨X1, cIo (st _ a1), a2, a3⟩
      | true =>
        rw [h0, if_pos rfl] at a1
        by_cases e : cl = 0
        · rw [if_pos e] at hbd
          subst hbd
          refine ⟨X1, cIo (st _ ?_), a2, a3⟩
          rw [a1, xX0_isWonBehindTrade_13, if_pos (nI_le (Nat.le_refl _) (by decide)), decide_eq_true e]
          rfl
        · rw [if_neg e] at hbd
          subst hbd
          obtain ⟨X2, u5, u6, b1, b2, b3⟩ := one D 1 2 X1 B w5 w6 (by omega) (by decide) (by decide) (by decide) (by omega) (by rw [a3 93 (by omega)]; exact hX) a2 (QX_kp hQ (fun j j1 j2 => a3 j (by omega))) hB
          have e1 : okG kd pt i m (cl - 1) (passA kd pt B (decide (1 = 0))) = okG kd pt i m (cl - 1) (passA kd pt B false) := rfl
          rw [e1] at b1
          refine ⟨X2, cIo (st _ ?_), b2, fun k hk => by rw [b3 k hk, a3 k hk]⟩
          rw [a1, b1, decide_eq_false e, Bool.false_or, Bool.true_and]
          cases okG kd pt i m (cl - 1) (passA kd pt B false) with
          | false => rw [if_neg (by decide)]; rfl
          | true => rw [if_pos rfl, xX0_isWonBehindTrade_13, if_pos (nI_le (Nat.le_refl _) (by decide))]; rfl
    obtain ⟨D, rfl⟩ : ∃ z, D = (z + 14) + 1 := ⟨D - 15, by omega⟩
    have hl := lB_len hn hA
    have q0 : ∀ X' : Nat → va_E, GT X' → aR 7 (hp I J F G X') 94 (nI (2 * dp)) = some (95 + 4 * (2 * dp)) := fun X' h => gstp h (by omega)
    have q1 : ∀ X' : Nat → va_E, GT X' → aR 7 (hp I J F G X') 94 (nI (2 * dp) + 1) = some (95 + 4 * (2 * dp + 1)) := fun X' h => by
        rw [nI_1]; exact gstp h (by omega)
    have pl := placeX (d := D + 13) (I := I) (J := J) (F := F) (G := G) (X := X) (q := 95 + 4 * (2 * dp)) (by omega) (by omega) hQ hn hA hi
    have start : ∀ R : mR, (if oI (plc A.1 i) = (-9) then (some (some (.int 0), (hp I J F G X))) else ((gR (hp I J F G X) 93 0 0).bind fun q7 => (aR 7 (hp I J F G X) q7 (nI (2 * dp) + 1)).bind fun q8 => (gR (hp I J F G X) 93 0 0).bind fun q9 => (aR 7 (hp I J F G X) q9 (nI (2 * dp))).bind fun q10 => if isO (hp I J F G X) q8 5 = true then ((cV (rn (D + 14)) 42 [.ref q8, .ref q10] (hp I J F G X)).bind fun h11 => if isO h11 93 0 = true then ((cI (rn (D + 14)) 8 [.ref 93, .int (nI dp), .int (nI cl)] h11).bind fun p12 => if p12.1 = 0 then (if oI (plc A.1 i) = 0 then (some (some (.int 0), p12.2)) else (if isO p12.2 q8 5 = true then ((cV (rn (D + 14)) 46 [.ref q8, .int (oI (plc A.1 i)), .int (oI (plc A.1 i) - 1)] p12.2).bind fun h13 => if isO h13 93 0 = true then ((cI (rn (D + 14)) 8 [.ref 93, .int (nI dp), .int (nI cl)] h13).bind fun p14 => if p14.1 &&& 1 = p14.1 then some (some (.int p14.1), p14.2) else none) else none) else none)) else (some (some (.int 1), p12.2))) else none) else none)) = R → rn (D + 14 + 1) 7 [.ref 93, .int (nI dp), .int (nI cl)] (hp I J F G X) = R := by
      intro R hR
      rw [rX0_isWonFrom, xX0_isWonFrom_0, gIx (by decide) (by decide) hX rfl, Option.bind_some, if_neg (nI_ge (by omega) (by omega)), gRx (by decide) (by decide) hX rfl, Option.bind_some, gRx (by decide) (by decide) hX rfl, Option.bind_some, c2m, q0 X hT, Option.bind_some, gIx (by decide) (by decide) hX rfl, Option.bind_some, if_pos (QX_is (by omega) (by omega) hQ), pl, Option.bind_some]
      exact hR
    cases hpl : plc A.1 i with
    | none =>
      refine ⟨X, cIo (start _ ?_), hT, fun _ _ => rfl⟩
      rw [hpl, if_pos oI_none, tvG_gone (m + 1) mm cl A hA (plc_none hpl)]
      rfl
    | some k =>
      have hkl := plc_lt hpl
      rw [hpl] at start
      obtain ⟨X1, a1, a2, a3⟩ := setXX_x (d := D + 12) (I := I) (J := J) (F := F) (G := G) (X := X) (q := 95 + 4 * (2 * dp + 1)) (p := 95 + 4 * (2 * dp)) (by omega) (by omega) (by omega) (by omega) (by unfold apart4; omega) hn hA hQ (hT.2 (2 * dp + 1) (by omega))
      have hX1 : X1 93 = gmO (.ref 4) (nI i) (nI n) := by rw [a3 93 (by omega)]; exact hX
      have hT1 : GT X1 := GT_q (k := 2 * dp + 1) (by omega) hT a3 (QX_sh a2)
      obtain ⟨X2, b1, b2, b3⟩ := beh (D + 14) X1 A (by omega) hX1 hT1 a2 hA
      have hX2 : X2 93 = gmO (.ref 4) (nI i) (nI n) := by rw [b3 93 (by omega)]; exact hX1
      have fr2 : ∀ k, (k < 95 ∨ (95 ≤ k ∧ k < 95 + 4 * (2 * dp + 1)) ∨ 131 ≤ k) → X2 k = X k := fun k hk => by rw [b3 k (by omega), a3 k (by omega)]
      have start2 : ∀ R : mR, (if bI (tBG kd pt i m cl A) = 0 then (if nI k = 0 then (some (some (.int 0), hp I J F G X2)) else (if isO (hp I J F G X2) (95 + 4 * (2 * dp + 1)) 5 = true then ((cV (rn (D + 14)) 46 [.ref (95 + 4 * (2 * dp + 1)), .int (nI k), .int (nI k - 1)] (hp I J F G X2)).bind fun h13 => if isO h13 93 0 = true then ((cI (rn (D + 14)) 8 [.ref 93, .int (nI dp), .int (nI cl)] h13).bind fun p14 => if p14.1 &&& 1 = p14.1 then some (some (.int p14.1), p14.2) else none) else none) else none)) else (some (some (.int 1), hp I J F G X2))) = R → rn (D + 14 + 1) 7 [.ref 93, .int (nI dp), .int (nI cl)] (hp I J F G X) = R := by
        intro R hR
        refine start _ ?_
        rw [if_neg (show ¬ oI (some k) = -9 from nI_ne9 (k := k) (by omega)), gRx (by decide) (by decide) hX rfl, Option.bind_some, q1 X hT, Option.bind_some, Option.bind_some, q0 X hT, Option.bind_some, if_pos (Qsh_is (by omega) (by omega) (hT.2 (2 * dp + 1) (by omega))), a1, Option.bind_some, if_pos (isOx (by decide) (by decide) hX1), b1, Option.bind_some]
        exact hR
      rw [tvG_B]
      cases hb : tBG kd pt i m cl A with
      | true =>
        rw [hb] at start2
        exact ⟨X2, cIo (start2 _ (by rw [if_neg (show ¬ bI true = 0 by decide)]; rfl)), b2, fr2⟩
      | false =>
        rw [hb] at start2
        cases k with
        | zero =>
          rw [trB_0 (Or.inr (Or.inr hpl)), hb]
          exact ⟨X2, cIo (start2 _ (by rw [if_pos (by rfl), if_pos (by rfl)]; rfl)), b2, fr2⟩
        | succ k =>
          rw [trB_at (by decide) hpl, Bool.false_or]
          obtain ⟨X3, c1, c2, c3⟩ := swapR_x (d := D + 13) (I := I) (J := J) (F := F) (G := G) (X := X2) (q := 95 + 4 * (2 * dp + 1)) (by omega) (by omega) (QX_kp a2 (fun j j1 j2 => b3 j (by omega))) hn hA hkl
          have hX3 : X3 93 = gmO (.ref 4) (nI i) (nI n) := by rw [c3 93 (by omega)]; exact hX2
          obtain ⟨X4, d1, d2, d3⟩ := beh (D + 14) X3 (swA A k) (by omega) hX3 (GT_q (k := 2 * dp + 1) (by omega) b2 c3 (QX_sh c2)) c2 (swA_lB hA hkl)
          refine ⟨X4, cIo (start2 _ ?_), d2, fun j hj => by rw [d3 j (by omega), c3 j (by omega), fr2 j hj]⟩
          rw [if_pos (by rfl), if_neg (nI_ne0 (by omega) (by omega)), if_pos (Qsh_is (by omega) (by omega) (b2.2 (2 * dp + 1) (by omega))), nI_pred, c1, Option.bind_some, if_pos (isOx (by decide) (by decide) hX3), d1, Option.bind_some, if_pos (bI_and1 _)]
theorem gbegin_x {d n mm : Nat} {i : Int32} {A : LSt} (hS : ShG X) (hn4 : n ≤ 4) (hn : np ≤ 7) (hA : lB np mm A) (hQ : QN I F 12 np A) : ∃ X', cV (rn (d + 3)) 5 [.ref 93, .ref 4, .ref 12, .int i, .int (nI n)] (hp I J F G X) = some (hp I J F G X') ∧ X' 93 = gmO (.ref 4) i (nI n) ∧ GT X' ∧ QX X' 95 A ∧ ∀ k, (k < 93 ∨ 131 ≤ k) → X' k = X k := by
  obtain ⟨⟨vc, a, b, w1⟩, w2, w3⟩ := hS
  obtain ⟨X1, a1, a2, a3⟩ := pFy (I := I) (J := J) (F := F) (G := G) (k := 93) (j := 1) (v := .ref 4) (by decide) (by decide) w1 (Nat.le_of_ble_eq_true rfl)
  obtain ⟨X2, b1, b2, b3⟩ := pFy (I := I) (J := J) (F := F) (G := G) (X := X1) (k := 93) (j := 2) (v := .int i) (by decide) (by decide) a2 (Nat.le_of_ble_eq_true rfl)
  obtain ⟨X3, c1, c2, c3⟩ := pFy (I := I) (J := J) (F := F) (G := G) (X := X2) (k := 93) (j := 3) (v := .int (nI n)) (by decide) (by decide) b2 (Nat.le_of_ble_eq_true rfl)
  have fr : ∀ i, i ≠ 93 → X3 i = X i := fun i hi => by rw [c3 i hi, b3 i hi, a3 i hi]
  have hT : GT X3 := GT_ne (X := X) ⟨w2, w3⟩ fr
  obtain ⟨X4, d1, d2, d3⟩ := setX_x (d := d) (I := I) (J := J) (F := F) (G := G) (X := X3) (q := 95) (by decide) (by decide) hn hA hQ (hT.2 0 (by decide))
  refine ⟨X4, ?_, ?_, GT_q (k := 0) (by decide) hT d3 (QX_sh d2), d2, fun k hk => ?_⟩
  · refine cVo ?_
    have hs0 := gstp (I := I) (J := J) (F := F) (G := G) (k := 0) hT (by decide)
    rw [nI_0] at hs0
    rw [rX0_begin, xX0_begin_0, a1, Option.bind_some, b1, Option.bind_some, nat0, Option.bind_some, if_neg (show ¬ (4 : Int32) < nI n from fun z => by have := (nI_ltI (a := 4) (by decide) (by omega)).mp z; omega), c1, Option.bind_some, gRx (by decide) (by decide) c2 rfl, Option.bind_some, hs0, Option.bind_some, if_pos (Qsh_is (by decide) (by decide) (hT.2 0 (by decide))), d1, Option.bind_some]
  · rw [d3 93 (by omega), c2]; rfl
  · rw [d3 k (by omega), fr k (by omega)]
theorem ShX_G {X' : Nat → va_E} {vc : Value} {n i : Int32} (h : ShX X) (fr : ∀ k, (k < 93 ∨ 131 ≤ k) → X' k = X k) (h93 : X' 93 = gmO vc i n) (hT : GT X') : ShX X' := by
  obtain ⟨hW, hS, -, hR⟩ := h
  refine ⟨?_, ?_, ⟨⟨_, _, _, h93⟩, hT.1, hT.2⟩, ?_⟩
  · obtain ⟨t1, t2, t3, t4⟩ := hW
    refine ⟨by rw [fr 23 (by omega)]; exact t1, by rw [fr 24 (by omega)]; exact t2, by rw [fr 25 (by omega)]; exact t3, fun k hk => ?_⟩
    obtain ⟨o, w, g, s, n, u, e0, e1, e2, e3⟩ := t4 k hk
    exact ⟨o, w, g, s, n, u, by rw [fr _ (by omega)]; exact e0, by rw [fr _ (by omega)]; exact e1, by rw [fr _ (by omega)]; exact e2, by rw [fr _ (by omega)]; exact e3⟩
  · obtain ⟨t1, t2, t3, t4, t5⟩ := hS
    refine ⟨by rw [fr 70 (by omega)]; exact t1, by rw [fr 71 (by omega)]; exact t2, ?_, by rw [fr 76 (by omega)]; exact t4, fun k hk => ?_⟩
    · obtain ⟨o, w, g, s, n, u, e0, e1, e2, e3⟩ := t3
      exact ⟨o, w, g, s, n, u, by rw [fr _ (by omega)]; exact e0, by rw [fr _ (by omega)]; exact e1, by rw [fr _ (by omega)]; exact e2, by rw [fr _ (by omega)]; exact e3⟩
    · obtain ⟨o, w, g, s, n, u, e0, e1, e2, e3⟩ := t5 k hk
      exact ⟨o, w, g, s, n, u, by rw [fr _ (by omega)]; exact e0, by rw [fr _ (by omega)]; exact e1, by rw [fr _ (by omega)]; exact e2, by rw [fr _ (by omega)]; exact e3⟩
  · obtain ⟨t1, t2, t3⟩ := hR
    exact ⟨by rw [fr 131 (by omega)]; exact t1, by rw [fr 132 (by omega)]; exact t2, fun k hk => by rw [fr _ (by omega)]; exact t3 k hk⟩
end GC
