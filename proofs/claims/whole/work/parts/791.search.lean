/-! the search for trades: the component -/
def srO (vc : Value) (n i j e : Int32) : va_E := .inr (8, [.ref 71, .ref 72, vc, .int n, .int i, .int j, .int e, .ref 76])
def TT (X : Nat → va_E) : Prop := (∃ f, X 71 = arR 7 4 f ∧ ∀ k, k < 4 → f k = some (77 + 4 * k)) ∧ Qsh X 72 ∧ ∀ k, k < 4 → Qsh X (77 + 4 * k)
def folI (jo : Option Nat) : Int32 := match jo with
  | none => -2
  | some j => nI j
theorem oI_iq {w : Option Nat} {i : Nat} (hw : ∀ x, w = some x → x < 7) (hi : i < 7) : oI w = nI i ↔ w = some i := by
  cases w with
  | none => exact ⟨fun z => absurd (z.symm.trans oI_none) (nI_ne9 (by omega)), fun z => by cases z⟩
  | some x =>
    have hx := hw x rfl
    exact ⟨fun z => by rw [(nI_inj (by omega) (by omega)).mp z], fun z => by cases z; rfl⟩
theorem n7_m2 : ∀ j, j < 7 → ¬ nI j = (-2 : Int32) := by decide +kernel
section TS
variable {I : Nat → Int32} {J : Nat → Int64} {F : Nat → Nat → Int32} {G : Nat → Int64} {X : Nat → va_E} {np : Nat} {kd pt : Nat → Nat}
theorem aIx {k n i : Nat} {f : Nat → Int32} (h1 : 23 ≤ k) (h2 : k < 140) (h0 : X k = ar n f) (hi : i < n) (hn : n < 2 ^ 31) : aI 0 (hp I J F G X) k (nI i) = some (f i) := by
  rw [aI_at ((hp_x h1 h2).trans (congrArg some h0)) (vin_nI hi hn), nI_clamp (by omega)]
theorem sIx {k n i : Nat} {f : Nat → Int32} {x : Int32} (h1 : 23 ≤ k) (h2 : k < 140) (h0 : X k = ar n f) (hi : i < n) (hn : n < 2 ^ 31) : ∃ X', sI (hp I J F G X) k (nI i) x = some (hp I J F G X') ∧ X' k = ar n (upd f i x) ∧ ∀ j, j ≠ k → X' j = X j := by
  refine ⟨fun j => if j = k then ar n (upd f i x) else X j, ?_, if_pos rfl, fun _ hj => if_neg hj⟩
  rw [sI_at ((hp_x h1 h2).trans (congrArg some h0)) (vin_nI hi hn), nI_clamp (by omega), hp_sx h1 h2]
theorem TT_q {X' : Nat → va_E} {k : Nat} (hk : k < 4) (h : TT X) (hf : FX X X' (77 + 4 * k)) (hq : Qsh X' (77 + 4 * k)) : TT X' := by
  obtain ⟨⟨f, a, b⟩, c, e⟩ := h
  refine ⟨⟨f, by rw [hf 71 (by omega)]; exact a, b⟩, Qsh_fr c hf (by unfold apart4; omega), fun j hj => ?_⟩
  by_cases z : j = k
  · subst z; exact hq
  · exact Qsh_fr (e j hj) hf (by unfold apart4; omega)
theorem TT_72 {X' : Nat → va_E} (h : TT X) (hf : FX X X' 72) (hq : Qsh X' 72) : TT X' := by
  obtain ⟨⟨f, a, b⟩, c, e⟩ := h
  exact ⟨⟨f, by rw [hf 71 (by omega)]; exact a, b⟩, hq, fun j hj => Qsh_fr (e j hj) hf (by unfold apart4; omega)⟩
theorem TT_ne {X' : Nat → va_E} (h : TT X) (hf : ∀ i, i ≠ 70 → i ≠ 76 → X' i = X i) : TT X' := by
  obtain ⟨⟨f, a, b⟩, c, e⟩ := h
  refine ⟨⟨f, by rw [hf 71 (by decide) (by decide)]; exact a, b⟩, ?_, fun k hk => ?_⟩
  · obtain ⟨o, w, g, s, n, u, e0, e1, e2, e3⟩ := c
    exact ⟨o, w, g, s, n, u, by rw [hf _ (by omega) (by omega)]; exact e0, by rw [hf _ (by omega) (by omega)]; exact e1, by rw [hf _ (by omega) (by omega)]; exact e2, by rw [hf _ (by omega) (by omega)]; exact e3⟩
  · obtain ⟨o, w, g, s, n, u, e0, e1, e2, e3⟩ := e k hk
    exact ⟨o, w, g, s, n, u, by rw [hf _ (by omega) (by omega)]; exact e0, by rw [hf _ (by omega) (by omega)]; exact e1, by rw [hf _ (by omega) (by omega)]; exact e2, by rw [hf _ (by omega) (by omega)]; exact e3⟩
theorem QX_kp {X' : Nat → va_E} {q : Nat} {A : LSt} (h : QX X q A) (hf : ∀ k, q ≤ k → k < q + 4 → X' k = X k) : QX X' q A := by
  obtain ⟨o, w, g, h0, h1, h2, h3, h4⟩ := h
  exact ⟨o, w, g, by rw [hf _ (by omega) (by omega)]; exact h0, by rw [hf _ (by omega) (by omega)]; exact h1, by rw [hf _ (by omega) (by omega)]; exact h2, by rw [hf _ (by omega) (by omega)]; exact h3, h4⟩
theorem tstp {k : Nat} (h : TT X) (hk : k < 4) : aR 7 (hp I J F G X) 71 (nI k) = some (77 + 4 * k) := by
  obtain ⟨⟨f, a, b⟩, -⟩ := h
  exact aRx (by decide) (by decide) a hk (by decide) (b k hk)
theorem reach_loop {d n i q : Nat} {jo : Option Nat} {e : Int32} (hi : i < 7) (hj : ∀ j, jo = some j → j < 7) (hn7 : n ≤ 7) (hn : np ≤ 7) (h4 : I 4 = nI np) (hk : kOK (F 5) kd np) (hp' : ∀ k, k < np → F 6 k = nI (pt k) ∧ pt k < 1000) : ∀ (m k mm : Nat) (X : Nat → va_E) (A : LSt) (pv : Option Nat) (v4 : Value), n - k = m → k ≤ n → (∀ x, pv = some x → x < 7) → X 70 = srO (.ref 4) (nI n) (nI i) (folI jo) e → QX X 72 A → lB np mm A → mm + m < 900 →
    ∃ X', ex cdX8_isReached (rn (d + 8)) 22 [.ref 70, .ref q, .int (oI pv), .int (nI k), v4] [] (hp I J F G X) = some (some (.int (bI (rcT kd pt i jo m pv A))), hp I J F G X') ∧ FX X X' 72 ∧ Qsh X' 72 := by
  intro m
  induction m with
  | zero =>
    intro k mm X A pv v4 h1 h2 hpv hX hQ hA hm
    refine ⟨X, ?_, fun _ _ => rfl, QX_sh hQ⟩
    rw [xX8_isReached_22, gIx (by decide) (by decide) hX rfl, Option.bind_some, if_pos (nI_le (by omega) (by omega))]
    rfl
  | succ m ih =>
    intro k mm X A pv v4 h1 h2 hpv hX hQ hA hm
    obtain ⟨X1, a1, a2, a3⟩ := passX_x (d := d) (I := I) (J := J) (F := F) (G := G) (X := X) (q := 72) (by decide) (by decide) hQ hn h4 hk hp' hA (by omega) true
    rw [bI_t] at a1
    have hA2 := passA_lB kd pt true hA
    have hlt : ∀ x, (passA kd pt A true).1 = some x → x < 7 := fun x hx => Nat.lt_of_lt_of_le (passA_lt (kd := kd) (pt := pt) (c := true) (z := x) hA hx) hn
    have hX1 : X1 70 = srO (.ref 4) (nI n) (nI i) (folI jo) e := by rw [a3 70 (by omega)]; exact hX
    obtain ⟨X2, b1, b2, b3⟩ := ih (k + 1) (mm + 1) X1 (passA kd pt A true).2 (passA kd pt A true).1 (.int (oI (passA kd pt A true).1)) (by omega) (by omega) hlt hX1 a2 hA2 (by omega)
    have e9 := oI_iq hlt hi
    have e8 := oI_iq hpv hi
    have hcase : ∀ b : Bool, (b = true → ∃ X', (some (some (.int 1), hp I J F G X1) : mR) = some (some (.int (bI (b || rcT kd pt i jo m (passA kd pt A true).1 (passA kd pt A true).2))), hp I J F G X') ∧ FX X X' 72 ∧ Qsh X' 72) ∧ (b = false → ∃ X', ex cdX8_isReached (rn (d + 8)) 22 [.ref 70, .ref q, .int (oI (passA kd pt A true).1), .int (nI k + 1), .int (oI (passA kd pt A true).1)] [] (hp I J F G X1) = some (some (.int (bI (b || rcT kd pt i jo m (passA kd pt A true).1 (passA kd pt A true).2))), hp I J F G X') ∧ FX X X' 72 ∧ Qsh X' 72) := by
      intro b
      refine ⟨fun hb => ⟨X1, by rw [hb]; rfl, a3, QX_sh a2⟩, fun hb => ⟨X2, by rw [hb, nI_1, b1, Bool.false_or], fun j hj => by rw [b2 j hj, a3 j hj], b3⟩⟩
    rw [xX8_isReached_22, gIx (by decide) (by decide) hX rfl, Option.bind_some, if_neg (nI_ge (by omega) (by omega)), gRx (by decide) (by decide) hX rfl, Option.bind_some, gRx (by decide) (by decide) hX rfl, Option.bind_some, if_pos (QX_is (by decide) (by decide) hQ), a1, Option.bind_some, gIx (by decide) (by decide) hX1 rfl, Option.bind_some]
    cases jo with
    | none =>
      rw [if_pos (show folI none = -2 from rfl), gIx (by decide) (by decide) hX1 rfl, Option.bind_some, rcT_n]
      by_cases z : (passA kd pt A true).1 = some i
      · rw [if_pos (e9.mpr z)]
        exact (hcase _).1 (decide_eq_true z)
      · rw [if_neg (fun y => z (e9.mp y))]
        exact (hcase _).2 (decide_eq_false z)
    | some j =>
      have hj7 := hj j rfl
      have e7 : oI (passA kd pt A true).1 = folI (some j) ↔ (passA kd pt A true).1 = some j := oI_iq hlt hj7
      rw [if_neg (show ¬ folI (some j) = -2 from n7_m2 j hj7), gIx (by decide) (by decide) hX1 rfl, Option.bind_some, rcT_s]
      by_cases z : pv = some i
      · rw [if_pos (e8.mpr z), Option.bind_some]
        by_cases z2 : (passA kd pt A true).1 = some j
        · rw [if_pos (e7.mpr z2)]
          exact (hcase _).1 (by rw [decide_eq_true z, decide_eq_true z2]; rfl)
        · rw [if_neg (fun y => z2 (e7.mp y))]
          exact (hcase _).2 (by rw [decide_eq_false z2, Bool.and_false])
      · rw [if_neg (fun y => z (e8.mp y))]
        exact (hcase _).2 (by rw [decide_eq_false z, Bool.false_and])
theorem reach_x {d n i k mm : Nat} {jo : Option Nat} {e : Int32} {A : LSt} (hk4 : k < 4) (hi : i < 7) (hj : ∀ j, jo = some j → j < 7) (hn7 : n ≤ 7) (hn : np ≤ 7) (h4 : I 4 = nI np) (hk : kOK (F 5) kd np) (hp' : ∀ k, k < np → F 6 k = nI (pt k) ∧ pt k < 1000) (hX : X 70 = srO (.ref 4) (nI n) (nI i) (folI jo) e) (hT : TT X) (hQ : QX X (77 + 4 * k) A) (hA : lB np mm A) (hm : mm < 800) : ∃ X', cI (rn (d + 9)) 77 [.ref 70, .ref (77 + 4 * k)] (hp I J F G X) = some (bI (rcT kd pt i jo n none A), hp I J F G X') ∧ FX X X' 72 ∧ TT X' := by
  obtain ⟨X1, a1, a2, a3⟩ := setXX_x (d := d + 6) (I := I) (J := J) (F := F) (G := G) (X := X) (q := 72) (p := 77 + 4 * k) (by decide) (by decide) (by omega) (by omega) (by unfold apart4; omega) hn hA hQ hT.2.1
  obtain ⟨X2, b1, b2, b3⟩ := reach_loop (d := d) (I := I) (J := J) (F := F) (G := G) (q := 77 + 4 * k) (e := e) hi hj hn7 hn h4 hk hp' n 0 mm X1 A none .null (by omega) (by omega) (fun x hx => by cases hx) (by rw [a3 70 (by omega)]; exact hX) a2 hA (by omega)
  rw [oI_none, nI_0] at b1
  have fr : FX X X2 72 := fun j hj => by rw [b2 j hj, a3 j hj]
  refine ⟨X2, ?_, fr, TT_72 hT fr b3⟩
  refine cIo ?_
  rw [rX8_isReached, xX8_isReached_0, gRx (by decide) (by decide) hX rfl, Option.bind_some, gRx (by decide) (by decide) hX rfl, Option.bind_some, if_pos (Qsh_is (by decide) (by decide) hT.2.1), a1, Option.bind_some]
  exact b1
theorem swapX_x {d q v m : Nat} {A : LSt} (h1 : 23 ≤ q) (h2 : q + 3 < 140) (hQ : QX X q A) (hn : np ≤ 7) (hA : lB np m A) (hv : v + 1 < A.1.length) : ∃ X', cV (rn (d + 1)) 46 [.ref q, .int (nI v), .int (nI (v + 1))] (hp I J F G X) = some (hp I J F G X') ∧ QX X' q (swA A v) ∧ FX X X' q := by
  have hl := lB_len hn hA
  obtain ⟨L, wt, wn, nt, gu⟩ := A
  obtain ⟨o, w, g, e0, e1, e2, e3, e4, e5⟩ := hQ
  have hH : putQ (hp I J F G X) q o w g (nI L.length) (nI nt) gu = (hp I J F G X) := putQ_same ((hp_x h1 (by omega)).trans (congrArg some e0)) ((hp_x (by omega) (by omega)).trans (congrArg some e1)) ((hp_x (by omega) (by omega)).trans (congrArg some e2)) ((hp_x (by omega) (by omega)).trans (congrArg some e3))
  have sw := swap_s (d := d + 1) (h := (hp I J F G X)) (q := q) (w := w) (g := g) (n := nI nt) (u := gu) (o := o) (a := v) (b := v + 1) (m := L.length) (by omega) (by rw [hp_len]; omega) (by dsimp only at hv; omega) hv hl
  rw [hH, hp_qx h1 h2] at sw
  refine ⟨_, sw, ⟨_, _, _, ?_, qX_1, qX_2, qX_3, ?_, e5⟩, qX_fr⟩
  · rw [qX_0]
    show oQ q (nI L.length) _ _ = oQ q (nI (swL L v).length) _ _
    rw [swL_len hv]
    rfl
  · dsimp only at hv e4
    obtain ⟨A, y, x, B, rfl, rfl⟩ := sw_split hv
    have := oL_swap e4
    show oL _ (swL _ _)
    rw [swL_app]
    intro k z hz
    rw [← this k z hz]
    by_cases c1 : k = A.length
    · subst c1; rw [upd_ne (by omega), upd_eq, upd_eq]
    · by_cases c2 : k = A.length + 1
      · subst c2; rw [upd_eq, upd_ne (by omega), upd_eq]
      · rw [upd_ne c2, upd_ne c1, upd_ne c1, upd_ne c2]
theorem tradeAt_x {d k v m : Nat} {A : LSt} {n i j e : Int32} (hk : k < 3) (hX : X 70 = srO (.ref 4) n i j e) (hT : TT X) (hQ : QX X (77 + 4 * k) A) (hn : np ≤ 7) (hA : lB np m A) (hv : v + 1 < A.1.length) : ∃ X', cV (rn (d + 3)) 76 [.ref 70, .int (nI k), .int (nI v)] (hp I J F G X) = some (hp I J F G X') ∧ QX X' (77 + 4 * (k + 1)) (swA A v) ∧ FX X X' (77 + 4 * (k + 1)) ∧ TT X' := by
  obtain ⟨X1, a1, a2, a3⟩ := setXX_x (d := d) (I := I) (J := J) (F := F) (G := G) (X := X) (q := 77 + 4 * (k + 1)) (p := 77 + 4 * k) (by omega) (by omega) (by omega) (by omega) (by unfold apart4; omega) hn hA hQ (hT.2.2 (k + 1) (by omega))
  have hT1 : TT X1 := TT_q (k := k + 1) (by omega) hT a3 (QX_sh a2)
  obtain ⟨X2, b1, b2, b3⟩ := swapX_x (d := d + 1) (I := I) (J := J) (F := F) (G := G) (X := X1) (q := 77 + 4 * (k + 1)) (by omega) (by omega) a2 hn hA hv
  have fr : FX X X2 (77 + 4 * (k + 1)) := fun j hj => by rw [b3 j hj, a3 j hj]
  refine ⟨X2, ?_, b2, fr, TT_q (k := k + 1) (by omega) hT fr (QX_sh b2)⟩
  refine cVo ?_
  rw [rX8_tradeAt, xX8_tradeAt_0, gRx (by decide) (by decide) hX rfl, Option.bind_some, nI_1, tstp hT (by omega), Option.bind_some, Option.bind_some, tstp hT (by omega), Option.bind_some, if_pos (Qsh_is (by omega) (by omega) (hT.2.2 (k + 1) (by omega))), a1, Option.bind_some, gRx (by decide) (by decide) (show X1 70 = _ by rw [a3 70 (by omega)]; exact hX) rfl, Option.bind_some, tstp hT1 (by omega), Option.bind_some, if_pos (QX_is (by omega) (by omega) a2), nI_1, b1, Option.bind_some]
theorem bI_and1 (b : Bool) : bI b &&& 1 = bI b := by cases b <;> decide
theorem rb_x {n i P many : Nat} {jo : Option Nat} {e : Int32} (hmany : many ≤ 3) (hi : i < 7) (hj : ∀ j, jo = some j → j < 7) (hn7 : n ≤ 7) (hn : np ≤ 7) (h4 : I 4 = nI np) (hk : kOK (F 5) kd np) (hp' : ∀ k, k < np → F 6 k = nI (pt k) ∧ pt k < 1000) : ∀ (m dp D : Nat) (X : Nat → va_E) (A : LSt) (mm : Nat) (f : Nat → Int32), dp + m = many → 12 + m ≤ D → A.1.length - 1 = P → X 70 = srO (.ref 4) (nI n) (nI i) (folI jo) e → TT X → X 76 = ar 3 f → QX X (77 + 4 * dp) A → lB np mm A → mm < 800 →
    ∃ X' f', cI (rn D) 73 [.ref 70, .int (nI dp), .int (nI many)] (hp I J F G X) = some (bI (fsT (fun A => rcT kd pt i jo n none A) P m A).isSome, hp I J F G X') ∧ TT X' ∧ X' 76 = ar 3 f' ∧ (∀ k, (k < 72 ∨ (77 ≤ k ∧ k < 77 + 4 * (dp + 1)) ∨ 93 ≤ k) → X' k = X k) ∧ (∀ t, t < dp → f' t = f t) ∧ ∀ v, fsT (fun A => rcT kd pt i jo n none A) P m A = some v → ∀ t, t < m → f' (dp + t) = nI (v / P ^ (m - 1 - t) % P) := by
  intro m
  induction m with
  | zero =>
    intro dp D X A mm f h1 h2 hP hX hT h76 hQ hA hm
    obtain ⟨D, rfl⟩ : ∃ z, D = (z + 9) + 1 := ⟨D - 10, by omega⟩
    obtain ⟨X1, a1, a2, a3⟩ := reach_x (d := D) (I := I) (J := J) (F := F) (G := G) (k := dp) (e := e) (by omega) hi hj hn7 hn h4 hk hp' hX hT hQ hA hm
    have he : (fsT (fun A => rcT kd pt i jo n none A) P 0 A).isSome = rcT kd pt i jo n none A := by
      show (if rcT kd pt i jo n none A = true then some 0 else none).isSome = _
      cases rcT kd pt i jo n none A <;> rfl
    refine ⟨X1, f, ?_, a3, by rw [a2 76 (by omega)]; exact h76, fun k hk => a2 k (by omega), fun _ _ => rfl, fun v _ t ht => absurd ht (by omega)⟩
    refine cIo ?_
    rw [rX8_isReachedBy, xX8_isReachedBy_0, if_pos (nI_le (by omega) (by omega)), xX8_isReachedBy_10, gRx (by decide) (by decide) hX rfl, Option.bind_some, tstp hT (by omega), Option.bind_some, if_pos (isOx (by decide) (by decide) hX), a1, Option.bind_some, if_pos (bI_and1 _), he]
  | succ m ih =>
    intro dp D X A mm f h1 h2 hP hX hT h76 hQ hA hm
    obtain ⟨D, rfl⟩ : ∃ z, D = (z + 9) + 1 := ⟨D - 10, by omega⟩
    have hl := lB_len hn hA
    have lp : ∀ (q k : Nat) (X : Nat → va_E) (f : Nat → Int32), P - k = q → k ≤ P → X 70 = srO (.ref 4) (nI n) (nI i) (folI jo) e → TT X → X 76 = ar 3 f → QX X (77 + 4 * dp) A → Sx (fun k => (fsT (fun A => rcT kd pt i jo n none A) P m (swA A k)).map (fun u => k * P ^ m + u)) k = none →
        ∃ X' f', ex cdX8_isReachedBy (rn (D + 9)) 23 [.ref 70, .int (nI dp), .int (nI many), .int (nI k)] [] (hp I J F G X) = some (some (.int (bI (fsT (fun A => rcT kd pt i jo n none A) P (m + 1) A).isSome)), hp I J F G X') ∧ TT X' ∧ X' 76 = ar 3 f' ∧ (∀ k, (k < 72 ∨ (77 ≤ k ∧ k < 77 + 4 * (dp + 1)) ∨ 93 ≤ k) → X' k = X k) ∧ (∀ t, t < dp → f' t = f t) ∧ ∀ v, fsT (fun A => rcT kd pt i jo n none A) P (m + 1) A = some v → ∀ t, t < m + 1 → f' (dp + t) = nI (v / P ^ (m + 1 - 1 - t) % P) := by
      intro q
      induction q with
      | zero =>
        intro k X f g1 g2 hX hT h76 hQ hS
        have : k = P := by omega
        subst this
        have hf : fsT (fun A => rcT kd pt i jo n none A) k (m + 1) A = none := hS
        refine ⟨X, f, ?_, hT, h76, fun _ _ => rfl, fun _ _ => rfl, fun v hv => by rw [hf] at hv; cases hv⟩
        rw [xX8_isReachedBy_23, gRx (by decide) (by decide) hX rfl, Option.bind_some, tstp hT (by omega), Option.bind_some, QX_size (by omega) (by omega) hQ, Option.bind_some, nI_1, if_pos (nI_le (by omega) (by omega)), hf]
        rfl
      | succ q ihq =>
        intro k X f g1 g2 hX hT h76 hQ hS
        have hkL : k + 1 < A.1.length := by omega
        obtain ⟨X1, a1, a2, a3⟩ := sIx (I := I) (J := J) (F := F) (G := G) (X := X) (k := 76) (i := dp) (x := nI k) (by decide) (by decide) h76 (by omega) (by decide)
        have hX1 : X1 70 = srO (.ref 4) (nI n) (nI i) (folI jo) e := by rw [a3 70 (by decide)]; exact hX
        have hT1 : TT X1 := TT_ne hT (fun j _ j2 => a3 j j2)
        have hQ1 : QX X1 (77 + 4 * dp) A := QX_kp hQ (fun j j1 j2 => a3 j (by omega))
        obtain ⟨X2, b1, b2, b3, b4⟩ := tradeAt_x (d := D + 6) (I := I) (J := J) (F := F) (G := G) (X := X1) (k := dp) (v := k) (by omega) hX1 hT1 hQ1 hn hA hkL
        have hX2 : X2 70 = srO (.ref 4) (nI n) (nI i) (folI jo) e := by rw [b3 70 (by omega)]; exact hX1
        obtain ⟨X3, f3, c1, c2, c3, c4, c5, c6⟩ := ih (dp + 1) (D + 9) X2 (swA A k) mm (upd f dp (nI k)) (by omega) (by omega) (by rw [swA_len hkL]; exact hP) hX2 b4 (by rw [b3 76 (by omega)]; exact a2) b2 (swA_lB hA hkL) hm
        have fr : ∀ j, (j < 72 ∨ (77 ≤ j ∧ j < 77 + 4 * (dp + 1)) ∨ 93 ≤ j) → X3 j = X j := fun j hj => by rw [c4 j (by omega), b3 j (by omega), a3 j (by omega)]
        have hX3 : X3 70 = srO (.ref 4) (nI n) (nI i) (folI jo) e := by rw [fr 70 (by omega)]; exact hX
        have h5 : ∀ t, t < dp → f3 t = f t := fun t ht => by rw [c5 t (by omega), upd_ne (by omega)]
        have hstep : Sx (fun k => (fsT (fun A => rcT kd pt i jo n none A) P m (swA A k)).map (fun u => k * P ^ m + u)) (k + 1) = (fsT (fun A => rcT kd pt i jo n none A) P m (swA A k)).map (fun u => k * P ^ m + u) := by
          show orO (Sx (fun k => (fsT (fun A => rcT kd pt i jo n none A) P m (swA A k)).map (fun u => k * P ^ m + u)) k) _ = _
          rw [hS]; rfl
        rw [xX8_isReachedBy_23, gRx (by decide) (by decide) hX rfl, Option.bind_some, tstp hT (by omega), Option.bind_some, QX_size (by omega) (by omega) hQ, Option.bind_some, nI_1, if_neg (nI_ge (by omega) (by omega)), gRx (by decide) (by decide) hX rfl, Option.bind_some, a1, Option.bind_some, if_pos (isOx (by decide) (by decide) hX1), b1, Option.bind_some, if_pos (isOx (by decide) (by decide) hX2), nI_1, c1, Option.bind_some]
        cases hu : fsT (fun A => rcT kd pt i jo n none A) P m (swA A k) with
        | none =>
          rw [hu] at hstep
          obtain ⟨X4, f4, u1, u2, u3, u4, u5, u6⟩ := ihq (k + 1) X3 f3 (by omega) (by omega) hX3 c2 c3 (QX_kp hQ (fun j j1 j2 => fr j (by omega))) hstep
          refine ⟨X4, f4, ?_, u2, u3, fun j hj => by rw [u4 j hj, fr j hj], fun t ht => by rw [u5 t ht, h5 t ht], u6⟩
          rw [if_pos (by rfl)]
          exact u1
        | some u =>
          rw [hu] at hstep
          have hful : fsT (fun A => rcT kd pt i jo n none A) P (m + 1) A = some (k * P ^ m + u) := by
            show Sx _ P = _
            have : ∀ w, Sx (fun k => (fsT (fun A => rcT kd pt i jo n none A) P m (swA A k)).map (fun u => k * P ^ m + u)) (k + 1 + w) = some (k * P ^ m + u) := by
              intro w
              induction w with
              | zero => exact hstep
              | succ w ihw =>
                show orO (Sx (fun k => (fsT (fun A => rcT kd pt i jo n none A) P m (swA A k)).map (fun u => k * P ^ m + u)) (k + 1 + w)) _ = _
                rw [ihw]; rfl
            have := this (P - (k + 1))
            rwa [show k + 1 + (P - (k + 1)) = P by omega] at this
          have hul := fsT_lt hu
          refine ⟨X3, f3, ?_, c2, c3, fr, h5, fun v hv t ht => ?_⟩
          · rw [if_neg (show ¬ bI (some u).isSome = 0 from (by decide : ¬ bI true = 0)), hful]
            rfl
          · rw [hful] at hv
            cases hv
            cases t with
            | zero => rw [c5 (dp + 0) (by omega), Nat.add_zero, upd_eq, show m + 1 - 1 - 0 = m by omega, dg_top hul (by omega)]
            | succ t =>
              have := c6 u hu t (by omega)
              rw [show dp + (t + 1) = dp + 1 + t by omega, this, show m + 1 - 1 - (t + 1) = m - 1 - t by omega, dg_low (by omega) (by omega)]
    obtain ⟨X1, f1, a1, a2, a3, a4, a5, a6⟩ := lp P 0 X f (by omega) (by omega) hX hT h76 hQ rfl
    rw [nI_0] at a1
    refine ⟨X1, f1, ?_, a2, a3, a4, a5, a6⟩
    refine cIo ?_
    rw [rX8_isReachedBy, xX8_isReachedBy_0, if_neg (nI_ge (by omega) (by omega)), if_pos (show nI dp < 3 from nI_lt (b := 3) (by omega) (by decide))]
    exact a1
end TS
