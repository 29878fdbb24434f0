/-! the search for trades: the reference -/
theorem upd_upd (f : Nat → Int32) (k : Nat) (x y : Int32) : upd (upd f k x) k y = upd f k y := by
  funext j
  by_cases e : j = k
  · subst e; rw [upd_eq, upd_eq]
  · rw [upd_ne e, upd_ne e, upd_ne e]
theorem upd_same (f : Nat → Int32) (k : Nat) : upd f k (f k) = f := by
  funext j
  by_cases e : j = k
  · subst e; rw [upd_eq]
  · rw [upd_ne e]
theorem p6_le {P j : Nat} (hP : P ≤ 6) (hj : j ≤ 3) : P ^ j ≤ 216 := Nat.le_trans (Nat.pow_le_pow_left hP j) (Nat.pow_le_pow_right (n := 6) (by decide) hj)
section TR
variable {I : Nat → Int32} {J : Nat → Int64} {F : Nat → Nat → Int32} {G : Nat → Int64} {X : Nat → va_E} {np : Nat} {kd pt pr : Nat → Nat}
theorem pairs_y {d L : Nat} (h : F 169 2 = nI L) : cI (rn (d + 1)) 214 [.ref 168] (hp I J F G X) = some (nI L - 1, (hp I J F G X)) := by
  refine cIo ?_
  rw [rX10_pairs, xX10_pairs_0, y_f0, Option.bind_some, y_row2, Option.bind_some, h]
theorem power_y {d P t : Nat} {h : mH} (ht : t ≤ 3) : cI (rn (d + 1)) 213 [.int (nI P), .int (nI t)] h = some (nI (P ^ t), h) := by
  have lp : ∀ (q k : Nat), t - k = q → k ≤ t → ex cdX10_power (rn d) 4 [.int (nI P), .int (nI t), .int (nI (P ^ k)), .int (nI k)] [] h = some (some (.int (nI (P ^ t))), h) := by
    intro q
    induction q with
    | zero =>
      intro k h1 h2
      have : k = t := by omega
      subst this
      rw [xX10_power_4, if_pos (nI_le (Nat.le_refl _) (by omega))]
    | succ q ih =>
      intro k h1 h2
      rw [xX10_power_4, if_neg (nI_ge (by omega) (by omega)), pk_mul, ← Nat.pow_succ, nI_1]
      exact ih (k + 1) (by omega) (by omega)
  have := lp t 0 rfl (by omega)
  refine cIo ?_
  rw [rX10_power, xX10_power_0]
  exact this
theorem tradeRows_y {d L t : Nat} (hl : L ≤ 7) (h : F 169 2 = nI L) (ht : t ≤ 3) : cI (rn (d + 2)) 218 [.ref 168, .int (nI t)] (hp I J F G X) = some (nI ((L - 1) ^ t), (hp I J F G X)) := by
  refine cIo ?_
  rw [rX10_tradeRows, xX10_tradeRows_0]
  by_cases t0 : t = 0
  · subst t0
    rw [if_pos (by rfl)]
    rfl
  · rw [if_neg (nI_ne0 (by omega) (by omega)), if_pos y_is, pairs_y h, Option.bind_some]
    by_cases c : L ≤ 1
    · rw [if_neg (show ¬ (1 : Int32) ≤ nI L - 1 by rcases (show L = 0 ∨ L = 1 by omega) with e | e <;> subst e <;> decide), show L - 1 = 0 by omega, Nat.zero_pow (by omega)]
      rfl
    · have e : nI L - 1 = nI (L - 1) := pk_sub (b := 1) (by omega)
      rw [e, if_pos (show (1 : Int32) ≤ nI (L - 1) from nI_le (a := 1) (by omega) (by omega)), if_pos y_is, pairs_y h, Option.bind_some, e, power_y ht, Option.bind_some]
theorem tradeOf_y {d L t k v : Nat} (h : F 169 2 = nI L) (hL : 2 ≤ L) (hl : L ≤ 7) (hk : k < t) (ht : t ≤ 3) (hv : v < 1000) : cI (rn (d + 2)) 215 [.ref 168, .int (nI v), .int (nI t), .int (nI k)] (hp I J F G X) = some (nI (v / (L - 1) ^ (t - 1 - k) % (L - 1)), (hp I J F G X)) := by
  have e : nI L - 1 = nI (L - 1) := pk_sub (b := 1) (by omega)
  have e2 : nI t - 1 - nI k = nI (t - 1 - k) := by
    rw [show nI t - 1 = nI (t - 1) from pk_sub (b := 1) (by omega), pk_sub (by omega)]
  have hp0 : 0 < (L - 1) ^ (t - 1 - k) := Nat.pow_pos (by omega)
  have hp1 := p6_le (P := L - 1) (j := t - 1 - k) (by omega) (by omega)
  have hle : v / (L - 1) ^ (t - 1 - k) ≤ v := Nat.div_le_self _ _
  refine cIo ?_
  rw [rX10_tradeOf, xX10_tradeOf_0, if_pos y_is, pairs_y h, Option.bind_some, e, e2, power_y (by omega), Option.bind_some, if_neg (nI_ne0 hp0 (by omega)), if_pos y_is, pairs_y h, Option.bind_some, e, if_neg (nI_ne0 (by omega) (by omega)), pk_div (by omega) hp0 (by omega), pk_rem (by omega) (by omega) (by omega)]
theorem swapT_y {d p m : Nat} {row st : Nat → Int32} {A : LSt} (hL : LineN row 3940 np A) (hn : np ≤ 7) (hA : lB np m A) (hv : p + 1 < A.1.length) : ∃ row', cV (rn (d + 1)) 178 [.ref 168, .int 3940, .int (nI p)] (hp I J (tF F row st) G X) = some (hp I J (tF F row' st) G X) ∧ LineN row' 3940 np (swA A p) ∧ ∀ k, k < 3940 → row' k = row k := by
  have hl := lB_len hn hA
  obtain ⟨L, wt, wn, nt, gu⟩ := A
  obtain ⟨l1, l2, l3, l4, l5, l6⟩ := hL
  dsimp only at l1 l2 l3 l4 l5 l6 hl hv
  have e3 : (3940 : Int32) + 3 + nI p = nI (3943 + p) := by rw [show (3940 : Int32) + 3 = nI 3943 from rfl, nI_add]
  refine ⟨upd (upd row (3943 + p) (row (3943 + p + 1))) (3943 + p + 1) (row (3943 + p)), ?_, ⟨?_, ?_, ?_, ?_, ?_, ?_⟩, fun k hk => by rw [upd_ne (by omega), upd_ne (by omega)]⟩
  · refine cVo ?_
    rw [rX10_swap, xX10_swap_0, y_f0, Option.bind_some, e3, y_g169 (by omega), Option.bind_some, Option.bind_some, Option.bind_some, nI_1, y_g169 (by omega), Option.bind_some, y_s169 (by omega), Option.bind_some, y_f0, Option.bind_some, y_s169 (by omega), Option.bind_some, tF_169, tF_row, tF_169, tF_row]
  · show upd (upd row _ _) _ _ (3940 + 1) = _
    rw [upd_ne (by omega), upd_ne (by omega)]; exact l1
  · show upd (upd row _ _) _ _ (3940 + 2) = nI (swL L p).length
    rw [upd_ne (by omega), upd_ne (by omega), swL_len hv]; exact l2
  · obtain ⟨A, y, x, B, rfl, rfl⟩ := sw_split hv
    have gy := l3 _ _ (app2_0 A B y x)
    have gx := l3 _ _ (app2_1 A B y x)
    show ∀ (k z : Nat), (swL _ _)[k]? = some z → _
    rw [swL_app]
    intro k z hk
    rw [show 3940 + 3 + k = 3943 + k by omega]
    rcases app2 hk with ⟨h1, h2⟩ | ⟨rfl, rfl⟩ | ⟨rfl, rfl⟩ | ⟨h1, h2⟩
    · rw [upd_ne (by omega), upd_ne (by omega)]
      exact l3 k z (by rw [List.getElem?_append_left h1]; exact h2)
    · rw [upd_ne (by omega), upd_eq]; exact gx
    · rw [show 3943 + (A.length + 1) = 3943 + A.length + 1 by omega, upd_eq]; exact gy
    · rw [upd_ne (by omega), upd_ne (by omega)]
      refine l3 k z ?_
      rw [List.getElem?_append_right (by omega), show k - A.length = (k - A.length - 2) + 1 + 1 by omega, List.getElem?_cons_succ, List.getElem?_cons_succ]
      exact h2
  · intro j hj
    rw [upd_ne (by omega), upd_ne (by omega)]; exact l4 j hj
  · intro j hj
    rw [upd_ne (by omega), upd_ne (by omega)]; exact l5 j hj
  · show upd (upd row _ _) _ _ (3940 + 24) = _
    rw [upd_ne (by omega), upd_ne (by omega)]; exact l6
theorem layTr_loop {d L t v mm : Nat} {st : Nat → Int32} (hn : np ≤ 7) (ht : t ≤ 3) (hv : v < 1000) (h2L : 0 < t → 2 ≤ L) (hl : L ≤ 7) (hpr : ∀ i, i < np → F 172 i = nI (pr i) ∧ pr i < 10) : ∀ (m k c : Nat) (row : Nat → Int32) (B : LSt) (v4 : Value), t - k = m → k ≤ t → LineN row 3940 np B → B.1.length = L → lB np mm B → row 2 = nI L →
    ∃ row', ex cdX10_layTrades (rn (d + 2)) 11 [.ref 168, .int (nI v), .int (nI t), .int (nI k), v4] [] (hp (upd I 175 (nI c)) J (tF F row st) G X) = some (none, hp (upd I 175 (nI (c + csT pr (L - 1) m v B))) J (tF F row' st) G X) ∧ LineN row' 3940 np (apT (L - 1) m v B) ∧ ∀ k, k < 3940 → row' k = row k := by
  intro m
  induction m with
  | zero =>
    intro k c row B v4 h1 h2 hL hBl hB h2r
    refine ⟨row, ?_, hL, fun _ _ => rfl⟩
    rw [xX10_layTrades_11, if_pos (nI_le (by omega) (by omega))]
    rfl
  | succ m ih =>
    intro k c row B v4 h1 h2 hL hBl hB h2r
    have h2L' := h2L (by omega)
    have hd : v / (L - 1) ^ m % (L - 1) < L - 1 := Nat.mod_lt _ (by omega)
    have hto := tradeOf_y (d := d) (I := upd I 175 (nI c)) (J := J) (F := tF F row st) (G := G) (X := X) (L := L) (t := t) (k := k) (v := v) (by rw [tF_169]; exact h2r) h2L' hl (by omega) ht hv
    rw [show t - 1 - k = m by omega] at hto
    have hcs : csT pr (L - 1) (m + 1) v B = cst pr B (v / (L - 1) ^ m % (L - 1)) + csT pr (L - 1) m v (swA B (v / (L - 1) ^ m % (L - 1))) := rfl
    have hap : apT (L - 1) (m + 1) v B = apT (L - 1) m v (swA B (v / (L - 1) ^ m % (L - 1))) := rfl
    rw [hcs, hap]
    generalize v / (L - 1) ^ m % (L - 1) = p at hd hto
    have hp1 : p + 1 < B.1.length := by omega
    obtain ⟨y, y1, y2, y3⟩ := nth_at (A := B) (k := p) (by omega)
    obtain ⟨x, x1, x2, x3⟩ := nth_at (A := B) (k := p + 1) hp1
    have hy := hB.2.1 y y3
    have hx := hB.2.1 x x3
    have hcst : cst pr B p = pr y + pr x := by unfold cst; rw [y2, x2]
    have ry : row (3943 + p) = nI y := hL.2.2.1 p y y1
    have rx : row (3943 + p + 1) = nI x := hL.2.2.1 (p + 1) x x1
    obtain ⟨row1, a1, a2, a3⟩ := swapT_y (d := d + 1) (I := upd I 175 (nI (c + cst pr B p))) (J := J) (F := F) (G := G) (X := X) (st := st) hL hn hB hp1
    obtain ⟨row2, b1, b2, b3⟩ := ih (k + 1) (c + cst pr B p) row1 (swA B p) (.int (nI p)) (by omega) (by omega) a2 (by rw [swA_len hp1]; exact hBl) (swA_lB hB hp1) (by rw [a3 2 (by omega)]; exact h2r)
    refine ⟨row2, ?_, b2, fun j hj => by rw [b3 j hj, a3 j hj]⟩
    have e3 : (3943 : Int32) + nI p = nI (3943 + p) := nI_add 3943 p
    have g1 : aI 0 (hp (upd I 175 (nI c)) J (tF F row st) G X) 169 (nI (3943 + p)) = some (nI y) := by rw [y_g169 (by omega), tF_169, ry]
    have g2 : aI 0 (hp (upd I 175 (nI c)) J (tF F row st) G X) 169 (nI (3943 + p + 1)) = some (nI x) := by rw [y_g169 (by omega), tF_169, rx]
    have g3 : aI 0 (hp (upd I 175 (nI c)) J (tF F row st) G X) 172 (nI y) = some (nI (pr y)) := by rw [y_g172 (by omega), tF_ne (by decide) (by decide), (hpr y hy).1]
    have g4 : aI 0 (hp (upd I 175 (nI c)) J (tF F row st) G X) 172 (nI x) = some (nI (pr x)) := by rw [y_g172 (by omega), tF_ne (by decide) (by decide), (hpr x hx).1]
    rw [xX10_layTrades_11, if_neg (nI_ge (by omega) (by omega)), if_pos y_is, hto, Option.bind_some, y_pd, Option.bind_some, y_f4, Option.bind_some, y_f0, Option.bind_some, e3, g1, Option.bind_some, g3, Option.bind_some, Option.bind_some, Option.bind_some, nI_1, g2, Option.bind_some, g4, Option.bind_some, upd_eq, nI_add, nI_add, ← hcst, y_ppd, Option.bind_some, upd_upd, if_pos y_is, a1, Option.bind_some, nI_1, ← Nat.add_assoc]
    exact b1
theorem layTr_y {d t v mm : Nat} {c : Int32} {row st : Nat → Int32} {A : LSt} (hn : np ≤ 7) (ht : t ≤ 3) (hv : v < (A.1.length - 1) ^ t) (hpr : ∀ i, i < np → F 172 i = nI (pr i) ∧ pr i < 10) (hL : LineN row 0 np A) (hA : lB np mm A) : ∃ row', cV (rn (d + 3)) 216 [.ref 168, .int (nI v), .int (nI t)] (hp (upd I 175 c) J (tF F row st) G X) = some (hp (upd I 175 (nI (csT pr (A.1.length - 1) t v A))) J (tF F row' st) G X) ∧ LineN row' 3940 np (apT (A.1.length - 1) t v A) ∧ ∀ k, k < 3940 → row' k = row k := by
  have hl := lB_len hn hA
  have h2L : 0 < t → 2 ≤ A.1.length := fun h0 => Classical.byContradiction (fun z => by
    rw [show A.1.length - 1 = 0 by omega, Nat.zero_pow h0] at hv
    omega)
  have hb := p6_le (P := A.1.length - 1) (j := t) (by omega) ht
  obtain ⟨row1, a1, a2, a3⟩ := layT_y (d := d) (I := upd I 175 c) (J := J) (F := F) (G := G) (X := X) (st := st) hn hA hL
  obtain ⟨row2, b1, b2, b3⟩ := layTr_loop (d := d) (I := I) (J := J) (F := F) (G := G) (X := X) (L := A.1.length) (t := t) (v := v) (st := st) hn ht (by omega) h2L hl hpr t 0 0 row1 A .null (by omega) (by omega) a2 rfl hA (by rw [a3 2 (by omega)]; exact hL.2.1)
  rw [Nat.zero_add, nI_0] at b1
  refine ⟨row2, ?_, b2, fun k hk => by rw [b3 k hk, a3 k hk]⟩
  refine cVo ?_
  rw [rX10_layTrades, xX10_layTrades_0, if_pos y_is, a1, Option.bind_some, y_ppd, Option.bind_some, upd_upd]
  exact b1
theorem goesC_loop {d n i : Nat} (hi : i < 7) (hn7 : n ≤ 7) (hn : np ≤ 7) (hk : kOK (F 170) kd np) (hp' : ∀ k, k < np → F 171 k = nI (pt k) ∧ pt k < 1000) : ∀ (m k mm : Nat) (row st : Nat → Int32) (B : LSt), n - k = m → k ≤ n → LineN row 3940 np B → lB np mm B → mm + m < 900 →
    ∃ row' st', ex cdX10_goesClear (rn (d + 8)) 2 [.ref 168, .int (nI i), .int (nI n), .int (nI k)] [] (hp I J (tF F row st) G X) = some (some (.int (oI ((gcT kd pt i m B).map (fun q => k + q.1)))), hp I J (tF F row' st') G X) ∧ (∀ q, gcT kd pt i m B = some q → LineN row' 3940 np q.2 ∧ lB np (mm + m) q.2 ∧ q.1 < m) ∧ ∀ k, k < 3940 → row' k = row k := by
  intro m
  induction m with
  | zero =>
    intro k mm row st B h1 h2 hL hB hm
    refine ⟨row, st, ?_, fun q h => (by cases h), fun _ _ => rfl⟩
    rw [xX10_goesClear_2, if_pos (nI_le (by omega) (by omega))]
    rfl
  | succ m ih =>
    intro k mm row st B h1 h2 hL hB hm
    obtain ⟨row1, st1, a1, a2, a3⟩ := passT_y (d := d) (I := I) (J := J) (F := F) (G := G) (X := X) (st := st) hL hn hk hp' hB (by omega) true
    rw [bI_t] at a1
    have hB2 := passA_lB kd pt true hB
    have hlt : ∀ x, (passA kd pt B true).1 = some x → x < 7 := fun x hx => Nat.lt_of_lt_of_le (passA_lt (kd := kd) (pt := pt) (c := true) (z := x) hB hx) hn
    rw [xX10_goesClear_2, if_neg (nI_ge (by omega) (by omega)), if_pos y_is, a1, Option.bind_some, gcT_s]
    by_cases e : (passA kd pt B true).1 = some i
    · refine ⟨row1, st1, ?_, fun q h => ?_, a3⟩
      · rw [if_pos ((oI_iq hlt hi).mpr e), if_pos e]
        rfl
      · rw [if_pos e] at h
        cases h
        exact ⟨a2, ⟨hB2.1, hB2.2.1, Nat.le_trans hB2.2.2.1 (by omega), fun j => Nat.le_trans (hB2.2.2.2 j) (by omega)⟩, by show 0 < m + 1; omega⟩
    · obtain ⟨row2, st2, b1, b2, b3⟩ := ih (k + 1) (mm + 1) row1 st1 (passA kd pt B true).2 (by omega) (by omega) a2 hB2 (by omega)
      refine ⟨row2, st2, ?_, fun q h => ?_, fun j hj => by rw [b3 j hj, a3 j hj]⟩
      · rw [if_neg (fun z => e ((oI_iq hlt hi).mp z)), if_neg e, nI_1, b1]
        cases gcT kd pt i m (passA kd pt B true).2 with
        | none => rfl
        | some q =>
          have e2 : k + 1 + q.1 = k + (q.1 + 1) := by omega
          simp only [Option.map_some, e2]
      · rw [if_neg e] at h
        cases hg : gcT kd pt i m (passA kd pt B true).2 with
        | none => rw [hg] at h; cases h
        | some q' =>
          rw [hg] at h
          cases h
          have := b2 q' hg
          refine ⟨this.1, ?_, by have := this.2.2; show q'.1 + 1 < m + 1; omega⟩
          rw [show mm + (m + 1) = mm + 1 + m by omega]
          exact this.2.1
theorem goesC_y {d n i mm : Nat} {row st : Nat → Int32} {B : LSt} (hi : i < 7) (hn7 : n ≤ 7) (hn : np ≤ 7) (hk : kOK (F 170) kd np) (hp' : ∀ k, k < np → F 171 k = nI (pt k) ∧ pt k < 1000) (hL : LineN row 3940 np B) (hB : lB np mm B) (hm : mm < 800) : ∃ row' st', cI (rn (d + 9)) 217 [.ref 168, .int (nI i), .int (nI n)] (hp I J (tF F row st) G X) = some (oI ((gcT kd pt i n B).map (fun q => q.1)), hp I J (tF F row' st') G X) ∧ (∀ q, gcT kd pt i n B = some q → LineN row' 3940 np q.2 ∧ lB np (mm + n) q.2 ∧ q.1 < n) ∧ ∀ k, k < 3940 → row' k = row k := by
  obtain ⟨row1, st1, a1, a2, a3⟩ := goesC_loop (d := d) (I := I) (J := J) (F := F) (G := G) (X := X) hi hn7 hn hk hp' n 0 mm row st B (by omega) (by omega) hL hB (by omega)
  rw [nI_0] at a1
  refine ⟨row1, st1, ?_, a2, a3⟩
  refine cIo ?_
  rw [rX10_goesClear, xX10_goesClear_0, a1]
  simp only [Nat.zero_add]
end TR
/-- the first that holds -/
theorem srch_loop {N : Nat} (E : Nat → Value → mH → mR) (K : Nat → mH → mR) (Z : Value → mH → mR) (S : mH → Prop) (Rv : Nat → Bool) (hstep : ∀ v x h, v < N → S h → ∃ x' h', S h' ∧ E v x h = if Rv v = true then K v h' else E (v + 1) x' h') (hend : ∀ x h, S h → E N x h = Z x h) : ∀ (q v : Nat) (x : Value) (h : mH), N - v = q → v ≤ N → S h → Sx (fun v => if Rv v = true then some v else none) v = none → (Sx (fun v => if Rv v = true then some v else none) N = none → ∃ x' h', S h' ∧ E v x h = Z x' h') ∧ ∀ w, Sx (fun v => if Rv v = true then some v else none) N = some w → ∃ h', S h' ∧ E v x h = K w h' := by
  intro q
  induction q with
  | zero =>
    intro v x h h1 h2 hS hv
    have : v = N := by omega
    subst this
    exact ⟨fun _ => ⟨x, h, hS, hend x h hS⟩, fun w hw => by rw [hv] at hw; cases hw⟩
  | succ q ih =>
    intro v x h h1 h2 hS hv
    obtain ⟨x', h', s1, s2⟩ := hstep v x h (by omega) hS
    have hst : Sx (fun v => if Rv v = true then some v else none) (v + 1) = if Rv v = true then some v else none := by
      show orO (Sx (fun v => if Rv v = true then some v else none) v) _ = _
      rw [hv]; rfl
    by_cases e : Rv v = true
    · rw [if_pos e] at s2 hst
      have hful : Sx (fun v => if Rv v = true then some v else none) N = some v := by
        have : ∀ w, Sx (fun v => if Rv v = true then some v else none) (v + 1 + w) = some v := by
          intro w
          induction w with
          | zero => exact hst
          | succ w ihw =>
            show orO (Sx (fun v => if Rv v = true then some v else none) (v + 1 + w)) _ = _
            rw [ihw]; rfl
        have := this (N - (v + 1))
        rwa [show v + 1 + (N - (v + 1)) = N by omega] at this
      refine ⟨fun hz => (by rw [hful] at hz; cases hz), fun w hw => ?_⟩
      rw [hful] at hw
      cases hw
      exact ⟨h', s1, s2⟩
    · rw [if_neg e] at s2 hst
      obtain ⟨z1, z2⟩ := ih (v + 1) x' h' (by omega) (by omega) s1 hst
      rw [s2]
      exact ⟨z1, z2⟩
