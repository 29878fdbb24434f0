/-! lies: the component -/
def lieO (n mt : Int32) (wy : Int64) : va_E := .inr (3, [.ref 132, .int n, .int mt, .long wy])
def mtI (acc : Option (Nat × Nat)) : Int32 := match acc with
  | none => -1
  | some q => nI q.1
def wyI (acc : Option (Nat × Nat)) : Int64 := match acc with
  | none => 0
  | some q => lN q.2
def RT (ps : List (Nat × Nat)) (X : Nat → va_E) : Prop := (∃ f, X 132 = arR 8 7 f ∧ ∀ k, k < 7 → f k = some (133 + k)) ∧ ∀ k, k < 7 → ∃ g, X (133 + k) = ar 7 g ∧ ∀ b, b < 7 → g b = nI (cntP ps k b)
theorem msk_t : ∀ M, M < 128 → ∀ p, p < 7 → (nI M >>> (nI p &&& 31)) &&& 1 = bI (M.testBit p) := by decide +kernel
theorem msk_o : ∀ M, M < 128 → ∀ q, q < 7 → nI M ||| (1 <<< (nI q &&& 31)) = nI (M ||| 2 ^ q) := by decide +kernel
theorem cntP_le (ps : List (Nat × Nat)) (a b : Nat) : cntP ps a b ≤ ps.length := List.countP_le_length
theorem trs_le {ps : List (Nat × Nat)} {l : List Nat} (h : l.Nodup) : trs ps l ≤ ps.length := by have := trs_lis h ps; omega
section LC
variable {I : Nat → Int32} {J : Nat → Int64} {F : Nat → Nat → Int32} {G : Nat → Int64} {X : Nat → va_E}
theorem isP3 {d n a : Nat} {mt : Int32} {wy : Int64} (hX : X 131 = lieO (nI n) mt wy) (ha : a < n) (hn : n ≤ 7) : cI (rn (d + 1)) 25 [.ref 131, .int (nI a)] (hp I J F G X) = some (1, (hp I J F G X)) := by
  refine cIo ?_
  rw [rX3_isPerson, xX3_isPerson_0, if_neg (nI_pos (by omega)), gIx (by decide) (by decide) hX rfl, Option.bind_some, if_neg (nI_ge ha (by omega))]
theorem mbegin_x {d n : Nat} (hS : ShR X) (hn : n ≤ 7) : ∃ X', cV (rn (d + 2)) 23 [.ref 131, .int (nI n)] (hp I J F G X) = some (hp I J F G X') ∧ X' 131 = lieO (nI n) (-1) 0 ∧ RT [] X' ∧ ∀ k, (k < 131 ∨ 140 ≤ k) → X' k = X k := by
  obtain ⟨⟨a, b, c, w1⟩, ⟨f, w2, w2'⟩, w3⟩ := hS
  obtain ⟨X1, a1, a2, a3⟩ := pFy (I := I) (J := J) (F := F) (G := G) (k := 131) (j := 1) (v := .int (nI n)) (by decide) (by decide) w1 (Nat.le_of_ble_eq_true rfl)
  obtain ⟨X2, b1, b2, b3⟩ := pFy (I := I) (J := J) (F := F) (G := G) (X := X1) (k := 131) (j := 2) (v := .int (-1)) (by decide) (by decide) a2 (Nat.le_of_ble_eq_true rfl)
  obtain ⟨X3, c1, c2, c3⟩ := pFy (I := I) (J := J) (F := F) (G := G) (X := X2) (k := 131) (j := 3) (v := .long 0) (by decide) (by decide) b2 (Nat.le_of_ble_eq_true rfl)
  have fr : ∀ i, i ≠ 131 → X3 i = X i := fun i hi => by rw [c3 i hi, b3 i hi, a3 i hi]
  have lp : ∀ (q k : Nat) (X : Nat → va_E), 7 - k = q → k ≤ 7 → X 131 = lieO (nI n) (-1) 0 → X 132 = arR 8 7 f → (∀ j, j < 7 → ∃ g, X (133 + j) = ar 7 g ∧ (j < k → ∀ b, b < 7 → g b = 0)) → ∃ X', ex cdX3_begin (rn (d + 1)) 22 [.ref 131, .int (nI n), .int (nI k)] [] (hp I J F G X) = some (none, hp I J F G X') ∧ X' 131 = lieO (nI n) (-1) 0 ∧ X' 132 = arR 8 7 f ∧ (∀ j, j < 7 → ∃ g, X' (133 + j) = ar 7 g ∧ ∀ b, b < 7 → g b = 0) ∧ ∀ k, (k < 131 ∨ 140 ≤ k) → X' k = X k := by
    intro q
    induction q with
    | zero =>
      intro k X h1 h2 hX h132 hr
      have : k = 7 := by omega
      subst this
      exact ⟨X, by rw [xX3_begin_22, if_pos (by decide)], hX, h132, fun j hj => by obtain ⟨g, g1, g2⟩ := hr j hj; exact ⟨g, g1, g2 hj⟩, fun _ _ => rfl⟩
    | succ q ih =>
      intro k X h1 h2 hX h132 hr
      obtain ⟨g, g1, -⟩ := hr k (by omega)
      have hf := fill_x (d := d) (v := 0) (n := 7) (H := (hp I J F G X)) (a := 133 + k) (by decide) ((hp_x (by omega) (by omega)).trans (congrArg some g1))
      rw [hp_sx (by omega) (by omega)] at hf
      obtain ⟨X', u1, u2, u3, u4, u5⟩ := ih (k + 1) (fun j => if j = 133 + k then ar 7 (fun i => if i < 7 then 0 else g i) else X j) (by omega) (by omega) (by rw [if_neg (by omega)]; exact hX) (by rw [if_neg (by omega)]; exact h132) (fun j hj => by
        by_cases e : j = k
        · subst e
          exact ⟨_, if_pos rfl, fun _ b hb => if_pos hb⟩
        · obtain ⟨g', e1, e2⟩ := hr j hj
          exact ⟨g', by rw [if_neg (by omega)]; exact e1, fun hk => e2 (by omega)⟩)
      refine ⟨X', ?_, u2, u3, u4, fun j hj => by rw [u5 j hj]; exact if_neg (by omega)⟩
      rw [xX3_begin_22, if_neg (show ¬ (7 : Int32) ≤ nI k from nI_ge (b := 7) (by omega) (by decide)), gRx (by decide) (by decide) hX rfl, Option.bind_some, aRx (by decide) (by decide) h132 (show k < 7 by omega) (by decide) (w2' k (by omega)), Option.bind_some, hf, Option.bind_some, nI_1]
      exact u1
  obtain ⟨X4, u1, u2, u3, u4, u5⟩ := lp 7 0 X3 rfl (by omega) (by rw [c2]; rfl) (by rw [fr 132 (by decide)]; exact w2) (fun j hj => by
    obtain ⟨g, hg⟩ := w3 j hj
    exact ⟨g, by rw [fr _ (by omega)]; exact hg, fun hk => absurd hk (by omega)⟩)
  rw [nI_0] at u1
  refine ⟨X4, ?_, u2, ⟨⟨f, u3, w2'⟩, u4⟩, fun k hk => by rw [u5 k hk, fr k (by omega)]⟩
  refine cVo ?_
  rw [rX3_begin, xX3_begin_0, nat0, Option.bind_some, if_neg (show ¬ (7 : Int32) < nI n from fun z => by have := (nI_ltI (a := 7) (by decide) (by omega)).mp z; omega), a1, Option.bind_some, b1, Option.bind_some, c1, Option.bind_some]
  exact u1
theorem addP_x {d n a b : Nat} {mt : Int32} {wy : Int64} {ps : List (Nat × Nat)} (hX : X 131 = lieO (nI n) mt wy) (hT : RT ps X) (ha : a < n) (hb : b < n) (hn : n ≤ 7) : ∃ X', cV (rn (d + 2)) 24 [.ref 131, .int (nI a), .int (nI b)] (hp I J F G X) = some (hp I J F G X') ∧ X' 131 = lieO (nI n) mt wy ∧ RT (ps ++ [(a, b)]) X' ∧ ∀ k, (k < 131 ∨ 140 ≤ k) → X' k = X k := by
  obtain ⟨⟨f, t1, t2⟩, t3⟩ := hT
  obtain ⟨g, g1, g2⟩ := t3 a (by omega)
  obtain ⟨X1, a1, a2, a3⟩ := sIx (I := I) (J := J) (F := F) (G := G) (X := X) (k := 133 + a) (i := b) (x := nI (cntP ps a b + 1)) (by omega) (by omega) g1 (show b < 7 by omega) (by decide)
  have hcnt : ∀ k c, cntP (ps ++ [(a, b)]) k c = cntP ps k c + if (a, b) = (k, c) then 1 else 0 := by
    intro k c
    unfold cntP
    rw [List.countP_append, List.countP_singleton]
    by_cases e : (a, b) = (k, c)
    · rw [if_pos e, if_pos (decide_eq_true e)]
    · rw [if_neg e, if_neg (by rw [decide_eq_false e]; decide)]
  refine ⟨X1, ?_, by rw [a3 131 (by omega)]; exact hX, ⟨⟨f, by rw [a3 132 (by omega)]; exact t1, t2⟩, fun k hk => ?_⟩, fun k hk => a3 k (by omega)⟩
  · refine cVo ?_
    rw [rX3_addPair, xX3_addPair_0, if_pos (isOx (by decide) (by decide) hX), isP3 hX ha hn, Option.bind_some, if_neg one_ne, if_pos (isOx (by decide) (by decide) hX), isP3 hX hb hn, Option.bind_some, if_neg one_ne, gRx (by decide) (by decide) hX rfl, Option.bind_some, aRx (by decide) (by decide) t1 (show a < 7 by omega) (by decide) (t2 a (by omega)), Option.bind_some, aIx (by omega) (by omega) g1 (show b < 7 by omega) (by decide), Option.bind_some, g2 b (by omega), nI_1, a1, Option.bind_some]
  · by_cases e : k = a
    · subst e
      refine ⟨_, a2, fun c hc => ?_⟩
      by_cases e2 : c = b
      · subst e2; rw [upd_eq, hcnt, if_pos rfl]
      · rw [upd_ne e2, hcnt, if_neg (fun z => e2 (Prod.mk.inj z).2.symm), Nat.add_zero]; exact g2 c hc
    · obtain ⟨g', e1, e2⟩ := t3 k hk
      refine ⟨g', by rw [a3 _ (by omega)]; exact e1, fun c hc => ?_⟩
      rw [hcnt, if_neg (fun z => e (Prod.mk.inj z).1.symm), Nat.add_zero]; exact e2 c hc
theorem cO_x {d n t : Nat} {acc : Option (Nat × Nat)} {ps : List (Nat × Nat)} {l : List Nat} (hX : X 131 = lieO (nI n) (mtI acc) (wyI acc)) (ht : t = trs ps l) (h8 : t < 1000) (ha : ∀ q, acc = some q → q.1 < 1000) : ∃ X', cV (rn (d + 1)) 28 [.ref 131, .int (nI t)] (hp I J F G X) = some (hp I J F G X') ∧ X' 131 = lieO (nI n) (mtI (stpL ps acc l)) (wyI (stpL ps acc l)) ∧ ∀ k, k ≠ 131 → X' k = X k := by
  -- more than before
  have more : ¬ nI t ≤ mtI acc → stpL ps acc l = some (t, 1) → ∃ X', cV (rn (d + 1)) 28 [.ref 131, .int (nI t)] (hp I J F G X) = some (hp I J F G X') ∧ X' 131 = lieO (nI n) (mtI (stpL ps acc l)) (wyI (stpL ps acc l)) ∧ ∀ k, k ≠ 131 → X' k = X k := by
    intro h1 h2
    obtain ⟨X1, a1, a2, a3⟩ := pFy (I := I) (J := J) (F := F) (G := G) (k := 131) (j := 2) (v := .int (nI t)) (by decide) (by decide) hX (Nat.le_of_ble_eq_true rfl)
    obtain ⟨X2, b1, b2, b3⟩ := pFy (I := I) (J := J) (F := F) (G := G) (X := X1) (k := 131) (j := 3) (v := .long 0) (by decide) (by decide) a2 (Nat.le_of_ble_eq_true rfl)
    obtain ⟨X3, c1, c2, c3⟩ := pFy (I := I) (J := J) (F := F) (G := G) (X := X2) (k := 131) (j := 3) (v := .long (0 + 1)) (by decide) (by decide) b2 (Nat.le_of_ble_eq_true rfl)
    refine ⟨X3, ?_, ?_, fun k hk => by rw [c3 k hk, b3 k hk, a3 k hk]⟩
    · refine cVo ?_
      rw [rX3_countOrder, xX3_countOrder_0, gIx (by decide) (by decide) hX rfl, Option.bind_some, if_neg h1, a1, Option.bind_some, b1, Option.bind_some, xX3_countOrder_18, gIx (by decide) (by decide) b2 rfl, Option.bind_some, if_pos rfl, gLx (by decide) (by decide) b2 rfl, Option.bind_some, c1, Option.bind_some]
    · rw [c2, h2]; rfl
  cases acc with
  | none =>
    have hz : ¬ nI t ≤ mtI none := fun z => by
      have h0 : ¬ nI t < 0 := nI_pos (by omega)
      exact h0 (Int32.lt_of_le_of_lt (show nI t ≤ -1 from z) (by decide))
    exact more hz (by rw [ht]; rfl)
  | some q =>
    have hq := ha q rfl
    by_cases e : q.1 < t
    · refine more (nI_ge e (by omega)) ?_
      show (if q.1 < trs ps l then some (trs ps l, 1) else _) = _
      rw [← ht, if_pos e]
    · have hle : nI t ≤ mtI (some q) := nI_le (by omega) (by omega)
      by_cases e2 : t = q.1
      · have hst : stpL ps (some q) l = some (q.1, q.2 + 1) := by
          show (if q.1 < trs ps l then some (trs ps l, 1) else if trs ps l = q.1 then some (q.1, q.2 + 1) else some q) = _
          rw [← ht, if_neg e, if_pos e2]
        obtain ⟨X1, a1, a2, a3⟩ := pFy (I := I) (J := J) (F := F) (G := G) (k := 131) (j := 3) (v := .long (wyI (some q) + 1)) (by decide) (by decide) hX (Nat.le_of_ble_eq_true rfl)
        refine ⟨X1, ?_, ?_, a3⟩
        · refine cVo ?_
          rw [rX3_countOrder, xX3_countOrder_0, gIx (by decide) (by decide) hX rfl, Option.bind_some, if_pos hle, xX3_countOrder_18, gIx (by decide) (by decide) hX rfl, Option.bind_some, if_pos (show nI t = mtI (some q) by rw [e2]; rfl), gLx (by decide) (by decide) hX rfl, Option.bind_some, a1, Option.bind_some]
        · rw [a2, hst]
          show lieO (nI n) (nI q.1) (lN q.2 + 1) = lieO (nI n) (nI q.1) (lN (q.2 + 1))
          rw [lN_1]
      · have hst : stpL ps (some q) l = some q := by
          show (if q.1 < trs ps l then some (trs ps l, 1) else if trs ps l = q.1 then some (q.1, q.2 + 1) else some q) = _
          rw [← ht, if_neg e, if_neg e2]
        refine ⟨X, ?_, by rw [hst]; exact hX, fun _ _ => rfl⟩
        refine cVo ?_
        rw [rX3_countOrder, xX3_countOrder_0, gIx (by decide) (by decide) hX rfl, Option.bind_some, if_pos hle, xX3_countOrder_18, gIx (by decide) (by decide) hX rfl, Option.bind_some, if_neg (show ¬ nI t = mtI (some q) from fun z => e2 ((nI_inj (by omega) (by omega)).mp z))]
theorem stpL_lt {ps : List (Nat × Nat)} {acc : Option (Nat × Nat)} {l : List Nat} {B : Nat} (h : trs ps l < B) (ha : ∀ q, acc = some q → q.1 < B) : ∀ q, stpL ps acc l = some q → q.1 < B := by
  intro q hq
  cases acc with
  | none => cases hq; exact h
  | some p =>
    have h' : (if p.1 < trs ps l then some (trs ps l, 1) else if trs ps l = p.1 then some (p.1, p.2 + 1) else some p) = some q := hq
    have hp := ha p rfl
    split at h'
    · cases h'; exact h
    · split at h'
      · cases h'; exact hp
      · cases h'; exact hp
theorem sb_x {n : Nat} {ps : List (Nat × Nat)} (hn : n ≤ 7) (h8 : ps.length ≤ 8) : ∀ (m D : Nat) (X : Nat → va_E) (pre : List Nat) (la : Int32) (M : Nat) (acc : Option (Nat × Nat)), pre.length + m = n → m + 3 ≤ D → pre.Nodup → (pre = [] ∧ la = -2 ∨ ∃ pre' b, pre = pre' ++ [b] ∧ la = nI b ∧ b < n) → M < 128 → (∀ p, p < 7 → M.testBit p = decide (p ∈ pre)) → X 131 = lieO (nI n) (mtI acc) (wyI acc) → RT ps X → (∀ q, acc = some q → q.1 < 1000) →
    ∃ X', cV (rn D) 27 [.ref 131, .int la, .int (nI M), .int (nI pre.length), .int (nI (trs ps pre))] (hp I J F G X) = some (hp I J F G X') ∧ X' 131 = lieO (nI n) (mtI (pfd (stpL ps) n m pre acc)) (wyI (pfd (stpL ps) n m pre acc)) ∧ (∀ k, k ≠ 131 → X' k = X k) ∧ ∀ q, pfd (stpL ps) n m pre acc = some q → q.1 < 1000 := by
  intro m
  induction m with
  | zero =>
    intro D X pre la M acc h1 h2 hnd hla hM hbit hX hT hacc
    obtain ⟨D, rfl⟩ : ∃ z, D = (z + 1) + 1 := ⟨D - 2, by omega⟩
    have ht := trs_le (ps := ps) hnd
    obtain ⟨X1, a1, a2, a3⟩ := cO_x (d := D) (I := I) (J := J) (F := F) (G := G) (l := pre) (ps := ps) hX rfl (by omega) hacc
    refine ⟨X1, ?_, a2, a3, stpL_lt (by omega) hacc⟩
    refine cVo ?_
    rw [rX3_standBehind, xX3_standBehind_0, gIx (by decide) (by decide) hX rfl, Option.bind_some, if_neg (nI_nlt (by omega) (by omega)), if_pos (isOx (by decide) (by decide) hX), a1, Option.bind_some]
  | succ m ih =>
    intro D X pre la M acc h1 h2 hnd hla hM hbit hX hT hacc
    obtain ⟨D, rfl⟩ : ∃ z, D = (z + 1) + 1 := ⟨D - 2, by omega⟩
    have lp : ∀ (q k : Nat) (X : Nat → va_E) (v6 : Value), n - k = q → k ≤ n → X 131 = lieO (nI n) (mtI ((List.range k).foldl (fun acc p => if p ∈ pre then acc else pfd (stpL ps) n m (pre ++ [p]) acc) acc)) (wyI ((List.range k).foldl (fun acc p => if p ∈ pre then acc else pfd (stpL ps) n m (pre ++ [p]) acc) acc)) → RT ps X → (∀ q, (List.range k).foldl (fun acc p => if p ∈ pre then acc else pfd (stpL ps) n m (pre ++ [p]) acc) acc = some q → q.1 < 1000) →
        ∃ X', ex cdX3_standBehind (rn (D + 1)) 18 [.ref 131, .int la, .int (nI M), .int (nI pre.length), .int (nI (trs ps pre)), .int (nI k), v6] [] (hp I J F G X) = some (none, hp I J F G X') ∧ X' 131 = lieO (nI n) (mtI (pfd (stpL ps) n (m + 1) pre acc)) (wyI (pfd (stpL ps) n (m + 1) pre acc)) ∧ (∀ k, k ≠ 131 → X' k = X k) ∧ ∀ q, pfd (stpL ps) n (m + 1) pre acc = some q → q.1 < 1000 := by
      intro q
      induction q with
      | zero =>
        intro k X v6 g1 g2 hX hT hacc
        have : k = n := by omega
        subst this
        refine ⟨X, ?_, hX, fun _ _ => rfl, hacc⟩
        rw [xX3_standBehind_18, gIx (by decide) (by decide) hX rfl, Option.bind_some, if_pos (nI_le (Nat.le_refl _) (by omega))]
      | succ q ihq =>
        intro k X v6 g1 g2 hX hT hacc
        have hstep : (List.range (k + 1)).foldl (fun acc p => if p ∈ pre then acc else pfd (stpL ps) n m (pre ++ [p]) acc) acc = if k ∈ pre then (List.range k).foldl (fun acc p => if p ∈ pre then acc else pfd (stpL ps) n m (pre ++ [p]) acc) acc else pfd (stpL ps) n m (pre ++ [k]) ((List.range k).foldl (fun acc p => if p ∈ pre then acc else pfd (stpL ps) n m (pre ++ [p]) acc) acc) := by
          rw [List.range_succ, List.foldl_append]
          rfl
        generalize (List.range k).foldl (fun acc p => if p ∈ pre then acc else pfd (stpL ps) n m (pre ++ [p]) acc) acc = ac at hX hacc hstep
        rw [xX3_standBehind_18, gIx (by decide) (by decide) hX rfl, Option.bind_some, if_neg (nI_ge (by omega) (by omega)), msk_t M hM k (by omega), hbit k (by omega)]
        by_cases e : k ∈ pre
        · rw [if_pos e] at hstep
          rw [decide_eq_true e, if_neg (show ¬ bI true = 0 by decide), nI_1]
          exact ihq (k + 1) X v6 (by omega) (by omega) (by rw [hstep]; exact hX) hT (by rw [hstep]; exact hacc)
        · rw [if_neg e] at hstep
          rw [decide_eq_false e, if_pos (by rfl), if_pos (isOx (by decide) (by decide) hX)]
          have hnd' : (pre ++ [k]).Nodup := by
            rw [List.nodup_append]
            exact ⟨hnd, List.nodup_cons.mpr ⟨List.not_mem_nil, List.nodup_nil⟩, fun a ha b hb => by
              rw [List.mem_singleton] at hb
              subst hb
              exact fun z => e (z ▸ ha)⟩
          have hbit' : ∀ p, p < 7 → (M ||| 2 ^ k).testBit p = decide (p ∈ pre ++ [k]) := fun p hp => by
            rw [Nat.testBit_or, Nat.testBit_two_pow, hbit p hp]
            by_cases z1 : p ∈ pre <;> by_cases z2 : k = p <;> simp [z1, z2, eq_comm]
          have hM' : M ||| 2 ^ k < 128 := Nat.or_lt_two_pow (n := 7) hM (Nat.pow_lt_pow_right (by decide) (by omega))
          have hlen : (pre ++ [k]).length = pre.length + 1 := by simp
          have htl := trs_le (ps := ps) hnd'
          obtain ⟨X1, a1, a2, a3, a4⟩ := ih (D + 1) X (pre ++ [k]) (nI k) (M ||| 2 ^ k) ac (by omega) (by omega) hnd' (Or.inr ⟨pre, k, rfl, rfl, by omega⟩) hM' hbit' hX hT hacc
          rw [hlen] at a1
          have hT1 : RT ps X1 := by
            obtain ⟨⟨f, t1, t2⟩, t3⟩ := hT
            exact ⟨⟨f, by rw [a3 132 (by decide)]; exact t1, t2⟩, fun j hj => by rw [a3 _ (by omega)]; exact t3 j hj⟩
          obtain ⟨f, t1, t2⟩ := hT.1
          obtain ⟨g, g1', g2'⟩ := hT.2 k (by omega)
          have fin : ∀ s0 : Int32, nI (trs ps pre) + s0 = nI (trs ps (pre ++ [k])) → ∃ X', ex cdX3_standBehind (rn (D + 1)) 57 [.ref 131, .int la, .int (nI M), .int (nI pre.length), .int (nI (trs ps pre)), .int (nI k), v6] [.int s0] (hp I J F G X) = some (none, hp I J F G X') ∧ X' 131 = lieO (nI n) (mtI (pfd (stpL ps) n (m + 1) pre acc)) (wyI (pfd (stpL ps) n (m + 1) pre acc)) ∧ (∀ k, k ≠ 131 → X' k = X k) ∧ ∀ q, pfd (stpL ps) n (m + 1) pre acc = some q → q.1 < 1000 := by
            intro s0 hs0
            obtain ⟨X2, b1, b2, b3, b4⟩ := ihq (k + 1) X1 (.int s0) (by omega) (by omega) (by rw [hstep]; exact a2) hT1 (by rw [hstep]; exact a4)
            refine ⟨X2, ?_, b2, fun j hj => by rw [b3 j hj, a3 j hj], b4⟩
            rw [xX3_standBehind_57, if_pos (isOx (by decide) (by decide) hX), msk_o M hM k (by omega), nI_1, hs0, a1, Option.bind_some, nI_1]
            exact b1
          rcases hla with ⟨rfl, rfl⟩ | ⟨pre', b, rfl, rfl, hb⟩
          · have h24 : cI (rn (D + 1)) 25 [.ref 131, .int (-2)] (hp I J F G X) = some (0, (hp I J F G X)) := by
              refine cIo ?_
              rw [rX3_isPerson, xX3_isPerson_0, if_pos (by decide)]
            rw [h24, Option.bind_some, if_pos rfl]
            exact fin 0 (show nI 0 + 0 = nI 0 by decide)
          · rw [isP3 hX hb hn, Option.bind_some, if_neg one_ne, gRx (by decide) (by decide) hX rfl, Option.bind_some, aRx (by decide) (by decide) t1 (show k < 7 by omega) (by decide) (t2 k (by omega)), Option.bind_some, aIx (by omega) (by omega) g1' (show b < 7 by omega) (by decide), Option.bind_some, g2' b (by omega)]
            exact fin _ (by rw [nI_add, trs_snoc])
    obtain ⟨X1, a1, a2, a3, a4⟩ := lp n 0 X .null (by omega) (by omega) hX hT hacc
    rw [nI_0] at a1
    refine ⟨X1, ?_, a2, a3, a4⟩
    refine cVo ?_
    rw [rX3_standBehind, xX3_standBehind_0, gIx (by decide) (by decide) hX rfl, Option.bind_some, if_pos (nI_lt (by omega) (by omega))]
    exact a1
end LC
