/-! the game: the reference -/
theorem dg4 : ∀ s, s < 4 → ∀ v, v < 256 → (nI v >>> ((2 * nI s) &&& 31)) &&& 3 = nI (v / 4 ^ s % 4) := by decide +kernel
theorem dg2 : ∀ s, s < 4 → ∀ v, v < 256 → (nI v >>> ((2 * nI s) &&& 31)) &&& 1 = nI (v / 4 ^ s % 2) := by decide +kernel
theorem sh4 : ∀ n, n < 5 → (1 : Int32) <<< ((2 * nI n) &&& 31) = nI (4 ^ n) := by decide +kernel
theorem evn : ∀ d, d < 4 → (1 : Int32) - (nI d - nI d / 2 * 2) = bI (decide (d % 2 = 0)) := by decide +kernel
theorem le4 {n : Nat} (h : n ≤ 4) : 4 ^ n ≤ 256 := Nat.pow_le_pow_right (n := 4) (by decide) h
theorem tF_180 (F : Nat → Nat → Int32) (T T' row st : Nat → Int32) : upF (tF (upF F 180 T) row st) 180 T' = tF (upF F 180 T') row st := by
  funext j
  by_cases e : j = 180
  · subst e; rw [upF_eq, tF_ne (by decide) (by decide), upF_eq]
  · rw [upF_ne e]
    by_cases e1 : j = 169
    · subst e1; rw [tF_169, tF_169]
    · by_cases e2 : j = 179
      · subst e2; rw [tF_179, tF_179]
      · rw [tF_ne e1 e2, tF_ne e1 e2, upF_ne e, upF_ne e]
theorem upF_same (F : Nat → Nat → Int32) (k : Nat) : upF F k (F k) = F := by
  funext j
  by_cases e : j = k
  · subst e; rw [upF_eq]
  · rw [upF_ne e]
section GR
variable {I : Nat → Int32} {J : Nat → Int64} {F : Nat → Nat → Int32} {G : Nat → Int64} {X : Nat → va_E} {np : Nat} {kd pt : Nat → Nat}
theorem y_g180 {k : Nat} (hk : k < 256) : aI 3 (hp I J F G X) 180 (nI k) = some (F 180 k) := by rw [aI_at k180 (vin_nI hk (by decide)), nI_clamp (by omega)]
theorem y_s180 {k : Nat} (hk : k < 256) (b : Bool) : sZ (hp I J F G X) 180 (nI k) (bI b) = some (hp I J (upF F 180 (upd (F 180) k (bI b))) G X) := by
  have e : (hp I J F G X).set 180 (arZ 256 (upd (F 180) k (bI b))) = hp I J (upF F 180 (upd (F 180) k (bI b))) G X := (hp_sb (k := 40)).trans rfl
  have hv : vp_nar .boolean (bI b) = bI b := by cases b <;> rfl
  unfold sZ
  rw [k180]
  unfold arZ
  dsimp only
  rw [if_pos rfl, if_pos (vin_nI hk (by decide)), nI_clamp (by omega), hv]
  exact congrArg some e
theorem wins_loop {d n i v : Nat} {A : LSt} (hi : i < 7) (hn4 : n ≤ 4) (hv : v < 256) (hn : np ≤ 7) (hk : kOK (F 170) kd np) (hp' : ∀ k, k < np → F 171 k = nI (pt k) ∧ pt k < 1000) : ∀ (m k mm : Nat) (row st : Nat → Int32) (B : LSt) (v6 v7 : Value), n - k = m → k ≤ n → staG kd pt i A k (v / 4 ^ (n - k)) = some B → LineN row 3940 np B → lB np mm B → mm + m < 900 →
    ∃ row' st', ex cdX10_winsBy (rn (d + 8)) 10 [.ref 168, .int (nI i), .int (nI n), .int (nI v), .int 0, .int (nI k), v6, v7] [] (hp I J (tF F row st) G X) = some (some (.int (bI (staG kd pt i A n v).isNone)), hp I J (tF F row' st') G X) ∧ ∀ k, k < 3940 → row' k = row k := by
  intro m
  induction m with
  | zero =>
    intro k mm row st B v6 v7 h1 h2 hs hL hB hm
    have : k = n := by omega
    subst this
    rw [Nat.sub_self, Nat.pow_zero, Nat.div_one] at hs
    refine ⟨row, st, ?_, fun _ _ => rfl⟩
    rw [xX10_winsBy_10, if_pos (nI_le (Nat.le_refl _) (by omega)), if_pos (by decide), hs]
    rfl
  | succ m ih =>
    intro k mm row st B v6 v7 h1 h2 hs hL hB hm
    have hnk : n - k = m + 1 := h1
    have hstep : staG kd pt i A (k + 1) (v / 4 ^ (n - (k + 1))) = stG kd pt i (v / 4 ^ m % 4) B := by
      rw [show n - (k + 1) = m by omega, staG_s, Nat.div_div_eq_div_mul, ← Nat.pow_succ, show m.succ = n - k from hnk.symm, hs]
      rfl
    have hd4 : v / 4 ^ m % 4 < 4 := Nat.mod_lt _ (by decide)
    have hdig : (nI v >>> ((2 * ((nI n - 1) - nI k)) &&& 31)) &&& 3 = nI (v / 4 ^ m % 4) := by
      rw [show nI n - 1 = nI (n - 1) from pk_sub (b := 1) (by omega), pk_sub (by omega), show n - 1 - k = m by omega]
      exact dg4 m (by omega) v hv
    generalize v / 4 ^ m % 4 = dg at hstep hd4 hdig
    have hBl : lB np mm (trB i dg B) := trB_lB hB
    have hl := lB_len hn hB
    -- the trade
    have tr : ∃ row1 w7, ex cdX10_winsBy (rn (d + 8)) 10 [.ref 168, .int (nI i), .int (nI n), .int (nI v), .int 0, .int (nI k), v6, v7] [] (hp I J (tF F row st) G X) = ex cdX10_winsBy (rn (d + 8)) 67 [.ref 168, .int (nI i), .int (nI n), .int (nI v), .int 0, .int (nI k), .int (nI dg), .int w7] [] (hp I J (tF F row1 st) G X) ∧ LineN row1 3940 np (trB i dg B) ∧ ∀ k, k < 3940 → row1 k = row k := by
      have pl : cI (rn (d + 8)) 176 [.ref 168, .int 3940, .int (nI i)] (hp I J (tF F row st) G X) = some (oI (plc B.1 i), hp I J (tF F row st) G X) := by
        obtain ⟨L, wt, wn, nt, gu⟩ := B
        exact place_y (d := d + 7) (b := 3940) (by decide) (by rw [tF_169]; exact hL) hn hB hi
      rw [xX10_winsBy_10, if_neg (nI_ge (by omega) (by omega)), if_pos rfl, if_pos y_is, pl, Option.bind_some, hdig]
      by_cases h2 : dg < 2
      · refine ⟨row, oI (plc B.1 i), ?_, ?_, fun _ _ => rfl⟩
        · rw [if_pos (show nI dg ≤ 1 from nI_le (b := 1) (by omega) (by decide))]
        · rw [trB_0 (Or.inl h2)]; exact hL
      · rw [if_neg (show ¬ nI dg ≤ 1 from nI_ge (b := dg) (a := 1) (by omega) (by omega))]
        cases hpl : plc B.1 i with
        | none =>
          refine ⟨row, oI none, ?_, ?_, fun _ _ => rfl⟩
          · rw [if_pos (show oI none ≤ 0 by decide)]
          · rw [trB_0 (Or.inr (Or.inl hpl))]; exact hL
        | some j =>
          cases j with
          | zero =>
            refine ⟨row, oI (some 0), ?_, ?_, fun _ _ => rfl⟩
            · rw [if_pos (show oI (some 0) ≤ 0 by decide)]
            · rw [trB_0 (Or.inr (Or.inr hpl))]; exact hL
          | succ j =>
            have hjl := plc_lt hpl
            obtain ⟨row1, a1, a2, a3⟩ := swapT_y (d := d + 7) (I := I) (J := J) (F := F) (G := G) (X := X) (st := st) hL hn hB hjl
            refine ⟨row1, oI (some (j + 1)), ?_, ?_, a3⟩
            · rw [if_neg (show ¬ oI (some (j + 1)) ≤ 0 from nI_nle (by omega) (by omega)), if_pos y_is, show oI (some (j + 1)) - 1 = nI j from nI_pred j, a1, Option.bind_some]
            · rw [trB_at (by omega) hpl]; exact a2
    obtain ⟨row1, w7, t1, t2, t3⟩ := tr
    obtain ⟨row2, st2, a1, a2, a3⟩ := passT_y (d := d) (I := I) (J := J) (F := F) (G := G) (X := X) (st := st) t2 hn hk hp' hBl (by omega) (decide (dg % 2 = 0))
    have hB2 := passA_lB kd pt (decide (dg % 2 = 0)) hBl
    have hlt : ∀ x, (passA kd pt (trB i dg B) (decide (dg % 2 = 0))).1 = some x → x < 7 := fun x hx => Nat.lt_of_lt_of_le (passA_lt (kd := kd) (pt := pt) (z := x) hBl hx) hn
    unfold stG at hstep
    rw [t1, xX10_winsBy_67, if_pos y_is, evn dg hd4, a1, Option.bind_some]
    by_cases e : (passA kd pt (trB i dg B) (decide (dg % 2 = 0))).1 = some i
    · rw [if_pos e] at hstep
      have hnone := staG_none (n - (k + 1)) (k + 1) v hstep
      rw [show k + 1 + (n - (k + 1)) = n by omega] at hnone
      refine ⟨row2, st2, ?_, fun j hj => by rw [a3 j hj, t3 j hj]⟩
      rw [if_pos ((oI_iq hlt hi).mpr e), xX10_winsBy_10, if_neg one_ne, if_pos (show (1 : Int32) &&& 1 = 1 by decide), ite_self, hnone]
      rfl
    · rw [if_neg e] at hstep
      obtain ⟨row3, st3, b1, b2⟩ := ih (k + 1) (mm + 1) row2 st2 _ (.int (nI dg)) (.int w7) (by omega) (by omega) hstep a2 hB2 (by omega)
      refine ⟨row3, st3, ?_, fun j hj => by rw [b2 j hj, a3 j hj, t3 j hj]⟩
      rw [if_neg (fun z => e ((oI_iq hlt hi).mp z)), nI_1]
      exact b1
theorem wins_y {d n i v mm : Nat} {A : LSt} {row st : Nat → Int32} (hi : i < 7) (hn4 : n ≤ 4) (hv : v < 4 ^ n) (hn : np ≤ 7) (hk : kOK (F 170) kd np) (hp' : ∀ k, k < np → F 171 k = nI (pt k) ∧ pt k < 1000) (hL : LineN row 0 np A) (hA : lB np mm A) (hm : mm < 800) : ∃ row' st', cI (rn (d + 9)) 222 [.ref 168, .int (nI i), .int (nI n), .int (nI v)] (hp I J (tF F row st) G X) = some (bI (staG kd pt i A n v).isNone, hp I J (tF F row' st') G X) ∧ ∀ k, k < 3940 → row' k = row k := by
  have := le4 hn4
  obtain ⟨row1, a1, a2, a3⟩ := layT_y (d := d + 6) (I := I) (J := J) (F := F) (G := G) (X := X) (st := st) hn hA hL
  obtain ⟨row2, st2, b1, b2⟩ := wins_loop (d := d) (I := I) (J := J) (F := F) (G := G) (X := X) (v := v) (A := A) hi hn4 (by omega) hn hk hp' n 0 mm row1 st A .null .null (by omega) (by omega) rfl a2 hA (by omega)
  rw [nI_0] at b1
  refine ⟨row2, st2, ?_, fun k hk => by rw [b2 k hk, a3 k hk]⟩
  refine cIo ?_
  rw [rX10_winsBy, xX10_winsBy_0, if_pos y_is, a1, Option.bind_some]
  exact b1
theorem clouds_y {d K v : Nat} {h : mH} (hK : K < 4) (hv : v < 256) : cI (rn (d + 1)) 223 [.int (nI v), .int (nI K)] h = some (nI (cldG K v), h) := by
  have lp : ∀ (q k : Nat), K - k = q → k ≤ K → ex cdX10_clouds (rn d) 4 [.int (nI v), .int (nI K), .int (nI (cldG k v)), .int (nI k)] [] h = some (some (.int (nI (cldG K v))), h) := by
    intro q
    induction q with
    | zero =>
      intro k h1 h2
      have : k = K := by omega
      subst this
      rw [xX10_clouds_4, if_pos (nI_le (Nat.le_refl _) (by omega))]
    | succ q ih =>
      intro k h1 h2
      rw [xX10_clouds_4, if_neg (nI_ge (by omega) (by omega)), dg2 k (by omega) v hv, nI_add, nI_1]
      exact ih (k + 1) (by omega) (by omega)
  refine cIo ?_
  rw [rX10_clouds, xX10_clouds_0]
  exact lp K 0 rfl (by omega)
theorem game24 {n i mm : Nat} {A : LSt} (hi : i < 7) (hn4 : n ≤ 4) (hn : np ≤ 7) (hk : kOK (F 170) kd np) (hp' : ∀ k, k < np → F 171 k = nI (pt k) ∧ pt k < 1000) (hL : LineN (F 169) 0 np A) (hA : lB np mm A) (hm : mm < 800) : ∀ (q v : Nat) (T row st : Nat → Int32), 4 ^ n - v = q → v ≤ 4 ^ n → (∀ k, k < 3940 → row k = F 169 k) → (∀ u, u < v → T u = bI (wvG kd pt i n A 0 u)) → ∃ T' row' st', ex cdX10_game (rn 59) 24 [.ref 168, .int (nI i), .int (nI n), .int (nI v), .null, .null, .null, .null] [] (hp I J (tF (upF F 180 T) row st) G X) = ex cdX10_game (rn 59) 54 [.ref 168, .int (nI i), .int (nI n), .int (nI n), .null, .null, .null, .null] [] (hp I J (tF (upF F 180 T') row' st') G X) ∧ (∀ k, k < 3940 → row' k = F 169 k) ∧ ∀ u, u < 4 ^ n → T' u = bI (wvG kd pt i n A 0 u) := by
  have h256 := le4 hn4
  intro q
  induction q with
  | zero =>
    intro v T row st h1 h2 hr hT
    have : v = 4 ^ n := by omega
    subst this
    exact ⟨T, row, st, by rw [xX10_game_24, sh4 n (by omega), if_pos (nI_le (Nat.le_refl _) (by omega))], hr, hT⟩
  | succ q ih =>
    intro v T row st h1 h2 hr hT
    obtain ⟨row1, st1, a1, a2⟩ := wins_y (d := 50) (I := I) (J := J) (F := upF F 180 T) (G := G) (X := X) (st := st) (row := row) (v := v) (A := A) hi hn4 (by omega) hn (by rw [upF_ne (by decide)]; exact hk) (by rw [upF_ne (by decide)]; exact hp') (keep0 hn hA hL hr) hA hm
    obtain ⟨T', row', st', b1, b2, b3⟩ := ih (v + 1) (upd T v (bI (staG kd pt i A n v).isNone)) row1 st1 (by omega) (by omega) (fun k hk => by rw [a2 k hk, hr k hk]) (fun u hu => by
      by_cases e : u = v
      · subst e; rw [upd_eq]; rfl
      · rw [upd_ne e]; exact hT u (by omega))
    refine ⟨T', row', st', ?_, b2, b3⟩
    rw [xX10_game_24, sh4 n (by omega), if_neg (nI_ge (by omega) (by omega)), y_f21, Option.bind_some, if_pos y_is, a1, Option.bind_some, y_s180 (by omega), Option.bind_some, tF_180, tF_ne (by decide) (by decide), upF_eq, nI_1]
    exact b1
theorem game61 {n i m : Nat} {A : LSt} {row st : Nat → Int32} (hn4 : n ≤ 4) (hm : m < n) : ∀ (q v : Nat) (T : Nat → Int32) (v5 v6 v7 : Value), 4 ^ (n - (m + 1)) - v = q → v ≤ 4 ^ (n - (m + 1)) → (∀ u, u < v → T u = bI (wvG kd pt i n A (m + 1) u)) → (∀ u, v ≤ u → u < 4 ^ (n - m) → T u = bI (wvG kd pt i n A m u)) → ∃ T' w4 w5 w6 w7, ex cdX10_game (rn 59) 61 [.ref 168, .int (nI i), .int (nI n), .int (nI (n - m)), .int (nI v), v5, v6, v7] [] (hp I J (tF (upF F 180 T) row st) G X) = ex cdX10_game (rn 59) 54 [.ref 168, .int (nI i), .int (nI n), .int (nI (n - (m + 1))), w4, w5, w6, w7] [] (hp I J (tF (upF F 180 T') row st) G X) ∧ ∀ u, u < 4 ^ (n - (m + 1)) → T' u = bI (wvG kd pt i n A (m + 1) u) := by
  have e1 : nI (n - m) - 1 = nI (n - (m + 1)) := by rw [show nI (n - m) - 1 = nI (n - m - 1) from pk_sub (b := 1) (by omega), show n - m - 1 = n - (m + 1) by omega]
  have e2 : nI (n - m) + (-1) = nI (n - (m + 1)) := by rw [← e1]; exact (Int32.sub_eq_add_neg _ _).symm
  have hpw : 4 ^ (n - m) = 4 * 4 ^ (n - (m + 1)) := by rw [show n - m = (n - (m + 1)) + 1 by omega, Nat.pow_succ, Nat.mul_comm]
  have h256 := le4 (show n - m ≤ 4 by omega)
  intro q
  induction q with
  | zero =>
    intro v T v5 v6 v7 h1 h2 hT hT2
    have : v = 4 ^ (n - (m + 1)) := by omega
    subst this
    exact ⟨T, _, v5, v6, v7, by rw [xX10_game_61, e1, sh4 _ (by omega), if_pos (nI_le (Nat.le_refl _) (by omega)), e2], hT⟩
  | succ q ih =>
    intro v T v5 v6 v7 h1 h2 hT hT2
    have t0 := hT2 (4 * v) (by omega) (by omega)
    have t1 := hT2 (4 * v + 1) (by omega) (by omega)
    have t2 := hT2 (4 * v + 2) (by omega) (by omega)
    have t3 := hT2 (4 * v + 3) (by omega) (by omega)
    obtain ⟨c, hc⟩ : ∃ c : Bool, c = decide (n / 2 ≤ cldG (n - (m + 1)) v) := ⟨_, rfl⟩
    have hw := wvG_s kd pt i n A m v
    rw [← hc] at hw
    obtain ⟨a0, ha0⟩ : ∃ b : Bool, b = wvG kd pt i n A m (4 * v) := ⟨_, rfl⟩
    obtain ⟨a1, ha1⟩ : ∃ b : Bool, b = wvG kd pt i n A m (4 * v + 1) := ⟨_, rfl⟩
    obtain ⟨a2, ha2⟩ : ∃ b : Bool, b = wvG kd pt i n A m (4 * v + 2) := ⟨_, rfl⟩
    obtain ⟨a3, ha3⟩ : ∃ b : Bool, b = wvG kd pt i n A m (4 * v + 3) := ⟨_, rfl⟩
    rw [← ha0] at t0 hw
    rw [← ha1] at t1 hw
    rw [← ha2] at t2 hw
    rw [← ha3] at t3 hw
    obtain ⟨T', w4, w5, w6, w7, b1, b2⟩ := ih (v + 1) (upd T v (bI (wvG kd pt i n A (m + 1) v))) (.int (bI (!c))) (.int (bI (a0 && (c || a1)))) (.int (bI (a2 && (c || a3)))) (by omega) (by omega) (fun u hu => by
      by_cases e : u = v
      · subst e; rw [upd_eq]
      · rw [upd_ne e]; exact hT u (by omega)) (fun u u1 u2 => by rw [upd_ne (by omega)]; exact hT2 u (by omega) u2)
    refine ⟨T', w4, w5, w6, w7, ?_, b2⟩
    have g : ∀ j, 4 * v + j < 256 → aI 3 (hp I J (tF (upF F 180 T) row st) G X) 180 (nI (4 * v + j)) = some (T (4 * v + j)) := fun j hj => by
      rw [y_g180 hj, tF_ne (by decide) (by decide), upF_eq]
    have g0 := g 0 (by omega)
    rw [Nat.add_zero] at g0
    have e170 : ∀ b0 b2 : Bool, (b0 || b2) = wvG kd pt i n A (m + 1) v → b0 = (a0 && (c || a1)) → b2 = (a2 && (c || a3)) → ex cdX10_game (rn 59) 170 [.ref 168, .int (nI i), .int (nI n), .int (nI (n - m)), .int (nI v), .int (bI (!c)), .int (bI b0), v7] [.int (bI b2)] (hp I J (tF (upF F 180 T) row st) G X) = ex cdX10_game (rn 59) 54 [.ref 168, .int (nI i), .int (nI n), .int (nI (n - (m + 1))), w4, w5, w6, w7] [] (hp I J (tF (upF F 180 T') row st) G X) := by
      intro b0 b2 hb h0 h2
      rw [← hb, ← h0, ← h2] at b1
      have s0 := y_s180 (I := I) (J := J) (F := tF (upF F 180 T) row st) (G := G) (X := X) (k := v) (by omega) (b0 || b2)
      rw [tF_180, tF_ne (by decide) (by decide), upF_eq] at s0
      rw [xX10_game_170, y_f21, Option.bind_some]
      cases b0 with
      | false =>
        rw [if_pos (by rfl)]
        cases b2 with
        | false =>
          rw [if_pos (by rfl), show sZ _ 180 (nI v) 0 = _ from s0, Option.bind_some, nI_1]
          exact b1
        | true =>
          rw [if_neg (by decide), show sZ _ 180 (nI v) 1 = _ from s0, Option.bind_some, nI_1]
          exact b1
      | true =>
        rw [if_neg (by decide), show sZ _ 180 (nI v) 1 = _ from s0, Option.bind_some, nI_1]
        exact b1
    have e130 : ∀ b0 : Bool, b0 = (a0 && (c || a1)) → ex cdX10_game (rn 59) 130 [.ref 168, .int (nI i), .int (nI n), .int (nI (n - m)), .int (nI v), .int (bI (!c)), v6, v7] [.int (bI b0)] (hp I J (tF (upF F 180 T) row st) G X) = ex cdX10_game (rn 59) 54 [.ref 168, .int (nI i), .int (nI n), .int (nI (n - (m + 1))), w4, w5, w6, w7] [] (hp I J (tF (upF F 180 T') row st) G X) := by
      intro b0 h0
      have fin := fun b2 h => e170 b0 b2 (by rw [hw, h0, h]) h0 h
      rw [xX10_game_130, y_f21, Option.bind_some, show (4 : Int32) * nI v = nI (4 * v) from pk_mul 4 v, show nI (4 * v) + 2 = nI (4 * v + 2) from nI_add _ 2, g 2 (by omega), Option.bind_some, t2]
      cases hh2 : a2 with
      | false => rw [if_pos (by rfl)]; exact fin false (by rw [hh2]; rfl)
      | true =>
        rw [if_neg (by decide)]
        cases hhc : c with
        | true => rw [hhc] at fin; rw [if_pos (by rfl)]; exact fin true (by rw [hh2]; rfl)
        | false =>
          rw [hhc] at fin
          rw [if_neg (by decide), Option.bind_some, show nI (4 * v) + 3 = nI (4 * v + 3) from nI_add _ 3, g 3 (by omega), Option.bind_some, t3]
          cases hh3 : a3 with
          | false => rw [if_pos (by rfl)]; exact fin false (by rw [hh2, hh3]; rfl)
          | true => rw [if_neg (by decide)]; exact fin true (by rw [hh2, hh3]; rfl)
    have e92 : ex cdX10_game (rn 59) 92 [.ref 168, .int (nI i), .int (nI n), .int (nI (n - m)), .int (nI v), v5, v6, v7] [.int (bI (!c))] (hp I J (tF (upF F 180 T) row st) G X) = ex cdX10_game (rn 59) 54 [.ref 168, .int (nI i), .int (nI n), .int (nI (n - (m + 1))), w4, w5, w6, w7] [] (hp I J (tF (upF F 180 T') row st) G X) := by
      rw [xX10_game_92, y_f21, Option.bind_some, show (4 : Int32) * nI v = nI (4 * v) from pk_mul 4 v, g0, Option.bind_some, t0]
      cases hh0 : a0 with
      | false => rw [if_pos (by rfl)]; exact e130 false (by rw [hh0]; rfl)
      | true =>
        rw [if_neg (by decide)]
        cases hhc : c with
        | true => rw [hhc] at e130; rw [if_pos (by rfl)]; exact e130 true (by rw [hh0]; rfl)
        | false =>
          rw [hhc] at e130
          rw [if_neg (by decide), Option.bind_some, nI_1, g 1 (by omega), Option.bind_some, t1]
          cases hh1 : a1 with
          | false => rw [if_pos (by rfl)]; exact e130 false (by rw [hh0, hh1]; rfl)
          | true => rw [if_neg (by decide)]; exact e130 true (by rw [hh0, hh1]; rfl)
    have hcl : cldG (n - (m + 1)) v < 100 := by
      unfold cldG
      have : ∀ K, Sn (fun k => v / 4 ^ k % 2) K ≤ K := by
        intro K
        induction K with
        | zero => exact Nat.le_refl _
        | succ K ihK =>
          show Sn (fun k => v / 4 ^ k % 2) K + v / 4 ^ K % 2 ≤ K + 1
          have := Nat.mod_lt (v / 4 ^ K) (show 0 < 2 by decide)
          omega
      have := this (n - (m + 1))
      omega
    rw [xX10_game_61, e1, sh4 _ (by omega), if_neg (nI_ge (by omega) (by omega)), clouds_y (by omega) (by omega), Option.bind_some, show nI n / 2 = nI (n / 2) from pk_div (d := 2) (by omega) (by decide) (by decide)]
    by_cases e : n / 2 ≤ cldG (n - (m + 1)) v
    · rw [decide_eq_true e] at hc
      rw [hc] at e92
      rw [if_pos (nI_le e (by omega))]
      exact e92
    · rw [decide_eq_false e] at hc
      rw [hc] at e92
      rw [if_neg (nI_ge (by omega) (by omega))]
      exact e92
theorem game54 {n i : Nat} {A : LSt} {row st : Nat → Int32} (hn4 : n ≤ 4) : ∀ (q m : Nat) (T : Nat → Int32) (v4 v5 v6 v7 : Value), n - m = q → m ≤ n → (∀ u, u < 4 ^ (n - m) → T u = bI (wvG kd pt i n A m u)) → ∃ T', ex cdX10_game (rn 59) 54 [.ref 168, .int (nI i), .int (nI n), .int (nI (n - m)), v4, v5, v6, v7] [] (hp I J (tF (upF F 180 T) row st) G X) = some (some (.int (bI (wvG kd pt i n A n 0))), hp I J (tF (upF F 180 T') row st) G X) := by
  intro q
  induction q with
  | zero =>
    intro m T v4 v5 v6 v7 h1 h2 hT
    have : m = n := by omega
    subst this
    have t0 := hT 0 (by rw [Nat.sub_self]; decide)
    refine ⟨T, ?_⟩
    have g0 : aI 3 (hp I J (tF (upF F 180 T) row st) G X) 180 0 = some (T 0) := by
      have := y_g180 (I := I) (J := J) (F := tF (upF F 180 T) row st) (G := G) (X := X) (k := 0) (by decide)
      rwa [nI_0, tF_ne (by decide) (by decide), upF_eq] at this
    rw [xX10_game_54, Nat.sub_self, if_pos (by decide), y_f21, Option.bind_some, g0, Option.bind_some, t0]
    cases wvG kd pt i m A m 0 with
    | false => rw [if_pos (by rfl)]; rfl
    | true => rw [if_neg (by decide)]; rfl
  | succ q ih =>
    intro m T v4 v5 v6 v7 h1 h2 hT
    obtain ⟨T1, w4, w5, w6, w7, a1, a2⟩ := game61 (I := I) (J := J) (F := F) (G := G) (X := X) (i := i) (A := A) (kd := kd) (pt := pt) (row := row) (st := st) hn4 (show m < n by omega) (4 ^ (n - (m + 1))) 0 T v5 v6 v7 rfl (Nat.zero_le _) (fun u hu => absurd hu (by omega)) (fun u _ hu => hT u hu)
    obtain ⟨T2, b1⟩ := ih (m + 1) T1 w4 w5 w6 w7 (by omega) (by omega) a2
    refine ⟨T2, ?_⟩
    rw [xX10_game_54, if_neg (nI_nle (by omega) (by omega)), ← nI_0, a1]
    exact b1
end GR
theorem g_game : gdI 107 224 2 := gdI_of (fun as hn I J F G X np kd pt pr ds ks hR hS => by
  obtain ⟨a, b, rfl⟩ := as2 hn
  show okI _ _ [.int a, .int b] I J F G X
  obtain ⟨hn7, h4, h168, hk, hk', hp', hp'', hA, hQ, hL⟩ := rel_ctx (G := G) (X := X) hR
  rcases ix a (n := np) (by omega) with ha | ⟨i, hi, rfl⟩
  · refine okI_same (v := -1) hR hS ?_ ?_
    · refine cIo ?_; rw [rX9_game, xX9_game_0, x_f2, Option.bind_some, if_pos x_ci, has_xn ha h4, Option.bind_some, if_pos rfl]
    · refine cIo ?_; rw [rX10_game, xX10_game_0, if_pos y_is, isP_yn hn7 ha h168, Option.bind_some, if_pos rfl]
  rcases ix b (n := 5) (by decide) with hb | ⟨n, hn5, rfl⟩
  · refine okI_same (v := -1) hR hS ?_ ?_
    · refine cIo ?_; rw [rX9_game, xX9_game_0, x_f2, Option.bind_some, if_pos x_ci, has_x hn7 hi h4, Option.bind_some, if_neg one_ne]
      by_cases z : b < 0
      · rw [if_pos z]
      · obtain ⟨m, hm, rfl⟩ := nI_of z
        rcases hb with hb | hb
        · exact absurd hb z
        · rw [if_neg z, if_neg (show ¬ nI m ≤ 4 from fun y => by
            have h5 : 5 ≤ m := (nI_leI (a := 5) (by decide) hm).mp hb
            have := (nI_leI (b := 4) hm (by decide)).mp y
            omega)]
    · refine cIo ?_; rw [rX10_game, xX10_game_0, if_pos y_is, isP_y hn7 hi h168, Option.bind_some, if_neg one_ne, in_yn (x := 0) (y := 4) (n := 5) (by decide) hb (by decide) (by decide), Option.bind_some, if_pos rfl]
  have hn4 : n ≤ 4 := by omega
  generalize hAe : rep np kd pt ds = A at hA hQ hL
  obtain ⟨X1, a1, a2, a3, a4, a5⟩ := gbegin_x (d := 56) (J := J) (G := G) (i := nI i) hS.2.2.1 hn4 hn7 hA hQ
  obtain ⟨X2, b1, b2, b3⟩ := wonF_x (I := I) (J := J) (F := F) (G := G) (show i < 7 by omega) hn4 hn7 h4 hk hp' n 0 58 X1 A 40 (n / 2) (by omega) (by omega) a2 a3 a4 hA (by omega) (by omega)
  rw [nI_0] at b1
  have b1' : cI (rn 59) 6 [.ref 93] (hp I J F G X1) = some (bI (tvG kd pt i n (n / 2) A), hp I J F G X2) := by
    refine cIo ?_
    rw [rX0_isWon, xX0_isWon_0, gIx (by decide) (by decide) a2 rfl, Option.bind_some, if_pos (isOx (by decide) (by decide) a2), show nI n / 2 = nI (n / 2) from pk_div (d := 2) (by omega) (by decide) (by decide), b1, Option.bind_some, if_pos (bI_and _)]
  have hS2 : ShX X2 := ShX_G hS (fun k hk => by rw [b3 k (by omega), a5 k hk]) (by rw [b3 93 (by omega)]; exact a2) b2
  obtain ⟨T1, row, st, c1, c2, c3⟩ := game24 (I := I) (J := J) (F := F) (G := G) (X := X2) (A := A) (show i < 7 by omega) hn4 hn7 hk' hp'' hL hA (by omega) (4 ^ n) 0 (F 180) (F 169) (F 179) rfl (Nat.zero_le _) (fun _ _ => rfl) (fun u hu => absurd hu (by omega))
  rw [upF_same, tF_same, nI_0] at c1
  obtain ⟨T2, d1⟩ := game54 (I := I) (J := J) (F := F) (G := G) (X := X2) (i := i) (A := A) (kd := kd) (pt := pt) (row := row) (st := st) hn4 n 0 T1 .null .null .null .null rfl (by omega) c3
  have hval : wvG kd pt i n A n 0 = tvG kd pt i n (n / 2) A := by
    rw [wvG_tv n 0 (Nat.le_refl _), Nat.sub_self]
    rfl
  rw [hval] at d1
  refine okI_mk (v := bI (tvG kd pt i n (n / 2) A)) (I1 := I) (J1 := J) (F1 := F) (X1 := X2) (I2 := I) (J2 := J) (G2 := G) (F2 := tF (upF F 180 T2) row st) ?_ ?_ (rel_scr hR (fun _ _ => rfl) (fun k hk => by rw [tF_ne (by omega) (by omega), upF_ne (by omega)]) (fun k hk => by rw [tF_169, c2 k hk])) hS2
  · refine cIo ?_
    rw [rX9_game, xX9_game_0, x_f2, Option.bind_some, if_pos x_ci, has_x hn7 hi h4, Option.bind_some, if_neg one_ne, if_neg (nI_pos (by omega)), if_pos (show nI n ≤ 4 from nI_le (b := 4) hn4 (by decide)), x_f10, Option.bind_some, x_f2, Option.bind_some, x_f4, Option.bind_some, if_pos (by obtain ⟨⟨_, _, _, w1⟩, -⟩ := hS.2.2.1; exact isOx (by decide) (by decide) w1), a1, Option.bind_some, x_f10, Option.bind_some, if_pos (isOx (by decide) (by decide) a2), b1', Option.bind_some]
    cases tvG kd pt i n (n / 2) A with
    | false => rw [if_pos (by rfl)]; rfl
    | true => rw [if_neg (show ¬ bI true = 0 by decide)]; rfl
  · refine cIo ?_
    rw [rX10_game, xX10_game_0, if_pos y_is, isP_y hn7 hi h168, Option.bind_some, if_neg one_ne, in_y (x := 0) (y := 4) (n := 5) (by decide) hn5 rfl (by decide) (by decide), Option.bind_some, if_neg one_ne, c1]
    exact d1)
