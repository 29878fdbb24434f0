/-! soonest, rows, odds, mid -/
theorem sh31 : ∀ k, k < 32 → ((nI k &&& 31).toBitVec.smod 32).toNat = k := by decide +kernel
theorem pow1 : ∀ n, n < 11 → (1 : Int32) <<< (nI n &&& 31) = nI (2 ^ n) := by decide +kernel
theorem bit_at {v k : Nat} (hv : v < 2 ^ 31) (hk : k < 32) : (nI v >>> (nI k &&& 31)) &&& 1 = bI (bt (v / 2 ^ k)) := by
  rw [pk_shrN hv _ k (sh31 k hk), pk_andN (m := 1) (by have := Nat.div_le_self v (2 ^ k); omega) 1 (by decide)]
  unfold bt
  have h : v / 2 ^ k % 2 ^ 1 = v / 2 ^ k % 2 := rfl
  rw [h]
  by_cases e : v / 2 ^ k % 2 = 1
  · rw [bI_dt e, e]; rfl
  · rw [bI_df e, show v / 2 ^ k % 2 = 0 by omega]; rfl
theorem div_s (v k : Nat) : v / 2 ^ k / 2 = v / 2 ^ (k + 1) := by rw [Nat.div_div_eq_div_mul, Nat.pow_succ]
theorem lt_p10 {v n : Nat} (hn : n ≤ 10) (hv : v < 2 ^ n) : v < 1024 := Nat.lt_of_lt_of_le hv (Nat.pow_le_pow_right (n := 2) (by decide) hn)
theorem le_p10 {n : Nat} (hn : n ≤ 10) : 2 ^ n ≤ 1024 := Nat.pow_le_pow_right (n := 2) (by decide) hn
section OY
variable {I : Nat → Int32} {J : Nat → Int64} {F : Nat → Nat → Int32} {G : Nat → Int64} {X : Nat → va_E} {np : Nat} {kd pt : Nat → Nat}
theorem goes_loop {d n i v : Nat} (hi : i < 7) (hn10 : n ≤ 10) (hv : v < 2 ^ 31) (hn : np ≤ 7) (hk : kOK (F 170) kd np) (hp' : ∀ k, k < np → F 171 k = nI (pt k) ∧ pt k < 1000) : ∀ (m k mm : Nat) (row st : Nat → Int32) (A : LSt), n - k = m → k ≤ n → LineN row 3940 np A → lB np mm A → mm + m < 900 →
    ∃ row' st', ex cdX10_goesBy (rn (d + 8)) 7 [.ref 168, .int (nI i), .int (nI n), .int (nI v), .int (nI k)] [] (hp I J (tF F row st) G X) = some (some (.int (oI ((gb kd pt i m (v / 2 ^ k) A).map (fun j => k + j)))), hp I J (tF F row' st') G X) ∧ ∀ k, k < 3940 → row' k = row k := by
  intro m
  induction m with
  | zero =>
    intro k mm row st A h1 h2 hL hA hm
    have : k = n := by omega
    subst this
    refine ⟨row, st, ?_, fun _ _ => rfl⟩
    rw [xX10_goesBy_7, if_pos (nI_le (Nat.le_refl _) (by omega))]
    rfl
  | succ m ih =>
    intro k mm row st A h1 h2 hL hA hm
    obtain ⟨row1, st1, g1, g2, g3⟩ := passT_y (d := d) (I := I) (J := J) (F := F) (G := G) (X := X) (st := st) hL hn hk hp' hA (by omega) (bt (v / 2 ^ k))
    rw [xX10_goesBy_7, if_neg (nI_ge (by omega) (by omega)), if_pos y_is, bit_at hv (by omega), g1, Option.bind_some, gb_s, div_s]
    by_cases z : (passA kd pt A (bt (v / 2 ^ k))).1 = some i
    · rw [if_pos z]
      exact ⟨row1, st1, by rw [if_pos ((go_eq hn hA hi).mpr z)]; rfl, g3⟩
    · rw [if_neg z]
      obtain ⟨row', st', u1, u2⟩ := ih (k + 1) (mm + 1) row1 st1 _ (by omega) (by omega) g2 (passA_lB kd pt _ hA) (by omega)
      refine ⟨row', st', ?_, fun j hj => by rw [u2 j hj, g3 j hj]⟩
      rw [if_neg (fun y => z ((go_eq hn hA hi).mp y)), nI_1]
      dsimp only
      rw [u1, Option.map_map, show ((fun j => k + j) ∘ fun k => k + 1) = (fun j => k + 1 + j) from funext fun j => by show k + (j + 1) = k + 1 + j; omega]
theorem goes_y {d n i v mm : Nat} {A : LSt} {row st : Nat → Int32} (hi : i < 7) (hn10 : n ≤ 10) (hv : v < 2 ^ 31) (hn : np ≤ 7) (hk : kOK (F 170) kd np) (hp' : ∀ k, k < np → F 171 k = nI (pt k) ∧ pt k < 1000) (hL : LineN row 0 np A) (hA : lB np mm A) (hm : mm + n < 900) : ∃ row' st', cI (rn (d + 9)) 206 [.ref 168, .int (nI i), .int (nI n), .int (nI v)] (hp I J (tF F row st) G X) = some (oI (gb kd pt i n v A), hp I J (tF F row' st') G X) ∧ ∀ k, k < 3940 → row' k = row k := by
  obtain ⟨row1, a1, a2, a3⟩ := layT_y (d := d + 6) (I := I) (J := J) (F := F) (G := G) (X := X) (st := st) hn hA hL
  obtain ⟨row', st', b1, b2⟩ := goes_loop (d := d) (I := I) (J := J) (F := F) (G := G) (X := X) (v := v) hi hn10 hv hn hk hp' n 0 mm row1 st A rfl (Nat.zero_le _) a2 hA hm
  refine ⟨row', st', ?_, fun j hj => by rw [b2 j hj, a3 j hj]⟩
  refine cIo ?_
  rw [nI_0, Nat.pow_zero, Nat.div_one] at b1
  simp only [Nat.zero_add, Option.map_id'] at b1
  rw [rX10_goesBy, xX10_goesBy_0, if_pos y_is, a1, Option.bind_some, b1]
theorem gb_lt {kd pt : Nat → Nat} {i : Nat} : ∀ (m v : Nat) (A : LSt) (k : Nat), gb kd pt i m v A = some k → k < m
  | 0, _, _, _, h => by cases h
  | m + 1, v, A, k, h => by
    rw [gb_s] at h
    split at h
    · cases h; omega
    · cases e : gb kd pt i m (v / 2) (passA kd pt A (bt v)).2 with
      | none => rw [e] at h; cases h
      | some j =>
        rw [e] at h
        have := gb_lt m _ _ j e
        have h2 : j + 1 = k := Option.some.inj h
        omega
theorem keep0 {row row' : Nat → Int32} {A : LSt} {mm : Nat} (hn : np ≤ 7) (hA : lB np mm A) (hL : LineN row 0 np A) (h : ∀ k, k < 3940 → row' k = row k) : LineN row' 0 np A := LineN_c (lB_len hn hA) hn hL (fun k k1 k2 => h k (by omega))
theorem soon_loop {d n i mm : Nat} {A : LSt} (hi : i < 7) (hn10 : n ≤ 10) (hn : np ≤ 7) (hk : kOK (F 170) kd np) (hp' : ∀ k, k < np → F 171 k = nI (pt k) ∧ pt k < 1000) (hA : lB np mm A) (hm : mm + n < 900) : ∀ (m v : Nat) (row st : Nat → Int32) (v5 : Value), 2 ^ n - v = m → v ≤ 2 ^ n → LineN row 0 np A → ∃ row' st', ex cdX10_soonest (rn (d + 9)) 28 [.ref 168, .int (nI i), .int (nI n), .int (oI (So (fun v => gb kd pt i n v A) v)), .int (nI v), v5] [] (hp I J (tF F row st) G X) = some (some (.int (oI (So (fun v => gb kd pt i n v A) (2 ^ n)))), hp I J (tF F row' st') G X) ∧ ∀ k, k < 3940 → row' k = row k := by
  have h10 := le_p10 hn10
  intro m
  induction m with
  | zero =>
    intro v row st v5 h1 h2 hL
    have : v = 2 ^ n := by omega
    refine ⟨row, st, ?_, fun _ _ => rfl⟩
    rw [xX10_soonest_28, pow1 n (by omega), if_pos (nI_le (by omega) (by omega)), this]
  | succ m ih =>
    intro v row st v5 h1 h2 hL
    obtain ⟨row1, st1, g1, g2⟩ := goes_y (d := d) (I := I) (J := J) (F := F) (G := G) (X := X) (st := st) (v := v) hi hn10 (by omega) hn hk hp' hL hA hm
    have step : ∀ (b : Option Nat), b = omin (So (fun v => gb kd pt i n v A) v) (gb kd pt i n v A) → ∃ row' st', ex cdX10_soonest (rn (d + 9)) 28 [.ref 168, .int (nI i), .int (nI n), .int (oI b), .int (nI (v + 1)), .int (oI (gb kd pt i n v A))] [] (hp I J (tF F row1 st1) G X) = some (some (.int (oI (So (fun v => gb kd pt i n v A) (2 ^ n)))), hp I J (tF F row' st') G X) ∧ ∀ k, k < 3940 → row' k = row k := by
      intro b hb
      obtain ⟨row', st', u1, u2⟩ := ih (v + 1) row1 st1 (.int (oI (gb kd pt i n v A))) (by omega) (by omega) (keep0 hn hA hL g2)
      refine ⟨row', st', ?_, fun j hj => by rw [u2 j hj, g2 j hj]⟩
      rw [hb]
      exact u1
    rw [xX10_soonest_28, pow1 n (by omega), if_neg (nI_ge (by omega) (by omega)), if_pos y_is, g1, Option.bind_some, nI_1]
    dsimp only
    have hb2 : ∀ k, So (fun v => gb kd pt i n v A) v = some k → k < n := by
      have : ∀ u k, So (fun v => gb kd pt i n v A) u = some k → k < n := by
        intro u
        induction u with
        | zero => intro k hk; cases hk
        | succ u ihu =>
          intro k hk
          have hk' : omin (So (fun v => gb kd pt i n v A) u) (gb kd pt i n u A) = some k := hk
          cases e1 : So (fun v => gb kd pt i n v A) u with
          | none => rw [e1] at hk'; exact gb_lt n u A k hk'
          | some a =>
            have ha := ihu a e1
            cases e2 : gb kd pt i n u A with
            | none => rw [e1, e2] at hk'; cases hk'; exact ha
            | some b => rw [e1, e2] at hk'; have : min a b = k := Option.some.inj hk'; omega
      exact this v
    cases e : gb kd pt i n v A with
    | none =>
      rw [e] at step
      rw [if_pos oI_none]
      refine step _ ?_
      cases So (fun v => gb kd pt i n v A) v <;> rfl
    | some k =>
      have hkn := gb_lt n v A k e
      rw [e] at step
      rw [if_neg (show ¬ oI (some k) = -9 from nI_ne9 (by omega))]
      cases e2 : So (fun v => gb kd pt i n v A) v with
      | none =>
        rw [e2] at step
        rw [if_pos oI_none]
        exact step (some k) rfl
      | some a =>
        have han := hb2 a e2
        rw [e2] at step
        rw [if_neg (show ¬ oI (some a) = -9 from nI_ne9 (by omega))]
        by_cases z : a ≤ k
        · rw [if_pos (show oI (some a) ≤ oI (some k) from nI_le z (by omega))]
          exact step (some a) (by show some a = some (min a k); rw [Nat.min_eq_left z])
        · rw [if_neg (show ¬ oI (some a) ≤ oI (some k) from nI_ge (by omega) (by omega))]
          exact step (some k) (by show some k = some (min a k); rw [Nat.min_eq_right (by omega)])
theorem rows_loop {d n i mm : Nat} {A : LSt} (hi : i < 7) (hn10 : n ≤ 10) (hn : np ≤ 7) (hk : kOK (F 170) kd np) (hp' : ∀ k, k < np → F 171 k = nI (pt k) ∧ pt k < 1000) (hA : lB np mm A) (hm : mm + n < 900) : ∀ (m v : Nat) (row st : Nat → Int32), 2 ^ n - v = m → v ≤ 2 ^ n → LineN row 0 np A → ∃ row' st', ex cdX10_rows (rn (d + 9)) 27 [.ref 168, .int (nI i), .int (nI n), .int (nI (Sn (fun v => cn kd pt (some i) n v A) v)), .int (nI v)] [] (hp I J (tF F row st) G X) = some (some (.int (nI (Sn (fun v => cn kd pt (some i) n v A) (2 ^ n)))), hp I J (tF F row' st') G X) ∧ ∀ k, k < 3940 → row' k = row k := by
  have h10 := le_p10 hn10
  intro m
  induction m with
  | zero =>
    intro v row st h1 h2 hL
    have : v = 2 ^ n := by omega
    refine ⟨row, st, ?_, fun _ _ => rfl⟩
    rw [xX10_rows_27, pow1 n (by omega), if_pos (nI_le (by omega) (by omega)), this]
  | succ m ih =>
    intro v row st h1 h2 hL
    obtain ⟨row1, st1, g1, g2⟩ := goes_y (d := d) (I := I) (J := J) (F := F) (G := G) (X := X) (st := st) (v := v) hi hn10 (by omega) hn hk hp' hL hA hm
    obtain ⟨row', st', u1, u2⟩ := ih (v + 1) row1 st1 (by omega) (by omega) (keep0 hn hA hL g2)
    refine ⟨row', st', ?_, fun j hj => by rw [u2 j hj, g2 j hj]⟩
    have hs : Sn (fun v => cn kd pt (some i) n v A) (v + 1) = Sn (fun v => cn kd pt (some i) n v A) v + (if gb kd pt i n v A = none then 0 else 1) := rfl
    rw [hs] at u1
    rw [xX10_rows_27, pow1 n (by omega), if_neg (nI_ge (by omega) (by omega)), if_pos y_is, g1, Option.bind_some, nI_1]
    dsimp only
    cases e : gb kd pt i n v A with
    | none =>
      rw [e, if_pos rfl] at u1
      rw [if_pos oI_none, add0]
      exact u1
    | some k =>
      have hkn := gb_lt n v A k e
      rw [e, if_neg (by simp)] at u1
      rw [if_neg (show ¬ oI (some k) = -9 from nI_ne9 (by omega)), nI_1, u1]
theorem wtm_split (cw yw : Nat) : ∀ (m v : Nat), wtm cw yw (m + 1) v = wtm cw yw m v * (if bt (v / 2 ^ m) = true then cw else yw)
  | 0, v => by rw [wtm_s, Nat.pow_zero, Nat.div_one]; show _ * 1 = 1 * _; rw [Nat.mul_comm]
  | m + 1, v => by
    rw [wtm_s, wtm_split cw yw m (v / 2), wtm_s cw yw m v, Nat.div_div_eq_div_mul, Nat.mul_comm 2 (2 ^ m), ← Nat.pow_succ, Nat.mul_assoc]
theorem ways_loop {d n p v : Nat} {h : mH} (hn10 : n ≤ 10) (hp12 : p ≤ 12) (hv : v < 2 ^ 31) : ∀ (m k : Nat), n - k = m → k ≤ n → ex cdX10_waysOf (rn (d + 1)) 5 [.int (nI v), .int (nI n), .int (nI p), .long (lN (wtm p (12 - p) k v)), .null, .int (nI k)] [] h = some (some (.long (lN (wtm p (12 - p) n v))), h) := by
  intro m
  induction m with
  | zero =>
    intro k h1 h2
    have : k = n := by omega
    subst this
    rw [xX10_waysOf_5, if_pos (nI_le (Nat.le_refl _) (by omega))]
  | succ m ih =>
    intro k h1 h2
    have := ih (k + 1) (by omega) (by omega)
    rw [wtm_split] at this
    have hb : cI (rn (d + 1)) 149 [.int (nI v), .int (nI k)] h = some (bI (bt (v / 2 ^ k)), h) := by
      refine cIo ?_
      rw [rX10_has, xX10_has_0, bit_at hv (by omega)]
      cases bt (v / 2 ^ k) with
      | false => rw [if_neg (by decide)]; rfl
      | true => rw [if_pos (by decide)]; rfl
    rw [xX10_waysOf_5, if_neg (nI_ge (by omega) (by omega)), hb, Option.bind_some, nI_1]
    cases e : bt (v / 2 ^ k) with
    | false =>
      rw [e, if_neg (by decide)] at this
      rw [if_pos (by rfl), show (12 : Int32) - nI p = nI (12 - p) from pk_sub (a := 12) hp12, nI_l (by omega), lN_mul, this]
    | true =>
      rw [e, if_pos rfl] at this
      rw [if_neg (show ¬ bI true = 0 by decide), nI_l (by omega), lN_mul, this]
theorem ways_y {d n p v : Nat} {h : mH} (hn10 : n ≤ 10) (hp12 : p ≤ 12) (hv : v < 2 ^ 31) : cL (rn (d + 2)) 210 [.int (nI v), .int (nI n), .int (nI p)] h = some (lN (wtm p (12 - p) n v), h) := by
  refine cLo ?_
  have := ways_loop (d := d) (h := h) (v := v) hn10 hp12 hv n 0 rfl (Nat.zero_le _)
  rw [nI_0] at this
  rw [rX10_waysOf, xX10_waysOf_0]
  exact this
end OY
/-! the greatest common divisor -/
theorem lN0 : (0 : Int64) = lN 0 := rfl
theorem rem_half {a b : Nat} (h : 0 < a % b) (hb : 0 < b) : 2 * (b % (a % b)) < b := by
  have h1 := Nat.mod_lt a hb
  have h2 := Nat.mod_lt b h
  have h3 := Nat.div_add_mod b (a % b)
  have h4 : 1 ≤ b / (a % b) := (Nat.le_div_iff_mul_le h).mpr (by omega)
  have h5 : a % b * 1 ≤ a % b * (b / (a % b)) := Nat.mul_le_mul_left _ h4
  omega
theorem gcd_step (a b : Nat) : Nat.gcd b (a % b) = Nat.gcd a b := by
  rw [Nat.gcd_comm b (a % b), ← Nat.gcd_rec, Nat.gcd_comm]
theorem div_x {d : Nat} {h : mH} {v0 v2 : Int64} : ∀ (q a b st : Nat) (v9 : Value), b < 2 ^ q → st + 2 * q + 1 ≤ 200 → a < 2 ^ 63 → b < 2 ^ 63 → ex cdX9_commonDivisor (rn d) 9 [.long v0, .null, .long v2, .null, .long (lN a), .null, .long (lN b), .null, .int (nI st), v9, .null] [] h = some (some (.long (lN (Nat.gcd a b))), h) := by
  have fin : ∀ (a st : Nat) (v9 : Value), ex cdX9_commonDivisor (rn d) 9 [.long v0, .null, .long v2, .null, .long (lN a), .null, .long (lN 0), .null, .int (nI st), v9, .null] [] h = some (some (.long (lN (Nat.gcd a 0))), h) := by
    intro a st v9
    rw [xX9_commonDivisor_9, Nat.gcd_zero_right]
    by_cases e : (200 : Int32) ≤ nI st
    · rw [if_pos e]
    · rw [if_neg e, if_pos (show lg_cmp (lN 0) 0 = 0 by decide)]
  have one : ∀ (a b st : Nat) (v9 : Value), 0 < b → st < 200 → a < 2 ^ 63 → b < 2 ^ 63 → ex cdX9_commonDivisor (rn d) 9 [.long v0, .null, .long v2, .null, .long (lN a), .null, .long (lN b), .null, .int (nI st), v9, .null] [] h = ex cdX9_commonDivisor (rn d) 9 [.long v0, .null, .long v2, .null, .long (lN b), .null, .long (lN (a % b)), .null, .int (nI (st + 1)), .long (lN (a % b)), .null] [] h := by
    intro a b st v9 h0 h1 h2 h3
    have hb : ¬ lN b = 0 := fun z => by have := (pk_lEQ (b := 0) h3 (by decide)).mp z; omega
    rw [xX9_commonDivisor_9, if_neg (show ¬ (200 : Int32) ≤ nI st from nI_ge (b := 200) h1 (by decide)), if_neg (fun z => hb ((lg_cmp_eq _ _).mp z)), if_neg hb, pk_lRem h2 h0 h3, nI_1]
  intro q
  induction q with
  | zero =>
    intro a b st v9 h1 h2 h3 h4
    have : b = 0 := by simpa using h1
    subst this
    exact fin a st v9
  | succ q ih =>
    intro a b st v9 h1 h2 h3 h4
    by_cases hb : b = 0
    · subst hb; exact fin a st v9
    have hm1 := Nat.mod_lt a (show 0 < b by omega)
    rw [one a b st v9 (by omega) (by omega) h3 h4, ← gcd_step a b]
    by_cases hr : a % b = 0
    · rw [hr]; exact fin b (st + 1) _
    have hm2 := Nat.mod_lt b (show 0 < a % b by omega)
    have hh := rem_half (a := a) (b := b) (by omega) (by omega)
    rw [one b (a % b) (st + 1) _ (by omega) (by omega) h4 (by omega), ← gcd_step b (a % b)]
    exact ih (a % b) (b % (a % b)) (st + 1 + 1) _ (by rw [Nat.pow_succ] at h1; omega) (by omega) (by omega) (by omega)
theorem parts_y {d u l : Nat} {I : Nat → Int32} {J : Nat → Int64} {F : Nat → Nat → Int32} {G : Nat → Int64} {X : Nat → va_E} (hl : 0 < l) (hu : u < 2 ^ 63) (hl2 : l < 2 ^ 63) : ∀ (q a b : Nat) (v9 : Value), b ≤ q → a < 2 ^ 63 → b < 2 ^ 63 → Nat.gcd a b = Nat.gcd u l → ex cdX10_tellParts (rn d) 6 [.ref 168, .long (lN u), .null, .long (lN l), .null, .long (lN a), .null, .long (lN b), .null, v9, .null] [] (hp I J F G X) = some (some (.int 1), hp I (vp_updL (vp_updL J 168 (lN (u / Nat.gcd u l))) 169 (lN (l / Nat.gcd u l))) F G X) := by
  have hg := Nat.gcd_pos_of_pos_right u hl
  have hgl : Nat.gcd u l ≤ l := Nat.le_of_dvd hl (Nat.gcd_dvd_right u l)
  intro q
  induction q with
  | zero =>
    intro a b v9 h1 h2 h3 h4
    have : b = 0 := by omega
    subst this
    rw [Nat.gcd_zero_right] at h4
    subst h4
    have ha : ¬ lN (Nat.gcd u l) = 0 := fun z => by have := (pk_lEQ (b := 0) h2 (by decide)).mp z; omega
    rw [xX10_tellParts_6, if_pos (show lg_cmp (lN 0) 0 = 0 by decide), if_neg ha, y_pup, Option.bind_some, if_neg ha, y_plo, Option.bind_some, pk_lDiv hu (by omega) h2, pk_lDiv hl2 (by omega) h2]
  | succ q ih =>
    intro a b v9 h1 h2 h3 h4
    by_cases hb : b = 0
    · exact ih a b v9 (by omega) h2 h3 h4
    have hm1 := Nat.mod_lt a (show 0 < b by omega)
    have hb' : ¬ lN b = 0 := fun z => by have := (pk_lEQ (b := 0) h3 (by decide)).mp z; omega
    rw [xX10_tellParts_6, if_neg (fun z => hb' ((lg_cmp_eq _ _).mp z)), if_neg hb', pk_lRem h2 (by omega) h3]
    exact ih b (a % b) _ (by omega) h3 (by omega) (by rw [gcd_step]; exact h4)
/-! odds and mid, the reference's loops -/
section OM
variable {I : Nat → Int32} {J : Nat → Int64} {F : Nat → Nat → Int32} {G : Nat → Int64} {X : Nat → va_E} {np : Nat} {kd pt : Nat → Nat}
theorem tell_parts {d u l : Nat} (hl : 0 < l) (hu : u < 2 ^ 63) (hl2 : l < 2 ^ 63) : cI (rn (d + 1)) 209 [.ref 168, .long (lN u), .long (lN l)] (hp I J F G X) = some (1, hp I (vp_updL (vp_updL J 168 (lN (u / Nat.gcd u l))) 169 (lN (l / Nat.gcd u l))) F G X) := by
  refine cIo ?_
  rw [rX10_tellParts, xX10_tellParts_0]
  exact parts_y hl hu hl2 l u l .null (Nat.le_refl _) hu hl2 rfl
theorem odds_loop {d n i p mm : Nat} {A : LSt} (hi : i < 7) (hn10 : n ≤ 10) (hp12 : p ≤ 12) (hn : np ≤ 7) (hk : kOK (F 170) kd np) (hp' : ∀ k, k < np → F 171 k = nI (pt k) ∧ pt k < 1000) (hA : lB np mm A) (hm : mm + n < 900) : ∀ (m v : Nat) (row st : Nat → Int32) (v9 : Value), 2 ^ n - v = m → v ≤ 2 ^ n → LineN row 0 np A → ∃ row' st' w9, ex cdX10_odds (rn (d + 9)) 43 [.ref 168, .int (nI i), .int (nI n), .int (nI p), .long (lN (Sn (fun v => wtm p (12 - p) n v * cn kd pt (some i) n v A) v)), .null, .long (lN (Sn (wtm p (12 - p) n) v)), .null, .int (nI v), v9, .null] [] (hp I J (tF F row st) G X) = ex cdX10_odds (rn (d + 9)) 43 [.ref 168, .int (nI i), .int (nI n), .int (nI p), .long (lN (Sn (fun v => wtm p (12 - p) n v * cn kd pt (some i) n v A) (2 ^ n))), .null, .long (lN (Sn (wtm p (12 - p) n) (2 ^ n))), .null, .int (nI (2 ^ n)), w9, .null] [] (hp I J (tF F row' st') G X) ∧ ∀ k, k < 3940 → row' k = row k := by
  have h10 := le_p10 hn10
  intro m
  induction m with
  | zero =>
    intro v row st v9 h1 h2 hL
    have : v = 2 ^ n := by omega
    exact ⟨row, st, v9, by rw [this], fun _ _ => rfl⟩
  | succ m ih =>
    intro v row st v9 h1 h2 hL
    obtain ⟨row1, st1, g1, g2⟩ := goes_y (d := d) (I := I) (J := J) (F := F) (G := G) (X := X) (st := st) (v := v) hi hn10 (by omega) hn hk hp' hL hA hm
    obtain ⟨row', st', w9, u1, u2⟩ := ih (v + 1) row1 st1 (.long (lN (wtm p (12 - p) n v))) (by omega) (by omega) (keep0 hn hA hL g2)
    refine ⟨row', st', w9, ?_, fun j hj => by rw [u2 j hj, g2 j hj]⟩
    have hs : Sn (fun v => wtm p (12 - p) n v * cn kd pt (some i) n v A) (v + 1) = Sn (fun v => wtm p (12 - p) n v * cn kd pt (some i) n v A) v + wtm p (12 - p) n v * (if gb kd pt i n v A = none then 0 else 1) := rfl
    have hs2 : Sn (wtm p (12 - p) n) (v + 1) = Sn (wtm p (12 - p) n) v + wtm p (12 - p) n v := rfl
    rw [hs, hs2] at u1
    rw [xX10_odds_43, pow1 n (by omega), if_neg (nI_ge (by omega) (by omega)), ways_y (d := d + 7) hn10 hp12 (by omega), Option.bind_some, if_pos y_is, g1, Option.bind_some]
    dsimp only
    cases e : gb kd pt i n v A with
    | none =>
      rw [e, if_pos rfl, Nat.mul_zero] at u1
      rw [if_pos oI_none, xX10_odds_81, lN0, lN_add, lN_add, nI_1]
      exact u1
    | some k =>
      have hkn := gb_lt n v A k e
      rw [e, if_neg (by simp), Nat.mul_one] at u1
      rw [if_neg (show ¬ oI (some k) = -9 from nI_ne9 (by omega)), xX10_odds_81, lN_add, lN_add, nI_1]
      exact u1
theorem midi_loop {d n v : Nat} {p : Int32} {a b : Int64} {w : Int64} (hn10 : n ≤ 10) (hv : v < 2 ^ 31) (hn : np ≤ 7) (hk : kOK (F 170) kd np) (hp' : ∀ k, k < np → F 171 k = nI (pt k) ∧ pt k < 1000) : ∀ (m k c mm : Nat) (row st : Nat → Int32) (A : LSt), n - k = m → k ≤ n → LineN row 3940 np A → lB np mm A → mm + m < 900 →
    ∃ row' st' w10 w11, ex cdX10_mid (rn (d + 8)) 61 [.ref 168, .int (nI n), .int p, .long a, .null, .long b, .null, .int (nI v), .long w, .null, .int (nI c), .int (nI k)] [] (hp I J (tF F row st) G X) = ex cdX10_mid (rn (d + 8)) 34 [.ref 168, .int (nI n), .int p, .long (a + w * (nI (c + cnm kd pt m (v / 2 ^ k) A)).toInt64), .null, .long (b + w), .null, .int (nI (v + 1)), .long w, .null, w10, w11] [] (hp I J (tF F row' st') G X) ∧ ∀ k, k < 3940 → row' k = row k := by
  intro m
  induction m with
  | zero =>
    intro k c mm row st A h1 h2 hL hA hm
    have : k = n := by omega
    subst this
    refine ⟨row, st, .int (nI c), .int (nI k), ?_, fun _ _ => rfl⟩
    rw [xX10_mid_61, if_pos (nI_le (Nat.le_refl _) (by omega)), nI_1]
    rfl
  | succ m ih =>
    intro k c mm row st A h1 h2 hL hA hm
    obtain ⟨row1, st1, g1, g2, g3⟩ := passT_y (d := d) (I := I) (J := J) (F := F) (G := G) (X := X) (st := st) hL hn hk hp' hA (by omega) (bt (v / 2 ^ k))
    rw [xX10_mid_61, if_neg (nI_ge (by omega) (by omega)), if_pos y_is, bit_at hv (by omega), g1, Option.bind_some, cnm_s, div_s, nI_1]
    dsimp only
    by_cases z : (passA kd pt A (bt (v / 2 ^ k))).1 = none
    · obtain ⟨row', st', w10, w11, u1, u2⟩ := ih (k + 1) c (mm + 1) row1 st1 _ (by omega) (by omega) g2 (passA_lB kd pt _ hA) (by omega)
      refine ⟨row', st', w10, w11, ?_, fun j hj => by rw [u2 j hj, g3 j hj]⟩
      rw [if_pos ((oI_9 hn hA).mpr z), add0, u1, if_pos z, Nat.zero_add]
    · obtain ⟨row', st', w10, w11, u1, u2⟩ := ih (k + 1) (c + 1) (mm + 1) row1 st1 _ (by omega) (by omega) g2 (passA_lB kd pt _ hA) (by omega)
      refine ⟨row', st', w10, w11, ?_, fun j hj => by rw [u2 j hj, g3 j hj]⟩
      rw [if_neg (fun y => z ((oI_9 hn hA).mp y)), nI_1, u1, if_neg z, Nat.add_assoc]
theorem mid_loop {d n p mm : Nat} {A : LSt} (hn10 : n ≤ 10) (hp12 : p ≤ 12) (hn : np ≤ 7) (hk : kOK (F 170) kd np) (hp' : ∀ k, k < np → F 171 k = nI (pt k) ∧ pt k < 1000) (hA : lB np mm A) (hm : mm + n < 900) : ∀ (m v : Nat) (row st : Nat → Int32) (v8 v10 v11 : Value), 2 ^ n - v = m → v ≤ 2 ^ n → LineN row 0 np A → ∃ row' st' w8 w10 w11, ex cdX10_mid (rn (d + 8)) 34 [.ref 168, .int (nI n), .int (nI p), .long (lN (Sn (fun v => wtm p (12 - p) n v * cn kd pt none n v A) v)), .null, .long (lN (Sn (wtm p (12 - p) n) v)), .null, .int (nI v), v8, .null, v10, v11] [] (hp I J (tF F row st) G X) = ex cdX10_mid (rn (d + 8)) 34 [.ref 168, .int (nI n), .int (nI p), .long (lN (Sn (fun v => wtm p (12 - p) n v * cn kd pt none n v A) (2 ^ n))), .null, .long (lN (Sn (wtm p (12 - p) n) (2 ^ n))), .null, .int (nI (2 ^ n)), w8, .null, w10, w11] [] (hp I J (tF F row' st') G X) ∧ ∀ k, k < 3940 → row' k = row k := by
  have h10 := le_p10 hn10
  intro m
  induction m with
  | zero =>
    intro v row st v8 v10 v11 h1 h2 hL
    have : v = 2 ^ n := by omega
    exact ⟨row, st, v8, v10, v11, by rw [this], fun _ _ => rfl⟩
  | succ m ih =>
    intro v row st v8 v10 v11 h1 h2 hL
    obtain ⟨row1, a1, a2, a3⟩ := layT_y (d := d + 6) (I := I) (J := J) (F := F) (G := G) (X := X) (st := st) hn hA hL
    obtain ⟨row2, st2, w10, w11, b1, b2⟩ := midi_loop (d := d) (I := I) (J := J) (F := F) (G := G) (X := X) (v := v) (p := nI p) (a := lN (Sn (fun v => wtm p (12 - p) n v * cn kd pt none n v A) v)) (b := lN (Sn (wtm p (12 - p) n) v)) (w := lN (wtm p (12 - p) n v)) hn10 (by omega) hn hk hp' n 0 0 mm row1 st A rfl (Nat.zero_le _) a2 hA hm
    obtain ⟨row', st', w8, x10, x11, u1, u2⟩ := ih (v + 1) row2 st2 (.long (lN (wtm p (12 - p) n v))) w10 w11 (by omega) (by omega) (keep0 hn hA hL (fun j hj => by rw [b2 j hj, a3 j hj]))
    refine ⟨row', st', w8, x10, x11, ?_, fun j hj => by rw [u2 j hj, b2 j hj, a3 j hj]⟩
    have hcn := cnm_le (kd := kd) (pt := pt) n v A
    rw [nI_0, Nat.pow_zero, Nat.div_one, Nat.zero_add, nI_l (by omega), lN_mul, lN_add, lN_add] at b1
    rw [xX10_mid_34, pow1 n (by omega), if_neg (nI_ge (by omega) (by omega)), ways_y (d := d + 6) hn10 hp12 (by omega), Option.bind_some, if_pos y_is, a1, Option.bind_some, b1]
    exact u1
end OM
