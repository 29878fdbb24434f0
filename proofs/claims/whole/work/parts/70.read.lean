/-! persons of a text -/
def letr (c : Int32) : Option Nat := if c = 119 then some 0 else if c = 112 then some 1 else if c = 115 then some 2 else if c = 108 then some 3 else if c = 114 then some 4 else if c = 100 then some 5 else none
def dgt (c : Int32) : Option Nat := if 48 ≤ c ∧ c ≤ 57 then some (c.toNatClampNeg - 48) else none
def prs (f : Nat → Int32) (n : Nat) : Nat → Nat → List (Nat × Nat × Nat) → Int32 × List (Nat × Nat × Nat)
  | 0, k, ps => (nI k, ps)
  | q + 1, k, ps => if n ≤ k then (if ps.length = 0 then nI n else -9, ps)
      else if f k = 32 then prs f n q (k + 1) ps
      else match letr (f k) with
        | none => (nI k, ps)
        | some kk => if ps.length = 7 then (nI k, ps) else if n ≤ k + 1 then (nI n, ps) else match dgt (f (k + 1)) with
          | none => (nI (k + 1), ps)
          | some a => if a = 0 then (nI (k + 1), ps) else if n ≤ k + 2 then (nI n, ps) else match dgt (f (k + 2)) with
            | none => (nI (k + 2), ps)
            | some b => prs f n q (k + 3) (ps ++ [(kk, a, b)])
def okP (ps : List (Nat × Nat × Nat)) : Prop := ps.length ≤ 7 ∧ ∀ p ∈ ps, p.1 < 6 ∧ 1 ≤ p.2.1 ∧ p.2.1 < 10 ∧ p.2.2 < 10
theorem letr_lt {c : Int32} {k : Nat} (h : letr c = some k) : k < 6 := by
  unfold letr at h
  repeat' split at h
  all_goals first | (cases h; decide) | cases h
theorem dgt_some {c : Int32} {j : Nat} (h : dgt c = some j) : j ≤ 9 ∧ c = nI (48 + j) := by
  unfold dgt at h
  split at h
  · next h1 =>
    obtain ⟨i, hi, rfl⟩ := nI_of (x := c) (fun z => Int32.not_le.mpr (Int32.lt_trans z (by decide : (0 : Int32) < 48)) h1.1)
    have a1 := (nI_leI (a := 48) (by decide) hi).mp h1.1
    have a2 := (nI_leI (b := 57) hi (by decide)).mp h1.2
    rw [nI_clamp hi] at h
    have := Option.some.inj h
    exact ⟨by omega, by rw [show 48 + j = i by omega]⟩
  · cases h
theorem dgt_of {j : Nat} (h : j ≤ 9) : dgt (nI (48 + j)) = some j := by
  unfold dgt
  rw [if_pos ⟨nI_le (a := 48) (by omega) (by omega), nI_le (b := 57) (by omega) (by decide)⟩, nI_clamp (by omega)]
  congr 1
  omega
theorem dgt_none {c : Int32} (h : dgt c = none) : c - 48 < 0 ∨ 9 < c - 48 := by
  by_cases z : c - 48 < 0
  · exact Or.inl z
  · right
    refine Int32.not_le.mp (fun y => ?_)
    obtain ⟨i, hi, e⟩ := nI_of z
    rw [e] at y
    have a2 := (nI_leI (b := 9) hi (by decide)).mp y
    have hc : c = nI (48 + i) := by
      have : c = c - 48 + 48 := by rw [Int32.sub_add_cancel]
      rw [this, e]
      have := nI_add i 48
      rw [show i + 48 = 48 + i by omega] at this
      exact this
    rw [hc, dgt_of a2] at h
    cases h
theorem prs_ok (f : Nat → Int32) (n : Nat) : ∀ (q k : Nat) (ps : List (Nat × Nat × Nat)), okP ps → okP (prs f n q k ps).2
  | 0, _, _, h => h
  | q + 1, k, ps, h => by
    unfold prs
    split
    · exact h
    · split
      · exact prs_ok f n q (k + 1) ps h
      · split
        · exact h
        · next kk hk =>
          split
          · exact h
          · next h7 =>
            split
            · exact h
            · split
              · exact h
              · next a ha =>
                split
                · exact h
                · next ha0 =>
                  split
                  · exact h
                  · split
                    · exact h
                    · next b hb =>
                      refine prs_ok f n q (k + 3) _ ⟨by rw [List.length_append, List.length_singleton]; have := h.1; omega, fun p hp => ?_⟩
                      rcases List.mem_append.mp hp with hp | hp
                      · exact h.2 p hp
                      · rw [List.mem_singleton] at hp
                        subst hp
                        exact ⟨letr_lt hk, by dsimp only; omega, by have := (dgt_some ha).1; dsimp only; omega, by have := (dgt_some hb).1; dsimp only; omega⟩
def dH (I : Nat → Int32) (F : Nat → Nat → Int32) (ps : List (Nat × Nat × Nat)) : Prop := I 8 = nI ps.length ∧ ∀ i p, ps[i]? = some p → F 9 i = nI p.1 ∧ F 10 i = nI p.2.1 ∧ F 11 i = nI p.2.2
def rH (I : Nat → Int32) (F : Nat → Nat → Int32) (ps : List (Nat × Nat × Nat)) : Prop := I 174 = nI ps.length ∧ ∀ i p, ps[i]? = some p → F 178 (3 * i) = nI p.1 ∧ F 178 (3 * i + 1) = nI p.2.1 ∧ F 178 (3 * i + 2) = nI p.2.2
section RX
variable {I : Nat → Int32} {J : Nat → Int64} {F : Nat → Nat → Int32} {G : Nat → Int64} {X : Nat → va_E}
theorem ltr_step {d m j : Nat} {c : Int32} (h8 : I 8 = nI m) (hm : m < 7) (hj : j < 6) : ex cdX1_takesLetter (rn d) 13 [.ref 8, .int c, .int (nI j)] [] (hp I J F G X) = if ltr j = c then some (some (.int 1), hp (upd I 8 (nI (m + 1))) J (upF F 9 (upd (F 9) m (nI j))) G X) else ex cdX1_takesLetter (rn d) 13 [.ref 8, .int c, .int (nI (j + 1))] [] (hp I J F G X) := by
  rw [xX1_takesLetter_13, if_neg (lt6n hj), if_pos (vin_nI hj (by decide)), nI_clamp (by omega)]
  by_cases e : ltr j = c
  · rw [if_pos e, if_pos e, x_r0, Option.bind_some, x_rn, Option.bind_some, h8, x_s9 (by omega), Option.bind_some, x_rn, Option.bind_some, h8, nI_1, x_prn, Option.bind_some]
  · rw [if_neg e, if_neg e, nI_1]
theorem tL_some {d m k : Nat} {c : Int32} (h8 : I 8 = nI m) (hm : m < 7) (hk : letr c = some k) : cI (rn (d + 1)) 17 [.ref 8, .int c] (hp I J F G X) = some (1, hp (upd I 8 (nI (m + 1))) J (upF F 9 (upd (F 9) m (nI k))) G X) := by
  refine cIo ?_
  rw [rX1_takesLetter, xX1_takesLetter_0, x_rn, Option.bind_some, h8, if_pos (show nI m < 7 from nI_lt (b := 7) hm (by decide)), ← nI_0, ltr_step h8 hm (by decide)]
  unfold letr at hk
  by_cases e0 : c = 119
  · subst e0; cases hk; rfl
  rw [if_neg e0] at hk
  rw [if_neg (fun z => e0 z.symm), ltr_step h8 hm (by decide)]
  by_cases e1 : c = 112
  · subst e1; cases hk; rfl
  rw [if_neg e1] at hk
  rw [if_neg (fun z => e1 z.symm), ltr_step h8 hm (by decide)]
  by_cases e2 : c = 115
  · subst e2; cases hk; rfl
  rw [if_neg e2] at hk
  rw [if_neg (fun z => e2 z.symm), ltr_step h8 hm (by decide)]
  by_cases e3 : c = 108
  · subst e3; cases hk; rfl
  rw [if_neg e3] at hk
  rw [if_neg (fun z => e3 z.symm), ltr_step h8 hm (by decide)]
  by_cases e4 : c = 114
  · subst e4; cases hk; rfl
  rw [if_neg e4] at hk
  rw [if_neg (fun z => e4 z.symm), ltr_step h8 hm (by decide)]
  by_cases e5 : c = 100
  · subst e5; cases hk; rfl
  rw [if_neg e5] at hk
  cases hk
theorem tL_none {d m : Nat} {c : Int32} (h8 : I 8 = nI m) (hm : m < 7) (hk : letr c = none) : cI (rn (d + 1)) 17 [.ref 8, .int c] (hp I J F G X) = some (0, (hp I J F G X)) := by
  refine cIo ?_
  unfold letr at hk
  by_cases e0 : c = 119
  · subst e0; cases hk
  rw [if_neg e0] at hk
  by_cases e1 : c = 112
  · subst e1; cases hk
  rw [if_neg e1] at hk
  by_cases e2 : c = 115
  · subst e2; cases hk
  rw [if_neg e2] at hk
  by_cases e3 : c = 108
  · subst e3; cases hk
  rw [if_neg e3] at hk
  by_cases e4 : c = 114
  · subst e4; cases hk
  rw [if_neg e4] at hk
  by_cases e5 : c = 100
  · subst e5; cases hk
  rw [rX1_takesLetter, xX1_takesLetter_0, x_rn, Option.bind_some, h8, if_pos (show nI m < 7 from nI_lt (b := 7) hm (by decide)), ← nI_0, ltr_step h8 hm (by decide), if_neg (fun z => e0 z.symm), ltr_step h8 hm (by decide), if_neg (fun z => e1 z.symm), ltr_step h8 hm (by decide), if_neg (fun z => e2 z.symm), ltr_step h8 hm (by decide), if_neg (fun z => e3 z.symm), ltr_step h8 hm (by decide), if_neg (fun z => e4 z.symm), ltr_step h8 hm (by decide), if_neg (fun z => e5 z.symm), xX1_takesLetter_13, if_pos (by decide)]
  rfl
theorem tL_full {d : Nat} {c : Int32} (h8 : I 8 = nI 7) : cI (rn (d + 1)) 17 [.ref 8, .int c] (hp I J F G X) = some (0, (hp I J F G X)) := by
  refine cIo ?_
  rw [rX1_takesLetter, xX1_takesLetter_0, x_rn, Option.bind_some, h8, if_neg (by decide)]
theorem t0_x {d : Nat} {c v : Int32} {H' : mH} (h : cI (rn (d + 1)) 17 [.ref 8, .int c] (hp I J F G X) = some (v, H')) (hv : v = 0 ∨ v = 1) : cI (rn (d + 2)) 16 [.ref 8, .int 0, .int c] (hp I J F G X) = some (v, H') := by
  refine cIo ?_
  rw [rX1_takes, xX1_takes_0, if_pos rfl, if_pos x_ri, h, Option.bind_some]
  rcases hv with rfl | rfl
  · rw [if_pos (by show (0 : Int32) &&& 1 = 0; decide)]
  · rw [if_pos (by show (1 : Int32) &&& 1 = 1; decide)]
theorem tN_x {d : Nat} {c : Int32} {p : Int32} (hp0 : ¬ p = 0) (hc : dgt c = none) : cI (rn (d + 2)) 16 [.ref 8, .int p, .int c] (hp I J F G X) = some (0, (hp I J F G X)) := by
  refine cIo ?_
  rw [rX1_takes, xX1_takes_0, if_neg hp0]
  by_cases z : c - 48 < 0
  · rw [if_pos z]
  · rcases dgt_none hc with e | e
    · exact absurd e z
    · rw [if_neg z, if_pos e]
theorem c48 (j : Nat) : nI (48 + j) - 48 = nI j := by
  have := pk_sub (a := 48 + j) (b := 48) (by omega)
  rw [show 48 + j - 48 = j by omega] at this
  exact this
theorem t1_x {d m a : Nat} {c : Int32} (h8 : I 8 = nI (m + 1)) (hm : m < 7) (hc : dgt c = some a) : cI (rn (d + 2)) 16 [.ref 8, .int 1, .int c] (hp I J F G X) = some (if a = 0 then 0 else 1, hp I J (upF F 10 (upd (F 10) m (nI a))) G X) := by
  obtain ⟨a9, rfl⟩ := dgt_some hc
  refine cIo ?_
  rw [rX1_takes, xX1_takes_0, if_neg one_ne, c48, if_neg (nI_pos (by omega)), if_neg (show ¬ (9 : Int32) < nI a from fun z => by have := (nI_ltI (a := 9) (by decide) (by omega)).mp z; omega), x_rn, Option.bind_some, h8, if_pos (show (1 : Int32) ≤ nI (m + 1) from nI_le (a := 1) (by omega) (by omega)), if_neg (by decide), x_r1, Option.bind_some, Option.bind_some, nI_pred, x_s10 (by omega), Option.bind_some]
  by_cases e : a = 0
  · subst e; rw [if_pos (by decide), if_pos rfl]
  · rw [if_neg (nI_nle (by omega) (by omega)), if_neg e]
theorem t2_x {d m a : Nat} {c : Int32} (h8 : I 8 = nI (m + 1)) (hm : m < 7) (hc : dgt c = some a) : cI (rn (d + 2)) 16 [.ref 8, .int 2, .int c] (hp I J F G X) = some (1, hp I J (upF F 11 (upd (F 11) m (nI a))) G X) := by
  obtain ⟨a9, rfl⟩ := dgt_some hc
  refine cIo ?_
  rw [rX1_takes, xX1_takes_0, if_neg (by decide), c48, if_neg (nI_pos (by omega)), if_neg (show ¬ (9 : Int32) < nI a from fun z => by have := (nI_ltI (a := 9) (by decide) (by omega)).mp z; omega), x_rn, Option.bind_some, h8, if_pos (show (1 : Int32) ≤ nI (m + 1) from nI_le (a := 1) (by omega) (by omega)), if_pos rfl, x_r2, Option.bind_some, Option.bind_some, nI_pred, x_s11 (by omega), Option.bind_some]
variable {t n : Nat} {f : Nat → Int32}
/-- one sign beyond the first of a person -/
theorem rd_end {d k : Nat} {v : Int32} {v4 : Value} (ht : t < 4) (hI : I (154 + 2 * t) = nI n) (hn : n ≤ 60) (hv : ¬ v = 0) (hk : n ≤ k) (hk2 : k < 100) : ex cdX1_read (rn d) 9 [.ref 8, .ref (154 + 2 * t), .int v, .int (nI k), v4] [] (hp I J F G X) = some (some (.int (nI n)), (hp I J F G X)) := by
  rw [xX1_read_9, x_txtN ht, Option.bind_some, hI, if_pos (nI_le hk (by omega)), if_neg hv, Option.bind_some]
theorem rd_sign {d k : Nat} {v : Int32} {v4 : Value} (ht : t < 4) (hI : I (154 + 2 * t) = nI n) (hn : n ≤ 60) (hv : ¬ v = 0) (hk : k < n) (hf : ∀ j, j < 60 → F (155 + 2 * t) j = f j) : ex cdX1_read (rn d) 9 [.ref 8, .ref (154 + 2 * t), .int v, .int (nI k), v4] [] (hp I J F G X) = ex cdX1_read (rn d) 39 [.ref 8, .ref (154 + 2 * t), .int v, .int (nI k), .int (f k)] [] (hp I J F G X) := by
  rw [xX1_read_9, x_txtN ht, Option.bind_some, hI, if_neg (nI_ge hk (by omega)), x_txtF ht, Option.bind_some, x_txtg ht (by omega), Option.bind_some, if_neg hv, hf k (by omega)]
theorem read_x {d : Nat} (ht : t < 4) (hI : I (154 + 2 * t) = nI n) (hn : n ≤ 60) (hf : ∀ j, j < 60 → F (155 + 2 * t) j = f j) : ∀ (q k : Nat) (ps : List (Nat × Nat × Nat)) (I1 : Nat → Int32) (F1 : Nat → Nat → Int32) (v4 : Value), n < k + q → k ≤ n → dH I1 F1 ps → okP ps → (∀ k, k ≠ 8 → I1 k = I k) → (∀ k, (k < 9 ∨ 11 < k) → F1 k = F k) →
    ∃ I' F', ex cdX1_read (rn (d + 2)) 9 [.ref 8, .ref (154 + 2 * t), .int 0, .int (nI k), v4] [] (hp I1 J F1 G X) = some (some (.int (prs f n q k ps).1), hp I' J F' G X) ∧ ((prs f n q k ps).1 = -9 → dH I' F' (prs f n q k ps).2) ∧ (∀ k, k ≠ 8 → I' k = I k) ∧ ∀ k, (k < 9 ∨ 11 < k) → F' k = F k := by
  intro q
  induction q with
  | zero => intro k ps I1 F1 v4 h1 h2; omega
  | succ q ih =>
    intro k ps I1 F1 v4 h1 h2 hd ho f1 f2
    have hI1 : I1 (154 + 2 * t) = nI n := by rw [f1 _ (by omega)]; exact hI
    have hf1 : ∀ j, j < 60 → F1 (155 + 2 * t) j = f j := by rw [f2 _ (by omega)]; exact hf
    unfold prs
    by_cases hk : n ≤ k
    · rw [if_pos hk]
      refine ⟨I1, F1, ?_, fun _ => hd, f1, f2⟩
      rw [xX1_read_9, x_txtN ht, Option.bind_some, hI1, if_pos (nI_le hk (by omega)), if_pos rfl, x_rn, Option.bind_some, hd.1]
      by_cases e : ps.length = 0
      · rw [e, if_pos (by decide), Option.bind_some, if_pos rfl]
      · rw [if_neg (nI_ne0 (by omega) (by have := ho.1; omega)), if_neg e]
    rw [if_neg hk]
    have hst : ex cdX1_read (rn (d + 2)) 9 [.ref 8, .ref (154 + 2 * t), .int 0, .int (nI k), v4] [] (hp I1 J F1 G X) = if f k = 32 then ex cdX1_read (rn (d + 2)) 9 [.ref 8, .ref (154 + 2 * t), .int 0, .int (nI (k + 1)), .int (f k)] [] (hp I1 J F1 G X) else ex cdX1_read (rn (d + 2)) 39 [.ref 8, .ref (154 + 2 * t), .int 0, .int (nI k), .int (f k)] [] (hp I1 J F1 G X) := by
      rw [xX1_read_9, x_txtN ht, Option.bind_some, hI1, if_neg (nI_ge (by omega) (by omega)), x_txtF ht, Option.bind_some, x_txtg ht (by omega), Option.bind_some, if_pos rfl, hf1 k (by omega), nI_1]
    rw [hst]
    by_cases h32 : f k = 32
    · rw [if_pos h32, if_pos h32]
      exact ih (k + 1) ps I1 F1 (.int (f k)) (by omega) (by omega) hd ho f1 f2
    rw [if_neg h32, if_neg h32, xX1_read_39, if_pos x_ri]
    have m1 : ((0 : Int32) + 1) - (0 + 1) / 3 * 3 = 1 := by decide
    have m2 : ((1 : Int32) + 1) - (1 + 1) / 3 * 3 = 2 := by decide
    have m3 : ((2 : Int32) + 1) - (2 + 1) / 3 * 3 = 0 := by decide
    have k9 : ∀ j, j ≤ n + 3 → nI j = (-9 : Int32) → False := fun j hj z => nI_ne9 (by omega) z
    by_cases h7 : ps.length = 7
    · have e0 := t0_x (tL_full (d := d) (c := f k) (I := I1) (J := J) (F := F1) (G := G) (X := X) (by rw [hd.1, h7])) (Or.inl rfl)
      rw [e0, Option.bind_some, if_pos rfl]
      cases letr (f k) with
      | none => exact ⟨I1, F1, rfl, fun z => (k9 k (by omega) z).elim, f1, f2⟩
      | some kk =>
        dsimp only
        rw [if_pos h7]
        exact ⟨I1, F1, rfl, fun z => (k9 k (by omega) z).elim, f1, f2⟩
    have hm7 : ps.length < 7 := by have := ho.1; omega
    cases hl : letr (f k) with
    | none =>
      have e0 := t0_x (tL_none (d := d) (c := f k) (J := J) (F := F1) (G := G) (X := X) hd.1 hm7 hl) (Or.inl rfl)
      rw [e0, Option.bind_some, if_pos rfl]
      exact ⟨I1, F1, rfl, fun z => (k9 k (by omega) z).elim, f1, f2⟩
    | some kk =>
      have e0 := t0_x (tL_some (d := d) (c := f k) (J := J) (F := F1) (G := G) (X := X) hd.1 hm7 hl) (Or.inr rfl)
      rw [e0, Option.bind_some, if_neg one_ne, m1, nI_1]
      dsimp only
      rw [if_neg h7]
      generalize hI2 : upd I1 8 (nI (ps.length + 1)) = I2
      generalize hF2 : upF F1 9 (upd (F1 9) ps.length (nI kk)) = F2
      have i2 : I2 8 = nI (ps.length + 1) := by rw [← hI2, upd_eq]
      have fr1 : ∀ k, k ≠ 8 → I2 k = I k := fun j hj => by rw [← hI2, upd_ne hj, f1 j hj]
      have fr2 : ∀ k, (k < 9 ∨ 11 < k) → F2 k = F k := fun j hj => by rw [← hF2, upF_ne (by omega), f2 j hj]
      have hI2' : I2 (154 + 2 * t) = nI n := by rw [fr1 _ (by omega)]; exact hI
      have hf2 : ∀ j, j < 60 → F2 (155 + 2 * t) j = f j := by rw [fr2 _ (by omega)]; exact hf
      by_cases hk1 : n ≤ k + 1
      · rw [if_pos hk1, rd_end ht hI2' hn one_ne hk1 (by omega)]
        exact ⟨I2, F2, rfl, fun z => (k9 n (by omega) z).elim, fr1, fr2⟩
      rw [if_neg hk1, rd_sign (f := f) ht hI2' hn one_ne (by omega) hf2, xX1_read_39, if_pos x_ri]
      cases hd1 : dgt (f (k + 1)) with
      | none =>
        rw [tN_x one_ne hd1, Option.bind_some, if_pos rfl]
        exact ⟨I2, F2, rfl, fun z => (k9 (k + 1) (by omega) z).elim, fr1, fr2⟩
      | some a =>
        rw [t1_x i2 hm7 hd1, Option.bind_some]
        dsimp only
        generalize hF3 : upF F2 10 (upd (F2 10) ps.length (nI a)) = F3
        have fr3 : ∀ k, (k < 9 ∨ 11 < k) → F3 k = F k := fun j hj => by rw [← hF3, upF_ne (by omega), fr2 j hj]
        by_cases ha0 : a = 0
        · rw [if_pos ha0, if_pos ha0, if_pos rfl]
          exact ⟨I2, F3, rfl, fun z => (k9 (k + 1) (by omega) z).elim, fr1, fr3⟩
        rw [if_neg ha0, if_neg ha0, if_neg one_ne, m2, nI_1]
        have hf3 : ∀ j, j < 60 → F3 (155 + 2 * t) j = f j := by rw [fr3 _ (by omega)]; exact hf
        by_cases hk2 : n ≤ k + 2
        · rw [if_pos hk2, rd_end ht hI2' hn (by decide) (show n ≤ k + 1 + 1 from hk2) (by omega)]
          exact ⟨I2, F3, rfl, fun z => (k9 n (by omega) z).elim, fr1, fr3⟩
        rw [if_neg hk2, rd_sign (f := f) (k := k + 1 + 1) ht hI2' hn (by decide) (by omega) hf3, xX1_read_39, if_pos x_ri]
        cases hd2 : dgt (f (k + 2)) with
        | none =>
          rw [tN_x (by decide) hd2, Option.bind_some, if_pos rfl]
          exact ⟨I2, F3, rfl, fun z => (k9 (k + 2) (by omega) z).elim, fr1, fr3⟩
        | some b =>
          rw [t2_x i2 hm7 hd2, Option.bind_some, if_neg one_ne, m3, nI_1]
          dsimp only
          refine ih (k + 3) (ps ++ [(kk, a, b)]) I2 _ (.int (f (k + 2))) (by omega) (by omega) ⟨by rw [i2]; simp, fun i p hp => ?_⟩ ⟨by simp; omega, fun p hp => ?_⟩ fr1 (fun j hj => by rw [upF_ne (by omega), fr3 j hj])
          · rw [← hF3, ← hF2]
            simp (disch := decide) only [upF_ne, upF_eq]
            by_cases z : i < ps.length
            · rw [List.getElem?_append_left z] at hp
              rw [upd_ne (by omega), upd_ne (by omega), upd_ne (by omega)]
              exact hd.2 i p hp
            · rw [List.getElem?_append_right (by omega)] at hp
              have z2 : i - ps.length < 1 := (List.getElem?_eq_some_iff.mp hp).1
              have z3 : i = ps.length := by omega
              subst z3
              rw [Nat.sub_self] at hp
              cases hp
              rw [upd_eq, upd_eq, upd_eq]
              exact ⟨rfl, rfl, rfl⟩
          · rcases List.mem_append.mp hp with hp | hp
            · exact ho.2 p hp
            · rw [List.mem_singleton] at hp
              subst hp
              exact ⟨letr_lt hl, by dsimp only; omega, by have := (dgt_some hd1).1; dsimp only; omega, by have := (dgt_some hd2).1; dsimp only; omega⟩
end RX
