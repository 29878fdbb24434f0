/-! persons of a text, the reference's way; fault; line -/
section FY
variable {I : Nat → Int32} {J : Nat → Int64} {F : Nat → Nat → Int32} {G : Nat → Int64} {X : Nat → va_E} {t n : Nat} {f : Nat → Int32}
theorem here_y {d k : Nat} (h1 : I 171 = nI (60 * t)) (h2 : I 172 = nI k) (ht : t < 4) (hk : k < 60) (hf : ∀ j, j < 60 → F 176 (60 * t + j) = f j) : cI (rn (d + 1)) 165 [.ref 168] (hp I J F G X) = some (f k, (hp I J F G X)) := by
  refine cIo ?_
  rw [rX10_here, xX10_here_0, y_f8, Option.bind_some, y_fr, Option.bind_some, y_pl, Option.bind_some, h1, h2, nI_add, y_g176 (by omega), Option.bind_some, hf k hk]
theorem figN_y {d k l : Nat} (h1 : I 171 = nI (60 * t)) (h2 : I 172 = nI k) (h3 : I 173 = nI n) (ht : t < 4) (hn : n ≤ 60) (hk : k ≤ n) (hf : ∀ j, j < 60 → F 176 (60 * t + j) = f j) (hc : n ≤ k ∨ dgt (f k) = none ∨ ∃ a, dgt (f k) = some a ∧ a < l) (hl : l ≤ 9) : cI (rn (d + 2)) 167 [.ref 168, .int (nI l)] (hp I J F G X) = some (-9, (hp I J F G X)) := by
  refine cIo ?_
  rw [rX10_figure, xX10_figure_0, y_pl, Option.bind_some, y_en, Option.bind_some, h2, h3]
  by_cases e : k = n
  · rw [e, if_pos rfl]
  · have hk' : k < n := by omega
    rw [if_neg (fun z => e ((nI_inj (by omega) (by omega)).mp z)), if_pos y_is, here_y h1 h2 ht (by omega) hf, Option.bind_some, show (57 : Int64) = Int32.toInt64 57 from by decide, in_b, Option.bind_some, bI_df, if_pos rfl]
    rintro ⟨w1, w2⟩
    have w1' : nI (48 + l) ≤ f k := by rw [← nI_add]; exact w1
    obtain ⟨i, hi, hfi⟩ := nI_of (x := f k) (fun z => Int32.not_le.mpr (Int32.lt_of_lt_of_le z (nI_pos' (show 48 + l < 2 ^ 31 by omega))) w1')
    rw [hfi] at w1' w2
    have a1 := (nI_leI (by omega) hi).mp w1'
    have a2 := (nI_leI (b := 57) hi (by decide)).mp w2
    have hd : dgt (f k) = some (i - 48) := by rw [hfi, show i = 48 + (i - 48) by omega]; rw [dgt_of (by omega)]; congr 1; omega
    rcases hc with hc | hc | ⟨a, hc, hc2⟩
    · omega
    · rw [hd] at hc; cases hc
    · rw [hd] at hc
      have := Option.some.inj hc
      omega
theorem figS_y {d k l a : Nat} (h1 : I 171 = nI (60 * t)) (h2 : I 172 = nI k) (h3 : I 173 = nI n) (ht : t < 4) (hn : n ≤ 60) (hk : k < n) (hf : ∀ j, j < 60 → F 176 (60 * t + j) = f j) (hc : dgt (f k) = some a) (hl : l ≤ a) : cI (rn (d + 2)) 167 [.ref 168, .int (nI l)] (hp I J F G X) = some (nI a, hp (upd I 172 (nI (k + 1))) J F G X) := by
  obtain ⟨a9, hfk⟩ := dgt_some hc
  refine cIo ?_
  rw [rX10_figure, xX10_figure_0, y_pl, Option.bind_some, y_en, Option.bind_some, h2, h3, if_neg (fun z => by have := (nI_inj (by omega) (by omega)).mp z; omega), if_pos y_is, here_y h1 h2 ht (by omega) hf, Option.bind_some, show (57 : Int64) = Int32.toInt64 57 from by decide, in_b, Option.bind_some, bI_dt, if_neg one_ne, y_pl, Option.bind_some, h2, nI_1, y_ppl, Option.bind_some, y_f8, Option.bind_some, y_fr, Option.bind_some, y_pl, Option.bind_some, upd_ne (by decide), h1, upd_eq, nI_add, show nI (60 * t + (k + 1)) - 1 = nI (60 * t + k) from nI_pred _, y_g176 (by omega), Option.bind_some, hf k (by omega), hfk, c48]
  rw [hfk]
  refine ⟨?_, nI_le (b := 57) (by omega) (by decide)⟩
  have : (48 : Int32) + nI l = nI (48 + l) := nI_add 48 l
  rw [this]
  exact nI_le (by omega) (by omega)
theorem kol_y {d : Nat} {c : Int32} {h : mH} : cI (rn (d + 1)) 168 [.int c] h = some (oI (letr c), h) := by
  refine cIo ?_
  rw [rX10_kindOfLetter, xX10_kindOfLetter_0]
  unfold letr
  repeat' split
  all_goals rfl
theorem skip_0 {d k : Nat} (h2 : I 172 = nI k) (h3 : I 173 = nI n) (hn : n ≤ 60) (hk : n ≤ k) (hk2 : k < 100) : ex cdX10_skip (rn d) 0 [.ref 168] [] (hp I J F G X) = some (none, (hp I J F G X)) := by
  rw [xX10_skip_0, y_pl, Option.bind_some, y_en, Option.bind_some, h2, h3, if_pos (nI_le hk (by omega))]
theorem skip_n {d k : Nat} (h1 : I 171 = nI (60 * t)) (h2 : I 172 = nI k) (h3 : I 173 = nI n) (ht : t < 4) (hn : n ≤ 60) (hk : k < n) (hf : ∀ j, j < 60 → F 176 (60 * t + j) = f j) (hc : ¬ f k = 32) : ex cdX10_skip (rn (d + 1)) 0 [.ref 168] [] (hp I J F G X) = some (none, (hp I J F G X)) := by
  rw [xX10_skip_0, y_pl, Option.bind_some, y_en, Option.bind_some, h2, h3, if_neg (nI_ge hk (by omega)), if_pos y_is, here_y h1 h2 ht (by omega) hf, Option.bind_some, if_neg hc]
theorem skip_s {d k : Nat} (h1 : I 171 = nI (60 * t)) (h2 : I 172 = nI k) (h3 : I 173 = nI n) (ht : t < 4) (hn : n ≤ 60) (hk : k < n) (hf : ∀ j, j < 60 → F 176 (60 * t + j) = f j) (hc : f k = 32) : ex cdX10_skip (rn (d + 1)) 0 [.ref 168] [] (hp I J F G X) = ex cdX10_skip (rn (d + 1)) 0 [.ref 168] [] (hp (upd I 172 (nI (k + 1))) J F G X) := by
  rw [xX10_skip_0, y_pl, Option.bind_some, y_en, Option.bind_some, h2, h3, if_neg (nI_ge hk (by omega)), if_pos y_is, here_y h1 h2 ht (by omega) hf, Option.bind_some, if_pos hc, y_pl, Option.bind_some, h2, nI_1, y_ppl, Option.bind_some]
theorem c3m (m : Nat) : (3 : Int32) * nI m = nI (3 * m) := pk_mul 3 m
/-- the reference's way through the text -/
theorem fault_y {d : Nat} (ht : t < 4) (hn : n ≤ 60) (hf : ∀ j, j < 60 → F 176 (60 * t + j) = f j) : ∀ (q k : Nat) (ps : List (Nat × Nat × Nat)) (I1 : Nat → Int32) (F1 : Nat → Nat → Int32), n < k + q → k ≤ n → I1 171 = nI (60 * t) → I1 172 = nI k → I1 173 = nI n → rH I1 F1 ps → okP ps → (∀ k, (k < 171 ∨ 174 < k) → I1 k = I k) → (∀ k, k ≠ 178 → F1 k = F k) →
    ∃ I2, ex cdX10_skip (rn (d + 3)) 0 [.ref 168] [] (hp I1 J F1 G X) = some (none, hp I2 J F1 G X) ∧ ∃ I' F', ex cdX10_faultOf (rn (d + 4)) 34 [.ref 168, .int (nI t), .int 1] [] (hp I2 J F1 G X) = some (some (.int (prs f n q k ps).1), hp I' J F' G X) ∧ ((prs f n q k ps).1 = -9 → rH I' F' (prs f n q k ps).2) ∧ (∀ k, (k < 171 ∨ 174 < k) → I' k = I k) ∧ ∀ k, k ≠ 178 → F' k = F k := by
  intro q
  induction q with
  | zero => intro k ps I1 F1 h1 h2; omega
  | succ q ih =>
    intro k ps I1 F1 h1 h2 e1 e2 e3 hr ho f1 f2
    have hf1 : ∀ j, j < 60 → F1 176 (60 * t + j) = f j := by rw [f2 _ (by omega)]; exact hf
    unfold prs
    by_cases hk : n ≤ k
    · rw [if_pos hk]
      have hkn : k = n := by omega
      refine ⟨I1, skip_0 e2 e3 hn hk (by omega), I1, F1, ?_, fun _ => hr, f1, f2⟩
      rw [xX10_faultOf_34, if_neg one_ne, y_pl, Option.bind_some, y_en, Option.bind_some, e2, e3, if_pos (nI_le hk (by omega)), xX10_faultOf_65, if_neg one_ne, y_rm, Option.bind_some, hr.1]
      by_cases e : ps.length = 0
      · rw [e, if_pos (by decide), y_pl, Option.bind_some, e2, if_pos rfl, hkn]
      · rw [if_neg (nI_nle (by omega) (by have := ho.1; omega)), if_neg e]
    rw [if_neg hk]
    have hkn : k < n := by omega
    by_cases h32 : f k = 32
    · rw [if_pos h32, skip_s (d := d + 2) (f := f) e1 e2 e3 ht hn hkn hf1 h32]
      exact ih (k + 1) ps (upd I1 172 (nI (k + 1))) F1 (by omega) (by omega) (by rw [upd_ne (by decide)]; exact e1) (upd_eq _ _ _) (by rw [upd_ne (by decide)]; exact e3) ⟨by rw [upd_ne (by decide)]; exact hr.1, hr.2⟩ ho (fun j hj => by rw [upd_ne (by omega), f1 j hj]) f2
    rw [if_neg h32]
    refine ⟨I1, skip_n (d := d + 2) (f := f) e1 e2 e3 ht hn hkn hf1 h32, ?_⟩
    have k9 : ∀ j, j ≤ n + 3 → nI j = (-9 : Int32) → False := fun j hj z => nI_ne9 (by omega) z
    have hh := here_y (d := d + 2) (J := J) (G := G) (X := X) (f := f) e1 e2 ht (show k < 60 by omega) hf1
    -- a fault: how it comes back
    have hbad : ∀ (I3 : Nat → Int32) (F3 : Nat → Nat → Int32) (j : Nat), j ≤ n → I3 172 = nI j → (∀ k, (k < 171 ∨ 174 < k) → I3 k = I k) → (∀ k, k ≠ 178 → F3 k = F k) → cI (rn (d + 4)) 169 [.ref 168] (hp I1 J F1 G X) = some (0, hp I3 J F3 G X) → ∃ I' F', ex cdX10_faultOf (rn (d + 4)) 34 [.ref 168, .int (nI t), .int 1] [] (hp I1 J F1 G X) = some (some (.int (nI j)), hp I' J F' G X) ∧ (nI j = -9 → rH I' F' ps) ∧ (∀ k, (k < 171 ∨ 174 < k) → I' k = I k) ∧ ∀ k, k ≠ 178 → F' k = F k := by
      intro I3 F3 j hj hj2 g1 g2 hc
      refine ⟨I3, F3, ?_, fun z => (k9 j (by omega) z).elim, g1, g2⟩
      rw [xX10_faultOf_34, if_neg one_ne, y_pl, Option.bind_some, y_en, Option.bind_some, e2, e3, if_neg (nI_ge hkn (by omega)), if_pos y_is, hc, Option.bind_some, if_pos rfl, xX10_faultOf_34, if_pos rfl, xX10_faultOf_65, if_pos rfl, y_pl, Option.bind_some, hj2]
    cases hl : letr (f k) with
    | none =>
      refine hbad I1 F1 k (by omega) e2 f1 f2 ?_
      refine cIo ?_
      rw [rX10_readsPerson, xX10_readsPerson_0, if_pos y_is, hh, Option.bind_some, kol_y, Option.bind_some, hl, if_pos oI_none]
    | some kk =>
      have hkk := letr_lt hl
      dsimp only
      by_cases h7 : ps.length = 7
      · rw [if_pos h7]
        refine hbad I1 F1 k (by omega) e2 f1 f2 ?_
        refine cIo ?_
        rw [rX10_readsPerson, xX10_readsPerson_0, if_pos y_is, hh, Option.bind_some, kol_y, Option.bind_some, hl, if_neg (show ¬ oI (some kk) = -9 from nI_ne9 (by omega)), y_rm, Option.bind_some, hr.1, h7, if_pos (by decide)]
      rw [if_neg h7]
      have hm7 : ps.length < 7 := by have := ho.1; omega
      have st : ∀ (R : mR), ((cI (rn (d + 3)) 167 [.ref 168, .int 1] (hp (upd I1 172 (nI (k + 1))) J F1 G X)).bind fun p6 => if p6.1 = (-9) then (ex cdX10_readsPerson (rn (d + 3)) 57 [.ref 168, .int (nI kk), .int p6.1, .null] [.int (-9)] p6.2) else (if isO p6.2 168 10 = true then ((cI (rn (d + 3)) 167 [.ref 168, .int 0] p6.2).bind fun p7 => ex cdX10_readsPerson (rn (d + 3)) 57 [.ref 168, .int (nI kk), .int p6.1, .null] [.int p7.1] p7.2) else none)) = R → rn (d + 4) 169 [.ref 168] (hp I1 J F1 G X) = R := by
        intro R hR
        rw [rX10_readsPerson, xX10_readsPerson_0, if_pos y_is, hh, Option.bind_some, kol_y, Option.bind_some, hl, if_neg (show ¬ oI (some kk) = -9 from nI_ne9 (by omega)), y_rm, Option.bind_some, hr.1, if_neg (show ¬ nI ps.length = 7 from fun z => h7 ((nI_inj (b := 7) (by omega) (by decide)).mp z)), y_pl, Option.bind_some, e2, nI_1, y_ppl, Option.bind_some, if_pos y_is]
        exact hR
      generalize hI2 : upd I1 172 (nI (k + 1)) = I2 at st
      have a1 : I2 171 = nI (60 * t) := by rw [← hI2, upd_ne (by decide)]; exact e1
      have a2 : I2 172 = nI (k + 1) := by rw [← hI2, upd_eq]
      have a3 : I2 173 = nI n := by rw [← hI2, upd_ne (by decide)]; exact e3
      have a4 : I2 174 = nI ps.length := by rw [← hI2, upd_ne (by decide)]; exact hr.1
      have fr1 : ∀ k, (k < 171 ∨ 174 < k) → I2 k = I k := fun j hj => by rw [← hI2, upd_ne (by omega), f1 j hj]
      have no1 : (n ≤ k + 1 ∨ dgt (f (k + 1)) = none ∨ ∃ a, dgt (f (k + 1)) = some a ∧ a < 1) → ∃ I' F', ex cdX10_faultOf (rn (d + 4)) 34 [.ref 168, .int (nI t), .int 1] [] (hp I1 J F1 G X) = some (some (.int (nI (k + 1))), hp I' J F' G X) ∧ (nI (k + 1) = -9 → rH I' F' ps) ∧ (∀ k, (k < 171 ∨ 174 < k) → I' k = I k) ∧ ∀ k, k ≠ 178 → F' k = F k := by
        intro hc
        refine hbad I2 F1 (k + 1) (by omega) a2 fr1 f2 (cIo (st _ ?_))
        have := figN_y (d := d + 1) (J := J) (G := G) (X := X) (l := 1) (f := f) a1 a2 a3 ht hn (by omega) hf1 hc (by decide)
        have this' : cI (rn (d + 3)) 167 [.ref 168, .int 1] (hp I2 J F1 G X) = some (-9, hp I2 J F1 G X) := this
        rw [this', Option.bind_some, if_pos rfl, xX10_readsPerson_57, if_pos rfl]
      by_cases hk1 : n ≤ k + 1
      · rw [if_pos hk1, show n = k + 1 by omega]
        exact no1 (Or.inl hk1)
      rw [if_neg hk1]
      cases hd1 : dgt (f (k + 1)) with
      | none => exact no1 (Or.inr (Or.inl hd1))
      | some a =>
        dsimp only
        by_cases ha0 : a = 0
        · rw [if_pos ha0]
          exact no1 (Or.inr (Or.inr ⟨a, hd1, by omega⟩))
        rw [if_neg ha0]
        have a9 := (dgt_some hd1).1
        have fg1 := figS_y (d := d + 1) (J := J) (G := G) (X := X) (l := 1) (f := f) a1 a2 a3 ht hn (by omega) hf1 hd1 (by omega)
        have fg1' : cI (rn (d + 3)) 167 [.ref 168, .int 1] (hp I2 J F1 G X) = some (nI a, hp (upd I2 172 (nI (k + 2))) J F1 G X) := fg1
        have st2 : ∀ (R : mR), ((cI (rn (d + 3)) 167 [.ref 168, .int 0] (hp (upd I2 172 (nI (k + 2))) J F1 G X)).bind fun p7 => ex cdX10_readsPerson (rn (d + 3)) 57 [.ref 168, .int (nI kk), .int (nI a), .null] [.int p7.1] p7.2) = R → rn (d + 4) 169 [.ref 168] (hp I1 J F1 G X) = R := by
          intro R hR
          refine st _ ?_
          rw [fg1', Option.bind_some, if_neg (nI_ne9 (by omega)), if_pos y_is]
          exact hR
        generalize hI3 : upd I2 172 (nI (k + 2)) = I3 at st2
        have b1 : I3 171 = nI (60 * t) := by rw [← hI3, upd_ne (by decide)]; exact a1
        have b2 : I3 172 = nI (k + 2) := by rw [← hI3, upd_eq]
        have b3 : I3 173 = nI n := by rw [← hI3, upd_ne (by decide)]; exact a3
        have b4 : I3 174 = nI ps.length := by rw [← hI3, upd_ne (by decide)]; exact a4
        have fr3 : ∀ k, (k < 171 ∨ 174 < k) → I3 k = I k := fun j hj => by rw [← hI3, upd_ne (by omega), fr1 j hj]
        have no2 : (n ≤ k + 2 ∨ dgt (f (k + 2)) = none ∨ ∃ a, dgt (f (k + 2)) = some a ∧ a < 0) → ∃ I' F', ex cdX10_faultOf (rn (d + 4)) 34 [.ref 168, .int (nI t), .int 1] [] (hp I1 J F1 G X) = some (some (.int (nI (k + 2))), hp I' J F' G X) ∧ (nI (k + 2) = -9 → rH I' F' ps) ∧ (∀ k, (k < 171 ∨ 174 < k) → I' k = I k) ∧ ∀ k, k ≠ 178 → F' k = F k := by
          intro hc
          refine hbad I3 F1 (k + 2) (by omega) b2 fr3 f2 (cIo (st2 _ ?_))
          have := figN_y (d := d + 1) (J := J) (G := G) (X := X) (l := 0) (f := f) b1 b2 b3 ht hn (by omega) hf1 hc (by decide)
          rw [nI_0] at this
          rw [this, Option.bind_some, xX10_readsPerson_57, if_pos rfl]
        by_cases hk2 : n ≤ k + 2
        · rw [if_pos hk2, show n = k + 2 by omega]
          exact no2 (Or.inl hk2)
        rw [if_neg hk2]
        cases hd2 : dgt (f (k + 2)) with
        | none => exact no2 (Or.inr (Or.inl hd2))
        | some b =>
          have b9 := (dgt_some hd2).1
          dsimp only
          have fg2 := figS_y (d := d + 1) (J := J) (G := G) (X := X) (l := 0) (f := f) b1 b2 b3 ht hn (by omega) hf1 hd2 (by omega)
          rw [nI_0] at fg2
          generalize hI4 : upd I3 172 (nI (k + 2 + 1)) = I4 at fg2
          have d1 : I4 171 = nI (60 * t) := by rw [← hI4, upd_ne (by decide)]; exact b1
          have d2 : I4 172 = nI (k + 3) := by rw [← hI4, upd_eq]
          have d3 : I4 173 = nI n := by rw [← hI4, upd_ne (by decide)]; exact b3
          have d4 : I4 174 = nI ps.length := by rw [← hI4, upd_ne (by decide)]; exact b4
          have fr4 : ∀ k, (k < 171 ∨ 174 < k) → I4 k = I k := fun j hj => by rw [← hI4, upd_ne (by omega), fr3 j hj]
          have hrd : cI (rn (d + 4)) 169 [.ref 168] (hp I1 J F1 G X) = some (1, hp (upd I4 174 (nI (ps.length + 1))) J (upF (upF (upF F1 178 (upd (F1 178) (3 * ps.length) (nI kk))) 178 (upd (upF F1 178 (upd (F1 178) (3 * ps.length) (nI kk)) 178) (3 * ps.length + 1) (nI a))) 178 (upd (upF (upF F1 178 (upd (F1 178) (3 * ps.length) (nI kk))) 178 (upd (upF F1 178 (upd (F1 178) (3 * ps.length) (nI kk)) 178) (3 * ps.length + 1) (nI a)) 178) (3 * ps.length + 2) (nI b))) G X) := by
            refine cIo (st2 _ ?_)
            rw [fg2, Option.bind_some, xX10_readsPerson_57, if_neg (nI_ne9 (by omega)), y_f17, Option.bind_some, y_rm, Option.bind_some, d4, c3m, y_s178 (by omega), Option.bind_some, y_f17, Option.bind_some, y_rm, Option.bind_some, d4, c3m, p1, y_s178 (by omega), Option.bind_some, y_f17, Option.bind_some, y_rm, Option.bind_some, d4, c3m, p2, y_s178 (by omega), Option.bind_some, y_rm, Option.bind_some, d4, nI_1, y_prm, Option.bind_some]
          generalize hF5 : upF (upF (upF F1 178 (upd (F1 178) (3 * ps.length) (nI kk))) 178 (upd (upF F1 178 (upd (F1 178) (3 * ps.length) (nI kk)) 178) (3 * ps.length + 1) (nI a))) 178 (upd (upF (upF F1 178 (upd (F1 178) (3 * ps.length) (nI kk))) 178 (upd (upF F1 178 (upd (F1 178) (3 * ps.length) (nI kk)) 178) (3 * ps.length + 1) (nI a)) 178) (3 * ps.length + 2) (nI b)) = F5 at hrd
          have fr5 : ∀ k, k ≠ 178 → F5 k = F k := fun j hj => by rw [← hF5, upF_ne hj, upF_ne hj, upF_ne hj, f2 j hj]
          obtain ⟨I6, s1, I', F', s2, s3, s4, s5⟩ := ih (k + 3) (ps ++ [(kk, a, b)]) (upd I4 174 (nI (ps.length + 1))) F5 (by omega) (by omega) (by rw [upd_ne (by decide)]; exact d1) (by rw [upd_ne (by decide)]; exact d2) (by rw [upd_ne (by decide)]; exact d3) ⟨by rw [upd_eq]; simp, fun i p hp => by
            rw [← hF5]
            simp only [upF_eq]
            by_cases z : i < ps.length
            · rw [List.getElem?_append_left z] at hp
              rw [upd_ne (by omega), upd_ne (by omega), upd_ne (by omega), upd_ne (by omega), upd_ne (by omega), upd_ne (by omega), upd_ne (by omega), upd_ne (by omega), upd_ne (by omega)]
              exact hr.2 i p hp
            · rw [List.getElem?_append_right (by omega)] at hp
              have z2 : i - ps.length < 1 := (List.getElem?_eq_some_iff.mp hp).1
              have z3 : i = ps.length := by omega
              subst z3
              rw [Nat.sub_self] at hp
              cases hp
              refine ⟨?_, ?_, ?_⟩
              · rw [upd_ne (by omega), upd_ne (by omega), upd_eq]
              · rw [upd_ne (by omega), upd_eq]
              · rw [upd_eq]⟩ ⟨by simp; omega, fun p hp => by
            rcases List.mem_append.mp hp with hp | hp
            · exact ho.2 p hp
            · rw [List.mem_singleton] at hp
              subst hp
              exact ⟨hkk, by dsimp only; omega, by dsimp only; omega, by dsimp only; omega⟩⟩ (fun j hj => by rw [upd_ne (by omega), fr4 j hj]) fr5
          refine ⟨I', F', ?_, s3, s4, s5⟩
          have hsk : cV (rn (d + 4)) 166 [.ref 168] (hp (upd I4 174 (nI (ps.length + 1))) J F5 G X) = some (hp I6 J F5 G X) := by
            refine cVo ?_
            rw [rX10_skip]
            exact s1
          rw [xX10_faultOf_34, if_neg one_ne, y_pl, Option.bind_some, y_en, Option.bind_some, e2, e3, if_neg (nI_ge hkn (by omega)), if_pos y_is, hrd, Option.bind_some, if_neg one_ne, if_pos y_is, hsk, Option.bind_some]
          exact s2
end FY
theorem faultOf_y {I : Nat → Int32} {J : Nat → Int64} {F : Nat → Nat → Int32} {G : Nat → Int64} {X : Nat → va_E} {d t n : Nat} {f : Nat → Int32} (ht : t < 4) (hn : n ≤ 60) (h : F 175 t = nI n) (hf : ∀ j, j < 60 → F 176 (60 * t + j) = f j) : ∃ I' F', cI (rn (d + 5)) 170 [.ref 168, .int (nI t)] (hp I J F G X) = some ((prs f n 61 0 []).1, hp I' J F' G X) ∧ ((prs f n 61 0 []).1 = -9 → rH I' F' (prs f n 61 0 []).2) ∧ (∀ k, (k < 171 ∨ 174 < k) → I' k = I k) ∧ ∀ k, k ≠ 178 → F' k = F k := by
  obtain ⟨I2, s1, I', F', s2, s3, s4, s5⟩ := fault_y (d := d) (I := I) (J := J) (F := F) (G := G) (X := X) (f := f) ht hn hf 61 0 [] (upd (upd (upd (upd I 171 (nI (60 * t))) 172 0) 173 (nI n)) 174 0) F (by omega) (by omega) (by rw [upd_ne (by decide), upd_ne (by decide), upd_ne (by decide), upd_eq]) (by rw [upd_ne (by decide), upd_ne (by decide), upd_eq]; exact nI_0.symm) (by rw [upd_ne (by decide), upd_eq]) ⟨by rw [upd_eq]; exact nI_0.symm, fun i p hp => by simp at hp⟩ ⟨by decide, fun p hp => by simp at hp⟩ (fun k hk => by rw [upd_ne (by omega), upd_ne (by omega), upd_ne (by omega), upd_ne (by omega)]) (fun _ _ => rfl)
  refine ⟨I', F', ?_, s3, s4, s5⟩
  have hsk : cV (rn (d + 4)) 166 [.ref 168] (hp (upd (upd (upd (upd I 171 (nI (60 * t))) 172 0) 173 (nI n)) 174 0) J F G X) = some (hp I2 J F G X) := by
    refine cVo ?_
    rw [rX10_skip]
    exact s1
  refine cIo ?_
  rw [rX10_faultOf, xX10_faultOf_0, c60, y_pfr, Option.bind_some, y_ppl, Option.bind_some, y_f7, Option.bind_some, y_g175 ht, Option.bind_some, h, y_pen, Option.bind_some, y_prm, Option.bind_some, if_pos y_is, hsk, Option.bind_some, s2]
theorem readD_x {I : Nat → Int32} {J : Nat → Int64} {F : Nat → Nat → Int32} {G : Nat → Int64} {X : Nat → va_E} {d t n : Nat} {f : Nat → Int32} (ht : t < 4) (hn : n ≤ 60) (hI : I (154 + 2 * t) = nI n) (hf : ∀ j, j < 60 → F (155 + 2 * t) j = f j) : ∃ I' F', cI (rn (d + 3)) 15 [.ref 8, .ref (154 + 2 * t)] (hp I J F G X) = some ((prs f n 61 0 []).1, hp I' J F' G X) ∧ ((prs f n 61 0 []).1 = -9 → dH I' F' (prs f n 61 0 []).2) ∧ (∀ k, k ≠ 8 → I' k = I k) ∧ ∀ k, (k < 9 ∨ 11 < k) → F' k = F k := by
  obtain ⟨I', F', s2, s3, s4, s5⟩ := read_x (d := d) (I := I) (J := J) (F := F) (G := G) (X := X) (f := f) ht hI hn hf 61 0 [] (upd I 8 0) F .null (by omega) (by omega) ⟨by rw [upd_eq]; exact nI_0.symm, fun i p hp => by simp at hp⟩ ⟨by decide, fun p hp => by simp at hp⟩ (fun k hk => upd_ne hk) (fun _ _ => rfl)
  refine ⟨I', F', ?_, s3, s4, s5⟩
  rw [nI_0] at s2
  refine cIo ?_
  rw [rX1_read, xX1_read_0, x_prn, Option.bind_some, s2]
theorem g_fault : gdI 87 171 1 := gdI_of (fun as hn I J F G X np kd pt pr ds ks hR hS => by
  obtain ⟨a, rfl⟩ := as1 hn
  show okI _ _ [.int a] I J F G X
  rcases ix a (n := 4) (by decide) with ha | ⟨t, ht, rfl⟩
  · refine okI_same (v := -1) hR hS ?_ ?_
    · refine cIo ?_; rw [rX9_fault, xX9_fault_0, if_pos x_is, refTx_n ha, Option.bind_some, if_neg m1_ne]
    · refine cIo ?_; rw [rX10_fault, xX10_fault_0, isText_yn ha, Option.bind_some, if_pos rfl]
  obtain ⟨z1, z2, z3⟩ := hR.2.2.2.1 t ht
  rcases z2 with e | ⟨n, hn60, e⟩ <;> have z4 := z1.symm.trans e
  · refine okI_find 1 (by decide) hR hS ?_ ?_
    · refine cIo ?_; rw [rX9_fault, xX9_fault_0, if_pos x_is, refTx_m ht e, Option.bind_some, if_neg m3_ne]
    · refine cIo ?_; rw [rX10_fault, xX10_fault_0, isText_y ht, Option.bind_some, if_neg one_ne, y_f7, Option.bind_some, y_g175 ht, Option.bind_some, upF_ne (by decide), z4, if_neg m1_ge0, if_pos y_is, fy1, Option.bind_some, upF_ne (by decide)]
  obtain ⟨I1, F1, g1, g2, g3, g4⟩ := readD_x (d := 56) (J := J) (G := G) (X := X) ht hn60 e (fun _ _ => rfl)
  obtain ⟨I2, F2, u1, u2, u3, u4⟩ := faultOf_y (d := 54) (I := I1) (J := J) (F := F1) (G := G) (X := X) (f := F (155 + 2 * t)) ht hn60 (by rw [g4 175 (by omega)]; exact z4) (by rw [g4 176 (by omega)]; exact z3)
  refine okI_mk (J2 := J) (G2 := G) (v := (prs (F (155 + 2 * t)) n 61 0 []).1) (I1 := I1) (J1 := J) (F1 := F1) (X1 := X) (I2 := I2) (F2 := F2) ?_ ?_ (rel_scr hR (fun k hk => by rw [u3 k (by omega), g3 k (by omega)]) (fun k hk => by rw [u4 k (by omega), g4 k (by omega)]) (fun k hk => by rw [u4 169 (by decide), g4 169 (by omega)])) hS
  · refine cIo ?_; rw [rX9_fault, xX9_fault_0, if_pos x_is, refTx_o ht hn60 e, Option.bind_some, if_pos rfl, x_f3, Option.bind_some, x_f1, Option.bind_some, x_txtR ht, Option.bind_some, if_pos x_ri, g1, Option.bind_some]
  · refine cIo ?_; rw [rX10_fault, xX10_fault_0, isText_y ht, Option.bind_some, if_neg one_ne, y_f7, Option.bind_some, y_g175 ht, Option.bind_some, g4 175 (by omega), z4, if_pos (nI_ge0 (by omega)), if_pos y_is, u1, Option.bind_some])
/-! a new line -/
section LI
variable {I : Nat → Int32} {J : Nat → Int64} {F : Nat → Nat → Int32} {G : Nat → Int64} {X : Nat → va_E}
theorem crowd_x {d : Nat} : cV (rn (d + 2)) 11 [.ref 4, .ref 8] (hp I J F G X) = some (hp (upd I 4 (I 8)) J (upF (upF (upF F 5 (va_cpy (F 9) (F 5) 0 0 7)) 6 (va_cpy (F 10) (F 6) 0 0 7)) 7 (va_cpy (F 11) (F 7) 0 0 7)) G X) := by
  have cp : ∀ (K : mH) (a b : Nat) (f f' : Nat → Int32), K[a]? = some (ar 7 f) → K[b]? = some (ar 7 f') → cpI K a 0 b 0 7 = some (K.set b (ar 7 (va_cpy f f' 0 0 7))) := fun K a b f f' h1 h2 => cpI_at (n := 7) (by decide) h1 h2
  have s9 : ∀ (I : Nat → Int32) (F : Nat → Nat → Int32) (g : Nat → Int32), (hp I J F G X).set 5 (ar 7 g) = hp I J (upF F 5 g) G X := fun I F g => (hp_sa (by decide)).trans rfl
  have s10 : ∀ (I : Nat → Int32) (F : Nat → Nat → Int32) (g : Nat → Int32), (hp I J F G X).set 6 (ar 7 g) = hp I J (upF F 6 g) G X := fun I F g => (hp_sa (by decide)).trans rfl
  have s11 : ∀ (I : Nat → Int32) (F : Nat → Nat → Int32) (g : Nat → Int32), (hp I J F G X).set 7 (ar 7 g) = hp I J (upF F 7 g) G X := fun I F g => (hp_sa (by decide)).trans rfl
  refine cVo ?_
  rw [rX1_setAs, xX1_setAs_0, x_rn, Option.bind_some, x_pcn, Option.bind_some, x_r0, Option.bind_some, x_c0, Option.bind_some, nat0, Option.bind_some, cp _ _ _ _ _ k9 k5, Option.bind_some, s9, x_r1, Option.bind_some, x_c1, Option.bind_some, nat0, Option.bind_some, cp _ _ _ _ _ k10 k6, Option.bind_some, s10, x_r2, Option.bind_some, x_c2, Option.bind_some, nat0, Option.bind_some, cp _ _ _ _ _ k11 k7, Option.bind_some, s11]
  simp (disch := decide) only [upF_ne]
theorem linek_x {d : Nat} {v1 v2 : Int32} : ∀ (m k : Nat) (I : Nat → Int32), 3 - k = m → k ≤ 3 → (∀ j, j < k → I (162 + 2 * j) = -1) → ∃ I', ex cdX9_line (rn d) 68 [.ref 1, .int v1, .int v2, .int (nI k)] [] (hp I J F G X) = some (some (.int (I 4)), hp I' J F G X) ∧ (∀ j, j < 3 → I' (162 + 2 * j) = -1) ∧ ∀ j, (j < 162 ∨ 166 < j) → I' j = I j := by
  intro m
  induction m with
  | zero =>
    intro k I h1 h2 h3
    have : k = 3 := by omega
    subst this
    exact ⟨I, by rw [xX9_line_68, if_pos (by decide), x_f2, Option.bind_some, x_cn, Option.bind_some], h3, fun _ _ => rfl⟩
  | succ m ih =>
    intro k I h1 h2 h3
    have hk : k < 3 := by omega
    obtain ⟨I', g1, g2, g3⟩ := ih (k + 1) (upd I (162 + 2 * k) (-1)) (by omega) (by omega) (fun j hj => by
      by_cases e : j = k
      · subst e; rw [upd_eq]
      · rw [upd_ne (by omega)]; exact h3 j (by omega))
    refine ⟨I', ?_, g2, fun j hj => by rw [g3 j hj, upd_ne (by omega)]⟩
    rw [upd_ne (show 4 ≠ 162 + 2 * k by omega)] at g1
    rw [xX9_line_68, if_neg (show ¬ (3 : Int32) ≤ nI k from nI_ge (b := 3) hk (by decide)), x_f7, Option.bind_some, x_kepR hk, Option.bind_some, x_keppN hk, Option.bind_some, nI_1, g1]
-- the reference's
theorem lz_y {d m0 : Nat} {v1 : Int32} (h168 : I 168 = nI m0) : ∀ (m k : Nat) (F : Nat → Nat → Int32), 985 - k = m → k ≤ 985 → (∀ j, j < k → F 169 j = 0) → ∃ F', ex cdX10_line (rn d) 47 [.ref 168, .int v1, .int (nI k), .null] [] (hp I J F G X) = ex cdX10_line (rn d) 79 [.ref 168, .int v1, .int 0, .null] [] (hp I J F' G X) ∧ (∀ j, j < 985 → F' 169 j = if j = 2 then nI m0 else 0) ∧ (∀ j, 985 ≤ j → F' 169 j = F 169 j) ∧ ∀ j, j ≠ 169 → F' j = F j := by
  intro m
  induction m with
  | zero =>
    intro k F h1 h2 h3
    have : k = 985 := by omega
    subst this
    refine ⟨upF F 169 (upd (F 169) 2 (nI m0)), ?_, fun j hj => ?_, fun j hj => ?_, fun j hj => upF_ne hj⟩
    · have s2 : sI (hp I J F G X) 169 2 (nI m0) = some (hp I J (upF F 169 (upd (F 169) 2 (nI m0))) G X) := y_s169 (k := 2) (by decide) _
      rw [xX10_line_47, if_pos (show (985 : Int32) ≤ nI 985 from by decide), y_f0, Option.bind_some, y_ps, Option.bind_some, h168, s2, Option.bind_some]
    · rw [upF_eq]
      by_cases e : j = 2
      · subst e; rw [upd_eq, if_pos rfl]
      · rw [upd_ne e, if_neg e]; exact h3 j hj
    · rw [upF_eq, upd_ne (by omega)]
  | succ m ih =>
    intro k F h1 h2 h3
    obtain ⟨F', g1, g2, g3, g4⟩ := ih (k + 1) (upF F 169 (upd (F 169) k 0)) (by omega) (by omega) (fun j hj => by
      rw [upF_eq]
      by_cases e : j = k
      · subst e; rw [upd_eq]
      · rw [upd_ne e]; exact h3 j (by omega))
    refine ⟨F', ?_, g2, fun j hj => by rw [g3 j hj, upF_eq, upd_ne (by omega)], fun j hj => by rw [g4 j hj, upF_ne hj]⟩
    rw [xX10_line_47, if_neg (show ¬ (985 : Int32) ≤ nI k from nI_ge (b := 985) (by omega) (by decide)), y_f0, Option.bind_some, y_s169 (by omega), Option.bind_some, nI_1, g1]
def lnV (F : Nat → Nat → Int32) (m0 : Nat) (F' : Nat → Nat → Int32) (i : Nat) : Prop := (i < m0 → F' 170 i = F 178 (3 * i) ∧ F' 171 i = F 178 (3 * i + 1) ∧ F' 172 i = F 178 (3 * i + 2) ∧ F' 169 (3 + i) = nI i) ∧ F' 169 (17 + i) = -9
theorem lp_y {d m0 : Nat} {v1 : Int32} {F0 : Nat → Nat → Int32} (hm : m0 ≤ 7) (h168 : I 168 = nI m0) : ∀ (m k : Nat) (F : Nat → Nat → Int32) (v3 : Value), 7 - k = m → k ≤ 7 → (∀ j, j < k → lnV F0 m0 F j) → (∀ j, j ≠ 169 ∧ (j < 170 ∨ 172 < j) → F j = F0 j) → (∀ j, (j < 3 ∨ 10 ≤ j) → (j < 17 ∨ 24 ≤ j) → F 169 j = F0 169 j) → ∃ F' v3', ex cdX10_line (rn d) 79 [.ref 168, .int v1, .int (nI k), v3] [] (hp I J F G X) = ex cdX10_line (rn d) 205 [.ref 168, .int v1, .int 1, v3'] [] (hp I J F' G X) ∧ (∀ j, j < 7 → lnV F0 m0 F' j) ∧ (∀ j, j ≠ 169 ∧ (j < 170 ∨ 172 < j) → F' j = F0 j) ∧ ∀ j, (j < 3 ∨ 10 ≤ j) → (j < 17 ∨ 24 ≤ j) → F' 169 j = F0 169 j := by
  intro m
  induction m with
  | zero =>
    intro k F v3 h1 h2 h3 h4 h5
    have : k = 7 := by omega
    subst this
    exact ⟨F, v3, by rw [xX10_line_79, if_pos (by decide)], h3, h4, h5⟩
  | succ m ih =>
    intro k F v3 h1 h2 h3 h4 h5
    have hk : k < 7 := by omega
    have key : ∀ (x y z w v : Int32) (F1 : Nat → Nat → Int32), F1 = upF (upF (upF (upF (upF F 170 (upd (F 170) k x)) 171 (upd (F 171) k y)) 172 (upd (F 172) k z)) 169 (upd (F 169) (3 + k) w)) 169 (upd (upd (F 169) (3 + k) w) (17 + k) (-9)) → (k < m0 → x = F0 178 (3 * k) ∧ y = F0 178 (3 * k + 1) ∧ z = F0 178 (3 * k + 2) ∧ w = nI k) → ∃ F' v3', ex cdX10_line (rn d) 79 [.ref 168, .int v1, .int (nI (k + 1)), .int v] [] (hp I J F1 G X) = ex cdX10_line (rn d) 205 [.ref 168, .int v1, .int 1, v3'] [] (hp I J F' G X) ∧ (∀ j, j < 7 → lnV F0 m0 F' j) ∧ (∀ j, j ≠ 169 ∧ (j < 170 ∨ 172 < j) → F' j = F0 j) ∧ ∀ j, (j < 3 ∨ 10 ≤ j) → (j < 17 ∨ 24 ≤ j) → F' 169 j = F0 169 j := by
      intro x y z w v F1 hF1 hxyz
      subst hF1
      refine ih (k + 1) _ (.int v) (by omega) (by omega) (fun j hj => ?_) (fun j hj => ?_) (fun j a1 a2 => ?_)
      · unfold lnV
        simp (disch := decide) only [upF_ne, upF_eq]
        by_cases e : j = k
        · subst e
          rw [upd_eq, upd_eq, upd_eq, upd_ne (show 3 + j ≠ 17 + j by omega), upd_eq, upd_eq]
          exact ⟨hxyz, rfl⟩
        · have := h3 j (by omega)
          unfold lnV at this
          rw [upd_ne e, upd_ne e, upd_ne e, upd_ne (by omega), upd_ne (by omega), upd_ne (by omega), upd_ne (by omega)]
          exact this
      · rw [upF_ne hj.1, upF_ne hj.1, upF_ne (by omega), upF_ne (by omega), upF_ne (by omega), h4 j hj]
      · rw [upF_eq, upd_ne (by omega), upd_ne (by omega), h5 j a1 a2]
    rw [xX10_line_79, if_neg (show ¬ (7 : Int32) ≤ nI k from nI_ge (b := 7) hk (by decide)), y_ps, Option.bind_some, h168]
    have f178 : F 178 = F0 178 := h4 178 (by omega)
    by_cases e : k < m0
    · rw [if_neg (nI_ge e (by omega)), xX10_line_98, y_f2, Option.bind_some, if_neg one_ne, y_f17, Option.bind_some, c3m, y_g178 (by omega), Option.bind_some, xX10_line_120, y_s170 hk, Option.bind_some, y_f3, Option.bind_some, if_neg one_ne, y_f17, Option.bind_some, c3m, p1, y_g178 (by omega), Option.bind_some, xX10_line_144, y_s171 hk, Option.bind_some, y_f4, Option.bind_some, if_neg one_ne, y_f17, Option.bind_some, c3m, p2, y_g178 (by omega), Option.bind_some, xX10_line_168, y_s172 hk, Option.bind_some, y_f0, Option.bind_some, if_neg one_ne, xX10_line_185, c3', y_s169 (by omega), Option.bind_some, y_f0, Option.bind_some, c17, y_s169 (by omega), Option.bind_some, nI_1]
      refine key (F 178 (3 * k)) (F 178 (3 * k + 1)) (F 178 (3 * k + 2)) (nI k) 1 _ ?_ (fun _ => by rw [f178]; exact ⟨rfl, rfl, rfl, rfl⟩)
      simp (disch := decide) only [upF_ne, upF_eq]
    · rw [if_pos (nI_le (by omega) (by omega)), xX10_line_98, y_f2, Option.bind_some, if_pos rfl, xX10_line_120, y_s170 hk, Option.bind_some, y_f3, Option.bind_some, if_pos rfl, xX10_line_144, y_s171 hk, Option.bind_some, y_f4, Option.bind_some, if_pos rfl, xX10_line_168, y_s172 hk, Option.bind_some, y_f0, Option.bind_some, if_pos rfl, xX10_line_185, c3', y_s169 (by omega), Option.bind_some, y_f0, Option.bind_some, c17, y_s169 (by omega), Option.bind_some, nI_1]
      refine key 0 0 0 0 0 _ ?_ (fun z => absurd z e)
      simp (disch := decide) only [upF_ne, upF_eq]
theorem lk_y {d : Nat} {v1 : Int32} {v3 : Value} : ∀ (m k : Nat) (F : Nat → Nat → Int32), 4 - k = m → 1 ≤ k → k ≤ 4 → (∀ j, 1 ≤ j → j < k → F 169 (985 * j) = -1) → ∃ F', ex cdX10_line (rn d) 205 [.ref 168, .int v1, .int (nI k), v3] [] (hp I J F G X) = some (some (.int (I 168)), hp I J F' G X) ∧ (∀ j, 1 ≤ j → j < 4 → F' 169 (985 * j) = -1) ∧ (∀ j, j < 985 → F' 169 j = F 169 j) ∧ ∀ j, j ≠ 169 → F' j = F j := by
  intro m
  induction m with
  | zero =>
    intro k F h1 h0 h2 h3
    have : k = 4 := by omega
    subst this
    exact ⟨F, by rw [xX10_line_205, if_pos (by decide), y_ps, Option.bind_some], h3, fun _ _ => rfl, fun _ _ => rfl⟩
  | succ m ih =>
    intro k F h1 h0 h2 h3
    obtain ⟨F', g1, g2, g3, g4⟩ := ih (k + 1) (upF F 169 (upd (F 169) (985 * k) (-1))) (by omega) (by omega) (by omega) (fun j j1 j2 => by
      rw [upF_eq]
      by_cases e : j = k
      · subst e; rw [upd_eq]
      · rw [upd_ne (by omega)]; exact h3 j j1 (by omega))
    refine ⟨F', ?_, g2, fun j hj => by rw [g3 j hj, upF_eq, upd_ne (by omega)], fun j hj => by rw [g4 j hj, upF_ne hj]⟩
    rw [xX10_line_205, if_neg (show ¬ (4 : Int32) ≤ nI k from nI_ge (b := 4) (by omega) (by decide)), y_f0, Option.bind_some, n985m, show nI (985 * k) + 0 = nI (985 * k) from add0 _, y_s169 (by omega), Option.bind_some, nI_1, g1]
end LI
