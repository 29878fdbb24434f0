/-! the reference: the pushers -/
theorem plc_mid {A B : List Nat} {x : Nat} (hx : x ∉ A) : plc (A ++ x :: B) x = some A.length := by
  unfold plc
  rw [List.findIdx?_append]
  have h1 : A.findIdx? (fun y => y == x) = none := by
    rw [List.findIdx?_eq_none_iff]
    intro y hy
    simp only [beq_eq_false_iff_ne, ne_eq]
    rintro rfl
    exact hx hy
  rw [h1, List.findIdx?_cons]
  simp
section RP
variable {h : mH} {kf pf row st : Nat → Int32} {b np nt : Nat} {kd pt : Nat → Nat} {L : List Nat} {wt : Nat → Nat} {wn : Nat → Int32} {gu : Int32}
/-- one goes ahead of the one just ahead, if that one is asleep -/
theorem r_ahead {d : Nat} (hd : 4 ≤ d) (hm : Mat h kf pf) (hn : np ≤ 7) (hk : kOK kf kd np) (ht : nt < 1000) (hb : b + 24 < 3965) {P R : List Nat} {x : Nat} (hL : LineAt row b (P.reverse ++ x :: R, wt, wn, nt, gu)) (hl : (P.reverse ++ x :: R).length ≤ 7) (hbd : ∀ y ∈ P.reverse ++ x :: R, y < np) (hx : x ∉ P) :
    ∃ row', cI (rn d) 179 [.ref 168, .int (nI b), .int (nI x)] (putM h row st) = some (bI (match P with | [] => false | y :: _ => asl kd nt y), putM h row' st) ∧ LineAt row' b ((match P with | [] => [x] ++ R | y :: P' => if asl kd nt y = true then P'.reverse ++ x :: y :: R else P'.reverse ++ y :: x :: R), wt, wn, nt, gu) ∧ RFr row row' b := by
  obtain ⟨d, rfl⟩ := d1 (show 1 ≤ d by omega)
  have hxn : x < np := hbd x (by simp)
  have hpl := r_place (d := d) (st := st) (x := x) (by omega) hm hb hL hl (fun y hy => Nat.lt_of_lt_of_le (hbd y hy) hn) (by omega)
  rw [plc_mid (by simpa using hx), List.length_reverse, oI_some] at hpl
  unfold cI
  rw [rX10_goesAhead, xX10_goesAhead_0, if_pos (m_is hm), hpl, Option.bind_some]
  cases P with
  | nil =>
    refine ⟨row, ?_, by simpa using hL, RFr.rf _ _⟩
    rw [if_pos (show nI ([] : List Nat).length ≤ 0 by decide), xX10_goesAhead_27, if_pos rfl, if_pos (by decide)]
    rfl
  | cons y P' =>
    have hl' : P'.length + 1 + R.length < 7 := by simp at hl; omega
    have e1 : (y :: P').reverse ++ x :: R = P'.reverse ++ y :: x :: R := by simp
    rw [e1] at hL hl hbd
    have gy : (P'.reverse ++ y :: x :: R)[P'.length]? = some y := by
      have := app2_0 P'.reverse R y x
      rwa [List.length_reverse] at this
    have hs := r_sleepsAt (d := d) (st := st) (by omega) hm hn hk ht hb hL hl hbd gy
    rw [if_neg (by show ¬ nI (P'.length + 1) ≤ 0; exact nI_nle (by omega) (by omega)), if_pos (m_is hm), show nI (y :: P').length - 1 = nI P'.length from nI_pred _, hs, Option.bind_some]
    cases hay : asl kd nt y with
    | false =>
      refine ⟨row, ?_, by simpa [hay] using hL, RFr.rf _ _⟩
      rw [if_pos (by rfl), xX10_goesAhead_27, if_pos rfl, if_pos (by decide)]
      simp [hay, bI]
    | true =>
      obtain ⟨row', e2, e3, e4⟩ := r_swap (d := d) (st := st) (by omega) hm hb hL hl
      refine ⟨row', ?_, by simpa [hay] using e3, e4⟩
      rw [List.length_reverse] at e2
      rw [if_neg (by show ¬ (1 : Int32) = 0; decide), xX10_goesAhead_27, if_neg (by decide), if_pos (m_is hm), show nI (y :: P').length - 1 = nI P'.length from nI_pred _, e2, Option.bind_some, if_pos (by decide)]
      simp [hay, bI]
theorem r_stood_loop {d : Nat} (hm : Mat h kf pf) (hb : b + 24 < 3965) (hL : LineAt row b (L, wt, wn, nt, gu)) (hl : L.length ≤ 7) : ∀ (m k : Nat) (st : Nat → Int32), L.length - k = m → k ≤ L.length → (∀ j x, j < k → L[j]? = some x → st j = nI x) →
    ∃ st', ex cdX10_pushes (rn d) 11 [.ref 168, .int (nI b), .int (nI L.length), .int (nI k), .null, .null] [] (putM h row st) = ex cdX10_pushes (rn d) 40 [.ref 168, .int (nI b), .int (nI L.length), .int 0, .null, .null] [] (putM h row st') ∧ oL st' L := by
  intro m
  induction m with
  | zero =>
    intro k st h1 h2 h3
    have : k = L.length := by omega
    subst this
    refine ⟨st, ?_, fun j x hj => h3 j x (List.getElem?_eq_some_iff.mp hj).1 hj⟩
    rw [xX10_pushes_11, if_pos (nI_le (Nat.le_refl _) (by omega))]
  | succ m ih =>
    intro k st h1 h2 h3
    have hkl : k < L.length := by omega
    have hg : L[k]? = some L[k] := List.getElem?_eq_getElem hkl
    rw [xX10_pushes_11, if_neg (nI_ge hkl (by omega)), m_r19 hm, Option.bind_some, m_r0 hm, Option.bind_some, p3, nI_add, m_row hm (by omega), Option.bind_some, hL.2.2.1 k _ hg, m_sst hm (by omega), Option.bind_some, nI_1]
    exact ih (k + 1) _ (by omega) (by omega) (fun j x hj hx => by
      by_cases z : j = k
      · subst z
        rw [hg] at hx
        cases hx
        exact upd_eq _ _ _
      · rw [upd_ne z]
        exact h3 j x (by omega) hx)
theorem isk1 (kd : Nat → Nat) (x : Nat) : isk kd x 1 = (kd x == 1 || kd x == 4) := by
  unfold isk
  by_cases a : kd x = 1
  · simp [a]
  · by_cases b : kd x = 4
    · simp [b]
    · simp [a, b]
theorem isk4 (kd : Nat → Nat) (x : Nat) : isk kd x 4 = decide (kd x = 4) := by
  unfold isk
  by_cases h : kd x = 4 <;> simp [h]
theorem r_push_loop {d : Nat} (hd : 5 ≤ d) (hm : Mat h kf pf) (hn : np ≤ 7) (hk : kOK kf kd np) (ht : nt < 1000) (hb : b + 24 < 3965) {st : Nat → Int32} : ∀ (R P : List Nat) (row : Nat → Int32) (v4 v5 : Value), P.length + R.length ≤ 7 → (∀ y ∈ P, y < np) → (∀ y ∈ R, y < np) → (P.reverse ++ R).Nodup → (∀ j x, R[j]? = some x → st (P.length + j) = nI x) → LineAt row b (P.reverse ++ R, wt, wn, nt, gu) →
    ∃ row', ex cdX10_pushes (rn d) 40 [.ref 168, .int (nI b), .int (nI (P.length + R.length)), .int (nI P.length), v4, v5] [] (putM h row st) = some (none, putM h row' st) ∧ LineAt row' b ((R.foldl (pushIn kd nt) P).reverse, wt, wn, nt, gu) ∧ RFr row row' b := by
  intro R
  induction R with
  | nil =>
    intro P row v4 v5 hl h1 h2 h3 h4 hL
    refine ⟨row, ?_, by simpa using hL, RFr.rf _ _⟩
    rw [xX10_pushes_40, if_pos (nI_le (by simp) (by simp at hl ⊢; omega))]
  | cons x R ih =>
    intro P row v4 v5 hl h1 h2 h3 h4 hL
    simp only [List.length_cons] at hl ⊢
    have hx : x < np := h2 x List.mem_cons_self
    have hR : ∀ y ∈ R, y < np := fun y hy => h2 y (List.mem_cons_of_mem _ hy)
    have hxP : x ∉ P := by
      intro hz
      have := List.nodup_append.mp h3
      exact this.2.2 x (by simpa using hz) x List.mem_cons_self rfl
    have hsx : st P.length = nI x := by have := h4 0 x rfl; rwa [Nat.add_zero] at this
    have hst2 : ∀ j y, R[j]? = some y → st (P.length + 1 + j) = nI y := fun j y hj => by
      have := h4 (j + 1) y (by rw [List.getElem?_cons_succ]; exact hj)
      rwa [show P.length + (j + 1) = P.length + 1 + j by omega] at this
    obtain ⟨k1, k2⟩ := hk x hx
    have hlM : (P.reverse ++ x :: R).length ≤ 7 := by simp; omega
    have hbM : ∀ y ∈ P.reverse ++ x :: R, y < np := fun y hy => by
      rcases List.mem_append.mp hy with hy | hy
      · exact h1 y (List.mem_reverse.mp hy)
      · exact h2 y hy
    -- what comes next
    have next : ∀ (P2 : List Nat) (row2 : Nat → Int32) (v w : Value), P2.Perm (x :: P) → LineAt row2 b (P2.reverse ++ R, wt, wn, nt, gu) → RFr row row2 b → ∃ row', ex cdX10_pushes (rn d) 40 [.ref 168, .int (nI b), .int (nI (P.length + (R.length + 1))), .int (nI P.length + 1), v, w] [] (putM h row2 st) = some (none, putM h row' st) ∧ LineAt row' b ((R.foldl (pushIn kd nt) P2).reverse, wt, wn, nt, gu) ∧ RFr row row' b := by
      intro P2 row2 v w hp hL2 hf
      have hlen : P2.length = P.length + 1 := by rw [hp.length_eq]; rfl
      obtain ⟨row', g1, g2, g3⟩ := ih P2 row2 v w (by omega) (fun y hy => by
          have := hp.mem_iff.mp hy
          rcases List.mem_cons.mp this with rfl | h9
          · exact hx
          · exact h1 y h9) hR (by
          have e : (P2.reverse ++ R).Perm (P.reverse ++ x :: R) := by
            refine ((List.reverse_perm P2).append_right R).trans ?_
            refine (hp.append_right R).trans ?_
            refine List.Perm.trans ?_ (List.Perm.symm List.perm_middle)
            exact ((List.reverse_perm P).symm.append_right R).cons x
          exact e.nodup_iff.mpr h3) (fun j y hj => by rw [hlen]; exact hst2 j y hj) hL2
      refine ⟨row', ?_, g2, hf.tr g3⟩
      rw [nI_1, show P.length + (R.length + 1) = P2.length + R.length by omega, ← hlen]
      exact g1
    rw [xX10_pushes_40, if_neg (nI_ge (by omega) (by omega)), m_r2 hm, Option.bind_some, m_r19 hm, Option.bind_some, m_st hm (by omega), Option.bind_some, hsx, m_kd hm (by omega), Option.bind_some, k1, r_pusher (by omega) _ k2, Option.bind_some, List.foldl_cons, ← isk1]
    have pperm := pushIn_perm kd nt P x
    cases hp : isk kd x 1 with
    | false =>
      rw [if_pos (by rfl), xX10_pushes_85, if_pos rfl]
      have e9 : pushIn kd nt P x = x :: P := by
        unfold pushIn
        cases P with
        | nil => rfl
        | cons y P' => simp [hp]
      rw [e9]
      exact next (x :: P) row _ _ (List.Perm.refl _) (by simpa using hL) (RFr.rf _ _)
    | true =>
      obtain ⟨row1, e1, e2, e3⟩ := r_ahead (d := d) (st := st) (by omega) hm hn hk ht hb hL hlM hbM hxP
      rw [if_neg (show ¬ bI true = 0 by decide), m_r19 hm, Option.bind_some, m_st hm (by omega), Option.bind_some, hsx, if_pos (m_is hm), e1, Option.bind_some]
      cases P with
      | nil =>
        rw [if_pos (by rfl), xX10_pushes_85, if_pos rfl]
        exact next [x] row1 _ _ (List.Perm.refl _) (by simpa using e2) e3
      | cons y P' =>
        cases hay : asl kd nt y with
        | false =>
          have e9 : pushIn kd nt (y :: P') x = x :: y :: P' := by simp [pushIn, hay]
          dsimp only at e2 ⊢
          rw [hay] at e2
          rw [if_pos (show bI (asl kd nt y) = 0 by rw [hay]; rfl), xX10_pushes_85, if_pos rfl, e9]
          exact next (x :: y :: P') row1 _ _ (List.Perm.refl _) (by simpa using e2) e3
        | true =>
          dsimp only at e2 ⊢
          rw [hay] at e2
          rw [if_pos rfl] at e2
          rw [if_neg (show ¬ bI (asl kd nt y) = 0 by rw [hay]; decide), xX10_pushes_85, if_neg (show ¬ (1 : Int32) = 0 by decide)]
          have e4 : (nI (kd x) = 4) ↔ kd x = 4 := nI_inj (b := 4) (by omega) (by decide)
          by_cases h44 : kd x = 4
          · have hr4 : isk kd x 4 = true := by rw [isk4]; simp [h44]
            have hnd1 : x ∉ P' := fun z => hxP (List.mem_cons_of_mem _ z)
            obtain ⟨row2, f1, f2, f3⟩ := r_ahead (d := d) (st := st) (P := P') (R := y :: R) (by omega) hm hn hk ht hb e2 (by simp at hlM ⊢; omega) (fun a ha => hbM a (by grind)) hnd1
            rw [if_pos (e4.mpr h44), m_r19 hm, Option.bind_some, m_st hm (by simp at hl ⊢; omega), Option.bind_some, hsx, if_pos (m_is hm), f1, Option.bind_some]
            cases P' with
            | nil =>
              have e9 : pushIn kd nt [y] x = [y, x] := by simp [pushIn, hp, hay, hr4]
              rw [e9]
              exact next [y, x] row2 _ _ (List.Perm.swap x y []) (by simpa using f2) (e3.tr f3)
            | cons z P'' =>
              cases haz : asl kd nt z with
              | false =>
                have e9 : pushIn kd nt (y :: z :: P'') x = y :: x :: z :: P'' := by simp [pushIn, hp, hay, hr4, haz]
                rw [e9]
                dsimp only at f2
                rw [haz, if_neg (by decide)] at f2
                exact next _ row2 _ _ (List.Perm.swap x y _) (by simpa using f2) (e3.tr f3)
              | true =>
                have e9 : pushIn kd nt (y :: z :: P'') x = y :: z :: x :: P'' := by simp [pushIn, hp, hay, hr4, haz]
                rw [e9] at pperm ⊢
                dsimp only at f2
                rw [haz, if_pos rfl] at f2
                exact next _ row2 _ _ pperm (by simpa using f2) (e3.tr f3)
          · have hr4 : isk kd x 4 = false := by rw [isk4]; simp [h44]
            have e9 : pushIn kd nt (y :: P') x = y :: x :: P' := by simp [pushIn, hp, hay, hr4]
            rw [if_neg (fun z => h44 (e4.mp z)), e9]
            exact next _ row1 _ _ (List.Perm.swap x y _) (by simpa using e2) e3
theorem r_pushes {d : Nat} (hd : 6 ≤ d) (hm : Mat h kf pf) (hn : np ≤ 7) (hk : kOK kf kd np) (ht : nt < 1000) (hb : b + 24 < 3965) (hL : LineAt row b (L, wt, wn, nt, gu)) (hnd : L.Nodup) (hbd : ∀ y ∈ L, y < np) (st : Nat → Int32) :
    ∃ row' st', cV (rn d) 180 [.ref 168, .int (nI b)] (putM h row st) = some (putM h row' st') ∧ LineAt row' b (pushA kd nt L, wt, wn, nt, gu) ∧ RFr row row' b := by
  obtain ⟨d, rfl⟩ := d1 (show 1 ≤ d by omega)
  have hl := nodup_len hnd hbd
  obtain ⟨st', e1, e2⟩ := r_stood_loop (d := d) hm hb hL (by omega) (L.length - 0) 0 st rfl (Nat.zero_le _) (fun j x hj => by omega)
  obtain ⟨row', e3, e4, e5⟩ := r_push_loop (d := d) (st := st') (by omega) hm hn hk ht hb L [] row .null .null (by simp; omega) (by simp) hbd (by simpa using hnd) (fun j x hj => by simpa using e2 j x hj) (by simpa using hL)
  refine ⟨row', st', ?_, e4, e5⟩
  unfold cV
  rw [rX10_pushes, xX10_pushes_0, m_r0 hm, Option.bind_some, p2, m_row hm (by omega), Option.bind_some, hL.2.1]
  rw [nI_0] at e1
  simp only [List.length_nil, Nat.zero_add] at e3
  rw [nI_0] at e3
  show (match ex cdX10_pushes (rn d) 11 [.ref 168, .int (nI b), .int (nI L.length), .int 0, .null, .null] [] (putM h row st) with
    | some (none, h') => some h'
    | _ => none) = _
  rw [e1, e3]
end RP
