/-! exchange of places; the pushers -/
theorem upd_eq (f : Nat → Int32) (k : Nat) (x : Int32) : upd f k x k = x := pk_us
theorem upd_ne {f : Nat → Int32} {k j : Nat} {x : Int32} (h : j ≠ k) : upd f k x j = f j := pk_un h
theorem app2 {A B : List Nat} {x y k z : Nat} (h : (A ++ x :: y :: B)[k]? = some z) : (k < A.length ∧ A[k]? = some z) ∨ (k = A.length ∧ z = x) ∨ (k = A.length + 1 ∧ z = y) ∨ (A.length + 2 ≤ k ∧ B[k - A.length - 2]? = some z) := by
  rcases Nat.lt_trichotomy k A.length with hk | hk | hk
  · rw [List.getElem?_append_left hk] at h
    exact Or.inl ⟨hk, h⟩
  · subst hk
    rw [List.getElem?_append_right (Nat.le_refl _), Nat.sub_self] at h
    cases h
    exact Or.inr (Or.inl ⟨rfl, rfl⟩)
  · rw [List.getElem?_append_right (by omega)] at h
    by_cases h1 : k = A.length + 1
    · subst h1
      rw [show A.length + 1 - A.length = 1 by omega] at h
      cases h
      exact Or.inr (Or.inr (Or.inl ⟨rfl, rfl⟩))
    · rw [show k - A.length = (k - A.length - 2) + 1 + 1 by omega, List.getElem?_cons_succ, List.getElem?_cons_succ] at h
      exact Or.inr (Or.inr (Or.inr ⟨by omega, h⟩))
theorem app2_0 (A B : List Nat) (x y : Nat) : (A ++ x :: y :: B)[A.length]? = some x := by
  rw [List.getElem?_append_right (Nat.le_refl _), Nat.sub_self]; rfl
theorem app2_1 (A B : List Nat) (x y : Nat) : (A ++ x :: y :: B)[A.length + 1]? = some y := by
  rw [List.getElem?_append_right (by omega), show A.length + 1 - A.length = 1 by omega]; rfl
theorem oL_swap {o : Nat → Int32} {A B : List Nat} {x y : Nat} (ho : oL o (A ++ y :: x :: B)) : oL (upd (upd o (A.length + 1) (o A.length)) A.length (o (A.length + 1))) (A ++ x :: y :: B) := by
  have hy := ho _ _ (app2_0 A B y x)
  have hx := ho _ _ (app2_1 A B y x)
  intro k z hk
  rcases app2 hk with ⟨h1, h2⟩ | ⟨rfl, rfl⟩ | ⟨rfl, rfl⟩ | ⟨h1, h2⟩
  · rw [upd_ne (by omega), upd_ne (by omega)]
    exact ho k z (by rw [List.getElem?_append_left h1]; exact h2)
  · rw [upd_eq, hx]
  · rw [upd_ne (by omega), upd_eq, hy]
  · rw [upd_ne (by omega), upd_ne (by omega)]
    refine ho k z ?_
    rw [List.getElem?_append_right (by omega), show k - A.length = (k - A.length - 2) + 1 + 1 by omega, List.getElem?_cons_succ, List.getElem?_cons_succ]
    exact h2
section QP
variable {h : mH} {q c : Nat} {o w g kf pf rf : Nat → Int32} {u : Int32} {np nt : Nat} {kd : Nat → Nat}
theorem swap_s {d : Nat} (hd : 1 ≤ d) (hq : q + 3 < h.length) {n : Int32} {a b m : Nat} (ha : a < m) (hb : b < m) (hm : m ≤ 7) : cV (rn d) 46 [.ref q, .int (nI a), .int (nI b)] (putQ h q o w g (nI m) n u) = some (putQ h q (upd (upd o a (o b)) b (o a)) w g (nI m) n u) := by
  obtain ⟨d, rfl⟩ := d1 hd
  unfold cV
  rw [rX5_swapPlaces, xX5_swapPlaces_0, if_neg (nI_pos (by omega)), q_s hq, Option.bind_some, if_neg (nI_ge ha (by omega)), if_neg (nI_pos (by omega)), Option.bind_some, if_pos (nI_lt hb (by omega)), q_r0 hq, Option.bind_some, q_ao hq (by omega), Option.bind_some, Option.bind_some, Option.bind_some, q_ao hq (by omega), Option.bind_some, q_so hq (by omega), Option.bind_some, q_r0 hq, Option.bind_some, q_so hq (by omega), Option.bind_some]
theorem swap_neg1 {d : Nat} (hd : 1 ≤ d) (H : mH) {a b : Int32} (ha : a < 0) : cV (rn d) 46 [.ref q, .int a, .int b] H = some H := by
  obtain ⟨d, rfl⟩ := d1 hd
  unfold cV
  rw [rX5_swapPlaces, xX5_swapPlaces_0, if_pos ha]
/-- x behind those who stand, the last of them first: it pushes -/
def pushIn (kd : Nat → Nat) (nt : Nat) (P : List Nat) (x : Nat) : List Nat := match P with
  | [] => [x]
  | y :: P' => if (isk kd x 1 && asl kd nt y) = true then (if isk kd x 4 = true then (match P' with
      | [] => [y, x]
      | z :: P'' => if asl kd nt z = true then y :: z :: x :: P'' else y :: x :: z :: P'') else y :: x :: P') else x :: y :: P'
def pushA (kd : Nat → Nat) (nt : Nat) (L : List Nat) : List Nat := (L.foldl (pushIn kd nt) []).reverse
theorem rev_at (y : Nat) (P R : List Nat) : ((y :: P).reverse ++ R) = P.reverse ++ y :: R := by simp
theorem push_loop {d : Nat} (hd : 5 ≤ d) (hq : q + 3 < h.length) (ha : apart4 c q) (hc : Cat h c kf pf rf (nI np)) (hn : np ≤ 7) (hk : kOK kf kd np) (ht : nt < 1000) : ∀ (R P : List Nat) (o : Nat → Int32) (v3 : Value), P ≠ [] → P.length + R.length ≤ 7 → (∀ y ∈ P, y < np) → (∀ y ∈ R, y < np) → oL o (P.reverse ++ R) →
    ∃ o', ex cdX5_pushAhead (rn d) 2 [.ref q, .ref c, .int (nI P.length), v3] [] (putQ h q o w g (nI (P.length + R.length)) (nI nt) u) = some (none, putQ h q o' w g (nI (P.length + R.length)) (nI nt) u) ∧ oL o' ((R.foldl (pushIn kd nt) P).reverse) := by
  intro R
  induction R with
  | nil =>
    intro P o v3 hP hl h1 h2 ho
    refine ⟨o, ?_, by simpa using ho⟩
    rw [xX5_pushAhead_2, q_s hq, Option.bind_some, if_pos (nI_le (by simp) (by simp at hl ⊢; omega))]
  | cons x R ih =>
    intro P o v3 hP hl h1 h2 ho
    have hx : x < np := h2 x List.mem_cons_self
    have hR : ∀ y ∈ R, y < np := fun y hy => h2 y (List.mem_cons_of_mem _ hy)
    simp only [List.length_cons] at hl ⊢
    obtain ⟨y, P', rfl⟩ : ∃ y P', P = y :: P' := by
      cases P with
      | nil => exact absurd rfl hP
      | cons y P' => exact ⟨y, P', rfl⟩
    simp only [List.length_cons] at hl ⊢
    have hy : y < np := h1 y List.mem_cons_self
    have hP' : ∀ z ∈ P', z < np := fun z hz => h1 z (List.mem_cons_of_mem _ hz)
    have e1 : (y :: P').reverse ++ x :: R = P'.reverse ++ y :: x :: R := by simp
    rw [e1] at ho
    have gx : (P'.reverse ++ y :: x :: R)[P'.length + 1]? = some x := by
      have := app2_1 P'.reverse R y x
      rwa [List.length_reverse] at this
    have gy : (P'.reverse ++ y :: x :: R)[P'.length]? = some y := by
      have := app2_0 P'.reverse R y x
      rwa [List.length_reverse] at this
    have hM : P'.length + 1 + (R.length + 1) = (P'.reverse ++ y :: x :: R).length := by simp; omega
    have hMb : ∀ z ∈ P'.reverse ++ y :: x :: R, z < np := fun z hz => by
      rcases List.mem_append.mp hz with hz | hz
      · exact hP' z (List.mem_reverse.mp hz)
      · rcases List.mem_cons.mp hz with rfl | hz
        · exact hy
        · rcases List.mem_cons.mp hz with rfl | hz
          · exact hx
          · exact hR z hz
    have hcq := fun (o : Nat → Int32) (s : Int32) => Cat_putQ (o := o) (w := w) (g := g) (s := s) (n := nI nt) (u := u) ha hc
    -- what comes next, by the list that stands
    have next : ∀ (P2 : List Nat) (o2 : Nat → Int32) (v : Value), P2 ≠ [] → P2.length = P'.length + 1 + 1 → (∀ z ∈ P2, z < np) → oL o2 (P2.reverse ++ R) → ∃ o', ex cdX5_pushAhead (rn d) 2 [.ref q, .ref c, .int (nI (P'.length + 1) + 1), v] [] (putQ h q o2 w g (nI (P'.length + 1 + (R.length + 1))) (nI nt) u) = some (none, putQ h q o' w g (nI (P'.length + 1 + (R.length + 1))) (nI nt) u) ∧ oL o' ((R.foldl (pushIn kd nt) P2).reverse) := by
      intro P2 o2 v hp hlen hb2 ho2
      obtain ⟨o', g1, g2⟩ := ih P2 o2 v hp (by omega) hb2 hR ho2
      refine ⟨o', ?_, g2⟩
      rw [nI_1, show P'.length + 1 + (R.length + 1) = P2.length + R.length by omega, ← hlen]
      exact g1
    rw [xX5_pushAhead_2, q_s hq, Option.bind_some, if_neg (nI_ge (by omega) (by omega)), q_r0 hq, Option.bind_some, q_ao hq (by omega), Option.bind_some, ho _ _ gx, if_pos (c_is (hcq _ _)), show (1 : Int32) = nI 1 from rfl, isOf_p (by omega) (hcq _ _) hn hk hx (by decide), Option.bind_some]
    rw [List.foldl_cons]
    have stay : pushIn kd nt (y :: P') x = x :: y :: P' → ∃ o', ex cdX5_pushAhead (rn d) 2 [.ref q, .ref c, .int (nI (P'.length + 1) + 1), .int (nI x)] [] (putQ h q o w g (nI (P'.length + 1 + (R.length + 1))) (nI nt) u) = some (none, putQ h q o' w g (nI (P'.length + 1 + (R.length + 1))) (nI nt) u) ∧ oL o' ((R.foldl (pushIn kd nt) (pushIn kd nt (y :: P') x)).reverse) := by
      intro e9
      rw [e9]
      exact next (x :: y :: P') o _ (by simp) (by simp) (fun z hz => by
        rcases List.mem_cons.mp hz with rfl | hz
        · exact hx
        · exact h1 z hz) (by simpa using ho)
    have hb2 : ∀ (A : List Nat), (∀ z ∈ A, z = x ∨ z = y ∨ z ∈ P') → ∀ z ∈ A, z < np := fun A hA z hz => by
      rcases hA z hz with rfl | rfl | h9
      · exact hx
      · exact hy
      · exact hP' z h9
    cases hp : isk kd x 1 with
    | false =>
      rw [if_pos (by rfl)]
      exact stay (by simp [pushIn, hp])
    | true =>
      rw [if_neg (show ¬ bI true = 0 by decide), if_pos (q_is hq)]
      rw [hM, show nI (P'.length + 1) - nI 1 = nI P'.length from nI_pred _, asleepAt_p (by omega) hq ho (by omega) (hcq _ _) hn hk hMb ht gy, Option.bind_some, ← hM]
      cases hay : asl kd nt y with
      | false =>
        rw [if_pos (by rfl)]
        exact stay (by simp [pushIn, hay])
      | true =>
        rw [if_neg (show ¬ bI true = 0 by decide), if_pos (q_is hq), swap_s (by omega) hq (show P'.length + 1 < P'.length + 1 + (R.length + 1) by omega) (by omega) (by omega), Option.bind_some, if_pos (c_is (hcq _ _)), show (4 : Int32) = nI 4 from rfl, isOf_p (by omega) (hcq _ _) hn hk hx (by decide), Option.bind_some]
        have ho1 := oL_swap (A := P'.reverse) ho
        rw [List.length_reverse] at ho1
        cases hr : isk kd x 4 with
        | false =>
          rw [if_pos (by rfl), show pushIn kd nt (y :: P') x = y :: x :: P' by simp [pushIn, hp, hay, hr]]
          exact next _ _ _ (by simp) (by simp) (hb2 _ (by grind)) (by simpa using ho1)
        | true =>
          rw [if_neg (show ¬ bI true = 0 by decide), if_pos (q_is hq)]
          cases P' with
          | nil =>
            rw [show nI (([] : List Nat).length + 1) - 2 = -1 by decide, asleepAt_neg (by omega) hq (hcq _ _) (by decide), Option.bind_some, if_pos rfl, show pushIn kd nt [y] x = [y, x] by simp [pushIn, hp, hay, hr]]
            exact next _ _ _ (by simp) (by simp) (hb2 _ (by grind)) (by simpa using ho1)
          | cons z P'' =>
            have gz : ((z :: P'').reverse ++ x :: y :: R)[P''.length]? = some z := by
              have := app2_0 P''.reverse (y :: R) z x
              rw [List.length_reverse] at this
              simpa using this
            have hM1 : (z :: P'').length + 1 + (R.length + 1) = ((z :: P'').reverse ++ x :: y :: R).length := by simp; omega
            have hMb1 : ∀ a ∈ (z :: P'').reverse ++ x :: y :: R, a < np := fun a ha9 => hMb a (by grind)
            have hz9 : z < np := hP' z List.mem_cons_self
            rw [hM1, show nI ((z :: P'').length + 1) - 2 = nI P''.length from pk_sub (a := P''.length + 1 + 1) (b := 2) (by omega), asleepAt_p (by omega) hq ho1 (by simp at hl ⊢; omega) (hcq _ _) hn hk hMb1 ht gz, Option.bind_some, ← hM1]
            cases haz : asl kd nt z with
            | false =>
              rw [if_pos (by rfl), show pushIn kd nt (y :: z :: P'') x = y :: x :: z :: P'' by simp [pushIn, hp, hay, hr, haz]]
              exact next _ _ _ (by simp) (by simp) (hb2 _ (by grind)) (by simpa using ho1)
            | true =>
              rw [if_neg (show ¬ bI true = 0 by decide), if_pos (q_is hq), swap_s (by omega) hq (show (z :: P'').length < (z :: P'').length + 1 + (R.length + 1) by omega) (show P''.length < (z :: P'').length + 1 + (R.length + 1) by simp; omega) (by simp at hl ⊢; omega), Option.bind_some, show pushIn kd nt (y :: z :: P'') x = y :: z :: x :: P'' by simp [pushIn, hp, hay, hr, haz]]
              have ho2 := oL_swap (A := P''.reverse) (y := z) (x := x) (B := y :: R) (by simpa using ho1)
              rw [List.length_reverse] at ho2
              exact next _ _ _ (by simp) (by simp) (hb2 _ (by grind)) (by simpa using ho2)
end QP
