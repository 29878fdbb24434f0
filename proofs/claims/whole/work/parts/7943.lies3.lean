/-! lies: both -/
def okp (np : Nat) (f : Nat → Int32) (u : Nat) : Prop := ∃ i j, i < np ∧ j < np ∧ i ≠ j ∧ f (2 * u) = nI i ∧ f (2 * u + 1) = nI j
section LB
variable {I : Nat → Int32} {J : Nat → Int64} {F : Nat → Nat → Int32} {G : Nat → Int64} {X : Nat → va_E} {np : Nat}
theorem two_y {d : Nat} {a b : Int32} (hn : np ≤ 7) (h168 : I 168 = nI np) : (cI (rn (d + 3)) 195 [.ref 168, .int a, .int b] (hp I J F G X) = some (1, (hp I J F G X)) ∧ ∃ i j, i < np ∧ j < np ∧ i ≠ j ∧ a = nI i ∧ b = nI j) ∨ (cI (rn (d + 3)) 195 [.ref 168, .int a, .int b] (hp I J F G X) = some (0, (hp I J F G X)) ∧ ¬ ∃ i j, i < np ∧ j < np ∧ i ≠ j ∧ a = nI i ∧ b = nI j) := by
  rcases ix a (n := np) (by omega) with ha | ⟨i, hi, rfl⟩
  · refine Or.inr ⟨?_, fun ⟨i, j, h1, h2, h3, h4, h5⟩ => ?_⟩
    · refine cIo ?_; rw [rX10_areTwo, xX10_areTwo_0, if_pos y_is, isP_yn hn ha h168, Option.bind_some, if_pos rfl]
    · rw [h4] at ha
      rcases ha with ha | ha
      · exact nI_pos (by omega) ha
      · exact nI_ge h1 (by omega) ha
  rcases ix b (n := np) (by omega) with hb | ⟨j, hj, rfl⟩
  · refine Or.inr ⟨?_, fun ⟨i', j, h1, h2, h3, h4, h5⟩ => ?_⟩
    · refine cIo ?_; rw [rX10_areTwo, xX10_areTwo_0, if_pos y_is, isP_y hn hi h168, Option.bind_some, if_neg one_ne, if_pos y_is, isP_yn hn hb h168, Option.bind_some, if_pos rfl]
    · rw [h5] at hb
      rcases hb with hb | hb
      · exact nI_pos (by omega) hb
      · exact nI_ge h2 (by omega) hb
  by_cases hij : i = j
  · subst hij
    refine Or.inr ⟨?_, fun ⟨i', j', h1, h2, h3, h4, h5⟩ => ?_⟩
    · refine cIo ?_; rw [rX10_areTwo, xX10_areTwo_0, if_pos y_is, isP_y hn hi h168, Option.bind_some, if_neg one_ne, if_pos y_is, isP_y hn hi h168, Option.bind_some, if_neg one_ne, if_pos rfl]
    · have e1 := (nI_inj (by omega) (by omega)).mp h4
      have e2 := (nI_inj (by omega) (by omega)).mp h5
      omega
  · refine Or.inl ⟨?_, i, j, hi, hj, hij, rfl, rfl⟩
    refine cIo ?_; rw [rX10_areTwo, xX10_areTwo_0, if_pos y_is, isP_y hn hi h168, Option.bind_some, if_neg one_ne, if_pos y_is, isP_y hn hj h168, Option.bind_some, if_neg one_ne, if_neg (fun z => hij ((nI_inj (by omega) (by omega)).mp z))]
theorem wip_loop {d r T : Nat} (hr : r < 6) (hT : T ≤ 8) (hn : np ≤ 7) (h4 : I 4 = nI np) (hs : I (142 + 2 * r) = nI (2 * T)) : ∀ (q t : Nat) (v3 v4 : Value), T - t = q → t ≤ T → ((∀ u, t ≤ u → u < T → okp np (F (143 + 2 * r)) u) → ex cdX9_wrongInPairs (rn (d + 1)) 31 [.ref 1, .ref (142 + 2 * r), .int (nI (2 * t)), v3, v4] [] (hp I J F G X) = some (some (.int 0), (hp I J F G X))) ∧ ((¬ ∀ u, t ≤ u → u < T → okp np (F (143 + 2 * r)) u) → ex cdX9_wrongInPairs (rn (d + 1)) 31 [.ref 1, .ref (142 + 2 * r), .int (nI (2 * t)), v3, v4] [] (hp I J F G X) = some (some (.int 3), (hp I J F G X))) := by
  intro q
  induction q with
  | zero =>
    intro t v3 v4 h1 h2
    refine ⟨fun _ => ?_, fun h => absurd (fun u u1 u2 => absurd u2 (by omega)) h⟩
    rw [xX9_wrongInPairs_31, x_rowN hr, Option.bind_some, hs, nI_1, if_pos (nI_le (by omega) (by omega))]
  | succ q ih =>
    intro t v3 v4 h1 h2
    have e2 : nI (2 * t) + 2 = nI (2 * (t + 1)) := by rw [show nI (2 * t) + 2 = nI (2 * t + 2) from nI_add _ 2]; rfl
    obtain ⟨i1, i2⟩ := ih (t + 1) (.int (F (143 + 2 * r) (2 * t))) (.int (F (143 + 2 * r) (2 * t + 1))) (by omega) (by omega)
    rw [xX9_wrongInPairs_31, x_rowN hr, Option.bind_some, hs, nI_1, if_neg (nI_ge (by omega) (by omega)), x_rowF hr, Option.bind_some, x_rowg hr (by omega), Option.bind_some, Option.bind_some, x_rowg hr (by omega), Option.bind_some, x_f2, Option.bind_some, if_pos x_ci]
    by_cases ho : okp np (F (143 + 2 * r)) t
    · obtain ⟨i, j, hi, hj, hij, e3, e4⟩ := id ho
      have hall : (∀ u, t ≤ u → u < T → okp np (F (143 + 2 * r)) u) ↔ ∀ u, t + 1 ≤ u → u < T → okp np (F (143 + 2 * r)) u := ⟨fun h u u1 u2 => h u (by omega) u2, fun h u u1 u2 => by
        by_cases e : u = t
        · subst e; exact ho
        · exact h u (by omega) u2⟩
      rw [e3, e4] at i1 i2 ⊢
      rw [has_x hn hi h4, Option.bind_some, if_neg one_ne, x_f2, Option.bind_some, if_pos x_ci, has_x hn hj h4, Option.bind_some, if_neg one_ne, if_neg (fun z => hij ((nI_inj (by omega) (by omega)).mp z)), e2, hall]
      exact ⟨i1, i2⟩
    · refine ⟨fun h => absurd (h t (Nat.le_refl _) (by omega)) ho, fun _ => ?_⟩
      rcases ix (F (143 + 2 * r) (2 * t)) (n := np) (by omega) with ha | ⟨i, hi, e3⟩
      · rw [has_xn ha h4, Option.bind_some, if_pos rfl]
      · rw [e3, has_x hn hi h4, Option.bind_some, if_neg one_ne, x_f2, Option.bind_some, if_pos x_ci]
        rcases ix (F (143 + 2 * r) (2 * t + 1)) (n := np) (by omega) with hb | ⟨j, hj, e4⟩
        · rw [has_xn hb h4, Option.bind_some, if_pos rfl]
        · rw [e4, has_x hn hj h4, Option.bind_some, if_neg one_ne]
          by_cases hij : i = j
          · rw [if_pos (by rw [hij])]
          · exact absurd ⟨i, j, hi, hj, hij, e3, e4⟩ ho
theorem lies69 {d r T : Nat} {f : Nat → Int32} (hr : r < 6) (hT : T ≤ 8) (hn : np ≤ 7) (h168 : I 168 = nI np) (hs : F 173 r = nI (2 * T)) (hf : ∀ k, k < 40 → F 174 (40 * r + k) = f k) : ∀ (q t : Nat) (b : Bool), T - t = q → t ≤ T → ((b = true ∧ ∀ u, t ≤ u → u < T → okp np f u) → ex cdX10_lies (rn (d + 3)) 69 [.ref 168, .int (nI r), .int (bI b), .int (nI (40 * r + 2 * t)), .null, .null, .null, .null] [] (hp I J F G X) = ex cdX10_lies (rn (d + 3)) 133 [.ref 168, .int (nI r), .int 1, .int 0, .null, .null, .null, .null] [] (hp I J F G X)) ∧ (¬ (b = true ∧ ∀ u, t ≤ u → u < T → okp np f u) → ex cdX10_lies (rn (d + 3)) 69 [.ref 168, .int (nI r), .int (bI b), .int (nI (40 * r + 2 * t)), .null, .null, .null, .null] [] (hp I J F G X) = (cI (rn (d + 3)) 150 [.ref 168, .int 3] (hp I J F G X)).bind fun p3 => some (some (.int p3.1), p3.2)) := by
  intro q
  induction q with
  | zero =>
    intro t b h1 h2
    have : t = T := by omega
    subst this
    rw [xX10_lies_69, y_f5, Option.bind_some, y_g173 hr, Option.bind_some, hs, c40, nI_add, if_pos (nI_le (Nat.le_refl _) (by omega))]
    cases b with
    | true => exact ⟨fun _ => by rw [if_neg (by decide)]; rfl, fun h => absurd ⟨rfl, fun u u1 u2 => absurd u2 (by omega)⟩ h⟩
    | false => exact ⟨fun h => absurd h.1 (by decide), fun _ => by rw [if_pos (by rfl), if_pos y_is]⟩
  | succ q ih =>
    intro t b h1 h2
    have e2 : nI (40 * r + 2 * t) + 2 = nI (40 * r + 2 * (t + 1)) := by rw [show nI (40 * r + 2 * t) + 2 = nI (40 * r + 2 * t + 2) from nI_add _ 2]; rfl
    rw [xX10_lies_69, y_f5, Option.bind_some, y_g173 hr, Option.bind_some, hs, c40, nI_add, if_neg (nI_ge (by omega) (by omega))]
    cases b with
    | false =>
      obtain ⟨i1, i2⟩ := ih (t + 1) false (by omega) (by omega)
      refine ⟨fun h => absurd h.1 (by decide), fun _ => ?_⟩
      rw [if_pos (by rfl), e2]
      exact i2 (fun h => absurd h.1 (by decide))
    | true =>
      rw [if_neg (by decide), y_f6, Option.bind_some, y_g174 (by omega), Option.bind_some, Option.bind_some, nI_1, y_g174 (by omega), Option.bind_some, if_pos y_is, hf (2 * t) (by omega), show 40 * r + 2 * t + 1 = 40 * r + (2 * t + 1) by omega, hf (2 * t + 1) (by omega), e2]
      rcases two_y (d := d) (I := I) (J := J) (F := F) (G := G) (X := X) (a := f (2 * t)) (b := f (2 * t + 1)) hn h168 with ⟨w1, w2⟩ | ⟨w1, w2⟩
      · obtain ⟨i1, i2⟩ := ih (t + 1) true (by omega) (by omega)
        have hall : (∀ u, t ≤ u → u < T → okp np f u) ↔ ∀ u, t + 1 ≤ u → u < T → okp np f u := ⟨fun h u u1 u2 => h u (by omega) u2, fun h u u1 u2 => by
          by_cases e : u = t
          · subst e; exact w2
          · exact h u (by omega) u2⟩
        rw [w1, Option.bind_some, if_neg one_ne, hall]
        exact ⟨i1, i2⟩
      · obtain ⟨i1, i2⟩ := ih (t + 1) false (by omega) (by omega)
        rw [w1, Option.bind_some, if_pos rfl]
        exact ⟨fun h => absurd (h.2 t (Nat.le_refl _) (by omega)) w2, fun _ => i2 (fun h => absurd h.1 (by decide))⟩
theorem lies133 {n r : Nat} (hn : n ≤ 7) (h168 : I 168 = nI n) : ∀ (q k : Nat) (o : Nat → Int32), n - k = q → k ≤ n → oL o (List.range k) → ∃ o', ex cdX10_lies (rn 59) 133 [.ref 168, .int (nI r), .int 1, .int (nI k), .null, .null, .null, .null] [] (hp I J (upF F 181 o) G X) = ex cdX10_lies (rn 59) 163 [.ref 168, .int (nI r), .int 1, .int 99, .long 0, .null, .int 1, .null] [] (hp I J (upF F 181 o') G X) ∧ oL o' (List.range n) := by
  intro q
  induction q with
  | zero =>
    intro k o h1 h2 ho
    have : k = n := by omega
    subst this
    exact ⟨o, by rw [xX10_lies_133, y_ps, Option.bind_some, h168, if_pos (nI_le (Nat.le_refl _) (by omega))], ho⟩
  | succ q ih =>
    intro k o h1 h2 ho
    obtain ⟨o', a1, a2⟩ := ih (k + 1) (upd o k (nI k)) (by omega) (by omega) (fun j x hj => by
      have hjx : j < k + 1 ∧ x = j := by
        have hh := List.getElem?_eq_some_iff.mp hj
        obtain ⟨i1, i2⟩ := hh
        rw [List.getElem_range] at i2
        rw [List.length_range] at i1
        exact ⟨i1, i2.symm⟩
      obtain ⟨j1, rfl⟩ := hjx
      by_cases e : x = k
      · subst e; rw [upd_eq]
      · rw [upd_ne e]
        exact ho x x (by rw [List.getElem?_range (by omega)]))
    refine ⟨o', ?_, a2⟩
    rw [xX10_lies_133, y_ps, Option.bind_some, h168, if_neg (nI_ge (by omega) (by omega)), y_f22, Option.bind_some, m181 (by omega), Option.bind_some, nI_1]
    exact a1
theorem remL_nil (n : Nat) : remL n [] = List.range n := by
  unfold remL
  exact List.filter_eq_self.mpr (fun a _ => by simp)
theorem add_loop {r T n : Nat} {w : Nat → Nat} (hr : r < 6) (hT : T ≤ 8) (hn : n ≤ 7) (hs : I (142 + 2 * r) = nI (2 * T)) (hw : ∀ j, j < 2 * T → F (143 + 2 * r) j = nI (w j) ∧ w j < n) {v3 : Int32} : ∀ (q t : Nat) (X : Nat → va_E), T - t = q → t ≤ T → X 131 = lieO (nI n) (-1) 0 → RT (psr w t) X → ∃ X', ex cdX9_lies (rn 59) 62 [.ref 1, .int (nI r), .ref (142 + 2 * r), .int v3, .int (nI (2 * t))] [] (hp I J F G X) = ex cdX9_lies (rn 59) 62 [.ref 1, .int (nI r), .ref (142 + 2 * r), .int v3, .int (nI (2 * T))] [] (hp I J F G X') ∧ X' 131 = lieO (nI n) (-1) 0 ∧ RT (psr w T) X' ∧ ∀ k, (k < 131 ∨ 140 ≤ k) → X' k = X k := by
  intro q
  induction q with
  | zero =>
    intro t X h1 h2 hX hTt
    have : t = T := by omega
    subst this
    exact ⟨X, rfl, hX, hTt, fun _ _ => rfl⟩
  | succ q ih =>
    intro t X h1 h2 hX hTt
    obtain ⟨w1, w2⟩ := hw (2 * t) (by omega)
    obtain ⟨w3, w4⟩ := hw (2 * t + 1) (by omega)
    obtain ⟨X1, a1, a2, a3, a4⟩ := addP_x (d := 57) (I := I) (J := J) (F := F) (G := G) hX hTt w2 w4 hn
    rw [← psr_s] at a3
    obtain ⟨X2, b1, b2, b3, b4⟩ := ih (t + 1) X1 (by omega) (by omega) a2 a3
    refine ⟨X2, ?_, b2, b3, fun k hk => by rw [b4 k hk, a4 k hk]⟩
    rw [xX9_lies_62, x_rowN hr, Option.bind_some, hs, nI_1, if_neg (nI_ge (by omega) (by omega)), x_f11, Option.bind_some, x_rowF hr, Option.bind_some, x_rowg hr (by omega), Option.bind_some, Option.bind_some, x_rowg hr (by omega), Option.bind_some, if_pos (isOx (by decide) (by decide) hX), w1, w3, a1, Option.bind_some, show nI (2 * t) + 2 = nI (2 * (t + 1)) by rw [show nI (2 * t) + 2 = nI (2 * t + 2) from nI_add _ 2]; rfl]
    exact b1
theorem ShX_R {X' : Nat → va_E} {n mt : Int32} {wy : Int64} {ps : List (Nat × Nat)} (h : ShX X) (fr : ∀ k, (k < 131 ∨ 140 ≤ k) → X' k = X k) (h131 : X' 131 = lieO n mt wy) (hT : RT ps X') : ShX X' := by
  obtain ⟨hW, hS, hG, -⟩ := h
  refine ⟨?_, ?_, ?_, ⟨⟨_, _, _, h131⟩, hT.1, fun k hk => by obtain ⟨g, g1, -⟩ := hT.2 k hk; exact ⟨g, g1⟩⟩⟩
  · obtain ⟨t1, t2, t3, t4⟩ := hW
    refine ⟨by rw [fr 23 (by omega)]; exact t1, by rw [fr 24 (by omega)]; exact t2, by rw [fr 25 (by omega)]; exact t3, fun k hk => ?_⟩
    obtain ⟨o, w, g, s, n, u, e0, e1, e2, e3⟩ := t4 k hk
    exact ⟨o, w, g, s, n, u, by rw [fr _ (by omega)]; exact e0, by rw [fr _ (by omega)]; exact e1, by rw [fr _ (by omega)]; exact e2, by rw [fr _ (by omega)]; exact e3⟩
  · obtain ⟨t1, t2, t3, t4, t5⟩ := hS
    refine ⟨by rw [fr 70 (by omega)]; exact t1, by rw [fr 71 (by omega)]; exact t2, ?_, by rw [fr 76 (by omega)]; exact t4, fun k hk => ?_⟩
    · obtain ⟨o, w, g, s, n, u, e0, e1, e2, e3⟩ := t3
      exact ⟨o, w, g, s, n, u, by rw [fr _ (by omega)]; exact e0, by rw [fr _ (by omega)]; exact e1, by rw [fr _ (by omega)]; exact e2, by rw [fr _ (by omega)]; exact e3⟩
    · obtain ⟨o, w, g, s, n, u, e0, e1, e2, e3⟩ := t5 k hk
      exact ⟨o, w, g, s, n, u, by rw [fr _ (by omega)]; exact e0, by rw [fr _ (by omega)]; exact e1, by rw [fr _ (by omega)]; exact e2, by rw [fr _ (by omega)]; exact e3⟩
  · obtain ⟨t1, t2, t3⟩ := hG
    refine ⟨by rw [fr 93 (by omega)]; exact t1, by rw [fr 94 (by omega)]; exact t2, fun k hk => ?_⟩
    obtain ⟨o, w, g, s, n, u, e0, e1, e2, e3⟩ := t3 k hk
    exact ⟨o, w, g, s, n, u, by rw [fr _ (by omega)]; exact e0, by rw [fr _ (by omega)]; exact e1, by rw [fr _ (by omega)]; exact e2, by rw [fr _ (by omega)]; exact e3⟩
end LB
theorem g_lies : gdI 110 230 1 := gdI_of (fun as hn I J F G X np kd pt pr ds ks hR hS => by
  obtain ⟨a, rfl⟩ := as1 hn
  show okI _ _ [.int a] I J F G X
  obtain ⟨hn7, h4, h168, hk, hk', hp', hp'', hA, hQ, hL⟩ := rel_ctx (G := G) (X := X) hR
  rcases ix a (n := 6) (by decide) with ha | ⟨r, hr, rfl⟩
  · refine okI_same (v := -1) hR hS ?_ ?_
    · refine cIo ?_; rw [rX9_lies, xX9_lies_0, isRow_xn ha, Option.bind_some, if_pos rfl]
    · refine cIo ?_; rw [rX10_lies, xX10_lies_0, isRow_yn ha, Option.bind_some, if_pos rfl]
  by_cases hnp : np = 0
  · have h40 : I 4 = 0 := by rw [h4, hnp]; rfl
    have h1680 : I 168 = 0 := by rw [h168, hnp]; rfl
    refine okI_same (v := -4) hR hS ?_ ?_
    · refine cIo ?_; rw [rX9_lies, xX9_lies_0, isRow_x hr, Option.bind_some, if_neg one_ne, x_f2, Option.bind_some, x_cn, Option.bind_some, if_pos h40]
    · refine cIo ?_; rw [rX10_lies, xX10_lies_0, isRow_y hr, Option.bind_some, if_neg one_ne, y_ps, Option.bind_some, if_pos h1680]
  have h4n : ¬ I 4 = 0 := by rw [h4]; exact nI_ne0 (by omega) (by omega)
  have h168n : ¬ I 168 = 0 := by rw [h168]; exact nI_ne0 (by omega) (by omega)
  have xst : ∀ (c : Int32) (R : mR), cI (rn 59) 143 [.ref 1, .ref (142 + 2 * r)] (hp I J F G X) = some (c, (hp I J F G X)) → (if c = 0 then ((gR (hp I J F G X) 1 9 11).bind fun q7 => (gR (hp I J F G X) 1 9 2).bind fun q8 => (gI (hp I J F G X) q8 1 3).bind fun x9 => if isO (hp I J F G X) q7 3 = true then ((cV (rn 59) 23 [.ref q7, .int x9] (hp I J F G X)).bind fun h10 => ex cdX9_lies (rn 59) 62 [.ref 1, .int (nI r), .ref (142 + 2 * r), .int c, .int 0] [] h10) else none) else (if isO (hp I J F G X) 1 9 = true then ((cI (rn 59) 127 [.ref 1, .int c] (hp I J F G X)).bind fun p11 => some (some (.int p11.1), p11.2)) else none)) = R → rn 60 110 [.ref 1, .int (nI r)] (hp I J F G X) = R := by
    intro c R hc hR
    rw [rX9_lies, xX9_lies_0, isRow_x hr, Option.bind_some, if_neg one_ne, x_f2, Option.bind_some, x_cn, Option.bind_some, if_neg h4n, x_f0, Option.bind_some, x_rowR hr, Option.bind_some, if_pos x_is, hc, Option.bind_some]
    exact hR
  obtain ⟨z1, z2, z3⟩ := hR.2.2.1 r hr
  rcases z2 with e | ⟨s, hs40, e⟩ <;> have z4 := z1.symm.trans e
  · have hw1 : cI (rn 59) 143 [.ref 1, .ref (142 + 2 * r)] (hp I J F G X) = some (1, (hp I J F G X)) := by
      refine cIo ?_; rw [rX9_wrongInPairs, xX9_wrongInPairs_0, if_pos (x_rowI hr), miss_x hr e, Option.bind_some, if_neg one_ne]
    refine okI_find 1 (by decide) hR hS (cIo (xst 1 _ hw1 ?_)) ?_
    · rw [if_neg one_ne, if_pos x_is, show cI (rn 59) 127 [.ref 1, .int 1] (hp I J F G X) = _ from find_x (f := 1) (by decide), Option.bind_some]
    · refine cIo ?_
      rw [rX10_lies, xX10_lies_0, isRow_y hr, Option.bind_some, if_neg one_ne, y_ps, Option.bind_some, if_neg (show ¬ upd I 1 (nI 1) 168 = 0 by rw [upd_ne (by decide)]; exact h168n), y_f5, Option.bind_some, y_g173 hr, Option.bind_some, upF_ne (by decide), z4, if_neg (by decide), if_pos y_is, show cI (rn 59) 150 [.ref 168, .int 1] _ = _ from find_y (f := 1) (by decide), Option.bind_some, upF_ne (by decide)]
  have hmod : nI s - nI s / 2 * 2 = nI (s % 2) := pk_rem (d := 2) (by omega) (by decide) (by decide)
  have wst : ∀ R : Int32, (if nI (s % 2) = 0 then (if nI s ≤ 16 then ex cdX9_wrongInPairs (rn 58) 31 [.ref 1, .ref (142 + 2 * r), .int 0, .null, .null] [] (hp I J F G X) else some (some (.int 5), (hp I J F G X))) else some (some (.int 5), (hp I J F G X))) = some (some (.int R), (hp I J F G X)) → cI (rn 59) 143 [.ref 1, .ref (142 + 2 * r)] (hp I J F G X) = some (R, (hp I J F G X)) := by
    intro R h
    refine cIo ?_
    rw [rX9_wrongInPairs, xX9_wrongInPairs_0, if_pos (x_rowI hr), miss_xn hr hs40 e, Option.bind_some, if_pos rfl, x_rowN hr, Option.bind_some, e, hmod, Option.bind_some]
    exact h
  have yst : ∀ (I' : Nat → Int32) (F' : Nat → Nat → Int32) (J' : Nat → Int64) (X' : Nat → va_E) (R : mR), I' 168 = I 168 → F' 173 = F 173 → (if nI (s % 2) = 0 then (if nI s ≤ 16 then (ex cdX10_lies (rn 59) 69 [.ref 168, .int (nI r), .int 1, .int (40 * nI r), .null, .null, .null, .null] [] (hp I' J' F' G X')) else (ex cdX10_lies (rn 59) 56 [.ref 168, .int (nI r), .null, .null, .null, .null, .null, .null] [] (hp I' J' F' G X'))) else (ex cdX10_lies (rn 59) 56 [.ref 168, .int (nI r), .null, .null, .null, .null, .null, .null] [] (hp I' J' F' G X'))) = R → rn 60 230 [.ref 168, .int (nI r)] (hp I' J' F' G X') = R := by
    intro I' F' J' X' R hI hF h
    rw [rX10_lies, xX10_lies_0, isRow_y hr, Option.bind_some, if_neg one_ne, y_ps, Option.bind_some, hI, if_neg h168n, y_f5, Option.bind_some, y_g173 hr, Option.bind_some, hF, z4, if_pos (show (0 : Int32) ≤ nI s from nI_le (a := 0) (by omega) (by omega)), Option.bind_some, y_g173 hr, Option.bind_some, hF, z4, hmod, Option.bind_some, y_g173 hr, Option.bind_some, hF, z4]
    exact h
  have bad5 : (¬ nI (s % 2) = 0 ∨ ¬ nI s ≤ 16) → okI 110 230 [.int (nI r)] I J F G X := by
    intro hb
    have hw5 : cI (rn 59) 143 [.ref 1, .ref (142 + 2 * r)] (hp I J F G X) = some (5, (hp I J F G X)) := wst 5 (by
      by_cases c : nI (s % 2) = 0
      · rw [if_pos c, if_neg (by rcases hb with h | h; exact absurd c h; exact h)]
      · rw [if_neg c])
    refine okI_find 5 (by decide) hR hS (cIo (xst 5 _ hw5 ?_)) (cIo (yst _ _ _ _ _ (upd_ne (by decide)) (upF_ne (by decide)) ?_))
    · rw [if_neg (by decide), if_pos x_is, fx5, Option.bind_some]
    · have e56 : ex cdX10_lies (rn 59) 56 [.ref 168, .int (nI r), .null, .null, .null, .null, .null, .null] [] (hp (upd I 1 (nI 5)) J (upF F 141 (upd (F 141) 5 (F 141 5 + 1))) G X) = some (some (.int (-3)), hp (upd (upd I 1 (nI 5)) 170 (nI 5)) J (upF (upF F 141 (upd (F 141) 5 (F 141 5 + 1))) 177 (upd (F 177) 5 (F 177 5 + 1))) G X) := by
        rw [xX10_lies_56, if_pos y_is, fy5, Option.bind_some, upF_ne (by decide)]
      by_cases c : nI (s % 2) = 0
      · rw [if_pos c, if_neg (by rcases hb with h | h; exact absurd c h; exact h)]; exact e56
      · rw [if_neg c]; exact e56
  by_cases c1' : ¬ nI (s % 2) = 0
  · exact bad5 (Or.inl c1')
  have c1 := Classical.not_not.mp c1'
  by_cases c2' : ¬ nI s ≤ 16
  · exact bad5 (Or.inr c2')
  have c2 := Classical.not_not.mp c2'
  have hs2 : s % 2 = 0 := (nI_inj (b := 0) (by omega) (by decide)).mp c1
  have hs16 : s ≤ 16 := (nI_leI (b := 16) (by omega) (by decide)).mp c2
  obtain ⟨T, rfl⟩ : ∃ T, s = 2 * T := ⟨s / 2, by omega⟩
  have hT8 : T ≤ 8 := by omega
  obtain ⟨u1, u2⟩ := wip_loop (d := 57) (I := I) (J := J) (F := F) (G := G) (X := X) hr hT8 hn7 h4 e T 0 .null .null rfl (by omega)
  by_cases hall' : ¬ ∀ u, 0 ≤ u → u < T → okp np (F (143 + 2 * r)) u
  · have hall := hall'
    have hw3 : cI (rn 59) 143 [.ref 1, .ref (142 + 2 * r)] (hp I J F G X) = some (3, (hp I J F G X)) := wst 3 (by rw [if_pos c1, if_pos c2]; exact u2 hall)
    refine okI_find 3 (by decide) hR hS (cIo (xst 3 _ hw3 ?_)) (cIo (yst _ _ _ _ _ (upd_ne (by decide)) (upF_ne (by decide)) ?_))
    · rw [if_neg (by decide), if_pos x_is, fx3, Option.bind_some]
    · obtain ⟨-, y2⟩ := lies69 (d := 56) (I := upd I 1 (nI 3)) (J := J) (F := upF F 141 (upd (F 141) 3 (F 141 3 + 1))) (G := G) (X := X) (np := np) (r := r) (T := T) (f := F (143 + 2 * r)) hr hT8 hn7 (by rw [upd_ne (by decide)]; exact h168) (by rw [upF_ne (by decide)]; exact z4) (by rw [upF_ne (by decide)]; exact z3) T 0 true rfl (by omega)
      rw [if_pos c1, if_pos c2, c40]
      refine Eq.trans (y2 (fun h => hall h.2)) ?_
      rw [fy3, Option.bind_some, upF_ne (by decide)]
  have hall := Classical.not_not.mp hall'
  have hw0 : cI (rn 59) 143 [.ref 1, .ref (142 + 2 * r)] (hp I J F G X) = some (0, (hp I J F G X)) := wst 0 (by rw [if_pos c1, if_pos c2]; exact u1 hall)
  obtain ⟨w, hwd⟩ : ∃ w : Nat → Nat, w = fun j => (F (143 + 2 * r) j).toInt.toNat := ⟨_, rfl⟩
  have hw : ∀ j, j < 2 * T → F (143 + 2 * r) j = nI (w j) ∧ w j < np := by
    have hone : ∀ j i, F (143 + 2 * r) j = nI i → i < np → F (143 + 2 * r) j = nI (w j) ∧ w j < np := by
      intro j i h1 h2
      have : w j = i := by rw [hwd]; dsimp only; rw [h1, nI_toInt (by omega)]; rfl
      rw [this]; exact ⟨h1, h2⟩
    intro j hj
    obtain ⟨i, i', h1, h2, h3, h5, h6⟩ := hall (j / 2) (by omega) (by omega)
    rcases (show j = 2 * (j / 2) ∨ j = 2 * (j / 2) + 1 by omega) with q | q
    · exact hone j i (by rw [q]; exact h5) h1
    · exact hone j i' (by rw [q]; exact h6) h2
  obtain ⟨X1, a1, a2, a3, a4⟩ := mbegin_x (d := 57) (n := np) (J := J) (I := I) (F := F) (G := G) (X := X) hS.2.2.2 hn7
  obtain ⟨X2, b1, b2, b3, b4⟩ := add_loop (I := I) (J := J) (F := F) (G := G) (v3 := 0) hr hT8 hn7 e hw T 0 X1 rfl (by omega) a2 a3
  rw [show 2 * 0 = 0 from rfl, nI_0] at b1
  obtain ⟨X3, d1, d2, d3, d4⟩ := sb_x (I := I) (J := J) (F := F) (G := G) (n := np) (ps := psr w T) hn7 (by rw [psr_len]; exact hT8) np 58 X2 [] (-2) 0 none (by simp) (by omega) List.nodup_nil (Or.inl ⟨rfl, rfl⟩) (by decide) (fun p _ => by simp) b2 b3 (fun q hq => by cases hq)
  have hT3 : RT (psr w T) X3 := by
    obtain ⟨⟨f, t1, t2⟩, t3⟩ := b3
    exact ⟨⟨f, by rw [d3 132 (by decide)]; exact t1, t2⟩, fun j hj => by rw [d3 _ (by omega)]; exact t3 j hj⟩
  have hS3 : ShX X3 := ShX_R hS (fun k hk => by rw [d3 k (by omega), b4 k hk, a4 k hk]) d2 hT3
  have hlen0 : (remL np []).length = np := by rw [remL_nil, List.length_range]
  have hacc0 : ∀ q : Nat × Nat, none = some q → q.1 ≤ T := fun q hq => by cases hq
  -- the reference, from the first order on
  have main : ∀ (J' : Nat → Int64), ∃ o q, pfd (stpL (psr w T)) np np [] none = some q ∧ q.1 ≤ T ∧ rn 60 230 [.ref 168, .int (nI r)] (hp I J' F G X3) = some (some (.int (nI (T - q.1))), hp I (vp_updL (vp_updL J' 168 (lN q.2)) 169 1) (upF F 181 o) G X3) := by
    intro J'
    obtain ⟨y1, -⟩ := lies69 (d := 56) (I := I) (J := J') (F := F) (G := G) (X := X3) (np := np) (r := r) (T := T) (f := F (143 + 2 * r)) hr hT8 hn7 h168 z4 z3 T 0 true rfl (by omega)
    obtain ⟨o1, p1, p2⟩ := lies133 (r := r) (I := I) (J := J') (F := F) (G := G) (X := X3) hn7 h168 np 0 (F 181) (by omega) (by omega) (fun k x hk => by simp at hk)
    rw [upF_same, nI_0] at p1
    obtain ⟨o2, v3, w7, q1, ⟨q, q2, q2'⟩, q3⟩ := RB (I := I) (J := J') (F := F) (G := G) (X := X3) (n := np) (r := r) (T := T) (w := w) hr hT8 (fun j hj => by
      obtain ⟨h1, h2⟩ := hw j hj
      rw [z3 j (by omega)]
      exact ⟨h1, by omega⟩) z4 h168 hn7 (by omega) np [] none o1 .null (by simp) hlen0 List.nodup_nil (fun u hu => by cases hu) (by rw [remL_nil]; simpa using p2) hacc0
    refine ⟨o2, q, q2, q2', yst _ _ _ _ _ rfl rfl ?_⟩
    rw [if_pos c1, if_pos c2, c40]
    refine Eq.trans (y1 ⟨rfl, hall⟩) (Eq.trans p1 (Eq.trans q3 ?_))
    rw [remL_nil, List.nil_append] at q1
    rw [q2, xX10_lies_214, y_ps, Option.bind_some, if_pos y_is, h168, no_last (d := 58) hn7 (by omega) q1, Option.bind_some, xX10_lies_163, if_pos rfl, y_pup, Option.bind_some, y_plo, Option.bind_some]
    rfl
  obtain ⟨o, q, q1, q2, q3⟩ := main (vp_updL (vp_updL J 1 (lN (match pfd (stpL (psr w T)) np np [] none with | none => 0 | some q => q.2))) 2 1)
  rw [q1] at q3 d2
  dsimp only at q3
  refine okI_mk (v := nI (T - q.1)) (I1 := I) (J1 := vp_updL (vp_updL J 1 (lN q.2)) 2 1) (F1 := F) (X1 := X3) (I2 := I) (J2 := vp_updL (vp_updL (vp_updL (vp_updL J 1 (lN q.2)) 2 1) 168 (lN q.2)) 169 1) (G2 := G) (F2 := upF F 181 o) (cIo (xst 0 _ hw0 ?_)) (cIo q3) (rel_scr (rel_ways (lN q.2) 1 hR) (fun _ _ => rfl) (fun k hk => upF_ne (by omega)) (fun k hk => by rw [upF_ne (by decide)])) hS3
  have d0' : cV (rn 58) 27 [.ref 131, .int (-2), .int 0, .int 0, .int 0] (hp I J F G X2) = some (hp I J F G X3) := d1
  have d1' : cV (rn 59) 26 [.ref 131] (hp I J F G X2) = some (hp I J F G X3) := by
    refine cVo ?_
    rw [rX3_countOrders, xX3_countOrders_0, if_pos (isOx (by decide) (by decide) b2), d0', Option.bind_some]
  rw [if_pos rfl, x_f11, Option.bind_some, x_f2, Option.bind_some, x_cn, Option.bind_some, if_pos (by obtain ⟨⟨_, _, _, w1⟩, -⟩ := hS.2.2.2; exact isOx (by decide) (by decide) w1), h4, a1, Option.bind_some, b1, xX9_lies_62, x_rowN hr, Option.bind_some, e, nI_1, if_pos (nI_le (by omega) (by omega)), x_f11, Option.bind_some, if_pos (isOx (by decide) (by decide) b2), d1', Option.bind_some, x_f11, Option.bind_some, gLx (by decide) (by decide) d2 rfl, Option.bind_some, if_pos x_is, two_ways, Option.bind_some, x_rowN hr, Option.bind_some, e, x_f11, Option.bind_some, gIx (by decide) (by decide) d2 rfl, Option.bind_some, show nI (2 * T) / 2 = nI (2 * T / 2) from pk_div (d := 2) (by omega) (by decide) (by decide), show 2 * T / 2 = T by omega, show nI T - mtI (some q) = nI (T - q.1) from pk_sub q2]
  rfl)
