/-! messages; of which kind -/
def msg (kd : Nat → Nat) (nt : Nat) (L : List Nat) : Nat → Nat → Nat
  | 0, t => t
  | 1, t => t + 1
  | p + 2, t => if asl kd (nt + t) (L.getD (p + 1) 0) = true then msg kd nt L (p + 1) (t + 1) else msg kd nt L p (t + 1)
section MS
variable {I : Nat → Int32} {J : Nat → Int64} {F : Nat → Nat → Int32} {G : Nat → Int64} {X : Nat → va_E} {np m nt : Nat} {kd pt : Nat → Nat} {L : List Nat} {wt : Nat → Nat} {wn : Nat → Int32} {gu : Int32}
theorem whoAt_x {d k x : Nat} (hQ : QN I F 12 np (L, wt, wn, nt, gu)) (hn : np ≤ 7) (hA : lB np m (L, wt, wn, nt, gu)) (hx : L[k]? = some x) : cI (rn (d + 1)) 43 [.ref 12, .int (nI k)] (hp I J F G X) = some (nI x, (hp I J F G X)) := by
  have := whoAt_p (d := d + 1) (w := F 14) (g := F 15) (n := nI nt) (u := gu) (by omega) (hl183 (I := I) (J := J) (F := F) (G := G) (X := X)) hQ.2.2.2.1 (lB_len hn hA) hx
  rwa [hp_put12 hQ] at this
theorem msg_x {d : Nat} {v1 : Int32} (hQ : QN I F 12 np (L, wt, wn, nt, gu)) (hn : np ≤ 7) (h4 : I 4 = nI np) (hk : kOK (F 5) kd np) (hA : lB np m (L, wt, wn, nt, gu)) (hm : m < 900) : ∀ (q p t : Nat) (v4 : Value), p ≤ q → p ≤ L.length → p + t ≤ 7 → ex cdX9_message (rn (d + 2)) 33 [.ref 1, .int v1, .int (nI p), .int (nI t), v4] [] (hp I J F G X) = some (some (.int (nI (msg kd nt L p t))), (hp I J F G X)) := by
  have hnt : nt ≤ m := hA.2.2.1
  have hq13 : I 13 = nI nt := hQ.2.1
  intro q
  induction q with
  | zero =>
    intro p t v4 h1 h2 h3
    have : p = 0 := by omega
    subst this
    rw [xX9_message_33, if_pos (by decide)]
    rfl
  | succ q ih =>
    intro p t v4 h1 h2 h3
    match p, h1, h2, h3 with
    | 0, h1, h2, h3 => rw [xX9_message_33, if_pos (by decide)]; rfl
    | p + 1, h1, h2, h3 =>
      have hg : L[p]? = some (L[p]'(by omega)) := List.getElem?_eq_getElem (by omega)
      have hx : L[p]'(by omega) < np := hA.2.1 _ (List.mem_of_getElem? hg)
      have hgd : L.getD p 0 = L[p]'(by omega) := by rw [List.getD_eq_getElem?_getD, hg]; rfl
      rw [xX9_message_33, if_neg (nI_nle (by omega) (by omega)), if_neg (show ¬ (7 : Int32) ≤ nI t from nI_ge (b := 7) (by omega) (by decide)), x_f2, Option.bind_some, x_f4, Option.bind_some, if_pos x_qi, nI_pred, whoAt_x hQ hn hA hg, Option.bind_some, x_f4, Option.bind_some, x_qn, Option.bind_some, hq13, if_pos x_ci, nI_add, asleep_p (by omega) (cat12 h4) hn hk hx (by omega), Option.bind_some]
      match p, h1, h2, h3, hg, hx, hgd with
      | 0, h1, h2, h3, hg, hx, hgd =>
        cases ha : asl kd (nt + t) (L[0]'(by omega)) with
        | false =>
          rw [if_pos (by rfl), nI_1, xX9_message_33, if_pos (by decide)]
          rfl
        | true =>
          rw [if_neg (show ¬ bI true = 0 by decide), nI_1, xX9_message_33, if_pos (by decide)]
          rfl
      | p + 1, h1, h2, h3, hg, hx, hgd =>
        unfold msg
        rw [hgd]
        cases ha : asl kd (nt + t) (L[p + 1]'(by omega)) with
        | false =>
          rw [if_pos (by rfl), nI_1, show nI (p + 1 + 1) - 2 = nI p from pk_sub (a := p + 1 + 1) (b := 2) (by omega), if_neg (by decide)]
          exact ih p (t + 1) _ (by omega) (by omega) (by omega)
        | true =>
          rw [if_neg (show ¬ bI true = 0 by decide), nI_1, if_pos rfl]
          exact ih (p + 1) (t + 1) _ (by omega) (by omega) (by omega)
theorem msg_y {d : Nat} {v1 : Int32} (hL : LineN (F 169) 0 np (L, wt, wn, nt, gu)) (hn : np ≤ 7) (hk : kOK (F 170) kd np) (hA : lB np m (L, wt, wn, nt, gu)) (hm : m < 900) : ∀ (q p t : Nat), p ≤ q → p ≤ L.length → p + t ≤ 7 → ex cdX10_message (rn (d + 1)) 28 [.ref 168, .int v1, .int (nI p), .int (nI t)] [] (hp I J F G X) = some (some (.int (nI (msg kd nt L p t))), (hp I J F G X)) := by
  have hnt : nt ≤ m := hA.2.2.1
  have hl := lB_len hn hA
  dsimp only at hl
  have l1 : F 169 1 = nI nt := by have := hL.1; dsimp only at this; rwa [Nat.zero_add] at this
  intro q
  induction q with
  | zero =>
    intro p t h1 h2 h3
    have : p = 0 := by omega
    subst this
    rw [xX10_message_28, if_pos (by decide)]
    rfl
  | succ q ih =>
    intro p t h1 h2 h3
    match p, h1, h2, h3 with
    | 0, h1, h2, h3 => rw [xX10_message_28, if_pos (by decide)]; rfl
    | 1, h1, h2, h3 =>
      rw [xX10_message_28, if_neg (by decide), if_pos (by decide), nI_1, show nI 1 - 1 = 0 from by decide, xX10_message_28, if_pos (by decide)]
      rfl
    | p + 2, h1, h2, h3 =>
      have hg : L[p + 1]? = some (L[p + 1]'(by omega)) := List.getElem?_eq_getElem (by omega)
      have hx : L[p + 1]'(by omega) < np := hA.2.1 _ (List.mem_of_getElem? hg)
      have hgd : L.getD (p + 1) 0 = L[p + 1]'(by omega) := by rw [List.getD_eq_getElem?_getD, hg]; rfl
      have l3 := hL.2.2.1 _ _ hg
      rw [show 0 + 3 + (p + 1) = p + 4 by omega] at l3
      rw [xX10_message_28, if_neg (nI_nle (by omega) (by omega)), if_neg (show ¬ nI (p + 2) = 1 from fun z => by have := (nI_inj (b := 1) (by omega) (by decide)).mp z; omega), y_f0, Option.bind_some, c3', show nI (3 + (p + 2)) - 1 = nI (p + 4) from by rw [show 3 + (p + 2) = (p + 4) + 1 by omega]; exact nI_pred _, y_g169 (by omega), Option.bind_some, Option.bind_some, y_row1, Option.bind_some, l3, l1, if_pos y_is, nI_add, asleep_y hn hk (by omega) hx, Option.bind_some]
      unfold msg
      rw [hgd]
      cases ha : asl kd (nt + t) (L[p + 1]'(by omega)) with
      | false =>
        rw [if_pos (by rfl), nI_1, show nI (p + 2) - 2 = nI p from pk_sub (a := p + 2) (b := 2) (by omega), if_neg (by decide)]
        exact ih p (t + 1) (by omega) (by omega) (by omega)
      | true =>
        rw [if_neg (show ¬ bI true = 0 by decide), nI_1, show nI (p + 2) - 1 = nI (p + 1) from nI_pred _, if_pos rfl]
        exact ih (p + 1) (t + 1) (by omega) (by omega) (by omega)
end MS
theorem g_message : gdI 113 233 1 := gdI_of (fun as hn I J F G X np kd pt pr ds ks hR hS => by
  obtain ⟨a, rfl⟩ := as1 hn
  show okI _ _ [.int a] I J F G X
  obtain ⟨hn7, h4, h168, hk, hk', hp', hp'', hA, hQ, hL⟩ := rel_ctx (G := G) (X := X) hR
  rcases ix a (n := np) (by omega) with ha | ⟨i, hi, rfl⟩
  · refine okI_same (v := -1) hR hS ?_ ?_
    · refine cIo ?_; rw [rX9_message, xX9_message_0, x_f2, Option.bind_some, if_pos x_ci, has_xn ha h4, Option.bind_some, if_pos rfl]
    · refine cIo ?_; rw [rX10_message, xX10_message_0, if_pos y_is, isP_yn hn7 ha h168, Option.bind_some, if_pos rfl]
  generalize hAe : rep np kd pt ds = A at hA hQ hL
  obtain ⟨L, wt, wn, nt, gu⟩ := A
  have hl := lB_len hn7 hA
  dsimp only at hl
  have px := fun d => place_x (d := d) (J := J) (G := G) (X := X) (x := i) hQ hn7 hA (by omega)
  have py := fun d => place_y (d := d) (I := I) (J := J) (G := G) (X := X) (b := 0) (x := i) (by decide) hL hn7 hA (by omega)
  rw [nI_0] at py
  cases hpi : plc L i with
  | none =>
    rw [hpi] at px py
    refine okI_same (v := -4) hR hS ?_ ?_
    · refine cIo ?_; rw [rX9_message, xX9_message_0, x_f2, Option.bind_some, if_pos x_ci, has_x hn7 hi h4, Option.bind_some, if_neg one_ne, x_f4, Option.bind_some, if_pos x_qi, px, Option.bind_some, if_pos oI_none]
    · refine cIo ?_; rw [rX10_message, xX10_message_0, if_pos y_is, isP_y hn7 hi h168, Option.bind_some, if_neg one_ne, if_pos y_is, py, Option.bind_some, if_pos oI_none]
  | some p =>
    rw [hpi, oI_some] at px py
    have hp1 := (List.getElem?_eq_some_iff.mp (plc_some hpi)).1
    have e1 := msg_x (d := 57) (J := J) (G := G) (X := X) (v1 := nI i) hQ hn7 h4 hk hA (by decide) p p 0 .null (Nat.le_refl _) (by omega) (by omega)
    have e2 := msg_y (d := 58) (I := I) (J := J) (G := G) (X := X) (v1 := nI i) hL hn7 hk' hA (by decide) p p 0 (Nat.le_refl _) (by omega) (by omega)
    rw [nI_0] at e1 e2
    refine okI_same (v := nI (msg kd nt L p 0)) hR hS ?_ ?_
    · refine cIo ?_; rw [rX9_message, xX9_message_0, x_f2, Option.bind_some, if_pos x_ci, has_x hn7 hi h4, Option.bind_some, if_neg one_ne, x_f4, Option.bind_some, if_pos x_qi, px, Option.bind_some, if_neg (nI_ne9 (by omega)), e1]
    · refine cIo ?_; rw [rX10_message, xX10_message_0, if_pos y_is, isP_y hn7 hi h168, Option.bind_some, if_neg one_ne, if_pos y_is, py, Option.bind_some, if_neg (nI_ne9 (by omega)), e2])
/-! kinds -/
def wso (kd pt : Nat → Nat) : List (Bool × Int32) → LSt → Bool
  | [], _ => true
  | (c, g) :: cs, A => if oI (passA kd pt A c).1 = g then wso kd pt cs (passA kd pt A c).2 else false
def kdI (kd : Nat → Nat) (i k : Nat) : Nat → Nat := fun j => if j = i then k else kd j
section KS
variable {I : Nat → Int32} {J : Nat → Int64} {F : Nat → Nat → Int32} {G : Nat → Int64} {X : Nat → va_E} {np : Nat} {kd pt : Nat → Nat}
theorem goSo_x {d r q n : Nat} (hr : r < 6) (hq : q < 6) (hn40 : n ≤ 40) (h : I (142 + 2 * r) = nI n) (h2 : I (142 + 2 * q) = nI n) (hn : np ≤ 7) (h4 : I 8 = nI np) (hk : kOK (F 9) kd np) (hp' : ∀ k, k < np → F 10 k = nI (pt k) ∧ pt k < 1000) : ∀ (cs : List (Bool × Int32)) (k m : Nat) (I1 : Nat → Int32) (F1 : Nat → Nat → Int32) (A : LSt) (v5 : Value), asd np I F I1 F1 A → lB np m A → m + cs.length < 900 → k + cs.length = n → (∀ j c g, cs[j]? = some (c, g) → F (143 + 2 * r) (k + j) = bI c ∧ F (143 + 2 * q) (k + j) = g) →
    ∃ I' F' A', ex cdX9_goSo (rn (d + 8)) 14 [.ref 1, .ref 8, .ref (142 + 2 * r), .ref (142 + 2 * q), .int (nI k), v5] [] (hp I1 J F1 G X) = some (some (.int (bI (wso kd pt cs A))), hp I' J F' G X) ∧ asd np I F I' F' A' := by
  intro cs
  induction cs with
  | nil =>
    intro k m I1 F1 A v5 ha hA hm hkn hcs
    have : k = n := hkn
    subst this
    refine ⟨I1, F1, A, ?_, ha⟩
    rw [xX9_goSo_14, x_rowN hr, Option.bind_some, ha.2.1 _ (by omega), h, if_pos (nI_le (Nat.le_refl _) (by omega))]
    rfl
  | cons cg cs ih =>
    obtain ⟨c, g⟩ := cg
    intro k m I1 F1 A v5 ha hA hm hkn hcs
    rw [List.length_cons] at hm hkn
    obtain ⟨I2, F2, g1, g2⟩ := pass8_x (d := d) (J := J) (G := G) (X := X) ha hn h4 hk hp' hA (by omega) c
    obtain ⟨c0, c1⟩ := hcs 0 c g rfl
    rw [Nat.add_zero] at c0 c1
    have e0 : F1 (143 + 2 * r) k = bI c := by rw [ha.2.2 _ (by omega)]; exact c0
    have e1 : F2 (143 + 2 * q) k = g := by rw [g2.2.2 _ (by omega)]; exact c1
    have key : ∃ I' F' A', ex cdX9_goSo (rn (d + 8)) 53 [.ref 1, .ref 8, .ref (142 + 2 * r), .ref (142 + 2 * q), .int (nI k), v5] [.int (bI c), .ref 8, .ref 16] (hp I1 J F1 G X) = some (some (.int (bI (wso kd pt ((c, g) :: cs) A))), hp I' J F' G X) ∧ asd np I F I' F' A' := by
      rw [xX9_goSo_53, if_pos x_ai, g1, Option.bind_some, x_rowF hq, Option.bind_some, x_rowg hq (by omega), Option.bind_some, e1]
      unfold wso
      dsimp only
      by_cases z : oI (passA kd pt A c).1 = g
      · rw [if_pos z, if_pos z]
        obtain ⟨I', F', A', u1, u2⟩ := ih (k + 1) (m + 1) I2 F2 _ (.int (oI (passA kd pt A c).1)) g2 (passA_lB kd pt c hA) (by omega) (by omega) (fun j c' g' hj => by
          have := hcs (j + 1) c' g' (by rw [List.getElem?_cons_succ]; exact hj)
          rwa [show k + (j + 1) = k + 1 + j by omega] at this)
        exact ⟨I', F', A', by rw [nI_1]; exact u1, u2⟩
      · rw [if_neg z, if_neg z]
        exact ⟨I2, F2, _, rfl, g2⟩
    rw [xX9_goSo_14, x_rowN hr, Option.bind_some, ha.2.1 _ (by omega), h, if_neg (nI_ge (by omega) (by omega)), x_rowN hq, Option.bind_some, ha.2.1 _ (by omega), h2, if_neg (nI_ge (by omega) (by omega)), x_f5, Option.bind_some, x_rowF hr, Option.bind_some, x_rowg hr (by omega), Option.bind_some, e0]
    cases c with
    | false => rw [if_neg (by decide)]; exact key
    | true => rw [if_pos (by decide)]; exact key
theorem wentSo_y {d r q n : Nat} (hr : r < 6) (hq : q < 6) (hn40 : n ≤ 40) (h : F 173 r = nI n) (hn : np ≤ 7) (hk : kOK (F 170) kd np) (hp' : ∀ k, k < np → F 171 k = nI (pt k) ∧ pt k < 1000) : ∀ (cs : List (Bool × Int32)) (k m : Nat) (row st : Nat → Int32) (A : LSt), LineN row 3940 np A → lB np m A → m + cs.length < 900 → k + cs.length = n → (∀ j c g, cs[j]? = some (c, g) → F 174 (40 * r + (k + j)) = bI c ∧ F 174 (40 * q + (k + j)) = g) →
    ∃ row' st', ex cdX10_wentSo (rn (d + 8)) 9 [.ref 168, .int (nI r), .int (nI q), .int 1, .int (nI k)] [] (hp I J (tF F row st) G X) = some (some (.int (bI (wso kd pt cs A))), hp I J (tF F row' st') G X) ∧ ∀ k, k < 3940 → row' k = row k := by
  intro cs
  induction cs with
  | nil =>
    intro k m row st A ha hA hm hkn hcs
    have : k = n := hkn
    subst this
    refine ⟨row, st, ?_, fun _ _ => rfl⟩
    rw [xX10_wentSo_9, y_f5, Option.bind_some, y_g173 hr, Option.bind_some, tF_ne (by decide) (by decide), h, if_pos (nI_le (Nat.le_refl _) (by omega)), if_pos (by decide)]
    rfl
  | cons cg cs ih =>
    obtain ⟨c, g⟩ := cg
    intro k m row st A ha hA hm hkn hcs
    rw [List.length_cons] at hm hkn
    obtain ⟨row1, st1, g1, g2, g3⟩ := passT_y (d := d) (I := I) (J := J) (F := F) (G := G) (X := X) (st := st) ha hn hk hp' hA (by omega) c
    obtain ⟨c0, c1⟩ := hcs 0 c g rfl
    rw [Nat.add_zero] at c0 c1
    rw [xX10_wentSo_9, y_f5, Option.bind_some, y_g173 hr, Option.bind_some, tF_ne (by decide) (by decide), h, if_neg (nI_ge (by omega) (by omega)), if_neg one_ne, y_f6, Option.bind_some, c40, nI_add, y_g174 (by omega), Option.bind_some, tF_ne (by decide) (by decide), c0, if_pos y_is, g1, Option.bind_some, y_f6, Option.bind_some, c40, nI_add, y_g174 (by omega), Option.bind_some, tF_ne (by decide) (by decide), c1]
    unfold wso
    dsimp only
    by_cases z : oI (passA kd pt A c).1 = g
    · rw [if_pos z, if_pos z, nI_1]
      obtain ⟨row', st', u1, u2⟩ := ih (k + 1) (m + 1) row1 st1 _ g2 (passA_lB kd pt c hA) (by omega) (by omega) (fun j c' g' hj => by
        have := hcs (j + 1) c' g' (by rw [List.getElem?_cons_succ]; exact hj)
        rwa [show k + (j + 1) = k + 1 + j by omega] at this)
      exact ⟨row', st', u1, fun j hj => by rw [u2 j hj, g3 j hj]⟩
    · rw [if_neg z, if_neg z, nI_1]
      refine ⟨row1, st1, ?_, g3⟩
      rw [xX10_wentSo_9, y_f5, Option.bind_some, y_g173 hr, Option.bind_some, tF_ne (by decide) (by decide), h]
      by_cases e : n ≤ k + 1
      · rw [if_pos (nI_le e (by omega)), if_pos (by decide)]; rfl
      · rw [if_neg (nI_ge (by omega) (by omega)), if_pos rfl, if_pos (by decide)]; rfl
/-- the draft set as the crowd -/
theorem draft_x {d : Nat} : cV (rn (d + 2)) 11 [.ref 8, .ref 4] (hp I J F G X) = some (hp (upd I 8 (I 4)) J (upF (upF (upF F 9 (va_cpy (F 5) (F 9) 0 0 7)) 10 (va_cpy (F 6) (F 10) 0 0 7)) 11 (va_cpy (F 7) (F 11) 0 0 7)) G X) := by
  have cp : ∀ (K : mH) (a b : Nat) (f f' : Nat → Int32), K[a]? = some (ar 7 f) → K[b]? = some (ar 7 f') → cpI K a 0 b 0 7 = some (K.set b (ar 7 (va_cpy f f' 0 0 7))) := fun K a b f f' h1 h2 => cpI_at (n := 7) (by decide) h1 h2
  have s9 : ∀ (I : Nat → Int32) (F : Nat → Nat → Int32) (g : Nat → Int32), (hp I J F G X).set 9 (ar 7 g) = hp I J (upF F 9 g) G X := fun I F g => (hp_sa (by decide)).trans rfl
  have s10 : ∀ (I : Nat → Int32) (F : Nat → Nat → Int32) (g : Nat → Int32), (hp I J F G X).set 10 (ar 7 g) = hp I J (upF F 10 g) G X := fun I F g => (hp_sa (by decide)).trans rfl
  have s11 : ∀ (I : Nat → Int32) (F : Nat → Nat → Int32) (g : Nat → Int32), (hp I J F G X).set 11 (ar 7 g) = hp I J (upF F 11 g) G X := fun I F g => (hp_sa (by decide)).trans rfl
  refine cVo ?_
  rw [rX1_setAs, xX1_setAs_0, x_cn, Option.bind_some, x_prn, Option.bind_some, x_c0, Option.bind_some, x_r0, Option.bind_some, nat0, Option.bind_some, cp _ _ _ _ _ k5 k9, Option.bind_some, s9, x_c1, Option.bind_some, x_r1, Option.bind_some, nat0, Option.bind_some, cp _ _ _ _ _ k6 k10, Option.bind_some, s10, x_c2, Option.bind_some, x_r2, Option.bind_some, nat0, Option.bind_some, cp _ _ _ _ _ k7 k11, Option.bind_some, s11]
  simp (disch := decide) only [upF_ne]
end KS
def fitK (kd pt : Nat → Nat) (i : Nat) (cs : List (Bool × Int32)) (A : LSt) : Nat → Nat → Int32 → Int32
  | _, 0, u => u
  | k, m + 1, u => fitK kd pt i cs A (k + 1) m (if wso (kdI kd i k) pt cs A = true then u ||| (1 <<< (nI k &&& 31)) else u)
theorem kdI_ok {f : Nat → Int32} {kd : Nat → Nat} {np i k : Nat} (hk : kOK f kd np) (hk6 : k < 6) : kOK (upd f i (nI k)) (kdI kd i k) np := by
  intro j hj
  unfold kdI
  by_cases e : j = i
  · subst e; rw [upd_eq, if_pos rfl]; exact ⟨rfl, hk6⟩
  · rw [upd_ne e, if_neg e]; exact hk j hj
theorem or0 (x : Int32) : x ||| 0 = x := Int32.or_zero
section KL
variable {I : Nat → Int32} {J : Nat → Int64} {F : Nat → Nat → Int32} {G : Nat → Int64} {X : Nat → va_E} {np : Nat} {kd pt : Nat → Nat}
theorem kinds_x {d r q n i : Nat} {v4 : Int32} {cs : List (Bool × Int32)} {A : LSt} (hr : r < 6) (hq : q < 6) (hn20 : n ≤ 20) (h : I (142 + 2 * r) = nI n) (h2 : I (142 + 2 * q) = nI n) (hn : np ≤ 7) (hi : i < np) (h4 : I 4 = nI np) (hk : kOK (F 5) kd np) (hp' : ∀ k, k < np → F 6 k = nI (pt k) ∧ pt k < 1000) (hQ : QN I F 12 np A) (hA : lB np 40 A) (hcl : cs.length = n) (hcs : ∀ j c g, cs[j]? = some (c, g) → F (143 + 2 * r) (0 + j) = bI c ∧ F (143 + 2 * q) (0 + j) = g) : ∀ (m k : Nat) (u : Int32) (I1 : Nat → Int32) (F1 : Nat → Nat → Int32), 6 - k = m → k ≤ 6 → (∀ k, k ≠ 8 ∧ (k < 16 ∨ 18 < k) → I1 k = I k) → (∀ k, (k < 9 ∨ 11 < k) ∧ (k < 17 ∨ 19 < k) → F1 k = F k) →
    ∃ I' F', ex cdX9_kinds (rn (d + 9)) 104 [.ref 1, .int (nI i), .int (nI r), .int (nI q), .int v4, .int u, .int (nI k)] [] (hp I1 J F1 G X) = some (some (.int (fitK kd pt i cs A k m u)), hp I' J F' G X) ∧ (∀ k, k ≠ 8 ∧ (k < 16 ∨ 18 < k) → I' k = I k) ∧ ∀ k, (k < 9 ∨ 11 < k) ∧ (k < 17 ∨ 19 < k) → F' k = F k := by
  intro m
  induction m with
  | zero =>
    intro k u I1 F1 e1 e2 f1 f2
    have : k = 6 := by omega
    subst this
    refine ⟨I1, F1, ?_, f1, f2⟩
    rw [xX9_kinds_104, if_pos (by decide)]
    rfl
  | succ m ih =>
    intro k u I1 F1 e1 e2 f1 f2
    -- the draft
    generalize hI2 : upd I1 8 (I1 4) = I2
    generalize hF2 : upF (upF (upF F1 9 (va_cpy (F1 5) (F1 9) 0 0 7)) 10 (va_cpy (F1 6) (F1 10) 0 0 7)) 11 (va_cpy (F1 7) (F1 11) 0 0 7) = F2
    have dr := draft_x (d := d + 7) (I := I1) (J := J) (F := F1) (G := G) (X := X)
    rw [hI2, hF2] at dr
    have j2 : ∀ k, k ≠ 8 ∧ (k < 16 ∨ 18 < k) → I2 k = I k := fun k hk => by rw [← hI2, upd_ne hk.1, f1 k hk]
    have j8 : I2 8 = nI np := by rw [← hI2, upd_eq, f1 4 (by omega)]; exact h4
    have g2 : ∀ k, (k < 9 ∨ 11 < k) ∧ (k < 17 ∨ 19 < k) → F2 k = F k := fun k hk => by rw [← hF2, upF_ne (by omega), upF_ne (by omega), upF_ne (by omega), f2 k hk]
    have g9 : kOK (F2 9) kd np := by
      intro j hj
      rw [← hF2, upF_ne (by decide), upF_ne (by decide), upF_eq, cpy7 (by omega), f2 5 (by omega)]
      exact hk j hj
    have g10 : ∀ k, k < np → F2 10 k = nI (pt k) ∧ pt k < 1000 := by
      intro j hj
      rw [← hF2, upF_ne (by decide), upF_eq, cpy7 (by omega), f2 6 (by omega)]
      exact hp' j hj
    -- its kind
    have hQ3 : QN I2 (upF F2 9 (upd (F2 9) i (nI k))) 12 np A := QN_c hQ (fun j k1 k2 => j2 j (by omega)) (fun j k1 k2 => by rw [upF_ne (by omega), g2 j (by omega)])
    obtain ⟨I4, F4, s1, s2⟩ := setA_x (d := d + 6) (I0 := I2) (F0 := upF F2 9 (upd (F2 9) i (nI k))) (J := J) (G := G) (X := X) hn hA hQ3 (fun _ _ => rfl) (fun _ _ => rfl)
    obtain ⟨I5, F5, A5, t1, t2⟩ := goSo_x (d := d) (n := n) (I := I2) (J := J) (F := upF F2 9 (upd (F2 9) i (nI k))) (G := G) (X := X) (np := np) (kd := kdI kd i k) (pt := pt) hr hq (by omega) (by rw [j2 _ (by omega)]; exact h) (by rw [j2 _ (by omega)]; exact h2) hn j8 (by rw [upF_eq]; exact kdI_ok g9 (by omega)) (by rw [upF_ne (by decide)]; exact g10) cs 0 40 I4 F4 A .null s2 hA (by omega) (by omega) (fun j c g hj => by
      rw [upF_ne (by omega), upF_ne (by omega), g2 _ (by omega), g2 _ (by omega)]
      exact hcs j c g hj)
    rw [nI_0] at t1
    have hgo : cI (rn (d + 9)) 144 [.ref 1, .ref 8, .ref (142 + 2 * r), .ref (142 + 2 * q)] (hp I2 J (upF F2 9 (upd (F2 9) i (nI k))) G X) = some (bI (wso (kdI kd i k) pt cs A), hp I5 J F5 G X) := by
      refine cIo ?_
      rw [rX9_goSo, xX9_goSo_0, x_f5, Option.bind_some, x_f4, Option.bind_some, if_pos x_ai, s1, Option.bind_some, t1]
    have frI : ∀ k, k ≠ 8 ∧ (k < 16 ∨ 18 < k) → I5 k = I k := fun j hj => by rw [t2.2.1 j hj.2, j2 j hj]
    have frF : ∀ k, (k < 9 ∨ 11 < k) ∧ (k < 17 ∨ 19 < k) → F5 k = F k := fun j hj => by rw [t2.2.2 j hj.2, upF_ne (by omega), g2 j hj]
    rw [xX9_kinds_104, if_neg (show ¬ (6 : Int32) ≤ nI k from nI_ge (b := 6) (by omega) (by decide)), x_f3, Option.bind_some, x_f2, Option.bind_some, if_pos x_ri, dr, Option.bind_some, x_f3, Option.bind_some, x_r0, Option.bind_some, x_s9 (by omega), Option.bind_some, x_f3, Option.bind_some, x_f0, Option.bind_some, x_rowR hr, Option.bind_some, Option.bind_some, x_rowR hq, Option.bind_some, if_pos x_is, hgo, Option.bind_some, nI_1]
    unfold fitK
    cases hw : wso (kdI kd i k) pt cs A with
    | false =>
      rw [if_pos (by rfl), if_neg (by decide)]
      exact ih (k + 1) u I5 F5 (by omega) (by omega) frI frF
    | true =>
      rw [if_neg (show ¬ bI true = 0 by decide), if_pos rfl]
      exact ih (k + 1) _ I5 F5 (by omega) (by omega) frI frF
theorem kinds_y {d r q n i : Nat} {v4 : Int32} {cs : List (Bool × Int32)} {A : LSt} (hr : r < 6) (hq : q < 6) (hn20 : n ≤ 20) (h : F 173 r = nI n) (hn : np ≤ 7) (hi : i < np) (hk : kOK (F 170) kd np) (hp' : ∀ k, k < np → F 171 k = nI (pt k) ∧ pt k < 1000) (hL : LineN (F 169) 0 np A) (hA : lB np 40 A) (hcl : cs.length = n) (hcs : ∀ j c g, cs[j]? = some (c, g) → F 174 (40 * r + (0 + j)) = bI c ∧ F 174 (40 * q + (0 + j)) = g) : ∀ (m k : Nat) (u : Int32) (row st : Nat → Int32) (v : Int32), 6 - k = m → k ≤ 6 → (∀ k, k < 3940 → row k = F 169 k) →
    ∃ row' st', ex cdX10_kinds (rn (d + 9)) 93 [.ref 168, .int (nI i), .int (nI r), .int (nI q), .int v4, .int (nI (kd i)), .int u, .int (nI k)] [] (hp I J (tF (upF F 170 (upd (F 170) i v)) row st) G X) = some (some (.int (fitK kd pt i cs A k m u)), hp I J (tF F row' st') G X) ∧ ∀ k, k < 3940 → row' k = F 169 k := by
  have hki : F 170 i = nI (kd i) := (hk i hi).1
  have hu : ∀ (v w : Int32), upd (upd (F 170) i v) i w = upd (F 170) i w := by
    intro v w
    funext j
    by_cases e : j = i
    · subst e; rw [upd_eq, upd_eq]
    · rw [upd_ne e, upd_ne e, upd_ne e]
  have hset : ∀ (row st : Nat → Int32) (v w : Int32), sI (hp I J (tF (upF F 170 (upd (F 170) i v)) row st) G X) 170 (nI i) w = some (hp I J (tF (upF F 170 (upd (F 170) i w)) row st) G X) := by
    intro row st v w
    rw [y_s170 (by omega), tF_ne (by decide) (by decide), upF_eq, hu]
    congr 2
    funext j
    by_cases e : j = 170
    · subst e; rw [upF_eq, tF_ne (by decide) (by decide), upF_eq]
    · rw [upF_ne e]
      by_cases e2 : j = 169
      · subst e2; rw [tF_169, tF_169]
      · by_cases e3 : j = 179
        · subst e3; rw [tF_179, tF_179]
        · rw [tF_ne e2 e3, tF_ne e2 e3, upF_ne e, upF_ne e]
  intro m
  induction m with
  | zero =>
    intro k u row st v e1 e2 f2
    have : k = 6 := by omega
    subst this
    refine ⟨row, st, ?_, f2⟩
    have hback : upF F 170 (upd (F 170) i (nI (kd i))) = F := by
      funext j
      by_cases e : j = 170
      · subst e
        rw [upF_eq]
        funext x
        by_cases e : x = i
        · subst e; rw [upd_eq, hki]
        · rw [upd_ne e]
      · rw [upF_ne e]
    rw [xX10_kinds_93, if_pos (by decide), y_f2, Option.bind_some, hset, Option.bind_some, hback]
    rfl
  | succ m ih =>
    intro k u row st v e1 e2 f2
    have hA' := hA
    obtain ⟨row1, a1, a2, a3⟩ := layT_y (d := d + 6) (I := I) (J := J) (F := upF F 170 (upd (F 170) i (nI k))) (G := G) (X := X) (row := row) (st := st) hn hA (LineN_c (lB_len hn hA) hn hL (fun j j1 j2 => f2 j (by omega)))
    obtain ⟨row2, st2, b1, b2⟩ := wentSo_y (d := d) (n := n) (I := I) (J := J) (F := upF F 170 (upd (F 170) i (nI k))) (G := G) (X := X) (np := np) (kd := kdI kd i k) (pt := pt) hr hq (by omega) (by rw [upF_ne (by decide)]; exact h) hn (by rw [upF_eq]; exact kdI_ok hk (by omega)) (by rw [upF_ne (by decide)]; exact hp') cs 0 40 row1 st A a2 hA (by omega) (by omega) (fun j c g hj => by
      rw [upF_ne (by decide)]
      exact hcs j c g hj)
    rw [nI_0] at b1
    have hgo : cI (rn (d + 9)) 225 [.ref 168, .int (nI r), .int (nI q)] (hp I J (tF (upF F 170 (upd (F 170) i (nI k))) row st) G X) = some (bI (wso (kdI kd i k) pt cs A), hp I J (tF (upF F 170 (upd (F 170) i (nI k))) row2 st2) G X) := by
      refine cIo ?_
      rw [rX10_wentSo, xX10_wentSo_0, if_pos y_is, a1, Option.bind_some, b1]
    rw [xX10_kinds_93, if_neg (show ¬ (6 : Int32) ≤ nI k from nI_ge (b := 6) (by omega) (by decide)), y_f2, Option.bind_some, hset, Option.bind_some, if_pos y_is, hgo, Option.bind_some, nI_1]
    unfold fitK
    have fr : ∀ k, k < 3940 → row2 k = F 169 k := fun j hj => by rw [b2 j hj, a3 j hj, f2 j hj]
    cases hw : wso (kdI kd i k) pt cs A with
    | false =>
      rw [if_pos (by rfl), if_neg (by decide), or0]
      exact ih (k + 1) u row2 st2 (nI k) (by omega) (by omega) fr
    | true =>
      rw [if_neg (show ¬ bI true = 0 by decide), if_pos rfl]
      exact ih (k + 1) _ row2 st2 (nI k) (by omega) (by omega) fr
end KL
theorem pairs_cs {n : Nat} {f g : Nat → Int32} (h : ∀ j, j < n → f j = bI (decide (f j = 1))) : ∃ cs : List (Bool × Int32), cs.length = n ∧ ∀ j c v, cs[j]? = some (c, v) → f (0 + j) = bI c ∧ g (0 + j) = v := by
  refine ⟨(List.range n).map (fun j => (decide (f j = 1), g j)), by simp, fun j c v hj => ?_⟩
  rw [List.getElem?_map] at hj
  by_cases z : j < n
  · rw [List.getElem?_range z] at hj
    have : (decide (f j = 1), g j) = (c, v) := Option.some.inj hj
    rw [Prod.mk.injEq] at this
    rw [Nat.zero_add, ← this.1, ← this.2]
    exact ⟨h j z, rfl⟩
  · rw [List.getElem?_eq_none (by simp; omega)] at hj
    cases hj
theorem g_kinds : gdI 108 226 3 := gdI_of (fun as hn I J F G X np kd pt pr ds ks hR hS => by
  obtain ⟨a, b, b', rfl⟩ := as3 hn
  show okI _ _ [.int a, .int b, .int b'] I J F G X
  obtain ⟨hn7, h4, h168, hk, hk', hp', hp'', hA, hQ, hL⟩ := rel_ctx (G := G) (X := X) hR
  rcases ix a (n := np) (by omega) with ha | ⟨i, hi, rfl⟩
  · refine okI_same (v := -1) hR hS ?_ ?_
    · refine cIo ?_; rw [rX9_kinds, xX9_kinds_0, x_f2, Option.bind_some, if_pos x_ci, has_xn ha h4, Option.bind_some, if_pos rfl]
    · refine cIo ?_; rw [rX10_kinds, xX10_kinds_0, if_pos y_is, isP_yn hn7 ha h168, Option.bind_some, if_pos rfl]
  rcases ix b (n := 6) (by decide) with hb | ⟨r, hr, rfl⟩
  · refine okI_same (v := -1) hR hS ?_ ?_
    · refine cIo ?_; rw [rX9_kinds, xX9_kinds_0, x_f2, Option.bind_some, if_pos x_ci, has_x hn7 hi h4, Option.bind_some, if_neg one_ne, isRow_xn hb, Option.bind_some, if_pos rfl]
    · refine cIo ?_; rw [rX10_kinds, xX10_kinds_0, if_pos y_is, isP_y hn7 hi h168, Option.bind_some, if_neg one_ne, isRow_yn hb, Option.bind_some, if_pos rfl]
  rcases ix b' (n := 6) (by decide) with hb | ⟨q, hq, rfl⟩
  · refine okI_same (v := -1) hR hS ?_ ?_
    · refine cIo ?_; rw [rX9_kinds, xX9_kinds_0, x_f2, Option.bind_some, if_pos x_ci, has_x hn7 hi h4, Option.bind_some, if_neg one_ne, isRow_x hr, Option.bind_some, if_neg one_ne, isRow_xn hb, Option.bind_some, if_pos rfl]
    · refine cIo ?_; rw [rX10_kinds, xX10_kinds_0, if_pos y_is, isP_y hn7 hi h168, Option.bind_some, if_neg one_ne, isRow_y hr, Option.bind_some, if_neg one_ne, isRow_yn hb, Option.bind_some, if_pos rfl]
  obtain ⟨z1, z2, z3⟩ := hR.2.2.1 r hr
  obtain ⟨o, ho, ho40⟩ := sz_of z2
  have z4 := z1.symm.trans ho
  obtain ⟨y1, y2, y3⟩ := hR.2.2.1 q hq
  obtain ⟨o', ho', ho40'⟩ := sz_of y2
  have y4 := y1.symm.trans ho'
  by_cases hc : nwN o (F (143 + 2 * r)) = 0
  · by_cases hc' : nwG np 20 o' (F (143 + 2 * q)) = 0
    · obtain ⟨n, rfl, hn20, hf⟩ := nwN_0 hc
      obtain ⟨n', rfl, hn20'⟩ := nwG_0 hc'
      have hoI : I (142 + 2 * r) = nI n := ho
      have hoI' : I (142 + 2 * q) = nI n' := ho'
      have z5 : F 173 r = nI n := z4
      have y5 : F 173 q = nI n' := y4
      by_cases hnn : n = n'
      · subst hnn
        obtain ⟨cs, hcl, hcs⟩ := pairs_cs (g := F (143 + 2 * q)) hf
        generalize hAe : rep np kd pt ds = A at hA hQ hL
        obtain ⟨I2, F2, t1, t2, t3⟩ := kinds_x (d := 50) (v4 := 0) (I := I) (J := J) (F := F) (G := G) (X := X) hr hq hn20 hoI hoI' hn7 hi h4 hk hp' hQ hA hcl hcs 6 0 0 I F rfl (by omega) (fun _ _ => rfl) (fun _ _ => rfl)
        rw [nI_0] at t1
        have f169 : F2 169 = F 169 := t3 169 (by omega)
        have f173 : F2 173 = F 173 := t3 173 (by omega)
        have f174 : F2 174 = F 174 := t3 174 (by omega)
        have f170 : F2 170 = F 170 := t3 170 (by omega)
        have h168' : I2 168 = nI np := by rw [t2 168 (by omega)]; exact h168
        obtain ⟨row2, st2, w1, w2⟩ := kinds_y (d := 50) (n := n) (i := i) (v4 := 0) (I := I2) (J := J) (F := F2) (G := G) (X := X) (np := np) (kd := kd) (pt := pt) hr hq hn20 (by rw [f173]; exact z4) hn7 hi (by rw [f170]; exact hk') (by rw [t3 171 (by omega)]; exact hp'') (by rw [f169]; exact hL) hA hcl (fun j c g hj => by
          have hjl := (List.getElem?_eq_some_iff.mp hj).1
          rw [f174, z3 _ (by omega), y3 _ (by omega)]; exact hcs j c g hj) 6 0 0 (F2 169) (F2 179) (F2 170 i) rfl (by omega) (fun _ _ => rfl)
        have hid : upF F2 170 (upd (F2 170) i (F2 170 i)) = F2 := by
          funext j
          by_cases e : j = 170
          · subst e
            rw [upF_eq]
            funext x
            by_cases e : x = i
            · subst e; rw [upd_eq]
            · rw [upd_ne e]
          · rw [upF_ne e]
        rw [nI_0, hid, tF_same] at w1
        have hki : F2 170 i = nI (kd i) := by rw [f170]; exact (hk' i hi).1
        refine okI_mk (J2 := J) (G2 := G) (v := fitK kd pt i cs A 0 6 0) (I1 := I2) (J1 := J) (F1 := F2) (X1 := X) (I2 := I2) (F2 := tF F2 row2 st2) ?_ ?_ (rel_scr hR (fun k hk => t2 k (by omega)) (fun k hk => by rw [tF_ne (by omega) (by omega), t3 k (by omega)]) (fun k hk => by rw [tF_169, w2 k hk, f169])) hS
        · refine cIo ?_; rw [rX9_kinds, xX9_kinds_0, x_f2, Option.bind_some, if_pos x_ci, has_x hn7 hi h4, Option.bind_some, if_neg one_ne, isRow_x hr, Option.bind_some, if_neg one_ne, isRow_x hq, Option.bind_some, if_neg one_ne, x_f0, Option.bind_some, x_rowR hr, Option.bind_some, wN_x hr ho ho40, Option.bind_some, hc, if_pos nI_0, x_f0, Option.bind_some, x_rowR hq, Option.bind_some, if_pos x_is, show (20 : Int32) = nI 20 from rfl, wG_x (by decide) hq ho' ho40' h4, Option.bind_some, hc', xX9_kinds_57, if_pos nI_0, x_f0, Option.bind_some, x_rowR hr, Option.bind_some, x_rowN hr, Option.bind_some, Option.bind_some, x_rowR hq, Option.bind_some, x_rowN hq, Option.bind_some, hoI, hoI', if_pos rfl, xX9_kinds_86, if_pos nI_0]
          exact t1
        · refine cIo ?_; rw [rX10_kinds, xX10_kinds_0, if_pos y_is, isP_y hn7 hi h168', Option.bind_some, if_neg one_ne, isRow_y hr, Option.bind_some, if_neg one_ne, isRow_y hq, Option.bind_some, if_neg one_ne, if_pos y_is, noN_y0 (g := F (143 + 2 * r)) hr (by rw [f173]; exact z4) ho40 (by rw [f174]; exact z3) hc, Option.bind_some, if_pos rfl, if_pos y_is, show (20 : Int32) = nI 20 from rfl, noG_y0 (g := F (143 + 2 * q)) (np := np) (by decide) hn7 h168' hq (by rw [f173]; exact y4) ho40' (by rw [f174]; exact y3) hc', Option.bind_some, if_pos rfl, y_f5, Option.bind_some, y_g173 hr, Option.bind_some, Option.bind_some, y_g173 hq, Option.bind_some, f173, z5, y5, if_pos rfl, y_f2, Option.bind_some, y_g170 (by omega), Option.bind_some, hki]
          exact w1
      · have hne : ¬ nI n = nI n' := fun z => hnn ((nI_inj (by omega) (by omega)).mp z)
        refine okI_find 5 (by decide) hR hS ?_ ?_
        · refine cIo ?_; rw [rX9_kinds, xX9_kinds_0, x_f2, Option.bind_some, if_pos x_ci, has_x hn7 hi h4, Option.bind_some, if_neg one_ne, isRow_x hr, Option.bind_some, if_neg one_ne, isRow_x hq, Option.bind_some, if_neg one_ne, x_f0, Option.bind_some, x_rowR hr, Option.bind_some, wN_x hr ho ho40, Option.bind_some, hc, if_pos nI_0, x_f0, Option.bind_some, x_rowR hq, Option.bind_some, if_pos x_is, show (20 : Int32) = nI 20 from rfl, wG_x (by decide) hq ho' ho40' h4, Option.bind_some, hc', xX9_kinds_57, if_pos nI_0, x_f0, Option.bind_some, x_rowR hr, Option.bind_some, x_rowN hr, Option.bind_some, Option.bind_some, x_rowR hq, Option.bind_some, x_rowN hq, Option.bind_some, hoI, hoI', if_neg hne, xX9_kinds_86, if_neg (by decide), if_pos x_is, fx5, Option.bind_some]
        · refine cIo ?_; rw [rX10_kinds, xX10_kinds_0, if_pos y_is, isP_y hn7 hi (by rw [upd_ne (by decide)]; exact h168), Option.bind_some, if_neg one_ne, isRow_y hr, Option.bind_some, if_neg one_ne, isRow_y hq, Option.bind_some, if_neg one_ne, if_pos y_is, noN_y0 (g := F (143 + 2 * r)) hr (by rw [upF_ne (by decide)]; exact z4) ho40 (by rw [upF_ne (by decide)]; exact z3) hc, Option.bind_some, if_pos rfl, if_pos y_is, show (20 : Int32) = nI 20 from rfl, noG_y0 (g := F (143 + 2 * q)) (np := np) (by decide) hn7 (by rw [upd_ne (by decide)]; exact h168) hq (by rw [upF_ne (by decide)]; exact y4) ho40' (by rw [upF_ne (by decide)]; exact y3) hc', Option.bind_some, if_pos rfl, y_f5, Option.bind_some, y_g173 hr, Option.bind_some, Option.bind_some, y_g173 hq, Option.bind_some, upF_ne (by decide), z5, y5, if_neg hne, if_pos y_is, fy5, Option.bind_some, upF_ne (by decide)]
    · have hc0 : ¬ nI (nwG np 20 o' (F (143 + 2 * q))) = 0 := fun z => hc' ((nI_inj (b := 0) (by have := nwG_lt np 20 o' (F (143 + 2 * q)); omega) (by decide)).mp z)
      refine okI_find _ (nwG_lt np 20 o' (F (143 + 2 * q))) hR hS ?_ ?_
      · refine cIo ?_; rw [rX9_kinds, xX9_kinds_0, x_f2, Option.bind_some, if_pos x_ci, has_x hn7 hi h4, Option.bind_some, if_neg one_ne, isRow_x hr, Option.bind_some, if_neg one_ne, isRow_x hq, Option.bind_some, if_neg one_ne, x_f0, Option.bind_some, x_rowR hr, Option.bind_some, wN_x hr ho ho40, Option.bind_some, hc, if_pos nI_0, x_f0, Option.bind_some, x_rowR hq, Option.bind_some, if_pos x_is, show (20 : Int32) = nI 20 from rfl, wG_x (by decide) hq ho' ho40' h4, Option.bind_some, xX9_kinds_57, if_neg hc0, xX9_kinds_86, if_neg hc0, if_pos x_is, find_x (nwG_lt _ _ _ _), Option.bind_some]
      · refine cIo ?_; rw [rX10_kinds, xX10_kinds_0, if_pos y_is, isP_y hn7 hi (by rw [upd_ne (by decide)]; exact h168), Option.bind_some, if_neg one_ne, isRow_y hr, Option.bind_some, if_neg one_ne, isRow_y hq, Option.bind_some, if_neg one_ne, if_pos y_is, noN_y0 (g := F (143 + 2 * r)) hr (by rw [upF_ne (by decide)]; exact z4) ho40 (by rw [upF_ne (by decide)]; exact z3) hc, Option.bind_some, if_pos rfl, if_pos y_is, show (20 : Int32) = nI 20 from rfl, noG_y1 (g := F (143 + 2 * q)) (np := np) (by decide) hn7 (by rw [upd_ne (by decide)]; exact h168) hq (by rw [upF_ne (by decide)]; exact y4) ho40' (by rw [upF_ne (by decide)]; exact y3) rfl hc', Option.bind_some, if_neg m3_ne, upF_ne (by decide)]
  · have hc0 : ¬ nI (nwN o (F (143 + 2 * r))) = 0 := fun z => hc ((nI_inj (b := 0) (by have := nwN_lt o (F (143 + 2 * r)); omega) (by decide)).mp z)
    refine okI_find _ (nwN_lt o (F (143 + 2 * r))) hR hS ?_ ?_
    · refine cIo ?_; rw [rX9_kinds, xX9_kinds_0, x_f2, Option.bind_some, if_pos x_ci, has_x hn7 hi h4, Option.bind_some, if_neg one_ne, isRow_x hr, Option.bind_some, if_neg one_ne, isRow_x hq, Option.bind_some, if_neg one_ne, x_f0, Option.bind_some, x_rowR hr, Option.bind_some, wN_x hr ho ho40, Option.bind_some, if_neg hc0, xX9_kinds_57, if_neg hc0, xX9_kinds_86, if_neg hc0, if_pos x_is, find_x (nwN_lt _ _), Option.bind_some]
    · refine cIo ?_; rw [rX10_kinds, xX10_kinds_0, if_pos y_is, isP_y hn7 hi (by rw [upd_ne (by decide)]; exact h168), Option.bind_some, if_neg one_ne, isRow_y hr, Option.bind_some, if_neg one_ne, isRow_y hq, Option.bind_some, if_neg one_ne, if_pos y_is, noN_y1 (g := F (143 + 2 * r)) hr (by rw [upF_ne (by decide)]; exact z4) ho40 (by rw [upF_ne (by decide)]; exact z3) rfl hc, Option.bind_some, if_neg m3_ne, upF_ne (by decide)])
