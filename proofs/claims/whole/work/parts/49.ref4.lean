/-! the reference: a night passes -/
section RL
variable {row : Nat → Int32} {b nt : Nat} {L : List Nat} {wt : Nat → Nat} {wn : Nat → Int32} {gu : Int32}
theorem LineAt_wt (hL : LineAt row b (L, wt, wn, nt, gu)) (hl : L.length ≤ 7) {x : Nat} (hx : x < 7) (v : Nat) : LineAt (upd row (b + 10 + x) (nI v)) b (L, (fun y => if y = x then v else wt y), wn, nt, gu) := by
  obtain ⟨l1, l2, l3, l4, l5, l6⟩ := hL
  dsimp only at l1 l2 l3 l4 l5 l6
  refine ⟨?_, ?_, fun k y hk => ?_, fun j hj => ?_, fun j hj => ?_, ?_⟩
  · show upd row _ _ (b + 1) = _
    rw [upd_ne (by omega)]; exact l1
  · show upd row _ _ (b + 2) = _
    rw [upd_ne (by omega)]; exact l2
  · have hkl : k < L.length := (List.getElem?_eq_some_iff.mp hk).1
    rw [upd_ne (by omega)]; exact l3 k y hk
  · show upd row _ _ (b + 10 + j) = nI (if j = x then v else wt j)
    by_cases e : j = x
    · subst e; rw [upd_eq, if_pos rfl]
    · rw [upd_ne (by omega), if_neg e]; exact l4 j hj
  · rw [upd_ne (by omega)]; exact l5 j hj
  · show upd row _ _ (b + 24) = _
    rw [upd_ne (by omega)]; exact l6
theorem LineAt_wn (hL : LineAt row b (L, wt, wn, nt, gu)) (hl : L.length ≤ 7) {x : Nat} (hx : x < 7) (v : Int32) : LineAt (upd row (b + 17 + x) v) b (L, wt, upd wn x v, nt, gu) := by
  obtain ⟨l1, l2, l3, l4, l5, l6⟩ := hL
  dsimp only at l1 l2 l3 l4 l5 l6
  refine ⟨?_, ?_, fun k y hk => ?_, fun j hj => ?_, fun j hj => ?_, ?_⟩
  · show upd row _ _ (b + 1) = _
    rw [upd_ne (by omega)]; exact l1
  · show upd row _ _ (b + 2) = _
    rw [upd_ne (by omega)]; exact l2
  · have hkl : k < L.length := (List.getElem?_eq_some_iff.mp hk).1
    rw [upd_ne (by omega)]; exact l3 k y hk
  · rw [upd_ne (by omega)]; exact l4 j hj
  · show upd row _ _ (b + 17 + j) = upd wn x v j
    by_cases e : j = x
    · subst e; rw [upd_eq, upd_eq]
    · rw [upd_ne (by omega), upd_ne e]; exact l5 j hj
  · show upd row _ _ (b + 24) = _
    rw [upd_ne (by omega)]; exact l6
theorem LineAt_gu (hL : LineAt row b (L, wt, wn, nt, gu)) (hl : L.length ≤ 7) (v : Int32) : LineAt (upd row (b + 24) v) b (L, wt, wn, nt, v) := by
  obtain ⟨l1, l2, l3, l4, l5, l6⟩ := hL
  dsimp only at l1 l2 l3 l4 l5 l6
  refine ⟨?_, ?_, fun k y hk => ?_, fun j hj => ?_, fun j hj => ?_, ?_⟩
  · show upd row _ _ (b + 1) = _
    rw [upd_ne (by omega)]; exact l1
  · show upd row _ _ (b + 2) = _
    rw [upd_ne (by omega)]; exact l2
  · have hkl : k < L.length := (List.getElem?_eq_some_iff.mp hk).1
    rw [upd_ne (by omega)]; exact l3 k y hk
  · rw [upd_ne (by omega)]; exact l4 j hj
  · rw [upd_ne (by omega)]; exact l5 j hj
  · exact upd_eq _ _ _
theorem LineAt_nt (hL : LineAt row b (L, wt, wn, nt, gu)) (n : Nat) : LineAt (upd row (b + 1) (nI n)) b (L, wt, wn, n, gu) := by
  obtain ⟨l1, l2, l3, l4, l5, l6⟩ := hL
  dsimp only at l1 l2 l3 l4 l5 l6
  refine ⟨?_, ?_, fun k y hk => ?_, fun j hj => ?_, fun j hj => ?_, ?_⟩
  · exact upd_eq _ _ _
  · show upd row _ _ (b + 2) = _
    rw [upd_ne (by omega)]; exact l2
  · rw [upd_ne (by omega)]; exact l3 k y hk
  · rw [upd_ne (by omega)]; exact l4 j hj
  · rw [upd_ne (by omega)]; exact l5 j hj
  · show upd row _ _ (b + 24) = _
    rw [upd_ne (by omega)]; exact l6
end RL
section RB
variable {h : mH} {kf pf st : Nat → Int32} {b np nt : Nat} {kd pt : Nat → Nat} {wn : Nat → Int32}
theorem r_back_loop {d : Nat} (hd : 1 ≤ d) (hm : Mat h kf pf) (hn : np ≤ 7) (hp : ∀ k, k < np → pf k = nI (pt k) ∧ pt k < 1000) (hb : b + 24 < 3965) (v2 v3 v4 : Int32) : ∀ (Z Y : List Nat) (row : Nat → Int32) (wt : Nat → Nat) (gu : Int32) (v6 : Value), Z.length + Y.length ≤ 7 → (∀ y ∈ Z, y < np) → LineAt row b (Z.reverse ++ Y, wt, wn, nt, gu) → (∀ j, wt j + Z.length < 10000) →
    ∃ row', ex cdX10_pass (rn d) 89 [.ref 168, .int (nI b), .int v2, .int v3, .int v4, .int (nI Z.length - 1), v6] [] (putM h row st) = some (some (.int v4), putM h row' st) ∧ LineAt row' b ((backR pt Z Y wt gu).1, (backR pt Z Y wt gu).2.1, wn, nt + 1, (backR pt Z Y wt gu).2.2) ∧ RFr row row' b := by
  intro Z
  induction Z with
  | nil =>
    intro Y row wt gu v6 h1 h2 hL h4
    refine ⟨upd row (b + 1) (nI (nt + 1)), ?_, LineAt_nt (show LineAt row b (Y, wt, wn, nt, gu) from by simpa using hL) (nt + 1), RFr.up _ (by omega) (by omega)⟩
    rw [xX10_pass_89, if_pos (show nI ([] : List Nat).length - 1 < 0 by decide), m_r0 hm, Option.bind_some, p1, m_row hm (by omega), Option.bind_some, hL.1, m_srow hm (by omega), Option.bind_some]
    rw [nI_1]
  | cons x Z ih =>
    intro Y row wt gu v6 h1 h2 hL h4
    simp only [List.length_cons] at h1 h4
    have hx : x < np := h2 x List.mem_cons_self
    have hZ : ∀ y ∈ Z, y < np := fun y hy => h2 y (List.mem_cons_of_mem _ hy)
    have e1 : (x :: Z).reverse ++ Y = Z.reverse ++ x :: Y := by simp
    rw [e1] at hL
    have hl7 : (Z.reverse ++ x :: Y).length ≤ 7 := by simp; omega
    have gx : (Z.reverse ++ x :: Y)[Z.length]? = some x := by
      rw [List.getElem?_append_right (by simp), List.length_reverse, Nat.sub_self]; rfl
    have rx := hL.2.2.1 _ _ gx
    have rw1 := hL.2.2.2.1 x (by omega)
    dsimp only at rw1
    have hL1 := LineAt_wt hL hl7 (show x < 7 by omega) (wt x + 1)
    have hf1 : RFr row (upd row (b + 10 + x) (nI (wt x + 1))) b := RFr.up _ (by omega) (by omega)
    have hw7 : ∀ j, (if j = x then wt x + 1 else wt j) + Z.length < 10000 := fun j => by
      have := h4 j
      have := h4 x
      split <;> omega
    have hlt : (nI (wt x + 1) < nI (pt x)) ↔ wt x + 1 < pt x := nI_ltI (by have := h4 x; omega) (by have := (hp x hx).2; omega)
    rw [xX10_pass_89, show nI (x :: Z).length - 1 = nI Z.length from nI_pred _, if_neg (nI_pos (by omega)), m_r0 hm, Option.bind_some, p3, nI_add, m_row hm (by omega), Option.bind_some, rx, Option.bind_some, p10, nI_add, m_row hm (by omega), Option.bind_some, rw1, nI_1, m_srow hm (by omega), Option.bind_some, m_r0 hm, Option.bind_some, m_row hm (by omega), Option.bind_some, m_r3 hm, Option.bind_some, m_pt hm (by omega), Option.bind_some, upd_eq, (hp x hx).1]
    unfold backR
    by_cases e2 : wt x + 1 < pt x
    · rw [if_pos (hlt.mpr e2), if_pos e2, m1]
      obtain ⟨row', g1, g2, g3⟩ := ih (x :: Y) _ _ gu (.int (nI x)) (by simp; omega) hZ hL1 hw7
      exact ⟨row', g1, g2, hf1.tr g3⟩
    · have hL2 := LineAt_gu hL1 hl7 (guS gu x)
      have r24 : upd row (b + 10 + x) (nI (wt x + 1)) (b + 24) = gu := hL1.2.2.2.2.2
      obtain ⟨row2, f1, f2, f3⟩ := r_leaves (st := st) hd hm hb (A := Z.reverse) hL2 hl7
      rw [List.length_reverse] at f1
      obtain ⟨row', g1, g2, g3⟩ := ih Y row2 _ (guS gu x) (.int (nI x)) (by omega) hZ f2 hw7
      rw [if_neg (fun z => e2 (hlt.mp z)), if_neg e2]
      refine ⟨row', ?_, g2, (hf1.tr (RFr.up _ (by omega) (by omega))).tr (f3.tr g3)⟩
      rw [Option.bind_some, p24, m_row hm (by omega), Option.bind_some, r24, m_srow hm (by omega), Option.bind_some, if_pos (m_is hm)]
      show (Option.bind (cV (rn d) 182 [.ref 168, .int (nI b), .int (nI Z.length)] (putM h (upd (upd row (b + 10 + x) (nI (wt x + 1))) (b + 24) (guS gu x)) st)) _) = _
      rw [f1, Option.bind_some, m1]
      exact g1
theorem r_pass {d : Nat} (hd : 8 ≤ d) {row : Nat → Int32} {A : LSt} (hm : Mat h kf pf) (hn : np ≤ 7) (hk : kOK kf kd np) (hp : ∀ k, k < np → pf k = nI (pt k) ∧ pt k < 1000) (hb : b + 24 < 3965) (hL : LineAt row b A) (hA : lOK np A) (clear : Bool) :
    ∃ row' st', cI (rn d) 184 [.ref 168, .int (nI b), .int (bI clear)] (putM h row st) = some (oI (passA kd pt A clear).1, putM h row' st') ∧ LineAt row' b (passA kd pt A clear).2 ∧ RFr row row' b := by
  obtain ⟨L, wt, wn, nt, gu⟩ := A
  obtain ⟨hnd, hbd, hnt, hwt⟩ := hA
  dsimp only at hnd hbd hnt hwt
  have hl := nodup_len hnd hbd
  obtain ⟨d, rfl⟩ := d1 (show 1 ≤ d by omega)
  obtain ⟨row1, st1, p1', hL1, f1⟩ := r_pushes (d := d) (by omega) hm hn hk (by omega) hb hL hnd hbd st
  have hperm := pushA_perm kd nt L
  have hl1 : (pushA kd nt L).length = L.length := hperm.length_eq
  have hb1 : ∀ y ∈ pushA kd nt L, y < np := fun y hy => hbd y (hperm.mem_iff.mp hy)
  have hnd1 : (pushA kd nt L).Nodup := hperm.nodup_iff.mpr hnd
  have hwt1 : ∀ j, wt j + 7 < 10000 := fun j => by have := hwt j; omega
  unfold passA
  dsimp only
  -- the end, over who stays
  have last : ∀ (v2 v3 v4 : Int32) (L2 : List Nat) (wn2 : Nat → Int32) (row2 : Nat → Int32), L2.length ≤ 7 → (∀ y ∈ L2, y < np) → LineAt row2 b (L2, wt, wn2, nt, gu) → RFr row row2 b → ∃ row', ex cdX10_pass (rn d) 77 [.ref 168, .int (nI b), .int v2, .int v3, .int v4, .null, .null] [] (putM h row2 st1) = some (some (.int v4), putM h row' st1) ∧ LineAt row' b ((backR pt L2.reverse [] wt gu).1, (backR pt L2.reverse [] wt gu).2.1, wn2, nt + 1, (backR pt L2.reverse [] wt gu).2.2) ∧ RFr row row' b := by
    intro v2 v3 v4 L2 wn2 row2 h2 h3 hL2 f2
    obtain ⟨row', g1, g2, g3⟩ := r_back_loop (st := st1) (d := d) (by omega) hm hn hp hb v2 v3 v4 L2.reverse [] row2 wt gu .null (by simpa using h2) (fun y hy => h3 y (List.mem_reverse.mp hy)) (by simpa using hL2) (fun j => by have := hwt1 j; simp; omega)
    refine ⟨row', ?_, g2, f2.tr g3⟩
    rw [List.length_reverse] at g1
    rw [xX10_pass_77, m_r0 hm, Option.bind_some, p2, m_row hm (by omega), Option.bind_some, hL2.2.1]
    exact g1
  have none_go : ∀ v2 : Int32, ∃ row' , ex cdX10_pass (rn d) 20 [.ref 168, .int (nI b), .int v2, .null, .null, .null, .null] [.int (-9)] (putM h row1 st1) = some (some (.int (oI none)), putM h row' st1) ∧ LineAt row' b ((waitR pt none (pushA kd nt L) [] wt gu).1, (waitR pt none (pushA kd nt L) [] wt gu).2.1, wnS wn none nt, nt + 1, (waitR pt none (pushA kd nt L) [] wt gu).2.2) ∧ RFr row row' b := by
    intro v2
    obtain ⟨row', g1, g2, g3⟩ := last v2 (-9) (-9) (pushA kd nt L) wn row1 (by omega) hb1 hL1 f1
    rw [wait_back (gone := none) hnd1 (L2 := pushA kd nt L) (List.filter_eq_self.mpr (fun y _ => by simp)).symm]
    refine ⟨row', ?_, g2, g3⟩
    rw [xX10_pass_20, if_pos rfl, xX10_pass_42, if_pos rfl]
    exact g1
  cases clear with
  | false =>
    obtain ⟨row', g1, g2, g3⟩ := none_go (bI false)
    refine ⟨row', st1, ?_, g2, g3⟩
    unfold cI
    rw [rX10_pass, xX10_pass_0, if_pos (m_is hm), p1', Option.bind_some, if_neg (by decide), g1]
    rfl
  | true =>
    have hg := r_goer (d := d) (st := st1) (by omega) hm hn hk (show nt < 1000 by omega) hb hL1 (by omega) hb1
    simp only [if_true]
    rcases goI_goA (kd := kd) (nt := nt) hnd1 with ⟨e1, e2⟩ | ⟨j, x, e1, e2, e3⟩
    · obtain ⟨row', g1, g2, g3⟩ := none_go (bI true)
      rw [e2]
      refine ⟨row', st1, ?_, g2, g3⟩
      unfold cI
      rw [rX10_pass, xX10_pass_0, if_pos (m_is hm), p1', Option.bind_some, if_pos (by decide), if_pos (m_is hm), hg, Option.bind_some, e1]
      have g1' : ex cdX10_pass (rn d) 20 [.ref 168, .int (nI b), .int (bI true), .null, .null, .null, .null] [.int (oI none)] (putM h row1 st1) = _ := g1
      rw [g1']
    · have hj : j < (pushA kd nt L).length := (List.getElem?_eq_some_iff.mp e2).1
      have hxe : (pushA kd nt L)[j] = x := (List.getElem?_eq_some_iff.mp e2).2
      have hx : x < np := hb1 x (List.mem_of_getElem? e2)
      have hsplit : pushA kd nt L = (pushA kd nt L).take j ++ x :: (pushA kd nt L).drop (j + 1) := by
        rw [← hxe, ← List.drop_eq_getElem_cons hj, List.take_append_drop]
      generalize hAe : (pushA kd nt L).take j = A at hsplit
      generalize hBe : (pushA kd nt L).drop (j + 1) = B at hsplit
      have hAl : A.length = j := by rw [← hAe, List.length_take]; omega
      have hL2 := LineAt_wn hL1 (by omega) (show x < 7 by omega) (nI nt)
      have hL2' : LineAt (upd row1 (b + 17 + x) (nI nt)) b (A ++ x :: B, wt, upd wn x (nI nt), nt, gu) := by rw [← hsplit]; exact hL2
      obtain ⟨row3, q1, q2, q3⟩ := r_leaves (d := d) (st := st1) (by omega) hm hb hL2' (by rw [← hsplit]; omega)
      rw [hAl] at q1
      have hnd2 : (A ++ x :: B).Nodup := hsplit ▸ hnd1
      have hfil : A ++ B = (pushA kd nt L).filter (fun y => decide (some x ≠ some y)) := by
        have hA : ∀ y ∈ A, x ≠ y := fun y hy z => (List.nodup_append.mp hnd2).2.2 y hy x List.mem_cons_self z.symm
        have hB : ∀ y ∈ B, x ≠ y := fun y hy z => (List.nodup_cons.mp (List.nodup_append.mp hnd2).2.1).1 (z ▸ hy)
        rw [hsplit, List.filter_append, List.filter_cons]
        simp only [ne_eq, not_true_eq_false, decide_false, Bool.false_eq_true, if_false]
        rw [List.filter_eq_self.mpr (fun y hy => by simpa using hA y hy), List.filter_eq_self.mpr (fun y hy => by simpa using hB y hy)]
      have hlen : (pushA kd nt L).length = A.length + B.length + 1 := by rw [hsplit]; simp; omega
      have hmem : ∀ y ∈ A ++ B, y < np := fun y hy => hb1 y (by rw [hsplit]; rcases List.mem_append.mp hy with z | z <;> simp [z])
      obtain ⟨row', g1, g2, g3⟩ := last (bI true) (nI j) (nI x) (A ++ B) (upd wn x (nI nt)) row3 (by simp; omega) hmem q2 (f1.tr ((RFr.up _ (by omega) (by omega)).tr q3))
      rw [e3, wait_back (gone := some x) hnd1 hfil]
      refine ⟨row', st1, ?_, g2, g3⟩
      have rj := hL1.2.2.1 j x e2
      unfold cI
      rw [rX10_pass, xX10_pass_0, if_pos (m_is hm), p1', Option.bind_some, if_pos (by decide), if_pos (m_is hm), hg, Option.bind_some, e1, xX10_pass_20]
      rw [if_neg (show ¬ oI (some j) = -9 from nI_ne9 (by omega)), m_r0 hm, Option.bind_some, p3, oI_some, nI_add, m_row hm (by omega), Option.bind_some, rj, xX10_pass_42, if_neg (nI_ne9 (by omega)), m_r0 hm, Option.bind_some, Option.bind_some, p1, m_row hm (by omega), Option.bind_some, hL1.1, p17, nI_add, m_srow hm (by omega), Option.bind_some, if_pos (m_is hm), q1, Option.bind_some, g1]
      rfl
end RB
