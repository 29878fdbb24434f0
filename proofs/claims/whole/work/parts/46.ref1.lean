/-! the reference: its row of numbers, a line in it -/
def mfl (ps ak : Int32) (up lo : Int64) (fi fr pl en rm pd : Int32) : List Value := [.ref 169, .int ps, .ref 170, .ref 171, .ref 172, .ref 173, .ref 174, .ref 175, .ref 176, .int ak, .long up, .long lo, .int fi, .ref 177, .int fr, .int pl, .int en, .ref 178, .int rm, .ref 179, .int pd, .ref 180, .ref 181, .ref 182]
def putM (h : mH) (row st : Nat → Int32) : mH := (h.set 169 (ar 3965 row)).set 179 (ar 7 st)
/-- the reference's object, its kinds and patiences, as the nights need them -/
def Mat (h : mH) (kf pf : Nat → Int32) : Prop := (∃ ps ak up lo fi fr pl en rm pd, h[168]? = some (.inr (10, mfl ps ak up lo fi fr pl en rm pd))) ∧ h[170]? = some (ar 7 kf) ∧ h[171]? = some (ar 7 pf) ∧ 182 < h.length
theorem putM_o {h : mH} {row st : Nat → Int32} {k : Nat} (h1 : k ≠ 169) (h2 : k ≠ 179) : (putM h row st)[k]? = h[k]? := by
  unfold putM
  rw [List.getElem?_set_ne (by omega), List.getElem?_set_ne (by omega)]
theorem putM_r {h : mH} {row st : Nat → Int32} (hl : 182 < h.length) : (putM h row st)[169]? = some (ar 3965 row) := by
  unfold putM
  rw [List.getElem?_set_ne (by decide), List.getElem?_set_self (by omega)]
theorem putM_s {h : mH} {row st : Nat → Int32} (hl : 182 < h.length) : (putM h row st)[179]? = some (ar 7 st) := by
  unfold putM
  rw [List.getElem?_set_self (by rw [List.length_set]; omega)]
theorem putM_len {h : mH} {row st : Nat → Int32} : (putM h row st).length = h.length := by simp [putM]
theorem putM_set169 {h : mH} {row st row' : Nat → Int32} (hl : 182 < h.length) : (putM h row st).set 169 (ar 3965 row') = putM h row' st := by
  apply lst_ext
  intro k
  rw [List.getElem?_set]
  by_cases e : 169 = k
  · subst e
    rw [if_pos rfl, if_pos (by rw [putM_len]; omega), putM_r hl]
  · rw [if_neg e]
    by_cases e2 : k = 179
    · subst e2
      rw [putM_s hl, putM_s hl]
    · rw [putM_o (by omega) e2, putM_o (by omega) e2]
theorem putM_set179 {h : mH} {row st st' : Nat → Int32} (hl : 182 < h.length) : (putM h row st).set 179 (ar 7 st') = putM h row st' := by
  apply lst_ext
  intro k
  rw [List.getElem?_set]
  by_cases e : 179 = k
  · subst e
    rw [if_pos rfl, if_pos (by rw [putM_len]; omega), putM_s hl]
  · rw [if_neg e]
    by_cases e2 : k = 169
    · subst e2
      rw [putM_r hl, putM_r hl]
    · rw [putM_o e2 (by omega), putM_o e2 (by omega)]
theorem putM_same {h : mH} {row st : Nat → Int32} (h1 : h[169]? = some (ar 3965 row)) (h2 : h[179]? = some (ar 7 st)) (hl : 182 < h.length) : putM h row st = h := by
  apply lst_ext
  intro k
  by_cases e : k = 169
  · subst e; rw [putM_r hl, h1]
  · by_cases e2 : k = 179
    · subst e2; rw [putM_s hl, h2]
    · rw [putM_o e e2]
section MV
variable {h : mH} {kf pf row st : Nat → Int32}
theorem m_is (hm : Mat h kf pf) : isO (putM h row st) 168 10 = true := by
  obtain ⟨⟨_, _, _, _, _, _, _, _, _, _, e⟩, -⟩ := hm
  exact isO_at (by rw [putM_o (by decide) (by decide)]; exact e)
theorem m_r0 (hm : Mat h kf pf) : gR (putM h row st) 168 10 0 = some 169 := by
  obtain ⟨⟨_, _, _, _, _, _, _, _, _, _, e⟩, -⟩ := hm
  exact gR_at (by rw [putM_o (by decide) (by decide)]; exact e) rfl
theorem m_r2 (hm : Mat h kf pf) : gR (putM h row st) 168 10 2 = some 170 := by
  obtain ⟨⟨_, _, _, _, _, _, _, _, _, _, e⟩, -⟩ := hm
  exact gR_at (by rw [putM_o (by decide) (by decide)]; exact e) rfl
theorem m_r3 (hm : Mat h kf pf) : gR (putM h row st) 168 10 3 = some 171 := by
  obtain ⟨⟨_, _, _, _, _, _, _, _, _, _, e⟩, -⟩ := hm
  exact gR_at (by rw [putM_o (by decide) (by decide)]; exact e) rfl
theorem m_r19 (hm : Mat h kf pf) : gR (putM h row st) 168 10 19 = some 179 := by
  obtain ⟨⟨_, _, _, _, _, _, _, _, _, _, e⟩, -⟩ := hm
  exact gR_at (by rw [putM_o (by decide) (by decide)]; exact e) rfl
theorem m_row (hm : Mat h kf pf) {k : Nat} (hk : k < 3965) : aI 0 (putM h row st) 169 (nI k) = some (row k) := by rw [aI_at (putM_r hm.2.2.2) (vin_nI hk (by decide)), nI_clamp (by omega)]
theorem m_st (hm : Mat h kf pf) {k : Nat} (hk : k < 7) : aI 0 (putM h row st) 179 (nI k) = some (st k) := by rw [aI_at (putM_s hm.2.2.2) (vin_nI hk (by decide)), nI_clamp (by omega)]
theorem m_kd (hm : Mat h kf pf) {k : Nat} (hk : k < 7) : aI 0 (putM h row st) 170 (nI k) = some (kf k) := by rw [aI_at (by rw [putM_o (by decide) (by decide)]; exact hm.2.1) (vin_nI hk (by decide)), nI_clamp (by omega)]
theorem m_pt (hm : Mat h kf pf) {k : Nat} (hk : k < 7) : aI 0 (putM h row st) 171 (nI k) = some (pf k) := by rw [aI_at (by rw [putM_o (by decide) (by decide)]; exact hm.2.2.1) (vin_nI hk (by decide)), nI_clamp (by omega)]
theorem m_srow (hm : Mat h kf pf) {k : Nat} (hk : k < 3965) (x : Int32) : sI (putM h row st) 169 (nI k) x = some (putM h (upd row k x) st) := by rw [sI_at (putM_r hm.2.2.2) (vin_nI hk (by decide)), nI_clamp (by omega), putM_set169 hm.2.2.2]
theorem m_sst (hm : Mat h kf pf) {k : Nat} (hk : k < 7) (x : Int32) : sI (putM h row st) 179 (nI k) x = some (putM h row (upd st k x)) := by rw [sI_at (putM_s hm.2.2.2) (vin_nI hk (by decide)), nI_clamp (by omega), putM_set179 hm.2.2.2]
end MV
theorem p1 (b : Nat) : nI b + 1 = nI (b + 1) := nI_add b 1
theorem p2 (b : Nat) : nI b + 2 = nI (b + 2) := nI_add b 2
theorem p3 (b : Nat) : nI b + 3 = nI (b + 3) := nI_add b 3
theorem p10 (b : Nat) : nI b + 10 = nI (b + 10) := nI_add b 10
theorem p17 (b : Nat) : nI b + 17 = nI (b + 17) := nI_add b 17
theorem p24 (b : Nat) : nI b + 24 = nI (b + 24) := nI_add b 24
/-- a line in the row, from a place on -/
def LineAt (row : Nat → Int32) (b : Nat) (A : LSt) : Prop := row (b + 1) = nI A.2.2.2.1 ∧ row (b + 2) = nI A.1.length ∧ (∀ k x, A.1[k]? = some x → row (b + 3 + k) = nI x) ∧ (∀ j, j < 7 → row (b + 10 + j) = nI (A.2.1 j)) ∧ (∀ j, j < 7 → row (b + 17 + j) = A.2.2.1 j) ∧ row (b + 24) = A.2.2.2.2
def RFr (row row' : Nat → Int32) (b : Nat) : Prop := ∀ k, (k < b + 1 ∨ b + 24 < k) → row' k = row k
theorem RFr.rf (row : Nat → Int32) (b : Nat) : RFr row row b := fun _ _ => rfl
theorem RFr.tr {r1 r2 r3 : Nat → Int32} {b : Nat} (h1 : RFr r1 r2 b) (h2 : RFr r2 r3 b) : RFr r1 r3 b := fun k hk => (h2 k hk).trans (h1 k hk)
theorem RFr.up {row : Nat → Int32} {b k : Nat} (x : Int32) (h1 : b + 1 ≤ k) (h2 : k ≤ b + 24) : RFr row (upd row k x) b := fun j hj => upd_ne (by omega)
section RS
variable {h : mH} {kf pf row st : Nat → Int32} {b np nt : Nat} {kd pt : Nat → Nat} {L : List Nat} {wt : Nat → Nat} {wn : Nat → Int32} {gu : Int32}
theorem r_asleep {d : Nat} (hd : 1 ≤ d) (hm : Mat h kf pf) (hn : np ≤ 7) (hk : kOK kf kd np) (ht : nt < 1000) {x : Nat} (hx : x < np) : cI (rn d) 174 [.ref 168, .int (nI x), .int (nI nt)] (putM h row st) = some (bI (asl kd nt x), putM h row st) := by
  obtain ⟨d, rfl⟩ := d1 hd
  obtain ⟨k1, k2⟩ := hk x hx
  unfold cI
  rw [rX10_isAsleep, xX10_isAsleep_0, m_r2 hm, Option.bind_some, m_kd hm (by omega), Option.bind_some, k1]
  have e2 : (nI (kd x) = 2) ↔ kd x = 2 := nI_inj (b := 2) (by omega) (by decide)
  have e5 : (nI (kd x) = 5) ↔ kd x = 5 := nI_inj (b := 5) (by omega) (by decide)
  have e3 : nI nt - nI nt / 3 * 3 = nI (nt % 3) := pk_rem (d := 3) (by omega) (by decide) (by decide)
  have e0 : (nI (nt % 3) = 0) ↔ nt % 3 = 0 := nI_inj (b := 0) (by omega) (by decide)
  simp only [Option.bind_some, m_kd hm (show x < 7 by omega), k1, e2, e5, e3, e0]
  unfold asl
  by_cases a : kd x = 2
  · simp [a, bI]
  · by_cases b : kd x = 5
    · by_cases z : nt % 3 = 0
      · simp [b, z, bI]
      · simp [b, z, bI]
    · simp [a, b, bI]
theorem r_sleepsAt {d : Nat} (hd : 2 ≤ d) (hm : Mat h kf pf) (hn : np ≤ 7) (hk : kOK kf kd np) (ht : nt < 1000) (hb : b + 24 < 3965) (hL : LineAt row b (L, wt, wn, nt, gu)) (hl : L.length ≤ 7) (hbd : ∀ y ∈ L, y < np) {k x : Nat} (hx : L[k]? = some x) : cI (rn d) 175 [.ref 168, .int (nI b), .int (nI k)] (putM h row st) = some (bI (asl kd nt x), putM h row st) := by
  obtain ⟨d, rfl⟩ := d1 (show 1 ≤ d by omega)
  have hkl : k < L.length := (List.getElem?_eq_some_iff.mp hx).1
  unfold cI
  rw [rX10_sleepsAt, xX10_sleepsAt_0, m_r0 hm, Option.bind_some, p3, nI_add, m_row hm (by omega), Option.bind_some, Option.bind_some, p1, m_row hm (by omega), Option.bind_some, if_pos (m_is hm), hL.2.2.1 k x hx, hL.1, r_asleep (by omega) hm hn hk ht (hbd x (List.mem_of_getElem? hx)), Option.bind_some, if_pos (bI_and _)]
theorem r_place_loop {d : Nat} (hm : Mat h kf pf) (hb : b + 24 < 3965) (hL : LineAt row b (L, wt, wn, nt, gu)) (hl : L.length ≤ 7) (hbd : ∀ y ∈ L, y < 7) {x : Nat} (hx : x < 7) : ∀ (m k : Nat), L.length - k = m → k ≤ L.length → ex cdX10_placeOf (rn d) 2 [.ref 168, .int (nI b), .int (nI x), .int (nI k)] [] (putM h row st) = some (some (.int (oI ((plc (L.drop k) x).map (fun j => k + j)))), putM h row st) := by
  intro m
  induction m with
  | zero =>
    intro k h1 h2
    have : k = L.length := by omega
    subst this
    rw [xX10_placeOf_2, m_r0 hm, Option.bind_some, p2, m_row hm (by omega), Option.bind_some, hL.2.1, if_pos (nI_le (Nat.le_refl _) (by show L.length < 2 ^ 31; omega))]
    simp [plc, oI]
  | succ m ih =>
    intro k h1 h2
    have hkl : k < L.length := by omega
    rw [xX10_placeOf_2, m_r0 hm, Option.bind_some, p2, m_row hm (by omega), Option.bind_some, hL.2.1, if_neg (nI_ge (by exact hkl) (by show L.length < 2 ^ 31; omega)), Option.bind_some, p3, nI_add, m_row hm (by omega), Option.bind_some, hL.2.2.1 k L[k] (List.getElem?_eq_getElem hkl)]
    have hy : L[k] < 7 := hbd _ (List.getElem_mem hkl)
    have hdr : L.drop k = L[k] :: L.drop (k + 1) := List.drop_eq_getElem_cons hkl
    by_cases e : L[k] = x
    · rw [if_pos (by rw [e]), hdr]
      simp [plc, List.findIdx?_cons, e, oI]
    · rw [if_neg (fun z => e ((nI_inj (by omega) (by omega)).mp z)), nI_1, ih (k + 1) (by omega) (by omega), hdr]
      unfold plc
      rw [List.findIdx?_cons]
      simp only [beq_iff_eq, e, if_false, Option.map_map, Bool.false_eq_true]
      have e9 : (fun j => k + 1 + j) = ((fun j => k + j) ∘ fun i => i + 1) := by
        funext j
        simp only [Function.comp]
        omega
      rw [e9]
theorem r_place {d : Nat} (hd : 1 ≤ d) (hm : Mat h kf pf) (hb : b + 24 < 3965) (hL : LineAt row b (L, wt, wn, nt, gu)) (hl : L.length ≤ 7) (hbd : ∀ y ∈ L, y < 7) {x : Nat} (hx : x < 7) : cI (rn d) 176 [.ref 168, .int (nI b), .int (nI x)] (putM h row st) = some (oI (plc L x), putM h row st) := by
  obtain ⟨d, rfl⟩ := d1 hd
  unfold cI
  rw [rX10_placeOf, xX10_placeOf_0]
  have := r_place_loop (d := d) (st := st) hm hb hL hl hbd hx (L.length - 0) 0 rfl (Nat.zero_le _)
  rw [nI_0] at this
  rw [this]
  simp only [List.drop_zero, Nat.zero_add, Option.map_id']
theorem r_pusher {d : Nat} (hd : 1 ≤ d) (H : mH) {k : Nat} (hk : k < 6) : cI (rn d) 177 [.int (nI k)] H = some (bI (k == 1 || k == 4), H) := by
  obtain ⟨d, rfl⟩ := d1 hd
  have e1 : (nI k = 1) ↔ k = 1 := nI_inj (b := 1) (by omega) (by decide)
  have e4 : (nI k = 4) ↔ k = 4 := nI_inj (b := 4) (by omega) (by decide)
  unfold cI
  rw [rX10_isPusher, xX10_isPusher_0]
  simp only [e1, e4]
  by_cases a : k = 1
  · simp [a, bI]
  · by_cases b : k = 4
    · simp [b, bI]
    · simp [a, b, bI]
theorem r_swap {d : Nat} (hd : 1 ≤ d) (hm : Mat h kf pf) (hb : b + 24 < 3965) {A B : List Nat} {x y : Nat} (hL : LineAt row b (A ++ y :: x :: B, wt, wn, nt, gu)) (hl : (A ++ y :: x :: B).length ≤ 7) : ∃ row', cV (rn d) 178 [.ref 168, .int (nI b), .int (nI A.length)] (putM h row st) = some (putM h row' st) ∧ LineAt row' b (A ++ x :: y :: B, wt, wn, nt, gu) ∧ RFr row row' b := by
  obtain ⟨d, rfl⟩ := d1 hd
  have hl' : A.length + 1 + B.length < 7 := by simp at hl; omega
  obtain ⟨l1, l2, l3, l4, l5, l6⟩ := hL
  dsimp only at l1 l2 l3 l4 l5 l6
  have gy := l3 _ _ (app2_0 A B y x)
  have gx := l3 _ _ (app2_1 A B y x)
  rw [show b + 3 + (A.length + 1) = b + 3 + A.length + 1 by omega] at gx
  refine ⟨upd (upd row (b + 3 + A.length) (nI x)) (b + 3 + A.length + 1) (nI y), ?_, ⟨?_, ?_, ?_, ?_, ?_, ?_⟩, ?_⟩
  · unfold cV
    rw [rX10_swap, xX10_swap_0, m_r0 hm, Option.bind_some, p3, nI_add, m_row hm (by omega), Option.bind_some, Option.bind_some, Option.bind_some, p1, m_row hm (by omega), Option.bind_some, m_srow hm (by omega), Option.bind_some, m_r0 hm, Option.bind_some, m_srow hm (by omega), Option.bind_some, gx, gy]
  · show upd (upd row _ _) _ _ (b + 1) = _
    rw [upd_ne (by omega), upd_ne (by omega)]; exact l1
  · show upd (upd row _ _) _ _ (b + 2) = nI (A ++ x :: y :: B).length
    rw [upd_ne (by omega), upd_ne (by omega), l2]; simp
  · intro k z hk
    rcases app2 hk with ⟨h1, h2⟩ | ⟨rfl, rfl⟩ | ⟨rfl, rfl⟩ | ⟨h1, h2⟩
    · rw [upd_ne (by omega), upd_ne (by omega)]
      exact l3 k z (by rw [List.getElem?_append_left h1]; exact h2)
    · rw [upd_ne (by omega), upd_eq]
    · rw [show b + 3 + (A.length + 1) = b + 3 + A.length + 1 by omega, upd_eq]
    · rw [upd_ne (by omega), upd_ne (by omega)]
      refine l3 k z ?_
      rw [List.getElem?_append_right (by omega), show k - A.length = (k - A.length - 2) + 1 + 1 by omega, List.getElem?_cons_succ, List.getElem?_cons_succ]
      exact h2
  · intro j hj
    rw [upd_ne (by omega), upd_ne (by omega)]; exact l4 j hj
  · intro j hj
    rw [upd_ne (by omega), upd_ne (by omega)]; exact l5 j hj
  · show upd (upd row _ _) _ _ (b + 24) = _
    rw [upd_ne (by omega), upd_ne (by omega)]; exact l6
  · exact (RFr.up (nI x) (by omega) (by omega)).tr (RFr.up (nI y) (by omega) (by omega))
end RS
