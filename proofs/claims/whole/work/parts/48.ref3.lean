/-! the reference: who goes, who leaves, a night -/
theorem find_idx (p : Nat → Bool) : ∀ L : List Nat, L.find? p = (L.findIdx? p).bind (fun j => L[j]?)
  | [] => rfl
  | x :: L => by
    rw [List.find?_cons, List.findIdx?_cons]
    cases hp : p x with
    | true => simp
    | false =>
      simp only [Bool.false_eq_true, if_false]
      rw [find_idx p L]
      cases L.findIdx? p with
      | none => rfl
      | some j => simp
theorem plc_idx {L : List Nat} (hnd : L.Nodup) {j x : Nat} (hx : L[j]? = some x) : plc L x = some j := by
  have hj : j < L.length := (List.getElem?_eq_some_iff.mp hx).1
  have hxe : L[j] = x := (List.getElem?_eq_some_iff.mp hx).2
  have e : L = L.take j ++ x :: L.drop (j + 1) := by
    rw [← hxe, ← List.drop_eq_getElem_cons hj, List.take_append_drop]
  have hni : x ∉ L.take j := by
    intro hz
    rw [e] at hnd
    exact (List.nodup_append.mp hnd).2.2 x hz x List.mem_cons_self rfl
  have := plc_mid (B := L.drop (j + 1)) hni
  rw [← e, List.length_take] at this
  rw [this]
  congr 1
  omega
def goI (kd : Nat → Nat) (nt : Nat) (L : List Nat) : Option Nat := match L.findIdx? (aw kd nt) with
  | none => none
  | some j => if kd (L.getD j 0) = 3 then (match (L.drop (j + 1)).findIdx? (aw kd nt) with
      | some i => some (j + 1 + i)
      | none => some j) else some j
theorem idx_lt {p : Nat → Bool} {L : List Nat} {j : Nat} (h : L.findIdx? p = some j) : j < L.length := (List.findIdx?_eq_some_iff_getElem.mp h).1
theorem goI_goA {kd : Nat → Nat} {nt : Nat} {L : List Nat} (hnd : L.Nodup) : (goI kd nt L = none ∧ goA kd nt L = none) ∨ ∃ j x, goI kd nt L = some j ∧ L[j]? = some x ∧ goA kd nt L = some x := by
  unfold goI goA
  rw [find_idx]
  cases e : L.findIdx? (aw kd nt) with
  | none => exact Or.inl ⟨rfl, rfl⟩
  | some j =>
    have hj := idx_lt e
    have hg : L[j]? = some L[j] := List.getElem?_eq_getElem hj
    have hgd : L.getD j 0 = L[j] := by simp [hj]
    refine Or.inr ?_
    simp only [Option.bind_some, hg, hgd]
    by_cases h3 : kd L[j] = 3
    · rw [if_pos h3, if_pos h3, plc_idx hnd hg]
      simp only
      rw [find_idx]
      cases e2 : (L.drop (j + 1)).findIdx? (aw kd nt) with
      | none => exact ⟨j, L[j], rfl, hg, rfl⟩
      | some i =>
        have hi := idx_lt e2
        simp at hi
        have hlt : j + 1 + i < L.length := by omega
        refine ⟨j + 1 + i, L[j + 1 + i], rfl, List.getElem?_eq_getElem hlt, ?_⟩
        rw [Option.bind_some, List.getElem?_drop, List.getElem?_eq_getElem hlt]
    · rw [if_neg h3, if_neg h3]
      exact ⟨j, L[j], rfl, hg, rfl⟩
/-- backwards: those who stand (the last one first) wait one night more -/
def backR (pt : Nat → Nat) : List Nat → List Nat → (Nat → Nat) → Int32 → List Nat × (Nat → Nat) × Int32
  | [], Y, wt, gu => (Y, wt, gu)
  | x :: Z, Y, wt, gu => if wt x + 1 < pt x then backR pt Z (x :: Y) (fun y => if y = x then wt x + 1 else wt y) gu
      else backR pt Z Y (fun y => if y = x then wt x + 1 else wt y) (guS gu x)
theorem guS_comm (u : Int32) (x y : Nat) : guS (guS u x) y = guS (guS u y) x := by
  unfold guS
  rw [Int32.or_assoc, Int32.or_comm (1 <<< (nI x &&& 31)), ← Int32.or_assoc]
theorem waitR_eq (pt : Nat → Nat) (gone : Option Nat) : ∀ (R S : List Nat) (wt : Nat → Nat) (gu : Int32), R.Nodup → waitR pt gone R S wt gu = (S ++ R.filter (fun x => decide (gone ≠ some x) && decide (wt x + 1 < pt x)), (fun y => if y ∈ R ∧ gone ≠ some y then wt y + 1 else wt y), (R.filter (fun x => decide (gone ≠ some x) && !decide (wt x + 1 < pt x))).foldl guS gu)
  | [], S, wt, gu, _ => by simp [waitR]
  | x :: R, S, wt, gu, hnd => by
    have hx : x ∉ R := (List.nodup_cons.mp hnd).1
    have hR : R.Nodup := (List.nodup_cons.mp hnd).2
    unfold waitR
    by_cases e : gone = some x
    · rw [if_pos e, waitR_eq pt gone R S wt gu hR]
      have e2 : ∀ y, y = x → gone = some y := fun y hy => by rw [hy]; exact e
      simp only [List.filter_cons, e, ne_eq, not_true_eq_false, decide_false, Bool.false_and, Bool.false_eq_true, if_false]
      refine Prod.ext rfl (Prod.ext (funext fun y => ?_) rfl)
      simp only [List.mem_cons]
      by_cases hy : y = x
      · subst hy; simp [hx]
      · simp [hy]
    · rw [if_neg e]
      have hc : ∀ y ∈ R, (if y = x then wt x + 1 else wt y) = wt y := fun y hy => if_neg (fun (z : y = x) => hx (z ▸ hy))
      have f1 : R.filter (fun y => decide (gone ≠ some y) && decide ((if y = x then wt x + 1 else wt y) + 1 < pt y)) = R.filter (fun y => decide (gone ≠ some y) && decide (wt y + 1 < pt y)) := List.filter_congr (fun y hy => by rw [hc y hy])
      have f2 : R.filter (fun y => decide (gone ≠ some y) && !decide ((if y = x then wt x + 1 else wt y) + 1 < pt y)) = R.filter (fun y => decide (gone ≠ some y) && !decide (wt y + 1 < pt y)) := List.filter_congr (fun y hy => by rw [hc y hy])
      have f3 : (fun y => if y ∈ R ∧ gone ≠ some y then (if y = x then wt x + 1 else wt y) + 1 else (if y = x then wt x + 1 else wt y)) = (fun y => if y ∈ x :: R ∧ gone ≠ some y then wt y + 1 else wt y) := by
        funext y
        by_cases hy : y = x
        · subst hy
          simp [hx, e]
        · simp [hy]
      by_cases e2 : wt x + 1 < pt x
      · rw [if_pos e2, waitR_eq pt gone R _ _ gu hR, f1, f2, f3]
        simp [List.filter_cons, e, e2]
      · rw [if_neg e2, waitR_eq pt gone R _ _ _ hR, f1, f2, f3]
        simp [List.filter_cons, e, e2]
theorem backR_eq (pt : Nat → Nat) : ∀ (Z Y : List Nat) (wt : Nat → Nat) (gu : Int32), Z.Nodup → backR pt Z Y wt gu = ((Z.filter (fun x => decide (wt x + 1 < pt x))).reverse ++ Y, (fun y => if y ∈ Z then wt y + 1 else wt y), (Z.filter (fun x => !decide (wt x + 1 < pt x))).foldl guS gu)
  | [], Y, wt, gu, _ => by simp [backR]
  | x :: Z, Y, wt, gu, hnd => by
    have hx : x ∉ Z := (List.nodup_cons.mp hnd).1
    have hZ : Z.Nodup := (List.nodup_cons.mp hnd).2
    unfold backR
    have hc : ∀ y ∈ Z, (if y = x then wt x + 1 else wt y) = wt y := fun y hy => if_neg (fun (z : y = x) => hx (z ▸ hy))
    have f1 : Z.filter (fun y => decide ((if y = x then wt x + 1 else wt y) + 1 < pt y)) = Z.filter (fun y => decide (wt y + 1 < pt y)) := List.filter_congr (fun y hy => by rw [hc y hy])
    have f2 : Z.filter (fun y => !decide ((if y = x then wt x + 1 else wt y) + 1 < pt y)) = Z.filter (fun y => !decide (wt y + 1 < pt y)) := List.filter_congr (fun y hy => by rw [hc y hy])
    have f3 : (fun y => if y ∈ Z then (if y = x then wt x + 1 else wt y) + 1 else (if y = x then wt x + 1 else wt y)) = (fun y => if y ∈ x :: Z then wt y + 1 else wt y) := by
      funext y
      by_cases hy : y = x
      · subst hy
        simp [hx]
      · simp [hy]
    by_cases e2 : wt x + 1 < pt x
    · rw [if_pos e2, backR_eq pt Z _ _ gu hZ, f1, f2, f3]
      simp [List.filter_cons, e2]
    · rw [if_neg e2, backR_eq pt Z _ _ _ hZ, f1, f2, f3]
      simp [List.filter_cons, e2]
theorem wait_back {pt : Nat → Nat} {gone : Option Nat} {L1 L2 : List Nat} {wt : Nat → Nat} {gu : Int32} (hnd : L1.Nodup) (h2 : L2 = L1.filter (fun x => decide (gone ≠ some x))) : waitR pt gone L1 [] wt gu = backR pt L2.reverse [] wt gu := by
  have hnd2 : L2.Nodup := by rw [h2]; exact hnd.filter _
  rw [waitR_eq pt gone L1 [] wt gu hnd, backR_eq pt _ [] wt gu ((List.reverse_perm L2).nodup_iff.mpr hnd2)]
  refine Prod.ext ?_ (Prod.ext (funext fun y => ?_) ?_)
  · simp only [List.nil_append, List.append_nil, List.filter_reverse, List.reverse_reverse]
    rw [h2, List.filter_filter]
    refine List.filter_congr (fun x _ => ?_)
    rw [Bool.and_comm]
  · simp only [List.mem_reverse]
    rw [h2]
    simp only [List.mem_filter, decide_eq_true_eq]
  · simp only [List.filter_reverse]
    have hp : (L1.filter (fun x => decide (gone ≠ some x) && !decide (wt x + 1 < pt x))).Perm (L2.filter (fun x => !decide (wt x + 1 < pt x))).reverse := by
      refine List.Perm.trans ?_ (List.reverse_perm _).symm
      rw [h2, List.filter_filter]
      refine List.Perm.of_eq (List.filter_congr (fun x _ => ?_))
      rw [Bool.and_comm]
    exact hp.foldl_eq' (fun x _ y _ z => guS_comm z x y) gu
theorem m1 (x : Int32) : x + (-1) = x - 1 := by rw [Int32.sub_eq_add_neg]
section RQ
variable {h : mH} {kf pf row st : Nat → Int32} {b np nt : Nat} {kd pt : Nat → Nat} {L : List Nat} {wt : Nat → Nat} {wn : Nat → Int32} {gu : Int32}
theorem r_awake_loop {d : Nat} (hd : 2 ≤ d) (hm : Mat h kf pf) (hn : np ≤ 7) (hk : kOK kf kd np) (ht : nt < 1000) (hb : b + 24 < 3965) (hL : LineAt row b (L, wt, wn, nt, gu)) (hl : L.length ≤ 7) (hbd : ∀ y ∈ L, y < np) (v2 : Int32) : ∀ (m k : Nat), L.length - k = m → k ≤ L.length → ex cdX10_awakeFrom (rn d) 2 [.ref 168, .int (nI b), .int v2, .int (nI k)] [] (putM h row st) = some (some (.int (oI (((L.drop k).findIdx? (aw kd nt)).map (fun j => k + j)))), putM h row st) := by
  intro m
  induction m with
  | zero =>
    intro k h1 h2
    have : k = L.length := by omega
    subst this
    rw [xX10_awakeFrom_2, m_r0 hm, Option.bind_some, p2, m_row hm (by omega), Option.bind_some, hL.2.1, if_pos (nI_le (Nat.le_refl _) (by show L.length < 2 ^ 31; omega))]
    simp [oI]
  | succ m ih =>
    intro k h1 h2
    have hkl : k < L.length := by omega
    have hg : L[k]? = some L[k] := List.getElem?_eq_getElem hkl
    have hdr : L.drop k = L[k] :: L.drop (k + 1) := List.drop_eq_getElem_cons hkl
    rw [xX10_awakeFrom_2, m_r0 hm, Option.bind_some, p2, m_row hm (by omega), Option.bind_some, hL.2.1, if_neg (nI_ge (by exact hkl) (by show L.length < 2 ^ 31; omega)), if_pos (m_is hm), r_sleepsAt (by omega) hm hn hk ht hb hL hl hbd hg, Option.bind_some, hdr, List.findIdx?_cons]
    cases ha : asl kd nt L[k] with
    | false =>
      rw [if_pos (by rfl)]
      simp [aw, ha, oI]
    | true =>
      rw [if_neg (by show ¬ (1 : Int32) = 0; decide), nI_1, ih (k + 1) (by omega) (by omega)]
      simp only [aw, ha, Bool.not_true, Bool.false_eq_true, if_false, Option.map_map]
      have e9 : (fun j => k + 1 + j) = ((fun j => k + j) ∘ fun i => i + 1) := by
        funext j
        simp only [Function.comp]
        omega
      rw [e9]
theorem r_awake {d : Nat} (hd : 3 ≤ d) (hm : Mat h kf pf) (hn : np ≤ 7) (hk : kOK kf kd np) (ht : nt < 1000) (hb : b + 24 < 3965) (hL : LineAt row b (L, wt, wn, nt, gu)) (hl : L.length ≤ 7) (hbd : ∀ y ∈ L, y < np) {k : Nat} (hk2 : k ≤ L.length) : cI (rn d) 181 [.ref 168, .int (nI b), .int (nI k)] (putM h row st) = some (oI (((L.drop k).findIdx? (aw kd nt)).map (fun j => k + j)), putM h row st) := by
  obtain ⟨d, rfl⟩ := d1 (show 1 ≤ d by omega)
  unfold cI
  rw [rX10_awakeFrom, xX10_awakeFrom_0, r_awake_loop (by omega) hm hn hk ht hb hL hl hbd _ _ k rfl hk2]
theorem r_goer {d : Nat} (hd : 4 ≤ d) (hm : Mat h kf pf) (hn : np ≤ 7) (hk : kOK kf kd np) (ht : nt < 1000) (hb : b + 24 < 3965) (hL : LineAt row b (L, wt, wn, nt, gu)) (hl : L.length ≤ 7) (hbd : ∀ y ∈ L, y < np) : cI (rn d) 183 [.ref 168, .int (nI b)] (putM h row st) = some (oI (goI kd nt L), putM h row st) := by
  obtain ⟨d, rfl⟩ := d1 (show 1 ≤ d by omega)
  have h0 := r_awake (d := d) (st := st) (k := 0) (by omega) hm hn hk ht hb hL hl hbd (Nat.zero_le _)
  rw [nI_0, List.drop_zero] at h0
  unfold cI
  rw [rX10_goer, xX10_goer_0, if_pos (m_is hm), h0, Option.bind_some]
  unfold goI
  cases e : L.findIdx? (aw kd nt) with
  | none =>
    rw [if_pos (by rfl)]
    rfl
  | some j =>
    have hj := idx_lt e
    have hg : L[j]? = some L[j] := List.getElem?_eq_getElem hj
    have hgd : L.getD j 0 = L[j] := by simp [hj]
    have hy : L[j] < np := hbd _ (List.getElem_mem hj)
    obtain ⟨k1, k2⟩ := hk _ hy
    have e3 : (nI (kd L[j]) = 3) ↔ kd L[j] = 3 := nI_inj (b := 3) (by omega) (by decide)
    simp only [Option.map_some, Nat.zero_add, oI_some, hgd]
    rw [if_neg (nI_ne9 (by omega)), m_r2 hm, Option.bind_some, m_r0 hm, Option.bind_some, p3, nI_add, m_row hm (by omega), Option.bind_some, hL.2.2.1 j _ hg, m_kd hm (by omega), Option.bind_some, k1]
    by_cases h3 : kd L[j] = 3
    · rw [if_pos (e3.mpr h3), if_pos h3, if_pos (m_is hm), nI_1, r_awake (by omega) hm hn hk ht hb hL hl hbd (by omega), Option.bind_some]
      cases e2 : (L.drop (j + 1)).findIdx? (aw kd nt) with
      | none =>
        rw [if_pos (by rfl)]
        rfl
      | some i =>
        have hi := idx_lt e2
        simp at hi
        rw [if_neg (show ¬ oI (Option.map (fun j_1 => j + 1 + j_1) (some i)) = -9 from nI_ne9 (show j + 1 + i < 2 ^ 31 by omega))]
        rfl
    · rw [if_neg (fun z => h3 (e3.mp z)), if_neg h3]
      rfl
theorem r_leaves_loop {d : Nat} (hm : Mat h kf pf) (hb : b + 24 < 3965) (v2 : Int32) : ∀ (B : List Nat) (k : Nat) (row : Nat → Int32), k + B.length < 7 → row (b + 2) = nI (k + B.length) → (∀ j x, B[j]? = some x → row (b + 3 + k + 1 + j) = nI x) →
    ∃ row', ex cdX10_leaves (rn d) 14 [.ref 168, .int (nI b), .int v2, .int (nI k)] [] (putM h row st) = some (none, putM h row' st) ∧ (∀ j x, B[j]? = some x → row' (b + 3 + k + j) = nI x) ∧ ∀ i, (i < b + 3 + k ∨ b + 3 + k + B.length ≤ i) → row' i = row i := by
  intro B
  induction B with
  | nil =>
    intro k row h1 h2 h3
    refine ⟨row, ?_, fun j x hj => by simp at hj, fun _ _ => rfl⟩
    rw [xX10_leaves_14, m_r0 hm, Option.bind_some, p2, m_row hm (by omega), Option.bind_some, h2, if_pos (nI_le (by simp) (by simp at h1 ⊢; omega))]
  | cons x B ih =>
    intro k row h1 h2 h3
    simp only [List.length_cons] at h1 h2 ⊢
    have hx := h3 0 x rfl
    rw [Nat.add_zero] at hx
    obtain ⟨row', e1, e2, e3⟩ := ih (k + 1) (upd row (b + 3 + k) (nI x)) (by omega) (by rw [upd_ne (by omega), h2]; congr 1; omega) (fun j y hj => by
      rw [upd_ne (by omega)]
      have := h3 (j + 1) y (by rw [List.getElem?_cons_succ]; exact hj)
      rw [← this]
      congr 1
      omega)
    refine ⟨row', ?_, fun j y hj => ?_, fun i hi => ?_⟩
    · rw [xX10_leaves_14, m_r0 hm, Option.bind_some, p2, m_row hm (by omega), Option.bind_some, h2, if_neg (nI_ge (by omega) (by omega)), Option.bind_some, Option.bind_some, p3, nI_add, p1, m_row hm (by omega), Option.bind_some, hx, m_srow hm (by omega), Option.bind_some, nI_1]
      exact e1
    · cases j with
      | zero =>
        cases hj
        rw [Nat.add_zero, e3 _ (by omega), upd_eq]
      | succ j =>
        rw [List.getElem?_cons_succ] at hj
        rw [show b + 3 + k + (j + 1) = b + 3 + (k + 1) + j by omega]
        exact e2 j y hj
    · rw [e3 i (by omega), upd_ne (by omega)]
theorem r_leaves {d : Nat} (hd : 1 ≤ d) (hm : Mat h kf pf) (hb : b + 24 < 3965) {A B : List Nat} {x : Nat} (hL : LineAt row b (A ++ x :: B, wt, wn, nt, gu)) (hl : (A ++ x :: B).length ≤ 7) : ∃ row', cV (rn d) 182 [.ref 168, .int (nI b), .int (nI A.length)] (putM h row st) = some (putM h row' st) ∧ LineAt row' b (A ++ B, wt, wn, nt, gu) ∧ RFr row row' b := by
  obtain ⟨d, rfl⟩ := d1 hd
  have hl' : A.length + B.length < 7 := by simp at hl; omega
  obtain ⟨l1, l2, l3, l4, l5, l6⟩ := hL
  dsimp only at l1 l2 l3 l4 l5 l6
  have hlen : (A ++ x :: B).length = A.length + B.length + 1 := by simp; omega
  rw [hlen] at l2
  have hB : ∀ j y, B[j]? = some y → row (b + 3 + A.length + 1 + j) = nI y := fun j y hj => by
    have := l3 (A.length + 1 + j) y (by rw [List.getElem?_append_right (by omega), show A.length + 1 + j - A.length = j + 1 by omega, List.getElem?_cons_succ]; exact hj)
    rw [← this]
    congr 1
    omega
  obtain ⟨row', e1, e2, e3⟩ := r_leaves_loop (d := d) (st := st) hm hb (nI A.length) B A.length (upd row (b + 2) (nI (A.length + B.length))) hl' (upd_eq _ _ _) (fun j y hj => by rw [upd_ne (by omega)]; exact hB j y hj)
  refine ⟨row', ?_, ⟨?_, ?_, ?_, ?_, ?_, ?_⟩, fun k hk => ?_⟩
  · unfold cV
    rw [rX10_leaves, xX10_leaves_0, m_r0 hm, Option.bind_some, p2, m_row hm (by omega), Option.bind_some, l2, nI_pred, m_srow hm (by omega), Option.bind_some, e1]
  · show row' (b + 1) = _
    rw [e3 _ (by omega), upd_ne (by omega)]; exact l1
  · show row' (b + 2) = nI (A ++ B).length
    rw [e3 _ (by omega), upd_eq, List.length_append]
  · intro k y hk
    by_cases hkA : k < A.length
    · have hk' : (A ++ B)[k]? = some y := hk
      rw [List.getElem?_append_left hkA] at hk'
      rw [e3 _ (by omega), upd_ne (by omega)]
      exact l3 k y (by rw [List.getElem?_append_left hkA]; exact hk')
    · have hk' : (A ++ B)[k]? = some y := hk
      rw [List.getElem?_append_right (by omega)] at hk'
      have := e2 _ _ hk'
      rw [show b + 3 + A.length + (k - A.length) = b + 3 + k by omega] at this
      exact this
  · intro j hj
    rw [e3 _ (by omega), upd_ne (by omega)]; exact l4 j hj
  · intro j hj
    rw [e3 _ (by omega), upd_ne (by omega)]; exact l5 j hj
  · show row' (b + 24) = _
    rw [e3 _ (by omega), upd_ne (by omega)]; exact l6
  · rw [e3 k (by omega), upd_ne (by omega)]
end RQ
