/-! who is asleep at a place, who is first awake, who goes -/
abbrev kOK (kf : Nat → Int32) (kd : Nat → Nat) (np : Nat) : Prop := ∀ k, k < np → kf k = nI (kd k) ∧ kd k < 6
section QA
variable {h : mH} {q c : Nat} {o w g kf pf rf : Nat → Int32} {u : Int32} {L : List Nat} {np nt : Nat} {kd : Nat → Nat}
theorem asleepAt_p {d : Nat} (hd : 4 ≤ d) (hq : q + 3 < h.length) (ho : oL o L) (hl : L.length ≤ 7) (hc : Cat (putQ h q o w g (nI L.length) (nI nt) u) c kf pf rf (nI np)) (hn : np ≤ 7) (hk : kOK kf kd np) (hb : ∀ y ∈ L, y < np) (ht : nt < 1000) {k x : Nat} (hx : L[k]? = some x) : cI (rn d) 53 [.ref q, .ref c, .int (nI k)] (putQ h q o w g (nI L.length) (nI nt) u) = some (bI (asl kd nt x), putQ h q o w g (nI L.length) (nI nt) u) := by
  obtain ⟨d, rfl⟩ := d1 (show 1 ≤ d by omega)
  have hxn : x < np := hb x (List.mem_of_getElem? hx)
  unfold cI
  rw [rX5_isAsleepAt, xX5_isAsleepAt_0, if_pos (q_is hq), whoAt_p (by omega) hq ho hl hx, Option.bind_some, q_n hq, Option.bind_some, if_pos (c_is hc), asleep_p (by omega) hc hn hk hxn ht, Option.bind_some, if_pos (bI_and _)]
theorem asleepAt_neg {d : Nat} (hd : 4 ≤ d) (hq : q + 3 < h.length) {s n num v : Int32} (hc : Cat (putQ h q o w g s n u) c kf pf rf num) (hv : v < 0) : cI (rn d) 53 [.ref q, .ref c, .int v] (putQ h q o w g s n u) = some (0, putQ h q o w g s n u) := by
  obtain ⟨d, rfl⟩ := d1 (show 1 ≤ d by omega)
  unfold cI
  rw [rX5_isAsleepAt, xX5_isAsleepAt_0, if_pos (q_is hq), whoAt_neg (by omega) _ hv, Option.bind_some, q_n hq, Option.bind_some, if_pos (c_is hc), asleep_no (by omega) hc, Option.bind_some, if_pos (show (0 : Int32) &&& 1 = 0 by decide)]
def aw (kd : Nat → Nat) (nt x : Nat) : Bool := !asl kd nt x
theorem firstAwake_loop {d : Nat} (hd : 4 ≤ d) (hq : q + 3 < h.length) (ho : oL o L) (hl : L.length ≤ 7) (hc : Cat (putQ h q o w g (nI L.length) (nI nt) u) c kf pf rf (nI np)) (hn : np ≤ 7) (hk : kOK kf kd np) (hb : ∀ y ∈ L, y < np) (ht : nt < 1000) (v2 : Int32) : ∀ (m k : Nat), L.length - k = m → k ≤ L.length → ∀ v4 : Value, ex cdX5_firstAwakeFrom (rn d) 2 [.ref q, .ref c, .int v2, .int (nI k), v4] [] (putQ h q o w g (nI L.length) (nI nt) u) = some (some (.int (oI ((L.drop k).find? (aw kd nt)))), putQ h q o w g (nI L.length) (nI nt) u) := by
  intro m
  induction m with
  | zero =>
    intro k h1 h2 v4
    have : k = L.length := by omega
    subst this
    rw [xX5_firstAwakeFrom_2, q_s hq, Option.bind_some, if_pos (nI_le (Nat.le_refl _) (by omega))]
    simp [oI]
  | succ m ih =>
    intro k h1 h2 v4
    have hkl : k < L.length := by omega
    have hg : L[k]? = some L[k] := List.getElem?_eq_getElem hkl
    have hy : L[k] < np := hb _ (List.getElem_mem hkl)
    have hdr : L.drop k = L[k] :: L.drop (k + 1) := List.drop_eq_getElem_cons hkl
    rw [xX5_firstAwakeFrom_2, q_s hq, Option.bind_some, if_neg (nI_ge hkl (by omega)), if_pos (q_is hq), whoAt_p (by omega) hq ho hl hg, Option.bind_some, if_neg (nI_ne9 (by omega)), q_n hq, Option.bind_some, if_pos (c_is hc), asleep_p (by omega) hc hn hk hy ht, Option.bind_some, hdr]
    cases ha : asl kd nt L[k] with
    | false =>
      rw [if_pos (by rfl), List.find?_cons]
      simp only [aw, ha, Bool.not_false]
      rfl
    | true =>
      rw [if_neg (by show ¬ (1 : Int32) = 0; decide), nI_1, ih (k + 1) (by omega) (by omega), List.find?_cons]
      simp only [aw, ha, Bool.not_true]
theorem firstAwake_s {d : Nat} (hd : 5 ≤ d) (hq : q + 3 < h.length) (ho : oL o L) (hl : L.length ≤ 7) (hc : Cat (putQ h q o w g (nI L.length) (nI nt) u) c kf pf rf (nI np)) (hn : np ≤ 7) (hk : kOK kf kd np) (hb : ∀ y ∈ L, y < np) (ht : nt < 1000) {k : Nat} (hk2 : k ≤ L.length) : cI (rn d) 51 [.ref q, .ref c, .int (nI k)] (putQ h q o w g (nI L.length) (nI nt) u) = some (oI ((L.drop k).find? (aw kd nt)), putQ h q o w g (nI L.length) (nI nt) u) := by
  obtain ⟨d, rfl⟩ := d1 (show 1 ≤ d by omega)
  unfold cI
  rw [rX5_firstAwakeFrom, xX5_firstAwakeFrom_0, firstAwake_loop (by omega) hq ho hl hc hn hk hb ht _ _ k rfl hk2]
/-- who goes: the first awake; if that is a lover, the next one awake behind it -/
def goA (kd : Nat → Nat) (nt : Nat) (L : List Nat) : Option Nat := match L.find? (aw kd nt) with
  | none => none
  | some x => if kd x = 3 then (match plc L x with
      | some j => (match (L.drop (j + 1)).find? (aw kd nt) with
        | some y => some y
        | none => some x)
      | none => some x) else some x
theorem isk3 (kd : Nat → Nat) (x : Nat) : isk kd x 3 = decide (kd x = 3) := by
  unfold isk
  by_cases h : kd x = 3 <;> simp [h]
theorem plc_mem {L : List Nat} {x : Nat} (h : x ∈ L) : ∃ j, plc L x = some j ∧ j < L.length := by
  unfold plc
  cases e : L.findIdx? (fun y => y == x) with
  | none =>
    rw [List.findIdx?_eq_none_iff] at e
    have := e x h
    simp at this
  | some j =>
    have := List.findIdx?_eq_some_iff_getElem.mp e
    exact ⟨j, rfl, this.1⟩
theorem next_s {d : Nat} (hd : 6 ≤ d) (hq : q + 3 < h.length) (ho : oL o L) (hl : L.length ≤ 7) (hc : Cat (putQ h q o w g (nI L.length) (nI nt) u) c kf pf rf (nI np)) (hn : np ≤ 7) (hk : kOK kf kd np) (hb : ∀ y ∈ L, y < np) (ht : nt < 1000) : cI (rn d) 55 [.ref q, .ref c] (putQ h q o w g (nI L.length) (nI nt) u) = some (oI (goA kd nt L), putQ h q o w g (nI L.length) (nI nt) u) := by
  obtain ⟨d, rfl⟩ := d1 (show 1 ≤ d by omega)
  have hf := firstAwake_s (d := d) (k := 0) (by omega) hq ho hl hc hn hk hb ht (Nat.zero_le _)
  rw [nI_0, List.drop_zero] at hf
  unfold cI
  rw [rX5_nextToGo, xX5_nextToGo_0, if_pos (q_is hq), hf, Option.bind_some, if_pos (c_is hc)]
  unfold goA
  cases e : L.find? (aw kd nt) with
  | none =>
    rw [oI_none, show (3 : Int32) = nI 3 from rfl, isOf_no (by omega) hc, Option.bind_some, if_pos rfl]
  | some x =>
    have hxL : x ∈ L := List.mem_of_find?_eq_some e
    have hx : x < np := hb x hxL
    rw [oI_some, show (3 : Int32) = nI 3 from rfl, isOf_p (by omega) hc hn hk hx (by decide), Option.bind_some, isk3]
    by_cases h3 : kd x = 3
    · obtain ⟨j, hj, hjl⟩ := plc_mem hxL
      rw [decide_eq_true h3, if_neg (show ¬ bI true = 0 by decide), if_pos (q_is hq), placeOf_s (by omega) hq ho hl (fun y hy => Nat.lt_of_lt_of_le (hb y hy) hn) (by omega), Option.bind_some, if_pos (q_is hq), hj, oI_some, nI_1, firstAwake_s (by omega) hq ho hl hc hn hk hb ht (by omega), Option.bind_some]
      dsimp only
      rw [if_pos h3]
      cases e2 : (L.drop (j + 1)).find? (aw kd nt) with
      | none =>
        simp only [hj, e2]
        rw [oI_none, if_pos rfl]
        rfl
      | some y =>
        have hy : y < np := hb y (List.mem_of_mem_drop (List.mem_of_find?_eq_some e2))
        simp only [hj, e2]
        rw [oI_some, if_neg (nI_ne9 (by omega))]
    · rw [decide_eq_false h3, if_pos (show bI false = 0 by decide)]
      simp [h3, oI]
end QA
