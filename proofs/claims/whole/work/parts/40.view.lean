/-! views: an object and its arrays at a place of the small heap -/
def oQ (q : Nat) (s n u : Int32) : va_E := .inr (5, [.ref (q + 1), .ref (q + 2), .ref (q + 3), .int s, .int n, .int u])
def ar (n : Nat) (f : Nat → Int32) : va_E := .inl (0, n, .inl f)
def putQ (h : mH) (q : Nat) (o w g : Nat → Int32) (s n u : Int32) : mH := (((h.set q (oQ q s n u)).set (q + 1) (ar 7 o)).set (q + 2) (ar 7 w)).set (q + 3) (ar 7 g)
theorem putQ_len {h : mH} {q : Nat} {o w g : Nat → Int32} {s n u : Int32} : (putQ h q o w g s n u).length = h.length := by simp [putQ]
theorem putQ_0 {h : mH} {q : Nat} {o w g : Nat → Int32} {s n u : Int32} (hq : q + 3 < h.length) : (putQ h q o w g s n u)[q]? = some (oQ q s n u) := by
  simp [putQ, List.getElem?_set]; omega
theorem putQ_1 {h : mH} {q : Nat} {o w g : Nat → Int32} {s n u : Int32} (hq : q + 3 < h.length) : (putQ h q o w g s n u)[q + 1]? = some (ar 7 o) := by
  simp [putQ, List.getElem?_set]; omega
theorem putQ_2 {h : mH} {q : Nat} {o w g : Nat → Int32} {s n u : Int32} (hq : q + 3 < h.length) : (putQ h q o w g s n u)[q + 2]? = some (ar 7 w) := by
  simp [putQ, List.getElem?_set]; omega
theorem putQ_3 {h : mH} {q : Nat} {o w g : Nat → Int32} {s n u : Int32} (hq : q + 3 < h.length) : (putQ h q o w g s n u)[q + 3]? = some (ar 7 g) := by
  simp [putQ, List.getElem?_set]; omega
theorem putQ_o {h : mH} {q k : Nat} {o w g : Nat → Int32} {s n u : Int32} (hk : k < q ∨ q + 3 < k) : (putQ h q o w g s n u)[k]? = h[k]? := by
  unfold putQ
  rw [List.getElem?_set_ne (by omega), List.getElem?_set_ne (by omega), List.getElem?_set_ne (by omega), List.getElem?_set_ne (by omega)]
theorem lst_ext {h h' : mH} (e : ∀ k : Nat, h[k]? = h'[k]?) : h = h' := List.ext_getElem? e
/-- which of the four -/
theorem in4 (q k : Nat) : k = q ∨ k = q + 1 ∨ k = q + 2 ∨ k = q + 3 ∨ (k < q ∨ q + 3 < k) := by omega
theorem putQ_same {h : mH} {q : Nat} {o w g : Nat → Int32} {s n u : Int32} (h0 : h[q]? = some (oQ q s n u)) (h1 : h[q + 1]? = some (ar 7 o)) (h2 : h[q + 2]? = some (ar 7 w)) (h3 : h[q + 3]? = some (ar 7 g)) : putQ h q o w g s n u = h := by
  have hq : q + 3 < h.length := (List.getElem?_eq_some_iff.mp h3).1
  apply lst_ext
  intro k
  rcases in4 q k with rfl | rfl | rfl | rfl | hk
  · rw [putQ_0 hq, h0]
  · rw [putQ_1 hq, h1]
  · rw [putQ_2 hq, h2]
  · rw [putQ_3 hq, h3]
  · rw [putQ_o hk]
theorem putQ_put {h : mH} {q : Nat} {o w g o' w' g' : Nat → Int32} {s n u s' n' u' : Int32} (hq : q + 3 < h.length) : putQ (putQ h q o w g s n u) q o' w' g' s' n' u' = putQ h q o' w' g' s' n' u' := by
  have hq2 : q + 3 < (putQ h q o w g s n u).length := by rw [putQ_len]; exact hq
  apply lst_ext
  intro k
  rcases in4 q k with rfl | rfl | rfl | rfl | hk
  · rw [putQ_0 hq2, putQ_0 hq]
  · rw [putQ_1 hq2, putQ_1 hq]
  · rw [putQ_2 hq2, putQ_2 hq]
  · rw [putQ_3 hq2, putQ_3 hq]
  · rw [putQ_o hk, putQ_o hk, putQ_o hk]
theorem putQ_set0 {h : mH} {q : Nat} {o w g : Nat → Int32} {s n u s' n' u' : Int32} (hq : q + 3 < h.length) : (putQ h q o w g s n u).set q (oQ q s' n' u') = putQ h q o w g s' n' u' := by
  apply lst_ext
  intro k
  rw [List.getElem?_set]
  by_cases e : q = k
  · subst e
    rw [if_pos rfl, if_pos (by rw [putQ_len]; omega), putQ_0 hq]
  · rw [if_neg e]
    rcases in4 q k with rfl | rfl | rfl | rfl | hk
    · exact absurd rfl e
    · rw [putQ_1 hq, putQ_1 hq]
    · rw [putQ_2 hq, putQ_2 hq]
    · rw [putQ_3 hq, putQ_3 hq]
    · rw [putQ_o hk, putQ_o hk]
theorem putQ_set1 {h : mH} {q : Nat} {o w g o' : Nat → Int32} {s n u : Int32} (hq : q + 3 < h.length) : (putQ h q o w g s n u).set (q + 1) (ar 7 o') = putQ h q o' w g s n u := by
  apply lst_ext
  intro k
  rw [List.getElem?_set]
  by_cases e : q + 1 = k
  · subst e
    rw [if_pos rfl, if_pos (by rw [putQ_len]; omega), putQ_1 hq]
  · rw [if_neg e]
    rcases in4 q k with rfl | rfl | rfl | rfl | hk
    · rw [putQ_0 hq, putQ_0 hq]
    · exact absurd rfl e
    · rw [putQ_2 hq, putQ_2 hq]
    · rw [putQ_3 hq, putQ_3 hq]
    · rw [putQ_o hk, putQ_o hk]
theorem putQ_set2 {h : mH} {q : Nat} {o w g w' : Nat → Int32} {s n u : Int32} (hq : q + 3 < h.length) : (putQ h q o w g s n u).set (q + 2) (ar 7 w') = putQ h q o w' g s n u := by
  apply lst_ext
  intro k
  rw [List.getElem?_set]
  by_cases e : q + 2 = k
  · subst e
    rw [if_pos rfl, if_pos (by rw [putQ_len]; omega), putQ_2 hq]
  · rw [if_neg e]
    rcases in4 q k with rfl | rfl | rfl | rfl | hk
    · rw [putQ_0 hq, putQ_0 hq]
    · rw [putQ_1 hq, putQ_1 hq]
    · exact absurd rfl e
    · rw [putQ_3 hq, putQ_3 hq]
    · rw [putQ_o hk, putQ_o hk]
theorem putQ_set3 {h : mH} {q : Nat} {o w g g' : Nat → Int32} {s n u : Int32} (hq : q + 3 < h.length) : (putQ h q o w g s n u).set (q + 3) (ar 7 g') = putQ h q o w g' s n u := by
  apply lst_ext
  intro k
  rw [List.getElem?_set]
  by_cases e : q + 3 = k
  · subst e
    rw [if_pos rfl, if_pos (by rw [putQ_len]; omega), putQ_3 hq]
  · rw [if_neg e]
    rcases in4 q k with rfl | rfl | rfl | rfl | hk
    · rw [putQ_0 hq, putQ_0 hq]
    · rw [putQ_1 hq, putQ_1 hq]
    · rw [putQ_2 hq, putQ_2 hq]
    · exact absurd rfl e
    · rw [putQ_o hk, putQ_o hk]
-- reads of any heap, by its cell
theorem gI_at {h : mH} {q ci j : Nat} {fs : List Value} {x : Int32} (h0 : h[q]? = some (.inr (ci, fs))) (h1 : fs[j]? = some (.int x)) : gI h q ci j = some x := by simp [gI, h0, h1]
theorem gL_at {h : mH} {q ci j : Nat} {fs : List Value} {x : Int64} (h0 : h[q]? = some (.inr (ci, fs))) (h1 : fs[j]? = some (.long x)) : gL h q ci j = some x := by simp [gL, h0, h1]
theorem gR_at {h : mH} {q ci j : Nat} {fs : List Value} {x : Nat} (h0 : h[q]? = some (.inr (ci, fs))) (h1 : fs[j]? = some (.ref x)) : gR h q ci j = some x := by simp [gR, h0, h1]
theorem pF_at {h : mH} {q ci j : Nat} {fs : List Value} {v : Value} (h0 : h[q]? = some (.inr (ci, fs))) (h1 : j < fs.length) : pF h q ci j v = some (h.set q (.inr (ci, fs.set j v))) := by simp [pF, h0, h1]
theorem isO_at {h : mH} {q ci : Nat} {fs : List Value} (h0 : h[q]? = some (.inr (ci, fs))) : isO h q ci = true := by simp [isO, h0]
theorem vin_nI {k n : Nat} (h : k < n) (hn : n < 2 ^ 31) : vin (nI k) n = true := by
  have h1 : ¬ nI k < 0 := nI_pos (by omega)
  simp only [vin, h1, nI_clamp (show k < 2 ^ 31 by omega), decide_false, Bool.not_false, Bool.true_and, decide_eq_true_eq]
  exact h
theorem aI_at {h : mH} {a t n : Nat} {f : Nat → Int32} {i : Int32} (h0 : h[a]? = some (.inl (t, n, .inl f))) (h1 : vin i n = true) : aI t h a i = some (f i.toNatClampNeg) := by simp [aI, h0, h1]
theorem sI_at {h : mH} {a n : Nat} {f : Nat → Int32} {i x : Int32} (h0 : h[a]? = some (ar n f)) (h1 : vin i n = true) : sI h a i x = some (h.set a (ar n (upd f i.toNatClampNeg x))) := by
  unfold ar at h0 ⊢
  simp [sI, h0, h1]
-- the queue's
section QV
variable {h : mH} {q : Nat} {o w g : Nat → Int32} {s n u : Int32}
theorem q_s (hq : q + 3 < h.length) : gI (putQ h q o w g s n u) q 5 3 = some s := gI_at (putQ_0 hq) rfl
theorem q_n (hq : q + 3 < h.length) : gI (putQ h q o w g s n u) q 5 4 = some n := gI_at (putQ_0 hq) rfl
theorem q_u (hq : q + 3 < h.length) : gI (putQ h q o w g s n u) q 5 5 = some u := gI_at (putQ_0 hq) rfl
theorem q_r0 (hq : q + 3 < h.length) : gR (putQ h q o w g s n u) q 5 0 = some (q + 1) := gR_at (putQ_0 hq) rfl
theorem q_r1 (hq : q + 3 < h.length) : gR (putQ h q o w g s n u) q 5 1 = some (q + 2) := gR_at (putQ_0 hq) rfl
theorem q_r2 (hq : q + 3 < h.length) : gR (putQ h q o w g s n u) q 5 2 = some (q + 3) := gR_at (putQ_0 hq) rfl
theorem q_is (hq : q + 3 < h.length) : isO (putQ h q o w g s n u) q 5 = true := isO_at (putQ_0 hq)
theorem q_ps (hq : q + 3 < h.length) (x : Int32) : pF (putQ h q o w g s n u) q 5 3 (.int x) = some (putQ h q o w g x n u) := (pF_at (putQ_0 hq) (Nat.le_of_ble_eq_true rfl)).trans (congrArg some (putQ_set0 hq))
theorem q_pn (hq : q + 3 < h.length) (x : Int32) : pF (putQ h q o w g s n u) q 5 4 (.int x) = some (putQ h q o w g s x u) := (pF_at (putQ_0 hq) (Nat.le_of_ble_eq_true rfl)).trans (congrArg some (putQ_set0 hq))
theorem q_pu (hq : q + 3 < h.length) (x : Int32) : pF (putQ h q o w g s n u) q 5 5 (.int x) = some (putQ h q o w g s n x) := (pF_at (putQ_0 hq) (Nat.le_of_ble_eq_true rfl)).trans (congrArg some (putQ_set0 hq))
theorem q_ao (hq : q + 3 < h.length) {k : Nat} (hk : k < 7) : aI 0 (putQ h q o w g s n u) (q + 1) (nI k) = some (o k) := by rw [aI_at (putQ_1 hq) (vin_nI hk (by decide)), nI_clamp (by omega)]
theorem q_aw (hq : q + 3 < h.length) {k : Nat} (hk : k < 7) : aI 0 (putQ h q o w g s n u) (q + 2) (nI k) = some (w k) := by rw [aI_at (putQ_2 hq) (vin_nI hk (by decide)), nI_clamp (by omega)]
theorem q_ag (hq : q + 3 < h.length) {k : Nat} (hk : k < 7) : aI 0 (putQ h q o w g s n u) (q + 3) (nI k) = some (g k) := by rw [aI_at (putQ_3 hq) (vin_nI hk (by decide)), nI_clamp (by omega)]
theorem q_so (hq : q + 3 < h.length) {k : Nat} (hk : k < 7) (x : Int32) : sI (putQ h q o w g s n u) (q + 1) (nI k) x = some (putQ h q (upd o k x) w g s n u) := by rw [sI_at (putQ_1 hq) (vin_nI hk (by decide)), nI_clamp (by omega), putQ_set1 hq]
theorem q_sw (hq : q + 3 < h.length) {k : Nat} (hk : k < 7) (x : Int32) : sI (putQ h q o w g s n u) (q + 2) (nI k) x = some (putQ h q o (upd w k x) g s n u) := by rw [sI_at (putQ_2 hq) (vin_nI hk (by decide)), nI_clamp (by omega), putQ_set2 hq]
theorem q_sg (hq : q + 3 < h.length) {k : Nat} (hk : k < 7) (x : Int32) : sI (putQ h q o w g s n u) (q + 3) (nI k) x = some (putQ h q o w (upd g k x) s n u) := by rw [sI_at (putQ_3 hq) (vin_nI hk (by decide)), nI_clamp (by omega), putQ_set3 hq]
end QV
