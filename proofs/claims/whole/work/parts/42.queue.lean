/-! the queue: places, who is first, exchange of places -/
def oI (x : Option Nat) : Int32 := match x with
  | some k => nI k
  | none => -9
def oL (o : Nat → Int32) (L : List Nat) : Prop := ∀ (k x : Nat), L[k]? = some x → o k = nI x
theorem oI_none : oI none = -9 := rfl
theorem oI_some (k : Nat) : oI (some k) = nI k := rfl
theorem nI_ne9 {k : Nat} (h : k < 2 ^ 31) : ¬ nI k = (-9 : Int32) := by
  intro e
  have h1 := congrArg Int32.toInt e
  rw [nI_toInt h] at h1
  have h2 : (-9 : Int32).toInt = -9 := by decide
  omega
section QS
variable {h : mH} {q : Nat} {o w g : Nat → Int32} {n u : Int32} {L : List Nat}
theorem whoAt_p {d : Nat} (hd : 1 ≤ d) (hq : q + 3 < h.length) (ho : oL o L) (hl : L.length ≤ 7) {k x : Nat} (hk : L[k]? = some x) : cI (rn d) 43 [.ref q, .int (nI k)] (putQ h q o w g (nI L.length) n u) = some (nI x, putQ h q o w g (nI L.length) n u) := by
  obtain ⟨d, rfl⟩ := d1 hd
  have hkl : k < L.length := (List.getElem?_eq_some_iff.mp hk).1
  unfold cI
  rw [rX5_whoAt, xX5_whoAt_0, if_neg (nI_pos (by omega)), q_s hq, Option.bind_some, if_neg (nI_ge hkl (by omega)), q_r0 hq, Option.bind_some, q_ao hq (by omega), Option.bind_some, ho k x hk]
theorem whoAt_neg {d : Nat} (hd : 1 ≤ d) (H : mH) {v : Int32} (hv : v < 0) : cI (rn d) 43 [.ref q, .int v] H = some (-9, H) := by
  obtain ⟨d, rfl⟩ := d1 hd
  unfold cI
  rw [rX5_whoAt, xX5_whoAt_0, if_pos hv]
theorem whoAt_out {d : Nat} (hd : 1 ≤ d) (hq : q + 3 < h.length) {k : Nat} (hk : L.length ≤ k) (hk2 : k < 2 ^ 31) : cI (rn d) 43 [.ref q, .int (nI k)] (putQ h q o w g (nI L.length) n u) = some (-9, putQ h q o w g (nI L.length) n u) := by
  obtain ⟨d, rfl⟩ := d1 hd
  unfold cI
  rw [rX5_whoAt, xX5_whoAt_0, if_neg (nI_pos (by omega)), q_s hq, Option.bind_some, if_pos (nI_le hk (by omega))]
def plc (L : List Nat) (x : Nat) : Option Nat := L.findIdx? (fun y => y == x)
theorem placeOf_loop {d : Nat} (hq : q + 3 < h.length) (ho : oL o L) (hl : L.length ≤ 7) (hb : ∀ y ∈ L, y < 7) {x : Nat} (hx : x < 7) : ∀ (m k : Nat), L.length - k = m → k ≤ L.length → ex cdX5_placeOf (rn d) 2 [.ref q, .int (nI x), .int (nI k)] [] (putQ h q o w g (nI L.length) n u) = some (some (.int (oI ((plc (L.drop k) x).map (fun j => k + j)))), putQ h q o w g (nI L.length) n u) := by
  intro m
  induction m with
  | zero =>
    intro k h1 h2
    have : k = L.length := by omega
    subst this
    rw [xX5_placeOf_2, q_s hq, Option.bind_some, if_pos (nI_le (Nat.le_refl _) (by omega))]
    simp [plc, oI]
  | succ m ih =>
    intro k h1 h2
    have hkl : k < L.length := by omega
    rw [xX5_placeOf_2, q_s hq, Option.bind_some, if_neg (nI_ge hkl (by omega)), q_r0 hq, Option.bind_some, q_ao hq (by omega), Option.bind_some, ho k L[k] (List.getElem?_eq_getElem hkl)]
    have hy : L[k] < 7 := hb _ (List.getElem_mem hkl)
    have hdr : L.drop k = L[k] :: L.drop (k + 1) := List.drop_eq_getElem_cons hkl
    by_cases e : L[k] = x
    · rw [if_pos (by rw [e]), hdr]
      simp [plc, List.findIdx?_cons, e, oI]
    · rw [if_neg (fun z => e ((nI_inj (by omega) (by omega)).mp z)), nI_1, ih (k + 1) (by omega) (by omega), hdr]
      unfold plc
      rw [List.findIdx?_cons]
      simp only [beq_iff_eq, e, if_false, Option.map_map, Bool.false_eq_true]
      have e9 : (fun j => k + 1 + j) = ((fun j => k + j) ∘ fun i => i + 1) := by
        funext j
        simp only [Function.comp]
        omega
      rw [e9]
theorem placeOf_s {d : Nat} (hd : 1 ≤ d) (hq : q + 3 < h.length) (ho : oL o L) (hl : L.length ≤ 7) (hb : ∀ y ∈ L, y < 7) {x : Nat} (hx : x < 7) : cI (rn d) 44 [.ref q, .int (nI x)] (putQ h q o w g (nI L.length) n u) = some (oI (plc L x), putQ h q o w g (nI L.length) n u) := by
  obtain ⟨d, rfl⟩ := d1 hd
  unfold cI
  rw [rX5_placeOf, xX5_placeOf_0]
  have := placeOf_loop (d := d) (w := w) (g := g) (n := n) (u := u) hq ho hl hb hx (L.length - 0) 0 rfl (Nat.zero_le _)
  rw [nI_0] at this
  rw [this]
  simp only [List.drop_zero, Nat.zero_add, Option.map_id']
end QS
