/-! what the two objects have in common -/
def beg (np : Nat) : LSt := (List.range np, fun _ => 0, fun _ => -9, 0, 0)
def swp (L : List Nat) (i j : Nat) : List Nat := L.map (fun x => if x = i then j else if x = j then i else x)
/-- a deed: 0 a cloudy night, 1 a clear one, from 2 on a trade -/
def doD (kd pt : Nat → Nat) (A : LSt) (d : Nat) : LSt := if d < 2 then (passA kd pt A (d == 1)).2 else (swp A.1 ((d - 2) / 7) ((d - 2) % 7), A.2)
def rep (np : Nat) (kd pt : Nat → Nat) (ds : List Nat) : LSt := ds.foldl (doD kd pt) (beg np)
def okD (A : LSt) (d : Nat) : Prop := d < 2 ∨ ((d - 2) / 7 ∈ A.1 ∧ (d - 2) % 7 ∈ A.1 ∧ (d - 2) / 7 ≠ (d - 2) % 7)
def okDs (np : Nat) (kd pt : Nat → Nat) (ds : List Nat) : Prop := ∀ k x, ds[k]? = some x → okD (rep np kd pt (ds.take k)) x
def lB (np m : Nat) (A : LSt) : Prop := A.1.Nodup ∧ (∀ y ∈ A.1, y < np) ∧ A.2.2.2.1 ≤ m ∧ ∀ j, A.2.1 j ≤ m
theorem lB_lOK {np m : Nat} {A : LSt} (h : lB np m A) (hm : m < 900) : lOK np A := ⟨h.1, h.2.1, by have := h.2.2.1; omega, fun j => by have := h.2.2.2 j; omega⟩
theorem lB_mono {np m m' : Nat} {A : LSt} (h : lB np m A) (hm : m ≤ m') : lB np m' A := ⟨h.1, h.2.1, by have := h.2.2.1; omega, fun j => by have := h.2.2.2 j; omega⟩
theorem beg_lB (np : Nat) : lB np 0 (beg np) := ⟨List.nodup_range, fun y hy => List.mem_range.mp hy, Nat.le_refl _, fun _ => Nat.le_refl _⟩
theorem passA_lB {np m : Nat} {A : LSt} (kd pt : Nat → Nat) (c : Bool) (h : lB np m A) : lB np (m + 1) (passA kd pt A c).2 := by
  obtain ⟨L, wt, wn, nt, gu⟩ := A
  obtain ⟨h1, h2, h3, h4⟩ := h
  dsimp only at h1 h2 h3 h4
  have hperm := pushA_perm kd nt L
  have hnd1 : (pushA kd nt L).Nodup := hperm.nodup_iff.mpr h1
  unfold passA
  dsimp only
  rw [waitR_eq pt _ _ _ _ _ hnd1]
  refine ⟨?_, fun y hy => ?_, by show nt + 1 ≤ m + 1; omega, fun j => ?_⟩
  · dsimp only
    rw [List.nil_append]
    exact hnd1.filter _
  · dsimp only at hy
    rw [List.nil_append] at hy
    exact h2 y (hperm.mem_iff.mp (List.mem_filter.mp hy).1)
  · dsimp only
    have := h4 j
    split <;> split <;> omega
theorem swp_mem {L : List Nat} {i j y : Nat} (hi : i ∈ L) (hj : j ∈ L) : y ∈ swp L i j → y ∈ L := by
  unfold swp
  intro h
  obtain ⟨x, hx, e⟩ := List.mem_map.mp h
  split at e
  · exact e ▸ hj
  · split at e
    · exact e ▸ hi
    · exact e ▸ hx
theorem swp_nodup {L : List Nat} {i j : Nat} (h : L.Nodup) : (swp L i j).Nodup := by
  unfold swp
  refine List.Pairwise.map _ (fun a b hab => ?_) h
  intro e
  apply hab
  grind
theorem doD_lB {np m : Nat} {kd pt : Nat → Nat} {A : LSt} {d : Nat} (hd : okD A d) (h : lB np m A) : lB np (m + 1) (doD kd pt A d) := by
  unfold doD
  split
  · exact passA_lB kd pt _ h
  · next h2 =>
    rcases hd with hd | ⟨d1, d2, d3⟩
    · exact absurd hd h2
    · obtain ⟨h1, h2, h3, h4⟩ := h
      exact ⟨swp_nodup h1, fun y hy => h2 y (swp_mem d1 d2 hy), by show A.2.2.2.1 ≤ m + 1; omega, fun j => by have := h4 j; show A.2.1 j ≤ m + 1; omega⟩
theorem rep_snoc (np : Nat) (kd pt : Nat → Nat) (ds : List Nat) (d : Nat) : rep np kd pt (ds ++ [d]) = doD kd pt (rep np kd pt ds) d := by
  unfold rep
  rw [List.foldl_append]
  rfl
theorem rep_take {np : Nat} {kd pt : Nat → Nat} {ds : List Nat} {k x : Nat} (h : ds[k]? = some x) : rep np kd pt (ds.take (k + 1)) = doD kd pt (rep np kd pt (ds.take k)) x := by
  have hk := (List.getElem?_eq_some_iff.mp h)
  obtain ⟨h1, h2⟩ := hk
  rw [List.take_succ_eq_append_getElem h1, rep_snoc, h2]
theorem rep_lB {np : Nat} {kd pt : Nat → Nat} {ds : List Nat} (hd : okDs np kd pt ds) : ∀ k, k ≤ ds.length → lB np k (rep np kd pt (ds.take k)) := by
  intro k
  induction k with
  | zero => intro _; exact beg_lB np
  | succ k ih =>
    intro hk
    have hg : ds[k]? = some ds[k] := List.getElem?_eq_getElem (by omega)
    rw [rep_take hg]
    exact doD_lB (hd k _ hg) (ih (by omega))
theorem rep_lBf {np : Nat} {kd pt : Nat → Nat} {ds : List Nat} (hd : okDs np kd pt ds) : lB np ds.length (rep np kd pt ds) := by
  have := rep_lB hd ds.length (Nat.le_refl _)
  rwa [List.take_length] at this
theorem okDs_snoc {np : Nat} {kd pt : Nat → Nat} {ds : List Nat} {d : Nat} (hd : okDs np kd pt ds) (h : okD (rep np kd pt ds) d) : okDs np kd pt (ds ++ [d]) := by
  intro k x hk
  by_cases hl : k < ds.length
  · rw [List.getElem?_append_left hl] at hk
    rw [List.take_append_of_le_length (by omega)]
    exact hd k x hk
  · rw [List.getElem?_append_right (by omega)] at hk
    have h1 : k - ds.length < 1 := (List.getElem?_eq_some_iff.mp hk).1
    have h2 : k = ds.length := by omega
    subst h2
    rw [Nat.sub_self] at hk
    cases hk
    rw [List.take_append_of_le_length (Nat.le_refl _), List.take_length]
    exact h
theorem okDs_take {np : Nat} {kd pt : Nat → Nat} {ds : List Nat} (n : Nat) (hd : okDs np kd pt ds) : okDs np kd pt (ds.take n) := by
  intro k x hk
  have hk' : k < n := by have := (List.getElem?_eq_some_iff.mp hk).1; simp at this; omega
  rw [List.getElem?_take_of_lt hk'] at hk
  rw [List.take_take, Nat.min_eq_left (by omega)]
  exact hd k x hk
/-- a line in the reference's row; of who went, only those who are there -/
def LineN (row : Nat → Int32) (b np : Nat) (A : LSt) : Prop := row (b + 1) = nI A.2.2.2.1 ∧ row (b + 2) = nI A.1.length ∧ (∀ k x, A.1[k]? = some x → row (b + 3 + k) = nI x) ∧ (∀ j, j < 7 → row (b + 10 + j) = nI (A.2.1 j)) ∧ (∀ j, j < np → row (b + 17 + j) = A.2.2.1 j) ∧ row (b + 24) = A.2.2.2.2
def QN (I : Nat → Int32) (F : Nat → Nat → Int32) (q np : Nat) (A : LSt) : Prop := I q = nI A.1.length ∧ I (q + 1) = nI A.2.2.2.1 ∧ I (q + 2) = A.2.2.2.2 ∧ oL (F (q + 1)) A.1 ∧ (∀ j, j < 7 → F (q + 2) j = nI (A.2.1 j)) ∧ ∀ j, j < np → F (q + 3) j = A.2.2.1 j
def SegRel (row : Nat → Int32) (b np : Nat) (kd pt : Nat → Nat) (ds : List Nat) : Prop := row b = nI ds.length ∧ LineN row b np (rep np kd pt ds) ∧ ∀ k, k < ds.length → LineN row (b + 24 + 24 * k) np (rep np kd pt (ds.take k))
def rMain (I : Nat → Int32) (J : Nat → Int64) : Prop := I 1 = I 170 ∧ I 2 = I 169 ∧ J 1 = J 168 ∧ J 2 = J 169
def rFnd (F : Nat → Nat → Int32) : Prop := ∀ f, f < 6 → F 141 f = F 177 f
def rRows (I : Nat → Int32) (F : Nat → Nat → Int32) : Prop := ∀ r, r < 6 → I (142 + 2 * r) = F 173 r ∧ (I (142 + 2 * r) = -1 ∨ ∃ n, n ≤ 40 ∧ I (142 + 2 * r) = nI n) ∧ ∀ k, k < 40 → F 174 (40 * r + k) = F (143 + 2 * r) k
def rTxts (I : Nat → Int32) (F : Nat → Nat → Int32) : Prop := ∀ r, r < 4 → I (154 + 2 * r) = F 175 r ∧ (I (154 + 2 * r) = -1 ∨ ∃ n, n ≤ 60 ∧ I (154 + 2 * r) = nI n) ∧ ∀ k, k < 60 → F 176 (60 * r + k) = F (155 + 2 * r) k
def rCrowd (np : Nat) (kd pt pr : Nat → Nat) (I : Nat → Int32) (F : Nat → Nat → Int32) : Prop := I 4 = nI np ∧ I 168 = nI np ∧ np ≤ 7 ∧ ∀ i, i < np → F 5 i = nI (kd i) ∧ F 170 i = nI (kd i) ∧ kd i < 6 ∧ F 6 i = nI (pt i) ∧ F 171 i = nI (pt i) ∧ 1 ≤ pt i ∧ pt i < 10 ∧ F 7 i = nI (pr i) ∧ F 172 i = nI (pr i) ∧ pr i < 10
def rDs (np : Nat) (kd pt : Nat → Nat) (ds : List Nat) (n : Int32) (f : Nat → Int32) : Prop := ds.length ≤ 40 ∧ okDs np kd pt ds ∧ n = nI ds.length ∧ ∀ k x, ds[k]? = some x → f k = nI x
def rLine (np : Nat) (kd pt : Nat → Nat) (ds : List Nat) (I : Nat → Int32) (F : Nat → Nat → Int32) : Prop := rDs np kd pt ds (I 20) (F 21) ∧ QN I F 12 np (rep np kd pt ds) ∧ SegRel (F 169) 0 np kd pt ds
def rKept (np : Nat) (kd pt : Nat → Nat) (ks : Nat → Option (List Nat)) (I : Nat → Int32) (F : Nat → Nat → Int32) : Prop := ∀ k, k < 3 → (ks k = none ∧ I (162 + 2 * k) = -1 ∧ F 169 (985 * (k + 1)) = -1) ∨ ∃ ds, ks k = some ds ∧ rDs np kd pt ds (I (162 + 2 * k)) (F (163 + 2 * k)) ∧ SegRel (F 169) (985 * (k + 1)) np kd pt ds
def RelA (np : Nat) (kd pt pr : Nat → Nat) (ds : List Nat) (ks : Nat → Option (List Nat)) (I : Nat → Int32) (J : Nat → Int64) (F : Nat → Nat → Int32) : Prop := rMain I J ∧ rFnd F ∧ rRows I F ∧ rTxts I F ∧ rCrowd np kd pt pr I F ∧ rLine np kd pt ds I F ∧ rKept np kd pt ks I F
section RC
variable {I I' : Nat → Int32} {J J' : Nat → Int64} {F F' : Nat → Nat → Int32} {np : Nat} {kd pt pr : Nat → Nat} {ds : List Nat} {ks : Nat → Option (List Nat)}
theorem rMain_c (h : rMain I J) (a : ∀ k, (k = 1 ∨ k = 2 ∨ k = 169 ∨ k = 170) → I' k = I k) (b : ∀ k, (k = 1 ∨ k = 2 ∨ k = 168 ∨ k = 169) → J' k = J k) : rMain I' J' := by
  unfold rMain
  rw [a 1 (by omega), a 2 (by omega), a 169 (by omega), a 170 (by omega), b 1 (by omega), b 2 (by omega), b 168 (by omega), b 169 (by omega)]
  exact h
theorem rFnd_c (h : rFnd F) (b : ∀ k, (k = 141 ∨ k = 177) → F' k = F k) : rFnd F' := by
  unfold rFnd
  rw [b 141 (by omega), b 177 (by omega)]
  exact h
theorem rRows_c (h : rRows I F) (a : ∀ k, 142 ≤ k → k ≤ 152 → I' k = I k) (b : ∀ k, (143 ≤ k ∧ k ≤ 153 ∨ k = 173 ∨ k = 174) → F' k = F k) : rRows I' F' := by
  intro r hr
  rw [a (142 + 2 * r) (by omega) (by omega), b 173 (by omega), b 174 (by omega), b (143 + 2 * r) (by omega)]
  exact h r hr
theorem rTxts_c (h : rTxts I F) (a : ∀ k, 154 ≤ k → k ≤ 160 → I' k = I k) (b : ∀ k, (155 ≤ k ∧ k ≤ 161 ∨ k = 175 ∨ k = 176) → F' k = F k) : rTxts I' F' := by
  intro r hr
  rw [a (154 + 2 * r) (by omega) (by omega), b 175 (by omega), b 176 (by omega), b (155 + 2 * r) (by omega)]
  exact h r hr
theorem rCrowd_c (h : rCrowd np kd pt pr I F) (a : ∀ k, (k = 4 ∨ k = 168) → I' k = I k) (b : ∀ k, (5 ≤ k ∧ k ≤ 7 ∨ 170 ≤ k ∧ k ≤ 172) → F' k = F k) : rCrowd np kd pt pr I' F' := by
  unfold rCrowd
  rw [a 4 (by omega), a 168 (by omega), b 5 (by omega), b 6 (by omega), b 7 (by omega), b 170 (by omega), b 171 (by omega), b 172 (by omega)]
  exact h
theorem LineN_c {row row' : Nat → Int32} {b : Nat} {A : LSt} (hl : A.1.length ≤ 7) (hn : np ≤ 7) (h : LineN row b np A) (a : ∀ k, b + 1 ≤ k → k ≤ b + 24 → row' k = row k) : LineN row' b np A := by
  obtain ⟨l1, l2, l3, l4, l5, l6⟩ := h
  refine ⟨by rw [a _ (by omega) (by omega)]; exact l1, by rw [a _ (by omega) (by omega)]; exact l2, fun k x hk => ?_, fun j hj => ?_, fun j hj => ?_, by rw [a _ (by omega) (by omega)]; exact l6⟩
  · have := (List.getElem?_eq_some_iff.mp hk).1
    rw [a _ (by omega) (by omega)]; exact l3 k x hk
  · rw [a _ (by omega) (by omega)]; exact l4 j hj
  · rw [a _ (by omega) (by omega)]; exact l5 j hj
theorem LineN_cp {row row' : Nat → Int32} {b c : Nat} {A : LSt} (hl : A.1.length ≤ 7) (hn : np ≤ 7) (h : LineN row b np A) (a : ∀ k, 1 ≤ k → k ≤ 24 → row' (c + k) = row (b + k)) : LineN row' c np A := by
  obtain ⟨l1, l2, l3, l4, l5, l6⟩ := h
  refine ⟨by rw [a _ (by omega) (by omega)]; exact l1, by rw [a _ (by omega) (by omega)]; exact l2, fun k x hk => ?_, fun j hj => ?_, fun j hj => ?_, by rw [a _ (by omega) (by omega)]; exact l6⟩
  · have := (List.getElem?_eq_some_iff.mp hk).1
    rw [Nat.add_assoc, a _ (by omega) (by omega), ← Nat.add_assoc]; exact l3 k x hk
  · rw [Nat.add_assoc, a _ (by omega) (by omega), ← Nat.add_assoc]; exact l4 j hj
  · rw [Nat.add_assoc, a _ (by omega) (by omega), ← Nat.add_assoc]; exact l5 j hj
theorem lB_len {m : Nat} {A : LSt} (hn : np ≤ 7) (h : lB np m A) : A.1.length ≤ 7 := Nat.le_trans (nodup_len h.1 h.2.1) hn
theorem SegRel_cp {row row' : Nat → Int32} {b c : Nat} (hn : np ≤ 7) (hl : ds.length ≤ 40) (hd : okDs np kd pt ds) (h : SegRel row b np kd pt ds) (a : ∀ k, k < 985 → row' (c + k) = row (b + k)) : SegRel row' c np kd pt ds := by
  obtain ⟨h1, h2, h3⟩ := h
  refine ⟨by have := a 0 (by omega); rw [Nat.add_zero, Nat.add_zero] at this; rw [this]; exact h1, LineN_cp (lB_len hn (rep_lBf hd)) hn h2 (fun k k1 k2 => a k (by omega)), fun k hk => ?_⟩
  refine LineN_cp (lB_len hn (rep_lB hd k (by omega))) hn (h3 k hk) (fun j j1 j2 => ?_)
  have := a (24 + 24 * k + j) (by omega)
  rw [show c + 24 + 24 * k + j = c + (24 + 24 * k + j) by omega, this]
  congr 1
  omega
theorem SegRel_c {row row' : Nat → Int32} {b : Nat} (hn : np ≤ 7) (hl : ds.length ≤ 40) (hd : okDs np kd pt ds) (h : SegRel row b np kd pt ds) (a : ∀ k, b ≤ k → k < b + 985 → row' k = row k) : SegRel row' b np kd pt ds := SegRel_cp hn hl hd h (fun k hk => a _ (by omega) (by omega))
theorem QN_c {q : Nat} {A : LSt} (h : QN I F q np A) (a : ∀ k, q ≤ k → k ≤ q + 2 → I' k = I k) (b : ∀ k, q + 1 ≤ k → k ≤ q + 3 → F' k = F k) : QN I' F' q np A := by
  unfold QN
  rw [a q (by omega) (by omega), a (q + 1) (by omega) (by omega), a (q + 2) (by omega) (by omega), b (q + 1) (by omega) (by omega), b (q + 2) (by omega) (by omega), b (q + 3) (by omega) (by omega)]
  exact h
theorem rLine_c (hn : np ≤ 7) (h : rLine np kd pt ds I F) (a : ∀ k, (12 ≤ k ∧ k ≤ 14 ∨ k = 20) → I' k = I k) (b : ∀ k, (13 ≤ k ∧ k ≤ 15 ∨ k = 21) → F' k = F k) (c : ∀ k, k < 985 → F' 169 k = F 169 k) : rLine np kd pt ds I' F' := by
  obtain ⟨h1, h2, h3⟩ := h
  refine ⟨by rw [a 20 (by omega), b 21 (by omega)]; exact h1, QN_c h2 (fun k k1 k2 => a k (by omega)) (fun k k1 k2 => b k (by omega)), SegRel_c hn h1.1 h1.2.1 h3 (fun k k1 k2 => c k (by omega))⟩
theorem rKept_c (hn : np ≤ 7) (h : rKept np kd pt ks I F) (a : ∀ k, 162 ≤ k → k ≤ 166 → I' k = I k) (b : ∀ k, 163 ≤ k → k ≤ 167 → F' k = F k) (c : ∀ k, 985 ≤ k → k < 3940 → F' 169 k = F 169 k) : rKept np kd pt ks I' F' := by
  intro k hk
  rw [a (162 + 2 * k) (by omega) (by omega), b (163 + 2 * k) (by omega) (by omega), c (985 * (k + 1)) (by omega) (by omega)]
  rcases h k hk with h1 | ⟨ds, h1, h2, h3⟩
  · exact Or.inl h1
  · exact Or.inr ⟨ds, h1, h2, SegRel_c hn h2.1 h2.2.1 h3 (fun j j1 j2 => c j (by omega) (by omega))⟩
end RC
/-! a night, over the whole heap -/
section PH
variable {I : Nat → Int32} {J : Nat → Int64} {F : Nat → Nat → Int32} {G : Nat → Int64} {X : Nat → va_E} {np : Nat} {kd pt : Nat → Nat}
theorem pass_q {d : Nat} (hd : 8 ≤ d) {q c : Nat} {kf pf rf : Nat → Int32} {m : Nat} {A : LSt} (hpq : ∀ o w g s n u, putQ (hp I J F G X) q o w g s n u = hp (upd (upd (upd I q s) (q + 1) n) (q + 2) u) J (upF (upF (upF F (q + 1) o) (q + 2) w) (q + 3) g) G X)
    (k0 : (hp I J F G X)[q]? = some (oQ q (I q) (I (q + 1)) (I (q + 2)))) (k1 : (hp I J F G X)[q + 1]? = some (ar 7 (F (q + 1)))) (k2 : (hp I J F G X)[q + 2]? = some (ar 7 (F (q + 2)))) (k3 : (hp I J F G X)[q + 3]? = some (ar 7 (F (q + 3))))
    (hQ : QN I F q np A) (ha : apart4 c q) (hc : Cat (hp I J F G X) c kf pf rf (nI np)) (hn : np ≤ 7) (hk : kOK kf kd np) (hp' : ∀ k, k < np → pf k = nI (pt k) ∧ pt k < 1000) (hA : lB np m A) (hm : m < 900) (clear : Bool) :
    ∃ I' F', cI (rn d) 52 [.ref q, .ref c, .int (bI clear)] (hp I J F G X) = some (oI (passA kd pt A clear).1, hp I' J F' G X) ∧ QN I' F' q np (passA kd pt A clear).2 ∧ (∀ k, (k < q ∨ q + 2 < k) → I' k = I k) ∧ ∀ k, (k < q + 1 ∨ q + 3 < k) → F' k = F k := by
  obtain ⟨L, wt, wn, nt, gu⟩ := A
  obtain ⟨q1, q2, q3, q4, q5, q6⟩ := hQ
  dsimp only at q1 q2 q3 q4 q5 q6
  have hin : Qin (hp I J F G X) q (L, wt, F (q + 3), nt, gu) := ⟨F (q + 1), F (q + 2), F (q + 3), by rw [k0, q1, q2, q3], k1, k2, k3, q4, q5, fun _ _ => rfl⟩
  obtain ⟨H', e1, ⟨o, w, g, g0, g1, g2, g3, g4, g5, g6⟩, e3⟩ := pass_s hd hin ha hc hn hk hp' (lB_lOK (A := (L, wt, F (q + 3), nt, gu)) (np := np) (m := m) hA hm) clear
  have hlen : q + 3 < (hp I J F G X).length := (List.getElem?_eq_some_iff.mp k3).1
  have eH : H' = putQ (hp I J F G X) q o w g (nI (passA kd pt (L, wt, F (q + 3), nt, gu) clear).2.1.length) (nI (passA kd pt (L, wt, F (q + 3), nt, gu) clear).2.2.2.2.1) (passA kd pt (L, wt, F (q + 3), nt, gu) clear).2.2.2.2.2 := by
    apply lst_ext
    intro k
    rcases in4 q k with rfl | rfl | rfl | rfl | hk
    · rw [putQ_0 hlen, g0]
    · rw [putQ_1 hlen, g1]
    · rw [putQ_2 hlen, g2]
    · rw [putQ_3 hlen, g3]
    · rw [putQ_o hk, e3.2 k hk]
  rw [hpq] at eH
  refine ⟨_, _, e1.trans (by rw [eH]; rfl), ⟨?_, ?_, ?_, ?_, ?_, ?_⟩, fun k hk => ?_, fun k hk => ?_⟩
  · rw [upd_ne (by omega), upd_ne (by omega), upd_eq]; rfl
  · rw [upd_ne (by omega), upd_eq]; rfl
  · rw [upd_eq]; rfl
  · rw [upF_ne (by omega), upF_ne (by omega), upF_eq]; exact g4
  · rw [upF_ne (by omega), upF_eq]; exact g5
  · intro j hj
    rw [upF_eq, g6 j (by omega)]
    show wnS (F (q + 3)) (passA kd pt (L, wt, wn, nt, gu) clear).1 nt j = wnS wn (passA kd pt (L, wt, wn, nt, gu) clear).1 nt j
    cases (passA kd pt (L, wt, wn, nt, gu) clear).1 with
    | none => exact q6 j hj
    | some x =>
      show upd (F (q + 3)) x (nI nt) j = upd wn x (nI nt) j
      by_cases z : j = x
      · subst z; rw [upd_eq, upd_eq]
      · rw [upd_ne z, upd_ne z, q6 j hj]
  · rw [upd_ne (by omega), upd_ne (by omega), upd_ne (by omega)]
  · rw [upF_ne (by omega), upF_ne (by omega), upF_ne (by omega)]
theorem pass_m {d : Nat} (hd : 8 ≤ d) {b m : Nat} {A : LSt} (hL : LineN (F 169) b np A) (hn : np ≤ 7) (hk : kOK (F 170) kd np) (hp' : ∀ k, k < np → F 171 k = nI (pt k) ∧ pt k < 1000) (hb : b + 24 < 3965) (hA : lB np m A) (hm : m < 900) (clear : Bool) :
    ∃ row' st', cI (rn d) 184 [.ref 168, .int (nI b), .int (bI clear)] (hp I J F G X) = some (oI (passA kd pt A clear).1, hp I J (upF (upF F 169 row') 179 st') G X) ∧ LineN row' b np (passA kd pt A clear).2 ∧ RFr (F 169) row' b := by
  obtain ⟨L, wt, wn, nt, gu⟩ := A
  obtain ⟨l1, l2, l3, l4, l5, l6⟩ := hL
  dsimp only at l1 l2 l3 l4 l5 l6
  have hL' : LineAt (F 169) b (L, wt, (fun j => F 169 (b + 17 + j)), nt, gu) := ⟨l1, l2, l3, l4, fun _ _ => rfl, l6⟩
  obtain ⟨row', st', e1, e2, e3⟩ := r_pass (st := F 179) (h := (hp I J F G X)) hd hp_M hn hk hp' hb hL' (lB_lOK (A := (L, wt, (fun j => F 169 (b + 17 + j)), nt, gu)) (np := np) (m := m) hA hm) clear
  rw [putM_same k169 k179 (by rw [hp_len]; decide), hp_m] at e1
  refine ⟨row', st', e1, ⟨e2.1, e2.2.1, e2.2.2.1, e2.2.2.2.1, fun j hj => ?_, e2.2.2.2.2.2⟩, e3⟩
  rw [e2.2.2.2.2.1 j (by omega)]
  show wnS (fun j => F 169 (b + 17 + j)) (passA kd pt (L, wt, wn, nt, gu) clear).1 nt j = wnS wn (passA kd pt (L, wt, wn, nt, gu) clear).1 nt j
  cases (passA kd pt (L, wt, wn, nt, gu) clear).1 with
  | none => exact l5 j hj
  | some x =>
    show upd (fun j => F 169 (b + 17 + j)) x (nI nt) j = upd wn x (nI nt) j
    by_cases z : j = x
    · subst z; rw [upd_eq, upd_eq]
    · rw [upd_ne z, upd_ne z]
      exact l5 j hj
end PH
