/-! lies: the orders -/
def remL (n : Nat) (pre : List Nat) : List Nat := (List.range n).filter (fun p => decide (p ∉ pre))
def pfd {α : Type} (stp : α → List Nat → α) (n : Nat) : Nat → List Nat → α → α
  | 0, pre, acc => stp acc pre
  | m + 1, pre, acc => (List.range n).foldl (fun acc p => if p ∈ pre then acc else pfd stp n m (pre ++ [p]) acc) acc
theorem pfd_s {α : Type} (stp : α → List Nat → α) (n m : Nat) (pre : List Nat) (acc : α) : pfd stp n (m + 1) pre acc = (remL n pre).foldl (fun acc p => pfd stp n m (pre ++ [p]) acc) acc := by
  unfold remL
  rw [List.foldl_filter]
  show (List.range n).foldl _ acc = _
  congr 1
  funext acc p
  by_cases e : p ∈ pre
  · rw [if_pos e, if_neg (by simp [e])]
  · rw [if_neg e, if_pos (by simp [e])]
theorem remL_lt (n : Nat) (pre : List Nat) : (remL n pre).Pairwise (· < ·) := List.Pairwise.filter _ List.pairwise_lt_range
theorem remL_mem {n : Nat} {pre : List Nat} {x : Nat} (h : x ∈ remL n pre) : x < n ∧ x ∉ pre := by
  unfold remL at h
  rw [List.mem_filter, List.mem_range, decide_eq_true_eq] at h
  exact h
theorem remL_x {n : Nat} {pre S1 S2 : List Nat} {x : Nat} (h : remL n pre = S1 ++ x :: S2) : remL n (pre ++ [x]) = S1 ++ S2 := by
  have hs := remL_lt n pre
  rw [h, List.pairwise_append] at hs
  obtain ⟨h1, h2, h3⟩ := hs
  rw [List.pairwise_cons] at h2
  have e : remL n (pre ++ [x]) = (remL n pre).filter (fun p => decide (p ≠ x)) := by
    unfold remL
    rw [List.filter_filter]
    congr 1
    funext p
    by_cases e1 : p ∈ pre <;> by_cases e2 : p = x <;> simp [e1, e2]
  rw [e, h, List.filter_append, List.filter_cons_of_neg (by simp), List.filter_eq_self.mpr (fun a ha => ?_), List.filter_eq_self.mpr (fun a ha => ?_)]
  · have := h2.1 a ha
    simp; omega
  · have := h3 a ha x (List.mem_cons_self)
    simp; omega
/-! truths and lies -/
def cntP (ps : List (Nat × Nat)) (a b : Nat) : Nat := ps.countP (fun q => decide (q = (a, b)))
def trs (ps : List (Nat × Nat)) : List Nat → Nat
  | b :: a :: l => cntP ps a b + trs ps (a :: l)
  | _ => 0
def behL (q : Nat × Nat) : List Nat → Bool
  | b :: a :: l => decide (q = (a, b)) || behL q (a :: l)
  | _ => false
def lisP (ps : List (Nat × Nat)) (l : List Nat) : Nat := ps.countP (fun q => !behL q l)
theorem behL_mem {q : Nat × Nat} : ∀ (l : List Nat) (c : Nat), behL q (c :: l) = true → q.1 ∈ l
  | [], _, h => by cases h
  | a :: l, c, h => by
    have h' : (decide (q = (a, c)) || behL q (a :: l)) = true := h
    rw [Bool.or_eq_true, decide_eq_true_eq] at h'
    rcases h' with h' | h'
    · rw [h']; exact List.mem_cons_self
    · exact List.mem_cons_of_mem _ (behL_mem l a h')
theorem trs_c {q : Nat × Nat} {ps : List (Nat × Nat)} : ∀ l : List Nat, l.Nodup → trs (q :: ps) l = (if behL q l = true then 1 else 0) + trs ps l
  | [], _ => rfl
  | [_], _ => rfl
  | b :: a :: l, h => by
    have h2 := List.nodup_cons.mp h
    have h3 := List.nodup_cons.mp h2.2
    show cntP (q :: ps) a b + trs (q :: ps) (a :: l) = (if (decide (q = (a, b)) || behL q (a :: l)) = true then 1 else 0) + (cntP ps a b + trs ps (a :: l))
    rw [trs_c (a :: l) h2.2]
    unfold cntP
    rw [List.countP_cons]
    by_cases e : q = (a, b)
    · have hb : ¬ behL q (a :: l) = true := fun z => by
        have := behL_mem l a z
        rw [e] at this
        exact h3.1 this
      rw [decide_eq_true e, Bool.true_or, if_pos rfl, if_neg hb]
      omega
    · rw [decide_eq_false e, Bool.false_or, if_neg (by decide)]
      omega
theorem trs_nil : ∀ l : List Nat, trs [] l = 0
  | [] => rfl
  | [_] => rfl
  | b :: a :: l => by
    show 0 + trs [] (a :: l) = 0
    rw [trs_nil (a :: l)]
theorem trs_lis {l : List Nat} (h : l.Nodup) : ∀ ps : List (Nat × Nat), trs ps l + lisP ps l = ps.length
  | [] => by rw [trs_nil]; rfl
  | q :: ps => by
    have := trs_lis h ps
    unfold lisP at this ⊢
    rw [trs_c l h, List.countP_cons, List.length_cons]
    cases behL q l <;> simp <;> omega
theorem trs_snoc {ps : List (Nat × Nat)} {a b : Nat} : ∀ pre : List Nat, trs ps (pre ++ [b] ++ [a]) = trs ps (pre ++ [b]) + cntP ps a b
  | [] => by
    show cntP ps a b + 0 = 0 + cntP ps a b
    omega
  | [c] => by
    show cntP ps b c + (cntP ps a b + 0) = cntP ps b c + 0 + cntP ps a b
    omega
  | c :: d :: pre => by
    have := trs_snoc (ps := ps) (a := a) (b := b) (d :: pre)
    show cntP ps d c + trs ps (d :: pre ++ [b] ++ [a]) = cntP ps d c + trs ps (d :: pre ++ [b]) + cntP ps a b
    rw [this, Nat.add_assoc]
theorem behL_snoc {q : Nat × Nat} {a b : Nat} : ∀ pre : List Nat, behL q (pre ++ [b] ++ [a]) = (behL q (pre ++ [b]) || decide (q = (a, b)))
  | [] => by
    show (decide (q = (a, b)) || false) = (false || decide (q = (a, b)))
    rw [Bool.or_false, Bool.false_or]
  | [c] => by
    show (decide (q = (b, c)) || (decide (q = (a, b)) || false)) = ((decide (q = (b, c)) || false) || decide (q = (a, b)))
    rw [Bool.or_false, Bool.or_false]
  | c :: d :: pre => by
    have := behL_snoc (q := q) (a := a) (b := b) (d :: pre)
    show (decide (q = (d, c)) || behL q (d :: pre ++ [b] ++ [a])) = ((decide (q = (d, c)) || behL q (d :: pre ++ [b])) || decide (q = (a, b)))
    rw [this, Bool.or_assoc]
def stpL (ps : List (Nat × Nat)) (acc : Option (Nat × Nat)) (l : List Nat) : Option (Nat × Nat) := match acc with
  | none => some (trs ps l, 1)
  | some q => if q.1 < trs ps l then some (trs ps l, 1) else if trs ps l = q.1 then some (q.1, q.2 + 1) else some q
/-! nextOrder -/
theorem oL_set {o : Nat → Int32} {l : List Nat} {k z : Nat} (h : oL o l) : oL (upd o k (nI z)) (l.set k z) := by
  intro j y hj
  rw [List.getElem?_set] at hj
  by_cases e : k = j
  · subst e
    rw [if_pos rfl] at hj
    split at hj
    · cases hj; rw [upd_eq]
    · cases hj
  · rw [if_neg e] at hj
    rw [upd_ne (fun z => e z.symm)]
    exact h j y hj
section NO
variable {I : Nat → Int32} {J : Nat → Int64} {F : Nat → Nat → Int32} {G : Nat → Int64} {X : Nat → va_E}
theorem n181 {o : Nat → Int32} {l : List Nat} {k z : Nat} (h : oL o l) (hl : l.length ≤ 7) (hk : l[k]? = some z) : aI 0 (hp I J (upF F 181 o) G X) 181 (nI k) = some (nI z) := by
  have := (List.getElem?_eq_some_iff.mp hk).1
  rw [y_g181 (by omega), upF_eq, h k z hk]
theorem m181 {o : Nat → Int32} {k z : Nat} (hk : k < 7) : sI (hp I J (upF F 181 o) G X) 181 (nI k) (nI z) = some (hp I J (upF F 181 (upd o k (nI z))) G X) := by
  rw [y_s181 hk, upF_eq, upF_upF]
theorem nI_m1 (k : Nat) : nI (k + 1) + (-1) = nI k := by rw [← Int32.sub_eq_add_neg]; exact nI_pred k
theorem no_piv {d : Nat} {v1 : Int32} {o : Nat → Int32} {l : List Nat} {a : Nat} (ho : oL o l) (hl : l.length ≤ 7) (hd : ∀ t u v, a ≤ t → l[t]? = some u → l[t + 1]? = some v → v < u) (hb : ∀ u, u ∈ l → u < 7) : ∀ q, a + q + 1 ≤ l.length → ex cdX10_nextOrder (rn d) 4 [.ref 168, .int v1, .int (nI (a + q) - 1), .null, .null, .null, .null] [] (hp I J (upF F 181 o) G X) = ex cdX10_nextOrder (rn d) 4 [.ref 168, .int v1, .int (nI a - 1), .null, .null, .null, .null] [] (hp I J (upF F 181 o) G X) := by
  intro q
  induction q with
  | zero => intro _; rfl
  | succ q ih =>
    intro hq
    have h1 : l[a + q]? = some l[a + q] := List.getElem?_eq_getElem (by omega)
    have h2 : l[a + q + 1]? = some l[a + q + 1] := List.getElem?_eq_getElem (by omega)
    have hlt := hd (a + q) _ _ (by omega) h1 h2
    have b1 := hb _ (List.getElem_mem (show a + q < l.length by omega))
    rw [show a + (q + 1) = a + q + 1 by omega, nI_pred, xX10_nextOrder_4, if_neg (nI_pos (by omega)), y_f22, Option.bind_some, n181 ho hl h1, Option.bind_some, Option.bind_some, nI_1, n181 ho hl h2, Option.bind_some, if_neg (nI_ge hlt (by omega)), show nI (a + q) + (-1) = nI (a + q) - 1 from (Int32.sub_eq_add_neg _ _).symm]
    exact ih (by omega)
theorem no_sw {d : Nat} {v1 : Int32} {o : Nat → Int32} {l : List Nat} {i j x : Nat} (ho : oL o l) (hl : l.length ≤ 7) (hi : l[i]? = some x) (hx : x < 7) (hd : ∀ t u, j < t → l[t]? = some u → u < x) : ∀ q, j + q < l.length → ex cdX10_nextOrder (rn d) 41 [.ref 168, .int v1, .int (nI i), .int (nI (j + q)), .null, .null, .null] [] (hp I J (upF F 181 o) G X) = ex cdX10_nextOrder (rn d) 41 [.ref 168, .int v1, .int (nI i), .int (nI j), .null, .null, .null] [] (hp I J (upF F 181 o) G X) := by
  intro q
  induction q with
  | zero => intro _; rfl
  | succ q ih =>
    intro hq
    have h1 : l[j + q + 1]? = some l[j + q + 1] := List.getElem?_eq_getElem (by omega)
    have hlt := hd _ _ (by omega) h1
    rw [show j + (q + 1) = j + q + 1 by omega, xX10_nextOrder_41, y_f22, Option.bind_some, n181 ho hl h1, Option.bind_some, Option.bind_some, n181 ho hl hi, Option.bind_some, if_neg (nI_ge hlt (by omega)), nI_m1]
    exact ih (by omega)
theorem no_rev {d : Nat} {v1 v2 v3 : Int32} : ∀ (m : Nat) (M P Q : List Nat) (o : Nat → Int32) (v4 : Int32), M.length ≤ m → 1 ≤ P.length → (P ++ M ++ Q).length ≤ 7 → oL o (P ++ M ++ Q) → ∃ o', ex cdX10_nextOrder (rn d) 100 [.ref 168, .int v1, .int v2, .int v3, .int v4, .int (nI P.length), .int (nI (P.length + M.length) - 1)] [] (hp I J (upF F 181 o) G X) = some (some (.int 1), hp I J (upF F 181 o') G X) ∧ oL o' (P ++ M.reverse ++ Q) := by
  intro m
  induction m using Nat.strongRecOn with
  | ind m ih =>
    intro M P Q o v4 hM hP hl ho
    have hlen : P.length + M.length + Q.length ≤ 7 := by simpa [List.length_append, Nat.add_assoc] using hl
    have e6 : nI (P.length + M.length) - 1 = nI (P.length + M.length - 1) := pk_sub (b := 1) (by omega)
    by_cases h2 : M.length ≤ 1
    · refine ⟨o, ?_, ?_⟩
      · rw [xX10_nextOrder_100, e6, if_pos (nI_le (by omega) (by omega))]
      · have : M.reverse = M := by
          cases M with
          | nil => rfl
          | cons a M => cases M with
            | nil => rfl
            | cons b M => simp at h2
        rw [this]; exact ho
    · obtain ⟨a, M1, rfl⟩ : ∃ a M1, M = a :: M1 := by
        cases M with
        | nil => exact absurd (Nat.zero_le 1) h2
        | cons a M1 => exact ⟨a, M1, rfl⟩
      have hne : M1 ≠ [] := fun z => by rw [z] at h2; exact h2 (Nat.le_refl _)
      obtain ⟨M', b, rfl⟩ : ∃ M' b, M1 = M' ++ [b] := ⟨M1.dropLast, M1.getLast hne, (List.dropLast_concat_getLast hne).symm⟩
      have hml : (a :: (M' ++ [b])).length = M'.length + 2 := by simp
      rw [hml] at hlen hM e6 ⊢
      have g1 : (P ++ (a :: (M' ++ [b])) ++ Q)[P.length]? = some a := by simp
      have g2 : (P ++ (a :: (M' ++ [b])) ++ Q)[P.length + M'.length + 1]? = some b := by
        rw [show P ++ (a :: (M' ++ [b])) ++ Q = (P ++ (a :: M')) ++ (b :: Q) by simp, List.getElem?_append_right (by simp; omega)]
        have : P.length + M'.length + 1 - (P ++ a :: M').length = 0 := by simp; omega
        rw [this]; rfl
      have hset : ((P ++ (a :: (M' ++ [b])) ++ Q).set P.length b).set (P.length + M'.length + 1) a = (P ++ [b]) ++ M' ++ ([a] ++ Q) := by
        rw [show P ++ (a :: (M' ++ [b])) ++ Q = P ++ (a :: (M' ++ (b :: Q))) by simp, List.set_append_right _ _ (Nat.le_refl _), Nat.sub_self]
        show (P ++ (b :: (M' ++ (b :: Q)))).set _ a = _
        rw [show P ++ (b :: (M' ++ (b :: Q))) = (P ++ (b :: M')) ++ (b :: Q) by simp, List.set_append_right _ _ (by simp; omega)]
        have : P.length + M'.length + 1 - (P ++ b :: M').length = 0 := by simp; omega
        rw [this]
        simp
      have ho2 := oL_set (k := P.length + M'.length + 1) (z := a) (oL_set (k := P.length) (z := b) ho)
      rw [hset] at ho2
      obtain ⟨o', a1, a2⟩ := ih M'.length (by omega) M' (P ++ [b]) ([a] ++ Q) _ (nI a) (Nat.le_refl _) (by simp) (by simp; omega) ho2
      refine ⟨o', ?_, by simpa using a2⟩
      have hb : (P ++ [b]).length = P.length + 1 := by simp
      rw [hb] at a1
      have e7 : nI (P.length + M'.length + 1) + (-1) = nI (P.length + 1 + M'.length) - 1 := by
        rw [nI_m1, show P.length + 1 + M'.length = P.length + M'.length + 1 by omega, nI_pred]
      rw [xX10_nextOrder_100, e6, show P.length + (M'.length + 2) - 1 = P.length + M'.length + 1 by omega, if_neg (nI_ge (by omega) (by omega)), y_f22, Option.bind_some, n181 ho hl g1, Option.bind_some, Option.bind_some, Option.bind_some, n181 ho hl g2, Option.bind_some, m181 (by omega), Option.bind_some, y_f22, Option.bind_some, m181 (by omega), Option.bind_some, nI_1, e7]
      exact a1
theorem no_next {d : Nat} {pre S1 S3 : List Nat} {x y : Nat} {o : Nat → Int32} (hs : (S1 ++ x :: y :: S3).Pairwise (· < ·)) (hb : ∀ u, u ∈ pre ++ x :: ((S1 ++ y :: S3).reverse) → u < 7) (hl : (pre ++ x :: ((S1 ++ y :: S3).reverse)).length ≤ 7) (ho : oL o (pre ++ x :: ((S1 ++ y :: S3).reverse))) : ∃ o', cI (rn (d + 1)) 228 [.ref 168, .int (nI (pre ++ x :: ((S1 ++ y :: S3).reverse)).length)] (hp I J (upF F 181 o) G X) = some (1, hp I J (upF F 181 o') G X) ∧ oL o' (pre ++ y :: ((S1 ++ [x]) ++ S3)) := by
  obtain ⟨L, hL⟩ : ∃ L, L = pre ++ x :: ((S1 ++ y :: S3).reverse) := ⟨_, rfl⟩
  have hLl : L.length = pre.length + 1 + (S1.length + S3.length + 1) := by rw [hL]; simp; omega
  rw [List.pairwise_append] at hs
  obtain ⟨s1, s2, s3⟩ := hs
  rw [List.pairwise_cons, List.pairwise_cons] at s2
  have hdes : (S1 ++ y :: S3).reverse.Pairwise (fun a b => b < a) := by
    rw [List.pairwise_reverse, List.pairwise_append]
    exact ⟨s1, List.pairwise_cons.mpr s2.2, fun a ha b hb => s3 a ha b (List.mem_cons_of_mem _ hb)⟩
  have gx : L[pre.length]? = some x := by rw [hL]; simp
  have hrev : (S1 ++ y :: S3).reverse = S3.reverse ++ (y :: S1.reverse) := by simp
  have gy : L[pre.length + S3.length + 1]? = some y := by
    rw [hL, hrev, show pre ++ x :: (S3.reverse ++ (y :: S1.reverse)) = (pre ++ (x :: S3.reverse)) ++ (y :: S1.reverse) by simp, List.getElem?_append_right (by simp; omega)]
    have : pre.length + S3.length + 1 - (pre ++ x :: S3.reverse).length = 0 := by simp; omega
    rw [this]; rfl
  rw [← hL] at hb hl ho ⊢
  have hxl : x < 7 := hb x (by rw [hL]; simp)
  have hyl : y < 7 := hb y (by rw [hL]; simp)
  -- the first behind x
  have g1 : ∃ z, L[pre.length + 1]? = some z ∧ x < z ∧ z < 7 := by
    have hlt : pre.length + 1 < L.length := by omega
    refine ⟨L[pre.length + 1], List.getElem?_eq_getElem hlt, ?_, hb _ (List.getElem_mem hlt)⟩
    have e0 : L[pre.length + 1]? = (S3.reverse ++ (y :: S1.reverse))[0]? := by
      rw [hL, hrev, List.getElem?_append_right (by omega), show pre.length + 1 - pre.length = 1 by omega]; rfl
    rw [List.getElem?_eq_getElem hlt] at e0
    have hmem : L[pre.length + 1] ∈ y :: S3 := by
      cases hS : S3.reverse with
      | nil => rw [hS] at e0; cases e0; exact List.mem_cons_self
      | cons c R =>
        rw [hS] at e0
        cases e0
        refine List.mem_cons_of_mem _ (List.mem_reverse.mp ?_)
        rw [hS]; exact List.mem_cons_self
    exact s2.1 _ hmem
  obtain ⟨z, gz, hxz, hz7⟩ := g1
  have hpiv := no_piv (d := d) (v1 := nI L.length) (I := I) (J := J) (F := F) (G := G) (X := X) (a := pre.length + 1) ho hl (fun t u v ht hu hv => by
    have e1 : L = (pre ++ [x]) ++ (S1 ++ y :: S3).reverse := by rw [hL]; simp
    rw [e1, List.getElem?_append_right (by simp; omega)] at hu hv
    have hidx : (pre ++ [x]).length = pre.length + 1 := by simp
    rw [hidx] at hu hv
    rw [show t + 1 - (pre.length + 1) = t - (pre.length + 1) + 1 by omega] at hv
    obtain ⟨i1, j1⟩ := List.getElem?_eq_some_iff.mp hu
    obtain ⟨i2, j2⟩ := List.getElem?_eq_some_iff.mp hv
    have := List.pairwise_iff_getElem.mp hdes _ _ i1 i2 (by omega)
    rw [j1, j2] at this
    exact this) hb (S1.length + S3.length) (by omega)
  have hsw := no_sw (d := d) (v1 := nI L.length) (I := I) (J := J) (F := F) (G := G) (X := X) (j := pre.length + S3.length + 1) ho hl gx hxl (fun t u ht hu => by
    have e1 : L = (pre ++ x :: (S3.reverse ++ [y])) ++ S1.reverse := by rw [hL, hrev]; simp
    rw [e1, List.getElem?_append_right (by simp; omega)] at hu
    have := List.mem_of_getElem? hu
    exact s3 u (List.mem_reverse.mp this) x List.mem_cons_self) S1.length (by omega)
  have hset : (L.set pre.length y).set (pre.length + S3.length + 1) x = (pre ++ [y]) ++ (S3.reverse ++ (x :: S1.reverse)) ++ [] := by
    rw [hL, hrev, List.set_append_right _ _ (Nat.le_refl _), Nat.sub_self]
    show (pre ++ (y :: (S3.reverse ++ (y :: S1.reverse)))).set _ x = _
    rw [show pre ++ (y :: (S3.reverse ++ (y :: S1.reverse))) = (pre ++ (y :: S3.reverse)) ++ (y :: S1.reverse) by simp, List.set_append_right _ _ (by simp; omega)]
    have : pre.length + S3.length + 1 - (pre ++ y :: S3.reverse).length = 0 := by simp; omega
    rw [this]
    simp
  have ho2 := oL_set (k := pre.length + S3.length + 1) (z := x) (oL_set (k := pre.length) (z := y) ho)
  rw [hset] at ho2
  obtain ⟨o', r1, r2⟩ := no_rev (d := d) (v1 := nI L.length) (v2 := nI pre.length) (v3 := nI (pre.length + S3.length + 1)) (I := I) (J := J) (F := F) (G := G) (X := X) _ (S3.reverse ++ (x :: S1.reverse)) (pre ++ [y]) [] _ (nI x) (Nat.le_refl _) (by simp) (by simp; omega) ho2
  refine ⟨o', ?_, by simpa using r2⟩
  have hy1 : (pre ++ [y]).length = pre.length + 1 := by simp
  have hy2 : (S3.reverse ++ (x :: S1.reverse)).length = S1.length + S3.length + 1 := by simp; omega
  rw [hy1, hy2, show pre.length + 1 + (S1.length + S3.length + 1) = L.length from hLl.symm] at r1
  refine cIo ?_
  rw [rX10_nextOrder, xX10_nextOrder_0, show nI L.length - 2 = nI (pre.length + 1 + (S1.length + S3.length)) - 1 by
    rw [show nI L.length - 2 = nI (L.length - 2) from pk_sub (b := 2) (by omega), show nI (pre.length + 1 + (S1.length + S3.length)) - 1 = nI (pre.length + 1 + (S1.length + S3.length) - 1) from pk_sub (b := 1) (by omega), show L.length - 2 = pre.length + 1 + (S1.length + S3.length) - 1 by omega], hpiv, nI_pred, xX10_nextOrder_4, if_neg (nI_pos (by omega)), y_f22, Option.bind_some, n181 ho hl gx, Option.bind_some, Option.bind_some, nI_1, n181 ho hl gz, Option.bind_some, if_pos (nI_le (by omega) (by omega)), xX10_nextOrder_31, if_pos (show (0 : Int32) ≤ nI pre.length from nI_le (a := 0) (by omega) (by omega)), show nI L.length - 1 = nI (pre.length + S3.length + 1 + S1.length) by rw [show nI L.length - 1 = nI (L.length - 1) from pk_sub (b := 1) (by omega), show L.length - 1 = pre.length + S3.length + 1 + S1.length by omega], hsw, xX10_nextOrder_41, y_f22, Option.bind_some, n181 ho hl gy, Option.bind_some, Option.bind_some, n181 ho hl gx, Option.bind_some, if_pos (nI_le (show x ≤ y from Nat.le_of_lt (s2.1 y List.mem_cons_self)) (by omega)), Option.bind_some, n181 ho hl gx, Option.bind_some, Option.bind_some, Option.bind_some, n181 ho hl gy, Option.bind_some, m181 (by omega), Option.bind_some, y_f22, Option.bind_some, m181 (by omega), Option.bind_some, nI_1]
  exact r1
theorem no_last {d n : Nat} {o : Nat → Int32} (hn : n ≤ 7) (h1 : 1 ≤ n) (ho : oL o (List.range n).reverse) : cI (rn (d + 1)) 228 [.ref 168, .int (nI n)] (hp I J (upF F 181 o) G X) = some (0, hp I J (upF F 181 o) G X) := by
  have hll : (List.range n).reverse.length = n := by simp
  have hdes : (List.range n).reverse.Pairwise (fun a b => b < a) := by
    rw [List.pairwise_reverse]; exact List.pairwise_lt_range
  have hpiv := no_piv (d := d) (v1 := nI n) (I := I) (J := J) (F := F) (G := G) (X := X) (a := 0) ho (by omega) (fun t u v _ hu hv => by
    obtain ⟨i1, j1⟩ := List.getElem?_eq_some_iff.mp hu
    obtain ⟨i2, j2⟩ := List.getElem?_eq_some_iff.mp hv
    have := List.pairwise_iff_getElem.mp hdes _ _ i1 i2 (by omega)
    rw [j1, j2] at this
    exact this) (fun u hu => by
    have := List.mem_range.mp (List.mem_reverse.mp hu)
    omega) (n - 1) (by omega)
  refine cIo ?_
  rw [rX10_nextOrder, xX10_nextOrder_0, show nI n - 2 = nI (0 + (n - 1)) - 1 by
    rw [Nat.zero_add, show nI (n - 1) = nI n - 1 from (pk_sub (b := 1) h1).symm, Int32.sub_sub]; rfl, hpiv, xX10_nextOrder_4, if_pos (by decide), xX10_nextOrder_31, if_neg (by decide)]
end NO
