/-! lies: the reference -/
def vI (T : Nat) (acc : Option (Nat × Nat)) : Int32 := match acc with
  | none => 99
  | some q => nI (T - q.1)
def psr (w : Nat → Nat) (T : Nat) : List (Nat × Nat) := (List.range T).map (fun t => (w (2 * t), w (2 * t + 1)))
theorem psr_len (w : Nat → Nat) (T : Nat) : (psr w T).length = T := by unfold psr; simp
theorem psr_s (w : Nat → Nat) (t : Nat) : psr w (t + 1) = psr w t ++ [(w (2 * t), w (2 * t + 1))] := by
  unfold psr
  rw [List.range_succ, List.map_append]
  rfl
theorem lisP_s (w : Nat → Nat) (t : Nat) (l : List Nat) : lisP (psr w (t + 1)) l = lisP (psr w t) l + if behL (w (2 * t), w (2 * t + 1)) l = true then 0 else 1 := by
  unfold lisP
  rw [psr_s, List.countP_append, List.countP_singleton]
  cases behL (w (2 * t), w (2 * t + 1)) l <;> rfl
section LR
variable {I : Nat → Int32} {J : Nat → Int64} {F : Nat → Nat → Int32} {G : Nat → Int64} {X : Nat → va_E}
theorem liesBy28 {d n r t T c : Nat} {w : Nat → Nat} {o : Nat → Int32} {l : List Nat} (hr : r < 6) (hT : T ≤ 8) (ht : t < T) (hw : ∀ j, j < 2 * T → F 174 (40 * r + j) = nI (w j) ∧ w j < 7) (h168 : I 168 = nI n) (ho : oL o l) (hl : l.length = n) (hn : n ≤ 7) (hb : ∀ u, u ∈ l → u < 7) : ∀ (q k : Nat), n - k = q → 1 ≤ k → k ≤ n → ∃ w4 w5, ex cdX10_liesBy (rn d) 28 [.ref 168, .int (nI r), .int (nI c), .int (nI (40 * r + 2 * t)), .int (bI (behL (w (2 * t), w (2 * t + 1)) (l.take k))), .int (nI k)] [] (hp I J (upF F 181 o) G X) = ex cdX10_liesBy (rn d) 7 [.ref 168, .int (nI r), .int (nI (c + if behL (w (2 * t), w (2 * t + 1)) l = true then 0 else 1)), .int (nI (40 * r + 2 * (t + 1))), w4, w5] [] (hp I J (upF F 181 o) G X) := by
  intro q
  induction q with
  | zero =>
    intro k h1 h2 h3
    have : k = l.length := by omega
    rw [this, List.take_length]
    refine ⟨.int (bI (behL (w (2 * t), w (2 * t + 1)) l)), .int (nI l.length), ?_⟩
    rw [xX10_liesBy_28, y_ps, Option.bind_some, h168, if_pos (nI_le (by omega) (by omega)), show nI (40 * r + 2 * t) + 2 = nI (40 * r + 2 * (t + 1)) by rw [show nI (40 * r + 2 * t) + 2 = nI (40 * r + 2 * t + 2) from nI_add _ 2]; rfl]
    cases behL (w (2 * t), w (2 * t + 1)) l with
    | false => rw [if_pos (by rfl), nI_1, if_neg (by decide)]
    | true => rw [if_neg (by decide), if_pos rfl, show nI c + 0 = nI (c + 0) from nI_add c 0]
  | succ q ih =>
    intro k h1 h2 h3
    have hk : k < l.length := by omega
    obtain ⟨w4, w5, hih⟩ := ih (k + 1) (by omega) (by omega) (by omega)
    refine ⟨w4, w5, ?_⟩
    rw [← hih]
    obtain ⟨j, rfl⟩ : ∃ j, k = j + 1 := ⟨k - 1, by omega⟩
    have e1 : l.take (j + 1) = l.take j ++ [l[j]] := List.take_succ_eq_append_getElem (by omega)
    have e2 : l.take (j + 1 + 1) = l.take j ++ [l[j]] ++ [l[j + 1]] := by rw [List.take_succ_eq_append_getElem hk, e1]
    have g1 : l[j + 1]? = some l[j + 1] := List.getElem?_eq_getElem hk
    have g0 : l[j]? = some l[j] := List.getElem?_eq_getElem (by omega)
    have b1 := hb _ (List.getElem_mem hk)
    have b0 := hb _ (List.getElem_mem (show j < l.length by omega))
    obtain ⟨a1, a2⟩ := hw (2 * t) (by omega)
    obtain ⟨c1, c2⟩ := hw (2 * t + 1) (by omega)
    have hs : behL (w (2 * t), w (2 * t + 1)) (l.take (j + 1 + 1)) = (behL (w (2 * t), w (2 * t + 1)) (l.take (j + 1)) || decide ((w (2 * t), w (2 * t + 1)) = (l[j + 1], l[j]))) := by rw [e2, behL_snoc, ← e1]
    rw [hs, xX10_liesBy_28, y_ps, Option.bind_some, h168, if_neg (nI_ge (by omega) (by omega))]
    cases behL (w (2 * t), w (2 * t + 1)) (l.take (j + 1)) with
    | true => rw [if_neg (by decide), Bool.true_or, nI_1]; rfl
    | false =>
      have r1 : aI 0 (hp I J (upF F 181 o) G X) 174 (nI (40 * r + 2 * t)) = some (nI (w (2 * t))) := by rw [y_g174 (by omega), upF_ne (by decide), a1]
      have r2 : aI 0 (hp I J (upF F 181 o) G X) 174 (nI (40 * r + 2 * t + 1)) = some (nI (w (2 * t + 1))) := by rw [y_g174 (by omega), upF_ne (by decide), show 40 * r + 2 * t + 1 = 40 * r + (2 * t + 1) by omega, c1]
      rw [if_pos (by rfl), Bool.false_or, y_f22, Option.bind_some, n181 ho (by omega) g1, Option.bind_some, y_f6, Option.bind_some, r1, Option.bind_some]
      by_cases z1 : l[j + 1] = w (2 * t)
      · rw [if_pos (show nI l[j + 1] = nI (w (2 * t)) by rw [z1]), Option.bind_some, nI_pred, n181 ho (by omega) g0, Option.bind_some, Option.bind_some, nI_1, r2, Option.bind_some]
        by_cases z2 : l[j] = w (2 * t + 1)
        · rw [if_pos (show nI l[j] = nI (w (2 * t + 1)) by rw [z2]), decide_eq_true (show (w (2 * t), w (2 * t + 1)) = (l[j + 1], l[j]) by rw [z1, z2]), nI_1]; rfl
        · rw [if_neg (fun y => z2 ((nI_inj (by omega) (by omega)).mp y)), decide_eq_false (fun y => z2 (Prod.mk.inj y).2.symm), nI_1]; rfl
      · rw [if_neg (fun y => z1 ((nI_inj (by omega) (by omega)).mp y)), decide_eq_false (fun y => z1 (Prod.mk.inj y).1.symm), nI_1]; rfl
theorem liesBy_y {d n r T : Nat} {w : Nat → Nat} {o : Nat → Int32} {l : List Nat} (hr : r < 6) (hT : T ≤ 8) (hw : ∀ j, j < 2 * T → F 174 (40 * r + j) = nI (w j) ∧ w j < 7) (h173 : F 173 r = nI (2 * T)) (h168 : I 168 = nI n) (ho : oL o l) (hl : l.length = n) (hn : n ≤ 7) (hn1 : 1 ≤ n) (hb : ∀ u, u ∈ l → u < 7) : cI (rn (d + 1)) 229 [.ref 168, .int (nI r)] (hp I J (upF F 181 o) G X) = some (nI (lisP (psr w T) l), hp I J (upF F 181 o) G X) := by
  have lp : ∀ (q t : Nat) (v4 v5 : Value), T - t = q → t ≤ T → ex cdX10_liesBy (rn d) 7 [.ref 168, .int (nI r), .int (nI (lisP (psr w t) l)), .int (nI (40 * r + 2 * t)), v4, v5] [] (hp I J (upF F 181 o) G X) = some (some (.int (nI (lisP (psr w T) l))), hp I J (upF F 181 o) G X) := by
    intro q
    induction q with
    | zero =>
      intro t v4 v5 h1 h2
      have : t = T := by omega
      subst this
      rw [xX10_liesBy_7, y_f5, Option.bind_some, y_g173 hr, Option.bind_some, upF_ne (by decide), h173, c40, nI_add, if_pos (nI_le (Nat.le_refl _) (by omega))]
    | succ q ih =>
      intro t v4 v5 h1 h2
      obtain ⟨w4, w5, e⟩ := liesBy28 (d := d) (I := I) (J := J) (F := F) (G := G) (X := X) (c := lisP (psr w t) l) (t := t) hr hT (by omega) hw h168 ho hl hn hb (n - 1) 1 (by omega) (by omega) hn1
      have e0 : behL (w (2 * t), w (2 * t + 1)) (l.take 1) = false := by
        cases l with
        | nil => rfl
        | cons a l => rfl
      rw [e0, ← lisP_s] at e
      rw [xX10_liesBy_7, y_f5, Option.bind_some, y_g173 hr, Option.bind_some, upF_ne (by decide), h173, c40, nI_add, if_neg (nI_ge (by omega) (by omega))]
      refine Eq.trans e ?_
      exact ih (t + 1) w4 w5 (by omega) (by omega)
  refine cIo ?_
  rw [rX10_liesBy, xX10_liesBy_0, c40]
  exact lp T 0 .null .null rfl (by omega)
theorem RB {n r T : Nat} {w : Nat → Nat} (hr : r < 6) (hT : T ≤ 8) (hw : ∀ j, j < 2 * T → F 174 (40 * r + j) = nI (w j) ∧ w j < 7) (h173 : F 173 r = nI (2 * T)) (h168 : I 168 = nI n) (hn : n ≤ 7) (hn1 : 1 ≤ n) : ∀ (m : Nat) (pre : List Nat) (acc : Option (Nat × Nat)) (o : Nat → Int32) (v7 : Value), pre.length + m = n → (remL n pre).length = m → pre.Nodup → (∀ u, u ∈ pre → u < n) → oL o (pre ++ remL n pre) → (∀ q, acc = some q → q.1 ≤ T) →
    ∃ o' v3 w7, oL o' (pre ++ (remL n pre).reverse) ∧ (∃ q, pfd (stpL (psr w T)) n m pre acc = some q ∧ q.1 ≤ T) ∧ ex cdX10_lies (rn 59) 163 [.ref 168, .int (nI r), .int 1, .int (vI T acc), .long (wyI acc), .null, .int 1, v7] [] (hp I J (upF F 181 o) G X) = ex cdX10_lies (rn 59) 214 [.ref 168, .int (nI r), .int 1, .int v3, .long (wyI (pfd (stpL (psr w T)) n m pre acc)), .null, .int 1, .int w7] [.int (vI T (pfd (stpL (psr w T)) n m pre acc))] (hp I J (upF F 181 o') G X) := by
  intro m
  induction m with
  | zero =>
    intro pre acc o v7 h1 hrl hnd hpb ho hacc
    have hnil : remL n pre = [] := List.length_eq_zero_iff.mp hrl
    rw [hnil, List.append_nil] at ho
    have hlen : pre.length = n := by omega
    have hlb := liesBy_y (d := 58) (I := I) (J := J) (F := F) (G := G) (X := X) hr hT hw h173 h168 ho hlen hn hn1 (fun u hu => Nat.lt_of_lt_of_le (hpb u hu) hn)
    have htl := trs_lis hnd (psr w T)
    rw [psr_len] at htl
    obtain ⟨t, ht⟩ : ∃ t, t = trs (psr w T) pre := ⟨_, rfl⟩
    rw [← ht] at htl
    have hlis : lisP (psr w T) pre = T - t := by omega
    rw [hlis] at hlb
    have htT : t ≤ T := by omega
    refine ⟨o, vI T acc, nI (T - t), by rw [hnil]; simpa using ho, ?_, ?_⟩
    · cases acc with
      | none => exact ⟨(t, 1), by rw [ht]; rfl, htT⟩
      | some q =>
        have hq := hacc q rfl
        show ∃ q', stpL (psr w T) (some q) pre = some q' ∧ q'.1 ≤ T
        show ∃ q', (if q.1 < trs (psr w T) pre then some (trs (psr w T) pre, 1) else if trs (psr w T) pre = q.1 then some (q.1, q.2 + 1) else some q) = some q' ∧ q'.1 ≤ T
        rw [← ht]
        split
        · exact ⟨(t, 1), rfl, htT⟩
        · split
          · exact ⟨(q.1, q.2 + 1), rfl, hq⟩
          · exact ⟨q, rfl, hq⟩
    · rw [xX10_lies_163, if_neg one_ne, if_pos y_is, hlb, Option.bind_some]
      cases acc with
      | none =>
        have e : pfd (stpL (psr w T)) n 0 pre none = some (t, 1) := by rw [ht]; rfl
        have h99 : ¬ vI T none ≤ nI (T - t) := show ¬ (99 : Int32) ≤ nI (T - t) from nI_ge (b := 99) (by omega) (by decide)
        rw [e, if_neg h99, xX10_lies_200, if_neg h99]
        rfl
      | some q =>
        have hq := hacc q rfl
        have e : pfd (stpL (psr w T)) n 0 pre (some q) = (if q.1 < t then some (t, 1) else if t = q.1 then some (q.1, q.2 + 1) else some q) := by rw [ht]; rfl
        rw [e]
        by_cases c1 : q.1 < t
        · have h99 : ¬ vI T (some q) ≤ nI (T - t) := show ¬ nI (T - q.1) ≤ nI (T - t) from nI_ge (by omega) (by omega)
          rw [if_neg h99, xX10_lies_200, if_neg h99, if_pos c1]
          rfl
        · have hle : vI T (some q) ≤ nI (T - t) := show nI (T - q.1) ≤ nI (T - t) from nI_le (by omega) (by omega)
          rw [if_pos hle, if_neg c1]
          by_cases c2 : t = q.1
          · rw [if_pos (show nI (T - t) = vI T (some q) by rw [c2]; rfl), if_pos c2, xX10_lies_200, if_pos hle]
            show _ = ex cdX10_lies (rn 59) 214 [.ref 168, .int (nI r), .int 1, .int (vI T (some q)), .long (lN (q.2 + 1)), .null, .int 1, .int (nI (T - t))] [.int (nI (T - q.1))] _
            rw [← lN_1]
            rfl
          · rw [if_neg (show ¬ nI (T - t) = vI T (some q) from fun z => c2 (by have := (nI_inj (a := T - t) (b := T - q.1) (by omega) (by omega)).mp z; omega)), if_neg c2, xX10_lies_200, if_pos hle]
  | succ m ih =>
    intro pre acc o v7 h1 hrl hnd hpb ho hacc
    have inner : ∀ (S2 S1 : List Nat) (x : Nat) (acc : Option (Nat × Nat)) (o : Nat → Int32) (v7 : Value), remL n pre = S1 ++ x :: S2 → oL o (pre ++ x :: (S1 ++ S2)) → (∀ q, acc = some q → q.1 ≤ T) → ∃ o' v3 w7, oL o' (pre ++ (S1 ++ x :: S2).reverse) ∧ (∃ q, (x :: S2).foldl (fun acc p => pfd (stpL (psr w T)) n m (pre ++ [p]) acc) acc = some q ∧ q.1 ≤ T) ∧ ex cdX10_lies (rn 59) 163 [.ref 168, .int (nI r), .int 1, .int (vI T acc), .long (wyI acc), .null, .int 1, v7] [] (hp I J (upF F 181 o) G X) = ex cdX10_lies (rn 59) 214 [.ref 168, .int (nI r), .int 1, .int v3, .long (wyI ((x :: S2).foldl (fun acc p => pfd (stpL (psr w T)) n m (pre ++ [p]) acc) acc)), .null, .int 1, .int w7] [.int (vI T ((x :: S2).foldl (fun acc p => pfd (stpL (psr w T)) n m (pre ++ [p]) acc) acc))] (hp I J (upF F 181 o') G X) := by
      intro S2
      induction S2 with
      | nil =>
        intro S1 x acc o v7 hS ho hacc
        have hx := remL_mem (show x ∈ remL n pre by rw [hS]; simp)
        have hrem := remL_x hS
        have hl2 : (S1 ++ []).length = m := by rw [hS] at hrl; simp at hrl ⊢; omega
        obtain ⟨o', v3, w7, a1, a2, a3⟩ := ih (pre ++ [x]) acc o v7 (by simp; omega) (by rw [hrem]; exact hl2) (List.nodup_append.mpr ⟨hnd, List.nodup_cons.mpr ⟨List.not_mem_nil, List.nodup_nil⟩, fun a ha b hb => by rw [List.mem_singleton] at hb; subst hb; exact fun z => hx.2 (z ▸ ha)⟩) (fun u hu => by
          rw [List.mem_append, List.mem_singleton] at hu
          rcases hu with hu | hu
          · exact hpb u hu
          · rw [hu]; exact hx.1) (by rw [hrem]; simpa using ho) hacc
        rw [hrem] at a1
        exact ⟨o', v3, w7, by simpa using a1, a2, a3⟩
      | cons y S3 ihS =>
        intro S1 x acc o v7 hS ho hacc
        have hx := remL_mem (show x ∈ remL n pre by rw [hS]; simp)
        have hrem := remL_x hS
        have hl2 : (S1 ++ y :: S3).length = m := by rw [hS] at hrl; simp at hrl ⊢; omega
        obtain ⟨o1, v3, w7, a1, ⟨q1, a2, a2'⟩, a3⟩ := ih (pre ++ [x]) acc o v7 (by simp; omega) (by rw [hrem]; exact hl2) (List.nodup_append.mpr ⟨hnd, List.nodup_cons.mpr ⟨List.not_mem_nil, List.nodup_nil⟩, fun a ha b hb => by rw [List.mem_singleton] at hb; subst hb; exact fun z => hx.2 (z ▸ ha)⟩) (fun u hu => by
          rw [List.mem_append, List.mem_singleton] at hu
          rcases hu with hu | hu
          · exact hpb u hu
          · rw [hu]; exact hx.1) (by rw [hrem]; simpa using ho) hacc
        rw [hrem] at a1
        have hsort := remL_lt n pre
        rw [hS] at hsort
        have hL : (pre ++ x :: ((S1 ++ y :: S3).reverse)).length = n := by rw [List.length_append, List.length_cons, List.length_reverse, hl2]; omega
        obtain ⟨o2, b1, b2⟩ := no_next (d := 58) (I := I) (J := J) (F := F) (G := G) (X := X) (pre := pre) (S1 := S1) (S3 := S3) (x := x) (y := y) (o := o1) hsort (fun u hu => by
          rw [List.mem_append, List.mem_cons, List.mem_reverse] at hu
          rcases hu with hu | hu | hu
          · exact Nat.lt_of_lt_of_le (hpb u hu) hn
          · rw [hu]; exact Nat.lt_of_lt_of_le hx.1 hn
          · have : u ∈ remL n pre := by
              rw [hS]
              rw [List.mem_append] at hu ⊢
              rcases hu with hu | hu
              · exact Or.inl hu
              · exact Or.inr (List.mem_cons_of_mem _ hu)
            exact Nat.lt_of_lt_of_le (remL_mem this).1 hn) (by omega) (by simpa using a1)
        rw [hL] at b1
        obtain ⟨o3, v3', w7', c1, c2, c3⟩ := ihS (S1 ++ [x]) y (pfd (stpL (psr w T)) n m (pre ++ [x]) acc) o2 (.int w7) (by rw [hS]; simp) b2 (fun q hq => by rw [a2] at hq; cases hq; exact a2')
        refine ⟨o3, v3', w7', by simpa using c1, c2, ?_⟩
        rw [a3, xX10_lies_214, y_ps, Option.bind_some, if_pos y_is, h168, b1, Option.bind_some]
        exact c3
    rw [pfd_s]
    cases hS : remL n pre with
    | nil => rw [hS] at hrl; cases hrl
    | cons x S2 =>
      obtain ⟨o', v3, w7, a1, a2, a3⟩ := inner S2 [] x acc o v7 hS (by rw [hS] at ho; simpa using ho) hacc
      exact ⟨o', v3, w7, by simpa using a1, a2, a3⟩
end LR
