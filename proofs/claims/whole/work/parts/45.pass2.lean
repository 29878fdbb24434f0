/-! a night passes -/
theorem pushIn_perm (kd : Nat → Nat) (nt : Nat) (P : List Nat) (x : Nat) : (pushIn kd nt P x).Perm (x :: P) := by
  unfold pushIn
  split
  · exact List.Perm.refl _
  · next y P' =>
    split
    · split
      · split
        · exact List.Perm.swap x y []
        · next z P'' =>
          split
          · exact ((List.Perm.swap x z P'').cons y).trans (List.Perm.swap x y (z :: P''))
          · exact List.Perm.swap x y (z :: P'')
      · exact List.Perm.swap x y P'
    · exact List.Perm.refl _
theorem pushF_perm (kd : Nat → Nat) (nt : Nat) : ∀ (R P : List Nat), (R.foldl (pushIn kd nt) P).Perm (R ++ P)
  | [], P => List.Perm.refl _
  | x :: R, P => by
    refine (pushF_perm kd nt R (pushIn kd nt P x)).trans ?_
    refine ((pushIn_perm kd nt P x).append_left R).trans ?_
    exact List.perm_middle
theorem pushA_perm (kd : Nat → Nat) (nt : Nat) (L : List Nat) : (pushA kd nt L).Perm L := by
  unfold pushA
  refine (List.reverse_perm _).trans ?_
  have := pushF_perm kd nt L []
  rwa [List.append_nil] at this
def guS (u : Int32) (x : Nat) : Int32 := u ||| (1 <<< (nI x &&& 31))
/-- those who stand wait one night more; acc: who stays -/
def waitR (pt : Nat → Nat) (gone : Option Nat) : List Nat → List Nat → (Nat → Nat) → Int32 → List Nat × (Nat → Nat) × Int32
  | [], S, wt, gu => (S, wt, gu)
  | x :: R, S, wt, gu => if gone = some x then waitR pt gone R S wt gu else
      if wt x + 1 < pt x then waitR pt gone R (S ++ [x]) (fun y => if y = x then wt x + 1 else wt y) gu
      else waitR pt gone R S (fun y => if y = x then wt x + 1 else wt y) (guS gu x)
abbrev LSt : Type := List Nat × (Nat → Nat) × (Nat → Int32) × Nat × Int32
def wnS (wn : Nat → Int32) (who : Option Nat) (nt : Nat) : Nat → Int32 := match who with
  | some x => upd wn x (nI nt)
  | none => wn
def passA (kd pt : Nat → Nat) (A : LSt) (clear : Bool) : Option Nat × LSt :=
  let L1 := pushA kd A.2.2.2.1 A.1
  let who := if clear = true then goA kd A.2.2.2.1 L1 else none
  let r := waitR pt who L1 [] A.2.1 A.2.2.2.2
  (who, (r.1, r.2.1, wnS A.2.2.1 who A.2.2.2.1, A.2.2.2.1 + 1, r.2.2))
theorem oI_eq {x : Nat} (hx : x < 7) {y : Option Nat} (hy : ∀ z, y = some z → z < 7) : (nI x = oI y) ↔ y = some x := by
  cases y with
  | none => exact ⟨fun e => absurd e (nI_ne9 (by omega)), fun e => by cases e⟩
  | some z =>
    have := hy z rfl
    rw [oI_some, nI_inj (by omega) (by omega)]
    exact ⟨fun e => by rw [e], fun e => by cases e; rfl⟩
section QW
variable {h : mH} {q c : Nat} {kf pf rf g : Nat → Int32} {n : Int32} {np : Nat} {pt : Nat → Nat}
theorem wait_loop {d : Nat} (hq : q + 3 < h.length) (ha : apart4 c q) (hc : Cat h c kf pf rf (nI np)) (hn : np ≤ 7) (hp : ∀ k, k < np → pf k = nI (pt k) ∧ pt k < 1000) {gone : Option Nat} (hg : ∀ z, gone = some z → z < 7) : ∀ (R S : List Nat) (k : Nat) (o w : Nat → Int32) (wt : Nat → Nat) (u : Int32) (v5 : Value), S.length ≤ k → k + R.length ≤ 7 → (∀ y ∈ R, y < np) → oL o S → (∀ j x, R[j]? = some x → o (k + j) = nI x) → (∀ j, j < 7 → w j = nI (wt j)) → (∀ j, wt j + R.length < 10000) →
    ∃ o' w', ex cdX5_waitOneMore (rn d) 5 [.ref q, .ref c, .int (oI gone), .int (nI S.length), .int (nI k), v5] [] (putQ h q o w g (nI (k + R.length)) n u) = some (none, putQ h q o' w' g (nI (waitR pt gone R S wt u).1.length) n (waitR pt gone R S wt u).2.2) ∧ oL o' (waitR pt gone R S wt u).1 ∧ ∀ j, j < 7 → w' j = nI ((waitR pt gone R S wt u).2.1 j) := by
  intro R
  induction R with
  | nil =>
    intro S k o w wt u v5 h1 h2 h3 h4 h5 h6 h7
    refine ⟨o, w, ?_, h4, h6⟩
    rw [xX5_waitOneMore_5, q_s hq, Option.bind_some, if_pos (nI_le (by simp) (by simp at h2 ⊢; omega)), q_ps hq, Option.bind_some]
    rfl
  | cons x R ih =>
    intro S k o w wt u v5 h1 h2 h3 h4 h5 h6 h7
    simp only [List.length_cons] at h2 h7 ⊢
    have hx : x < np := h3 x List.mem_cons_self
    have hR : ∀ y ∈ R, y < np := fun y hy => h3 y (List.mem_cons_of_mem _ hy)
    have hox : o k = nI x := h5 0 x rfl
    have hcq := fun (o w : Nat → Int32) (s u : Int32) => Cat_putQ (o := o) (w := w) (g := g) (s := s) (n := n) (u := u) ha hc
    have hR5 : ∀ j y, R[j]? = some y → o (k + 1 + j) = nI y := fun j y hj => by
      have := h5 (j + 1) y (by rw [List.getElem?_cons_succ]; exact hj)
      rwa [show k + (j + 1) = k + 1 + j by omega] at this
    have ek : k + (R.length + 1) = k + 1 + R.length := by omega
    rw [xX5_waitOneMore_5, q_s hq, Option.bind_some, if_neg (nI_ge (by omega) (by omega)), q_r0 hq, Option.bind_some, q_ao hq (by omega), Option.bind_some, hox]
    unfold waitR
    by_cases e : gone = some x
    · rw [if_pos ((oI_eq (by omega) hg).mpr e), if_pos e, nI_1, ek]
      exact ih S (k + 1) o w wt u _ (by omega) (by omega) hR h4 hR5 h6 (fun j => by have := h7 j; omega)
    · rw [if_neg (fun z => e ((oI_eq (by omega) hg).mp z)), if_neg e, q_r1 hq, Option.bind_some, q_aw hq (by omega), Option.bind_some, q_sw hq (by omega), Option.bind_some, q_r1 hq, Option.bind_some, q_aw hq (by omega), Option.bind_some, c_r1 (hcq _ _ _ _), Option.bind_some, c_ap (hcq _ _ _ _) (by omega), Option.bind_some, upd_eq, h6 x (by omega), nI_1, (hp x hx).1]
      have hw1 : ∀ j, j < 7 → upd w x (nI (wt x + 1)) j = nI (if j = x then wt x + 1 else wt j) := fun j hj => by
        by_cases z : j = x
        · subst z
          rw [upd_eq, if_pos rfl]
        · rw [upd_ne z, if_neg z, h6 j hj]
      have hw7 : ∀ j, (if j = x then wt x + 1 else wt j) + R.length < 10000 := fun j => by
        have := h7 j
        have := h7 x
        split <;> omega
      have hlt : (nI (wt x + 1) < nI (pt x)) ↔ wt x + 1 < pt x := nI_ltI (by have := h7 x; omega) (by have := (hp x hx).2; omega)
      by_cases e2 : wt x + 1 < pt x
      · rw [if_pos (hlt.mpr e2), if_pos e2, q_r0 hq, Option.bind_some, q_so hq (by omega), Option.bind_some, nI_1, nI_1, ek]
        have := ih (S ++ [x]) (k + 1) (upd o S.length (nI x)) (upd w x (nI (wt x + 1))) (fun y => if y = x then wt x + 1 else wt y) u (.int (nI x)) (by simp; omega) (by omega) hR (fun j y hj => by
            by_cases z : j < S.length
            · rw [List.getElem?_append_left z] at hj
              rw [upd_ne (by omega)]
              exact h4 j y hj
            · rw [List.getElem?_append_right (by omega)] at hj
              have z2 : j - S.length < 1 := (List.getElem?_eq_some_iff.mp hj).1
              rw [show j - S.length = 0 by omega] at hj
              cases hj
              rw [show j = S.length by omega, upd_eq]) (fun j y hj => by rw [upd_ne (by omega)]; exact hR5 j y hj) hw1 hw7
        rw [List.length_append, List.length_singleton] at this
        exact this
      · rw [if_neg (fun z => e2 (hlt.mp z)), if_neg e2, q_u hq, Option.bind_some, q_pu hq, Option.bind_some, nI_1, ek]
        exact ih S (k + 1) o (upd w x (nI (wt x + 1))) (fun y => if y = x then wt x + 1 else wt y) (guS u x) (.int (nI x)) (by omega) (by omega) hR h4 hR5 hw1 hw7
end QW
def Qin (H : mH) (q : Nat) (A : LSt) : Prop := ∃ o w g, H[q]? = some (oQ q (nI A.1.length) (nI A.2.2.2.1) A.2.2.2.2) ∧ H[q + 1]? = some (ar 7 o) ∧ H[q + 2]? = some (ar 7 w) ∧ H[q + 3]? = some (ar 7 g) ∧ oL o A.1 ∧ (∀ j, j < 7 → w j = nI (A.2.1 j)) ∧ ∀ j, j < 7 → g j = A.2.2.1 j
def Fr4 (H H' : mH) (q : Nat) : Prop := H'.length = H.length ∧ ∀ k, (k < q ∨ q + 3 < k) → H'[k]? = H[k]?
theorem Qin_put {H : mH} {q : Nat} {o w g : Nat → Int32} {A : LSt} (hq : q + 3 < H.length) (h1 : oL o A.1) (h2 : ∀ j, j < 7 → w j = nI (A.2.1 j)) (h3 : ∀ j, j < 7 → g j = A.2.2.1 j) : Qin (putQ H q o w g (nI A.1.length) (nI A.2.2.2.1) A.2.2.2.2) q A := ⟨o, w, g, putQ_0 hq, putQ_1 hq, putQ_2 hq, putQ_3 hq, h1, h2, h3⟩
theorem Fr4_put (H : mH) (q : Nat) (o w g : Nat → Int32) (s n u : Int32) : Fr4 H (putQ H q o w g s n u) q := ⟨putQ_len, fun _ hk => putQ_o hk⟩
/-- a line as it can stand: seven at most, of the crowd, nobody twice -/
def lOK (np : Nat) (A : LSt) : Prop := A.1.Nodup ∧ (∀ y ∈ A.1, y < np) ∧ A.2.2.2.1 < 900 ∧ ∀ j, A.2.1 j < 900
theorem nodup_len {L : List Nat} {n : Nat} (h1 : L.Nodup) (h2 : ∀ y ∈ L, y < n) : L.length ≤ n := by
  have h3 : L ⊆ List.range n := fun y hy => List.mem_range.mpr (h2 y hy)
  have := List.Nodup.length_le_of_subset h1 h3
  rwa [List.length_range] at this
theorem goA_mem {kd : Nat → Nat} {nt : Nat} {L : List Nat} {x : Nat} (h : goA kd nt L = some x) : x ∈ L := by
  unfold goA at h
  split at h
  · cases h
  · next y hy =>
    have hyL : y ∈ L := List.mem_of_find?_eq_some hy
    split at h
    · split at h
      · split at h
        · next z hz => cases h; exact List.mem_of_mem_drop (List.mem_of_find?_eq_some hz)
        · cases h; exact hyL
      · cases h; exact hyL
    · cases h; exact hyL
theorem pass_s {d : Nat} (hd : 8 ≤ d) {H : mH} {q c : Nat} {kf pf rf : Nat → Int32} {np : Nat} {kd pt : Nat → Nat} {A : LSt} (hQ : Qin H q A) (ha : apart4 c q) (hc : Cat H c kf pf rf (nI np)) (hn : np ≤ 7) (hk : kOK kf kd np) (hp : ∀ k, k < np → pf k = nI (pt k) ∧ pt k < 1000) (hA : lOK np A) (clear : Bool) :
    ∃ H', cI (rn d) 52 [.ref q, .ref c, .int (bI clear)] H = some (oI (passA kd pt A clear).1, H') ∧ Qin H' q (passA kd pt A clear).2 ∧ Fr4 H H' q := by
  obtain ⟨L, wt, wn, nt, gu⟩ := A
  obtain ⟨o, w, g, g0, g1, g2, g3, ho, hw, hg⟩ := hQ
  obtain ⟨hnd, hb, hnt, hwt⟩ := hA
  dsimp only at g0 ho hw hg hnd hb hnt hwt
  have hq : q + 3 < H.length := (List.getElem?_eq_some_iff.mp g3).1
  have hl := nodup_len hnd hb
  obtain ⟨d, rfl⟩ := d1 (show 1 ≤ d by omega)
  have hH : putQ H q o w g (nI L.length) (nI nt) gu = H := putQ_same g0 g1 g2 g3
  have hcq := fun (o w g : Nat → Int32) (s n u : Int32) => Cat_putQ (o := o) (w := w) (g := g) (s := s) (n := n) (u := u) ha hc
  -- the pushers
  have hpush : ∃ o1, cV (rn d) 54 [.ref q, .ref c] (putQ H q o w g (nI L.length) (nI nt) gu) = some (putQ H q o1 w g (nI L.length) (nI nt) gu) ∧ oL o1 (pushA kd nt L) := by
    obtain ⟨d, rfl⟩ := d1 (show 1 ≤ d by omega)
    unfold cV
    rw [rX5_pushAhead, xX5_pushAhead_0]
    cases L with
    | nil =>
      refine ⟨o, ?_, by simpa [pushA] using ho⟩
      rw [xX5_pushAhead_2, q_s hq, Option.bind_some, if_pos (by decide)]
    | cons x R =>
      obtain ⟨o1, e1, e2⟩ := push_loop (d := d) (w := w) (g := g) (u := gu) (nt := nt) (by omega) hq ha hc hn hk (by omega) R [x] o .null (by simp) (by simp at hl ⊢; omega) (fun y hy => hb y (by simp at hy; simp [hy])) (fun y hy => hb y (List.mem_cons_of_mem _ hy)) (by simpa using ho)
      refine ⟨o1, ?_, e2⟩
      rw [show (x :: R).length = [x].length + R.length by simp; omega]
      rw [show (1 : Int32) = nI [x].length from rfl, e1]
  obtain ⟨o1, hp1, ho1⟩ := hpush
  have hperm := pushA_perm kd nt L
  have hl1 : (pushA kd nt L).length = L.length := hperm.length_eq
  have hb1 : ∀ y ∈ pushA kd nt L, y < np := fun y hy => hb y (hperm.mem_iff.mp hy)
  unfold passA
  dsimp only
  generalize hwho : (if clear = true then goA kd nt (pushA kd nt L) else none) = who
  have hwlt : ∀ z, who = some z → z < np := fun z hz => by
    cases clear with
    | true => rw [if_pos rfl] at hwho; exact hb1 z (goA_mem (hwho.trans hz))
    | false => rw [← hwho] at hz; cases hz
  -- from the goer on
  have hend : ∃ H', ex cdX5_pass (rn d) 19 [.ref q, .ref c, .int (bI clear), .null] [.int (oI who)] (putQ H q o1 w g (nI L.length) (nI nt) gu) = some (some (.int (oI who)), H') ∧ Qin H' q ((waitR pt who (pushA kd nt L) [] wt gu).1, (waitR pt who (pushA kd nt L) [] wt gu).2.1, wnS wn who nt, nt + 1, (waitR pt who (pushA kd nt L) [] wt gu).2.2) ∧ Fr4 H H' q := by
    have last : ∀ (g' : Nat → Int32), (∀ j, j < 7 → g' j = wnS wn who nt j) → ∃ H', ex cdX5_pass (rn d) 38 [.ref q, .ref c, .int (bI clear), .int (oI who)] [] (putQ H q o1 w g' (nI L.length) (nI nt) gu) = some (some (.int (oI who)), H') ∧ Qin H' q ((waitR pt who (pushA kd nt L) [] wt gu).1, (waitR pt who (pushA kd nt L) [] wt gu).2.1, wnS wn who nt, nt + 1, (waitR pt who (pushA kd nt L) [] wt gu).2.2) ∧ Fr4 H H' q := by
      intro g' hg'
      obtain ⟨d, rfl⟩ := d1 (show 1 ≤ d by omega)
      obtain ⟨o2, w2, e1, e2, e3⟩ := wait_loop (d := d) (h := H) (g := g') (n := nI nt) hq ha hc hn hp (gone := who) (fun z hz => by have := hwlt z hz; omega) (pushA kd nt L) [] 0 o1 w wt gu .null (by simp) (by omega) hb1 (fun j x hj => by simp at hj) (fun j x hj => by rw [Nat.zero_add]; exact ho1 j x hj) hw (fun j => by have := hwt j; omega)
      have hcall : cV (rn (d + 1)) 56 [.ref q, .ref c, .int (oI who)] (putQ H q o1 w g' (nI L.length) (nI nt) gu) = some (putQ H q o2 w2 g' (nI (waitR pt who (pushA kd nt L) [] wt gu).1.length) (nI nt) (waitR pt who (pushA kd nt L) [] wt gu).2.2) := by
        unfold cV
        rw [rX5_waitOneMore, xX5_waitOneMore_0]
        rw [Nat.zero_add, hl1] at e1
        have e1' : ex cdX5_waitOneMore (rn d) 5 [.ref q, .ref c, .int (oI who), .int 0, .int 0, .null] [] (putQ H q o1 w g' (nI L.length) (nI nt) gu) = _ := e1
        rw [e1']
      rw [xX5_pass_38, if_pos (q_is hq), hcall, Option.bind_some, q_n hq, Option.bind_some, q_pn hq, Option.bind_some, nI_1]
      exact ⟨_, rfl, Qin_put (A := ((waitR pt who (pushA kd nt L) [] wt gu).1, (waitR pt who (pushA kd nt L) [] wt gu).2.1, wnS wn who nt, nt + 1, (waitR pt who (pushA kd nt L) [] wt gu).2.2)) hq e2 e3 hg', Fr4_put _ _ _ _ _ _ _ _⟩
    rw [xX5_pass_19, if_pos (c_is (hcq _ _ _ _ _ _))]
    cases who with
    | none =>
      rw [oI_none, has_no (by omega) (hcq _ _ _ _ _ _), Option.bind_some, if_pos rfl]
      exact last g hg
    | some x =>
      have hx := hwlt x rfl
      rw [oI_some, has_p (by omega) (hcq _ _ _ _ _ _) hn hx, Option.bind_some, if_neg (show ¬ (1 : Int32) = 0 by decide), q_r2 hq, Option.bind_some, q_n hq, Option.bind_some, q_sg hq (by omega), Option.bind_some]
      refine last (upd g x (nI nt)) (fun j hj => ?_)
      show upd g x (nI nt) j = upd wn x (nI nt) j
      by_cases z : j = x
      · subst z; rw [upd_eq, upd_eq]
      · rw [upd_ne z, upd_ne z, hg j hj]
  obtain ⟨H', e1, e2, e3⟩ := hend
  refine ⟨H', ?_, e2, e3⟩
  unfold cI
  rw [rX5_pass, xX5_pass_0]
  rw [← hH]
  rw [if_pos (q_is hq), hp1, Option.bind_some]
  cases clear with
  | false =>
    have hw0 : who = none := hwho.symm
    subst hw0
    rw [if_pos (by rfl)]
    have e1' : ex cdX5_pass (rn d) 19 [.ref q, .ref c, .int (bI false), .null] [.int (-9)] (putQ H q o1 w g (nI L.length) (nI nt) gu) = _ := e1
    rw [e1']
  | true =>
    have hw1 : goA kd nt (pushA kd nt L) = who := hwho
    have hnx := next_s (d := d) (w := w) (g := g) (u := gu) (L := pushA kd nt L) (nt := nt) (by omega) hq ho1 (by omega) (hcq _ _ _ _ _ _) hn hk hb1 (by omega)
    rw [hl1, hw1] at hnx
    rw [if_neg (by decide), if_pos (q_is hq), hnx, Option.bind_some, e1]
