/-! merged; counts -/
theorem g_merged : gdI 112 232 3 := gdI_of (fun as hn I J F G X np kd pt pr ds ks hR hS => by
  obtain ⟨v, w, u, rfl⟩ := as3 hn
  show okI _ _ [.int v, .int w, .int u] I J F G X
  rcases ix v (n := 6) (by decide) with hv | ⟨r, hr, rfl⟩
  · refine okI_same (v := -1) hR hS ?_ ?_
    · refine cIo ?_; rw [rX9_merged, xX9_merged_0, isRow_xn hv, Option.bind_some, if_pos rfl]
    · refine cIo ?_; rw [rX10_merged, xX10_merged_0, isRow_yn hv, Option.bind_some, if_pos rfl]
  rcases ix w (n := 6) (by decide) with hw | ⟨q, hq, rfl⟩
  · refine okI_same (v := -1) hR hS ?_ ?_
    · refine cIo ?_; rw [rX9_merged, xX9_merged_0, isRow_x hr, Option.bind_some, if_neg one_ne, isRow_xn hw, Option.bind_some, if_pos rfl]
    · refine cIo ?_; rw [rX10_merged, xX10_merged_0, isRow_y hr, Option.bind_some, if_neg one_ne, isRow_yn hw, Option.bind_some, if_pos rfl]
  rcases ix u (n := 6) (by decide) with hu | ⟨t, ht, rfl⟩
  · refine okI_same (v := -1) hR hS ?_ ?_
    · refine cIo ?_; rw [rX9_merged, xX9_merged_0, isRow_x hr, Option.bind_some, if_neg one_ne, isRow_x hq, Option.bind_some, if_neg one_ne, isRow_xn hu, Option.bind_some, if_pos rfl]
    · refine cIo ?_; rw [rX10_merged, xX10_merged_0, isRow_y hr, Option.bind_some, if_neg one_ne, isRow_y hq, Option.bind_some, if_neg one_ne, isRow_yn hu, Option.bind_some, if_pos rfl]
  obtain ⟨r1, r2, r3⟩ := hR.2.2.1 r hr
  obtain ⟨q1, q2, q3⟩ := hR.2.2.1 q hq
  obtain ⟨t1, t2, t3⟩ := hR.2.2.1 t ht
  have st : ∀ (d : Nat) (H : mH), True := fun _ _ => trivial
  rcases r2 with re | ⟨a, ha, re⟩ <;> have r4 := r1.symm.trans re
  · refine okI_find 1 (by decide) hR hS ?_ ?_
    · refine cIo ?_; rw [rX9_merged, xX9_merged_0, isRow_x hr, Option.bind_some, if_neg one_ne, isRow_x hq, Option.bind_some, if_neg one_ne, isRow_x ht, Option.bind_some, if_neg one_ne, x_f0, Option.bind_some, x_rowR hr, Option.bind_some, Option.bind_some, x_rowR hq, Option.bind_some, Option.bind_some, x_rowR ht, Option.bind_some, if_pos (x_rowI hr), miss_x hr re, Option.bind_some, if_neg one_ne, xX9_merged_71, if_pos x_is, fx1, Option.bind_some]
    · refine cIo ?_; rw [rX10_merged, xX10_merged_0, isRow_y hr, Option.bind_some, if_neg one_ne, isRow_y hq, Option.bind_some, if_neg one_ne, isRow_y ht, Option.bind_some, if_neg one_ne, y_f5, Option.bind_some, y_g173 hr, Option.bind_some, upF_ne (by decide), r4, if_pos m1_lt0, xX10_merged_50, if_pos y_is, fy1, Option.bind_some, upF_ne (by decide)]
  rcases q2 with qe | ⟨b, hb, qe⟩ <;> have q4 := q1.symm.trans qe
  · refine okI_find 1 (by decide) hR hS ?_ ?_
    · refine cIo ?_; rw [rX9_merged, xX9_merged_0, isRow_x hr, Option.bind_some, if_neg one_ne, isRow_x hq, Option.bind_some, if_neg one_ne, isRow_x ht, Option.bind_some, if_neg one_ne, x_f0, Option.bind_some, x_rowR hr, Option.bind_some, Option.bind_some, x_rowR hq, Option.bind_some, Option.bind_some, x_rowR ht, Option.bind_some, if_pos (x_rowI hr), miss_xn hr ha re, Option.bind_some, if_pos rfl, if_pos (x_rowI hq), miss_x hq qe, Option.bind_some, if_neg one_ne, xX9_merged_71, if_pos x_is, fx1, Option.bind_some]
    · refine cIo ?_; rw [rX10_merged, xX10_merged_0, isRow_y hr, Option.bind_some, if_neg one_ne, isRow_y hq, Option.bind_some, if_neg one_ne, isRow_y ht, Option.bind_some, if_neg one_ne, y_f5, Option.bind_some, y_g173 hr, Option.bind_some, upF_ne (by decide), r4, if_neg (nI_pos (by omega)), Option.bind_some, y_g173 hq, Option.bind_some, upF_ne (by decide), q4, if_pos m1_lt0, xX10_merged_50, if_pos y_is, fy1, Option.bind_some, upF_ne (by decide)]
  rcases t2 with te | ⟨n, hn40, te⟩ <;> have t4 := t1.symm.trans te
  · refine okI_find 1 (by decide) hR hS ?_ ?_
    · refine cIo ?_; rw [rX9_merged, xX9_merged_0, isRow_x hr, Option.bind_some, if_neg one_ne, isRow_x hq, Option.bind_some, if_neg one_ne, isRow_x ht, Option.bind_some, if_neg one_ne, x_f0, Option.bind_some, x_rowR hr, Option.bind_some, Option.bind_some, x_rowR hq, Option.bind_some, Option.bind_some, x_rowR ht, Option.bind_some, if_pos (x_rowI hr), miss_xn hr ha re, Option.bind_some, if_pos rfl, if_pos (x_rowI hq), miss_xn hq hb qe, Option.bind_some, if_pos rfl, if_pos (x_rowI ht), miss_x ht te, Option.bind_some, if_neg one_ne, xX9_merged_71, if_pos x_is, fx1, Option.bind_some]
    · refine cIo ?_; rw [rX10_merged, xX10_merged_0, isRow_y hr, Option.bind_some, if_neg one_ne, isRow_y hq, Option.bind_some, if_neg one_ne, isRow_y ht, Option.bind_some, if_neg one_ne, y_f5, Option.bind_some, y_g173 hr, Option.bind_some, upF_ne (by decide), r4, if_neg (nI_pos (by omega)), Option.bind_some, y_g173 hq, Option.bind_some, upF_ne (by decide), q4, if_neg (nI_pos (by omega)), Option.bind_some, y_g173 ht, Option.bind_some, upF_ne (by decide), t4, if_neg m1_ge0, xX10_merged_50, if_pos y_is, fy1, Option.bind_some, upF_ne (by decide)]
  have comp : ∀ R : mR, ((if nI a + nI b = nI n then (if isO (hp I J F G X) 1 9 = true then ((cI (rn 59) 145 [.ref 1, .ref (142 + 2 * r), .ref (142 + 2 * q), .ref (142 + 2 * t)] (hp I J F G X)).bind fun p16 => if p16.1 = 0 then (some (some (.int 0), p16.2)) else (some (some (.int 1), p16.2))) else none) else (if isO (hp I J F G X) 1 9 = true then ((cI (rn 59) 127 [.ref 1, .int 5] (hp I J F G X)).bind fun p17 => some (some (.int p17.1), p17.2)) else none)) = R) → rn 60 112 [.ref 1, .int (nI r), .int (nI q), .int (nI t)] (hp I J F G X) = R := by
    intro R hh
    rw [rX9_merged, xX9_merged_0, isRow_x hr, Option.bind_some, if_neg one_ne, isRow_x hq, Option.bind_some, if_neg one_ne, isRow_x ht, Option.bind_some, if_neg one_ne, x_f0, Option.bind_some, x_rowR hr, Option.bind_some, Option.bind_some, x_rowR hq, Option.bind_some, Option.bind_some, x_rowR ht, Option.bind_some, if_pos (x_rowI hr), miss_xn hr ha re, Option.bind_some, if_pos rfl, if_pos (x_rowI hq), miss_xn hq hb qe, Option.bind_some, if_pos rfl, if_pos (x_rowI ht), miss_xn ht hn40 te, Option.bind_some, if_pos rfl, x_rowN hr, Option.bind_some, x_rowN hq, Option.bind_some, x_rowN ht, Option.bind_some, re, qe, te]
    exact hh
  by_cases hs : a + b = n
  · subst hs
    obtain ⟨F1, e1, e2⟩ := im_x (d := 58) (I := I) (J := J) (F := F) (G := G) (X := X) (x := F (143 + 2 * r)) (y := F (143 + 2 * q)) (z := F (143 + 2 * t)) hr hq ht hn40 re qe (fun _ _ => rfl) (fun _ _ => rfl) (fun _ _ => rfl) (a + 1) 0 F .null .null .null rfl (by omega) (fun i' hi' => by omega) (fun _ _ => rfl)
    rw [nI_0] at e1
    obtain ⟨G2, u1⟩ := in_x (d := 59) (I := I) (J := J) (F := F1) (X := X) (a := a) (b := b) (x := F (143 + 2 * r)) (y := F (143 + 2 * q)) (z := F (143 + 2 * t)) hr hq ht hn40 (by rw [e2 174 (by decide)]; exact r3) (by rw [e2 174 (by decide)]; exact q3) (by rw [e2 174 (by decide)]; exact t3) (a + 1) 0 G .null .null .null rfl (by omega) (fun i' hi' => by omega)
    rw [nI_0] at u1
    have hm : cI (rn 59) 145 [.ref 1, .ref (142 + 2 * r), .ref (142 + 2 * q), .ref (142 + 2 * t)] (hp I J F G X) = some (bI (Rm (F (143 + 2 * r)) (F (143 + 2 * q)) (F (143 + 2 * t)) a b), hp I J F1 G X) := by
      refine cIo ?_; rw [rX9_isMerge, xX9_isMerge_0, e1]
    refine okI_mk (J2 := J) (G2 := G2) (v := bI (Rm (F (143 + 2 * r)) (F (143 + 2 * q)) (F (143 + 2 * t)) a b)) (I1 := I) (J1 := J) (F1 := F1) (X1 := X) (I2 := I) (F2 := F1) ?_ ?_ (rel_scr hR (fun _ _ => rfl) (fun k hk => e2 k (by omega)) (fun k hk => by rw [e2 169 (by decide)])) hS
    · refine cIo (comp _ ?_)
      rw [nI_add, if_pos rfl, if_pos x_is, hm, Option.bind_some]
      cases Rm (F (143 + 2 * r)) (F (143 + 2 * q)) (F (143 + 2 * t)) a b with
      | false => rw [if_pos (by rfl)]; rfl
      | true => rw [if_neg (show ¬ bI true = 0 by decide)]; rfl
    · refine cIo ?_; rw [rX10_merged, xX10_merged_0, isRow_y hr, Option.bind_some, if_neg one_ne, isRow_y hq, Option.bind_some, if_neg one_ne, isRow_y ht, Option.bind_some, if_neg one_ne, y_f5, Option.bind_some, y_g173 hr, Option.bind_some, e2 173 (by decide), r4, if_neg (nI_pos (by omega)), Option.bind_some, y_g173 hq, Option.bind_some, e2 173 (by decide), q4, if_neg (nI_pos (by omega)), Option.bind_some, y_g173 ht, Option.bind_some, e2 173 (by decide), t4, if_pos (nI_ge0 (by omega)), Option.bind_some, y_g173 hr, Option.bind_some, Option.bind_some, y_g173 hq, Option.bind_some, Option.bind_some, y_g173 ht, Option.bind_some, e2 173 (by decide), r4, q4, t4, nI_add, if_pos rfl, u1]
  · have hne : ¬ nI (a + b) = nI n := fun z => hs ((nI_inj (by omega) (by omega)).mp z)
    refine okI_find 5 (by decide) hR hS ?_ ?_
    · refine cIo (comp _ ?_)
      rw [nI_add, if_neg hne, if_pos x_is, fx5, Option.bind_some]
    · refine cIo ?_; rw [rX10_merged, xX10_merged_0, isRow_y hr, Option.bind_some, if_neg one_ne, isRow_y hq, Option.bind_some, if_neg one_ne, isRow_y ht, Option.bind_some, if_neg one_ne, y_f5, Option.bind_some, y_g173 hr, Option.bind_some, upF_ne (by decide), r4, if_neg (nI_pos (by omega)), Option.bind_some, y_g173 hq, Option.bind_some, upF_ne (by decide), q4, if_neg (nI_pos (by omega)), Option.bind_some, y_g173 ht, Option.bind_some, upF_ne (by decide), t4, if_pos (nI_ge0 (by omega)), Option.bind_some, y_g173 hr, Option.bind_some, Option.bind_some, y_g173 hq, Option.bind_some, Option.bind_some, y_g173 ht, Option.bind_some, upF_ne (by decide), r4, q4, t4, nI_add, if_neg hne, if_pos y_is, fy5, Option.bind_some, upF_ne (by decide)])
/-! the bits of those who gave up -/
def pc (g : Nat) : Nat := (List.range 7).countP (fun i => g.testBit i)
theorem gu_or : ∀ g, g < 128 → ∀ x, x < 7 → guS (nI g) x = nI (g ||| 2 ^ x) ∧ g ||| 2 ^ x < 128 := by decide +kernel
theorem gu_fold : ∀ (U : List Nat) (g : Nat), g < 128 → (∀ x ∈ U, x < 7) → ∃ g', g' < 128 ∧ U.foldl guS (nI g) = nI g' ∧ ∀ i, g'.testBit i = (g.testBit i || decide (i ∈ U))
  | [], g, hg, _ => ⟨g, hg, rfl, fun i => by simp⟩
  | x :: U, g, hg, hU => by
    obtain ⟨e1, e2⟩ := gu_or g hg x (hU x List.mem_cons_self)
    obtain ⟨g', h1, h2, h3⟩ := gu_fold U (g ||| 2 ^ x) e2 (fun y hy => hU y (List.mem_cons_of_mem _ hy))
    refine ⟨g', h1, ?_, fun i => ?_⟩
    · rw [List.foldl_cons, e1, h2]
    · rw [h3 i, Nat.testBit_or, Nat.testBit_two_pow]
      by_cases e : i = x
      · subst e; simp
      · have e' : ¬ x = i := fun z => e z.symm
        simp [e, e', List.mem_cons]
def prt (np : Nat) (A : LSt) : Prop := ∃ g, g < 128 ∧ A.2.2.2.2 = nI g ∧ ∀ i, (g.testBit i = true → i < np ∧ i ∉ A.1 ∧ A.2.2.1 i = -9) ∧ (i < np → i ∉ A.1 → g.testBit i = false → A.2.2.1 i ≠ -9) ∧ (i ∈ A.1 → A.2.2.1 i = -9)
theorem prt_beg (np : Nat) : prt np (beg np) := by
  refine ⟨0, by decide, rfl, fun i => ⟨fun h => ?_, fun h1 h2 _ => ?_, fun _ => rfl⟩⟩
  · rw [Nat.zero_testBit] at h; cases h
  · exact absurd (List.mem_range.mpr h1) h2
theorem wnS_at (wn : Nat → Int32) (who : Option Nat) (nt i : Nat) : wnS wn who nt i = if who = some i then nI nt else wn i := by
  cases who with
  | none => simp [wnS]
  | some x =>
    show upd wn x (nI nt) i = _
    by_cases e : i = x
    · subst e; rw [upd_eq, if_pos rfl]
    · rw [upd_ne e, if_neg (fun z => e (Option.some.inj z).symm)]
theorem prt_pass {np m : Nat} {kd pt : Nat → Nat} {A : LSt} (c : Bool) (hn : np ≤ 7) (hA : lB np m A) (hm : m < 1000) (h : prt np A) : prt np (passA kd pt A c).2 := by
  have hlt := fun z => passA_lt (kd := kd) (pt := pt) (c := c) (z := z) hA
  obtain ⟨L, wt, wn, nt, gu⟩ := A
  obtain ⟨hA1, hA2, hA3, hA4⟩ := hA
  obtain ⟨g, hg, hgu, hh⟩ := h
  dsimp only at hA1 hA2 hA3 hA4 hgu hh
  have hperm := pushA_perm kd nt L
  have hnd1 : (pushA kd nt L).Nodup := hperm.nodup_iff.mpr hA1
  have hmem : ∀ y, y ∈ pushA kd nt L ↔ y ∈ L := fun y => hperm.mem_iff
  generalize hwho : (if c = true then goA kd nt (pushA kd nt L) else none) = who
  have hwL : ∀ z, who = some z → z ∈ L := by
    intro z hz
    cases c with
    | true => rw [if_pos rfl] at hwho; exact (hmem z).mp (goA_mem (hwho.trans hz))
    | false => rw [← hwho] at hz; cases hz
  have hp2 : (passA kd pt (L, wt, wn, nt, gu) c).2 = ((waitR pt who (pushA kd nt L) [] wt gu).1, (waitR pt who (pushA kd nt L) [] wt gu).2.1, wnS wn who nt, nt + 1, (waitR pt who (pushA kd nt L) [] wt gu).2.2) := by
    unfold passA
    dsimp only
    rw [hwho]
  rw [hp2, waitR_eq pt _ _ _ _ _ hnd1]
  subst hgu
  obtain ⟨g', h1, h2, h3⟩ := gu_fold ((pushA kd nt L).filter (fun x => decide (who ≠ some x) && !decide (wt x + 1 < pt x))) g hg (fun x hx => by
    have := hA2 x ((hmem x).mp (List.mem_filter.mp hx).1)
    omega)
  refine ⟨g', h1, h2, fun i => ?_⟩
  dsimp only
  rw [List.nil_append, wnS_at, h3 i]
  obtain ⟨p1, p2, p3⟩ := hh i
  have hnt : nI nt ≠ (-9 : Int32) := nI_ne9 (by omega)
  simp only [List.mem_filter, hmem, Bool.or_eq_true, decide_eq_true_eq, Bool.and_eq_true, Bool.not_eq_true', decide_eq_false_iff_not, Bool.or_eq_false_iff]
  refine ⟨fun ht => ?_, fun hi hL' hf => ?_, fun hL' => ?_⟩
  · rcases ht with ht | ⟨ht1, ht2, ht3⟩
    · obtain ⟨a1, a2, a3⟩ := p1 ht
      refine ⟨a1, fun z => a2 z.1, ?_⟩
      rw [if_neg (fun z => a2 (hwL i z))]
      exact a3
    · refine ⟨hA2 i ht1, fun z => ht3 z.2.2, ?_⟩
      rw [if_neg ht2]
      exact p3 ht1
  · by_cases hiL : i ∈ L
    · by_cases hw : who = some i
      · rw [if_pos hw]; exact hnt
      · exfalso
        by_cases hs : wt i + 1 < pt i
        · exact hL' ⟨hiL, hw, hs⟩
        · exact hf.2 ⟨hiL, hw, hs⟩
    · rw [if_neg (fun z => hiL (hwL i z))]
      exact p2 hi hiL hf.1
  · rw [if_neg hL'.2.1]
    exact p3 hL'.1
theorem swp_memI {L : List Nat} {i j y : Nat} (hi : i ∈ L) (hj : j ∈ L) : y ∈ swp L i j ↔ y ∈ L := by
  constructor
  · exact swp_mem hi hj
  · intro hy
    unfold swp
    rw [List.mem_map]
    by_cases e : y = i
    · subst e
      by_cases e2 : j = y
      · exact ⟨j, hj, by rw [if_pos e2, e2]⟩
      · exact ⟨j, hj, by rw [if_neg e2, if_pos rfl]⟩
    · by_cases e2 : y = j
      · subst e2; exact ⟨i, hi, if_pos rfl⟩
      · exact ⟨y, hy, by rw [if_neg e, if_neg e2]⟩
theorem prt_doD {np m : Nat} {kd pt : Nat → Nat} {A : LSt} {d : Nat} (hn : np ≤ 7) (hA : lB np m A) (hm : m < 1000) (hd : okD A d) (h : prt np A) : prt np (doD kd pt A d) := by
  unfold doD
  split
  · exact prt_pass _ hn hA hm h
  · next h2 =>
    rcases hd with hd | ⟨d1, d2, d3⟩
    · exact absurd hd h2
    · obtain ⟨g, hg, hgu, hh⟩ := h
      refine ⟨g, hg, hgu, fun i => ?_⟩
      obtain ⟨p1, p2, p3⟩ := hh i
      have e := swp_memI (y := i) d1 d2
      exact ⟨fun ht => ⟨(p1 ht).1, fun z => (p1 ht).2.1 (e.mp z), (p1 ht).2.2⟩, fun hi hL hf => p2 hi (fun z => hL (e.mpr z)) hf, fun hL => p3 (e.mp hL)⟩
theorem rep_prt {np : Nat} {kd pt : Nat → Nat} {ds : List Nat} (hn : np ≤ 7) (hl : ds.length ≤ 40) (hd : okDs np kd pt ds) : prt np (rep np kd pt ds) := by
  have : ∀ k, k ≤ ds.length → prt np (rep np kd pt (ds.take k)) := by
    intro k
    induction k with
    | zero => intro _; exact prt_beg np
    | succ k ih =>
      intro hk
      have hg : ds[k]? = some (ds[k]'(by omega)) := List.getElem?_eq_getElem (by omega)
      rw [rep_take hg]
      exact prt_doD hn (rep_lB hd k (by omega)) (by omega) (hd k _ hg) (ih (by omega))
  have := this ds.length (Nat.le_refl _)
  rwa [List.take_length] at this
def cP (p : Nat → Bool) : Nat → Nat → Nat
  | _, 0 => 0
  | k, m + 1 => (if p k = true then 1 else 0) + cP p (k + 1) m
theorem cP_count (p : Nat → Bool) : ∀ (m k : Nat), cP p k m = (List.range' k m).countP p
  | 0, _ => rfl
  | m + 1, k => by rw [List.range'_succ, List.countP_cons, cP, cP_count p m (k + 1), Nat.add_comm]
theorem cP_congr {p q : Nat → Bool} : ∀ (m k : Nat), (∀ j, k ≤ j → j < k + m → p j = q j) → cP p k m = cP q k m
  | 0, _, _ => rfl
  | m + 1, k, h => by
    unfold cP
    rw [h k (Nat.le_refl _) (by omega), cP_congr m (k + 1) (fun j h1 h2 => h j (by omega) (by omega))]
theorem cP_one {p q r : Nat → Bool} : ∀ (m k : Nat), (∀ j, k ≤ j → j < k + m → (if p j = true then 1 else 0) + ((if q j = true then 1 else 0) + (if r j = true then 1 else 0)) = 1) → cP p k m + cP q k m + cP r k m = m
  | 0, _, _ => rfl
  | m + 1, k, h => by
    have h1 := h k (Nat.le_refl _) (by omega)
    have h2 := cP_one (p := p) (q := q) (r := r) m (k + 1) (fun j a b => h j (by omega) (by omega))
    unfold cP
    omega
theorem cP_len {L : List Nat} {n : Nat} (h1 : L.Nodup) (h2 : ∀ y ∈ L, y < n) : cP (fun i => decide (i ∈ L)) 0 n = L.length := by
  rw [cP_count, List.countP_eq_length_filter]
  have hnd : ((List.range' 0 n).filter (fun i => decide (i ∈ L))).Nodup := List.Pairwise.filter _ List.nodup_range'
  apply Nat.le_antisymm
  · exact List.Nodup.length_le_of_subset hnd (fun y hy => by have := (List.mem_filter.mp hy).2; simpa using this)
  · exact List.Nodup.length_le_of_subset h1 (fun y hy => by
      rw [List.mem_filter, List.mem_range'_1]
      exact ⟨⟨Nat.zero_le _, by have := h2 y hy; omega⟩, by simpa using hy⟩)
theorem cP_pc {g n : Nat} (hn : n ≤ 7) (h : ∀ i, g.testBit i = true → i < n) : cP (fun i => g.testBit i) 0 n = pc g := by
  rw [cP_count]
  unfold pc
  rw [List.countP_eq_length_filter, List.countP_eq_length_filter]
  apply Nat.le_antisymm
  · refine List.Nodup.length_le_of_subset (List.Pairwise.filter _ List.nodup_range') (fun y hy => ?_)
    rw [List.mem_filter, List.mem_range'_1] at hy
    rw [List.mem_filter, List.mem_range]
    exact ⟨by omega, hy.2⟩
  · refine List.Nodup.length_le_of_subset (List.nodup_range.filter _) (fun y hy => ?_)
    rw [List.mem_filter, List.mem_range] at hy
    rw [List.mem_filter, List.mem_range'_1]
    exact ⟨⟨Nat.zero_le _, by have := h y hy.2; omega⟩, hy.2⟩
theorem went_count {np m g : Nat} {A : LSt} (hn : np ≤ 7) (hA : lB np m A) (hh : ∀ i, (g.testBit i = true → i < np ∧ i ∉ A.1 ∧ A.2.2.1 i = -9) ∧ (i < np → i ∉ A.1 → g.testBit i = false → A.2.2.1 i ≠ -9) ∧ (i ∈ A.1 → A.2.2.1 i = -9)) : cP (fun i => !decide (A.2.2.1 i = -9)) 0 np + A.1.length + pc g = np := by
  rw [← cP_len hA.1 hA.2.1, ← cP_pc hn (fun i hi => ((hh i).1 hi).1)]
  refine cP_one np 0 (fun j h1 h2 => ?_)
  obtain ⟨p1, p2, p3⟩ := hh j
  by_cases hL : j ∈ A.1
  · have e := p3 hL
    have : g.testBit j = false := by
      cases e2 : g.testBit j with
      | false => rfl
      | true => exact absurd hL (p1 e2).2.1
    simp [hL, e, this]
  · cases e2 : g.testBit j with
    | false =>
      have := p2 (by omega) hL e2
      simp [hL, this]
    | true =>
      have := (p1 e2).2.2
      simp [hL, this]
