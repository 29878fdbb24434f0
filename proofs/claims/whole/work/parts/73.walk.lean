/-! all rows of nights as a tree -/
def hit (tg w : Option Nat) : Bool := match w with
  | none => false
  | some x => match tg with
    | none => true
    | some i => decide (x = i)
def toGo (tg : Option Nat) (A : LSt) : Bool := match tg with
  | none => decide (0 < A.1.length)
  | some i => (plc A.1 i).isSome
def awI (tg : Option Nat) : Int32 := match tg with
  | none => -1
  | some i => nI i
def wB (rc : LSt → Nat) (s m : Nat) (tg : Option Nat) (p : Option Nat × LSt) (w : Nat) : Nat := if w = 0 then 0 else w * ((if hit tg p.1 = true then s ^ m else 0) + (if toGo tg p.2 = true then rc p.2 else 0))
def snB (rc : LSt → Nat → Nat) (tg : Option Nat) (p : Option Nat × LSt) (w dp sn : Nat) : Nat := if w = 0 then sn else if toGo tg p.2 = true then rc p.2 (if hit tg p.1 = true then min sn dp else sn) else (if hit tg p.1 = true then min sn dp else sn)
def wy (kd pt : Nat → Nat) (tg : Option Nat) (cw yw s : Nat) : Nat → LSt → Nat
  | 0, _ => 0
  | m + 1, A => wB (wy kd pt tg cw yw s m) s m tg (passA kd pt A true) cw + wB (wy kd pt tg cw yw s m) s m tg (passA kd pt A false) yw
def wsn (kd pt : Nat → Nat) (tg : Option Nat) (cw yw : Nat) : Nat → LSt → Nat → Nat → Nat
  | 0, _, _, sn => sn
  | m + 1, A, dp, sn => snB (fun A' sn => wsn kd pt tg cw yw m A' (dp + 1) sn) tg (passA kd pt A false) yw dp (snB (fun A' sn => wsn kd pt tg cw yw m A' (dp + 1) sn) tg (passA kd pt A true) cw dp sn)
def wkO (vc vg : Value) (len aw cw yw cb sn : Int32) (ft : Int64) : va_E := .inr (4, [.ref 24, .ref 25, vc, vg, .int len, .int aw, .int cw, .int yw, .int cb, .int sn, .long ft])
def WT (X : Nat → va_E) : Prop := (∃ f, X 24 = arR 7 11 f ∧ ∀ k, k < 11 → f k = some (26 + 4 * k)) ∧ ∀ k, k < 11 → Qsh X (26 + 4 * k)
def PW (X : Nat → va_E) (s : Nat) : Prop := ∃ g, X 25 = arL 11 g ∧ ∀ j, j < 11 → g j = lN (s ^ j)
section WK
variable {I : Nat → Int32} {J : Nat → Int64} {F : Nat → Nat → Int32} {G : Nat → Int64} {X : Nat → va_E} {np : Nat} {kd pt : Nat → Nat}
theorem gIx {k ci j : Nat} {fs : List Value} {x : Int32} (h1 : 23 ≤ k) (h2 : k < 140) (h0 : X k = .inr (ci, fs)) (h : fs[j]? = some (.int x)) : gI (hp I J F G X) k ci j = some x := gI_at ((hp_x h1 h2).trans (congrArg some h0)) h
theorem gRx {k ci j x : Nat} {fs : List Value} (h1 : 23 ≤ k) (h2 : k < 140) (h0 : X k = .inr (ci, fs)) (h : fs[j]? = some (.ref x)) : gR (hp I J F G X) k ci j = some x := gR_at ((hp_x h1 h2).trans (congrArg some h0)) h
theorem isOx {k ci : Nat} {fs : List Value} (h1 : 23 ≤ k) (h2 : k < 140) (h0 : X k = .inr (ci, fs)) : isO (hp I J F G X) k ci = true := isO_at ((hp_x h1 h2).trans (congrArg some h0))
theorem pFx {k ci j : Nat} {fs : List Value} {v : Value} (h1 : 23 ≤ k) (h2 : k < 140) (h0 : X k = .inr (ci, fs)) (h : j < fs.length) : pF (hp I J F G X) k ci j v = some (hp I J F G (fun i => if i = k then .inr (ci, fs.set j v) else X i)) := by
  rw [pF_at ((hp_x h1 h2).trans (congrArg some h0)) h, hp_sx h1 h2]
theorem aRx {k t n i x : Nat} {f : Nat → Option Nat} (h1 : 23 ≤ k) (h2 : k < 140) (h0 : X k = arR t n f) (hi : i < n) (hn : n < 2 ^ 31) (hf : f i = some x) : aR t (hp I J F G X) k (nI i) = some x := by
  unfold aR
  rw [hp_x h1 h2, h0]
  unfold arR
  dsimp only
  rw [if_pos rfl, if_pos (vin_nI hi hn), nI_clamp (by omega), hf]
theorem aLx {k n i : Nat} {g : Nat → Int64} (h1 : 23 ≤ k) (h2 : k < 140) (h0 : X k = arL n g) (hi : i < n) (hn : n < 2 ^ 31) : aL (hp I J F G X) k (nI i) = some (g i) := by
  unfold aL
  rw [hp_x h1 h2, h0]
  unfold arL
  dsimp only
  rw [if_pos rfl, if_pos (vin_nI hi hn), nI_clamp (by omega)]
theorem sLx {k n i : Nat} {g : Nat → Int64} {x : Int64} (h1 : 23 ≤ k) (h2 : k < 140) (h0 : X k = arL n g) (hi : i < n) (hn : n < 2 ^ 31) : sL (hp I J F G X) k (nI i) x = some (hp I J F G (fun j => if j = k then arL n (vp_updL g i x) else X j)) := by
  unfold sL
  rw [hp_x h1 h2, h0]
  unfold arL
  dsimp only
  rw [if_pos rfl, if_pos (vin_nI hi hn), nI_clamp (by omega), hp_sx h1 h2]
theorem WT_23 {v : va_E} (h : WT X) : WT (fun i => if i = 23 then v else X i) := by
  obtain ⟨⟨f, a, b⟩, c⟩ := h
  refine ⟨⟨f, by dsimp only; rw [if_neg (by decide)]; exact a, b⟩, fun k hk => ?_⟩
  obtain ⟨o, w, g, s, n, u, e0, e1, e2, e3⟩ := c k hk
  refine ⟨o, w, g, s, n, u, ?_, ?_, ?_, ?_⟩ <;> dsimp only
  · rw [if_neg (by omega)]; exact e0
  · rw [if_neg (by omega)]; exact e1
  · rw [if_neg (by omega)]; exact e2
  · rw [if_neg (by omega)]; exact e3
theorem WT_q {X' : Nat → va_E} {k : Nat} (hk : k < 11) (h : WT X) (hf : FX X X' (26 + 4 * k)) (hq : Qsh X' (26 + 4 * k)) : WT X' := by
  obtain ⟨⟨f, a, b⟩, c⟩ := h
  refine ⟨⟨f, by rw [hf 24 (by omega)]; exact a, b⟩, fun j hj => ?_⟩
  by_cases e : j = k
  · subst e; exact hq
  · exact Qsh_fr (c j hj) hf (by unfold apart4; omega)
theorem stp {k : Nat} (h : WT X) (hk : k < 11) : aR 7 (hp I J F G X) 24 (nI k) = some (26 + 4 * k) := by
  obtain ⟨⟨f, a, b⟩, -⟩ := h
  exact aRx (by decide) (by decide) a hk (by decide) (b k hk)
theorem QX_is {q : Nat} {A : LSt} (h1 : 23 ≤ q) (h2 : q < 140) (h : QX X q A) : isO (hp I J F G X) q 5 = true := by
  obtain ⟨o, w, g, e0, -⟩ := h
  exact isOx h1 h2 e0
theorem Qsh_is {q : Nat} (h1 : 23 ≤ q) (h2 : q < 140) (h : Qsh X q) : isO (hp I J F G X) q 5 = true := by
  obtain ⟨o, w, g, s, n, u, e0, -⟩ := h
  exact isOx h1 h2 e0
theorem QX_size {q : Nat} {A : LSt} (h1 : 23 ≤ q) (h2 : q < 140) (h : QX X q A) : gI (hp I J F G X) q 5 3 = some (nI A.1.length) := by
  obtain ⟨o, w, g, e0, -⟩ := h
  exact gIx h1 h2 e0 rfl
theorem placeX {d q i m : Nat} {A : LSt} (h1 : 23 ≤ q) (h2 : q + 3 < 140) (hQ : QX X q A) (hn : np ≤ 7) (hA : lB np m A) (hi : i < 7) : cI (rn (d + 1)) 44 [.ref q, .int (nI i)] (hp I J F G X) = some (oI (plc A.1 i), (hp I J F G X)) := by
  obtain ⟨L, wt, wn, nt, gu⟩ := A
  obtain ⟨o, w, g, e0, e1, e2, e3, e4, e5⟩ := hQ
  have hH : putQ (hp I J F G X) q o w g (nI L.length) (nI nt) gu = (hp I J F G X) := putQ_same ((hp_x h1 (by omega)).trans (congrArg some e0)) ((hp_x (by omega) (by omega)).trans (congrArg some e1)) ((hp_x (by omega) (by omega)).trans (congrArg some e2)) ((hp_x (by omega) (by omega)).trans (congrArg some e3))
  have := placeOf_s (d := d + 1) (h := (hp I J F G X)) (q := q) (w := w) (g := g) (n := nI nt) (u := gu) (by omega) (by rw [hp_len]; omega) e4 (lB_len hn hA) (fun y hy => Nat.lt_of_lt_of_le (hA.2.1 y hy) hn) hi
  rwa [hH] at this
theorem hit_eq {tg w : Option Nat} : hit tg w = true ↔ ∃ x, w = some x ∧ (tg = none ∨ tg = some x) := by
  cases w with
  | none => simp [hit]
  | some x =>
    cases tg with
    | none => simp [hit]
    | some i =>
      simp only [hit, decide_eq_true_eq]
      constructor
      · rintro rfl; exact ⟨x, rfl, Or.inr rfl⟩
      · rintro ⟨y, h1, h2⟩
        cases h1
        rcases h2 with h2 | h2
        · cases h2
        · exact (Option.some.inj h2).symm
theorem min_nI {a b : Nat} (ha : a < 2 ^ 31) (hb : b < 2 ^ 31) : (if nI a < nI b then nI a else nI b) = nI (min b a) := by
  by_cases e : a < b
  · rw [if_pos ((nI_ltI ha hb).mpr e), Nat.min_eq_right (by omega)]
  · rw [if_neg (fun z => e ((nI_ltI ha hb).mp z)), Nat.min_eq_left (by omega)]
theorem wF_x {tg : Option Nat} {cw yw s len : Nat} {vg : Value} {cb : Int32} {ft : Int64} (hlen : len ≤ 10) (hcw : cw < 100) (hyw : yw < 100) (htg : ∀ i, tg = some i → i < 7) (hn : np ≤ 7) (h4 : I 4 = nI np) (hk : kOK (F 5) kd np) (hp' : ∀ k, k < np → F 6 k = nI (pt k) ∧ pt k < 1000) : ∀ (m dp D : Nat) (X : Nat → va_E) (A : LSt) (mm sn : Nat), dp + m = len → 2 * m + 12 ≤ D → X 23 = wkO (.ref 4) vg (nI len) (awI tg) (nI cw) (nI yw) cb (nI sn) ft → WT X → PW X s → QX X (26 + 4 * dp) A → lB np mm A → mm + m < 900 → sn < 1000 →
    ∃ X', cL (rn D) 34 [.ref 23, .int (nI dp)] (hp I J F G X) = some (lN (wy kd pt tg cw yw s m A), hp I J F G X') ∧ X' 23 = wkO (.ref 4) vg (nI len) (awI tg) (nI cw) (nI yw) cb (nI (wsn kd pt tg cw yw m A dp sn)) ft ∧ WT X' ∧ wsn kd pt tg cw yw m A dp sn < 1000 ∧ ∀ k, (k < 23 ∨ (23 < k ∧ k < 26 + 4 * (dp + 1)) ∨ 70 ≤ k) → X' k = X k := by
  intro m
  induction m with
  | zero =>
    intro dp D X A mm sn h1 h2 hX hW hP hQ hA hm hs
    have : dp = len := by omega
    subst this
    obtain ⟨D, rfl⟩ : ∃ e, D = e + 1 := ⟨D - 1, by omega⟩
    refine ⟨X, ?_, hX, hW, hs, fun _ _ => rfl⟩
    refine cLo ?_
    rw [rX4_waysFrom, xX4_waysFrom_0, gIx (by decide) (by decide) hX rfl, Option.bind_some, if_pos (nI_le (Nat.le_refl _) (by omega))]
    rfl
  | succ m ih =>
    intro dp D X A mm sn h1 h2 hX hW hP hQ hA hm hs
    -- one branch
    have wBx : ∀ (c : Bool) (w D : Nat) (X : Nat → va_E) (sn : Nat), w < 100 → 2 * m + 13 ≤ D → X 23 = wkO (.ref 4) vg (nI len) (awI tg) (nI cw) (nI yw) cb (nI sn) ft → WT X → PW X s → QX X (26 + 4 * dp) A → sn < 1000 → ∃ X', cL (rn D) 35 [.ref 23, .int (nI dp), .int (bI c), .int (nI w)] (hp I J F G X) = some (lN (wB (wy kd pt tg cw yw s m) s m tg (passA kd pt A c) w), hp I J F G X') ∧ X' 23 = wkO (.ref 4) vg (nI len) (awI tg) (nI cw) (nI yw) cb (nI (snB (fun A' sn => wsn kd pt tg cw yw m A' (dp + 1) sn) tg (passA kd pt A c) w dp sn)) ft ∧ WT X' ∧ snB (fun A' sn => wsn kd pt tg cw yw m A' (dp + 1) sn) tg (passA kd pt A c) w dp sn < 1000 ∧ ∀ k, (k < 23 ∨ (23 < k ∧ k < 26 + 4 * (dp + 1)) ∨ 70 ≤ k) → X' k = X k := by
      intro c w D X sn hw hD hX hW hP hQ hs
      obtain ⟨D, rfl⟩ : ∃ e, D = (e + 8) + 1 := ⟨D - 9, by omega⟩
      by_cases hw0 : w = 0
      · refine ⟨X, ?_, ?_, hW, ?_, fun _ _ => rfl⟩
        · refine cLo ?_
          rw [rX4_waysBy, xX4_waysBy_0, hw0, if_pos (by decide)]
          unfold wB
          rw [if_pos rfl]
          rfl
        · unfold snB; rw [if_pos hw0]; exact hX
        · unfold snB; rw [if_pos hw0]; exact hs
      have hQn := hW.2 (dp + 1) (by omega)
      obtain ⟨X1, s1, s2, s3⟩ := setXX_x (d := D + 6) (I := I) (J := J) (F := F) (G := G) (X := X) (q := 26 + 4 * (dp + 1)) (p := 26 + 4 * dp) (by omega) (by omega) (by omega) (by omega) (by unfold apart4; omega) hn hA hQ hQn
      obtain ⟨X2, t1, t2, t3⟩ := passX_x (d := D) (I := I) (J := J) (F := F) (G := G) (X := X1) (q := 26 + 4 * (dp + 1)) (by omega) (by omega) s2 hn h4 hk hp' hA (by omega) c
      have hA2 := passA_lB kd pt c hA
      have hlt := fun z => passA_lt (kd := kd) (pt := pt) (c := c) (z := z) hA
      have hwB : wB (wy kd pt tg cw yw s m) s m tg (passA kd pt A c) w = w * ((if hit tg (passA kd pt A c).1 = true then s ^ m else 0) + (if toGo tg (passA kd pt A c).2 = true then wy kd pt tg cw yw s m (passA kd pt A c).2 else 0)) := if_neg hw0
      have hsB : ∀ sn, snB (fun A' sn => wsn kd pt tg cw yw m A' (dp + 1) sn) tg (passA kd pt A c) w dp sn = (if toGo tg (passA kd pt A c).2 = true then wsn kd pt tg cw yw m (passA kd pt A c).2 (dp + 1) (if hit tg (passA kd pt A c).1 = true then min sn dp else sn) else (if hit tg (passA kd pt A c).1 = true then min sn dp else sn)) := fun sn => if_neg hw0
      rw [hwB, hsB]
      generalize hpE : passA kd pt A c = p at t1 t2 hA2 hlt
      have hX2 : X2 23 = wkO (.ref 4) vg (nI len) (awI tg) (nI cw) (nI yw) cb (nI sn) ft := by rw [t3 23 (by omega), s3 23 (by omega)]; exact hX
      have hW2 : WT X2 := WT_q (k := dp + 1) (by omega) (WT_q (k := dp + 1) (by omega) hW s3 (QX_sh s2)) t3 (QX_sh t2)
      have hP2 : PW X2 s := by obtain ⟨g, a, b⟩ := hP; exact ⟨g, by rw [t3 25 (by omega), s3 25 (by omega)]; exact a, b⟩
      have fr2 : ∀ k, (k < 23 ∨ (23 < k ∧ k < 26 + 4 * (dp + 1)) ∨ 70 ≤ k) → X2 k = X k := fun k hk => by rw [t3 k (by omega), s3 k (by omega)]
      -- from the test on
      have last : ∀ (X3 : Nat → va_E) (sn3 hs3 : Nat) (v5 : Int32), X3 23 = wkO (.ref 4) vg (nI len) (awI tg) (nI cw) (nI yw) cb (nI sn3) ft → WT X3 → PW X3 s → QX X3 (26 + 4 * (dp + 1)) p.2 → sn3 < 1000 → (∀ k, (k < 23 ∨ (23 < k ∧ k < 26 + 4 * (dp + 1)) ∨ 70 ≤ k) → X3 k = X k) → ∃ X', ex cdX4_waysBy (rn (D + 8)) 92 [.ref 23, .int (nI dp), .int (bI c), .int (nI w), .ref (26 + 4 * (dp + 1)), .int v5, .long (lN hs3), .null] [] (hp I J F G X3) = some (some (.long (lN (w * (hs3 + (if toGo tg p.2 = true then wy kd pt tg cw yw s m p.2 else 0))))), hp I J F G X') ∧ X' 23 = wkO (.ref 4) vg (nI len) (awI tg) (nI cw) (nI yw) cb (nI (if toGo tg p.2 = true then wsn kd pt tg cw yw m p.2 (dp + 1) sn3 else sn3)) ft ∧ WT X' ∧ (if toGo tg p.2 = true then wsn kd pt tg cw yw m p.2 (dp + 1) sn3 else sn3) < 1000 ∧ ∀ k, (k < 23 ∨ (23 < k ∧ k < 26 + 4 * (dp + 1)) ∨ 70 ≤ k) → X' k = X k := by
        intro X3 sn3 hs3 v5 g1 g2 g3 g4 g5 g6
        have htoGo : cI (rn (D + 8)) 36 [.ref 23, .ref (26 + 4 * (dp + 1))] (hp I J F G X3) = some (bI (toGo tg p.2), hp I J F G X3) := by
          refine cIo ?_
          rw [rX4_isToGo, xX4_isToGo_0, gIx (by decide) (by decide) g1 rfl, Option.bind_some]
          cases tg with
          | none =>
            rw [if_pos (show awI none = -1 from rfl), QX_size (by omega) (by omega) g4, Option.bind_some]
            have hl := lB_len hn hA2
            unfold toGo
            dsimp only
            by_cases e : 0 < p.2.1.length
            · rw [if_neg (nI_nle e (by omega)), bI_dt e]
            · rw [if_pos (show nI p.2.1.length ≤ 0 by rw [show p.2.1.length = 0 by omega]; decide), bI_df e]
          | some i =>
            have hi := htg i rfl
            rw [if_neg (show ¬ awI (some i) = -1 from nI_nm1 (by omega)), Option.bind_some, if_pos (QX_is (by omega) (by omega) g4), show awI (some i) = nI i from rfl, placeX (by omega) (by omega) g4 hn hA2 hi, Option.bind_some]
            unfold toGo
            dsimp only
            cases e : plc p.2.1 i with
            | none => rw [if_pos oI_none]; rfl
            | some j =>
              have hj := (List.getElem?_eq_some_iff.mp (plc_some e)).1
              have hl := lB_len hn hA2
              rw [if_neg (show ¬ oI (some j) = -9 from nI_ne9 (by omega))]
              rfl
        rw [xX4_waysBy_92, if_pos (isOx (by decide) (by decide) g1), htoGo, Option.bind_some, nI_1]
        cases hg : toGo tg p.2 with
        | false =>
          refine ⟨X3, ?_, g1, g2, g5, g6⟩
          rw [if_pos (by rfl), nI_l (by omega), lN_mul]
          rfl
        | true =>
          obtain ⟨X4, a1, a2, a3, a4, a5⟩ := ih (dp + 1) (D + 8) X3 p.2 (mm + 1) sn3 (by omega) (by omega) g1 g2 g3 g4 hA2 (by omega) g5
          refine ⟨X4, ?_, a2, a3, a4, fun k hk => by rw [a5 k (by omega), g6 k hk]⟩
          rw [if_neg (show ¬ bI true = 0 by decide), if_pos (isOx (by decide) (by decide) g1), a1, Option.bind_some, nI_l (by omega), lN_add, lN_mul]
          rfl
      have start : ∀ R : mR, ((if oI p.1 = (-9) then (ex cdX4_waysBy (rn (D + 8)) 92 [.ref 23, .int (nI dp), .int (bI c), .int (nI w), .ref (26 + 4 * (dp + 1)), .int (oI p.1), .long 0, .null] [] (hp I J F G X2)) else ((gI (hp I J F G X2) 23 4 5).bind fun x8 => if x8 = (-1) then (ex cdX4_waysBy (rn (D + 8)) 66 [.ref 23, .int (nI dp), .int (bI c), .int (nI w), .ref (26 + 4 * (dp + 1)), .int (oI p.1), .long 0, .null] [] (hp I J F G X2)) else ((gI (hp I J F G X2) 23 4 5).bind fun x9 => if x9 = oI p.1 then (ex cdX4_waysBy (rn (D + 8)) 66 [.ref 23, .int (nI dp), .int (bI c), .int (nI w), .ref (26 + 4 * (dp + 1)), .int (oI p.1), .long 0, .null] [] (hp I J F G X2)) else (ex cdX4_waysBy (rn (D + 8)) 92 [.ref 23, .int (nI dp), .int (bI c), .int (nI w), .ref (26 + 4 * (dp + 1)), .int (oI p.1), .long 0, .null] [] (hp I J F G X2))))) = R) → rn (D + 8 + 1) 35 [.ref 23, .int (nI dp), .int (bI c), .int (nI w)] (hp I J F G X) = R := by
        intro R hR
        rw [rX4_waysBy, xX4_waysBy_0, if_neg (nI_ne0 (by omega) (by omega)), gRx (by decide) (by decide) hX rfl, Option.bind_some, nI_1, stp hW (by omega), Option.bind_some, Option.bind_some, stp hW (by omega), Option.bind_some, if_pos (Qsh_is (by omega) (by omega) hQn), s1, Option.bind_some, gRx (by decide) (by decide) (show X1 23 = _ by rw [s3 23 (by omega)]; exact hX) rfl, Option.bind_some, if_pos (QX_is (by omega) (by omega) s2), t1, Option.bind_some]
        exact hR
      have aw9 : gI (hp I J F G X2) 23 4 5 = some (awI tg) := gIx (by decide) (by decide) hX2 rfl
      -- a hit
      have good : ∃ X', ex cdX4_waysBy (rn (D + 8)) 66 [.ref 23, .int (nI dp), .int (bI c), .int (nI w), .ref (26 + 4 * (dp + 1)), .int (oI p.1), .long 0, .null] [] (hp I J F G X2) = some (some (.long (lN (w * (s ^ m + (if toGo tg p.2 = true then wy kd pt tg cw yw s m p.2 else 0))))), hp I J F G X') ∧ X' 23 = wkO (.ref 4) vg (nI len) (awI tg) (nI cw) (nI yw) cb (nI (if toGo tg p.2 = true then wsn kd pt tg cw yw m p.2 (dp + 1) (min sn dp) else min sn dp)) ft ∧ WT X' ∧ (if toGo tg p.2 = true then wsn kd pt tg cw yw m p.2 (dp + 1) (min sn dp) else min sn dp) < 1000 ∧ ∀ k, (k < 23 ∨ (23 < k ∧ k < 26 + 4 * (dp + 1)) ∨ 70 ≤ k) → X' k = X k := by
        obtain ⟨X3, hX3d⟩ : ∃ X3 : Nat → va_E, X3 = (fun i => if i = 23 then wkO (.ref 4) vg (nI len) (awI tg) (nI cw) (nI yw) cb (nI (min sn dp)) ft else X2 i) := ⟨_, rfl⟩
        have hX3 : X3 23 = wkO (.ref 4) vg (nI len) (awI tg) (nI cw) (nI yw) cb (nI (min sn dp)) ft := by rw [hX3d]; exact if_pos rfl
        have ne3 : ∀ i, i ≠ 23 → X3 i = X2 i := fun i hi => by rw [hX3d]; exact if_neg hi
        have hW3 : WT X3 := by rw [hX3d]; exact WT_23 hW2
        have hP3 : PW X3 s := by obtain ⟨g, a, b⟩ := hP2; exact ⟨g, by rw [ne3 25 (by decide)]; exact a, b⟩
        have hQ3 : QX X3 (26 + 4 * (dp + 1)) p.2 := QX_fr t2 (q' := 20) (fun k hk => ne3 k (by omega)) (by unfold apart4; omega)
        have haw : cL (rn (D + 8)) 32 [.ref 23, .int (nI m)] (hp I J F G X3) = some (lN (s ^ m), hp I J F G X3) := by
          obtain ⟨g, hg1, hg2⟩ := hP3
          refine cLo ?_
          rw [rX4_allWays, xX4_allWays_0, if_neg (nI_pos (by omega)), if_neg (show ¬ (10 : Int32) < nI m from fun z => by have := (nI_ltI (a := 10) (by decide) (by omega)).mp z; omega), gRx (by decide) (by decide) hX3 rfl, Option.bind_some, aLx (by decide) (by decide) hg1 (show m < 11 by omega) (by decide), Option.bind_some, hg2 m (by omega)]
        obtain ⟨X', z1, z2⟩ := last X3 (min sn dp) (s ^ m) (oI p.1) hX3 hW3 hP3 hQ3 (by omega) (fun k hk => by rw [ne3 k (by omega)]; exact fr2 k hk)
        refine ⟨X', ?_, z2⟩
        have e23 : pF (hp I J F G X2) 23 4 9 (.int (nI (min sn dp))) = some (hp I J F G X3) := by
          rw [hX3d]
          exact pFx (by decide) (by decide) hX2 (Nat.le_of_ble_eq_true rfl)
        rw [xX4_waysBy_66, gIx (by decide) (by decide) hX2 rfl, Option.bind_some, nat0, Option.bind_some, min_nI (by omega) (by omega), e23, Option.bind_some, gIx (by decide) (by decide) hX3 rfl, Option.bind_some, if_pos (isOx (by decide) (by decide) hX3), pk_sub (by omega), show len - dp = m + 1 by omega, nI_pred, haw, Option.bind_some]
        exact z1
      have bad : ∃ X', ex cdX4_waysBy (rn (D + 8)) 92 [.ref 23, .int (nI dp), .int (bI c), .int (nI w), .ref (26 + 4 * (dp + 1)), .int (oI p.1), .long 0, .null] [] (hp I J F G X2) = some (some (.long (lN (w * (0 + (if toGo tg p.2 = true then wy kd pt tg cw yw s m p.2 else 0))))), hp I J F G X') ∧ X' 23 = wkO (.ref 4) vg (nI len) (awI tg) (nI cw) (nI yw) cb (nI (if toGo tg p.2 = true then wsn kd pt tg cw yw m p.2 (dp + 1) sn else sn)) ft ∧ WT X' ∧ (if toGo tg p.2 = true then wsn kd pt tg cw yw m p.2 (dp + 1) sn else sn) < 1000 ∧ ∀ k, (k < 23 ∨ (23 < k ∧ k < 26 + 4 * (dp + 1)) ∨ 70 ≤ k) → X' k = X k := last X2 sn 0 (oI p.1) hX2 hW2 hP2 t2 hs fr2
      cases hp1 : p.1 with
      | none =>
        rw [hp1] at bad start
        obtain ⟨X', z1, z2⟩ := bad
        have hh : hit tg none = false := rfl
        simp only [hh, Bool.false_eq_true, ↓reduceIte]
        exact ⟨X', cLo (start _ (by rw [if_pos oI_none]; exact z1)), z2⟩
      | some x =>
        have hx := hlt x hp1
        rw [hp1] at bad good start
        have nx : ¬ oI (some x) = -9 := nI_ne9 (by omega)
        cases tg with
        | none =>
          obtain ⟨X', z1, z2⟩ := good
          have hh : hit none (some x) = true := rfl
          simp only [hh, ↓reduceIte]
          exact ⟨X', cLo (start _ (by rw [if_neg nx, aw9, Option.bind_some, if_pos (show awI none = -1 from rfl)]; exact z1)), z2⟩
        | some i =>
          have hi := htg i rfl
          by_cases e : x = i
          · obtain ⟨X', z1, z2⟩ := good
            have hh : hit (some i) (some x) = true := decide_eq_true e
            simp only [hh, ↓reduceIte]
            exact ⟨X', cLo (start _ (by rw [if_neg nx, aw9, Option.bind_some, if_neg (show ¬ awI (some i) = -1 from nI_nm1 (by omega)), Option.bind_some, if_pos (show awI (some i) = oI (some x) by rw [e]; rfl)]; exact z1)), z2⟩
          · obtain ⟨X', z1, z2⟩ := bad
            have hh : hit (some i) (some x) = false := decide_eq_false e
            simp only [hh, Bool.false_eq_true, ↓reduceIte]
            exact ⟨X', cLo (start _ (by rw [if_neg nx, aw9, Option.bind_some, if_neg (show ¬ awI (some i) = -1 from nI_nm1 (by omega)), Option.bind_some, if_neg (show ¬ awI (some i) = oI (some x) from fun z => e ((nI_inj (by omega) (by omega)).mp z).symm)]; exact z1)), z2⟩
    obtain ⟨D, rfl⟩ : ∃ e, D = e + 1 := ⟨D - 1, by omega⟩
    obtain ⟨X1, a1, a2, a3, a4, a5⟩ := wBx true cw D X sn hcw (by omega) hX hW hP hQ hs
    have hP1 : PW X1 s := by obtain ⟨g, a, b⟩ := hP; exact ⟨g, by rw [a5 25 (by omega)]; exact a, b⟩
    have hQ1 : QX X1 (26 + 4 * dp) A := by
      obtain ⟨o, w, g, e0, e1, e2, e3, e4⟩ := hQ
      exact ⟨o, w, g, by rw [a5 _ (by omega)]; exact e0, by rw [a5 _ (by omega)]; exact e1, by rw [a5 _ (by omega)]; exact e2, by rw [a5 _ (by omega)]; exact e3, e4⟩
    obtain ⟨X2, b1, b2, b3, b4, b5⟩ := wBx false yw D X1 _ hyw (by omega) a2 a3 hP1 hQ1 a4
    rw [bI_t] at a1
    rw [bI_f] at b1
    refine ⟨X2, ?_, b2, b3, b4, fun k hk => by rw [b5 k hk, a5 k hk]⟩
    refine cLo ?_
    rw [rX4_waysFrom, xX4_waysFrom_0, gIx (by decide) (by decide) hX rfl, Option.bind_some, if_neg (nI_ge (by omega) (by omega)), gRx (by decide) (by decide) hX rfl, Option.bind_some, gIx (by decide) (by decide) hX rfl, Option.bind_some, if_pos (isOx (by decide) (by decide) hX), a1, Option.bind_some, gIx (by decide) (by decide) a2 rfl, Option.bind_some, if_pos (isOx (by decide) (by decide) a2), b1, Option.bind_some, lN_add]
    rfl
end WK
