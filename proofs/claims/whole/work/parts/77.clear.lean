/-! which nights were clear -/
def fitm (kd pt : Nat → Nat) (f : Nat → Int32) : Nat → Nat → Nat → LSt → Bool
  | 0, _, _, _ => true
  | m + 1, k, v, A => decide (oI (passA kd pt A (bt v)).1 = f k) && fitm kd pt f m (k + 1) (v / 2) (passA kd pt A (bt v)).2
theorem fitm_s (kd pt : Nat → Nat) (f : Nat → Int32) (m k v : Nat) (A : LSt) : fitm kd pt f (m + 1) k v A = (decide (oI (passA kd pt A (bt v)).1 = f k) && fitm kd pt f m (k + 1) (v / 2) (passA kd pt A (bt v)).2) := rfl
def Sc (kd pt : Nat → Nat) (f : Nat → Int32) (m k : Nat) (A : LSt) : Nat := Sn (fun v => if fitm kd pt f m k v A = true then 1 else 0) (2 ^ m)
abbrev Sa (g : Nat → Int32) (n : Nat) : Int32 := Sm (fun a b => a &&& b) (-1) g n
def Sf (kd pt : Nat → Nat) (f : Nat → Int32) (m k : Nat) (A : LSt) (b : Nat) : Int32 := Sa (fun v => if fitm kd pt f m k v A = true then nI (b + v * 2 ^ k) else -1) (2 ^ m)
theorem and_as (a b c : Int32) : (a &&& b) &&& c = a &&& (b &&& c) := Int32.and_assoc a b c
theorem and_cm (a b : Int32) : a &&& b = b &&& a := Int32.and_comm a b
theorem and_1 (a : Int32) : a &&& -1 = a := Int32.and_neg_one
theorem one_and (a : Int32) : -1 &&& a = a := by rw [and_cm]; exact and_1 a
theorem Sa_none {g : Nat → Int32} : ∀ n, (∀ v, v < n → g v = -1) → Sa g n = -1
  | 0, _ => rfl
  | n + 1, H => by
    show Sa g n &&& g n = -1
    rw [Sa_none n (fun v hv => H v (by omega)), H n (by omega)]
    decide
def scB (kd pt : Nat → Nat) (f : Nat → Int32) (m k : Nat) (p : Option Nat × LSt) : Nat := if oI p.1 = f k then Sc kd pt f m (k + 1) p.2 else 0
def sfB (kd pt : Nat → Nat) (f : Nat → Int32) (m k : Nat) (p : Option Nat × LSt) (b : Nat) : Int32 := if oI p.1 = f k then Sf kd pt f m (k + 1) p.2 b else -1
theorem Sc_s (kd pt : Nat → Nat) (f : Nat → Int32) (m k : Nat) (A : LSt) : Sc kd pt f (m + 1) k A = scB kd pt f m k (passA kd pt A false) + scB kd pt f m k (passA kd pt A true) := by
  have hb : ∀ p : Option Nat × LSt, Sn (fun v => if (decide (oI p.1 = f k) && fitm kd pt f m (k + 1) v p.2) = true then 1 else 0) (2 ^ m) = scB kd pt f m k p := by
    intro p
    unfold scB Sc
    by_cases e : oI p.1 = f k
    · rw [if_pos e, decide_eq_true e]
      exact Sm_congr _ (fun v _ => by rw [Bool.true_and])
    · rw [if_neg e, decide_eq_false e]
      exact Sn_zero _ (fun v _ => by rw [Bool.false_and, if_neg (by decide)])
  unfold Sc
  rw [Nat.pow_succ, Nat.mul_comm (2 ^ m) 2]
  show Sm _ _ _ (2 * 2 ^ m) = _
  rw [Sm_double (fun a b c => Nat.add_assoc a b c), ← hb, ← hb, ← Sn_add]
  refine Sm_congr _ (fun v _ => ?_)
  rw [fitm_s, fitm_s, bt_0, bt_1, show 2 * v / 2 = v by omega, show (2 * v + 1) / 2 = v by omega]
theorem Sf_s (kd pt : Nat → Nat) (f : Nat → Int32) (m k : Nat) (A : LSt) (b : Nat) : Sf kd pt f (m + 1) k A b = sfB kd pt f m k (passA kd pt A false) b &&& sfB kd pt f m k (passA kd pt A true) (b + 2 ^ k) := by
  have hb : ∀ (p : Option Nat × LSt) (b : Nat), Sa (fun v => if (decide (oI p.1 = f k) && fitm kd pt f m (k + 1) v p.2) = true then nI (b + v * 2 ^ (k + 1)) else -1) (2 ^ m) = sfB kd pt f m k p b := by
    intro p b
    unfold sfB Sf
    by_cases e : oI p.1 = f k
    · rw [if_pos e, decide_eq_true e]
      exact Sm_congr _ (fun v _ => by rw [Bool.true_and])
    · rw [if_neg e, decide_eq_false e]
      exact Sa_none _ (fun v _ => by rw [Bool.false_and, if_neg (by decide)])
  unfold Sf
  rw [Nat.pow_succ, Nat.mul_comm (2 ^ m) 2]
  show Sm _ _ _ (2 * 2 ^ m) = _
  rw [Sm_double and_as, ← hb, ← hb]
  show _ = Sm _ _ _ _ &&& Sm _ _ _ _
  rw [← Sm_op and_as and_cm (by decide)]
  refine Sm_congr _ (fun v _ => ?_)
  rw [fitm_s, fitm_s, bt_0, bt_1, show 2 * v / 2 = v by omega, show (2 * v + 1) / 2 = v by omega, show b + 2 * v * 2 ^ k = b + v * 2 ^ (k + 1) by rw [Nat.pow_succ, Nat.mul_comm 2 v, Nat.mul_assoc, Nat.mul_comm 2 (2 ^ k)], show b + (2 * v + 1) * 2 ^ k = b + 2 ^ k + v * 2 ^ (k + 1) by rw [Nat.pow_succ, Nat.add_mul, Nat.one_mul, Nat.mul_comm 2 v, Nat.mul_assoc, Nat.mul_comm 2 (2 ^ k)]; omega]
theorem or_bit : ∀ k, k < 10 → ∀ b, b < 2 ^ k → nI b ||| (1 <<< (nI k &&& 31)) = nI (b + 2 ^ k) := by decide +kernel
theorem or_zb : ∀ k, k < 10 → (0 : Int32) <<< (nI k &&& 31) = 0 := by decide +kernel
section CF
variable {I : Nat → Int32} {J : Nat → Int64} {F : Nat → Nat → Int32} {G : Nat → Int64} {X : Nat → va_E} {np : Nat} {kd pt : Nat → Nat}
theorem gLx {k ci j : Nat} {fs : List Value} {x : Int64} (h1 : 23 ≤ k) (h2 : k < 140) (h0 : X k = .inr (ci, fs)) (h : fs[j]? = some (.long x)) : gL (hp I J F G X) k ci j = some x := gL_at ((hp_x h1 h2).trans (congrArg some h0)) h
theorem fit_x {r n : Nat} {len : Nat} {aw cw yw sn : Int32} (hlen : len ≤ 10) (hr : r < 6) (hn : np ≤ 7) (h4 : I 4 = nI np) (hk : kOK (F 5) kd np) (hp' : ∀ k, k < np → F 6 k = nI (pt k) ∧ pt k < 1000) : ∀ (m dp D : Nat) (X : Nat → va_E) (A : LSt) (mm b cnt : Nat) (cb : Int32), dp + m = len → m + 12 ≤ D → b < 2 ^ dp → X 23 = wkO (.ref 4) (.ref (142 + 2 * r)) (nI len) aw cw yw cb sn (lN cnt) → WT X → QX X (26 + 4 * dp) A → lB np mm A → mm + m < 900 →
    ∃ X', cV (rn D) 39 [.ref 23, .int (nI dp), .int (nI b)] (hp I J F G X) = some (hp I J F G X') ∧ X' 23 = wkO (.ref 4) (.ref (142 + 2 * r)) (nI len) aw cw yw (cb &&& Sf kd pt (F (143 + 2 * r)) m dp A b) sn (lN (cnt + Sc kd pt (F (143 + 2 * r)) m dp A)) ∧ WT X' ∧ ∀ k, (k < 23 ∨ (23 < k ∧ k < 26 + 4 * (dp + 1)) ∨ 70 ≤ k) → X' k = X k := by
  intro m
  induction m with
  | zero =>
    intro dp D X A mm b cnt cb h1 h2 hb hX hW hQ hA hm
    have : dp = len := by omega
    subst this
    obtain ⟨D, rfl⟩ : ∃ e, D = e + 1 := ⟨D - 1, by omega⟩
    obtain ⟨X1, a1, a2, a3⟩ := pFy (I := I) (J := J) (F := F) (G := G) (k := 23) (j := 10) (v := .long (lN (cnt + 1))) (by decide) (by decide) hX (Nat.le_of_ble_eq_true rfl)
    obtain ⟨X2, b1, b2, b3⟩ := pFy (I := I) (J := J) (F := F) (G := G) (X := X1) (k := 23) (j := 8) (v := .int (cb &&& nI b)) (by decide) (by decide) a2 (Nat.le_of_ble_eq_true rfl)
    refine ⟨X2, ?_, ?_, WT_ne hW (fun i i1 i2 => by rw [b3 i i1, a3 i i1]), fun k hk => by rw [b3 k (by omega), a3 k (by omega)]⟩
    · refine cVo ?_
      rw [rX4_fitFrom, xX4_fitFrom_0, gRx (by decide) (by decide) hX rfl, Option.bind_some, gRx (by decide) (by decide) hX rfl, Option.bind_some, gIx (by decide) (by decide) hX rfl, Option.bind_some, if_neg (nI_nlt (Nat.le_refl _) (by omega)), gLx (by decide) (by decide) hX rfl, Option.bind_some, lN_1, a1, Option.bind_some, gIx (by decide) (by decide) a2 rfl, Option.bind_some, b1, Option.bind_some]
    · rw [b2]
      have e1 : Sf kd pt (F (143 + 2 * r)) 0 dp A b = nI b := by
        show (-1 : Int32) &&& nI (b + 0 * 2 ^ dp) = nI b
        rw [one_and, Nat.zero_mul, Nat.add_zero]
      have e2 : Sc kd pt (F (143 + 2 * r)) 0 dp A = 1 := rfl
      rw [e1, e2]
      rfl
  | succ m ih =>
    intro dp D X A mm b cnt cb h1 h2 hb hX hW hQ hA hm
    obtain ⟨D, rfl⟩ : ∃ e, D = (e + 8) + 1 := ⟨D - 9, by omega⟩
    -- one branch
    have br : ∀ (c : Bool) (X : Nat → va_E) (cnt : Nat) (cb : Int32) (v4 : Value), X 23 = wkO (.ref 4) (.ref (142 + 2 * r)) (nI len) aw cw yw cb sn (lN cnt) → WT X → QX X (26 + 4 * dp) A → ∃ X' w4, ex cdX4_fitFrom (rn (D + 8)) 46 [.ref 23, .int (nI dp), .int (nI b), .int (bI c), v4] [] (hp I J F G X) = ex cdX4_fitFrom (rn (D + 8)) 46 [.ref 23, .int (nI dp), .int (nI b), .int (bI c + 1), w4] [] (hp I J F G X') ∧ X' 23 = wkO (.ref 4) (.ref (142 + 2 * r)) (nI len) aw cw yw (cb &&& sfB kd pt (F (143 + 2 * r)) m dp (passA kd pt A c) (if c = true then b + 2 ^ dp else b)) sn (lN (cnt + scB kd pt (F (143 + 2 * r)) m dp (passA kd pt A c))) ∧ WT X' ∧ ∀ k, (k < 23 ∨ (23 < k ∧ k < 26 + 4 * (dp + 1)) ∨ 70 ≤ k) → X' k = X k := by
      intro c X cnt cb v4 hX hW hQ
      have hQn := hW.2 (dp + 1) (by omega)
      obtain ⟨X1, s1, s2, s3⟩ := setXX_x (d := D + 6) (I := I) (J := J) (F := F) (G := G) (X := X) (q := 26 + 4 * (dp + 1)) (p := 26 + 4 * dp) (by omega) (by omega) (by omega) (by omega) (by unfold apart4; omega) hn hA hQ hQn
      obtain ⟨X2, t1, t2, t3⟩ := passX_x (d := D) (I := I) (J := J) (F := F) (G := G) (X := X1) (q := 26 + 4 * (dp + 1)) (by omega) (by omega) s2 hn h4 hk hp' hA (by omega) c
      have hA2 := passA_lB kd pt c hA
      generalize hpE : passA kd pt A c = p at t1 t2 hA2
      have hX1 : X1 23 = wkO (.ref 4) (.ref (142 + 2 * r)) (nI len) aw cw yw cb sn (lN cnt) := by rw [s3 23 (by omega)]; exact hX
      have hX2 : X2 23 = wkO (.ref 4) (.ref (142 + 2 * r)) (nI len) aw cw yw cb sn (lN cnt) := by rw [t3 23 (by omega)]; exact hX1
      have hW2 : WT X2 := WT_q (k := dp + 1) (by omega) (WT_q (k := dp + 1) (by omega) hW s3 (QX_sh s2)) t3 (QX_sh t2)
      have fr2 : ∀ k, (k < 23 ∨ (23 < k ∧ k < 26 + 4 * (dp + 1)) ∨ 70 ≤ k) → X2 k = X k := fun k hk => by rw [t3 k (by omega), s3 k (by omega)]
      have hp2 : dp < 10 := by omega
      have hpw : 2 ^ dp + 2 ^ dp = 2 ^ (dp + 1) := by rw [Nat.pow_succ]; omega
      have hbit : nI b ||| (bI c <<< (nI dp &&& 31)) = nI (if c = true then b + 2 ^ dp else b) := by
        cases c with
        | false => rw [if_neg (by decide), bI_f, or_zb dp hp2, or0]
        | true => rw [if_pos rfl, bI_t, or_bit dp hp2 b hb]
      have key : ∃ X' w4, ex cdX4_fitFrom (rn (D + 8)) 88 [.ref 23, .int (nI dp), .int (nI b), .int (bI c), .ref (26 + 4 * (dp + 1))] [.int (bI c), .ref 4, .ref (26 + 4 * (dp + 1))] (hp I J F G X1) = ex cdX4_fitFrom (rn (D + 8)) 46 [.ref 23, .int (nI dp), .int (nI b), .int (bI c + 1), w4] [] (hp I J F G X') ∧ X' 23 = wkO (.ref 4) (.ref (142 + 2 * r)) (nI len) aw cw yw (cb &&& sfB kd pt (F (143 + 2 * r)) m dp p (if c = true then b + 2 ^ dp else b)) sn (lN (cnt + scB kd pt (F (143 + 2 * r)) m dp p)) ∧ WT X' ∧ ∀ k, (k < 23 ∨ (23 < k ∧ k < 26 + 4 * (dp + 1)) ∨ 70 ≤ k) → X' k = X k := by
        rw [xX4_fitFrom_88, if_pos (QX_is (by omega) (by omega) s2), t1, Option.bind_some, gRx (by decide) (by decide) hX2 rfl, Option.bind_some, x_rowF hr, Option.bind_some, x_rowg hr (by omega), Option.bind_some]
        unfold sfB scB
        dsimp only
        by_cases e : oI p.1 = F (143 + 2 * r) dp
        · rw [if_pos e, if_pos e, if_pos e, if_pos (isOx (by decide) (by decide) hX2), nI_1, hbit]
          obtain ⟨X3, a1, a2, a3, a4⟩ := ih (dp + 1) (D + 8) X2 p.2 (mm + 1) (if c = true then b + 2 ^ dp else b) cnt cb (by omega) (by omega) (by rw [← hpw]; split <;> omega) hX2 hW2 t2 hA2 (by omega)
          exact ⟨X3, _, by rw [a1, Option.bind_some], a2, a3, fun k hk => by rw [a4 k (by omega), fr2 k hk]⟩
        · rw [if_neg e, if_neg e, if_neg e]
          exact ⟨X2, _, rfl, by rw [and_1, Nat.add_zero]; exact hX2, hW2, fr2⟩
      have c1 : ¬ (1 : Int32) < bI c := by cases c <;> decide
      rw [xX4_fitFrom_46, if_neg c1, gRx (by decide) (by decide) hX rfl, Option.bind_some, nI_1, stp hW (by omega), Option.bind_some, Option.bind_some, stp hW (by omega), Option.bind_some, if_pos (Qsh_is (by omega) (by omega) hQn), s1, Option.bind_some, gRx (by decide) (by decide) hX1 rfl, Option.bind_some]
      cases c with
      | false => rw [if_neg (by decide)]; exact key
      | true => rw [if_pos (by decide)]; exact key
    obtain ⟨X1, w1, a1, a2, a3, a4⟩ := br false X cnt cb .null hX hW hQ
    have hQ1 : QX X1 (26 + 4 * dp) A := by
      obtain ⟨o, w, g, e0, e1, e2, e3, e4⟩ := hQ
      exact ⟨o, w, g, by rw [a4 _ (by omega)]; exact e0, by rw [a4 _ (by omega)]; exact e1, by rw [a4 _ (by omega)]; exact e2, by rw [a4 _ (by omega)]; exact e3, e4⟩
    obtain ⟨X2, w2, b1, b2, b3, b4⟩ := br true X1 _ _ w1 a2 a3 hQ1
    refine ⟨X2, ?_, ?_, b3, fun k hk => by rw [b4 k hk, a4 k hk]⟩
    · refine cVo ?_
      have a1' : ex cdX4_fitFrom (rn (D + 8)) 46 [.ref 23, .int (nI dp), .int (nI b), .int 0, .null] [] (hp I J F G X) = _ := a1
      have b1' : ex cdX4_fitFrom (rn (D + 8)) 46 [.ref 23, .int (nI dp), .int (nI b), .int (bI false + 1), w1] [] (hp I J F G X1) = _ := b1
      rw [rX4_fitFrom, xX4_fitFrom_0, gRx (by decide) (by decide) hX rfl, Option.bind_some, gRx (by decide) (by decide) hX rfl, Option.bind_some, gIx (by decide) (by decide) hX rfl, Option.bind_some, if_pos (nI_lt (by omega) (by omega)), a1', b1', xX4_fitFrom_46, if_pos (by decide)]
    · rw [b2, Sf_s, Sc_s, if_pos rfl, if_neg (by decide), and_as, Nat.add_assoc]
end CF
