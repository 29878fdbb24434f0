/-! clear: both -/
theorem Qsh_eq {X X' : Nat → va_E} {q : Nat} (h : Qsh X q) (fr : ∀ k, q ≤ k → k ≤ q + 3 → X' k = X k) : Qsh X' q := by
  obtain ⟨o, w, g, s, n, u, e0, e1, e2, e3⟩ := h
  exact ⟨o, w, g, s, n, u, by rw [fr _ (by omega) (by omega)]; exact e0, by rw [fr _ (by omega) (by omega)]; exact e1, by rw [fr _ (by omega) (by omega)]; exact e2, by rw [fr _ (by omega) (by omega)]; exact e3⟩
theorem ShX_walk {X X' : Nat → va_E} {vc vg : Value} {a b c d e f : Int32} {g : Int64} (hS : ShX X) (h23 : X' 23 = wkO vc vg a b c d e f g) (hW : WT X') (h25 : ∃ g, X' 25 = arL 11 g) (fr : ∀ k, 70 ≤ k → X' k = X k) : ShX X' := by
  obtain ⟨-, ⟨t1, t2, t3, t4, t5⟩, ⟨u1, u2, u3⟩, ⟨v1, v2, v3⟩⟩ := hS
  refine ⟨⟨⟨_, _, _, _, _, _, _, _, _, h23⟩, hW.1, h25, hW.2⟩, ⟨by rw [fr 70 (by omega)]; exact t1, by rw [fr 71 (by omega)]; exact t2, Qsh_eq t3 (fun k k1 k2 => fr k (by omega)), by rw [fr 76 (by omega)]; exact t4, fun k hk => Qsh_eq (t5 k hk) (fun j j1 j2 => fr j (by omega))⟩, ⟨by rw [fr 93 (by omega)]; exact u1, by rw [fr 94 (by omega)]; exact u2, fun k hk => Qsh_eq (u3 k hk) (fun j j1 j2 => fr j (by omega))⟩, ⟨by rw [fr 131 (by omega)]; exact v1, by rw [fr 132 (by omega)]; exact v2, fun k hk => by rw [fr _ (by omega)]; exact v3 k hk⟩⟩
theorem Sa_abs {g : Nat → Int32} : ∀ (n v : Nat), v < n → g v &&& Sa g n = Sa g n
  | 0, v, h => absurd h (by omega)
  | n + 1, v, h => by
    show g v &&& (Sa g n &&& g n) = Sa g n &&& g n
    by_cases e : v = n
    · subst e
      rw [and_cm (Sa g v), ← and_as, show g v &&& g v = g v from Int32.and_self]
    · rw [← and_as, Sa_abs n v (by omega)]
theorem mask_and {n v : Nat} (hn : n ≤ 10) (hv : v < 2 ^ n) : nI (2 ^ n - 1) &&& nI v = nI v := by
  have h10 := le_p10 hn
  rw [and_cm, pk_andN (n := v) (by omega) n (pk_tn (by omega)), Nat.mod_eq_of_lt hv]
theorem Sn_ex {g : Nat → Nat} {n : Nat} (h : Sn g n ≠ 0) : ∃ v, v < n ∧ g v ≠ 0 := by
  apply Classical.byContradiction
  intro hh
  exact h (Sn_zero n (fun v hv => Classical.byContradiction (fun z => hh ⟨v, hv, z⟩)))
section CR
variable {I : Nat → Int32} {J : Nat → Int64} {F : Nat → Nat → Int32} {G : Nat → Int64} {X : Nat → va_E} {np : Nat} {kd pt : Nat → Nat}
theorem cl_in {d n r v : Nat} {v2 v6 : Int32} {v4 : Int64} (hr : r < 6) (hn10 : n ≤ 10) (hv : v < 2 ^ 31) (hn : np ≤ 7) (hk : kOK (F 170) kd np) (hp' : ∀ k, k < np → F 171 k = nI (pt k) ∧ pt k < 1000) {f : Nat → Int32} (hf : ∀ k, k < 40 → F 174 (40 * r + k) = f k) : ∀ (m k mm : Nat) (row st : Nat → Int32) (A : LSt), n - k = m → k ≤ n → LineN row 3940 np A → lB np mm A → mm + m < 900 →
    ∃ row' st' w9, ex cdX10_clear (rn (d + 8)) 57 [.ref 168, .int (nI r), .int v2, .int (nI n), .long v4, .null, .int v6, .int (nI v), .int 1, .int (nI k)] [] (hp I J (tF F row st) G X) = ex cdX10_clear (rn (d + 8)) 110 [.ref 168, .int (nI r), .int v2, .int (nI n), .long v4, .null, .int v6, .int (nI v), .int (bI (fitm kd pt f m k (v / 2 ^ k) A)), .int w9] [] (hp I J (tF F row' st') G X) ∧ ∀ k, k < 3940 → row' k = row k := by
  intro m
  induction m with
  | zero =>
    intro k mm row st A h1 h2 hL hA hm
    have : k = n := by omega
    subst this
    refine ⟨row, st, nI k, ?_, fun _ _ => rfl⟩
    rw [xX10_clear_57, if_pos (nI_le (Nat.le_refl _) (by omega))]
    rfl
  | succ m ih =>
    intro k mm row st A h1 h2 hL hA hm
    obtain ⟨row1, st1, g1, g2, g3⟩ := passT_y (d := d) (I := I) (J := J) (F := F) (G := G) (X := X) (st := st) hL hn hk hp' hA (by omega) (bt (v / 2 ^ k))
    rw [xX10_clear_57, if_neg (nI_ge (by omega) (by omega)), if_neg one_ne, if_pos y_is, bit_at hv (by omega), g1, Option.bind_some, y_f6, Option.bind_some, c40, nI_add, y_g174 (by omega), Option.bind_some, tF_ne (by decide) (by decide), hf k (by omega), fitm_s, div_s, nI_1]
    dsimp only
    by_cases z : oI (passA kd pt A (bt (v / 2 ^ k))).1 = f k
    · rw [if_pos z, decide_eq_true z, Bool.true_and]
      obtain ⟨row', st', w9, u1, u2⟩ := ih (k + 1) (mm + 1) row1 st1 _ (by omega) (by omega) g2 (passA_lB kd pt _ hA) (by omega)
      exact ⟨row', st', w9, u1, fun j hj => by rw [u2 j hj, g3 j hj]⟩
    · rw [if_neg z, decide_eq_false z, Bool.false_and]
      refine ⟨row1, st1, nI (k + 1), ?_, g3⟩
      rw [xX10_clear_57]
      by_cases e : n ≤ k + 1
      · rw [if_pos (nI_le e (by omega))]; rfl
      · rw [if_neg (nI_ge (by omega) (by omega)), if_pos rfl]; rfl
theorem l0 : (0 : Int64) = lN 0 := rfl
theorem cl_loop {d n r mm : Nat} {v2 : Int32} {A : LSt} (hr : r < 6) (hn10 : n ≤ 10) (hn : np ≤ 7) (hk : kOK (F 170) kd np) (hp' : ∀ k, k < np → F 171 k = nI (pt k) ∧ pt k < 1000) {f : Nat → Int32} (hf : ∀ k, k < 40 → F 174 (40 * r + k) = f k) (hA : lB np mm A) (hm : mm + n < 900) : ∀ (m v : Nat) (row st : Nat → Int32) (v8 v9 : Value), 2 ^ n - v = m → v ≤ 2 ^ n → LineN row 0 np A → ∃ row' st', ex cdX10_clear (rn (d + 8)) 39 [.ref 168, .int (nI r), .int v2, .int (nI n), .long (lN (Sn (fun v => if fitm kd pt f n 0 v A = true then 1 else 0) v)), .null, .int (if Sn (fun v => if fitm kd pt f n 0 v A = true then 1 else 0) v = 0 then 0 else Sa (fun v => if fitm kd pt f n 0 v A = true then nI (0 + v * 2 ^ 0) else -1) v), .int (nI v), v8, v9] [] (hp I J (tF F row st) G X) = some (some (.int 1), hp (upd I 169 (if Sc kd pt f n 0 A = 0 then 0 else Sf kd pt f n 0 A 0)) (vp_updL (vp_updL J 168 (lN (Sc kd pt f n 0 A))) 169 1) (tF F row' st') G X) ∧ ∀ k, k < 3940 → row' k = row k := by
  have h10 := le_p10 hn10
  have hS1 : ∀ v, Sn (fun v => if fitm kd pt f n 0 v A = true then 1 else 0) v ≤ v := by
    intro v
    induction v with
    | zero => exact Nat.le_refl _
    | succ v ih =>
      show Sn _ v + (if fitm kd pt f n 0 v A = true then 1 else 0) ≤ v + 1
      split <;> omega
  intro m
  induction m with
  | zero =>
    intro v row st v8 v9 h1 h2 hL
    have : v = 2 ^ n := by omega
    subst this
    refine ⟨row, st, ?_, fun _ _ => rfl⟩
    rw [xX10_clear_39, pow1 n (by omega), if_pos (nI_le (Nat.le_refl _) (by omega)), y_pak, Option.bind_some, y_pup, Option.bind_some, y_plo, Option.bind_some]
    rfl
  | succ m ih =>
    intro v row st v8 v9 h1 h2 hL
    obtain ⟨row1, a1, a2, a3⟩ := layT_y (d := d + 6) (I := I) (J := J) (F := F) (G := G) (X := X) (st := st) hn hA hL
    obtain ⟨row2, st2, w9, b1, b2⟩ := cl_in (d := d) (I := I) (J := J) (F := F) (G := G) (X := X) (v := v) (v2 := v2) (v6 := if Sn (fun v => if fitm kd pt f n 0 v A = true then 1 else 0) v = 0 then 0 else Sa (fun v => if fitm kd pt f n 0 v A = true then nI (0 + v * 2 ^ 0) else -1) v) (v4 := lN (Sn (fun v => if fitm kd pt f n 0 v A = true then 1 else 0) v)) hr hn10 (by omega) hn hk hp' hf n 0 mm row1 st A rfl (Nat.zero_le _) a2 hA hm
    rw [nI_0, Nat.pow_zero, Nat.div_one] at b1
    have hsv := hS1 v
    have hs : Sn (fun v => if fitm kd pt f n 0 v A = true then 1 else 0) (v + 1) = Sn (fun v => if fitm kd pt f n 0 v A = true then 1 else 0) v + (if fitm kd pt f n 0 v A = true then 1 else 0) := rfl
    have ha : Sa (fun v => if fitm kd pt f n 0 v A = true then nI (0 + v * 2 ^ 0) else -1) (v + 1) = Sa (fun v => if fitm kd pt f n 0 v A = true then nI (0 + v * 2 ^ 0) else -1) v &&& (if fitm kd pt f n 0 v A = true then nI (0 + v * 2 ^ 0) else -1) := rfl
    obtain ⟨row', st', u1, u2⟩ := ih (v + 1) row2 st2 (.int (bI (fitm kd pt f n 0 v A))) (.int w9) (by omega) (by omega) (keep0 hn hA hL (fun j hj => by rw [b2 j hj, a3 j hj]))
    refine ⟨row', st', ?_, fun j hj => by rw [u2 j hj, b2 j hj, a3 j hj]⟩
    rw [hs, ha] at u1
    rw [xX10_clear_39, pow1 n (by omega), if_neg (nI_ge (by omega) (by omega)), if_pos y_is, a1, Option.bind_some, b1, xX10_clear_110]
    generalize hC : Sn (fun v => if fitm kd pt f n 0 v A = true then 1 else 0) v = C at u1 hsv
    have hnz : Sa (fun v => if fitm kd pt f n 0 v A = true then nI (0 + v * 2 ^ 0) else -1) v = -1 ∨ C ≠ 0 := by
      by_cases e : C = 0
      · left
        refine Sa_none _ (fun u hu => ?_)
        have : ¬ fitm kd pt f n 0 u A = true := by
          intro hfu
          have : Sn (fun v => if fitm kd pt f n 0 v A = true then 1 else 0) v ≠ 0 := by
            have : ∀ w, u < w → 1 ≤ Sn (fun v => if fitm kd pt f n 0 v A = true then 1 else 0) w := by
              intro w
              induction w with
              | zero => intro h; omega
              | succ w ihw =>
                intro h
                show 1 ≤ Sn _ w + (if fitm kd pt f n 0 w A = true then 1 else 0)
                by_cases e : u = w
                · subst e; rw [if_pos hfu]; omega
                · have := ihw (by omega); omega
            have := this v hu
            omega
          exact this (hC.trans e)
        rw [if_neg this]
      · exact Or.inr e
    generalize Sa (fun v => if fitm kd pt f n 0 v A = true then nI (0 + v * 2 ^ 0) else -1) v = S at u1 hnz
    cases hfit : fitm kd pt f n 0 v A with
    | false =>
      simp only [hfit, Bool.false_eq_true, ↓reduceIte, Nat.add_zero, and_1] at u1
      rw [if_pos (by rfl), xX10_clear_137, if_pos (by rfl), l0, lN_add, nI_1]
      exact u1
    | true =>
      rw [hfit, if_pos rfl, if_pos rfl, if_neg (show ¬ C + 1 = 0 by omega), Nat.zero_add, Nat.pow_zero, Nat.mul_one] at u1
      rw [if_neg (show ¬ bI true = 0 by decide)]
      by_cases e : C = 0
      · subst e
        rcases hnz with hS | hS
        · rw [hS, one_and] at u1
          rw [if_pos (show lg_cmp (lN 0) 0 = 0 by decide), xX10_clear_137, if_neg (show ¬ bI true = 0 by decide), lN_1, nI_1]
          exact u1
        · exact absurd rfl hS
      · rw [if_neg (fun z => by have := (lN_eq (b := 0) (by omega) (by decide)).mp ((lg_cmp_eq _ _).mp z); omega), if_neg e, xX10_clear_137, if_neg (show ¬ bI true = 0 by decide), lN_1, nI_1]
        exact u1
theorem cfit_x {n r mm D : Nat} {A : LSt} {vg : Value} {aw cw yw cb sn : Int32} {ft : Int64} (hD : 40 ≤ D) (hr : r < 6) (hn10 : n ≤ 10) (hn : np ≤ 7) (h4 : I 4 = nI np) (hk : kOK (F 5) kd np) (hp' : ∀ k, k < np → F 6 k = nI (pt k) ∧ pt k < 1000) (hX : X 23 = wkO (.ref 4) vg (nI n) aw cw yw cb sn ft) (hW : WT X) (hQ : QX X 26 A) (hA : lB np mm A) (hm : mm + n < 900) : ∃ X', cV (rn D) 37 [.ref 23, .ref (142 + 2 * r)] (hp I J F G X) = some (hp I J F G X') ∧ X' 23 = wkO (.ref 4) (.ref (142 + 2 * r)) (nI n) aw cw yw (nI (2 ^ n - 1) &&& Sf kd pt (F (143 + 2 * r)) n 0 A 0) sn (lN (Sc kd pt (F (143 + 2 * r)) n 0 A)) ∧ WT X' ∧ (∀ k, (k < 23 ∨ (23 < k ∧ k < 30) ∨ 70 ≤ k) → X' k = X k) := by
  obtain ⟨D, rfl⟩ : ∃ e, D = e + 40 := ⟨D - 40, by omega⟩
  obtain ⟨X1, a1, a2, a3⟩ := pFy (I := I) (J := J) (F := F) (G := G) (k := 23) (j := 3) (v := .ref (142 + 2 * r)) (by decide) (by decide) hX (Nat.le_of_ble_eq_true rfl)
  obtain ⟨X2, b1, b2, b3⟩ := pFy (I := I) (J := J) (F := F) (G := G) (X := X1) (k := 23) (j := 10) (v := .long 0) (by decide) (by decide) a2 (Nat.le_of_ble_eq_true rfl)
  obtain ⟨X3, c1, c2, c3⟩ := pFy (I := I) (J := J) (F := F) (G := G) (X := X2) (k := 23) (j := 8) (v := .int (nI (2 ^ n - 1))) (by decide) (by decide) b2 (Nat.le_of_ble_eq_true rfl)
  have fr3 : ∀ i, i ≠ 23 → X3 i = X i := fun i hi => by rw [c3 i hi, b3 i hi, a3 i hi]
  have hX3 : X3 23 = wkO (.ref 4) (.ref (142 + 2 * r)) (nI n) aw cw yw (nI (2 ^ n - 1)) sn (lN 0) := by rw [c2]; rfl
  have hQ3 : QX X3 (26 + 4 * 0) A := QX_fr hQ (q' := 20) (fun k hk => fr3 k (by omega)) (by unfold apart4; omega)
  obtain ⟨X4, d1, d2, d3, d4⟩ := fit_x (n := n) (I := I) (J := J) (F := F) (G := G) hn10 hr hn h4 hk hp' n 0 (D + 39) X3 A mm 0 0 (nI (2 ^ n - 1)) (by omega) (by omega) (by decide) hX3 (WT_ne hW (fun i i1 _ => fr3 i i1)) hQ3 hA hm
  rw [nI_0] at d1
  rw [Nat.zero_add] at d2
  refine ⟨X4, ?_, d2, d3, fun k hk => by rw [d4 k (by omega), fr3 k (by omega)]⟩
  have hp1 : 1 ≤ 2 ^ n := Nat.two_pow_pos n
  refine cVo ?_
  rw [rX4_countFitting, xX4_countFitting_0, a1, Option.bind_some, b1, Option.bind_some, gIx (by decide) (by decide) b2 rfl, Option.bind_some, pow1 n (by omega), show nI (2 ^ n) - 1 = nI (2 ^ n - 1) from pk_sub (a := 2 ^ n) (b := 1) hp1, c1, Option.bind_some, if_pos (isOx (by decide) (by decide) hX3), d1, Option.bind_some]
end CR
theorem g_clear : gdI 109 227 1 := gdI_of (fun as hn I J F G X np kd pt pr ds ks hR hS => by
  obtain ⟨b, rfl⟩ := as1 hn
  show okI _ _ [.int b] I J F G X
  obtain ⟨hn7, h4, h168, hk, hk', hp', hp'', hA, hQ, hL⟩ := rel_ctx (G := G) (X := X) hR
  rcases ix b (n := 6) (by decide) with hb | ⟨r, hr, rfl⟩
  · refine okI_same (v := -1) hR hS ?_ ?_
    · refine cIo ?_; rw [rX9_clear, xX9_clear_0, isRow_xn hb, Option.bind_some, if_pos rfl]
    · refine cIo ?_; rw [rX10_clear, xX10_clear_0, isRow_yn hb, Option.bind_some, if_pos rfl]
  obtain ⟨z1, z2, z3⟩ := hR.2.2.1 r hr
  obtain ⟨o, ho, ho40⟩ := sz_of z2
  have z4 := z1.symm.trans ho
  by_cases hc : nwG np 10 o (F (143 + 2 * r)) = 0
  · obtain ⟨n, rfl, hn10⟩ := nwG_0 hc
    have ho' : I (142 + 2 * r) = nI n := ho
    have z5 : F 173 r = nI n := z4
    generalize hAe : rep np kd pt ds = A at hA hQ hL
    obtain ⟨X1, vg, aw, cw, yw, cb, sn, ft, a1, a2, a3, a4, a5, a6⟩ := wbegin_x (d := 56) (I := I) (J := J) (F := F) (G := G) (X := X) hS.1 hn10 hn7 hA hQ
    obtain ⟨X2, b1, b2, b3, b4⟩ := cfit_x (D := 59) (I := I) (J := J) (F := F) (G := G) (X := X1) (by decide) hr hn10 hn7 h4 hk hp' a2 a3 a5 hA (by omega)
    obtain ⟨C, hCe⟩ : ∃ C, C = Sc kd pt (F (143 + 2 * r)) n 0 A := ⟨_, rfl⟩
    obtain ⟨T, hTe⟩ : ∃ T, T = (if C = 0 then 0 else Sf kd pt (F (143 + 2 * r)) n 0 A 0) := ⟨_, rfl⟩
    have hCle : C ≤ 2 ^ n := by
      rw [hCe]
      unfold Sc
      have : ∀ w, Sn (fun v => if fitm kd pt (F (143 + 2 * r)) n 0 v A = true then 1 else 0) w ≤ w := by
        intro w
        induction w with
        | zero => exact Nat.le_refl _
        | succ w ih =>
          show Sn _ w + (if fitm kd pt (F (143 + 2 * r)) n 0 w A = true then 1 else 0) ≤ w + 1
          split <;> omega
      exact this _
    have h10 := le_p10 hn10
    have hmask : C ≠ 0 → nI (2 ^ n - 1) &&& Sf kd pt (F (143 + 2 * r)) n 0 A 0 = Sf kd pt (F (143 + 2 * r)) n 0 A 0 := by
      intro h0
      rw [hCe] at h0
      obtain ⟨v, hv, hfv⟩ := Sn_ex h0
      have hfit : fitm kd pt (F (143 + 2 * r)) n 0 v A = true := Classical.byContradiction (fun z => hfv (if_neg z))
      unfold Sf
      have habs := Sa_abs (g := fun v => if fitm kd pt (F (143 + 2 * r)) n 0 v A = true then nI (0 + v * 2 ^ 0) else -1) (2 ^ n) v hv
      rw [if_pos hfit, Nat.zero_add, Nat.pow_zero, Nat.mul_one] at habs
      conv => lhs; rw [← habs]
      rw [← and_as, mask_and hn10 hv, habs]
    have hal : cI (rn 59) 38 [.ref 23] (hp I (vp_updL (vp_updL J 1 (lN C)) 2 1) F G X2) = some (T, hp I (vp_updL (vp_updL J 1 (lN C)) 2 1) F G X2) := by
      refine cIo ?_
      rw [← hCe] at b2
      rw [rX4_alwaysClear, xX4_alwaysClear_0, gLx (by decide) (by decide) b2 rfl, Option.bind_some, hTe]
      by_cases e : C = 0
      · rw [e, if_pos (show lg_cmp (lN 0) 0 = 0 by decide), if_pos rfl]
      · rw [if_neg (fun z => by have := (lN_eq (b := 0) (by omega) (by decide)).mp ((lg_cmp_eq _ _).mp z); omega), gIx (by decide) (by decide) b2 rfl, Option.bind_some, if_neg e, hmask e]
    obtain ⟨row', st', c1, c2⟩ := cl_loop (d := 51) (n := n) (r := r) (v2 := 0) (f := F (143 + 2 * r)) (I := upd I 2 T) (J := vp_updL (vp_updL J 1 (lN C)) 2 1) (F := F) (G := G) (X := X2) hr hn10 hn7 hk' hp'' z3 hA (by omega) (2 ^ n) 0 (F 169) (F 179) .null .null rfl (Nat.zero_le _) hL
    rw [nI_0, tF_same] at c1
    rw [← hCe, ← hTe] at c1
    have hS2 : ShX X2 := ShX_walk hS b2 b3 (by obtain ⟨g, hg⟩ := a4; exact ⟨g, by rw [b4 25 (by omega)]; exact hg⟩) (fun k hk => by rw [b4 k (by omega), a6 k (by omega)])
    refine okI_mk (G2 := G) (v := 1) (I1 := upd I 2 T) (J1 := vp_updL (vp_updL J 1 (lN C)) 2 1) (F1 := F) (X1 := X2) (I2 := upd (upd I 2 T) 169 T) (F2 := tF F row' st') ?_ ?_ (rel_scr (rel_tell T (rel_ways (lN C) 1 hR)) (fun _ _ => rfl) (fun k hk => tF_ne (by omega) (by omega)) (fun k hk => by rw [tF_169, c2 k hk])) hS2
    · refine cIo ?_
      rw [rX9_clear, xX9_clear_0, isRow_x hr, Option.bind_some, if_neg one_ne, x_f0, Option.bind_some, x_rowR hr, Option.bind_some, if_pos x_is, show (10 : Int32) = nI 10 from rfl, wG_x (by decide) hr ho ho40 h4, Option.bind_some, hc, if_pos nI_0, x_f8, Option.bind_some, x_f2, Option.bind_some, x_f4, Option.bind_some, x_f0, Option.bind_some, x_rowR hr, Option.bind_some, x_rowN hr, Option.bind_some, ho', if_pos (by obtain ⟨⟨_, _, _, _, _, _, _, _, _, w1⟩, -⟩ := hS.1; exact isOx (by decide) (by decide) w1), a1, Option.bind_some, x_f8, Option.bind_some, x_f0, Option.bind_some, x_rowR hr, Option.bind_some, if_pos (isOx (by decide) (by decide) a2), b1, Option.bind_some, x_f8, Option.bind_some, gLx (by decide) (by decide) b2 rfl, Option.bind_some, if_pos x_is, two_ways, Option.bind_some, x_f8, Option.bind_some, if_pos (isOx (by decide) (by decide) b2), ← hCe, hal, Option.bind_some, x_pak, Option.bind_some]
    · refine cIo ?_
      rw [rX10_clear, xX10_clear_0, isRow_y hr, Option.bind_some, if_neg one_ne, if_pos y_is, show (10 : Int32) = nI 10 from rfl, noG_y0 (g := F (143 + 2 * r)) (np := np) (by decide) hn7 (by rw [upd_ne (by decide)]; exact h168) hr z4 ho40 z3 hc, Option.bind_some, if_pos rfl, y_f5, Option.bind_some, y_g173 hr, Option.bind_some, z5]
      exact c1
  · have hc0 : ¬ nI (nwG np 10 o (F (143 + 2 * r))) = 0 := fun z => hc ((nI_inj (b := 0) (by have := nwG_lt np 10 o (F (143 + 2 * r)); omega) (by decide)).mp z)
    refine okI_find _ (nwG_lt np 10 o (F (143 + 2 * r))) hR hS ?_ ?_
    · refine cIo ?_; rw [rX9_clear, xX9_clear_0, isRow_x hr, Option.bind_some, if_neg one_ne, x_f0, Option.bind_some, x_rowR hr, Option.bind_some, if_pos x_is, show (10 : Int32) = nI 10 from rfl, wG_x (by decide) hr ho ho40 h4, Option.bind_some, if_neg hc0, if_pos x_is, find_x (nwG_lt _ _ _ _), Option.bind_some]
    · refine cIo ?_; rw [rX10_clear, xX10_clear_0, isRow_y hr, Option.bind_some, if_neg one_ne, if_pos y_is, show (10 : Int32) = nI 10 from rfl, noG_y1 (g := F (143 + 2 * r)) (np := np) (by decide) hn7 (by rw [upd_ne (by decide)]; exact h168) hr (by rw [upF_ne (by decide)]; exact z4) ho40 (by rw [upF_ne (by decide)]; exact z3) rfl hc, Option.bind_some, if_neg m3_ne, upF_ne (by decide)])
