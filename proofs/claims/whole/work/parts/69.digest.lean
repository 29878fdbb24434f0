/-! counts and the digest -/
def brf (v : Int32) : Nat → Nat → Int32 → Int32
  | 0, _, u => u
  | m + 1, k, u => brf v m (k + 1) (u + ((v >>> (nI k &&& 31)) &&& 1))
theorem brf_pc : ∀ g, g < 128 → brf (nI g) 10 0 0 = nI (pc g) := by decide +kernel
theorem bits_loop {d : Nat} {v : Int32} {h : mH} : ∀ (m k : Nat) (u : Int32), 10 - k = m → k ≤ 10 → ex cdX10_bits (rn d) 4 [.int v, .int u, .int (nI k)] [] h = some (some (.int (brf v m k u)), h) := by
  intro m
  induction m with
  | zero =>
    intro k u h1 h2
    have : k = 10 := by omega
    subst this
    rw [xX10_bits_4, if_pos (by decide)]
    rfl
  | succ m ih =>
    intro k u h1 h2
    rw [xX10_bits_4, if_neg (show ¬ (10 : Int32) ≤ nI k from nI_ge (b := 10) (by omega) (by decide)), nI_1, ih (k + 1) _ (by omega) (by omega)]
    rfl
theorem bits_y {d g : Nat} {h : mH} (hg : g < 128) : cI (rn (d + 1)) 147 [.int (nI g)] h = some (nI (pc g), h) := by
  refine cIo ?_
  have := bits_loop (d := d) (v := nI g) (h := h) 10 0 0 rfl (by omega)
  rw [nI_0, brf_pc g hg] at this
  rw [rX10_bits, xX10_bits_0, this]
theorem bits_x {d g : Nat} {h : mH} (hg : g < 128) : cI (rn (d + 1)) 1 [.int (nI g)] h = some (nI (pc g), h) := by
  refine cIo ?_
  rw [rJ6_bitCount_0f7a4, xJ6_bitCount_0f7a4_0]
  refine congrArg (fun z => some (some (Value.int z), h)) ?_
  revert hg
  revert g
  decide +kernel
section CX
variable {I : Nat → Int32} {J : Nat → Int64} {F : Nat → Nat → Int32} {G : Nat → Int64} {X : Nat → va_E} {np : Nat} {kd pt pr : Nat → Nat} {ds : List Nat} {ks : Nat → Option (List Nat)}
theorem rowsT_x {d : Nat} (hR : rRows I F) : ∀ (m k c : Nat), 6 - k = m → k ≤ 6 → ex cdX9_rowsThere (rn (d + 1)) 4 [.ref 1, .int (nI c), .int (nI k)] [] (hp I J F G X) = some (some (.int (nI (c + cP (fun r => !decide (I (142 + 2 * r) = -1)) k m))), (hp I J F G X)) := by
  intro m
  induction m with
  | zero =>
    intro k c h1 h2
    have : k = 6 := by omega
    subst this
    rw [xX9_rowsThere_4, if_pos (by decide)]
    rfl
  | succ m ih =>
    intro k c h1 h2
    have hk : k < 6 := by omega
    rw [xX9_rowsThere_4, if_neg (show ¬ (6 : Int32) ≤ nI k from nI_ge (b := 6) hk (by decide)), x_f0, Option.bind_some, x_rowR hk, Option.bind_some, if_pos (x_rowI hk)]
    unfold cP
    rcases (hR k hk).2.1 with e | ⟨n, hn, e⟩
    · rw [miss_x hk e, Option.bind_some, if_neg one_ne, add0, nI_1, ih (k + 1) c (by omega) (by omega)]
      simp [e]
    · rw [miss_xn hk hn e, Option.bind_some, if_pos rfl, nI_1, nI_1, ih (k + 1) (c + 1) (by omega) (by omega)]
      have : ¬ nI n = -1 := nI_nm1 (by omega)
      simp [e, this, Nat.add_assoc]
theorem txtsT_x {d : Nat} (hR : rTxts I F) : ∀ (m k c : Nat), 4 - k = m → k ≤ 4 → ex cdX9_textsThere (rn (d + 1)) 4 [.ref 1, .int (nI c), .int (nI k)] [] (hp I J F G X) = some (some (.int (nI (c + cP (fun r => !decide (I (154 + 2 * r) = -1)) k m))), (hp I J F G X)) := by
  intro m
  induction m with
  | zero =>
    intro k c h1 h2
    have : k = 4 := by omega
    subst this
    rw [xX9_textsThere_4, if_pos (by decide)]
    rfl
  | succ m ih =>
    intro k c h1 h2
    have hk : k < 4 := by omega
    rw [xX9_textsThere_4, if_neg (show ¬ (4 : Int32) ≤ nI k from nI_ge (b := 4) hk (by decide)), x_f1, Option.bind_some, x_txtR hk, Option.bind_some, if_pos (x_txtI hk)]
    unfold cP
    rcases (hR k hk).2.1 with e | ⟨n, hn, e⟩
    · rw [tmiss_x hk e, Option.bind_some, if_neg one_ne, add0, nI_1, ih (k + 1) c (by omega) (by omega)]
      simp [e]
    · rw [tmiss_xn hk hn e, Option.bind_some, if_pos rfl, nI_1, nI_1, ih (k + 1) (c + 1) (by omega) (by omega)]
      have : ¬ nI n = -1 := nI_nm1 (by omega)
      simp [e, this, Nat.add_assoc]
theorem keptT_x {d : Nat} : ∀ (m k c : Nat), 3 - k = m → k ≤ 3 → ex cdX9_keptThere (rn d) 4 [.ref 1, .int (nI c), .int (nI k)] [] (hp I J F G X) = some (some (.int (nI (c + cP (fun r => !decide (I (162 + 2 * r) = -1)) k m))), (hp I J F G X)) := by
  intro m
  induction m with
  | zero =>
    intro k c h1 h2
    have : k = 3 := by omega
    subst this
    rw [xX9_keptThere_4, if_pos (by decide)]
    rfl
  | succ m ih =>
    intro k c h1 h2
    have hk : k < 3 := by omega
    rw [xX9_keptThere_4, if_neg (show ¬ (3 : Int32) ≤ nI k from nI_ge (b := 3) hk (by decide)), x_f7, Option.bind_some, x_kepR hk, Option.bind_some, x_kepN hk, Option.bind_some]
    unfold cP
    by_cases e : I (162 + 2 * k) = -1
    · rw [if_pos e, add0, nI_1, ih (k + 1) c (by omega) (by omega)]
      simp [e]
    · rw [if_neg e, nI_1, nI_1, ih (k + 1) (c + 1) (by omega) (by omega)]
      simp [e, Nat.add_assoc]
theorem howM_x {d w : Nat} (hn : np ≤ 7) (h4 : I 4 = nI np) (hk : kOK (F 5) kd np) (hw : w < 6) : ∀ (m k c : Nat), np - k = m → k ≤ np → ex cdX1_howMany (rn (d + 2)) 4 [.ref 4, .int (nI w), .int (nI c), .int (nI k)] [] (hp I J F G X) = some (some (.int (nI (c + cP (fun i => isk kd i w) k m))), (hp I J F G X)) := by
  intro m
  induction m with
  | zero =>
    intro k c h1 h2
    have : k = np := by omega
    subst this
    rw [xX1_howMany_4, x_cn, Option.bind_some, h4, if_pos (nI_le (Nat.le_refl _) (by omega))]
    rfl
  | succ m ih =>
    intro k c h1 h2
    rw [xX1_howMany_4, x_cn, Option.bind_some, h4, if_neg (nI_ge (by omega) (by omega)), if_pos x_ci, isOf_x hn h4 hk (by omega) hw, Option.bind_some]
    unfold cP
    cases e : isk kd k w with
    | false =>
      rw [if_pos (by rfl), add0, nI_1, ih (k + 1) c (by omega) (by omega)]
      simp
    | true =>
      rw [if_neg (show ¬ bI true = 0 by decide), nI_1, nI_1, ih (k + 1) (c + 1) (by omega) (by omega)]
      simp [Nat.add_assoc]
theorem kindM_y {d w : Nat} (hn : np ≤ 7) (h4 : I 168 = nI np) (hk : kOK (F 170) kd np) (h1w : 1 ≤ w) (hw : w < 6) : ∀ (m k c : Nat), np - k = m → k ≤ np → ex cdX10_kindMany (rn (d + 1)) 4 [.ref 168, .int (nI w), .int (nI c), .int (nI k)] [] (hp I J F G X) = some (some (.int (nI (c + cP (fun i => isk kd i w) k m))), (hp I J F G X)) := by
  intro m
  induction m with
  | zero =>
    intro k c h1 h2
    have : k = np := by omega
    subst this
    rw [xX10_kindMany_4, y_ps, Option.bind_some, h4, if_pos (nI_le (Nat.le_refl _) (by omega))]
    rfl
  | succ m ih =>
    intro k c h1 h2
    rw [xX10_kindMany_4, y_ps, Option.bind_some, h4, if_neg (nI_ge (by omega) (by omega)), if_pos y_is, isOf_y hn hk (by omega) h1w hw, Option.bind_some]
    unfold cP
    cases e : isk kd k w with
    | false =>
      rw [if_pos (by rfl), add0, nI_1, ih (k + 1) c (by omega) (by omega)]
      simp
    | true =>
      rw [if_neg (show ¬ bI true = 0 by decide), nI_1, nI_1, ih (k + 1) (c + 1) (by omega) (by omega)]
      simp [Nat.add_assoc]
theorem wentM_y {d : Nat} (hn : np ≤ 7) (h4 : I 168 = nI np) {f : Nat → Int32} (hf : ∀ j, j < np → F 169 (17 + j) = f j) : ∀ (m k c : Nat), np - k = m → k ≤ np → ex cdX10_wentMany (rn d) 4 [.ref 168, .int (nI c), .int (nI k)] [] (hp I J F G X) = some (some (.int (nI (c + cP (fun i => !decide (f i = -9)) k m))), (hp I J F G X)) := by
  intro m
  induction m with
  | zero =>
    intro k c h1 h2
    have : k = np := by omega
    subst this
    rw [xX10_wentMany_4, y_ps, Option.bind_some, h4, if_pos (nI_le (Nat.le_refl _) (by omega))]
    rfl
  | succ m ih =>
    intro k c h1 h2
    rw [xX10_wentMany_4, y_ps, Option.bind_some, h4, if_neg (nI_ge (by omega) (by omega)), y_f0, Option.bind_some, c17, y_g169 (by omega), Option.bind_some, hf k (by omega)]
    unfold cP
    by_cases e : f k = -9
    · rw [if_pos e, add0, nI_1, ih (k + 1) c (by omega) (by omega)]
      simp [e]
    · rw [if_neg e, nI_1, nI_1, ih (k + 1) (c + 1) (by omega) (by omega)]
      simp [e, Nat.add_assoc]
theorem there_y {d w : Nat} {p : Nat → Bool} (hs : ∀ k c, k < 6 → ex cdX10_thereOf (rn d) 4 [.ref 168, .int (nI w), .int (nI c), .int (nI k)] [] (hp I J F G X) = ex cdX10_thereOf (rn d) 4 [.ref 168, .int (nI w), .int (nI (c + (if p k = true then 1 else 0))), .int (nI (k + 1))] [] (hp I J F G X)) : ∀ (m k c : Nat), 6 - k = m → k ≤ 6 → ex cdX10_thereOf (rn d) 4 [.ref 168, .int (nI w), .int (nI c), .int (nI k)] [] (hp I J F G X) = some (some (.int (nI (c + cP p k m))), (hp I J F G X)) := by
  intro m
  induction m with
  | zero =>
    intro k c h1 h2
    have : k = 6 := by omega
    subst this
    rw [xX10_thereOf_4, if_pos (by decide)]
    rfl
  | succ m ih =>
    intro k c h1 h2
    rw [hs k c (by omega), ih (k + 1) _ (by omega) (by omega), Nat.add_assoc]
    rfl
theorem lt6n {k : Nat} (h : k < 6) : ¬ (6 : Int32) ≤ nI k := nI_ge (b := 6) h (by decide)
theorem there8_y {d : Nat} (hR : rRows I F) (k c : Nat) (hk : k < 6) : ex cdX10_thereOf (rn d) 4 [.ref 168, .int (nI 8), .int (nI c), .int (nI k)] [] (hp I J F G X) = ex cdX10_thereOf (rn d) 4 [.ref 168, .int (nI 8), .int (nI (c + (if (!decide (I (142 + 2 * k) = -1)) = true then 1 else 0))), .int (nI (k + 1))] [] (hp I J F G X) := by
  obtain ⟨z1, z2, z3⟩ := hR k hk
  rw [xX10_thereOf_4, if_neg (lt6n hk), if_pos (by decide), y_f5, Option.bind_some, y_g173 hk, Option.bind_some, ← z1]
  rcases z2 with e | ⟨n, hn, e⟩
  · rw [e, if_neg m1_ge0, add0, nI_1]; simp
  · have : ¬ nI n = -1 := nI_nm1 (by omega)
    rw [e, if_pos (nI_ge0 (by omega)), nI_1, nI_1]; simp [this]
theorem there9_y {d : Nat} (hR : rTxts I F) (k c : Nat) (hk : k < 6) : ex cdX10_thereOf (rn d) 4 [.ref 168, .int (nI 9), .int (nI c), .int (nI k)] [] (hp I J F G X) = ex cdX10_thereOf (rn d) 4 [.ref 168, .int (nI 9), .int (nI (c + (if (decide (k < 4) && !decide (I (154 + 2 * k) = -1)) = true then 1 else 0))), .int (nI (k + 1))] [] (hp I J F G X) := by
  rw [xX10_thereOf_4, if_neg (lt6n hk), if_neg (by decide), if_pos (by decide)]
  by_cases h4 : k < 4
  · obtain ⟨z1, z2, z3⟩ := hR k h4
    rw [if_neg (show ¬ (4 : Int32) ≤ nI k from nI_ge (b := 4) h4 (by decide)), y_f7, Option.bind_some, y_g175 h4, Option.bind_some, ← z1]
    rcases z2 with e | ⟨n, hn, e⟩
    · rw [e, if_pos m1_lt0, add0, nI_1]; simp
    · have : ¬ nI n = -1 := nI_nm1 (by omega)
      rw [e, if_neg (nI_pos (by omega)), nI_1, nI_1]; simp [this, h4]
  · rw [if_pos (show (4 : Int32) ≤ nI k from nI_le (a := 4) (by omega) (by omega)), add0, nI_1]; simp [h4]
theorem there10_y {d : Nat} (hR : rKept np kd pt ks I F) (k c : Nat) (hk : k < 6) : ex cdX10_thereOf (rn d) 4 [.ref 168, .int (nI 10), .int (nI c), .int (nI k)] [] (hp I J F G X) = ex cdX10_thereOf (rn d) 4 [.ref 168, .int (nI 10), .int (nI (c + (if (decide (k < 3) && !decide (I (162 + 2 * k) = -1)) = true then 1 else 0))), .int (nI (k + 1))] [] (hp I J F G X) := by
  rw [xX10_thereOf_4, if_neg (lt6n hk), if_neg (by decide), if_neg (by decide)]
  by_cases h3 : k < 3
  · rw [if_neg (show ¬ (3 : Int32) ≤ nI k from nI_ge (b := 3) h3 (by decide)), y_f0, Option.bind_some, c985, show nI (985 * (k + 1)) + 0 = nI (985 * (k + 1)) from add0 _, y_g169 (by omega), Option.bind_some]
    rcases hR k h3 with ⟨a1, a2, a3⟩ | ⟨ds', a1, a2, a3⟩
    · rw [a3, a2, if_pos m1_lt0, add0, nI_1]; simp
    · have hl := a2.1
      have : ¬ nI ds'.length = -1 := nI_nm1 (by omega)
      rw [a3.1, a2.2.2.1, if_neg (nI_pos (by omega)), nI_1, nI_1]; simp [this, h3]
  · rw [if_pos (show (3 : Int32) ≤ nI k from nI_le (a := 3) (by omega) (by omega)), add0, nI_1]; simp [h3]
def cntL (np nt dl ll w g c6 c7 c8 c9 c10 : Nat) : Nat → Nat
  | 0 => np
  | 1 => nt
  | 2 => dl
  | 3 => ll
  | 4 => w
  | 5 => g
  | 6 => c6
  | 7 => c7
  | 8 => c8
  | 9 => c9
  | _ => c10
def cntV (np : Nat) (kd pt : Nat → Nat) (ds : List Nat) (I : Nat → Int32) (g : Nat) : Nat → Nat := cntL np (rep np kd pt ds).2.2.2.1 ds.length (rep np kd pt ds).1.length (cP (fun i => !decide ((rep np kd pt ds).2.2.1 i = -9)) 0 np) (pc g) (cP (fun i => isk kd i 1) 0 np) (cP (fun i => isk kd i 2) 0 np) (cP (fun r => !decide (I (142 + 2 * r) = -1)) 0 6) (cP (fun r => !decide (I (154 + 2 * r) = -1)) 0 4) (cP (fun r => !decide (I (162 + 2 * r) = -1)) 0 3)
theorem w11 {w : Nat} (h : w < 11) : w = 0 ∨ w = 1 ∨ w = 2 ∨ w = 3 ∨ w = 4 ∨ w = 5 ∨ w = 6 ∨ w = 7 ∨ w = 8 ∨ w = 9 ∨ w = 10 := by omega
theorem number_x {d w g : Nat} (hR : RelA np kd pt pr ds ks I J F) (hg : g < 128) (hgu : (rep np kd pt ds).2.2.2.2 = nI g) (hh : ∀ i, (g.testBit i = true → i < np ∧ i ∉ (rep np kd pt ds).1 ∧ (rep np kd pt ds).2.2.1 i = -9) ∧ (i < np → i ∉ (rep np kd pt ds).1 → g.testBit i = false → (rep np kd pt ds).2.2.1 i ≠ -9) ∧ (i ∈ (rep np kd pt ds).1 → (rep np kd pt ds).2.2.1 i = -9)) (hw : w < 11) : cI (rn (d + 5)) 134 [.ref 1, .int (nI w)] (hp I J F G X) = some (nI (cntV np kd pt ds I g w), (hp I J F G X)) := by
  obtain ⟨hn7, h4, h168, hk, hk', hp', hp'', hA, hQ, hL⟩ := rel_ctx (G := G) (X := X) hR
  have hD := hR.2.2.2.2.2.1.1
  have q1 : I 12 = nI (rep np kd pt ds).1.length := hQ.1
  have q2 : I 13 = nI (rep np kd pt ds).2.2.2.1 := hQ.2.1
  have q3 : I 14 = nI g := by rw [← hgu]; exact hQ.2.2.1
  have q4 : I 20 = nI ds.length := hD.2.2.1
  have wc := went_count hn7 hA hh
  have hm1 := fun w (hw : w < 6) => howM_x (d := d + 1) (w := w) (J := J) (G := G) (X := X) hn7 h4 hk hw np 0 0 rfl (Nat.zero_le _)
  have hr := rowsT_x (d := d + 2) (J := J) (G := G) (X := X) hR.2.2.1 6 0 0 rfl (by omega)
  have ht := txtsT_x (d := d + 2) (J := J) (G := G) (X := X) hR.2.2.2.1 4 0 0 rfl (by omega)
  have hkp := keptT_x (d := d + 3) (I := I) (J := J) (F := F) (G := G) (X := X) 3 0 0 rfl (by omega)
  rw [nI_0, Nat.zero_add] at hr ht hkp
  have c1 : cI (rn (d + 4)) 14 [.ref 4, .int 1] (hp I J F G X) = some (nI (cP (fun i => isk kd i 1) 0 np), (hp I J F G X)) := by
    have := hm1 1 (by decide)
    rw [nI_0, Nat.zero_add] at this
    refine cIo ?_
    rw [rX1_howMany, xX1_howMany_0]
    exact this
  have c2' : cI (rn (d + 4)) 14 [.ref 4, .int 2] (hp I J F G X) = some (nI (cP (fun i => isk kd i 2) 0 np), (hp I J F G X)) := by
    have := hm1 2 (by decide)
    rw [nI_0, Nat.zero_add] at this
    refine cIo ?_
    rw [rX1_howMany, xX1_howMany_0]
    exact this
  have c8 : cI (rn (d + 4)) 135 [.ref 1] (hp I J F G X) = some (nI (cP (fun r => !decide (I (142 + 2 * r) = -1)) 0 6), (hp I J F G X)) := by
    refine cIo ?_
    rw [rX9_rowsThere, xX9_rowsThere_0, hr]
  have c9 : cI (rn (d + 4)) 136 [.ref 1] (hp I J F G X) = some (nI (cP (fun r => !decide (I (154 + 2 * r) = -1)) 0 4), (hp I J F G X)) := by
    refine cIo ?_
    rw [rX9_textsThere, xX9_textsThere_0, ht]
  have c10 : cI (rn (d + 4)) 137 [.ref 1] (hp I J F G X) = some (nI (cP (fun r => !decide (I (162 + 2 * r) = -1)) 0 3), (hp I J F G X)) := by
    refine cIo ?_
    rw [rX9_keptThere, xX9_keptThere_0, hkp]
  refine cIo ?_
  rw [rX9_numberOf, xX9_numberOf_0]
  rcases w11 hw with rfl | rfl | rfl | rfl | rfl | rfl | rfl | rfl | rfl | rfl | rfl
  · rw [if_pos (by decide), x_f2, Option.bind_some, x_cn, Option.bind_some, h4]
    rfl
  · rw [if_neg (by decide), if_pos (by decide), x_f4, Option.bind_some, x_qn, Option.bind_some, q2]
    rfl
  · rw [if_neg (by decide), if_neg (by decide), if_pos (by decide), x_f6, Option.bind_some, x_dn, Option.bind_some, q4]
    rfl
  · rw [if_neg (by decide), if_neg (by decide), if_neg (by decide), if_pos (by decide), x_f4, Option.bind_some, x_qs, Option.bind_some, q1]
    rfl
  · rw [if_neg (by decide), if_neg (by decide), if_neg (by decide), if_neg (by decide), if_pos (by decide), x_f2, Option.bind_some, x_cn, Option.bind_some, x_f4, Option.bind_some, x_qs, Option.bind_some, Option.bind_some, x_qu, Option.bind_some, q3, bits_x hg, Option.bind_some, h4, q1]
    dsimp only
    rw [pk_sub (by omega), pk_sub (by omega), show np - (rep np kd pt ds).1.length - pc g = cP (fun i => !decide ((rep np kd pt ds).2.2.1 i = -9)) 0 np by omega]
    rfl
  · rw [if_neg (by decide), if_neg (by decide), if_neg (by decide), if_neg (by decide), if_neg (by decide), if_pos (by decide), x_f4, Option.bind_some, x_qu, Option.bind_some, q3, bits_x hg, Option.bind_some]
    rfl
  · rw [if_neg (by decide), if_neg (by decide), if_neg (by decide), if_neg (by decide), if_neg (by decide), if_neg (by decide), if_pos (by decide), x_f2, Option.bind_some, if_pos x_ci, c1, Option.bind_some]
    rfl
  · rw [if_neg (by decide), if_neg (by decide), if_neg (by decide), if_neg (by decide), if_neg (by decide), if_neg (by decide), if_neg (by decide), if_pos (by decide), x_f2, Option.bind_some, if_pos x_ci, c2', Option.bind_some]
    rfl
  · rw [if_neg (by decide), if_neg (by decide), if_neg (by decide), if_neg (by decide), if_neg (by decide), if_neg (by decide), if_neg (by decide), if_neg (by decide), if_pos (by decide), if_pos x_is, c8, Option.bind_some]
    rfl
  · rw [if_neg (by decide), if_neg (by decide), if_neg (by decide), if_neg (by decide), if_neg (by decide), if_neg (by decide), if_neg (by decide), if_neg (by decide), if_neg (by decide), if_pos (by decide), if_pos x_is, c9, Option.bind_some]
    rfl
  · rw [if_neg (by decide), if_neg (by decide), if_neg (by decide), if_neg (by decide), if_neg (by decide), if_neg (by decide), if_neg (by decide), if_neg (by decide), if_neg (by decide), if_neg (by decide), if_pos x_is, c10, Option.bind_some]
    rfl
theorem count_y {d w g : Nat} (hR : RelA np kd pt pr ds ks I J F) (hg : g < 128) (hgu : (rep np kd pt ds).2.2.2.2 = nI g) (hw : w < 11) : cI (rn (d + 5)) 241 [.ref 168, .int (nI w)] (hp I J F G X) = some (nI (cntV np kd pt ds I g w), (hp I J F G X)) := by
  obtain ⟨hn7, h4, h168, hk, hk', hp', hp'', hA, hQ, hL⟩ := rel_ctx (G := G) (X := X) hR
  have hSg := hR.2.2.2.2.2.1.2.2
  have r0 : F 169 0 = nI ds.length := hSg.1
  have r1 : F 169 1 = nI (rep np kd pt ds).2.2.2.1 := by have := hL.1; rwa [Nat.zero_add] at this
  have r2 : F 169 2 = nI (rep np kd pt ds).1.length := by have := hL.2.1; rwa [Nat.zero_add] at this
  have r24 : F 169 24 = nI g := by have := hL.2.2.2.2.2; rw [Nat.zero_add] at this; rw [this]; exact hgu
  have hm1 := fun w (h1 : 1 ≤ w) (hw : w < 6) => kindM_y (d := d + 2) (w := w) (J := J) (G := G) (X := X) hn7 h168 hk' h1 hw np 0 0 rfl (Nat.zero_le _)
  have c1 : cI (rn (d + 4)) 239 [.ref 168, .int 1] (hp I J F G X) = some (nI (cP (fun i => isk kd i 1) 0 np), (hp I J F G X)) := by
    have := hm1 1 (by decide) (by decide)
    rw [nI_0, Nat.zero_add] at this
    refine cIo ?_
    rw [rX10_kindMany, xX10_kindMany_0]
    exact this
  have c2' : cI (rn (d + 4)) 239 [.ref 168, .int 2] (hp I J F G X) = some (nI (cP (fun i => isk kd i 2) 0 np), (hp I J F G X)) := by
    have := hm1 2 (by decide) (by decide)
    rw [nI_0, Nat.zero_add] at this
    refine cIo ?_
    rw [rX10_kindMany, xX10_kindMany_0]
    exact this
  have c4 : cI (rn (d + 4)) 238 [.ref 168] (hp I J F G X) = some (nI (cP (fun i => !decide ((rep np kd pt ds).2.2.1 i = -9)) 0 np), (hp I J F G X)) := by
    have := wentM_y (d := d + 3) (J := J) (G := G) (X := X) hn7 h168 (f := (rep np kd pt ds).2.2.1) (fun j hj => by have := hL.2.2.2.2.1 j hj; rwa [show 0 + 17 + j = 17 + j by omega] at this) np 0 0 rfl (Nat.zero_le _)
    rw [nI_0, Nat.zero_add] at this
    refine cIo ?_
    rw [rX10_wentMany, xX10_wentMany_0, this]
  have c8 : cI (rn (d + 4)) 240 [.ref 168, .int (nI 8)] (hp I J F G X) = some (nI (cP (fun r => !decide (I (142 + 2 * r) = -1)) 0 6), (hp I J F G X)) := by
    have := there_y (d := d + 3) (w := 8) (I := I) (J := J) (F := F) (G := G) (X := X) (p := fun r => !decide (I (142 + 2 * r) = -1)) (fun k c hk => there8_y hR.2.2.1 k c hk) 6 0 0 rfl (by omega)
    rw [nI_0, Nat.zero_add] at this
    refine cIo ?_
    rw [rX10_thereOf, xX10_thereOf_0, this]
  have c9 : cI (rn (d + 4)) 240 [.ref 168, .int (nI 9)] (hp I J F G X) = some (nI (cP (fun r => !decide (I (154 + 2 * r) = -1)) 0 4), (hp I J F G X)) := by
    have := there_y (d := d + 3) (w := 9) (I := I) (J := J) (F := F) (G := G) (X := X) (p := fun r => decide (r < 4) && !decide (I (154 + 2 * r) = -1)) (fun k c hk => there9_y hR.2.2.2.1 k c hk) 6 0 0 rfl (by omega)
    rw [nI_0, Nat.zero_add] at this
    refine cIo ?_
    rw [rX10_thereOf, xX10_thereOf_0, this]
    simp [cP]
  have c10 : cI (rn (d + 4)) 240 [.ref 168, .int (nI 10)] (hp I J F G X) = some (nI (cP (fun r => !decide (I (162 + 2 * r) = -1)) 0 3), (hp I J F G X)) := by
    have := there_y (d := d + 3) (w := 10) (I := I) (J := J) (F := F) (G := G) (X := X) (p := fun r => decide (r < 3) && !decide (I (162 + 2 * r) = -1)) (fun k c hk => there10_y hR.2.2.2.2.2.2 k c hk) 6 0 0 rfl (by omega)
    rw [nI_0, Nat.zero_add] at this
    refine cIo ?_
    rw [rX10_thereOf, xX10_thereOf_0, this]
    simp [cP]
  refine cIo ?_
  rw [rX10_countOf, xX10_countOf_0]
  rcases w11 hw with rfl | rfl | rfl | rfl | rfl | rfl | rfl | rfl | rfl | rfl | rfl
  · rw [if_pos (by decide), y_ps, Option.bind_some, h168]
    rfl
  · rw [if_neg (by decide), if_pos (by decide), y_f0, Option.bind_some, y_row1, Option.bind_some, r1]
    rfl
  · rw [if_neg (by decide), if_neg (by decide), if_pos (by decide), y_f0, Option.bind_some, y_row0, Option.bind_some, r0]
    rfl
  · rw [if_neg (by decide), if_neg (by decide), if_neg (by decide), if_pos (by decide), y_f0, Option.bind_some, y_row2, Option.bind_some, r2]
    rfl
  · rw [if_neg (by decide), if_neg (by decide), if_neg (by decide), if_neg (by decide), if_pos (by decide), if_pos y_is, c4, Option.bind_some]
    rfl
  · rw [if_neg (by decide), if_neg (by decide), if_neg (by decide), if_neg (by decide), if_neg (by decide), if_pos (by decide), y_f0, Option.bind_some, y_row24, Option.bind_some, r24, bits_y hg, Option.bind_some]
    rfl
  · rw [if_neg (by decide), if_neg (by decide), if_neg (by decide), if_neg (by decide), if_neg (by decide), if_neg (by decide), if_pos (by decide), if_pos y_is, c1, Option.bind_some]
    rfl
  · rw [if_neg (by decide), if_neg (by decide), if_neg (by decide), if_neg (by decide), if_neg (by decide), if_neg (by decide), if_neg (by decide), if_pos (by decide), if_pos y_is, c2', Option.bind_some]
    rfl
  · rw [if_neg (by decide), if_neg (by decide), if_neg (by decide), if_neg (by decide), if_neg (by decide), if_neg (by decide), if_neg (by decide), if_neg (by decide), if_pos y_is, c8, Option.bind_some]
    rfl
  · rw [if_neg (by decide), if_neg (by decide), if_neg (by decide), if_neg (by decide), if_neg (by decide), if_neg (by decide), if_neg (by decide), if_neg (by decide), if_pos y_is, c9, Option.bind_some]
    rfl
  · rw [if_neg (by decide), if_neg (by decide), if_neg (by decide), if_neg (by decide), if_neg (by decide), if_neg (by decide), if_neg (by decide), if_neg (by decide), if_pos y_is, c10, Option.bind_some]
    rfl
end CX
theorem g_count : gdI 118 242 1 := gdI_of (fun as hn I J F G X np kd pt pr ds ks hR hS => by
  obtain ⟨v, rfl⟩ := as1 hn
  show okI _ _ [.int v] I J F G X
  have hn7 := hR.2.2.2.2.1.2.2.1
  have hD := hR.2.2.2.2.2.1.1
  obtain ⟨g, hg, hgu, hh⟩ := rep_prt hn7 hD.1 hD.2.1
  rcases ix v (n := 11) (by decide) with hv | ⟨w, hw, rfl⟩
  · refine okI_same (v := -1) hR hS ?_ ?_
    · refine cIo ?_; rw [rX9_count, xX9_count_0]
      by_cases z : v < 0
      · rw [if_pos z]
      · rw [if_neg z, if_neg]
        rcases hv with e | e
        · exact absurd e z
        · exact Int32.not_lt.mpr e
    · refine cIo ?_; rw [rX10_count, xX10_count_0, in_yn (x := 0) (y := 10) (n := 11) (by decide) hv (by decide) (by decide), Option.bind_some, if_pos rfl]
  · refine okI_same (v := nI (cntV np kd pt ds I g w)) hR hS ?_ ?_
    · refine cIo ?_; rw [rX9_count, xX9_count_0, if_neg (nI_pos (by omega)), if_pos (show nI w < 11 from nI_lt (b := 11) hw (by decide)), if_pos x_is, number_x hR hg hgu hh hw, Option.bind_some]
    · refine cIo ?_; rw [rX10_count, xX10_count_0, in_y (x := 0) (y := 10) (n := 11) (by decide) hw rfl (by decide) (by decide), Option.bind_some, if_neg one_ne, if_pos y_is, count_y hR hg hgu hw, Option.bind_some])
/-! the digest -/
def dg (f : Nat → Int32) : Nat → Nat → Int64 → Int64
  | _, 0, h => h
  | k, m + 1, h => dg f (k + 1) m (31 * h + (f k).toInt64)
theorem dg_add (f : Nat → Int32) : ∀ (m n k : Nat) (h : Int64), dg f k (m + n) h = dg f (k + m) n (dg f k m h)
  | 0, n, k, h => by rw [Nat.zero_add]; rfl
  | m + 1, n, k, h => by
    rw [show m + 1 + n = (m + n) + 1 by omega, dg, dg, dg_add f m n (k + 1), show k + 1 + m = k + (m + 1) by omega]
theorem dg_congr {f g : Nat → Int32} : ∀ (m k : Nat) (h : Int64), (∀ j, k ≤ j → j < k + m → f j = g j) → dg f k m h = dg g k m h
  | 0, _, _, _ => rfl
  | m + 1, k, h, e => by
    unfold dg
    rw [e k (Nat.le_refl _) (by omega), dg_congr m (k + 1) _ (fun j h1 h2 => e j (by omega) (by omega))]
def szN (o : Int32) : Nat := if o = -1 then 0 else o.toNatClampNeg
theorem szN_1 : szN (-1) = 0 := rfl
theorem szN_n {n : Nat} (h : n < 2 ^ 31) : szN (nI n) = n := by unfold szN; rw [if_neg (nI_nm1 h), nI_clamp h]
section DG
variable {I : Nat → Int32} {J : Nat → Int64} {F : Nat → Nat → Int32} {G : Nat → Int64} {X : Nat → va_E} {np : Nat} {kd pt pr : Nat → Nat} {ds : List Nat} {ks : Nat → Option (List Nat)}
theorem addR_x {d r : Nat} {v1 : Int64} (hr : r < 6) (hs : I (142 + 2 * r) = -1 ∨ ∃ n, n ≤ 40 ∧ I (142 + 2 * r) = nI n) : ∀ (m k : Nat) (u : Int64), szN (I (142 + 2 * r)) - k = m → k ≤ szN (I (142 + 2 * r)) → ex cdX6_addTo (rn d) 15 [.ref (142 + 2 * r), .long v1, .null, .long u, .null, .int (nI k)] [] (hp I J F G X) = some (some (.long (dg (F (143 + 2 * r)) k m u)), (hp I J F G X)) := by
  rcases hs with e | ⟨n, hn, e⟩
  · rw [e, szN_1]
    intro m k u h1 h2
    have hk : k = 0 := by omega
    have hm : m = 0 := by omega
    subst hk hm
    rw [xX6_addTo_15, x_rowN hr, Option.bind_some, e, if_pos (by decide)]
    rfl
  · rw [e, szN_n (by omega)]
    intro m
    induction m with
    | zero =>
      intro k u h1 h2
      have : k = n := by omega
      subst this
      rw [xX6_addTo_15, x_rowN hr, Option.bind_some, e, if_pos (nI_le (Nat.le_refl _) (by omega))]
      rfl
    | succ m ih =>
      intro k u h1 h2
      rw [xX6_addTo_15, x_rowN hr, Option.bind_some, e, if_neg (nI_ge (by omega) (by omega)), x_rowF hr, Option.bind_some, x_rowg hr (by omega), Option.bind_some, nI_1, ih (k + 1) _ (by omega) (by omega)]
      rfl
theorem addT_x {d r : Nat} {v1 : Int64} (hr : r < 4) (hs : I (154 + 2 * r) = -1 ∨ ∃ n, n ≤ 60 ∧ I (154 + 2 * r) = nI n) : ∀ (m k : Nat) (u : Int64), szN (I (154 + 2 * r)) - k = m → k ≤ szN (I (154 + 2 * r)) → ex cdX7_addTo (rn d) 15 [.ref (154 + 2 * r), .long v1, .null, .long u, .null, .int (nI k)] [] (hp I J F G X) = some (some (.long (dg (F (155 + 2 * r)) k m u)), (hp I J F G X)) := by
  rcases hs with e | ⟨n, hn, e⟩
  · rw [e, szN_1]
    intro m k u h1 h2
    have hk : k = 0 := by omega
    have hm : m = 0 := by omega
    subst hk hm
    rw [xX7_addTo_15, x_txtN hr, Option.bind_some, e, if_pos (by decide)]
    rfl
  · rw [e, szN_n (by omega)]
    intro m
    induction m with
    | zero =>
      intro k u h1 h2
      have : k = n := by omega
      subst this
      rw [xX7_addTo_15, x_txtN hr, Option.bind_some, e, if_pos (nI_le (Nat.le_refl _) (by omega))]
      rfl
    | succ m ih =>
      intro k u h1 h2
      rw [xX7_addTo_15, x_txtN hr, Option.bind_some, e, if_neg (nI_ge (by omega) (by omega)), x_txtF hr, Option.bind_some, x_txtg hr (by omega), Option.bind_some, nI_1, ih (k + 1) _ (by omega) (by omega)]
      rfl
/-- rows, then texts -/
def dgR (I : Nat → Int32) (F : Nat → Nat → Int32) : Nat → Nat → Int64 → Int64
  | _, 0, h => h
  | r, m + 1, h => dgR I F (r + 1) m (dg (F (143 + 2 * r)) 0 (szN (I (142 + 2 * r))) (31 * h + (I (142 + 2 * r)).toInt64))
def dgT (I : Nat → Int32) (F : Nat → Nat → Int32) : Nat → Nat → Int64 → Int64
  | _, 0, h => h
  | r, m + 1, h => dgT I F (r + 1) m (dg (F (155 + 2 * r)) 0 (szN (I (154 + 2 * r))) (31 * h + (I (154 + 2 * r)).toInt64))
theorem dig5_x {d : Nat} {v4 : Value} (hR : rTxts I F) : ∀ (m r : Nat) (u : Int64), 4 - r = m → r ≤ 4 → ex cdX9_digest (rn (d + 1)) 138 [.ref 1, .long u, .null, .int (nI r), v4] [] (hp I J F G X) = some (some (.long (dgT I F r m u)), (hp I J F G X)) := by
  intro m
  induction m with
  | zero =>
    intro r u h1 h2
    have : r = 4 := by omega
    subst this
    rw [xX9_digest_138, if_pos (by decide)]
    rfl
  | succ m ih =>
    intro r u h1 h2
    have hr : r < 4 := by omega
    have ha := addT_x (d := d) (v1 := u) (J := J) (F := F) (G := G) (X := X) hr (hR r hr).2.1 (szN (I (154 + 2 * r))) 0 (31 * u + (I (154 + 2 * r)).toInt64) rfl (Nat.zero_le _)
    rw [nI_0] at ha
    have hc : cL (rn (d + 1)) 68 [.ref (154 + 2 * r), .long u] (hp I J F G X) = some (dg (F (155 + 2 * r)) 0 (szN (I (154 + 2 * r))) (31 * u + (I (154 + 2 * r)).toInt64), (hp I J F G X)) := by
      refine cLo ?_
      rw [rX7_addTo, xX7_addTo_0, x_txtN hr, Option.bind_some, ha]
    rw [xX9_digest_138, if_neg (show ¬ (4 : Int32) ≤ nI r from nI_ge (b := 4) hr (by decide)), x_f1, Option.bind_some, x_txtR hr, Option.bind_some, if_pos (x_txtI hr), hc, Option.bind_some, nI_1, ih (r + 1) _ (by omega) (by omega)]
    rfl
theorem dig4_x {d : Nat} {v4 : Value} (hR : rRows I F) (hT : rTxts I F) : ∀ (m r : Nat) (u : Int64), 6 - r = m → r ≤ 6 → ex cdX9_digest (rn (d + 1)) 113 [.ref 1, .long u, .null, .int (nI r), v4] [] (hp I J F G X) = some (some (.long (dgT I F 0 4 (dgR I F r m u))), (hp I J F G X)) := by
  intro m
  induction m with
  | zero =>
    intro r u h1 h2
    have : r = 6 := by omega
    subst this
    have := dig5_x (d := d) (v4 := v4) (J := J) (G := G) (X := X) hT 4 0 u rfl (by omega)
    rw [nI_0] at this
    rw [xX9_digest_113, if_pos (by decide), this]
    rfl
  | succ m ih =>
    intro r u h1 h2
    have hr : r < 6 := by omega
    have ha := addR_x (d := d) (v1 := u) (J := J) (F := F) (G := G) (X := X) hr (hR r hr).2.1 (szN (I (142 + 2 * r))) 0 (31 * u + (I (142 + 2 * r)).toInt64) rfl (Nat.zero_le _)
    rw [nI_0] at ha
    have hc : cL (rn (d + 1)) 63 [.ref (142 + 2 * r), .long u] (hp I J F G X) = some (dg (F (143 + 2 * r)) 0 (szN (I (142 + 2 * r))) (31 * u + (I (142 + 2 * r)).toInt64), (hp I J F G X)) := by
      refine cLo ?_
      rw [rX6_addTo, xX6_addTo_0, x_rowN hr, Option.bind_some, ha]
    rw [xX9_digest_113, if_neg (lt6n hr), x_f0, Option.bind_some, x_rowR hr, Option.bind_some, if_pos (x_rowI hr), hc, Option.bind_some, nI_1, ih (r + 1) _ (by omega) (by omega)]
    rfl
theorem dig3_x {d : Nat} {v4 : Value} (hR : rRows I F) (hT : rTxts I F) : ∀ (m r : Nat) (u : Int64), 3 - r = m → r ≤ 3 → ex cdX9_digest (rn (d + 1)) 83 [.ref 1, .long u, .null, .int (nI r), v4] [] (hp I J F G X) = some (some (.long (dgT I F 0 4 (dgR I F 0 6 (dg (fun k => I (162 + 2 * k)) r m u)))), (hp I J F G X)) := by
  intro m
  induction m with
  | zero =>
    intro r u h1 h2
    have : r = 3 := by omega
    subst this
    have := dig4_x (d := d) (v4 := v4) (J := J) (G := G) (X := X) hR hT 6 0 u rfl (by omega)
    rw [nI_0] at this
    rw [xX9_digest_83, if_pos (by decide), this]
    rfl
  | succ m ih =>
    intro r u h1 h2
    have hr : r < 3 := by omega
    rw [xX9_digest_83, if_neg (show ¬ (3 : Int32) ≤ nI r from nI_ge (b := 3) hr (by decide)), x_f7, Option.bind_some, x_kepR hr, Option.bind_some, x_kepN hr, Option.bind_some, nI_1, ih (r + 1) _ (by omega) (by omega)]
    rfl
def tdF (kd pt pr : Nat → Nat) (A : LSt) (k : Nat) : Int32 := told kd pt pr A (k / 7) (k % 7)
theorem dig2i_x {d i : Nat} {A : LSt} {mm : Nat} (hC : rCrowd np kd pt pr I F) (hQ : QN I F 12 np A) (hA : lB np mm A) (hi : i < np) : ∀ (m w : Nat) (u : Int64), 7 - w = m → w ≤ 7 → ex cdX9_digest (rn (d + 3)) 47 [.ref 1, .long u, .null, .int (nI i), .int (nI w)] [] (hp I J F G X) = ex cdX9_digest (rn (d + 3)) 33 [.ref 1, .long (dg (tdF kd pt pr A) (7 * i + w) m u), .null, .int (nI (i + 1)), .int (nI 7)] [] (hp I J F G X) := by
  obtain ⟨L, wt, wn, nt, gu⟩ := A
  intro m
  induction m with
  | zero =>
    intro w u h1 h2
    have : w = 7 := by omega
    subst this
    rw [xX9_digest_47, if_pos (by decide), nI_1]
    rfl
  | succ m ih =>
    intro w u h1 h2
    rw [xX9_digest_47, if_neg (show ¬ (7 : Int32) ≤ nI w from nI_ge (b := 7) (by omega) (by decide)), if_pos x_is, detail_x hC hQ hA hi (by omega), Option.bind_some, nI_1, ih (w + 1) _ (by omega) (by omega)]
    have e : tdF kd pt pr (L, wt, wn, nt, gu) (7 * i + w) = told kd pt pr (L, wt, wn, nt, gu) i w := by
      unfold tdF
      rw [show (7 * i + w) / 7 = i by omega, show (7 * i + w) % 7 = w by omega]
    rw [show dg (tdF kd pt pr (L, wt, wn, nt, gu)) (7 * i + w) (m + 1) u = dg (tdF kd pt pr (L, wt, wn, nt, gu)) (7 * i + w + 1) m (31 * u + (tdF kd pt pr (L, wt, wn, nt, gu) (7 * i + w)).toInt64) from rfl, e]
    rfl
theorem dig2_x {d : Nat} {A : LSt} {mm : Nat} (hC : rCrowd np kd pt pr I F) (hQ : QN I F 12 np A) (hA : lB np mm A) (hR : rRows I F) (hT : rTxts I F) : ∀ (m i : Nat) (u : Int64) (v4 : Value), np - i = m → i ≤ np → ex cdX9_digest (rn (d + 3)) 33 [.ref 1, .long u, .null, .int (nI i), v4] [] (hp I J F G X) = some (some (.long (dgT I F 0 4 (dgR I F 0 6 (dg (fun k => I (162 + 2 * k)) 0 3 (dg (tdF kd pt pr A) (7 * i) (7 * m) u))))), (hp I J F G X)) := by
  have h4 := hC.1
  have hn7 := hC.2.2.1
  intro m
  induction m with
  | zero =>
    intro i u v4 h1 h2
    have : i = np := by omega
    subst this
    have := dig3_x (d := d + 2) (v4 := v4) (J := J) (G := G) (X := X) hR hT 3 0 u rfl (by omega)
    rw [nI_0] at this
    rw [xX9_digest_33, x_f2, Option.bind_some, x_cn, Option.bind_some, h4, if_pos (nI_le (Nat.le_refl _) (by omega)), this]
    rfl
  | succ m ih =>
    intro i u v4 h1 h2
    have hin := dig2i_x (d := d) (J := J) (G := G) (X := X) (i := i) hC hQ hA (by omega) 7 0 u rfl (by omega)
    rw [nI_0, Nat.add_zero (7 * i)] at hin
    rw [xX9_digest_33, x_f2, Option.bind_some, x_cn, Option.bind_some, h4, if_neg (nI_ge (by omega) (by omega)), hin, ih (i + 1) _ _ (by omega) (by omega), show 7 * (m + 1) = 7 + 7 * m by omega, dg_add, show 7 * (i + 1) = 7 * i + 7 by omega]
theorem dig1_x {d g : Nat} (hR : RelA np kd pt pr ds ks I J F) (hg : g < 128) (hgu : (rep np kd pt ds).2.2.2.2 = nI g) (hh : ∀ i, (g.testBit i = true → i < np ∧ i ∉ (rep np kd pt ds).1 ∧ (rep np kd pt ds).2.2.1 i = -9) ∧ (i < np → i ∉ (rep np kd pt ds).1 → g.testBit i = false → (rep np kd pt ds).2.2.1 i ≠ -9) ∧ (i ∈ (rep np kd pt ds).1 → (rep np kd pt ds).2.2.1 i = -9)) : ∀ (m w : Nat) (u : Int64), 11 - w = m → w ≤ 11 → ex cdX9_digest (rn (d + 5)) 6 [.ref 1, .long u, .null, .int (nI w), .null] [] (hp I J F G X) = some (some (.long (dgT I F 0 4 (dgR I F 0 6 (dg (fun k => I (162 + 2 * k)) 0 3 (dg (tdF kd pt pr (rep np kd pt ds)) 0 (7 * np) (dg (fun w => nI (cntV np kd pt ds I g w)) w m u)))))), (hp I J F G X)) := by
  obtain ⟨hn7, h4, h168, hk, hk', hp', hp'', hA, hQ, hL⟩ := rel_ctx (G := G) (X := X) hR
  intro m
  induction m with
  | zero =>
    intro w u h1 h2
    have : w = 11 := by omega
    subst this
    have := dig2_x (d := d + 2) (J := J) (G := G) (X := X) hR.2.2.2.2.1 hQ hA hR.2.2.1 hR.2.2.2.1 np 0 u .null rfl (Nat.zero_le _)
    rw [nI_0, Nat.mul_zero] at this
    rw [xX9_digest_6, if_pos (by decide), this]
    rfl
  | succ m ih =>
    intro w u h1 h2
    rw [xX9_digest_6, if_neg (show ¬ (11 : Int32) ≤ nI w from nI_ge (b := 11) (by omega) (by decide)), if_pos x_is, number_x hR hg hgu hh (by omega), Option.bind_some, nI_1, ih (w + 1) _ (by omega) (by omega)]
    rfl
-- the reference's
theorem dig5i_y {d r : Nat} (hr : r < 4) (hT : rTxts I F) : ∀ (m k : Nat) (u : Int64), szN (I (154 + 2 * r)) - k = m → k ≤ szN (I (154 + 2 * r)) → ∃ v, ex cdX10_digest (rn d) 195 [.ref 168, .long u, .null, .int (nI r), .int (nI k)] [] (hp I J F G X) = ex cdX10_digest (rn d) 173 [.ref 168, .long (dg (F (155 + 2 * r)) k m u), .null, .int (nI (r + 1)), v] [] (hp I J F G X) := by
  obtain ⟨z1, z2, z3⟩ := hT r hr
  rcases z2 with e | ⟨n, hn, e⟩ <;> have z4 := z1.symm.trans e
  · rw [e, szN_1]
    intro m k u h1 h2
    have hk : k = 0 := by omega
    have hm : m = 0 := by omega
    subst hk hm
    exact ⟨.int (nI 0), by rw [xX10_digest_195, y_f7, Option.bind_some, y_g175 hr, Option.bind_some, z4, if_pos (by decide), nI_1]; rfl⟩
  · rw [e, szN_n (by omega)]
    intro m
    induction m with
    | zero =>
      intro k u h1 h2
      have : k = n := by omega
      subst this
      exact ⟨.int (nI k), by rw [xX10_digest_195, y_f7, Option.bind_some, y_g175 hr, Option.bind_some, z4, if_pos (nI_le (Nat.le_refl _) (by omega)), nI_1]; rfl⟩
    | succ m ih =>
      intro k u h1 h2
      obtain ⟨v, hv⟩ := ih (k + 1) (31 * u + (F (155 + 2 * r) k).toInt64) (by omega) (by omega)
      refine ⟨v, ?_⟩
      rw [xX10_digest_195, y_f7, Option.bind_some, y_g175 hr, Option.bind_some, z4, if_neg (nI_ge (by omega) (by omega)), y_f8, Option.bind_some, c60, nI_add, y_g176 (by omega), Option.bind_some, z3 k (by omega), nI_1, hv]
      rfl
theorem dig5_y {d : Nat} (hT : rTxts I F) : ∀ (m r : Nat) (u : Int64) (v4 : Value), 4 - r = m → r ≤ 4 → ex cdX10_digest (rn d) 173 [.ref 168, .long u, .null, .int (nI r), v4] [] (hp I J F G X) = some (some (.long (dgT I F r m u)), (hp I J F G X)) := by
  intro m
  induction m with
  | zero =>
    intro r u v4 h1 h2
    have : r = 4 := by omega
    subst this
    rw [xX10_digest_173, if_pos (by decide)]
    rfl
  | succ m ih =>
    intro r u v4 h1 h2
    have hr : r < 4 := by omega
    obtain ⟨v, hv⟩ := dig5i_y (d := d) (J := J) (G := G) (X := X) hr hT (szN (I (154 + 2 * r))) 0 (31 * u + (I (154 + 2 * r)).toInt64) rfl (Nat.zero_le _)
    rw [nI_0] at hv
    rw [xX10_digest_173, if_neg (show ¬ (4 : Int32) ≤ nI r from nI_ge (b := 4) hr (by decide)), y_f7, Option.bind_some, y_g175 hr, Option.bind_some, ← (hT r hr).1, hv, ih (r + 1) _ _ (by omega) (by omega)]
    rfl
theorem dig4i_y {d r : Nat} (hr : r < 6) (hT : rRows I F) : ∀ (m k : Nat) (u : Int64), szN (I (142 + 2 * r)) - k = m → k ≤ szN (I (142 + 2 * r)) → ∃ v, ex cdX10_digest (rn d) 128 [.ref 168, .long u, .null, .int (nI r), .int (nI k)] [] (hp I J F G X) = ex cdX10_digest (rn d) 105 [.ref 168, .long (dg (F (143 + 2 * r)) k m u), .null, .int (nI (r + 1)), v] [] (hp I J F G X) := by
  obtain ⟨z1, z2, z3⟩ := hT r hr
  rcases z2 with e | ⟨n, hn, e⟩ <;> have z4 := z1.symm.trans e
  · rw [e, szN_1]
    intro m k u h1 h2
    have hk : k = 0 := by omega
    have hm : m = 0 := by omega
    subst hk hm
    exact ⟨.int (nI 0), by rw [xX10_digest_128, y_f5, Option.bind_some, y_g173 hr, Option.bind_some, z4, if_pos (by decide), nI_1]; rfl⟩
  · rw [e, szN_n (by omega)]
    intro m
    induction m with
    | zero =>
      intro k u h1 h2
      have : k = n := by omega
      subst this
      exact ⟨.int (nI k), by rw [xX10_digest_128, y_f5, Option.bind_some, y_g173 hr, Option.bind_some, z4, if_pos (nI_le (Nat.le_refl _) (by omega)), nI_1]; rfl⟩
    | succ m ih =>
      intro k u h1 h2
      obtain ⟨v, hv⟩ := ih (k + 1) (31 * u + (F (143 + 2 * r) k).toInt64) (by omega) (by omega)
      refine ⟨v, ?_⟩
      rw [xX10_digest_128, y_f5, Option.bind_some, y_g173 hr, Option.bind_some, z4, if_neg (nI_ge (by omega) (by omega)), y_f6, Option.bind_some, c40, nI_add, y_g174 (by omega), Option.bind_some, z3 k (by omega), nI_1, hv]
      rfl
theorem dig4_y {d : Nat} (hR : rRows I F) (hT : rTxts I F) : ∀ (m r : Nat) (u : Int64) (v4 : Value), 6 - r = m → r ≤ 6 → ex cdX10_digest (rn d) 105 [.ref 168, .long u, .null, .int (nI r), v4] [] (hp I J F G X) = some (some (.long (dgT I F 0 4 (dgR I F r m u))), (hp I J F G X)) := by
  intro m
  induction m with
  | zero =>
    intro r u v4 h1 h2
    have : r = 6 := by omega
    subst this
    have := dig5_y (d := d) (J := J) (G := G) (X := X) hT 4 0 u v4 rfl (by omega)
    rw [nI_0] at this
    rw [xX10_digest_105, if_pos (by decide), this]
    rfl
  | succ m ih =>
    intro r u v4 h1 h2
    have hr : r < 6 := by omega
    obtain ⟨v, hv⟩ := dig4i_y (d := d) (J := J) (G := G) (X := X) hr hR (szN (I (142 + 2 * r))) 0 (31 * u + (I (142 + 2 * r)).toInt64) rfl (Nat.zero_le _)
    rw [nI_0] at hv
    rw [xX10_digest_105, if_neg (lt6n hr), y_f5, Option.bind_some, y_g173 hr, Option.bind_some, ← (hR r hr).1, hv, ih (r + 1) _ _ (by omega) (by omega)]
    rfl
theorem n985m (k : Nat) : (985 : Int32) * nI k = nI (985 * k) := pk_mul 985 k
theorem dig3_y {d : Nat} (hK : rKept np kd pt ks I F) (hR : rRows I F) (hT : rTxts I F) : ∀ (m r : Nat) (u : Int64), 3 - r = m → r ≤ 3 → ex cdX10_digest (rn d) 72 [.ref 168, .long u, .null, .int (nI (r + 1)), .null] [] (hp I J F G X) = some (some (.long (dgT I F 0 4 (dgR I F 0 6 (dg (fun k => I (162 + 2 * k)) r m u)))), (hp I J F G X)) := by
  intro m
  induction m with
  | zero =>
    intro r u h1 h2
    have : r = 3 := by omega
    subst this
    have := dig4_y (d := d) (J := J) (G := G) (X := X) hR hT 6 0 u .null rfl (by omega)
    rw [nI_0] at this
    rw [xX10_digest_72, if_pos (by decide), this]
    rfl
  | succ m ih =>
    intro r u h1 h2
    have hr : r < 3 := by omega
    have e : F 169 (985 * (r + 1)) = I (162 + 2 * r) := by
      rcases hK r hr with ⟨a1, a2, a3⟩ | ⟨ds', a1, a2, a3⟩
      · rw [a2, a3]
      · rw [a3.1, a2.2.2.1]
    rw [xX10_digest_72, if_neg (show ¬ (4 : Int32) ≤ nI (r + 1) from nI_ge (b := 4) (by omega) (by decide)), y_f0, Option.bind_some, n985m, show nI (985 * (r + 1)) + 0 = nI (985 * (r + 1)) from add0 _, y_g169 (by omega), Option.bind_some, nI_1, e, ih (r + 1) _ (by omega) (by omega)]
    rfl
theorem dig2_y {d : Nat} {A : LSt} {mm : Nat} (hC : rCrowd np kd pt pr I F) (hL : LineN (F 169) 0 np A) (hA : lB np mm A) (hK : rKept np kd pt ks I F) (hR : rRows I F) (hT : rTxts I F) : ∀ (m k : Nat) (u : Int64), 7 * np - k = m → k ≤ 7 * np → ex cdX10_digest (rn (d + 3)) 33 [.ref 168, .long u, .null, .int (nI k), .null] [] (hp I J F G X) = some (some (.long (dgT I F 0 4 (dgR I F 0 6 (dg (fun k => I (162 + 2 * k)) 0 3 (dg (tdF kd pt pr A) k m u))))), (hp I J F G X)) := by
  have h4 := hC.2.1
  have hn7 := hC.2.2.1
  obtain ⟨L, wt, wn, nt, gu⟩ := A
  have s7 : (7 : Int32) * nI np = nI (7 * np) := pk_mul 7 np
  intro m
  induction m with
  | zero =>
    intro k u h1 h2
    have : k = 7 * np := by omega
    subst this
    have := dig3_y (d := d + 3) (J := J) (G := G) (X := X) hK hR hT 3 0 u rfl (by omega)
    rw [xX10_digest_33, y_ps, Option.bind_some, h4, s7, if_pos (nI_le (Nat.le_refl _) (by omega))]
    exact this
  | succ m ih =>
    intro k u h1 h2
    rw [xX10_digest_33, y_ps, Option.bind_some, h4, s7, if_neg (nI_ge (by omega) (by omega)), if_pos y_is, show nI k - nI k / 7 * 7 = nI (k % 7) from pk_rem (d := 7) (by omega) (by decide) (by decide), show nI k / 7 = nI (k / 7) from pk_div (d := 7) (by omega) (by decide) (by decide), told_y hC hL hA (by omega) (by omega), Option.bind_some, nI_1, ih (k + 1) _ (by omega) (by omega)]
    rfl
theorem dig1_y {d g : Nat} (hR : RelA np kd pt pr ds ks I J F) (hg : g < 128) (hgu : (rep np kd pt ds).2.2.2.2 = nI g) : ∀ (m w : Nat) (u : Int64), 11 - w = m → w ≤ 11 → ex cdX10_digest (rn (d + 5)) 6 [.ref 168, .long u, .null, .int (nI w), .null] [] (hp I J F G X) = some (some (.long (dgT I F 0 4 (dgR I F 0 6 (dg (fun k => I (162 + 2 * k)) 0 3 (dg (tdF kd pt pr (rep np kd pt ds)) 0 (7 * np) (dg (fun w => nI (cntV np kd pt ds I g w)) w m u)))))), (hp I J F G X)) := by
  obtain ⟨hn7, h4, h168, hk, hk', hp', hp'', hA, hQ, hL⟩ := rel_ctx (G := G) (X := X) hR
  intro m
  induction m with
  | zero =>
    intro w u h1 h2
    have : w = 11 := by omega
    subst this
    have := dig2_y (d := d + 2) (J := J) (G := G) (X := X) hR.2.2.2.2.1 hL hA hR.2.2.2.2.2.2 hR.2.2.1 hR.2.2.2.1 (7 * np) 0 u rfl (Nat.zero_le _)
    rw [nI_0] at this
    rw [xX10_digest_6, if_pos (by decide), this]
    rfl
  | succ m ih =>
    intro w u h1 h2
    rw [xX10_digest_6, if_neg (show ¬ (11 : Int32) ≤ nI w from nI_ge (b := 11) (by omega) (by decide)), if_pos y_is, count_y hR hg hgu (by omega), Option.bind_some, nI_1, ih (w + 1) _ (by omega) (by omega)]
    rfl
end DG
theorem g_digest : gdL 121 245 0 := gdL_of (fun as hn I J F G X np kd pt pr ds ks hR hS => by
  obtain rfl := as0 hn
  have hn7 := hR.2.2.2.2.1.2.2.1
  have hD := hR.2.2.2.2.2.1.1
  obtain ⟨g, hg, hgu, hh⟩ := rep_prt hn7 hD.1 hD.2.1
  have e1 := dig1_x (d := 54) (G := G) (X := X) hR hg hgu hh 11 0 17 rfl (by omega)
  have e2 := dig1_y (d := 54) (G := G) (X := X) hR hg hgu 11 0 17 rfl (by omega)
  rw [nI_0] at e1 e2
  refine ⟨_, I, J, F, X, I, J, F, G, np, kd, pt, pr, ds, ks, cLo (by rw [List.map_nil, rX9_digest, xX9_digest_0]; exact e1), cLo (by rw [List.map_nil, rX10_digest, xX10_digest_0]; exact e2), hR, hS⟩)
