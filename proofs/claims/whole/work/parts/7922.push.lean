/-! push, pair, cheap: the reference's loops -/
theorem upF_upF (F : Nat → Nat → Int32) (k : Nat) (f g : Nat → Int32) : upF (upF F k f) k g = upF F k g := by
  funext j
  by_cases e : j = k
  · subst e; rw [upF_eq, upF_eq]
  · rw [upF_ne e, upF_ne e, upF_ne e]
theorem fold_loop {α : Type} {N : Nat} (E : Nat → Option Nat → α → mH → mR) (S : mH → Prop) (O : Option Nat → Prop) (g : Nat → Option Nat) (hstep : ∀ v b x h, v < N → S h → O b → ∃ x' h', S h' ∧ O (omin b (g v)) ∧ E v b x h = E (v + 1) (omin b (g v)) x' h') (b0 : Option Nat) : ∀ (q v : Nat) (x : α) (h : mH), N - v = q → v ≤ N → S h → O (omin b0 (So g v)) → ∃ x' h', S h' ∧ O (omin b0 (So g N)) ∧ E v (omin b0 (So g v)) x h = E N (omin b0 (So g N)) x' h' := by
  intro q
  induction q with
  | zero =>
    intro v x h h1 h2 hS hO
    have : v = N := by omega
    subst this
    exact ⟨x, h, hS, hO, rfl⟩
  | succ q ih =>
    intro v x h h1 h2 hS hO
    obtain ⟨x', h', s1, s2, s3⟩ := hstep v _ x h (by omega) hS hO
    have e : omin (omin b0 (So g v)) (g v) = omin b0 (So g (v + 1)) := omin_as _ _ _
    rw [e] at s2 s3
    rw [s3]
    exact ih (v + 1) x' h' (by omega) (by omega) s1 s2
theorem apT_lB {np m P v : Nat} : ∀ (t : Nat) (A : LSt), lB np m A → A.1.length - 1 = P → (0 < t → 0 < P) → lB np m (apT P t v A)
  | 0, _, hA, _, _ => hA
  | t + 1, A, hA, hl, hP => by
    have hP' := hP (by omega)
    have hd : v / P ^ t % P < P := Nat.mod_lt _ hP'
    have h1 : v / P ^ t % P + 1 < A.1.length := by omega
    exact apT_lB t _ (swA_lB hA h1) (by rw [swA_len h1]; exact hl) (fun _ => hP')
theorem pw_pos {P t v : Nat} (h : v < P ^ t) : 0 < t → 0 < P := fun h0 => Classical.byContradiction (fun z => by
  rw [show P = 0 by omega, Nat.zero_pow h0] at h
  omega)
def Sth (I : Nat → Int32) (J : Nat → Int64) (F : Nat → Nat → Int32) (G : Nat → Int64) (X : Nat → va_E) (h : mH) : Prop := ∃ row st c, h = hp (upd I 175 c) J (tF F row st) G X ∧ ∀ k, k < 3940 → row k = F 169 k
section PU
variable {I : Nat → Int32} {J : Nat → Int64} {F : Nat → Nat → Int32} {G : Nat → Int64} {X : Nat → va_E} {np : Nat} {kd pt pr : Nat → Nat}
theorem Sth_0 : Sth I J F G X (hp I J F G X) := ⟨F 169, F 179, I 175, by rw [upd_same, tF_same], fun _ _ => rfl⟩
theorem try_y {d n i t v mm : Nat} {c : Int32} {row st : Nat → Int32} {A : LSt} (hi : i < 7) (hn7 : n ≤ 7) (hn : np ≤ 7) (hk : kOK (F 170) kd np) (hp' : ∀ k, k < np → F 171 k = nI (pt k) ∧ pt k < 1000) (hpr : ∀ i, i < np → F 172 i = nI (pr i) ∧ pr i < 10) (ht : t ≤ 3) (hv : v < (A.1.length - 1) ^ t) (hL : LineN (F 169) 0 np A) (hA : lB np mm A) (hm : mm < 800) (hr : ∀ k, k < 3940 → row k = F 169 k) : ∃ row1 row2 st2, cV (rn (d + 9)) 216 [.ref 168, .int (nI v), .int (nI t)] (hp (upd I 175 c) J (tF F row st) G X) = some (hp (upd I 175 (nI (csT pr (A.1.length - 1) t v A))) J (tF F row1 st) G X) ∧ cI (rn (d + 9)) 217 [.ref 168, .int (nI i), .int (nI n)] (hp (upd I 175 (nI (csT pr (A.1.length - 1) t v A))) J (tF F row1 st) G X) = some (oI ((gcT kd pt i n (apT (A.1.length - 1) t v A)).map (fun q => q.1)), hp (upd I 175 (nI (csT pr (A.1.length - 1) t v A))) J (tF F row2 st2) G X) ∧ (∀ q, gcT kd pt i n (apT (A.1.length - 1) t v A) = some q → LineN row2 3940 np q.2 ∧ lB np (mm + n) q.2 ∧ q.1 < n) ∧ (∀ k, k < 3940 → row1 k = F 169 k) ∧ ∀ k, k < 3940 → row2 k = F 169 k := by
  obtain ⟨row1, a1, a2, a3⟩ := layTr_y (d := d + 6) (I := I) (J := J) (F := F) (G := G) (X := X) (c := c) (st := st) hn ht hv hpr (keep0 hn hA hL hr) hA
  have hB : lB np mm (apT (A.1.length - 1) t v A) := apT_lB t A hA rfl (pw_pos hv)
  obtain ⟨row2, st2, b1, b2, b3⟩ := goesC_y (d := d) (I := upd I 175 (nI (csT pr (A.1.length - 1) t v A))) (J := J) (F := F) (G := G) (X := X) (st := st) hi hn7 hn hk hp' a2 hB hm
  exact ⟨row1, row2, st2, a1, b1, b2, fun k hk => by rw [a3 k hk, hr k hk], fun k hk => by rw [b3 k hk, a3 k hk, hr k hk]⟩
theorem rows_y {d t : Nat} {c : Int32} {row st : Nat → Int32} {A : LSt} {mm : Nat} (hn : np ≤ 7) (ht : t ≤ 3) (hL : LineN (F 169) 0 np A) (hA : lB np mm A) (hr : ∀ k, k < 3940 → row k = F 169 k) : cI (rn (d + 2)) 218 [.ref 168, .int (nI t)] (hp (upd I 175 c) J (tF F row st) G X) = some (nI ((A.1.length - 1) ^ t), hp (upd I 175 c) J (tF F row st) G X) :=
  tradeRows_y (lB_len hn hA) (by rw [tF_169, hr 2 (by omega)]; exact hL.2.1) ht
theorem push81 {d L t w r : Nat} {i n : Int32} {row st g : Nat → Int32} (hr : r < 6) (h2 : row 2 = nI L) (hl : L ≤ 7) (h2L : 0 < t → 2 ≤ L) (ht : t ≤ 3) (hw : w < 1000) : ∀ (q k : Nat) (f : Nat → Int32), t - k = q → k ≤ t → (∀ j, j < 40 → f (40 * r + j) = if j < k then nI (w / (L - 1) ^ (t - 1 - j) % (L - 1)) else 0) → ∃ f', ex cdX10_push (rn (d + 2)) 81 [.ref 168, .int i, .int n, .int (nI r), .int (nI t), .int (nI w), .int (nI k)] [] (hp I J (upF (upF (tF F row st) 173 g) 174 f) G X) = some (some (.int (nI t)), hp I J (upF (upF (tF F row st) 173 g) 174 f') G X) ∧ (∀ j, j < 40 → f' (40 * r + j) = if j < t then nI (w / (L - 1) ^ (t - 1 - j) % (L - 1)) else 0) ∧ ∀ j, (j < 40 * r ∨ 40 * r + 40 ≤ j) → f' j = f j := by
  intro q
  induction q with
  | zero =>
    intro k f h1 hk hf
    have : k = t := by omega
    subst this
    exact ⟨f, by rw [xX10_push_81, if_pos (nI_le (Nat.le_refl _) (by omega))], hf, fun _ _ => rfl⟩
  | succ q ih =>
    intro k f h1 hk hf
    obtain ⟨f', a1, a2, a3⟩ := ih (k + 1) (upd f (40 * r + k) (nI (w / (L - 1) ^ (t - 1 - k) % (L - 1)))) (by omega) (by omega) (fun j hj => by
      by_cases e : j = k
      · subst e; rw [upd_eq, if_pos (by omega)]
      · rw [upd_ne (by omega), hf j hj]
        by_cases e2 : j < k
        · rw [if_pos e2, if_pos (by omega)]
        · rw [if_neg e2, if_neg (by omega)])
    refine ⟨f', ?_, a2, fun j hj => by rw [a3 j hj, upd_ne (by omega)]⟩
    rw [xX10_push_81, if_neg (nI_ge (by omega) (by omega)), y_f6, Option.bind_some, if_pos y_is, tradeOf_y (L := L) (by rw [upF_ne (by decide), upF_ne (by decide), tF_169]; exact h2) (h2L (by omega)) hl (by omega) ht hw, Option.bind_some, c40, nI_add, y_s174 (by omega), Option.bind_some, upF_eq, upF_upF, nI_1]
    exact a1
theorem push_y {n i r mm : Nat} {A : LSt} (hi : i < np) (hn1 : 1 ≤ n) (hn7 : n ≤ 7) (hr : r < 6) (hn : np ≤ 7) (h168 : I 168 = nI np) (hk : kOK (F 170) kd np) (hp' : ∀ k, k < np → F 171 k = nI (pt k) ∧ pt k < 1000) (hpr : ∀ i, i < np → F 172 i = nI (pr i) ∧ pr i < 10) (hL : LineN (F 169) 0 np A) (hA : lB np mm A) (hm : mm < 800) :
    (fwT (fun A => rcT kd pt i none n none A) (A.1.length - 1) A = none → ∃ row st c, cI (rn 60) 219 [.ref 168, .int (nI i), .int (nI n), .int (nI r)] (hp I J F G X) = some (-9, hp (upd I 175 c) J (tF F row st) G X) ∧ ∀ k, k < 3940 → row k = F 169 k) ∧
    ∀ t w, fwT (fun A => rcT kd pt i none n none A) (A.1.length - 1) A = some t → fsT (fun A => rcT kd pt i none n none A) (A.1.length - 1) t A = some w → ∃ row st c f, cI (rn 60) 219 [.ref 168, .int (nI i), .int (nI n), .int (nI r)] (hp I J F G X) = some (nI t, hp (upd I 175 c) J (upF (upF (tF F row st) 173 (upd (F 173) r (nI t))) 174 f) G X) ∧ (∀ k, k < 3940 → row k = F 169 k) ∧ (∀ j, j < 40 → f (40 * r + j) = if j < t then nI (w / (A.1.length - 1) ^ (t - 1 - j) % (A.1.length - 1)) else 0) ∧ ∀ j, (j < 40 * r ∨ 40 * r + 40 ≤ j) → f j = F 174 j := by
  have hl := lB_len hn hA
  -- one number of trades
  have inner : ∀ t h, t ≤ 3 → Sth I J F G X h → (fsT (fun A => rcT kd pt i none n none A) (A.1.length - 1) t A = none → ∃ h', Sth I J F G X h' ∧ ex cdX10_push (rn 59) 41 [.ref 168, .int (nI i), .int (nI n), .int (nI r), .int (nI t), .int (nI 0), .null] [] h = ex cdX10_push (rn 59) 32 [.ref 168, .int (nI i), .int (nI n), .int (nI r), .int (nI (t + 1)), .int (nI ((A.1.length - 1) ^ t)), .null] [] h') ∧ ∀ w, fsT (fun A => rcT kd pt i none n none A) (A.1.length - 1) t A = some w → ∃ h', Sth I J F G X h' ∧ ex cdX10_push (rn 59) 41 [.ref 168, .int (nI i), .int (nI n), .int (nI r), .int (nI t), .int (nI 0), .null] [] h = (cV (rn 59) 155 [.ref 168, .int (nI r), .int (nI t)] h').bind fun h4 => ex cdX10_push (rn 59) 81 [.ref 168, .int (nI i), .int (nI n), .int (nI r), .int (nI t), .int (nI w), .int 0] [] h4 := by
    intro t h ht hS
    have hb := p6_le (P := A.1.length - 1) (j := t) (by omega) ht
    have := srch_loop (N := (A.1.length - 1) ^ t) (fun v _ h => ex cdX10_push (rn 59) 41 [.ref 168, .int (nI i), .int (nI n), .int (nI r), .int (nI t), .int (nI v), .null] [] h) (fun w h' => (cV (rn 59) 155 [.ref 168, .int (nI r), .int (nI t)] h').bind fun h4 => ex cdX10_push (rn 59) 81 [.ref 168, .int (nI i), .int (nI n), .int (nI r), .int (nI t), .int (nI w), .int 0] [] h4) (fun _ h' => ex cdX10_push (rn 59) 32 [.ref 168, .int (nI i), .int (nI n), .int (nI r), .int (nI (t + 1)), .int (nI ((A.1.length - 1) ^ t)), .null] [] h') (Sth I J F G X) (fun v => rcT kd pt i none n none (apT (A.1.length - 1) t v A)) (fun v x h hv hS => by
      obtain ⟨row, st, c, rfl, hrow⟩ := hS
      obtain ⟨row1, row2, st2, a1, a2, a3, a4, a5⟩ := try_y (d := 50) (I := I) (J := J) (F := F) (G := G) (X := X) (c := c) (st := st) (row := row) (show i < 7 by omega) hn7 hn hk hp' hpr ht hv hL hA hm hrow
      refine ⟨.null, _, ⟨row2, st2, nI (csT pr (A.1.length - 1) t v A), rfl, a5⟩, ?_⟩
      try dsimp only
      rw [xX10_push_41, if_pos y_is, rows_y (d := 57) hn ht hL hA hrow, Option.bind_some, if_neg (nI_ge hv (by omega)), if_pos y_is, a1, Option.bind_some, if_pos y_is, a2, Option.bind_some, rc_none]
      cases hg : gcT kd pt i n (apT (A.1.length - 1) t v A) with
      | none =>
        rw [if_pos (show oI (Option.map (fun q => q.1) (none : Option (Nat × LSt))) = -9 from rfl), if_neg (by decide), nI_1]
      | some q =>
        have hq := (a3 q hg).2.2
        rw [if_neg (show ¬ oI (Option.map (fun q => q.1) (some q)) = -9 from nI_ne9 (k := q.1) (by omega)), if_pos y_is, if_pos (show (some q).isSome = true from rfl)]) (fun x h hS => by
      obtain ⟨row, st, c, rfl, hrow⟩ := hS
      try dsimp only
      rw [xX10_push_41, if_pos y_is, rows_y (d := 57) hn ht hL hA hrow, Option.bind_some, if_pos (nI_le (Nat.le_refl _) (by omega)), nI_1]) ((A.1.length - 1) ^ t) 0 .null h rfl (Nat.zero_le _) hS rfl
    rw [fsT_eq]
    obtain ⟨z1, z2⟩ := this
    refine ⟨fun hz => ?_, z2⟩
    obtain ⟨-, h', y1, y2⟩ := z1 hz
    exact ⟨h', y1, y2⟩
  have outer := srch_loop (N := 4) (fun t x h => ex cdX10_push (rn 59) 32 [.ref 168, .int (nI i), .int (nI n), .int (nI r), .int (nI t), x, .null] [] h) (fun t h' => (cV (rn 59) 155 [.ref 168, .int (nI r), .int (nI t)] h').bind fun h4 => ex cdX10_push (rn 59) 81 [.ref 168, .int (nI i), .int (nI n), .int (nI r), .int (nI t), .int (nI ((fsT (fun A => rcT kd pt i none n none A) (A.1.length - 1) t A).getD 0)), .int 0] [] h4) (fun _ h' => some (some (.int (-9)), h')) (Sth I J F G X) (fun t => (fsT (fun A => rcT kd pt i none n none A) (A.1.length - 1) t A).isSome) (fun t x h ht hS => by
      obtain ⟨z1, z2⟩ := inner t h (by omega) hS
      cases hf : fsT (fun A => rcT kd pt i none n none A) (A.1.length - 1) t A with
      | none =>
        obtain ⟨h', y1, y2⟩ := z1 hf
        refine ⟨.int (nI ((A.1.length - 1) ^ t)), h', y1, ?_⟩
        try dsimp only
        rw [xX10_push_32, if_neg (show ¬ (4 : Int32) ≤ nI t from nI_ge (b := 4) (by omega) (by decide)), if_neg (by decide)]
        exact y2
      | some w =>
        obtain ⟨h', y1, y2⟩ := z2 w hf
        refine ⟨.null, h', y1, ?_⟩
        try dsimp only
        rw [xX10_push_32, if_neg (show ¬ (4 : Int32) ≤ nI t from nI_ge (b := 4) (by omega) (by decide)), if_pos (show (some w).isSome = true from rfl)]
        exact y2) (fun x h hS => by
      try dsimp only
      rw [xX10_push_32, if_pos (by decide)]) 4 0 .null (hp I J F G X) rfl (by omega) Sth_0 rfl
  obtain ⟨z1, z2⟩ := outer
  have start : ∀ R : mR, ex cdX10_push (rn 59) 32 [.ref 168, .int (nI i), .int (nI n), .int (nI r), .int (nI 0), .null, .null] [] (hp I J F G X) = R → rn 60 219 [.ref 168, .int (nI i), .int (nI n), .int (nI r)] (hp I J F G X) = R := by
    intro R hR
    rw [rX10_push, xX10_push_0, if_pos y_is, isP_y hn hi h168, Option.bind_some, if_neg one_ne, in_y1 (x := 1) (y := 7) (n := 7) (by decide) hn1 hn7 (by decide) (by decide), Option.bind_some, if_neg one_ne, isRow_y hr, Option.bind_some, if_neg one_ne]
    exact hR
  refine ⟨fun hz => ?_, fun t w hz hw => ?_⟩
  · obtain ⟨-, h', ⟨row, st, c, rfl, hrow⟩, y2⟩ := z1 hz
    exact ⟨row, st, c, cIo (start _ y2), hrow⟩
  · obtain ⟨h', ⟨row, st, c, rfl, hrow⟩, y2⟩ := z2 t hz
    rw [hw] at y2
    have ht : t ≤ 3 := by
      have : t < 4 := Sx_lt 4 (fun v hv y hy => by
        by_cases e : (fsT (fun A => rcT kd pt i none n none A) (A.1.length - 1) v A).isSome = true
        · rw [if_pos e] at hy; cases hy; exact hv
        · rw [if_neg e] at hy; cases hy) hz
      omega
    have hwl := fsT_lt hw
    have hb := p6_le (P := A.1.length - 1) (j := t) (by omega) ht
    obtain ⟨f, b1, b2, b3⟩ := push81 (d := 57) (I := upd I 175 c) (J := J) (F := F) (G := G) (X := X) (L := A.1.length) (t := t) (w := w) (r := r) (i := nI i) (n := nI n) (row := row) (st := st) (g := upd (F 173) r (nI t)) hr (by rw [hrow 2 (by omega)]; exact hL.2.1) hl (fun h0 => by have := pw_pos hwl h0; omega) ht (by omega) t 0 (fun j => if 40 * r ≤ j ∧ j < 40 * r + 40 then 0 else F 174 j) (by omega) (by omega) (fun j hj => by rw [if_pos (by omega), if_neg (by omega)])
    rw [nI_0] at b1
    refine ⟨row, st, c, f, cIo (start _ ?_), hrow, b2, fun j hj => by rw [b3 j hj, if_neg (by omega)]⟩
    refine Eq.trans y2 ?_
    rw [make_y hr, Option.bind_some, tF_ne (by decide) (by decide), tF_ne (by decide) (by decide)]
    exact b1
theorem pair_y {n i j mm : Nat} {A : LSt} (hi : i < np) (hj : j < np) (hij : i ≠ j) (hn1 : 1 ≤ n) (hn7 : n ≤ 7) (hn : np ≤ 7) (h168 : I 168 = nI np) (hk : kOK (F 170) kd np) (hp' : ∀ k, k < np → F 171 k = nI (pt k) ∧ pt k < 1000) (hpr : ∀ i, i < np → F 172 i = nI (pr i) ∧ pr i < 10) (hL : LineN (F 169) 0 np A) (hA : lB np mm A) (hm : mm < 800) : ∃ row st c, cI (rn 60) 220 [.ref 168, .int (nI i), .int (nI j), .int (nI n)] (hp I J F G X) = some (oI (fwT (fun A => rcT kd pt i (some j) n none A) (A.1.length - 1) A), hp (upd I 175 c) J (tF F row st) G X) ∧ ∀ k, k < 3940 → row k = F 169 k := by
  have hl := lB_len hn hA
  have inner : ∀ t h x0, t ≤ 3 → Sth I J F G X h → (fsT (fun A => rcT kd pt i (some j) n none A) (A.1.length - 1) t A = none → ∃ x' h', Sth I J F G X h' ∧ ex cdX10_pair (rn 59) 35 [.ref 168, .int (nI i), .int (nI j), .int (nI n), .int (nI t), .int (nI 0), x0] [] h = ex cdX10_pair (rn 59) 26 [.ref 168, .int (nI i), .int (nI j), .int (nI n), .int (nI (t + 1)), .int (nI ((A.1.length - 1) ^ t)), x'] [] h') ∧ ∀ w, fsT (fun A => rcT kd pt i (some j) n none A) (A.1.length - 1) t A = some w → ∃ h', Sth I J F G X h' ∧ ex cdX10_pair (rn 59) 35 [.ref 168, .int (nI i), .int (nI j), .int (nI n), .int (nI t), .int (nI 0), x0] [] h = some (some (.int (nI t)), h') := by
    intro t h x0 ht hS
    have hb := p6_le (P := A.1.length - 1) (j := t) (by omega) ht
    have := srch_loop (N := (A.1.length - 1) ^ t) (fun v x h => ex cdX10_pair (rn 59) 35 [.ref 168, .int (nI i), .int (nI j), .int (nI n), .int (nI t), .int (nI v), x] [] h) (fun _ h' => some (some (.int (nI t)), h')) (fun x h' => ex cdX10_pair (rn 59) 26 [.ref 168, .int (nI i), .int (nI j), .int (nI n), .int (nI (t + 1)), .int (nI ((A.1.length - 1) ^ t)), x] [] h') (Sth I J F G X) (fun v => rcT kd pt i (some j) n none (apT (A.1.length - 1) t v A)) (fun v x h hv hS => by
      obtain ⟨row, st, c, rfl, hrow⟩ := hS
      obtain ⟨row1, row2, st2, a1, a2, a3, a4, a5⟩ := try_y (d := 50) (I := I) (J := J) (F := F) (G := G) (X := X) (c := c) (st := st) (row := row) (show i < 7 by omega) hn7 hn hk hp' hpr ht hv hL hA hm hrow
      have hB : lB np mm (apT (A.1.length - 1) t v A) := apT_lB t A hA rfl (pw_pos hv)
      try dsimp only
      rw [xX10_pair_35, if_pos y_is, rows_y (d := 57) hn ht hL hA hrow, Option.bind_some, if_neg (nI_ge hv (by omega)), if_pos y_is, a1, Option.bind_some, if_pos y_is, a2, Option.bind_some, rc_some n mm none _ hB (by intro z; cases z)]
      cases hg : gcT kd pt i n (apT (A.1.length - 1) t v A) with
      | none =>
        refine ⟨.int (oI none), _, ⟨row2, st2, nI (csT pr (A.1.length - 1) t v A), rfl, a5⟩, ?_⟩
        have hf : prT kd pt i j n (apT (A.1.length - 1) t v A) = false := by unfold prT; rw [hg]
        rw [if_pos (show oI (Option.map (fun q => q.1) (none : Option (Nat × LSt))) = -9 from rfl), hf, if_neg (by decide), nI_1]
        rfl
      | some q =>
        obtain ⟨q1, q2, q3⟩ := a3 q hg
        rw [if_neg (show ¬ oI (Option.map (fun q => q.1) (some q)) = -9 from nI_ne9 (k := q.1) (by omega)), show oI (Option.map (fun q => q.1) (some q)) = nI q.1 from rfl, nI_1]
        by_cases hc : n ≤ q.1 + 1
        · refine ⟨.int (nI q.1), _, ⟨row2, st2, nI (csT pr (A.1.length - 1) t v A), rfl, a5⟩, ?_⟩
          have hf : prT kd pt i j n (apT (A.1.length - 1) t v A) = false := by
            unfold prT
            rw [hg]
            show (decide (q.1 + 1 < n) && _) = false
            rw [decide_eq_false (show ¬ q.1 + 1 < n by omega), Bool.false_and]
          rw [if_pos (nI_le hc (by omega)), hf, if_neg (by decide), nI_1]
        · obtain ⟨row3, st3, b1, b2, b3⟩ := passT_y (d := 51) (I := upd I 175 (nI (csT pr (A.1.length - 1) t v A))) (J := J) (F := F) (G := G) (X := X) (st := st2) q1 hn hk hp' q2 (by omega) true
          rw [bI_t] at b1
          have hlt : ∀ x, (passA kd pt q.2 true).1 = some x → x < 7 := fun x hx => Nat.lt_of_lt_of_le (passA_lt (kd := kd) (pt := pt) (c := true) (z := x) q2 hx) hn
          refine ⟨.int (nI q.1), _, ⟨row3, st3, nI (csT pr (A.1.length - 1) t v A), rfl, fun k hk => by rw [b3 k hk, a5 k hk]⟩, ?_⟩
          have hf : prT kd pt i j n (apT (A.1.length - 1) t v A) = decide ((passA kd pt q.2 true).1 = some j) := by
            unfold prT
            rw [hg]
            show (decide (q.1 + 1 < n) && _) = _
            rw [decide_eq_true (show q.1 + 1 < n by omega), Bool.true_and]
          rw [if_neg (nI_ge (show q.1 + 1 < n by omega) (by omega)), if_pos y_is, b1, Option.bind_some, hf]
          by_cases e : (passA kd pt q.2 true).1 = some j
          · rw [if_pos ((oI_iq hlt (by omega)).mpr e), if_pos (decide_eq_true e)]
          · rw [if_neg (fun z => e ((oI_iq hlt (by omega)).mp z)), if_neg (by rw [decide_eq_false e]; decide), nI_1]) (fun x h hS => by
      obtain ⟨row, st, c, rfl, hrow⟩ := hS
      try dsimp only
      rw [xX10_pair_35, if_pos y_is, rows_y (d := 57) hn ht hL hA hrow, Option.bind_some, if_pos (nI_le (Nat.le_refl _) (by omega)), nI_1]) ((A.1.length - 1) ^ t) 0 x0 h rfl (Nat.zero_le _) hS rfl
    rw [fsT_eq]
    exact this
  have outer := srch_loop (N := 4) (fun t x h => ex cdX10_pair (rn 59) 26 [.ref 168, .int (nI i), .int (nI j), .int (nI n), .int (nI t), x, x] [] h) (fun t h' => some (some (.int (nI t)), h')) (fun _ h' => some (some (.int (-9)), h')) (Sth I J F G X) (fun t => (fsT (fun A => rcT kd pt i (some j) n none A) (A.1.length - 1) t A).isSome) (fun t x h ht hS => by
      obtain ⟨z1, z2⟩ := inner t h x (by omega) hS
      cases hf : fsT (fun A => rcT kd pt i (some j) n none A) (A.1.length - 1) t A with
      | none =>
        obtain ⟨x', h', y1, y2⟩ := z1 hf
        refine ⟨x', h', y1, ?_⟩
        have same : ex cdX10_pair (rn 59) 26 [.ref 168, .int (nI i), .int (nI j), .int (nI n), .int (nI (t + 1)), .int (nI ((A.1.length - 1) ^ t)), x'] [] h' = ex cdX10_pair (rn 59) 26 [.ref 168, .int (nI i), .int (nI j), .int (nI n), .int (nI (t + 1)), x', x'] [] h' := by rw [xX10_pair_26, xX10_pair_26]
        try dsimp only
        rw [xX10_pair_26, if_neg (show ¬ (4 : Int32) ≤ nI t from nI_ge (b := 4) (by omega) (by decide)), if_neg (by decide), ← same]
        exact y2
      | some w =>
        obtain ⟨h', y1, y2⟩ := z2 w hf
        refine ⟨.null, h', y1, ?_⟩
        try dsimp only
        rw [xX10_pair_26, if_neg (show ¬ (4 : Int32) ≤ nI t from nI_ge (b := 4) (by omega) (by decide)), if_pos (show (some w).isSome = true from rfl)]
        exact y2) (fun x h hS => by
      try dsimp only
      rw [xX10_pair_26, if_pos (by decide)]) 4 0 .null (hp I J F G X) rfl (by omega) Sth_0 rfl
  obtain ⟨z1, z2⟩ := outer
  have start : ∀ R : mR, ex cdX10_pair (rn 59) 26 [.ref 168, .int (nI i), .int (nI j), .int (nI n), .int (nI 0), .null, .null] [] (hp I J F G X) = R → rn 60 220 [.ref 168, .int (nI i), .int (nI j), .int (nI n)] (hp I J F G X) = R := by
    intro R hR
    have h2 : cI (rn 59) 195 [.ref 168, .int (nI i), .int (nI j)] (hp I J F G X) = some (1, (hp I J F G X)) := by
      refine cIo ?_
      rw [rX10_areTwo, xX10_areTwo_0, if_pos y_is, isP_y hn hi h168, Option.bind_some, if_neg one_ne, if_pos y_is, isP_y hn hj h168, Option.bind_some, if_neg one_ne, if_neg (fun z => hij ((nI_inj (by omega) (by omega)).mp z))]
    rw [rX10_pair, xX10_pair_0, if_pos y_is, h2, Option.bind_some, if_neg one_ne, in_y1 (x := 1) (y := 7) (n := 7) (by decide) hn1 hn7 (by decide) (by decide), Option.bind_some, if_neg one_ne]
    exact hR
  cases hz : fwT (fun A => rcT kd pt i (some j) n none A) (A.1.length - 1) A with
  | none =>
    obtain ⟨-, h', ⟨row, st, c, rfl, hrow⟩, y2⟩ := z1 hz
    exact ⟨row, st, c, cIo (start _ y2), hrow⟩
  | some t =>
    obtain ⟨h', ⟨row, st, c, rfl, hrow⟩, y2⟩ := z2 t hz
    exact ⟨row, st, c, cIo (start _ y2), hrow⟩
theorem cheap_y {n i mm : Nat} {A : LSt} (hi : i < np) (hn1 : 1 ≤ n) (hn7 : n ≤ 7) (hn : np ≤ 7) (h168 : I 168 = nI np) (hk : kOK (F 170) kd np) (hp' : ∀ k, k < np → F 171 k = nI (pt k) ∧ pt k < 1000) (hpr : ∀ i, i < np → F 172 i = nI (pr i) ∧ pr i < 10) (hL : LineN (F 169) 0 np A) (hA : lB np mm A) (hm : mm < 800) : ∃ row st c, cI (rn 60) 221 [.ref 168, .int (nI i), .int (nI n)] (hp I J F G X) = some (oI (mnT (fun A => rcT kd pt i none n none A) pr (A.1.length - 1) 3 A 0), hp (upd I 175 c) J (tF F row st) G X) ∧ ∀ k, k < 3940 → row k = F 169 k := by
  have hl := lB_len hn hA
  have inner : ∀ t h x0 b0, t ≤ 3 → Sth I J F G X h → (∀ x, b0 = some x → x < 1000) → ∃ x' h', Sth I J F G X h' ∧ (∀ x, omin b0 (lev (fun A => rcT kd pt i none n none A) pr (A.1.length - 1) t A 0) = some x → x < 1000) ∧ ex cdX10_cheap (rn 59) 37 [.ref 168, .int (nI i), .int (nI n), .int (oI b0), .int (nI t), .int (nI 0), x0] [] h = ex cdX10_cheap (rn 59) 28 [.ref 168, .int (nI i), .int (nI n), .int (oI (omin b0 (lev (fun A => rcT kd pt i none n none A) pr (A.1.length - 1) t A 0))), .int (nI (t + 1)), .int (nI ((A.1.length - 1) ^ t)), x'] [] h' := by
    intro t h x0 b0 ht hS hb0
    have hb := p6_le (P := A.1.length - 1) (j := t) (by omega) ht
    have := fold_loop (N := (A.1.length - 1) ^ t) (fun v b (x : Value) h => ex cdX10_cheap (rn 59) 37 [.ref 168, .int (nI i), .int (nI n), .int (oI b), .int (nI t), .int (nI v), x] [] h) (Sth I J F G X) (fun b => ∀ x, b = some x → x < 1000) (fun v => if rcT kd pt i none n none (apT (A.1.length - 1) t v A) = true then some (0 + csT pr (A.1.length - 1) t v A) else none) (fun v b x h hv hS hO => by
      obtain ⟨row, st, c, rfl, hrow⟩ := hS
      obtain ⟨row1, row2, st2, a1, a2, a3, a4, a5⟩ := try_y (d := 50) (I := I) (J := J) (F := F) (G := G) (X := X) (c := c) (st := st) (row := row) (show i < 7 by omega) hn7 hn hk hp' hpr ht hv hL hA hm hrow
      have hcs : csT pr (A.1.length - 1) t v A < 100 := by
        cases t with
        | zero => exact (by decide : 0 < 100)
        | succ t =>
          have := csT_le (pr := pr) (v := v) (pw_pos hv (by omega)) (fun i hi => (hpr i hi).2) (t + 1) mm A hA rfl
          omega
      generalize csT pr (A.1.length - 1) t v A = cs at a1 a2 hcs
      try dsimp only
      rw [Nat.zero_add, rc_none]
      -- looked at
      have look : (b = none ∨ ∃ x, b = some x ∧ cs < x) → ∃ x' h', Sth I J F G X h' ∧ (∀ x, omin b (if (gcT kd pt i n (apT (A.1.length - 1) t v A)).isSome = true then some cs else none) = some x → x < 1000) ∧ ex cdX10_cheap (rn 59) 70 [.ref 168, .int (nI i), .int (nI n), .int (oI b), .int (nI t), .int (nI v), x] [] (hp (upd I 175 (nI cs)) J (tF F row1 st) G X) = ex cdX10_cheap (rn 59) 37 [.ref 168, .int (nI i), .int (nI n), .int (oI (omin b (if (gcT kd pt i n (apT (A.1.length - 1) t v A)).isSome = true then some cs else none))), .int (nI t), .int (nI (v + 1)), x'] [] h' := by
        intro hok
        rw [xX10_cheap_70, if_pos y_is, a2, Option.bind_some]
        cases hg : gcT kd pt i n (apT (A.1.length - 1) t v A) with
        | none =>
          refine ⟨.int 0, _, ⟨row2, st2, nI cs, rfl, a5⟩, ?_, ?_⟩
          · rw [if_neg (by decide), omin_n]; exact hO
          · rw [if_pos (show oI (Option.map (fun q => q.1) (none : Option (Nat × LSt))) = -9 from rfl), if_neg (by decide), omin_n, xX10_cheap_86, if_pos rfl, nI_1]
        | some q =>
          have hq := (a3 q hg).2.2
          have hom : omin b (some cs) = some cs := by
            rcases hok with rfl | ⟨x, rfl, hx⟩
            · rfl
            · show some (min x cs) = some cs
              rw [Nat.min_eq_right (by omega)]
          refine ⟨.int 1, _, ⟨row2, st2, nI cs, rfl, a5⟩, ?_, ?_⟩
          · rw [if_pos (show (some q).isSome = true from rfl), hom]; intro x hx; cases hx; omega
          · rw [if_neg (show ¬ oI (Option.map (fun q => q.1) (some q)) = -9 from nI_ne9 (k := q.1) (by omega)), if_pos (show (some q).isSome = true from rfl), hom, xX10_cheap_86, if_neg one_ne, y_pd, Option.bind_some, upd_eq, nI_1]
            rfl
      rw [xX10_cheap_37, if_pos y_is, rows_y (d := 57) hn ht hL hA hrow, Option.bind_some, if_neg (nI_ge hv (by omega)), if_pos y_is, a1, Option.bind_some]
      cases b with
      | none =>
        rw [if_pos (show oI none = -9 from rfl)]
        exact look (Or.inl rfl)
      | some x0 =>
        have hx0 := hO x0 rfl
        rw [if_neg (show ¬ oI (some x0) = -9 from nI_ne9 (by omega)), y_pd, Option.bind_some, upd_eq]
        by_cases e : x0 ≤ cs
        · have hom : omin (some x0) (if (gcT kd pt i n (apT (A.1.length - 1) t v A)).isSome = true then some cs else none) = some x0 := omin_le (c := cs) (fun y hy => by
            by_cases z : (gcT kd pt i n (apT (A.1.length - 1) t v A)).isSome = true
            · rw [if_pos z] at hy; cases hy; exact Nat.le_refl _
            · rw [if_neg z] at hy; cases hy) e
          rw [hom]
          refine ⟨.int 0, _, ⟨row1, st, nI cs, rfl, a4⟩, hO, ?_⟩
          rw [if_pos (show oI (some x0) ≤ nI cs from nI_le e (by omega)), xX10_cheap_86, if_pos rfl, nI_1]
        · rw [if_neg (show ¬ oI (some x0) ≤ nI cs from nI_ge (by omega) (by omega))]
          exact look (Or.inr ⟨x0, rfl, by omega⟩)) b0 ((A.1.length - 1) ^ t) 0 x0 h rfl (Nat.zero_le _) hS (by rw [show So _ 0 = none from rfl, omin_n]; exact hb0)
    obtain ⟨x', h', ⟨row, st, c, rfl, hrow⟩, s2, s3⟩ := this
    refine ⟨x', _, ⟨row, st, c, rfl, hrow⟩, s2, ?_⟩
    rw [show So _ 0 = none from rfl, omin_n] at s3
    refine Eq.trans s3 ?_
    rw [xX10_cheap_37, if_pos y_is, rows_y (d := 57) hn ht hL hA hrow, Option.bind_some, if_pos (nI_le (Nat.le_refl _) (by omega)), nI_1]
    rfl
  have outer := fold_loop (N := 4) (fun t b (x : Value × Value) h => ex cdX10_cheap (rn 59) 28 [.ref 168, .int (nI i), .int (nI n), .int (oI b), .int (nI t), x.1, x.2] [] h) (Sth I J F G X) (fun b => ∀ x, b = some x → x < 1000) (fun t => lev (fun A => rcT kd pt i none n none A) pr (A.1.length - 1) t A 0) (fun t b x h ht hS hO => by
      obtain ⟨x', h', y1, y2, y3⟩ := inner t h x.2 b (by omega) hS hO
      refine ⟨(.int (nI ((A.1.length - 1) ^ t)), x'), h', y1, y2, ?_⟩
      try dsimp only
      rw [xX10_cheap_28, if_neg (show ¬ (4 : Int32) ≤ nI t from nI_ge (b := 4) (by omega) (by decide))]
      exact y3) none 4 0 (.null, .null) (hp I J F G X) rfl (by omega) Sth_0 (fun x hx => by cases hx)
  have hmn : omin none (So (fun t => lev (fun A => rcT kd pt i none n none A) pr (A.1.length - 1) t A 0) 4) = mnT (fun A => rcT kd pt i none n none A) pr (A.1.length - 1) 3 A 0 := by
    rw [mn_lev, mn_lev, mn_lev]
    rfl
  rw [hmn] at outer
  obtain ⟨x', h', ⟨row, st, c, rfl, hrow⟩, -, y3⟩ := outer
  refine ⟨row, st, c, cIo ?_, hrow⟩
  rw [rX10_cheap, xX10_cheap_0, if_pos y_is, isP_y hn hi h168, Option.bind_some, if_neg one_ne, in_y1 (x := 1) (y := 7) (n := 7) (by decide) hn1 hn7 (by decide) (by decide), Option.bind_some, if_neg one_ne]
  refine Eq.trans y3 ?_
  try dsimp only
  rw [xX10_cheap_28, if_pos (by decide)]
end PU
