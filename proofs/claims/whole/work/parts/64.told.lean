/-! told nights: tonight, turn, after; messages -/
theorem in_b {d : Nat} {a x y : Int32} {h : mH} : cI (rn (d + 1)) 148 [.long a.toInt64, .long x.toInt64, .long y.toInt64] h = some (bI (decide (x ≤ a ∧ a ≤ y)), h) := by
  refine cIo ?_
  rw [rX10_in, xX10_in_0]
  by_cases z : a < x
  · rw [if_pos (by rw [lg_cmp_lt, i64]; exact z), bI_df (fun w => Int32.not_lt.mpr w.1 z)]
  · rw [if_neg (by rw [lg_cmp_lt, i64]; exact z)]
    by_cases z2 : y < a
    · rw [if_pos (by rw [lg_cmp_gt, i64]; exact z2), bI_df (fun w => Int32.not_lt.mpr w.2 z2)]
    · rw [if_neg (by rw [lg_cmp_gt, i64]; exact z2), bI_dt ⟨Int32.not_lt.mp z, Int32.not_lt.mp z2⟩]
def allB (p : Nat → Bool) : Nat → Nat → Bool
  | _, 0 => true
  | k, m + 1 => p k && allB p (k + 1) m
theorem allB_at {p : Nat → Bool} : ∀ (m k : Nat), allB p k m = true → ∀ j, k ≤ j → j < k + m → p j = true
  | 0, k, _, j, h1, h2 => absurd h2 (by omega)
  | m + 1, k, h, j, h1, h2 => by
    unfold allB at h
    rw [Bool.and_eq_true] at h
    by_cases e : j = k
    · subst e; exact h.1
    · exact allB_at m (k + 1) h.2 j (by omega) (by omega)
theorem allB_congr {p q : Nat → Bool} : ∀ (m k : Nat), (∀ j, k ≤ j → j < k + m → p j = q j) → allB p k m = allB q k m
  | 0, _, _ => rfl
  | m + 1, k, h => by
    unfold allB
    rw [h k (Nat.le_refl _) (by omega), allB_congr m (k + 1) (fun j h1 h2 => h j (by omega) (by omega))]
def sz (o : Option Nat) : Int32 := match o with
  | none => -1
  | some n => nI n
theorem sz_of {s : Int32} {b : Nat} (h : s = -1 ∨ ∃ n, n ≤ b ∧ s = nI n) : ∃ o : Option Nat, s = sz o ∧ ∀ n, o = some n → n ≤ b := by
  rcases h with h | ⟨n, h1, h2⟩
  · exact ⟨none, h, fun n z => by cases z⟩
  · exact ⟨some n, h2, fun m z => by cases z; exact h1⟩
def isN (v : Int32) : Bool := decide (v = 0) || decide (v = 1)
def isG (np : Nat) (v : Int32) : Bool := decide (v = -9) || (!decide (v < 0) && decide (v < nI np))
def nwN (o : Option Nat) (f : Nat → Int32) : Nat := match o with
  | none => 1
  | some n => if n ≤ 20 then (if allB (fun j => isN (f j)) 0 n = true then 0 else 3) else 5
def nwG (np most : Nat) (o : Option Nat) (f : Nat → Int32) : Nat := match o with
  | none => 1
  | some n => if n ≤ most then (if allB (fun j => isG np (f j)) 0 n = true then 0 else 3) else 5
theorem nwN_lt (o : Option Nat) (f : Nat → Int32) : nwN o f < 6 := by
  unfold nwN
  split
  · decide
  · split
    · split <;> decide
    · decide
theorem nwG_lt (np most : Nat) (o : Option Nat) (f : Nat → Int32) : nwG np most o f < 6 := by
  unfold nwG
  split
  · decide
  · split
    · split <;> decide
    · decide
theorem nwN_congr {o : Option Nat} {f g : Nat → Int32} (ho : ∀ n, o = some n → n ≤ 40) (h : ∀ k, k < 40 → f k = g k) : nwN o f = nwN o g := by
  cases o with
  | none => rfl
  | some n =>
    have := ho n rfl
    unfold nwN
    dsimp only
    rw [allB_congr (p := fun j => isN (f j)) (q := fun j => isN (g j)) n 0 (fun j h1 h2 => by rw [h j (by omega)])]
theorem nwG_congr {np most : Nat} {o : Option Nat} {f g : Nat → Int32} (ho : ∀ n, o = some n → n ≤ 40) (h : ∀ k, k < 40 → f k = g k) : nwG np most o f = nwG np most o g := by
  cases o with
  | none => rfl
  | some n =>
    have := ho n rfl
    unfold nwG
    dsimp only
    rw [allB_congr (p := fun j => isG np (f j)) (q := fun j => isG np (g j)) n 0 (fun j h1 h2 => by rw [h j (by omega)])]
theorem nwN_0 {o : Option Nat} {f : Nat → Int32} (h : nwN o f = 0) : ∃ n, o = some n ∧ n ≤ 20 ∧ ∀ j, j < n → f j = bI (decide (f j = 1)) := by
  cases o with
  | none => exact absurd (show (1 : Nat) = 0 from h) (by decide)
  | some n =>
    unfold nwN at h
    dsimp only at h
    by_cases z : n ≤ 20
    · rw [if_pos z] at h
      by_cases z2 : allB (fun j => isN (f j)) 0 n = true
      · refine ⟨n, rfl, z, fun j hj => ?_⟩
        have := allB_at n 0 z2 j (Nat.zero_le _) (by omega)
        simp only [isN, Bool.or_eq_true, decide_eq_true_eq] at this
        rcases this with e | e
        · rw [e]; rfl
        · rw [e]; rfl
      · rw [if_neg z2] at h; exact absurd h (by decide)
    · rw [if_neg z] at h; exact absurd h (by decide)
theorem nwG_0 {np most : Nat} {o : Option Nat} {f : Nat → Int32} (h : nwG np most o f = 0) : ∃ n, o = some n ∧ n ≤ most := by
  cases o with
  | none => exact absurd (show (1 : Nat) = 0 from h) (by decide)
  | some n =>
    unfold nwG at h
    dsimp only at h
    by_cases z : n ≤ most
    · exact ⟨n, rfl, z⟩
    · rw [if_neg z] at h; exact absurd h (by decide)
section WN
variable {I : Nat → Int32} {J : Nat → Int64} {F : Nat → Nat → Int32} {G : Nat → Int64} {X : Nat → va_E}
theorem wn_loop {d r n : Nat} (hr : r < 6) (hn : n ≤ 40) (h : I (142 + 2 * r) = nI n) : ∀ (m k : Nat), n - k = m → k ≤ n → ex cdX9_wrongInNights (rn d) 22 [.ref (142 + 2 * r), .int (nI k)] [] (hp I J F G X) = some (some (.int (if allB (fun j => isN (F (143 + 2 * r) j)) k m = true then 0 else 3)), (hp I J F G X)) := by
  intro m
  induction m with
  | zero =>
    intro k e1 e2
    have : k = n := by omega
    subst this
    rw [xX9_wrongInNights_22, x_rowN hr, Option.bind_some, h, if_pos (nI_le (Nat.le_refl _) (by omega))]
    rfl
  | succ m ih =>
    intro k e1 e2
    rw [xX9_wrongInNights_22, x_rowN hr, Option.bind_some, h, if_neg (nI_ge (by omega) (by omega)), x_rowF hr, Option.bind_some, x_rowg hr (by omega), Option.bind_some, nI_1]
    unfold allB
    by_cases z : F (143 + 2 * r) k = 0
    · rw [if_pos z, ih (k + 1) (by omega) (by omega), show isN (F (143 + 2 * r) k) = true by simp [isN, z], Bool.true_and]
    · rw [if_neg z, Option.bind_some, x_rowg hr (by omega), Option.bind_some]
      by_cases z2 : F (143 + 2 * r) k = 1
      · rw [if_pos z2, ih (k + 1) (by omega) (by omega), show isN (F (143 + 2 * r) k) = true by simp [isN, z2], Bool.true_and]
      · rw [if_neg z2, show isN (F (143 + 2 * r) k) = false by simp [isN, z, z2], Bool.false_and, if_neg (by decide)]
theorem wN_x {d r : Nat} {o : Option Nat} (hr : r < 6) (h : I (142 + 2 * r) = sz o) (ho : ∀ n, o = some n → n ≤ 40) : cI (rn (d + 2)) 141 [.ref (142 + 2 * r)] (hp I J F G X) = some (nI (nwN o (F (143 + 2 * r))), (hp I J F G X)) := by
  refine cIo ?_
  rw [rX9_wrongInNights, xX9_wrongInNights_0, if_pos (x_rowI hr)]
  cases o with
  | none => rw [miss_x hr h, Option.bind_some, if_neg one_ne]; rfl
  | some n =>
    have hn := ho n rfl
    have h' : I (142 + 2 * r) = nI n := h
    rw [miss_xn hr hn h', Option.bind_some, if_pos rfl, x_rowN hr, Option.bind_some, h']
    unfold nwN
    dsimp only
    by_cases z : n ≤ 20
    · have := wn_loop (d := d + 1) (J := J) (F := F) (G := G) (X := X) hr hn h' n 0 rfl (Nat.zero_le _)
      rw [nI_0] at this
      rw [if_pos (show nI n ≤ 20 from nI_le (b := 20) z (by decide)), this, if_pos z]
      by_cases z2 : allB (fun j => isN (F (143 + 2 * r) j)) 0 n = true
      · rw [if_pos z2, if_pos z2]; rfl
      · rw [if_neg z2, if_neg z2]; rfl
    · rw [if_neg (show ¬ nI n ≤ 20 from fun y => z ((nI_leI (b := 20) (by omega) (by decide)).mp y)), if_neg z]; rfl
theorem wg_loop {d r n np : Nat} {v2 : Int32} (hr : r < 6) (hn : n ≤ 40) (h : I (142 + 2 * r) = nI n) (h4 : I 4 = nI np) : ∀ (m k : Nat), n - k = m → k ≤ n → ex cdX9_wrongInGoers (rn (d + 1)) 21 [.ref 1, .ref (142 + 2 * r), .int v2, .int (nI k)] [] (hp I J F G X) = some (some (.int (if allB (fun j => isG np (F (143 + 2 * r) j)) k m = true then 0 else 3)), (hp I J F G X)) := by
  intro m
  induction m with
  | zero =>
    intro k e1 e2
    have : k = n := by omega
    subst this
    rw [xX9_wrongInGoers_21, x_rowN hr, Option.bind_some, h, if_pos (nI_le (Nat.le_refl _) (by omega))]
    rfl
  | succ m ih =>
    intro k e1 e2
    rw [xX9_wrongInGoers_21, x_rowN hr, Option.bind_some, h, if_neg (nI_ge (by omega) (by omega)), x_rowF hr, Option.bind_some, x_rowg hr (by omega), Option.bind_some, nI_1]
    unfold allB
    by_cases z : F (143 + 2 * r) k = -9
    · rw [if_pos z, ih (k + 1) (by omega) (by omega), show isG np (F (143 + 2 * r) k) = true by simp [isG, z], Bool.true_and]
    · rw [if_neg z, x_f2, Option.bind_some, Option.bind_some, x_rowg hr (by omega), Option.bind_some, if_pos x_ci, has_s (by omega) hp_C, Option.bind_some, h4]
      cases z2 : (!decide (F (143 + 2 * r) k < 0) && decide (F (143 + 2 * r) k < nI np)) with
      | false =>
        rw [if_pos (by rfl), show isG np (F (143 + 2 * r) k) = false by unfold isG; rw [z2, decide_eq_false z]; rfl, Bool.false_and, if_neg (by decide)]
      | true =>
        rw [if_neg (show ¬ bI true = 0 by decide), ih (k + 1) (by omega) (by omega), show isG np (F (143 + 2 * r) k) = true by unfold isG; rw [z2, Bool.or_true], Bool.true_and]
theorem wG_x {d r np most : Nat} {o : Option Nat} (hm : most < 1000) (hr : r < 6) (h : I (142 + 2 * r) = sz o) (ho : ∀ n, o = some n → n ≤ 40) (h4 : I 4 = nI np) : cI (rn (d + 2)) 142 [.ref 1, .ref (142 + 2 * r), .int (nI most)] (hp I J F G X) = some (nI (nwG np most o (F (143 + 2 * r))), (hp I J F G X)) := by
  refine cIo ?_
  rw [rX9_wrongInGoers, xX9_wrongInGoers_0, if_pos (x_rowI hr)]
  cases o with
  | none => rw [miss_x hr h, Option.bind_some, if_neg one_ne]; rfl
  | some n =>
    have hn := ho n rfl
    have h' : I (142 + 2 * r) = nI n := h
    rw [miss_xn hr hn h', Option.bind_some, if_pos rfl, x_rowN hr, Option.bind_some, h']
    unfold nwG
    dsimp only
    by_cases z : n ≤ most
    · have := wg_loop (d := d) (J := J) (F := F) (G := G) (X := X) (v2 := nI most) hr hn h' h4 n 0 rfl (Nat.zero_le _)
      rw [nI_0] at this
      rw [if_pos (nI_le z (by omega)), this, if_pos z]
      by_cases z2 : allB (fun j => isG np (F (143 + 2 * r) j)) 0 n = true
      · rw [if_pos z2, if_pos z2]; rfl
      · rw [if_neg z2, if_neg z2]; rfl
    · rw [if_neg (fun y => z ((nI_leI (by omega) (by omega)).mp y)), if_neg z]; rfl
-- the reference's
def elB (v2 v3 v : Int32) : Bool := decide ((0 : Int32) ≤ v ∧ v ≤ v3) || (decide (v2 = -9) && decide (v = -9))
theorem all_loop {d r n : Nat} {v2 v3 : Int32} (hr : r < 6) (hn : n ≤ 40) (h : F 173 r = nI n) : ∀ (m k : Nat) (b : Bool) (v6 : Value), n - k = m → k ≤ n → ex cdX10_areAll (rn (d + 1)) 6 [.ref 168, .int (nI r), .int v2, .int v3, .int (bI b), .int (nI k), v6] [] (hp I J F G X) = some (some (.int (bI (b && allB (fun j => elB v2 v3 (F 174 (40 * r + j))) k m))), (hp I J F G X)) := by
  intro m
  induction m with
  | zero =>
    intro k b v6 e1 e2
    have : k = n := by omega
    subst this
    rw [xX10_areAll_6, y_f5, Option.bind_some, y_g173 hr, Option.bind_some, h, if_pos (nI_le (Nat.le_refl _) (by omega)), if_pos (bI_and b)]
    unfold allB
    rw [Bool.and_true]
  | succ m ih =>
    intro k b v6 e1 e2
    rw [xX10_areAll_6, y_f5, Option.bind_some, y_g173 hr, Option.bind_some, h, if_neg (nI_ge (by omega) (by omega)), y_f6, Option.bind_some, c40, nI_add, y_g174 (by omega), Option.bind_some, nI_1]
    unfold allB
    have ih0 := fun v6 => ih (k + 1) false v6 (by omega) (by omega)
    have ih1 := fun v6 => ih (k + 1) true v6 (by omega) (by omega)
    rw [bI_f] at ih0
    rw [bI_t] at ih1
    cases b with
    | false => rw [bI_f, if_pos rfl, ih0]; simp
    | true =>
      rw [bI_t, if_neg one_ne, show (0 : Int64) = Int32.toInt64 0 from by decide, in_b, Option.bind_some]
      by_cases z : (0 : Int32) ≤ F 174 (40 * r + k) ∧ F 174 (40 * r + k) ≤ v3
      · rw [bI_dt z, if_neg one_ne, ih1]
        simp [elB, z]
      · rw [bI_df z, if_pos rfl]
        by_cases z2 : v2 = -9
        · rw [if_pos z2]
          by_cases z3 : F 174 (40 * r + k) = -9
          · rw [if_pos z3, ih1]
            simp [elB, z2, z3]
          · rw [if_neg z3, ih0]
            have : elB v2 v3 (F 174 (40 * r + k)) = false := by
              unfold elB
              rw [decide_eq_false z, decide_eq_false z3, Bool.and_false, Bool.or_false]
            simp [this]
        · rw [if_neg z2, ih0]
          have : elB v2 v3 (F 174 (40 * r + k)) = false := by
            unfold elB
            rw [decide_eq_false z, decide_eq_false z2, Bool.false_and, Bool.or_false]
          simp [this]
theorem all_y {d r n : Nat} {v2 v3 : Int32} (hr : r < 6) (hn : n ≤ 40) (h : F 173 r = nI n) : cI (rn (d + 2)) 203 [.ref 168, .int (nI r), .int v2, .int v3] (hp I J F G X) = some (bI (allB (fun j => elB v2 v3 (F 174 (40 * r + j))) 0 n), (hp I J F G X)) := by
  refine cIo ?_
  have := all_loop (d := d) (I := I) (J := J) (G := G) (X := X) (v2 := v2) (v3 := v3) hr hn h n 0 true .null rfl (Nat.zero_le _)
  rw [nI_0, bI_t, Bool.true_and] at this
  rw [rX10_areAll, xX10_areAll_0, this]
theorem el_N (v : Int32) : elB 0 1 v = isN v := by
  unfold elB isN
  rw [decide_eq_false (show ¬ (0 : Int32) = -9 by decide), Bool.false_and, Bool.or_false]
  by_cases h0 : v = 0
  · subst h0; rfl
  · by_cases h1 : v = 1
    · subst h1; rfl
    · rw [decide_eq_false h0, decide_eq_false h1]
      refine decide_eq_false (fun z => ?_)
      obtain ⟨j, hj, rfl⟩ := nI_of (Int32.not_lt.mpr z.1)
      have := (nI_leI (b := 1) hj (by decide)).mp z.2
      have : j = 0 ∨ j = 1 := by omega
      rcases this with rfl | rfl
      · exact h0 rfl
      · exact h1 rfl
theorem el_G {np : Nat} (hn : np ≤ 7) (v : Int32) : elB (-9) (nI np - 1) v = isG np v := by
  unfold elB isG
  rw [decide_eq_true (rfl : (-9 : Int32) = -9), Bool.true_and, Bool.or_comm]
  congr 1
  by_cases z : v < 0
  · rw [decide_eq_true z, decide_eq_false (fun y => Int32.not_lt.mpr y.1 z)]; rfl
  · rw [decide_eq_false z, Bool.not_false, Bool.true_and]
    obtain ⟨j, hj, rfl⟩ := nI_of z
    cases np with
    | zero =>
      rw [decide_eq_false (show ¬ nI j < nI 0 from nI_pos hj), decide_eq_false (fun y => ?_)]
      exact Int32.not_lt.mpr y.2 (Int32.lt_of_lt_of_le (show nI 0 - 1 < 0 by decide) (nI_pos' hj))
    | succ n =>
      rw [nI_pred]
      by_cases y : j ≤ n
      · rw [decide_eq_true ⟨nI_pos' hj, nI_le y (by omega)⟩, decide_eq_true (nI_lt (by omega) (by omega))]
      · rw [decide_eq_false (fun w => y ((nI_leI hj (by omega)).mp w.2)), decide_eq_false (fun w => y (by have := (nI_ltI hj (by omega)).mp w; omega))]
theorem noN_y0 {d r : Nat} {o : Option Nat} {g : Nat → Int32} (hr : r < 6) (h : F 173 r = sz o) (ho : ∀ n, o = some n → n ≤ 40) (hg : ∀ k, k < 40 → F 174 (40 * r + k) = g k) (hc : nwN o g = 0) : cI (rn (d + 3)) 201 [.ref 168, .int (nI r), .int 20] (hp I J F G X) = some (0, (hp I J F G X)) := by
  obtain ⟨n, rfl, hn20, -⟩ := nwN_0 hc
  have hn := ho n rfl
  have h' : F 173 r = nI n := h
  refine cIo ?_
  rw [rX10_noNights, xX10_noNights_0, y_f5, Option.bind_some, y_g173 hr, Option.bind_some, h', if_pos (nI_ge0 (by omega)), Option.bind_some, y_g173 hr, Option.bind_some, h', if_pos (show nI n ≤ 20 from nI_le (b := 20) hn20 (by decide)), if_pos y_is, all_y hr hn h', Option.bind_some]
  rw [allB_congr (q := fun j => isN (g j)) n 0 (fun j h1 h2 => by rw [el_N, hg j (by omega)])]
  unfold nwN at hc
  dsimp only at hc
  rw [if_pos hn20] at hc
  by_cases z : allB (fun j => isN (g j)) 0 n = true
  · rw [z, if_neg (show ¬ bI true = 0 by decide)]
  · rw [if_neg z] at hc; exact absurd hc (by decide)
theorem noN_y1 {d r c : Nat} {o : Option Nat} {g : Nat → Int32} (hr : r < 6) (h : F 173 r = sz o) (ho : ∀ n, o = some n → n ≤ 40) (hg : ∀ k, k < 40 → F 174 (40 * r + k) = g k) (hc : nwN o g = c) (hc0 : c ≠ 0) : cI (rn (d + 3)) 201 [.ref 168, .int (nI r), .int 20] (hp I J F G X) = some (-3, hp (upd I 170 (nI c)) J (upF F 177 (upd (F 177) c (F 177 c + 1))) G X) := by
  subst hc
  refine cIo ?_
  rw [rX10_noNights, xX10_noNights_0, y_f5, Option.bind_some, y_g173 hr, Option.bind_some, h]
  cases o with
  | none => rw [if_neg (show ¬ (0 : Int32) ≤ sz none by decide), if_pos y_is, fy1, Option.bind_some]; rfl
  | some n =>
    have hn := ho n rfl
    have h' : F 173 r = nI n := h
    rw [if_pos (show (0 : Int32) ≤ sz (some n) from nI_ge0 (by omega)), Option.bind_some, y_g173 hr, Option.bind_some, h']
    unfold nwN at hc0 ⊢
    dsimp only at hc0 ⊢
    by_cases z : n ≤ 20
    · rw [if_pos z] at hc0 ⊢
      rw [if_pos (show nI n ≤ 20 from nI_le (b := 20) z (by decide)), if_pos y_is, all_y hr hn h', Option.bind_some, allB_congr (q := fun j => isN (g j)) n 0 (fun j h1 h2 => by rw [el_N, hg j (by omega)])]
      by_cases z2 : allB (fun j => isN (g j)) 0 n = true
      · rw [if_pos z2] at hc0; exact absurd rfl hc0
      · rw [if_neg z2]
        rw [Bool.not_eq_true] at z2
        rw [z2, if_pos (by rfl), if_pos y_is, fy3, Option.bind_some]
    · rw [if_neg z, if_neg (show ¬ nI n ≤ 20 from fun y => z ((nI_leI (b := 20) (by omega) (by decide)).mp y)), if_pos y_is, fy5, Option.bind_some]
theorem noG_y0 {d r np most : Nat} {o : Option Nat} {g : Nat → Int32} (hm : most < 1000) (hnp : np ≤ 7) (h168 : I 168 = nI np) (hr : r < 6) (h : F 173 r = sz o) (ho : ∀ n, o = some n → n ≤ 40) (hg : ∀ k, k < 40 → F 174 (40 * r + k) = g k) (hc : nwG np most o g = 0) : cI (rn (d + 3)) 202 [.ref 168, .int (nI r), .int (nI most)] (hp I J F G X) = some (0, (hp I J F G X)) := by
  obtain ⟨n, rfl, hnm⟩ := nwG_0 hc
  have hn := ho n rfl
  have h' : F 173 r = nI n := h
  refine cIo ?_
  rw [rX10_noWent, xX10_noWent_0, y_f5, Option.bind_some, y_g173 hr, Option.bind_some, h', if_pos (nI_ge0 (by omega)), Option.bind_some, y_g173 hr, Option.bind_some, h', if_pos (nI_le hnm (by omega)), y_ps, Option.bind_some, h168, if_pos y_is, all_y hr hn h', Option.bind_some]
  rw [allB_congr (q := fun j => isG np (g j)) n 0 (fun j h1 h2 => by rw [el_G hnp, hg j (by omega)])]
  unfold nwG at hc
  dsimp only at hc
  rw [if_pos hnm] at hc
  by_cases z : allB (fun j => isG np (g j)) 0 n = true
  · rw [z, if_neg (show ¬ bI true = 0 by decide)]
  · rw [if_neg z] at hc; exact absurd hc (by decide)
theorem noG_y1 {d r np most c : Nat} {o : Option Nat} {g : Nat → Int32} (hm : most < 1000) (hnp : np ≤ 7) (h168 : I 168 = nI np) (hr : r < 6) (h : F 173 r = sz o) (ho : ∀ n, o = some n → n ≤ 40) (hg : ∀ k, k < 40 → F 174 (40 * r + k) = g k) (hc : nwG np most o g = c) (hc0 : c ≠ 0) : cI (rn (d + 3)) 202 [.ref 168, .int (nI r), .int (nI most)] (hp I J F G X) = some (-3, hp (upd I 170 (nI c)) J (upF F 177 (upd (F 177) c (F 177 c + 1))) G X) := by
  subst hc
  refine cIo ?_
  rw [rX10_noWent, xX10_noWent_0, y_f5, Option.bind_some, y_g173 hr, Option.bind_some, h]
  cases o with
  | none => rw [if_neg (show ¬ (0 : Int32) ≤ sz none by decide), if_pos y_is, fy1, Option.bind_some]; rfl
  | some n =>
    have hn := ho n rfl
    have h' : F 173 r = nI n := h
    rw [if_pos (show (0 : Int32) ≤ sz (some n) from nI_ge0 (by omega)), Option.bind_some, y_g173 hr, Option.bind_some, h']
    unfold nwG at hc0 ⊢
    dsimp only at hc0 ⊢
    by_cases z : n ≤ most
    · rw [if_pos z] at hc0 ⊢
      rw [if_pos (nI_le z (by omega)), y_ps, Option.bind_some, h168, if_pos y_is, all_y hr hn h', Option.bind_some, allB_congr (q := fun j => isG np (g j)) n 0 (fun j h1 h2 => by rw [el_G hnp, hg j (by omega)])]
      by_cases z2 : allB (fun j => isG np (g j)) 0 n = true
      · rw [if_pos z2] at hc0; exact absurd rfl hc0
      · rw [if_neg z2]
        rw [Bool.not_eq_true] at z2
        rw [z2, if_pos (by rfl), if_pos y_is, fy3, Option.bind_some]
    · rw [if_neg z, if_neg (fun y => z ((nI_leI (by omega) (by omega)).mp y)), if_pos y_is, fy5, Option.bind_some]
end WN
