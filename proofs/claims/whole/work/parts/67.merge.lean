/-! two lines that become one -/
def Pm : Nat → Nat → Nat
  | _, 0 => 1
  | 0, _ + 1 => 1
  | i + 1, k + 1 => Pm (i + 1) k + Pm i (k + 1)
theorem Pm_0 (k : Nat) : Pm 0 k = 1 := by cases k <;> simp [Pm]
theorem Pm_k (i : Nat) : Pm i 0 = 1 := by cases i <;> simp [Pm]
theorem Pm_s (i k : Nat) : Pm (i + 1) (k + 1) = Pm (i + 1) k + Pm i (k + 1) := by rw [Pm]
theorem Pm_QR : ∀ a : Nat, (∀ k, (k + 1) * Pm a (k + 1) = (a + k + 1) * Pm a k) ∧ ∀ k, (a + 1) * Pm (a + 1) k = (a + k + 1) * Pm a k := by
  have R : ∀ a, (∀ k, (k + 1) * Pm a (k + 1) = (a + k + 1) * Pm a k) → ∀ k, (a + 1) * Pm (a + 1) k = (a + k + 1) * Pm a k := by
    intro a Q k
    induction k with
    | zero => rw [Pm_k, Pm_k]
    | succ k ih =>
      have q := Q k
      rw [Pm_s, Nat.mul_add, ih, ← q, show a + (k + 1) + 1 = (k + 1) + (a + 1) by omega]
      exact (Nat.add_mul (k + 1) (a + 1) _).symm
  intro a
  induction a with
  | zero =>
    have Q : ∀ k, (k + 1) * Pm 0 (k + 1) = (0 + k + 1) * Pm 0 k := fun k => by rw [Pm_0, Pm_0]; omega
    exact ⟨Q, R 0 Q⟩
  | succ a ih =>
    have Q : ∀ k, (k + 1) * Pm (a + 1) (k + 1) = (a + 1 + k + 1) * Pm (a + 1) k := fun k => by
      rw [Pm_s, Nat.mul_add, ih.1 k, ← ih.2 k, show a + 1 + k + 1 = (k + 1) + (a + 1) by omega]
      exact (Nat.add_mul (k + 1) (a + 1) _).symm
    exact ⟨Q, R (a + 1) Q⟩
theorem Pm_step (a k : Nat) : Pm a k * (a + (k + 1)) / (k + 1) = Pm a (k + 1) := by
  have := (Pm_QR a).1 k
  rw [Nat.mul_comm (Pm a k), ← Nat.add_assoc, ← this, Nat.mul_div_cancel_left _ (by omega)]
theorem Pm_le : ∀ (i k : Nat), Pm i k ≤ 2 ^ (i + k)
  | i, 0 => by rw [Pm_k]; exact Nat.two_pow_pos _
  | 0, k + 1 => by rw [Pm_0]; exact Nat.two_pow_pos _
  | i + 1, k + 1 => by
    have h1 := Pm_le (i + 1) k
    have h2 := Pm_le i (k + 1)
    rw [Pm_s, show i + 1 + (k + 1) = (i + k + 1) + 1 by omega, Nat.pow_succ]
    rw [show i + 1 + k = i + k + 1 by omega] at h1
    rw [show i + (k + 1) = i + k + 1 by omega] at h2
    omega
theorem Pm_lt {i k : Nat} (hi : i ≤ 20) (hk : k ≤ 20) : Pm i k ≤ 2 ^ 40 := Nat.le_trans (Pm_le i k) (Nat.pow_le_pow_right (by decide) (by omega))
theorem two_ways {d : Nat} {I : Nat → Int32} {J : Nat → Int64} {F : Nat → Nat → Int32} {G : Nat → Int64} {X : Nat → va_E} (w : Int64) : cV (rn (d + 1)) 131 [.ref 1, .long w] (hp I J F G X) = some (hp I (vp_updL (vp_updL J 1 w) 2 1) F G X) := by
  refine cVo ?_
  rw [rX9_tellWays, xX9_tellWays_0, x_pup, Option.bind_some, x_plo, Option.bind_some]
theorem updL_eq (f : Nat → Int64) (k : Nat) (x : Int64) : vp_updL f k x k = x := pk_uLs
theorem updL_ne {f : Nat → Int64} {k j : Nat} {x : Int64} (h : j ≠ k) : vp_updL f k x j = f j := pk_uLn h
theorem rel_ways {I : Nat → Int32} {J : Nat → Int64} {F : Nat → Nat → Int32} {np : Nat} {kd pt pr : Nat → Nat} {ds : List Nat} {ks : Nat → Option (List Nat)} (u l : Int64) (h : RelA np kd pt pr ds ks I J F) : RelA np kd pt pr ds ks I (vp_updL (vp_updL (vp_updL (vp_updL J 1 u) 2 l) 168 u) 169 l) F := by
  obtain ⟨h1, h2⟩ := h
  refine ⟨⟨h1.1, h1.2.1, ?_, ?_⟩, h2⟩
  · rw [updL_ne (by decide), updL_ne (by decide), updL_ne (by decide), updL_eq, updL_ne (by decide), updL_eq]
  · rw [updL_ne (by decide), updL_ne (by decide), updL_eq, updL_eq]
section MG
variable {I : Nat → Int32} {J : Nat → Int64} {F : Nat → Nat → Int32} {G : Nat → Int64} {X : Nat → va_E}
theorem y_gL {k : Nat} (hk : k < 41) : aL (hp I J F G X) 182 (nI k) = some (G k) := by
  simp only [aL, k182, arL, vin_nI hk (show 41 < 2 ^ 31 by decide), nI_clamp (show k < 2 ^ 31 by omega), if_true]
theorem y_sL {k : Nat} (hk : k < 41) (x : Int64) : sL (hp I J F G X) 182 (nI k) x = some (hp I J F (vp_updL G k x) X) := by
  have e : (hp I J F G X).set 182 (arL 41 (vp_updL G k x)) = hp I J F (vp_updL G k x) X := (hp_sb (k := 42)).trans rfl
  simp only [sL, k182, arL, vin_nI hk (show 41 < 2 ^ 31 by decide), nI_clamp (show k < 2 ^ 31 by omega), if_true]
  exact congrArg some e
theorem merge_x {d a b : Nat} (ha : a ≤ 20) (hb : b ≤ 20) : ∀ (m k : Nat), b - k = m → k ≤ b → ex cdX9_merge (rn (d + 1)) 27 [.ref 1, .int (nI a), .int (nI b), .long (lN (Pm a k)), .null, .int (nI (k + 1))] [] (hp I J F G X) = some (some (.int 1), hp I (vp_updL (vp_updL J 1 (lN (Pm a b))) 2 1) F G X) := by
  intro m
  induction m with
  | zero =>
    intro k h1 h2
    have : k = b := by omega
    subst this
    rw [xX9_merge_27, if_pos (nI_lt (by omega) (by omega)), if_pos x_is, two_ways, Option.bind_some]
  | succ m ih =>
    intro k h1 h2
    have h3 := Pm_lt ha (show k ≤ 20 by omega)
    have hz : ¬ (nI (k + 1)).toInt64 = 0 := by
      rw [nI_l (by omega)]
      exact fun z => by have := (lN_eq (b := 0) (by omega) (by decide)).mp z; omega
    have h4 : Pm a k * (a + (k + 1)) < 2 ^ 63 := by
      have : Pm a k * (a + (k + 1)) ≤ 2 ^ 40 * 41 := Nat.mul_le_mul h3 (by omega)
      omega
    rw [xX9_merge_27, if_neg (nI_nlt (by omega) (by omega)), if_neg hz, nI_add, nI_l (by omega), nI_l (by omega), lN_mul, pk_lDiv h4 (by omega) (by omega), Pm_step, nI_1]
    exact ih (k + 1) (by omega) (by omega)
theorem minit_y {d b : Nat} {v1 : Int32} (hb : b ≤ 20) : ∀ (m k : Nat) (G : Nat → Int64), b + 1 - k = m → k ≤ b + 1 → (∀ j, j < k → G j = 1) → ∃ G', ex cdX10_merge (rn d) 28 [.ref 168, .int v1, .int (nI b), .int (nI k), .null] [] (hp I J F G X) = ex cdX10_merge (rn d) 48 [.ref 168, .int v1, .int (nI b), .int 0, .null] [] (hp I J F G' X) ∧ ∀ j, j ≤ b → G' j = 1 := by
  intro m
  induction m with
  | zero =>
    intro k G h1 h2 h3
    have : k = b + 1 := by omega
    subst this
    refine ⟨G, ?_, fun j hj => h3 j (by omega)⟩
    rw [xX10_merge_28, if_pos (nI_lt (by omega) (by omega))]
  | succ m ih =>
    intro k G h1 h2 h3
    obtain ⟨G', g1, g2⟩ := ih (k + 1) (vp_updL G k 1) (by omega) (by omega) (fun j hj => by
      by_cases e : j = k
      · subst e; rw [updL_eq]
      · rw [updL_ne e]; exact h3 j (by omega))
    refine ⟨G', ?_, g2⟩
    rw [xX10_merge_28, if_neg (nI_nlt (by omega) (by omega)), y_f23, Option.bind_some, y_sL (by omega), Option.bind_some, nI_1]
    exact g1
theorem mrow_y {d b i : Nat} {v1 : Int32} (hb : b ≤ 20) : ∀ (m k : Nat) (G : Nat → Int64), b + 1 - k = m → 1 ≤ k → k ≤ b + 1 → (∀ j, j < k → G j = lN (Pm (i + 1) j)) → (∀ j, k ≤ j → j ≤ b → G j = lN (Pm i j)) → ∃ G' v4, ex cdX10_merge (rn d) 56 [.ref 168, .int v1, .int (nI b), .int (nI i), .int (nI k)] [] (hp I J F G X) = ex cdX10_merge (rn d) 48 [.ref 168, .int v1, .int (nI b), .int (nI (i + 1)), v4] [] (hp I J F G' X) ∧ ∀ j, j ≤ b → G' j = lN (Pm (i + 1) j) := by
  intro m
  induction m with
  | zero =>
    intro k G h1 h0 h2 h3 h4
    have : k = b + 1 := by omega
    subst this
    refine ⟨G, .int (nI (b + 1)), ?_, fun j hj => h3 j (by omega)⟩
    rw [xX10_merge_56, if_pos (nI_lt (by omega) (by omega)), nI_1]
  | succ m ih =>
    intro k G h1 h0 h2 h3 h4
    obtain ⟨k, rfl⟩ : ∃ j, k = j + 1 := ⟨k - 1, by omega⟩
    have e : lN (Pm i (k + 1)) + lN (Pm (i + 1) k) = lN (Pm (i + 1) (k + 1)) := by rw [lN_add, Pm_s, Nat.add_comm]
    obtain ⟨G', v4, g1, g2⟩ := ih (k + 1 + 1) (vp_updL G (k + 1) (lN (Pm (i + 1) (k + 1)))) (by omega) (by omega) (by omega) (fun j hj => by
      by_cases e : j = k + 1
      · subst e; rw [updL_eq]
      · rw [updL_ne e]; exact h3 j (by omega)) (fun j j1 j2 => by rw [updL_ne (by omega)]; exact h4 j (by omega) j2)
    refine ⟨G', v4, ?_, g2⟩
    rw [xX10_merge_56, if_neg (nI_nlt (by omega) (by omega)), y_f23, Option.bind_some, y_gL (by omega), Option.bind_some, Option.bind_some, nI_pred, y_gL (by omega), Option.bind_some, h4 (k + 1) (Nat.le_refl _) (by omega), h3 k (by omega), e, y_sL (by omega), Option.bind_some, nI_1]
    exact g1
theorem merge_y {d a b : Nat} (ha : a ≤ 20) (hb : b ≤ 20) : ∀ (m i : Nat) (G : Nat → Int64) (v4 : Value), a - i = m → i ≤ a → (∀ j, j ≤ b → G j = lN (Pm i j)) → ∃ G', ex cdX10_merge (rn d) 48 [.ref 168, .int (nI a), .int (nI b), .int (nI i), v4] [] (hp I J F G X) = some (some (.int 1), hp I (vp_updL (vp_updL J 168 (lN (Pm a b))) 169 1) F G' X) := by
  intro m
  induction m with
  | zero =>
    intro i G v4 h1 h2 h3
    have : i = a := by omega
    subst this
    refine ⟨G, ?_⟩
    rw [xX10_merge_48, if_pos (nI_le (Nat.le_refl _) (by omega)), y_f23, Option.bind_some, y_gL (by omega), Option.bind_some, h3 b (Nat.le_refl _), y_pup, Option.bind_some, y_plo, Option.bind_some]
  | succ m ih =>
    intro i G v4 h1 h2 h3
    obtain ⟨G1, v4', g1, g2⟩ := mrow_y (d := d) (i := i) (v1 := nI a) (I := I) (J := J) (F := F) (X := X) hb b 1 G (by omega) (by omega) (by omega) (fun j hj => by
      have : j = 0 := by omega
      subst this
      rw [h3 0 (Nat.zero_le _), Pm_k, Pm_k]) (fun j j1 j2 => h3 j j2)
    obtain ⟨G', e1⟩ := ih (i + 1) G1 v4' (by omega) (by omega) g2
    refine ⟨G', ?_⟩
    have g1' : ex cdX10_merge (rn d) 56 [.ref 168, .int (nI a), .int (nI b), .int (nI i), .int 1] [] (hp I J F G X) = _ := g1
    rw [xX10_merge_48, if_neg (nI_ge (by omega) (by omega)), g1', e1]
end MG
theorem g_merge : gdI 111 231 2 := gdI_of (fun as hn I J F G X np kd pt pr ds ks hR hS => by
  obtain ⟨v, w, rfl⟩ := as2 hn
  show okI _ _ [.int v, .int w] I J F G X
  have nb : ∀ {v : Int32}, bad v 21 → ¬ v < 0 → (20 : Int32) < v := by
    intro v hv z
    rcases hv with e | e
    · exact absurd e z
    · exact Int32.lt_of_lt_of_le (by decide) e
  rcases ix v (n := 21) (by decide) with hv | ⟨a, ha, rfl⟩
  · refine okI_same (v := -1) hR hS ?_ ?_
    · refine cIo ?_; rw [rX9_merge, xX9_merge_0]
      by_cases z : v < 0
      · rw [if_pos z]
      · rw [if_neg z, if_pos (nb hv z)]
    · refine cIo ?_; rw [rX10_merge, xX10_merge_0, in_yn (x := 0) (y := 20) (n := 21) (by decide) hv (by decide) (by decide), Option.bind_some, if_pos rfl]
  have z1 : ¬ nI a < 0 := nI_pos (by omega)
  have z2 : ¬ (20 : Int32) < nI a := fun z => by have := (nI_ltI (a := 20) (by decide) (by omega)).mp z; omega
  rcases ix w (n := 21) (by decide) with hw | ⟨b, hb, rfl⟩
  · refine okI_same (v := -1) hR hS ?_ ?_
    · refine cIo ?_; rw [rX9_merge, xX9_merge_0, if_neg z1, if_neg z2]
      by_cases z : w < 0
      · rw [if_pos z]
      · rw [if_neg z, if_neg (Int32.not_le.mpr (nb hw z))]
    · refine cIo ?_; rw [rX10_merge, xX10_merge_0, in_y (x := 0) (y := 20) (n := 21) (by decide) ha rfl (by decide) (by decide), Option.bind_some, if_neg one_ne, in_yn (x := 0) (y := 20) (n := 21) (by decide) hw (by decide) (by decide), Option.bind_some, if_pos rfl]
  have e1 := merge_x (d := 58) (I := I) (J := J) (F := F) (G := G) (X := X) (show a ≤ 20 by omega) (show b ≤ 20 by omega) b 0 rfl (Nat.zero_le _)
  rw [Pm_k] at e1
  obtain ⟨G1, i1, i2⟩ := minit_y (d := 59) (b := b) (v1 := nI a) (I := I) (J := vp_updL (vp_updL J 1 (lN (Pm a b))) 2 1) (F := F) (X := X) (by omega) (b + 1) 0 G (by omega) (by omega) (fun j hj => absurd hj (by omega))
  obtain ⟨G2, e2⟩ := merge_y (d := 59) (I := I) (J := vp_updL (vp_updL J 1 (lN (Pm a b))) 2 1) (F := F) (X := X) (show a ≤ 20 by omega) (show b ≤ 20 by omega) a 0 G1 .null rfl (Nat.zero_le _) (fun j hj => by rw [i2 j hj, Pm_0]; rfl)
  rw [nI_0] at i1 e2
  refine okI_mk (v := 1) (I1 := I) (J1 := vp_updL (vp_updL J 1 (lN (Pm a b))) 2 1) (F1 := F) (X1 := X) (G2 := G2) ?_ ?_ (rel_ways (lN (Pm a b)) 1 hR) hS
  · refine cIo ?_; rw [rX9_merge, xX9_merge_0, if_neg z1, if_neg z2, if_neg (nI_pos (by omega)), if_pos (show nI b ≤ 20 from nI_le (b := 20) (by omega) (by decide))]
    exact e1
  · refine cIo ?_; rw [rX10_merge, xX10_merge_0, in_y (x := 0) (y := 20) (n := 21) (by decide) ha rfl (by decide) (by decide), Option.bind_some, if_neg one_ne, in_y (x := 0) (y := 20) (n := 21) (by decide) hb rfl (by decide) (by decide), Option.bind_some, if_neg one_ne, i1, e2])
/-! merged -/
def mo1 (x z : Nat → Int32) (R : Nat → Nat → Bool) : Nat → Nat → Bool
  | 0, _ => false
  | i + 1, k => R i k && decide (x i = z (i + k))
def mo2 (y z : Nat → Int32) (R : Nat → Nat → Bool) : Nat → Nat → Bool
  | _, 0 => false
  | i, k + 1 => R i k && decide (y k = z (i + k))
def Rm (x y z : Nat → Int32) : Nat → Nat → Bool
  | 0, 0 => true
  | 0, k + 1 => Rm x y z 0 k && decide (y k = z (0 + k))
  | i + 1, 0 => Rm x y z i 0 && decide (x i = z (i + 0))
  | i + 1, k + 1 => (Rm x y z i (k + 1) && decide (x i = z (i + (k + 1)))) || (Rm x y z (i + 1) k && decide (y k = z (i + 1 + k)))
theorem Rm_eq (x y z : Nat → Int32) (i k : Nat) : Rm x y z i k = (decide (i + k = 0) || (mo1 x z (Rm x y z) i k || mo2 y z (Rm x y z) i k)) := by
  match i, k with
  | 0, 0 => simp [Rm]
  | 0, k + 1 => simp [Rm, mo1, mo2]
  | i + 1, 0 => simp [Rm, mo1, mo2]
  | i + 1, k + 1 => rw [Rm]; simp [mo1, mo2]
theorem bI_ite {α : Type} (b : Bool) (x y : α) : (if bI b = 0 then x else y) = (if b = true then y else x) := by
  cases b with
  | false => rw [if_pos (by rfl), if_neg (by decide)]
  | true => rw [if_neg (show ¬ bI true = 0 by decide), if_pos rfl]
section IM
variable {I : Nat → Int32} {J : Nat → Int64} {F : Nat → Nat → Int32} {G : Nat → Int64} {X : Nat → va_E}
theorem x_g140 {k : Nat} (hk : k < 41) : aI 3 (hp I J F G X) 140 (nI k) = some (F 140 k) := by rw [aI_at k140 (vin_nI hk (by decide)), nI_clamp (by omega)]
theorem x_n140 : aN (hp I J F G X) 140 = some (nI 41) := by simp [aN, k140, arZ, nI]
theorem x_s140 {k : Nat} (hk : k < 41) (b : Bool) : sZ (hp I J F G X) 140 (nI k) (bI b) = some (hp I J (upF F 140 (upd (F 140) k (bI b))) G X) := by
  have e : (hp I J F G X).set 140 (arZ 41 (upd (F 140) k (bI b))) = hp I J (upF F 140 (upd (F 140) k (bI b))) G X := (hp_sb (k := 0)).trans rfl
  have hv : vp_nar .boolean (bI b) = bI b := by cases b <;> rfl
  unfold sZ
  rw [k140]
  unfold arZ
  dsimp only
  rw [if_pos rfl, if_pos (vin_nI hk (by decide)), nI_clamp (by omega), hv]
  exact congrArg some e
variable {r q t a b : Nat} {x y z : Nat → Int32}
theorem im_C {d i k : Nat} {p s : Bool} {v7 : Value} (hi : i ≤ 40) (hk : k ≤ 40) : ex cdX9_isMerge (rn d) 126 [.ref 1, .ref (142 + 2 * r), .ref (142 + 2 * q), .ref (142 + 2 * t), .int (nI i), .int (nI k), .int (bI p), v7] [.int (bI s)] (hp I J F G X) = ex cdX9_isMerge (rn d) 15 [.ref 1, .ref (142 + 2 * r), .ref (142 + 2 * q), .ref (142 + 2 * t), .int (nI i), .int (nI (k + 1)), .int (bI p), .int (bI s)] [] (hp I J (upF F 140 (upd (F 140) k (bI (decide (i + k = 0) || (p || s))))) G X) := by
  have s1 := x_s140 (I := I) (J := J) (F := F) (G := G) (X := X) (k := k) (by omega) true
  have s0 := x_s140 (I := I) (J := J) (F := F) (G := G) (X := X) (k := k) (by omega) false
  rw [bI_t] at s1
  rw [bI_f] at s0
  rw [xX9_isMerge_126, x_f12, Option.bind_some, nI_add]
  by_cases e : i + k = 0
  · rw [if_pos (by rw [e]; rfl), s1, Option.bind_some, nI_1, decide_eq_true e, Bool.true_or]
    rfl
  · rw [if_neg (show ¬ nI (i + k) = 0 from fun w => e ((nI_inj (b := 0) (by omega) (by decide)).mp w)), decide_eq_false e, Bool.false_or, bI_ite]
    cases p with
    | true => rw [if_pos rfl, s1, Option.bind_some, nI_1, Bool.true_or]; rfl
    | false =>
      rw [if_neg (by decide), bI_ite, Bool.false_or]
      cases s with
      | true => rw [if_pos rfl, s1, Option.bind_some, nI_1]; rfl
      | false => rw [if_neg (by decide), s0, Option.bind_some, nI_1]; rfl
theorem im_B {d i k : Nat} {p : Bool} {v6 v7 : Value} {R : Nat → Nat → Bool} (hq : q < 6) (ht : t < 6) (hik : i + k ≤ 40) (hy : ∀ j, j < 40 → F (143 + 2 * q) j = y j) (hz : ∀ j, j < 40 → F (143 + 2 * t) j = z j) (hT : ∀ j, j < k → F 140 j = bI (R i j)) : ex cdX9_isMerge (rn d) 78 [.ref 1, .ref (142 + 2 * r), .ref (142 + 2 * q), .ref (142 + 2 * t), .int (nI i), .int (nI k), v6, v7] [.int (bI p)] (hp I J F G X) = ex cdX9_isMerge (rn d) 126 [.ref 1, .ref (142 + 2 * r), .ref (142 + 2 * q), .ref (142 + 2 * t), .int (nI i), .int (nI k), .int (bI p), v7] [.int (bI (mo2 y z R i k))] (hp I J F G X) := by
  rw [xX9_isMerge_78]
  cases k with
  | zero => rw [if_pos (by decide)]; rfl
  | succ k =>
    rw [if_neg (nI_nle (by omega) (by omega)), x_f12, Option.bind_some, nI_pred, x_g140 (by omega), Option.bind_some, hT k (by omega), bI_ite]
    rw [show mo2 y z R i (k + 1) = (R i k && decide (y k = z (i + k))) from rfl]
    cases hR : R i k with
    | false => rw [if_neg (by decide), Bool.false_and]; rfl
    | true =>
      rw [if_pos rfl, x_rowF hq, Option.bind_some, x_rowg hq (by omega), Option.bind_some, x_rowF ht, Option.bind_some, nI_add, show nI (i + (k + 1)) - 1 = nI (i + k) from nI_pred _, x_rowg ht (by omega), Option.bind_some, hy k (by omega), hz _ (by omega), Bool.true_and]
      by_cases e : y k = z (i + k)
      · rw [if_pos e, bI_dt e]
      · rw [if_neg e, bI_df e]
theorem im_A {d i k : Nat} {v6 v7 : Value} {R : Nat → Nat → Bool} (hr : r < 6) (hq : q < 6) (ht : t < 6) (hik : i + k ≤ 40) (hb : I (142 + 2 * q) = nI b) (hb40 : b ≤ 40) (hkb : k ≤ b) (hx : ∀ j, j < 40 → F (143 + 2 * r) j = x j) (hz : ∀ j, j < 40 → F (143 + 2 * t) j = z j) (hT : ∀ i', i = i' + 1 → F 140 k = bI (R i' k)) : ex cdX9_isMerge (rn d) 15 [.ref 1, .ref (142 + 2 * r), .ref (142 + 2 * q), .ref (142 + 2 * t), .int (nI i), .int (nI k), v6, v7] [] (hp I J F G X) = ex cdX9_isMerge (rn d) 78 [.ref 1, .ref (142 + 2 * r), .ref (142 + 2 * q), .ref (142 + 2 * t), .int (nI i), .int (nI k), v6, v7] [.int (bI (mo1 x z R i k))] (hp I J F G X) := by
  rw [xX9_isMerge_15, x_rowN hq, Option.bind_some, hb, if_neg (nI_nlt hkb (by omega)), x_f12, Option.bind_some, x_n140, Option.bind_some, if_neg (nI_ge (by omega) (by decide))]
  cases i with
  | zero => rw [if_pos (by decide)]; rfl
  | succ i =>
    rw [if_neg (nI_nle (by omega) (by omega)), Option.bind_some, x_g140 (by omega), Option.bind_some, hT i rfl, bI_ite]
    rw [show mo1 x z R (i + 1) k = (R i k && decide (x i = z (i + k))) from rfl]
    cases hR : R i k with
    | false => rw [if_neg (by decide), Bool.false_and]; rfl
    | true =>
      rw [if_pos rfl, x_rowF hr, Option.bind_some, nI_pred, x_rowg hr (by omega), Option.bind_some, x_rowF ht, Option.bind_some, nI_add, show i + 1 + k = (i + k) + 1 by omega, show nI ((i + k) + 1) - 1 = nI (i + k) from nI_pred _, x_rowg ht (by omega), Option.bind_some, hx i (by omega), hz _ (by omega), Bool.true_and]
      by_cases e : x i = z (i + k)
      · rw [if_pos e, bI_dt e]
      · rw [if_neg e, bI_df e]
theorem im_row {d i : Nat} (hr : r < 6) (hq : q < 6) (ht : t < 6) (ha : i ≤ a) (hab : a + b ≤ 40) (hb : I (142 + 2 * q) = nI b) (hx : ∀ j, j < 40 → F (143 + 2 * r) j = x j) (hy : ∀ j, j < 40 → F (143 + 2 * q) j = y j) (hz : ∀ j, j < 40 → F (143 + 2 * t) j = z j) : ∀ (m k : Nat) (F1 : Nat → Nat → Int32) (v6 v7 : Value), b + 1 - k = m → k ≤ b + 1 → (∀ j, j < k → F1 140 j = bI (Rm x y z i j)) → (∀ i', i = i' + 1 → ∀ j, k ≤ j → j ≤ b → F1 140 j = bI (Rm x y z i' j)) → (∀ k, k ≠ 140 → F1 k = F k) →
    ∃ F' v5 v6' v7', ex cdX9_isMerge (rn d) 15 [.ref 1, .ref (142 + 2 * r), .ref (142 + 2 * q), .ref (142 + 2 * t), .int (nI i), .int (nI k), v6, v7] [] (hp I J F1 G X) = ex cdX9_isMerge (rn d) 3 [.ref 1, .ref (142 + 2 * r), .ref (142 + 2 * q), .ref (142 + 2 * t), .int (nI (i + 1)), v5, v6', v7'] [] (hp I J F' G X) ∧ (∀ j, j ≤ b → F' 140 j = bI (Rm x y z i j)) ∧ ∀ k, k ≠ 140 → F' k = F k := by
  intro m
  induction m with
  | zero =>
    intro k F1 v6 v7 h1 h2 h3 h4 f
    have : k = b + 1 := by omega
    subst this
    refine ⟨F1, .int (nI (b + 1)), v6, v7, ?_, fun j hj => h3 j (by omega), f⟩
    rw [xX9_isMerge_15, x_rowN hq, Option.bind_some, hb, if_pos (nI_lt (by omega) (by omega)), nI_1]
  | succ m ih =>
    intro k F1 v6 v7 h1 h2 h3 h4 f
    obtain ⟨F', v5, v6', v7', g1, g2, g3⟩ := ih (k + 1) (upF F1 140 (upd (F1 140) k (bI (Rm x y z i k)))) (.int (bI (mo1 x z (Rm x y z) i k))) (.int (bI (mo2 y z (Rm x y z) i k))) (by omega) (by omega) (fun j hj => by
      rw [upF_eq]
      by_cases e : j = k
      · subst e; rw [upd_eq]
      · rw [upd_ne e]; exact h3 j (by omega)) (fun i' hi' j j1 j2 => by rw [upF_eq, upd_ne (by omega)]; exact h4 i' hi' j (by omega) j2) (fun j hj => by rw [upF_ne hj, f j hj])
    refine ⟨F', v5, v6', v7', ?_, g2, g3⟩
    rw [im_A (x := x) (z := z) (R := Rm x y z) hr hq ht (by omega) hb (by omega) (by omega) (by rw [f _ (by omega)]; exact hx) (by rw [f _ (by omega)]; exact hz) (fun i' hi' => h4 i' hi' k (Nat.le_refl _) (by omega)), im_B (y := y) (z := z) (R := Rm x y z) hq ht (by omega) (by rw [f _ (by omega)]; exact hy) (by rw [f _ (by omega)]; exact hz) h3, im_C (by omega) (by omega), ← Rm_eq]
    exact g1
theorem im_x {d : Nat} (hr : r < 6) (hq : q < 6) (ht : t < 6) (hab : a + b ≤ 40) (haI : I (142 + 2 * r) = nI a) (hb : I (142 + 2 * q) = nI b) (hx : ∀ j, j < 40 → F (143 + 2 * r) j = x j) (hy : ∀ j, j < 40 → F (143 + 2 * q) j = y j) (hz : ∀ j, j < 40 → F (143 + 2 * t) j = z j) : ∀ (m i : Nat) (F1 : Nat → Nat → Int32) (v5 v6 v7 : Value), a + 1 - i = m → i ≤ a + 1 → (∀ i', i = i' + 1 → ∀ j, j ≤ b → F1 140 j = bI (Rm x y z i' j)) → (∀ k, k ≠ 140 → F1 k = F k) →
    ∃ F', ex cdX9_isMerge (rn d) 3 [.ref 1, .ref (142 + 2 * r), .ref (142 + 2 * q), .ref (142 + 2 * t), .int (nI i), v5, v6, v7] [] (hp I J F1 G X) = some (some (.int (bI (Rm x y z a b))), hp I J F' G X) ∧ ∀ k, k ≠ 140 → F' k = F k := by
  intro m
  induction m with
  | zero =>
    intro i F1 v5 v6 v7 h1 h2 h4 f
    have : i = a + 1 := by omega
    subst this
    refine ⟨F1, ?_, f⟩
    rw [xX9_isMerge_3, x_rowN hr, Option.bind_some, haI, if_pos (nI_lt (by omega) (by omega)), x_f12, Option.bind_some, x_rowN hq, Option.bind_some, hb, x_g140 (by omega), Option.bind_some, h4 a rfl b (Nat.le_refl _), if_pos (bI_and _)]
  | succ m ih =>
    intro i F1 v5 v6 v7 h1 h2 h4 f
    obtain ⟨F2, w5, w6, w7, g1, g2, g3⟩ := im_row (d := d) (i := i) (I := I) (J := J) (F := F) (G := G) (X := X) hr hq ht (show i ≤ a by omega) hab hb hx hy hz (b + 1) 0 F1 v6 v7 (by omega) (by omega) (fun j hj => absurd hj (by omega)) (fun i' hi' j j1 j2 => h4 i' hi' j j2) f
    obtain ⟨F', e1, e2⟩ := ih (i + 1) F2 w5 w6 w7 (by omega) (by omega) (fun i' hi' j hj => by
      have : i' = i := by omega
      subst this
      exact g2 j hj) g3
    refine ⟨F', ?_, e2⟩
    rw [nI_0] at g1
    rw [xX9_isMerge_3, x_rowN hr, Option.bind_some, haI, if_neg (nI_nlt (by omega) (by omega)), g1, e1]
end IM
def bL (b : Bool) : Int64 := if b = true then 1 else 0
theorem bL_ite {α : Type} (b : Bool) (x y : α) : (if lg_cmp (bL b) 1 = 0 then x else y) = (if b = true then x else y) := by
  cases b with
  | false => rw [if_neg (by decide), if_neg (by decide)]
  | true => rw [if_pos (by decide), if_pos rfl]
section IN
variable {I : Nat → Int32} {J : Nat → Int64} {F : Nat → Nat → Int32} {G : Nat → Int64} {X : Nat → va_E} {r q t a b : Nat} {x y z : Nat → Int32}
theorem in_C {d i k : Nat} {p s : Bool} {v1 v2 v3 v4 v5 : Int32} {v9 : Value} (hi : i ≤ 40) (hk : k ≤ 40) : ex cdX10_merged (rn d) 228 [.ref 168, .int v1, .int v2, .int v3, .int v4, .int v5, .int (nI i), .int (nI k), .int (bI p), v9] [.int (bI s)] (hp I J F G X) = ex cdX10_merged (rn d) 105 [.ref 168, .int v1, .int v2, .int v3, .int v4, .int v5, .int (nI i), .int (nI (k + 1)), .int (bI p), .int (bI s)] [] (hp I J F (vp_updL G k (bL (decide (i + k = 0) || (p || s)))) X) := by
  rw [xX10_merged_228, y_f23, Option.bind_some, nI_add]
  by_cases e : i + k = 0
  · rw [if_pos (by rw [e]; rfl), y_sL (by omega), Option.bind_some, nI_1, decide_eq_true e, Bool.true_or]
    rfl
  · rw [if_neg (show ¬ nI (i + k) = 0 from fun w => e ((nI_inj (b := 0) (by omega) (by decide)).mp w)), decide_eq_false e, Bool.false_or, bI_ite]
    cases p with
    | true => rw [if_pos rfl, y_sL (by omega), Option.bind_some, nI_1, Bool.true_or]; rfl
    | false =>
      rw [if_neg (by decide), bI_ite, Bool.false_or]
      cases s with
      | true => rw [if_pos rfl, y_sL (by omega), Option.bind_some, nI_1]; rfl
      | false => rw [if_neg (by decide), y_sL (by omega), Option.bind_some, nI_1]; rfl
theorem in_B {d i k : Nat} {p : Bool} {v1 v4 v5 : Int32} {v8 v9 : Value} {R : Nat → Nat → Bool} (hq : q < 6) (ht : t < 6) (hik : i + k ≤ 40) (hy : ∀ j, j < 40 → F 174 (40 * q + j) = y j) (hz : ∀ j, j < 40 → F 174 (40 * t + j) = z j) (hT : ∀ j, j < k → G j = bL (R i j)) : ex cdX10_merged (rn d) 168 [.ref 168, .int v1, .int (nI q), .int (nI t), .int v4, .int v5, .int (nI i), .int (nI k), v8, v9] [.int (bI p)] (hp I J F G X) = ex cdX10_merged (rn d) 228 [.ref 168, .int v1, .int (nI q), .int (nI t), .int v4, .int v5, .int (nI i), .int (nI k), .int (bI p), v9] [.int (bI (mo2 y z R i k))] (hp I J F G X) := by
  rw [xX10_merged_168]
  cases k with
  | zero => rw [if_pos (by decide)]; rfl
  | succ k =>
    rw [if_neg (nI_nle (by omega) (by omega)), y_f23, Option.bind_some, nI_pred, y_gL (by omega), Option.bind_some, hT k (by omega), bL_ite]
    rw [show mo2 y z R i (k + 1) = (R i k && decide (y k = z (i + k))) from rfl]
    cases hR : R i k with
    | false => rw [if_neg (by decide), Bool.false_and]; rfl
    | true =>
      rw [if_pos rfl, y_f6, Option.bind_some, c40, nI_add, show nI (40 * q + (k + 1)) - 1 = nI (40 * q + k) from nI_pred _, y_g174 (by omega), Option.bind_some, Option.bind_some, c40, nI_add, nI_add, show nI (40 * t + i + (k + 1)) - 1 = nI (40 * t + i + k) from nI_pred _, y_g174 (by omega), Option.bind_some, Nat.add_assoc (40 * t), hy k (by omega), hz _ (by omega), Bool.true_and]
      by_cases e : y k = z (i + k)
      · rw [if_pos e, bI_dt e]
      · rw [if_neg e, bI_df e]
theorem in_A {d i k : Nat} {v2 v4 : Int32} {v8 v9 : Value} {R : Nat → Nat → Bool} (hr : r < 6) (ht : t < 6) (hik : i + k ≤ 40) (hb40 : b ≤ 40) (hkb : k ≤ b) (hx : ∀ j, j < 40 → F 174 (40 * r + j) = x j) (hz : ∀ j, j < 40 → F 174 (40 * t + j) = z j) (hT : ∀ i', i = i' + 1 → G k = bL (R i' k)) : ex cdX10_merged (rn d) 105 [.ref 168, .int (nI r), .int v2, .int (nI t), .int v4, .int (nI b), .int (nI i), .int (nI k), v8, v9] [] (hp I J F G X) = ex cdX10_merged (rn d) 168 [.ref 168, .int (nI r), .int v2, .int (nI t), .int v4, .int (nI b), .int (nI i), .int (nI k), v8, v9] [.int (bI (mo1 x z R i k))] (hp I J F G X) := by
  rw [xX10_merged_105, if_neg (nI_nlt hkb (by omega))]
  cases i with
  | zero => rw [if_pos (by decide)]; rfl
  | succ i =>
    rw [if_neg (nI_nle (by omega) (by omega)), y_f23, Option.bind_some, y_gL (by omega), Option.bind_some, hT i rfl, bL_ite]
    rw [show mo1 x z R (i + 1) k = (R i k && decide (x i = z (i + k))) from rfl]
    cases hR : R i k with
    | false => rw [if_neg (by decide), Bool.false_and]; rfl
    | true =>
      rw [if_pos rfl, y_f6, Option.bind_some, c40, nI_add, show nI (40 * r + (i + 1)) - 1 = nI (40 * r + i) from nI_pred _, y_g174 (by omega), Option.bind_some, Option.bind_some, c40, nI_add, nI_add, show 40 * t + (i + 1) + k = (40 * t + (i + k)) + 1 by omega, show nI ((40 * t + (i + k)) + 1) - 1 = nI (40 * t + (i + k)) from nI_pred _, y_g174 (by omega), Option.bind_some, hx i (by omega), hz _ (by omega), Bool.true_and]
      by_cases e : x i = z (i + k)
      · rw [if_pos e, bI_dt e]
      · rw [if_neg e, bI_df e]
theorem in_row {d i : Nat} {v4 : Int32} (hr : r < 6) (hq : q < 6) (ht : t < 6) (ha : i ≤ a) (hab : a + b ≤ 40) (hx : ∀ j, j < 40 → F 174 (40 * r + j) = x j) (hy : ∀ j, j < 40 → F 174 (40 * q + j) = y j) (hz : ∀ j, j < 40 → F 174 (40 * t + j) = z j) : ∀ (m k : Nat) (G : Nat → Int64) (v8 v9 : Value), b + 1 - k = m → k ≤ b + 1 → (∀ j, j < k → G j = bL (Rm x y z i j)) → (∀ i', i = i' + 1 → ∀ j, k ≤ j → j ≤ b → G j = bL (Rm x y z i' j)) →
    ∃ G' v7 v8' v9', ex cdX10_merged (rn d) 105 [.ref 168, .int (nI r), .int (nI q), .int (nI t), .int v4, .int (nI b), .int (nI i), .int (nI k), v8, v9] [] (hp I J F G X) = ex cdX10_merged (rn d) 95 [.ref 168, .int (nI r), .int (nI q), .int (nI t), .int v4, .int (nI b), .int (nI (i + 1)), v7, v8', v9'] [] (hp I J F G' X) ∧ ∀ j, j ≤ b → G' j = bL (Rm x y z i j) := by
  intro m
  induction m with
  | zero =>
    intro k G v8 v9 h1 h2 h3 h4
    have : k = b + 1 := by omega
    subst this
    refine ⟨G, .int (nI (b + 1)), v8, v9, ?_, fun j hj => h3 j (by omega)⟩
    rw [xX10_merged_105, if_pos (nI_lt (by omega) (by omega)), nI_1]
  | succ m ih =>
    intro k G v8 v9 h1 h2 h3 h4
    obtain ⟨G', v7, v8', v9', g1, g2⟩ := ih (k + 1) (vp_updL G k (bL (Rm x y z i k))) (.int (bI (mo1 x z (Rm x y z) i k))) (.int (bI (mo2 y z (Rm x y z) i k))) (by omega) (by omega) (fun j hj => by
      by_cases e : j = k
      · subst e; rw [updL_eq]
      · rw [updL_ne e]; exact h3 j (by omega)) (fun i' hi' j j1 j2 => by rw [updL_ne (by omega)]; exact h4 i' hi' j (by omega) j2)
    refine ⟨G', v7, v8', v9', ?_, g2⟩
    rw [in_A (x := x) (z := z) (R := Rm x y z) hr ht (by omega) (by omega) (by omega) hx hz (fun i' hi' => h4 i' hi' k (Nat.le_refl _) (by omega)), in_B (y := y) (z := z) (R := Rm x y z) hq ht (by omega) hy hz h3, in_C (by omega) (by omega), ← Rm_eq]
    exact g1
theorem in_x {d : Nat} (hr : r < 6) (hq : q < 6) (ht : t < 6) (hab : a + b ≤ 40) (hx : ∀ j, j < 40 → F 174 (40 * r + j) = x j) (hy : ∀ j, j < 40 → F 174 (40 * q + j) = y j) (hz : ∀ j, j < 40 → F 174 (40 * t + j) = z j) : ∀ (m i : Nat) (G : Nat → Int64) (v7 v8 v9 : Value), a + 1 - i = m → i ≤ a + 1 → (∀ i', i = i' + 1 → ∀ j, j ≤ b → G j = bL (Rm x y z i' j)) →
    ∃ G', ex cdX10_merged (rn d) 95 [.ref 168, .int (nI r), .int (nI q), .int (nI t), .int (nI a), .int (nI b), .int (nI i), v7, v8, v9] [] (hp I J F G X) = some (some (.int (bI (Rm x y z a b))), hp I J F G' X) := by
  intro m
  induction m with
  | zero =>
    intro i G v7 v8 v9 h1 h2 h4
    have : i = a + 1 := by omega
    subst this
    refine ⟨G, ?_⟩
    rw [xX10_merged_95, if_pos (nI_lt (by omega) (by omega)), y_f23, Option.bind_some, y_gL (by omega), Option.bind_some, h4 a rfl b (Nat.le_refl _)]
    cases Rm x y z a b <;> rfl
  | succ m ih =>
    intro i G v7 v8 v9 h1 h2 h4
    obtain ⟨G1, w7, w8, w9, g1, g2⟩ := in_row (d := d) (i := i) (v4 := nI a) (I := I) (J := J) (F := F) (X := X) hr hq ht (show i ≤ a by omega) hab hx hy hz (b + 1) 0 G v8 v9 (by omega) (by omega) (fun j hj => absurd hj (by omega)) (fun i' hi' j j1 j2 => h4 i' hi' j j2)
    obtain ⟨G', e1⟩ := ih (i + 1) G1 w7 w8 w9 (by omega) (by omega) (fun i' hi' j hj => by
      have : i' = i := by omega
      subst this
      exact g2 j hj)
    refine ⟨G', ?_⟩
    rw [nI_0] at g1
    rw [xX10_merged_95, if_neg (nI_nlt (by omega) (by omega)), g1, e1]
end IN
