/-! trades: all of them as a tree -/
def swL (L : List Nat) (k : Nat) : List Nat := match L.drop k with
  | y :: x :: B => L.take k ++ x :: y :: B
  | _ => L
def swA (A : LSt) (k : Nat) : LSt := (swL A.1 k, A.2)
theorem swL_app (A B : List Nat) (x y : Nat) : swL (A ++ y :: x :: B) A.length = A ++ x :: y :: B := by
  unfold swL
  rw [List.drop_left, List.take_left]
theorem sw_split {L : List Nat} {k : Nat} (h : k + 1 < L.length) : ∃ (A : List Nat) (y x : Nat) (B : List Nat), L = A ++ y :: x :: B ∧ A.length = k :=
  ⟨L.take k, L[k], L[k + 1], L.drop (k + 1 + 1), by rw [← List.drop_eq_getElem_cons, ← List.drop_eq_getElem_cons, List.take_append_drop], by rw [List.length_take]; omega⟩
theorem sw_perm {L : List Nat} {k : Nat} (h : k + 1 < L.length) : (swL L k).Perm L := by
  obtain ⟨A, y, x, B, rfl, rfl⟩ := sw_split h
  rw [swL_app]
  exact (List.Perm.swap y x B).append_left A
theorem swL_len {L : List Nat} {k : Nat} (h : k + 1 < L.length) : (swL L k).length = L.length := (sw_perm h).length_eq
theorem swA_len {A : LSt} {k : Nat} (h : k + 1 < A.1.length) : (swA A k).1.length = A.1.length := swL_len h
theorem swA_lB {np m k : Nat} {A : LSt} (hA : lB np m A) (h : k + 1 < A.1.length) : lB np m (swA A k) := by
  have hq := sw_perm h
  exact ⟨hq.nodup_iff.mpr hA.1, fun y hy => hA.2.1 y (hq.mem_iff.mp hy), hA.2.2.1, hA.2.2.2⟩
def cst (pr : Nat → Nat) (A : LSt) (k : Nat) : Nat := pr (A.1.getD k 0) + pr (A.1.getD (k + 1) 0)
def apT (P : Nat) : Nat → Nat → LSt → LSt
  | 0, _, A => A
  | m + 1, v, A => apT P m v (swA A (v / P ^ m % P))
def csT (pr : Nat → Nat) (P : Nat) : Nat → Nat → LSt → Nat
  | 0, _, _ => 0
  | m + 1, v, A => cst pr A (v / P ^ m % P) + csT pr P m v (swA A (v / P ^ m % P))
theorem dg_low {P m j c u : Nat} (hP : 0 < P) (hj : j < m) : (c * P ^ m + u) / P ^ j % P = u / P ^ j % P := by
  obtain ⟨r, rfl⟩ : ∃ r, m = j + 1 + r := ⟨m - (j + 1), by omega⟩
  have e : c * P ^ (j + 1 + r) + u = u + P ^ j * (c * P ^ r * P) := by
    rw [Nat.pow_add, Nat.pow_succ, Nat.add_comm]
    have : c * (P ^ j * P * P ^ r) = P ^ j * (c * P ^ r * P) := by ac_rfl
    rw [this]
  rw [e, Nat.add_mul_div_left _ _ (Nat.pow_pos hP), Nat.add_mul_mod_self_right]
theorem dg_top {P m k u : Nat} (hu : u < P ^ m) (hk : k < P) : (k * P ^ m + u) / P ^ m % P = k := by
  rw [Nat.add_comm, Nat.add_mul_div_right _ _ (by omega), Nat.div_eq_of_lt hu, Nat.zero_add, Nat.mod_eq_of_lt hk]
theorem apT_low {P M c u : Nat} (hP : 0 < P) : ∀ (m : Nat) (A : LSt), m ≤ M → apT P m (c * P ^ M + u) A = apT P m u A
  | 0, _, _ => rfl
  | m + 1, A, h => by
    show apT P m (c * P ^ M + u) (swA A ((c * P ^ M + u) / P ^ m % P)) = apT P m u (swA A (u / P ^ m % P))
    rw [dg_low hP (show m < M by omega), apT_low hP m _ (by omega)]
theorem apT_s {P m k u : Nat} (hu : u < P ^ m) (hk : k < P) (A : LSt) : apT P (m + 1) (k * P ^ m + u) A = apT P m u (swA A k) := by
  show apT P m (k * P ^ m + u) (swA A ((k * P ^ m + u) / P ^ m % P)) = _
  rw [dg_top hu hk, apT_low (by omega) m _ (Nat.le_refl _)]
theorem csT_low {pr : Nat → Nat} {P M c u : Nat} (hP : 0 < P) : ∀ (m : Nat) (A : LSt), m ≤ M → csT pr P m (c * P ^ M + u) A = csT pr P m u A
  | 0, _, _ => rfl
  | m + 1, A, h => by
    show cst pr A ((c * P ^ M + u) / P ^ m % P) + csT pr P m (c * P ^ M + u) (swA A ((c * P ^ M + u) / P ^ m % P)) = cst pr A (u / P ^ m % P) + csT pr P m u (swA A (u / P ^ m % P))
    rw [dg_low hP (show m < M by omega), csT_low hP m _ (by omega)]
theorem csT_s {pr : Nat → Nat} {P m k u : Nat} (hu : u < P ^ m) (hk : k < P) (A : LSt) : csT pr P (m + 1) (k * P ^ m + u) A = cst pr A k + csT pr P m u (swA A k) := by
  show cst pr A ((k * P ^ m + u) / P ^ m % P) + csT pr P m (k * P ^ m + u) (swA A ((k * P ^ m + u) / P ^ m % P)) = _
  rw [dg_top hu hk, csT_low (by omega) m _ (Nat.le_refl _)]
theorem Sm_add {α : Type} {op : α → α → α} {e : α} (as : ∀ a b c, op (op a b) c = op a (op b c)) (re : ∀ a, op a e = a) (g : Nat → α) (a : Nat) : ∀ b, Sm op e g (a + b) = op (Sm op e g a) (Sm op e (fun u => g (a + u)) b)
  | 0 => (re _).symm
  | b + 1 => by
    show op (Sm op e g (a + b)) (g (a + b)) = op _ (op (Sm op e (fun u => g (a + u)) b) (g (a + b)))
    rw [Sm_add as re g a b, as]
theorem Sm_mul {α : Type} {op : α → α → α} {e : α} (as : ∀ a b c, op (op a b) c = op a (op b c)) (re : ∀ a, op a e = a) (g : Nat → α) (b : Nat) : ∀ a, Sm op e g (a * b) = Sm op e (fun k => Sm op e (fun u => g (k * b + u)) b) a
  | 0 => by rw [Nat.zero_mul]; rfl
  | a + 1 => by
    rw [Nat.succ_mul, Sm_add as re, Sm_mul as re g b a]
    rfl
def orO (a b : Option Nat) : Option Nat := match a with
  | none => b
  | some x => some x
theorem orO_as (a b c : Option Nat) : orO (orO a b) c = orO a (orO b c) := by cases a <;> rfl
theorem orO_n (a : Option Nat) : orO a none = a := by cases a <;> rfl
theorem omin_n (a : Option Nat) : omin a none = a := by cases a <;> rfl
abbrev Sx (g : Nat → Option Nat) (n : Nat) : Option Nat := Sm orO none g n
theorem Sx_map (g : Nat → Option Nat) (f : Nat → Nat) : ∀ n, (Sx g n).map f = Sx (fun u => (g u).map f) n
  | 0 => rfl
  | n + 1 => by
    show (orO (Sx g n) (g n)).map f = orO (Sx (fun u => (g u).map f) n) ((g n).map f)
    rw [← Sx_map g f n]
    cases Sx g n <;> rfl
def fsT (R : LSt → Bool) (P : Nat) : Nat → LSt → Option Nat
  | 0, A => if R A = true then some 0 else none
  | m + 1, A => Sx (fun k => (fsT R P m (swA A k)).map (fun u => k * P ^ m + u)) P
theorem fsT_eq (R : LSt → Bool) (P : Nat) : ∀ (m : Nat) (A : LSt), fsT R P m A = Sx (fun v => if R (apT P m v A) = true then some v else none) (P ^ m)
  | 0, A => rfl
  | m + 1, A => by
    show Sx (fun k => (fsT R P m (swA A k)).map (fun u => k * P ^ m + u)) P = _
    rw [Nat.pow_succ, Nat.mul_comm]
    show _ = Sm _ _ _ (P * P ^ m)
    rw [Sm_mul orO_as orO_n]
    refine Sm_congr _ (fun k hk => ?_)
    rw [fsT_eq R P m, Sx_map]
    refine Sm_congr _ (fun u hu => ?_)
    rw [apT_s hu hk]
    split <;> rfl
theorem Sx_lt {g : Nat → Option Nat} {x B : Nat} : ∀ n, (∀ v, v < n → ∀ y, g v = some y → y < B) → Sx g n = some x → x < B
  | 0, _, h => by cases h
  | n + 1, H, h => by
    have h' : orO (Sx g n) (g n) = some x := h
    cases e : Sx g n with
    | none => rw [e] at h'; exact H n (by omega) x h'
    | some y => rw [e] at h'; cases h'; exact Sx_lt n (fun v hv => H v (by omega)) e
theorem fsT_lt {R : LSt → Bool} {P m v : Nat} {A : LSt} (h : fsT R P m A = some v) : v < P ^ m := by
  rw [fsT_eq] at h
  refine Sx_lt _ (fun u hu y hy => ?_) h
  by_cases e : R (apT P m u A) = true
  · rw [if_pos e] at hy; cases hy; exact hu
  · rw [if_neg e] at hy; cases hy
/-! the cheapest -/
def lev (R : LSt → Bool) (pr : Nat → Nat) (P t : Nat) (A : LSt) (pd : Nat) : Option Nat := So (fun v => if R (apT P t v A) = true then some (pd + csT pr P t v A) else none) (P ^ t)
theorem lev_s (R : LSt → Bool) (pr : Nat → Nat) (P t : Nat) (A : LSt) (pd : Nat) : lev R pr P (t + 1) A pd = So (fun k => lev R pr P t (swA A k) (pd + cst pr A k)) P := by
  unfold lev
  rw [Nat.pow_succ, Nat.mul_comm]
  show Sm _ _ _ (P * P ^ t) = _
  rw [Sm_mul omin_as omin_n]
  refine Sm_congr _ (fun k hk => Sm_congr _ (fun u hu => ?_))
  rw [apT_s hu hk, csT_s hu hk, Nat.add_assoc]
def mnT (R : LSt → Bool) (pr : Nat → Nat) (P : Nat) : Nat → LSt → Nat → Option Nat
  | 0, A, pd => if R A = true then some pd else none
  | m + 1, A, pd => omin (if R A = true then some pd else none) (So (fun k => mnT R pr P m (swA A k) (pd + cst pr A k)) P)
theorem lev_0 (R : LSt → Bool) (pr : Nat → Nat) (P : Nat) (A : LSt) (pd : Nat) : lev R pr P 0 A pd = mnT R pr P 0 A pd := rfl
theorem mn_lev (R : LSt → Bool) (pr : Nat → Nat) (P : Nat) : ∀ (m : Nat) (A : LSt) (pd : Nat), mnT R pr P (m + 1) A pd = omin (mnT R pr P m A pd) (lev R pr P (m + 1) A pd)
  | 0, A, pd => by
    rw [lev_s]
    rfl
  | m + 1, A, pd => by
    show omin (if R A = true then some pd else none) (So (fun k => mnT R pr P (m + 1) (swA A k) (pd + cst pr A k)) P) = omin (omin (if R A = true then some pd else none) (So (fun k => mnT R pr P m (swA A k) (pd + cst pr A k)) P)) _
    rw [lev_s, omin_as, ← Sm_op omin_as omin_cm rfl]
    congr 1
    exact Sm_congr _ (fun k _ => mn_lev R pr P m _ _)
theorem omin_ge {a b : Option Nat} {c x : Nat} (ha : ∀ y, a = some y → c ≤ y) (hb : ∀ y, b = some y → c ≤ y) (h : omin a b = some x) : c ≤ x := by
  cases a with
  | none => exact hb x h
  | some p =>
    cases b with
    | none => exact ha x h
    | some q =>
      have h1 := ha p rfl
      have h2 := hb q rfl
      have : min p q = x := Option.some.inj h
      omega
theorem So_ge {g : Nat → Option Nat} {c : Nat} : ∀ n x, (∀ v, v < n → ∀ y, g v = some y → c ≤ y) → So g n = some x → c ≤ x
  | 0, _, _, h => by cases h
  | n + 1, x, H, h => omin_ge (fun y hy => So_ge n y (fun v hv => H v (by omega)) hy) (H n (by omega)) (show omin (So g n) (g n) = some x from h)
theorem mn_ge {R : LSt → Bool} {pr : Nat → Nat} {P : Nat} : ∀ (m : Nat) (A : LSt) (pd x : Nat), mnT R pr P m A pd = some x → pd ≤ x := by
  have h0 : ∀ (A : LSt) (pd x : Nat), (if R A = true then some pd else none) = some x → pd ≤ x := by
    intro A pd x h
    by_cases e : R A = true
    · rw [if_pos e] at h; cases h; exact Nat.le_refl _
    · rw [if_neg e] at h; cases h
  intro m
  induction m with
  | zero => exact h0
  | succ m ih =>
    intro A pd x h
    exact omin_ge (h0 A pd) (fun y hy => So_ge P y (fun v _ z hz => by have := ih _ _ z hz; omega) hy) h
theorem omin_le {a : Option Nat} {b c : Nat} (h : ∀ y, a = some y → c ≤ y) (hb : b ≤ c) : omin (some b) a = some b := by
  cases a with
  | none => rfl
  | some p =>
    have h1 := h p rfl
    show some (min b p) = some b
    rw [Nat.min_eq_left (by omega)]
theorem mn_R {R : LSt → Bool} {pr : Nat → Nat} {P : Nat} (m : Nat) {A : LSt} {pd : Nat} (h : R A = true) : mnT R pr P m A pd = some pd := by
  cases m with
  | zero => exact if_pos h
  | succ m =>
    show omin (if R A = true then some pd else none) _ = _
    rw [if_pos h]
    exact omin_le (c := pd) (fun y hy => So_ge P y (fun v _ z hz => by have := mn_ge m _ _ z hz; omega) hy) (Nat.le_refl _)
/-! the nights after the trades -/
def rcT (kd pt : Nat → Nat) (i : Nat) (jo : Option Nat) : Nat → Option Nat → LSt → Bool
  | 0, _, _ => false
  | m + 1, pv, A => (match jo with
    | none => decide ((passA kd pt A true).1 = some i)
    | some j => decide (pv = some i) && decide ((passA kd pt A true).1 = some j)) || rcT kd pt i jo m (passA kd pt A true).1 (passA kd pt A true).2
theorem rcT_n (kd pt : Nat → Nat) (i m : Nat) (pv : Option Nat) (A : LSt) : rcT kd pt i none (m + 1) pv A = (decide ((passA kd pt A true).1 = some i) || rcT kd pt i none m (passA kd pt A true).1 (passA kd pt A true).2) := rfl
theorem rcT_s (kd pt : Nat → Nat) (i j m : Nat) (pv : Option Nat) (A : LSt) : rcT kd pt i (some j) (m + 1) pv A = ((decide (pv = some i) && decide ((passA kd pt A true).1 = some j)) || rcT kd pt i (some j) m (passA kd pt A true).1 (passA kd pt A true).2) := rfl
def gcT (kd pt : Nat → Nat) (i : Nat) : Nat → LSt → Option (Nat × LSt)
  | 0, _ => none
  | m + 1, A => if (passA kd pt A true).1 = some i then some (0, (passA kd pt A true).2) else (gcT kd pt i m (passA kd pt A true).2).map (fun q => (q.1 + 1, q.2))
theorem gcT_s (kd pt : Nat → Nat) (i m : Nat) (A : LSt) : gcT kd pt i (m + 1) A = if (passA kd pt A true).1 = some i then some (0, (passA kd pt A true).2) else (gcT kd pt i m (passA kd pt A true).2).map (fun q => (q.1 + 1, q.2)) := rfl
theorem rc_none {kd pt : Nat → Nat} {i : Nat} : ∀ (m : Nat) (pv : Option Nat) (A : LSt), rcT kd pt i none m pv A = (gcT kd pt i m A).isSome
  | 0, _, _ => rfl
  | m + 1, pv, A => by
    rw [rcT_n, gcT_s, rc_none m]
    by_cases e : (passA kd pt A true).1 = some i
    · rw [if_pos e, decide_eq_true e]; rfl
    · rw [if_neg e, decide_eq_false e, Option.isSome_map]; rfl
theorem rc_gone {np : Nat} {kd pt : Nat → Nat} {i j : Nat} : ∀ (m mm : Nat) (pv : Option Nat) (A : LSt), lB np mm A → i ∉ A.1 → pv ≠ some i → rcT kd pt i (some j) m pv A = false
  | 0, _, _, _, _, _, _ => rfl
  | m + 1, mm, pv, A, hA, hi, hv => by
    rw [rcT_s, decide_eq_false hv, Bool.false_and, Bool.false_or]
    exact rc_gone m (mm + 1) _ _ (passA_lB kd pt true hA) (fun z => hi (pass_gone hA i z).1) (fun z => hi (pass_who hA z))
def prT (kd pt : Nat → Nat) (i j m : Nat) (A : LSt) : Bool := match gcT kd pt i m A with
  | none => false
  | some q => decide (q.1 + 1 < m) && decide ((passA kd pt q.2 true).1 = some j)
theorem rc_some {np : Nat} {kd pt : Nat → Nat} {i j : Nat} : ∀ (m mm : Nat) (pv : Option Nat) (A : LSt), lB np mm A → pv ≠ some i → rcT kd pt i (some j) m pv A = prT kd pt i j m A
  | 0, _, _, _, _, _ => rfl
  | m + 1, mm, pv, A, hA, hv => by
    have hA2 := passA_lB kd pt true hA
    rw [rcT_s, decide_eq_false hv, Bool.false_and, Bool.false_or]
    unfold prT
    rw [gcT_s]
    by_cases e : (passA kd pt A true).1 = some i
    · rw [if_pos e]
      have hg : i ∉ (passA kd pt A true).2.1 := fun z => (pass_gone hA i z).2 e
      cases m with
      | zero => rfl
      | succ m =>
        rw [rcT_s, decide_eq_true e, Bool.true_and, rc_gone m (mm + 1 + 1) _ _ (passA_lB kd pt true hA2) (fun z => hg (pass_gone hA2 i z).1) (fun z => hg (pass_who hA2 z)), Bool.or_false]
        dsimp only
        rw [decide_eq_true (show 0 + 1 < m + 1 + 1 by omega), Bool.true_and]
    · rw [if_neg e, rc_some m (mm + 1) _ _ hA2 e]
      unfold prT
      cases gcT kd pt i m (passA kd pt A true).2 with
      | none => rfl
      | some q =>
        show (decide (q.1 + 1 < m) && _) = (decide (q.1 + 1 + 1 < m + 1) && _)
        rw [show decide (q.1 + 1 + 1 < m + 1) = decide (q.1 + 1 < m) from decide_eq_decide.mpr (by omega)]
