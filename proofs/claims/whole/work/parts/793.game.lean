/-! the game, as a tree -/
def trB (i d : Nat) (A : LSt) : LSt := if d < 2 then A else match plc A.1 i with
  | some (k + 1) => swA A k
  | _ => A
def stG (kd pt : Nat → Nat) (i d : Nat) (A : LSt) : Option LSt := if (passA kd pt (trB i d A) (decide (d % 2 = 0))).1 = some i then none else some (passA kd pt (trB i d A) (decide (d % 2 = 0))).2
def twO (rc : LSt → Bool) (o : Option LSt) : Bool := match o with
  | none => true
  | some A => rc A
def tvG (kd pt : Nat → Nat) (i : Nat) : Nat → Nat → LSt → Bool
  | 0, _, _ => false
  | m + 1, cl, A => (twO (tvG kd pt i m cl) (stG kd pt i 0 A) && (decide (cl = 0) || twO (tvG kd pt i m (cl - 1)) (stG kd pt i 1 A))) || (twO (tvG kd pt i m cl) (stG kd pt i 2 A) && (decide (cl = 0) || twO (tvG kd pt i m (cl - 1)) (stG kd pt i 3 A)))
theorem tvG_s (kd pt : Nat → Nat) (i m cl : Nat) (A : LSt) : tvG kd pt i (m + 1) cl A = ((twO (tvG kd pt i m cl) (stG kd pt i 0 A) && (decide (cl = 0) || twO (tvG kd pt i m (cl - 1)) (stG kd pt i 1 A))) || (twO (tvG kd pt i m cl) (stG kd pt i 2 A) && (decide (cl = 0) || twO (tvG kd pt i m (cl - 1)) (stG kd pt i 3 A)))) := rfl
theorem trB_at {i d : Nat} {A : LSt} (hd : 2 ≤ d) {k : Nat} (h : plc A.1 i = some (k + 1)) : trB i d A = swA A k := by
  unfold trB
  rw [if_neg (by omega), h]
theorem trB_0 {i d : Nat} {A : LSt} (h : d < 2 ∨ plc A.1 i = none ∨ plc A.1 i = some 0) : trB i d A = A := by
  unfold trB
  by_cases e : d < 2
  · rw [if_pos e]
  · rw [if_neg e]
    rcases h with h | h | h
    · exact absurd h e
    · rw [h]
    · rw [h]
theorem plc_lt {L : List Nat} {x k : Nat} (h : plc L x = some k) : k < L.length := (List.getElem?_eq_some_iff.mp (plc_some h)).1
theorem trB_pm {i d : Nat} (A : LSt) : (trB i d A).1.Perm A.1 ∧ (trB i d A).2 = A.2 := by
  by_cases hd : d < 2
  · rw [trB_0 (Or.inl hd)]; exact ⟨List.Perm.refl _, rfl⟩
  · cases e : plc A.1 i with
    | none => rw [trB_0 (Or.inr (Or.inl e))]; exact ⟨List.Perm.refl _, rfl⟩
    | some k =>
      cases k with
      | zero => rw [trB_0 (Or.inr (Or.inr e))]; exact ⟨List.Perm.refl _, rfl⟩
      | succ k =>
        rw [trB_at (by omega) e]
        exact ⟨sw_perm (plc_lt e), rfl⟩
theorem trB_lB {np m i d : Nat} {A : LSt} (hA : lB np m A) : lB np m (trB i d A) := by
  obtain ⟨h1, h2⟩ := trB_pm (i := i) (d := d) A
  unfold lB
  rw [h2]
  exact ⟨h1.nodup_iff.mpr hA.1, fun y hy => hA.2.1 y (h1.mem_iff.mp hy), hA.2.2.1, hA.2.2.2⟩
theorem stG_gone {np mm : Nat} {kd pt : Nat → Nat} {i d : Nat} {A : LSt} (hA : lB np mm A) (hi : i ∉ A.1) : ∃ A', stG kd pt i d A = some A' ∧ lB np (mm + 1) A' ∧ i ∉ A'.1 := by
  have hB : lB np mm (trB i d A) := trB_lB hA
  have hi' : i ∉ (trB i d A).1 := fun z => hi ((trB_pm A).1.mem_iff.mp z)
  refine ⟨_, if_neg (fun z => hi' (pass_who hB z)), passA_lB kd pt _ hB, fun z => hi' (pass_gone hB i z).1⟩
theorem tvG_gone {np : Nat} {kd pt : Nat → Nat} {i : Nat} : ∀ (m mm cl : Nat) (A : LSt), lB np mm A → i ∉ A.1 → tvG kd pt i m cl A = false
  | 0, _, _, _, _, _ => rfl
  | m + 1, mm, cl, A, hA, hi => by
    obtain ⟨A0, a1, a2, a3⟩ := stG_gone (kd := kd) (pt := pt) (d := 0) hA hi
    obtain ⟨A2, b1, b2, b3⟩ := stG_gone (kd := kd) (pt := pt) (d := 2) hA hi
    rw [tvG_s, a1, b1]
    show ((tvG kd pt i m cl A0 && _) || (tvG kd pt i m cl A2 && _)) = false
    rw [tvG_gone m (mm + 1) cl A0 a2 a3, tvG_gone m (mm + 1) cl A2 b2 b3]
    rfl
/-! as a table -/
def staG (kd pt : Nat → Nat) (i : Nat) (A : LSt) : Nat → Nat → Option LSt
  | 0, _ => some A
  | k + 1, v => (staG kd pt i A k (v / 4)).bind (stG kd pt i (v % 4))
theorem staG_s (kd pt : Nat → Nat) (i : Nat) (A : LSt) (k v : Nat) : staG kd pt i A (k + 1) v = (staG kd pt i A k (v / 4)).bind (stG kd pt i (v % 4)) := rfl
theorem staG_d {kd pt : Nat → Nat} {i : Nat} {A : LSt} {k v d : Nat} (hd : d < 4) : staG kd pt i A (k + 1) (4 * v + d) = (staG kd pt i A k v).bind (stG kd pt i d) := by
  rw [staG_s, show (4 * v + d) / 4 = v by omega, show (4 * v + d) % 4 = d by omega]
def cldG (K v : Nat) : Nat := Sn (fun k => v / 4 ^ k % 2) K
theorem cldG_s {K v d : Nat} (hd : d < 4) : cldG (K + 1) (4 * v + d) = cldG K v + d % 2 := by
  unfold cldG
  rw [Nat.add_comm K 1]
  show Sm _ _ _ (1 + K) = _
  rw [Sm_add (fun a b c => Nat.add_assoc a b c) Nat.add_zero]
  show (0 + (4 * v + d) / 4 ^ 0 % 2) + Sn _ K = _
  rw [Nat.add_comm]
  congr 1
  · refine Sm_congr _ (fun u _ => ?_)
    rw [Nat.add_comm 1 u, Nat.pow_succ, Nat.mul_comm (4 ^ u) 4, ← Nat.div_div_eq_div_mul, show (4 * v + d) / 4 = v by omega]
  · rw [Nat.pow_zero, Nat.div_one]; omega
def wvG (kd pt : Nat → Nat) (i n : Nat) (A : LSt) : Nat → Nat → Bool
  | 0, v => (staG kd pt i A n v).isNone
  | m + 1, v => (wvG kd pt i n A m (4 * v) && (decide (n / 2 ≤ cldG (n - (m + 1)) v) || wvG kd pt i n A m (4 * v + 1))) || (wvG kd pt i n A m (4 * v + 2) && (decide (n / 2 ≤ cldG (n - (m + 1)) v) || wvG kd pt i n A m (4 * v + 3)))
theorem wvG_s (kd pt : Nat → Nat) (i n : Nat) (A : LSt) (m v : Nat) : wvG kd pt i n A (m + 1) v = ((wvG kd pt i n A m (4 * v) && (decide (n / 2 ≤ cldG (n - (m + 1)) v) || wvG kd pt i n A m (4 * v + 1))) || (wvG kd pt i n A m (4 * v + 2) && (decide (n / 2 ≤ cldG (n - (m + 1)) v) || wvG kd pt i n A m (4 * v + 3)))) := rfl
theorem wvG_tv {kd pt : Nat → Nat} {i n : Nat} {A : LSt} : ∀ (m v : Nat), m ≤ n → wvG kd pt i n A m v = twO (tvG kd pt i m (n / 2 - cldG (n - m) v)) (staG kd pt i A (n - m) v)
  | 0, v, _ => by
    show (staG kd pt i A n v).isNone = twO _ (staG kd pt i A (n - 0) v)
    rw [Nat.sub_zero]
    cases staG kd pt i A n v <;> rfl
  | m + 1, v, h => by
    obtain ⟨k, hk⟩ : ∃ k, n - m = k + 1 := ⟨n - m - 1, by omega⟩
    have hk' : n - (m + 1) = k := by omega
    have ih := fun d => wvG_tv (kd := kd) (pt := pt) (i := i) (A := A) m (4 * v + d) (show m ≤ n by omega)
    rw [hk] at ih
    have i0 := ih 0
    have i1 := ih 1
    have i2 := ih 2
    have i3 := ih 3
    rw [staG_d (by decide), cldG_s (by decide)] at i0 i1 i2 i3
    rw [show 4 * v + 0 = 4 * v from rfl] at i0
    rw [wvG_s, i0, i1, i2, i3, hk']
    cases staG kd pt i A k v with
    | none => simp [twO]
    | some B =>
      rw [Option.bind_some, Option.bind_some, Option.bind_some, Option.bind_some]
      show _ = tvG kd pt i (m + 1) (n / 2 - cldG k v) B
      rw [tvG_s, show n / 2 - (cldG k v + 0 % 2) = n / 2 - cldG k v by omega, show n / 2 - (cldG k v + 1 % 2) = n / 2 - cldG k v - 1 by omega, show decide (n / 2 ≤ cldG k v) = decide (n / 2 - cldG k v = 0) from decide_eq_decide.mpr (by omega)]
theorem staG_none {kd pt : Nat → Nat} {i : Nat} {A : LSt} : ∀ (j k v : Nat), staG kd pt i A k (v / 4 ^ j) = none → staG kd pt i A (k + j) v = none
  | 0, k, v, h => by rw [Nat.pow_zero, Nat.div_one] at h; exact h
  | j + 1, k, v, h => by
    have := staG_none j (k + 1) v (by
      rw [staG_s, Nat.div_div_eq_div_mul, ← Nat.pow_succ, h]
      rfl)
    rwa [show k + 1 + j = k + (j + 1) by omega] at this
