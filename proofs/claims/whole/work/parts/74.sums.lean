/-! sums over all rows of nights -/
def Sm {α : Type} (op : α → α → α) (e : α) (g : Nat → α) : Nat → α
  | 0 => e
  | n + 1 => op (Sm op e g n) (g n)
theorem Sm_congr {α : Type} {op : α → α → α} {e : α} {g h : Nat → α} : ∀ n, (∀ v, v < n → g v = h v) → Sm op e g n = Sm op e h n
  | 0, _ => rfl
  | n + 1, H => by unfold Sm; rw [Sm_congr n (fun v hv => H v (by omega)), H n (by omega)]
theorem Sm_double {α : Type} {op : α → α → α} {e : α} (as : ∀ a b c, op (op a b) c = op a (op b c)) (g : Nat → α) : ∀ n, Sm op e g (2 * n) = Sm op e (fun v => op (g (2 * v)) (g (2 * v + 1))) n
  | 0 => rfl
  | n + 1 => by
    rw [show 2 * (n + 1) = 2 * n + 1 + 1 by omega]
    unfold Sm
    rw [← Sm_double as g n, ← as]
    rfl
theorem Sm_op {α : Type} {op : α → α → α} {e : α} (as : ∀ a b c, op (op a b) c = op a (op b c)) (cm : ∀ a b, op a b = op b a) (ee : op e e = e) (a b : Nat → α) : ∀ n, Sm op e (fun v => op (a v) (b v)) n = op (Sm op e a n) (Sm op e b n)
  | 0 => ee.symm
  | n + 1 => by
    unfold Sm
    rw [Sm_op as cm ee a b n, as, as]
    congr 1
    rw [← as, ← as, cm (Sm op e b n) (a n)]
abbrev Sn (g : Nat → Nat) (n : Nat) : Nat := Sm (fun a b => a + b) 0 g n
theorem Sn_add (a b : Nat → Nat) (n : Nat) : Sn (fun v => a v + b v) n = Sn a n + Sn b n := Sm_op (fun a b c => Nat.add_assoc a b c) Nat.add_comm rfl a b n
theorem Sn_mul (c : Nat) (g : Nat → Nat) : ∀ n, Sn (fun v => c * g v) n = c * Sn g n
  | 0 => rfl
  | n + 1 => by
    show Sn (fun v => c * g v) n + c * g n = c * (Sn g n + g n)
    rw [Sn_mul c g n, Nat.mul_add]
theorem Sn_zero {g : Nat → Nat} : ∀ n, (∀ v, v < n → g v = 0) → Sn g n = 0
  | 0, _ => rfl
  | n + 1, H => by
    show Sn g n + g n = 0
    rw [Sn_zero n (fun v hv => H v (by omega)), H n (by omega)]
theorem Sn_le {g h : Nat → Nat} : ∀ n, (∀ v, v < n → g v ≤ h v) → Sn g n ≤ Sn h n
  | 0, _ => Nat.le_refl _
  | n + 1, H => Nat.add_le_add (Sn_le n (fun v hv => H v (by omega))) (H n (by omega))
def bt (v : Nat) : Bool := decide (v % 2 = 1)
theorem bt_0 (u : Nat) : bt (2 * u) = false := decide_eq_false (by omega)
theorem bt_1 (u : Nat) : bt (2 * u + 1) = true := decide_eq_true (by omega)
def gb (kd pt : Nat → Nat) (i : Nat) : Nat → Nat → LSt → Option Nat
  | 0, _, _ => none
  | m + 1, v, A => if (passA kd pt A (bt v)).1 = some i then some 0 else (gb kd pt i m (v / 2) (passA kd pt A (bt v)).2).map (fun k => k + 1)
def cnm (kd pt : Nat → Nat) : Nat → Nat → LSt → Nat
  | 0, _, _ => 0
  | m + 1, v, A => (if (passA kd pt A (bt v)).1 = none then 0 else 1) + cnm kd pt m (v / 2) (passA kd pt A (bt v)).2
def cn (kd pt : Nat → Nat) (tg : Option Nat) (m v : Nat) (A : LSt) : Nat := match tg with
  | none => cnm kd pt m v A
  | some i => if gb kd pt i m v A = none then 0 else 1
def wtm (cw yw : Nat) : Nat → Nat → Nat
  | 0, _ => 1
  | m + 1, v => (if bt v = true then cw else yw) * wtm cw yw m (v / 2)
theorem gb_s (kd pt : Nat → Nat) (i m v : Nat) (A : LSt) : gb kd pt i (m + 1) v A = if (passA kd pt A (bt v)).1 = some i then some 0 else (gb kd pt i m (v / 2) (passA kd pt A (bt v)).2).map (fun k => k + 1) := rfl
theorem cnm_s (kd pt : Nat → Nat) (m v : Nat) (A : LSt) : cnm kd pt (m + 1) v A = (if (passA kd pt A (bt v)).1 = none then 0 else 1) + cnm kd pt m (v / 2) (passA kd pt A (bt v)).2 := rfl
theorem wtm_s (cw yw m v : Nat) : wtm cw yw (m + 1) v = (if bt v = true then cw else yw) * wtm cw yw m (v / 2) := rfl
theorem toGo_s (i : Nat) (A : LSt) : toGo (some i) A = (plc A.1 i).isSome := rfl
theorem toGo_f {i : Nat} {A : LSt} (h : i ∉ A.1) : toGo (some i) A = false := by
  rw [toGo_s]
  cases e : plc A.1 i with
  | none => rfl
  | some j => exact absurd (List.mem_of_getElem? (plc_some e)) h
theorem toGo_n {i : Nat} {A : LSt} (h : ¬ toGo (some i) A = true) : i ∉ A.1 := by
  rw [toGo_s] at h
  cases e : plc A.1 i with
  | none => exact plc_none e
  | some j => rw [e] at h; exact absurd rfl h
theorem pass_gone {np m : Nat} {kd pt : Nat → Nat} {A : LSt} {c : Bool} (hA : lB np m A) (y : Nat) : y ∈ (passA kd pt A c).2.1 → y ∈ A.1 ∧ (passA kd pt A c).1 ≠ some y := by
  obtain ⟨L, wt, wn, nt, gu⟩ := A
  have hperm := pushA_perm kd nt L
  have hnd1 : (pushA kd nt L).Nodup := hperm.nodup_iff.mpr hA.1
  intro h
  have h' : y ∈ (waitR pt (if c = true then goA kd nt (pushA kd nt L) else none) (pushA kd nt L) [] wt gu).1 := h
  rw [waitR_eq pt _ _ _ _ _ hnd1] at h'
  dsimp only at h'
  rw [List.nil_append, List.mem_filter, Bool.and_eq_true, decide_eq_true_eq] at h'
  exact ⟨hperm.mem_iff.mp h'.1, h'.2.1⟩
theorem pass_who {np m : Nat} {kd pt : Nat → Nat} {A : LSt} {c : Bool} {y : Nat} (hA : lB np m A) (h : (passA kd pt A c).1 = some y) : y ∈ A.1 := by
  obtain ⟨L, wt, wn, nt, gu⟩ := A
  have h' : (if c = true then goA kd nt (pushA kd nt L) else none) = some y := h
  cases c with
  | false => cases h'
  | true => exact (pushA_perm kd nt L).mem_iff.mp (goA_mem h')
theorem gb_none {np : Nat} {kd pt : Nat → Nat} {i : Nat} : ∀ (m v mm : Nat) (A : LSt), lB np mm A → i ∉ A.1 → gb kd pt i m v A = none
  | 0, _, _, _, _, _ => rfl
  | m + 1, v, mm, A, hA, hi => by
    rw [gb_s, if_neg (fun z => hi (pass_who hA z)), gb_none m (v / 2) (mm + 1) _ (passA_lB kd pt _ hA) (fun z => hi (pass_gone hA i z).1)]
    rfl
theorem cnm_zero {np : Nat} {kd pt : Nat → Nat} : ∀ (m v mm : Nat) (A : LSt), lB np mm A → A.1 = [] → cnm kd pt m v A = 0
  | 0, _, _, _, _, _ => rfl
  | m + 1, v, mm, A, hA, hi => by
    rw [cnm_s]
    have h1 : (passA kd pt A (bt v)).1 = none := by
      cases e : (passA kd pt A (bt v)).1 with
      | none => rfl
      | some y => have := pass_who hA e; rw [hi] at this; cases this
    have h2 : (passA kd pt A (bt v)).2.1 = [] := by
      cases e : (passA kd pt A (bt v)).2.1 with
      | nil => rfl
      | cons y l =>
        have := (pass_gone (kd := kd) (pt := pt) (c := bt v) hA y (by rw [e]; exact List.mem_cons_self)).1
        rw [hi] at this; cases this
    rw [if_pos h1, cnm_zero m (v / 2) (mm + 1) _ (passA_lB kd pt _ hA) h2]
def cnS (kd pt : Nat → Nat) (tg : Option Nat) (m : Nat) (p : Option Nat × LSt) (u : Nat) : Nat := match tg with
  | none => (if p.1 = none then 0 else 1) + cn kd pt none m u p.2
  | some i => if p.1 = some i then 1 else cn kd pt (some i) m u p.2
theorem cn_succ (kd pt : Nat → Nat) (tg : Option Nat) (m v : Nat) (A : LSt) : cn kd pt tg (m + 1) v A = cnS kd pt tg m (passA kd pt A (bt v)) (v / 2) := by
  cases tg with
  | none => rfl
  | some i =>
    show (if gb kd pt i (m + 1) v A = none then 0 else 1) = (if (passA kd pt A (bt v)).1 = some i then 1 else (if gb kd pt i m (v / 2) (passA kd pt A (bt v)).2 = none then 0 else 1))
    rw [gb_s]
    by_cases e : (passA kd pt A (bt v)).1 = some i
    · rw [if_pos e, if_pos e, if_neg (by simp)]
    · rw [if_neg e, if_neg e]
      cases gb kd pt i m (v / 2) (passA kd pt A (bt v)).2 with
      | none => rfl
      | some k => simp
theorem wtm_tot (cw yw : Nat) : ∀ m, Sn (wtm cw yw m) (2 ^ m) = (cw + yw) ^ m
  | 0 => rfl
  | m + 1 => by
    rw [Nat.pow_succ, Nat.mul_comm (2 ^ m) 2]
    show Sm _ _ _ (2 * 2 ^ m) = _
    rw [Sm_double (fun a b c => Nat.add_assoc a b c)]
    have : ∀ v, wtm cw yw (m + 1) (2 * v) + wtm cw yw (m + 1) (2 * v + 1) = (cw + yw) * wtm cw yw m v := fun v => by
      rw [wtm_s, wtm_s, bt_0, bt_1, if_neg (by decide), if_pos rfl, show 2 * v / 2 = v by omega, show (2 * v + 1) / 2 = v by omega, ← Nat.add_mul, Nat.add_comm yw cw]
    rw [Sm_congr (h := fun v => (cw + yw) * wtm cw yw m v) _ (fun v _ => this v)]
    show Sn (fun v => (cw + yw) * wtm cw yw m v) (2 ^ m) = _
    rw [Sn_mul, wtm_tot cw yw m, Nat.pow_succ, Nat.mul_comm]
theorem wy_sum {np : Nat} {kd pt : Nat → Nat} {tg : Option Nat} {cw yw : Nat} : ∀ (m mm : Nat) (A : LSt), lB np mm A → wy kd pt tg cw yw (cw + yw) m A = Sn (fun v => wtm cw yw m v * cn kd pt tg m v A) (2 ^ m)
  | 0, _, A, _ => by
    show 0 = 0 + wtm cw yw 0 0 * cn kd pt tg 0 0 A
    cases tg <;> simp [cn, cnm, gb]
  | m + 1, mm, A, hA => by
    have hbr : ∀ (c : Bool) (w : Nat), wB (wy kd pt tg cw yw (cw + yw) m) (cw + yw) m tg (passA kd pt A c) w = Sn (fun u => w * (wtm cw yw m u * cnS kd pt tg m (passA kd pt A c) u)) (2 ^ m) := by
      intro c w
      have hA2 := passA_lB kd pt c hA
      have ih := wy_sum (kd := kd) (pt := pt) (tg := tg) (cw := cw) (yw := yw) m (mm + 1) _ hA2
      have hin : Sn (fun u => wtm cw yw m u * cnS kd pt tg m (passA kd pt A c) u) (2 ^ m) = (if hit tg (passA kd pt A c).1 = true then (cw + yw) ^ m else 0) + (if toGo tg (passA kd pt A c).2 = true then wy kd pt tg cw yw (cw + yw) m (passA kd pt A c).2 else 0) := by
        have pw := pass_gone (kd := kd) (pt := pt) (c := c) hA
        generalize passA kd pt A c = p at ih hA2 pw
        cases tg with
        | none =>
          have e2 : (if toGo none p.2 = true then wy kd pt none cw yw (cw + yw) m p.2 else 0) = Sn (fun v => wtm cw yw m v * cn kd pt none m v p.2) (2 ^ m) := by
            by_cases e : toGo none p.2 = true
            · rw [if_pos e, ih]
            · rw [if_neg e]
              have : p.2.1 = [] := by
                unfold toGo at e
                simp only [decide_eq_true_eq, Nat.not_lt, Nat.le_zero] at e
                exact List.length_eq_zero_iff.mp e
              exact (Sn_zero _ (fun v _ => by show wtm cw yw m v * cnm kd pt m v p.2 = 0; rw [cnm_zero m v (mm + 1) _ hA2 this, Nat.mul_zero])).symm
          rw [e2]
          cases e : p.1 with
          | none =>
            have hh : hit none none = false := rfl
            simp only [hh, Bool.false_eq_true, ↓reduceIte, Nat.zero_add]
            refine Sm_congr _ (fun v _ => ?_)
            show wtm cw yw m v * ((if p.1 = none then 0 else 1) + cn kd pt none m v p.2) = _
            rw [e, if_pos rfl, Nat.zero_add]
          | some x =>
            have hh : hit none (some x) = true := rfl
            simp only [hh, ↓reduceIte]
            rw [← wtm_tot, ← Sn_add]
            refine Sm_congr _ (fun v _ => ?_)
            show wtm cw yw m v * ((if p.1 = none then 0 else 1) + cn kd pt none m v p.2) = _
            rw [e, if_neg (by simp), Nat.mul_add, Nat.mul_one]
        | some i =>
          by_cases e : p.1 = some i
          · have hh : hit (some i) p.1 = true := by rw [e]; exact decide_eq_true rfl
            have hg : toGo (some i) p.2 = false := toGo_f (fun z => (pw i z).2 e)
            simp only [hh, hg, Bool.false_eq_true, ↓reduceIte, Nat.add_zero]
            rw [← wtm_tot]
            refine Sm_congr _ (fun v _ => ?_)
            show wtm cw yw m v * (if p.1 = some i then 1 else cn kd pt (some i) m v p.2) = _
            rw [if_pos e, Nat.mul_one]
          · have hh : hit (some i) p.1 = false := by
              cases e2 : p.1 with
              | none => rfl
              | some x => exact decide_eq_false (fun z => e (by rw [e2, z]))
            simp only [hh, Bool.false_eq_true, ↓reduceIte, Nat.zero_add]
            have e3 : Sn (fun u => wtm cw yw m u * cnS kd pt (some i) m p u) (2 ^ m) = Sn (fun v => wtm cw yw m v * cn kd pt (some i) m v p.2) (2 ^ m) := by
              refine Sm_congr _ (fun v _ => ?_)
              show wtm cw yw m v * (if p.1 = some i then 1 else cn kd pt (some i) m v p.2) = _
              rw [if_neg e]
            rw [e3]
            by_cases e4 : toGo (some i) p.2 = true
            · rw [if_pos e4, ih]
            · rw [if_neg e4]
              have hni : i ∉ p.2.1 := toGo_n e4
              exact Sn_zero _ (fun v _ => by show wtm cw yw m v * (if gb kd pt i m v p.2 = none then 0 else 1) = 0; rw [gb_none m v (mm + 1) _ hA2 hni, if_pos rfl, Nat.mul_zero])
      rw [Sn_mul, hin]
      unfold wB
      by_cases hw : w = 0
      · rw [if_pos hw, hw, Nat.zero_mul]
      · rw [if_neg hw]
    rw [Nat.pow_succ, Nat.mul_comm (2 ^ m) 2]
    show _ = Sm _ _ _ (2 * 2 ^ m)
    rw [Sm_double (fun a b c => Nat.add_assoc a b c)]
    rw [Sm_congr (h := fun v => (yw * (wtm cw yw m v * cnS kd pt tg m (passA kd pt A false) v)) + (cw * (wtm cw yw m v * cnS kd pt tg m (passA kd pt A true) v))) _ (fun v _ => by
      rw [cn_succ, cn_succ, bt_0, bt_1, show 2 * v / 2 = v by omega, show (2 * v + 1) / 2 = v by omega]
      show (if bt (2 * v) = true then cw else yw) * wtm cw yw m (2 * v / 2) * _ + (if bt (2 * v + 1) = true then cw else yw) * wtm cw yw m ((2 * v + 1) / 2) * _ = _
      rw [bt_0, bt_1, if_neg (by decide), if_pos rfl, show 2 * v / 2 = v by omega, show (2 * v + 1) / 2 = v by omega, Nat.mul_assoc, Nat.mul_assoc])]
    show _ = Sn _ _
    rw [Sn_add, ← hbr false yw, ← hbr true cw]
    exact Nat.add_comm _ _
theorem cnm_le {kd pt : Nat → Nat} : ∀ (m v : Nat) (A : LSt), cnm kd pt m v A ≤ m
  | 0, _, _ => Nat.le_refl _
  | m + 1, v, A => by
    have := cnm_le (kd := kd) (pt := pt) m (v / 2) (passA kd pt A (bt v)).2
    rw [cnm_s]
    split <;> omega
theorem cn_le {kd pt : Nat → Nat} {tg : Option Nat} (m v : Nat) (A : LSt) : cn kd pt tg m v A ≤ m + 1 := by
  cases tg with
  | none => have := cnm_le (kd := kd) (pt := pt) m v A; show cnm kd pt m v A ≤ m + 1; omega
  | some i => show (if gb kd pt i m v A = none then 0 else 1) ≤ m + 1; split <;> omega
theorem wy_le {np mm : Nat} {kd pt : Nat → Nat} {tg : Option Nat} {cw yw m : Nat} {A : LSt} (hA : lB np mm A) : wy kd pt tg cw yw (cw + yw) m A ≤ (m + 1) * (cw + yw) ^ m := by
  rw [wy_sum m mm A hA, ← wtm_tot, ← Sn_mul]
  exact Sn_le _ (fun v _ => by rw [Nat.mul_comm]; exact Nat.mul_le_mul_right _ (cn_le m v A))
-- the soonest
def omin (a b : Option Nat) : Option Nat := match a, b with
  | none, y => y
  | x, none => x
  | some x, some y => some (min x y)
theorem omin_as (a b c : Option Nat) : omin (omin a b) c = omin a (omin b c) := by
  cases a <;> cases b <;> cases c <;> simp [omin, Nat.min_assoc]
theorem omin_cm (a b : Option Nat) : omin a b = omin b a := by
  cases a <;> cases b <;> simp [omin, Nat.min_comm]
abbrev So (g : Nat → Option Nat) (n : Nat) : Option Nat := Sm omin none g n
theorem So_none {g : Nat → Option Nat} : ∀ n, (∀ v, v < n → g v = none) → So g n = none
  | 0, _ => rfl
  | n + 1, H => by
    show omin (So g n) (g n) = none
    rw [So_none n (fun v hv => H v (by omega)), H n (by omega)]
    rfl
theorem So_0 : ∀ n, So (fun _ => some 0) (n + 1) = some 0
  | 0 => rfl
  | n + 1 => by
    show omin (So (fun _ => some 0) (n + 1)) (some 0) = some 0
    rw [So_0 n]
    rfl
theorem So_map (g : Nat → Option Nat) : ∀ n, So (fun v => (g v).map (fun k => k + 1)) n = (So g n).map (fun k => k + 1)
  | 0 => rfl
  | n + 1 => by
    show omin (So _ n) ((g n).map _) = (omin (So g n) (g n)).map _
    rw [So_map g n]
    rcases So g n with _ | a <;> rcases g n with _ | b
    · rfl
    · rfl
    · rfl
    · show some (min (a + 1) (b + 1)) = some (min a b + 1)
      congr 1
      omega
def apS (sn dp : Nat) (o : Option Nat) : Nat := match o with
  | none => sn
  | some k => min sn (dp + k)
theorem wsn_min {np : Nat} {kd pt : Nat → Nat} {i : Nat} : ∀ (m mm : Nat) (A : LSt) (dp sn : Nat), lB np mm A → wsn kd pt (some i) 1 1 m A dp sn = apS sn dp (So (fun v => gb kd pt i m v A) (2 ^ m))
  | 0, _, A, dp, sn, _ => rfl
  | m + 1, mm, A, dp, sn, hA => by
    have hbr : ∀ (c : Bool) (sn : Nat), snB (fun A' sn => wsn kd pt (some i) 1 1 m A' (dp + 1) sn) (some i) (passA kd pt A c) 1 dp sn = apS sn dp (So (fun u => if (passA kd pt A c).1 = some i then some 0 else (gb kd pt i m u (passA kd pt A c).2).map (fun k => k + 1)) (2 ^ m)) := by
      intro c sn
      have hA2 := passA_lB kd pt c hA
      have ih := fun sn => wsn_min (kd := kd) (pt := pt) (i := i) m (mm + 1) _ (dp + 1) sn hA2
      have pw := pass_gone (kd := kd) (pt := pt) (c := c) hA
      unfold snB
      rw [if_neg (by decide)]
      dsimp only
      generalize passA kd pt A c = p at ih hA2 pw
      by_cases e : p.1 = some i
      · have hh : hit (some i) p.1 = true := by rw [e]; exact decide_eq_true rfl
        have hg : toGo (some i) p.2 = false := toGo_f (fun z => (pw i z).2 e)
        obtain ⟨n, hn⟩ : ∃ n, 2 ^ m = n + 1 := ⟨2 ^ m - 1, by have := Nat.two_pow_pos m; omega⟩
        simp only [hh, hg, Bool.false_eq_true, ↓reduceIte, e]
        rw [hn, So_0, if_pos (show hit (some i) (some i) = true from decide_eq_true rfl)]
        rfl
      · have hh : hit (some i) p.1 = false := by
          cases e2 : p.1 with
          | none => rfl
          | some x => exact decide_eq_false (fun z => e (by rw [e2, z]))
        simp only [hh, Bool.false_eq_true, ↓reduceIte, e]
        rw [So_map]
        by_cases e4 : toGo (some i) p.2 = true
        · rw [if_pos e4, ih]
          cases So (fun v => gb kd pt i m v p.2) (2 ^ m) with
          | none => rfl
          | some k => simp only [apS, Option.map_some]; omega
        · rw [if_neg e4]
          have hni : i ∉ p.2.1 := toGo_n e4
          rw [So_none _ (fun v _ => gb_none m v (mm + 1) _ hA2 hni)]
          rfl
    rw [Nat.pow_succ, Nat.mul_comm (2 ^ m) 2]
    show snB _ _ _ _ _ (snB _ _ _ _ _ _) = apS sn dp (Sm _ _ _ (2 * 2 ^ m))
    rw [Sm_double omin_as, hbr false, hbr true]
    have e : ∀ v, v < 2 ^ m → omin (gb kd pt i (m + 1) (2 * v) A) (gb kd pt i (m + 1) (2 * v + 1) A) = omin (if (passA kd pt A false).1 = some i then some 0 else (gb kd pt i m v (passA kd pt A false).2).map (fun k => k + 1)) (if (passA kd pt A true).1 = some i then some 0 else (gb kd pt i m v (passA kd pt A true).2).map (fun k => k + 1)) := fun v _ => by
      show omin (if (passA kd pt A (bt (2 * v))).1 = some i then some 0 else (gb kd pt i m (2 * v / 2) (passA kd pt A (bt (2 * v))).2).map (fun k => k + 1)) (if (passA kd pt A (bt (2 * v + 1))).1 = some i then some 0 else (gb kd pt i m ((2 * v + 1) / 2) (passA kd pt A (bt (2 * v + 1))).2).map (fun k => k + 1)) = _
      rw [bt_0, bt_1, show 2 * v / 2 = v by omega, show (2 * v + 1) / 2 = v by omega]
    rw [Sm_congr _ e, Sm_op omin_as omin_cm rfl]
    have key : ∀ oF oT, apS (apS sn dp oT) dp oF = apS sn dp (omin oF oT) := by
      intro oF oT
      cases oF <;> cases oT <;> simp only [apS, omin] <;> omega
    exact key _ _
