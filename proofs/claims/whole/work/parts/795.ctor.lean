/-! what the two constructors make -/
def z0 : Nat → Int32 := fun _ => 0
def zL : Nat → Int64 := fun _ => 0
theorem bsO {α β : Type} {x : Option α} {f : α → Option β} {a : α} {r : Option β} (h1 : x = some a) (h2 : f a = r) : x.bind f = r := by rw [h1]; exact h2
theorem pFk {h t : mH} {k n ci j : Nat} {fs : List Value} {v : Value} (hq : h.length + k = n) (h0 : t[k]? = some (.inr (ci, fs))) (hj : j < fs.length) : pF (h ++ t) n ci j v = some (h ++ t.set k (.inr (ci, fs.set j v))) := by
  subst hq
  have e : (h ++ t)[h.length + k]? = some (.inr (ci, fs)) := by rw [List.getElem?_append_right (by omega), Nat.add_sub_cancel_left]; exact h0
  rw [pF_at e hj, List.set_append_right _ _ (by omega), Nat.add_sub_cancel_left]
theorem gRk {h t : mH} {k n ci j x : Nat} {fs : List Value} (hq : h.length + k = n) (h0 : t[k]? = some (.inr (ci, fs))) (hj : fs[j]? = some (.ref x)) : gR (h ++ t) n ci j = some x := by
  subst hq
  exact gR_at (by rw [List.getElem?_append_right (by omega), Nat.add_sub_cancel_left]; exact h0) hj
theorem sRk {H : mH} {a t n ci k v : Nat} {f : Nat → Option Nat} (h0 : H[a]? = some (arR t n f)) (hk : k < n) (hn : n < 2 ^ 31) (hv : isO H v ci = true) : sR t ci H a (nI k) v = some (H.set a (arR t n (va_up f k (some v)))) := by
  unfold sR
  rw [h0]
  unfold arR
  dsimp only
  rw [if_pos rfl, if_pos (by rw [vin_nI hk hn, hv]; rfl), nI_clamp (by omega)]
theorem ap1 (h : mH) (t : mH) (x : va_E) : (h ++ t) ++ [x] = h ++ (t ++ [x]) := List.append_assoc _ _ _
theorem apl (h t : mH) {n k m : Nat} (hn : h.length = n) (hk : t.length = k) (hm : n + k = m) : (h ++ t).length = m := by rw [List.length_append, hn, hk, hm]
theorem mkQ {d n : Nat} {h : mH} (hn : h.length = n) : cV (rn (d + 2)) 40 [.ref h.length] (h ++ [.inr (5, [.null, .null, .null, .int 0, .int 0, .int 0])]) = some (h ++ [oQ n 0 0 0, ar 7 z0, ar 7 z0, ar 7 z0]) := by
  subst hn
  refine cVo ?_
  rw [rX5_init, xX5_init_0, nat0, Option.bind_some, ap1, apl h _ rfl rfl rfl]
  refine bsO (pFk (k := 0) rfl rfl (Nat.le_of_ble_eq_true rfl)) ?_
  rw [ap1, apl h _ rfl rfl rfl]
  refine bsO (pFk (k := 0) rfl rfl (Nat.le_of_ble_eq_true rfl)) ?_
  rw [ap1, apl h _ rfl rfl rfl]
  refine bsO (pFk (k := 0) rfl rfl (Nat.le_of_ble_eq_true rfl)) ?_
  refine bsO (pFk (k := 0) rfl rfl (Nat.le_of_ble_eq_true rfl)) ?_
  refine bsO (pFk (k := 0) rfl rfl (Nat.le_of_ble_eq_true rfl)) ?_
  refine bsO (pFk (k := 0) rfl rfl (Nat.le_of_ble_eq_true rfl)) ?_
  rfl
theorem mkQ2 {d n : Nat} {h : mH} (hn : h.length = n) : cV (rn (d + 2)) 40 [.ref n] (h ++ [.inr (5, [.null, .null, .null, .int 0, .int 0, .int 0])]) = some (h ++ [oQ n 0 0 0, ar 7 z0, ar 7 z0, ar 7 z0]) := by
  have := mkQ (d := d) hn
  rwa [hn] at this
theorem mkC {d n : Nat} {h : mH} (hn : h.length = n) : cV (rn (d + 2)) 9 [.ref h.length] (h ++ [.inr (1, [.null, .null, .null, .int 0])]) = some (h ++ [oC n 0, ar 7 z0, ar 7 z0, ar 7 z0]) := by
  subst hn
  refine cVo ?_
  rw [rX1_init, xX1_init_0, nat0, Option.bind_some, ap1, apl h _ rfl rfl rfl]
  refine bsO (pFk (k := 0) rfl rfl (Nat.le_of_ble_eq_true rfl)) ?_
  rw [ap1, apl h _ rfl rfl rfl]
  refine bsO (pFk (k := 0) rfl rfl (Nat.le_of_ble_eq_true rfl)) ?_
  rw [ap1, apl h _ rfl rfl rfl]
  refine bsO (pFk (k := 0) rfl rfl (Nat.le_of_ble_eq_true rfl)) ?_
  refine bsO (pFk (k := 0) rfl rfl (Nat.le_of_ble_eq_true rfl)) ?_
  rfl
theorem mkD {d n : Nat} {h : mH} (hn : h.length = n) : cV (rn (d + 2)) 18 [.ref h.length] (h ++ [.inr (2, [.null, .int 0])]) = some (h ++ [oN 2 (n + 1) 0, ar 40 z0]) := by
  subst hn
  refine cVo ?_
  rw [rX2_init, xX2_init_0, nat0, Option.bind_some, ap1, apl h _ rfl rfl rfl]
  refine bsO (pFk (k := 0) rfl rfl (Nat.le_of_ble_eq_true rfl)) ?_
  refine bsO (pFk (k := 0) rfl rfl (Nat.le_of_ble_eq_true rfl)) ?_
  rfl
theorem mkR {d n : Nat} {h : mH} (hn : h.length = n) : cV (rn (d + 2)) 57 [.ref h.length] (h ++ [.inr (6, [.null, .int 0])]) = some (h ++ [oN 6 (n + 1) (-1), ar 40 z0]) := by
  subst hn
  refine cVo ?_
  rw [rX6_init, xX6_init_0, nat0, Option.bind_some, ap1, apl h _ rfl rfl rfl]
  refine bsO (pFk (k := 0) rfl rfl (Nat.le_of_ble_eq_true rfl)) ?_
  refine bsO (pFk (k := 0) rfl rfl (Nat.le_of_ble_eq_true rfl)) ?_
  rfl
theorem mkT {d n : Nat} {h : mH} (hn : h.length = n) : cV (rn (d + 2)) 64 [.ref h.length] (h ++ [.inr (7, [.null, .int 0])]) = some (h ++ [oN 7 (n + 1) (-1), arB 60 z0]) := by
  subst hn
  refine cVo ?_
  rw [rX7_init, xX7_init_0, nat0, Option.bind_some, ap1, apl h _ rfl rfl rfl]
  refine bsO (pFk (k := 0) rfl rfl (Nat.le_of_ble_eq_true rfl)) ?_
  refine bsO (pFk (k := 0) rfl rfl (Nat.le_of_ble_eq_true rfl)) ?_
  rfl
/-- k queues from cell b on -/
def qsL (b : Nat) : Nat → mH
  | 0 => []
  | k + 1 => qsL b k ++ [oQ (b + 4 * k) 0 0 0, ar 7 z0, ar 7 z0, ar 7 z0]
def upL (b : Nat) : Nat → Nat → Option Nat
  | 0 => fun _ => none
  | k + 1 => va_up (upL b k) k (some (b + 4 * k))
theorem qsL_len (b : Nat) : ∀ k, (qsL b k).length = 4 * k
  | 0 => rfl
  | k + 1 => by
    show (qsL b k ++ [oQ (b + 4 * k) 0 0 0, ar 7 z0, ar 7 z0, ar 7 z0]).length = _
    rw [List.length_append, qsL_len b k]
    show 4 * k + 4 = _
    omega
theorem qs_step {d b N k ci n : Nat} {h c : mH} {fs : List Value} (hn : h.length = n) (hb : b = n + 2 + c.length) (hk : k < N) (hN : N < 2 ^ 31) : gR (h ++ (.inr (ci, .ref (n + 1) :: fs) :: arR 7 N (upL b k) :: (c ++ qsL b k))) n ci 0 = some (n + 1) ∧ ∃ H', cV (rn (d + 2)) 40 [.ref (h ++ (.inr (ci, .ref (n + 1) :: fs) :: arR 7 N (upL b k) :: (c ++ qsL b k))).length] ((h ++ (.inr (ci, .ref (n + 1) :: fs) :: arR 7 N (upL b k) :: (c ++ qsL b k))) ++ [.inr (5, [.null, .null, .null, .int 0, .int 0, .int 0])]) = some H' ∧ sR 7 5 H' (n + 1) (nI k) (h ++ (.inr (ci, .ref (n + 1) :: fs) :: arR 7 N (upL b k) :: (c ++ qsL b k))).length = some (h ++ (.inr (ci, .ref (n + 1) :: fs) :: arR 7 N (upL b (k + 1)) :: (c ++ qsL b (k + 1)))) := by
  have hl : (h ++ (.inr (ci, .ref (n + 1) :: fs) :: arR 7 N (upL b k) :: (c ++ qsL b k))).length = b + 4 * k := by
    rw [List.length_append, List.length_cons, List.length_cons, List.length_append, qsL_len, hn, hb]
    omega
  refine ⟨gRk (k := 0) (by omega) rfl rfl, _, mkQ hl, ?_⟩
  rw [hl]
  have h1 : ((h ++ (.inr (ci, .ref (n + 1) :: fs) :: arR 7 N (upL b k) :: (c ++ qsL b k))) ++ [oQ (b + 4 * k) 0 0 0, ar 7 z0, ar 7 z0, ar 7 z0])[n + 1]? = some (arR 7 N (upL b k)) := by
    rw [List.append_assoc, List.getElem?_append_right (by omega), show n + 1 - h.length = 1 by omega]
    rfl
  have h2 : isO ((h ++ (.inr (ci, .ref (n + 1) :: fs) :: arR 7 N (upL b k) :: (c ++ qsL b k))) ++ [oQ (b + 4 * k) 0 0 0, ar 7 z0, ar 7 z0, ar 7 z0]) (b + 4 * k) 5 = true := by
    refine isO_at (fs := [.ref (b + 4 * k + 1), .ref (b + 4 * k + 2), .ref (b + 4 * k + 3), .int 0, .int 0, .int 0]) ?_
    rw [List.getElem?_append_right (by omega), hl, Nat.sub_self]
    rfl
  rw [sRk h1 hk hN h2]
  congr 1
  rw [List.append_assoc, List.set_append_right _ _ (by omega), show n + 1 - h.length = 1 by omega]
  show h ++ (.inr (ci, .ref (n + 1) :: fs) :: arR 7 N (va_up (upL b k) k (some (b + 4 * k))) :: ((c ++ qsL b k) ++ [oQ (b + 4 * k) 0 0 0, ar 7 z0, ar 7 z0, ar 7 z0])) = _
  rw [List.append_assoc]
  rfl
theorem mkW_loop {d n : Nat} {h : mH} {fs : List Value} {c : mH} (hn : h.length = n) (hc : c.length = 1) : ∀ (q k : Nat), 11 - k = q → k ≤ 11 → ex cdX4_init (rn (d + 2)) 69 [.ref n, .int (nI k)] [] (h ++ (.inr (4, .ref (n + 1) :: fs) :: arR 7 11 (upL (n + 3) k) :: (c ++ qsL (n + 3) k))) = some (none, h ++ (.inr (4, .ref (n + 1) :: fs) :: arR 7 11 (upL (n + 3) 11) :: (c ++ qsL (n + 3) 11))) := by
  intro q
  induction q with
  | zero =>
    intro k h1 h2
    have : k = 11 := by omega
    subst this
    rw [xX4_init_69, if_pos (by decide)]
  | succ q ih =>
    intro k h1 h2
    obtain ⟨a1, H', a2, a3⟩ := qs_step (d := d) (ci := 4) (k := k) (fs := fs) (c := c) (N := 11) (b := n + 3) hn (by omega) (by omega) (by decide)
    rw [xX4_init_69, if_neg (show ¬ (10 : Int32) < nI k from fun z => by have := (nI_ltI (a := 10) (by decide) (by omega)).mp z; omega), a1, Option.bind_some, a2, Option.bind_some, a3, Option.bind_some, nI_1]
    exact ih (k + 1) (by omega) (by omega)
theorem mkW {d n : Nat} {h : mH} (hn : h.length = n) : cV (rn (d + 3)) 29 [.ref h.length] (h ++ [.inr (4, [.null, .null, .null, .null, .int 0, .int 0, .int 0, .int 0, .int 0, .int 0, .long 0])]) = some (h ++ (.inr (4, .ref (n + 1) :: [.ref (n + 2), .null, .null, .int 0, .int (-2), .int 1, .int 1, .int 0, .int 0, .long 0]) :: arR 7 11 (upL (n + 3) 11) :: ([arL 11 zL] ++ qsL (n + 3) 11))) := by
  subst hn
  refine cVo ?_
  rw [rX4_init, xX4_init_0, nat0, Option.bind_some, ap1, apl h _ rfl rfl rfl]
  refine bsO (pFk (k := 0) rfl rfl (Nat.le_of_ble_eq_true rfl)) ?_
  rw [ap1, apl h _ rfl rfl rfl]
  refine bsO (pFk (k := 0) rfl rfl (Nat.le_of_ble_eq_true rfl)) ?_
  refine bsO (pFk (k := 0) rfl rfl (Nat.le_of_ble_eq_true rfl)) ?_
  refine bsO (pFk (k := 0) rfl rfl (Nat.le_of_ble_eq_true rfl)) ?_
  refine bsO (pFk (k := 0) rfl rfl (Nat.le_of_ble_eq_true rfl)) ?_
  refine bsO (pFk (k := 0) rfl rfl (Nat.le_of_ble_eq_true rfl)) ?_
  refine bsO (pFk (k := 0) rfl rfl (Nat.le_of_ble_eq_true rfl)) ?_
  refine bsO (pFk (k := 0) rfl rfl (Nat.le_of_ble_eq_true rfl)) ?_
  refine bsO (pFk (k := 0) rfl rfl (Nat.le_of_ble_eq_true rfl)) ?_
  refine bsO (pFk (k := 0) rfl rfl (Nat.le_of_ble_eq_true rfl)) ?_
  refine bsO (pFk (k := 0) rfl rfl (Nat.le_of_ble_eq_true rfl)) ?_
  exact mkW_loop (d := d) (c := [arL 11 zL]) rfl rfl 11 0 rfl (by decide)
theorem mkG_loop {d n : Nat} {h : mH} {fs : List Value} {c : mH} (hn : h.length = n) (hc : c.length = 0) : ∀ (q k : Nat), 9 - k = q → k ≤ 9 → ex cdX0_init (rn (d + 2)) 31 [.ref n, .int (nI k)] [] (h ++ (.inr (0, .ref (n + 1) :: fs) :: arR 7 9 (upL (n + 2) k) :: (c ++ qsL (n + 2) k))) = some (none, h ++ (.inr (0, .ref (n + 1) :: fs) :: arR 7 9 (upL (n + 2) 9) :: (c ++ qsL (n + 2) 9))) := by
  intro q
  induction q with
  | zero =>
    intro k h1 h2
    have : k = 9 := by omega
    subst this
    rw [xX0_init_31, if_pos (by decide)]
  | succ q ih =>
    intro k h1 h2
    obtain ⟨a1, H', a2, a3⟩ := qs_step (d := d) (ci := 0) (k := k) (fs := fs) (c := c) (N := 9) (b := n + 2) hn (by omega) (by omega) (by decide)
    rw [xX0_init_31, if_neg (show ¬ (8 : Int32) < nI k from fun z => by have := (nI_ltI (a := 8) (by decide) (by omega)).mp z; omega), a1, Option.bind_some, a2, Option.bind_some, a3, Option.bind_some, nI_1]
    exact ih (k + 1) (by omega) (by omega)
theorem mkG {d n : Nat} {h : mH} (hn : h.length = n) : cV (rn (d + 3)) 4 [.ref h.length] (h ++ [.inr (0, [.null, .null, .int 0, .int 0])]) = some (h ++ (.inr (0, .ref (n + 1) :: [.null, .int (-2), .int 0]) :: arR 7 9 (upL (n + 2) 9) :: ([] ++ qsL (n + 2) 9))) := by
  subst hn
  refine cVo ?_
  rw [rX0_init, xX0_init_0, nat0, Option.bind_some, ap1, apl h _ rfl rfl rfl]
  refine bsO (pFk (k := 0) rfl rfl (Nat.le_of_ble_eq_true rfl)) ?_
  refine bsO (pFk (k := 0) rfl rfl (Nat.le_of_ble_eq_true rfl)) ?_
  refine bsO (pFk (k := 0) rfl rfl (Nat.le_of_ble_eq_true rfl)) ?_
  refine bsO (pFk (k := 0) rfl rfl (Nat.le_of_ble_eq_true rfl)) ?_
  exact mkG_loop (d := d) (c := []) rfl rfl 9 0 rfl (by decide)
theorem mkS_loop {d n : Nat} {h : mH} {fs : List Value} {c : mH} (hn : h.length = n) (hc : c.length = 5) : ∀ (q k : Nat), 4 - k = q → k ≤ 4 → ex cdX8_init (rn (d + 2)) 60 [.ref n, .int (nI k)] [] (h ++ (.inr (8, .ref (n + 1) :: fs) :: arR 7 4 (upL (n + 7) k) :: (c ++ qsL (n + 7) k))) = some (none, h ++ (.inr (8, .ref (n + 1) :: fs) :: arR 7 4 (upL (n + 7) 4) :: (c ++ qsL (n + 7) 4))) := by
  intro q
  induction q with
  | zero =>
    intro k h1 h2
    have : k = 4 := by omega
    subst this
    rw [xX8_init_60, if_pos (by decide)]
  | succ q ih =>
    intro k h1 h2
    obtain ⟨a1, H', a2, a3⟩ := qs_step (d := d) (ci := 8) (k := k) (fs := fs) (c := c) (N := 4) (b := n + 7) hn (by omega) (by omega) (by decide)
    rw [xX8_init_60, if_neg (show ¬ (3 : Int32) < nI k from fun z => by have := (nI_ltI (a := 3) (by decide) (by omega)).mp z; omega), a1, Option.bind_some, a2, Option.bind_some, a3, Option.bind_some, nI_1]
    exact ih (k + 1) (by omega) (by omega)
theorem mkS {d n : Nat} {h : mH} (hn : h.length = n) : cV (rn (d + 3)) 69 [.ref h.length] (h ++ [.inr (8, [.null, .null, .null, .int 0, .int 0, .int 0, .int 0, .null])]) = some (h ++ (.inr (8, .ref (n + 1) :: [.ref (n + 2), .null, .int 0, .int (-2), .int (-2), .int (-9), .ref (n + 6)]) :: arR 7 4 (upL (n + 7) 4) :: ([oQ (n + 2) 0 0 0, ar 7 z0, ar 7 z0, ar 7 z0, ar 3 z0] ++ qsL (n + 7) 4))) := by
  subst hn
  refine cVo ?_
  rw [rX8_init, xX8_init_0, nat0, Option.bind_some, ap1, apl h _ rfl rfl rfl]
  refine bsO (pFk (k := 0) rfl rfl (Nat.le_of_ble_eq_true rfl)) ?_
  rw [apl h _ rfl rfl rfl]
  refine bsO (mkQ2 (d := d) (apl h _ rfl rfl rfl)) ?_
  rw [List.append_assoc]
  refine bsO (pFk (k := 0) rfl rfl (Nat.le_of_ble_eq_true rfl)) ?_
  refine bsO (pFk (k := 0) rfl rfl (Nat.le_of_ble_eq_true rfl)) ?_
  refine bsO (pFk (k := 0) rfl rfl (Nat.le_of_ble_eq_true rfl)) ?_
  refine bsO (pFk (k := 0) rfl rfl (Nat.le_of_ble_eq_true rfl)) ?_
  refine bsO (pFk (k := 0) rfl rfl (Nat.le_of_ble_eq_true rfl)) ?_
  refine bsO (pFk (k := 0) rfl rfl (Nat.le_of_ble_eq_true rfl)) ?_
  rw [ap1, apl h _ rfl rfl rfl]
  refine bsO (pFk (k := 0) rfl rfl (Nat.le_of_ble_eq_true rfl)) ?_
  exact mkS_loop (d := d) (c := [oQ (h.length + 2) 0 0 0, ar 7 z0, ar 7 z0, ar 7 z0, ar 3 z0]) rfl rfl 4 0 rfl (by decide)
theorem mkM {d n : Nat} {h : mH} (hn : h.length = n) : cV (rn (d + 2)) 22 [.ref h.length] (h ++ [.inr (3, [.null, .int 0, .int 0, .long 0])]) = some (h ++ (.inr (3, [.ref (n + 1), .int 0, .int (-1), .long 0]) :: arR 8 7 (fun i => if i < 7 then some (n + 1 + 1 + i) else none) :: List.replicate 7 (ar 7 z0))) := by
  subst hn
  refine cVo ?_
  rw [rX3_init, xX3_init_0, nat0, Option.bind_some, List.append_assoc, apl h _ rfl rfl rfl]
  refine bsO (pFk (k := 0) rfl rfl (Nat.le_of_ble_eq_true rfl)) ?_
  refine bsO (pFk (k := 0) rfl rfl (Nat.le_of_ble_eq_true rfl)) ?_
  refine bsO (pFk (k := 0) rfl rfl (Nat.le_of_ble_eq_true rfl)) ?_
  refine bsO (pFk (k := 0) rfl rfl (Nat.le_of_ble_eq_true rfl)) ?_
  rfl
