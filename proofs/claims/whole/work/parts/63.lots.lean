/-! nights by lots -/
def nxS (s : Nat) : Nat := s * 48271 % 2147483647
def bS (s : Nat) : Nat := nxS s / 16 % 2
def lotD : Nat → Nat → List Nat
  | 0, _ => []
  | n + 1, s => bS s :: lotD n (nxS s)
theorem nxS_lt (s : Nat) : nxS s < 2147483647 := Nat.mod_lt _ (by decide)
theorem bS_lt (s : Nat) : bS s < 2 := Nat.mod_lt _ (by decide)
theorem l48271 : (48271 : Int64) = lN 48271 := rfl
theorem l2147 : (2147483647 : Int64) = lN 2147483647 := rfl
theorem lot1 {s : Nat} (h : s < 2 ^ 31) : lN s * 48271 - lN s * 48271 / 2147483647 * 2147483647 = lN (nxS s) := by
  rw [l48271, lN_mul, l2147, pk_lRem (by omega) (by decide) (by decide)]
  rfl
theorem lot2 (s : Nat) : lN (nxS s) / 16 - lN (nxS s) / 16 / 2 * 2 = lN (bS s) := by
  have := nxS_lt s
  rw [show (16 : Int64) = lN 16 from rfl, pk_lDiv (by omega) (by decide) (by decide), show (2 : Int64) = lN 2 from rfl, pk_lRem (by omega) (by decide) (by decide)]
  rfl
def wentC (np : Nat) (kd pt : Nat → Nat) : List Nat → List Nat → Nat
  | _, [] => 0
  | ds, c :: cs => (if (passA kd pt (rep np kd pt ds) (c == 1)).1 = none then 0 else 1) + wentC np kd pt (ds ++ [c]) cs
theorem passA_lt {np m : Nat} {kd pt : Nat → Nat} {A : LSt} {c : Bool} {z : Nat} (hA : lB np m A) (h : (passA kd pt A c).1 = some z) : z < np := by
  obtain ⟨L, wt, wn, nt, gu⟩ := A
  have h' : (if c = true then goA kd nt (pushA kd nt L) else none) = some z := h
  cases c with
  | false => cases h'
  | true => exact hA.2.1 z ((pushA_perm kd nt L).mem_iff.mp (goA_mem h'))
theorem oI_9 {np m : Nat} {kd pt : Nat → Nat} {A : LSt} {c : Bool} (hn : np ≤ 7) (hA : lB np m A) : (oI (passA kd pt A c).1 = -9) ↔ (passA kd pt A c).1 = none := by
  cases e : (passA kd pt A c).1 with
  | none => simp [oI]
  | some z =>
    have := passA_lt hA e
    simp only [oI_some, reduceCtorEq, iff_false]
    exact nI_ne9 (by omega)
section LO
variable {I : Nat → Int32} {J : Nat → Int64} {F : Nat → Nat → Int32} {G : Nat → Int64} {X : Nat → va_E} {np : Nat} {kd pt : Nat → Nat}
theorem lots_x {d n : Nat} {v2 : Int32} (hn40 : n ≤ 40) (hn : np ≤ 7) (h4 : I 4 = nI np) (hk : kOK (F 5) kd np) (hp' : ∀ k, k < np → F 6 k = nI (pt k) ∧ pt k < 1000) : ∀ (m k s w : Nat) (I1 : Nat → Int32) (F1 : Nat → Nat → Int32) (v7 : Value) (ds : List Nat), n - k = m → k ≤ n → s < 2 ^ 31 → rDs np kd pt ds (I1 20) (F1 21) → QN I1 F1 12 np (rep np kd pt ds) → ds.length + m ≤ 40 → (∀ k, (k < 12 ∨ 14 < k) ∧ k ≠ 20 → I1 k = I k) → (∀ k, (k < 13 ∨ 15 < k) ∧ k ≠ 21 → F1 k = F k) →
    ∃ I' F', ex cdX9_lots (rn (d + 9)) 63 [.ref 1, .int (nI n), .int v2, .long (lN s), .null, .int (nI w), .int (nI k), v7] [] (hp I1 J F1 G X) = some (some (.int (nI (w + wentC np kd pt ds (lotD m s)))), hp I' J F' G X) ∧ rDs np kd pt (ds ++ lotD m s) (I' 20) (F' 21) ∧ QN I' F' 12 np (rep np kd pt (ds ++ lotD m s)) ∧ (∀ k, (k < 12 ∨ 14 < k) ∧ k ≠ 20 → I' k = I k) ∧ ∀ k, (k < 13 ∨ 15 < k) ∧ k ≠ 21 → F' k = F k := by
  intro m
  induction m with
  | zero =>
    intro k s w I1 F1 v7 ds e1 e2 hs hD hQ hl f1 f2
    have : k = n := by omega
    subst this
    refine ⟨I1, F1, ?_, by simpa [lotD] using hD, by simpa [lotD] using hQ, f1, f2⟩
    rw [xX9_lots_63, if_pos (nI_le (Nat.le_refl _) (by omega))]
    rfl
  | succ m ih =>
    intro k s w I1 F1 v7 ds e1 e2 hs hD hQ hl f1 f2
    obtain ⟨I2, F2, g1, g2, g3, g4, g5⟩ := night_x (d := d) (c := bS s) (J := J) (G := G) (X := X) hD hQ (by omega) hn (by rw [f1 4 (by omega)]; exact h4) (by rw [f2 5 (by omega)]; exact hk) (by rw [f2 6 (by omega)]; exact hp') (bS_lt s)
    have hlen : (ds ++ [bS s]).length = ds.length + 1 := by simp
    have hA := rep_lBf hD.2.1
    have stepW : ∀ v7, ∃ I' F', ex cdX9_lots (rn (d + 9)) 63 [.ref 1, .int (nI n), .int v2, .long (lN (nxS s)), .null, .int (nI (w + (if (passA kd pt (rep np kd pt ds) (bS s == 1)).1 = none then 0 else 1))), .int (nI (k + 1)), v7] [] (hp I2 J F2 G X) = some (some (.int (nI (w + wentC np kd pt ds (lotD (m + 1) s)))), hp I' J F' G X) ∧ rDs np kd pt (ds ++ lotD (m + 1) s) (I' 20) (F' 21) ∧ QN I' F' 12 np (rep np kd pt (ds ++ lotD (m + 1) s)) ∧ (∀ k, (k < 12 ∨ 14 < k) ∧ k ≠ 20 → I' k = I k) ∧ ∀ k, (k < 13 ∨ 15 < k) ∧ k ≠ 21 → F' k = F k := by
      intro v7
      have := ih (k + 1) (nxS s) (w + (if (passA kd pt (rep np kd pt ds) (bS s == 1)).1 = none then 0 else 1)) I2 F2 v7 (ds ++ [bS s]) (by omega) (by omega) (by have := nxS_lt s; omega) g2 g3 (by omega) (fun j hj => by rw [g4 j hj, f1 j hj]) (fun j hj => by rw [g5 j hj, f2 j hj])
      rw [List.append_assoc, Nat.add_assoc] at this
      exact this
    have hnn : ¬ (2147483647 : Int64) = 0 := by decide
    have hcall : ∀ t : Int32, ∃ I' F', ex cdX9_lots (rn (d + 9)) 111 [.ref 1, .int (nI n), .int v2, .long (lN (nxS s)), .null, .int (nI w), .int (nI k), .int t] [.int (nI (bS s)), .ref 1] (hp I1 J F1 G X) = some (some (.int (nI (w + wentC np kd pt ds (lotD (m + 1) s)))), hp I' J F' G X) ∧ rDs np kd pt (ds ++ lotD (m + 1) s) (I' 20) (F' 21) ∧ QN I' F' 12 np (rep np kd pt (ds ++ lotD (m + 1) s)) ∧ (∀ k, (k < 12 ∨ 14 < k) ∧ k ≠ 20 → I' k = I k) ∧ ∀ k, (k < 13 ∨ 15 < k) ∧ k ≠ 21 → F' k = F k := by
      intro t
      obtain ⟨I', F', u1, u2⟩ := stepW (.int t)
      refine ⟨I', F', ?_, u2⟩
      rw [xX9_lots_111, if_pos x_is, g1, Option.bind_some]
      dsimp only
      by_cases z : (passA kd pt (rep np kd pt ds) (bS s == 1)).1 = none
      · rw [if_pos ((oI_9 hn hA).mpr z), nI_1]
        rw [if_pos z, Nat.add_zero] at u1
        exact u1
      · rw [if_neg (fun y => z ((oI_9 hn hA).mp y)), nI_1, nI_1]
        rw [if_neg z] at u1
        exact u1
    rw [xX9_lots_63, if_neg (nI_ge (by omega) (by omega)), if_neg hnn, lot1 hs, lot2]
    rcases c2 (bS_lt s) with e | e
    · rw [e, if_neg (by decide), xX9_lots_98, if_pos rfl]
      have := hcall 0
      rw [e] at this
      exact this
    · rw [e, if_pos (by decide), xX9_lots_98, if_neg one_ne]
      have := hcall 1
      rw [e] at this
      exact this
theorem lots_y {d n : Nat} {v2 : Int32} (hn40 : n ≤ 40) (hn : np ≤ 7) (hk : kOK (F 170) kd np) (hp' : ∀ k, k < np → F 171 k = nI (pt k) ∧ pt k < 1000) : ∀ (m k s w : Nat) (row st : Nat → Int32) (ds : List Nat), n - k = m → k ≤ n → s < 2 ^ 31 → okDs np kd pt ds → SegRel row 0 np kd pt ds → ds.length + m ≤ 40 →
    ∃ row' st', ex cdX10_lots (rn (d + 8)) 61 [.ref 168, .int (nI n), .int v2, .long (lN s), .null, .int (nI w), .int (nI k)] [] (hp I J (tF F row st) G X) = some (some (.int (nI (w + wentC np kd pt ds (lotD m s)))), hp I J (tF F row' st') G X) ∧ SegRel row' 0 np kd pt (ds ++ lotD m s) ∧ ∀ k, 985 ≤ k → row' k = row k := by
  intro m
  induction m with
  | zero =>
    intro k s w row st ds e1 e2 hs hD hQ hl
    have : k = n := by omega
    subst this
    refine ⟨row, st, ?_, by simpa [lotD] using hQ, fun _ _ => rfl⟩
    rw [xX10_lots_61, if_pos (nI_le (Nat.le_refl _) (by omega))]
    rfl
  | succ m ih =>
    intro k s w row st ds e1 e2 hs hD hQ hl
    obtain ⟨row1, st1, g1, g2, g3, g4⟩ := night_y (d := d) (c := bS s) (I := I) (J := J) (G := G) (X := X) (st := st) hQ hD (by omega) hn hk hp' (bS_lt s)
    have hlen : (ds ++ [bS s]).length = ds.length + 1 := by simp
    have hA := rep_lBf hD
    obtain ⟨row', st', u1, u2, u3⟩ := ih (k + 1) (nxS s) (w + (if (passA kd pt (rep np kd pt ds) (bS s == 1)).1 = none then 0 else 1)) row1 st1 (ds ++ [bS s]) (by omega) (by omega) (by have := nxS_lt s; omega) (okDs_snoc hD (Or.inl (bS_lt s))) g3 (by omega)
    rw [List.append_assoc] at u2
    rw [Nat.add_assoc] at u1
    refine ⟨row', st', ?_, u2, fun j hj => by rw [u3 j hj, g4 j hj]⟩
    have hnn : ¬ (2147483647 : Int64) = 0 := by decide
    rw [xX10_lots_61, if_neg (nI_ge (by omega) (by omega)), if_neg hnn, if_pos y_is, g1, Option.bind_some, if_pos y_is, lot1 hs, lot2, lN_i, g2, Option.bind_some]
    dsimp only
    have hw : wentC np kd pt ds (lotD (m + 1) s) = (if (passA kd pt (rep np kd pt ds) (bS s == 1)).1 = none then 0 else 1) + wentC np kd pt (ds ++ [bS s]) (lotD m (nxS s)) := rfl
    by_cases z : (passA kd pt (rep np kd pt ds) (bS s == 1)).1 = none
    · rw [if_pos ((oI_9 hn hA).mpr z), nI_1, add0, hw, if_pos z, Nat.zero_add]
      rw [if_pos z, Nat.zero_add, Nat.add_zero] at u1
      exact u1
    · rw [if_neg (fun y => z ((oI_9 hn hA).mp y)), nI_1, nI_1, hw, if_neg z]
      rw [if_neg z] at u1
      exact u1
end LO
theorem lotD_len : ∀ (n s : Nat), (lotD n s).length = n
  | 0, _ => rfl
  | n + 1, s => by unfold lotD; rw [List.length_cons, lotD_len n]
theorem g_lots : gdI 114 234 2 := gdI_of (fun as hn I J F G X np kd pt pr ds ks hR hS => by
  obtain ⟨a, b, rfl⟩ := as2 hn
  show okI _ _ [.int a, .int b] I J F G X
  obtain ⟨hn7, h4, h168, hk, hk', hp', hp'', hA, hQ, hL⟩ := rel_ctx (G := G) (X := X) hR
  obtain ⟨hD, -, hSg⟩ := hR.2.2.2.2.2.1
  have hD3 := hD.2.2.1
  have hD1 := hD.1
  have hr0 : F 169 0 = nI ds.length := hSg.1
  rcases ix1 a (n := 20) (by decide) with ha | ⟨n, hn1, hn20, rfl⟩
  · refine okI_same (v := -1) hR hS ?_ ?_
    · refine cIo ?_; rw [rX9_lots, xX9_lots_0]
      by_cases z : a < 1
      · rw [if_pos z]
      · rcases ha with e | e
        · exact absurd e z
        · rw [if_neg z, if_pos (show (20 : Int32) < a from e)]
    · refine cIo ?_; rw [rX10_lots, xX10_lots_0, in_yn1 (x := 1) (y := 20) ha (by decide) (by decide), Option.bind_some, if_pos rfl]
  have z1 : ¬ nI n < 1 := nI_l1 hn1 (by omega)
  have z2 : ¬ (20 : Int32) < nI n := fun z => by have := (nI_ltI (a := 20) (by decide) (by omega)).mp z; omega
  have iny := fun (d : Nat) (h : mH) => in_y1 (d := d) (h := h) (x := 1) (y := 20) (n := 20) (by decide) hn1 hn20 (by decide) (by decide)
  have big : (2147483647 : Int64) = (nI 2147483647).toInt64 := by decide
  rcases ix1 b (n := 2147483646) (by decide) with hb | ⟨s, hs1, hs2, rfl⟩
  · refine okI_same (v := -1) hR hS ?_ ?_
    · refine cIo ?_; rw [rX9_lots, xX9_lots_0, if_neg z1, if_neg z2]
      by_cases z : b < 1
      · rw [if_pos z]
      · rcases hb with e | e
        · exact absurd e z
        · have h0 : ¬ b < 0 := fun y => z (Int32.lt_trans y (by decide))
          obtain ⟨j, hj, rfl⟩ := nI_of h0
          rw [if_neg z, if_neg (by
            rw [lg_cmp_lt, big, i64, nI_ltI hj (by decide)]
            have := (nI_ltI (by decide) hj).mp e
            omega)]
    · refine cIo ?_; rw [rX10_lots, xX10_lots_0, iny, Option.bind_some, if_neg one_ne, in_yn1 (x := 1) (y := 2147483646) hb (by decide) (by decide), Option.bind_some, if_pos rfl]
  have z3 : ¬ nI s < 1 := nI_l1 hs1 (by omega)
  have z4 : lg_cmp (Int32.toInt64 (nI s)) (2147483647 : Int64) < 0 := by
    rw [lg_cmp_lt, big, i64, nI_ltI (by omega) (by decide)]
    omega
  have iny2 := fun (d : Nat) (h : mH) => in_y1 (d := d) (h := h) (x := 1) (y := 2147483646) (n := 2147483646) (by decide) hs1 hs2 (by decide) (by decide)
  by_cases h0 : np = 0
  · subst h0
    refine okI_same (v := -4) hR hS ?_ ?_
    · refine cIo ?_; rw [rX9_lots, xX9_lots_0, if_neg z1, if_neg z2, if_neg z3, if_pos z4, x_f2, Option.bind_some, x_cn, Option.bind_some, h4, if_pos (by decide)]
    · refine cIo ?_; rw [rX10_lots, xX10_lots_0, iny, Option.bind_some, if_neg one_ne, iny2, Option.bind_some, if_neg one_ne, y_ps, Option.bind_some, h168, if_pos (by decide)]
  have np0 : ¬ nI np = 0 := nI_ne0 (by omega) (by omega)
  by_cases hl : ds.length + n ≤ 40
  · obtain ⟨I1, F1, e1, e2, e3, e4, e5⟩ := lots_x (d := 50) (n := n) (v2 := nI s) (I := I) (J := J) (F := F) (G := G) (X := X) (by omega) hn7 h4 hk hp' n 0 s 0 I F .null ds rfl (by omega) (by omega) hD hQ hl (fun _ _ => rfl) (fun _ _ => rfl)
    obtain ⟨row', st', u1, u2, u3⟩ := lots_y (d := 51) (n := n) (v2 := nI s) (I := I1) (J := J) (F := F1) (G := G) (X := X) (by omega) hn7 (by rw [e5 170 (by omega)]; exact hk') (by rw [e5 171 (by omega)]; exact hp'') n 0 s 0 (F1 169) (F1 179) ds rfl (by omega) (by omega) hD.2.1 (by rw [e5 169 (by omega)]; exact hSg) hl
    rw [tF_same, nI_0] at u1
    rw [nI_0] at e1
    have hr1 : F1 169 0 = nI ds.length := by rw [e5 169 (by omega)]; exact hr0
    have h1681 : I1 168 = nI np := by rw [e4 168 (by omega)]; exact h168
    refine okI_mk (J2 := J) (G2 := G) (v := nI (0 + wentC np kd pt ds (lotD n s))) (I1 := I1) (J1 := J) (F1 := F1) (X1 := X) (I2 := I1) (F2 := tF F1 row' st') ?_ ?_ (rel_line (ds' := ds ++ lotD n s) hR (fun k hk => e4 k (by omega)) (fun k hk => by rw [tF_ne (by omega) (by omega), e5 k (by omega)]) ⟨by rw [tF_ne (by decide) (by decide)]; exact e2, QN_c e3 (fun _ _ _ => rfl) (fun k k1 k2 => tF_ne (by omega) (by omega)), by rw [tF_169]; exact u2⟩ (fun k k1 k2 => by rw [tF_169, u3 k k1, e5 169 (by omega)])) hS
    · refine cIo ?_; rw [rX9_lots, xX9_lots_0, if_neg z1, if_neg z2, if_neg z3, if_pos z4, x_f2, Option.bind_some, x_cn, Option.bind_some, h4, if_neg np0, x_f6, Option.bind_some, if_pos x_di, room_x hD3 (by omega) (by omega), Option.bind_some, bI_dt hl, if_neg one_ne, nI_l (by omega), e1]
    · refine cIo ?_; rw [rX10_lots, xX10_lots_0, iny, Option.bind_some, if_neg one_ne, iny2, Option.bind_some, if_neg one_ne, y_ps, Option.bind_some, h1681, if_neg np0, y_f0, Option.bind_some, y_row0, Option.bind_some, hr1, nI_add, if_pos (show nI (ds.length + n) ≤ 40 from nI_le (b := 40) hl (by decide)), nI_l (by omega), u1]
  · refine okI_same (v := -2) hR hS ?_ ?_
    · refine cIo ?_; rw [rX9_lots, xX9_lots_0, if_neg z1, if_neg z2, if_neg z3, if_pos z4, x_f2, Option.bind_some, x_cn, Option.bind_some, h4, if_neg np0, x_f6, Option.bind_some, if_pos x_di, room_x hD3 (by omega) (by omega), Option.bind_some, bI_df hl, if_pos rfl]
    · refine cIo ?_; rw [rX10_lots, xX10_lots_0, iny, Option.bind_some, if_neg one_ne, iny2, Option.bind_some, if_neg one_ne, y_ps, Option.bind_some, h168, if_neg np0, y_f0, Option.bind_some, y_row0, Option.bind_some, hr0, nI_add, if_neg (show ¬ nI (ds.length + n) ≤ 40 from fun z => by have := (nI_leI (b := 40) (by omega) (by decide)).mp z; omega)])
