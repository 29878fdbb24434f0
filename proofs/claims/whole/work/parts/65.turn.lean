/-! tonight, turn, after -/
def trn (kd pt : Nat → Nat) (i : Nat) : Nat → List Bool → LSt → Int32
  | _, [], _ => -9
  | k, c :: cs, A => if (passA kd pt A c).1 = some i then nI k else trn kd pt i (k + 1) cs (passA kd pt A c).2
def aft (kd pt : Nat → Nat) : List Bool → LSt → LSt
  | [], A => A
  | c :: cs, A => aft kd pt cs (passA kd pt A c).2
theorem aft_lB {np : Nat} {kd pt : Nat → Nat} : ∀ (cs : List Bool) (m : Nat) (A : LSt), lB np m A → lB np (m + cs.length) (aft kd pt cs A)
  | [], _, _, h => h
  | c :: cs, m, A, h => by
    have := aft_lB (kd := kd) (pt := pt) cs (m + 1) _ (passA_lB kd pt c h)
    rw [List.length_cons, show m + (cs.length + 1) = m + 1 + cs.length by omega]
    exact this
theorem go_eq {np m : Nat} {kd pt : Nat → Nat} {A : LSt} {c : Bool} {i : Nat} (hn : np ≤ 7) (hA : lB np m A) (hi : i < 7) : (oI (passA kd pt A c).1 = nI i) ↔ (passA kd pt A c).1 = some i := by
  rw [eq_comm]
  exact oI_eq hi (fun z hz => by have := passA_lt hA hz; omega)
theorem upd_cong {f g : Nat → Int32} {k a : Nat} {x : Int32} (h : f k = g k) : upd f a x k = upd g a x k := by
  by_cases e : k = a
  · subst e; rw [upd_eq, upd_eq]
  · rw [upd_ne e, upd_ne e, h]
theorem nights_cs {n : Nat} {f : Nat → Int32} (h : ∀ j, j < n → f j = bI (decide (f j = 1))) : ∃ cs : List Bool, cs.length = n ∧ ∀ j c, cs[j]? = some c → f (0 + j) = bI c := by
  refine ⟨(List.range n).map (fun j => decide (f j = 1)), by simp, fun j c hj => ?_⟩
  rw [List.getElem?_map] at hj
  by_cases z : j < n
  · rw [List.getElem?_range z] at hj
    have : decide (f j = 1) = c := Option.some.inj hj
    rw [Nat.zero_add, ← this]
    exact h j z
  · rw [List.getElem?_eq_none (by simp; omega)] at hj
    cases hj
section TT
variable {I : Nat → Int32} {J : Nat → Int64} {F : Nat → Nat → Int32} {G : Nat → Int64} {X : Nat → va_E} {np : Nat} {kd pt : Nat → Nat}
theorem turn_x {d r n i : Nat} {v2 v3 : Int32} (hr : r < 6) (hn40 : n ≤ 40) (h : I (142 + 2 * r) = nI n) (hi : i < 7) (hn : np ≤ 7) (h4 : I 4 = nI np) (hk : kOK (F 5) kd np) (hp' : ∀ k, k < np → F 6 k = nI (pt k) ∧ pt k < 1000) : ∀ (cs : List Bool) (k m : Nat) (I1 : Nat → Int32) (F1 : Nat → Nat → Int32) (A : LSt), asd np I F I1 F1 A → lB np m A → m + cs.length < 900 → k + cs.length = n → (∀ j c, cs[j]? = some c → F (143 + 2 * r) (k + j) = bI c) →
    ∃ I' F' A', ex cdX9_turn (rn (d + 8)) 62 [.ref 1, .int (nI i), .int v2, .int v3, .ref (142 + 2 * r), .int (nI k)] [] (hp I1 J F1 G X) = some (some (.int (trn kd pt i k cs A)), hp I' J F' G X) ∧ asd np I F I' F' A' := by
  intro cs
  induction cs with
  | nil =>
    intro k m I1 F1 A ha hA hm hkn hcs
    have : k = n := hkn
    subst this
    refine ⟨I1, F1, A, ?_, ha⟩
    rw [xX9_turn_62, x_rowN hr, Option.bind_some, ha.2.1 _ (by omega), h, if_pos (nI_le (Nat.le_refl _) (by omega))]
    rfl
  | cons c cs ih =>
    intro k m I1 F1 A ha hA hm hkn hcs
    rw [List.length_cons] at hm hkn
    obtain ⟨I2, F2, g1, g2⟩ := passA_x (d := d) (J := J) (G := G) (X := X) ha hn h4 hk hp' hA (by omega) c
    have e0 : F1 (143 + 2 * r) k = bI c := by rw [ha.2.2 _ (by omega)]; exact hcs 0 c rfl
    have key : ∃ I' F' A', ex cdX9_turn (rn (d + 8)) 97 [.ref 1, .int (nI i), .int v2, .int v3, .ref (142 + 2 * r), .int (nI k)] [.int (bI c), .ref 4, .ref 16] (hp I1 J F1 G X) = some (some (.int (trn kd pt i k (c :: cs) A)), hp I' J F' G X) ∧ asd np I F I' F' A' := by
      rw [xX9_turn_97, if_pos x_ai, g1, Option.bind_some]
      unfold trn
      by_cases z : (passA kd pt A c).1 = some i
      · rw [if_pos z]
        exact ⟨I2, F2, _, by rw [if_pos ((go_eq hn hA hi).mpr z)], g2⟩
      · rw [if_neg z]
        obtain ⟨I', F', A', u1, u2⟩ := ih (k + 1) (m + 1) I2 F2 _ g2 (passA_lB kd pt c hA) (by omega) (by omega) (fun j c' hj => by
          have := hcs (j + 1) c' (by rw [List.getElem?_cons_succ]; exact hj)
          rwa [show k + (j + 1) = k + 1 + j by omega] at this)
        exact ⟨I', F', A', by rw [if_neg (fun y => z ((go_eq hn hA hi).mp y)), nI_1]; exact u1, u2⟩
    rw [xX9_turn_62, x_rowN hr, Option.bind_some, ha.2.1 _ (by omega), h, if_neg (nI_ge (by omega) (by omega)), x_f5, Option.bind_some, x_f2, Option.bind_some, x_rowF hr, Option.bind_some, x_rowg hr (by omega), Option.bind_some, e0]
    cases c with
    | false => rw [if_neg (by decide)]; exact key
    | true => rw [if_pos (by decide)]; exact key
theorem turn_y {d r n i : Nat} {v3 : Int32} (hr : r < 6) (hn40 : n ≤ 40) (h : F 173 r = nI n) (hi : i < 7) (hn : np ≤ 7) (hk : kOK (F 170) kd np) (hp' : ∀ k, k < np → F 171 k = nI (pt k) ∧ pt k < 1000) : ∀ (cs : List Bool) (k m : Nat) (row st : Nat → Int32) (A : LSt), LineN row 3940 np A → lB np m A → m + cs.length < 900 → k + cs.length = n → (∀ j c, cs[j]? = some c → F 174 (40 * r + (k + j)) = bI c) →
    ∃ row' st', ex cdX10_turn (rn (d + 8)) 38 [.ref 168, .int (nI i), .int (nI r), .int v3, .int (nI k)] [] (hp I J (tF F row st) G X) = some (some (.int (trn kd pt i k cs A)), hp I J (tF F row' st') G X) ∧ ∀ k, k < 3940 → row' k = row k := by
  intro cs
  induction cs with
  | nil =>
    intro k m row st A ha hA hm hkn hcs
    have : k = n := hkn
    subst this
    refine ⟨row, st, ?_, fun _ _ => rfl⟩
    rw [xX10_turn_38, y_f5, Option.bind_some, y_g173 hr, Option.bind_some, tF_ne (by decide) (by decide), h, if_pos (nI_le (Nat.le_refl _) (by omega))]
    rfl
  | cons c cs ih =>
    intro k m row st A ha hA hm hkn hcs
    rw [List.length_cons] at hm hkn
    obtain ⟨row1, st1, g1, g2, g3⟩ := passT_y (d := d) (I := I) (J := J) (F := F) (G := G) (X := X) (st := st) ha hn hk hp' hA (by omega) c
    have e0 : F 174 (40 * r + k) = bI c := hcs 0 c rfl
    rw [xX10_turn_38, y_f5, Option.bind_some, y_g173 hr, Option.bind_some, tF_ne (by decide) (by decide), h, if_neg (nI_ge (by omega) (by omega)), y_f6, Option.bind_some, c40, nI_add, y_g174 (by omega), Option.bind_some, tF_ne (by decide) (by decide), e0, if_pos y_is, g1, Option.bind_some]
    unfold trn
    by_cases z : (passA kd pt A c).1 = some i
    · rw [if_pos z]
      exact ⟨row1, st1, by rw [if_pos ((go_eq hn hA hi).mpr z)], g3⟩
    · rw [if_neg z]
      obtain ⟨row', st', u1, u2⟩ := ih (k + 1) (m + 1) row1 st1 _ g2 (passA_lB kd pt c hA) (by omega) (by omega) (fun j c' hj => by
        have := hcs (j + 1) c' (by rw [List.getElem?_cons_succ]; exact hj)
        rwa [show k + (j + 1) = k + 1 + j by omega] at this)
      exact ⟨row', st', by rw [if_neg (fun y => z ((go_eq hn hA hi).mp y)), nI_1]; exact u1, fun j hj => by rw [u2 j hj, g3 j hj]⟩
theorem stand_x {d : Nat} {L : List Nat} {wt : Nat → Nat} {wn : Nat → Int32} {nt : Nat} {gu : Int32} (hQ : QN I F 16 np (L, wt, wn, nt, gu)) (hl : L.length ≤ 7) : ∀ (m k : Nat) (u : Int32), L.length - k = m → k ≤ L.length → ex cdX5_standing (rn d) 4 [.ref 16, .int u, .int (nI k)] [] (hp I J F G X) = some (some (.int ((L.drop k).foldl guS u)), (hp I J F G X)) := by
  have hs : I 16 = nI L.length := hQ.1
  have ho : oL (F 17) L := hQ.2.2.2.1
  intro m
  induction m with
  | zero =>
    intro k u e1 e2
    have : k = L.length := by omega
    subst this
    rw [xX5_standing_4, x_as, Option.bind_some, hs, if_pos (nI_le (Nat.le_refl _) (by omega)), List.drop_length]
    rfl
  | succ m ih =>
    intro k u e1 e2
    have hkl : k < L.length := by omega
    rw [xX5_standing_4, x_as, Option.bind_some, hs, if_neg (nI_ge hkl (by omega)), x_a0, Option.bind_some, x_g17 (by omega), Option.bind_some, ho k _ (List.getElem?_eq_getElem hkl), nI_1, ih (k + 1) _ (by omega) (by omega), List.drop_eq_getElem_cons hkl]
    rfl
theorem after_x {d r n : Nat} {v1 v2 : Int32} (hr : r < 6) (hn40 : n ≤ 40) (h : I (142 + 2 * r) = nI n) (hn : np ≤ 7) (h4 : I 4 = nI np) (hk : kOK (F 5) kd np) (hp' : ∀ k, k < np → F 6 k = nI (pt k) ∧ pt k < 1000) : ∀ (cs : List Bool) (k m : Nat) (I1 : Nat → Int32) (F1 : Nat → Nat → Int32) (A : LSt), asd np I F I1 F1 A → lB np m A → m + cs.length < 900 → k + cs.length = n → (∀ j c, cs[j]? = some c → F (143 + 2 * r) (k + j) = bI c) →
    ∃ I' F', ex cdX9_after (rn (d + 8)) 50 [.ref 1, .int v1, .int v2, .ref (142 + 2 * r), .int (nI k)] [] (hp I1 J F1 G X) = some (some (.int ((aft kd pt cs A).1.foldl guS 0)), hp (upd I' 2 (aft kd pt cs A).2.2.2.2) J F' G X) ∧ asd np I F I' F' (aft kd pt cs A) := by
  intro cs
  induction cs with
  | nil =>
    intro k m I1 F1 A ha hA hm hkn hcs
    have : k = n := hkn
    subst this
    refine ⟨I1, F1, ?_, ha⟩
    have hl := lB_len hn hA
    obtain ⟨L, wt, wn, nt, gu⟩ := A
    have hQ2 : QN (upd I1 2 gu) F1 16 np (L, wt, wn, nt, gu) := QN_c ha.1 (fun k k1 k2 => upd_ne (by omega)) (fun _ _ _ => rfl)
    have hgu : I1 18 = gu := ha.1.2.2.1
    have hst : cI (rn (d + 8)) 45 [.ref 16] (hp (upd I1 2 gu) J F1 G X) = some (L.foldl guS 0, hp (upd I1 2 gu) J F1 G X) := by
      refine cIo ?_
      have := stand_x (d := d + 7) (J := J) (G := G) (X := X) hQ2 hl L.length 0 0 rfl (Nat.zero_le _)
      rw [nI_0, List.drop_zero] at this
      rw [rX5_standing, xX5_standing_0, this]
    rw [xX9_after_50, x_rowN hr, Option.bind_some, ha.2.1 _ (by omega), h, if_pos (nI_le (Nat.le_refl _) (by omega)), x_f5, Option.bind_some, x_au, Option.bind_some, hgu, x_pak, Option.bind_some, x_f5, Option.bind_some, if_pos x_ai, hst, Option.bind_some]
    rfl
  | cons c cs ih =>
    intro k m I1 F1 A ha hA hm hkn hcs
    rw [List.length_cons] at hm hkn
    obtain ⟨I2, F2, g1, g2⟩ := passA_x (d := d) (J := J) (G := G) (X := X) ha hn h4 hk hp' hA (by omega) c
    have e0 : F1 (143 + 2 * r) k = bI c := by rw [ha.2.2 _ (by omega)]; exact hcs 0 c rfl
    obtain ⟨I', F', u1, u2⟩ := ih (k + 1) (m + 1) I2 F2 _ g2 (passA_lB kd pt c hA) (by omega) (by omega) (fun j c' hj => by
      have := hcs (j + 1) c' (by rw [List.getElem?_cons_succ]; exact hj)
      rwa [show k + (j + 1) = k + 1 + j by omega] at this)
    refine ⟨I', F', ?_, u2⟩
    have key : ex cdX9_after (rn (d + 8)) 83 [.ref 1, .int v1, .int v2, .ref (142 + 2 * r), .int (nI k)] [.int (bI c), .ref 4, .ref 16] (hp I1 J F1 G X) = some (some (.int ((aft kd pt (c :: cs) A).1.foldl guS 0)), hp (upd I' 2 (aft kd pt (c :: cs) A).2.2.2.2) J F' G X) := by
      rw [xX9_after_83, if_pos x_ai, g1, Option.bind_some, nI_1]
      exact u1
    rw [xX9_after_50, x_rowN hr, Option.bind_some, ha.2.1 _ (by omega), h, if_neg (nI_ge (by omega) (by omega)), x_f5, Option.bind_some, x_f2, Option.bind_some, x_rowF hr, Option.bind_some, x_rowg hr (by omega), Option.bind_some, e0]
    cases c with
    | false => rw [if_neg (by decide)]; exact key
    | true => rw [if_pos (by decide)]; exact key
theorem y_r3942 : aI 0 (hp I J F G X) 169 3942 = some (F 169 3942) := y_g169 (k := 3942) (by decide)
theorem y_r3964 : aI 0 (hp I J F G X) 169 3964 = some (F 169 3964) := y_g169 (k := 3964) (by decide)
theorem c3943 (k : Nat) : (3943 : Int32) + nI k = nI (3943 + k) := nI_add 3943 k
theorem afterE_y {d : Nat} {v1 v2 : Int32} {row st : Nat → Int32} {L : List Nat} {wt : Nat → Nat} {wn : Nat → Int32} {nt : Nat} {gu : Int32} (hL : LineN row 3940 np (L, wt, wn, nt, gu)) (hl : L.length ≤ 7) : ∀ (m k : Nat) (u : Int32), L.length - k = m → k ≤ L.length → ex cdX10_after (rn d) 69 [.ref 168, .int v1, .int v2, .int u, .int (nI k)] [] (hp I J (tF F row st) G X) = some (some (.int ((L.drop k).foldl guS u)), hp (upd I 169 gu) J (tF F row st) G X) := by
  have hs : row 3942 = nI L.length := hL.2.1
  have ho := hL.2.2.1
  have hg : row 3964 = gu := hL.2.2.2.2.2
  dsimp only at ho
  intro m
  induction m with
  | zero =>
    intro k u e1 e2
    have : k = L.length := by omega
    subst this
    rw [xX10_after_69, y_f0, Option.bind_some, y_r3942, Option.bind_some, tF_169, hs, if_pos (nI_le (Nat.le_refl _) (by omega)), Option.bind_some, y_r3964, Option.bind_some, tF_169, hg, y_pak, Option.bind_some, List.drop_length]
    rfl
  | succ m ih =>
    intro k u e1 e2
    have hkl : k < L.length := by omega
    have h3 := ho k _ (List.getElem?_eq_getElem hkl)
    rw [show 3940 + 3 + k = 3943 + k by omega] at h3
    rw [xX10_after_69, y_f0, Option.bind_some, y_r3942, Option.bind_some, tF_169, hs, if_neg (nI_ge hkl (by omega)), Option.bind_some, c3943, y_g169 (by omega), Option.bind_some, tF_169, h3, nI_1, ih (k + 1) _ (by omega) (by omega), List.drop_eq_getElem_cons hkl]
    rfl
theorem after_y {d r n : Nat} {v2 : Int32} (hr : r < 6) (hn40 : n ≤ 40) (h : F 173 r = nI n) (hn : np ≤ 7) (hk : kOK (F 170) kd np) (hp' : ∀ k, k < np → F 171 k = nI (pt k) ∧ pt k < 1000) : ∀ (cs : List Bool) (k m : Nat) (row st : Nat → Int32) (A : LSt), LineN row 3940 np A → lB np m A → m + cs.length < 900 → k + cs.length = n → (∀ j c, cs[j]? = some c → F 174 (40 * r + (k + j)) = bI c) →
    ∃ row' st', ex cdX10_after (rn (d + 8)) 29 [.ref 168, .int (nI r), .int v2, .int (nI k), .null] [] (hp I J (tF F row st) G X) = some (some (.int ((aft kd pt cs A).1.foldl guS 0)), hp (upd I 169 (aft kd pt cs A).2.2.2.2) J (tF F row' st') G X) ∧ ∀ k, k < 3940 → row' k = row k := by
  intro cs
  induction cs with
  | nil =>
    intro k m row st A ha hA hm hkn hcs
    have : k = n := hkn
    subst this
    refine ⟨row, st, ?_, fun _ _ => rfl⟩
    have hl := lB_len hn hA
    obtain ⟨L, wt, wn, nt, gu⟩ := A
    have := afterE_y (d := d + 8) (I := I) (J := J) (F := F) (G := G) (X := X) (v1 := nI r) (v2 := v2) (st := st) ha hl L.length 0 0 rfl (Nat.zero_le _)
    rw [nI_0, List.drop_zero] at this
    rw [xX10_after_29, y_f5, Option.bind_some, y_g173 hr, Option.bind_some, tF_ne (by decide) (by decide), h, if_pos (nI_le (Nat.le_refl _) (by omega)), this]
    rfl
  | cons c cs ih =>
    intro k m row st A ha hA hm hkn hcs
    rw [List.length_cons] at hm hkn
    obtain ⟨row1, st1, g1, g2, g3⟩ := passT_y (d := d) (I := I) (J := J) (F := F) (G := G) (X := X) (st := st) ha hn hk hp' hA (by omega) c
    have e0 : F 174 (40 * r + k) = bI c := hcs 0 c rfl
    obtain ⟨row', st', u1, u2⟩ := ih (k + 1) (m + 1) row1 st1 _ g2 (passA_lB kd pt c hA) (by omega) (by omega) (fun j c' hj => by
      have := hcs (j + 1) c' (by rw [List.getElem?_cons_succ]; exact hj)
      rwa [show k + (j + 1) = k + 1 + j by omega] at this)
    refine ⟨row', st', ?_, fun j hj => by rw [u2 j hj, g3 j hj]⟩
    rw [xX10_after_29, y_f5, Option.bind_some, y_g173 hr, Option.bind_some, tF_ne (by decide) (by decide), h, if_neg (nI_ge (by omega) (by omega)), y_f6, Option.bind_some, c40, nI_add, y_g174 (by omega), Option.bind_some, tF_ne (by decide) (by decide), e0, if_pos y_is, g1, Option.bind_some, nI_1]
    exact u1
end TT
theorem g_tonight : gdI 97 200 0 := gdI_of (fun as hn I J F G X np kd pt pr ds ks hR hS => by
  obtain rfl := as0 hn
  show okI _ _ [] I J F G X
  obtain ⟨hn7, h4, h168, hk, hk', hp', hp'', hA, hQ, hL⟩ := rel_ctx (G := G) (X := X) hR
  generalize hAe : rep np kd pt ds = A at hA hQ hL
  obtain ⟨I1, F1, s1, s2⟩ := setA_x (d := 57) (I0 := I) (F0 := F) (J := J) (G := G) (X := X) hn7 hA hQ (fun _ _ => rfl) (fun _ _ => rfl)
  obtain ⟨I2, F2, t1, t2⟩ := passA_x (d := 51) (J := J) (G := G) (X := X) s2 hn7 h4 hk hp' hA (by decide) true
  rw [bI_t] at t1
  have f169 : F2 169 = F 169 := t2.2.2 169 (by omega)
  have hg1 : I2 18 = (passA kd pt A true).2.2.2.2.2 := t2.1.2.2.1
  have hg2 : I2 14 = A.2.2.2.2 := by rw [t2.2.1 14 (by omega)]; exact hQ.2.2.1
  obtain ⟨row1, u1, u2, u3⟩ := layT_y (d := 57) (I := upd I2 2 ((passA kd pt A true).2.2.2.2.2 &&& (A.2.2.2.2 ^^^ -1))) (J := J) (F := F2) (G := G) (X := X) (row := F2 169) (st := F2 179) hn7 hA (by rw [f169]; exact hL)
  rw [tF_same] at u1
  obtain ⟨row2, st2, w1, w2, w3⟩ := passT_y (d := 51) (I := upd I2 2 ((passA kd pt A true).2.2.2.2.2 &&& (A.2.2.2.2 ^^^ -1))) (J := J) (F := F2) (G := G) (X := X) (st := F2 179) u2 hn7 (by rw [t2.2.2 170 (by omega)]; exact hk') (by rw [t2.2.2 171 (by omega)]; exact hp'') hA (by decide) true
  rw [bI_t] at w1
  have r24 : row1 24 = A.2.2.2.2 := by rw [u3 24 (by omega), f169]; exact hL.2.2.2.2.2
  have r3964 : row2 3964 = (passA kd pt A true).2.2.2.2.2 := w2.2.2.2.2.2
  refine okI_mk (J2 := J) (G2 := G) (v := oI (passA kd pt A true).1) (I1 := upd I2 2 ((passA kd pt A true).2.2.2.2.2 &&& (A.2.2.2.2 ^^^ -1))) (J1 := J) (F1 := F2) (X1 := X) (I2 := upd (upd I2 2 ((passA kd pt A true).2.2.2.2.2 &&& (A.2.2.2.2 ^^^ -1))) 169 ((passA kd pt A true).2.2.2.2.2 &&& (A.2.2.2.2 ^^^ -1))) (F2 := tF F2 row2 st2) ?_ ?_ (rel_scr (rel_tell ((passA kd pt A true).2.2.2.2.2 &&& (A.2.2.2.2 ^^^ -1)) hR) (fun k hk => upd_cong (upd_cong (t2.2.1 k (by omega)))) (fun k hk => by rw [tF_ne (by omega) (by omega), t2.2.2 k (by omega)]) (fun k hk => by rw [tF_169, w3 k hk, u3 k hk, f169])) hS
  · refine cIo ?_; rw [rX9_tonight, xX9_tonight_0, x_f5, Option.bind_some, x_f4, Option.bind_some, if_pos x_ai, s1, Option.bind_some, x_f5, Option.bind_some, x_f2, Option.bind_some, if_pos x_ai, t1, Option.bind_some, x_f5, Option.bind_some, x_au, Option.bind_some, x_f4, Option.bind_some, x_qu, Option.bind_some, hg1, hg2, x_pak, Option.bind_some]
  · refine cIo ?_; rw [rX10_tonight, xX10_tonight_0, if_pos y_is, u1, Option.bind_some, y_f0, Option.bind_some, y_row24, Option.bind_some, tF_169, r24, if_pos y_is, w1, Option.bind_some, y_f0, Option.bind_some, y_r3964, Option.bind_some, tF_169, r3964, y_pak, Option.bind_some])
theorem g_turn : gdI 98 204 2 := gdI_of (fun as hn I J F G X np kd pt pr ds ks hR hS => by
  obtain ⟨a, b, rfl⟩ := as2 hn
  show okI _ _ [.int a, .int b] I J F G X
  obtain ⟨hn7, h4, h168, hk, hk', hp', hp'', hA, hQ, hL⟩ := rel_ctx (G := G) (X := X) hR
  rcases ix a (n := np) (by omega) with ha | ⟨i, hi, rfl⟩
  · refine okI_same (v := -1) hR hS ?_ ?_
    · refine cIo ?_; rw [rX9_turn, xX9_turn_0, x_f2, Option.bind_some, if_pos x_ci, has_xn ha h4, Option.bind_some, if_pos rfl]
    · refine cIo ?_; rw [rX10_turn, xX10_turn_0, if_pos y_is, isP_yn hn7 ha h168, Option.bind_some, if_pos rfl]
  rcases ix b (n := 6) (by decide) with hb | ⟨r, hr, rfl⟩
  · refine okI_same (v := -1) hR hS ?_ ?_
    · refine cIo ?_; rw [rX9_turn, xX9_turn_0, x_f2, Option.bind_some, if_pos x_ci, has_x hn7 hi h4, Option.bind_some, if_neg one_ne, isRow_xn hb, Option.bind_some, if_pos rfl]
    · refine cIo ?_; rw [rX10_turn, xX10_turn_0, if_pos y_is, isP_y hn7 hi h168, Option.bind_some, if_neg one_ne, isRow_yn hb, Option.bind_some, if_pos rfl]
  obtain ⟨z1, z2, z3⟩ := hR.2.2.1 r hr
  obtain ⟨o, ho, ho40⟩ := sz_of z2
  have z4 := z1.symm.trans ho
  by_cases hc : nwN o (F (143 + 2 * r)) = 0
  · obtain ⟨n, rfl, hn20, hf⟩ := nwN_0 hc
    have ho' : I (142 + 2 * r) = nI n := ho
    obtain ⟨cs, hcl, hcs⟩ := nights_cs hf
    generalize hAe : rep np kd pt ds = A at hA hQ hL
    obtain ⟨I1, F1, s1, s2⟩ := setA_x (d := 57) (I0 := I) (F0 := F) (J := J) (G := G) (X := X) hn7 hA hQ (fun _ _ => rfl) (fun _ _ => rfl)
    obtain ⟨I2, F2, A2, t1, t2⟩ := turn_x (d := 51) (n := n) (i := i) (v2 := nI r) (v3 := 0) (I := I) (J := J) (F := F) (G := G) (X := X) hr (by omega) ho' (by omega) hn7 h4 hk hp' cs 0 40 I1 F1 A s2 hA (by omega) (by omega) hcs
    rw [nI_0] at t1
    have f169 : F2 169 = F 169 := t2.2.2 169 (by omega)
    have f173 : F2 173 = F 173 := t2.2.2 173 (by omega)
    have f174 : F2 174 = F 174 := t2.2.2 174 (by omega)
    have h168' : I2 168 = nI np := by rw [t2.2.1 168 (by omega)]; exact h168
    obtain ⟨row1, u1, u2, u3⟩ := layT_y (d := 57) (I := I2) (J := J) (F := F2) (G := G) (X := X) (row := F2 169) (st := F2 179) hn7 hA (by rw [f169]; exact hL)
    rw [tF_same] at u1
    obtain ⟨row2, st2, w1, w2⟩ := turn_y (d := 51) (n := n) (i := i) (v3 := 0) (I := I2) (J := J) (F := F2) (G := G) (X := X) hr (by omega) (by rw [f173]; exact z4) (by omega) hn7 (by rw [t2.2.2 170 (by omega)]; exact hk') (by rw [t2.2.2 171 (by omega)]; exact hp'') cs 0 40 row1 (F2 179) A u2 hA (by omega) (by omega) (fun j c hj => by
      have hjl := (List.getElem?_eq_some_iff.mp hj).1
      rw [f174, z3 _ (by omega)]; exact hcs j c hj)
    rw [nI_0] at w1
    refine okI_mk (J2 := J) (G2 := G) (v := trn kd pt i 0 cs A) (I1 := I2) (J1 := J) (F1 := F2) (X1 := X) (I2 := I2) (F2 := tF F2 row2 st2) ?_ ?_ (rel_scr hR (fun k hk => t2.2.1 k (by omega)) (fun k hk => by rw [tF_ne (by omega) (by omega), t2.2.2 k (by omega)]) (fun k hk => by rw [tF_169, w2 k hk, u3 k hk, f169])) hS
    · refine cIo ?_; rw [rX9_turn, xX9_turn_0, x_f2, Option.bind_some, if_pos x_ci, has_x hn7 hi h4, Option.bind_some, if_neg one_ne, isRow_x hr, Option.bind_some, if_neg one_ne, x_f0, Option.bind_some, x_rowR hr, Option.bind_some, wN_x hr ho ho40, Option.bind_some, hc, if_pos nI_0, x_f0, Option.bind_some, x_rowR hr, Option.bind_some, x_f5, Option.bind_some, x_f4, Option.bind_some, if_pos x_ai, s1, Option.bind_some]
      exact t1
    · refine cIo ?_; rw [rX10_turn, xX10_turn_0, if_pos y_is, isP_y hn7 hi h168', Option.bind_some, if_neg one_ne, isRow_y hr, Option.bind_some, if_neg one_ne, if_pos y_is, noN_y0 (g := F (143 + 2 * r)) hr (by rw [f173]; exact z4) ho40 (by rw [f174]; exact z3) hc, Option.bind_some, if_pos rfl, if_pos y_is, u1, Option.bind_some]
      exact w1
  · have hc0 : ¬ nI (nwN o (F (143 + 2 * r))) = 0 := fun z => hc ((nI_inj (b := 0) (by have := nwN_lt o (F (143 + 2 * r)); omega) (by decide)).mp z)
    refine okI_find _ (nwN_lt o (F (143 + 2 * r))) hR hS ?_ ?_
    · refine cIo ?_; rw [rX9_turn, xX9_turn_0, x_f2, Option.bind_some, if_pos x_ci, has_x hn7 hi h4, Option.bind_some, if_neg one_ne, isRow_x hr, Option.bind_some, if_neg one_ne, x_f0, Option.bind_some, x_rowR hr, Option.bind_some, wN_x hr ho ho40, Option.bind_some, if_neg hc0, if_pos x_is, find_x (nwN_lt _ _), Option.bind_some]
    · refine cIo ?_; rw [rX10_turn, xX10_turn_0, if_pos y_is, isP_y hn7 hi (by rw [upd_ne (by decide)]; exact h168), Option.bind_some, if_neg one_ne, isRow_y hr, Option.bind_some, if_neg one_ne, if_pos y_is, noN_y1 (g := F (143 + 2 * r)) hr (by rw [upF_ne (by decide)]; exact z4) ho40 (by rw [upF_ne (by decide)]; exact z3) rfl hc, Option.bind_some, if_neg m3_ne, upF_ne (by decide)])
theorem g_after : gdI 99 205 1 := gdI_of (fun as hn I J F G X np kd pt pr ds ks hR hS => by
  obtain ⟨b, rfl⟩ := as1 hn
  show okI _ _ [.int b] I J F G X
  obtain ⟨hn7, h4, h168, hk, hk', hp', hp'', hA, hQ, hL⟩ := rel_ctx (G := G) (X := X) hR
  rcases ix b (n := 6) (by decide) with hb | ⟨r, hr, rfl⟩
  · refine okI_same (v := -1) hR hS ?_ ?_
    · refine cIo ?_; rw [rX9_after, xX9_after_0, isRow_xn hb, Option.bind_some, if_pos rfl]
    · refine cIo ?_; rw [rX10_after, xX10_after_0, isRow_yn hb, Option.bind_some, if_pos rfl]
  obtain ⟨z1, z2, z3⟩ := hR.2.2.1 r hr
  obtain ⟨o, ho, ho40⟩ := sz_of z2
  have z4 := z1.symm.trans ho
  by_cases hc : nwN o (F (143 + 2 * r)) = 0
  · obtain ⟨n, rfl, hn20, hf⟩ := nwN_0 hc
    have ho' : I (142 + 2 * r) = nI n := ho
    obtain ⟨cs, hcl, hcs⟩ := nights_cs hf
    generalize hAe : rep np kd pt ds = A at hA hQ hL
    obtain ⟨I1, F1, s1, s2⟩ := setA_x (d := 57) (I0 := I) (F0 := F) (J := J) (G := G) (X := X) hn7 hA hQ (fun _ _ => rfl) (fun _ _ => rfl)
    obtain ⟨I2, F2, t1, t2⟩ := after_x (d := 51) (n := n) (v1 := nI r) (v2 := 0) (I := I) (J := J) (F := F) (G := G) (X := X) hr (by omega) ho' hn7 h4 hk hp' cs 0 40 I1 F1 A s2 hA (by omega) (by omega) hcs
    rw [nI_0] at t1
    have f169 : F2 169 = F 169 := t2.2.2 169 (by omega)
    have f173 : F2 173 = F 173 := t2.2.2 173 (by omega)
    have f174 : F2 174 = F 174 := t2.2.2 174 (by omega)
    obtain ⟨row1, u1, u2, u3⟩ := layT_y (d := 57) (I := upd I2 2 (aft kd pt cs A).2.2.2.2) (J := J) (F := F2) (G := G) (X := X) (row := F2 169) (st := F2 179) hn7 hA (by rw [f169]; exact hL)
    rw [tF_same] at u1
    obtain ⟨row2, st2, w1, w2⟩ := after_y (d := 51) (n := n) (v2 := 0) (I := upd I2 2 (aft kd pt cs A).2.2.2.2) (J := J) (F := F2) (G := G) (X := X) hr (by omega) (by rw [f173]; exact z4) hn7 (by rw [t2.2.2 170 (by omega)]; exact hk') (by rw [t2.2.2 171 (by omega)]; exact hp'') cs 0 40 row1 (F2 179) A u2 hA (by omega) (by omega) (fun j c hj => by
      have hjl := (List.getElem?_eq_some_iff.mp hj).1
      rw [f174, z3 _ (by omega)]; exact hcs j c hj)
    rw [nI_0] at w1
    refine okI_mk (J2 := J) (G2 := G) (v := (aft kd pt cs A).1.foldl guS 0) (I1 := upd I2 2 (aft kd pt cs A).2.2.2.2) (J1 := J) (F1 := F2) (X1 := X) (I2 := upd (upd I2 2 (aft kd pt cs A).2.2.2.2) 169 (aft kd pt cs A).2.2.2.2) (F2 := tF F2 row2 st2) ?_ ?_ (rel_scr (rel_tell (aft kd pt cs A).2.2.2.2 hR) (fun k hk => upd_cong (upd_cong (t2.2.1 k (by omega)))) (fun k hk => by rw [tF_ne (by omega) (by omega), t2.2.2 k (by omega)]) (fun k hk => by rw [tF_169, w2 k hk, u3 k hk, f169])) hS
    · refine cIo ?_; rw [rX9_after, xX9_after_0, isRow_x hr, Option.bind_some, if_neg one_ne, x_f0, Option.bind_some, x_rowR hr, Option.bind_some, wN_x hr ho ho40, Option.bind_some, hc, if_pos nI_0, x_f0, Option.bind_some, x_rowR hr, Option.bind_some, x_f5, Option.bind_some, x_f4, Option.bind_some, if_pos x_ai, s1, Option.bind_some]
      exact t1
    · refine cIo ?_; rw [rX10_after, xX10_after_0, isRow_y hr, Option.bind_some, if_neg one_ne, if_pos y_is, noN_y0 (g := F (143 + 2 * r)) hr (by rw [f173]; exact z4) ho40 (by rw [f174]; exact z3) hc, Option.bind_some, if_pos rfl, if_pos y_is, u1, Option.bind_some]
      exact w1
  · have hc0 : ¬ nI (nwN o (F (143 + 2 * r))) = 0 := fun z => hc ((nI_inj (b := 0) (by have := nwN_lt o (F (143 + 2 * r)); omega) (by decide)).mp z)
    refine okI_find _ (nwN_lt o (F (143 + 2 * r))) hR hS ?_ ?_
    · refine cIo ?_; rw [rX9_after, xX9_after_0, isRow_x hr, Option.bind_some, if_neg one_ne, x_f0, Option.bind_some, x_rowR hr, Option.bind_some, wN_x hr ho ho40, Option.bind_some, if_neg hc0, if_pos x_is, find_x (nwN_lt _ _), Option.bind_some]
    · refine cIo ?_; rw [rX10_after, xX10_after_0, isRow_y hr, Option.bind_some, if_neg one_ne, if_pos y_is, noN_y1 (g := F (143 + 2 * r)) hr (by rw [upF_ne (by decide)]; exact z4) ho40 (by rw [upF_ne (by decide)]; exact z3) rfl hc, Option.bind_some, if_neg m3_ne, upF_ne (by decide)])
