/-! tools: cells that no answer shows; queues aside; the line that is tried -/
section SC
variable {I : Nat → Int32} {J : Nat → Int64} {F : Nat → Nat → Int32} {G : Nat → Int64} {X : Nat → va_E} {np : Nat} {kd pt pr : Nat → Nat} {ds : List Nat} {ks : Nat → Option (List Nat)} {I' : Nat → Int32} {F' : Nat → Nat → Int32}
theorem rel_scr (h : RelA np kd pt pr ds ks I J F) (a : ∀ k, k ≠ 8 ∧ (k < 16 ∨ 18 < k) ∧ (k < 171 ∨ 175 < k) → I' k = I k) (b : ∀ k, (k < 9 ∨ 11 < k) ∧ (k < 17 ∨ 19 < k) ∧ k ≠ 140 ∧ k ≠ 169 ∧ (k < 178 ∨ 182 < k) → F' k = F k) (c : ∀ k, k < 3940 → F' 169 k = F 169 k) : RelA np kd pt pr ds ks I' J F' := by
  obtain ⟨h1, h2, h3, h4, h5, h6, h7⟩ := h
  exact ⟨rMain_c h1 (fun k hk => a k (by omega)) (fun _ _ => rfl), rFnd_c h2 (fun k hk => b k (by omega)), rRows_c h3 (fun k k1 k2 => a k (by omega)) (fun k hk => b k (by omega)), rTxts_c h4 (fun k k1 k2 => a k (by omega)) (fun k hk => b k (by omega)), rCrowd_c h5 (fun k hk => a k (by omega)) (fun k hk => b k (by omega)), rLine_c h5.2.2.1 h6 (fun k hk => a k (by omega)) (fun k hk => b k (by omega)) (fun k hk => c k (by omega)), rKept_c h5.2.2.1 h7 (fun k k1 k2 => a k (by omega)) (fun k k1 k2 => b k (by omega)) (fun k k1 k2 => c k (by omega))⟩
theorem rel_line {ds' : List Nat} (h : RelA np kd pt pr ds ks I J F) (a : ∀ k, (k < 12 ∨ 14 < k) ∧ k ≠ 20 → I' k = I k) (b : ∀ k, (k < 13 ∨ 15 < k) ∧ k ≠ 21 ∧ k ≠ 169 ∧ k ≠ 179 → F' k = F k) (l : rLine np kd pt ds' I' F') (c : ∀ k, 985 ≤ k → k < 3940 → F' 169 k = F 169 k) : RelA np kd pt pr ds' ks I' J F' := by
  obtain ⟨h1, h2, h3, h4, h5, h6, h7⟩ := h
  exact ⟨rMain_c h1 (fun k hk => a k (by omega)) (fun _ _ => rfl), rFnd_c h2 (fun k hk => b k (by omega)), rRows_c h3 (fun k k1 k2 => a k (by omega)) (fun k hk => b k (by omega)), rTxts_c h4 (fun k k1 k2 => a k (by omega)) (fun k hk => b k (by omega)), rCrowd_c h5 (fun k hk => a k (by omega)) (fun k hk => b k (by omega)), l, rKept_c h5.2.2.1 h7 (fun k k1 k2 => a k (by omega)) (fun k k1 k2 => b k (by omega)) c⟩
end SC
def tF (F : Nat → Nat → Int32) (row st : Nat → Int32) : Nat → Nat → Int32 := upF (upF F 169 row) 179 st
theorem tF_ne {F : Nat → Nat → Int32} {row st : Nat → Int32} {k : Nat} (h1 : k ≠ 169) (h2 : k ≠ 179) : tF F row st k = F k := by unfold tF; rw [upF_ne h2, upF_ne h1]
theorem tF_169 {F : Nat → Nat → Int32} {row st : Nat → Int32} : tF F row st 169 = row := by unfold tF; rw [upF_ne (by decide), upF_eq]
theorem tF_179 {F : Nat → Nat → Int32} {row st : Nat → Int32} : tF F row st 179 = st := by unfold tF; rw [upF_eq]
theorem tF_tF {F : Nat → Nat → Int32} {row st row' st' : Nat → Int32} : upF (upF (tF F row st) 169 row') 179 st' = tF F row' st' := by
  funext k
  by_cases h : k = 179
  · subst h; rw [upF_eq, tF_179]
  · rw [upF_ne h]
    by_cases h2 : k = 169
    · subst h2; rw [upF_eq, tF_169]
    · rw [upF_ne h2, tF_ne h2 h, tF_ne h2 h]
theorem tF_row {F : Nat → Nat → Int32} {row st row' : Nat → Int32} : upF (tF F row st) 169 row' = tF F row' st := by
  funext k
  by_cases h2 : k = 169
  · subst h2; rw [upF_eq, tF_169]
  · rw [upF_ne h2]
    by_cases h : k = 179
    · subst h; rw [tF_179, tF_179]
    · rw [tF_ne h2 h, tF_ne h2 h]
theorem tF_same {F : Nat → Nat → Int32} : tF F (F 169) (F 179) = F := by
  funext k
  by_cases h : k = 179
  · subst h; rw [tF_179]
  · by_cases h2 : k = 169
    · subst h2; rw [tF_169]
    · rw [tF_ne h2 h]
theorem c3940 : (3940 : Int32) = nI 3940 := rfl
section TY
variable {I : Nat → Int32} {J : Nat → Int64} {F : Nat → Nat → Int32} {G : Nat → Int64} {X : Nat → va_E} {np : Nat} {kd pt : Nat → Nat}
theorem copyLine_loop {d a b n : Nat} {f : Nat → Int32} (h1 : a + n ≤ 3965) (h2 : b + n ≤ 3965) (hc : a + n ≤ b ∨ b + n ≤ a) : ∀ (m k : Nat) (F : Nat → Nat → Int32), n - k = m → k ≤ n → F 169 = (fun x => if b ≤ x ∧ x < b + k then f (x - b + a) else f x) → ex cdX10_copyLine (rn d) 3 [.ref 168, .int (nI a), .int (nI b), .int (nI n), .int (nI k)] [] (hp I J F G X) = some (none, hp I J (upF F 169 (fun x => if b ≤ x ∧ x < b + n then f (x - b + a) else f x)) G X) := by
  intro m
  induction m with
  | zero =>
    intro k F e1 e2 h0
    have : k = n := by omega
    subst this
    rw [xX10_copyLine_3, if_pos (nI_le (Nat.le_refl _) (by omega)), ← h0]
    congr 3
    funext y
    by_cases z : y = 169
    · subst z; rw [upF_eq]
    · rw [upF_ne z]
  | succ m ih =>
    intro k F e1 e2 h0
    have hrd : F 169 (a + k) = f (a + k) := by
      rw [h0]
      dsimp only
      rw [if_neg (by omega)]
    rw [xX10_copyLine_3, if_neg (nI_ge (by omega) (by omega)), y_f0, Option.bind_some, Option.bind_some, nI_add, nI_add, y_g169 (by omega), Option.bind_some, hrd, y_s169 (by omega), Option.bind_some, nI_1, ih (k + 1) _ (by omega) (by omega) ?_]
    · congr 3
      funext y
      by_cases z : y = 169
      · subst z; rw [upF_eq, upF_eq]
      · rw [upF_ne z, upF_ne z, upF_ne z]
    · rw [upF_eq, h0]
      funext x
      by_cases z : x = b + k
      · subst z
        rw [upd_eq, if_pos (by omega)]
        congr 1
        omega
      · rw [upd_ne z]
        by_cases z2 : b ≤ x ∧ x < b + k
        · rw [if_pos z2, if_pos (by omega)]
        · rw [if_neg z2, if_neg (by omega)]
theorem copyLine_y {d a b n : Nat} (h1 : a + n ≤ 3965) (h2 : b + n ≤ 3965) (hc : a + n ≤ b ∨ b + n ≤ a) : cV (rn (d + 1)) 185 [.ref 168, .int (nI a), .int (nI b), .int (nI n)] (hp I J F G X) = some (hp I J (upF F 169 (fun x => if b ≤ x ∧ x < b + n then F 169 (x - b + a) else F 169 x)) G X) := by
  refine cVo ?_
  rw [rX10_copyLine, xX10_copyLine_0]
  have := copyLine_loop (d := d) (I := I) (J := J) (G := G) (X := X) (f := F 169) h1 h2 hc n 0 F rfl (Nat.zero_le _) (by
    funext x
    rw [if_neg (by omega)])
  rw [nI_0] at this
  exact this
theorem layT_y {d : Nat} {A : LSt} {m : Nat} {row st : Nat → Int32} (hn : np ≤ 7) (hA : lB np m A) (hL : LineN row 0 np A) : ∃ row', cV (rn (d + 2)) 186 [.ref 168] (hp I J (tF F row st) G X) = some (hp I J (tF F row' st) G X) ∧ LineN row' 3940 np A ∧ ∀ k, k < 3940 → row' k = row k := by
  refine ⟨fun x => if 3940 ≤ x ∧ x < 3940 + 25 then row (x - 3940 + 0) else row x, ?_, ?_, ?_⟩
  · refine cVo ?_
    have := copyLine_y (d := d) (I := I) (J := J) (F := tF F row st) (G := G) (X := X) (a := 0) (b := 3940) (n := 25) (by decide) (by decide) (by decide)
    rw [tF_169, tF_row, nI_0, ← c3940] at this
    rw [rX10_layTried, xX10_layTried_0, if_pos y_is, show (25 : Int32) = nI 25 from rfl, this, Option.bind_some]
  · refine LineN_cp (lB_len hn hA) hn hL (fun k k1 k2 => ?_)
    rw [if_pos (by omega), show 3940 + k - 3940 + 0 = 0 + k by omega]
  · intro k hk
    dsimp only
    rw [if_neg (by omega)]
theorem passT_y {d m : Nat} {row st : Nat → Int32} {A : LSt} (hL : LineN row 3940 np A) (hn : np ≤ 7) (hk : kOK (F 170) kd np) (hp' : ∀ k, k < np → F 171 k = nI (pt k) ∧ pt k < 1000) (hA : lB np m A) (hm : m < 900) (c : Bool) : ∃ row' st', cI (rn (d + 8)) 184 [.ref 168, .int 3940, .int (bI c)] (hp I J (tF F row st) G X) = some (oI (passA kd pt A c).1, hp I J (tF F row' st') G X) ∧ LineN row' 3940 np (passA kd pt A c).2 ∧ ∀ k, k < 3940 → row' k = row k := by
  obtain ⟨row', st', e1, e2, e3⟩ := pass_m (d := d + 8) (by omega) (b := 3940) (F := tF F row st) (I := I) (J := J) (G := G) (X := X) (np := np) (kd := kd) (pt := pt) (A := A) (m := m) (by rw [tF_169]; exact hL) hn (by rw [tF_ne (by decide) (by decide)]; exact hk) (by rw [tF_ne (by decide) (by decide)]; exact hp') (by decide) hA hm c
  rw [tF_tF, ← c3940] at e1
  exact ⟨row', st', e1, e2, fun k hk => by rw [e3 k (by omega), tF_169]⟩
end TY
/-! a queue set as another -/
theorem cpI_at {K : mH} {a b n : Nat} {f f' : Nat → Int32} (hn : n < 2 ^ 31) (h1 : K[a]? = some (ar n f)) (h2 : K[b]? = some (ar n f')) : cpI K a 0 b 0 (nI n) = some (K.set b (ar n (va_cpy f f' 0 0 n))) := by
  have z : (0 : Int32).toNatClampNeg = 0 := by decide
  unfold cpI
  rw [h1, h2]
  unfold ar
  dsimp only
  rw [if_pos ⟨rfl, rfl⟩, if_pos ⟨by decide, by decide, nI_ge0 hn, by rw [nI_clamp hn, z]; omega, by rw [nI_clamp hn, z]; omega⟩, nI_clamp hn, z]
theorem setAs_s {d : Nat} {H : mH} {q p : Nat} {o w g o' w' g' : Nat → Int32} {s n u s' n' u' : Int32} (ha : apart4 p q) (p0 : H[p]? = some (oQ p s n u)) (p1 : H[p + 1]? = some (ar 7 o)) (p2 : H[p + 2]? = some (ar 7 w)) (p3 : H[p + 3]? = some (ar 7 g)) (q0 : H[q]? = some (oQ q s' n' u')) (q1 : H[q + 1]? = some (ar 7 o')) (q2 : H[q + 2]? = some (ar 7 w')) (q3 : H[q + 3]? = some (ar 7 g')) : cV (rn (d + 2)) 42 [.ref q, .ref p] H = some (putQ H q (va_cpy o o' 0 0 7) (va_cpy w w' 0 0 7) (va_cpy g g' 0 0 7) s n u) := by
  unfold apart4 at ha
  have hq : q + 3 < H.length := (List.getElem?_eq_some_iff.mp q3).1
  have e0 : H = putQ H q o' w' g' s' n' u' := (putQ_same q0 q1 q2 q3).symm
  have P0 : ∀ (o w g : Nat → Int32) (s1 n1 u1 : Int32), (putQ H q o w g s1 n1 u1)[p]? = some (oQ p s n u) := fun _ _ _ _ _ _ => by rw [putQ_o (by omega)]; exact p0
  have P1 : ∀ (o1 w1 g1 : Nat → Int32) (s1 n1 u1 : Int32), (putQ H q o1 w1 g1 s1 n1 u1)[p + 1]? = some (ar 7 o) := fun _ _ _ _ _ _ => by rw [putQ_o (by omega)]; exact p1
  have P2 : ∀ (o1 w1 g1 : Nat → Int32) (s1 n1 u1 : Int32), (putQ H q o1 w1 g1 s1 n1 u1)[p + 2]? = some (ar 7 w) := fun _ _ _ _ _ _ => by rw [putQ_o (by omega)]; exact p2
  have P3 : ∀ (o1 w1 g1 : Nat → Int32) (s1 n1 u1 : Int32), (putQ H q o1 w1 g1 s1 n1 u1)[p + 3]? = some (ar 7 g) := fun _ _ _ _ _ _ => by rw [putQ_o (by omega)]; exact p3
  have cp : ∀ (K : mH) (a b : Nat) (f f' : Nat → Int32), K[a]? = some (ar 7 f) → K[b]? = some (ar 7 f') → cpI K a 0 b 0 7 = some (K.set b (ar 7 (va_cpy f f' 0 0 7))) := by
    intro K a b f f' h1 h2
    exact cpI_at (n := 7) (by decide) h1 h2
  refine cVo ?_
  rw [rX5_setAs, xX5_setAs_0]
  conv => lhs; rw [e0]
  rw [gI_at (P0 _ _ _ _ _ _) rfl, Option.bind_some, q_ps hq, Option.bind_some, gI_at (P0 _ _ _ _ _ _) rfl, Option.bind_some, q_pn hq, Option.bind_some, gI_at (P0 _ _ _ _ _ _) rfl, Option.bind_some, q_pu hq, Option.bind_some, gR_at (P0 _ _ _ _ _ _) rfl, Option.bind_some, q_r0 hq, Option.bind_some, nat0, Option.bind_some, cp _ _ _ _ _ (P1 _ _ _ _ _ _) (putQ_1 hq), Option.bind_some, putQ_set1 hq, gR_at (P0 _ _ _ _ _ _) rfl, Option.bind_some, q_r1 hq, Option.bind_some, nat0, Option.bind_some, cp _ _ _ _ _ (P2 _ _ _ _ _ _) (putQ_2 hq), Option.bind_some, putQ_set2 hq, gR_at (P0 _ _ _ _ _ _) rfl, Option.bind_some, q_r2 hq, Option.bind_some, nat0, Option.bind_some, cp _ _ _ _ _ (P3 _ _ _ _ _ _) (putQ_3 hq), Option.bind_some, putQ_set3 hq]
theorem cpy7 {f f' : Nat → Int32} {k : Nat} (h : k < 7) : va_cpy f f' 0 0 7 k = f k := by rw [pk_cpy_in (Nat.zero_le _) (by omega), Nat.zero_add, Nat.sub_zero]
section AS
variable {I : Nat → Int32} {J : Nat → Int64} {F : Nat → Nat → Int32} {G : Nat → Int64} {X : Nat → va_E} {np : Nat} {kd pt : Nat → Nat}
/-- the queue aside: as it stands, the rest as it was -/
def asd (np : Nat) (I : Nat → Int32) (F : Nat → Nat → Int32) (I' : Nat → Int32) (F' : Nat → Nat → Int32) (A : LSt) : Prop := QN I' F' 16 np A ∧ (∀ k, (k < 16 ∨ 18 < k) → I' k = I k) ∧ ∀ k, (k < 17 ∨ 19 < k) → F' k = F k
theorem setA_x {d m : Nat} {A : LSt} {I0 : Nat → Int32} {F0 : Nat → Nat → Int32} (hn : np ≤ 7) (hA : lB np m A) (hQ : QN I F 12 np A) (f1 : ∀ k, (k < 16 ∨ 18 < k) → I k = I0 k) (f2 : ∀ k, (k < 17 ∨ 19 < k) → F k = F0 k) : ∃ I' F', cV (rn (d + 2)) 42 [.ref 16, .ref 12] (hp I J F G X) = some (hp I' J F' G X) ∧ asd np I0 F0 I' F' A := by
  have hl := lB_len hn hA
  obtain ⟨L, wt, wn, nt, gu⟩ := A
  obtain ⟨q1, q2, q3, q4, q5, q6⟩ := hQ
  have := setAs_s (d := d) (q := 16) (p := 12) (Or.inl (by decide)) (k12 (I := I) (J := J) (F := F) (G := G) (X := X)) k13 k14 k15 k16 k17 k18 k19
  rw [hp_qa] at this
  refine ⟨_, _, this, ⟨?_, ?_, ?_, ?_, ?_, ?_⟩, fun k hk => ?_, fun k hk => ?_⟩
  · rw [upd_ne (by decide), upd_ne (by decide), upd_eq]; exact q1
  · rw [upd_ne (by decide), upd_eq]; exact q2
  · rw [upd_eq]; exact q3
  · intro k x hk
    have := (List.getElem?_eq_some_iff.mp hk).1
    dsimp only at this hl
    rw [upF_ne (by decide), upF_ne (by decide), upF_eq, cpy7 (by omega)]
    exact q4 k x hk
  · intro j hj
    rw [upF_ne (by decide), upF_eq, cpy7 hj]; exact q5 j hj
  · intro j hj
    rw [upF_eq, cpy7 (by omega)]; exact q6 j hj
  · rw [upd_ne (by omega), upd_ne (by omega), upd_ne (by omega)]; exact f1 k hk
  · rw [upF_ne (by omega), upF_ne (by omega), upF_ne (by omega)]; exact f2 k hk
theorem passA_x {d m : Nat} {A : LSt} {I0 : Nat → Int32} {F0 : Nat → Nat → Int32} (hQ : asd np I0 F0 I F A) (hn : np ≤ 7) (h4 : I0 4 = nI np) (hk : kOK (F0 5) kd np) (hp' : ∀ k, k < np → F0 6 k = nI (pt k) ∧ pt k < 1000) (hA : lB np m A) (hm : m < 900) (c : Bool) : ∃ I' F', cI (rn (d + 8)) 52 [.ref 16, .ref 4, .int (bI c)] (hp I J F G X) = some (oI (passA kd pt A c).1, hp I' J F' G X) ∧ asd np I0 F0 I' F' (passA kd pt A c).2 := by
  obtain ⟨a1, a2, a3⟩ := hQ
  obtain ⟨I', F', e1, e2, e3, e4⟩ := pass_q (d := d + 8) (by omega) (q := 16) (c := 4) (kf := F 5) (pf := F 6) (rf := F 7) (A := A) (m := m) (J := J) (G := G) (X := X) hp_qa k16 k17 k18 k19 a1 (Or.inl (by decide)) (by rw [← h4, ← a2 4 (by omega)]; exact hp_C) hn (by rw [a3 5 (by omega)]; exact hk) (by rw [a3 6 (by omega)]; exact hp') hA hm c
  exact ⟨I', F', e1, e2, fun k hk => by rw [e3 k (by omega), a2 k hk], fun k hk => by rw [e4 k (by omega), a3 k hk]⟩
theorem pass8_x {d m : Nat} {A : LSt} {I0 : Nat → Int32} {F0 : Nat → Nat → Int32} (hQ : asd np I0 F0 I F A) (hn : np ≤ 7) (h4 : I0 8 = nI np) (hk : kOK (F0 9) kd np) (hp' : ∀ k, k < np → F0 10 k = nI (pt k) ∧ pt k < 1000) (hA : lB np m A) (hm : m < 900) (c : Bool) : ∃ I' F', cI (rn (d + 8)) 52 [.ref 16, .ref 8, .int (bI c)] (hp I J F G X) = some (oI (passA kd pt A c).1, hp I' J F' G X) ∧ asd np I0 F0 I' F' (passA kd pt A c).2 := by
  obtain ⟨a1, a2, a3⟩ := hQ
  obtain ⟨I', F', e1, e2, e3, e4⟩ := pass_q (d := d + 8) (by omega) (q := 16) (c := 8) (kf := F 9) (pf := F 10) (rf := F 11) (A := A) (m := m) (J := J) (G := G) (X := X) hp_qa k16 k17 k18 k19 a1 (Or.inl (by decide)) (by rw [← h4, ← a2 8 (by omega)]; exact hp_D) hn (by rw [a3 9 (by omega)]; exact hk) (by rw [a3 10 (by omega)]; exact hp') hA hm c
  exact ⟨I', F', e1, e2, fun k hk => by rw [e3 k (by omega), a2 k hk], fun k hk => by rw [e4 k (by omega), a3 k hk]⟩
/-! the queues of the helpers -/
def QX (X : Nat → va_E) (q : Nat) (A : LSt) : Prop := ∃ o w g, X q = oQ q (nI A.1.length) (nI A.2.2.2.1) A.2.2.2.2 ∧ X (q + 1) = ar 7 o ∧ X (q + 2) = ar 7 w ∧ X (q + 3) = ar 7 g ∧ oL o A.1 ∧ ∀ j, j < 7 → w j = nI (A.2.1 j)
def FX (X X' : Nat → va_E) (q : Nat) : Prop := ∀ k, (k < q ∨ q + 3 < k) → X' k = X k
theorem hp_sx {k : Nat} {v : va_E} (h1 : 23 ≤ k) (h2 : k < 140) : (hp I J F G X).set k v = hp I J F G (fun j => if j = k then v else X j) := by
  apply lst_ext
  intro j
  rw [List.getElem?_set]
  by_cases e : k = j
  · subst e
    rw [if_pos rfl, if_pos (by rw [hp_len]; omega), hp_x h1 h2, if_pos rfl]
  · rw [if_neg e]
    by_cases z1 : j < 23
    · rw [hp_a z1, hp_a z1]
    · by_cases z2 : j < 140
      · rw [hp_x (by omega) z2, hp_x (by omega) z2, if_neg (fun z => e z.symm)]
      · obtain ⟨i, rfl⟩ : ∃ i, j = 140 + i := ⟨j - 140, by omega⟩
        rw [hp_b, hp_b]
def qX (X : Nat → va_E) (q : Nat) (o w g : Nat → Int32) (s n u : Int32) : Nat → va_E := fun j => if j = q + 3 then ar 7 g else if j = q + 2 then ar 7 w else if j = q + 1 then ar 7 o else if j = q then oQ q s n u else X j
theorem hp_qx {q : Nat} {o w g : Nat → Int32} {s n u : Int32} (h1 : 23 ≤ q) (h2 : q + 3 < 140) : putQ (hp I J F G X) q o w g s n u = hp I J F G (qX X q o w g s n u) := by
  unfold putQ
  rw [hp_sx h1 (by omega), hp_sx (by omega) (by omega), hp_sx (by omega) (by omega), hp_sx (by omega) (by omega)]
  rfl
theorem qX_fr {q : Nat} {o w g : Nat → Int32} {s n u : Int32} : FX X (qX X q o w g s n u) q := by
  intro k hk
  unfold qX
  rw [if_neg (by omega), if_neg (by omega), if_neg (by omega), if_neg (by omega)]
theorem qX_0 {q : Nat} {o w g : Nat → Int32} {s n u : Int32} : qX X q o w g s n u q = oQ q s n u := by
  unfold qX
  rw [if_neg (by omega), if_neg (by omega), if_neg (by omega), if_pos rfl]
theorem qX_1 {q : Nat} {o w g : Nat → Int32} {s n u : Int32} : qX X q o w g s n u (q + 1) = ar 7 o := by
  unfold qX
  rw [if_neg (by omega), if_neg (by omega), if_pos rfl]
theorem qX_2 {q : Nat} {o w g : Nat → Int32} {s n u : Int32} : qX X q o w g s n u (q + 2) = ar 7 w := by
  unfold qX
  rw [if_neg (by omega), if_pos rfl]
theorem qX_3 {q : Nat} {o w g : Nat → Int32} {s n u : Int32} : qX X q o w g s n u (q + 3) = ar 7 g := by
  unfold qX
  rw [if_pos rfl]
theorem QX_sh {q : Nat} {A : LSt} (h : QX X q A) : Qsh X q := by
  obtain ⟨o, w, g, h0, h1, h2, h3, -⟩ := h
  exact ⟨o, w, g, _, _, _, h0, h1, h2, h3⟩
theorem QX_fr {X' : Nat → va_E} {q q' : Nat} {A : LSt} (h : QX X q A) (f : FX X X' q') (ha : apart4 q q') : QX X' q A := by
  unfold apart4 at ha
  obtain ⟨o, w, g, h0, h1, h2, h3, h4⟩ := h
  exact ⟨o, w, g, by rw [f q (by omega)]; exact h0, by rw [f _ (by omega)]; exact h1, by rw [f _ (by omega)]; exact h2, by rw [f _ (by omega)]; exact h3, h4⟩
theorem Qsh_fr {X' : Nat → va_E} {q q' : Nat} (h : Qsh X q) (f : FX X X' q') (ha : apart4 q q') : Qsh X' q := by
  unfold apart4 at ha
  obtain ⟨o, w, g, s, n, u, h0, h1, h2, h3⟩ := h
  exact ⟨o, w, g, s, n, u, by rw [f q (by omega)]; exact h0, by rw [f _ (by omega)]; exact h1, by rw [f _ (by omega)]; exact h2, by rw [f _ (by omega)]; exact h3⟩
theorem setX_x {d m q : Nat} {A : LSt} (h1 : 23 ≤ q) (h2 : q + 3 < 140) (hn : np ≤ 7) (hA : lB np m A) (hQ : QN I F 12 np A) (hq : Qsh X q) : ∃ X', cV (rn (d + 2)) 42 [.ref q, .ref 12] (hp I J F G X) = some (hp I J F G X') ∧ QX X' q A ∧ FX X X' q := by
  have hl := lB_len hn hA
  obtain ⟨L, wt, wn, nt, gu⟩ := A
  obtain ⟨q1, q2, q3, q4, q5, q6⟩ := hQ
  obtain ⟨o, w, g, s, n, u, z0, z1, z2, z3⟩ := hq
  have := setAs_s (d := d) (q := q) (p := 12) (Or.inl (by omega)) (k12 (I := I) (J := J) (F := F) (G := G) (X := X)) k13 k14 k15 ((hp_x h1 (by omega)).trans (congrArg some z0)) ((hp_x (by omega) (by omega)).trans (congrArg some z1)) ((hp_x (by omega) (by omega)).trans (congrArg some z2)) ((hp_x (by omega) (by omega)).trans (congrArg some z3))
  rw [hp_qx h1 h2] at this
  dsimp only at q1 q2 q3 q4 q5 hl
  refine ⟨_, this, ⟨_, _, _, by rw [qX_0, q1, q2, q3], qX_1, qX_2, qX_3, ?_, ?_⟩, qX_fr⟩
  · intro k x hk
    have := (List.getElem?_eq_some_iff.mp hk).1
    dsimp only at this
    rw [cpy7 (by omega)]
    exact q4 k x hk
  · intro j hj
    rw [cpy7 hj]; exact q5 j hj
theorem setXX_x {d m q p : Nat} {A : LSt} (h1 : 23 ≤ q) (h2 : q + 3 < 140) (h3 : 23 ≤ p) (h4 : p + 3 < 140) (ha : apart4 p q) (hn : np ≤ 7) (hA : lB np m A) (hP : QX X p A) (hq : Qsh X q) : ∃ X', cV (rn (d + 2)) 42 [.ref q, .ref p] (hp I J F G X) = some (hp I J F G X') ∧ QX X' q A ∧ FX X X' q := by
  have hl := lB_len hn hA
  obtain ⟨L, wt, wn, nt, gu⟩ := A
  obtain ⟨o', w', g', y0, y1, y2, y3, y4, y5⟩ := hP
  obtain ⟨o, w, g, s, n, u, z0, z1, z2, z3⟩ := hq
  have := setAs_s (d := d) (H := (hp I J F G X)) (q := q) (p := p) ha ((hp_x h3 (by omega)).trans (congrArg some y0)) ((hp_x (by omega) (by omega)).trans (congrArg some y1)) ((hp_x (by omega) (by omega)).trans (congrArg some y2)) ((hp_x (by omega) (by omega)).trans (congrArg some y3)) ((hp_x h1 (by omega)).trans (congrArg some z0)) ((hp_x (by omega) (by omega)).trans (congrArg some z1)) ((hp_x (by omega) (by omega)).trans (congrArg some z2)) ((hp_x (by omega) (by omega)).trans (congrArg some z3))
  rw [hp_qx h1 h2] at this
  dsimp only at y4 y5 hl
  refine ⟨_, this, ⟨_, _, _, by rw [qX_0], qX_1, qX_2, qX_3, ?_, ?_⟩, qX_fr⟩
  · intro k x hk
    have := (List.getElem?_eq_some_iff.mp hk).1
    dsimp only at this
    rw [cpy7 (by omega)]
    exact y4 k x hk
  · intro j hj
    rw [cpy7 hj]; exact y5 j hj
theorem passX_x {d m q : Nat} {A : LSt} (h1 : 23 ≤ q) (h2 : q + 3 < 140) (hQ : QX X q A) (hn : np ≤ 7) (h4 : I 4 = nI np) (hk : kOK (F 5) kd np) (hp' : ∀ k, k < np → F 6 k = nI (pt k) ∧ pt k < 1000) (hA : lB np m A) (hm : m < 900) (c : Bool) : ∃ X', cI (rn (d + 8)) 52 [.ref q, .ref 4, .int (bI c)] (hp I J F G X) = some (oI (passA kd pt A c).1, hp I J F G X') ∧ QX X' q (passA kd pt A c).2 ∧ FX X X' q := by
  obtain ⟨L, wt, wn, nt, gu⟩ := A
  obtain ⟨o, w, g, z0, z1, z2, z3, z4, z5⟩ := hQ
  have hin : Qin (hp I J F G X) q (L, wt, g, nt, gu) := ⟨o, w, g, (hp_x h1 (by omega)).trans (congrArg some z0), (hp_x (by omega) (by omega)).trans (congrArg some z1), (hp_x (by omega) (by omega)).trans (congrArg some z2), (hp_x (by omega) (by omega)).trans (congrArg some z3), z4, z5, fun _ _ => rfl⟩
  obtain ⟨H', e1, ⟨o', w', g', g0, g1, g2, g3, g4, g5, g6⟩, e3⟩ := pass_s (d := d + 8) (by omega) (c := 4) hin (Or.inl (by omega)) (by rw [← h4]; exact hp_C) hn hk hp' (lB_lOK (A := (L, wt, g, nt, gu)) (np := np) (m := m) hA hm) c
  have hlen : q + 3 < (hp I J F G X).length := by rw [hp_len]; omega
  have eH : H' = putQ (hp I J F G X) q o' w' g' (nI (passA kd pt (L, wt, g, nt, gu) c).2.1.length) (nI (passA kd pt (L, wt, g, nt, gu) c).2.2.2.2.1) (passA kd pt (L, wt, g, nt, gu) c).2.2.2.2.2 := by
    apply lst_ext
    intro k
    rcases in4 q k with rfl | rfl | rfl | rfl | hk
    · rw [putQ_0 hlen, g0]
    · rw [putQ_1 hlen, g1]
    · rw [putQ_2 hlen, g2]
    · rw [putQ_3 hlen, g3]
    · rw [putQ_o hk, e3.2 k hk]
  rw [hp_qx h1 h2] at eH
  subst eH
  exact ⟨_, e1, ⟨o', w', g', qX_0, qX_1, qX_2, qX_3, g4, g5⟩, qX_fr⟩
end AS
