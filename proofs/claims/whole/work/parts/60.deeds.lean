/-! deeds, the component's side -/
section DX
variable {I : Nat → Int32} {J : Nat → Int64} {F : Nat → Nat → Int32} {G : Nat → Int64} {X : Nat → va_E} {np : Nat} {kd pt : Nat → Nat}
theorem beginq_loop {d : Nat} (v1 : Int32) : ∀ (m k : Nat) (F : Nat → Nat → Int32), 7 - k = m → k ≤ 7 → (∀ j, j < k → F 13 j = nI j ∧ F 14 j = 0 ∧ F 15 j = -9) → ∃ F', ex cdX5_beginWith (rn d) 22 [.ref 12, .int v1, .int (nI k)] [] (hp I J F G X) = some (none, hp I J F' G X) ∧ (∀ j, j < 7 → F' 13 j = nI j ∧ F' 14 j = 0 ∧ F' 15 j = -9) ∧ ∀ k, (k < 13 ∨ 15 < k) → F' k = F k := by
  intro m
  induction m with
  | zero =>
    intro k F e1 e2 h0
    have : k = 7 := by omega
    subst this
    refine ⟨F, ?_, h0, fun _ _ => rfl⟩
    rw [xX5_beginWith_22, if_pos (by decide)]
  | succ m ih =>
    intro k F e1 e2 h0
    rw [xX5_beginWith_22, if_neg (show ¬ (7 : Int32) ≤ nI k from nI_ge (b := 7) (by omega) (by decide)), x_q0, Option.bind_some, x_s13 (by omega), Option.bind_some, x_q1, Option.bind_some, x_s14 (by omega), Option.bind_some, x_q2, Option.bind_some, x_s15 (by omega), Option.bind_some, nI_1]
    obtain ⟨F', g1, g2, g3⟩ := ih (k + 1) (upF (upF (upF F 13 (upd (F 13) k (nI k))) 14 (upd (upF F 13 (upd (F 13) k (nI k)) 14) k 0)) 15 (upd (upF (upF F 13 (upd (F 13) k (nI k))) 14 (upd (upF F 13 (upd (F 13) k (nI k)) 14) k 0) 15) k (-9))) (by omega) (by omega) (fun j hj => by
      simp (disch := decide) only [upF_ne, upF_eq]
      by_cases z : j = k
      · subst z; rw [upd_eq, upd_eq, upd_eq]; exact ⟨rfl, rfl, rfl⟩
      · rw [upd_ne z, upd_ne z, upd_ne z]; exact h0 j (by omega))
    exact ⟨F', g1, g2, fun j hj => by rw [g3 j hj, upF_ne (by omega), upF_ne (by omega), upF_ne (by omega)]⟩
theorem begin_q {d : Nat} (hn : np ≤ 7) : ∃ I' F', cV (rn (d + 2)) 41 [.ref 12, .int (nI np)] (hp I J F G X) = some (hp I' J F' G X) ∧ QN I' F' 12 np (beg np) ∧ (∀ k, (k < 12 ∨ 14 < k) → I' k = I k) ∧ ∀ k, (k < 13 ∨ 15 < k) → F' k = F k := by
  obtain ⟨F', g1, g2, g3⟩ := beginq_loop (d := d + 1) (I := upd (upd (upd I 12 (nI np)) 13 0) 14 0) (J := J) (G := G) (X := X) (nI np) 7 0 F rfl (by omega) (fun j hj => absurd hj (by omega))
  rw [nI_0] at g1
  refine ⟨upd (upd (upd I 12 (nI np)) 13 0) 14 0, F', ?_, ⟨?_, ?_, ?_, ?_, ?_, ?_⟩, fun k hk => ?_, g3⟩
  · refine cVo ?_
    rw [rX5_beginWith, xX5_beginWith_0, nat0, Option.bind_some, if_neg (show ¬ (7 : Int32) < nI np from fun z => by have := (nI_ltI (a := 7) (by decide) (by omega)).mp z; omega), x_pqs, Option.bind_some, x_pqn, Option.bind_some, x_pqu, Option.bind_some, g1]
  · rw [upd_ne (by decide), upd_ne (by decide), upd_eq]; show nI np = nI (List.range np).length; rw [List.length_range]
  · rw [upd_ne (by decide), upd_eq]; exact nI_0.symm
  · rw [upd_eq]; rfl
  · intro k x hk
    have hk' : (List.range np)[k]? = some x := hk
    have h4 : k < np := by
      have := (List.getElem?_eq_some_iff.mp hk').1
      rwa [List.length_range] at this
    rw [List.getElem?_range h4] at hk'
    have h5 : k = x := Option.some.inj hk'
    subst h5
    exact (g2 k (by omega)).1
  · intro j hj
    rw [(g2 j hj).2.1]; exact nI_0.symm
  · intro j hj
    exact (g2 j (by omega)).2.2
  · rw [upd_ne (by omega), upd_ne (by omega), upd_ne (by omega)]
theorem plc_at {L : List Nat} (hnd : L.Nodup) {x : Nat} (hx : x ∈ L) : ∃ a, a < L.length ∧ L[a]? = some x ∧ plc L x = some a := by
  obtain ⟨a, ha⟩ := List.mem_iff_getElem?.mp hx
  exact ⟨a, (List.getElem?_eq_some_iff.mp ha).1, ha, plc_idx hnd ha⟩
theorem at_inj {L : List Nat} (hnd : L.Nodup) {x a b : Nat} (ha : L[a]? = some x) (hb : L[b]? = some x) : a = b := by
  have h1 := plc_idx hnd ha
  have h2 := plc_idx hnd hb
  rw [h1] at h2
  exact Option.some.inj h2
theorem swp_at {L : List Nat} (hnd : L.Nodup) {i j a b k x : Nat} (ha : L[a]? = some i) (hb : L[b]? = some j) (hij : i ≠ j) (hk : (swp L i j)[k]? = some x) : (k = b ∧ x = i) ∨ (k = a ∧ k ≠ b ∧ x = j) ∨ (k ≠ a ∧ k ≠ b ∧ L[k]? = some x) := by
  unfold swp at hk
  rw [List.getElem?_map] at hk
  cases e : L[k]? with
  | none => rw [e] at hk; cases hk
  | some y =>
    rw [e] at hk
    simp only [Option.map_some, Option.some.injEq] at hk
    by_cases y1 : y = i
    · subst y1
      have := at_inj hnd ha e
      subst this
      rw [if_pos rfl] at hk
      refine Or.inr (Or.inl ⟨rfl, fun z => hij ?_, hk.symm⟩)
      subst z
      rw [ha] at hb
      exact Option.some.inj hb
    · rw [if_neg y1] at hk
      by_cases y2 : y = j
      · subst y2
        rw [if_pos rfl] at hk
        exact Or.inl ⟨at_inj hnd e hb, hk.symm⟩
      · rw [if_neg y2] at hk
        subst hk
        refine Or.inr (Or.inr ⟨fun z => y1 ?_, fun z => y2 ?_, rfl⟩)
        · subst z; rw [ha] at e; exact (Option.some.inj e).symm
        · subst z; rw [hb] at e; exact (Option.some.inj e).symm
theorem swp_len (L : List Nat) (i j : Nat) : (swp L i j).length = L.length := by unfold swp; rw [List.length_map]
theorem swp_q {d m i j : Nat} {A : LSt} (hQ : QN I F 12 np A) (hn : np ≤ 7) (hA : lB np m A) (hi : i ∈ A.1) (hj : j ∈ A.1) (hij : i ≠ j) : ∃ I' F', cV (rn (d + 2)) 47 [.ref 12, .int (nI i), .int (nI j)] (hp I J F G X) = some (hp I' J F' G X) ∧ QN I' F' 12 np (swp A.1 i j, A.2) ∧ (∀ k, (k < 12 ∨ 14 < k) → I' k = I k) ∧ ∀ k, (k < 13 ∨ 15 < k) → F' k = F k := by
  obtain ⟨L, wt, wn, nt, gu⟩ := A
  have hl := lB_len hn hA
  have hnd : L.Nodup := hA.1
  have hi7 : i < np := hA.2.1 i hi
  have hj7 : j < np := hA.2.1 j hj
  dsimp only at hi hj hl
  obtain ⟨a, a1, a2, a3⟩ := plc_at hnd hi
  obtain ⟨b, b1, b2, b3⟩ := plc_at hnd hj
  have p1 := place_x (d := d) (J := J) (G := G) (X := X) (x := i) hQ hn hA (by omega)
  have p2 := place_x (d := d) (J := J) (G := G) (X := X) (x := j) hQ hn hA (by omega)
  rw [a3, oI_some] at p1
  rw [b3, oI_some] at p2
  have sw := swap_s (d := d + 1) (w := F 14) (g := F 15) (n := nI nt) (u := gu) (o := F 13) (by omega) (hl183 (I := I) (J := J) (F := F) (G := G) (X := X)) a1 b1 hl
  rw [hp_put12 hQ, hp_qq] at sw
  obtain ⟨q1, q2, q3, q4, q5, q6⟩ := hQ
  refine ⟨upd (upd (upd I 12 (nI L.length)) 13 (nI nt)) 14 gu, upF (upF (upF F 13 (upd (upd (F 13) a (F 13 b)) b (F 13 a))) 14 (F 14)) 15 (F 15), ?_, ⟨?_, ?_, ?_, ?_, ?_, ?_⟩, fun k hk => ?_, fun k hk => ?_⟩
  · refine cVo ?_
    rw [rX5_swapPersons, xX5_swapPersons_0, if_pos x_qi, p1, Option.bind_some, if_pos x_qi, p2, Option.bind_some, if_pos x_qi, sw, Option.bind_some]
  · rw [upd_ne (by decide), upd_ne (by decide), upd_eq]
    show nI L.length = nI (swp L i j).length
    rw [swp_len]
  · rw [upd_ne (by decide), upd_eq]
  · rw [upd_eq]
  · intro k x hk
    rw [upF_ne (by decide), upF_ne (by decide), upF_eq]
    have ga := q4 a i a2
    have gb := q4 b j b2
    rcases swp_at hnd a2 b2 hij hk with ⟨rfl, rfl⟩ | ⟨rfl, h2, rfl⟩ | ⟨h1, h2, h3⟩
    · rw [upd_eq]; exact ga
    · rw [upd_ne h2, upd_eq]; exact gb
    · rw [upd_ne h2, upd_ne h1]; exact q4 k x h3
  · intro j hj
    rw [upF_ne (by decide), upF_eq]; exact q5 j hj
  · intro j hj
    rw [upF_eq]; exact q6 j hj
  · rw [upd_ne (by omega), upd_ne (by omega), upd_ne (by omega)]
  · rw [upF_ne (by omega), upF_ne (by omega), upF_ne (by omega)]
theorem add_x {d len : Nat} {v : Int32} (h : I 20 = nI len) (hl : len < 40) : cV (rn (d + 1)) 20 [.ref 20, .int v] (hp I J F G X) = some (hp (upd I 20 (nI (len + 1))) J (upF F 21 (upd (F 21) len v)) G X) := by
  refine cVo ?_
  rw [rX2_add, xX2_add_0, x_dn, Option.bind_some, h, if_neg (nI_pos (by omega)), Option.bind_some, if_neg (show ¬ (40 : Int32) ≤ nI len from nI_ge (b := 40) hl (by decide)), x_d0, Option.bind_some, Option.bind_some, x_s21 (by omega), Option.bind_some, x_dn, Option.bind_some, x_pdn, Option.bind_some, h, nI_1]
theorem room_x {d len n : Nat} (h : I 20 = nI len) (hl : len ≤ 40) (hn : n < 1000) : cI (rn (d + 1)) 19 [.ref 20, .int (nI n)] (hp I J F G X) = some (bI (decide (len + n ≤ 40)), (hp I J F G X)) := by
  refine cIo ?_
  rw [rX2_hasRoomFor, xX2_hasRoomFor_0, x_dn, Option.bind_some, h, show (40 : Int32) - nI len = nI (40 - len) from pk_sub (a := 40) hl]
  by_cases z : len + n ≤ 40
  · rw [if_neg (fun y => by have := (nI_ltI (by omega) (by omega)).mp y; omega)]
    simp [bI, z]
  · rw [if_pos ((nI_ltI (by omega) (by omega)).mpr (by omega))]
    simp [bI, z]
theorem rDs_snoc {ds : List Nat} {n : Int32} {f : Nat → Int32} {c : Nat} (h : rDs np kd pt ds n f) (hl : ds.length < 40) (hc : okD (rep np kd pt ds) c) : rDs np kd pt (ds ++ [c]) (nI (ds.length + 1)) (upd f ds.length (nI c)) := by
  obtain ⟨h1, h2, h3, h4⟩ := h
  refine ⟨by simp; omega, okDs_snoc h2 hc, by simp, fun k x hk => ?_⟩
  by_cases z : k < ds.length
  · rw [List.getElem?_append_left z] at hk
    rw [upd_ne (by omega)]
    exact h4 k x hk
  · rw [List.getElem?_append_right (by omega)] at hk
    have z2 : k - ds.length < 1 := (List.getElem?_eq_some_iff.mp hk).1
    have z3 : k = ds.length := by omega
    subst z3
    rw [Nat.sub_self] at hk
    cases hk
    rw [upd_eq]
theorem c2 {c : Nat} (h : c < 2) : c = 0 ∨ c = 1 := by omega
/-- a night of the component -/
theorem night_x {d c : Nat} {ds : List Nat} (hD : rDs np kd pt ds (I 20) (F 21)) (hQ : QN I F 12 np (rep np kd pt ds)) (hl : ds.length < 40) (hn : np ≤ 7) (h4 : I 4 = nI np) (hk : kOK (F 5) kd np) (hp' : ∀ k, k < np → F 6 k = nI (pt k) ∧ pt k < 1000) (hc : c < 2) : ∃ I' F', cI (rn (d + 9)) 139 [.ref 1, .int (nI c)] (hp I J F G X) = some (oI (passA kd pt (rep np kd pt ds) (c == 1)).1, hp I' J F' G X) ∧ rDs np kd pt (ds ++ [c]) (I' 20) (F' 21) ∧ QN I' F' 12 np (rep np kd pt (ds ++ [c])) ∧ (∀ k, (k < 12 ∨ 14 < k) ∧ k ≠ 20 → I' k = I k) ∧ ∀ k, (k < 13 ∨ 15 < k) ∧ k ≠ 21 → F' k = F k := by
  have hA := rep_lBf hD.2.1
  have ad := add_x (d := d + 7) (J := J) (F := F) (G := G) (X := X) (v := nI c) hD.2.2.1 hl
  have hQ1 : QN (upd I 20 (nI (ds.length + 1))) (upF F 21 (upd (F 21) ds.length (nI c))) 12 np (rep np kd pt ds) := QN_c hQ (fun k k1 k2 => upd_ne (by omega)) (fun k k1 k2 => upF_ne (by omega))
  obtain ⟨I', F', e1, e2, e3, e4⟩ := pass_q (d := d + 8) (by omega) (q := 12) (c := 4) (I := upd I 20 (nI (ds.length + 1))) (F := upF F 21 (upd (F 21) ds.length (nI c))) (kf := F 5) (pf := F 6) (rf := F 7) (m := ds.length) (J := J) (G := G) (X := X) (np := np) (kd := kd) (pt := pt) hp_qq k12 k13 k14 k15 hQ1 (Or.inl (by decide)) (by
    have := hp_C (I := upd I 20 (nI (ds.length + 1))) (J := J) (F := upF F 21 (upd (F 21) ds.length (nI c))) (G := G) (X := X)
    rwa [upd_ne (by decide), upF_ne (by decide), upF_ne (by decide), upF_ne (by decide), h4] at this) hn hk hp' hA (by omega) (c == 1)
  refine ⟨I', F', ?_, ?_, ?_, fun k hk => ?_, fun k hk => ?_⟩
  · refine cIo ?_
    rw [rX9_passNight, xX9_passNight_0, x_f6, Option.bind_some, if_pos x_di, ad, Option.bind_some, x_f4, Option.bind_some, x_f2, Option.bind_some]
    rcases c2 hc with rfl | rfl
    · rw [if_neg (by decide), xX9_passNight_26, if_pos x_qi, show (0 : Int32) = bI (0 == 1) from rfl, e1, Option.bind_some]
    · rw [if_pos (by decide), xX9_passNight_26, if_pos x_qi]
      have e1' : cI (rn (d + 8)) 52 [.ref 12, .ref 4, .int 1] (hp (upd I 20 (nI (ds.length + 1))) J (upF F 21 (upd (F 21) ds.length (nI 1))) G X) = _ := e1
      rw [e1', Option.bind_some]
  · rw [e3 20 (by omega), e4 21 (by omega), upd_eq, upF_eq]
    exact rDs_snoc hD hl (Or.inl hc)
  · rw [rep_snoc]
    unfold doD
    rw [if_pos hc]
    exact e2
  · rw [e3 k (by omega), upd_ne (by omega)]
  · rw [e4 k (by omega), upF_ne (by omega)]
theorem okD_lt {A : LSt} {m x : Nat} (hn : np ≤ 7) (hA : lB np m A) (h : okD A x) : x < 51 := by
  rcases h with h | ⟨h1, h2, h3⟩
  · omega
  · have := hA.2.1 _ h1
    omega
theorem anew_loop {d : Nat} {ds : List Nat} (hD : rDs np kd pt ds (I 20) (F 21)) (hn : np ≤ 7) (h4 : I 4 = nI np) (hk : kOK (F 5) kd np) (hp' : ∀ k, k < np → F 6 k = nI (pt k) ∧ pt k < 1000) : ∀ (q k : Nat) (I1 : Nat → Int32) (F1 : Nat → Nat → Int32) (v2 v3 : Value), ds.length - k = q → k ≤ ds.length → QN I1 F1 12 np (rep np kd pt (ds.take k)) → (∀ k, (k < 12 ∨ 14 < k) → I1 k = I k) → (∀ k, (k < 13 ∨ 15 < k) → F1 k = F k) → ∃ I' F', ex cdX9_doDeedsAnew (rn (d + 8)) 16 [.ref 1, .int (nI k), v2, v3] [] (hp I1 J F1 G X) = some (none, hp I' J F' G X) ∧ QN I' F' 12 np (rep np kd pt ds) ∧ (∀ k, (k < 12 ∨ 14 < k) → I' k = I k) ∧ ∀ k, (k < 13 ∨ 15 < k) → F' k = F k := by
  obtain ⟨l1, l2, l3, l4⟩ := hD
  intro q
  induction q with
  | zero =>
    intro k I1 F1 v2 v3 e1 e2 hQ f1 f2
    have : k = ds.length := by omega
    subst this
    rw [List.take_length] at hQ
    refine ⟨I1, F1, ?_, hQ, f1, f2⟩
    rw [xX9_doDeedsAnew_16, x_f6, Option.bind_some, x_dn, Option.bind_some, f1 20 (by omega), l3, if_pos (nI_le (Nat.le_refl _) (by omega))]
  | succ q ih =>
    intro k I1 F1 v2 v3 e1 e2 hQ f1 f2
    have hg : ds[k]? = some (ds[k]'(by omega)) := List.getElem?_eq_getElem (by omega)
    generalize ds[k]'(by omega) = x at hg
    have hx := l4 k x hg
    have ho := l2 k x hg
    have hA := rep_lB l2 k (by omega)
    have hx51 := okD_lt hn hA ho
    have hrep := rep_take (np := np) (kd := kd) (pt := pt) hg
    have hx1 : F1 21 k = nI x := by rw [f2 21 (by omega)]; exact hx
    rw [xX9_doDeedsAnew_16, x_f6, Option.bind_some, x_dn, Option.bind_some, f1 20 (by omega), l3, if_neg (nI_ge (by omega) (by omega)), Option.bind_some, x_d0, Option.bind_some, x_g21 (by omega), Option.bind_some, hx1]
    by_cases h2 : x < 2
    · rw [if_neg (show ¬ (2 : Int32) ≤ nI x from nI_ge (b := 2) h2 (by decide)), x_f4, Option.bind_some, x_f2, Option.bind_some]
      obtain ⟨I2, F2, g1, g2, g3, g4⟩ := pass_q (d := d + 8) (by omega) (q := 12) (c := 4) (I := I1) (F := F1) (kf := F 5) (pf := F 6) (rf := F 7) (m := k) (J := J) (G := G) (X := X) (np := np) (kd := kd) (pt := pt) hp_qq k12 k13 k14 k15 hQ (Or.inl (by decide)) (by
        have := hp_C (I := I1) (J := J) (F := F1) (G := G) (X := X)
        rwa [f1 4 (by omega), f2 5 (by omega), f2 6 (by omega), f2 7 (by omega), h4] at this) hn hk hp' hA (by omega) (x == 1)
      have hQ2 : QN I2 F2 12 np (rep np kd pt (ds.take (k + 1))) := by
        rw [hrep]; unfold doD; rw [if_pos h2]; exact g2
      obtain ⟨I', F', r1, r2, r3, r4⟩ := ih (k + 1) I2 F2 (.int (nI x)) v3 (by omega) (by omega) hQ2 (fun j hj => by rw [g3 j hj, f1 j hj]) (fun j hj => by rw [g4 j hj, f2 j hj])
      refine ⟨I', F', ?_, r2, r3, r4⟩
      rcases c2 h2 with rfl | rfl
      · rw [if_neg (by decide), xX9_doDeedsAnew_60, if_pos x_qi, show (0 : Int32) = bI (0 == 1) from rfl, g1, Option.bind_some, nI_1]
        exact r1
      · rw [if_pos (by decide), xX9_doDeedsAnew_60, if_pos x_qi]
        have g1' : cI (rn (d + 8)) 52 [.ref 12, .ref 4, .int 1] (hp I1 J F1 G X) = _ := g1
        rw [g1', Option.bind_some, nI_1]
        exact r1
    · rcases ho with ho | ⟨o1, o2, o3⟩
      · exact absurd ho h2
      obtain ⟨I2, F2, g1, g2, g3, g4⟩ := swp_q (d := d + 6) (I := I1) (F := F1) (J := J) (G := G) (X := X) hQ hn hA o1 o2 o3
      have hQ2 : QN I2 F2 12 np (rep np kd pt (ds.take (k + 1))) := by
        rw [hrep]; unfold doD; rw [if_neg h2]; exact g2
      have s1 : nI x - 2 = nI (x - 2) := pk_sub (a := x) (b := 2) (by omega)
      have s2 : nI (x - 2) / 7 = nI ((x - 2) / 7) := pk_div (d := 7) (by omega) (by decide) (by decide)
      have s3 : nI (x - 2) - nI (x - 2) / 7 * 7 = nI ((x - 2) % 7) := pk_rem (d := 7) (by omega) (by decide) (by decide)
      obtain ⟨I', F', r1, r2, r3, r4⟩ := ih (k + 1) I2 F2 (.int (nI x)) (.int (nI (x - 2))) (by omega) (by omega) hQ2 (fun j hj => by rw [g3 j hj, f1 j hj]) (fun j hj => by rw [g4 j hj, f2 j hj])
      refine ⟨I', F', ?_, r2, r3, r4⟩
      rw [if_pos (show (2 : Int32) ≤ nI x from nI_le (a := 2) (by omega) (by omega)), x_f4, Option.bind_some, if_pos x_qi, s1, s3, s2, g1, Option.bind_some, nI_1]
      exact r1
theorem anew_x {d : Nat} {ds : List Nat} (hD : rDs np kd pt ds (I 20) (F 21)) (hn : np ≤ 7) (h4 : I 4 = nI np) (hk : kOK (F 5) kd np) (hp' : ∀ k, k < np → F 6 k = nI (pt k) ∧ pt k < 1000) : ∃ I' F', cV (rn (d + 9)) 140 [.ref 1] (hp I J F G X) = some (hp I' J F' G X) ∧ QN I' F' 12 np (rep np kd pt ds) ∧ (∀ k, (k < 12 ∨ 14 < k) → I' k = I k) ∧ ∀ k, (k < 13 ∨ 15 < k) → F' k = F k := by
  obtain ⟨I1, F1, g1, g2, g3, g4⟩ := begin_q (d := d + 6) (np := np) (I := I) (J := J) (F := F) (G := G) (X := X) hn
  obtain ⟨I', F', r1, r2, r3, r4⟩ := anew_loop (d := d) (J := J) (G := G) (X := X) hD hn h4 hk hp' ds.length 0 I1 F1 .null .null rfl (Nat.zero_le _) (by simpa [rep] using g2) g3 g4
  refine ⟨I', F', ?_, r2, r3, r4⟩
  refine cVo ?_
  rw [nI_0] at r1
  rw [rX9_doDeedsAnew, xX9_doDeedsAnew_0, x_f4, Option.bind_some, x_f2, Option.bind_some, x_cn, Option.bind_some, h4, if_pos x_qi, g1, Option.bind_some, r1]
end DX
