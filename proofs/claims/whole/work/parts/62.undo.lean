/-! undo, keep, on -/
theorem c985 (k : Nat) : (985 : Int32) * (1 + nI k) = nI (985 * (k + 1)) := by
  rw [show (1 : Int32) + nI k = nI (1 + k) from nI_add 1 k, show (985 : Int32) * nI (1 + k) = nI (985 * (1 + k)) from pk_mul 985 _, Nat.add_comm 1 k]
theorem n985 : (985 : Int32) = nI 985 := rfl
def unR (f : Nat → Int32) (n : Nat) : Nat → Int32 := upd (fun x => if 1 ≤ x ∧ x < 25 then f (x - 1 + (25 + 24 * n)) else f x) 0 (nI n)
section UY
variable {I : Nat → Int32} {J : Nat → Int64} {F : Nat → Nat → Int32} {G : Nat → Int64} {X : Nat → va_E} {np : Nat} {kd pt : Nat → Nat} {ds : List Nat}
theorem undo_loop {d n q : Nat} {f : Nat → Int32} (hn : n < 40) (hq : 0 < q) (hq2 : q < 2 ^ 31) : ∀ (m k : Nat) (F : Nat → Nat → Int32), 24 - k = m → k ≤ 24 → F 169 = (fun x => if 1 ≤ x ∧ x < 1 + k then f (x - 1 + (25 + 24 * n)) else f x) → ex cdX10_undo (rn d) 29 [.ref 168, .int (nI n), .int (nI q), .int (nI k)] [] (hp I J F G X) = some (some (.int (nI q)), hp I J (upF F 169 (unR f n)) G X) := by
  intro m
  induction m with
  | zero =>
    intro k F e1 e2 h0
    have : k = 24 := by omega
    subst this
    rw [xX10_undo_29, if_pos (by decide), y_f0, Option.bind_some, y_srow0, Option.bind_some, h0]
    rfl
  | succ m ih =>
    intro k F e1 e2 h0
    have h0k : F 169 (25 + 24 * n + k) = f (25 + 24 * n + k) := by rw [h0]; dsimp only; rw [if_neg (by omega)]
    rw [xX10_undo_29, if_neg (show ¬ (24 : Int32) ≤ nI k from nI_ge (b := 24) (by omega) (by decide)), if_neg (nI_nle hq hq2), y_f0, Option.bind_some, Option.bind_some, c25, y_g169 (by omega), Option.bind_some, h0k, c1p, y_s169 (by omega), Option.bind_some, nI_1, ih (k + 1) _ (by omega) (by omega) ?_]
    · congr 3
      funext y
      by_cases z : y = 169
      · subst z; rw [upF_eq, upF_eq]
      · rw [upF_ne z, upF_ne z, upF_ne z]
    · rw [upF_eq, h0]
      funext x
      by_cases z : x = 1 + k
      · subst z
        rw [upd_eq, if_pos (by omega)]
        congr 1
        omega
      · rw [upd_ne z]
        by_cases z2 : 1 ≤ x ∧ x < 1 + k
        · rw [if_pos z2, if_pos (by omega)]
        · rw [if_neg z2, if_neg (by omega)]
theorem seg_undo {f : Nat → Int32} {n : Nat} (hn : np ≤ 7) (hS : SegRel f 0 np kd pt ds) (hd : okDs np kd pt ds) (hl : n < ds.length) : SegRel (unR f n) 0 np kd pt (ds.take n) := by
  obtain ⟨s1, s2, s3⟩ := hS
  have hlen : (ds.take n).length = n := by rw [List.length_take]; omega
  refine ⟨by rw [hlen]; exact upd_eq _ _ _, ?_, fun k hk => ?_⟩
  · refine LineN_cp (lB_len hn (rep_lB hd n (by omega))) hn (s3 n hl) (fun j j1 j2 => ?_)
    unfold unR
    rw [upd_ne (by omega), if_pos (by omega)]
    congr 1
    omega
  · rw [hlen] at hk
    rw [List.take_take, Nat.min_eq_left (by omega)]
    refine LineN_c (lB_len hn (rep_lB hd k (by omega))) hn (s3 k (by omega)) (fun x x1 x2 => ?_)
    unfold unR
    rw [upd_ne (by omega), if_neg (by omega)]
theorem rDs_take {n : Nat} {m : Int32} {f : Nat → Int32} (h : rDs np kd pt ds m f) (hl : n ≤ ds.length) : rDs np kd pt (ds.take n) (nI n) f := by
  obtain ⟨h1, h2, h3, h4⟩ := h
  have hlen : (ds.take n).length = n := by rw [List.length_take]; omega
  refine ⟨by omega, okDs_take n h2, by rw [hlen], fun k x hk => ?_⟩
  have hk' : k < n := by have := (List.getElem?_eq_some_iff.mp hk).1; omega
  rw [List.getElem?_take_of_lt hk'] at hk
  exact h4 k x hk
end UY
theorem g_undo : gdI 94 197 1 := gdI_of (fun as hn I J F G X np kd pt pr ds ks hR hS => by
  obtain ⟨a, rfl⟩ := as1 hn
  show okI _ _ [.int a] I J F G X
  obtain ⟨hn7, h4, h168, hk, hk', hp', hp'', hA, hQ, hL⟩ := rel_ctx (G := G) (X := X) hR
  obtain ⟨hD, -, hSg⟩ := hR.2.2.2.2.2.1
  have hD3 := hD.2.2.1
  have hD1 := hD.1
  have hr0 : F 169 0 = nI ds.length := hSg.1
  rcases ix a (n := ds.length + 1) (by omega) with ha | ⟨n, hnl, rfl⟩
  · refine okI_same (v := -1) hR hS ?_ ?_
    · refine cIo ?_; rw [rX9_undo, xX9_undo_0]
      by_cases z : a < 0
      · rw [if_pos z]
      · rw [if_neg z, x_f6, Option.bind_some, x_dn, Option.bind_some, hD3, if_neg]
        rcases ha with e | e
        · exact absurd e z
        · intro y
          obtain ⟨j, hj, rfl⟩ := nI_of z
          have h1 := (nI_leI (by omega) hj).mp e
          have h2 := (nI_leI hj (by omega)).mp y
          omega
    · refine cIo ?_; rw [rX10_undo, xX10_undo_0, y_f0, Option.bind_some, y_row0, Option.bind_some, hr0, in_yn (x := 0) (n := ds.length + 1) (by omega) ha (by decide) (by rw [nI_pred]), Option.bind_some, if_pos rfl]
  have hD' : rDs np kd pt (ds.take n) (upd I 20 (nI n) 20) (F 21) := by rw [upd_eq]; exact rDs_take hD (by omega)
  obtain ⟨I1, F1, g1, g2, g3, g4⟩ := anew_x (d := 50) (I := upd I 20 (nI n)) (J := J) (F := F) (G := G) (X := X) hD' hn7 (by rw [upd_ne (by decide)]; exact h4) hk hp'
  have f169 : F1 169 = F 169 := g4 169 (by omega)
  have iny := fun (d : Nat) (h : mH) => in_y (d := d) (h := h) (x := 0) (y := (nI ds.length).toInt64) (n := ds.length + 1) (k := n) (by omega) hnl rfl (by decide) (by rw [nI_pred])
  have comp : cI (rn 60) 94 [.ref 1, .int (nI n)] (hp I J F G X) = some (nI (ds.length - n), hp I1 J F1 G X) := by
    refine cIo ?_; rw [rX9_undo, xX9_undo_0, if_neg (nI_pos (by omega)), x_f6, Option.bind_some, x_dn, Option.bind_some, hD3, if_pos (nI_le (by omega) (by omega)), Option.bind_some, x_dn, Option.bind_some, Option.bind_some, x_pdn, Option.bind_some, if_pos x_is, g1, Option.bind_some, hD3, pk_sub (by omega)]
  have hDr : rDs np kd pt (ds.take n) (I1 20) (F1 21) := by rw [g3 20 (by omega), g4 21 (by omega)]; exact hD'
  have fr1 : ∀ k, (k < 12 ∨ 14 < k) ∧ k ≠ 20 → I1 k = I k := fun k hk => by rw [g3 k hk.1, upd_ne hk.2]
  by_cases hl : n < ds.length
  · have ul := undo_loop (d := 59) (I := I1) (J := J) (G := G) (X := X) (n := n) (q := ds.length - n) (f := F1 169) (by omega) (by omega) (by omega) 24 0 F1 rfl (by omega) (by funext x; rw [if_neg (by omega)])
    rw [nI_0] at ul
    refine okI_mk (J2 := J) (G2 := G) (F2 := upF F1 169 (unR (F1 169) n)) comp ?_ (rel_line (ds' := ds.take n) hR fr1 (fun k hk => by rw [upF_ne (by omega), g4 k (by omega)]) ⟨?_, QN_c g2 (fun _ _ _ => rfl) (fun k k1 k2 => upF_ne (by omega)), ?_⟩ (fun k k1 k2 => ?_)) hS
    · refine cIo ?_; rw [rX10_undo, xX10_undo_0, y_f0, Option.bind_some, y_row0, Option.bind_some, f169, hr0, iny, Option.bind_some, if_neg one_ne, y_f0, Option.bind_some, y_row0, Option.bind_some, f169, hr0]
      rw [f169] at ul
      dsimp only
      rw [pk_sub (by omega), ul]
    · rw [upF_ne (by decide)]; exact hDr
    · rw [upF_eq, f169]; exact seg_undo hn7 hSg hD.2.1 hl
    · rw [upF_eq]
      unfold unR
      rw [upd_ne (by omega), if_neg (by omega), f169]
  · have e : n = ds.length := by omega
    subst e
    refine okI_mk (J2 := J) (G2 := G) (F2 := upF F1 169 (upd (F1 169) 0 (nI ds.length))) comp ?_ (rel_line (ds' := ds.take ds.length) hR fr1 (fun k hk => by rw [upF_ne (by omega), g4 k (by omega)]) ⟨?_, QN_c g2 (fun _ _ _ => rfl) (fun k k1 k2 => upF_ne (by omega)), ?_⟩ (fun k k1 k2 => ?_)) hS
    · refine cIo ?_; rw [rX10_undo, xX10_undo_0, y_f0, Option.bind_some, y_row0, Option.bind_some, f169, hr0, iny, Option.bind_some, if_neg one_ne, y_f0, Option.bind_some, y_row0, Option.bind_some, f169, hr0]
      dsimp only
      rw [pk_sub (Nat.le_refl _), Nat.sub_self, nI_0, xX10_undo_29, if_neg (by decide), if_pos (by decide), y_f0, Option.bind_some, y_srow0, Option.bind_some, f169]
    · rw [upF_ne (by decide)]; exact hDr
    · rw [upF_eq, f169, List.take_length]
      refine SegRel_c hn7 hD1 hD.2.1 hSg (fun k k1 k2 => ?_)
      by_cases z : k = 0
      · subst z; rw [upd_eq]; exact hr0.symm
      · rw [upd_ne z]
    · rw [upF_eq, upd_ne (by omega), f169])
section KX
variable {I : Nat → Int32} {J : Nat → Int64} {F : Nat → Nat → Int32} {G : Nat → Int64} {X : Nat → va_E} {np : Nat} {kd pt pr : Nat → Nat} {ds : List Nat} {ks : Nat → Option (List Nat)}
theorem keepAs_x {d k : Nat} (hk : k < 3) : cV (rn (d + 2)) 21 [.ref (162 + 2 * k), .ref 20] (hp I J F G X) = some (hp (upd I (162 + 2 * k) (I 20)) J (upF F (163 + 2 * k) (va_cpy (F 21) (F (163 + 2 * k)) 0 0 40)) G X) := by
  have cp : ∀ K : mH, K[21]? = some (ar 40 (F 21)) → K[163 + 2 * k]? = some (ar 40 (F (163 + 2 * k))) → cpI K 21 0 (163 + 2 * k) 0 40 = some (K.set (163 + 2 * k) (ar 40 (va_cpy (F 21) (F (163 + 2 * k)) 0 0 40))) := fun K h1 h2 => cpI_at (n := 40) (by decide) h1 h2
  refine cVo ?_
  rw [rX2_setAs, xX2_setAs_0, x_dn, Option.bind_some, x_keppN hk, Option.bind_some, x_d0, Option.bind_some, x_kepF hk, Option.bind_some, nat0, Option.bind_some, cp _ k21 (k_kepA hk), Option.bind_some, x_kepsA hk]
theorem onAs_x {d k : Nat} (hk : k < 3) : cV (rn (d + 2)) 21 [.ref 20, .ref (162 + 2 * k)] (hp I J F G X) = some (hp (upd I 20 (I (162 + 2 * k))) J (upF F 21 (va_cpy (F (163 + 2 * k)) (F 21) 0 0 40)) G X) := by
  have cp : ∀ K : mH, K[163 + 2 * k]? = some (ar 40 (F (163 + 2 * k))) → K[21]? = some (ar 40 (F 21)) → cpI K (163 + 2 * k) 0 21 0 40 = some (K.set 21 (ar 40 (va_cpy (F (163 + 2 * k)) (F 21) 0 0 40))) := fun K h1 h2 => cpI_at (n := 40) (by decide) h1 h2
  have st : ∀ (I : Nat → Int32) (g : Nat → Int32), (hp I J F G X).set 21 (ar 40 g) = hp I J (upF F 21 g) G X := fun I g => (hp_sa (by decide)).trans rfl
  refine cVo ?_
  rw [rX2_setAs, xX2_setAs_0, x_kepN hk, Option.bind_some, x_pdn, Option.bind_some, x_kepF hk, Option.bind_some, x_d0, Option.bind_some, nat0, Option.bind_some, cp _ (k_kepA hk) k21, Option.bind_some, st]
theorem cpy40 {f f' : Nat → Int32} {k : Nat} (h : k < 40) : va_cpy f f' 0 0 40 k = f k := by rw [pk_cpy_in (Nat.zero_le _) (by omega), Nat.zero_add, Nat.sub_zero]
theorem rDs_cpy {n : Int32} {f f' : Nat → Int32} (h : rDs np kd pt ds n f) : rDs np kd pt ds n (va_cpy f f' 0 0 40) := by
  obtain ⟨h1, h2, h3, h4⟩ := h
  refine ⟨h1, h2, h3, fun k x hk => ?_⟩
  have := (List.getElem?_eq_some_iff.mp hk).1
  rw [cpy40 (by omega)]
  exact h4 k x hk
end KX
theorem g_keep : gdI 95 198 1 := gdI_of (fun as hn I J F G X np kd pt pr ds ks hR hS => by
  obtain ⟨a, rfl⟩ := as1 hn
  show okI _ _ [.int a] I J F G X
  obtain ⟨hn7, h4, h168, hk, hk', hp', hp'', hA, hQ, hL⟩ := rel_ctx (G := G) (X := X) hR
  obtain ⟨hD, -, hSg⟩ := hR.2.2.2.2.2.1
  have hD3 := hD.2.2.1
  have hD1 := hD.1
  have hr0 : F 169 0 = nI ds.length := hSg.1
  rcases ix a (n := 3) (by decide) with ha | ⟨k, hk3, rfl⟩
  · refine okI_same (v := -1) hR hS ?_ ?_
    · refine cIo ?_; rw [rX9_keep, xX9_keep_0, isKept_xn ha, Option.bind_some, if_pos rfl]
    · refine cIo ?_; rw [rX10_keep, xX10_keep_0, in_yn (x := 0) (y := 2) (n := 3) (by decide) ha (by decide) (by decide), Option.bind_some, if_pos rfl]
  have iny := fun (d : Nat) (h : mH) => in_y (d := d) (h := h) (x := 0) (y := 2) (n := 3) (by decide) hk3 rfl (by decide) (by decide)
  by_cases h0 : np = 0
  · subst h0
    refine okI_same (v := -4) hR hS ?_ ?_
    · refine cIo ?_; rw [rX9_keep, xX9_keep_0, isKept_x hk3, Option.bind_some, if_neg one_ne, x_f2, Option.bind_some, x_cn, Option.bind_some, h4, if_pos (by decide)]
    · refine cIo ?_; rw [rX10_keep, xX10_keep_0, iny, Option.bind_some, if_neg one_ne, y_ps, Option.bind_some, h168, if_pos (by decide)]
  have np0 : ¬ nI np = 0 := nI_ne0 (by omega) (by omega)
  have hcp := copyLine_y (d := 58) (I := upd I (162 + 2 * k) (I 20)) (J := J) (F := upF F (163 + 2 * k) (va_cpy (F 21) (F (163 + 2 * k)) 0 0 40)) (G := G) (X := X) (a := 0) (b := 985 * (k + 1)) (n := 985) (by omega) (by omega) (by omega)
  have f169 : upF F (163 + 2 * k) (va_cpy (F 21) (F (163 + 2 * k)) 0 0 40) 169 = F 169 := upF_ne (by omega)
  rw [nI_0, f169] at hcp
  refine okI_mk (J2 := J) (G2 := G) (v := nI ds.length) (I1 := upd I (162 + 2 * k) (I 20)) (J1 := J) (F1 := upF F (163 + 2 * k) (va_cpy (F 21) (F (163 + 2 * k)) 0 0 40)) (X1 := X) (I2 := upd I (162 + 2 * k) (I 20)) (F2 := upF (upF F (163 + 2 * k) (va_cpy (F 21) (F (163 + 2 * k)) 0 0 40)) 169 (fun x => if 985 * (k + 1) ≤ x ∧ x < 985 * (k + 1) + 985 then F 169 (x - 985 * (k + 1) + 0) else F 169 x)) (np := np) (kd := kd) (pt := pt) (pr := pr) (ds := ds) (ks := fun j => if j = k then some ds else ks j) ?_ ?_ ?_ hS
  · refine cIo ?_; rw [rX9_keep, xX9_keep_0, isKept_x hk3, Option.bind_some, if_neg one_ne, x_f2, Option.bind_some, x_cn, Option.bind_some, h4, if_neg np0, x_f7, Option.bind_some, x_kepR hk3, Option.bind_some, x_f6, Option.bind_some, if_pos (x_kepI hk3), keepAs_x hk3, Option.bind_some, x_f6, Option.bind_some, x_dn, Option.bind_some, upd_ne (by omega), hD3]
  · refine cIo ?_; rw [rX10_keep, xX10_keep_0, iny, Option.bind_some, if_neg one_ne, y_ps, Option.bind_some, upd_ne (by omega), h168, if_neg np0, if_pos y_is]
    dsimp only
    rw [c985, n985, hcp, Option.bind_some, y_f0, Option.bind_some, y_row0, Option.bind_some, upF_eq, if_neg (by omega), hr0]
  · obtain ⟨h1, h2, h3, h4, h5, h6, h7⟩ := hR
    refine ⟨rMain_c h1 (fun j hj => upd_ne (by omega)) (fun _ _ => rfl), rFnd_c h2 (fun j hj => by rw [upF_ne (by omega), upF_ne (by omega)]), rRows_c h3 (fun j j1 j2 => upd_ne (by omega)) (fun j hj => by rw [upF_ne (by omega), upF_ne (by omega)]), rTxts_c h4 (fun j j1 j2 => upd_ne (by omega)) (fun j hj => by rw [upF_ne (by omega), upF_ne (by omega)]), rCrowd_c h5 (fun j hj => upd_ne (by omega)) (fun j hj => by rw [upF_ne (by omega), upF_ne (by omega)]), rLine_c hn7 h6 (fun j hj => upd_ne (by omega)) (fun j hj => by rw [upF_ne (by omega), upF_ne (by omega)]) (fun j hj => by rw [upF_eq, if_neg (by omega)]), fun j hj => ?_⟩
    by_cases e : j = k
    · subst e
      refine Or.inr ⟨ds, if_pos rfl, ?_, ?_⟩
      · rw [upd_eq, upF_ne (by omega), upF_eq]
        exact rDs_cpy hD
      · rw [upF_eq]
        refine SegRel_cp hn7 hD1 hD.2.1 hSg (fun x hx => ?_)
        rw [if_pos (by omega), show 985 * (j + 1) + x - 985 * (j + 1) + 0 = 0 + x by omega]
    · rcases h7 j hj with ⟨b1, b2, b3⟩ | ⟨ds', a1, a2, a3⟩
      · exact Or.inl ⟨(if_neg e).trans b1, (upd_ne (by omega)).trans b2, by rw [upF_eq, if_neg (by omega)]; exact b3⟩
      · refine Or.inr ⟨ds', (if_neg e).trans a1, ?_, ?_⟩
        · rw [upd_ne (by omega), upF_ne (by omega), upF_ne (by omega)]; exact a2
        · rw [upF_eq]
          exact SegRel_c hn7 a2.1 a2.2.1 a3 (fun x x1 x2 => by rw [if_neg (by omega)]))
theorem g_on : gdI 96 199 1 := gdI_of (fun as hn I J F G X np kd pt pr ds ks hR hS => by
  obtain ⟨a, rfl⟩ := as1 hn
  show okI _ _ [.int a] I J F G X
  obtain ⟨hn7, h4, h168, hk, hk', hp', hp'', hA, hQ, hL⟩ := rel_ctx (G := G) (X := X) hR
  have h7 := hR.2.2.2.2.2.2
  rcases ix a (n := 3) (by decide) with ha | ⟨k, hk3, rfl⟩
  · refine okI_same (v := -1) hR hS ?_ ?_
    · refine cIo ?_; rw [rX9_on, xX9_on_0, isKept_xn ha, Option.bind_some, if_pos rfl]
    · refine cIo ?_; rw [rX10_on, xX10_on_0, in_yn (x := 0) (y := 2) (n := 3) (by decide) ha (by decide) (by decide), Option.bind_some, if_pos rfl]
  have iny := fun (d : Nat) (h : mH) => in_y (d := d) (h := h) (x := 0) (y := 2) (n := 3) (by decide) hk3 rfl (by decide) (by decide)
  rcases h7 k hk3 with ⟨a1, a2, a3⟩ | ⟨ds', a1, a2, a3⟩
  · refine okI_find 1 (by decide) hR hS ?_ ?_
    · refine cIo ?_; rw [rX9_on, xX9_on_0, isKept_x hk3, Option.bind_some, if_neg one_ne, x_f7, Option.bind_some, x_kepR hk3, Option.bind_some, x_kepN hk3, Option.bind_some, if_pos a2, if_pos x_is, fx1, Option.bind_some]
    · refine cIo ?_; rw [rX10_on, xX10_on_0, iny, Option.bind_some, if_neg one_ne, y_f0, Option.bind_some, c985, show nI (985 * (k + 1)) + 0 = nI (985 * (k + 1)) from add0 _, y_g169 (by omega), Option.bind_some, upF_ne (by decide), a3, if_neg m1_ge0, if_pos y_is, fy1, Option.bind_some, upF_ne (by decide)]
  obtain ⟨b1, b2, b3, b4⟩ := a2
  have a2 : rDs np kd pt ds' (I (162 + 2 * k)) (F (163 + 2 * k)) := ⟨b1, b2, b3, b4⟩
  have hD' : rDs np kd pt ds' (upd I 20 (I (162 + 2 * k)) 20) (upF F 21 (va_cpy (F (163 + 2 * k)) (F 21) 0 0 40) 21) := by rw [upd_eq, upF_eq]; exact rDs_cpy a2
  obtain ⟨I1, F1, g1, g2, g3, g4⟩ := anew_x (d := 50) (I := upd I 20 (I (162 + 2 * k))) (J := J) (F := upF F 21 (va_cpy (F (163 + 2 * k)) (F 21) 0 0 40)) (G := G) (X := X) hD' hn7 (by rw [upd_ne (by decide)]; exact h4) (by rw [upF_ne (by decide)]; exact hk) (by rw [upF_ne (by decide)]; exact hp')
  have f169 : F1 169 = F 169 := by rw [g4 169 (by omega), upF_ne (by decide)]
  have hcp := copyLine_y (d := 58) (I := I1) (J := J) (F := F1) (G := G) (X := X) (a := 985 * (k + 1)) (b := 0) (n := 985) (by omega) (by omega) (by omega)
  rw [nI_0, f169] at hcp
  have hr := a3.1
  refine okI_mk (J2 := J) (G2 := G) (v := nI ds'.length) (I1 := I1) (J1 := J) (F1 := F1) (X1 := X) (I2 := I1) (F2 := upF F1 169 (fun x => if 0 ≤ x ∧ x < 0 + 985 then F 169 (x - 0 + 985 * (k + 1)) else F 169 x)) ?_ ?_ (rel_line (ds' := ds') hR (fun j hj => by rw [g3 j hj.1, upd_ne hj.2]) (fun j hj => by rw [upF_ne (by omega), g4 j (by omega), upF_ne (by omega)]) ⟨?_, QN_c g2 (fun _ _ _ => rfl) (fun j k1 k2 => upF_ne (by omega)), ?_⟩ (fun j k1 k2 => ?_)) hS
  · refine cIo ?_; rw [rX9_on, xX9_on_0, isKept_x hk3, Option.bind_some, if_neg one_ne, x_f7, Option.bind_some, x_kepR hk3, Option.bind_some, x_kepN hk3, Option.bind_some, if_neg (by rw [b3]; exact nI_nm1 (by omega)), x_f6, Option.bind_some, Option.bind_some, x_kepR hk3, Option.bind_some, if_pos x_di, onAs_x hk3, Option.bind_some, if_pos x_is, g1, Option.bind_some, x_f6, Option.bind_some, x_dn, Option.bind_some, g3 20 (by omega), upd_eq, b3]
  · refine cIo ?_; rw [rX10_on, xX10_on_0, iny, Option.bind_some, if_neg one_ne, y_f0, Option.bind_some, c985, show nI (985 * (k + 1)) + 0 = nI (985 * (k + 1)) from add0 _, y_g169 (by omega), Option.bind_some, f169, hr, if_pos (nI_ge0 (by omega)), if_pos y_is]
    dsimp only
    rw [n985, hcp, Option.bind_some, y_f0, Option.bind_some, y_row0, Option.bind_some, upF_eq, if_pos (by omega), show 0 - 0 + 985 * (k + 1) = 985 * (k + 1) by omega, hr]
  · rw [upF_ne (by decide), g3 20 (by omega), g4 21 (by omega)]; exact hD'
  · rw [upF_eq]
    refine SegRel_cp hn7 b1 b2 a3 (fun x hx => ?_)
    rw [if_pos (by omega), show 0 + x - 0 + 985 * (k + 1) = 985 * (k + 1) + x by omega]
  · rw [upF_eq, if_neg (by omega)])
