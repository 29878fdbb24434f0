/-! line -/
theorem g_line : gdI 88 172 1 := gdI_of (fun as hn I J F G X np kd pt pr ds ks hR hS => by
  obtain ⟨a, rfl⟩ := as1 hn
  show okI _ _ [.int a] I J F G X
  rcases ix a (n := 4) (by decide) with ha | ⟨t, ht, rfl⟩
  · refine okI_same (v := -1) hR hS ?_ ?_
    · refine cIo ?_; rw [rX9_line, xX9_line_0, if_pos x_is, refTx_n ha, Option.bind_some, if_neg m1_ne]
    · refine cIo ?_; rw [rX10_line, xX10_line_0, isText_yn ha, Option.bind_some, if_pos rfl]
  obtain ⟨z1, z2, z3⟩ := hR.2.2.2.1 t ht
  rcases z2 with e | ⟨n, hn60, e⟩ <;> have z4 := z1.symm.trans e
  · refine okI_find 1 (by decide) hR hS ?_ ?_
    · refine cIo ?_; rw [rX9_line, xX9_line_0, if_pos x_is, refTx_m ht e, Option.bind_some, if_neg m3_ne]
    · refine cIo ?_; rw [rX10_line, xX10_line_0, isText_y ht, Option.bind_some, if_neg one_ne, y_f7, Option.bind_some, y_g175 ht, Option.bind_some, upF_ne (by decide), z4, if_neg m1_ge0, if_pos y_is, fy1, Option.bind_some, upF_ne (by decide)]
  obtain ⟨I1, F1, g1, g2, g3, g4⟩ := readD_x (d := 56) (J := J) (G := G) (X := X) ht hn60 e (fun _ _ => rfl)
  by_cases hres : (prs (F (155 + 2 * t)) n 61 0 []).1 = -9
  · have hd := g2 hres
    have hok := prs_ok (F (155 + 2 * t)) n 61 0 [] ⟨by decide, fun p hp => by simp at hp⟩
    generalize hpsE : (prs (F (155 + 2 * t)) n 61 0 []).2 = ps at hd hok
    obtain ⟨m, hm⟩ : ∃ m, m = ps.length := ⟨_, rfl⟩
    have hm7 : m ≤ 7 := by rw [hm]; exact hok.1
    -- the component
    generalize hI3 : upd (upd I1 4 (I1 8)) 20 0 = I3
    generalize hF2 : upF (upF (upF F1 5 (va_cpy (F1 9) (F1 5) 0 0 7)) 6 (va_cpy (F1 10) (F1 6) 0 0 7)) 7 (va_cpy (F1 11) (F1 7) 0 0 7) = F2
    have i34 : I3 4 = nI m := by rw [← hI3, upd_ne (by decide), upd_eq, hm]; exact hd.1
    have i320 : I3 20 = 0 := by rw [← hI3, upd_eq]
    have i3f : ∀ k, k ≠ 8 → k ≠ 4 → k ≠ 20 → I3 k = I k := fun k k1 k2 k3 => by rw [← hI3, upd_ne k3, upd_ne k2, g3 k k1]
    have f2f : ∀ k, (k < 9 ∨ 11 < k) → (k < 5 ∨ 7 < k) → F2 k = F k := fun k k1 k2 => by rw [← hF2, upF_ne (by omega), upF_ne (by omega), upF_ne (by omega), g4 k k1]
    obtain ⟨I4, F4, b1, b2, b3, b4⟩ := begin_q (d := 57) (I := I3) (J := J) (F := F2) (G := G) (X := X) hm7
    obtain ⟨I5, c1, c2, c3⟩ := linek_x (d := 59) (v1 := nI t) (v2 := 0) (J := J) (F := F4) (G := G) (X := X) 3 0 I4 rfl (by omega) (fun j hj => absurd hj (by omega))
    rw [nI_0, b3 4 (by omega), i34] at c1
    -- the reference
    obtain ⟨I6, F6, u1, u2, u3, u4⟩ := faultOf_y (d := 54) (I := I5) (J := J) (F := F4) (G := G) (X := X) (f := F (155 + 2 * t)) ht hn60 (by rw [b4 175 (by omega), f2f 175 (by omega) (by omega)]; exact z4) (by rw [b4 176 (by omega), f2f 176 (by omega) (by omega)]; exact z3)
    have hr := u2 hres
    rw [hpsE] at hr
    have i6 : I6 174 = nI m := by rw [hm]; exact hr.1
    obtain ⟨F7, v1, v2, v3, v4⟩ := lz_y (d := 59) (m0 := m) (v1 := nI t) (I := upd I6 168 (nI m)) (J := J) (G := G) (X := X) (upd_eq _ _ _) 985 0 F6 rfl (by omega) (fun j hj => absurd hj (by omega))
    rw [nI_0] at v1
    obtain ⟨F8, w3, w1, w2, w4, w5⟩ := lp_y (d := 59) (m0 := m) (v1 := nI t) (F0 := F7) (I := upd I6 168 (nI m)) (J := J) (G := G) (X := X) hm7 (upd_eq _ _ _) 7 0 F7 .null rfl (by omega) (fun j hj => absurd hj (by omega)) (fun _ _ => rfl) (fun _ _ _ => rfl)
    rw [nI_0] at w1
    obtain ⟨F9, x1, x2, x3, x4⟩ := lk_y (d := 59) (v1 := nI t) (v3 := w3) (I := upd I6 168 (nI m)) (J := J) (G := G) (X := X) 3 1 F8 rfl (by omega) (by omega) (fun j j1 j2 => by omega)
    rw [upd_eq] at x1
    have x1' : ex cdX10_line (rn 59) 205 [.ref 168, .int (nI t), .int 1, w3] [] (hp (upd I6 168 (nI m)) J F8 G X) = some (some (.int (nI m)), hp (upd I6 168 (nI m)) J F9 G X) := x1
    -- what is the same, in sum
    have iA : ∀ k, k ≠ 4 → k ≠ 8 → k ≠ 20 → (k < 12 ∨ 14 < k) → (k < 162 ∨ 166 < k) → (k < 171 ∨ 174 < k) → k ≠ 168 → upd I6 168 (nI m) k = I k := fun k k1 k2 k3 k4 k5 k6 k7 => by rw [upd_ne k7, u3 k k6, c3 k k5, b3 k k4, i3f k k2 k1 k3]
    have fA : ∀ k, k ≠ 169 → (k < 170 ∨ 172 < k) → k ≠ 178 → (k < 13 ∨ 15 < k) → F9 k = F2 k := fun k k1 k2 k3 k4 => by rw [x4 k k1, w4 k ⟨k1, k2⟩, v4 k k1, u4 k k3, b4 k k4]
    have fB : ∀ k, k ≠ 169 → (k < 170 ∨ 172 < k) → k ≠ 178 → (k < 13 ∨ 15 < k) → (k < 9 ∨ 11 < k) → (k < 5 ∨ 7 < k) → F9 k = F k := fun k k1 k2 k3 k4 k5 k6 => by rw [fA k k1 k2 k3 k4, f2f k k5 k6]
    obtain ⟨h1, h2, h3, h4, h5, h6, h7⟩ := hR
    have f178 : F7 178 = F6 178 := v4 178 (by decide)
    have hget : ∀ i, i < m → ∃ p, ps[i]? = some p ∧ p.1 < 6 ∧ 1 ≤ p.2.1 ∧ p.2.1 < 10 ∧ p.2.2 < 10 := fun i hi => by
      have hi' : i < ps.length := by omega
      refine ⟨ps[i], List.getElem?_eq_getElem hi', ?_⟩
      exact hok.2 _ (List.getElem_mem hi')
    have hrow : ∀ j, j < 985 → F9 169 j = F8 169 j := fun j hj => x3 j hj
    refine okI_mk (J2 := J) (G2 := G) (v := nI m) (I1 := I5) (J1 := J) (F1 := F4) (X1 := X) (I2 := upd I6 168 (nI m)) (F2 := F9) (np := m) (kd := fun i => (ps.getD i (0, 0, 0)).1) (pt := fun i => (ps.getD i (0, 0, 0)).2.1) (pr := fun i => (ps.getD i (0, 0, 0)).2.2) (ds := []) (ks := fun _ => none) ?_ ?_ ⟨?_, ?_, ?_, ?_, ?_, ?_, ?_⟩ hS
    · refine cIo ?_
      rw [rX9_line, xX9_line_0, if_pos x_is, refTx_o ht hn60 e, Option.bind_some, if_pos rfl, x_f3, Option.bind_some, x_f1, Option.bind_some, x_txtR ht, Option.bind_some, if_pos x_ri, g1, Option.bind_some, if_pos hres, x_f2, Option.bind_some, x_f3, Option.bind_some, if_pos x_ci, crowd_x, Option.bind_some, hF2, x_f6, Option.bind_some, x_pdn, Option.bind_some, hI3, x_f4, Option.bind_some, x_f2, Option.bind_some, x_cn, Option.bind_some, i34, if_pos x_qi, b1, Option.bind_some]
      exact c1
    · refine cIo ?_
      rw [rX10_line, xX10_line_0, isText_y ht, Option.bind_some, if_neg one_ne, y_f7, Option.bind_some, y_g175 ht, Option.bind_some, b4 175 (by omega), f2f 175 (by omega) (by omega), z4, if_pos (nI_ge0 (by omega)), if_pos y_is, u1, Option.bind_some, if_pos hres, y_rm, Option.bind_some, i6, y_pps, Option.bind_some, v1, w1, x1']
    · exact rMain_c h1 (fun k hk => iA k (by omega) (by omega) (by omega) (by omega) (by omega) (by omega) (by omega)) (fun _ _ => rfl)
    · exact rFnd_c h2 (fun k hk => fB k (by omega) (by omega) (by omega) (by omega) (by omega) (by omega))
    · exact rRows_c h3 (fun k k1 k2 => iA k (by omega) (by omega) (by omega) (by omega) (by omega) (by omega) (by omega)) (fun k hk => fB k (by omega) (by omega) (by omega) (by omega) (by omega) (by omega))
    · exact rTxts_c h4 (fun k k1 k2 => iA k (by omega) (by omega) (by omega) (by omega) (by omega) (by omega) (by omega)) (fun k hk => fB k (by omega) (by omega) (by omega) (by omega) (by omega) (by omega))
    · refine ⟨?_, upd_eq _ _ _, hm7, fun i hi => ?_⟩
      · rw [upd_ne (by decide), u3 4 (by omega), c3 4 (by omega), b3 4 (by omega)]; exact i34
      · obtain ⟨p, hp, q1, q2, q3, q4⟩ := hget i hi
        have hgd : ps.getD i (0, 0, 0) = p := by rw [List.getD_eq_getElem?_getD, hp]; rfl
        obtain ⟨r1, r2, r3⟩ := hd.2 i p hp
        obtain ⟨s1, s2, s3⟩ := hr.2 i p hp
        obtain ⟨t1, t2, t3, t4⟩ := (w2 i (by omega)).1 hi
        dsimp only
        rw [hgd, fA 5 (by decide) (by decide) (by decide) (by decide), fA 6 (by decide) (by decide) (by decide) (by decide), fA 7 (by decide) (by decide) (by decide) (by decide), x4 170 (by decide), x4 171 (by decide), x4 172 (by decide), t1, t2, t3, f178, s1, s2, s3, ← hF2]
        simp (disch := decide) only [upF_ne, upF_eq]
        rw [cpy7 (by omega), cpy7 (by omega), cpy7 (by omega), r1, r2, r3]
        exact ⟨rfl, trivial, q1, rfl, trivial, q2, q3, rfl, trivial, q4⟩
    · refine ⟨⟨by decide, fun k x hk => by simp at hk, ?_, fun k x hk => by simp at hk⟩, QN_c b2 (fun k k1 k2 => ?_) (fun k k1 k2 => ?_), ?_, ?_, fun k hk => absurd hk (by simp)⟩
      · rw [upd_ne (by decide), u3 20 (by omega), c3 20 (by omega), b3 20 (by omega), i320]; exact nI_0.symm
      · rw [upd_ne (by omega), u3 k (by omega), c3 k (by omega)]
      · rw [x4 k (by omega), w4 k (by omega), v4 k (by omega), u4 k (by omega)]
      · rw [hrow 0 (by omega), w5 0 (by omega) (by omega), v2 0 (by omega), if_neg (by decide)]; exact nI_0.symm
      · refine ⟨?_, ?_, fun k x hk => ?_, fun j hj => ?_, fun j hj => ?_, ?_⟩
        · rw [hrow _ (by omega), w5 _ (by omega) (by omega), v2 _ (by omega), if_neg (by omega)]; exact nI_0.symm
        · rw [hrow _ (by omega), w5 _ (by omega) (by omega), v2 _ (by omega), if_pos (by omega)]
          show nI m = nI (List.range m).length
          rw [List.length_range]
        · have hk' : (List.range m)[k]? = some x := hk
          have hkm : k < m := by
            have := (List.getElem?_eq_some_iff.mp hk').1
            rwa [List.length_range] at this
          rw [List.getElem?_range hkm] at hk'
          have hkx : k = x := Option.some.inj hk'
          subst hkx
          rw [hrow _ (by omega), show 0 + 3 + k = 3 + k by omega]
          exact ((w2 k (by omega)).1 hkm).2.2.2
        · rw [hrow _ (by omega), w5 _ (by omega) (by omega), v2 _ (by omega), if_neg (by omega)]; exact nI_0.symm
        · rw [hrow _ (by omega), show 0 + 17 + j = 17 + j by omega]
          exact (w2 j (by omega)).2
        · rw [hrow _ (by omega), w5 _ (by omega) (by omega), v2 _ (by omega), if_neg (by omega)]; rfl
    · intro k hk
      refine Or.inl ⟨rfl, ?_, x2 (k + 1) (by omega) (by omega)⟩
      rw [upd_ne (by omega), u3 _ (by omega)]
      exact c2 k hk
  · obtain ⟨I2, F2, u1, u2, u3, u4⟩ := faultOf_y (d := 54) (I := I1) (J := J) (F := F1) (G := G) (X := X) (f := F (155 + 2 * t)) ht hn60 (by rw [g4 175 (by omega)]; exact z4) (by rw [g4 176 (by omega)]; exact z3)
    refine okI_mk (J2 := J) (G2 := G) (v := -4) (I1 := I1) (J1 := J) (F1 := F1) (X1 := X) (I2 := I2) (F2 := F2) ?_ ?_ (rel_scr hR (fun k hk => by rw [u3 k (by omega), g3 k (by omega)]) (fun k hk => by rw [u4 k (by omega), g4 k (by omega)]) (fun k hk => by rw [u4 169 (by decide), g4 169 (by omega)])) hS
    · refine cIo ?_; rw [rX9_line, xX9_line_0, if_pos x_is, refTx_o ht hn60 e, Option.bind_some, if_pos rfl, x_f3, Option.bind_some, x_f1, Option.bind_some, x_txtR ht, Option.bind_some, if_pos x_ri, g1, Option.bind_some, if_neg hres]
    · refine cIo ?_; rw [rX10_line, xX10_line_0, isText_y ht, Option.bind_some, if_neg one_ne, y_f7, Option.bind_some, y_g175 ht, Option.bind_some, g4 175 (by omega), z4, if_pos (nI_ge0 (by omega)), if_pos y_is, u1, Option.bind_some, if_neg hres])
