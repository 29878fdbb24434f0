/-! arrays -/
section SAA
variable {tb : mT} {cc : ByteArray} {nL : Nat} {own : String} {ret : Option FieldType} {ini : Bool} {pc : Nat}
theorem s_iald (hd : decode cc pc = .ok (.iaload, 1)) : SA tb cc nL own ret ini pc (i_aI 0 (pc + 1)) :=
  SA_rd fun call k ls st h r e => by
    unfold i_aI at e
    split at e
    · next i a st' =>
      obtain ⟨x, hx, e1⟩ := Option.bind_eq_some_iff.mp e
      refine ⟨pc + 1, _, e1, fun k' e' => by simp only [i_aI, hx, Option.bind_some]; exact e', ?_⟩
      intro p l e R s m args below meth c D dA base lt n0 s0 Q lsr Hp locs cells slots hC hI hk
      obtain ⟨n, f, g1, g2, g3⟩ := aI_inv hx
      obtain ⟨hex, hb, -, ho, ht, hK, -⟩ := hC
      have hq := hpos hI.2.2.1 g1 (by intro z; cases z)
      show W p l e R s m args below meth c Hp locs cells slots Q (F0 m pc lsr (.int i :: .ref (cr base lt a) :: st'.map (cv base lt)))
      rw [cr_pos hq]
      subst g3
      exact va_iald hex hb hK hI.2.2.2.1 (a - 1) 0 (wsO_get hq g1) rfl (vin_in g2) hd hk
    · cases e
theorem s_bald (hd : decode cc pc = .ok (.baload, 1)) : SA tb cc nL own ret ini pc (i_aI 2 (pc + 1)) :=
  SA_rd fun call k ls st h r e => by
    unfold i_aI at e
    split at e
    · next i a st' =>
      obtain ⟨x, hx, e1⟩ := Option.bind_eq_some_iff.mp e
      refine ⟨pc + 1, _, e1, fun k' e' => by simp only [i_aI, hx, Option.bind_some]; exact e', ?_⟩
      intro p l e R s m args below meth c D dA base lt n0 s0 Q lsr Hp locs cells slots hC hI hk
      obtain ⟨n, f, g1, g2, g3⟩ := aI_inv hx
      obtain ⟨hex, hb, -, ho, ht, hK, -⟩ := hC
      have hq := hpos hI.2.2.1 g1 (by intro z; cases z)
      show W p l e R s m args below meth c Hp locs cells slots Q (F0 m pc lsr (.int i :: .ref (cr base lt a) :: st'.map (cv base lt)))
      rw [cr_pos hq]
      subst g3
      exact va_bald hex hb hK hI.2.2.2.1 (a - 1) 2 (wsO_get hq g1) rfl (vin_in g2) hd hk
    · cases e
theorem s_zald (hd : decode cc pc = .ok (.baload, 1)) : SA tb cc nL own ret ini pc (i_aI 3 (pc + 1)) :=
  SA_rd fun call k ls st h r e => by
    unfold i_aI at e
    split at e
    · next i a st' =>
      obtain ⟨x, hx, e1⟩ := Option.bind_eq_some_iff.mp e
      refine ⟨pc + 1, _, e1, fun k' e' => by simp only [i_aI, hx, Option.bind_some]; exact e', ?_⟩
      intro p l e R s m args below meth c D dA base lt n0 s0 Q lsr Hp locs cells slots hC hI hk
      obtain ⟨n, f, g1, g2, g3⟩ := aI_inv hx
      obtain ⟨hex, hb, -, ho, ht, hK, -⟩ := hC
      have hq := hpos hI.2.2.1 g1 (by intro z; cases z)
      show W p l e R s m args below meth c Hp locs cells slots Q (F0 m pc lsr (.int i :: .ref (cr base lt a) :: st'.map (cv base lt)))
      rw [cr_pos hq]
      subst g3
      exact va_zald hex hb hK hI.2.2.2.1 (a - 1) 3 (wsO_get hq g1) rfl (vin_in g2) hd hk
    · cases e
theorem s_lald (hd : decode cc pc = .ok (.laload, 1)) : SA tb cc nL own ret ini pc (i_aL (pc + 1)) :=
  SA_rd fun call k ls st h r e => by
    unfold i_aL at e
    split at e
    · next i a st' =>
      obtain ⟨x, hx, e1⟩ := Option.bind_eq_some_iff.mp e
      refine ⟨pc + 1, _, e1, fun k' e' => by simp only [i_aL, hx, Option.bind_some]; exact e', ?_⟩
      intro p l e R s m args below meth c D dA base lt n0 s0 Q lsr Hp locs cells slots hC hI hk
      obtain ⟨n, f, g1, g2, g3⟩ := aL_inv hx
      obtain ⟨hex, hb, -, ho, ht, hK, -⟩ := hC
      have hq := hpos hI.2.2.1 g1 (by intro z; cases z)
      show W p l e R s m args below meth c Hp locs cells slots Q (F0 m pc lsr (.int i :: .ref (cr base lt a) :: st'.map (cv base lt)))
      rw [cr_pos hq]
      subst g3
      exact va_lald hex hb hK hI.2.2.2.1 (a - 1) 1 (wsO_get hq g1) rfl (vin_in g2) hd hk
    · cases e
theorem s_aald4 (hd : decode cc pc = .ok (.aaload, 1)) : SA tb cc nL own ret ini pc (i_aR 4 (pc + 1)) :=
  SA_rd fun call k ls st h r e => by
    unfold i_aR at e
    split at e
    · next i a st' =>
      obtain ⟨x, hx, e1⟩ := Option.bind_eq_some_iff.mp e
      refine ⟨pc + 1, _, e1, fun k' e' => by simp only [i_aR, hx, Option.bind_some]; exact e', ?_⟩
      intro p l e R s m args below meth c D dA base lt n0 s0 Q lsr Hp locs cells slots hC hI hk
      obtain ⟨n, f, g1, g2, g3⟩ := aR_inv hx
      obtain ⟨hex, hb, -, ho, ht, hK, -⟩ := hC
      have hq := hpos hI.2.2.1 g1 (by intro z; cases z)
      show W p l e R s m args below meth c Hp locs cells slots Q (F0 m pc lsr (.int i :: .ref (cr base lt a) :: st'.map (cv base lt)))
      rw [cr_pos hq]
      refine va_aldq hex hb hK hI.2.2.2.1 (a - 1) 4 (wsO_get hq g1) rfl (vin_in g2) hd ?_
      show W p l e R s m args below meth c Hp locs cells slots Q (F0 m (pc + 1) lsr (va_rf ((f i.toNatClampNeg).map (cr base lt)) :: st'.map (cv base lt)))
      rw [g3]
      exact hk
    · cases e
theorem s_aald5 (hd : decode cc pc = .ok (.aaload, 1)) : SA tb cc nL own ret ini pc (i_aR 5 (pc + 1)) :=
  SA_rd fun call k ls st h r e => by
    unfold i_aR at e
    split at e
    · next i a st' =>
      obtain ⟨x, hx, e1⟩ := Option.bind_eq_some_iff.mp e
      refine ⟨pc + 1, _, e1, fun k' e' => by simp only [i_aR, hx, Option.bind_some]; exact e', ?_⟩
      intro p l e R s m args below meth c D dA base lt n0 s0 Q lsr Hp locs cells slots hC hI hk
      obtain ⟨n, f, g1, g2, g3⟩ := aR_inv hx
      obtain ⟨hex, hb, -, ho, ht, hK, -⟩ := hC
      have hq := hpos hI.2.2.1 g1 (by intro z; cases z)
      show W p l e R s m args below meth c Hp locs cells slots Q (F0 m pc lsr (.int i :: .ref (cr base lt a) :: st'.map (cv base lt)))
      rw [cr_pos hq]
      refine va_aldq hex hb hK hI.2.2.2.1 (a - 1) 5 (wsO_get hq g1) rfl (vin_in g2) hd ?_
      show W p l e R s m args below meth c Hp locs cells slots Q (F0 m (pc + 1) lsr (va_rf ((f i.toNatClampNeg).map (cr base lt)) :: st'.map (cv base lt)))
      rw [g3]
      exact hk
    · cases e
theorem s_aald6 (hd : decode cc pc = .ok (.aaload, 1)) : SA tb cc nL own ret ini pc (i_aR 6 (pc + 1)) :=
  SA_rd fun call k ls st h r e => by
    unfold i_aR at e
    split at e
    · next i a st' =>
      obtain ⟨x, hx, e1⟩ := Option.bind_eq_some_iff.mp e
      refine ⟨pc + 1, _, e1, fun k' e' => by simp only [i_aR, hx, Option.bind_some]; exact e', ?_⟩
      intro p l e R s m args below meth c D dA base lt n0 s0 Q lsr Hp locs cells slots hC hI hk
      obtain ⟨n, f, g1, g2, g3⟩ := aR_inv hx
      obtain ⟨hex, hb, -, ho, ht, hK, -⟩ := hC
      have hq := hpos hI.2.2.1 g1 (by intro z; cases z)
      show W p l e R s m args below meth c Hp locs cells slots Q (F0 m pc lsr (.int i :: .ref (cr base lt a) :: st'.map (cv base lt)))
      rw [cr_pos hq]
      refine va_aldq hex hb hK hI.2.2.2.1 (a - 1) 6 (wsO_get hq g1) rfl (vin_in g2) hd ?_
      show W p l e R s m args below meth c Hp locs cells slots Q (F0 m (pc + 1) lsr (va_rf ((f i.toNatClampNeg).map (cr base lt)) :: st'.map (cv base lt)))
      rw [g3]
      exact hk
    · cases e
theorem s_aald7 (hd : decode cc pc = .ok (.aaload, 1)) : SA tb cc nL own ret ini pc (i_aR 7 (pc + 1)) :=
  SA_rd fun call k ls st h r e => by
    unfold i_aR at e
    split at e
    · next i a st' =>
      obtain ⟨x, hx, e1⟩ := Option.bind_eq_some_iff.mp e
      refine ⟨pc + 1, _, e1, fun k' e' => by simp only [i_aR, hx, Option.bind_some]; exact e', ?_⟩
      intro p l e R s m args below meth c D dA base lt n0 s0 Q lsr Hp locs cells slots hC hI hk
      obtain ⟨n, f, g1, g2, g3⟩ := aR_inv hx
      obtain ⟨hex, hb, -, ho, ht, hK, -⟩ := hC
      have hq := hpos hI.2.2.1 g1 (by intro z; cases z)
      show W p l e R s m args below meth c Hp locs cells slots Q (F0 m pc lsr (.int i :: .ref (cr base lt a) :: st'.map (cv base lt)))
      rw [cr_pos hq]
      refine va_aldq hex hb hK hI.2.2.2.1 (a - 1) 7 (wsO_get hq g1) rfl (vin_in g2) hd ?_
      show W p l e R s m args below meth c Hp locs cells slots Q (F0 m (pc + 1) lsr (va_rf ((f i.toNatClampNeg).map (cr base lt)) :: st'.map (cv base lt)))
      rw [g3]
      exact hk
    · cases e
theorem s_aald8 (hd : decode cc pc = .ok (.aaload, 1)) : SA tb cc nL own ret ini pc (i_aR 8 (pc + 1)) :=
  SA_rd fun call k ls st h r e => by
    unfold i_aR at e
    split at e
    · next i a st' =>
      obtain ⟨x, hx, e1⟩ := Option.bind_eq_some_iff.mp e
      refine ⟨pc + 1, _, e1, fun k' e' => by simp only [i_aR, hx, Option.bind_some]; exact e', ?_⟩
      intro p l e R s m args below meth c D dA base lt n0 s0 Q lsr Hp locs cells slots hC hI hk
      obtain ⟨n, f, g1, g2, g3⟩ := aR_inv hx
      obtain ⟨hex, hb, -, ho, ht, hK, -⟩ := hC
      have hq := hpos hI.2.2.1 g1 (by intro z; cases z)
      show W p l e R s m args below meth c Hp locs cells slots Q (F0 m pc lsr (.int i :: .ref (cr base lt a) :: st'.map (cv base lt)))
      rw [cr_pos hq]
      have hin := vin_in g2
      have hlt : i.toNatClampNeg < n := Nat.not_le.mp fun q => hin (Or.inr q)
      have hP := hI.2.2.2.1 (a - 1) _ (wsO_get hq g1)
      refine W.aald (v := va_rf ((f i.toNatClampNeg).map (cr base lt))) (ty := .array .int) hex hb hP ((hK.2 8 _ rfl).1 n (fun j => va_rf ((f j).map (cr base lt)))) rfl (fun q => by cases q) (by show ¬ (i < 0 ∨ (arrV _ _ _).slots.size ≤ _); rw [arrV_size]; exact hin) (by show (arrV _ _ _).slots[_]? = _; rw [arrV_read _ _ hlt]) rfl rfl hd ?_
      show W p l e R s m args below meth c Hp locs cells slots Q (F0 m (pc + 1) lsr (va_rf ((f i.toNatClampNeg).map (cr base lt)) :: st'.map (cv base lt)))
      rw [g3]
      exact hk
    · cases e
theorem s_alen (hd : decode cc pc = .ok (.arraylength, 1)) : SA tb cc nL own ret ini pc (i_aN (pc + 1)) :=
  SA_rd fun call k ls st h r e => by
    unfold i_aN at e
    split at e
    · next a st' =>
      obtain ⟨x, hx, e1⟩ := Option.bind_eq_some_iff.mp e
      refine ⟨pc + 1, _, e1, fun k' e' => by simp only [i_aN, hx, Option.bind_some]; exact e', ?_⟩
      intro p l e R s m args below meth c D dA base lt n0 s0 Q lsr Hp locs cells slots hC hI hk
      obtain ⟨t, n, f, g1, g2, g3⟩ := aN_inv hx
      obtain ⟨hex, hb, -, ho, ht, hK, -⟩ := hC
      have hq := hpos hI.2.2.1 g1 (by intro z; cases z)
      show W p l e R s m args below meth c Hp locs cells slots Q (F0 m pc lsr (.ref (cr base lt a) :: st'.map (cv base lt)))
      rw [cr_pos hq]
      have h4 : ∀ t : Nat, t < 4 → ∃ ty, (tysO dA)[t]? = some (dA t, ty) := fun t ht => by
        rcases (show t = 0 ∨ t = 1 ∨ t = 2 ∨ t = 3 by omega) with rfl | rfl | rfl | rfl <;> exact ⟨_, rfl⟩
      obtain ⟨ty, hty⟩ := h4 t g2
      exact va_alen (x := (n, .inl f)) hex hb hK hI.2.2.2.1 (a - 1) t (wsO_get hq g1) hty g3.symm hd hk
    · cases e
theorem s_iast (hd : decode cc pc = .ok (.iastore, 1)) : SA tb cc nL own ret ini pc (i_sI (pc + 1)) :=
  SA_wr fun call k ls st h r e => by
    unfold i_sI at e
    split at e
    · next x i a st' =>
      obtain ⟨h', hx, e1⟩ := Option.bind_eq_some_iff.mp e
      obtain ⟨n, f, g1, g2, rfl⟩ := sI_inv hx
      refine ⟨pc + 1, _, a, _, _, g1, (by intro z; cases z), (by rfl), e1, fun k' e' => by simp only [i_sI, hx, Option.bind_some]; exact e', ?_⟩
      intro p l e R s m args below meth c D dA base lt n0 s0 Q lsr Hp locs cells slots hC hI hq hk
      obtain ⟨hex, hb, -, ho, ht, hK, -⟩ := hC
      obtain ⟨i1, i2, i3, i4, i5, i6, i7⟩ := hI
      show W p l e R s m args below meth c Hp locs cells slots Q (F0 m pc lsr (cv base lt (.int x) :: .int i :: .ref (cr base lt a) :: st'.map (cv base lt)))
      rw [cr_pos hq]
      exact va_iast hex hb hK i4 wsO_D i5 (a - 1) 0 (wsO_get hq g1) rfl (vin_in g2) hd (fun H1 locs1 hP1 _ hS1 => hk H1 locs1 hP1 hS1)
    · cases e
theorem s_bast (hd : decode cc pc = .ok (.bastore, 1)) : SA tb cc nL own ret ini pc (i_sB (pc + 1)) :=
  SA_wr fun call k ls st h r e => by
    unfold i_sB at e
    split at e
    · next x i a st' =>
      obtain ⟨h', hx, e1⟩ := Option.bind_eq_some_iff.mp e
      obtain ⟨n, f, g1, g2, rfl⟩ := sB_inv hx
      refine ⟨pc + 1, _, a, _, _, g1, (by intro z; cases z), (by rfl), e1, fun k' e' => by simp only [i_sB, hx, Option.bind_some]; exact e', ?_⟩
      intro p l e R s m args below meth c D dA base lt n0 s0 Q lsr Hp locs cells slots hC hI hq hk
      obtain ⟨hex, hb, -, ho, ht, hK, -⟩ := hC
      obtain ⟨i1, i2, i3, i4, i5, i6, i7⟩ := hI
      show W p l e R s m args below meth c Hp locs cells slots Q (F0 m pc lsr (cv base lt (.int x) :: .int i :: .ref (cr base lt a) :: st'.map (cv base lt)))
      rw [cr_pos hq]
      exact va_bast hex hb hK i4 wsO_D i5 (a - 1) 2 (wsO_get hq g1) rfl (vin_in g2) hd (fun H1 locs1 hP1 _ hS1 => hk H1 locs1 hP1 hS1)
    · cases e
theorem s_zast (hd : decode cc pc = .ok (.bastore, 1)) : SA tb cc nL own ret ini pc (i_sZ (pc + 1)) :=
  SA_wr fun call k ls st h r e => by
    unfold i_sZ at e
    split at e
    · next x i a st' =>
      obtain ⟨h', hx, e1⟩ := Option.bind_eq_some_iff.mp e
      obtain ⟨n, f, g1, g2, rfl⟩ := sZ_inv hx
      refine ⟨pc + 1, _, a, _, _, g1, (by intro z; cases z), (by rfl), e1, fun k' e' => by simp only [i_sZ, hx, Option.bind_some]; exact e', ?_⟩
      intro p l e R s m args below meth c D dA base lt n0 s0 Q lsr Hp locs cells slots hC hI hq hk
      obtain ⟨hex, hb, -, ho, ht, hK, -⟩ := hC
      obtain ⟨i1, i2, i3, i4, i5, i6, i7⟩ := hI
      show W p l e R s m args below meth c Hp locs cells slots Q (F0 m pc lsr (cv base lt (.int x) :: .int i :: .ref (cr base lt a) :: st'.map (cv base lt)))
      rw [cr_pos hq]
      exact va_zast hex hb hK i4 wsO_D i5 (a - 1) 3 (wsO_get hq g1) rfl (vin_in g2) hd (fun H1 locs1 hP1 _ hS1 => hk H1 locs1 hP1 hS1)
    · cases e
theorem s_last (hd : decode cc pc = .ok (.lastore, 1)) : SA tb cc nL own ret ini pc (i_sL (pc + 1)) :=
  SA_wr fun call k ls st h r e => by
    unfold i_sL at e
    split at e
    · next x i a st' =>
      obtain ⟨h', hx, e1⟩ := Option.bind_eq_some_iff.mp e
      obtain ⟨n, f, g1, g2, rfl⟩ := sL_inv hx
      refine ⟨pc + 1, _, a, _, _, g1, (by intro z; cases z), (by rfl), e1, fun k' e' => by simp only [i_sL, hx, Option.bind_some]; exact e', ?_⟩
      intro p l e R s m args below meth c D dA base lt n0 s0 Q lsr Hp locs cells slots hC hI hq hk
      obtain ⟨hex, hb, -, ho, ht, hK, -⟩ := hC
      obtain ⟨i1, i2, i3, i4, i5, i6, i7⟩ := hI
      show W p l e R s m args below meth c Hp locs cells slots Q (F0 m pc lsr (cv base lt (.long x) :: .int i :: .ref (cr base lt a) :: st'.map (cv base lt)))
      rw [cr_pos hq]
      exact va_last hex hb hK i4 wsO_D i5 (a - 1) 1 (wsO_get hq g1) rfl (vin_in g2) hd (fun H1 locs1 hP1 _ hS1 => hk H1 locs1 hP1 hS1)
    · cases e
theorem s_aast4 (hd : decode cc pc = .ok (.aastore, 1)) : SA tb cc nL own ret ini pc (i_sR 4 6 (pc + 1)) :=
  SA_wr fun call k ls st h r e => by
    unfold i_sR at e
    split at e
    · next v i a st' =>
      obtain ⟨h', hx, e1⟩ := Option.bind_eq_some_iff.mp e
      obtain ⟨n, f, g1, g2, g3, rfl⟩ := sR_inv hx
      refine ⟨pc + 1, _, a, _, _, g1, (by intro z; cases z), (by rfl), e1, fun k' e' => by simp only [i_sR, hx, Option.bind_some]; exact e', ?_⟩
      intro p l e R s m args below meth c D dA base lt n0 s0 Q lsr Hp locs cells slots hC hI hq hk
      obtain ⟨hex, hb, -, ho, ht, hK, -⟩ := hC
      obtain ⟨i1, i2, i3, i4, i5, i6, i7⟩ := hI
      obtain ⟨fs, g4⟩ := isO_inv g3
      have hv := hpos i3 g4 (by intro z; cases z)
      show W p l e R s m args below meth c Hp locs cells slots Q (F0 m pc lsr (.ref (cr base lt v) :: .int i :: .ref (cr base lt a) :: st'.map (cv base lt)))
      rw [cr_pos hq, cr_pos hv]
      refine va_astq hex hb hK i4 wsO_D i5 (a - 1) 4 (v - 1) 6 (wsO_get hq g1) (r := (RX6, TX6, 2)) rfl (wsO_get hv g4) rfl (vin_in g2) hd (fun H1 locs1 hP1 _ hS1 => hk H1 locs1 ?_ hS1)
      have e9 : cE base lt dA (.inl (4, n, .inr (.inr (.inr (.inr (va_up f i.toNatClampNeg (some v))))))) = .inl (dA 4, n, .inr (.inr (.inr (.inr (va_up (fun j => (f j).map (cr base lt)) i.toNatClampNeg (some (base + v))))))) := by
        show (.inl (dA 4, n, .inr (.inr (.inr (.inr (fun j => (va_up f i.toNatClampNeg (some v) j).map (cr base lt)))))) : va_E) = _
        congr 7
        funext j
        unfold va_up
        by_cases z : j = i.toNatClampNeg
        · rw [if_pos z, if_pos z, Option.map_some, cr_pos hv]
        · rw [if_neg z, if_neg z]
      rw [e9]
      exact hP1
    · cases e
theorem s_aast5 (hd : decode cc pc = .ok (.aastore, 1)) : SA tb cc nL own ret ini pc (i_sR 5 7 (pc + 1)) :=
  SA_wr fun call k ls st h r e => by
    unfold i_sR at e
    split at e
    · next v i a st' =>
      obtain ⟨h', hx, e1⟩ := Option.bind_eq_some_iff.mp e
      obtain ⟨n, f, g1, g2, g3, rfl⟩ := sR_inv hx
      refine ⟨pc + 1, _, a, _, _, g1, (by intro z; cases z), (by rfl), e1, fun k' e' => by simp only [i_sR, hx, Option.bind_some]; exact e', ?_⟩
      intro p l e R s m args below meth c D dA base lt n0 s0 Q lsr Hp locs cells slots hC hI hq hk
      obtain ⟨hex, hb, -, ho, ht, hK, -⟩ := hC
      obtain ⟨i1, i2, i3, i4, i5, i6, i7⟩ := hI
      obtain ⟨fs, g4⟩ := isO_inv g3
      have hv := hpos i3 g4 (by intro z; cases z)
      show W p l e R s m args below meth c Hp locs cells slots Q (F0 m pc lsr (.ref (cr base lt v) :: .int i :: .ref (cr base lt a) :: st'.map (cv base lt)))
      rw [cr_pos hq, cr_pos hv]
      refine va_astq hex hb hK i4 wsO_D i5 (a - 1) 5 (v - 1) 7 (wsO_get hq g1) (r := (RX7, TX7, 2)) rfl (wsO_get hv g4) rfl (vin_in g2) hd (fun H1 locs1 hP1 _ hS1 => hk H1 locs1 ?_ hS1)
      have e9 : cE base lt dA (.inl (5, n, .inr (.inr (.inr (.inr (va_up f i.toNatClampNeg (some v))))))) = .inl (dA 5, n, .inr (.inr (.inr (.inr (va_up (fun j => (f j).map (cr base lt)) i.toNatClampNeg (some (base + v))))))) := by
        show (.inl (dA 5, n, .inr (.inr (.inr (.inr (fun j => (va_up f i.toNatClampNeg (some v) j).map (cr base lt)))))) : va_E) = _
        congr 7
        funext j
        unfold va_up
        by_cases z : j = i.toNatClampNeg
        · rw [if_pos z, if_pos z, Option.map_some, cr_pos hv]
        · rw [if_neg z, if_neg z]
      rw [e9]
      exact hP1
    · cases e
theorem s_aast6 (hd : decode cc pc = .ok (.aastore, 1)) : SA tb cc nL own ret ini pc (i_sR 6 2 (pc + 1)) :=
  SA_wr fun call k ls st h r e => by
    unfold i_sR at e
    split at e
    · next v i a st' =>
      obtain ⟨h', hx, e1⟩ := Option.bind_eq_some_iff.mp e
      obtain ⟨n, f, g1, g2, g3, rfl⟩ := sR_inv hx
      refine ⟨pc + 1, _, a, _, _, g1, (by intro z; cases z), (by rfl), e1, fun k' e' => by simp only [i_sR, hx, Option.bind_some]; exact e', ?_⟩
      intro p l e R s m args below meth c D dA base lt n0 s0 Q lsr Hp locs cells slots hC hI hq hk
      obtain ⟨hex, hb, -, ho, ht, hK, -⟩ := hC
      obtain ⟨i1, i2, i3, i4, i5, i6, i7⟩ := hI
      obtain ⟨fs, g4⟩ := isO_inv g3
      have hv := hpos i3 g4 (by intro z; cases z)
      show W p l e R s m args below meth c Hp locs cells slots Q (F0 m pc lsr (.ref (cr base lt v) :: .int i :: .ref (cr base lt a) :: st'.map (cv base lt)))
      rw [cr_pos hq, cr_pos hv]
      refine va_astq hex hb hK i4 wsO_D i5 (a - 1) 6 (v - 1) 2 (wsO_get hq g1) (r := (RX2, TX2, 2)) rfl (wsO_get hv g4) rfl (vin_in g2) hd (fun H1 locs1 hP1 _ hS1 => hk H1 locs1 ?_ hS1)
      have e9 : cE base lt dA (.inl (6, n, .inr (.inr (.inr (.inr (va_up f i.toNatClampNeg (some v))))))) = .inl (dA 6, n, .inr (.inr (.inr (.inr (va_up (fun j => (f j).map (cr base lt)) i.toNatClampNeg (some (base + v))))))) := by
        show (.inl (dA 6, n, .inr (.inr (.inr (.inr (fun j => (va_up f i.toNatClampNeg (some v) j).map (cr base lt)))))) : va_E) = _
        congr 7
        funext j
        unfold va_up
        by_cases z : j = i.toNatClampNeg
        · rw [if_pos z, if_pos z, Option.map_some, cr_pos hv]
        · rw [if_neg z, if_neg z]
      rw [e9]
      exact hP1
    · cases e
theorem s_aast7 (hd : decode cc pc = .ok (.aastore, 1)) : SA tb cc nL own ret ini pc (i_sR 7 5 (pc + 1)) :=
  SA_wr fun call k ls st h r e => by
    unfold i_sR at e
    split at e
    · next v i a st' =>
      obtain ⟨h', hx, e1⟩ := Option.bind_eq_some_iff.mp e
      obtain ⟨n, f, g1, g2, g3, rfl⟩ := sR_inv hx
      refine ⟨pc + 1, _, a, _, _, g1, (by intro z; cases z), (by rfl), e1, fun k' e' => by simp only [i_sR, hx, Option.bind_some]; exact e', ?_⟩
      intro p l e R s m args below meth c D dA base lt n0 s0 Q lsr Hp locs cells slots hC hI hq hk
      obtain ⟨hex, hb, -, ho, ht, hK, -⟩ := hC
      obtain ⟨i1, i2, i3, i4, i5, i6, i7⟩ := hI
      obtain ⟨fs, g4⟩ := isO_inv g3
      have hv := hpos i3 g4 (by intro z; cases z)
      show W p l e R s m args below meth c Hp locs cells slots Q (F0 m pc lsr (.ref (cr base lt v) :: .int i :: .ref (cr base lt a) :: st'.map (cv base lt)))
      rw [cr_pos hq, cr_pos hv]
      refine va_astq hex hb hK i4 wsO_D i5 (a - 1) 7 (v - 1) 5 (wsO_get hq g1) (r := (RX5, TX5, 6)) rfl (wsO_get hv g4) rfl (vin_in g2) hd (fun H1 locs1 hP1 _ hS1 => hk H1 locs1 ?_ hS1)
      have e9 : cE base lt dA (.inl (7, n, .inr (.inr (.inr (.inr (va_up f i.toNatClampNeg (some v))))))) = .inl (dA 7, n, .inr (.inr (.inr (.inr (va_up (fun j => (f j).map (cr base lt)) i.toNatClampNeg (some (base + v))))))) := by
        show (.inl (dA 7, n, .inr (.inr (.inr (.inr (fun j => (va_up f i.toNatClampNeg (some v) j).map (cr base lt)))))) : va_E) = _
        congr 7
        funext j
        unfold va_up
        by_cases z : j = i.toNatClampNeg
        · rw [if_pos z, if_pos z, Option.map_some, cr_pos hv]
        · rw [if_neg z, if_neg z]
      rw [e9]
      exact hP1
    · cases e
theorem s_let {idx : Nat} (hd : decode cc pc = .ok (.getstatic idx, 3)) (hw : Cond.fieldLinkNest own idx "MoonLine" "LETTERS" "[C" "MoonLine" ∈ nestL) : SA tb cc nL own ret ini pc (i_let (pc + 3)) :=
  SA_rd fun call k ls st h r e => by
    refine ⟨pc + 3, _, e, fun k' e' => e', ?_⟩
    intro p l e R s m args below meth c D dA base lt n0 s0 Q lsr Hp locs cells slots hC hI hk
    obtain ⟨hex, hb, -, ho, ht, hK, hSt, hNw, -⟩ := hC
    obtain ⟨i1, i2, i3, i4, i5, i6, i7⟩ := hI
    exact va_getsN hex hb hSt.1 i5 ho (va_Nw.use rfl (hNw.1 _ hw)) (fun _ z => z) hd hk
theorem s_ca (hd : decode cc pc = .ok (.caload, 1)) : SA tb cc nL own ret ini pc (i_ca (pc + 1)) :=
  SA_rd fun call k ls st h r e => by
    unfold i_ca at e
    split at e
    · next i st' =>
      by_cases hv : vin i 6 = true
      · rw [if_pos hv] at e
        refine ⟨pc + 1, _, e, fun k' e' => by simp only [i_ca, if_pos hv]; exact e', ?_⟩
        intro p l e R s m args below meth c D dA base lt n0 s0 Q lsr Hp locs cells slots hC hI hk
        obtain ⟨hex, hb, -, ho, ht, hK, hSt, hNw, -⟩ := hC
        obtain ⟨i1, i2, i3, i4, i5, i6, i7⟩ := hI
        exact va_tc hex hb hSt.2 i5 (vin_in hv) rfl hd hk
      · rw [if_neg hv] at e; cases e
    · cases e
end SAA
