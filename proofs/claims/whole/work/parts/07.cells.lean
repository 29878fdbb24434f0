/-! reading and writing cells -/
theorem vin_in {i : Int32} {n : Nat} (h : vin i n = true) : vp_in i n := by
  unfold vin at h
  simp at h
  unfold vp_in
  intro q
  rcases q with q | q
  · exact absurd q (by simpa using h.1)
  · omega
theorem cr_pos {base lt q : Nat} (h : 0 < q) : cr base lt q = base + q := if_neg (by omega)
theorem hpos {h : mH} {q : Nat} {c : va_E} (h0 : h[0]? = some dm) (hq : h[q]? = some c) (hc : c ≠ dm) : 0 < q := by
  rcases Nat.eq_zero_or_pos q with rfl | h
  · rw [h0] at hq
    exact absurd (Option.some.inj hq).symm hc
  · exact h
theorem gI_inv {h : mH} {q ci j : Nat} {x : Int32} (e : gI h q ci j = some x) : ∃ fs, h[q]? = some (.inr (ci, fs)) ∧ fs[j]? = some (.int x) := by
  unfold gI at e
  split at e
  · next c fs hc =>
    by_cases hci : c = ci
    · rw [if_pos hci] at e
      subst hci
      split at e
      · next y hy => cases e; exact ⟨fs, hc, hy⟩
      · cases e
    · rw [if_neg hci] at e; cases e
  · cases e
theorem gL_inv {h : mH} {q ci j : Nat} {x : Int64} (e : gL h q ci j = some x) : ∃ fs, h[q]? = some (.inr (ci, fs)) ∧ fs[j]? = some (.long x) := by
  unfold gL at e
  split at e
  · next c fs hc =>
    by_cases hci : c = ci
    · rw [if_pos hci] at e
      subst hci
      split at e
      · next y hy => cases e; exact ⟨fs, hc, hy⟩
      · cases e
    · rw [if_neg hci] at e; cases e
  · cases e
theorem gR_inv {h : mH} {q ci j : Nat} {x : Nat} (e : gR h q ci j = some x) : ∃ fs, h[q]? = some (.inr (ci, fs)) ∧ fs[j]? = some (.ref x) := by
  unfold gR at e
  split at e
  · next c fs hc =>
    by_cases hci : c = ci
    · rw [if_pos hci] at e
      subst hci
      split at e
      · next y hy => cases e; exact ⟨fs, hc, hy⟩
      · cases e
    · rw [if_neg hci] at e; cases e
  · cases e
theorem pF_inv {h h' : mH} {q ci j : Nat} {v : Value} (e : pF h q ci j v = some h') : ∃ fs, h[q]? = some (.inr (ci, fs)) ∧ j < fs.length ∧ h' = h.set q (.inr (ci, fs.set j v)) := by
  unfold pF at e
  split at e
  · next c fs hc =>
    by_cases hci : c = ci
    · rw [if_pos hci] at e
      subst hci
      by_cases hj : j < fs.length
      · rw [if_pos hj] at e; cases e; exact ⟨fs, hc, hj, rfl⟩
      · rw [if_neg hj] at e; cases e
    · rw [if_neg hci] at e; cases e
  · cases e
theorem aI_inv {t : Nat} {h : mH} {a : Nat} {i x : Int32} (e : aI t h a i = some x) : ∃ n f, h[a]? = some (.inl (t, n, .inl f)) ∧ vin i n = true ∧ x = f i.toNatClampNeg := by
  unfold aI at e
  split at e
  · next t' n f hc =>
    by_cases ht : t' = t
    · rw [if_pos ht] at e
      subst ht
      by_cases hv : vin i n = true
      · rw [if_pos hv] at e; cases e; exact ⟨n, f, hc, hv, rfl⟩
      · rw [if_neg hv] at e; cases e
    · rw [if_neg ht] at e; cases e
  · cases e
theorem aL_inv {h : mH} {a : Nat} {i : Int32} {x : Int64} (e : aL h a i = some x) : ∃ n f, h[a]? = some (.inl (1, n, .inr (.inl f))) ∧ vin i n = true ∧ x = f i.toNatClampNeg := by
  unfold aL at e
  split at e
  · next t' n f hc =>
    by_cases ht : t' = 1
    · rw [if_pos ht] at e
      subst ht
      by_cases hv : vin i n = true
      · rw [if_pos hv] at e; cases e; exact ⟨n, f, hc, hv, rfl⟩
      · rw [if_neg hv] at e; cases e
    · rw [if_neg ht] at e; cases e
  · cases e
theorem aR_inv {t : Nat} {h : mH} {a : Nat} {i : Int32} {x : Nat} (e : aR t h a i = some x) : ∃ n f, h[a]? = some (.inl (t, n, .inr (.inr (.inr (.inr f))))) ∧ vin i n = true ∧ f i.toNatClampNeg = some x := by
  unfold aR at e
  split at e
  · next t' n f hc =>
    by_cases ht : t' = t
    · rw [if_pos ht] at e
      subst ht
      by_cases hv : vin i n = true
      · rw [if_pos hv] at e; exact ⟨n, f, hc, hv, e⟩
      · rw [if_neg hv] at e; cases e
    · rw [if_neg ht] at e; cases e
  · cases e
theorem aN_inv {h : mH} {a : Nat} {x : Int32} (e : aN h a = some x) : ∃ t n f, h[a]? = some (.inl (t, n, .inl f)) ∧ t < 4 ∧ x = Int32.ofNat n := by
  unfold aN at e
  split at e
  · next t n f hc =>
    by_cases ht : t < 4
    · rw [if_pos ht] at e; cases e; exact ⟨t, n, f, hc, ht, rfl⟩
    · rw [if_neg ht] at e; cases e
  · cases e
theorem sI_inv {h h' : mH} {a : Nat} {i x : Int32} (e : sI h a i x = some h') : ∃ n f, h[a]? = some (.inl (0, n, .inl f)) ∧ vin i n = true ∧ h' = h.set a (.inl (0, n, .inl (upd f i.toNatClampNeg x))) := by
  unfold sI at e
  split at e
  · next t' n f hc =>
    by_cases ht : t' = 0
    · rw [if_pos ht] at e
      subst ht
      by_cases hv : vin i n = true
      · rw [if_pos hv] at e; cases e; exact ⟨n, f, hc, hv, rfl⟩
      · rw [if_neg hv] at e; cases e
    · rw [if_neg ht] at e; cases e
  · cases e
theorem sB_inv {h h' : mH} {a : Nat} {i x : Int32} (e : sB h a i x = some h') : ∃ n f, h[a]? = some (.inl (2, n, .inl f)) ∧ vin i n = true ∧ h' = h.set a (.inl (2, n, .inl (upd f i.toNatClampNeg (vp_nar .byte x)))) := by
  unfold sB at e
  split at e
  · next t' n f hc =>
    by_cases ht : t' = 2
    · rw [if_pos ht] at e
      subst ht
      by_cases hv : vin i n = true
      · rw [if_pos hv] at e; cases e; exact ⟨n, f, hc, hv, rfl⟩
      · rw [if_neg hv] at e; cases e
    · rw [if_neg ht] at e; cases e
  · cases e
theorem sZ_inv {h h' : mH} {a : Nat} {i x : Int32} (e : sZ h a i x = some h') : ∃ n f, h[a]? = some (.inl (3, n, .inl f)) ∧ vin i n = true ∧ h' = h.set a (.inl (3, n, .inl (upd f i.toNatClampNeg (vp_nar .boolean x)))) := by
  unfold sZ at e
  split at e
  · next t' n f hc =>
    by_cases ht : t' = 3
    · rw [if_pos ht] at e
      subst ht
      by_cases hv : vin i n = true
      · rw [if_pos hv] at e; cases e; exact ⟨n, f, hc, hv, rfl⟩
      · rw [if_neg hv] at e; cases e
    · rw [if_neg ht] at e; cases e
  · cases e
theorem sL_inv {h h' : mH} {a : Nat} {i : Int32} {x : Int64} (e : sL h a i x = some h') : ∃ n f, h[a]? = some (.inl (1, n, .inr (.inl f))) ∧ vin i n = true ∧ h' = h.set a (.inl (1, n, .inr (.inl (vp_updL f i.toNatClampNeg x)))) := by
  unfold sL at e
  split at e
  · next t' n f hc =>
    by_cases ht : t' = 1
    · rw [if_pos ht] at e
      subst ht
      by_cases hv : vin i n = true
      · rw [if_pos hv] at e; cases e; exact ⟨n, f, hc, hv, rfl⟩
      · rw [if_neg hv] at e; cases e
    · rw [if_neg ht] at e; cases e
  · cases e
theorem isO_inv {h : mH} {q ci : Nat} (e : isO h q ci = true) : ∃ fs, h[q]? = some (.inr (ci, fs)) := by
  unfold isO at e
  split at e
  · next c fs hc =>
    have := Nat.eq_of_beq_eq_true e
    subst this
    exact ⟨fs, hc⟩
  · cases e
theorem sR_inv {t ci : Nat} {h h' : mH} {a : Nat} {i : Int32} {v : Nat} (e : sR t ci h a i v = some h') : ∃ n f, h[a]? = some (.inl (t, n, .inr (.inr (.inr (.inr f))))) ∧ vin i n = true ∧ isO h v ci = true ∧ h' = h.set a (.inl (t, n, .inr (.inr (.inr (.inr (va_up f i.toNatClampNeg (some v))))))) := by
  unfold sR at e
  split at e
  · next t' n f hc =>
    by_cases ht : t' = t
    · rw [if_pos ht] at e
      subst ht
      by_cases hv : (vin i n && isO h v ci) = true
      · rw [if_pos hv] at e
        cases e
        simp only [Bool.and_eq_true] at hv
        exact ⟨n, f, hc, hv.1, hv.2, rfl⟩
      · rw [if_neg hv] at e; cases e
    · rw [if_neg ht] at e; cases e
  · cases e
theorem cpI_inv {h h' : mH} {a0 a1 : Nat} {sp dp n : Int32} (e : cpI h a0 sp a1 dp n = some h') : ∃ n0 f n1 g, h[a0]? = some (.inl (0, n0, .inl f)) ∧ h[a1]? = some (.inl (0, n1, .inl g)) ∧ (0 ≤ sp ∧ 0 ≤ dp ∧ 0 ≤ n ∧ sp.toNatClampNeg + n.toNatClampNeg ≤ n0 ∧ dp.toNatClampNeg + n.toNatClampNeg ≤ n1) ∧ h' = h.set a1 (.inl (0, n1, .inl (va_cpy f g sp.toNatClampNeg dp.toNatClampNeg n.toNatClampNeg))) := by
  unfold cpI at e
  split at e
  · next t0 n0 f t1 n1 g h1 h2 =>
    by_cases ht : t0 = 0 ∧ t1 = 0
    · rw [if_pos ht] at e
      obtain ⟨rfl, rfl⟩ := ht
      by_cases hv : 0 ≤ sp ∧ 0 ≤ dp ∧ 0 ≤ n ∧ sp.toNatClampNeg + n.toNatClampNeg ≤ n0 ∧ dp.toNatClampNeg + n.toNatClampNeg ≤ n1
      · rw [if_pos hv] at e; cases e; exact ⟨n0, f, n1, g, h1, h2, hv, rfl⟩
      · rw [if_neg hv] at e; cases e
    · rw [if_neg ht] at e; cases e
  · cases e
section SAC
variable {tb : mT} {cc : ByteArray} {nL : Nat} {own : String} {ret : Option FieldType} {ini : Bool} {pc : Nat}
theorem SA_rd {act : mA} (H : ∀ (call : mC) (k : mK) (ls st : List Value) (h : mH) (r : Option Value × mH), act call k ls st h = some r → ∃ (pc' : Nat) (st' : List Value), k pc' ls st' h = some r ∧ (∀ k' : mK, k' pc' ls st' h = some r → act call k' ls st h = some r) ∧
    ∀ (p : Program) (l : Launch) (e : Env) (R : Room) (s : State) (m : MethodId) (args : Array Value) (below : List Frame) (meth : Method) (c : Code) (D : va_G) (dA : Nat → ClassId) (base lt n0 s0 : Nat) (Q : State → Prop) (lsr : Array Slot) (Hp : Heap) (locs : List Loc) (cells slots : Nat), CX p l e R s m args below meth c cc nL own ret ini D dA base lt n0 → IV D dA base lt nL s n0 s0 ls lsr h Hp locs →
      W p l e R s m args below meth c Hp locs cells slots Q (F0 m pc' lsr (st'.map (cv base lt))) → W p l e R s m args below meth c Hp locs cells slots Q (F0 m pc lsr (st.map (cv base lt)))) : SA tb cc nL own ret ini pc act := by
  intro d call hS k ls st h r e
  obtain ⟨pc', st', h1, h2, h3⟩ := H call k ls st h r e
  refine Or.inr ⟨pc', ls, st', h, h1, h2, Ge.rf h, ?_⟩
  intro p l e R s m args below meth c D dA base lt n0 s0 Q hC _ _ _ _ hk lsr Hp locs hI
  exact h3 p l e R s m args below meth c D dA base lt n0 s0 Q lsr Hp locs _ _ hC hI (hk lsr Hp locs hI)
theorem SA_wr {act : mA} (H : ∀ (call : mC) (k : mK) (ls st : List Value) (h : mH) (r : Option Value × mH), act call k ls st h = some r → ∃ (pc' : Nat) (st' : List Value) (q : Nat) (c0 c1 : va_E), h[q]? = some c0 ∧ c0 ≠ dm ∧ szE c1 = szE c0 ∧ k pc' ls st' (h.set q c1) = some r ∧ (∀ k' : mK, k' pc' ls st' (h.set q c1) = some r → act call k' ls st h = some r) ∧
    ∀ (p : Program) (l : Launch) (e : Env) (R : Room) (s : State) (m : MethodId) (args : Array Value) (below : List Frame) (meth : Method) (c : Code) (D : va_G) (dA : Nat → ClassId) (base lt n0 s0 : Nat) (Q : State → Prop) (lsr : Array Slot) (Hp : Heap) (locs : List Loc) (cells slots : Nat), CX p l e R s m args below meth c cc nL own ret ini D dA base lt n0 → IV D dA base lt nL s n0 s0 ls lsr h Hp locs → 0 < q →
      (∀ (H1 : Heap) (locs1 : List Loc), va_P D vwCl ((wsO base lt dA h).set (q - 1) (base + q, cE base lt dA c1)) H1 → va_S (fun q => base < q) s.heap H1 locs1 → W p l e R s m args below meth c H1 locs1 cells slots Q (F0 m pc' lsr (st'.map (cv base lt)))) → W p l e R s m args below meth c Hp locs cells slots Q (F0 m pc lsr (st.map (cv base lt)))) : SA tb cc nL own ret ini pc act := by
  intro d call hS k ls st h r e
  obtain ⟨pc', st', q, c0, c1, g1, g2, g3, h1, h2, h3⟩ := H call k ls st h r e
  have hq : h[0]? = some dm → 0 < q := fun z => hpos z g1 g2
  refine Or.inr ⟨pc', ls, st', h.set q c1, h1, h2, ⟨by rw [List.length_set]; exact Nat.le_refl _, by rw [sl_set g1 g3]; exact Nat.le_refl _, fun z => by rw [List.getElem?_set_ne (by have := hq z; omega)]; exact z⟩, ?_⟩
  intro p l e R s m args below meth c D dA base lt n0 s0 Q hC _ _ _ _ hk lsr Hp locs hI
  obtain ⟨i1, i2, i3, i4, i5, i6, i7⟩ := id hI
  have hq := hq i3
  refine h3 p l e R s m args below meth c D dA base lt n0 s0 Q lsr Hp locs _ _ hC hI hq (fun H1 locs1 hP1 hS1 => ?_)
  have := hk lsr H1 locs1 ⟨i1, i2, by rw [List.getElem?_set_ne (by omega)]; exact i3, by rw [wsO_set hq]; exact hP1, hS1, by rw [List.length_set]; exact i6, by rw [sl_set g1 g3]; exact i7⟩
  rw [List.length_set, sl_set g1 g3] at this
  exact this
theorem obj_ne {ci j : Nat} {fs : List Value} {v : Value} (h : fs[j]? = some v) : (.inr (ci, fs) : va_E) ≠ dm := by
  intro e
  cases e
  simp at h
theorem obj_ne2 {ci j : Nat} {fs : List Value} (h : j < fs.length) : (.inr (ci, fs) : va_E) ≠ dm := by
  intro e
  cases e
  simp at h
-- fields
theorem s_gI {ci j idx N : Nat} {C : String} {T : u_T} (hd : decode cc pc = .ok (.getfield idx, 3)) (hc : vwCl[ci]? = some (C, T, N)) (hin : ∀ w ∈ u_ws C T N, w ∈ lw_g) (hj : j < N) (hw : Cond.fieldLink own idx (T j).1 (T j).2.1 (T j).2.2.1 ∈ lw_g) : SA tb cc nL own ret ini pc (i_gI ci j (pc + 3)) :=
  SA_rd fun call k ls st h r e => by
    unfold i_gI at e
    split at e
    · next q st' =>
      obtain ⟨x, hx, e1⟩ := Option.bind_eq_some_iff.mp e
      refine ⟨pc + 3, _, e1, fun k' e' => by simp only [i_gI, hx, Option.bind_some]; exact e', ?_⟩
      intro p l e R s m args below meth c D dA base lt n0 s0 Q lsr Hp locs cells slots hC hI hk
      obtain ⟨fs, g1, g2⟩ := gI_inv hx
      obtain ⟨hex, hb, -, ho, ht, hK, -⟩ := hC
      have hq := hpos hI.2.2.1 g1 (obj_ne g2)
      show W p l e R s m args below meth c Hp locs cells slots Q (F0 m pc lsr (.ref (cr base lt q) :: st'.map (cv base lt)))
      rw [cr_pos hq]
      exact va_get hex hb ht hin ho hK hI.2.2.2.1 (q - 1) (wsO_get hq g1) hc j hj (ht _ hw) (fun _ z => z) (v := .int x) (by rw [List.getElem?_map, g2]; rfl) hd hk
    · cases e
theorem s_gL {ci j idx N : Nat} {C : String} {T : u_T} (hd : decode cc pc = .ok (.getfield idx, 3)) (hc : vwCl[ci]? = some (C, T, N)) (hin : ∀ w ∈ u_ws C T N, w ∈ lw_g) (hj : j < N) (hw : Cond.fieldLink own idx (T j).1 (T j).2.1 (T j).2.2.1 ∈ lw_g) : SA tb cc nL own ret ini pc (i_gL ci j (pc + 3)) :=
  SA_rd fun call k ls st h r e => by
    unfold i_gL at e
    split at e
    · next q st' =>
      obtain ⟨x, hx, e1⟩ := Option.bind_eq_some_iff.mp e
      refine ⟨pc + 3, _, e1, fun k' e' => by simp only [i_gL, hx, Option.bind_some]; exact e', ?_⟩
      intro p l e R s m args below meth c D dA base lt n0 s0 Q lsr Hp locs cells slots hC hI hk
      obtain ⟨fs, g1, g2⟩ := gL_inv hx
      obtain ⟨hex, hb, -, ho, ht, hK, -⟩ := hC
      have hq := hpos hI.2.2.1 g1 (obj_ne g2)
      show W p l e R s m args below meth c Hp locs cells slots Q (F0 m pc lsr (.ref (cr base lt q) :: st'.map (cv base lt)))
      rw [cr_pos hq]
      exact va_get hex hb ht hin ho hK hI.2.2.2.1 (q - 1) (wsO_get hq g1) hc j hj (ht _ hw) (fun _ z => z) (v := .long x) (by rw [List.getElem?_map, g2]; rfl) hd hk
    · cases e
theorem s_gR {ci j idx N : Nat} {C : String} {T : u_T} (hd : decode cc pc = .ok (.getfield idx, 3)) (hc : vwCl[ci]? = some (C, T, N)) (hin : ∀ w ∈ u_ws C T N, w ∈ lw_g) (hj : j < N) (hw : Cond.fieldLink own idx (T j).1 (T j).2.1 (T j).2.2.1 ∈ lw_g) : SA tb cc nL own ret ini pc (i_gR ci j (pc + 3)) :=
  SA_rd fun call k ls st h r e => by
    unfold i_gR at e
    split at e
    · next q st' =>
      obtain ⟨x, hx, e1⟩ := Option.bind_eq_some_iff.mp e
      refine ⟨pc + 3, _, e1, fun k' e' => by simp only [i_gR, hx, Option.bind_some]; exact e', ?_⟩
      intro p l e R s m args below meth c D dA base lt n0 s0 Q lsr Hp locs cells slots hC hI hk
      obtain ⟨fs, g1, g2⟩ := gR_inv hx
      obtain ⟨hex, hb, -, ho, ht, hK, -⟩ := hC
      have hq := hpos hI.2.2.1 g1 (obj_ne g2)
      show W p l e R s m args below meth c Hp locs cells slots Q (F0 m pc lsr (.ref (cr base lt q) :: st'.map (cv base lt)))
      rw [cr_pos hq]
      exact va_get hex hb ht hin ho hK hI.2.2.2.1 (q - 1) (wsO_get hq g1) hc j hj (ht _ hw) (fun _ z => z) (v := .ref (cr base lt x)) (by rw [List.getElem?_map, g2]; rfl) hd hk
    · cases e
/-- a field is put, final or not -/
theorem put_row {ci j idx N : Nat} {C : String} {T : u_T} {tyT : Nat → FieldType} {ty : FieldType} {v : Value} (hd : decode cc pc = .ok (.putfield idx, 3)) (hc : vwCl[ci]? = some (C, T, N)) (hin : ∀ w ∈ u_ws C T N, w ∈ lw_g) (hty : ∀ k, k < N → parseFieldDescriptor (T k).2.2.1 = some (tyT k)) (hnm : ∀ a, a < N → ∀ b, b < N → a ≠ b → (T a).2.1 ≠ (T b).2.1) (hj : j < N) (hw : Cond.fieldLink own idx (T j).1 (T j).2.1 (T j).2.2.1 ∈ lw_g) (hp : parseFieldDescriptor (T j).2.2.1 = some ty) (hfin : (T j).2.2.2 = false ∨ (ini = true ∧ (T j).1 = own ∧ (T j).2.2.2 = true))
    {p : Program} {l : Launch} {e : Env} {R : Room} {s : State} {m : MethodId} {args : Array Value} {below : List Frame} {meth : Method} {c : Code} {D : va_G} {dA : Nat → ClassId} {base lt n0 s0 : Nat} {Q : State → Prop} {ls : List Value} {lsr : Array Slot} {h : mH} {Hp : Heap} {locs : List Loc} {cells slots : Nat} (hnf : narrow ty (cv base lt v) = cv base lt v ∧ fits ty (cv base lt v) = true) (hC : CX p l e R s m args below meth c cc nL own ret ini D dA base lt n0) (hI : IV D dA base lt nL s n0 s0 ls lsr h Hp locs) {q : Nat} {fs : List Value} {rest : List Value} (hq : 0 < q) (g1 : h[q]? = some (.inr (ci, fs))) (g2 : j < fs.length)
    (kk : ∀ (H1 : Heap) (locs1 : List Loc), va_P D vwCl ((wsO base lt dA h).set (q - 1) (base + q, cE base lt dA (.inr (ci, fs.set j v)))) H1 → va_S (fun q => base < q) s.heap H1 locs1 → W p l e R s m args below meth c H1 locs1 cells slots Q (F0 m (pc + 3) lsr rest)) : W p l e R s m args below meth c Hp locs cells slots Q (F0 m pc lsr (cv base lt v :: .ref (base + q) :: rest)) := by
  obtain ⟨hex, hb, -, ho, ht, hK, -, -, -, -, hi9, -⟩ := hC
  obtain ⟨i1, i2, i3, i4, i5, i6, i7⟩ := hI
  have e9 : cE base lt dA (.inr (ci, fs.set j v)) = .inr (ci, (fs.map (cv base lt)).set j (cv base lt v)) := by
    show (.inr (ci, (fs.set j v).map (cv base lt)) : va_E) = _
    rw [List.map_set]
  rcases hfin with hfin | ⟨hfin, hown, hf2⟩
  · refine va_put hex hb ht hin tyT hty hnm ho hK i4 wsO_D i5 (q - 1) (wsO_get hq g1) hc j hj (ht _ hw) (fun _ z => z) hfin hp hnf.1 hnf.2 (by rw [List.length_map]; exact g2) hd (fun H1 locs1 hP1 _ hS1 => ?_)
    exact kk H1 locs1 (by rw [e9]; exact hP1) hS1
  · refine va_putF hex hb ht hin tyT hty hnm ho hK i4 wsO_D i5 (q - 1) (wsO_get hq g1) hc j hj (ht _ hw) (fun _ z => z) hf2 (hi9 hfin) hown hp hnf.1 hnf.2 (by rw [List.length_map]; exact g2) hd (fun H1 locs1 hP1 _ hS1 => ?_)
    exact kk H1 locs1 (by rw [e9]; exact hP1) hS1
theorem s_pI {ci j idx N : Nat} {C : String} {T : u_T} {tyT : Nat → FieldType} (hd : decode cc pc = .ok (.putfield idx, 3)) (hc : vwCl[ci]? = some (C, T, N)) (hin : ∀ w ∈ u_ws C T N, w ∈ lw_g) (hty : ∀ k, k < N → parseFieldDescriptor (T k).2.2.1 = some (tyT k)) (hnm : ∀ a, a < N → ∀ b, b < N → a ≠ b → (T a).2.1 ≠ (T b).2.1) (hj : j < N) (hw : Cond.fieldLink own idx (T j).1 (T j).2.1 (T j).2.2.1 ∈ lw_g) (hp : parseFieldDescriptor (T j).2.2.1 = some .int) (hfin : (T j).2.2.2 = false ∨ (ini = true ∧ (T j).1 = own ∧ (T j).2.2.2 = true)) : SA tb cc nL own ret ini pc (i_pI ci j (pc + 3)) :=
  SA_wr fun call k ls st h r e => by
    unfold i_pI at e
    split at e
    · next x q st' =>
      obtain ⟨h', hx, e1⟩ := Option.bind_eq_some_iff.mp e
      obtain ⟨fs, g1, g2, rfl⟩ := pF_inv hx
      refine ⟨pc + 3, _, q, _, _, g1, obj_ne2 g2, by simp [szE], e1, fun k' e' => by simp only [i_pI, hx, Option.bind_some]; exact e', ?_⟩
      intro p l e R s m args below meth c D dA base lt n0 s0 Q lsr Hp locs cells slots hC hI hq hk
      show W p l e R s m args below meth c Hp locs cells slots Q (F0 m pc lsr (cv base lt (.int x) :: .ref (cr base lt q) :: st'.map (cv base lt)))
      rw [cr_pos hq]
      exact put_row hd hc hin hty hnm hj hw hp hfin ⟨rfl, rfl⟩ hC hI hq g1 g2 hk
    · cases e
theorem s_pL {ci j idx N : Nat} {C : String} {T : u_T} {tyT : Nat → FieldType} (hd : decode cc pc = .ok (.putfield idx, 3)) (hc : vwCl[ci]? = some (C, T, N)) (hin : ∀ w ∈ u_ws C T N, w ∈ lw_g) (hty : ∀ k, k < N → parseFieldDescriptor (T k).2.2.1 = some (tyT k)) (hnm : ∀ a, a < N → ∀ b, b < N → a ≠ b → (T a).2.1 ≠ (T b).2.1) (hj : j < N) (hw : Cond.fieldLink own idx (T j).1 (T j).2.1 (T j).2.2.1 ∈ lw_g) (hp : parseFieldDescriptor (T j).2.2.1 = some .long) (hfin : (T j).2.2.2 = false ∨ (ini = true ∧ (T j).1 = own ∧ (T j).2.2.2 = true)) : SA tb cc nL own ret ini pc (i_pL ci j (pc + 3)) :=
  SA_wr fun call k ls st h r e => by
    unfold i_pL at e
    split at e
    · next x q st' =>
      obtain ⟨h', hx, e1⟩ := Option.bind_eq_some_iff.mp e
      obtain ⟨fs, g1, g2, rfl⟩ := pF_inv hx
      refine ⟨pc + 3, _, q, _, _, g1, obj_ne2 g2, by simp [szE], e1, fun k' e' => by simp only [i_pL, hx, Option.bind_some]; exact e', ?_⟩
      intro p l e R s m args below meth c D dA base lt n0 s0 Q lsr Hp locs cells slots hC hI hq hk
      show W p l e R s m args below meth c Hp locs cells slots Q (F0 m pc lsr (cv base lt (.long x) :: .ref (cr base lt q) :: st'.map (cv base lt)))
      rw [cr_pos hq]
      exact put_row hd hc hin hty hnm hj hw hp hfin ⟨rfl, rfl⟩ hC hI hq g1 g2 hk
    · cases e
theorem s_pR {ci j idx N : Nat} {C : String} {T : u_T} {tyT : Nat → FieldType} {ty : FieldType} (hd : decode cc pc = .ok (.putfield idx, 3)) (hc : vwCl[ci]? = some (C, T, N)) (hin : ∀ w ∈ u_ws C T N, w ∈ lw_g) (hty : ∀ k, k < N → parseFieldDescriptor (T k).2.2.1 = some (tyT k)) (hnm : ∀ a, a < N → ∀ b, b < N → a ≠ b → (T a).2.1 ≠ (T b).2.1) (hj : j < N) (hw : Cond.fieldLink own idx (T j).1 (T j).2.1 (T j).2.2.1 ∈ lw_g) (hp : parseFieldDescriptor (T j).2.2.1 = some ty) (hfin : (T j).2.2.2 = false ∨ (ini = true ∧ (T j).1 = own ∧ (T j).2.2.2 = true)) (hnf : ∀ a, narrow ty (.ref a) = .ref a ∧ fits ty (.ref a) = true) : SA tb cc nL own ret ini pc (i_pR ci j (pc + 3)) :=
  SA_wr fun call k ls st h r e => by
    unfold i_pR at e
    split at e
    · next x q st' =>
      obtain ⟨h', hx, e1⟩ := Option.bind_eq_some_iff.mp e
      obtain ⟨fs, g1, g2, rfl⟩ := pF_inv hx
      refine ⟨pc + 3, _, q, _, _, g1, obj_ne2 g2, by simp [szE], e1, fun k' e' => by simp only [i_pR, hx, Option.bind_some]; exact e', ?_⟩
      intro p l e R s m args below meth c D dA base lt n0 s0 Q lsr Hp locs cells slots hC hI hq hk
      show W p l e R s m args below meth c Hp locs cells slots Q (F0 m pc lsr (cv base lt (.ref x) :: .ref (cr base lt q) :: st'.map (cv base lt)))
      rw [cr_pos hq]
      exact put_row (v := .ref x) (base := base) (lt := lt) hd hc hin hty hnm hj hw hp hfin (hnf _) hC hI hq g1 g2 hk
    · cases e
theorem s_pN {ci j idx N : Nat} {C : String} {T : u_T} {tyT : Nat → FieldType} {ty : FieldType} (hd : decode cc pc = .ok (.putfield idx, 3)) (hc : vwCl[ci]? = some (C, T, N)) (hin : ∀ w ∈ u_ws C T N, w ∈ lw_g) (hty : ∀ k, k < N → parseFieldDescriptor (T k).2.2.1 = some (tyT k)) (hnm : ∀ a, a < N → ∀ b, b < N → a ≠ b → (T a).2.1 ≠ (T b).2.1) (hj : j < N) (hw : Cond.fieldLink own idx (T j).1 (T j).2.1 (T j).2.2.1 ∈ lw_g) (hp : parseFieldDescriptor (T j).2.2.1 = some ty) (hfin : (T j).2.2.2 = false ∨ (ini = true ∧ (T j).1 = own ∧ (T j).2.2.2 = true)) (hnf : narrow ty .null = .null ∧ fits ty .null = true) : SA tb cc nL own ret ini pc (i_pN ci j (pc + 3)) :=
  SA_wr fun call k ls st h r e => by
    unfold i_pN at e
    split at e
    · next q st' =>
      obtain ⟨h', hx, e1⟩ := Option.bind_eq_some_iff.mp e
      obtain ⟨fs, g1, g2, rfl⟩ := pF_inv hx
      refine ⟨pc + 3, _, q, _, _, g1, obj_ne2 g2, by simp [szE], e1, fun k' e' => by simp only [i_pN, hx, Option.bind_some]; exact e', ?_⟩
      intro p l e R s m args below meth c D dA base lt n0 s0 Q lsr Hp locs cells slots hC hI hq hk
      show W p l e R s m args below meth c Hp locs cells slots Q (F0 m pc lsr (cv base lt .null :: .ref (cr base lt q) :: st'.map (cv base lt)))
      rw [cr_pos hq]
      exact put_row (v := .null) (base := base) (lt := lt) hd hc hin hty hnm hj hw hp hfin hnf hC hI hq g1 g2 hk
    · cases e
end SAC
