/-! every method by its acts -/
theorem c1_cat2 {base lt : Nat} {v : Value} (h : c1 v = false) : (cv base lt v).category = 2 := by
  cases v <;> first | rfl | cases h
theorem fla_len (base lt : Nat) : ∀ vs : List Value, (lg_sl (vs.map (cv base lt))).length = (fla vs).length
  | [] => rfl
  | v :: vs => by
    have ih := fla_len base lt vs
    unfold lg_sl at ih ⊢
    rw [List.map_cons, List.flatMap_cons, List.length_append, ih]
    show _ = (cond (c1 v) (v :: fla vs) (v :: .null :: fla vs)).length
    cases hc : c1 v with
    | true =>
      rw [if_neg (by rw [c1_cat hc]; decide)]
      simp [Nat.add_comm]
    | false =>
      rw [if_pos (c1_cat2 hc)]
      simp
      omega
theorem fla_args (base lt : Nat) : ∀ (vs : List Value) (i off : Nat) (v : Value), (fla vs)[i]? = some v → v ≠ .null → (off + i, cv base lt v) ∈ lv_args off (vs.map (cv base lt))
  | [], i, off, v, h, _ => by simp [fla] at h
  | w :: vs, i, off, v, h, hv => by
    unfold fla at h
    show (off + i, cv base lt v) ∈ (off, cv base lt w) :: lv_args (if (cv base lt w).category = 2 then off + 2 else off + 1) (vs.map (cv base lt))
    cases hc : c1 w with
    | true =>
      rw [hc] at h
      simp only [cond_true] at h
      rw [if_neg (by rw [c1_cat hc]; decide)]
      cases i with
      | zero =>
        cases h
        exact List.mem_cons_self
      | succ j =>
        have := fla_args base lt vs j (off + 1) v h hv
        rw [show off + 1 + j = off + (j + 1) by omega] at this
        exact List.mem_cons_of_mem _ this
    | false =>
      rw [hc] at h
      simp only [cond_false] at h
      rw [if_pos (c1_cat2 hc)]
      cases i with
      | zero =>
        cases h
        exact List.mem_cons_self
      | succ j =>
        cases j with
        | zero =>
          cases h
          exact absurd rfl hv
        | succ j =>
          have := fla_args base lt vs j (off + 2) v h hv
          rw [show off + 2 + j = off + (j + 1 + 1) by omega] at this
          exact List.mem_cons_of_mem _ this
theorem asc_mkls {base lt n : Nat} {vs : List Value} : ∀ q ∈ asc base lt (mkls n vs), q ∈ lv_args 0 (vs.map (cv base lt)) := by
  intro q hq
  obtain ⟨v, h1, h2, h3⟩ := asc_mem hq
  unfold mkls at h1
  by_cases hi : q.1 < (fla vs).length
  · rw [List.getElem?_append_left hi] at h1
    have := fla_args base lt vs q.1 0 v h1 h2
    rw [← h3, Nat.zero_add] at this
    exact this
  · rw [List.getElem?_append_right (by omega), List.getElem?_replicate] at h1
    by_cases z : q.1 - (fla vs).length < n - (fla vs).length
    · rw [if_pos z] at h1
      cases h1
      exact absurd rfl h2
    · rw [if_neg z] at h1; cases h1
theorem mkls_len {n : Nat} {vs : List Value} (h : (fla vs).length ≤ n) : (mkls n vs).length = n := by
  unfold mkls
  rw [List.length_append, List.length_replicate]
  omega
noncomputable def rnT (cds : Nat → Nat → mA) (tb : mT) : Nat → mC
  | 0 => fun _ _ _ => none
  | d + 1 => fun mi as h => cond (Nat.beq mi 0) (some (none, h)) (cond (Nat.ble (fla as).length (tb mi).2.2.1) (ex (cds mi) (rnT cds tb d) 0 (mkls (tb mi).2.2.1 as) [] h) none)
def MOK (cds : Nat → Nat → mA) (tb : mT) (mi : Nat) : Prop := ∃ ini : Bool, SAll tb (tb mi).2.1 (tb mi).2.2.1 (tb mi).1.cls (tb mi).2.2.2 ini (cds mi) ∧ plainName (tb mi).1.cls = true ∧ (ini = true → (tb mi).1.name = "<init>")
theorem sc_rn {cds : Nat → Nat → mA} {tb : mT} (hM : ∀ mi, 0 < mi → MOK cds tb mi) : ∀ d, SC tb d (rnT cds tb d)
  | 0 => ⟨fun _ _ _ e => (by cases e), fun _ _ _ _ _ e => (by cases e)⟩
  | d + 1 => by
    have ih := sc_rn hM d
    refine ⟨fun _ _ _ _ => by omega, fun mi as h r hmi e => ⟨by omega, ?_⟩⟩
    obtain ⟨ini, hA, hpl, hin⟩ := hM mi hmi
    unfold rnT at e
    have hb0 : Nat.beq mi 0 = false := by
      cases z : Nat.beq mi 0 with
      | false => rfl
      | true => have := Nat.eq_of_beq_eq_true z; omega
    rw [hb0] at e
    simp only [cond_false] at e
    cases hbl : Nat.ble (fla as).length (tb mi).2.2.1 with
    | false => rw [hbl] at e; cases e
    | true =>
      rw [hbl] at e
      simp only [cond_true] at e
      have hle := Nat.le_of_ble_eq_true hbl
      obtain ⟨f, hf⟩ := ex_some e
      obtain ⟨hG, hW⟩ := exF_W hA ih f _ _ _ _ _ hf
      refine ⟨hG, fun l D dA base lt => ?_⟩
      refine Met.ofW (cc := (tb mi).2.1) (maxL := (tb mi).2.2.1) (ret := (tb mi).2.2.2) hpl rfl ?_
      intro p e s m args below meth c s₁ B hml hv
      obtain ⟨rfl, h0, hz, hP, hK, hSt, hNw⟩ := hv
      have hts := atoms_spec (ws := wO tb mi) B.pre
      have h1 : 1 ≤ h.length := by
        cases h with
        | nil => cases h0
        | cons _ _ => exact Nat.succ_pos _
      have hC : CX p l e { frames := d + 1 - 1, cells := r.2.length - h.length, slots := sl r.2 - sl h, locals := 64 * (d + 1 - 1) } s m (as.map (cv base lt)).toArray below meth c (tb mi).2.1 (tb mi).2.2.1 (tb mi).1.cls (tb mi).2.2.2 ini D dA base lt h.length :=
        ⟨B.exec, B.bytes, hml, findClass_of_methodNamed B.named, fun w hw => hts w (List.mem_cons_of_mem _ hw), hK, hSt, hNw, B.returns, B.notSynchronized, fun hi => ((name_of_methodNamed B.named B.method).1).trans (hin hi), hz, h1⟩
      have hl := lv_entry (as.map (cv base lt)) (n := (tb mi).2.2.1) (by rw [fla_len]; exact hle)
      rw [lg_entry_eq]
      have hw := hW p l e _ s m _ below meth c D dA base lt h.length (sl h) hC (by show d ≤ d + 1 - 1; omega) (by show 64 * d ≤ 64 * (d + 1 - 1); omega) (by have := hG.1; show _ ≤ h.length + (r.2.length - h.length); omega) (by have := hG.2.1; show _ ≤ sl h + (sl r.2 - sl h); omega) _ s.heap [] ⟨lv_less hl asc_mkls, by rw [mkls_len hle]; exact Nat.le_refl _, h0, hP, va_S.rf, Nat.le_refl _, Nat.le_refl _⟩
      rw [Nat.sub_self, Nat.sub_self] at hw
      exact hw
