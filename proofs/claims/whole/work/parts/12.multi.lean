/-! an array of arrays -/
def i_mn (nx : Nat) : mA := fun _ k ls st h => match st with
  | .int b :: .int a :: st' => if a = 7 ∧ b = 7 then k nx ls (.ref h.length :: st') (h ++ (.inl (8, 7, .inr (.inr (.inr (.inr (fun i => if i < 7 then some (h.length + 1 + i) else none))))) :: List.replicate 7 (.inl (0, 7, .inl (fun _ => 0))))) else none
  | _ => none
theorem mn_outer (c : ClassId) (N h0 : Nat) : ∀ i : Nat, Jvm.Free.Multi.outerC c N h0 i = arrV c N (fun j => va_rf (if j < i then some (h0 + 1 + j) else none))
  | 0 => by
    show ({ cls := c, slots := Array.replicate N .null, vm := .none } : Cell) = _
    rw [arrV_new]
    refine congrArg (arrV c N) (funext fun j => ?_)
    simp [va_rf]
  | i + 1 => by
    show (Jvm.Free.Multi.outerC c N h0 i).setSlot i (.ref (h0 + 1 + i)) = _
    rw [mn_outer c N h0 i, arrV_store]
    refine congrArg (arrV c N) (funext fun j => ?_)
    by_cases e : j = i
    · subst e
      simp [updV, va_rf]
    · by_cases h : j < i
      · simp [updV, e, h, Nat.lt_succ_of_lt h]
      · simp [updV, e, h, show ¬ j < i + 1 by omega]
theorem wsO_inv {base lt : Nat} {dA : Nat → ClassId} {h : mH} {k : Nat} {q : Nat × va_E} (hq : (wsO base lt dA h)[k]? = some q) : ∃ c, h[k + 1]? = some c ∧ q = (base + (k + 1), cE base lt dA c) := by
  unfold wsO at hq
  rw [List.getElem?_mapIdx, List.getElem?_tail] at hq
  cases hc : h[k + 1]? with
  | none => rw [hc] at hq; cases hq
  | some c => rw [hc] at hq; cases hq; exact ⟨c, rfl, rfl⟩
theorem s_mn {tb : mT} {cc : ByteArray} {nL : Nat} {own : String} {ret : Option FieldType} {ini : Bool} {pc idx : Nat} (hd : decode cc pc = .ok (.multianewarray idx 2, 4)) (hl : Cond.classLink own idx "[[I" ∈ lw_g) (hw : Cond.arrayClass .int ∈ lw_g) : SA tb cc nL own ret ini pc (i_mn (pc + 4)) := by
  intro d call hS k ls st h r e
  unfold i_mn at e
  split at e
  · next b a st' =>
    by_cases hab : a = 7 ∧ b = 7
    · rw [if_pos hab] at e
      generalize hh' : h ++ (.inl (8, 7, .inr (.inr (.inr (.inr (fun i => if i < 7 then some (h.length + 1 + i) else none))))) :: List.replicate 7 (.inl (0, 7, .inl (fun _ => 0)))) = h' at e
      have hlen : h'.length = h.length + 8 := by rw [← hh']; simp
      have hsl : sl h' = sl h + 56 := by rw [← hh']; simp [sl, szE]
      have hold0 : ∀ j, j < h.length → h'[j]? = h[j]? := fun j hj => by rw [← hh', List.getElem?_append_left hj]
      have hout : h'[h.length]? = some (.inl (8, 7, .inr (.inr (.inr (.inr (fun i => if i < 7 then some (h.length + 1 + i) else none)))))) := by rw [← hh', List.getElem?_append_right (Nat.le_refl _)]; simp
      have hinn : ∀ j, j < 7 → h'[h.length + 1 + j]? = some (.inl (0, 7, .inl (fun _ => 0))) := fun j hj => by
        rw [← hh', List.getElem?_append_right (by omega), show h.length + 1 + j - h.length = j + 1 by omega, List.getElem?_cons_succ, List.getElem?_replicate, if_pos hj]
      refine Or.inr ⟨pc + 4, ls, _, _, e, fun k' e' => by simp only [i_mn]; rw [if_pos hab, hh']; exact e', ⟨by omega, by omega, fun z => ?_⟩, ?_⟩
      · have hl0 : 0 < h.length := by
          cases h with
          | nil => cases z
          | cons _ _ => exact Nat.succ_pos _
        rw [hold0 0 hl0]; exact z
      intro p l e R s m args below meth c D dA base lt n0 s0 Q hC hf hlo hcp hsp hk lsr Hp locs hI
      obtain ⟨hx, hb, hml, ho, ht, hK, -, hNw, -, -, -, hz0, h1⟩ := id hC
      obtain ⟨i1, i2, i3, i4, i5, i6, i7⟩ := id hI
      obtain ⟨rfl, rfl⟩ := hab
      intro T hT X
      have hz := hsz hC hI hT X
      have hpos9 : 0 < h.length := by omega
      obtain ⟨vm₁, cA, comp, -, fA, fC, -, -, X', step⟩ := X.multianewarray2F (ty := .int) hx ho (ht _ hl) hNw.2.2.2.2.2 (ht _ hw) (g := F0 m pc lsr (.int 7 :: .int 7 :: st'.map (cv base lt))) rfl (by rw [hb]; exact hd) (n := 7) (k := 7) rfl (by decide) (by decide) (by decide) (by decide) (by decide) rfl rfl (by show h.length - n0 + (1 + 7) ≤ R.cells; omega) (by show sl h - s0 + (7 + 7 * 7) ≤ R.slots; omega)
      have ec1 : comp = dA 0 := Option.some.inj (fC.symm.trans (hK.2 0 _ rfl).2)
      have ec2 : cA = dA 8 := Option.some.inj (fA.symm.trans (hK.2 8 _ rfl).2)
      subst ec1
      subst ec2
      have h7 : (7 : Int32).toNatClampNeg = 7 := by decide
      rw [h7] at X' step
      generalize hF : Jvm.Free.Multi.fill (T.setVm vm₁) (dA 8) (dA 0) 7 7 (defaultValue .int) 7 = F at X' step
      have hTh : (T.setVm vm₁).heap = Hp := hT
      obtain ⟨f1, f2, -, -⟩ := Jvm.Free.Multi.fill_facts (T.setVm vm₁) (dA 8) (dA 0) 7 7 (defaultValue .int) 7
      rw [hF, hTh] at f1 f2
      have hold : ∀ x : Nat, x < Hp.size → F.heap[x]? = Hp[x]? := fun x hx => by
        have := Jvm.Free.Multi.fill_old (T.setVm vm₁) (dA 8) (dA 0) 7 7 (defaultValue .int) (a := x) (by rw [hTh]; exact hx) 7
        rw [hF, hTh] at this
        exact this
      have hrow : ∀ j : Nat, j < 7 → F.heap[Hp.size + 1 + j]? = some (arrV (dA 0) 7 (fun _ => .int 0)) := fun j hj => by
        have := Jvm.Free.Multi.fill_inner (T.setVm vm₁) (dA 8) (dA 0) 7 7 (defaultValue .int) 7 j hj
        rw [hF, hTh] at this
        rw [this]
        show some ({ cls := dA 0, slots := Array.replicate 7 (.int 0), vm := .none } : Cell) = _
        rw [arrV_new]
      rw [mn_outer] at f2
      have hP' : va_P D vwCl (wsO base lt dA h') F.heap := by
        intro k9 q9 hq9
        obtain ⟨c9, g1, rfl⟩ := wsO_inv hq9
        rcases Nat.lt_trichotomy (k9 + 1) h.length with z | z | z
        · rw [hold0 _ z] at g1
          have ho9 := i4 k9 _ (wsO_get (q := k9 + 1) (by omega) g1)
          exact ho9.kept (hold _ (by show base + (k9 + 1) < Hp.size; omega))
        · rw [z, hout] at g1
          cases g1
          show F.heap[base + (k9 + 1)]? = some (vp_cell _ _)
          rw [z, ← hz, f2, vp_cell_q]
          refine congrArg some (congrArg (arrV (dA 8) 7) (funext fun j => ?_))
          dsimp only
          by_cases hj : j < 7
          · rw [if_pos hj, if_pos hj, Option.map_some, cr_pos (by omega), hz]
            congr 2
            omega
          · rw [if_neg hj, if_neg hj]
            rfl
        · have hj : k9 + 1 - h.length - 1 < 7 := by
            have := (List.getElem?_eq_some_iff.mp g1).1
            omega
          have hg := hinn _ hj
          rw [show h.length + 1 + (k9 + 1 - h.length - 1) = k9 + 1 by omega] at hg
          rw [hg] at g1
          cases g1
          show F.heap[base + (k9 + 1)]? = some (vp_cell _ _)
          have hr := hrow _ hj
          rw [show Hp.size + 1 + (k9 + 1 - h.length - 1) = base + (k9 + 1) by omega] at hr
          exact hr
      have h9 := hk lsr F.heap locs ⟨i1, i2, by rw [hold0 0 hpos9]; exact i3, hP', ⟨by have := i5.1; omega, fun x g1 g2 => by rw [hold x (by have := i5.1; omega)]; exact i5.2.1 x g1 g2, i5.2.2⟩, by omega, by omega⟩
      rw [show h'.length - n0 = h.length - n0 + 1 + 7 by omega, show sl h' - s0 = sl h - s0 + 7 + 7 * 7 by omega] at h9
      obtain ⟨t, a1, b1⟩ := h9 F rfl X'
      refine ⟨t, step t ?_, b1⟩
      have e3 : (Value.ref h.length :: st').map (cv base lt) = .ref T.heap.size :: st'.map (cv base lt) := by
        show Value.ref (cr base lt h.length) :: _ = _
        rw [cr_pos hpos9, hT, hz]
      rw [e3] at a1
      exact a1
    · rw [if_neg hab] at e; cases e
  · cases e
def i_mi (nx : Nat) : mA := fun call k ls st h => match st with
  | .int y :: .int x :: st' => cond (Nat.ble (cats st') 8) ((cV call 0 [] h).bind fun _ => k nx ls (.int (if y < x then y else x) :: st') h) none
  | _ => none
theorem s_mi {tb : mT} {cc : ByteArray} {nL : Nat} {own : String} {ret : Option FieldType} {ini : Bool} {pc idx : Nat} (hd : decode cc pc = .ok (.invokestatic idx, 3)) (hl : Cond.methodLink own idx Lib.Math.min.name ∈ lw_g) (hst : Cond.static Lib.Math.min.name ∈ lw_g) (hini : Cond.initialized "java/lang/Math" ∈ lw_g) (hcode : Cond.code Lib.Math.min.name Lib.Math.min.code 2 (some .int) ∈ lw_g) : SA tb cc nL own ret ini pc (i_mi (pc + 3)) := by
  intro d call hS k ls st h r e
  unfold i_mi at e
  split at e
  · next y x st' =>
    cases hb : Nat.ble (cats st') 8 with
    | false => rw [hb] at e; cases e
    | true =>
      rw [hb] at e
      simp only [cond_true] at e
      obtain ⟨p, hp, e1⟩ := Option.bind_eq_some_iff.mp e
      have h1d := hS.1 _ _ _ (cV_inv hp)
      refine Or.inr ⟨pc + 3, ls, _, h, e1, fun k' e' => by simp only [i_mi, hb, cond_true, hp, Option.bind_some]; exact e', Ge.rf h, ?_⟩
      intro p l e R s m args below meth c D dA base lt n0 s0 Q hC hf hlo hcp hsp hk lsr Hp locs hI
      obtain ⟨hx, hb9, hml, ho, ht, -⟩ := hC
      have hcat := Nat.le_of_ble_eq_true hb
      exact va_mmin hx hb9 (by rw [hml]; exact hI.1.1.symm) ho (ht _ hl) (ht _ hst) (ht _ hini) (ht _ hcode) (by omega) (by rw [cats_map]; omega) (by omega) (by omega) hd (hk lsr Hp locs hI)
  · cases e
