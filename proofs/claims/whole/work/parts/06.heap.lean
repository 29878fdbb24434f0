/-! locals, cells, calls -/
theorem inv1_get {ls : List Value} {i j : Nat} {v : Value} (h : (inv1 ls i)[j]? = some v) (hv : v ≠ .null) : ls[j]? = some v ∧ ¬ (j + 1 = i ∧ c1 v = false) := by
  unfold inv1 at h
  split at h
  · exact ⟨h, fun q => by omega⟩
  · next a =>
    split at h
    · next w hx =>
      cases hc : c1 w with
      | true =>
        rw [hc] at h
        refine ⟨h, fun q => ?_⟩
        have e : a = j := by omega
        subst e
        have : w = v := Option.some.inj (hx.symm.trans h)
        subst this
        rw [hc] at q
        exact absurd q.2 (by decide)
      | false =>
        rw [hc] at h
        simp only [cond_false] at h
        rw [List.getElem?_set] at h
        by_cases e : a = j
        · subst e
          have hl : a < ls.length := (List.getElem?_eq_some_iff.mp hx).1
          rw [if_pos rfl, if_pos hl] at h
          exact absurd (Option.some.inj h).symm hv
        · rw [if_neg e] at h
          exact ⟨h, fun q => by omega⟩
    · next hx =>
      refine ⟨h, fun q => ?_⟩
      have e : a = j := by omega
      subst e
      rw [hx] at h
      cases h
theorem inv1_len (ls : List Value) (i : Nat) : (inv1 ls i).length = ls.length := by
  unfold inv1
  split
  · rfl
  · split
    · next w _ =>
      cases c1 w
      · exact List.length_set
      · rfl
    · rfl
theorem cv_cat (base lt : Nat) (v : Value) : (cv base lt v).category = v.category := by cases v <;> rfl
theorem cat2 {v : Value} (h : v.category = 2) : c1 v = false := by cases v <;> first | rfl | cases h
theorem asc_sto1 {base lt : Nat} {ls : List Value} {i : Nat} {v : Value} (hi : i < ls.length) (hv : v ≠ .null) : ∀ q ∈ asc base lt (sto1 ls i v), q ∈ (i, cv base lt v) :: (asc base lt ls).filter (fun q => !(q.1 == i) && !(q.1 + 1 == i && q.2.category == 2)) := by
  intro q hq
  obtain ⟨w, h1, h2, h3⟩ := asc_mem hq
  unfold sto1 at h1
  rw [List.getElem?_set] at h1
  by_cases e : i = q.1
  · rw [if_pos e, if_pos (by rw [inv1_len]; omega)] at h1
    cases h1
    exact List.mem_cons.mpr (Or.inl (Prod.ext e.symm h3))
  · rw [if_neg e] at h1
    obtain ⟨g1, g2⟩ := inv1_get h1 h2
    refine List.mem_cons.mpr (Or.inr (List.mem_filter.mpr ⟨by have := asc_get (base := base) (lt := lt) g1 h2; rw [← h3] at this; exact this, ?_⟩))
    have e1 : ¬ q.1 = i := fun z => e z.symm
    simp [e1]
    by_cases z1 : q.1 + 1 = i
    · right
      intro z2
      rw [h3, cv_cat] at z2
      exact g2 ⟨z1, cat2 z2⟩
    · exact Or.inl z1
theorem asc_sto2 {base lt : Nat} {ls : List Value} {i : Nat} {v : Value} (hi : i + 1 < ls.length) (hv : v ≠ .null) : ∀ q ∈ asc base lt (sto2 ls i v), q ∈ (i, cv base lt v) :: (asc base lt ls).filter (fun q => !(q.1 == i) && (!(q.1 == i + 1) && !(q.1 + 1 == i && q.2.category == 2))) := by
  intro q hq
  obtain ⟨w, h1, h2, h3⟩ := asc_mem hq
  unfold sto2 at h1
  rw [List.getElem?_set] at h1
  by_cases e0 : i + 1 = q.1
  · rw [if_pos e0, if_pos (by rw [List.length_set, inv1_len]; omega)] at h1
    cases h1
    exact absurd rfl h2
  · rw [if_neg e0, List.getElem?_set] at h1
    by_cases e : i = q.1
    · rw [if_pos e, if_pos (by rw [inv1_len]; omega)] at h1
      cases h1
      exact List.mem_cons.mpr (Or.inl (Prod.ext e.symm h3))
    · rw [if_neg e] at h1
      obtain ⟨g1, g2⟩ := inv1_get h1 h2
      refine List.mem_cons.mpr (Or.inr (List.mem_filter.mpr ⟨by have := asc_get (base := base) (lt := lt) g1 h2; rw [← h3] at this; exact this, ?_⟩))
      have e1 : ¬ q.1 = i := fun z => e z.symm
      have e2 : ¬ q.1 = i + 1 := fun z => e0 z.symm
      simp [e1, e2]
      by_cases z1 : q.1 + 1 = i
      · right
        intro z2
        rw [h3, cv_cat] at z2
        exact g2 ⟨z1, cat2 z2⟩
      · exact Or.inl z1
theorem lv_less {lsr : Array Slot} {nL : Nat} {l l' : List (Nat × Value)} (h : lv_has lsr nL l) (hs : ∀ q ∈ l', q ∈ l) : lv_has lsr nL l' := ⟨h.1, h.2.1, fun q hq => h.2.2 q (hs q hq)⟩
theorem sto1_len (ls : List Value) (i : Nat) (v : Value) : (sto1 ls i v).length = ls.length := by unfold sto1; rw [List.length_set, inv1_len]
theorem sto2_len (ls : List Value) (i : Nat) (v : Value) : (sto2 ls i v).length = ls.length := by unfold sto2; rw [List.length_set, List.length_set, inv1_len]
section SAL
variable {tb : mT} {cc : ByteArray} {nL : Nat} {own : String} {ret : Option FieldType} {ini : Bool} {pc : Nat}
/-- the locals change, the heap doesn't -/
theorem SA_ls {act : mA} (H : ∀ (call : mC) (k : mK) (ls st : List Value) (h : mH) (r : Option Value × mH), act call k ls st h = some r → ∃ (pc' : Nat) (ls' st' : List Value), k pc' ls' st' h = some r ∧ (∀ k' : mK, k' pc' ls' st' h = some r → act call k' ls st h = some r) ∧ ls'.length = ls.length ∧
    ∀ (p : Program) (l : Launch) (e : Env) (R : Room) (s : State) (m : MethodId) (args : Array Value) (below : List Frame) (meth : Method) (c : Code) (base lt : Nat) (Q : State → Prop) (lsr : Array Slot) (Hp : Heap) (locs : List Loc) (cells slots : Nat), p.tables.exec = Jvm.exec → c.code = cc → ls.length ≤ nL → lv_has lsr nL (asc base lt ls) →
      (∀ lsr' : Array Slot, lv_has lsr' nL (asc base lt ls') → W p l e R s m args below meth c Hp locs cells slots Q (F0 m pc' lsr' (st'.map (cv base lt)))) → W p l e R s m args below meth c Hp locs cells slots Q (F0 m pc lsr (st.map (cv base lt)))) : SA tb cc nL own ret ini pc act := by
  intro d call hS k ls st h r e
  obtain ⟨pc', ls', st', h1, h2, hlen, h3⟩ := H call k ls st h r e
  refine Or.inr ⟨pc', ls', st', h, h1, h2, Ge.rf h, ?_⟩
  intro p l e R s m args below meth c D dA base lt n0 s0 Q hC _ _ _ _ hk lsr Hp locs hI
  obtain ⟨hx, hb, -, ho, ht, -⟩ := hC
  obtain ⟨i1, i2, i3⟩ := hI
  exact h3 p l e R s m args below meth c base lt Q lsr Hp locs _ _ hx hb i2 i1 (fun lsr' hl' => hk lsr' Hp locs ⟨hl', by rw [hlen]; exact i2, i3⟩)
theorem s_istore_n {j : Fin 4} {i : Nat} (hd : decode cc pc = .ok (.istore_n j, 1)) (hj : (j : Nat) = i) : SA tb cc nL own ret ini pc (i_si i (pc + 1)) :=
  SA_ls fun call k ls st h r e => by
    unfold i_si at e
    split at e
    · next x st' =>
      cases hc : Nat.blt i ls.length with
      | false => rw [hc] at e; cases e
      | true =>
        rw [hc] at e
        have hi : i < ls.length := Nat.blt_eq ▸ hc
        refine ⟨pc + 1, _, _, e, fun k' e' => by simp only [i_si, hc]; exact e', sto1_len _ _ _, ?_⟩
        intro p l e R s m args below meth c base lt Q lsr Hp locs cells slots hex hb hn hl hk
        exact lv_istore_n hex hb hd hj hl (by omega) rfl (fun ls' hl' => hk ls' (lv_less hl' (asc_sto1 hi (by simp))))
    · cases e
theorem s_istore {i : Nat} (hd : decode cc pc = .ok (.istore i, 2)) : SA tb cc nL own ret ini pc (i_si i (pc + 2)) :=
  SA_ls fun call k ls st h r e => by
    unfold i_si at e
    split at e
    · next x st' =>
      cases hc : Nat.blt i ls.length with
      | false => rw [hc] at e; cases e
      | true =>
        rw [hc] at e
        have hi : i < ls.length := Nat.blt_eq ▸ hc
        refine ⟨pc + 2, _, _, e, fun k' e' => by simp only [i_si, hc]; exact e', sto1_len _ _ _, ?_⟩
        intro p l e R s m args below meth c base lt Q lsr Hp locs cells slots hex hb hn hl hk
        exact lv_istore hex hb hd hl (by omega) rfl (fun ls' hl' => hk ls' (lv_less hl' (asc_sto1 hi (by simp))))
    · cases e
theorem s_astore_n {j : Fin 4} {i : Nat} (hd : decode cc pc = .ok (.astore_n j, 1)) (hj : (j : Nat) = i) : SA tb cc nL own ret ini pc (i_sa i (pc + 1)) :=
  SA_ls fun call k ls st h r e => by
    unfold i_sa at e
    split at e
    · next x st' =>
      cases hc : Nat.blt i ls.length with
      | false => rw [hc] at e; cases e
      | true =>
        rw [hc] at e
        have hi : i < ls.length := Nat.blt_eq ▸ hc
        refine ⟨pc + 1, _, _, e, fun k' e' => by simp only [i_sa, hc]; exact e', sto1_len _ _ _, ?_⟩
        intro p l e R s m args below meth c base lt Q lsr Hp locs cells slots hex hb hn hl hk
        exact lv_astore_n hex hb hd hj hl (by omega) rfl (fun ls' hl' => hk ls' (lv_less hl' (asc_sto1 (v := .ref x) hi (by simp))))
    · cases e
theorem s_astore {i : Nat} (hd : decode cc pc = .ok (.astore i, 2)) : SA tb cc nL own ret ini pc (i_sa i (pc + 2)) :=
  SA_ls fun call k ls st h r e => by
    unfold i_sa at e
    split at e
    · next x st' =>
      cases hc : Nat.blt i ls.length with
      | false => rw [hc] at e; cases e
      | true =>
        rw [hc] at e
        have hi : i < ls.length := Nat.blt_eq ▸ hc
        refine ⟨pc + 2, _, _, e, fun k' e' => by simp only [i_sa, hc]; exact e', sto1_len _ _ _, ?_⟩
        intro p l e R s m args below meth c base lt Q lsr Hp locs cells slots hex hb hn hl hk
        exact lv_astore hex hb hd hl (by omega) rfl (fun ls' hl' => hk ls' (lv_less hl' (asc_sto1 (v := .ref x) hi (by simp))))
    · cases e
theorem s_lstore_n {j : Fin 4} {i : Nat} (hd : decode cc pc = .ok (.lstore_n j, 1)) (hj : (j : Nat) = i) : SA tb cc nL own ret ini pc (i_sl i (pc + 1)) :=
  SA_ls fun call k ls st h r e => by
    unfold i_sl at e
    split at e
    · next x st' =>
      cases hc : Nat.blt (i + 1) ls.length with
      | false => rw [hc] at e; cases e
      | true =>
        rw [hc] at e
        have hi : i + 1 < ls.length := Nat.blt_eq ▸ hc
        refine ⟨pc + 1, _, _, e, fun k' e' => by simp only [i_sl, hc]; exact e', sto2_len _ _ _, ?_⟩
        intro p l e R s m args below meth c base lt Q lsr Hp locs cells slots hex hb hn hl hk
        exact lv_lstore_n hex hb hd hj hl (by omega) rfl (fun ls' hl' => hk ls' (lv_less hl' (asc_sto2 hi (by simp))))
    · cases e
theorem s_lstore {i : Nat} (hd : decode cc pc = .ok (.lstore i, 2)) : SA tb cc nL own ret ini pc (i_sl i (pc + 2)) :=
  SA_ls fun call k ls st h r e => by
    unfold i_sl at e
    split at e
    · next x st' =>
      cases hc : Nat.blt (i + 1) ls.length with
      | false => rw [hc] at e; cases e
      | true =>
        rw [hc] at e
        have hi : i + 1 < ls.length := Nat.blt_eq ▸ hc
        refine ⟨pc + 2, _, _, e, fun k' e' => by simp only [i_sl, hc]; exact e', sto2_len _ _ _, ?_⟩
        intro p l e R s m args below meth c base lt Q lsr Hp locs cells slots hex hb hn hl hk
        exact lv_lstore hex hb hd hl (by omega) rfl (fun ls' hl' => hk ls' (lv_less hl' (asc_sto2 hi (by simp))))
    · cases e
theorem s_iinc {i : Nat} {n : Int} {v : Int32} (hd : decode cc pc = .ok (.iinc i n, 3)) (hv : Int32.ofInt n = v) : SA tb cc nL own ret ini pc (i_inc i v (pc + 3)) :=
  SA_ls fun call k ls st h r e => by
    unfold i_inc at e
    split at e
    · next x hx =>
      have hi : i < ls.length := (List.getElem?_eq_some_iff.mp hx).1
      refine ⟨pc + 3, _, _, e, fun k' e' => by simp only [i_inc, hx]; exact e', sto1_len _ _ _, ?_⟩
      intro p l e R s m args below meth c base lt Q lsr Hp locs cells slots hex hb hn hl hk
      obtain ⟨j, hj⟩ := List.mem_iff_getElem?.mp (asc_get (base := base) (lt := lt) hx (by simp))
      subst hv
      exact lv_iinc hex hb hd hl (k := j) hj rfl (by omega) rfl (fun ls' hl' => hk ls' (lv_less hl' (asc_sto1 hi (by simp))))
    · cases e
theorem sw_inv {k : mK} {ls st : List Value} {h : mH} {df : Nat} {x : Int32} {r : Option Value × mH} : ∀ {ts : List (Int32 × Nat)}, swk k ls st h df x ts = some r → ∃ tg, k tg ls st h = some r ∧ (∀ k' : mK, k' tg ls st h = some r → swk k' ls st h df x ts = some r) ∧ ((∃ i : Nat, ts[i]? = some (x, tg)) ∨ tg = df ∧ ∀ q ∈ ts, x ≠ q.1)
  | [], e => ⟨df, e, fun _ e' => e', Or.inr ⟨rfl, fun q hq => by cases hq⟩⟩
  | p :: ts, e => by
    unfold swk at e
    by_cases hx : x = p.1
    · rw [if_pos hx] at e
      refine ⟨p.2, e, fun k' e' => by unfold swk; rw [if_pos hx]; exact e', Or.inl ⟨0, by rw [hx]; rfl⟩⟩
    · rw [if_neg hx] at e
      obtain ⟨tg, h1, h2, h3⟩ := sw_inv e
      refine ⟨tg, h1, fun k' e' => by unfold swk; rw [if_neg hx]; exact h2 k' e', ?_⟩
      rcases h3 with ⟨i, hi⟩ | ⟨q1, q2⟩
      · exact Or.inl ⟨i + 1, hi⟩
      · refine Or.inr ⟨q1, fun q hq => ?_⟩
        rcases List.mem_cons.mp hq with rfl | hq
        · exact hx
        · exact q2 q hq
theorem s_sw {dflt lo hi : Int} {offs : Array Int} {len : Nat} {ts : List (Int32 × Nat)} {df : Nat} (hd : decode cc pc = .ok (.tableswitch dflt lo hi offs, len)) (hdf : (pc : Int) + dflt = (df : Int)) (hn : lo + ts.length = hi + 1)
    (hts : ∀ i, i < ts.length → ∃ q, ts[i]? = some q ∧ q.1.toInt = lo + i ∧ ∃ off, offs[i]? = some off ∧ (pc : Int) + off = (q.2 : Int)) : SA tb cc nL own ret ini pc (i_sw ts df) :=
  SA_st fun call k ls st h r e => by
    unfold i_sw at e
    split at e
    · next x st' =>
      obtain ⟨tg, h1, h2, h3⟩ := sw_inv e
      refine ⟨tg, _, h1, fun k' e' => h2 k' e', ?_⟩
      intro p l e R s m args below meth c base lt Q lsr Hp locs cells slots hex hb ho _ hl hk
      rcases h3 with ⟨i, hi9⟩ | ⟨q1, q2⟩
      · have hil : i < ts.length := (List.getElem?_eq_some_iff.mp hi9).1
        obtain ⟨q, g1, g2, off, g3, g4⟩ := hts i hil
        rw [hi9] at g1
        cases g1
        dsimp only at g2 g4
        refine lv_tableIn hex hb hd (by omega) (by omega) (off := off) (tgt := tg) ?_ g4 hk
        rw [g2, show (lo + (i : Int) - lo).toNat = i by omega]
        exact g3
      · subst q1
        refine lv_tableOut hex hb hd ?_ hdf hk
        refine Classical.byContradiction fun z => ?_
        have z1 : ¬ x.toInt < lo := fun q => z (Or.inl q)
        have z2 : ¬ hi < x.toInt := fun q => z (Or.inr q)
        have hil : (x.toInt - lo).toNat < ts.length := by omega
        obtain ⟨q, g1, g2, -⟩ := hts _ hil
        refine q2 q (List.mem_of_getElem? g1) (Int32.toInt_inj.mp ?_)
        rw [g2]
        omega
    · cases e
end SAL
