/-! calls as acts, ends, new cells -/
theorem cV_inv {call : mC} {mi : Nat} {as : List Value} {h h' : mH} (e : cV call mi as h = some h') : call mi as h = some (none, h') := by
  unfold cV at e
  split at e
  · next h9 hc => cases e; exact hc
  · cases e
theorem cI_inv {call : mC} {mi : Nat} {as : List Value} {h : mH} {p : Int32 × mH} (e : cI call mi as h = some p) : call mi as h = some (some (.int p.1), p.2) := by
  unfold cI at e
  split at e
  · next x h9 hc => cases e; exact hc
  · cases e
theorem cL_inv {call : mC} {mi : Nat} {as : List Value} {h : mH} {p : Int64 × mH} (e : cL call mi as h = some p) : call mi as h = some (some (.long p.1), p.2) := by
  unfold cL at e
  split at e
  · next x h9 hc => cases e; exact hc
  · cases e
theorem bl2 {a b c d : Nat} (h : (Nat.ble a b && Nat.ble c d) = true) : a ≤ b ∧ c ≤ d := by
  simp only [Bool.and_eq_true] at h
  exact ⟨Nat.le_of_ble_eq_true h.1, Nat.le_of_ble_eq_true h.2⟩
section SAK
variable {tb : mT} {cc : ByteArray} {nL : Nat} {own : String} {ret : Option FieldType} {ini : Bool} {pc : Nat} {mi n idx maxL : Nat} {y : MethodName} {bytes : ByteArray} {rt : Option FieldType}
theorem s_vV {ci N : Nat} {C : String} {T : u_T} (hd : decode cc pc = .ok (.invokevirtual idx, 3)) (hmi : 0 < mi) (htb : tb mi = (y, bytes, maxL, rt)) (hc : vwCl[ci]? = some (C, T, N)) (hci : ci < 999) (hl : Cond.methodLink own idx y ∈ lw_g) (hi : Cond.instanceMethod y ∈ lw_g) (hsel : Cond.selects C y y ∈ lw_g) (hini : Cond.initialized C ∈ lw_g) (hcode : Cond.code y bytes maxL rt ∈ lw_g) (hmx : maxL ≤ 45) (hdsc : y.cls = C ∧ y.cls ≠ "java/lang/invoke/MethodHandle" ∧ y.cls ≠ "java/lang/invoke/VarHandle" ∧ (parseMethodDescriptor y.desc).map (fun d => d.parameters.length) = some n) : SA tb cc nL own ret ini pc (i_vV ci mi (n + 1) (pc + 3)) := by
  intro d call hS k ls st h r e
  unfold i_vV at e
  cases hb : (Nat.ble (n + 1) st.length && Nat.ble (cats (st.drop (n + 1))) 8) with
  | false => rw [hb] at e; cases e
  | true =>
    rw [hb] at e
    simp only [cond_true] at e
    by_cases hrc : rc h ci (st.take (n + 1)).reverse = true
    · rw [if_pos hrc] at e
      obtain ⟨p, hp, e1⟩ := Option.bind_eq_some_iff.mp e
      have hb2 := bl2 hb
      obtain ⟨hG, hW⟩ := core_V (ret := ret) (ini := ini) (nL := nL) (ls := ls) (r := (none, p)) hd hmi htb hc hci hl hi hsel hini hcode hmx hdsc hS (cV_inv hp) rfl hb2.1 hb2.2 hrc
      exact Or.inr ⟨pc + 3, ls, st.drop (n + 1), p, e1, fun k' e' => by simp only [i_vV, hb, cond_true, if_pos hrc, hp, Option.bind_some]; exact e', hG, hW⟩
    · rw [if_neg hrc] at e; cases e
theorem s_vI {ci N : Nat} {C : String} {T : u_T} (hd : decode cc pc = .ok (.invokevirtual idx, 3)) (hmi : 0 < mi) (htb : tb mi = (y, bytes, maxL, rt)) (hc : vwCl[ci]? = some (C, T, N)) (hci : ci < 999) (hl : Cond.methodLink own idx y ∈ lw_g) (hi : Cond.instanceMethod y ∈ lw_g) (hsel : Cond.selects C y y ∈ lw_g) (hini : Cond.initialized C ∈ lw_g) (hcode : Cond.code y bytes maxL rt ∈ lw_g) (hmx : maxL ≤ 45) (hdsc : y.cls = C ∧ y.cls ≠ "java/lang/invoke/MethodHandle" ∧ y.cls ≠ "java/lang/invoke/VarHandle" ∧ (parseMethodDescriptor y.desc).map (fun d => d.parameters.length) = some n) : SA tb cc nL own ret ini pc (i_vI ci mi (n + 1) (pc + 3)) := by
  intro d call hS k ls st h r e
  unfold i_vI at e
  cases hb : (Nat.ble (n + 1) st.length && Nat.ble (cats (st.drop (n + 1))) 8) with
  | false => rw [hb] at e; cases e
  | true =>
    rw [hb] at e
    simp only [cond_true] at e
    by_cases hrc : rc h ci (st.take (n + 1)).reverse = true
    · rw [if_pos hrc] at e
      obtain ⟨p, hp, e1⟩ := Option.bind_eq_some_iff.mp e
      have hb2 := bl2 hb
      obtain ⟨hG, hW⟩ := core_V (ret := ret) (ini := ini) (nL := nL) (ls := ls) (r := (some (.int p.1), p.2)) hd hmi htb hc hci hl hi hsel hini hcode hmx hdsc hS (cI_inv hp) rfl hb2.1 hb2.2 hrc
      exact Or.inr ⟨pc + 3, ls, .int p.1 :: st.drop (n + 1), p.2, e1, fun k' e' => by simp only [i_vI, hb, cond_true, if_pos hrc, hp, Option.bind_some]; exact e', hG, hW⟩
    · rw [if_neg hrc] at e; cases e
theorem s_vL {ci N : Nat} {C : String} {T : u_T} (hd : decode cc pc = .ok (.invokevirtual idx, 3)) (hmi : 0 < mi) (htb : tb mi = (y, bytes, maxL, rt)) (hc : vwCl[ci]? = some (C, T, N)) (hci : ci < 999) (hl : Cond.methodLink own idx y ∈ lw_g) (hi : Cond.instanceMethod y ∈ lw_g) (hsel : Cond.selects C y y ∈ lw_g) (hini : Cond.initialized C ∈ lw_g) (hcode : Cond.code y bytes maxL rt ∈ lw_g) (hmx : maxL ≤ 45) (hdsc : y.cls = C ∧ y.cls ≠ "java/lang/invoke/MethodHandle" ∧ y.cls ≠ "java/lang/invoke/VarHandle" ∧ (parseMethodDescriptor y.desc).map (fun d => d.parameters.length) = some n) : SA tb cc nL own ret ini pc (i_vL ci mi (n + 1) (pc + 3)) := by
  intro d call hS k ls st h r e
  unfold i_vL at e
  cases hb : (Nat.ble (n + 1) st.length && Nat.ble (cats (st.drop (n + 1))) 8) with
  | false => rw [hb] at e; cases e
  | true =>
    rw [hb] at e
    simp only [cond_true] at e
    by_cases hrc : rc h ci (st.take (n + 1)).reverse = true
    · rw [if_pos hrc] at e
      obtain ⟨p, hp, e1⟩ := Option.bind_eq_some_iff.mp e
      have hb2 := bl2 hb
      obtain ⟨hG, hW⟩ := core_V (ret := ret) (ini := ini) (nL := nL) (ls := ls) (r := (some (.long p.1), p.2)) hd hmi htb hc hci hl hi hsel hini hcode hmx hdsc hS (cL_inv hp) rfl hb2.1 hb2.2 hrc
      exact Or.inr ⟨pc + 3, ls, .long p.1 :: st.drop (n + 1), p.2, e1, fun k' e' => by simp only [i_vL, hb, cond_true, if_pos hrc, hp, Option.bind_some]; exact e', hG, hW⟩
    · rw [if_neg hrc] at e; cases e
theorem s_sV (hd : decode cc pc = .ok (.invokestatic idx, 3)) (hmi : 0 < mi) (htb : tb mi = (y, bytes, maxL, rt)) (hl : Cond.methodLink own idx y ∈ lw_g) (hi : Cond.static y ∈ lw_g) (hini : Cond.initialized y.cls ∈ lw_g) (hcode : Cond.code y bytes maxL rt ∈ lw_g) (hmx : maxL ≤ 45) (hdsc : y.cls ≠ "java/lang/invoke/MethodHandle" ∧ y.cls ≠ "java/lang/invoke/VarHandle" ∧ (parseMethodDescriptor y.desc).map (fun d => d.parameters.length) = some n) : SA tb cc nL own ret ini pc (i_cV mi n (pc + 3)) := by
  intro d call hS k ls st h r e
  unfold i_cV at e
  cases hb : (Nat.ble n st.length && Nat.ble (cats (st.drop n)) 8) with
  | false => rw [hb] at e; cases e
  | true =>
    rw [hb] at e
    simp only [cond_true] at e
    obtain ⟨p, hp, e1⟩ := Option.bind_eq_some_iff.mp e
    have hb2 := bl2 hb
    obtain ⟨hG, hW⟩ := core_S (ret := ret) (ini := ini) (nL := nL) (ls := ls) (r := (none, p)) hd hmi htb hl hi hini hcode hmx hdsc hS (cV_inv hp) rfl hb2.1 hb2.2
    exact Or.inr ⟨pc + 3, ls, st.drop n, p, e1, fun k' e' => by simp only [i_cV, hb, cond_true, hp, Option.bind_some]; exact e', hG, hW⟩
theorem s_sI (hd : decode cc pc = .ok (.invokestatic idx, 3)) (hmi : 0 < mi) (htb : tb mi = (y, bytes, maxL, rt)) (hl : Cond.methodLink own idx y ∈ lw_g) (hi : Cond.static y ∈ lw_g) (hini : Cond.initialized y.cls ∈ lw_g) (hcode : Cond.code y bytes maxL rt ∈ lw_g) (hmx : maxL ≤ 45) (hdsc : y.cls ≠ "java/lang/invoke/MethodHandle" ∧ y.cls ≠ "java/lang/invoke/VarHandle" ∧ (parseMethodDescriptor y.desc).map (fun d => d.parameters.length) = some n) : SA tb cc nL own ret ini pc (i_cI mi n (pc + 3)) := by
  intro d call hS k ls st h r e
  unfold i_cI at e
  cases hb : (Nat.ble n st.length && Nat.ble (cats (st.drop n)) 8) with
  | false => rw [hb] at e; cases e
  | true =>
    rw [hb] at e
    simp only [cond_true] at e
    obtain ⟨p, hp, e1⟩ := Option.bind_eq_some_iff.mp e
    have hb2 := bl2 hb
    obtain ⟨hG, hW⟩ := core_S (ret := ret) (ini := ini) (nL := nL) (ls := ls) (r := (some (.int p.1), p.2)) hd hmi htb hl hi hini hcode hmx hdsc hS (cI_inv hp) rfl hb2.1 hb2.2
    exact Or.inr ⟨pc + 3, ls, .int p.1 :: st.drop n, p.2, e1, fun k' e' => by simp only [i_cI, hb, cond_true, hp, Option.bind_some]; exact e', hG, hW⟩
theorem s_sL (hd : decode cc pc = .ok (.invokestatic idx, 3)) (hmi : 0 < mi) (htb : tb mi = (y, bytes, maxL, rt)) (hl : Cond.methodLink own idx y ∈ lw_g) (hi : Cond.static y ∈ lw_g) (hini : Cond.initialized y.cls ∈ lw_g) (hcode : Cond.code y bytes maxL rt ∈ lw_g) (hmx : maxL ≤ 45) (hdsc : y.cls ≠ "java/lang/invoke/MethodHandle" ∧ y.cls ≠ "java/lang/invoke/VarHandle" ∧ (parseMethodDescriptor y.desc).map (fun d => d.parameters.length) = some n) : SA tb cc nL own ret ini pc (i_cL mi n (pc + 3)) := by
  intro d call hS k ls st h r e
  unfold i_cL at e
  cases hb : (Nat.ble n st.length && Nat.ble (cats (st.drop n)) 8) with
  | false => rw [hb] at e; cases e
  | true =>
    rw [hb] at e
    simp only [cond_true] at e
    obtain ⟨p, hp, e1⟩ := Option.bind_eq_some_iff.mp e
    have hb2 := bl2 hb
    obtain ⟨hG, hW⟩ := core_S (ret := ret) (ini := ini) (nL := nL) (ls := ls) (r := (some (.long p.1), p.2)) hd hmi htb hl hi hini hcode hmx hdsc hS (cL_inv hp) rfl hb2.1 hb2.2
    exact Or.inr ⟨pc + 3, ls, .long p.1 :: st.drop n, p.2, e1, fun k' e' => by simp only [i_cL, hb, cond_true, hp, Option.bind_some]; exact e', hG, hW⟩
def i_nV (mi n nx : Nat) : mA := fun call k ls st h => cond (Nat.ble n st.length && Nat.ble (cats (st.drop n)) 8) (match (st.take n).reverse with | .ref q :: as => (cV call mi (.ref q :: as) h).bind fun h' => k nx ls (st.drop n) h' | _ => none) none
theorem s_nV (hd : decode cc pc = .ok (.invokespecial idx, 3)) (hmi : 0 < mi) (htb : tb mi = (y, bytes, maxL, none)) (hl : Cond.methodLink own idx y ∈ lw_g ∨ ∃ host, Cond.methodLinkNest own idx y host ∈ nestL) (hi : Cond.instanceMethod y ∈ lw_g) (hini : Cond.initialized y.cls ∈ lw_g) (hcode : Cond.code y bytes maxL none ∈ lw_g) (hmx : maxL ≤ 45) (hy : y.name = "<init>") (hdsc : y.cls ≠ "java/lang/invoke/MethodHandle" ∧ y.cls ≠ "java/lang/invoke/VarHandle" ∧ (parseMethodDescriptor y.desc).map (fun d => d.parameters.length) = some n) : SA tb cc nL own ret ini pc (i_nV mi (n + 1) (pc + 3)) := by
  intro d call hS k ls st h r e
  unfold i_nV at e
  cases hb : (Nat.ble (n + 1) st.length && Nat.ble (cats (st.drop (n + 1))) 8) with
  | false => rw [hb] at e; cases e
  | true =>
    rw [hb] at e
    simp only [cond_true] at e
    split at e
    · next q as has =>
      obtain ⟨p, hp, e1⟩ := Option.bind_eq_some_iff.mp e
      have hb2 := bl2 hb
      obtain ⟨hG, hW⟩ := core_I (ret := ret) (ini := ini) (nL := nL) (ls := ls) (r := (none, p)) hd hmi htb hl hi hini hcode hmx hy hdsc hS (cV_inv hp) has hb2.1 hb2.2 ⟨q, as, rfl⟩
      exact Or.inr ⟨pc + 3, ls, st.drop (n + 1), p, e1, fun k' e' => by simp only [i_nV, hb, cond_true, has, hp, Option.bind_some]; exact e', hG, hW⟩
    · cases e
theorem s_obj (hd : decode cc pc = .ok (.invokespecial idx, 3)) (hl : Cond.methodLink own idx objectInit ∈ lw_g) (hi : Cond.instanceMethod objectInit ∈ lw_g) (hcode : Cond.code objectInit ⟨#[0xb1]⟩ 1 none ∈ lw_g) : SA tb cc nL own ret ini pc (i_obj (pc + 3)) := by
  intro d call hS k ls st h r e
  unfold i_obj at e
  split at e
  · next q st' =>
    cases hb : Nat.ble (cats st') 8 with
    | false => rw [hb] at e; cases e
    | true =>
      rw [hb] at e
      simp only [cond_true] at e
      obtain ⟨p, hp, e1⟩ := Option.bind_eq_some_iff.mp e
      have h1d := hS.1 _ _ _ (cV_inv hp)
      refine Or.inr ⟨pc + 3, ls, st', h, e1, fun k' e' => by simp only [i_obj, hb, cond_true, hp, Option.bind_some]; exact e', Ge.rf h, ?_⟩
      intro p l e R s m args below meth c D dA base lt n0 s0 Q hC hf hlo _ _ hk lsr Hp locs hI
      obtain ⟨hx, hb9, hml, ho, ht, -⟩ := hC
      have hcat := Nat.le_of_ble_eq_true hb
      refine W.objInit hx hb9 ho (ht _ hl) (ht _ hi) (ht _ hcode) rfl (by rw [hml]; exact hI.1.1) rfl hd (by omega) (by show 2 * 0 + _ + 12 ≤ _; rw [cats_map]; omega) ?_
      exact hk lsr Hp locs hI
  · cases e
theorem s_cp (hd : decode cc pc = .ok (.invokestatic idx, 3)) (hl : Cond.methodLink own idx arraycopyName ∈ lw_g) (hn : Cond.native arraycopyName ∈ lw_g) (hst : Cond.static arraycopyName ∈ lw_g) (hini : Cond.initialized "java/lang/System" ∈ lw_g) : SA tb cc nL own ret ini pc (i_cp (pc + 3)) := by
  intro d call hS k ls st h r e
  unfold i_cp at e
  split at e
  · next n dp a1 sp a0 st' =>
    cases hb : Nat.ble (cats st') 8 with
    | false => rw [hb] at e; cases e
    | true =>
      rw [hb] at e
      simp only [cond_true] at e
      obtain ⟨p, hp, e1⟩ := Option.bind_eq_some_iff.mp e
      obtain ⟨h', hh, e2⟩ := Option.bind_eq_some_iff.mp e1
      have h1d := hS.1 _ _ _ (cV_inv hp)
      obtain ⟨n0, f, n1, g, g1, g2, ⟨q1, q2, q3, q4, q5⟩, rfl⟩ := cpI_inv hh
      refine Or.inr ⟨pc + 3, ls, st', _, e2, fun k' e' => by simp only [i_cp, hb, cond_true, hp, hh, Option.bind_some]; exact e', ⟨by rw [List.length_set]; exact Nat.le_refl _, by rw [sl_set g2 (by rfl)]; exact Nat.le_refl _, fun z => by rw [List.getElem?_set_ne (by have := hpos z g2 (by intro z; cases z); omega)]; exact z⟩, ?_⟩
      intro p l e R s m args below meth c D dA base lt m0 s0 Q hC hf hlo _ _ hk lsr Hp locs hI
      obtain ⟨hx, hb9, hml, ho, ht, hK, -⟩ := hC
      obtain ⟨i1, i2, i3, i4, i5, i6, i7⟩ := id hI
      have hcat := Nat.le_of_ble_eq_true hb
      have p0 := hpos i3 g1 (by intro z; cases z)
      have p1 := hpos i3 g2 (by intro z; cases z)
      show W p l e R s m args below meth c Hp locs _ _ Q (F0 m pc lsr (.int n :: .int dp :: .ref (cr base lt a1) :: .int sp :: .ref (cr base lt a0) :: st'.map (cv base lt)))
      rw [cr_pos p0, cr_pos p1]
      refine va_copyi (ty := .int) hx hb9 (by rw [hml]; exact i1.1.symm) ho (ht _ hl) (ht _ hn) (ht _ hst) (ht _ hini) hK i4 wsO_D i5 (a0 - 1) (a1 - 1) 0 0 (wsO_get p0 g1) (wsO_get p1 g2) rfl rfl rfl (by simpa using q1) (by simpa using q2) (by simpa using q3) q4 q5 (fun _ _ => rfl) (by omega) ?_ hd (fun H1 locs1 hP1 _ hS1 => ?_)
      · rw [cats_map]
        have : nativeFrameWords "java/lang/System" "arraycopy" 5 ≤ 40 := by decide +kernel
        omega
      · have h9 := hk lsr H1 locs1 ⟨i1, i2, by rw [List.getElem?_set_ne (by omega)]; exact i3, by rw [wsO_set p1]; exact hP1, hS1, by rw [List.length_set]; exact i6, by rw [sl_set g2 (by rfl)]; exact i7⟩
        rw [List.length_set, sl_set g2 (by rfl)] at h9
        exact h9
  · cases e
end SAK
section SAE
variable {tb : mT} {cc : ByteArray} {nL : Nat} {own : String} {ini : Bool} {pc : Nat}
theorem end_Q {p : Program} {l : Launch} {e : Env} {R : Room} {s : State} {m : MethodId} {args : Array Value} {below : List Frame} {meth : Method} {c : Code} {ret : Option FieldType} {D : va_G} {dA : Nat → ClassId} {base lt n0 s0 : Nat} {ls : List Value} {lsr : Array Slot} {h : mH} {Hp : Heap} {locs : List Loc} (hC : CX p l e R s m args below meth c cc nL own ret ini D dA base lt n0) (hI : IV D dA base lt nL s n0 s0 ls lsr h Hp locs) (v : Option Value) : ∀ t : State, t.heap = Hp → s.WarmedH t.vm → QcM D dA base lt (v, h) args s (.returned (v.map (cv base lt))) t := by
  intro t ht _
  obtain ⟨-, -, -, -, -, -, -, -, -, -, -, hz, h1⟩ := hC
  obtain ⟨i1, i2, i3, i4, i5, i6, i7⟩ := hI
  exact ⟨rfl, by rw [ht]; exact i4, by rw [ht]; exact i5.1, fun q hq => by rw [ht]; exact i5.2.1 q (by omega) (by omega)⟩
theorem s_rI (hd : decode cc pc = .ok (.ireturn, 1)) : SA tb cc nL own (some .int) ini pc i_rI := by
  intro d call hS k ls st h r e
  unfold i_rI at e
  split at e
  · next x =>
    cases e
    refine Or.inl ⟨fun k' => rfl, rfl, ?_⟩
    intro p l e R s m args below meth c D dA base lt n0 s0 hC lsr Hp locs hI
    have hq := end_Q hC hI (some (.int x))
    obtain ⟨hx, hb, -, -, -, -, -, -, hr, hlk, -⟩ := hC
    exact W.iret hx hb hr hq hI.2.2.2.2.1.2.2 hd hlk
  · cases e
theorem s_rZ (hd : decode cc pc = .ok (.ireturn, 1)) : SA tb cc nL own (some .boolean) ini pc i_rZ := by
  intro d call hS k ls st h r e
  unfold i_rZ at e
  split at e
  · next x =>
    by_cases hx1 : x &&& 1 = x
    · rw [if_pos hx1] at e
      cases e
      refine Or.inl ⟨fun k' => by simp only [i_rZ, if_pos hx1], rfl, ?_⟩
      intro p l e R s m args below meth c D dA base lt n0 s0 hC lsr Hp locs hI
      have hq := end_Q hC hI (some (.int x))
      obtain ⟨hx, hb, -, -, -, -, -, -, hr, hlk, -⟩ := hC
      exact W.zret hx hb hr (by show Value.int (x &&& 1) = _; rw [hx1]) hq hI.2.2.2.2.1.2.2 hd hlk
    · rw [if_neg hx1] at e; cases e
  · cases e
theorem s_rL (hd : decode cc pc = .ok (.lreturn, 1)) : SA tb cc nL own (some .long) ini pc i_rL := by
  intro d call hS k ls st h r e
  unfold i_rL at e
  split at e
  · next x =>
    cases e
    refine Or.inl ⟨fun k' => rfl, rfl, ?_⟩
    intro p l e R s m args below meth c D dA base lt n0 s0 hC lsr Hp locs hI
    have hq := end_Q hC hI (some (.long x))
    obtain ⟨hx, hb, -, -, -, -, -, -, hr, hlk, -⟩ := hC
    exact W.lret hx hb hr hq hI.2.2.2.2.1.2.2 hd hlk
  · cases e
theorem s_rV (hd : decode cc pc = .ok (.return_, 1)) : SA tb cc nL own none ini pc i_rV := by
  intro d call hS k ls st h r e
  unfold i_rV at e
  split at e
  · cases e
    refine Or.inl ⟨fun k' => rfl, rfl, ?_⟩
    intro p l e R s m args below meth c D dA base lt n0 s0 hC lsr Hp locs hI
    have hq := end_Q hC hI none
    obtain ⟨hx, hb, -, -, -, -, -, -, hr, hlk, -⟩ := hC
    exact W.vret hx hb hr hq hI.2.2.2.2.1.2.2 hd hlk
  · cases e
end SAE
/-- a new cell's address is the next one -/
theorem fresh_q {base lt : Nat} {dA : Nat → ClassId} {h : mH} {q : Nat} {E : va_E} {H1 : Heap} {D : va_G} (hD : va_D (fun q => base < q) (wsO base lt dA h ++ [(q, E)])) (hP : va_P D vwCl (wsO base lt dA h ++ [(q, E)]) H1) (hup : H1.size ≤ base + h.length + 1) (h0 : h[0]? = some dm) : q = base + h.length := by
  have hl : (wsO base lt dA h).length = h.length - 1 := by simp [wsO]
  have hat : (wsO base lt dA h ++ [(q, E)])[h.length - 1]? = some (q, E) := by
    rw [List.getElem?_append_right (by omega), hl]
    simp
  have h1 := (hP _ _ hat).lt
  have h2 : base < q := hD.2 _ _ hat
  simp only at h1
  refine Classical.byContradiction fun hne => ?_
  have hj : q - base < h.length := by omega
  have hg := wsO_get (base := base) (lt := lt) (dA := dA) (q := q - base) (by omega) (List.getElem?_eq_getElem hj)
  have hg2 : (wsO base lt dA h ++ [(q, E)])[q - base - 1]? = some (base + (q - base), cE base lt dA h[q - base]) := by
    rw [List.getElem?_append_left (by omega)]
    exact hg
  have := hD.1 _ _ _ _ hg2 hat (by show base + (q - base) = q; omega)
  omega
section SAN
variable {tb : mT} {cc : ByteArray} {nL : Nat} {own : String} {ret : Option FieldType} {ini : Bool} {pc : Nat}
/-- the world with one more cell -/
theorem grow_k {p : Program} {l : Launch} {e : Env} {R : Room} {s : State} {m : MethodId} {args : Array Value} {below : List Frame} {meth : Method} {c : Code} {D : va_G} {dA : Nat → ClassId} {base lt n0 s0 : Nat} {Q : State → Prop} {ls st' : List Value} {lsr : Array Slot} {h : mH} {Hp H1 : Heap} {locs : List Loc} {pc' q k9 : Nat} {c1 : va_E} (hC : CX p l e R s m args below meth c cc nL own ret ini D dA base lt n0) (hI : IV D dA base lt nL s n0 s0 ls lsr h Hp locs)
    (hk : ∀ (lsr : Array Slot) (H : Heap) (locs : List Loc), IV D dA base lt nL s n0 s0 ls lsr (h ++ [c1]) H locs → W p l e R s m args below meth c H locs ((h ++ [c1]).length - n0) (sl (h ++ [c1]) - s0) Q (F0 m pc' lsr ((Value.ref h.length :: st').map (cv base lt)))) (hs1 : szE c1 = k9)
    (hP1 : va_P D vwCl (wsO base lt dA h ++ [(q, cE base lt dA c1)]) H1) (hD1 : va_D (fun q => base < q) (wsO base lt dA h ++ [(q, cE base lt dA c1)])) (hS1 : va_S (fun q => base < q) s.heap H1 locs) : W p l e R s m args below meth c H1 locs (h.length - n0 + 1) (sl h - s0 + k9) Q (F0 m pc' lsr (.ref q :: st'.map (cv base lt))) := by
  obtain ⟨-, -, -, -, -, -, -, -, -, -, -, hz, h1⟩ := hC
  obtain ⟨i1, i2, i3, i4, i5, i6, i7⟩ := hI
  intro T hT X
  have hu := X.heapSize
  rw [hT] at hu
  have hq := fresh_q hD1 hP1 (by omega) i3
  subst hq
  have hlen : 0 < h.length := by
    cases h with
    | nil => cases i3
    | cons _ _ => exact Nat.succ_pos _
  have h9 := hk lsr H1 locs ⟨i1, i2, by rw [List.getElem?_append_left (by omega)]; exact i3, by rw [wsO_push i3]; exact hP1, hS1, by rw [List.length_append]; omega, by rw [sl_push]; omega⟩
  have e1 : (h ++ [c1]).length - n0 = h.length - n0 + 1 := by simp; omega
  have e2 : sl (h ++ [c1]) - s0 = sl h - s0 + k9 := by rw [sl_push, hs1]; omega
  have e3 : (Value.ref h.length :: st').map (cv base lt) = .ref (base + h.length) :: st'.map (cv base lt) := by
    show Value.ref (cr base lt h.length) :: _ = _
    rw [cr_pos hlen]
  rw [e1, e2, e3] at h9
  exact h9 T hT X
theorem Ge_push (h : mH) (c1 : va_E) : Ge (h ++ [c1]) h := by
  refine ⟨by rw [List.length_append]; omega, by rw [sl_push]; omega, fun z => ?_⟩
  have hlen : 0 < h.length := by
    cases h with
    | nil => cases z
    | cons _ _ => exact Nat.succ_pos _
  rw [List.getElem?_append_left hlen]
  exact z
theorem s_new {ci idx N : Nat} {C : String} {T : u_T} {tyT : Nat → FieldType} {fs : List Value} (hd : decode cc pc = .ok (.new idx, 3)) (hc : vwCl[ci]? = some (C, T, N)) (hin : ∀ w ∈ u_ws C T N, w ∈ lw_g) (hty : ∀ k, k < N → parseFieldDescriptor (T k).2.2.1 = some (tyT k)) (hl : Cond.classLink own idx C ∈ lw_g) (hins : Cond.instantiable C N ∈ lw_g) (hini : Cond.initialized C ∈ lw_g) (hfs : ∀ j, j < N → defaultValue (tyT j) = vp_V fs j) (hfc : ∀ base lt, fs.map (cv base lt) = fs) (hN : fs.length = N) : SA tb cc nL own ret ini pc (i_new ci fs (pc + 3)) := by
  intro d call hS k ls st h r e
  refine Or.inr ⟨pc + 3, ls, _, _, e, fun k' e' => e', Ge_push h _, ?_⟩
  intro p l e R s m args below meth c D dA base lt n0 s0 Q hC hf hlo hcp hsp hk lsr Hp locs hI
  obtain ⟨hx, hb, hml, ho, ht, hK, -, -, -, -, -, hz, h1⟩ := id hC
  obtain ⟨i1, i2, i3, i4, i5, i6, i7⟩ := id hI
  rw [List.length_append] at hcp
  rw [sl_push] at hsp
  simp only [List.length_singleton, szE] at hcp hsp
  refine va_new hx hb ht hin tyT hty ho (ht _ hl) (ht _ hins) (ht _ hini) hK i4 wsO_D i5 (fun q hq => by show base < q; omega) hc hfs (by omega) (by omega) hd (fun q H1 hP1 hD1 hS1 => ?_)
  have ec : cE base lt dA (.inr (ci, fs)) = .inr (ci, fs) := by
    show (.inr (ci, fs.map (cv base lt)) : va_E) = _
    rw [hfc]
  exact grow_k (c1 := .inr (ci, fs)) hC hI hk hN (by rw [ec]; exact hP1) (by rw [ec]; exact hD1) hS1
theorem s_newa0 (hd : decode cc pc = .ok (.newarray .int, 2)) (hw : Cond.arrayClass .int ∈ lw_g) : SA tb cc nL own ret ini pc (i_na 0 (pc + 2)) := by
  intro d call hS k ls st h r e
  unfold i_na at e
  split at e
  · next n st' =>
    by_cases hn : n < 0
    · rw [if_pos hn] at e; cases e
    rw [if_neg hn] at e
    by_cases hb1 : n.toNatClampNeg ≤ 100000
    · rw [if_pos hb1] at e
      refine Or.inr ⟨pc + 2, ls, _, _, e, fun k' e' => by simp only [i_na, if_neg hn, if_pos hb1]; exact e', Ge_push h _, ?_⟩
      intro p l e R s m args below meth c D dA base lt n0 s0 Q hC hf hlo hcp hsp hk lsr Hp locs hI
      obtain ⟨hx, hb, hml, ho, ht, hK, -, -, -, -, -, hz, h1⟩ := id hC
      obtain ⟨i1, i2, i3, i4, i5, i6, i7⟩ := id hI
      rw [List.length_append] at hcp
      rw [sl_push] at hsp
      simp only [List.length_singleton, szE] at hcp hsp
      refine va_newa (atype := .int) (ty := .int) (a0 := (n.toNatClampNeg, zr 0)) hx hb (ht _ hw) rfl hK i4 wsO_D i5 (fun q hq => by show base < q; omega) (fun cA => rfl) hn rfl (by show n.toNatClampNeg * 4 ≤ _; omega) (by omega) (by omega) hd (fun q cA H1 hK1 hP1 hD1 hS1 => ?_)
      have ec : cA = dA 0 := Option.some.inj ((hK1.2 9 _ rfl).2.symm.trans (hK1.2 0 _ rfl).2)
      subst ec
      exact grow_k (c1 := .inl (0, n.toNatClampNeg, zr 0)) hC hI hk rfl hP1 hD1 hS1
    · rw [if_neg hb1] at e; cases e
  · cases e
theorem s_newa1 (hd : decode cc pc = .ok (.newarray .long, 2)) (hw : Cond.arrayClass .long ∈ lw_g) : SA tb cc nL own ret ini pc (i_na 1 (pc + 2)) := by
  intro d call hS k ls st h r e
  unfold i_na at e
  split at e
  · next n st' =>
    by_cases hn : n < 0
    · rw [if_pos hn] at e; cases e
    rw [if_neg hn] at e
    by_cases hb1 : n.toNatClampNeg ≤ 100000
    · rw [if_pos hb1] at e
      refine Or.inr ⟨pc + 2, ls, _, _, e, fun k' e' => by simp only [i_na, if_neg hn, if_pos hb1]; exact e', Ge_push h _, ?_⟩
      intro p l e R s m args below meth c D dA base lt n0 s0 Q hC hf hlo hcp hsp hk lsr Hp locs hI
      obtain ⟨hx, hb, hml, ho, ht, hK, -, -, -, -, -, hz, h1⟩ := id hC
      obtain ⟨i1, i2, i3, i4, i5, i6, i7⟩ := id hI
      rw [List.length_append] at hcp
      rw [sl_push] at hsp
      simp only [List.length_singleton, szE] at hcp hsp
      refine va_newa (atype := .long) (ty := .long) (a0 := (n.toNatClampNeg, zr 1)) hx hb (ht _ hw) rfl hK i4 wsO_D i5 (fun q hq => by show base < q; omega) (fun cA => rfl) hn rfl (by show n.toNatClampNeg * 8 ≤ _; omega) (by omega) (by omega) hd (fun q cA H1 hK1 hP1 hD1 hS1 => ?_)
      have ec : cA = dA 1 := Option.some.inj ((hK1.2 9 _ rfl).2.symm.trans (hK1.2 1 _ rfl).2)
      subst ec
      exact grow_k (c1 := .inl (1, n.toNatClampNeg, zr 1)) hC hI hk rfl hP1 hD1 hS1
    · rw [if_neg hb1] at e; cases e
  · cases e
theorem s_newa2 (hd : decode cc pc = .ok (.newarray .byte, 2)) (hw : Cond.arrayClass .byte ∈ lw_g) : SA tb cc nL own ret ini pc (i_na 2 (pc + 2)) := by
  intro d call hS k ls st h r e
  unfold i_na at e
  split at e
  · next n st' =>
    by_cases hn : n < 0
    · rw [if_pos hn] at e; cases e
    rw [if_neg hn] at e
    by_cases hb1 : n.toNatClampNeg ≤ 100000
    · rw [if_pos hb1] at e
      refine Or.inr ⟨pc + 2, ls, _, _, e, fun k' e' => by simp only [i_na, if_neg hn, if_pos hb1]; exact e', Ge_push h _, ?_⟩
      intro p l e R s m args below meth c D dA base lt n0 s0 Q hC hf hlo hcp hsp hk lsr Hp locs hI
      obtain ⟨hx, hb, hml, ho, ht, hK, -, -, -, -, -, hz, h1⟩ := id hC
      obtain ⟨i1, i2, i3, i4, i5, i6, i7⟩ := id hI
      rw [List.length_append] at hcp
      rw [sl_push] at hsp
      simp only [List.length_singleton, szE] at hcp hsp
      refine va_newa (atype := .byte) (ty := .byte) (a0 := (n.toNatClampNeg, zr 2)) hx hb (ht _ hw) rfl hK i4 wsO_D i5 (fun q hq => by show base < q; omega) (fun cA => rfl) hn rfl (by show n.toNatClampNeg * 1 ≤ _; omega) (by omega) (by omega) hd (fun q cA H1 hK1 hP1 hD1 hS1 => ?_)
      have ec : cA = dA 2 := Option.some.inj ((hK1.2 9 _ rfl).2.symm.trans (hK1.2 2 _ rfl).2)
      subst ec
      exact grow_k (c1 := .inl (2, n.toNatClampNeg, zr 2)) hC hI hk rfl hP1 hD1 hS1
    · rw [if_neg hb1] at e; cases e
  · cases e
theorem s_newa3 (hd : decode cc pc = .ok (.newarray .boolean, 2)) (hw : Cond.arrayClass .boolean ∈ lw_g) : SA tb cc nL own ret ini pc (i_na 3 (pc + 2)) := by
  intro d call hS k ls st h r e
  unfold i_na at e
  split at e
  · next n st' =>
    by_cases hn : n < 0
    · rw [if_pos hn] at e; cases e
    rw [if_neg hn] at e
    by_cases hb1 : n.toNatClampNeg ≤ 100000
    · rw [if_pos hb1] at e
      refine Or.inr ⟨pc + 2, ls, _, _, e, fun k' e' => by simp only [i_na, if_neg hn, if_pos hb1]; exact e', Ge_push h _, ?_⟩
      intro p l e R s m args below meth c D dA base lt n0 s0 Q hC hf hlo hcp hsp hk lsr Hp locs hI
      obtain ⟨hx, hb, hml, ho, ht, hK, -, -, -, -, -, hz, h1⟩ := id hC
      obtain ⟨i1, i2, i3, i4, i5, i6, i7⟩ := id hI
      rw [List.length_append] at hcp
      rw [sl_push] at hsp
      simp only [List.length_singleton, szE] at hcp hsp
      refine va_newa (atype := .boolean) (ty := .boolean) (a0 := (n.toNatClampNeg, zr 3)) hx hb (ht _ hw) rfl hK i4 wsO_D i5 (fun q hq => by show base < q; omega) (fun cA => rfl) hn rfl (by show n.toNatClampNeg * 1 ≤ _; omega) (by omega) (by omega) hd (fun q cA H1 hK1 hP1 hD1 hS1 => ?_)
      have ec : cA = dA 3 := Option.some.inj ((hK1.2 9 _ rfl).2.symm.trans (hK1.2 3 _ rfl).2)
      subst ec
      exact grow_k (c1 := .inl (3, n.toNatClampNeg, zr 3)) hC hI hk rfl hP1 hD1 hS1
    · rw [if_neg hb1] at e; cases e
  · cases e
theorem s_newq4 {idx : Nat} (hd : decode cc pc = .ok (.anewarray idx, 3)) (hl : Cond.classLink own idx "MoonLine$Row" ∈ lw_g) : SA tb cc nL own ret ini pc (i_na 4 (pc + 3)) := by
  intro d call hS k ls st h r e
  unfold i_na at e
  split at e
  · next n st' =>
    by_cases hn : n < 0
    · rw [if_pos hn] at e; cases e
    rw [if_neg hn] at e
    by_cases hb1 : n.toNatClampNeg ≤ 100000
    · rw [if_pos hb1] at e
      refine Or.inr ⟨pc + 3, ls, _, _, e, fun k' e' => by simp only [i_na, if_neg hn, if_pos hb1]; exact e', Ge_push h _, ?_⟩
      intro p l e R s m args below meth c D dA base lt n0 s0 Q hC hf hlo hcp hsp hk lsr Hp locs hI
      obtain ⟨hx, hb, hml, ho, ht, hK, -, hNw, -, -, -, hz, h1⟩ := id hC
      obtain ⟨i1, i2, i3, i4, i5, i6, i7⟩ := id hI
      rw [List.length_append] at hcp
      rw [sl_push] at hsp
      simp only [List.length_singleton, szE] at hcp hsp
      refine va_newq hx hb ho (ht _ hl) hNw.2.1 hK i4 wsO_D i5 (fun q hq => by show base < q; omega) hn rfl (by omega) (by omega) (by omega) hd (fun q cA H1 hK1 hP1 hD1 hS1 => ?_)
      obtain ⟨_, _, -, -, -, z1⟩ := (hK1.2 9 _ rfl).2
      obtain ⟨_, _, -, -, -, z2⟩ := (hK1.2 4 _ rfl).2
      have ec : cA = dA 4 := Option.some.inj (z1.symm.trans z2)
      subst ec
      exact grow_k (c1 := .inl (4, n.toNatClampNeg, zr 4)) hC hI hk rfl hP1 hD1 hS1
    · rw [if_neg hb1] at e; cases e
  · cases e
theorem s_newq5 {idx : Nat} (hd : decode cc pc = .ok (.anewarray idx, 3)) (hl : Cond.classLink own idx "MoonLine$Text" ∈ lw_g) : SA tb cc nL own ret ini pc (i_na 5 (pc + 3)) := by
  intro d call hS k ls st h r e
  unfold i_na at e
  split at e
  · next n st' =>
    by_cases hn : n < 0
    · rw [if_pos hn] at e; cases e
    rw [if_neg hn] at e
    by_cases hb1 : n.toNatClampNeg ≤ 100000
    · rw [if_pos hb1] at e
      refine Or.inr ⟨pc + 3, ls, _, _, e, fun k' e' => by simp only [i_na, if_neg hn, if_pos hb1]; exact e', Ge_push h _, ?_⟩
      intro p l e R s m args below meth c D dA base lt n0 s0 Q hC hf hlo hcp hsp hk lsr Hp locs hI
      obtain ⟨hx, hb, hml, ho, ht, hK, -, hNw, -, -, -, hz, h1⟩ := id hC
      obtain ⟨i1, i2, i3, i4, i5, i6, i7⟩ := id hI
      rw [List.length_append] at hcp
      rw [sl_push] at hsp
      simp only [List.length_singleton, szE] at hcp hsp
      refine va_newq hx hb ho (ht _ hl) hNw.2.2.1 hK i4 wsO_D i5 (fun q hq => by show base < q; omega) hn rfl (by omega) (by omega) (by omega) hd (fun q cA H1 hK1 hP1 hD1 hS1 => ?_)
      obtain ⟨_, _, -, -, -, z1⟩ := (hK1.2 9 _ rfl).2
      obtain ⟨_, _, -, -, -, z2⟩ := (hK1.2 5 _ rfl).2
      have ec : cA = dA 5 := Option.some.inj (z1.symm.trans z2)
      subst ec
      exact grow_k (c1 := .inl (5, n.toNatClampNeg, zr 5)) hC hI hk rfl hP1 hD1 hS1
    · rw [if_neg hb1] at e; cases e
  · cases e
theorem s_newq6 {idx : Nat} (hd : decode cc pc = .ok (.anewarray idx, 3)) (hl : Cond.classLink own idx "MoonLine$Deeds" ∈ lw_g) : SA tb cc nL own ret ini pc (i_na 6 (pc + 3)) := by
  intro d call hS k ls st h r e
  unfold i_na at e
  split at e
  · next n st' =>
    by_cases hn : n < 0
    · rw [if_pos hn] at e; cases e
    rw [if_neg hn] at e
    by_cases hb1 : n.toNatClampNeg ≤ 100000
    · rw [if_pos hb1] at e
      refine Or.inr ⟨pc + 3, ls, _, _, e, fun k' e' => by simp only [i_na, if_neg hn, if_pos hb1]; exact e', Ge_push h _, ?_⟩
      intro p l e R s m args below meth c D dA base lt n0 s0 Q hC hf hlo hcp hsp hk lsr Hp locs hI
      obtain ⟨hx, hb, hml, ho, ht, hK, -, hNw, -, -, -, hz, h1⟩ := id hC
      obtain ⟨i1, i2, i3, i4, i5, i6, i7⟩ := id hI
      rw [List.length_append] at hcp
      rw [sl_push] at hsp
      simp only [List.length_singleton, szE] at hcp hsp
      refine va_newq hx hb ho (ht _ hl) hNw.2.2.2.1 hK i4 wsO_D i5 (fun q hq => by show base < q; omega) hn rfl (by omega) (by omega) (by omega) hd (fun q cA H1 hK1 hP1 hD1 hS1 => ?_)
      obtain ⟨_, _, -, -, -, z1⟩ := (hK1.2 9 _ rfl).2
      obtain ⟨_, _, -, -, -, z2⟩ := (hK1.2 6 _ rfl).2
      have ec : cA = dA 6 := Option.some.inj (z1.symm.trans z2)
      subst ec
      exact grow_k (c1 := .inl (6, n.toNatClampNeg, zr 6)) hC hI hk rfl hP1 hD1 hS1
    · rw [if_neg hb1] at e; cases e
  · cases e
theorem s_newq7 {idx : Nat} (hd : decode cc pc = .ok (.anewarray idx, 3)) (hl : Cond.classLink own idx "MoonLine$Queue" ∈ lw_g) : SA tb cc nL own ret ini pc (i_na 7 (pc + 3)) := by
  intro d call hS k ls st h r e
  unfold i_na at e
  split at e
  · next n st' =>
    by_cases hn : n < 0
    · rw [if_pos hn] at e; cases e
    rw [if_neg hn] at e
    by_cases hb1 : n.toNatClampNeg ≤ 100000
    · rw [if_pos hb1] at e
      refine Or.inr ⟨pc + 3, ls, _, _, e, fun k' e' => by simp only [i_na, if_neg hn, if_pos hb1]; exact e', Ge_push h _, ?_⟩
      intro p l e R s m args below meth c D dA base lt n0 s0 Q hC hf hlo hcp hsp hk lsr Hp locs hI
      obtain ⟨hx, hb, hml, ho, ht, hK, -, hNw, -, -, -, hz, h1⟩ := id hC
      obtain ⟨i1, i2, i3, i4, i5, i6, i7⟩ := id hI
      rw [List.length_append] at hcp
      rw [sl_push] at hsp
      simp only [List.length_singleton, szE] at hcp hsp
      refine va_newq hx hb ho (ht _ hl) hNw.2.2.2.2.1 hK i4 wsO_D i5 (fun q hq => by show base < q; omega) hn rfl (by omega) (by omega) (by omega) hd (fun q cA H1 hK1 hP1 hD1 hS1 => ?_)
      obtain ⟨_, _, -, -, -, z1⟩ := (hK1.2 9 _ rfl).2
      obtain ⟨_, _, -, -, -, z2⟩ := (hK1.2 7 _ rfl).2
      have ec : cA = dA 7 := Option.some.inj (z1.symm.trans z2)
      subst ec
      exact grow_k (c1 := .inl (7, n.toNatClampNeg, zr 7)) hC hI hk rfl hP1 hD1 hS1
    · rw [if_neg hb1] at e; cases e
  · cases e
end SAN
