/-! calls, ends -/
theorem gin {ws : List Cond} (h : ∀ w ∈ ws, w ∈ lw_g) : GoodIn lw_g ws := fun w hw => ⟨h w hw, good_of_word (List.mem_filter.mp (h w hw)).2⟩
theorem wO_in {tb : mT} {mi : Nat} (hc : Cond.code (tb mi).1 (tb mi).2.1 (tb mi).2.2.1 (tb mi).2.2.2 ∈ lw_g) : ∀ w ∈ wO tb mi, w ∈ lw_g := by
  intro w hw
  unfold wO at hw
  rcases List.mem_cons.mp hw with rfl | hw
  · exact hc
  · exact hw
theorem StO_moved {base lt : Nat} {s U : State} {H : Heap} (hvm : s.vm.Alike U.vm) (h : StO base lt s s.heap) (hq : ∀ q : Nat, q < s.heap.size → ¬ base < q → H[q]? = s.heap[q]?) : StO base lt U H := ⟨(h.1.moved hvm).kept hq, (h.2.moved hvm).kept hq⟩
theorem nest_warm {w : Cond} (hw : w ∈ nestL) {s U : State} (hW : s.WarmedH U.vm) (h : va_Nw w s) : va_Nw w U := by
  have h2 := (List.mem_filter.mp hw).2
  cases w with
  | methodLinkNest a b c d => exact va_Nw.warmM hW h
  | fieldLinkNest a b c d e f => exact va_Nw.warmF hW h
  | _ => cases h2
theorem nest_tab {w : Cond} (hw : w ∈ nestL) : w.onTables = true := by
  have h2 := (List.mem_filter.mp hw).2
  cases w with
  | methodLinkNest a b c d => rfl
  | fieldLinkNest a b c d e f => rfl
  | _ => cases h2
theorem NwO_warm {s U : State} (hW : s.WarmedH U.vm) (h : NwO s) : NwO U := ⟨fun w hw => nest_warm hw hW (h.1 w hw), h.2.1.moved hW.alike, h.2.2.1.moved hW.alike, h.2.2.2.1.moved hW.alike, h.2.2.2.2.1.moved hW.alike, h.2.2.2.2.2.moved hW.alike⟩
theorem NwO_same {s U : State} (hv : s.vm = U.vm) (h : NwO s) : NwO U := ⟨fun w hw => va_Nw.same (nest_tab hw) hv (h.1 w hw), h.2.1.moved (by rw [hv]; exact Vm.Alike.refl _), h.2.2.1.moved (by rw [hv]; exact Vm.Alike.refl _), h.2.2.2.1.moved (by rw [hv]; exact Vm.Alike.refl _), h.2.2.2.2.1.moved (by rw [hv]; exact Vm.Alike.refl _), h.2.2.2.2.2.moved (by rw [hv]; exact Vm.Alike.refl _)⟩
theorem blind_M {D : va_G} {dA : Nat → ClassId} {base lt : Nat} {as : List Value} {h : mH} : FrameBlind (PcM D dA base lt as h) := by
  intro a U g mk hp
  obtain ⟨h1, h2, h3, h4, h5, h6, h7⟩ := hp
  exact ⟨h1, h2, h3, h4, va_K.moved (u := U) (U := U.calling g mk a) (Vm.Alike.refl U.vm) h5, StO_moved (s := U) (U := U.calling g mk a) (Vm.Alike.refl U.vm) h6 (fun _ _ _ => rfl), NwO_same (s := U) (U := U.calling g mk a) rfl h7⟩
section CALL
variable {p : Program} {l : Launch} {e : Env} {R : Room} {s : State} {m : MethodId} {args : Array Value} {below : List Frame} {meth : Method} {c : Code} {cc : ByteArray} {nL : Nat} {own : String} {ret : Option FieldType} {ini : Bool} {D : va_G} {dA : Nat → ClassId} {base lt n0 s0 : Nat} {Q : State → Prop} {ls : List Value} {lsr : Array Slot} {h : mH} {Hp : Heap} {locs : List Loc} {pc : Nat}
theorem hsz (hC : CX p l e R s m args below meth c cc nL own ret ini D dA base lt n0) (hI : IV D dA base lt nL s n0 s0 ls lsr h Hp locs) {T : State} (hT : T.heap = Hp) {slots : Nat} (X : Stand p l e R s m args below meth c T locs (h.length - n0) slots) : Hp.size = base + h.length := by
  obtain ⟨-, -, -, -, -, -, -, -, -, -, -, hz, h1⟩ := hC
  obtain ⟨i1, i2, i3, i4, i5, i6, i7⟩ := hI
  have hu := X.heapSize
  rw [hT] at hu
  have hlo : base + h.length ≤ Hp.size := by
    by_cases hl : h.length ≤ 1
    · have := i5.1
      omega
    · have hq : h.length - 1 < h.length := by omega
      have := (i4 (h.length - 1 - 1) _ (wsO_get (q := h.length - 1) (by omega) (List.getElem?_eq_getElem hq))).lt
      simp only at this
      omega
  omega
theorem pre_M (hC : CX p l e R s m args below meth c cc nL own ret ini D dA base lt n0) (hI : IV D dA base lt nL s n0 s0 ls lsr h Hp locs) (hz : Hp.size = base + h.length) (as : List Value) : ∀ U : State, U.heap = Hp → s.WarmedH U.vm → PcM D dA base lt as h (as.map (cv base lt)).toArray U := by
  intro U hU hW
  obtain ⟨-, -, -, -, -, hK, hSt, hNw, -⟩ := hC
  obtain ⟨i1, i2, i3, i4, i5, i6, i7⟩ := hI
  exact ⟨rfl, i3, by rw [hU]; exact hz, by rw [hU]; exact i4, va_K.moved hW.alike hK, by rw [hU]; exact StO_moved hW.alike hSt i5.2.1, NwO_warm hW hNw⟩
theorem call_go {mc ms cells slots : Nat} {st0 rest : List Value} {r : Option Value × mH} {a : Array Value} (hr : va_Run p l e R s m args below meth c Hp locs cells slots mc ms (F0 m pc lsr st0) rest (QcM D dA base lt r a) (fun q => base < q)) (hS : va_S (fun q => base < q) s.heap Hp locs)
    (kk : ∀ (H1 : Heap) (locs1 : List Loc), va_P D vwCl (wsO base lt dA r.2) H1 → va_S (fun q => base < q) s.heap H1 locs1 → W p l e R s m args below meth c H1 locs1 (cells + mc) (slots + ms) Q (F0 m (pc + 3) lsr ((r.1.map (cv base lt)).toList ++ rest))) : W p l e R s m args below meth c Hp locs cells slots Q (F0 m pc lsr st0) := by
  intro T hT X
  obtain ⟨v, st₀, t, T', L, h0, X', hL, e1, e2, ⟨hv, hP, hz, hk⟩, st⟩ := hr T hT X
  cases hv
  rw [h0] at hz hk
  obtain ⟨t2, a1, b1⟩ := kk T'.heap (locs ++ L) (by rw [e1]; exact hP) ⟨Nat.le_trans hS.1 (by rw [e1]; exact hz), fun q h1 h2 => by rw [e1, hk q (by omega)]; exact hS.2.1 q h1 h2, fun q hq => by
      rcases List.mem_append.mp hq with h | h
      · exact hS.2.2 q h
      · exact hL q h⟩ T' rfl X'
  exact ⟨t2, st t2 a1, b1⟩
end CALL
theorem rc_inv {h : mH} {ci : Nat} {as : List Value} (e : rc h ci as = true) : ∃ q as' fs, as = .ref q :: as' ∧ h[q]? = some (.inr (ci, fs)) := by
  unfold rc at e
  split at e
  · next q as' =>
    obtain ⟨fs, hfs⟩ := isO_inv e
    exact ⟨q, as', fs, rfl, hfs⟩
  · cases e
theorem st_cut {st : List Value} {n : Nat} {as : List Value} (has : (st.take n).reverse = as) (f : Value → Value) : st.map f = (as.map f).reverse ++ (st.drop n).map f := by
  rw [← has, List.map_reverse, List.reverse_reverse, ← List.map_append, List.take_append_drop]
theorem cats_map (base lt : Nat) (st : List Value) : ((st.map (cv base lt)).map fun v => v.category).sum = cats st := by
  unfold cats
  rw [List.map_map]
  congr 1
  apply List.map_congr_left
  intro v _
  exact cv_cat base lt v
section CORE
variable {tb : mT} {cc : ByteArray} {nL : Nat} {own : String} {ret : Option FieldType} {ini : Bool} {pc d : Nat} {call : mC} {ls st : List Value} {h : mH} {r : Option Value × mH} {mi n idx maxL : Nat} {y : MethodName} {bytes : ByteArray} {rt : Option FieldType}
theorem core_V {ci N : Nat} {C : String} {T : u_T} (hd : decode cc pc = .ok (.invokevirtual idx, 3)) (hmi : 0 < mi) (htb : tb mi = (y, bytes, maxL, rt)) (hc : vwCl[ci]? = some (C, T, N)) (hci : ci < 999) (hl : Cond.methodLink own idx y ∈ lw_g) (hi : Cond.instanceMethod y ∈ lw_g) (hsel : Cond.selects C y y ∈ lw_g) (hini : Cond.initialized C ∈ lw_g) (hcode : Cond.code y bytes maxL rt ∈ lw_g) (hmx : maxL ≤ 45)
    (hdsc : y.cls = C ∧ y.cls ≠ "java/lang/invoke/MethodHandle" ∧ y.cls ≠ "java/lang/invoke/VarHandle" ∧ (parseMethodDescriptor y.desc).map (fun d => d.parameters.length) = some n) (hS : SC tb d call) {as : List Value} (hcall : call mi as h = some r) (has : (st.take (n + 1)).reverse = as) (hn : n + 1 ≤ st.length) (hcat : cats (st.drop (n + 1)) ≤ 8) (hrc : rc h ci as = true) :
    Ge r.2 h ∧ Wp cc nL own ret ini d pc ls st h (pc + 3) ls (r.1.toList ++ st.drop (n + 1)) r.2 := by
  obtain ⟨hd1, hG, hM⟩ := hS.2 mi as h r hmi hcall
  refine ⟨hG, ?_⟩
  intro p l e R s m args below meth c D dA base lt n0 s0 Q hC hf hlo hcp hsp hk lsr Hp locs hI
  intro T9 hT9 X9
  have hz := hsz hC hI hT9 X9
  have hpre := pre_M hC hI hz as
  obtain ⟨hx, hb, hml, ho, ht, hK, hSt, hNw, -⟩ := id hC
  obtain ⟨i1, i2, i3, i4, i5, i6, i7⟩ := id hI
  obtain ⟨q, as', fs, rfl, hq⟩ := rc_inv hrc
  have hq0 : 0 < q := hpos i3 hq (by intro z; cases z; omega)
  have hM := hM l D dA base lt
  unfold wO at hM
  rw [htb] at hM
  have hlen : as'.length = n := by
    have := congrArg List.length has
    simp at this
    omega
  have hcut := st_cut has (cv base lt)
  have hcw := cwV (own := own) (index := idx) (C := C) (y := y) (ws := Cond.code y bytes maxL rt :: lw_g) (ws' := lw_g) (R := R) (rm := { frames := d - 1, cells := r.2.length - h.length, slots := sl r.2 - sl h, locals := 64 * (d - 1) }) n ht (gin (fun w hw => by
    unfold wsV at hw
    simp only [List.cons_append, List.nil_append, List.mem_cons] at hw
    rcases hw with rfl | rfl | rfl | rfl | rfl | hw
    · exact hl
    · exact hi
    · exact hsel
    · exact hini
    · exact hcode
    · exact hw)) rfl rfl rfl hdsc ⟨by show d - 1 + 1 ≤ R.frames; omega, by show 8 + (maxL + 11) + 64 * (d - 1) ≤ R.locals; omega⟩
  have hst : (st.map (cv base lt)) = (as'.map (cv base lt)).reverse ++ .ref (base + q) :: (st.drop (n + 1)).map (cv base lt) := by
    rw [hcut]
    show (cv base lt (.ref q) :: as'.map (cv base lt)).reverse ++ _ = _
    rw [show cv base lt (.ref q) = .ref (base + q) by show Value.ref (cr base lt q) = _; rw [cr_pos hq0]]
    simp
  have hrun := va_runV (e := e) (below := below) (meth := meth) (As := as'.map (cv base lt)) (rest := (st.drop (n + 1)).map (cv base lt)) (g := F0 m pc lsr (st.map (cv base lt))) (H := Hp) (locs := locs) (cells := h.length - n0) (slots := sl h - s0) (b := base + q) ⟨hx, hb, hml, ho, ht⟩ hM hcw ⟨blind_M, va_recv hK i4 hc (wsO_get hq0 hq), fun U hU hW => by
    have := hpre U hU hW
    rw [show (.ref q :: as').map (cv base lt) = .ref (base + q) :: as'.map (cv base lt) by show cv base lt (.ref q) :: _ = _; rw [show cv base lt (.ref q) = .ref (base + q) by show Value.ref (cr base lt q) = _; rw [cr_pos hq0]]] at this
    exact this⟩ rfl (by rw [List.length_map]; exact hlen) i1.1 hst (by show 2 * 0 + _ ≤ 8; rw [cats_map]; omega) hd ⟨by have := hG.1; omega, by have := hG.2.1; omega⟩
  refine call_go hrun i5 (fun H1 locs1 hP1 hS1 => ?_) T9 hT9 X9
  have h9 := hk lsr H1 locs1 ⟨i1, i2, hG.2.2 i3, hP1, hS1, Nat.le_trans i6 hG.1, Nat.le_trans i7 hG.2.1⟩
  have e1 : h.length - n0 + (r.2.length - h.length) = r.2.length - n0 := by have := hG.1; omega
  have e2 : sl h - s0 + (sl r.2 - sl h) = sl r.2 - s0 := by have := hG.2.1; omega
  rw [e1, e2]
  rw [List.map_append] at h9
  have e3 : (r.1.map (cv base lt)).toList = r.1.toList.map (cv base lt) := by cases r.1 <;> rfl
  rw [e3]
  exact h9
theorem core_S (hd : decode cc pc = .ok (.invokestatic idx, 3)) (hmi : 0 < mi) (htb : tb mi = (y, bytes, maxL, rt)) (hl : Cond.methodLink own idx y ∈ lw_g) (hi : Cond.static y ∈ lw_g) (hini : Cond.initialized y.cls ∈ lw_g) (hcode : Cond.code y bytes maxL rt ∈ lw_g) (hmx : maxL ≤ 45)
    (hdsc : y.cls ≠ "java/lang/invoke/MethodHandle" ∧ y.cls ≠ "java/lang/invoke/VarHandle" ∧ (parseMethodDescriptor y.desc).map (fun d => d.parameters.length) = some n) (hS : SC tb d call) {as : List Value} (hcall : call mi as h = some r) (has : (st.take n).reverse = as) (hn : n ≤ st.length) (hcat : cats (st.drop n) ≤ 8) :
    Ge r.2 h ∧ Wp cc nL own ret ini d pc ls st h (pc + 3) ls (r.1.toList ++ st.drop n) r.2 := by
  obtain ⟨hd1, hG, hM⟩ := hS.2 mi as h r hmi hcall
  refine ⟨hG, ?_⟩
  intro p l e R s m args below meth c D dA base lt n0 s0 Q hC hf hlo hcp hsp hk lsr Hp locs hI
  intro T9 hT9 X9
  have hz := hsz hC hI hT9 X9
  have hpre := pre_M hC hI hz as
  obtain ⟨hx, hb, hml, ho, ht, hK, hSt, hNw, -⟩ := id hC
  obtain ⟨i1, i2, i3, i4, i5, i6, i7⟩ := id hI
  have hM := hM l D dA base lt
  unfold wO at hM
  rw [htb] at hM
  have hlen : as.length = n := by
    have := congrArg List.length has
    simp at this
    omega
  have hcut := st_cut has (cv base lt)
  have hcw := va_cwS (own := own) (index := idx) (y := y) (ws := Cond.code y bytes maxL rt :: lw_g) (ws' := lw_g) (R := R) (rm := { frames := d - 1, cells := r.2.length - h.length, slots := sl r.2 - sl h, locals := 64 * (d - 1) }) n ht (gin (fun w hw => by
    unfold va_wsS at hw
    simp only [List.cons_append, List.nil_append, List.mem_cons] at hw
    rcases hw with rfl | rfl | rfl | rfl | hw
    · exact hl
    · exact hi
    · exact hini
    · exact hcode
    · exact hw)) rfl rfl rfl hdsc ⟨by show d - 1 + 1 ≤ R.frames; omega, by show 8 + (maxL + 11) + 64 * (d - 1) ≤ R.locals; omega⟩
  have hrun := va_runS (e := e) (below := below) (meth := meth) (As := as.map (cv base lt)) (rest := (st.drop n).map (cv base lt)) (g := F0 m pc lsr (st.map (cv base lt))) (H := Hp) (locs := locs) (cells := h.length - n0) (slots := sl h - s0) ⟨hx, hb, hml, ho, ht⟩ hM hcw ⟨blind_M, hpre⟩ rfl (by rw [List.length_map]; exact hlen) i1.1 hcut (by show 2 * 0 + _ ≤ 8; rw [cats_map]; omega) hd ⟨by have := hG.1; omega, by have := hG.2.1; omega⟩
  refine call_go hrun i5 (fun H1 locs1 hP1 hS1 => ?_) T9 hT9 X9
  have h9 := hk lsr H1 locs1 ⟨i1, i2, hG.2.2 i3, hP1, hS1, Nat.le_trans i6 hG.1, Nat.le_trans i7 hG.2.1⟩
  have e1 : h.length - n0 + (r.2.length - h.length) = r.2.length - n0 := by have := hG.1; omega
  have e2 : sl h - s0 + (sl r.2 - sl h) = sl r.2 - s0 := by have := hG.2.1; omega
  rw [e1, e2]
  rw [List.map_append] at h9
  have e3 : (r.1.map (cv base lt)).toList = r.1.toList.map (cv base lt) := by cases r.1 <;> rfl
  rw [e3]
  exact h9
/-- a constructor, of ours or a nest mate's -/
theorem core_I (hd : decode cc pc = .ok (.invokespecial idx, 3)) (hmi : 0 < mi) (htb : tb mi = (y, bytes, maxL, none)) (hl : Cond.methodLink own idx y ∈ lw_g ∨ ∃ host, Cond.methodLinkNest own idx y host ∈ nestL) (hi : Cond.instanceMethod y ∈ lw_g) (hini : Cond.initialized y.cls ∈ lw_g) (hcode : Cond.code y bytes maxL none ∈ lw_g) (hmx : maxL ≤ 45) (hy : y.name = "<init>")
    (hdsc : y.cls ≠ "java/lang/invoke/MethodHandle" ∧ y.cls ≠ "java/lang/invoke/VarHandle" ∧ (parseMethodDescriptor y.desc).map (fun d => d.parameters.length) = some n) (hS : SC tb d call) {as : List Value} (hcall : call mi as h = some r) (has : (st.take (n + 1)).reverse = as) (hn : n + 1 ≤ st.length) (hcat : cats (st.drop (n + 1)) ≤ 8) (hr0 : ∃ q as', as = .ref q :: as') :
    Ge r.2 h ∧ Wp cc nL own ret ini d pc ls st h (pc + 3) ls (r.1.toList ++ st.drop (n + 1)) r.2 := by
  obtain ⟨hd1, hG, hM⟩ := hS.2 mi as h r hmi hcall
  refine ⟨hG, ?_⟩
  intro p l e R s m args below meth c D dA base lt n0 s0 Q hC hf hlo hcp hsp hk lsr Hp locs hI
  intro T9 hT9 X9
  have hz := hsz hC hI hT9 X9
  have hpre := pre_M hC hI hz as
  obtain ⟨hx, hb, hml, ho, ht, hK, hSt, hNw, -⟩ := id hC
  obtain ⟨i1, i2, i3, i4, i5, i6, i7⟩ := id hI
  obtain ⟨q, as', rfl⟩ := hr0
  have hM := hM l D dA base lt
  unfold wO at hM
  rw [htb] at hM
  have hlen : as'.length = n := by
    have := congrArg List.length has
    simp at this
    omega
  have hcut := st_cut has (cv base lt)
  have hst : (st.map (cv base lt)) = (as'.map (cv base lt)).reverse ++ .ref (cr base lt q) :: (st.drop (n + 1)).map (cv base lt) := by
    rw [hcut]
    show (Value.ref (cr base lt q) :: as'.map (cv base lt)).reverse ++ _ = _
    simp
  have hG2 : GoodIn lw_g (Cond.code y bytes maxL none :: lw_g) := gin (fun w hw => by
    rcases List.mem_cons.mp hw with rfl | hw
    · exact hcode
    · exact hw)
  have hroom : (d - 1 + 1 ≤ R.frames ∧ 8 + (maxL + 11) + 64 * (d - 1) ≤ R.locals) := ⟨by omega, by omega⟩
  have hrun : va_Run p l e R s m args below meth c Hp locs (h.length - n0) (sl h - s0) (r.2.length - h.length) (sl r.2 - sl h) (F0 m pc lsr (st.map (cv base lt))) ((st.drop (n + 1)).map (cv base lt)) (QcM D dA base lt r (Value.ref (cr base lt q) :: as'.map (cv base lt)).toArray) (fun q => base < q) := by
    rcases hl with hl | ⟨host, hl⟩
    · exact va_runI (As := as'.map (cv base lt)) (rest := (st.drop (n + 1)).map (cv base lt)) (g := F0 m pc lsr (st.map (cv base lt))) (H := Hp) (locs := locs) (cells := h.length - n0) (slots := sl h - s0) (b := cr base lt q) ⟨hx, hb, hml, ho, ht⟩ hM (cwI (ws' := lw_g) n ht hG2 rfl rfl rfl (ht _ hini) (ht _ hl) (ht _ hi) hy hdsc hroom) ⟨blind_M, hpre⟩ rfl (by rw [List.length_map]; exact hlen) i1.1 hst (by show 2 * 0 + _ ≤ 8; rw [cats_map]; omega) hd ⟨by have := hG.1; omega, by have := hG.2.1; omega⟩
    · exact va_runIN (As := as'.map (cv base lt)) (rest := (st.drop (n + 1)).map (cv base lt)) (g := F0 m pc lsr (st.map (cv base lt))) (H := Hp) (locs := locs) (cells := h.length - n0) (slots := sl h - s0) (b := cr base lt q) ⟨hx, hb, hml, ho, ht⟩ hM ⟨va_cnB (ws' := lw_g) (host := host) n ht hG2 rfl rfl rfl (hNw.1 _ hl) (ht _ hini) hdsc hroom, hy, ht _ hi⟩ ⟨blind_M, hpre⟩ rfl (by rw [List.length_map]; exact hlen) i1.1 hst (by show 2 * 0 + _ ≤ 8; rw [cats_map]; omega) hd ⟨by have := hG.1; omega, by have := hG.2.1; omega⟩
  refine call_go hrun i5 (fun H1 locs1 hP1 hS1 => ?_) T9 hT9 X9
  have h9 := hk lsr H1 locs1 ⟨i1, i2, hG.2.2 i3, hP1, hS1, Nat.le_trans i6 hG.1, Nat.le_trans i7 hG.2.1⟩
  have e1 : h.length - n0 + (r.2.length - h.length) = r.2.length - n0 := by have := hG.1; omega
  have e2 : sl h - s0 + (sl r.2 - sl h) = sl r.2 - s0 := by have := hG.2.1; omega
  rw [e1, e2]
  rw [List.map_append] at h9
  have e3 : (r.1.map (cv base lt)).toList = r.1.toList.map (cv base lt) := by cases r.1 <;> rfl
  rw [e3]
  exact h9
end CORE
