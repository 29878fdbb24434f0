/-! the law from its entry, over what the two constructors make -/
section LAWN
variable {p : Program} {l : Launch} {e : Env} {s : State} {m : MethodId} {args : Array Value} {below : List Frame} {meth : Method} {c : Code} {D : va_G} {dA : Nat → ClassId} {base lt : Nat} {Q : State → Prop} {ls : List Value} {lsr : Array Slot} {h : mH} {Hp : Heap} {locs : List Loc} {pc : Nat}
theorem law_new {ci idx N : Nat} {C : String} {T : u_T} {tyT : Nat → FieldType} {fs : List Value} {rest : List Value} (hd : decode code pc = .ok (.new idx, 3)) (hc : vwCl[ci]? = some (C, T, N)) (hin : ∀ w ∈ u_ws C T N, w ∈ lw_g) (hty : ∀ k, k < N → parseFieldDescriptor (T k).2.2.1 = some (tyT k)) (hl : Cond.classLink R_law idx C ∈ lw_g) (hins : Cond.instantiable C N ∈ lw_g) (hini : Cond.initialized C ∈ lw_g) (hfs : ∀ j, j < N → defaultValue (tyT j) = vp_V fs j) (hfc : ∀ base lt, fs.map (cv base lt) = fs) (hN : fs.length = N)
    (hC : CX p l e room_1 s m args below meth c code 4 R_law ret false D dA base lt 1) (hI : IV D dA base lt 4 s 1 0 ls lsr h Hp locs) (hcp : h.length ≤ 500000) (hsp : sl h ≤ 7000000) (hN9 : N ≤ 1000)
    (kk : ∀ (H1 : Heap), IV D dA base lt 4 s 1 0 ls lsr (h ++ [.inr (ci, fs)]) H1 locs → W p l e room_1 s m args below meth c H1 locs ((h ++ [(.inr (ci, fs) : va_E)]).length - 1) (sl (h ++ [.inr (ci, fs)])) Q (F0 m (pc + 3) lsr ((Value.ref h.length :: rest).map (cv base lt)))) : W p l e room_1 s m args below meth c Hp locs (h.length - 1) (sl h) Q (F0 m pc lsr (rest.map (cv base lt))) := by
  obtain ⟨hx, hb, hml, ho, ht, hK, -, -, -, -, -, hz, h1⟩ := id hC
  obtain ⟨i1, i2, i3, i4, i5, i6, i7⟩ := id hI
  refine va_new hx hb ht hin tyT hty ho (ht _ hl) (ht _ hins) (ht _ hini) hK i4 wsO_D i5 (fun q hq => by show base < q; omega) hc hfs (by show h.length - 1 + 1 ≤ 600000; omega) (by show sl h + N ≤ 7302250; omega) hd (fun q H1 hP1 hD1 hS1 => ?_)
  have ec : cE base lt dA (.inr (ci, fs)) = .inr (ci, fs) := by
    show (.inr (ci, fs.map (cv base lt)) : va_E) = _
    rw [hfc]
  intro T hT X
  have hu := X.heapSize
  rw [hT] at hu
  have hP1 : va_P D vwCl (wsO base lt dA h ++ [(q, cE base lt dA (.inr (ci, fs)))]) H1 := by rw [ec]; exact hP1
  have hD1 : va_D (fun q => base < q) (wsO base lt dA h ++ [(q, cE base lt dA (.inr (ci, fs)))]) := by rw [ec]; exact hD1
  have hq := fresh_q hD1 hP1 (by omega) i3
  subst hq
  have hlen : 0 < h.length := by omega
  have h9 := kk H1 ⟨i1, i2, by rw [List.getElem?_append_left hlen]; exact i3, by rw [wsO_push i3]; exact hP1, hS1, by rw [List.length_append]; omega, by rw [sl_push]; omega⟩
  have e1 : (h ++ [(.inr (ci, fs) : va_E)]).length - 1 = h.length - 1 + 1 := by simp; omega
  have e2 : sl (h ++ [.inr (ci, fs)]) = sl h + N := by rw [sl_push, ← hN]; rfl
  have e3 : (Value.ref h.length :: rest).map (cv base lt) = .ref (base + h.length) :: rest.map (cv base lt) := by
    show Value.ref (cr base lt h.length) :: _ = _
    rw [cr_pos hlen]
  rw [e1, e2, e3] at h9
  exact h9 T hT X
theorem law_I {idx mi maxL q : Nat} {y : MethodName} {bytes : ByteArray} {rest : List Value} {h' : mH} (hd : decode code pc = .ok (.invokespecial idx, 3)) (hmi : 0 < mi) (htb : tbM mi = (y, bytes, maxL, none)) (hl : Cond.methodLink R_law idx y ∈ lw_g) (hi : Cond.instanceMethod y ∈ lw_g) (hini : Cond.initialized y.cls ∈ lw_g) (hcode : Cond.code y bytes maxL none ∈ lw_g) (hmx : maxL ≤ 45) (hy : y.name = "<init>")
    (hdsc : y.cls ≠ "java/lang/invoke/MethodHandle" ∧ y.cls ≠ "java/lang/invoke/VarHandle" ∧ (parseMethodDescriptor y.desc).map (fun d => d.parameters.length) = some 0) (hcall : rn 60 mi [.ref q] h = some (none, h')) (hcat : cats rest ≤ 8)
    (hC : CX p l e room_1 s m args below meth c code 4 R_law ret false D dA base lt 1) (hI : IV D dA base lt 4 s 1 0 ls lsr h Hp locs) (hcp : capOK h')
    (kk : ∀ (H1 : Heap) (locs1 : List Loc), IV D dA base lt 4 s 1 0 ls lsr h' H1 locs1 → W p l e room_1 s m args below meth c H1 locs1 (h'.length - 1) (sl h') Q (F0 m (pc + 3) lsr (rest.map (cv base lt)))) : W p l e room_1 s m args below meth c Hp locs (h.length - 1) (sl h) Q (F0 m pc lsr ((Value.ref q :: rest).map (cv base lt))) := by
  obtain ⟨hd1, hG, hM⟩ := (scM 60).2 mi [.ref q] h _ hmi hcall
  intro T9 hT9 X9
  have hz := hsz hC hI hT9 X9
  have hpre := pre_M hC hI hz [.ref q]
  obtain ⟨hx, hb, hml, ho, ht, hK, hSt, hNw, -⟩ := id hC
  obtain ⟨i1, i2, i3, i4, i5, i6, i7⟩ := id hI
  have hM := hM l D dA base lt
  unfold wO at hM
  rw [htb] at hM
  dsimp only at hG hM
  have hG2 : GoodIn lw_g (Cond.code y bytes maxL none :: lw_g) := gin (fun w hw => by
    rcases List.mem_cons.mp hw with rfl | hw
    · exact hcode
    · exact hw)
  have g1 := hG.1
  have g2 := hG.2.1
  have hrun := va_runI (e := e) (below := below) (meth := meth) (As := []) (rest := rest.map (cv base lt)) (g := F0 m pc lsr ((Value.ref q :: rest).map (cv base lt))) (H := Hp) (locs := locs) (cells := h.length - 1) (slots := sl h) (b := cr base lt q) ⟨hx, hb, hml, ho, ht⟩ hM (cwI (ws' := lw_g) (R := room_1) 0 ht hG2 rfl rfl rfl (ht _ hini) (ht _ hl) (ht _ hi) hy hdsc ⟨by show 60 - 1 + 1 ≤ 2048; omega, by show 8 + (maxL + 11) + 64 * (60 - 1) ≤ 84000; omega⟩) ⟨blind_M, hpre⟩ rfl rfl i1.1 rfl (by show 2 * 0 + _ ≤ 8; rw [cats_map]; omega) hd ⟨by show h.length - 1 + (h'.length - h.length) ≤ 600000; have := hcp.1; omega, by show sl h + (sl h' - sl h) ≤ 7302250; have := hcp.2; omega⟩
  refine call_go hrun i5 (fun H1 locs1 hP1 hS1 => ?_) T9 hT9 X9
  have h9 := kk H1 locs1 ⟨i1, i2, hG.2.2 i3, hP1, hS1, by omega, by omega⟩
  rw [show h.length - 1 + (h'.length - h.length) = h'.length - 1 by omega, show sl h + (sl h' - sl h) = sl h' by omega]
  exact h9
end LAWN
theorem arr_of {s : State} {args : Array Value} {ty : FieldType} (h : (Cond.arrayClass ty).before args s = true) (hr : ∀ C, ty ≠ .object C) : ∃ cA, ArrOfT s cA ty ∧ va_RA s cA ty := by
  obtain ⟨c, k, comp, h1, h2, h3⟩ := Cond.arrayClass_spec h
  refine ⟨c, fun n z => ⟨fun q h => (by cases h), k, h2, comp, h3⟩, ?_⟩
  cases ty with
  | object C => exact absurd rfl (hr C)
  | _ => exact h1
theorem arr_ofO {s : State} {args : Array Value} {C : String} (h : (Cond.arrayOver (.object C)).before args s = true) : ∃ cA, ArrOfT s cA (.object C) ∧ va_RA s cA (.object C) := by
  obtain ⟨comp, c, k, h1, h2, h3, h4, h5⟩ := Cond.arrayOver_spec h
  exact ⟨c, fun n z => ⟨fun q h => (by cases h), k, h3, comp, h4⟩, k, comp, h3, h4, h1, h5⟩
theorem arr_ofA {s : State} {args : Array Value} (h : (Cond.arrayOver (.array .int)).before args s = true) : ∃ cA, ArrOfT s cA (.array .int) ∧ va_RA s cA (.array .int) := by
  obtain ⟨comp, c, k, h1, h2, h3, h4⟩ := Cond.arrayOver_specA h
  exact ⟨c, fun n z => ⟨fun q h => (by cases h), k, h2, comp, h3⟩, h4⟩
set_option maxHeartbeats 4000000 in
set_option maxRecDepth 100000 in
/-- the law, if the two constructors make what LI says, and every step keeps it -/
theorem whole_open {LI : mH → Prop} {MR : Nat} {h1 h2 : mH} (c9 : rn 60 78 [.ref 1] [dm, .inr (9, [.null, .null, .null, .null, .null, .null, .null, .null, .null, .null, .null, .null, .null, .null, .int 0, .int 0, .long 0, .long 0])] = some (none, h1)) (hMR : MR = h1.length) (c10 : rn 60 146 [.ref MR] (h1 ++ [.inr (10, [.null, .int 0, .null, .null, .null, .null, .null, .null, .null, .int 0, .long 0, .long 0, .int 0, .null, .int 0, .int 0, .int 0, .null, .int 0, .null, .int 0, .null, .null, .null])]) = some (none, h2)) (hLI : LI h2) (hcap : capOK h2) (hcap1 : h1.length ≤ 400000 ∧ sl h1 ≤ 6000000) (hAll : lawAll LI MR) {p : Program} {e : Env} {s : State} {m : MethodId} {below : List Frame} {meth : Method} {c : Code} (l : Launch) {b L : Nat} {xs : Nat → Int32} (hL : L ≤ 384) (C0 : lw_At p s m meth c b L xs) : W p l e room_1 s m #[Value.ref b] below meth c s.heap [] 0 0 (lw_Z below #[Value.ref b] s) (entryFrame m ([Value.ref b] : List Value).toArray 4) := by
  obtain ⟨hx, hb, hr, hml, hown, hts, hX, hbl, hlocks, hgv⟩ := C0
  have htg : ∀ w ∈ lw_g, w.before #[Value.ref b] s = true := fun w hw => hts w (List.mem_filter.mp hw).1
  obtain ⟨base, hbase⟩ : ∃ base, s.heap.size = base + 1 := ⟨s.heap.size - 1, by omega⟩
  obtain ⟨k0, i0, hKn0⟩ := u_known (C := RX0) (T := TX0) (N := 4) (n := 4) htg inG0 (htg _ w_266)
  obtain ⟨k1, i1, hKn1⟩ := u_known (C := RX1) (T := TX1) (N := 4) (n := 4) htg inG1 (htg _ w_111)
  obtain ⟨k2, i2, hKn2⟩ := u_known (C := RX2) (T := TX2) (N := 2) (n := 2) htg inG2 (htg _ w_170)
  obtain ⟨k3, i3, hKn3⟩ := u_known (C := RX3) (T := TX3) (N := 4) (n := 4) htg inG3 (htg _ w_287)
  obtain ⟨k4, i4, hKn4⟩ := u_known (C := RX4) (T := TX4) (N := 11) (n := 11) htg inG4 (htg _ w_186)
  obtain ⟨k5, i5, hKn5⟩ := u_known (C := RX5) (T := TX5) (N := 6) (n := 6) htg inG5 (htg _ w_137)
  obtain ⟨k6, i6, hKn6⟩ := u_known (C := RX6) (T := TX6) (N := 2) (n := 2) htg inG6 (htg _ w_309)
  obtain ⟨k7, i7, hKn7⟩ := u_known (C := RX7) (T := TX7) (N := 2) (n := 2) htg inG7 (htg _ w_325)
  obtain ⟨k8, i8, hKn8⟩ := u_known (C := RX8) (T := TX8) (N := 8) (n := 8) htg inG8 (htg _ w_232)
  obtain ⟨k9, i9, hKn9⟩ := u_known (C := RX9) (T := TX9) (N := 18) (n := 18) htg inG9 (htg _ w_99)
  obtain ⟨k10, i10, hKn10⟩ := u_known (C := RX10) (T := TX10) (N := 24) (n := 24) htg inG10 (htg _ w_975)
  obtain ⟨dC, dI, hKc⟩ : ∃ (dC : Nat → ClassId) (dI : Nat → Nat → Nat), ∀ (k : Nat) (q : vw_C), vwCl[k]? = some q → u_Kn s q.1 q.2.1 q.2.2 (dC k) (dI k) := by
    refine ⟨fun k => if k = 0 then k0 else if k = 1 then k1 else if k = 2 then k2 else if k = 3 then k3 else if k = 4 then k4 else if k = 5 then k5 else if k = 6 then k6 else if k = 7 then k7 else if k = 8 then k8 else if k = 9 then k9 else k10, fun k => if k = 0 then i0 else if k = 1 then i1 else if k = 2 then i2 else if k = 3 then i3 else if k = 4 then i4 else if k = 5 then i5 else if k = 6 then i6 else if k = 7 then i7 else if k = 8 then i8 else if k = 9 then i9 else i10, ?_⟩
    intro k q hq
    match k, hq with
    | 0, hq => cases hq; exact hKn0
    | 1, hq => cases hq; exact hKn1
    | 2, hq => cases hq; exact hKn2
    | 3, hq => cases hq; exact hKn3
    | 4, hq => cases hq; exact hKn4
    | 5, hq => cases hq; exact hKn5
    | 6, hq => cases hq; exact hKn6
    | 7, hq => cases hq; exact hKn7
    | 8, hq => cases hq; exact hKn8
    | 9, hq => cases hq; exact hKn9
    | 10, hq => cases hq; exact hKn10
    | k + 11, hq => simp [vwCl] at hq
  obtain ⟨a0, b0⟩ := arr_of (htg _ w_135) (by intro C z; cases z)
  obtain ⟨a1, b1⟩ := arr_of (htg _ w_230) (by intro C z; cases z)
  obtain ⟨a2, b2⟩ := arr_of (htg _ w_340) (by intro C z; cases z)
  obtain ⟨a3, b3⟩ := arr_of (htg _ w_324) (by intro C z; cases z)
  obtain ⟨a4, b4⟩ := arr_ofO (hts _ wn_107)
  obtain ⟨a5, b5⟩ := arr_ofO (hts _ wn_109)
  obtain ⟨a6, b6⟩ := arr_ofO (hts _ wn_184)
  obtain ⟨a7, b7⟩ := arr_ofO (hts _ wn_192)
  obtain ⟨a8, b8⟩ := arr_ofA (hts _ wn_293)
  obtain ⟨dA, hdA⟩ : ∃ dA : Nat → ClassId, ∀ (k : Nat) (q : ClassId × FieldType), (tysO dA)[k]? = some q → ArrOfT s q.1 q.2 ∧ va_RA s q.1 q.2 := by
    refine ⟨fun k => if k = 0 then a0 else if k = 1 then a1 else if k = 2 then a2 else if k = 3 then a3 else if k = 4 then a4 else if k = 5 then a5 else if k = 6 then a6 else if k = 7 then a7 else a8, ?_⟩
    intro k q hq
    match k, hq with
    | 0, hq => cases hq; exact b0
    | 1, hq => cases hq; exact b1
    | 2, hq => cases hq; exact b2
    | 3, hq => cases hq; exact b3
    | 4, hq => cases hq; exact b4
    | 5, hq => cases hq; exact b5
    | 6, hq => cases hq; exact b6
    | 7, hq => cases hq; exact b7
    | 8, hq => cases hq; exact b8
    | k + 9, hq => simp [tysO] at hq
  have hK : va_K (dC, dI) vwCl (tysO dA) s := ⟨hKc, hdA⟩
  have hAo : ∀ a : Nat, a < s.heap.size → ¬ (fun q : Nat => base < q) a := fun a ha => by show ¬ base < a; omega
  have hs := flat_of_before _ hgv
  obtain ⟨lt, hlt, hT⟩ := va_Tof (tm := .static "MoonLine" "LETTERS" "[C") (ty := .char) (N := 6) (f := fun k => .int (ltr k)) (A := fun q => base < q) (by decide) (hs _ (by decide +kernel)) (va_eqt (z := 6) (hs _ (by decide +kernel))) (fun j hj => by
    match j, hj with
    | 0, _ => exact va_eqt (z := 119) (hs _ (by decide +kernel))
    | 1, _ => exact va_eqt (z := 112) (hs _ (by decide +kernel))
    | 2, _ => exact va_eqt (z := 115) (hs _ (by decide +kernel))
    | 3, _ => exact va_eqt (z := 108) (hs _ (by decide +kernel))
    | 4, _ => exact va_eqt (z := 114) (hs _ (by decide +kernel))
    | 5, _ => exact va_eqt (z := 100) (hs _ (by decide +kernel))
    | j + 6, hj => exact absurd hj (by omega)) hAo
  have hZ := va_Zof (hts _ wn_512) (htg _ w_83) hlt hAo
  have hNw : NwO s := ⟨fun w hw => va_Nw.of (nest_tab hw) (hts w (List.mem_filter.mp hw).1), va_AO.of (hts _ wn_107), va_AO.of (hts _ wn_109), va_AO.of (hts _ wn_184), va_AO.of (hts _ wn_192), hts _ wn_293⟩
  have hC : CX p l e room_1 s m #[Value.ref b] below meth c code 4 R_law ret false (dC, dI) dA base lt 1 := ⟨hx, hb, hml, hown, htg, hK, ⟨hZ, hT⟩, hNw, hr, hlocks, fun z => (by cases z), hbase, Nat.le_refl 1⟩
  have hl := lv_entry ([.ref b]) (n := 4) (Nat.le_of_ble_eq_true rfl)
  rw [lg_entry_eq]
  generalize (lg_sl ([.ref b]) ++ List.replicate (4 - (lg_sl ([.ref b])).length) Slot.unset).toArray = lsr at hl ⊢
  have hl : lv_has lsr 4 [(0, .ref b)] := hl
  have hI : IV (dC, dI) dA base lt 4 s 1 0 [.null, .null, .null, .null] lsr [dm] s.heap [] := ⟨lv_less hl (by simp [asc]), Nat.le_refl 4, rfl, fun k q h => by simp [wsO] at h, va_S.rf, Nat.le_refl 1, Nat.zero_le _⟩
  refine law_new (rest := []) (ci := 9) (fs := [.null, .null, .null, .null, .null, .null, .null, .null, .null, .null, .null, .null, .null, .null, .int 0, .int 0, .long 0, .long 0]) (T := TX9) (tyT := tyX9) (show decode code 0 = .ok (.new 7, 3) by decide +kernel) (hc := rfl) inG9 tyX9_ok w_98 w_99 w_83 (fun j hj => match j, hj with
    | 0, _ => rfl
    | 1, _ => rfl
    | 2, _ => rfl
    | 3, _ => rfl
    | 4, _ => rfl
    | 5, _ => rfl
    | 6, _ => rfl
    | 7, _ => rfl
    | 8, _ => rfl
    | 9, _ => rfl
    | 10, _ => rfl
    | 11, _ => rfl
    | 12, _ => rfl
    | 13, _ => rfl
    | 14, _ => rfl
    | 15, _ => rfl
    | 16, _ => rfl
    | 17, _ => rfl
    | j + 18, hj => absurd hj (by omega)) (fun _ _ => rfl) rfl hC hI (by decide) (by decide) (by decide) (fun H1 hI => ?_)
  refine lv_dup hx hb (show decode code 3 = .ok (.dup, 1) by decide +kernel) rfl ?_
  refine law_I (q := 1) (rest := [.ref 1]) (h' := h1) (show decode code 4 = .ok (.invokespecial 9, 3) by decide +kernel) (by decide) (show tbM 78 = (yX9_init, cX9_init, 2, none) from rfl) w_100 w_101 w_83 w_102 (by decide) rfl (by decide +kernel) c9 (by decide) hC hI ⟨by omega, by omega⟩ (fun H1 locs1 hI => ?_)
  refine lv_astore_n (lv' := [(1, .ref (cr base lt 1)), (0, .ref b)]) hx hb (show decode code 7 = .ok (.astore_n 1, 1) by decide +kernel) rfl hl (by decide) rfl (fun lsr hl => ?_)
  have hI : IV (dC, dI) dA base lt 4 s 1 0 [.null, .null, .null, .null] lsr h1 H1 locs1 := ⟨lv_less hl (by simp [asc]), Nat.le_refl 4, hI.2.2⟩
  refine law_new (rest := []) (ci := 10) (fs := [.null, .int 0, .null, .null, .null, .null, .null, .null, .null, .int 0, .long 0, .long 0, .int 0, .null, .int 0, .int 0, .int 0, .null, .int 0, .null, .int 0, .null, .null, .null]) (T := TX10) (tyT := tyX10) (show decode code 8 = .ok (.new 10, 3) by decide +kernel) (hc := rfl) inG10 tyX10_ok w_974 w_975 w_93 (fun j hj => match j, hj with
    | 0, _ => rfl
    | 1, _ => rfl
    | 2, _ => rfl
    | 3, _ => rfl
    | 4, _ => rfl
    | 5, _ => rfl
    | 6, _ => rfl
    | 7, _ => rfl
    | 8, _ => rfl
    | 9, _ => rfl
    | 10, _ => rfl
    | 11, _ => rfl
    | 12, _ => rfl
    | 13, _ => rfl
    | 14, _ => rfl
    | 15, _ => rfl
    | 16, _ => rfl
    | 17, _ => rfl
    | 18, _ => rfl
    | 19, _ => rfl
    | 20, _ => rfl
    | 21, _ => rfl
    | 22, _ => rfl
    | 23, _ => rfl
    | j + 24, hj => absurd hj (by omega)) (fun _ _ => rfl) rfl hC hI (by omega) (by omega) (by decide) (fun H1 hI => ?_)
  refine lv_dup hx hb (show decode code 11 = .ok (.dup, 1) by decide +kernel) rfl ?_
  rw [← hMR]
  refine law_I (q := MR) (rest := [.ref MR]) (h' := h2) (show decode code 12 = .ok (.invokespecial 12, 3) by decide +kernel) (by decide) (show tbM 146 = (yX10_init, cX10_init, 2, none) from rfl) w_976 w_977 w_93 w_978 (by decide) rfl (by decide +kernel) c10 (Nat.le_of_ble_eq_true rfl) hC hI hcap (fun H1 locs1 hI => ?_)
  refine lv_astore_n (lv' := [(2, .ref (cr base lt MR)), (1, .ref (cr base lt 1)), (0, .ref b)]) hx hb (show decode code 15 = .ok (.astore_n 2, 1) by decide +kernel) rfl hl (by decide) rfl (fun lsr hl => ?_)
  refine lv_iconst (v := 0) hx hb (show decode code 16 = .ok (.iconst 0, 1) by decide +kernel) (by decide) ?_
  refine lv_istore_n (lv' := [(3, .int 0), (2, .ref (cr base lt MR)), (1, .ref (cr base lt 1)), (0, .ref b)]) hx hb (show decode code 17 = .ok (.istore_n 3, 1) by decide +kernel) rfl hl (by decide) rfl (fun lsr hl => ?_)
  have hl2 : lv_has lsr 4 [(0, .ref b), (1, .ref (cr base lt 1)), (2, .ref (cr base lt MR)), (3, .int (nI 0))] := lv_sub hl [3, 2, 1, 0] rfl
  exact law_loop hAll hC hX hbl hL (L + 1) 0 (by omega) (by omega) h2 H1 locs1 lsr hLI hcap ⟨by rw [asc4]; exact lv_sub hl2 [1, 2, 3] rfl, Nat.le_refl 4, hI.2.2⟩ hl2
