/-! THE CLAIM OUT OF ONE WALK OF THE LAW'S BODY. Your part is whole_start (and what it stands on); all else here is the same for every law, but numbers. -/
def R_law : String := "MoonLineLaw"
def lw_P (b : Addr) (xs : List Int32) (args : Array Value) (s : State) : Prop := args = #[.ref b] ∧ s.IntsAt b xs ∧ xs.length ≤ 384 ∧ (Jvm.Cond.and given_1 narrow_1).before args s = true
def lw_Q (_ : Array Value) (s : State) (o : Outcome) (t : State) : Prop := o = .returned (some (.int 1)) ∧ Framed s o t [] 600000 7302250
def lw_Z (below : List Frame) (a : Array Value) (s : State) : State → Prop := fun t => ∃ o, t.status = .running ∧ Ended t below o ∧ lw_Q a s o t
/-- the law's own end, with 1 on the stack, nothing written that was there before, its room as the claim has it -/
theorem lw_ret {p : Program} {l : Launch} {e : Env} {s : State} {m : MethodId} {below : List Frame} {meth : Method} {c : Code} {b : Nat} (hx : p.tables.exec = Jvm.exec) (hb : c.code = code) (hr : meth.sig.returnType = ret) (hlocks : meth.locks = false) {pc : Nat} {H : Heap} {ls : Array Slot} (hdg : decode code pc = .ok (.ireturn, 1)) : W p l e room_1 s m #[Value.ref b] below meth c H [] 600000 7302250 (lw_Z below #[Value.ref b] s) (F0 m pc ls [.int 1]) := by
  intro T hT X
  obtain ⟨fs, hret, hrun, hended, hW, hframe⟩ := X.leave (v := some (.int 1)) (hlocks := hlocks) (fun h => by rw [hr] at h; cases h)
  have hmeth' : T.vm.method? m = some meth := X.method'
  refine ⟨T.setFrames fs, ?_, .returned (some (.int 1)), hrun, hended, rfl, ⟨_, rfl⟩, hW, hframe⟩
  jvm_step X.here [X.here.top, hx, hb, hdg, hmeth', hr, ret, narrow_b1]
  (try refine ⟨rfl, ?_⟩); (try refine ⟨rfl, ?_⟩)
  first | (intro acts; rw [hret _ acts rfl rfl rfl]) | rw [hret _ _ rfl rfl rfl]
  exact Steps.refl _
/-- what holds at the law's entry: the machine, the code, the tables' words (any of lw_tbl by 'hts w (by decide +kernel)'), the script of L ints xs at the cell b, what the Statement gives of the start (any of its parts by flat_of_before) -/
def lw_At (p : Program) (s : State) (m : MethodId) (meth : Method) (c : Code) (b L : Nat) (xs : Nat → Int32) : Prop :=
  p.tables.exec = Jvm.exec ∧ c.code = code ∧ meth.sig.returnType = ret ∧ c.maxLocals = 4 ∧ s.vm.findClass R_law = some m.cls ∧ (∀ w ∈ lw_tbl, w.before #[Value.ref b] s = true) ∧ va_X b L xs s s.heap ∧ b < s.heap.size ∧ meth.locks = false ∧ (Jvm.Cond.and given_1 narrow_1).before #[Value.ref b] s = true
/-! the law: its calls over the small machine -/
def stI (LI : mH → Prop) (MR mx mm n : Nat) : Prop := ∀ h, LI h → ∀ as : List Int32, as.length = n → ∃ (a : Int32) (h1 h2 : mH), rn 60 mx (.ref 1 :: as.map .int) h = some (some (.int a), h1) ∧ rn 60 mm (.ref MR :: as.map .int) h1 = some (some (.int a), h2) ∧ LI h2 ∧ isO h 1 9 = true ∧ isO h1 MR 10 = true ∧ h1.length = h.length ∧ sl h1 = sl h ∧ h2.length = h.length ∧ sl h2 = sl h
def stL (LI : mH → Prop) (MR mx mm n : Nat) : Prop := ∀ h, LI h → ∀ as : List Int32, as.length = n → ∃ (a : Int64) (h1 h2 : mH), rn 60 mx (.ref 1 :: as.map .int) h = some (some (.long a), h1) ∧ rn 60 mm (.ref MR :: as.map .int) h1 = some (some (.long a), h2) ∧ LI h2 ∧ isO h 1 9 = true ∧ isO h1 MR 10 = true ∧ h1.length = h.length ∧ sl h1 = sl h ∧ h2.length = h.length ∧ sl h2 = sl h
theorem lgc_same (a : Int64) : lg_cmp a a = 0 := by
  unfold lg_cmp
  rw [if_neg (show ¬ a > a from Int64.lt_irrefl), if_pos rfl]
section LAWC
variable {p : Program} {l : Launch} {e : Env} {s : State} {m : MethodId} {args : Array Value} {below : List Frame} {meth : Method} {c : Code} {D : va_G} {dA : Nat → ClassId} {base lt : Nat} {Q : State → Prop} {ls : List Value} {lsr : Array Slot} {h : mH} {Hp : Heap} {locs : List Loc} {pc : Nat}
theorem law_V {ci N n idx mi maxL : Nat} {C : String} {T : u_T} {y : MethodName} {bytes : ByteArray} {rt : Option FieldType} {st : List Value} {as : List Value} {r : Option Value × mH} {cells slots : Nat} (hd : decode code pc = .ok (.invokevirtual idx, 3)) (hmi : 0 < mi) (htb : tbM mi = (y, bytes, maxL, rt)) (hc : vwCl[ci]? = some (C, T, N)) (hci : ci < 999) (hl : Cond.methodLink R_law idx y ∈ lw_g) (hi : Cond.instanceMethod y ∈ lw_g) (hsel : Cond.selects C y y ∈ lw_g) (hini : Cond.initialized C ∈ lw_g) (hcode : Cond.code y bytes maxL rt ∈ lw_g) (hmx : maxL ≤ 45)
    (hdsc : y.cls = C ∧ y.cls ≠ "java/lang/invoke/MethodHandle" ∧ y.cls ≠ "java/lang/invoke/VarHandle" ∧ (parseMethodDescriptor y.desc).map (fun d => d.parameters.length) = some n) (hcall : rn 60 mi as h = some r) (has : (st.take (n + 1)).reverse = as) (hn : n + 1 ≤ st.length) (hcat : cats (st.drop (n + 1)) ≤ 8) (hrc : rc h ci as = true)
    (hC : CX p l e room_1 s m args below meth c code 4 R_law ret false D dA base lt 1) (hI : IV D dA base lt 4 s 1 0 ls lsr h Hp locs) (hce : cells = h.length - 1) (hse : slots = sl h) (hlen : r.2.length = h.length) (hsl : sl r.2 = sl h) (hcp : h.length ≤ 600000) (hsp : sl h ≤ 7302250)
    (kk : ∀ (H1 : Heap) (locs1 : List Loc), IV D dA base lt 4 s 1 0 ls lsr r.2 H1 locs1 → W p l e room_1 s m args below meth c H1 locs1 cells slots Q (F0 m (pc + 3) lsr ((r.1.toList ++ st.drop (n + 1)).map (cv base lt)))) : W p l e room_1 s m args below meth c Hp locs cells slots Q (F0 m pc lsr (st.map (cv base lt))) := by
  subst hce
  subst hse
  obtain ⟨hd1, hG, hM⟩ := (scM 60).2 mi as h r hmi hcall
  intro T9 hT9 X9
  have hz := hsz hC hI hT9 X9
  have hpre := pre_M hC hI hz as
  obtain ⟨hx, hb, hml, ho, ht, hK, hSt, hNw, -⟩ := id hC
  obtain ⟨i1, i2, i3, i4, i5, i6, i7⟩ := id hI
  obtain ⟨q, as', fs, rfl, hq⟩ := rc_inv hrc
  have hq0 : 0 < q := hpos i3 hq (by intro z; cases z; omega)
  have hM := hM l D dA base lt
  unfold wO at hM
  rw [htb] at hM
  rw [hlen, hsl, Nat.sub_self, Nat.sub_self] at hM
  have hlen2 : as'.length = n := by
    have := congrArg List.length has
    simp at this
    omega
  have hcut := st_cut has (cv base lt)
  have hcw := cwV (own := R_law) (index := idx) (C := C) (y := y) (ws := Cond.code y bytes maxL rt :: lw_g) (ws' := lw_g) (R := room_1) (rm := { frames := 60 - 1, cells := 0, slots := 0, locals := 64 * (60 - 1) }) n ht (gin (fun w hw => by
    unfold wsV at hw
    simp only [List.cons_append, List.nil_append, List.mem_cons] at hw
    rcases hw with rfl | rfl | rfl | rfl | rfl | hw
    · exact hl
    · exact hi
    · exact hsel
    · exact hini
    · exact hcode
    · exact hw)) rfl rfl rfl hdsc ⟨by decide, by show 8 + (maxL + 11) + 64 * (60 - 1) ≤ 84000; omega⟩
  have hst : (st.map (cv base lt)) = (as'.map (cv base lt)).reverse ++ .ref (base + q) :: (st.drop (n + 1)).map (cv base lt) := by
    rw [hcut]
    show (cv base lt (.ref q) :: as'.map (cv base lt)).reverse ++ _ = _
    rw [show cv base lt (.ref q) = .ref (base + q) by show Value.ref (cr base lt q) = _; rw [cr_pos hq0]]
    simp
  have hrun := va_runV (e := e) (below := below) (meth := meth) (As := as'.map (cv base lt)) (rest := (st.drop (n + 1)).map (cv base lt)) (g := F0 m pc lsr (st.map (cv base lt))) (H := Hp) (locs := locs) (cells := h.length - 1) (slots := sl h) (b := base + q) ⟨hx, hb, hml, ho, ht⟩ hM hcw ⟨blind_M, va_recv hK i4 hc (wsO_get hq0 hq), fun U hU hW => by
    have := hpre U hU hW
    rw [show (.ref q :: as').map (cv base lt) = .ref (base + q) :: as'.map (cv base lt) by show cv base lt (.ref q) :: _ = _; rw [show cv base lt (.ref q) = .ref (base + q) by show Value.ref (cr base lt q) = _; rw [cr_pos hq0]]] at this
    exact this⟩ rfl (by rw [List.length_map]; exact hlen2) i1.1 hst (by show 2 * 0 + _ ≤ 8; rw [cats_map]; omega) hd ⟨by show h.length - 1 + 0 ≤ 600000; omega, by show sl h + 0 ≤ 7302250; omega⟩
  refine call_go hrun i5 (fun H1 locs1 hP1 hS1 => ?_) T9 hT9 X9
  have h9 := kk H1 locs1 ⟨i1, i2, hG.2.2 i3, hP1, hS1, by rw [hlen]; exact i6, by rw [hsl]; exact i7⟩
  rw [List.map_append] at h9
  have e3 : (r.1.map (cv base lt)).toList = r.1.toList.map (cv base lt) := by cases r.1 <;> rfl
  rw [e3]
  exact h9
theorem law_arg {k j L b MR n0 cells slots : Nat} {xs : Nat → Int32} {rest : List Value} (hx : p.tables.exec = Jvm.exec) (hb : c.code = code) (hX : va_X b L xs s s.heap) (hbl : b < s.heap.size) (hI : IV D dA base lt 4 s 1 0 ls lsr h Hp locs) (hC : CX p l e room_1 s m args below meth c code 4 R_law ret false D dA base lt n0) (hL : L ≤ 384) (hj : j + k < L ∧ k ≤ 5 ∧ n0 = 1) (hl : lv_has lsr 4 [(0, .ref b), (1, .ref (cr base lt 1)), (2, .ref (cr base lt MR)), (3, .int (nI j))])
    (d0 : decode code pc = .ok (.aload_n 0, 1)) (d1 : decode code (pc + 1) = .ok (.iload_n 3, 1)) (d2 : decode code (pc + 2) = .ok (.iconst (k : Int), 1)) (d3 : decode code (pc + 3) = .ok (.iadd, 1)) (d4 : decode code (pc + 4) = .ok (.iaload, 1))
    (kk : W p l e room_1 s m args below meth c Hp locs cells slots Q (F0 m (pc + 5) lsr (.int (xs (j + k)) :: rest))) : W p l e room_1 s m args below meth c Hp locs cells slots Q (F0 m pc lsr rest) := by
  obtain ⟨-, -, -, -, -, -, -, -, -, -, -, hz, -⟩ := hC
  have hbA : ¬ (fun q : Nat => base < q) b := by show ¬ base < b; omega
  refine lv_aload_n hx hb d0 rfl (lv_at hl 0 rfl) ?_
  refine lv_iload_n hx hb d1 rfl (lv_at hl 3 rfl) ?_
  refine lv_iconst (v := nI k) hx hb d2 (by
    have : k = 0 ∨ k = 1 ∨ k = 2 ∨ k = 3 ∨ k = 4 ∨ k = 5 := by omega
    rcases this with rfl | rfl | rfl | rfl | rfl | rfl <;> rfl) ?_
  refine lv_iadd hx hb d3 ?_
  rw [nI_add]
  refine va_sld hx hb hX hbl hbA hI.2.2.2.2.1 (vp_in_nI hj.1 (by omega)) d4 ?_
  rw [nI_clamp (by omega)]
  exact kk
/-- a case of the law's switch, from its first instruction to the step -/
def lawS {b L : Nat} {xs : Nat → Int32} {j MR : Nat} (LI : mH → Prop) (pc0 : Nat) : Prop :=
  ∀ (h : mH) (Hp : Heap) (locs : List Loc), CX p l e room_1 s m args below meth c code 4 R_law ret false D dA base lt 1 → va_X b L xs s s.heap → b < s.heap.size → L ≤ 384 → j + 6 ≤ L → lv_has lsr 4 [(0, .ref b), (1, .ref (cr base lt 1)), (2, .ref (cr base lt MR)), (3, .int (nI j))] → LI h → IV D dA base lt 4 s 1 0 [.null, .ref 1, .ref MR, .int (nI j)] lsr h Hp locs → h.length ≤ 600000 → sl h ≤ 7302250 →
    (∀ (h2 : mH) (H2 : Heap) (locs2 : List Loc), LI h2 → h2.length = h.length → sl h2 = sl h → IV D dA base lt 4 s 1 0 [.null, .ref 1, .ref MR, .int (nI j)] lsr h2 H2 locs2 → W p l e room_1 s m args below meth c H2 locs2 (h.length - 1) (sl h) Q (F0 m 1482 lsr [])) →
    W p l e room_1 s m args below meth c Hp locs (h.length - 1) (sl h) Q (F0 m pc0 lsr [])
variable {b L : Nat} {xs : Nat → Int32} {j MR : Nat} {LI : mH → Prop}

set_option maxHeartbeats 4000000 in
set_option maxRecDepth 100000 in
theorem law_c0 (hst : stI LI MR 79 154 2) : lawS (p := p) (l := l) (e := e) (s := s) (m := m) (args := args) (below := below) (meth := meth) (c := c) (D := D) (dA := dA) (base := base) (lt := lt) (Q := Q) (lsr := lsr) (b := b) (L := L) (xs := xs) (j := j) (MR := MR) LI 220 := by
  intro h Hp locs hC hX hbl hL hj hl hLI hI hcp hsp kk
  obtain ⟨hx, hb, -⟩ := id hC
  obtain ⟨a, h1, h2, e1, e2, l2, o1, o2, z1, z2, z3, z4⟩ := hst h hLI [(xs (j + 1)), (xs (j + 2))] rfl
  refine lv_aload_n hx hb (show decode code 220 = .ok (.aload_n 1, 1) by decide +kernel) rfl (lv_at hl 1 rfl) ?_
  refine law_arg (k := 1) hx hb hX hbl hI hC hL (by omega) hl (show decode code 221 = .ok (.aload_n 0, 1) by decide +kernel) (show decode code 222 = .ok (.iload_n 3, 1) by decide +kernel) (show decode code 223 = .ok (.iconst 1, 1) by decide +kernel) (show decode code 224 = .ok (.iadd, 1) by decide +kernel) (show decode code 225 = .ok (.iaload, 1) by decide +kernel) ?_
  refine law_arg (k := 2) hx hb hX hbl hI hC hL (by omega) hl (show decode code 226 = .ok (.aload_n 0, 1) by decide +kernel) (show decode code 227 = .ok (.iload_n 3, 1) by decide +kernel) (show decode code 228 = .ok (.iconst 2, 1) by decide +kernel) (show decode code 229 = .ok (.iadd, 1) by decide +kernel) (show decode code 230 = .ok (.iaload, 1) by decide +kernel) ?_
  refine law_V (n := 2) (ci := 9) (T := TX9) (st := [.int (xs (j + 2)), .int (xs (j + 1)), .ref 1]) (show decode code 231 = .ok (.invokevirtual 13, 3) by decide +kernel) (by decide) (show tbM 79 = (yX9_row, cX9_row, 3, (some .int)) from rfl) (hc := rfl) (by decide) w_396 w_397 w_398 w_83 w_399 (by decide) (by decide +kernel) e1 rfl (Nat.le_of_ble_eq_true rfl) (Nat.le_of_ble_eq_true rfl) (by simp only [rc]; exact o1) hC hI rfl rfl z1 z2 hcp hsp (fun H1 locs1 hI1 => ?_)
  refine lv_aload_n hx hb (show decode code 234 = .ok (.aload_n 2, 1) by decide +kernel) rfl (lv_at hl 2 rfl) ?_
  refine law_arg (k := 1) hx hb hX hbl hI1 hC hL (by omega) hl (show decode code 235 = .ok (.aload_n 0, 1) by decide +kernel) (show decode code 236 = .ok (.iload_n 3, 1) by decide +kernel) (show decode code 237 = .ok (.iconst 1, 1) by decide +kernel) (show decode code 238 = .ok (.iadd, 1) by decide +kernel) (show decode code 239 = .ok (.iaload, 1) by decide +kernel) ?_
  refine law_arg (k := 2) hx hb hX hbl hI1 hC hL (by omega) hl (show decode code 240 = .ok (.aload_n 0, 1) by decide +kernel) (show decode code 241 = .ok (.iload_n 3, 1) by decide +kernel) (show decode code 242 = .ok (.iconst 2, 1) by decide +kernel) (show decode code 243 = .ok (.iadd, 1) by decide +kernel) (show decode code 244 = .ok (.iaload, 1) by decide +kernel) ?_
  refine law_V (n := 2) (ci := 10) (T := TX10) (st := [.int (xs (j + 2)), .int (xs (j + 1)), .ref MR, .int a]) (show decode code 245 = .ok (.invokevirtual 17, 3) by decide +kernel) (by decide) (show tbM 154 = (yX10_row, cX10_row, 3, (some .int)) from rfl) (hc := rfl) (by decide) w_1053 w_1054 w_1055 w_93 w_1056 (by decide) (by decide +kernel) e2 rfl (Nat.le_of_ble_eq_true rfl) (Nat.le_of_ble_eq_true rfl) (by simp only [rc]; exact o2) hC hI1 (by rw [z1]) z2.symm (by rw [z3, z1]) (by rw [z4, z2]) (by rw [z1]; exact hcp) (by rw [z2]; exact hsp) (fun H2 locs2 hI2 => ?_)
  refine lv_icmp_eq (tgt := 1482) hx hb (show decode code 248 = .ok (.if_icmp .eq 1234, 3) by decide +kernel) (by decide) (fun _ => ?_) (fun z => absurd rfl z)
  exact kk h2 H2 locs2 l2 z3 z4 hI2
set_option maxHeartbeats 4000000 in
set_option maxRecDepth 100000 in
theorem law_c1 (hst : stI LI MR 80 157 3) : lawS (p := p) (l := l) (e := e) (s := s) (m := m) (args := args) (below := below) (meth := meth) (c := c) (D := D) (dA := dA) (base := base) (lt := lt) (Q := Q) (lsr := lsr) (b := b) (L := L) (xs := xs) (j := j) (MR := MR) LI 253 := by
  intro h Hp locs hC hX hbl hL hj hl hLI hI hcp hsp kk
  obtain ⟨hx, hb, -⟩ := id hC
  obtain ⟨a, h1, h2, e1, e2, l2, o1, o2, z1, z2, z3, z4⟩ := hst h hLI [(xs (j + 1)), (xs (j + 2)), (xs (j + 3))] rfl
  refine lv_aload_n hx hb (show decode code 253 = .ok (.aload_n 1, 1) by decide +kernel) rfl (lv_at hl 1 rfl) ?_
  refine law_arg (k := 1) hx hb hX hbl hI hC hL (by omega) hl (show decode code 254 = .ok (.aload_n 0, 1) by decide +kernel) (show decode code 255 = .ok (.iload_n 3, 1) by decide +kernel) (show decode code 256 = .ok (.iconst 1, 1) by decide +kernel) (show decode code 257 = .ok (.iadd, 1) by decide +kernel) (show decode code 258 = .ok (.iaload, 1) by decide +kernel) ?_
  refine law_arg (k := 2) hx hb hX hbl hI hC hL (by omega) hl (show decode code 259 = .ok (.aload_n 0, 1) by decide +kernel) (show decode code 260 = .ok (.iload_n 3, 1) by decide +kernel) (show decode code 261 = .ok (.iconst 2, 1) by decide +kernel) (show decode code 262 = .ok (.iadd, 1) by decide +kernel) (show decode code 263 = .ok (.iaload, 1) by decide +kernel) ?_
  refine law_arg (k := 3) hx hb hX hbl hI hC hL (by omega) hl (show decode code 264 = .ok (.aload_n 0, 1) by decide +kernel) (show decode code 265 = .ok (.iload_n 3, 1) by decide +kernel) (show decode code 266 = .ok (.iconst 3, 1) by decide +kernel) (show decode code 267 = .ok (.iadd, 1) by decide +kernel) (show decode code 268 = .ok (.iaload, 1) by decide +kernel) ?_
  refine law_V (n := 3) (ci := 9) (T := TX9) (st := [.int (xs (j + 3)), .int (xs (j + 2)), .int (xs (j + 1)), .ref 1]) (show decode code 269 = .ok (.invokevirtual 18, 3) by decide +kernel) (by decide) (show tbM 80 = (yX9_lay, cX9_lay, 5, (some .int)) from rfl) (hc := rfl) (by decide) w_417 w_418 w_419 w_83 w_420 (by decide) (by decide +kernel) e1 rfl (Nat.le_of_ble_eq_true rfl) (Nat.le_of_ble_eq_true rfl) (by simp only [rc]; exact o1) hC hI rfl rfl z1 z2 hcp hsp (fun H1 locs1 hI1 => ?_)
  refine lv_aload_n hx hb (show decode code 272 = .ok (.aload_n 2, 1) by decide +kernel) rfl (lv_at hl 2 rfl) ?_
  refine law_arg (k := 1) hx hb hX hbl hI1 hC hL (by omega) hl (show decode code 273 = .ok (.aload_n 0, 1) by decide +kernel) (show decode code 274 = .ok (.iload_n 3, 1) by decide +kernel) (show decode code 275 = .ok (.iconst 1, 1) by decide +kernel) (show decode code 276 = .ok (.iadd, 1) by decide +kernel) (show decode code 277 = .ok (.iaload, 1) by decide +kernel) ?_
  refine law_arg (k := 2) hx hb hX hbl hI1 hC hL (by omega) hl (show decode code 278 = .ok (.aload_n 0, 1) by decide +kernel) (show decode code 279 = .ok (.iload_n 3, 1) by decide +kernel) (show decode code 280 = .ok (.iconst 2, 1) by decide +kernel) (show decode code 281 = .ok (.iadd, 1) by decide +kernel) (show decode code 282 = .ok (.iaload, 1) by decide +kernel) ?_
  refine law_arg (k := 3) hx hb hX hbl hI1 hC hL (by omega) hl (show decode code 283 = .ok (.aload_n 0, 1) by decide +kernel) (show decode code 284 = .ok (.iload_n 3, 1) by decide +kernel) (show decode code 285 = .ok (.iconst 3, 1) by decide +kernel) (show decode code 286 = .ok (.iadd, 1) by decide +kernel) (show decode code 287 = .ok (.iaload, 1) by decide +kernel) ?_
  refine law_V (n := 3) (ci := 10) (T := TX10) (st := [.int (xs (j + 3)), .int (xs (j + 2)), .int (xs (j + 1)), .ref MR, .int a]) (show decode code 288 = .ok (.invokevirtual 22, 3) by decide +kernel) (by decide) (show tbM 157 = (yX10_lay, cX10_lay, 6, (some .int)) from rfl) (hc := rfl) (by decide) w_1072 w_1073 w_1074 w_93 w_1075 (by decide) (by decide +kernel) e2 rfl (Nat.le_of_ble_eq_true rfl) (Nat.le_of_ble_eq_true rfl) (by simp only [rc]; exact o2) hC hI1 (by rw [z1]) z2.symm (by rw [z3, z1]) (by rw [z4, z2]) (by rw [z1]; exact hcp) (by rw [z2]; exact hsp) (fun H2 locs2 hI2 => ?_)
  refine lv_icmp_eq (tgt := 1482) hx hb (show decode code 291 = .ok (.if_icmp .eq 1191, 3) by decide +kernel) (by decide) (fun _ => ?_) (fun z => absurd rfl z)
  exact kk h2 H2 locs2 l2 z3 z4 hI2
set_option maxHeartbeats 4000000 in
set_option maxRecDepth 100000 in
theorem law_c2 (hst : stI LI MR 81 158 2) : lawS (p := p) (l := l) (e := e) (s := s) (m := m) (args := args) (below := below) (meth := meth) (c := c) (D := D) (dA := dA) (base := base) (lt := lt) (Q := Q) (lsr := lsr) (b := b) (L := L) (xs := xs) (j := j) (MR := MR) LI 296 := by
  intro h Hp locs hC hX hbl hL hj hl hLI hI hcp hsp kk
  obtain ⟨hx, hb, -⟩ := id hC
  obtain ⟨a, h1, h2, e1, e2, l2, o1, o2, z1, z2, z3, z4⟩ := hst h hLI [(xs (j + 1)), (xs (j + 2))] rfl
  refine lv_aload_n hx hb (show decode code 296 = .ok (.aload_n 1, 1) by decide +kernel) rfl (lv_at hl 1 rfl) ?_
  refine law_arg (k := 1) hx hb hX hbl hI hC hL (by omega) hl (show decode code 297 = .ok (.aload_n 0, 1) by decide +kernel) (show decode code 298 = .ok (.iload_n 3, 1) by decide +kernel) (show decode code 299 = .ok (.iconst 1, 1) by decide +kernel) (show decode code 300 = .ok (.iadd, 1) by decide +kernel) (show decode code 301 = .ok (.iaload, 1) by decide +kernel) ?_
  refine law_arg (k := 2) hx hb hX hbl hI hC hL (by omega) hl (show decode code 302 = .ok (.aload_n 0, 1) by decide +kernel) (show decode code 303 = .ok (.iload_n 3, 1) by decide +kernel) (show decode code 304 = .ok (.iconst 2, 1) by decide +kernel) (show decode code 305 = .ok (.iadd, 1) by decide +kernel) (show decode code 306 = .ok (.iaload, 1) by decide +kernel) ?_
  refine law_V (n := 2) (ci := 9) (T := TX9) (st := [.int (xs (j + 2)), .int (xs (j + 1)), .ref 1]) (show decode code 307 = .ok (.invokevirtual 23, 3) by decide +kernel) (by decide) (show tbM 81 = (yX9_at, cX9_at, 4, (some .int)) from rfl) (hc := rfl) (by decide) w_437 w_438 w_439 w_83 w_440 (by decide) (by decide +kernel) e1 rfl (Nat.le_of_ble_eq_true rfl) (Nat.le_of_ble_eq_true rfl) (by simp only [rc]; exact o1) hC hI rfl rfl z1 z2 hcp hsp (fun H1 locs1 hI1 => ?_)
  refine lv_aload_n hx hb (show decode code 310 = .ok (.aload_n 2, 1) by decide +kernel) rfl (lv_at hl 2 rfl) ?_
  refine law_arg (k := 1) hx hb hX hbl hI1 hC hL (by omega) hl (show decode code 311 = .ok (.aload_n 0, 1) by decide +kernel) (show decode code 312 = .ok (.iload_n 3, 1) by decide +kernel) (show decode code 313 = .ok (.iconst 1, 1) by decide +kernel) (show decode code 314 = .ok (.iadd, 1) by decide +kernel) (show decode code 315 = .ok (.iaload, 1) by decide +kernel) ?_
  refine law_arg (k := 2) hx hb hX hbl hI1 hC hL (by omega) hl (show decode code 316 = .ok (.aload_n 0, 1) by decide +kernel) (show decode code 317 = .ok (.iload_n 3, 1) by decide +kernel) (show decode code 318 = .ok (.iconst 2, 1) by decide +kernel) (show decode code 319 = .ok (.iadd, 1) by decide +kernel) (show decode code 320 = .ok (.iaload, 1) by decide +kernel) ?_
  refine law_V (n := 2) (ci := 10) (T := TX10) (st := [.int (xs (j + 2)), .int (xs (j + 1)), .ref MR, .int a]) (show decode code 321 = .ok (.invokevirtual 26, 3) by decide +kernel) (by decide) (show tbM 158 = (yX10_at, cX10_at, 4, (some .int)) from rfl) (hc := rfl) (by decide) w_1084 w_1085 w_1086 w_93 w_1087 (by decide) (by decide +kernel) e2 rfl (Nat.le_of_ble_eq_true rfl) (Nat.le_of_ble_eq_true rfl) (by simp only [rc]; exact o2) hC hI1 (by rw [z1]) z2.symm (by rw [z3, z1]) (by rw [z4, z2]) (by rw [z1]; exact hcp) (by rw [z2]; exact hsp) (fun H2 locs2 hI2 => ?_)
  refine lv_icmp_eq (tgt := 1482) hx hb (show decode code 324 = .ok (.if_icmp .eq 1158, 3) by decide +kernel) (by decide) (fun _ => ?_) (fun z => absurd rfl z)
  exact kk h2 H2 locs2 l2 z3 z4 hI2
set_option maxHeartbeats 4000000 in
set_option maxRecDepth 100000 in
theorem law_c3 (hst : stI LI MR 82 159 1) : lawS (p := p) (l := l) (e := e) (s := s) (m := m) (args := args) (below := below) (meth := meth) (c := c) (D := D) (dA := dA) (base := base) (lt := lt) (Q := Q) (lsr := lsr) (b := b) (L := L) (xs := xs) (j := j) (MR := MR) LI 329 := by
  intro h Hp locs hC hX hbl hL hj hl hLI hI hcp hsp kk
  obtain ⟨hx, hb, -⟩ := id hC
  obtain ⟨a, h1, h2, e1, e2, l2, o1, o2, z1, z2, z3, z4⟩ := hst h hLI [(xs (j + 1))] rfl
  refine lv_aload_n hx hb (show decode code 329 = .ok (.aload_n 1, 1) by decide +kernel) rfl (lv_at hl 1 rfl) ?_
  refine law_arg (k := 1) hx hb hX hbl hI hC hL (by omega) hl (show decode code 330 = .ok (.aload_n 0, 1) by decide +kernel) (show decode code 331 = .ok (.iload_n 3, 1) by decide +kernel) (show decode code 332 = .ok (.iconst 1, 1) by decide +kernel) (show decode code 333 = .ok (.iadd, 1) by decide +kernel) (show decode code 334 = .ok (.iaload, 1) by decide +kernel) ?_
  refine law_V (n := 1) (ci := 9) (T := TX9) (st := [.int (xs (j + 1)), .ref 1]) (show decode code 335 = .ok (.invokevirtual 27, 3) by decide +kernel) (by decide) (show tbM 82 = (yX9_tear, cX9_tear, 3, (some .int)) from rfl) (hc := rfl) (by decide) w_441 w_442 w_443 w_83 w_444 (by decide) (by decide +kernel) e1 rfl (Nat.le_of_ble_eq_true rfl) (Nat.le_of_ble_eq_true rfl) (by simp only [rc]; exact o1) hC hI rfl rfl z1 z2 hcp hsp (fun H1 locs1 hI1 => ?_)
  refine lv_aload_n hx hb (show decode code 338 = .ok (.aload_n 2, 1) by decide +kernel) rfl (lv_at hl 2 rfl) ?_
  refine law_arg (k := 1) hx hb hX hbl hI1 hC hL (by omega) hl (show decode code 339 = .ok (.aload_n 0, 1) by decide +kernel) (show decode code 340 = .ok (.iload_n 3, 1) by decide +kernel) (show decode code 341 = .ok (.iconst 1, 1) by decide +kernel) (show decode code 342 = .ok (.iadd, 1) by decide +kernel) (show decode code 343 = .ok (.iaload, 1) by decide +kernel) ?_
  refine law_V (n := 1) (ci := 10) (T := TX10) (st := [.int (xs (j + 1)), .ref MR, .int a]) (show decode code 344 = .ok (.invokevirtual 31, 3) by decide +kernel) (by decide) (show tbM 159 = (yX10_tear, cX10_tear, 2, (some .int)) from rfl) (hc := rfl) (by decide) w_1088 w_1089 w_1090 w_93 w_1091 (by decide) (by decide +kernel) e2 rfl (Nat.le_of_ble_eq_true rfl) (Nat.le_of_ble_eq_true rfl) (by simp only [rc]; exact o2) hC hI1 (by rw [z1]) z2.symm (by rw [z3, z1]) (by rw [z4, z2]) (by rw [z1]; exact hcp) (by rw [z2]; exact hsp) (fun H2 locs2 hI2 => ?_)
  refine lv_icmp_eq (tgt := 1482) hx hb (show decode code 347 = .ok (.if_icmp .eq 1135, 3) by decide +kernel) (by decide) (fun _ => ?_) (fun z => absurd rfl z)
  exact kk h2 H2 locs2 l2 z3 z4 hI2
set_option maxHeartbeats 4000000 in
set_option maxRecDepth 100000 in
theorem law_c4 (hst : stI LI MR 83 161 5) : lawS (p := p) (l := l) (e := e) (s := s) (m := m) (args := args) (below := below) (meth := meth) (c := c) (D := D) (dA := dA) (base := base) (lt := lt) (Q := Q) (lsr := lsr) (b := b) (L := L) (xs := xs) (j := j) (MR := MR) LI 352 := by
  intro h Hp locs hC hX hbl hL hj hl hLI hI hcp hsp kk
  obtain ⟨hx, hb, -⟩ := id hC
  obtain ⟨a, h1, h2, e1, e2, l2, o1, o2, z1, z2, z3, z4⟩ := hst h hLI [(xs (j + 1)), (xs (j + 2)), (xs (j + 3)), (xs (j + 4)), (xs (j + 5))] rfl
  refine lv_aload_n hx hb (show decode code 352 = .ok (.aload_n 1, 1) by decide +kernel) rfl (lv_at hl 1 rfl) ?_
  refine law_arg (k := 1) hx hb hX hbl hI hC hL (by omega) hl (show decode code 353 = .ok (.aload_n 0, 1) by decide +kernel) (show decode code 354 = .ok (.iload_n 3, 1) by decide +kernel) (show decode code 355 = .ok (.iconst 1, 1) by decide +kernel) (show decode code 356 = .ok (.iadd, 1) by decide +kernel) (show decode code 357 = .ok (.iaload, 1) by decide +kernel) ?_
  refine law_arg (k := 2) hx hb hX hbl hI hC hL (by omega) hl (show decode code 358 = .ok (.aload_n 0, 1) by decide +kernel) (show decode code 359 = .ok (.iload_n 3, 1) by decide +kernel) (show decode code 360 = .ok (.iconst 2, 1) by decide +kernel) (show decode code 361 = .ok (.iadd, 1) by decide +kernel) (show decode code 362 = .ok (.iaload, 1) by decide +kernel) ?_
  refine law_arg (k := 3) hx hb hX hbl hI hC hL (by omega) hl (show decode code 363 = .ok (.aload_n 0, 1) by decide +kernel) (show decode code 364 = .ok (.iload_n 3, 1) by decide +kernel) (show decode code 365 = .ok (.iconst 3, 1) by decide +kernel) (show decode code 366 = .ok (.iadd, 1) by decide +kernel) (show decode code 367 = .ok (.iaload, 1) by decide +kernel) ?_
  refine law_arg (k := 4) hx hb hX hbl hI hC hL (by omega) hl (show decode code 368 = .ok (.aload_n 0, 1) by decide +kernel) (show decode code 369 = .ok (.iload_n 3, 1) by decide +kernel) (show decode code 370 = .ok (.iconst 4, 1) by decide +kernel) (show decode code 371 = .ok (.iadd, 1) by decide +kernel) (show decode code 372 = .ok (.iaload, 1) by decide +kernel) ?_
  refine law_arg (k := 5) hx hb hX hbl hI hC hL (by omega) hl (show decode code 373 = .ok (.aload_n 0, 1) by decide +kernel) (show decode code 374 = .ok (.iload_n 3, 1) by decide +kernel) (show decode code 375 = .ok (.iconst 5, 1) by decide +kernel) (show decode code 376 = .ok (.iadd, 1) by decide +kernel) (show decode code 377 = .ok (.iaload, 1) by decide +kernel) ?_
  refine law_V (n := 5) (ci := 9) (T := TX9) (st := [.int (xs (j + 5)), .int (xs (j + 4)), .int (xs (j + 3)), .int (xs (j + 2)), .int (xs (j + 1)), .ref 1]) (show decode code 378 = .ok (.invokevirtual 32, 3) by decide +kernel) (by decide) (show tbM 83 = (yX9_copy, cX9_copy, 8, (some .int)) from rfl) (hc := rfl) (by decide) w_445 w_446 w_447 w_83 w_448 (by decide) (by decide +kernel) e1 rfl (Nat.le_of_ble_eq_true rfl) (Nat.le_of_ble_eq_true rfl) (by simp only [rc]; exact o1) hC hI rfl rfl z1 z2 hcp hsp (fun H1 locs1 hI1 => ?_)
  refine lv_aload_n hx hb (show decode code 381 = .ok (.aload_n 2, 1) by decide +kernel) rfl (lv_at hl 2 rfl) ?_
  refine law_arg (k := 1) hx hb hX hbl hI1 hC hL (by omega) hl (show decode code 382 = .ok (.aload_n 0, 1) by decide +kernel) (show decode code 383 = .ok (.iload_n 3, 1) by decide +kernel) (show decode code 384 = .ok (.iconst 1, 1) by decide +kernel) (show decode code 385 = .ok (.iadd, 1) by decide +kernel) (show decode code 386 = .ok (.iaload, 1) by decide +kernel) ?_
  refine law_arg (k := 2) hx hb hX hbl hI1 hC hL (by omega) hl (show decode code 387 = .ok (.aload_n 0, 1) by decide +kernel) (show decode code 388 = .ok (.iload_n 3, 1) by decide +kernel) (show decode code 389 = .ok (.iconst 2, 1) by decide +kernel) (show decode code 390 = .ok (.iadd, 1) by decide +kernel) (show decode code 391 = .ok (.iaload, 1) by decide +kernel) ?_
  refine law_arg (k := 3) hx hb hX hbl hI1 hC hL (by omega) hl (show decode code 392 = .ok (.aload_n 0, 1) by decide +kernel) (show decode code 393 = .ok (.iload_n 3, 1) by decide +kernel) (show decode code 394 = .ok (.iconst 3, 1) by decide +kernel) (show decode code 395 = .ok (.iadd, 1) by decide +kernel) (show decode code 396 = .ok (.iaload, 1) by decide +kernel) ?_
  refine law_arg (k := 4) hx hb hX hbl hI1 hC hL (by omega) hl (show decode code 397 = .ok (.aload_n 0, 1) by decide +kernel) (show decode code 398 = .ok (.iload_n 3, 1) by decide +kernel) (show decode code 399 = .ok (.iconst 4, 1) by decide +kernel) (show decode code 400 = .ok (.iadd, 1) by decide +kernel) (show decode code 401 = .ok (.iaload, 1) by decide +kernel) ?_
  refine law_arg (k := 5) hx hb hX hbl hI1 hC hL (by omega) hl (show decode code 402 = .ok (.aload_n 0, 1) by decide +kernel) (show decode code 403 = .ok (.iload_n 3, 1) by decide +kernel) (show decode code 404 = .ok (.iconst 5, 1) by decide +kernel) (show decode code 405 = .ok (.iadd, 1) by decide +kernel) (show decode code 406 = .ok (.iaload, 1) by decide +kernel) ?_
  refine law_V (n := 5) (ci := 10) (T := TX10) (st := [.int (xs (j + 5)), .int (xs (j + 4)), .int (xs (j + 3)), .int (xs (j + 2)), .int (xs (j + 1)), .ref MR, .int a]) (show decode code 407 = .ok (.invokevirtual 36, 3) by decide +kernel) (by decide) (show tbM 161 = (yX10_copy, cX10_copy, 9, (some .int)) from rfl) (hc := rfl) (by decide) w_1092 w_1093 w_1094 w_93 w_1095 (by decide) (by decide +kernel) e2 rfl (Nat.le_of_ble_eq_true rfl) (Nat.le_of_ble_eq_true rfl) (by simp only [rc]; exact o2) hC hI1 (by rw [z1]) z2.symm (by rw [z3, z1]) (by rw [z4, z2]) (by rw [z1]; exact hcp) (by rw [z2]; exact hsp) (fun H2 locs2 hI2 => ?_)
  refine lv_icmp_eq (tgt := 1482) hx hb (show decode code 410 = .ok (.if_icmp .eq 1072, 3) by decide +kernel) (by decide) (fun _ => ?_) (fun z => absurd rfl z)
  exact kk h2 H2 locs2 l2 z3 z4 hI2
set_option maxHeartbeats 4000000 in
set_option maxRecDepth 100000 in
theorem law_c5 (hst : stI LI MR 84 162 1) : lawS (p := p) (l := l) (e := e) (s := s) (m := m) (args := args) (below := below) (meth := meth) (c := c) (D := D) (dA := dA) (base := base) (lt := lt) (Q := Q) (lsr := lsr) (b := b) (L := L) (xs := xs) (j := j) (MR := MR) LI 415 := by
  intro h Hp locs hC hX hbl hL hj hl hLI hI hcp hsp kk
  obtain ⟨hx, hb, -⟩ := id hC
  obtain ⟨a, h1, h2, e1, e2, l2, o1, o2, z1, z2, z3, z4⟩ := hst h hLI [(xs (j + 1))] rfl
  refine lv_aload_n hx hb (show decode code 415 = .ok (.aload_n 1, 1) by decide +kernel) rfl (lv_at hl 1 rfl) ?_
  refine law_arg (k := 1) hx hb hX hbl hI hC hL (by omega) hl (show decode code 416 = .ok (.aload_n 0, 1) by decide +kernel) (show decode code 417 = .ok (.iload_n 3, 1) by decide +kernel) (show decode code 418 = .ok (.iconst 1, 1) by decide +kernel) (show decode code 419 = .ok (.iadd, 1) by decide +kernel) (show decode code 420 = .ok (.iaload, 1) by decide +kernel) ?_
  refine law_V (n := 1) (ci := 9) (T := TX9) (st := [.int (xs (j + 1)), .ref 1]) (show decode code 421 = .ok (.invokevirtual 37, 3) by decide +kernel) (by decide) (show tbM 84 = (yX9_mean, cX9_mean, 4, (some .int)) from rfl) (hc := rfl) (by decide) w_456 w_457 w_458 w_83 w_459 (by decide) (by decide +kernel) e1 rfl (Nat.le_of_ble_eq_true rfl) (Nat.le_of_ble_eq_true rfl) (by simp only [rc]; exact o1) hC hI rfl rfl z1 z2 hcp hsp (fun H1 locs1 hI1 => ?_)
  refine lv_aload_n hx hb (show decode code 424 = .ok (.aload_n 2, 1) by decide +kernel) rfl (lv_at hl 2 rfl) ?_
  refine law_arg (k := 1) hx hb hX hbl hI1 hC hL (by omega) hl (show decode code 425 = .ok (.aload_n 0, 1) by decide +kernel) (show decode code 426 = .ok (.iload_n 3, 1) by decide +kernel) (show decode code 427 = .ok (.iconst 1, 1) by decide +kernel) (show decode code 428 = .ok (.iadd, 1) by decide +kernel) (show decode code 429 = .ok (.iaload, 1) by decide +kernel) ?_
  refine law_V (n := 1) (ci := 10) (T := TX10) (st := [.int (xs (j + 1)), .ref MR, .int a]) (show decode code 430 = .ok (.invokevirtual 40, 3) by decide +kernel) (by decide) (show tbM 162 = (yX10_mean, cX10_mean, 5, (some .int)) from rfl) (hc := rfl) (by decide) w_1100 w_1101 w_1102 w_93 w_1103 (by decide) (by decide +kernel) e2 rfl (Nat.le_of_ble_eq_true rfl) (Nat.le_of_ble_eq_true rfl) (by simp only [rc]; exact o2) hC hI1 (by rw [z1]) z2.symm (by rw [z3, z1]) (by rw [z4, z2]) (by rw [z1]; exact hcp) (by rw [z2]; exact hsp) (fun H2 locs2 hI2 => ?_)
  refine lv_icmp_eq (tgt := 1482) hx hb (show decode code 433 = .ok (.if_icmp .eq 1049, 3) by decide +kernel) (by decide) (fun _ => ?_) (fun z => absurd rfl z)
  exact kk h2 H2 locs2 l2 z3 z4 hI2
set_option maxHeartbeats 4000000 in
set_option maxRecDepth 100000 in
theorem law_c6 (hst : stI LI MR 85 163 2) : lawS (p := p) (l := l) (e := e) (s := s) (m := m) (args := args) (below := below) (meth := meth) (c := c) (D := D) (dA := dA) (base := base) (lt := lt) (Q := Q) (lsr := lsr) (b := b) (L := L) (xs := xs) (j := j) (MR := MR) LI 438 := by
  intro h Hp locs hC hX hbl hL hj hl hLI hI hcp hsp kk
  obtain ⟨hx, hb, -⟩ := id hC
  obtain ⟨a, h1, h2, e1, e2, l2, o1, o2, z1, z2, z3, z4⟩ := hst h hLI [(xs (j + 1)), (xs (j + 2))] rfl
  refine lv_aload_n hx hb (show decode code 438 = .ok (.aload_n 1, 1) by decide +kernel) rfl (lv_at hl 1 rfl) ?_
  refine law_arg (k := 1) hx hb hX hbl hI hC hL (by omega) hl (show decode code 439 = .ok (.aload_n 0, 1) by decide +kernel) (show decode code 440 = .ok (.iload_n 3, 1) by decide +kernel) (show decode code 441 = .ok (.iconst 1, 1) by decide +kernel) (show decode code 442 = .ok (.iadd, 1) by decide +kernel) (show decode code 443 = .ok (.iaload, 1) by decide +kernel) ?_
  refine law_arg (k := 2) hx hb hX hbl hI hC hL (by omega) hl (show decode code 444 = .ok (.aload_n 0, 1) by decide +kernel) (show decode code 445 = .ok (.iload_n 3, 1) by decide +kernel) (show decode code 446 = .ok (.iconst 2, 1) by decide +kernel) (show decode code 447 = .ok (.iadd, 1) by decide +kernel) (show decode code 448 = .ok (.iaload, 1) by decide +kernel) ?_
  refine law_V (n := 2) (ci := 9) (T := TX9) (st := [.int (xs (j + 2)), .int (xs (j + 1)), .ref 1]) (show decode code 449 = .ok (.invokevirtual 41, 3) by decide +kernel) (by decide) (show tbM 85 = (yX9_text, cX9_text, 3, (some .int)) from rfl) (hc := rfl) (by decide) w_464 w_465 w_466 w_83 w_467 (by decide) (by decide +kernel) e1 rfl (Nat.le_of_ble_eq_true rfl) (Nat.le_of_ble_eq_true rfl) (by simp only [rc]; exact o1) hC hI rfl rfl z1 z2 hcp hsp (fun H1 locs1 hI1 => ?_)
  refine lv_aload_n hx hb (show decode code 452 = .ok (.aload_n 2, 1) by decide +kernel) rfl (lv_at hl 2 rfl) ?_
  refine law_arg (k := 1) hx hb hX hbl hI1 hC hL (by omega) hl (show decode code 453 = .ok (.aload_n 0, 1) by decide +kernel) (show decode code 454 = .ok (.iload_n 3, 1) by decide +kernel) (show decode code 455 = .ok (.iconst 1, 1) by decide +kernel) (show decode code 456 = .ok (.iadd, 1) by decide +kernel) (show decode code 457 = .ok (.iaload, 1) by decide +kernel) ?_
  refine law_arg (k := 2) hx hb hX hbl hI1 hC hL (by omega) hl (show decode code 458 = .ok (.aload_n 0, 1) by decide +kernel) (show decode code 459 = .ok (.iload_n 3, 1) by decide +kernel) (show decode code 460 = .ok (.iconst 2, 1) by decide +kernel) (show decode code 461 = .ok (.iadd, 1) by decide +kernel) (show decode code 462 = .ok (.iaload, 1) by decide +kernel) ?_
  refine law_V (n := 2) (ci := 10) (T := TX10) (st := [.int (xs (j + 2)), .int (xs (j + 1)), .ref MR, .int a]) (show decode code 463 = .ok (.invokevirtual 44, 3) by decide +kernel) (by decide) (show tbM 163 = (yX10_text, cX10_text, 4, (some .int)) from rfl) (hc := rfl) (by decide) w_1104 w_1105 w_1106 w_93 w_1107 (by decide) (by decide +kernel) e2 rfl (Nat.le_of_ble_eq_true rfl) (Nat.le_of_ble_eq_true rfl) (by simp only [rc]; exact o2) hC hI1 (by rw [z1]) z2.symm (by rw [z3, z1]) (by rw [z4, z2]) (by rw [z1]; exact hcp) (by rw [z2]; exact hsp) (fun H2 locs2 hI2 => ?_)
  refine lv_icmp_eq (tgt := 1482) hx hb (show decode code 466 = .ok (.if_icmp .eq 1016, 3) by decide +kernel) (by decide) (fun _ => ?_) (fun z => absurd rfl z)
  exact kk h2 H2 locs2 l2 z3 z4 hI2
set_option maxHeartbeats 4000000 in
set_option maxRecDepth 100000 in
theorem law_c7 (hst : stI LI MR 86 164 3) : lawS (p := p) (l := l) (e := e) (s := s) (m := m) (args := args) (below := below) (meth := meth) (c := c) (D := D) (dA := dA) (base := base) (lt := lt) (Q := Q) (lsr := lsr) (b := b) (L := L) (xs := xs) (j := j) (MR := MR) LI 471 := by
  intro h Hp locs hC hX hbl hL hj hl hLI hI hcp hsp kk
  obtain ⟨hx, hb, -⟩ := id hC
  obtain ⟨a, h1, h2, e1, e2, l2, o1, o2, z1, z2, z3, z4⟩ := hst h hLI [(xs (j + 1)), (xs (j + 2)), (xs (j + 3))] rfl
  refine lv_aload_n hx hb (show decode code 471 = .ok (.aload_n 1, 1) by decide +kernel) rfl (lv_at hl 1 rfl) ?_
  refine law_arg (k := 1) hx hb hX hbl hI hC hL (by omega) hl (show decode code 472 = .ok (.aload_n 0, 1) by decide +kernel) (show decode code 473 = .ok (.iload_n 3, 1) by decide +kernel) (show decode code 474 = .ok (.iconst 1, 1) by decide +kernel) (show decode code 475 = .ok (.iadd, 1) by decide +kernel) (show decode code 476 = .ok (.iaload, 1) by decide +kernel) ?_
  refine law_arg (k := 2) hx hb hX hbl hI hC hL (by omega) hl (show decode code 477 = .ok (.aload_n 0, 1) by decide +kernel) (show decode code 478 = .ok (.iload_n 3, 1) by decide +kernel) (show decode code 479 = .ok (.iconst 2, 1) by decide +kernel) (show decode code 480 = .ok (.iadd, 1) by decide +kernel) (show decode code 481 = .ok (.iaload, 1) by decide +kernel) ?_
  refine law_arg (k := 3) hx hb hX hbl hI hC hL (by omega) hl (show decode code 482 = .ok (.aload_n 0, 1) by decide +kernel) (show decode code 483 = .ok (.iload_n 3, 1) by decide +kernel) (show decode code 484 = .ok (.iconst 3, 1) by decide +kernel) (show decode code 485 = .ok (.iadd, 1) by decide +kernel) (show decode code 486 = .ok (.iaload, 1) by decide +kernel) ?_
  refine law_V (n := 3) (ci := 9) (T := TX9) (st := [.int (xs (j + 3)), .int (xs (j + 2)), .int (xs (j + 1)), .ref 1]) (show decode code 487 = .ok (.invokevirtual 45, 3) by decide +kernel) (by decide) (show tbM 86 = (yX9_put, cX9_put, 7, (some .int)) from rfl) (hc := rfl) (by decide) w_479 w_480 w_481 w_83 w_482 (by decide) (by decide +kernel) e1 rfl (Nat.le_of_ble_eq_true rfl) (Nat.le_of_ble_eq_true rfl) (by simp only [rc]; exact o1) hC hI rfl rfl z1 z2 hcp hsp (fun H1 locs1 hI1 => ?_)
  refine lv_aload_n hx hb (show decode code 490 = .ok (.aload_n 2, 1) by decide +kernel) rfl (lv_at hl 2 rfl) ?_
  refine law_arg (k := 1) hx hb hX hbl hI1 hC hL (by omega) hl (show decode code 491 = .ok (.aload_n 0, 1) by decide +kernel) (show decode code 492 = .ok (.iload_n 3, 1) by decide +kernel) (show decode code 493 = .ok (.iconst 1, 1) by decide +kernel) (show decode code 494 = .ok (.iadd, 1) by decide +kernel) (show decode code 495 = .ok (.iaload, 1) by decide +kernel) ?_
  refine law_arg (k := 2) hx hb hX hbl hI1 hC hL (by omega) hl (show decode code 496 = .ok (.aload_n 0, 1) by decide +kernel) (show decode code 497 = .ok (.iload_n 3, 1) by decide +kernel) (show decode code 498 = .ok (.iconst 2, 1) by decide +kernel) (show decode code 499 = .ok (.iadd, 1) by decide +kernel) (show decode code 500 = .ok (.iaload, 1) by decide +kernel) ?_
  refine law_arg (k := 3) hx hb hX hbl hI1 hC hL (by omega) hl (show decode code 501 = .ok (.aload_n 0, 1) by decide +kernel) (show decode code 502 = .ok (.iload_n 3, 1) by decide +kernel) (show decode code 503 = .ok (.iconst 3, 1) by decide +kernel) (show decode code 504 = .ok (.iadd, 1) by decide +kernel) (show decode code 505 = .ok (.iaload, 1) by decide +kernel) ?_
  refine law_V (n := 3) (ci := 10) (T := TX10) (st := [.int (xs (j + 3)), .int (xs (j + 2)), .int (xs (j + 1)), .ref MR, .int a]) (show decode code 506 = .ok (.invokevirtual 48, 3) by decide +kernel) (by decide) (show tbM 164 = (yX10_put, cX10_put, 5, (some .int)) from rfl) (hc := rfl) (by decide) w_1112 w_1113 w_1114 w_93 w_1115 (by decide) (by decide +kernel) e2 rfl (Nat.le_of_ble_eq_true rfl) (Nat.le_of_ble_eq_true rfl) (by simp only [rc]; exact o2) hC hI1 (by rw [z1]) z2.symm (by rw [z3, z1]) (by rw [z4, z2]) (by rw [z1]; exact hcp) (by rw [z2]; exact hsp) (fun H2 locs2 hI2 => ?_)
  refine lv_icmp_eq (tgt := 1482) hx hb (show decode code 509 = .ok (.if_icmp .eq 973, 3) by decide +kernel) (by decide) (fun _ => ?_) (fun z => absurd rfl z)
  exact kk h2 H2 locs2 l2 z3 z4 hI2
set_option maxHeartbeats 4000000 in
set_option maxRecDepth 100000 in
theorem law_c8 (hst : stI LI MR 87 171 1) : lawS (p := p) (l := l) (e := e) (s := s) (m := m) (args := args) (below := below) (meth := meth) (c := c) (D := D) (dA := dA) (base := base) (lt := lt) (Q := Q) (lsr := lsr) (b := b) (L := L) (xs := xs) (j := j) (MR := MR) LI 514 := by
  intro h Hp locs hC hX hbl hL hj hl hLI hI hcp hsp kk
  obtain ⟨hx, hb, -⟩ := id hC
  obtain ⟨a, h1, h2, e1, e2, l2, o1, o2, z1, z2, z3, z4⟩ := hst h hLI [(xs (j + 1))] rfl
  refine lv_aload_n hx hb (show decode code 514 = .ok (.aload_n 1, 1) by decide +kernel) rfl (lv_at hl 1 rfl) ?_
  refine law_arg (k := 1) hx hb hX hbl hI hC hL (by omega) hl (show decode code 515 = .ok (.aload_n 0, 1) by decide +kernel) (show decode code 516 = .ok (.iload_n 3, 1) by decide +kernel) (show decode code 517 = .ok (.iconst 1, 1) by decide +kernel) (show decode code 518 = .ok (.iadd, 1) by decide +kernel) (show decode code 519 = .ok (.iaload, 1) by decide +kernel) ?_
  refine law_V (n := 1) (ci := 9) (T := TX9) (st := [.int (xs (j + 1)), .ref 1]) (show decode code 520 = .ok (.invokevirtual 49, 3) by decide +kernel) (by decide) (show tbM 87 = (yX9_fault, cX9_fault, 3, (some .int)) from rfl) (hc := rfl) (by decide) w_495 w_496 w_497 w_83 w_498 (by decide) (by decide +kernel) e1 rfl (Nat.le_of_ble_eq_true rfl) (Nat.le_of_ble_eq_true rfl) (by simp only [rc]; exact o1) hC hI rfl rfl z1 z2 hcp hsp (fun H1 locs1 hI1 => ?_)
  refine lv_aload_n hx hb (show decode code 523 = .ok (.aload_n 2, 1) by decide +kernel) rfl (lv_at hl 2 rfl) ?_
  refine law_arg (k := 1) hx hb hX hbl hI1 hC hL (by omega) hl (show decode code 524 = .ok (.aload_n 0, 1) by decide +kernel) (show decode code 525 = .ok (.iload_n 3, 1) by decide +kernel) (show decode code 526 = .ok (.iconst 1, 1) by decide +kernel) (show decode code 527 = .ok (.iadd, 1) by decide +kernel) (show decode code 528 = .ok (.iaload, 1) by decide +kernel) ?_
  refine law_V (n := 1) (ci := 10) (T := TX10) (st := [.int (xs (j + 1)), .ref MR, .int a]) (show decode code 529 = .ok (.invokevirtual 52, 3) by decide +kernel) (by decide) (show tbM 171 = (yX10_fault, cX10_fault, 2, (some .int)) from rfl) (hc := rfl) (by decide) w_1116 w_1117 w_1118 w_93 w_1119 (by decide) (by decide +kernel) e2 rfl (Nat.le_of_ble_eq_true rfl) (Nat.le_of_ble_eq_true rfl) (by simp only [rc]; exact o2) hC hI1 (by rw [z1]) z2.symm (by rw [z3, z1]) (by rw [z4, z2]) (by rw [z1]; exact hcp) (by rw [z2]; exact hsp) (fun H2 locs2 hI2 => ?_)
  refine lv_icmp_eq (tgt := 1482) hx hb (show decode code 532 = .ok (.if_icmp .eq 950, 3) by decide +kernel) (by decide) (fun _ => ?_) (fun z => absurd rfl z)
  exact kk h2 H2 locs2 l2 z3 z4 hI2
set_option maxHeartbeats 4000000 in
set_option maxRecDepth 100000 in
theorem law_c9 (hst : stI LI MR 88 172 1) : lawS (p := p) (l := l) (e := e) (s := s) (m := m) (args := args) (below := below) (meth := meth) (c := c) (D := D) (dA := dA) (base := base) (lt := lt) (Q := Q) (lsr := lsr) (b := b) (L := L) (xs := xs) (j := j) (MR := MR) LI 537 := by
  intro h Hp locs hC hX hbl hL hj hl hLI hI hcp hsp kk
  obtain ⟨hx, hb, -⟩ := id hC
  obtain ⟨a, h1, h2, e1, e2, l2, o1, o2, z1, z2, z3, z4⟩ := hst h hLI [(xs (j + 1))] rfl
  refine lv_aload_n hx hb (show decode code 537 = .ok (.aload_n 1, 1) by decide +kernel) rfl (lv_at hl 1 rfl) ?_
  refine law_arg (k := 1) hx hb hX hbl hI hC hL (by omega) hl (show decode code 538 = .ok (.aload_n 0, 1) by decide +kernel) (show decode code 539 = .ok (.iload_n 3, 1) by decide +kernel) (show decode code 540 = .ok (.iconst 1, 1) by decide +kernel) (show decode code 541 = .ok (.iadd, 1) by decide +kernel) (show decode code 542 = .ok (.iaload, 1) by decide +kernel) ?_
  refine law_V (n := 1) (ci := 9) (T := TX9) (st := [.int (xs (j + 1)), .ref 1]) (show decode code 543 = .ok (.invokevirtual 53, 3) by decide +kernel) (by decide) (show tbM 88 = (yX9_line, cX9_line, 4, (some .int)) from rfl) (hc := rfl) (by decide) w_513 w_514 w_515 w_83 w_516 (by decide) (by decide +kernel) e1 rfl (Nat.le_of_ble_eq_true rfl) (Nat.le_of_ble_eq_true rfl) (by simp only [rc]; exact o1) hC hI rfl rfl z1 z2 hcp hsp (fun H1 locs1 hI1 => ?_)
  refine lv_aload_n hx hb (show decode code 546 = .ok (.aload_n 2, 1) by decide +kernel) rfl (lv_at hl 2 rfl) ?_
  refine law_arg (k := 1) hx hb hX hbl hI1 hC hL (by omega) hl (show decode code 547 = .ok (.aload_n 0, 1) by decide +kernel) (show decode code 548 = .ok (.iload_n 3, 1) by decide +kernel) (show decode code 549 = .ok (.iconst 1, 1) by decide +kernel) (show decode code 550 = .ok (.iadd, 1) by decide +kernel) (show decode code 551 = .ok (.iaload, 1) by decide +kernel) ?_
  refine law_V (n := 1) (ci := 10) (T := TX10) (st := [.int (xs (j + 1)), .ref MR, .int a]) (show decode code 552 = .ok (.invokevirtual 56, 3) by decide +kernel) (by decide) (show tbM 172 = (yX10_line, cX10_line, 4, (some .int)) from rfl) (hc := rfl) (by decide) w_1144 w_1145 w_1146 w_93 w_1147 (by decide) (by decide +kernel) e2 rfl (Nat.le_of_ble_eq_true rfl) (Nat.le_of_ble_eq_true rfl) (by simp only [rc]; exact o2) hC hI1 (by rw [z1]) z2.symm (by rw [z3, z1]) (by rw [z4, z2]) (by rw [z1]; exact hcp) (by rw [z2]; exact hsp) (fun H2 locs2 hI2 => ?_)
  refine lv_icmp_eq (tgt := 1482) hx hb (show decode code 555 = .ok (.if_icmp .eq 927, 3) by decide +kernel) (by decide) (fun _ => ?_) (fun z => absurd rfl z)
  exact kk h2 H2 locs2 l2 z3 z4 hI2
set_option maxHeartbeats 4000000 in
set_option maxRecDepth 100000 in
theorem law_c10 (hst : stI LI MR 89 188 2) : lawS (p := p) (l := l) (e := e) (s := s) (m := m) (args := args) (below := below) (meth := meth) (c := c) (D := D) (dA := dA) (base := base) (lt := lt) (Q := Q) (lsr := lsr) (b := b) (L := L) (xs := xs) (j := j) (MR := MR) LI 560 := by
  intro h Hp locs hC hX hbl hL hj hl hLI hI hcp hsp kk
  obtain ⟨hx, hb, -⟩ := id hC
  obtain ⟨a, h1, h2, e1, e2, l2, o1, o2, z1, z2, z3, z4⟩ := hst h hLI [(xs (j + 1)), (xs (j + 2))] rfl
  refine lv_aload_n hx hb (show decode code 560 = .ok (.aload_n 1, 1) by decide +kernel) rfl (lv_at hl 1 rfl) ?_
  refine law_arg (k := 1) hx hb hX hbl hI hC hL (by omega) hl (show decode code 561 = .ok (.aload_n 0, 1) by decide +kernel) (show decode code 562 = .ok (.iload_n 3, 1) by decide +kernel) (show decode code 563 = .ok (.iconst 1, 1) by decide +kernel) (show decode code 564 = .ok (.iadd, 1) by decide +kernel) (show decode code 565 = .ok (.iaload, 1) by decide +kernel) ?_
  refine law_arg (k := 2) hx hb hX hbl hI hC hL (by omega) hl (show decode code 566 = .ok (.aload_n 0, 1) by decide +kernel) (show decode code 567 = .ok (.iload_n 3, 1) by decide +kernel) (show decode code 568 = .ok (.iconst 2, 1) by decide +kernel) (show decode code 569 = .ok (.iadd, 1) by decide +kernel) (show decode code 570 = .ok (.iaload, 1) by decide +kernel) ?_
  refine law_V (n := 2) (ci := 9) (T := TX9) (st := [.int (xs (j + 2)), .int (xs (j + 1)), .ref 1]) (show decode code 571 = .ok (.invokevirtual 57, 3) by decide +kernel) (by decide) (show tbM 89 = (yX9_person, cX9_person, 3, (some .int)) from rfl) (hc := rfl) (by decide) w_527 w_528 w_529 w_83 w_530 (by decide) (by decide +kernel) e1 rfl (Nat.le_of_ble_eq_true rfl) (Nat.le_of_ble_eq_true rfl) (by simp only [rc]; exact o1) hC hI rfl rfl z1 z2 hcp hsp (fun H1 locs1 hI1 => ?_)
  refine lv_aload_n hx hb (show decode code 574 = .ok (.aload_n 2, 1) by decide +kernel) rfl (lv_at hl 2 rfl) ?_
  refine law_arg (k := 1) hx hb hX hbl hI1 hC hL (by omega) hl (show decode code 575 = .ok (.aload_n 0, 1) by decide +kernel) (show decode code 576 = .ok (.iload_n 3, 1) by decide +kernel) (show decode code 577 = .ok (.iconst 1, 1) by decide +kernel) (show decode code 578 = .ok (.iadd, 1) by decide +kernel) (show decode code 579 = .ok (.iaload, 1) by decide +kernel) ?_
  refine law_arg (k := 2) hx hb hX hbl hI1 hC hL (by omega) hl (show decode code 580 = .ok (.aload_n 0, 1) by decide +kernel) (show decode code 581 = .ok (.iload_n 3, 1) by decide +kernel) (show decode code 582 = .ok (.iconst 2, 1) by decide +kernel) (show decode code 583 = .ok (.iadd, 1) by decide +kernel) (show decode code 584 = .ok (.iaload, 1) by decide +kernel) ?_
  refine law_V (n := 2) (ci := 10) (T := TX10) (st := [.int (xs (j + 2)), .int (xs (j + 1)), .ref MR, .int a]) (show decode code 585 = .ok (.invokevirtual 60, 3) by decide +kernel) (by decide) (show tbM 188 = (yX10_person, cX10_person, 3, (some .int)) from rfl) (hc := rfl) (by decide) w_1148 w_1149 w_1150 w_93 w_1151 (by decide) (by decide +kernel) e2 rfl (Nat.le_of_ble_eq_true rfl) (Nat.le_of_ble_eq_true rfl) (by simp only [rc]; exact o2) hC hI1 (by rw [z1]) z2.symm (by rw [z3, z1]) (by rw [z4, z2]) (by rw [z1]; exact hcp) (by rw [z2]; exact hsp) (fun H2 locs2 hI2 => ?_)
  refine lv_icmp_eq (tgt := 1482) hx hb (show decode code 588 = .ok (.if_icmp .eq 894, 3) by decide +kernel) (by decide) (fun _ => ?_) (fun z => absurd rfl z)
  exact kk h2 H2 locs2 l2 z3 z4 hI2
set_option maxHeartbeats 4000000 in
set_option maxRecDepth 100000 in
theorem law_c11 (hst : stI LI MR 90 191 2) : lawS (p := p) (l := l) (e := e) (s := s) (m := m) (args := args) (below := below) (meth := meth) (c := c) (D := D) (dA := dA) (base := base) (lt := lt) (Q := Q) (lsr := lsr) (b := b) (L := L) (xs := xs) (j := j) (MR := MR) LI 593 := by
  intro h Hp locs hC hX hbl hL hj hl hLI hI hcp hsp kk
  obtain ⟨hx, hb, -⟩ := id hC
  obtain ⟨a, h1, h2, e1, e2, l2, o1, o2, z1, z2, z3, z4⟩ := hst h hLI [(xs (j + 1)), (xs (j + 2))] rfl
  refine lv_aload_n hx hb (show decode code 593 = .ok (.aload_n 1, 1) by decide +kernel) rfl (lv_at hl 1 rfl) ?_
  refine law_arg (k := 1) hx hb hX hbl hI hC hL (by omega) hl (show decode code 594 = .ok (.aload_n 0, 1) by decide +kernel) (show decode code 595 = .ok (.iload_n 3, 1) by decide +kernel) (show decode code 596 = .ok (.iconst 1, 1) by decide +kernel) (show decode code 597 = .ok (.iadd, 1) by decide +kernel) (show decode code 598 = .ok (.iaload, 1) by decide +kernel) ?_
  refine law_arg (k := 2) hx hb hX hbl hI hC hL (by omega) hl (show decode code 599 = .ok (.aload_n 0, 1) by decide +kernel) (show decode code 600 = .ok (.iload_n 3, 1) by decide +kernel) (show decode code 601 = .ok (.iconst 2, 1) by decide +kernel) (show decode code 602 = .ok (.iadd, 1) by decide +kernel) (show decode code 603 = .ok (.iaload, 1) by decide +kernel) ?_
  refine law_V (n := 2) (ci := 9) (T := TX9) (st := [.int (xs (j + 2)), .int (xs (j + 1)), .ref 1]) (show decode code 604 = .ok (.invokevirtual 61, 3) by decide +kernel) (by decide) (show tbM 90 = (yX9_mark, cX9_mark, 4, (some .int)) from rfl) (hc := rfl) (by decide) w_543 w_544 w_545 w_83 w_546 (by decide) (by decide +kernel) e1 rfl (Nat.le_of_ble_eq_true rfl) (Nat.le_of_ble_eq_true rfl) (by simp only [rc]; exact o1) hC hI rfl rfl z1 z2 hcp hsp (fun H1 locs1 hI1 => ?_)
  refine lv_aload_n hx hb (show decode code 607 = .ok (.aload_n 2, 1) by decide +kernel) rfl (lv_at hl 2 rfl) ?_
  refine law_arg (k := 1) hx hb hX hbl hI1 hC hL (by omega) hl (show decode code 608 = .ok (.aload_n 0, 1) by decide +kernel) (show decode code 609 = .ok (.iload_n 3, 1) by decide +kernel) (show decode code 610 = .ok (.iconst 1, 1) by decide +kernel) (show decode code 611 = .ok (.iadd, 1) by decide +kernel) (show decode code 612 = .ok (.iaload, 1) by decide +kernel) ?_
  refine law_arg (k := 2) hx hb hX hbl hI1 hC hL (by omega) hl (show decode code 613 = .ok (.aload_n 0, 1) by decide +kernel) (show decode code 614 = .ok (.iload_n 3, 1) by decide +kernel) (show decode code 615 = .ok (.iconst 2, 1) by decide +kernel) (show decode code 616 = .ok (.iadd, 1) by decide +kernel) (show decode code 617 = .ok (.iaload, 1) by decide +kernel) ?_
  refine law_V (n := 2) (ci := 10) (T := TX10) (st := [.int (xs (j + 2)), .int (xs (j + 1)), .ref MR, .int a]) (show decode code 618 = .ok (.invokevirtual 64, 3) by decide +kernel) (by decide) (show tbM 191 = (yX10_mark, cX10_mark, 5, (some .int)) from rfl) (hc := rfl) (by decide) w_1165 w_1166 w_1167 w_93 w_1168 (by decide) (by decide +kernel) e2 rfl (Nat.le_of_ble_eq_true rfl) (Nat.le_of_ble_eq_true rfl) (by simp only [rc]; exact o2) hC hI1 (by rw [z1]) z2.symm (by rw [z3, z1]) (by rw [z4, z2]) (by rw [z1]; exact hcp) (by rw [z2]; exact hsp) (fun H2 locs2 hI2 => ?_)
  refine lv_icmp_eq (tgt := 1482) hx hb (show decode code 621 = .ok (.if_icmp .eq 861, 3) by decide +kernel) (by decide) (fun _ => ?_) (fun z => absurd rfl z)
  exact kk h2 H2 locs2 l2 z3 z4 hI2
set_option maxHeartbeats 4000000 in
set_option maxRecDepth 100000 in
theorem law_c12 (hst : stI LI MR 91 192 2) : lawS (p := p) (l := l) (e := e) (s := s) (m := m) (args := args) (below := below) (meth := meth) (c := c) (D := D) (dA := dA) (base := base) (lt := lt) (Q := Q) (lsr := lsr) (b := b) (L := L) (xs := xs) (j := j) (MR := MR) LI 626 := by
  intro h Hp locs hC hX hbl hL hj hl hLI hI hcp hsp kk
  obtain ⟨hx, hb, -⟩ := id hC
  obtain ⟨a, h1, h2, e1, e2, l2, o1, o2, z1, z2, z3, z4⟩ := hst h hLI [(xs (j + 1)), (xs (j + 2))] rfl
  refine lv_aload_n hx hb (show decode code 626 = .ok (.aload_n 1, 1) by decide +kernel) rfl (lv_at hl 1 rfl) ?_
  refine law_arg (k := 1) hx hb hX hbl hI hC hL (by omega) hl (show decode code 627 = .ok (.aload_n 0, 1) by decide +kernel) (show decode code 628 = .ok (.iload_n 3, 1) by decide +kernel) (show decode code 629 = .ok (.iconst 1, 1) by decide +kernel) (show decode code 630 = .ok (.iadd, 1) by decide +kernel) (show decode code 631 = .ok (.iaload, 1) by decide +kernel) ?_
  refine law_arg (k := 2) hx hb hX hbl hI hC hL (by omega) hl (show decode code 632 = .ok (.aload_n 0, 1) by decide +kernel) (show decode code 633 = .ok (.iload_n 3, 1) by decide +kernel) (show decode code 634 = .ok (.iconst 2, 1) by decide +kernel) (show decode code 635 = .ok (.iadd, 1) by decide +kernel) (show decode code 636 = .ok (.iaload, 1) by decide +kernel) ?_
  refine law_V (n := 2) (ci := 9) (T := TX9) (st := [.int (xs (j + 2)), .int (xs (j + 1)), .ref 1]) (show decode code 637 = .ok (.invokevirtual 65, 3) by decide +kernel) (by decide) (show tbM 91 = (yX9_price, cX9_price, 4, (some .int)) from rfl) (hc := rfl) (by decide) w_580 w_581 w_582 w_83 w_583 (by decide) (by decide +kernel) e1 rfl (Nat.le_of_ble_eq_true rfl) (Nat.le_of_ble_eq_true rfl) (by simp only [rc]; exact o1) hC hI rfl rfl z1 z2 hcp hsp (fun H1 locs1 hI1 => ?_)
  refine lv_aload_n hx hb (show decode code 640 = .ok (.aload_n 2, 1) by decide +kernel) rfl (lv_at hl 2 rfl) ?_
  refine law_arg (k := 1) hx hb hX hbl hI1 hC hL (by omega) hl (show decode code 641 = .ok (.aload_n 0, 1) by decide +kernel) (show decode code 642 = .ok (.iload_n 3, 1) by decide +kernel) (show decode code 643 = .ok (.iconst 1, 1) by decide +kernel) (show decode code 644 = .ok (.iadd, 1) by decide +kernel) (show decode code 645 = .ok (.iaload, 1) by decide +kernel) ?_
  refine law_arg (k := 2) hx hb hX hbl hI1 hC hL (by omega) hl (show decode code 646 = .ok (.aload_n 0, 1) by decide +kernel) (show decode code 647 = .ok (.iload_n 3, 1) by decide +kernel) (show decode code 648 = .ok (.iconst 2, 1) by decide +kernel) (show decode code 649 = .ok (.iadd, 1) by decide +kernel) (show decode code 650 = .ok (.iaload, 1) by decide +kernel) ?_
  refine law_V (n := 2) (ci := 10) (T := TX10) (st := [.int (xs (j + 2)), .int (xs (j + 1)), .ref MR, .int a]) (show decode code 651 = .ok (.invokevirtual 68, 3) by decide +kernel) (by decide) (show tbM 192 = (yX10_price, cX10_price, 4, (some .int)) from rfl) (hc := rfl) (by decide) w_1189 w_1190 w_1191 w_93 w_1192 (by decide) (by decide +kernel) e2 rfl (Nat.le_of_ble_eq_true rfl) (Nat.le_of_ble_eq_true rfl) (by simp only [rc]; exact o2) hC hI1 (by rw [z1]) z2.symm (by rw [z3, z1]) (by rw [z4, z2]) (by rw [z1]; exact hcp) (by rw [z2]; exact hsp) (fun H2 locs2 hI2 => ?_)
  refine lv_icmp_eq (tgt := 1482) hx hb (show decode code 654 = .ok (.if_icmp .eq 828, 3) by decide +kernel) (by decide) (fun _ => ?_) (fun z => absurd rfl z)
  exact kk h2 H2 locs2 l2 z3 z4 hI2
set_option maxHeartbeats 4000000 in
set_option maxRecDepth 100000 in
theorem law_c13 (hst : stI LI MR 92 194 1) : lawS (p := p) (l := l) (e := e) (s := s) (m := m) (args := args) (below := below) (meth := meth) (c := c) (D := D) (dA := dA) (base := base) (lt := lt) (Q := Q) (lsr := lsr) (b := b) (L := L) (xs := xs) (j := j) (MR := MR) LI 659 := by
  intro h Hp locs hC hX hbl hL hj hl hLI hI hcp hsp kk
  obtain ⟨hx, hb, -⟩ := id hC
  obtain ⟨a, h1, h2, e1, e2, l2, o1, o2, z1, z2, z3, z4⟩ := hst h hLI [(xs (j + 1))] rfl
  refine lv_aload_n hx hb (show decode code 659 = .ok (.aload_n 1, 1) by decide +kernel) rfl (lv_at hl 1 rfl) ?_
  refine law_arg (k := 1) hx hb hX hbl hI hC hL (by omega) hl (show decode code 660 = .ok (.aload_n 0, 1) by decide +kernel) (show decode code 661 = .ok (.iload_n 3, 1) by decide +kernel) (show decode code 662 = .ok (.iconst 1, 1) by decide +kernel) (show decode code 663 = .ok (.iadd, 1) by decide +kernel) (show decode code 664 = .ok (.iaload, 1) by decide +kernel) ?_
  refine law_V (n := 1) (ci := 9) (T := TX9) (st := [.int (xs (j + 1)), .ref 1]) (show decode code 665 = .ok (.invokevirtual 69, 3) by decide +kernel) (by decide) (show tbM 92 = (yX9_night, cX9_night, 2, (some .int)) from rfl) (hc := rfl) (by decide) w_584 w_585 w_586 w_83 w_587 (by decide) (by decide +kernel) e1 rfl (Nat.le_of_ble_eq_true rfl) (Nat.le_of_ble_eq_true rfl) (by simp only [rc]; exact o1) hC hI rfl rfl z1 z2 hcp hsp (fun H1 locs1 hI1 => ?_)
  refine lv_aload_n hx hb (show decode code 668 = .ok (.aload_n 2, 1) by decide +kernel) rfl (lv_at hl 2 rfl) ?_
  refine law_arg (k := 1) hx hb hX hbl hI1 hC hL (by omega) hl (show decode code 669 = .ok (.aload_n 0, 1) by decide +kernel) (show decode code 670 = .ok (.iload_n 3, 1) by decide +kernel) (show decode code 671 = .ok (.iconst 1, 1) by decide +kernel) (show decode code 672 = .ok (.iadd, 1) by decide +kernel) (show decode code 673 = .ok (.iaload, 1) by decide +kernel) ?_
  refine law_V (n := 1) (ci := 10) (T := TX10) (st := [.int (xs (j + 1)), .ref MR, .int a]) (show decode code 674 = .ok (.invokevirtual 72, 3) by decide +kernel) (by decide) (show tbM 194 = (yX10_night, cX10_night, 2, (some .int)) from rfl) (hc := rfl) (by decide) w_1194 w_1195 w_1196 w_93 w_1197 (by decide) (by decide +kernel) e2 rfl (Nat.le_of_ble_eq_true rfl) (Nat.le_of_ble_eq_true rfl) (by simp only [rc]; exact o2) hC hI1 (by rw [z1]) z2.symm (by rw [z3, z1]) (by rw [z4, z2]) (by rw [z1]; exact hcp) (by rw [z2]; exact hsp) (fun H2 locs2 hI2 => ?_)
  refine lv_icmp_eq (tgt := 1482) hx hb (show decode code 677 = .ok (.if_icmp .eq 805, 3) by decide +kernel) (by decide) (fun _ => ?_) (fun z => absurd rfl z)
  exact kk h2 H2 locs2 l2 z3 z4 hI2
set_option maxHeartbeats 4000000 in
set_option maxRecDepth 100000 in
theorem law_c14 (hst : stI LI MR 93 196 2) : lawS (p := p) (l := l) (e := e) (s := s) (m := m) (args := args) (below := below) (meth := meth) (c := c) (D := D) (dA := dA) (base := base) (lt := lt) (Q := Q) (lsr := lsr) (b := b) (L := L) (xs := xs) (j := j) (MR := MR) LI 682 := by
  intro h Hp locs hC hX hbl hL hj hl hLI hI hcp hsp kk
  obtain ⟨hx, hb, -⟩ := id hC
  obtain ⟨a, h1, h2, e1, e2, l2, o1, o2, z1, z2, z3, z4⟩ := hst h hLI [(xs (j + 1)), (xs (j + 2))] rfl
  refine lv_aload_n hx hb (show decode code 682 = .ok (.aload_n 1, 1) by decide +kernel) rfl (lv_at hl 1 rfl) ?_
  refine law_arg (k := 1) hx hb hX hbl hI hC hL (by omega) hl (show decode code 683 = .ok (.aload_n 0, 1) by decide +kernel) (show decode code 684 = .ok (.iload_n 3, 1) by decide +kernel) (show decode code 685 = .ok (.iconst 1, 1) by decide +kernel) (show decode code 686 = .ok (.iadd, 1) by decide +kernel) (show decode code 687 = .ok (.iaload, 1) by decide +kernel) ?_
  refine law_arg (k := 2) hx hb hX hbl hI hC hL (by omega) hl (show decode code 688 = .ok (.aload_n 0, 1) by decide +kernel) (show decode code 689 = .ok (.iload_n 3, 1) by decide +kernel) (show decode code 690 = .ok (.iconst 2, 1) by decide +kernel) (show decode code 691 = .ok (.iadd, 1) by decide +kernel) (show decode code 692 = .ok (.iaload, 1) by decide +kernel) ?_
  refine law_V (n := 2) (ci := 9) (T := TX9) (st := [.int (xs (j + 2)), .int (xs (j + 1)), .ref 1]) (show decode code 693 = .ok (.invokevirtual 73, 3) by decide +kernel) (by decide) (show tbM 93 = (yX9_trade, cX9_trade, 3, (some .int)) from rfl) (hc := rfl) (by decide) w_624 w_625 w_626 w_83 w_627 (by decide) (by decide +kernel) e1 rfl (Nat.le_of_ble_eq_true rfl) (Nat.le_of_ble_eq_true rfl) (by simp only [rc]; exact o1) hC hI rfl rfl z1 z2 hcp hsp (fun H1 locs1 hI1 => ?_)
  refine lv_aload_n hx hb (show decode code 696 = .ok (.aload_n 2, 1) by decide +kernel) rfl (lv_at hl 2 rfl) ?_
  refine law_arg (k := 1) hx hb hX hbl hI1 hC hL (by omega) hl (show decode code 697 = .ok (.aload_n 0, 1) by decide +kernel) (show decode code 698 = .ok (.iload_n 3, 1) by decide +kernel) (show decode code 699 = .ok (.iconst 1, 1) by decide +kernel) (show decode code 700 = .ok (.iadd, 1) by decide +kernel) (show decode code 701 = .ok (.iaload, 1) by decide +kernel) ?_
  refine law_arg (k := 2) hx hb hX hbl hI1 hC hL (by omega) hl (show decode code 702 = .ok (.aload_n 0, 1) by decide +kernel) (show decode code 703 = .ok (.iload_n 3, 1) by decide +kernel) (show decode code 704 = .ok (.iconst 2, 1) by decide +kernel) (show decode code 705 = .ok (.iadd, 1) by decide +kernel) (show decode code 706 = .ok (.iaload, 1) by decide +kernel) ?_
  refine law_V (n := 2) (ci := 10) (T := TX10) (st := [.int (xs (j + 2)), .int (xs (j + 1)), .ref MR, .int a]) (show decode code 707 = .ok (.invokevirtual 76, 3) by decide +kernel) (by decide) (show tbM 196 = (yX10_trade, cX10_trade, 5, (some .int)) from rfl) (hc := rfl) (by decide) w_1229 w_1230 w_1231 w_93 w_1232 (by decide) (by decide +kernel) e2 rfl (Nat.le_of_ble_eq_true rfl) (Nat.le_of_ble_eq_true rfl) (by simp only [rc]; exact o2) hC hI1 (by rw [z1]) z2.symm (by rw [z3, z1]) (by rw [z4, z2]) (by rw [z1]; exact hcp) (by rw [z2]; exact hsp) (fun H2 locs2 hI2 => ?_)
  refine lv_icmp_eq (tgt := 1482) hx hb (show decode code 710 = .ok (.if_icmp .eq 772, 3) by decide +kernel) (by decide) (fun _ => ?_) (fun z => absurd rfl z)
  exact kk h2 H2 locs2 l2 z3 z4 hI2
set_option maxHeartbeats 4000000 in
set_option maxRecDepth 100000 in
theorem law_c15 (hst : stI LI MR 94 197 1) : lawS (p := p) (l := l) (e := e) (s := s) (m := m) (args := args) (below := below) (meth := meth) (c := c) (D := D) (dA := dA) (base := base) (lt := lt) (Q := Q) (lsr := lsr) (b := b) (L := L) (xs := xs) (j := j) (MR := MR) LI 715 := by
  intro h Hp locs hC hX hbl hL hj hl hLI hI hcp hsp kk
  obtain ⟨hx, hb, -⟩ := id hC
  obtain ⟨a, h1, h2, e1, e2, l2, o1, o2, z1, z2, z3, z4⟩ := hst h hLI [(xs (j + 1))] rfl
  refine lv_aload_n hx hb (show decode code 715 = .ok (.aload_n 1, 1) by decide +kernel) rfl (lv_at hl 1 rfl) ?_
  refine law_arg (k := 1) hx hb hX hbl hI hC hL (by omega) hl (show decode code 716 = .ok (.aload_n 0, 1) by decide +kernel) (show decode code 717 = .ok (.iload_n 3, 1) by decide +kernel) (show decode code 718 = .ok (.iconst 1, 1) by decide +kernel) (show decode code 719 = .ok (.iadd, 1) by decide +kernel) (show decode code 720 = .ok (.iaload, 1) by decide +kernel) ?_
  refine law_V (n := 1) (ci := 9) (T := TX9) (st := [.int (xs (j + 1)), .ref 1]) (show decode code 721 = .ok (.invokevirtual 77, 3) by decide +kernel) (by decide) (show tbM 94 = (yX9_undo, cX9_undo, 3, (some .int)) from rfl) (hc := rfl) (by decide) w_632 w_633 w_634 w_83 w_635 (by decide) (by decide +kernel) e1 rfl (Nat.le_of_ble_eq_true rfl) (Nat.le_of_ble_eq_true rfl) (by simp only [rc]; exact o1) hC hI rfl rfl z1 z2 hcp hsp (fun H1 locs1 hI1 => ?_)
  refine lv_aload_n hx hb (show decode code 724 = .ok (.aload_n 2, 1) by decide +kernel) rfl (lv_at hl 2 rfl) ?_
  refine law_arg (k := 1) hx hb hX hbl hI1 hC hL (by omega) hl (show decode code 725 = .ok (.aload_n 0, 1) by decide +kernel) (show decode code 726 = .ok (.iload_n 3, 1) by decide +kernel) (show decode code 727 = .ok (.iconst 1, 1) by decide +kernel) (show decode code 728 = .ok (.iadd, 1) by decide +kernel) (show decode code 729 = .ok (.iaload, 1) by decide +kernel) ?_
  refine law_V (n := 1) (ci := 10) (T := TX10) (st := [.int (xs (j + 1)), .ref MR, .int a]) (show decode code 730 = .ok (.invokevirtual 80, 3) by decide +kernel) (by decide) (show tbM 197 = (yX10_undo, cX10_undo, 4, (some .int)) from rfl) (hc := rfl) (by decide) w_1237 w_1238 w_1239 w_93 w_1240 (by decide) (by decide +kernel) e2 rfl (Nat.le_of_ble_eq_true rfl) (Nat.le_of_ble_eq_true rfl) (by simp only [rc]; exact o2) hC hI1 (by rw [z1]) z2.symm (by rw [z3, z1]) (by rw [z4, z2]) (by rw [z1]; exact hcp) (by rw [z2]; exact hsp) (fun H2 locs2 hI2 => ?_)
  refine lv_icmp_eq (tgt := 1482) hx hb (show decode code 733 = .ok (.if_icmp .eq 749, 3) by decide +kernel) (by decide) (fun _ => ?_) (fun z => absurd rfl z)
  exact kk h2 H2 locs2 l2 z3 z4 hI2
set_option maxHeartbeats 4000000 in
set_option maxRecDepth 100000 in
theorem law_c16 (hst : stI LI MR 95 198 1) : lawS (p := p) (l := l) (e := e) (s := s) (m := m) (args := args) (below := below) (meth := meth) (c := c) (D := D) (dA := dA) (base := base) (lt := lt) (Q := Q) (lsr := lsr) (b := b) (L := L) (xs := xs) (j := j) (MR := MR) LI 738 := by
  intro h Hp locs hC hX hbl hL hj hl hLI hI hcp hsp kk
  obtain ⟨hx, hb, -⟩ := id hC
  obtain ⟨a, h1, h2, e1, e2, l2, o1, o2, z1, z2, z3, z4⟩ := hst h hLI [(xs (j + 1))] rfl
  refine lv_aload_n hx hb (show decode code 738 = .ok (.aload_n 1, 1) by decide +kernel) rfl (lv_at hl 1 rfl) ?_
  refine law_arg (k := 1) hx hb hX hbl hI hC hL (by omega) hl (show decode code 739 = .ok (.aload_n 0, 1) by decide +kernel) (show decode code 740 = .ok (.iload_n 3, 1) by decide +kernel) (show decode code 741 = .ok (.iconst 1, 1) by decide +kernel) (show decode code 742 = .ok (.iadd, 1) by decide +kernel) (show decode code 743 = .ok (.iaload, 1) by decide +kernel) ?_
  refine law_V (n := 1) (ci := 9) (T := TX9) (st := [.int (xs (j + 1)), .ref 1]) (show decode code 744 = .ok (.invokevirtual 81, 3) by decide +kernel) (by decide) (show tbM 95 = (yX9_keep, cX9_keep, 2, (some .int)) from rfl) (hc := rfl) (by decide) w_640 w_641 w_642 w_83 w_643 (by decide) (by decide +kernel) e1 rfl (Nat.le_of_ble_eq_true rfl) (Nat.le_of_ble_eq_true rfl) (by simp only [rc]; exact o1) hC hI rfl rfl z1 z2 hcp hsp (fun H1 locs1 hI1 => ?_)
  refine lv_aload_n hx hb (show decode code 747 = .ok (.aload_n 2, 1) by decide +kernel) rfl (lv_at hl 2 rfl) ?_
  refine law_arg (k := 1) hx hb hX hbl hI1 hC hL (by omega) hl (show decode code 748 = .ok (.aload_n 0, 1) by decide +kernel) (show decode code 749 = .ok (.iload_n 3, 1) by decide +kernel) (show decode code 750 = .ok (.iconst 1, 1) by decide +kernel) (show decode code 751 = .ok (.iadd, 1) by decide +kernel) (show decode code 752 = .ok (.iaload, 1) by decide +kernel) ?_
  refine law_V (n := 1) (ci := 10) (T := TX10) (st := [.int (xs (j + 1)), .ref MR, .int a]) (show decode code 753 = .ok (.invokevirtual 84, 3) by decide +kernel) (by decide) (show tbM 198 = (yX10_keep, cX10_keep, 2, (some .int)) from rfl) (hc := rfl) (by decide) w_1241 w_1242 w_1243 w_93 w_1244 (by decide) (by decide +kernel) e2 rfl (Nat.le_of_ble_eq_true rfl) (Nat.le_of_ble_eq_true rfl) (by simp only [rc]; exact o2) hC hI1 (by rw [z1]) z2.symm (by rw [z3, z1]) (by rw [z4, z2]) (by rw [z1]; exact hcp) (by rw [z2]; exact hsp) (fun H2 locs2 hI2 => ?_)
  refine lv_icmp_eq (tgt := 1482) hx hb (show decode code 756 = .ok (.if_icmp .eq 726, 3) by decide +kernel) (by decide) (fun _ => ?_) (fun z => absurd rfl z)
  exact kk h2 H2 locs2 l2 z3 z4 hI2
set_option maxHeartbeats 4000000 in
set_option maxRecDepth 100000 in
theorem law_c17 (hst : stI LI MR 96 199 1) : lawS (p := p) (l := l) (e := e) (s := s) (m := m) (args := args) (below := below) (meth := meth) (c := c) (D := D) (dA := dA) (base := base) (lt := lt) (Q := Q) (lsr := lsr) (b := b) (L := L) (xs := xs) (j := j) (MR := MR) LI 761 := by
  intro h Hp locs hC hX hbl hL hj hl hLI hI hcp hsp kk
  obtain ⟨hx, hb, -⟩ := id hC
  obtain ⟨a, h1, h2, e1, e2, l2, o1, o2, z1, z2, z3, z4⟩ := hst h hLI [(xs (j + 1))] rfl
  refine lv_aload_n hx hb (show decode code 761 = .ok (.aload_n 1, 1) by decide +kernel) rfl (lv_at hl 1 rfl) ?_
  refine law_arg (k := 1) hx hb hX hbl hI hC hL (by omega) hl (show decode code 762 = .ok (.aload_n 0, 1) by decide +kernel) (show decode code 763 = .ok (.iload_n 3, 1) by decide +kernel) (show decode code 764 = .ok (.iconst 1, 1) by decide +kernel) (show decode code 765 = .ok (.iadd, 1) by decide +kernel) (show decode code 766 = .ok (.iaload, 1) by decide +kernel) ?_
  refine law_V (n := 1) (ci := 9) (T := TX9) (st := [.int (xs (j + 1)), .ref 1]) (show decode code 767 = .ok (.invokevirtual 85, 3) by decide +kernel) (by decide) (show tbM 96 = (yX9_on, cX9_on, 2, (some .int)) from rfl) (hc := rfl) (by decide) w_652 w_653 w_654 w_83 w_655 (by decide) (by decide +kernel) e1 rfl (Nat.le_of_ble_eq_true rfl) (Nat.le_of_ble_eq_true rfl) (by simp only [rc]; exact o1) hC hI rfl rfl z1 z2 hcp hsp (fun H1 locs1 hI1 => ?_)
  refine lv_aload_n hx hb (show decode code 770 = .ok (.aload_n 2, 1) by decide +kernel) rfl (lv_at hl 2 rfl) ?_
  refine law_arg (k := 1) hx hb hX hbl hI1 hC hL (by omega) hl (show decode code 771 = .ok (.aload_n 0, 1) by decide +kernel) (show decode code 772 = .ok (.iload_n 3, 1) by decide +kernel) (show decode code 773 = .ok (.iconst 1, 1) by decide +kernel) (show decode code 774 = .ok (.iadd, 1) by decide +kernel) (show decode code 775 = .ok (.iaload, 1) by decide +kernel) ?_
  refine law_V (n := 1) (ci := 10) (T := TX10) (st := [.int (xs (j + 1)), .ref MR, .int a]) (show decode code 776 = .ok (.invokevirtual 88, 3) by decide +kernel) (by decide) (show tbM 199 = (yX10_on, cX10_on, 2, (some .int)) from rfl) (hc := rfl) (by decide) w_1250 w_1251 w_1252 w_93 w_1253 (by decide) (by decide +kernel) e2 rfl (Nat.le_of_ble_eq_true rfl) (Nat.le_of_ble_eq_true rfl) (by simp only [rc]; exact o2) hC hI1 (by rw [z1]) z2.symm (by rw [z3, z1]) (by rw [z4, z2]) (by rw [z1]; exact hcp) (by rw [z2]; exact hsp) (fun H2 locs2 hI2 => ?_)
  refine lv_icmp_eq (tgt := 1482) hx hb (show decode code 779 = .ok (.if_icmp .eq 703, 3) by decide +kernel) (by decide) (fun _ => ?_) (fun z => absurd rfl z)
  exact kk h2 H2 locs2 l2 z3 z4 hI2
set_option maxHeartbeats 4000000 in
set_option maxRecDepth 100000 in
theorem law_c18 (hst : stI LI MR 97 200 0) : lawS (p := p) (l := l) (e := e) (s := s) (m := m) (args := args) (below := below) (meth := meth) (c := c) (D := D) (dA := dA) (base := base) (lt := lt) (Q := Q) (lsr := lsr) (b := b) (L := L) (xs := xs) (j := j) (MR := MR) LI 784 := by
  intro h Hp locs hC hX hbl hL hj hl hLI hI hcp hsp kk
  obtain ⟨hx, hb, -⟩ := id hC
  obtain ⟨a, h1, h2, e1, e2, l2, o1, o2, z1, z2, z3, z4⟩ := hst h hLI [] rfl
  refine lv_aload_n hx hb (show decode code 784 = .ok (.aload_n 1, 1) by decide +kernel) rfl (lv_at hl 1 rfl) ?_
  refine law_V (n := 0) (ci := 9) (T := TX9) (st := [.ref 1]) (show decode code 785 = .ok (.invokevirtual 89, 3) by decide +kernel) (by decide) (show tbM 97 = (yX9_tonight, cX9_tonight, 2, (some .int)) from rfl) (hc := rfl) (by decide) w_656 w_657 w_658 w_83 w_659 (by decide) (by decide +kernel) e1 rfl (Nat.le_of_ble_eq_true rfl) (Nat.le_of_ble_eq_true rfl) (by simp only [rc]; exact o1) hC hI rfl rfl z1 z2 hcp hsp (fun H1 locs1 hI1 => ?_)
  refine lv_aload_n hx hb (show decode code 788 = .ok (.aload_n 2, 1) by decide +kernel) rfl (lv_at hl 2 rfl) ?_
  refine law_V (n := 0) (ci := 10) (T := TX10) (st := [.ref MR, .int a]) (show decode code 789 = .ok (.invokevirtual 93, 3) by decide +kernel) (by decide) (show tbM 200 = (yX10_tonight, cX10_tonight, 3, (some .int)) from rfl) (hc := rfl) (by decide) w_1254 w_1255 w_1256 w_93 w_1257 (by decide) (by decide +kernel) e2 rfl (Nat.le_of_ble_eq_true rfl) (Nat.le_of_ble_eq_true rfl) (by simp only [rc]; exact o2) hC hI1 (by rw [z1]) z2.symm (by rw [z3, z1]) (by rw [z4, z2]) (by rw [z1]; exact hcp) (by rw [z2]; exact hsp) (fun H2 locs2 hI2 => ?_)
  refine lv_icmp_eq (tgt := 1482) hx hb (show decode code 792 = .ok (.if_icmp .eq 690, 3) by decide +kernel) (by decide) (fun _ => ?_) (fun z => absurd rfl z)
  exact kk h2 H2 locs2 l2 z3 z4 hI2
set_option maxHeartbeats 4000000 in
set_option maxRecDepth 100000 in
theorem law_c19 (hst : stI LI MR 98 204 2) : lawS (p := p) (l := l) (e := e) (s := s) (m := m) (args := args) (below := below) (meth := meth) (c := c) (D := D) (dA := dA) (base := base) (lt := lt) (Q := Q) (lsr := lsr) (b := b) (L := L) (xs := xs) (j := j) (MR := MR) LI 797 := by
  intro h Hp locs hC hX hbl hL hj hl hLI hI hcp hsp kk
  obtain ⟨hx, hb, -⟩ := id hC
  obtain ⟨a, h1, h2, e1, e2, l2, o1, o2, z1, z2, z3, z4⟩ := hst h hLI [(xs (j + 1)), (xs (j + 2))] rfl
  refine lv_aload_n hx hb (show decode code 797 = .ok (.aload_n 1, 1) by decide +kernel) rfl (lv_at hl 1 rfl) ?_
  refine law_arg (k := 1) hx hb hX hbl hI hC hL (by omega) hl (show decode code 798 = .ok (.aload_n 0, 1) by decide +kernel) (show decode code 799 = .ok (.iload_n 3, 1) by decide +kernel) (show decode code 800 = .ok (.iconst 1, 1) by decide +kernel) (show decode code 801 = .ok (.iadd, 1) by decide +kernel) (show decode code 802 = .ok (.iaload, 1) by decide +kernel) ?_
  refine law_arg (k := 2) hx hb hX hbl hI hC hL (by omega) hl (show decode code 803 = .ok (.aload_n 0, 1) by decide +kernel) (show decode code 804 = .ok (.iload_n 3, 1) by decide +kernel) (show decode code 805 = .ok (.iconst 2, 1) by decide +kernel) (show decode code 806 = .ok (.iadd, 1) by decide +kernel) (show decode code 807 = .ok (.iaload, 1) by decide +kernel) ?_
  refine law_V (n := 2) (ci := 9) (T := TX9) (st := [.int (xs (j + 2)), .int (xs (j + 1)), .ref 1]) (show decode code 808 = .ok (.invokevirtual 94, 3) by decide +kernel) (by decide) (show tbM 98 = (yX9_turn, cX9_turn, 6, (some .int)) from rfl) (hc := rfl) (by decide) w_665 w_666 w_667 w_83 w_668 (by decide) (by decide +kernel) e1 rfl (Nat.le_of_ble_eq_true rfl) (Nat.le_of_ble_eq_true rfl) (by simp only [rc]; exact o1) hC hI rfl rfl z1 z2 hcp hsp (fun H1 locs1 hI1 => ?_)
  refine lv_aload_n hx hb (show decode code 811 = .ok (.aload_n 2, 1) by decide +kernel) rfl (lv_at hl 2 rfl) ?_
  refine law_arg (k := 1) hx hb hX hbl hI1 hC hL (by omega) hl (show decode code 812 = .ok (.aload_n 0, 1) by decide +kernel) (show decode code 813 = .ok (.iload_n 3, 1) by decide +kernel) (show decode code 814 = .ok (.iconst 1, 1) by decide +kernel) (show decode code 815 = .ok (.iadd, 1) by decide +kernel) (show decode code 816 = .ok (.iaload, 1) by decide +kernel) ?_
  refine law_arg (k := 2) hx hb hX hbl hI1 hC hL (by omega) hl (show decode code 817 = .ok (.aload_n 0, 1) by decide +kernel) (show decode code 818 = .ok (.iload_n 3, 1) by decide +kernel) (show decode code 819 = .ok (.iconst 2, 1) by decide +kernel) (show decode code 820 = .ok (.iadd, 1) by decide +kernel) (show decode code 821 = .ok (.iaload, 1) by decide +kernel) ?_
  refine law_V (n := 2) (ci := 10) (T := TX10) (st := [.int (xs (j + 2)), .int (xs (j + 1)), .ref MR, .int a]) (show decode code 822 = .ok (.invokevirtual 97, 3) by decide +kernel) (by decide) (show tbM 204 = (yX10_turn, cX10_turn, 5, (some .int)) from rfl) (hc := rfl) (by decide) w_1262 w_1263 w_1264 w_93 w_1265 (by decide) (by decide +kernel) e2 rfl (Nat.le_of_ble_eq_true rfl) (Nat.le_of_ble_eq_true rfl) (by simp only [rc]; exact o2) hC hI1 (by rw [z1]) z2.symm (by rw [z3, z1]) (by rw [z4, z2]) (by rw [z1]; exact hcp) (by rw [z2]; exact hsp) (fun H2 locs2 hI2 => ?_)
  refine lv_icmp_eq (tgt := 1482) hx hb (show decode code 825 = .ok (.if_icmp .eq 657, 3) by decide +kernel) (by decide) (fun _ => ?_) (fun z => absurd rfl z)
  exact kk h2 H2 locs2 l2 z3 z4 hI2
set_option maxHeartbeats 4000000 in
set_option maxRecDepth 100000 in
theorem law_c20 (hst : stI LI MR 99 205 1) : lawS (p := p) (l := l) (e := e) (s := s) (m := m) (args := args) (below := below) (meth := meth) (c := c) (D := D) (dA := dA) (base := base) (lt := lt) (Q := Q) (lsr := lsr) (b := b) (L := L) (xs := xs) (j := j) (MR := MR) LI 830 := by
  intro h Hp locs hC hX hbl hL hj hl hLI hI hcp hsp kk
  obtain ⟨hx, hb, -⟩ := id hC
  obtain ⟨a, h1, h2, e1, e2, l2, o1, o2, z1, z2, z3, z4⟩ := hst h hLI [(xs (j + 1))] rfl
  refine lv_aload_n hx hb (show decode code 830 = .ok (.aload_n 1, 1) by decide +kernel) rfl (lv_at hl 1 rfl) ?_
  refine law_arg (k := 1) hx hb hX hbl hI hC hL (by omega) hl (show decode code 831 = .ok (.aload_n 0, 1) by decide +kernel) (show decode code 832 = .ok (.iload_n 3, 1) by decide +kernel) (show decode code 833 = .ok (.iconst 1, 1) by decide +kernel) (show decode code 834 = .ok (.iadd, 1) by decide +kernel) (show decode code 835 = .ok (.iaload, 1) by decide +kernel) ?_
  refine law_V (n := 1) (ci := 9) (T := TX9) (st := [.int (xs (j + 1)), .ref 1]) (show decode code 836 = .ok (.invokevirtual 98, 3) by decide +kernel) (by decide) (show tbM 99 = (yX9_after, cX9_after, 5, (some .int)) from rfl) (hc := rfl) (by decide) w_672 w_673 w_674 w_83 w_675 (by decide) (by decide +kernel) e1 rfl (Nat.le_of_ble_eq_true rfl) (Nat.le_of_ble_eq_true rfl) (by simp only [rc]; exact o1) hC hI rfl rfl z1 z2 hcp hsp (fun H1 locs1 hI1 => ?_)
  refine lv_aload_n hx hb (show decode code 839 = .ok (.aload_n 2, 1) by decide +kernel) rfl (lv_at hl 2 rfl) ?_
  refine law_arg (k := 1) hx hb hX hbl hI1 hC hL (by omega) hl (show decode code 840 = .ok (.aload_n 0, 1) by decide +kernel) (show decode code 841 = .ok (.iload_n 3, 1) by decide +kernel) (show decode code 842 = .ok (.iconst 1, 1) by decide +kernel) (show decode code 843 = .ok (.iadd, 1) by decide +kernel) (show decode code 844 = .ok (.iaload, 1) by decide +kernel) ?_
  refine law_V (n := 1) (ci := 10) (T := TX10) (st := [.int (xs (j + 1)), .ref MR, .int a]) (show decode code 845 = .ok (.invokevirtual 101, 3) by decide +kernel) (by decide) (show tbM 205 = (yX10_after, cX10_after, 5, (some .int)) from rfl) (hc := rfl) (by decide) w_1274 w_1275 w_1276 w_93 w_1277 (by decide) (by decide +kernel) e2 rfl (Nat.le_of_ble_eq_true rfl) (Nat.le_of_ble_eq_true rfl) (by simp only [rc]; exact o2) hC hI1 (by rw [z1]) z2.symm (by rw [z3, z1]) (by rw [z4, z2]) (by rw [z1]; exact hcp) (by rw [z2]; exact hsp) (fun H2 locs2 hI2 => ?_)
  refine lv_icmp_eq (tgt := 1482) hx hb (show decode code 848 = .ok (.if_icmp .eq 634, 3) by decide +kernel) (by decide) (fun _ => ?_) (fun z => absurd rfl z)
  exact kk h2 H2 locs2 l2 z3 z4 hI2
set_option maxHeartbeats 4000000 in
set_option maxRecDepth 100000 in
theorem law_c21 (hst : stI LI MR 100 207 2) : lawS (p := p) (l := l) (e := e) (s := s) (m := m) (args := args) (below := below) (meth := meth) (c := c) (D := D) (dA := dA) (base := base) (lt := lt) (Q := Q) (lsr := lsr) (b := b) (L := L) (xs := xs) (j := j) (MR := MR) LI 853 := by
  intro h Hp locs hC hX hbl hL hj hl hLI hI hcp hsp kk
  obtain ⟨hx, hb, -⟩ := id hC
  obtain ⟨a, h1, h2, e1, e2, l2, o1, o2, z1, z2, z3, z4⟩ := hst h hLI [(xs (j + 1)), (xs (j + 2))] rfl
  refine lv_aload_n hx hb (show decode code 853 = .ok (.aload_n 1, 1) by decide +kernel) rfl (lv_at hl 1 rfl) ?_
  refine law_arg (k := 1) hx hb hX hbl hI hC hL (by omega) hl (show decode code 854 = .ok (.aload_n 0, 1) by decide +kernel) (show decode code 855 = .ok (.iload_n 3, 1) by decide +kernel) (show decode code 856 = .ok (.iconst 1, 1) by decide +kernel) (show decode code 857 = .ok (.iadd, 1) by decide +kernel) (show decode code 858 = .ok (.iaload, 1) by decide +kernel) ?_
  refine law_arg (k := 2) hx hb hX hbl hI hC hL (by omega) hl (show decode code 859 = .ok (.aload_n 0, 1) by decide +kernel) (show decode code 860 = .ok (.iload_n 3, 1) by decide +kernel) (show decode code 861 = .ok (.iconst 2, 1) by decide +kernel) (show decode code 862 = .ok (.iadd, 1) by decide +kernel) (show decode code 863 = .ok (.iaload, 1) by decide +kernel) ?_
  refine law_V (n := 2) (ci := 9) (T := TX9) (st := [.int (xs (j + 2)), .int (xs (j + 1)), .ref 1]) (show decode code 864 = .ok (.invokevirtual 102, 3) by decide +kernel) (by decide) (show tbM 100 = (yX9_soonest, cX9_soonest, 3, (some .int)) from rfl) (hc := rfl) (by decide) w_680 w_681 w_682 w_83 w_683 (by decide) (by decide +kernel) e1 rfl (Nat.le_of_ble_eq_true rfl) (Nat.le_of_ble_eq_true rfl) (by simp only [rc]; exact o1) hC hI rfl rfl z1 z2 hcp hsp (fun H1 locs1 hI1 => ?_)
  refine lv_aload_n hx hb (show decode code 867 = .ok (.aload_n 2, 1) by decide +kernel) rfl (lv_at hl 2 rfl) ?_
  refine law_arg (k := 1) hx hb hX hbl hI1 hC hL (by omega) hl (show decode code 868 = .ok (.aload_n 0, 1) by decide +kernel) (show decode code 869 = .ok (.iload_n 3, 1) by decide +kernel) (show decode code 870 = .ok (.iconst 1, 1) by decide +kernel) (show decode code 871 = .ok (.iadd, 1) by decide +kernel) (show decode code 872 = .ok (.iaload, 1) by decide +kernel) ?_
  refine law_arg (k := 2) hx hb hX hbl hI1 hC hL (by omega) hl (show decode code 873 = .ok (.aload_n 0, 1) by decide +kernel) (show decode code 874 = .ok (.iload_n 3, 1) by decide +kernel) (show decode code 875 = .ok (.iconst 2, 1) by decide +kernel) (show decode code 876 = .ok (.iadd, 1) by decide +kernel) (show decode code 877 = .ok (.iaload, 1) by decide +kernel) ?_
  refine law_V (n := 2) (ci := 10) (T := TX10) (st := [.int (xs (j + 2)), .int (xs (j + 1)), .ref MR, .int a]) (show decode code 878 = .ok (.invokevirtual 105, 3) by decide +kernel) (by decide) (show tbM 207 = (yX10_soonest, cX10_soonest, 6, (some .int)) from rfl) (hc := rfl) (by decide) w_1278 w_1279 w_1280 w_93 w_1281 (by decide) (by decide +kernel) e2 rfl (Nat.le_of_ble_eq_true rfl) (Nat.le_of_ble_eq_true rfl) (by simp only [rc]; exact o2) hC hI1 (by rw [z1]) z2.symm (by rw [z3, z1]) (by rw [z4, z2]) (by rw [z1]; exact hcp) (by rw [z2]; exact hsp) (fun H2 locs2 hI2 => ?_)
  refine lv_icmp_eq (tgt := 1482) hx hb (show decode code 881 = .ok (.if_icmp .eq 601, 3) by decide +kernel) (by decide) (fun _ => ?_) (fun z => absurd rfl z)
  exact kk h2 H2 locs2 l2 z3 z4 hI2
set_option maxHeartbeats 4000000 in
set_option maxRecDepth 100000 in
theorem law_c22 (hst : stI LI MR 101 208 2) : lawS (p := p) (l := l) (e := e) (s := s) (m := m) (args := args) (below := below) (meth := meth) (c := c) (D := D) (dA := dA) (base := base) (lt := lt) (Q := Q) (lsr := lsr) (b := b) (L := L) (xs := xs) (j := j) (MR := MR) LI 886 := by
  intro h Hp locs hC hX hbl hL hj hl hLI hI hcp hsp kk
  obtain ⟨hx, hb, -⟩ := id hC
  obtain ⟨a, h1, h2, e1, e2, l2, o1, o2, z1, z2, z3, z4⟩ := hst h hLI [(xs (j + 1)), (xs (j + 2))] rfl
  refine lv_aload_n hx hb (show decode code 886 = .ok (.aload_n 1, 1) by decide +kernel) rfl (lv_at hl 1 rfl) ?_
  refine law_arg (k := 1) hx hb hX hbl hI hC hL (by omega) hl (show decode code 887 = .ok (.aload_n 0, 1) by decide +kernel) (show decode code 888 = .ok (.iload_n 3, 1) by decide +kernel) (show decode code 889 = .ok (.iconst 1, 1) by decide +kernel) (show decode code 890 = .ok (.iadd, 1) by decide +kernel) (show decode code 891 = .ok (.iaload, 1) by decide +kernel) ?_
  refine law_arg (k := 2) hx hb hX hbl hI hC hL (by omega) hl (show decode code 892 = .ok (.aload_n 0, 1) by decide +kernel) (show decode code 893 = .ok (.iload_n 3, 1) by decide +kernel) (show decode code 894 = .ok (.iconst 2, 1) by decide +kernel) (show decode code 895 = .ok (.iadd, 1) by decide +kernel) (show decode code 896 = .ok (.iaload, 1) by decide +kernel) ?_
  refine law_V (n := 2) (ci := 9) (T := TX9) (st := [.int (xs (j + 2)), .int (xs (j + 1)), .ref 1]) (show decode code 897 = .ok (.invokevirtual 106, 3) by decide +kernel) (by decide) (show tbM 101 = (yX9_rows, cX9_rows, 3, (some .int)) from rfl) (hc := rfl) (by decide) w_716 w_717 w_718 w_83 w_719 (by decide) (by decide +kernel) e1 rfl (Nat.le_of_ble_eq_true rfl) (Nat.le_of_ble_eq_true rfl) (by simp only [rc]; exact o1) hC hI rfl rfl z1 z2 hcp hsp (fun H1 locs1 hI1 => ?_)
  refine lv_aload_n hx hb (show decode code 900 = .ok (.aload_n 2, 1) by decide +kernel) rfl (lv_at hl 2 rfl) ?_
  refine law_arg (k := 1) hx hb hX hbl hI1 hC hL (by omega) hl (show decode code 901 = .ok (.aload_n 0, 1) by decide +kernel) (show decode code 902 = .ok (.iload_n 3, 1) by decide +kernel) (show decode code 903 = .ok (.iconst 1, 1) by decide +kernel) (show decode code 904 = .ok (.iadd, 1) by decide +kernel) (show decode code 905 = .ok (.iaload, 1) by decide +kernel) ?_
  refine law_arg (k := 2) hx hb hX hbl hI1 hC hL (by omega) hl (show decode code 906 = .ok (.aload_n 0, 1) by decide +kernel) (show decode code 907 = .ok (.iload_n 3, 1) by decide +kernel) (show decode code 908 = .ok (.iconst 2, 1) by decide +kernel) (show decode code 909 = .ok (.iadd, 1) by decide +kernel) (show decode code 910 = .ok (.iaload, 1) by decide +kernel) ?_
  refine law_V (n := 2) (ci := 10) (T := TX10) (st := [.int (xs (j + 2)), .int (xs (j + 1)), .ref MR, .int a]) (show decode code 911 = .ok (.invokevirtual 109, 3) by decide +kernel) (by decide) (show tbM 208 = (yX10_rows, cX10_rows, 5, (some .int)) from rfl) (hc := rfl) (by decide) w_1287 w_1288 w_1289 w_93 w_1290 (by decide) (by decide +kernel) e2 rfl (Nat.le_of_ble_eq_true rfl) (Nat.le_of_ble_eq_true rfl) (by simp only [rc]; exact o2) hC hI1 (by rw [z1]) z2.symm (by rw [z3, z1]) (by rw [z4, z2]) (by rw [z1]; exact hcp) (by rw [z2]; exact hsp) (fun H2 locs2 hI2 => ?_)
  refine lv_icmp_eq (tgt := 1482) hx hb (show decode code 914 = .ok (.if_icmp .eq 568, 3) by decide +kernel) (by decide) (fun _ => ?_) (fun z => absurd rfl z)
  exact kk h2 H2 locs2 l2 z3 z4 hI2
set_option maxHeartbeats 4000000 in
set_option maxRecDepth 100000 in
theorem law_c23 (hst : stI LI MR 102 211 3) : lawS (p := p) (l := l) (e := e) (s := s) (m := m) (args := args) (below := below) (meth := meth) (c := c) (D := D) (dA := dA) (base := base) (lt := lt) (Q := Q) (lsr := lsr) (b := b) (L := L) (xs := xs) (j := j) (MR := MR) LI 919 := by
  intro h Hp locs hC hX hbl hL hj hl hLI hI hcp hsp kk
  obtain ⟨hx, hb, -⟩ := id hC
  obtain ⟨a, h1, h2, e1, e2, l2, o1, o2, z1, z2, z3, z4⟩ := hst h hLI [(xs (j + 1)), (xs (j + 2)), (xs (j + 3))] rfl
  refine lv_aload_n hx hb (show decode code 919 = .ok (.aload_n 1, 1) by decide +kernel) rfl (lv_at hl 1 rfl) ?_
  refine law_arg (k := 1) hx hb hX hbl hI hC hL (by omega) hl (show decode code 920 = .ok (.aload_n 0, 1) by decide +kernel) (show decode code 921 = .ok (.iload_n 3, 1) by decide +kernel) (show decode code 922 = .ok (.iconst 1, 1) by decide +kernel) (show decode code 923 = .ok (.iadd, 1) by decide +kernel) (show decode code 924 = .ok (.iaload, 1) by decide +kernel) ?_
  refine law_arg (k := 2) hx hb hX hbl hI hC hL (by omega) hl (show decode code 925 = .ok (.aload_n 0, 1) by decide +kernel) (show decode code 926 = .ok (.iload_n 3, 1) by decide +kernel) (show decode code 927 = .ok (.iconst 2, 1) by decide +kernel) (show decode code 928 = .ok (.iadd, 1) by decide +kernel) (show decode code 929 = .ok (.iaload, 1) by decide +kernel) ?_
  refine law_arg (k := 3) hx hb hX hbl hI hC hL (by omega) hl (show decode code 930 = .ok (.aload_n 0, 1) by decide +kernel) (show decode code 931 = .ok (.iload_n 3, 1) by decide +kernel) (show decode code 932 = .ok (.iconst 3, 1) by decide +kernel) (show decode code 933 = .ok (.iadd, 1) by decide +kernel) (show decode code 934 = .ok (.iaload, 1) by decide +kernel) ?_
  refine law_V (n := 3) (ci := 9) (T := TX9) (st := [.int (xs (j + 3)), .int (xs (j + 2)), .int (xs (j + 1)), .ref 1]) (show decode code 935 = .ok (.invokevirtual 110, 3) by decide +kernel) (by decide) (show tbM 102 = (yX9_odds, cX9_odds, 4, (some .int)) from rfl) (hc := rfl) (by decide) w_720 w_721 w_722 w_83 w_723 (by decide) (by decide +kernel) e1 rfl (Nat.le_of_ble_eq_true rfl) (Nat.le_of_ble_eq_true rfl) (by simp only [rc]; exact o1) hC hI rfl rfl z1 z2 hcp hsp (fun H1 locs1 hI1 => ?_)
  refine lv_aload_n hx hb (show decode code 938 = .ok (.aload_n 2, 1) by decide +kernel) rfl (lv_at hl 2 rfl) ?_
  refine law_arg (k := 1) hx hb hX hbl hI1 hC hL (by omega) hl (show decode code 939 = .ok (.aload_n 0, 1) by decide +kernel) (show decode code 940 = .ok (.iload_n 3, 1) by decide +kernel) (show decode code 941 = .ok (.iconst 1, 1) by decide +kernel) (show decode code 942 = .ok (.iadd, 1) by decide +kernel) (show decode code 943 = .ok (.iaload, 1) by decide +kernel) ?_
  refine law_arg (k := 2) hx hb hX hbl hI1 hC hL (by omega) hl (show decode code 944 = .ok (.aload_n 0, 1) by decide +kernel) (show decode code 945 = .ok (.iload_n 3, 1) by decide +kernel) (show decode code 946 = .ok (.iconst 2, 1) by decide +kernel) (show decode code 947 = .ok (.iadd, 1) by decide +kernel) (show decode code 948 = .ok (.iaload, 1) by decide +kernel) ?_
  refine law_arg (k := 3) hx hb hX hbl hI1 hC hL (by omega) hl (show decode code 949 = .ok (.aload_n 0, 1) by decide +kernel) (show decode code 950 = .ok (.iload_n 3, 1) by decide +kernel) (show decode code 951 = .ok (.iconst 3, 1) by decide +kernel) (show decode code 952 = .ok (.iadd, 1) by decide +kernel) (show decode code 953 = .ok (.iaload, 1) by decide +kernel) ?_
  refine law_V (n := 3) (ci := 10) (T := TX10) (st := [.int (xs (j + 3)), .int (xs (j + 2)), .int (xs (j + 1)), .ref MR, .int a]) (show decode code 954 = .ok (.invokevirtual 113, 3) by decide +kernel) (by decide) (show tbM 211 = (yX10_odds, cX10_odds, 11, (some .int)) from rfl) (hc := rfl) (by decide) w_1291 w_1292 w_1293 w_93 w_1294 (by decide) (by decide +kernel) e2 rfl (Nat.le_of_ble_eq_true rfl) (Nat.le_of_ble_eq_true rfl) (by simp only [rc]; exact o2) hC hI1 (by rw [z1]) z2.symm (by rw [z3, z1]) (by rw [z4, z2]) (by rw [z1]; exact hcp) (by rw [z2]; exact hsp) (fun H2 locs2 hI2 => ?_)
  refine lv_icmp_eq (tgt := 1482) hx hb (show decode code 957 = .ok (.if_icmp .eq 525, 3) by decide +kernel) (by decide) (fun _ => ?_) (fun z => absurd rfl z)
  exact kk h2 H2 locs2 l2 z3 z4 hI2
set_option maxHeartbeats 4000000 in
set_option maxRecDepth 100000 in
theorem law_c24 (hst : stI LI MR 103 212 2) : lawS (p := p) (l := l) (e := e) (s := s) (m := m) (args := args) (below := below) (meth := meth) (c := c) (D := D) (dA := dA) (base := base) (lt := lt) (Q := Q) (lsr := lsr) (b := b) (L := L) (xs := xs) (j := j) (MR := MR) LI 962 := by
  intro h Hp locs hC hX hbl hL hj hl hLI hI hcp hsp kk
  obtain ⟨hx, hb, -⟩ := id hC
  obtain ⟨a, h1, h2, e1, e2, l2, o1, o2, z1, z2, z3, z4⟩ := hst h hLI [(xs (j + 1)), (xs (j + 2))] rfl
  refine lv_aload_n hx hb (show decode code 962 = .ok (.aload_n 1, 1) by decide +kernel) rfl (lv_at hl 1 rfl) ?_
  refine law_arg (k := 1) hx hb hX hbl hI hC hL (by omega) hl (show decode code 963 = .ok (.aload_n 0, 1) by decide +kernel) (show decode code 964 = .ok (.iload_n 3, 1) by decide +kernel) (show decode code 965 = .ok (.iconst 1, 1) by decide +kernel) (show decode code 966 = .ok (.iadd, 1) by decide +kernel) (show decode code 967 = .ok (.iaload, 1) by decide +kernel) ?_
  refine law_arg (k := 2) hx hb hX hbl hI hC hL (by omega) hl (show decode code 968 = .ok (.aload_n 0, 1) by decide +kernel) (show decode code 969 = .ok (.iload_n 3, 1) by decide +kernel) (show decode code 970 = .ok (.iconst 2, 1) by decide +kernel) (show decode code 971 = .ok (.iadd, 1) by decide +kernel) (show decode code 972 = .ok (.iaload, 1) by decide +kernel) ?_
  refine law_V (n := 2) (ci := 9) (T := TX9) (st := [.int (xs (j + 2)), .int (xs (j + 1)), .ref 1]) (show decode code 973 = .ok (.invokevirtual 114, 3) by decide +kernel) (by decide) (show tbM 103 = (yX9_mid, cX9_mid, 3, (some .int)) from rfl) (hc := rfl) (by decide) w_735 w_736 w_737 w_83 w_738 (by decide) (by decide +kernel) e1 rfl (Nat.le_of_ble_eq_true rfl) (Nat.le_of_ble_eq_true rfl) (by simp only [rc]; exact o1) hC hI rfl rfl z1 z2 hcp hsp (fun H1 locs1 hI1 => ?_)
  refine lv_aload_n hx hb (show decode code 976 = .ok (.aload_n 2, 1) by decide +kernel) rfl (lv_at hl 2 rfl) ?_
  refine law_arg (k := 1) hx hb hX hbl hI1 hC hL (by omega) hl (show decode code 977 = .ok (.aload_n 0, 1) by decide +kernel) (show decode code 978 = .ok (.iload_n 3, 1) by decide +kernel) (show decode code 979 = .ok (.iconst 1, 1) by decide +kernel) (show decode code 980 = .ok (.iadd, 1) by decide +kernel) (show decode code 981 = .ok (.iaload, 1) by decide +kernel) ?_
  refine law_arg (k := 2) hx hb hX hbl hI1 hC hL (by omega) hl (show decode code 982 = .ok (.aload_n 0, 1) by decide +kernel) (show decode code 983 = .ok (.iload_n 3, 1) by decide +kernel) (show decode code 984 = .ok (.iconst 2, 1) by decide +kernel) (show decode code 985 = .ok (.iadd, 1) by decide +kernel) (show decode code 986 = .ok (.iaload, 1) by decide +kernel) ?_
  refine law_V (n := 2) (ci := 10) (T := TX10) (st := [.int (xs (j + 2)), .int (xs (j + 1)), .ref MR, .int a]) (show decode code 987 = .ok (.invokevirtual 117, 3) by decide +kernel) (by decide) (show tbM 212 = (yX10_mid, cX10_mid, 12, (some .int)) from rfl) (hc := rfl) (by decide) w_1306 w_1307 w_1308 w_93 w_1309 (by decide) (by decide +kernel) e2 rfl (Nat.le_of_ble_eq_true rfl) (Nat.le_of_ble_eq_true rfl) (by simp only [rc]; exact o2) hC hI1 (by rw [z1]) z2.symm (by rw [z3, z1]) (by rw [z4, z2]) (by rw [z1]; exact hcp) (by rw [z2]; exact hsp) (fun H2 locs2 hI2 => ?_)
  refine lv_icmp_eq (tgt := 1482) hx hb (show decode code 990 = .ok (.if_icmp .eq 492, 3) by decide +kernel) (by decide) (fun _ => ?_) (fun z => absurd rfl z)
  exact kk h2 H2 locs2 l2 z3 z4 hI2
set_option maxHeartbeats 4000000 in
set_option maxRecDepth 100000 in
theorem law_c25 (hst : stI LI MR 104 219 3) : lawS (p := p) (l := l) (e := e) (s := s) (m := m) (args := args) (below := below) (meth := meth) (c := c) (D := D) (dA := dA) (base := base) (lt := lt) (Q := Q) (lsr := lsr) (b := b) (L := L) (xs := xs) (j := j) (MR := MR) LI 995 := by
  intro h Hp locs hC hX hbl hL hj hl hLI hI hcp hsp kk
  obtain ⟨hx, hb, -⟩ := id hC
  obtain ⟨a, h1, h2, e1, e2, l2, o1, o2, z1, z2, z3, z4⟩ := hst h hLI [(xs (j + 1)), (xs (j + 2)), (xs (j + 3))] rfl
  refine lv_aload_n hx hb (show decode code 995 = .ok (.aload_n 1, 1) by decide +kernel) rfl (lv_at hl 1 rfl) ?_
  refine law_arg (k := 1) hx hb hX hbl hI hC hL (by omega) hl (show decode code 996 = .ok (.aload_n 0, 1) by decide +kernel) (show decode code 997 = .ok (.iload_n 3, 1) by decide +kernel) (show decode code 998 = .ok (.iconst 1, 1) by decide +kernel) (show decode code 999 = .ok (.iadd, 1) by decide +kernel) (show decode code 1000 = .ok (.iaload, 1) by decide +kernel) ?_
  refine law_arg (k := 2) hx hb hX hbl hI hC hL (by omega) hl (show decode code 1001 = .ok (.aload_n 0, 1) by decide +kernel) (show decode code 1002 = .ok (.iload_n 3, 1) by decide +kernel) (show decode code 1003 = .ok (.iconst 2, 1) by decide +kernel) (show decode code 1004 = .ok (.iadd, 1) by decide +kernel) (show decode code 1005 = .ok (.iaload, 1) by decide +kernel) ?_
  refine law_arg (k := 3) hx hb hX hbl hI hC hL (by omega) hl (show decode code 1006 = .ok (.aload_n 0, 1) by decide +kernel) (show decode code 1007 = .ok (.iload_n 3, 1) by decide +kernel) (show decode code 1008 = .ok (.iconst 3, 1) by decide +kernel) (show decode code 1009 = .ok (.iadd, 1) by decide +kernel) (show decode code 1010 = .ok (.iaload, 1) by decide +kernel) ?_
  refine law_V (n := 3) (ci := 9) (T := TX9) (st := [.int (xs (j + 3)), .int (xs (j + 2)), .int (xs (j + 1)), .ref 1]) (show decode code 1011 = .ok (.invokevirtual 118, 3) by decide +kernel) (by decide) (show tbM 104 = (yX9_push, cX9_push, 7, (some .int)) from rfl) (hc := rfl) (by decide) w_739 w_740 w_741 w_83 w_742 (by decide) (by decide +kernel) e1 rfl (Nat.le_of_ble_eq_true rfl) (Nat.le_of_ble_eq_true rfl) (by simp only [rc]; exact o1) hC hI rfl rfl z1 z2 hcp hsp (fun H1 locs1 hI1 => ?_)
  refine lv_aload_n hx hb (show decode code 1014 = .ok (.aload_n 2, 1) by decide +kernel) rfl (lv_at hl 2 rfl) ?_
  refine law_arg (k := 1) hx hb hX hbl hI1 hC hL (by omega) hl (show decode code 1015 = .ok (.aload_n 0, 1) by decide +kernel) (show decode code 1016 = .ok (.iload_n 3, 1) by decide +kernel) (show decode code 1017 = .ok (.iconst 1, 1) by decide +kernel) (show decode code 1018 = .ok (.iadd, 1) by decide +kernel) (show decode code 1019 = .ok (.iaload, 1) by decide +kernel) ?_
  refine law_arg (k := 2) hx hb hX hbl hI1 hC hL (by omega) hl (show decode code 1020 = .ok (.aload_n 0, 1) by decide +kernel) (show decode code 1021 = .ok (.iload_n 3, 1) by decide +kernel) (show decode code 1022 = .ok (.iconst 2, 1) by decide +kernel) (show decode code 1023 = .ok (.iadd, 1) by decide +kernel) (show decode code 1024 = .ok (.iaload, 1) by decide +kernel) ?_
  refine law_arg (k := 3) hx hb hX hbl hI1 hC hL (by omega) hl (show decode code 1025 = .ok (.aload_n 0, 1) by decide +kernel) (show decode code 1026 = .ok (.iload_n 3, 1) by decide +kernel) (show decode code 1027 = .ok (.iconst 3, 1) by decide +kernel) (show decode code 1028 = .ok (.iadd, 1) by decide +kernel) (show decode code 1029 = .ok (.iaload, 1) by decide +kernel) ?_
  refine law_V (n := 3) (ci := 10) (T := TX10) (st := [.int (xs (j + 3)), .int (xs (j + 2)), .int (xs (j + 1)), .ref MR, .int a]) (show decode code 1030 = .ok (.invokevirtual 121, 3) by decide +kernel) (by decide) (show tbM 219 = (yX10_push, cX10_push, 7, (some .int)) from rfl) (hc := rfl) (by decide) w_1310 w_1311 w_1312 w_93 w_1313 (by decide) (by decide +kernel) e2 rfl (Nat.le_of_ble_eq_true rfl) (Nat.le_of_ble_eq_true rfl) (by simp only [rc]; exact o2) hC hI1 (by rw [z1]) z2.symm (by rw [z3, z1]) (by rw [z4, z2]) (by rw [z1]; exact hcp) (by rw [z2]; exact hsp) (fun H2 locs2 hI2 => ?_)
  refine lv_icmp_eq (tgt := 1482) hx hb (show decode code 1033 = .ok (.if_icmp .eq 449, 3) by decide +kernel) (by decide) (fun _ => ?_) (fun z => absurd rfl z)
  exact kk h2 H2 locs2 l2 z3 z4 hI2
set_option maxHeartbeats 4000000 in
set_option maxRecDepth 100000 in
theorem law_c26 (hst : stI LI MR 105 220 3) : lawS (p := p) (l := l) (e := e) (s := s) (m := m) (args := args) (below := below) (meth := meth) (c := c) (D := D) (dA := dA) (base := base) (lt := lt) (Q := Q) (lsr := lsr) (b := b) (L := L) (xs := xs) (j := j) (MR := MR) LI 1038 := by
  intro h Hp locs hC hX hbl hL hj hl hLI hI hcp hsp kk
  obtain ⟨hx, hb, -⟩ := id hC
  obtain ⟨a, h1, h2, e1, e2, l2, o1, o2, z1, z2, z3, z4⟩ := hst h hLI [(xs (j + 1)), (xs (j + 2)), (xs (j + 3))] rfl
  refine lv_aload_n hx hb (show decode code 1038 = .ok (.aload_n 1, 1) by decide +kernel) rfl (lv_at hl 1 rfl) ?_
  refine law_arg (k := 1) hx hb hX hbl hI hC hL (by omega) hl (show decode code 1039 = .ok (.aload_n 0, 1) by decide +kernel) (show decode code 1040 = .ok (.iload_n 3, 1) by decide +kernel) (show decode code 1041 = .ok (.iconst 1, 1) by decide +kernel) (show decode code 1042 = .ok (.iadd, 1) by decide +kernel) (show decode code 1043 = .ok (.iaload, 1) by decide +kernel) ?_
  refine law_arg (k := 2) hx hb hX hbl hI hC hL (by omega) hl (show decode code 1044 = .ok (.aload_n 0, 1) by decide +kernel) (show decode code 1045 = .ok (.iload_n 3, 1) by decide +kernel) (show decode code 1046 = .ok (.iconst 2, 1) by decide +kernel) (show decode code 1047 = .ok (.iadd, 1) by decide +kernel) (show decode code 1048 = .ok (.iaload, 1) by decide +kernel) ?_
  refine law_arg (k := 3) hx hb hX hbl hI hC hL (by omega) hl (show decode code 1049 = .ok (.aload_n 0, 1) by decide +kernel) (show decode code 1050 = .ok (.iload_n 3, 1) by decide +kernel) (show decode code 1051 = .ok (.iconst 3, 1) by decide +kernel) (show decode code 1052 = .ok (.iadd, 1) by decide +kernel) (show decode code 1053 = .ok (.iaload, 1) by decide +kernel) ?_
  refine law_V (n := 3) (ci := 9) (T := TX9) (st := [.int (xs (j + 3)), .int (xs (j + 2)), .int (xs (j + 1)), .ref 1]) (show decode code 1054 = .ok (.invokevirtual 122, 3) by decide +kernel) (by decide) (show tbM 105 = (yX9_pair, cX9_pair, 4, (some .int)) from rfl) (hc := rfl) (by decide) w_774 w_775 w_776 w_83 w_777 (by decide) (by decide +kernel) e1 rfl (Nat.le_of_ble_eq_true rfl) (Nat.le_of_ble_eq_true rfl) (by simp only [rc]; exact o1) hC hI rfl rfl z1 z2 hcp hsp (fun H1 locs1 hI1 => ?_)
  refine lv_aload_n hx hb (show decode code 1057 = .ok (.aload_n 2, 1) by decide +kernel) rfl (lv_at hl 2 rfl) ?_
  refine law_arg (k := 1) hx hb hX hbl hI1 hC hL (by omega) hl (show decode code 1058 = .ok (.aload_n 0, 1) by decide +kernel) (show decode code 1059 = .ok (.iload_n 3, 1) by decide +kernel) (show decode code 1060 = .ok (.iconst 1, 1) by decide +kernel) (show decode code 1061 = .ok (.iadd, 1) by decide +kernel) (show decode code 1062 = .ok (.iaload, 1) by decide +kernel) ?_
  refine law_arg (k := 2) hx hb hX hbl hI1 hC hL (by omega) hl (show decode code 1063 = .ok (.aload_n 0, 1) by decide +kernel) (show decode code 1064 = .ok (.iload_n 3, 1) by decide +kernel) (show decode code 1065 = .ok (.iconst 2, 1) by decide +kernel) (show decode code 1066 = .ok (.iadd, 1) by decide +kernel) (show decode code 1067 = .ok (.iaload, 1) by decide +kernel) ?_
  refine law_arg (k := 3) hx hb hX hbl hI1 hC hL (by omega) hl (show decode code 1068 = .ok (.aload_n 0, 1) by decide +kernel) (show decode code 1069 = .ok (.iload_n 3, 1) by decide +kernel) (show decode code 1070 = .ok (.iconst 3, 1) by decide +kernel) (show decode code 1071 = .ok (.iadd, 1) by decide +kernel) (show decode code 1072 = .ok (.iaload, 1) by decide +kernel) ?_
  refine law_V (n := 3) (ci := 10) (T := TX10) (st := [.int (xs (j + 3)), .int (xs (j + 2)), .int (xs (j + 1)), .ref MR, .int a]) (show decode code 1073 = .ok (.invokevirtual 125, 3) by decide +kernel) (by decide) (show tbM 220 = (yX10_pair, cX10_pair, 7, (some .int)) from rfl) (hc := rfl) (by decide) w_1338 w_1339 w_1340 w_93 w_1341 (by decide) (by decide +kernel) e2 rfl (Nat.le_of_ble_eq_true rfl) (Nat.le_of_ble_eq_true rfl) (by simp only [rc]; exact o2) hC hI1 (by rw [z1]) z2.symm (by rw [z3, z1]) (by rw [z4, z2]) (by rw [z1]; exact hcp) (by rw [z2]; exact hsp) (fun H2 locs2 hI2 => ?_)
  refine lv_icmp_eq (tgt := 1482) hx hb (show decode code 1076 = .ok (.if_icmp .eq 406, 3) by decide +kernel) (by decide) (fun _ => ?_) (fun z => absurd rfl z)
  exact kk h2 H2 locs2 l2 z3 z4 hI2
set_option maxHeartbeats 4000000 in
set_option maxRecDepth 100000 in
theorem law_c27 (hst : stI LI MR 106 221 2) : lawS (p := p) (l := l) (e := e) (s := s) (m := m) (args := args) (below := below) (meth := meth) (c := c) (D := D) (dA := dA) (base := base) (lt := lt) (Q := Q) (lsr := lsr) (b := b) (L := L) (xs := xs) (j := j) (MR := MR) LI 1081 := by
  intro h Hp locs hC hX hbl hL hj hl hLI hI hcp hsp kk
  obtain ⟨hx, hb, -⟩ := id hC
  obtain ⟨a, h1, h2, e1, e2, l2, o1, o2, z1, z2, z3, z4⟩ := hst h hLI [(xs (j + 1)), (xs (j + 2))] rfl
  refine lv_aload_n hx hb (show decode code 1081 = .ok (.aload_n 1, 1) by decide +kernel) rfl (lv_at hl 1 rfl) ?_
  refine law_arg (k := 1) hx hb hX hbl hI hC hL (by omega) hl (show decode code 1082 = .ok (.aload_n 0, 1) by decide +kernel) (show decode code 1083 = .ok (.iload_n 3, 1) by decide +kernel) (show decode code 1084 = .ok (.iconst 1, 1) by decide +kernel) (show decode code 1085 = .ok (.iadd, 1) by decide +kernel) (show decode code 1086 = .ok (.iaload, 1) by decide +kernel) ?_
  refine law_arg (k := 2) hx hb hX hbl hI hC hL (by omega) hl (show decode code 1087 = .ok (.aload_n 0, 1) by decide +kernel) (show decode code 1088 = .ok (.iload_n 3, 1) by decide +kernel) (show decode code 1089 = .ok (.iconst 2, 1) by decide +kernel) (show decode code 1090 = .ok (.iadd, 1) by decide +kernel) (show decode code 1091 = .ok (.iaload, 1) by decide +kernel) ?_
  refine law_V (n := 2) (ci := 9) (T := TX9) (st := [.int (xs (j + 2)), .int (xs (j + 1)), .ref 1]) (show decode code 1092 = .ok (.invokevirtual 126, 3) by decide +kernel) (by decide) (show tbM 106 = (yX9_cheap, cX9_cheap, 3, (some .int)) from rfl) (hc := rfl) (by decide) w_778 w_779 w_780 w_83 w_781 (by decide) (by decide +kernel) e1 rfl (Nat.le_of_ble_eq_true rfl) (Nat.le_of_ble_eq_true rfl) (by simp only [rc]; exact o1) hC hI rfl rfl z1 z2 hcp hsp (fun H1 locs1 hI1 => ?_)
  refine lv_aload_n hx hb (show decode code 1095 = .ok (.aload_n 2, 1) by decide +kernel) rfl (lv_at hl 2 rfl) ?_
  refine law_arg (k := 1) hx hb hX hbl hI1 hC hL (by omega) hl (show decode code 1096 = .ok (.aload_n 0, 1) by decide +kernel) (show decode code 1097 = .ok (.iload_n 3, 1) by decide +kernel) (show decode code 1098 = .ok (.iconst 1, 1) by decide +kernel) (show decode code 1099 = .ok (.iadd, 1) by decide +kernel) (show decode code 1100 = .ok (.iaload, 1) by decide +kernel) ?_
  refine law_arg (k := 2) hx hb hX hbl hI1 hC hL (by omega) hl (show decode code 1101 = .ok (.aload_n 0, 1) by decide +kernel) (show decode code 1102 = .ok (.iload_n 3, 1) by decide +kernel) (show decode code 1103 = .ok (.iconst 2, 1) by decide +kernel) (show decode code 1104 = .ok (.iadd, 1) by decide +kernel) (show decode code 1105 = .ok (.iaload, 1) by decide +kernel) ?_
  refine law_V (n := 2) (ci := 10) (T := TX10) (st := [.int (xs (j + 2)), .int (xs (j + 1)), .ref MR, .int a]) (show decode code 1106 = .ok (.invokevirtual 129, 3) by decide +kernel) (by decide) (show tbM 221 = (yX10_cheap, cX10_cheap, 7, (some .int)) from rfl) (hc := rfl) (by decide) w_1342 w_1343 w_1344 w_93 w_1345 (by decide) (by decide +kernel) e2 rfl (Nat.le_of_ble_eq_true rfl) (Nat.le_of_ble_eq_true rfl) (by simp only [rc]; exact o2) hC hI1 (by rw [z1]) z2.symm (by rw [z3, z1]) (by rw [z4, z2]) (by rw [z1]; exact hcp) (by rw [z2]; exact hsp) (fun H2 locs2 hI2 => ?_)
  refine lv_icmp_eq (tgt := 1482) hx hb (show decode code 1109 = .ok (.if_icmp .eq 373, 3) by decide +kernel) (by decide) (fun _ => ?_) (fun z => absurd rfl z)
  exact kk h2 H2 locs2 l2 z3 z4 hI2
set_option maxHeartbeats 4000000 in
set_option maxRecDepth 100000 in
theorem law_c28 (hst : stI LI MR 107 224 2) : lawS (p := p) (l := l) (e := e) (s := s) (m := m) (args := args) (below := below) (meth := meth) (c := c) (D := D) (dA := dA) (base := base) (lt := lt) (Q := Q) (lsr := lsr) (b := b) (L := L) (xs := xs) (j := j) (MR := MR) LI 1114 := by
  intro h Hp locs hC hX hbl hL hj hl hLI hI hcp hsp kk
  obtain ⟨hx, hb, -⟩ := id hC
  obtain ⟨a, h1, h2, e1, e2, l2, o1, o2, z1, z2, z3, z4⟩ := hst h hLI [(xs (j + 1)), (xs (j + 2))] rfl
  refine lv_aload_n hx hb (show decode code 1114 = .ok (.aload_n 1, 1) by decide +kernel) rfl (lv_at hl 1 rfl) ?_
  refine law_arg (k := 1) hx hb hX hbl hI hC hL (by omega) hl (show decode code 1115 = .ok (.aload_n 0, 1) by decide +kernel) (show decode code 1116 = .ok (.iload_n 3, 1) by decide +kernel) (show decode code 1117 = .ok (.iconst 1, 1) by decide +kernel) (show decode code 1118 = .ok (.iadd, 1) by decide +kernel) (show decode code 1119 = .ok (.iaload, 1) by decide +kernel) ?_
  refine law_arg (k := 2) hx hb hX hbl hI hC hL (by omega) hl (show decode code 1120 = .ok (.aload_n 0, 1) by decide +kernel) (show decode code 1121 = .ok (.iload_n 3, 1) by decide +kernel) (show decode code 1122 = .ok (.iconst 2, 1) by decide +kernel) (show decode code 1123 = .ok (.iadd, 1) by decide +kernel) (show decode code 1124 = .ok (.iaload, 1) by decide +kernel) ?_
  refine law_V (n := 2) (ci := 9) (T := TX9) (st := [.int (xs (j + 2)), .int (xs (j + 1)), .ref 1]) (show decode code 1125 = .ok (.invokevirtual 130, 3) by decide +kernel) (by decide) (show tbM 107 = (yX9_game, cX9_game, 3, (some .int)) from rfl) (hc := rfl) (by decide) w_790 w_791 w_792 w_83 w_793 (by decide) (by decide +kernel) e1 rfl (Nat.le_of_ble_eq_true rfl) (Nat.le_of_ble_eq_true rfl) (by simp only [rc]; exact o1) hC hI rfl rfl z1 z2 hcp hsp (fun H1 locs1 hI1 => ?_)
  refine lv_aload_n hx hb (show decode code 1128 = .ok (.aload_n 2, 1) by decide +kernel) rfl (lv_at hl 2 rfl) ?_
  refine law_arg (k := 1) hx hb hX hbl hI1 hC hL (by omega) hl (show decode code 1129 = .ok (.aload_n 0, 1) by decide +kernel) (show decode code 1130 = .ok (.iload_n 3, 1) by decide +kernel) (show decode code 1131 = .ok (.iconst 1, 1) by decide +kernel) (show decode code 1132 = .ok (.iadd, 1) by decide +kernel) (show decode code 1133 = .ok (.iaload, 1) by decide +kernel) ?_
  refine law_arg (k := 2) hx hb hX hbl hI1 hC hL (by omega) hl (show decode code 1134 = .ok (.aload_n 0, 1) by decide +kernel) (show decode code 1135 = .ok (.iload_n 3, 1) by decide +kernel) (show decode code 1136 = .ok (.iconst 2, 1) by decide +kernel) (show decode code 1137 = .ok (.iadd, 1) by decide +kernel) (show decode code 1138 = .ok (.iaload, 1) by decide +kernel) ?_
  refine law_V (n := 2) (ci := 10) (T := TX10) (st := [.int (xs (j + 2)), .int (xs (j + 1)), .ref MR, .int a]) (show decode code 1139 = .ok (.invokevirtual 133, 3) by decide +kernel) (by decide) (show tbM 224 = (yX10_game, cX10_game, 8, (some .int)) from rfl) (hc := rfl) (by decide) w_1346 w_1347 w_1348 w_93 w_1349 (by decide) (by decide +kernel) e2 rfl (Nat.le_of_ble_eq_true rfl) (Nat.le_of_ble_eq_true rfl) (by simp only [rc]; exact o2) hC hI1 (by rw [z1]) z2.symm (by rw [z3, z1]) (by rw [z4, z2]) (by rw [z1]; exact hcp) (by rw [z2]; exact hsp) (fun H2 locs2 hI2 => ?_)
  refine lv_icmp_eq (tgt := 1482) hx hb (show decode code 1142 = .ok (.if_icmp .eq 340, 3) by decide +kernel) (by decide) (fun _ => ?_) (fun z => absurd rfl z)
  exact kk h2 H2 locs2 l2 z3 z4 hI2
set_option maxHeartbeats 4000000 in
set_option maxRecDepth 100000 in
theorem law_c29 (hst : stI LI MR 108 226 3) : lawS (p := p) (l := l) (e := e) (s := s) (m := m) (args := args) (below := below) (meth := meth) (c := c) (D := D) (dA := dA) (base := base) (lt := lt) (Q := Q) (lsr := lsr) (b := b) (L := L) (xs := xs) (j := j) (MR := MR) LI 1147 := by
  intro h Hp locs hC hX hbl hL hj hl hLI hI hcp hsp kk
  obtain ⟨hx, hb, -⟩ := id hC
  obtain ⟨a, h1, h2, e1, e2, l2, o1, o2, z1, z2, z3, z4⟩ := hst h hLI [(xs (j + 1)), (xs (j + 2)), (xs (j + 3))] rfl
  refine lv_aload_n hx hb (show decode code 1147 = .ok (.aload_n 1, 1) by decide +kernel) rfl (lv_at hl 1 rfl) ?_
  refine law_arg (k := 1) hx hb hX hbl hI hC hL (by omega) hl (show decode code 1148 = .ok (.aload_n 0, 1) by decide +kernel) (show decode code 1149 = .ok (.iload_n 3, 1) by decide +kernel) (show decode code 1150 = .ok (.iconst 1, 1) by decide +kernel) (show decode code 1151 = .ok (.iadd, 1) by decide +kernel) (show decode code 1152 = .ok (.iaload, 1) by decide +kernel) ?_
  refine law_arg (k := 2) hx hb hX hbl hI hC hL (by omega) hl (show decode code 1153 = .ok (.aload_n 0, 1) by decide +kernel) (show decode code 1154 = .ok (.iload_n 3, 1) by decide +kernel) (show decode code 1155 = .ok (.iconst 2, 1) by decide +kernel) (show decode code 1156 = .ok (.iadd, 1) by decide +kernel) (show decode code 1157 = .ok (.iaload, 1) by decide +kernel) ?_
  refine law_arg (k := 3) hx hb hX hbl hI hC hL (by omega) hl (show decode code 1158 = .ok (.aload_n 0, 1) by decide +kernel) (show decode code 1159 = .ok (.iload_n 3, 1) by decide +kernel) (show decode code 1160 = .ok (.iconst 3, 1) by decide +kernel) (show decode code 1161 = .ok (.iadd, 1) by decide +kernel) (show decode code 1162 = .ok (.iaload, 1) by decide +kernel) ?_
  refine law_V (n := 3) (ci := 9) (T := TX9) (st := [.int (xs (j + 3)), .int (xs (j + 2)), .int (xs (j + 1)), .ref 1]) (show decode code 1163 = .ok (.invokevirtual 134, 3) by decide +kernel) (by decide) (show tbM 108 = (yX9_kinds, cX9_kinds, 7, (some .int)) from rfl) (hc := rfl) (by decide) w_815 w_816 w_817 w_83 w_818 (by decide) (by decide +kernel) e1 rfl (Nat.le_of_ble_eq_true rfl) (Nat.le_of_ble_eq_true rfl) (by simp only [rc]; exact o1) hC hI rfl rfl z1 z2 hcp hsp (fun H1 locs1 hI1 => ?_)
  refine lv_aload_n hx hb (show decode code 1166 = .ok (.aload_n 2, 1) by decide +kernel) rfl (lv_at hl 2 rfl) ?_
  refine law_arg (k := 1) hx hb hX hbl hI1 hC hL (by omega) hl (show decode code 1167 = .ok (.aload_n 0, 1) by decide +kernel) (show decode code 1168 = .ok (.iload_n 3, 1) by decide +kernel) (show decode code 1169 = .ok (.iconst 1, 1) by decide +kernel) (show decode code 1170 = .ok (.iadd, 1) by decide +kernel) (show decode code 1171 = .ok (.iaload, 1) by decide +kernel) ?_
  refine law_arg (k := 2) hx hb hX hbl hI1 hC hL (by omega) hl (show decode code 1172 = .ok (.aload_n 0, 1) by decide +kernel) (show decode code 1173 = .ok (.iload_n 3, 1) by decide +kernel) (show decode code 1174 = .ok (.iconst 2, 1) by decide +kernel) (show decode code 1175 = .ok (.iadd, 1) by decide +kernel) (show decode code 1176 = .ok (.iaload, 1) by decide +kernel) ?_
  refine law_arg (k := 3) hx hb hX hbl hI1 hC hL (by omega) hl (show decode code 1177 = .ok (.aload_n 0, 1) by decide +kernel) (show decode code 1178 = .ok (.iload_n 3, 1) by decide +kernel) (show decode code 1179 = .ok (.iconst 3, 1) by decide +kernel) (show decode code 1180 = .ok (.iadd, 1) by decide +kernel) (show decode code 1181 = .ok (.iaload, 1) by decide +kernel) ?_
  refine law_V (n := 3) (ci := 10) (T := TX10) (st := [.int (xs (j + 3)), .int (xs (j + 2)), .int (xs (j + 1)), .ref MR, .int a]) (show decode code 1182 = .ok (.invokevirtual 137, 3) by decide +kernel) (by decide) (show tbM 226 = (yX10_kinds, cX10_kinds, 8, (some .int)) from rfl) (hc := rfl) (by decide) w_1358 w_1359 w_1360 w_93 w_1361 (by decide) (by decide +kernel) e2 rfl (Nat.le_of_ble_eq_true rfl) (Nat.le_of_ble_eq_true rfl) (by simp only [rc]; exact o2) hC hI1 (by rw [z1]) z2.symm (by rw [z3, z1]) (by rw [z4, z2]) (by rw [z1]; exact hcp) (by rw [z2]; exact hsp) (fun H2 locs2 hI2 => ?_)
  refine lv_icmp_eq (tgt := 1482) hx hb (show decode code 1185 = .ok (.if_icmp .eq 297, 3) by decide +kernel) (by decide) (fun _ => ?_) (fun z => absurd rfl z)
  exact kk h2 H2 locs2 l2 z3 z4 hI2
set_option maxHeartbeats 4000000 in
set_option maxRecDepth 100000 in
theorem law_c30 (hst : stI LI MR 109 227 1) : lawS (p := p) (l := l) (e := e) (s := s) (m := m) (args := args) (below := below) (meth := meth) (c := c) (D := D) (dA := dA) (base := base) (lt := lt) (Q := Q) (lsr := lsr) (b := b) (L := L) (xs := xs) (j := j) (MR := MR) LI 1190 := by
  intro h Hp locs hC hX hbl hL hj hl hLI hI hcp hsp kk
  obtain ⟨hx, hb, -⟩ := id hC
  obtain ⟨a, h1, h2, e1, e2, l2, o1, o2, z1, z2, z3, z4⟩ := hst h hLI [(xs (j + 1))] rfl
  refine lv_aload_n hx hb (show decode code 1190 = .ok (.aload_n 1, 1) by decide +kernel) rfl (lv_at hl 1 rfl) ?_
  refine law_arg (k := 1) hx hb hX hbl hI hC hL (by omega) hl (show decode code 1191 = .ok (.aload_n 0, 1) by decide +kernel) (show decode code 1192 = .ok (.iload_n 3, 1) by decide +kernel) (show decode code 1193 = .ok (.iconst 1, 1) by decide +kernel) (show decode code 1194 = .ok (.iadd, 1) by decide +kernel) (show decode code 1195 = .ok (.iaload, 1) by decide +kernel) ?_
  refine law_V (n := 1) (ci := 9) (T := TX9) (st := [.int (xs (j + 1)), .ref 1]) (show decode code 1196 = .ok (.invokevirtual 138, 3) by decide +kernel) (by decide) (show tbM 109 = (yX9_clear, cX9_clear, 3, (some .int)) from rfl) (hc := rfl) (by decide) w_827 w_828 w_829 w_83 w_830 (by decide) (by decide +kernel) e1 rfl (Nat.le_of_ble_eq_true rfl) (Nat.le_of_ble_eq_true rfl) (by simp only [rc]; exact o1) hC hI rfl rfl z1 z2 hcp hsp (fun H1 locs1 hI1 => ?_)
  refine lv_aload_n hx hb (show decode code 1199 = .ok (.aload_n 2, 1) by decide +kernel) rfl (lv_at hl 2 rfl) ?_
  refine law_arg (k := 1) hx hb hX hbl hI1 hC hL (by omega) hl (show decode code 1200 = .ok (.aload_n 0, 1) by decide +kernel) (show decode code 1201 = .ok (.iload_n 3, 1) by decide +kernel) (show decode code 1202 = .ok (.iconst 1, 1) by decide +kernel) (show decode code 1203 = .ok (.iadd, 1) by decide +kernel) (show decode code 1204 = .ok (.iaload, 1) by decide +kernel) ?_
  refine law_V (n := 1) (ci := 10) (T := TX10) (st := [.int (xs (j + 1)), .ref MR, .int a]) (show decode code 1205 = .ok (.invokevirtual 141, 3) by decide +kernel) (by decide) (show tbM 227 = (yX10_clear, cX10_clear, 10, (some .int)) from rfl) (hc := rfl) (by decide) w_1370 w_1371 w_1372 w_93 w_1373 (by decide) (by decide +kernel) e2 rfl (Nat.le_of_ble_eq_true rfl) (Nat.le_of_ble_eq_true rfl) (by simp only [rc]; exact o2) hC hI1 (by rw [z1]) z2.symm (by rw [z3, z1]) (by rw [z4, z2]) (by rw [z1]; exact hcp) (by rw [z2]; exact hsp) (fun H2 locs2 hI2 => ?_)
  refine lv_icmp_eq (tgt := 1482) hx hb (show decode code 1208 = .ok (.if_icmp .eq 274, 3) by decide +kernel) (by decide) (fun _ => ?_) (fun z => absurd rfl z)
  exact kk h2 H2 locs2 l2 z3 z4 hI2
set_option maxHeartbeats 4000000 in
set_option maxRecDepth 100000 in
theorem law_c31 (hst : stI LI MR 110 230 1) : lawS (p := p) (l := l) (e := e) (s := s) (m := m) (args := args) (below := below) (meth := meth) (c := c) (D := D) (dA := dA) (base := base) (lt := lt) (Q := Q) (lsr := lsr) (b := b) (L := L) (xs := xs) (j := j) (MR := MR) LI 1213 := by
  intro h Hp locs hC hX hbl hL hj hl hLI hI hcp hsp kk
  obtain ⟨hx, hb, -⟩ := id hC
  obtain ⟨a, h1, h2, e1, e2, l2, o1, o2, z1, z2, z3, z4⟩ := hst h hLI [(xs (j + 1))] rfl
  refine lv_aload_n hx hb (show decode code 1213 = .ok (.aload_n 1, 1) by decide +kernel) rfl (lv_at hl 1 rfl) ?_
  refine law_arg (k := 1) hx hb hX hbl hI hC hL (by omega) hl (show decode code 1214 = .ok (.aload_n 0, 1) by decide +kernel) (show decode code 1215 = .ok (.iload_n 3, 1) by decide +kernel) (show decode code 1216 = .ok (.iconst 1, 1) by decide +kernel) (show decode code 1217 = .ok (.iadd, 1) by decide +kernel) (show decode code 1218 = .ok (.iaload, 1) by decide +kernel) ?_
  refine law_V (n := 1) (ci := 9) (T := TX9) (st := [.int (xs (j + 1)), .ref 1]) (show decode code 1219 = .ok (.invokevirtual 142, 3) by decide +kernel) (by decide) (show tbM 110 = (yX9_lies, cX9_lies, 5, (some .int)) from rfl) (hc := rfl) (by decide) w_847 w_848 w_849 w_83 w_850 (by decide) (by decide +kernel) e1 rfl (Nat.le_of_ble_eq_true rfl) (Nat.le_of_ble_eq_true rfl) (by simp only [rc]; exact o1) hC hI rfl rfl z1 z2 hcp hsp (fun H1 locs1 hI1 => ?_)
  refine lv_aload_n hx hb (show decode code 1222 = .ok (.aload_n 2, 1) by decide +kernel) rfl (lv_at hl 2 rfl) ?_
  refine law_arg (k := 1) hx hb hX hbl hI1 hC hL (by omega) hl (show decode code 1223 = .ok (.aload_n 0, 1) by decide +kernel) (show decode code 1224 = .ok (.iload_n 3, 1) by decide +kernel) (show decode code 1225 = .ok (.iconst 1, 1) by decide +kernel) (show decode code 1226 = .ok (.iadd, 1) by decide +kernel) (show decode code 1227 = .ok (.iaload, 1) by decide +kernel) ?_
  refine law_V (n := 1) (ci := 10) (T := TX10) (st := [.int (xs (j + 1)), .ref MR, .int a]) (show decode code 1228 = .ok (.invokevirtual 145, 3) by decide +kernel) (by decide) (show tbM 230 = (yX10_lies, cX10_lies, 8, (some .int)) from rfl) (hc := rfl) (by decide) w_1374 w_1375 w_1376 w_93 w_1377 (by decide) (by decide +kernel) e2 rfl (Nat.le_of_ble_eq_true rfl) (Nat.le_of_ble_eq_true rfl) (by simp only [rc]; exact o2) hC hI1 (by rw [z1]) z2.symm (by rw [z3, z1]) (by rw [z4, z2]) (by rw [z1]; exact hcp) (by rw [z2]; exact hsp) (fun H2 locs2 hI2 => ?_)
  refine lv_icmp_eq (tgt := 1482) hx hb (show decode code 1231 = .ok (.if_icmp .eq 251, 3) by decide +kernel) (by decide) (fun _ => ?_) (fun z => absurd rfl z)
  exact kk h2 H2 locs2 l2 z3 z4 hI2
set_option maxHeartbeats 4000000 in
set_option maxRecDepth 100000 in
theorem law_c32 (hst : stI LI MR 111 231 2) : lawS (p := p) (l := l) (e := e) (s := s) (m := m) (args := args) (below := below) (meth := meth) (c := c) (D := D) (dA := dA) (base := base) (lt := lt) (Q := Q) (lsr := lsr) (b := b) (L := L) (xs := xs) (j := j) (MR := MR) LI 1236 := by
  intro h Hp locs hC hX hbl hL hj hl hLI hI hcp hsp kk
  obtain ⟨hx, hb, -⟩ := id hC
  obtain ⟨a, h1, h2, e1, e2, l2, o1, o2, z1, z2, z3, z4⟩ := hst h hLI [(xs (j + 1)), (xs (j + 2))] rfl
  refine lv_aload_n hx hb (show decode code 1236 = .ok (.aload_n 1, 1) by decide +kernel) rfl (lv_at hl 1 rfl) ?_
  refine law_arg (k := 1) hx hb hX hbl hI hC hL (by omega) hl (show decode code 1237 = .ok (.aload_n 0, 1) by decide +kernel) (show decode code 1238 = .ok (.iload_n 3, 1) by decide +kernel) (show decode code 1239 = .ok (.iconst 1, 1) by decide +kernel) (show decode code 1240 = .ok (.iadd, 1) by decide +kernel) (show decode code 1241 = .ok (.iaload, 1) by decide +kernel) ?_
  refine law_arg (k := 2) hx hb hX hbl hI hC hL (by omega) hl (show decode code 1242 = .ok (.aload_n 0, 1) by decide +kernel) (show decode code 1243 = .ok (.iload_n 3, 1) by decide +kernel) (show decode code 1244 = .ok (.iconst 2, 1) by decide +kernel) (show decode code 1245 = .ok (.iadd, 1) by decide +kernel) (show decode code 1246 = .ok (.iaload, 1) by decide +kernel) ?_
  refine law_V (n := 2) (ci := 9) (T := TX9) (st := [.int (xs (j + 2)), .int (xs (j + 1)), .ref 1]) (show decode code 1247 = .ok (.invokevirtual 146, 3) by decide +kernel) (by decide) (show tbM 111 = (yX9_merge, cX9_merge, 6, (some .int)) from rfl) (hc := rfl) (by decide) w_881 w_882 w_883 w_83 w_884 (by decide) (by decide +kernel) e1 rfl (Nat.le_of_ble_eq_true rfl) (Nat.le_of_ble_eq_true rfl) (by simp only [rc]; exact o1) hC hI rfl rfl z1 z2 hcp hsp (fun H1 locs1 hI1 => ?_)
  refine lv_aload_n hx hb (show decode code 1250 = .ok (.aload_n 2, 1) by decide +kernel) rfl (lv_at hl 2 rfl) ?_
  refine law_arg (k := 1) hx hb hX hbl hI1 hC hL (by omega) hl (show decode code 1251 = .ok (.aload_n 0, 1) by decide +kernel) (show decode code 1252 = .ok (.iload_n 3, 1) by decide +kernel) (show decode code 1253 = .ok (.iconst 1, 1) by decide +kernel) (show decode code 1254 = .ok (.iadd, 1) by decide +kernel) (show decode code 1255 = .ok (.iaload, 1) by decide +kernel) ?_
  refine law_arg (k := 2) hx hb hX hbl hI1 hC hL (by omega) hl (show decode code 1256 = .ok (.aload_n 0, 1) by decide +kernel) (show decode code 1257 = .ok (.iload_n 3, 1) by decide +kernel) (show decode code 1258 = .ok (.iconst 2, 1) by decide +kernel) (show decode code 1259 = .ok (.iadd, 1) by decide +kernel) (show decode code 1260 = .ok (.iaload, 1) by decide +kernel) ?_
  refine law_V (n := 2) (ci := 10) (T := TX10) (st := [.int (xs (j + 2)), .int (xs (j + 1)), .ref MR, .int a]) (show decode code 1261 = .ok (.invokevirtual 149, 3) by decide +kernel) (by decide) (show tbM 231 = (yX10_merge, cX10_merge, 5, (some .int)) from rfl) (hc := rfl) (by decide) w_1386 w_1387 w_1388 w_93 w_1389 (by decide) (by decide +kernel) e2 rfl (Nat.le_of_ble_eq_true rfl) (Nat.le_of_ble_eq_true rfl) (by simp only [rc]; exact o2) hC hI1 (by rw [z1]) z2.symm (by rw [z3, z1]) (by rw [z4, z2]) (by rw [z1]; exact hcp) (by rw [z2]; exact hsp) (fun H2 locs2 hI2 => ?_)
  refine lv_icmp_eq (tgt := 1482) hx hb (show decode code 1264 = .ok (.if_icmp .eq 218, 3) by decide +kernel) (by decide) (fun _ => ?_) (fun z => absurd rfl z)
  exact kk h2 H2 locs2 l2 z3 z4 hI2
set_option maxHeartbeats 4000000 in
set_option maxRecDepth 100000 in
theorem law_c33 (hst : stI LI MR 112 232 3) : lawS (p := p) (l := l) (e := e) (s := s) (m := m) (args := args) (below := below) (meth := meth) (c := c) (D := D) (dA := dA) (base := base) (lt := lt) (Q := Q) (lsr := lsr) (b := b) (L := L) (xs := xs) (j := j) (MR := MR) LI 1269 := by
  intro h Hp locs hC hX hbl hL hj hl hLI hI hcp hsp kk
  obtain ⟨hx, hb, -⟩ := id hC
  obtain ⟨a, h1, h2, e1, e2, l2, o1, o2, z1, z2, z3, z4⟩ := hst h hLI [(xs (j + 1)), (xs (j + 2)), (xs (j + 3))] rfl
  refine lv_aload_n hx hb (show decode code 1269 = .ok (.aload_n 1, 1) by decide +kernel) rfl (lv_at hl 1 rfl) ?_
  refine law_arg (k := 1) hx hb hX hbl hI hC hL (by omega) hl (show decode code 1270 = .ok (.aload_n 0, 1) by decide +kernel) (show decode code 1271 = .ok (.iload_n 3, 1) by decide +kernel) (show decode code 1272 = .ok (.iconst 1, 1) by decide +kernel) (show decode code 1273 = .ok (.iadd, 1) by decide +kernel) (show decode code 1274 = .ok (.iaload, 1) by decide +kernel) ?_
  refine law_arg (k := 2) hx hb hX hbl hI hC hL (by omega) hl (show decode code 1275 = .ok (.aload_n 0, 1) by decide +kernel) (show decode code 1276 = .ok (.iload_n 3, 1) by decide +kernel) (show decode code 1277 = .ok (.iconst 2, 1) by decide +kernel) (show decode code 1278 = .ok (.iadd, 1) by decide +kernel) (show decode code 1279 = .ok (.iaload, 1) by decide +kernel) ?_
  refine law_arg (k := 3) hx hb hX hbl hI hC hL (by omega) hl (show decode code 1280 = .ok (.aload_n 0, 1) by decide +kernel) (show decode code 1281 = .ok (.iload_n 3, 1) by decide +kernel) (show decode code 1282 = .ok (.iconst 3, 1) by decide +kernel) (show decode code 1283 = .ok (.iadd, 1) by decide +kernel) (show decode code 1284 = .ok (.iaload, 1) by decide +kernel) ?_
  refine law_V (n := 3) (ci := 9) (T := TX9) (st := [.int (xs (j + 3)), .int (xs (j + 2)), .int (xs (j + 1)), .ref 1]) (show decode code 1285 = .ok (.invokevirtual 150, 3) by decide +kernel) (by decide) (show tbM 112 = (yX9_merged, cX9_merged, 7, (some .int)) from rfl) (hc := rfl) (by decide) w_885 w_886 w_887 w_83 w_888 (by decide) (by decide +kernel) e1 rfl (Nat.le_of_ble_eq_true rfl) (Nat.le_of_ble_eq_true rfl) (by simp only [rc]; exact o1) hC hI rfl rfl z1 z2 hcp hsp (fun H1 locs1 hI1 => ?_)
  refine lv_aload_n hx hb (show decode code 1288 = .ok (.aload_n 2, 1) by decide +kernel) rfl (lv_at hl 2 rfl) ?_
  refine law_arg (k := 1) hx hb hX hbl hI1 hC hL (by omega) hl (show decode code 1289 = .ok (.aload_n 0, 1) by decide +kernel) (show decode code 1290 = .ok (.iload_n 3, 1) by decide +kernel) (show decode code 1291 = .ok (.iconst 1, 1) by decide +kernel) (show decode code 1292 = .ok (.iadd, 1) by decide +kernel) (show decode code 1293 = .ok (.iaload, 1) by decide +kernel) ?_
  refine law_arg (k := 2) hx hb hX hbl hI1 hC hL (by omega) hl (show decode code 1294 = .ok (.aload_n 0, 1) by decide +kernel) (show decode code 1295 = .ok (.iload_n 3, 1) by decide +kernel) (show decode code 1296 = .ok (.iconst 2, 1) by decide +kernel) (show decode code 1297 = .ok (.iadd, 1) by decide +kernel) (show decode code 1298 = .ok (.iaload, 1) by decide +kernel) ?_
  refine law_arg (k := 3) hx hb hX hbl hI1 hC hL (by omega) hl (show decode code 1299 = .ok (.aload_n 0, 1) by decide +kernel) (show decode code 1300 = .ok (.iload_n 3, 1) by decide +kernel) (show decode code 1301 = .ok (.iconst 3, 1) by decide +kernel) (show decode code 1302 = .ok (.iadd, 1) by decide +kernel) (show decode code 1303 = .ok (.iaload, 1) by decide +kernel) ?_
  refine law_V (n := 3) (ci := 10) (T := TX10) (st := [.int (xs (j + 3)), .int (xs (j + 2)), .int (xs (j + 1)), .ref MR, .int a]) (show decode code 1304 = .ok (.invokevirtual 153, 3) by decide +kernel) (by decide) (show tbM 232 = (yX10_merged, cX10_merged, 10, (some .int)) from rfl) (hc := rfl) (by decide) w_1391 w_1392 w_1393 w_93 w_1394 (by decide) (by decide +kernel) e2 rfl (Nat.le_of_ble_eq_true rfl) (Nat.le_of_ble_eq_true rfl) (by simp only [rc]; exact o2) hC hI1 (by rw [z1]) z2.symm (by rw [z3, z1]) (by rw [z4, z2]) (by rw [z1]; exact hcp) (by rw [z2]; exact hsp) (fun H2 locs2 hI2 => ?_)
  refine lv_icmp_eq (tgt := 1482) hx hb (show decode code 1307 = .ok (.if_icmp .eq 175, 3) by decide +kernel) (by decide) (fun _ => ?_) (fun z => absurd rfl z)
  exact kk h2 H2 locs2 l2 z3 z4 hI2
set_option maxHeartbeats 4000000 in
set_option maxRecDepth 100000 in
theorem law_c34 (hst : stI LI MR 113 233 1) : lawS (p := p) (l := l) (e := e) (s := s) (m := m) (args := args) (below := below) (meth := meth) (c := c) (D := D) (dA := dA) (base := base) (lt := lt) (Q := Q) (lsr := lsr) (b := b) (L := L) (xs := xs) (j := j) (MR := MR) LI 1312 := by
  intro h Hp locs hC hX hbl hL hj hl hLI hI hcp hsp kk
  obtain ⟨hx, hb, -⟩ := id hC
  obtain ⟨a, h1, h2, e1, e2, l2, o1, o2, z1, z2, z3, z4⟩ := hst h hLI [(xs (j + 1))] rfl
  refine lv_aload_n hx hb (show decode code 1312 = .ok (.aload_n 1, 1) by decide +kernel) rfl (lv_at hl 1 rfl) ?_
  refine law_arg (k := 1) hx hb hX hbl hI hC hL (by omega) hl (show decode code 1313 = .ok (.aload_n 0, 1) by decide +kernel) (show decode code 1314 = .ok (.iload_n 3, 1) by decide +kernel) (show decode code 1315 = .ok (.iconst 1, 1) by decide +kernel) (show decode code 1316 = .ok (.iadd, 1) by decide +kernel) (show decode code 1317 = .ok (.iaload, 1) by decide +kernel) ?_
  refine law_V (n := 1) (ci := 9) (T := TX9) (st := [.int (xs (j + 1)), .ref 1]) (show decode code 1318 = .ok (.invokevirtual 154, 3) by decide +kernel) (by decide) (show tbM 113 = (yX9_message, cX9_message, 5, (some .int)) from rfl) (hc := rfl) (by decide) w_893 w_894 w_895 w_83 w_896 (by decide) (by decide +kernel) e1 rfl (Nat.le_of_ble_eq_true rfl) (Nat.le_of_ble_eq_true rfl) (by simp only [rc]; exact o1) hC hI rfl rfl z1 z2 hcp hsp (fun H1 locs1 hI1 => ?_)
  refine lv_aload_n hx hb (show decode code 1321 = .ok (.aload_n 2, 1) by decide +kernel) rfl (lv_at hl 2 rfl) ?_
  refine law_arg (k := 1) hx hb hX hbl hI1 hC hL (by omega) hl (show decode code 1322 = .ok (.aload_n 0, 1) by decide +kernel) (show decode code 1323 = .ok (.iload_n 3, 1) by decide +kernel) (show decode code 1324 = .ok (.iconst 1, 1) by decide +kernel) (show decode code 1325 = .ok (.iadd, 1) by decide +kernel) (show decode code 1326 = .ok (.iaload, 1) by decide +kernel) ?_
  refine law_V (n := 1) (ci := 10) (T := TX10) (st := [.int (xs (j + 1)), .ref MR, .int a]) (show decode code 1327 = .ok (.invokevirtual 157, 3) by decide +kernel) (by decide) (show tbM 233 = (yX10_message, cX10_message, 4, (some .int)) from rfl) (hc := rfl) (by decide) w_1395 w_1396 w_1397 w_93 w_1398 (by decide) (by decide +kernel) e2 rfl (Nat.le_of_ble_eq_true rfl) (Nat.le_of_ble_eq_true rfl) (by simp only [rc]; exact o2) hC hI1 (by rw [z1]) z2.symm (by rw [z3, z1]) (by rw [z4, z2]) (by rw [z1]; exact hcp) (by rw [z2]; exact hsp) (fun H2 locs2 hI2 => ?_)
  refine lv_icmp_eq (tgt := 1482) hx hb (show decode code 1330 = .ok (.if_icmp .eq 152, 3) by decide +kernel) (by decide) (fun _ => ?_) (fun z => absurd rfl z)
  exact kk h2 H2 locs2 l2 z3 z4 hI2
set_option maxHeartbeats 4000000 in
set_option maxRecDepth 100000 in
theorem law_c35 (hst : stI LI MR 114 234 2) : lawS (p := p) (l := l) (e := e) (s := s) (m := m) (args := args) (below := below) (meth := meth) (c := c) (D := D) (dA := dA) (base := base) (lt := lt) (Q := Q) (lsr := lsr) (b := b) (L := L) (xs := xs) (j := j) (MR := MR) LI 1335 := by
  intro h Hp locs hC hX hbl hL hj hl hLI hI hcp hsp kk
  obtain ⟨hx, hb, -⟩ := id hC
  obtain ⟨a, h1, h2, e1, e2, l2, o1, o2, z1, z2, z3, z4⟩ := hst h hLI [(xs (j + 1)), (xs (j + 2))] rfl
  refine lv_aload_n hx hb (show decode code 1335 = .ok (.aload_n 1, 1) by decide +kernel) rfl (lv_at hl 1 rfl) ?_
  refine law_arg (k := 1) hx hb hX hbl hI hC hL (by omega) hl (show decode code 1336 = .ok (.aload_n 0, 1) by decide +kernel) (show decode code 1337 = .ok (.iload_n 3, 1) by decide +kernel) (show decode code 1338 = .ok (.iconst 1, 1) by decide +kernel) (show decode code 1339 = .ok (.iadd, 1) by decide +kernel) (show decode code 1340 = .ok (.iaload, 1) by decide +kernel) ?_
  refine law_arg (k := 2) hx hb hX hbl hI hC hL (by omega) hl (show decode code 1341 = .ok (.aload_n 0, 1) by decide +kernel) (show decode code 1342 = .ok (.iload_n 3, 1) by decide +kernel) (show decode code 1343 = .ok (.iconst 2, 1) by decide +kernel) (show decode code 1344 = .ok (.iadd, 1) by decide +kernel) (show decode code 1345 = .ok (.iaload, 1) by decide +kernel) ?_
  refine law_V (n := 2) (ci := 9) (T := TX9) (st := [.int (xs (j + 2)), .int (xs (j + 1)), .ref 1]) (show decode code 1346 = .ok (.invokevirtual 158, 3) by decide +kernel) (by decide) (show tbM 114 = (yX9_lots, cX9_lots, 8, (some .int)) from rfl) (hc := rfl) (by decide) w_899 w_900 w_901 w_83 w_902 (by decide) (by decide +kernel) e1 rfl (Nat.le_of_ble_eq_true rfl) (Nat.le_of_ble_eq_true rfl) (by simp only [rc]; exact o1) hC hI rfl rfl z1 z2 hcp hsp (fun H1 locs1 hI1 => ?_)
  refine lv_aload_n hx hb (show decode code 1349 = .ok (.aload_n 2, 1) by decide +kernel) rfl (lv_at hl 2 rfl) ?_
  refine law_arg (k := 1) hx hb hX hbl hI1 hC hL (by omega) hl (show decode code 1350 = .ok (.aload_n 0, 1) by decide +kernel) (show decode code 1351 = .ok (.iload_n 3, 1) by decide +kernel) (show decode code 1352 = .ok (.iconst 1, 1) by decide +kernel) (show decode code 1353 = .ok (.iadd, 1) by decide +kernel) (show decode code 1354 = .ok (.iaload, 1) by decide +kernel) ?_
  refine law_arg (k := 2) hx hb hX hbl hI1 hC hL (by omega) hl (show decode code 1355 = .ok (.aload_n 0, 1) by decide +kernel) (show decode code 1356 = .ok (.iload_n 3, 1) by decide +kernel) (show decode code 1357 = .ok (.iconst 2, 1) by decide +kernel) (show decode code 1358 = .ok (.iadd, 1) by decide +kernel) (show decode code 1359 = .ok (.iaload, 1) by decide +kernel) ?_
  refine law_V (n := 2) (ci := 10) (T := TX10) (st := [.int (xs (j + 2)), .int (xs (j + 1)), .ref MR, .int a]) (show decode code 1360 = .ok (.invokevirtual 161, 3) by decide +kernel) (by decide) (show tbM 234 = (yX10_lots, cX10_lots, 7, (some .int)) from rfl) (hc := rfl) (by decide) w_1399 w_1400 w_1401 w_93 w_1402 (by decide) (by decide +kernel) e2 rfl (Nat.le_of_ble_eq_true rfl) (Nat.le_of_ble_eq_true rfl) (by simp only [rc]; exact o2) hC hI1 (by rw [z1]) z2.symm (by rw [z3, z1]) (by rw [z4, z2]) (by rw [z1]; exact hcp) (by rw [z2]; exact hsp) (fun H2 locs2 hI2 => ?_)
  refine lv_icmp_eq (tgt := 1482) hx hb (show decode code 1363 = .ok (.if_icmp .eq 119, 3) by decide +kernel) (by decide) (fun _ => ?_) (fun z => absurd rfl z)
  exact kk h2 H2 locs2 l2 z3 z4 hI2
set_option maxHeartbeats 4000000 in
set_option maxRecDepth 100000 in
theorem law_c36 (hst : stI LI MR 115 235 0) : lawS (p := p) (l := l) (e := e) (s := s) (m := m) (args := args) (below := below) (meth := meth) (c := c) (D := D) (dA := dA) (base := base) (lt := lt) (Q := Q) (lsr := lsr) (b := b) (L := L) (xs := xs) (j := j) (MR := MR) LI 1368 := by
  intro h Hp locs hC hX hbl hL hj hl hLI hI hcp hsp kk
  obtain ⟨hx, hb, -⟩ := id hC
  obtain ⟨a, h1, h2, e1, e2, l2, o1, o2, z1, z2, z3, z4⟩ := hst h hLI [] rfl
  refine lv_aload_n hx hb (show decode code 1368 = .ok (.aload_n 1, 1) by decide +kernel) rfl (lv_at hl 1 rfl) ?_
  refine law_V (n := 0) (ci := 9) (T := TX9) (st := [.ref 1]) (show decode code 1369 = .ok (.invokevirtual 162, 3) by decide +kernel) (by decide) (show tbM 115 = (yX9_asked, cX9_asked, 1, (some .int)) from rfl) (hc := rfl) (by decide) w_907 w_908 w_909 w_83 w_910 (by decide) (by decide +kernel) e1 rfl (Nat.le_of_ble_eq_true rfl) (Nat.le_of_ble_eq_true rfl) (by simp only [rc]; exact o1) hC hI rfl rfl z1 z2 hcp hsp (fun H1 locs1 hI1 => ?_)
  refine lv_aload_n hx hb (show decode code 1372 = .ok (.aload_n 2, 1) by decide +kernel) rfl (lv_at hl 2 rfl) ?_
  refine law_V (n := 0) (ci := 10) (T := TX10) (st := [.ref MR, .int a]) (show decode code 1373 = .ok (.invokevirtual 165, 3) by decide +kernel) (by decide) (show tbM 235 = (yX10_asked, cX10_asked, 1, (some .int)) from rfl) (hc := rfl) (by decide) w_1407 w_1408 w_1409 w_93 w_1410 (by decide) (by decide +kernel) e2 rfl (Nat.le_of_ble_eq_true rfl) (Nat.le_of_ble_eq_true rfl) (by simp only [rc]; exact o2) hC hI1 (by rw [z1]) z2.symm (by rw [z3, z1]) (by rw [z4, z2]) (by rw [z1]; exact hcp) (by rw [z2]; exact hsp) (fun H2 locs2 hI2 => ?_)
  refine lv_icmp_eq (tgt := 1482) hx hb (show decode code 1376 = .ok (.if_icmp .eq 106, 3) by decide +kernel) (by decide) (fun _ => ?_) (fun z => absurd rfl z)
  exact kk h2 H2 locs2 l2 z3 z4 hI2
set_option maxHeartbeats 4000000 in
set_option maxRecDepth 100000 in
theorem law_c37 (hst : stL LI MR 116 236 0) : lawS (p := p) (l := l) (e := e) (s := s) (m := m) (args := args) (below := below) (meth := meth) (c := c) (D := D) (dA := dA) (base := base) (lt := lt) (Q := Q) (lsr := lsr) (b := b) (L := L) (xs := xs) (j := j) (MR := MR) LI 1381 := by
  intro h Hp locs hC hX hbl hL hj hl hLI hI hcp hsp kk
  obtain ⟨hx, hb, -⟩ := id hC
  obtain ⟨a, h1, h2, e1, e2, l2, o1, o2, z1, z2, z3, z4⟩ := hst h hLI [] rfl
  refine lv_aload_n hx hb (show decode code 1381 = .ok (.aload_n 1, 1) by decide +kernel) rfl (lv_at hl 1 rfl) ?_
  refine law_V (n := 0) (ci := 9) (T := TX9) (st := [.ref 1]) (show decode code 1382 = .ok (.invokevirtual 166, 3) by decide +kernel) (by decide) (show tbM 116 = (yX9_upper, cX9_upper, 1, (some .long)) from rfl) (hc := rfl) (by decide) w_911 w_912 w_913 w_83 w_914 (by decide) (by decide +kernel) e1 rfl (Nat.le_of_ble_eq_true rfl) (Nat.le_of_ble_eq_true rfl) (by simp only [rc]; exact o1) hC hI rfl rfl z1 z2 hcp hsp (fun H1 locs1 hI1 => ?_)
  refine lv_aload_n hx hb (show decode code 1385 = .ok (.aload_n 2, 1) by decide +kernel) rfl (lv_at hl 2 rfl) ?_
  refine law_V (n := 0) (ci := 10) (T := TX10) (st := [.ref MR, .long a]) (show decode code 1386 = .ok (.invokevirtual 170, 3) by decide +kernel) (by decide) (show tbM 236 = (yX10_upper, cX10_upper, 1, (some .long)) from rfl) (hc := rfl) (by decide) w_1411 w_1412 w_1413 w_93 w_1414 (by decide) (by decide +kernel) e2 rfl (Nat.le_of_ble_eq_true rfl) (Nat.le_of_ble_eq_true rfl) (by simp only [rc]; exact o2) hC hI1 (by rw [z1]) z2.symm (by rw [z3, z1]) (by rw [z4, z2]) (by rw [z1]; exact hcp) (by rw [z2]; exact hsp) (fun H2 locs2 hI2 => ?_)
  refine W.lcmp hx hb (show decode code 1389 = .ok (.lcmp, 1) by decide +kernel) ?_
  refine lv_if_eq (tgt := 1482) hx hb (show decode code 1390 = .ok (.ifCond .eq 92, 3) by decide +kernel) (by decide) (fun _ => ?_) (fun z => absurd (lgc_same a) z)
  exact kk h2 H2 locs2 l2 z3 z4 hI2
set_option maxHeartbeats 4000000 in
set_option maxRecDepth 100000 in
theorem law_c38 (hst : stL LI MR 117 237 0) : lawS (p := p) (l := l) (e := e) (s := s) (m := m) (args := args) (below := below) (meth := meth) (c := c) (D := D) (dA := dA) (base := base) (lt := lt) (Q := Q) (lsr := lsr) (b := b) (L := L) (xs := xs) (j := j) (MR := MR) LI 1395 := by
  intro h Hp locs hC hX hbl hL hj hl hLI hI hcp hsp kk
  obtain ⟨hx, hb, -⟩ := id hC
  obtain ⟨a, h1, h2, e1, e2, l2, o1, o2, z1, z2, z3, z4⟩ := hst h hLI [] rfl
  refine lv_aload_n hx hb (show decode code 1395 = .ok (.aload_n 1, 1) by decide +kernel) rfl (lv_at hl 1 rfl) ?_
  refine law_V (n := 0) (ci := 9) (T := TX9) (st := [.ref 1]) (show decode code 1396 = .ok (.invokevirtual 171, 3) by decide +kernel) (by decide) (show tbM 117 = (yX9_lower, cX9_lower, 1, (some .long)) from rfl) (hc := rfl) (by decide) w_915 w_916 w_917 w_83 w_918 (by decide) (by decide +kernel) e1 rfl (Nat.le_of_ble_eq_true rfl) (Nat.le_of_ble_eq_true rfl) (by simp only [rc]; exact o1) hC hI rfl rfl z1 z2 hcp hsp (fun H1 locs1 hI1 => ?_)
  refine lv_aload_n hx hb (show decode code 1399 = .ok (.aload_n 2, 1) by decide +kernel) rfl (lv_at hl 2 rfl) ?_
  refine law_V (n := 0) (ci := 10) (T := TX10) (st := [.ref MR, .long a]) (show decode code 1400 = .ok (.invokevirtual 174, 3) by decide +kernel) (by decide) (show tbM 237 = (yX10_lower, cX10_lower, 1, (some .long)) from rfl) (hc := rfl) (by decide) w_1415 w_1416 w_1417 w_93 w_1418 (by decide) (by decide +kernel) e2 rfl (Nat.le_of_ble_eq_true rfl) (Nat.le_of_ble_eq_true rfl) (by simp only [rc]; exact o2) hC hI1 (by rw [z1]) z2.symm (by rw [z3, z1]) (by rw [z4, z2]) (by rw [z1]; exact hcp) (by rw [z2]; exact hsp) (fun H2 locs2 hI2 => ?_)
  refine W.lcmp hx hb (show decode code 1403 = .ok (.lcmp, 1) by decide +kernel) ?_
  refine lv_if_eq (tgt := 1482) hx hb (show decode code 1404 = .ok (.ifCond .eq 78, 3) by decide +kernel) (by decide) (fun _ => ?_) (fun z => absurd (lgc_same a) z)
  exact kk h2 H2 locs2 l2 z3 z4 hI2
set_option maxHeartbeats 4000000 in
set_option maxRecDepth 100000 in
theorem law_c39 (hst : stI LI MR 118 242 1) : lawS (p := p) (l := l) (e := e) (s := s) (m := m) (args := args) (below := below) (meth := meth) (c := c) (D := D) (dA := dA) (base := base) (lt := lt) (Q := Q) (lsr := lsr) (b := b) (L := L) (xs := xs) (j := j) (MR := MR) LI 1409 := by
  intro h Hp locs hC hX hbl hL hj hl hLI hI hcp hsp kk
  obtain ⟨hx, hb, -⟩ := id hC
  obtain ⟨a, h1, h2, e1, e2, l2, o1, o2, z1, z2, z3, z4⟩ := hst h hLI [(xs (j + 1))] rfl
  refine lv_aload_n hx hb (show decode code 1409 = .ok (.aload_n 1, 1) by decide +kernel) rfl (lv_at hl 1 rfl) ?_
  refine law_arg (k := 1) hx hb hX hbl hI hC hL (by omega) hl (show decode code 1410 = .ok (.aload_n 0, 1) by decide +kernel) (show decode code 1411 = .ok (.iload_n 3, 1) by decide +kernel) (show decode code 1412 = .ok (.iconst 1, 1) by decide +kernel) (show decode code 1413 = .ok (.iadd, 1) by decide +kernel) (show decode code 1414 = .ok (.iaload, 1) by decide +kernel) ?_
  refine law_V (n := 1) (ci := 9) (T := TX9) (st := [.int (xs (j + 1)), .ref 1]) (show decode code 1415 = .ok (.invokevirtual 175, 3) by decide +kernel) (by decide) (show tbM 118 = (yX9_count, cX9_count, 2, (some .int)) from rfl) (hc := rfl) (by decide) w_919 w_920 w_921 w_83 w_922 (by decide) (by decide +kernel) e1 rfl (Nat.le_of_ble_eq_true rfl) (Nat.le_of_ble_eq_true rfl) (by simp only [rc]; exact o1) hC hI rfl rfl z1 z2 hcp hsp (fun H1 locs1 hI1 => ?_)
  refine lv_aload_n hx hb (show decode code 1418 = .ok (.aload_n 2, 1) by decide +kernel) rfl (lv_at hl 2 rfl) ?_
  refine law_arg (k := 1) hx hb hX hbl hI1 hC hL (by omega) hl (show decode code 1419 = .ok (.aload_n 0, 1) by decide +kernel) (show decode code 1420 = .ok (.iload_n 3, 1) by decide +kernel) (show decode code 1421 = .ok (.iconst 1, 1) by decide +kernel) (show decode code 1422 = .ok (.iadd, 1) by decide +kernel) (show decode code 1423 = .ok (.iaload, 1) by decide +kernel) ?_
  refine law_V (n := 1) (ci := 10) (T := TX10) (st := [.int (xs (j + 1)), .ref MR, .int a]) (show decode code 1424 = .ok (.invokevirtual 178, 3) by decide +kernel) (by decide) (show tbM 242 = (yX10_count, cX10_count, 2, (some .int)) from rfl) (hc := rfl) (by decide) w_1419 w_1420 w_1421 w_93 w_1422 (by decide) (by decide +kernel) e2 rfl (Nat.le_of_ble_eq_true rfl) (Nat.le_of_ble_eq_true rfl) (by simp only [rc]; exact o2) hC hI1 (by rw [z1]) z2.symm (by rw [z3, z1]) (by rw [z4, z2]) (by rw [z1]; exact hcp) (by rw [z2]; exact hsp) (fun H2 locs2 hI2 => ?_)
  refine lv_icmp_eq (tgt := 1482) hx hb (show decode code 1427 = .ok (.if_icmp .eq 55, 3) by decide +kernel) (by decide) (fun _ => ?_) (fun z => absurd rfl z)
  exact kk h2 H2 locs2 l2 z3 z4 hI2
set_option maxHeartbeats 4000000 in
set_option maxRecDepth 100000 in
theorem law_c40 (hst : stI LI MR 119 243 0) : lawS (p := p) (l := l) (e := e) (s := s) (m := m) (args := args) (below := below) (meth := meth) (c := c) (D := D) (dA := dA) (base := base) (lt := lt) (Q := Q) (lsr := lsr) (b := b) (L := L) (xs := xs) (j := j) (MR := MR) LI 1432 := by
  intro h Hp locs hC hX hbl hL hj hl hLI hI hcp hsp kk
  obtain ⟨hx, hb, -⟩ := id hC
  obtain ⟨a, h1, h2, e1, e2, l2, o1, o2, z1, z2, z3, z4⟩ := hst h hLI [] rfl
  refine lv_aload_n hx hb (show decode code 1432 = .ok (.aload_n 1, 1) by decide +kernel) rfl (lv_at hl 1 rfl) ?_
  refine law_V (n := 0) (ci := 9) (T := TX9) (st := [.ref 1]) (show decode code 1433 = .ok (.invokevirtual 179, 3) by decide +kernel) (by decide) (show tbM 119 = (yX9_finding, cX9_finding, 1, (some .int)) from rfl) (hc := rfl) (by decide) w_950 w_951 w_952 w_83 w_953 (by decide) (by decide +kernel) e1 rfl (Nat.le_of_ble_eq_true rfl) (Nat.le_of_ble_eq_true rfl) (by simp only [rc]; exact o1) hC hI rfl rfl z1 z2 hcp hsp (fun H1 locs1 hI1 => ?_)
  refine lv_aload_n hx hb (show decode code 1436 = .ok (.aload_n 2, 1) by decide +kernel) rfl (lv_at hl 2 rfl) ?_
  refine law_V (n := 0) (ci := 10) (T := TX10) (st := [.ref MR, .int a]) (show decode code 1437 = .ok (.invokevirtual 182, 3) by decide +kernel) (by decide) (show tbM 243 = (yX10_finding, cX10_finding, 1, (some .int)) from rfl) (hc := rfl) (by decide) w_1442 w_1443 w_1444 w_93 w_1445 (by decide) (by decide +kernel) e2 rfl (Nat.le_of_ble_eq_true rfl) (Nat.le_of_ble_eq_true rfl) (by simp only [rc]; exact o2) hC hI1 (by rw [z1]) z2.symm (by rw [z3, z1]) (by rw [z4, z2]) (by rw [z1]; exact hcp) (by rw [z2]; exact hsp) (fun H2 locs2 hI2 => ?_)
  refine lv_icmp_eq (tgt := 1482) hx hb (show decode code 1440 = .ok (.if_icmp .eq 42, 3) by decide +kernel) (by decide) (fun _ => ?_) (fun z => absurd rfl z)
  exact kk h2 H2 locs2 l2 z3 z4 hI2
set_option maxHeartbeats 4000000 in
set_option maxRecDepth 100000 in
theorem law_c41 (hst : stI LI MR 120 244 1) : lawS (p := p) (l := l) (e := e) (s := s) (m := m) (args := args) (below := below) (meth := meth) (c := c) (D := D) (dA := dA) (base := base) (lt := lt) (Q := Q) (lsr := lsr) (b := b) (L := L) (xs := xs) (j := j) (MR := MR) LI 1445 := by
  intro h Hp locs hC hX hbl hL hj hl hLI hI hcp hsp kk
  obtain ⟨hx, hb, -⟩ := id hC
  obtain ⟨a, h1, h2, e1, e2, l2, o1, o2, z1, z2, z3, z4⟩ := hst h hLI [(xs (j + 1))] rfl
  refine lv_aload_n hx hb (show decode code 1445 = .ok (.aload_n 1, 1) by decide +kernel) rfl (lv_at hl 1 rfl) ?_
  refine law_arg (k := 1) hx hb hX hbl hI hC hL (by omega) hl (show decode code 1446 = .ok (.aload_n 0, 1) by decide +kernel) (show decode code 1447 = .ok (.iload_n 3, 1) by decide +kernel) (show decode code 1448 = .ok (.iconst 1, 1) by decide +kernel) (show decode code 1449 = .ok (.iadd, 1) by decide +kernel) (show decode code 1450 = .ok (.iaload, 1) by decide +kernel) ?_
  refine law_V (n := 1) (ci := 9) (T := TX9) (st := [.int (xs (j + 1)), .ref 1]) (show decode code 1451 = .ok (.invokevirtual 183, 3) by decide +kernel) (by decide) (show tbM 120 = (yX9_findings, cX9_findings, 2, (some .int)) from rfl) (hc := rfl) (by decide) w_954 w_955 w_956 w_83 w_957 (by decide) (by decide +kernel) e1 rfl (Nat.le_of_ble_eq_true rfl) (Nat.le_of_ble_eq_true rfl) (by simp only [rc]; exact o1) hC hI rfl rfl z1 z2 hcp hsp (fun H1 locs1 hI1 => ?_)
  refine lv_aload_n hx hb (show decode code 1454 = .ok (.aload_n 2, 1) by decide +kernel) rfl (lv_at hl 2 rfl) ?_
  refine law_arg (k := 1) hx hb hX hbl hI1 hC hL (by omega) hl (show decode code 1455 = .ok (.aload_n 0, 1) by decide +kernel) (show decode code 1456 = .ok (.iload_n 3, 1) by decide +kernel) (show decode code 1457 = .ok (.iconst 1, 1) by decide +kernel) (show decode code 1458 = .ok (.iadd, 1) by decide +kernel) (show decode code 1459 = .ok (.iaload, 1) by decide +kernel) ?_
  refine law_V (n := 1) (ci := 10) (T := TX10) (st := [.int (xs (j + 1)), .ref MR, .int a]) (show decode code 1460 = .ok (.invokevirtual 186, 3) by decide +kernel) (by decide) (show tbM 244 = (yX10_findings, cX10_findings, 2, (some .int)) from rfl) (hc := rfl) (by decide) w_1446 w_1447 w_1448 w_93 w_1449 (by decide) (by decide +kernel) e2 rfl (Nat.le_of_ble_eq_true rfl) (Nat.le_of_ble_eq_true rfl) (by simp only [rc]; exact o2) hC hI1 (by rw [z1]) z2.symm (by rw [z3, z1]) (by rw [z4, z2]) (by rw [z1]; exact hcp) (by rw [z2]; exact hsp) (fun H2 locs2 hI2 => ?_)
  refine lv_icmp_eq (tgt := 1482) hx hb (show decode code 1463 = .ok (.if_icmp .eq 19, 3) by decide +kernel) (by decide) (fun _ => ?_) (fun z => absurd rfl z)
  exact kk h2 H2 locs2 l2 z3 z4 hI2
set_option maxHeartbeats 4000000 in
set_option maxRecDepth 100000 in
theorem law_c42 (hst : stL LI MR 121 245 0) : lawS (p := p) (l := l) (e := e) (s := s) (m := m) (args := args) (below := below) (meth := meth) (c := c) (D := D) (dA := dA) (base := base) (lt := lt) (Q := Q) (lsr := lsr) (b := b) (L := L) (xs := xs) (j := j) (MR := MR) LI 1468 := by
  intro h Hp locs hC hX hbl hL hj hl hLI hI hcp hsp kk
  obtain ⟨hx, hb, -⟩ := id hC
  obtain ⟨a, h1, h2, e1, e2, l2, o1, o2, z1, z2, z3, z4⟩ := hst h hLI [] rfl
  refine lv_aload_n hx hb (show decode code 1468 = .ok (.aload_n 1, 1) by decide +kernel) rfl (lv_at hl 1 rfl) ?_
  refine law_V (n := 0) (ci := 9) (T := TX9) (st := [.ref 1]) (show decode code 1469 = .ok (.invokevirtual 187, 3) by decide +kernel) (by decide) (show tbM 121 = (yX9_digest, cX9_digest, 5, (some .long)) from rfl) (hc := rfl) (by decide) w_958 w_959 w_960 w_83 w_961 (by decide) (by decide +kernel) e1 rfl (Nat.le_of_ble_eq_true rfl) (Nat.le_of_ble_eq_true rfl) (by simp only [rc]; exact o1) hC hI rfl rfl z1 z2 hcp hsp (fun H1 locs1 hI1 => ?_)
  refine lv_aload_n hx hb (show decode code 1472 = .ok (.aload_n 2, 1) by decide +kernel) rfl (lv_at hl 2 rfl) ?_
  refine law_V (n := 0) (ci := 10) (T := TX10) (st := [.ref MR, .long a]) (show decode code 1473 = .ok (.invokevirtual 190, 3) by decide +kernel) (by decide) (show tbM 245 = (yX10_digest, cX10_digest, 5, (some .long)) from rfl) (hc := rfl) (by decide) w_1450 w_1451 w_1452 w_93 w_1453 (by decide) (by decide +kernel) e2 rfl (Nat.le_of_ble_eq_true rfl) (Nat.le_of_ble_eq_true rfl) (by simp only [rc]; exact o2) hC hI1 (by rw [z1]) z2.symm (by rw [z3, z1]) (by rw [z4, z2]) (by rw [z1]; exact hcp) (by rw [z2]; exact hsp) (fun H2 locs2 hI2 => ?_)
  refine W.lcmp hx hb (show decode code 1476 = .ok (.lcmp, 1) by decide +kernel) ?_
  refine lv_if_eq (tgt := 1482) hx hb (show decode code 1477 = .ok (.ifCond .eq 5, 3) by decide +kernel) (by decide) (fun _ => ?_) (fun z => absurd (lgc_same a) z)
  exact kk h2 H2 locs2 l2 z3 z4 hI2
end LAWC
def lawAll (LI : mH → Prop) (MR : Nat) : Prop := stI LI MR 79 154 2 ∧ stI LI MR 80 157 3 ∧ stI LI MR 81 158 2 ∧ stI LI MR 82 159 1 ∧ stI LI MR 83 161 5 ∧ stI LI MR 84 162 1 ∧ stI LI MR 85 163 2 ∧ stI LI MR 86 164 3 ∧ stI LI MR 87 171 1 ∧ stI LI MR 88 172 1 ∧ stI LI MR 89 188 2 ∧ stI LI MR 90 191 2 ∧ stI LI MR 91 192 2 ∧ stI LI MR 92 194 1 ∧ stI LI MR 93 196 2 ∧ stI LI MR 94 197 1 ∧ stI LI MR 95 198 1 ∧ stI LI MR 96 199 1 ∧ stI LI MR 97 200 0 ∧ stI LI MR 98 204 2 ∧ stI LI MR 99 205 1 ∧ stI LI MR 100 207 2 ∧ stI LI MR 101 208 2 ∧ stI LI MR 102 211 3 ∧ stI LI MR 103 212 2 ∧ stI LI MR 104 219 3 ∧ stI LI MR 105 220 3 ∧ stI LI MR 106 221 2 ∧ stI LI MR 107 224 2 ∧ stI LI MR 108 226 3 ∧ stI LI MR 109 227 1 ∧ stI LI MR 110 230 1 ∧ stI LI MR 111 231 2 ∧ stI LI MR 112 232 3 ∧ stI LI MR 113 233 1 ∧ stI LI MR 114 234 2 ∧ stI LI MR 115 235 0 ∧ stL LI MR 116 236 0 ∧ stL LI MR 117 237 0 ∧ stI LI MR 118 242 1 ∧ stI LI MR 119 243 0 ∧ stI LI MR 120 244 1 ∧ stL LI MR 121 245 0
