/-! the law's loop and its start -/
theorem d33 : decode code 33 = .ok (.tableswitch 1449 0 42 #[187, 220, 263, 296, 319, 382, 405, 438, 481, 504, 527, 560, 593, 626, 649, 682, 705, 728, 751, 764, 797, 820, 853, 886, 929, 962, 1005, 1048, 1081, 1114, 1157, 1180, 1203, 1236, 1279, 1302, 1335, 1348, 1362, 1376, 1399, 1412, 1435], 187) := by decide +kernel
theorem asc4 (base lt MR : Nat) (x : Int32) : asc base lt [.null, .ref 1, .ref MR, .int x] = [(1, .ref (cr base lt 1)), (2, .ref (cr base lt MR)), (3, .int x)] := by
  simp [asc, cv, List.zipIdx]
def capOK (h : mH) : Prop := h.length ≤ 600000 ∧ sl h ≤ 7302250
set_option maxHeartbeats 4000000 in
set_option maxRecDepth 100000 in
theorem law_loop {p : Program} {l : Launch} {e : Env} {s : State} {m : MethodId} {below : List Frame} {meth : Method} {c : Code} {D : va_G} {dA : Nat → ClassId} {base lt b L MR : Nat} {xs : Nat → Int32} {LI : mH → Prop} (hAll : lawAll LI MR) (hC : CX p l e room_1 s m #[Value.ref b] below meth c code 4 R_law ret false D dA base lt 1) (hX : va_X b L xs s s.heap) (hbl : b < s.heap.size) (hL : L ≤ 384) :
    ∀ (n j : Nat), L < j + n → j ≤ L + 6 → ∀ (h : mH) (Hp : Heap) (locs : List Loc) (lsr : Array Slot), LI h → capOK h → IV D dA base lt 4 s 1 0 [.null, .ref 1, .ref MR, .int (nI j)] lsr h Hp locs → lv_has lsr 4 [(0, .ref b), (1, .ref (cr base lt 1)), (2, .ref (cr base lt MR)), (3, .int (nI j))] →
      W p l e room_1 s m #[Value.ref b] below meth c Hp locs (h.length - 1) (sl h) (lw_Z below #[Value.ref b] s) (F0 m 18 lsr []) := by
  obtain ⟨hx, hb, hml, ho, hts, hK, hSt, hNw, hr, hlocks, -, hz, -⟩ := id hC
  have hbA : ¬ (fun q : Nat => base < q) b := by show ¬ base < b; omega
  intro n
  induction n with
  | zero =>
    intro j h1 h2 h Hp locs lsr hLI hcap hI hl
    -- past the script: the loop's test ends it
    refine lv_iload_n hx hb (show decode code 18 = .ok (.iload_n 3, 1) by decide +kernel) rfl (lv_at hl 3 rfl) ?_
    refine lv_aload_n hx hb (show decode code 19 = .ok (.aload_n 0, 1) by decide +kernel) rfl (lv_at hl 0 rfl) ?_
    refine va_slen hx hb hX hbl hbA hI.2.2.2.2.1 (show decode code 20 = .ok (.arraylength, 1) by decide +kernel) ?_
    refine lv_bipush (v := 6) hx hb (show decode code 21 = .ok (.bipush 6, 2) by decide +kernel) (by decide) ?_
    refine lv_isub hx hb (show decode code 23 = .ok (.isub, 1) by decide +kernel) ?_
    refine lv_icmp_gt (tgt := 1488) hx hb (show decode code 24 = .ok (.if_icmp .gt 1464, 3) by decide +kernel) (by decide) (fun _ => ?_) (fun z => ?_)
    · refine lv_iconst (v := 1) hx hb (show decode code 1488 = .ok (.iconst 1, 1) by decide +kernel) (by decide) ?_
      refine va_forget (fun q hq => by have := hI.2.2.2.2.1.2.2 q hq; omega) ?_
      refine W.widen (k := 600000) (n := 7302250) (by have := hcap.1; omega) hcap.2 ?_
      exact lw_ret hx hb hr hlocks (show decode code 1489 = .ok (.ireturn, 1) by decide +kernel)
    · refine absurd ?_ z
      show nI L - 6 < nI j
      rw [Int32.lt_iff_toInt_lt, show (6 : Int32) = nI 6 from rfl, pk_sub_toInt (by omega) (by omega), nI_toInt (by omega)]
      omega
  | succ n ih =>
    intro j h1 h2 h Hp locs lsr hLI hcap hI hl
    refine lv_iload_n hx hb (show decode code 18 = .ok (.iload_n 3, 1) by decide +kernel) rfl (lv_at hl 3 rfl) ?_
    refine lv_aload_n hx hb (show decode code 19 = .ok (.aload_n 0, 1) by decide +kernel) rfl (lv_at hl 0 rfl) ?_
    refine va_slen hx hb hX hbl hbA hI.2.2.2.2.1 (show decode code 20 = .ok (.arraylength, 1) by decide +kernel) ?_
    refine lv_bipush (v := 6) hx hb (show decode code 21 = .ok (.bipush 6, 2) by decide +kernel) (by decide) ?_
    refine lv_isub hx hb (show decode code 23 = .ok (.isub, 1) by decide +kernel) ?_
    refine lv_icmp_gt (tgt := 1488) hx hb (show decode code 24 = .ok (.if_icmp .gt 1464, 3) by decide +kernel) (by decide) (fun _ => ?_) (fun z => ?_)
    · refine lv_iconst (v := 1) hx hb (show decode code 1488 = .ok (.iconst 1, 1) by decide +kernel) (by decide) ?_
      refine va_forget (fun q hq => by have := hI.2.2.2.2.1.2.2 q hq; omega) ?_
      refine W.widen (k := 600000) (n := 7302250) (by have := hcap.1; omega) hcap.2 ?_
      exact lw_ret hx hb hr hlocks (show decode code 1489 = .ok (.ireturn, 1) by decide +kernel)
    · have hj : j + 6 ≤ L := by
        have z2 : ¬ nI L - 6 < nI j := z
        rw [Int32.lt_iff_toInt_lt, show (6 : Int32) = nI 6 from rfl, pk_sub_toInt (by omega) (by omega), nI_toInt (by omega)] at z2
        omega
      refine lv_aload_n hx hb (show decode code 27 = .ok (.aload_n 0, 1) by decide +kernel) rfl (lv_at hl 0 rfl) ?_
      refine lv_iload_n hx hb (show decode code 28 = .ok (.iload_n 3, 1) by decide +kernel) rfl (lv_at hl 3 rfl) ?_
      refine va_sld hx hb hX hbl hbA hI.2.2.2.2.1 (vp_in_nI (show j < L by omega) (by omega)) (show decode code 29 = .ok (.iaload, 1) by decide +kernel) ?_
      refine lv_bipush (v := 63) hx hb (show decode code 30 = .ok (.bipush 63, 2) by decide +kernel) (by decide) ?_
      refine lv_iand hx hb (show decode code 32 = .ok (.iand, 1) by decide +kernel) ?_
      obtain ⟨t, ht, et⟩ := pk_andE (xs (nI j).toNatClampNeg) (m := 63) 6 (by decide)
      rw [et]
      have kk : ∀ (h2 : mH) (H2 : Heap) (locs2 : List Loc), LI h2 → h2.length = h.length → sl h2 = sl h → IV D dA base lt 4 s 1 0 [.null, .ref 1, .ref MR, .int (nI j)] lsr h2 H2 locs2 → W p l e room_1 s m #[Value.ref b] below meth c H2 locs2 (h.length - 1) (sl h) (lw_Z below #[Value.ref b] s) (F0 m 1482 lsr []) := by
        intro h2 H2 locs2 l2 z3 z4 hI2
        refine lv_iinc (v := nI (j + 6)) (lv' := [(3, .int (nI (j + 6))), (0, .ref b), (1, .ref (cr base lt 1)), (2, .ref (cr base lt MR))]) hx hb (show decode code 1482 = .ok (.iinc 3 6, 3) by decide +kernel) hl (k := 3) rfl (nI_add j 6) (by decide) rfl (fun lsr' hl' => ?_)
        refine lv_goto (tgt := 18) hx hb (show decode code 1485 = .ok (.goto (-1467), 3) by decide +kernel) (by decide) ?_
        have hl2 : lv_has lsr' 4 [(0, .ref b), (1, .ref (cr base lt 1)), (2, .ref (cr base lt MR)), (3, .int (nI (j + 6)))] := lv_sub hl' [1, 2, 3, 0] rfl
        have := ih (j + 6) (by omega) (by omega) h2 H2 locs2 lsr' l2 ⟨by rw [z3]; exact hcap.1, by rw [z4]; exact hcap.2⟩ ⟨by rw [asc4]; exact lv_sub hl2 [1, 2, 3] rfl, Nat.le_refl 4, hI2.2.2⟩ hl2
        rw [z3, z4] at this
        exact this
      unfold lawAll at hAll
      obtain ⟨a0, a1, a2, a3, a4, a5, a6, a7, a8, a9, a10, a11, a12, a13, a14, a15, a16, a17, a18, a19, a20, a21, a22, a23, a24, a25, a26, a27, a28, a29, a30, a31, a32, a33, a34, a35, a36, a37, a38, a39, a40, a41, a42⟩ := hAll
      match t, ht with
      | 0, _ => exact lv_tableIn (off := 187) (tgt := 220) hx hb d33 (by decide) (by decide) rfl (by decide) (law_c0 a0 h Hp locs hC hX hbl hL hj hl hLI hI hcap.1 hcap.2 kk)
      | 1, _ => exact lv_tableIn (off := 220) (tgt := 253) hx hb d33 (by decide) (by decide) rfl (by decide) (law_c1 a1 h Hp locs hC hX hbl hL hj hl hLI hI hcap.1 hcap.2 kk)
      | 2, _ => exact lv_tableIn (off := 263) (tgt := 296) hx hb d33 (by decide) (by decide) rfl (by decide) (law_c2 a2 h Hp locs hC hX hbl hL hj hl hLI hI hcap.1 hcap.2 kk)
      | 3, _ => exact lv_tableIn (off := 296) (tgt := 329) hx hb d33 (by decide) (by decide) rfl (by decide) (law_c3 a3 h Hp locs hC hX hbl hL hj hl hLI hI hcap.1 hcap.2 kk)
      | 4, _ => exact lv_tableIn (off := 319) (tgt := 352) hx hb d33 (by decide) (by decide) rfl (by decide) (law_c4 a4 h Hp locs hC hX hbl hL hj hl hLI hI hcap.1 hcap.2 kk)
      | 5, _ => exact lv_tableIn (off := 382) (tgt := 415) hx hb d33 (by decide) (by decide) rfl (by decide) (law_c5 a5 h Hp locs hC hX hbl hL hj hl hLI hI hcap.1 hcap.2 kk)
      | 6, _ => exact lv_tableIn (off := 405) (tgt := 438) hx hb d33 (by decide) (by decide) rfl (by decide) (law_c6 a6 h Hp locs hC hX hbl hL hj hl hLI hI hcap.1 hcap.2 kk)
      | 7, _ => exact lv_tableIn (off := 438) (tgt := 471) hx hb d33 (by decide) (by decide) rfl (by decide) (law_c7 a7 h Hp locs hC hX hbl hL hj hl hLI hI hcap.1 hcap.2 kk)
      | 8, _ => exact lv_tableIn (off := 481) (tgt := 514) hx hb d33 (by decide) (by decide) rfl (by decide) (law_c8 a8 h Hp locs hC hX hbl hL hj hl hLI hI hcap.1 hcap.2 kk)
      | 9, _ => exact lv_tableIn (off := 504) (tgt := 537) hx hb d33 (by decide) (by decide) rfl (by decide) (law_c9 a9 h Hp locs hC hX hbl hL hj hl hLI hI hcap.1 hcap.2 kk)
      | 10, _ => exact lv_tableIn (off := 527) (tgt := 560) hx hb d33 (by decide) (by decide) rfl (by decide) (law_c10 a10 h Hp locs hC hX hbl hL hj hl hLI hI hcap.1 hcap.2 kk)
      | 11, _ => exact lv_tableIn (off := 560) (tgt := 593) hx hb d33 (by decide) (by decide) rfl (by decide) (law_c11 a11 h Hp locs hC hX hbl hL hj hl hLI hI hcap.1 hcap.2 kk)
      | 12, _ => exact lv_tableIn (off := 593) (tgt := 626) hx hb d33 (by decide) (by decide) rfl (by decide) (law_c12 a12 h Hp locs hC hX hbl hL hj hl hLI hI hcap.1 hcap.2 kk)
      | 13, _ => exact lv_tableIn (off := 626) (tgt := 659) hx hb d33 (by decide) (by decide) rfl (by decide) (law_c13 a13 h Hp locs hC hX hbl hL hj hl hLI hI hcap.1 hcap.2 kk)
      | 14, _ => exact lv_tableIn (off := 649) (tgt := 682) hx hb d33 (by decide) (by decide) rfl (by decide) (law_c14 a14 h Hp locs hC hX hbl hL hj hl hLI hI hcap.1 hcap.2 kk)
      | 15, _ => exact lv_tableIn (off := 682) (tgt := 715) hx hb d33 (by decide) (by decide) rfl (by decide) (law_c15 a15 h Hp locs hC hX hbl hL hj hl hLI hI hcap.1 hcap.2 kk)
      | 16, _ => exact lv_tableIn (off := 705) (tgt := 738) hx hb d33 (by decide) (by decide) rfl (by decide) (law_c16 a16 h Hp locs hC hX hbl hL hj hl hLI hI hcap.1 hcap.2 kk)
      | 17, _ => exact lv_tableIn (off := 728) (tgt := 761) hx hb d33 (by decide) (by decide) rfl (by decide) (law_c17 a17 h Hp locs hC hX hbl hL hj hl hLI hI hcap.1 hcap.2 kk)
      | 18, _ => exact lv_tableIn (off := 751) (tgt := 784) hx hb d33 (by decide) (by decide) rfl (by decide) (law_c18 a18 h Hp locs hC hX hbl hL hj hl hLI hI hcap.1 hcap.2 kk)
      | 19, _ => exact lv_tableIn (off := 764) (tgt := 797) hx hb d33 (by decide) (by decide) rfl (by decide) (law_c19 a19 h Hp locs hC hX hbl hL hj hl hLI hI hcap.1 hcap.2 kk)
      | 20, _ => exact lv_tableIn (off := 797) (tgt := 830) hx hb d33 (by decide) (by decide) rfl (by decide) (law_c20 a20 h Hp locs hC hX hbl hL hj hl hLI hI hcap.1 hcap.2 kk)
      | 21, _ => exact lv_tableIn (off := 820) (tgt := 853) hx hb d33 (by decide) (by decide) rfl (by decide) (law_c21 a21 h Hp locs hC hX hbl hL hj hl hLI hI hcap.1 hcap.2 kk)
      | 22, _ => exact lv_tableIn (off := 853) (tgt := 886) hx hb d33 (by decide) (by decide) rfl (by decide) (law_c22 a22 h Hp locs hC hX hbl hL hj hl hLI hI hcap.1 hcap.2 kk)
      | 23, _ => exact lv_tableIn (off := 886) (tgt := 919) hx hb d33 (by decide) (by decide) rfl (by decide) (law_c23 a23 h Hp locs hC hX hbl hL hj hl hLI hI hcap.1 hcap.2 kk)
      | 24, _ => exact lv_tableIn (off := 929) (tgt := 962) hx hb d33 (by decide) (by decide) rfl (by decide) (law_c24 a24 h Hp locs hC hX hbl hL hj hl hLI hI hcap.1 hcap.2 kk)
      | 25, _ => exact lv_tableIn (off := 962) (tgt := 995) hx hb d33 (by decide) (by decide) rfl (by decide) (law_c25 a25 h Hp locs hC hX hbl hL hj hl hLI hI hcap.1 hcap.2 kk)
      | 26, _ => exact lv_tableIn (off := 1005) (tgt := 1038) hx hb d33 (by decide) (by decide) rfl (by decide) (law_c26 a26 h Hp locs hC hX hbl hL hj hl hLI hI hcap.1 hcap.2 kk)
      | 27, _ => exact lv_tableIn (off := 1048) (tgt := 1081) hx hb d33 (by decide) (by decide) rfl (by decide) (law_c27 a27 h Hp locs hC hX hbl hL hj hl hLI hI hcap.1 hcap.2 kk)
      | 28, _ => exact lv_tableIn (off := 1081) (tgt := 1114) hx hb d33 (by decide) (by decide) rfl (by decide) (law_c28 a28 h Hp locs hC hX hbl hL hj hl hLI hI hcap.1 hcap.2 kk)
      | 29, _ => exact lv_tableIn (off := 1114) (tgt := 1147) hx hb d33 (by decide) (by decide) rfl (by decide) (law_c29 a29 h Hp locs hC hX hbl hL hj hl hLI hI hcap.1 hcap.2 kk)
      | 30, _ => exact lv_tableIn (off := 1157) (tgt := 1190) hx hb d33 (by decide) (by decide) rfl (by decide) (law_c30 a30 h Hp locs hC hX hbl hL hj hl hLI hI hcap.1 hcap.2 kk)
      | 31, _ => exact lv_tableIn (off := 1180) (tgt := 1213) hx hb d33 (by decide) (by decide) rfl (by decide) (law_c31 a31 h Hp locs hC hX hbl hL hj hl hLI hI hcap.1 hcap.2 kk)
      | 32, _ => exact lv_tableIn (off := 1203) (tgt := 1236) hx hb d33 (by decide) (by decide) rfl (by decide) (law_c32 a32 h Hp locs hC hX hbl hL hj hl hLI hI hcap.1 hcap.2 kk)
      | 33, _ => exact lv_tableIn (off := 1236) (tgt := 1269) hx hb d33 (by decide) (by decide) rfl (by decide) (law_c33 a33 h Hp locs hC hX hbl hL hj hl hLI hI hcap.1 hcap.2 kk)
      | 34, _ => exact lv_tableIn (off := 1279) (tgt := 1312) hx hb d33 (by decide) (by decide) rfl (by decide) (law_c34 a34 h Hp locs hC hX hbl hL hj hl hLI hI hcap.1 hcap.2 kk)
      | 35, _ => exact lv_tableIn (off := 1302) (tgt := 1335) hx hb d33 (by decide) (by decide) rfl (by decide) (law_c35 a35 h Hp locs hC hX hbl hL hj hl hLI hI hcap.1 hcap.2 kk)
      | 36, _ => exact lv_tableIn (off := 1335) (tgt := 1368) hx hb d33 (by decide) (by decide) rfl (by decide) (law_c36 a36 h Hp locs hC hX hbl hL hj hl hLI hI hcap.1 hcap.2 kk)
      | 37, _ => exact lv_tableIn (off := 1348) (tgt := 1381) hx hb d33 (by decide) (by decide) rfl (by decide) (law_c37 a37 h Hp locs hC hX hbl hL hj hl hLI hI hcap.1 hcap.2 kk)
      | 38, _ => exact lv_tableIn (off := 1362) (tgt := 1395) hx hb d33 (by decide) (by decide) rfl (by decide) (law_c38 a38 h Hp locs hC hX hbl hL hj hl hLI hI hcap.1 hcap.2 kk)
      | 39, _ => exact lv_tableIn (off := 1376) (tgt := 1409) hx hb d33 (by decide) (by decide) rfl (by decide) (law_c39 a39 h Hp locs hC hX hbl hL hj hl hLI hI hcap.1 hcap.2 kk)
      | 40, _ => exact lv_tableIn (off := 1399) (tgt := 1432) hx hb d33 (by decide) (by decide) rfl (by decide) (law_c40 a40 h Hp locs hC hX hbl hL hj hl hLI hI hcap.1 hcap.2 kk)
      | 41, _ => exact lv_tableIn (off := 1412) (tgt := 1445) hx hb d33 (by decide) (by decide) rfl (by decide) (law_c41 a41 h Hp locs hC hX hbl hL hj hl hLI hI hcap.1 hcap.2 kk)
      | 42, _ => exact lv_tableIn (off := 1435) (tgt := 1468) hx hb d33 (by decide) (by decide) rfl (by decide) (law_c42 a42 h Hp locs hC hX hbl hL hj hl hLI hI hcap.1 hcap.2 kk)
      | t + 43, ht =>
        refine lv_tableOut (tgt := 1482) hx hb d33 (Or.inr ?_) (by decide) (kk h Hp locs hLI rfl rfl hI)
        rw [nI_toInt (by omega)]
        omega
