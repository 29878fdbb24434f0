/-! the component as its constructor makes it -/
theorem stB {fs : List Value} {R seg : mH} {j n : Nat} (hn : ([dm] ++ (.inr (9, fs) :: R)).length = n) (hj : j < fs.length) : pF (([dm] ++ (.inr (9, fs) :: R)) ++ seg) 1 9 j (.ref ([dm] ++ (.inr (9, fs) :: R)).length) = some ([dm] ++ (.inr (9, fs.set j (.ref n)) :: (R ++ seg))) := by
  rw [hn, List.append_assoc]
  exact pFk (k := 0) rfl rfl hj
theorem stF {fs : List Value} {R : mH} {j : Nat} {v : Value} (hj : j < fs.length) : pF ([dm] ++ (.inr (9, fs) :: R)) 1 9 j v = some ([dm] ++ (.inr (9, fs.set j v) :: R)) := pFk (k := 0) rfl rfl hj
theorem sRk' {H : mH} {a t n ci k v : Nat} {i : Int32} {f : Nat → Option Nat} (hi : i = nI k) (h0 : H[a]? = some (arR t n f)) (hk : k < n) (hn : n < 2 ^ 31) (hv : isO H v ci = true) : sR t ci H a i v = some (H.set a (arR t n (va_up f k (some v)))) := by rw [hi]; exact sRk h0 hk hn hv
def H1c : mH := [dm, oX 0 0 0 1, arR 4 6 rRow, arR 5 4 rTxt, oC 4 0, ar 7 z0, ar 7 z0, ar 7 z0, oC 8 0, ar 7 z0, ar 7 z0, ar 7 z0, oQ 12 0 0 0, ar 7 z0, ar 7 z0, ar 7 z0, oQ 16 0 0 0, ar 7 z0, ar 7 z0, ar 7 z0, oN 2 21 0, ar 40 z0, arR 6 3 rKep, .inr (4, [.ref 24, .ref 25, .null, .null, .int 0, .int (-2), .int 1, .int 1, .int 0, .int 0, .long 0]), arR 7 11 (va_up (va_up (va_up (va_up (va_up (va_up (va_up (va_up (va_up (va_up (va_up (fun _ => none) 0 (some 26)) 1 (some 30)) 2 (some 34)) 3 (some 38)) 4 (some 42)) 5 (some 46)) 6 (some 50)) 7 (some 54)) 8 (some 58)) 9 (some 62)) 10 (some 66)), arL 11 zL, oQ 26 0 0 0, ar 7 z0, ar 7 z0, ar 7 z0, oQ 30 0 0 0, ar 7 z0, ar 7 z0, ar 7 z0, oQ 34 0 0 0, ar 7 z0, ar 7 z0, ar 7 z0, oQ 38 0 0 0, ar 7 z0, ar 7 z0, ar 7 z0, oQ 42 0 0 0, ar 7 z0, ar 7 z0, ar 7 z0, oQ 46 0 0 0, ar 7 z0, ar 7 z0, ar 7 z0, oQ 50 0 0 0, ar 7 z0, ar 7 z0, ar 7 z0, oQ 54 0 0 0, ar 7 z0, ar 7 z0, ar 7 z0, oQ 58 0 0 0, ar 7 z0, ar 7 z0, ar 7 z0, oQ 62 0 0 0, ar 7 z0, ar 7 z0, ar 7 z0, oQ 66 0 0 0, ar 7 z0, ar 7 z0, ar 7 z0, .inr (8, [.ref 71, .ref 72, .null, .int 0, .int (-2), .int (-2), .int (-9), .ref 76]), arR 7 4 (va_up (va_up (va_up (va_up (fun _ => none) 0 (some 77)) 1 (some 81)) 2 (some 85)) 3 (some 89)), oQ 72 0 0 0, ar 7 z0, ar 7 z0, ar 7 z0, ar 3 z0, oQ 77 0 0 0, ar 7 z0, ar 7 z0, ar 7 z0, oQ 81 0 0 0, ar 7 z0, ar 7 z0, ar 7 z0, oQ 85 0 0 0, ar 7 z0, ar 7 z0, ar 7 z0, oQ 89 0 0 0, ar 7 z0, ar 7 z0, ar 7 z0, .inr (0, [.ref 94, .null, .int (-2), .int 0]), arR 7 9 (va_up (va_up (va_up (va_up (va_up (va_up (va_up (va_up (va_up (fun _ => none) 0 (some 95)) 1 (some 99)) 2 (some 103)) 3 (some 107)) 4 (some 111)) 5 (some 115)) 6 (some 119)) 7 (some 123)) 8 (some 127)), oQ 95 0 0 0, ar 7 z0, ar 7 z0, ar 7 z0, oQ 99 0 0 0, ar 7 z0, ar 7 z0, ar 7 z0, oQ 103 0 0 0, ar 7 z0, ar 7 z0, ar 7 z0, oQ 107 0 0 0, ar 7 z0, ar 7 z0, ar 7 z0, oQ 111 0 0 0, ar 7 z0, ar 7 z0, ar 7 z0, oQ 115 0 0 0, ar 7 z0, ar 7 z0, ar 7 z0, oQ 119 0 0 0, ar 7 z0, ar 7 z0, ar 7 z0, oQ 123 0 0 0, ar 7 z0, ar 7 z0, ar 7 z0, oQ 127 0 0 0, ar 7 z0, ar 7 z0, ar 7 z0, .inr (3, [.ref 132, .int 0, .int (-1), .long 0]), arR 8 7 (fun i => if i < 7 then some (133 + i) else none), ar 7 z0, ar 7 z0, ar 7 z0, ar 7 z0, ar 7 z0, ar 7 z0, ar 7 z0, arZ 41 z0, ar 6 z0, oN 6 143 (-1), ar 40 z0, oN 6 145 (-1), ar 40 z0, oN 6 147 (-1), ar 40 z0, oN 6 149 (-1), ar 40 z0, oN 6 151 (-1), ar 40 z0, oN 6 153 (-1), ar 40 z0, oN 7 155 (-1), arB 60 z0, oN 7 157 (-1), arB 60 z0, oN 7 159 (-1), arB 60 z0, oN 7 161 (-1), arB 60 z0, oN 2 163 (-1), ar 40 z0, oN 2 165 (-1), ar 40 z0, oN 2 167 (-1), ar 40 z0]
set_option maxRecDepth 1000000 in
set_option maxHeartbeats 4000000 in
theorem c9c : rn 60 78 [.ref 1] [dm, .inr (9, [.null, .null, .null, .null, .null, .null, .null, .null, .null, .null, .null, .null, .null, .null, .int 0, .int 0, .long 0, .long 0])] = some (none, H1c) := by
  show rn 60 78 [.ref 1] ([dm] ++ (.inr (9, [.null, .null, .null, .null, .null, .null, .null, .null, .null, .null, .null, .null, .null, .null, .int 0, .int 0, .long 0, .long 0]) :: [])) = _
  rw [rX9_init, xX9_init_0, nat0, Option.bind_some]
  refine bsO (stB (n := 2) rfl (Nat.le_of_ble_eq_true rfl)) ?_
  refine bsO (stB (n := 3) rfl (Nat.le_of_ble_eq_true rfl)) ?_
  refine bsO (mkC (d := 57) (n := 4) rfl) ?_
  refine bsO (stB (n := 4) rfl (Nat.le_of_ble_eq_true rfl)) ?_
  refine bsO (mkC (d := 57) (n := 8) rfl) ?_
  refine bsO (stB (n := 8) rfl (Nat.le_of_ble_eq_true rfl)) ?_
  refine bsO (mkQ (d := 57) (n := 12) rfl) ?_
  refine bsO (stB (n := 12) rfl (Nat.le_of_ble_eq_true rfl)) ?_
  refine bsO (mkQ (d := 57) (n := 16) rfl) ?_
  refine bsO (stB (n := 16) rfl (Nat.le_of_ble_eq_true rfl)) ?_
  refine bsO (mkD (d := 57) (n := 20) rfl) ?_
  refine bsO (stB (n := 20) rfl (Nat.le_of_ble_eq_true rfl)) ?_
  refine bsO (stB (n := 22) rfl (Nat.le_of_ble_eq_true rfl)) ?_
  refine bsO (mkW (d := 56) (n := 23) rfl) ?_
  refine bsO (stB (n := 23) rfl (Nat.le_of_ble_eq_true rfl)) ?_
  refine bsO (mkS (d := 56) (n := 70) rfl) ?_
  refine bsO (stB (n := 70) rfl (Nat.le_of_ble_eq_true rfl)) ?_
  refine bsO (mkG (d := 56) (n := 93) rfl) ?_
  refine bsO (stB (n := 93) rfl (Nat.le_of_ble_eq_true rfl)) ?_
  refine bsO (mkM (d := 57) (n := 131) rfl) ?_
  refine bsO (stB (n := 131) rfl (Nat.le_of_ble_eq_true rfl)) ?_
  refine bsO (stB (n := 140) rfl (Nat.le_of_ble_eq_true rfl)) ?_
  refine bsO (stB (n := 141) rfl (Nat.le_of_ble_eq_true rfl)) ?_
  refine bsO (stF (Nat.le_of_ble_eq_true rfl)) ?_
  refine bsO (stF (Nat.le_of_ble_eq_true rfl)) ?_
  refine bsO (stF (Nat.le_of_ble_eq_true rfl)) ?_
  refine bsO (stF (Nat.le_of_ble_eq_true rfl)) ?_
  rw [xX9_init_166, if_neg (by decide)]
  refine bsO (a := 2) rfl ?_
  refine bsO (mkR (d := 57) (n := 142) rfl) ?_
  refine bsO (sRk' (k := 0) (n := 6) (by decide) rfl (by decide) (by decide) rfl) ?_
  rw [xX9_init_166, if_neg (by decide)]
  refine bsO (a := 2) rfl ?_
  refine bsO (mkR (d := 57) (n := 144) rfl) ?_
  refine bsO (sRk' (k := 1) (n := 6) (by decide) rfl (by decide) (by decide) rfl) ?_
  rw [xX9_init_166, if_neg (by decide)]
  refine bsO (a := 2) rfl ?_
  refine bsO (mkR (d := 57) (n := 146) rfl) ?_
  refine bsO (sRk' (k := 2) (n := 6) (by decide) rfl (by decide) (by decide) rfl) ?_
  rw [xX9_init_166, if_neg (by decide)]
  refine bsO (a := 2) rfl ?_
  refine bsO (mkR (d := 57) (n := 148) rfl) ?_
  refine bsO (sRk' (k := 3) (n := 6) (by decide) rfl (by decide) (by decide) rfl) ?_
  rw [xX9_init_166, if_neg (by decide)]
  refine bsO (a := 2) rfl ?_
  refine bsO (mkR (d := 57) (n := 150) rfl) ?_
  refine bsO (sRk' (k := 4) (n := 6) (by decide) rfl (by decide) (by decide) rfl) ?_
  rw [xX9_init_166, if_neg (by decide)]
  refine bsO (a := 2) rfl ?_
  refine bsO (mkR (d := 57) (n := 152) rfl) ?_
  refine bsO (sRk' (k := 5) (n := 6) (by decide) rfl (by decide) (by decide) rfl) ?_
  rw [xX9_init_166, if_pos (by decide)]
  rw [xX9_init_193, if_neg (by decide)]
  refine bsO (a := 3) rfl ?_
  refine bsO (mkT (d := 57) (n := 154) rfl) ?_
  refine bsO (sRk' (k := 0) (n := 4) (by decide) rfl (by decide) (by decide) rfl) ?_
  rw [xX9_init_193, if_neg (by decide)]
  refine bsO (a := 3) rfl ?_
  refine bsO (mkT (d := 57) (n := 156) rfl) ?_
  refine bsO (sRk' (k := 1) (n := 4) (by decide) rfl (by decide) (by decide) rfl) ?_
  rw [xX9_init_193, if_neg (by decide)]
  refine bsO (a := 3) rfl ?_
  refine bsO (mkT (d := 57) (n := 158) rfl) ?_
  refine bsO (sRk' (k := 2) (n := 4) (by decide) rfl (by decide) (by decide) rfl) ?_
  rw [xX9_init_193, if_neg (by decide)]
  refine bsO (a := 3) rfl ?_
  refine bsO (mkT (d := 57) (n := 160) rfl) ?_
  refine bsO (sRk' (k := 3) (n := 4) (by decide) rfl (by decide) (by decide) rfl) ?_
  rw [xX9_init_193, if_pos (by decide)]
  rw [xX9_init_219, if_neg (by decide)]
  refine bsO (a := 22) rfl ?_
  refine bsO (mkD (d := 57) (n := 162) rfl) ?_
  refine bsO (sRk' (k := 0) (n := 3) (by decide) rfl (by decide) (by decide) rfl) ?_
  refine bsO (a := 22) rfl ?_
  refine bsO (a := 162) rfl ?_
  refine bsO (pF_at (fs := [.ref 163, .int 0]) rfl (Nat.le_of_ble_eq_true rfl)) ?_
  rw [xX9_init_219, if_neg (by decide)]
  refine bsO (a := 22) rfl ?_
  refine bsO (mkD (d := 57) (n := 164) rfl) ?_
  refine bsO (sRk' (k := 1) (n := 3) (by decide) rfl (by decide) (by decide) rfl) ?_
  refine bsO (a := 22) rfl ?_
  refine bsO (a := 164) rfl ?_
  refine bsO (pF_at (fs := [.ref 165, .int 0]) rfl (Nat.le_of_ble_eq_true rfl)) ?_
  rw [xX9_init_219, if_neg (by decide)]
  refine bsO (a := 22) rfl ?_
  refine bsO (mkD (d := 57) (n := 166) rfl) ?_
  refine bsO (sRk' (k := 2) (n := 3) (by decide) rfl (by decide) (by decide) rfl) ?_
  refine bsO (a := 22) rfl ?_
  refine bsO (a := 166) rfl ?_
  refine bsO (pF_at (fs := [.ref 167, .int 0]) rfl (Nat.le_of_ble_eq_true rfl)) ?_
  rw [xX9_init_219, if_pos (by decide)]
  rfl
