/-! the small machine: cells by number, the code as acts -/
abbrev mH : Type := List va_E
abbrev mR : Type := Option (Option Value × mH)
abbrev mK : Type := Nat → List Value → List Value → mH → mR
abbrev mC : Type := Nat → List Value → mH → mR
abbrev mA : Type := mC → mK → List Value → List Value → mH → mR
def dm : va_E := .inr (999, [])
def vin (i : Int32) (n : Nat) : Bool := !(decide (i < 0)) && decide (i.toNatClampNeg < n)
def szE : va_E → Nat
  | .inl a => a.2.1
  | .inr o => o.2.length
def sl (h : mH) : Nat := (h.map szE).sum
-- reading and writing
def gI (h : mH) (q ci j : Nat) : Option Int32 := match h[q]? with
  | some (.inr (c, fs)) => if c = ci then (match fs[j]? with | some (.int x) => some x | _ => none) else none
  | _ => none
def gL (h : mH) (q ci j : Nat) : Option Int64 := match h[q]? with
  | some (.inr (c, fs)) => if c = ci then (match fs[j]? with | some (.long x) => some x | _ => none) else none
  | _ => none
def gR (h : mH) (q ci j : Nat) : Option Nat := match h[q]? with
  | some (.inr (c, fs)) => if c = ci then (match fs[j]? with | some (.ref x) => some x | _ => none) else none
  | _ => none
def pF (h : mH) (q ci j : Nat) (v : Value) : Option mH := match h[q]? with
  | some (.inr (c, fs)) => if c = ci then (if j < fs.length then some (h.set q (.inr (c, fs.set j v))) else none) else none
  | _ => none
def aI (t : Nat) (h : mH) (a : Nat) (i : Int32) : Option Int32 := match h[a]? with
  | some (.inl (t', n, .inl f)) => if t' = t then (if vin i n then some (f i.toNatClampNeg) else none) else none
  | _ => none
def aL (h : mH) (a : Nat) (i : Int32) : Option Int64 := match h[a]? with
  | some (.inl (t', n, .inr (.inl f))) => if t' = 1 then (if vin i n then some (f i.toNatClampNeg) else none) else none
  | _ => none
def aR (t : Nat) (h : mH) (a : Nat) (i : Int32) : Option Nat := match h[a]? with
  | some (.inl (t', n, .inr (.inr (.inr (.inr f))))) => if t' = t then (if vin i n then f i.toNatClampNeg else none) else none
  | _ => none
def aN (h : mH) (a : Nat) : Option Int32 := match h[a]? with
  | some (.inl (t, n, .inl _)) => if t < 4 then some (Int32.ofNat n) else none
  | _ => none
def sI (h : mH) (a : Nat) (i x : Int32) : Option mH := match h[a]? with
  | some (.inl (t', n, .inl f)) => if t' = 0 then (if vin i n then some (h.set a (.inl (0, n, .inl (upd f i.toNatClampNeg x)))) else none) else none
  | _ => none
def sB (h : mH) (a : Nat) (i x : Int32) : Option mH := match h[a]? with
  | some (.inl (t', n, .inl f)) => if t' = 2 then (if vin i n then some (h.set a (.inl (2, n, .inl (upd f i.toNatClampNeg (vp_nar .byte x))))) else none) else none
  | _ => none
def sZ (h : mH) (a : Nat) (i x : Int32) : Option mH := match h[a]? with
  | some (.inl (t', n, .inl f)) => if t' = 3 then (if vin i n then some (h.set a (.inl (3, n, .inl (upd f i.toNatClampNeg (vp_nar .boolean x))))) else none) else none
  | _ => none
def sL (h : mH) (a : Nat) (i : Int32) (x : Int64) : Option mH := match h[a]? with
  | some (.inl (t', n, .inr (.inl f))) => if t' = 1 then (if vin i n then some (h.set a (.inl (1, n, .inr (.inl (vp_updL f i.toNatClampNeg x))))) else none) else none
  | _ => none
def isO (h : mH) (q ci : Nat) : Bool := match h[q]? with
  | some (.inr (c, _)) => Nat.beq c ci
  | _ => false
def sR (t ci : Nat) (h : mH) (a : Nat) (i : Int32) (v : Nat) : Option mH := match h[a]? with
  | some (.inl (t', n, .inr (.inr (.inr (.inr f))))) => if t' = t then (if vin i n && isO h v ci then some (h.set a (.inl (t, n, .inr (.inr (.inr (.inr (va_up f i.toNatClampNeg (some v)))))))) else none) else none
  | _ => none
def cpI (h : mH) (a0 : Nat) (sp : Int32) (a1 : Nat) (dp n : Int32) : Option mH := match h[a0]?, h[a1]? with
  | some (.inl (t0, n0, .inl f)), some (.inl (t1, n1, .inl g)) => if t0 = 0 ∧ t1 = 0 then
      (if 0 ≤ sp ∧ 0 ≤ dp ∧ 0 ≤ n ∧ sp.toNatClampNeg + n.toNatClampNeg ≤ n0 ∧ dp.toNatClampNeg + n.toNatClampNeg ≤ n1 then some (h.set a1 (.inl (0, n1, .inl (va_cpy f g sp.toNatClampNeg dp.toNatClampNeg n.toNatClampNeg)))) else none) else none
  | _, _ => none
-- locals
def c1 : Value → Bool
  | .long _ => false
  | .double _ => false
  | _ => true
def inv1 (ls : List Value) (i : Nat) : List Value := match i with
  | 0 => ls
  | j + 1 => match ls[j]? with
    | some v => cond (c1 v) ls (ls.set j .null)
    | none => ls
def sto1 (ls : List Value) (i : Nat) (v : Value) : List Value := (inv1 ls i).set i v
def sto2 (ls : List Value) (i : Nat) (v : Value) : List Value := ((inv1 ls i).set i v).set (i + 1) .null
def fla : List Value → List Value
  | [] => []
  | v :: vs => cond (c1 v) (v :: fla vs) (v :: .null :: fla vs)
def mkls (n : Nat) (vs : List Value) : List Value := fla vs ++ List.replicate (n - (fla vs).length) .null
def cats (st : List Value) : Nat := (st.map fun v => v.category).sum
-- calls, by what they answer
def cV (call : mC) (mi : Nat) (as : List Value) (h : mH) : Option mH := match call mi as h with
  | some (none, h') => some h'
  | _ => none
def cI (call : mC) (mi : Nat) (as : List Value) (h : mH) : Option (Int32 × mH) := match call mi as h with
  | some (some (.int x), h') => some (x, h')
  | _ => none
def cL (call : mC) (mi : Nat) (as : List Value) (h : mH) : Option (Int64 × mH) := match call mi as h with
  | some (some (.long x), h') => some (x, h')
  | _ => none
-- acts
def i_no : mA := fun _ _ _ _ _ => none
def i_c (v : Value) (nx : Nat) : mA := fun _ k ls st h => k nx ls (v :: st) h
def i_li (i nx : Nat) : mA := fun _ k ls st h => match ls[i]? with | some (.int x) => k nx ls (.int x :: st) h | _ => none
def i_ll (i nx : Nat) : mA := fun _ k ls st h => match ls[i]? with | some (.long x) => k nx ls (.long x :: st) h | _ => none
def i_la (i nx : Nat) : mA := fun _ k ls st h => match ls[i]? with | some (.ref x) => k nx ls (.ref x :: st) h | _ => none
def i_si (i nx : Nat) : mA := fun _ k ls st h => match st with | .int x :: st' => cond (Nat.blt i ls.length) (k nx (sto1 ls i (.int x)) st' h) none | _ => none
def i_sa (i nx : Nat) : mA := fun _ k ls st h => match st with | .ref x :: st' => cond (Nat.blt i ls.length) (k nx (sto1 ls i (.ref x)) st' h) none | _ => none
def i_sl (i nx : Nat) : mA := fun _ k ls st h => match st with | .long x :: st' => cond (Nat.blt (i + 1) ls.length) (k nx (sto2 ls i (.long x)) st' h) none | _ => none
def i_inc (i : Nat) (n : Int32) (nx : Nat) : mA := fun _ k ls st h => match ls[i]? with | some (.int x) => k nx (sto1 ls i (.int (x + n))) st h | _ => none
def i_b2 (f : Int32 → Int32 → Int32) (nx : Nat) : mA := fun _ k ls st h => match st with | .int y :: .int x :: st' => k nx ls (.int (f x y) :: st') h | _ => none
def i_u1 (f : Int32 → Int32) (nx : Nat) : mA := fun _ k ls st h => match st with | .int x :: st' => k nx ls (.int (f x) :: st') h | _ => none
def i_div (nx : Nat) : mA := fun _ k ls st h => match st with | .int y :: .int x :: st' => if y = 0 then none else k nx ls (.int (x / y) :: st') h | _ => none
def i_rem (nx : Nat) : mA := fun _ k ls st h => match st with | .int y :: .int x :: st' => if y = 0 then none else k nx ls (.int (x - x / y * y) :: st') h | _ => none
def i_lb2 (f : Int64 → Int64 → Int64) (nx : Nat) : mA := fun _ k ls st h => match st with | .long y :: .long x :: st' => k nx ls (.long (f x y) :: st') h | _ => none
def i_ldiv (nx : Nat) : mA := fun _ k ls st h => match st with | .long y :: .long x :: st' => if y = 0 then none else k nx ls (.long (x / y) :: st') h | _ => none
def i_lrem (nx : Nat) : mA := fun _ k ls st h => match st with | .long y :: .long x :: st' => if y = 0 then none else k nx ls (.long (x - x / y * y) :: st') h | _ => none
def i_lcF (f : Int64 → Int64 → Int32) (nx : Nat) : mA := fun _ k ls st h => match st with | .long y :: .long x :: st' => k nx ls (.int (f x y) :: st') h | _ => none
def i_lcmp (nx : Nat) : mA := i_lcF lg_cmp nx
def i_wF (f : Int32 → Int64) (nx : Nat) : mA := fun _ k ls st h => match st with | .int x :: st' => k nx ls (.long (f x) :: st') h | _ => none
def i_i2l (nx : Nat) : mA := i_wF Int32.toInt64 nx
def i_l2i (nx : Nat) : mA := fun _ k ls st h => match st with | .long x :: st' => k nx ls (.int x.toInt32 :: st') h | _ => none
def i_dup (nx : Nat) : mA := fun _ k ls st h => match st with | v :: st' => cond (c1 v) (k nx ls (v :: v :: st') h) none | _ => none
def i_dup2 (nx : Nat) : mA := fun _ k ls st h => match st with | v :: w :: st' => cond (c1 v && c1 w) (k nx ls (v :: w :: v :: w :: st') h) none | _ => none
def i_dupL (nx : Nat) : mA := fun _ k ls st h => match st with | .long x :: st' => k nx ls (.long x :: .long x :: st') h | _ => none
def i_pop (nx : Nat) : mA := fun _ k ls st h => match st with | v :: st' => cond (c1 v) (k nx ls st' h) none | _ => none
def i_popL (nx : Nat) : mA := fun _ k ls st h => match st with | .long _ :: st' => k nx ls st' h | _ => none
def i_eq0 (tg nx : Nat) : mA := fun _ k ls st h => match st with | .int x :: st' => if x = 0 then k tg ls st' h else k nx ls st' h | _ => none
def i_ne0 (tg nx : Nat) : mA := fun _ k ls st h => match st with | .int x :: st' => if x = 0 then k nx ls st' h else k tg ls st' h | _ => none
def i_lt0 (tg nx : Nat) : mA := fun _ k ls st h => match st with | .int x :: st' => if x < 0 then k tg ls st' h else k nx ls st' h | _ => none
def i_ge0 (tg nx : Nat) : mA := fun _ k ls st h => match st with | .int x :: st' => if 0 ≤ x then k tg ls st' h else k nx ls st' h | _ => none
def i_gt0 (tg nx : Nat) : mA := fun _ k ls st h => match st with | .int x :: st' => if 0 < x then k tg ls st' h else k nx ls st' h | _ => none
def i_le0 (tg nx : Nat) : mA := fun _ k ls st h => match st with | .int x :: st' => if x ≤ 0 then k tg ls st' h else k nx ls st' h | _ => none
def i_eq (tg nx : Nat) : mA := fun _ k ls st h => match st with | .int y :: .int x :: st' => if x = y then k tg ls st' h else k nx ls st' h | _ => none
def i_ne (tg nx : Nat) : mA := fun _ k ls st h => match st with | .int y :: .int x :: st' => if x = y then k nx ls st' h else k tg ls st' h | _ => none
def i_lt (tg nx : Nat) : mA := fun _ k ls st h => match st with | .int y :: .int x :: st' => if x < y then k tg ls st' h else k nx ls st' h | _ => none
def i_ge (tg nx : Nat) : mA := fun _ k ls st h => match st with | .int y :: .int x :: st' => if y ≤ x then k tg ls st' h else k nx ls st' h | _ => none
def i_gt (tg nx : Nat) : mA := fun _ k ls st h => match st with | .int y :: .int x :: st' => if y < x then k tg ls st' h else k nx ls st' h | _ => none
def i_le (tg nx : Nat) : mA := fun _ k ls st h => match st with | .int y :: .int x :: st' => if x ≤ y then k tg ls st' h else k nx ls st' h | _ => none
def i_go (tg : Nat) : mA := fun _ k ls st h => k tg ls st h
def swk (k : mK) (ls st : List Value) (h : mH) (df : Nat) (x : Int32) : List (Int32 × Nat) → mR
  | [] => k df ls st h
  | p :: ts => if x = p.1 then k p.2 ls st h else swk k ls st h df x ts
def i_sw (ts : List (Int32 × Nat)) (df : Nat) : mA := fun _ k ls st h => match st with | .int x :: st' => swk k ls st' h df x ts | _ => none
def i_nn (tg : Nat) : mA := fun _ k ls st h => match st with | .ref _ :: st' => k tg ls st' h | _ => none
def i_nu (nx : Nat) : mA := fun _ k ls st h => match st with | .ref _ :: st' => k nx ls st' h | _ => none
def i_gI (ci j nx : Nat) : mA := fun _ k ls st h => match st with | .ref q :: st' => (gI h q ci j).bind fun x => k nx ls (.int x :: st') h | _ => none
def i_gL (ci j nx : Nat) : mA := fun _ k ls st h => match st with | .ref q :: st' => (gL h q ci j).bind fun x => k nx ls (.long x :: st') h | _ => none
def i_gR (ci j nx : Nat) : mA := fun _ k ls st h => match st with | .ref q :: st' => (gR h q ci j).bind fun x => k nx ls (.ref x :: st') h | _ => none
def i_pI (ci j nx : Nat) : mA := fun _ k ls st h => match st with | .int x :: .ref q :: st' => (pF h q ci j (.int x)).bind fun h' => k nx ls st' h' | _ => none
def i_pL (ci j nx : Nat) : mA := fun _ k ls st h => match st with | .long x :: .ref q :: st' => (pF h q ci j (.long x)).bind fun h' => k nx ls st' h' | _ => none
def i_pR (ci j nx : Nat) : mA := fun _ k ls st h => match st with | .ref x :: .ref q :: st' => (pF h q ci j (.ref x)).bind fun h' => k nx ls st' h' | _ => none
def i_pN (ci j nx : Nat) : mA := fun _ k ls st h => match st with | .null :: .ref q :: st' => (pF h q ci j .null).bind fun h' => k nx ls st' h' | _ => none
def i_aI (t nx : Nat) : mA := fun _ k ls st h => match st with | .int i :: .ref a :: st' => (aI t h a i).bind fun x => k nx ls (.int x :: st') h | _ => none
def i_aL (nx : Nat) : mA := fun _ k ls st h => match st with | .int i :: .ref a :: st' => (aL h a i).bind fun x => k nx ls (.long x :: st') h | _ => none
def i_aR (t nx : Nat) : mA := fun _ k ls st h => match st with | .int i :: .ref a :: st' => (aR t h a i).bind fun x => k nx ls (.ref x :: st') h | _ => none
def i_aN (nx : Nat) : mA := fun _ k ls st h => match st with | .ref a :: st' => (aN h a).bind fun x => k nx ls (.int x :: st') h | _ => none
def i_sI (nx : Nat) : mA := fun _ k ls st h => match st with | .int x :: .int i :: .ref a :: st' => (sI h a i x).bind fun h' => k nx ls st' h' | _ => none
def i_sB (nx : Nat) : mA := fun _ k ls st h => match st with | .int x :: .int i :: .ref a :: st' => (sB h a i x).bind fun h' => k nx ls st' h' | _ => none
def i_sZ (nx : Nat) : mA := fun _ k ls st h => match st with | .int x :: .int i :: .ref a :: st' => (sZ h a i x).bind fun h' => k nx ls st' h' | _ => none
def i_sL (nx : Nat) : mA := fun _ k ls st h => match st with | .long x :: .int i :: .ref a :: st' => (sL h a i x).bind fun h' => k nx ls st' h' | _ => none
def i_sR (t ci nx : Nat) : mA := fun _ k ls st h => match st with | .ref v :: .int i :: .ref a :: st' => (sR t ci h a i v).bind fun h' => k nx ls st' h' | _ => none
def i_let (nx : Nat) : mA := fun _ k ls st h => k nx ls (.ref 0 :: st) h
def ltr (k : Nat) : Int32 := match k with
  | 0 => 119
  | 1 => 112
  | 2 => 115
  | 3 => 108
  | 4 => 114
  | _ => 100
def i_ca (nx : Nat) : mA := fun _ k ls st h => match st with | .int i :: .ref 0 :: st' => if vin i 6 then k nx ls (.int (ltr i.toNatClampNeg) :: st') h else none | _ => none
def i_new (ci : Nat) (fs : List Value) (nx : Nat) : mA := fun _ k ls st h => k nx ls (.ref h.length :: st) (h ++ [.inr (ci, fs)])
def zr (t : Nat) : (Nat → Int32) ⊕ (Nat → Int64) ⊕ (Nat → UInt32) ⊕ (Nat → UInt64) ⊕ (Nat → Option Nat) := match t with
  | 1 => .inr (.inl (fun _ => 0))
  | 0 => .inl (fun _ => 0)
  | 2 => .inl (fun _ => 0)
  | 3 => .inl (fun _ => 0)
  | _ => .inr (.inr (.inr (.inr (fun _ => none))))
def i_na (t nx : Nat) : mA := fun _ k ls st h => match st with | .int n :: st' => if n < 0 then none else (if n.toNatClampNeg ≤ 100000 then k nx ls (.ref h.length :: st') (h ++ [.inl (t, n.toNatClampNeg, zr t)]) else none) | _ => none
def i_cV (mi n nx : Nat) : mA := fun call k ls st h => cond (Nat.ble n st.length && Nat.ble (cats (st.drop n)) 8) ((cV call mi (st.take n).reverse h).bind fun h' => k nx ls (st.drop n) h') none
def i_cI (mi n nx : Nat) : mA := fun call k ls st h => cond (Nat.ble n st.length && Nat.ble (cats (st.drop n)) 8) ((cI call mi (st.take n).reverse h).bind fun p => k nx ls (.int p.1 :: st.drop n) p.2) none
def i_cL (mi n nx : Nat) : mA := fun call k ls st h => cond (Nat.ble n st.length && Nat.ble (cats (st.drop n)) 8) ((cL call mi (st.take n).reverse h).bind fun p => k nx ls (.long p.1 :: st.drop n) p.2) none
def rc (h : mH) (ci : Nat) (as : List Value) : Bool := match as with
  | .ref q :: _ => isO h q ci
  | _ => false
def i_vV (ci mi n nx : Nat) : mA := fun call k ls st h => cond (Nat.ble n st.length && Nat.ble (cats (st.drop n)) 8) (if rc h ci (st.take n).reverse = true then (cV call mi (st.take n).reverse h).bind fun h' => k nx ls (st.drop n) h' else none) none
def i_vI (ci mi n nx : Nat) : mA := fun call k ls st h => cond (Nat.ble n st.length && Nat.ble (cats (st.drop n)) 8) (if rc h ci (st.take n).reverse = true then (cI call mi (st.take n).reverse h).bind fun p => k nx ls (.int p.1 :: st.drop n) p.2 else none) none
def i_vL (ci mi n nx : Nat) : mA := fun call k ls st h => cond (Nat.ble n st.length && Nat.ble (cats (st.drop n)) 8) (if rc h ci (st.take n).reverse = true then (cL call mi (st.take n).reverse h).bind fun p => k nx ls (.long p.1 :: st.drop n) p.2 else none) none
def i_obj (nx : Nat) : mA := fun call k ls st h => match st with | .ref q :: st' => cond (Nat.ble (cats st') 8) ((cV call 0 [.ref q] h).bind fun _ => k nx ls st' h) none | _ => none
def i_cp (nx : Nat) : mA := fun call k ls st h => match st with | .int n :: .int dp :: .ref a1 :: .int sp :: .ref a0 :: st' => cond (Nat.ble (cats st') 8) ((cV call 0 [] h).bind fun _ => (cpI h a0 sp a1 dp n).bind fun h' => k nx ls st' h') none | _ => none
def i_rI : mA := fun _ _ _ st h => match st with | [.int x] => some (some (.int x), h) | _ => none
def i_rZ : mA := fun _ _ _ st h => match st with | [.int x] => if x &&& 1 = x then some (some (.int x), h) else none | _ => none
def i_rL : mA := fun _ _ _ st h => match st with | [.long x] => some (some (.long x), h) | _ => none
def i_rV : mA := fun _ _ _ st h => match st with | [] => some (none, h) | _ => none
-- code as a tree
def tr (n : Nat) (a b : Nat → mA) : Nat → mA := fun pc => cond (Nat.ble pc n) (a pc) (b pc)
def lf (n : Nat) (a : mA) : Nat → mA := fun pc => cond (Nat.beq pc n) a i_no
-- running
def exF (cd : Nat → mA) (call : mC) : Nat → mK
  | 0 => fun _ _ _ _ => none
  | f + 1 => fun pc ls st h => cd pc call (exF cd call f) ls st h
noncomputable def ex (cd : Nat → mA) (call : mC) : mK := fun pc ls st h => by
  classical
  exact if w : ∃ f r, exF cd call f pc ls st h = some r then exF cd call w.choose pc ls st h else none
