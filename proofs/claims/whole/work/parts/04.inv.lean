/-! what the small machine's state is of the machine's -/
def bl (cd : Nat → mA) (ld : Nat → Bool) (call : mC) (k : mK) : Nat → mK
  | 0 => k
  | n + 1 => fun pc ls st h => cd pc call (fun pc' ls' st' h' => cond (ld pc') (k pc' ls' st' h') (bl cd ld call k n pc' ls' st' h')) ls st h
def cr (base lt q : Nat) : Nat := if q = 0 then lt else base + q
def cv (base lt : Nat) : Value → Value
  | .ref q => .ref (cr base lt q)
  | v => v
def cE (base lt : Nat) (dA : Nat → ClassId) : va_E → va_E
  | .inl (t, n, .inl f) => .inl (dA t, n, .inl f)
  | .inl (t, n, .inr (.inl f)) => .inl (dA t, n, .inr (.inl f))
  | .inl (t, n, .inr (.inr (.inl f))) => .inl (dA t, n, .inr (.inr (.inl f)))
  | .inl (t, n, .inr (.inr (.inr (.inl f)))) => .inl (dA t, n, .inr (.inr (.inr (.inl f))))
  | .inl (t, n, .inr (.inr (.inr (.inr f)))) => .inl (dA t, n, .inr (.inr (.inr (.inr (fun j => (f j).map (cr base lt))))))
  | .inr (ci, fs) => .inr (ci, fs.map (cv base lt))
def wsO (base lt : Nat) (dA : Nat → ClassId) (h : mH) : va_W := h.tail.mapIdx (fun k c => (base + (k + 1), cE base lt dA c))
theorem wsO_get {base lt : Nat} {dA : Nat → ClassId} {h : mH} {q : Nat} {c : va_E} (hq : 0 < q) (hc : h[q]? = some c) : (wsO base lt dA h)[q - 1]? = some (base + q, cE base lt dA c) := by
  unfold wsO
  rw [List.getElem?_mapIdx, List.getElem?_tail, show q - 1 + 1 = q by omega, hc]
  rfl
theorem wsO_set {base lt : Nat} {dA : Nat → ClassId} {h : mH} {q : Nat} {c : va_E} (hq : 0 < q) : wsO base lt dA (h.set q c) = (wsO base lt dA h).set (q - 1) (base + q, cE base lt dA c) := by
  apply List.ext_getElem?
  intro k
  unfold wsO
  rw [List.getElem?_mapIdx, List.getElem?_tail, List.getElem?_set, List.getElem?_set, List.getElem?_mapIdx, List.getElem?_tail]
  by_cases e : q = k + 1
  · subst e
    have h1 : k + 1 < h.length ↔ k < (List.mapIdx (fun k c => (base + (k + 1), cE base lt dA c)) h.tail).length := by simp; omega
    by_cases h2 : k + 1 < h.length
    · simp [h1.mp h2, h2]
    · simp [h2]
      omega
  · have e2 : ¬ q - 1 = k := by omega
    rw [if_neg e, if_neg e2]
theorem wsO_push {base lt : Nat} {dA : Nat → ClassId} {h : mH} {c : va_E} (hh : h[0]? = some dm) : wsO base lt dA (h ++ [c]) = wsO base lt dA h ++ [(base + h.length, cE base lt dA c)] := by
  cases h with
  | nil => simp at hh
  | cons a t =>
    unfold wsO
    simp [List.mapIdx_append]
theorem wsO_D {base lt : Nat} {dA : Nat → ClassId} {h : mH} : va_D (fun q => base < q) (wsO base lt dA h) := by
  have key : ∀ (k : Nat) (q : Nat × va_E), (wsO base lt dA h)[k]? = some q → q.1 = base + (k + 1) := by
    intro k q hq
    unfold wsO at hq
    rw [List.getElem?_mapIdx] at hq
    cases hc : h.tail[k]? with
    | none => rw [hc] at hq; cases hq
    | some c => rw [hc] at hq; cases hq; rfl
  refine ⟨fun i j p q hi hj hpq => ?_, fun k q hk => ?_⟩
  · have := key i p hi
    have := key j q hj
    omega
  · have := key k q hk
    omega
theorem sl_set {h : mH} {q : Nat} {c c0 : va_E} (hc : h[q]? = some c0) (hs : szE c = szE c0) : sl (h.set q c) = sl h := by
  unfold sl
  rw [List.map_set]
  congr 1
  have hl := (List.getElem?_eq_some_iff.mp hc).1
  apply List.ext_getElem?
  intro k
  rw [List.getElem?_set]
  by_cases e : q = k
  · subst e
    simp [hl, hs]
    have := (List.getElem?_eq_some_iff.mp hc).2
    rw [this]
  · rw [if_neg e]
theorem sl_push (h : mH) (c : va_E) : sl (h ++ [c]) = sl h + szE c := by simp [sl]
-- what may be said of the arrays' classes
abbrev tysO (dA : Nat → ClassId) : List (ClassId × FieldType) := [(dA 0, .int), (dA 1, .long), (dA 2, .byte), (dA 3, .boolean), (dA 4, .object "MoonLine$Row"), (dA 5, .object "MoonLine$Text"), (dA 6, .object "MoonLine$Deeds"), (dA 7, .object "MoonLine$Queue"), (dA 8, .array .int)]
def StO (base lt : Nat) (U : State) (H : Heap) : Prop := va_Z "MoonLine" "LETTERS" "[C" (.ref lt) (fun q => base < q) U H ∧ va_T .char lt 6 (fun k => .int (ltr k)) (fun q => base < q) U H
def isNest : Cond → Bool
  | .methodLinkNest _ _ _ _ => true
  | .fieldLinkNest _ _ _ _ _ _ => true
  | _ => false
def nestL : List Cond := lw_tbl.filter isNest
def va_OA (U : State) : Prop := (Cond.arrayOver (.array .int)).before #[] U = true
theorem va_OA.moved {u U : State} (hvm : u.vm.Alike U.vm) (h : va_OA u) : va_OA U := by
  have e := Cond.arrayOver_setVmC (args := #[]) hvm (.array .int)
  have h1 : (Cond.arrayOver (.array .int)).before #[] (u.setVm U.vm) = true := by rw [e]; exact h
  exact h1
def NwO (U : State) : Prop := (∀ w ∈ nestL, va_Nw w U) ∧ va_AO "MoonLine$Row" U ∧ va_AO "MoonLine$Text" U ∧ va_AO "MoonLine$Deeds" U ∧ va_AO "MoonLine$Queue" U ∧ va_OA U
def WdP (D : va_G) (dA : Nat → ClassId) (base lt : Nat) (h : mH) (U : State) : Prop := U.heap.size = base + h.length ∧ va_P D vwCl (wsO base lt dA h) U.heap ∧ va_K D vwCl (tysO dA) U ∧ StO base lt U U.heap ∧ NwO U
def PcM (D : va_G) (dA : Nat → ClassId) (base lt : Nat) (as : List Value) (h : mH) : Array Value → State → Prop := fun v U => v = (as.map (cv base lt)).toArray ∧ h[0]? = some dm ∧ WdP D dA base lt h U
def QcM (D : va_G) (dA : Nat → ClassId) (base lt : Nat) (r : Option Value × mH) : Array Value → State → Outcome → State → Prop := fun _ st o t => o = .returned (r.1.map (cv base lt)) ∧ va_P D vwCl (wsO base lt dA r.2) t.heap ∧ st.heap.size ≤ t.heap.size ∧ ∀ q : Nat, q ≤ base → t.heap[q]? = st.heap[q]?
abbrev mT : Type := Nat → MethodName × ByteArray × Nat × Option FieldType
def wO (tb : mT) (mi : Nat) : List Cond := Cond.code (tb mi).1 (tb mi).2.1 (tb mi).2.2.1 (tb mi).2.2.2 :: lw_g
def Ge (h' h : mH) : Prop := h.length ≤ h'.length ∧ sl h ≤ sl h' ∧ (h[0]? = some dm → h'[0]? = some dm)
def SC (tb : mT) (d : Nat) (call : mC) : Prop := (∀ as h r, call 0 as h = some r → 1 ≤ d) ∧ ∀ (mi : Nat) (as : List Value) (h : mH) (r : Option Value × mH), 0 < mi → call mi as h = some r → 1 ≤ d ∧ Ge r.2 h ∧ ∀ (l : Launch) (D : va_G) (dA : Nat → ClassId) (base lt : Nat),
  Met l (tb mi).1 (wO tb mi) { frames := d - 1, cells := r.2.length - h.length, slots := sl r.2 - sl h, locals := 64 * (d - 1) } (PcM D dA base lt as h) (QcM D dA base lt r) (r.2.length - h.length) (sl r.2 - sl h) (fun q => base < q)
def asc (base lt : Nat) (ls : List Value) : List (Nat × Value) := ls.zipIdx.filterMap (fun q => if q.1 = .null then none else some (q.2, cv base lt q.1))
theorem asc_get {base lt : Nat} {ls : List Value} {i : Nat} {v : Value} (h : ls[i]? = some v) (hv : v ≠ .null) : (i, cv base lt v) ∈ asc base lt ls := by
  unfold asc
  refine List.mem_filterMap.mpr ⟨(v, i), ?_, by simp [hv]⟩
  rw [List.mem_zipIdx_iff_getElem?]
  simpa using h
theorem asc_mem {base lt : Nat} {ls : List Value} {q : Nat × Value} (h : q ∈ asc base lt ls) : ∃ v, ls[q.1]? = some v ∧ v ≠ .null ∧ q.2 = cv base lt v := by
  unfold asc at h
  obtain ⟨⟨v, i⟩, h1, h2⟩ := List.mem_filterMap.mp h
  rw [List.mem_zipIdx_iff_getElem?] at h1
  by_cases hv : v = .null
  · simp [hv] at h2
  · simp [hv] at h2
    subst h2
    exact ⟨v, by simpa using h1, hv, rfl⟩
def CX (p : Program) (l : Launch) (e : Env) (R : Room) (s : State) (m : MethodId) (args : Array Value) (below : List Frame) (meth : Method) (c : Code) (cc : ByteArray) (nL : Nat) (own : String) (ret : Option FieldType) (ini : Bool) (D : va_G) (dA : Nat → ClassId) (base lt n0 : Nat) : Prop :=
  p.tables.exec = Jvm.exec ∧ c.code = cc ∧ c.maxLocals = nL ∧ s.vm.findClass own = some m.cls ∧ (∀ w ∈ lw_g, w.before args s = true) ∧ va_K D vwCl (tysO dA) s ∧ StO base lt s s.heap ∧ NwO s ∧ meth.sig.returnType = ret ∧ meth.locks = false ∧ (ini = true → meth.name = "<init>") ∧ s.heap.size = base + n0 ∧ 1 ≤ n0
def IV (D : va_G) (dA : Nat → ClassId) (base lt nL : Nat) (s : State) (n0 s0 : Nat) (ls : List Value) (lsr : Array Slot) (h : mH) (H : Heap) (locs : List Loc) : Prop :=
  lv_has lsr nL (asc base lt ls) ∧ ls.length ≤ nL ∧ h[0]? = some dm ∧ va_P D vwCl (wsO base lt dA h) H ∧ va_S (fun q => base < q) s.heap H locs ∧ n0 ≤ h.length ∧ s0 ≤ sl h
def Wp (cc : ByteArray) (nL : Nat) (own : String) (ret : Option FieldType) (ini : Bool) (d : Nat) (pc : Nat) (ls st : List Value) (h : mH) (pc' : Nat) (ls' st' : List Value) (h' : mH) : Prop :=
  ∀ (p : Program) (l : Launch) (e : Env) (R : Room) (s : State) (m : MethodId) (args : Array Value) (below : List Frame) (meth : Method) (c : Code) (D : va_G) (dA : Nat → ClassId) (base lt n0 s0 : Nat) (Q : State → Prop),
    CX p l e R s m args below meth c cc nL own ret ini D dA base lt n0 → d ≤ R.frames → 64 * d ≤ R.locals → h'.length ≤ n0 + R.cells → sl h' ≤ s0 + R.slots →
    (∀ (lsr : Array Slot) (H : Heap) (locs : List Loc), IV D dA base lt nL s n0 s0 ls' lsr h' H locs → W p l e R s m args below meth c H locs (h'.length - n0) (sl h' - s0) Q (F0 m pc' lsr (st'.map (cv base lt)))) →
    ∀ (lsr : Array Slot) (H : Heap) (locs : List Loc), IV D dA base lt nL s n0 s0 ls lsr h H locs → W p l e R s m args below meth c H locs (h.length - n0) (sl h - s0) Q (F0 m pc lsr (st.map (cv base lt)))
def Rp (cc : ByteArray) (nL : Nat) (own : String) (ret : Option FieldType) (ini : Bool) (pc : Nat) (ls st : List Value) (h : mH) (r : Option Value × mH) : Prop :=
  ∀ (p : Program) (l : Launch) (e : Env) (R : Room) (s : State) (m : MethodId) (args : Array Value) (below : List Frame) (meth : Method) (c : Code) (D : va_G) (dA : Nat → ClassId) (base lt n0 s0 : Nat),
    CX p l e R s m args below meth c cc nL own ret ini D dA base lt n0 →
    ∀ (lsr : Array Slot) (H : Heap) (locs : List Loc), IV D dA base lt nL s n0 s0 ls lsr h H locs → W p l e R s m args below meth c H locs (h.length - n0) (sl h - s0) (MQ below (QcM D dA base lt r) args s (h.length - n0) (sl h - s0) (fun q => base < q)) (F0 m pc lsr (st.map (cv base lt)))
def SA (tb : mT) (cc : ByteArray) (nL : Nat) (own : String) (ret : Option FieldType) (ini : Bool) (pc : Nat) (act : mA) : Prop :=
  ∀ (d : Nat) (call : mC), SC tb d call → ∀ (k : mK) (ls st : List Value) (h : mH) (r : Option Value × mH), act call k ls st h = some r →
    ((∀ k' : mK, act call k' ls st h = some r) ∧ r.2 = h ∧ Rp cc nL own ret ini pc ls st h r) ∨
    ∃ (pc' : Nat) (ls' st' : List Value) (h' : mH), k pc' ls' st' h' = some r ∧ (∀ k' : mK, k' pc' ls' st' h' = some r → act call k' ls st h = some r) ∧ Ge h' h ∧ Wp cc nL own ret ini d pc ls st h pc' ls' st' h'
theorem Ge.rf (h : mH) : Ge h h := ⟨Nat.le_refl _, Nat.le_refl _, id⟩
theorem Ge.tr {a b c : mH} (h1 : Ge a b) (h2 : Ge b c) : Ge a c := ⟨Nat.le_trans h2.1 h1.1, Nat.le_trans h2.2.1 h1.2.1, fun q => h1.2.2 (h2.2.2 q)⟩
theorem SA.no {tb : mT} {cc : ByteArray} {nL : Nat} {own : String} {ret : Option FieldType} {ini : Bool} {pc : Nat} : SA tb cc nL own ret ini pc i_no := fun _ _ _ _ _ _ _ _ e => by cases e
-- a tree of acts
def SAll (tb : mT) (cc : ByteArray) (nL : Nat) (own : String) (ret : Option FieldType) (ini : Bool) (cd : Nat → mA) : Prop := ∀ pc, SA tb cc nL own ret ini pc (cd pc)
theorem SAll_tr {tb : mT} {cc : ByteArray} {nL : Nat} {own : String} {ret : Option FieldType} {ini : Bool} {n : Nat} {a b : Nat → mA} (h1 : SAll tb cc nL own ret ini a) (h2 : SAll tb cc nL own ret ini b) : SAll tb cc nL own ret ini (tr n a b) := by
  intro pc
  unfold tr
  cases Nat.ble pc n
  · exact h2 pc
  · exact h1 pc
theorem SAll_lf {tb : mT} {cc : ByteArray} {nL : Nat} {own : String} {ret : Option FieldType} {ini : Bool} {n : Nat} {a : mA} (h1 : SA tb cc nL own ret ini n a) : SAll tb cc nL own ret ini (lf n a) := by
  intro pc
  unfold lf
  cases e : Nat.beq pc n
  · exact SA.no
  · have := Nat.eq_of_beq_eq_true e
    subst this
    exact h1
-- running
theorem exF_mono {tb : mT} {cc : ByteArray} {nL : Nat} {own : String} {ret : Option FieldType} {ini : Bool} {cd : Nat → mA} (hA : SAll tb cc nL own ret ini cd) {d : Nat} {call : mC} (hS : SC tb d call) : ∀ (f : Nat) (pc : Nat) (ls st : List Value) (h : mH) (r : Option Value × mH), exF cd call f pc ls st h = some r → exF cd call (f + 1) pc ls st h = some r := by
  intro f
  induction f with
  | zero => intro pc ls st h r e; cases e
  | succ f ih =>
    intro pc ls st h r e
    rcases hA pc d call hS (exF cd call f) ls st h r e with ⟨h1, -⟩ | ⟨pc', ls', st', h', h1, h2, -⟩
    · exact h1 _
    · exact h2 _ (ih _ _ _ _ _ h1)
theorem exF_le {tb : mT} {cc : ByteArray} {nL : Nat} {own : String} {ret : Option FieldType} {ini : Bool} {cd : Nat → mA} (hA : SAll tb cc nL own ret ini cd) {d : Nat} {call : mC} (hS : SC tb d call) {f g : Nat} (hfg : f ≤ g) {pc : Nat} {ls st : List Value} {h : mH} {r : Option Value × mH} (e : exF cd call f pc ls st h = some r) : exF cd call g pc ls st h = some r := by
  induction hfg with
  | refl => exact e
  | step _ ih => exact exF_mono hA hS _ _ _ _ _ _ ih
theorem ex_some {cd : Nat → mA} {call : mC} {pc : Nat} {ls st : List Value} {h : mH} {r : Option Value × mH} (e : ex cd call pc ls st h = some r) : ∃ f, exF cd call f pc ls st h = some r := by
  classical
  unfold ex at e
  by_cases w : ∃ f r, exF cd call f pc ls st h = some r
  · rw [dif_pos w] at e
    exact ⟨_, e⟩
  · rw [dif_neg w] at e
    cases e
theorem ex_of {tb : mT} {cc : ByteArray} {nL : Nat} {own : String} {ret : Option FieldType} {ini : Bool} {cd : Nat → mA} (hA : SAll tb cc nL own ret ini cd) {d : Nat} {call : mC} (hS : SC tb d call) {f : Nat} {pc : Nat} {ls st : List Value} {h : mH} {r : Option Value × mH} (e : exF cd call f pc ls st h = some r) : ex cd call pc ls st h = some r := by
  classical
  unfold ex
  have w : ∃ f r, exF cd call f pc ls st h = some r := ⟨f, r, e⟩
  rw [dif_pos w]
  obtain ⟨r', hr'⟩ := w.choose_spec
  rcases Nat.le_total f w.choose with q | q
  · exact exF_le hA hS q e
  · have := exF_le hA hS q hr'
    rw [e] at this
    cases this
    exact hr'
theorem ex_un {tb : mT} {cc : ByteArray} {nL : Nat} {own : String} {ret : Option FieldType} {ini : Bool} {cd : Nat → mA} (hA : SAll tb cc nL own ret ini cd) {d : Nat} {call : mC} (hS : SC tb d call) (pc : Nat) (ls st : List Value) (h : mH) : ex cd call pc ls st h = cd pc call (ex cd call) ls st h := by
  apply Option.ext
  intro r
  constructor
  · intro e
    obtain ⟨f, hf⟩ := ex_some e
    cases f with
    | zero => cases hf
    | succ f =>
      rcases hA pc d call hS (exF cd call f) ls st h r hf with ⟨h1, -⟩ | ⟨pc', ls', st', h', h1, h2, -⟩
      · exact h1 _
      · exact h2 _ (ex_of hA hS h1)
  · intro e
    rcases hA pc d call hS (ex cd call) ls st h r e with ⟨h1, -⟩ | ⟨pc', ls', st', h', h1, h2, -⟩
    · exact ex_of hA hS (f := 1) (h1 _)
    · obtain ⟨f, hf⟩ := ex_some h1
      exact ex_of hA hS (f := f + 1) (h2 _ hf)
theorem ex_bl {tb : mT} {cc : ByteArray} {nL : Nat} {own : String} {ret : Option FieldType} {ini : Bool} {cd : Nat → mA} (hA : SAll tb cc nL own ret ini cd) {d : Nat} {call : mC} (hS : SC tb d call) (ld : Nat → Bool) : ∀ n : Nat, ex cd call = bl cd ld call (ex cd call) n := by
  intro n
  induction n with
  | zero => rfl
  | succ n ih =>
    funext pc ls st h
    show _ = cd pc call (fun pc' ls' st' h' => cond (ld pc') (ex cd call pc' ls' st' h') (bl cd ld call (ex cd call) n pc' ls' st' h')) ls st h
    rw [← ih]
    have : (fun pc' ls' st' h' => cond (ld pc') (ex cd call pc' ls' st' h') (ex cd call pc' ls' st' h')) = ex cd call := by
      funext a b c d
      cases ld a <;> rfl
    rw [this]
    exact ex_un hA hS pc ls st h
/-- the whole run: what grew, and the machine's -/
theorem exF_W {tb : mT} {cc : ByteArray} {nL : Nat} {own : String} {ret : Option FieldType} {ini : Bool} {cd : Nat → mA} (hA : SAll tb cc nL own ret ini cd) {d : Nat} {call : mC} (hS : SC tb d call) : ∀ (f : Nat) (pc : Nat) (ls st : List Value) (h : mH) (r : Option Value × mH), exF cd call f pc ls st h = some r → Ge r.2 h ∧
    ∀ (p : Program) (l : Launch) (e : Env) (R : Room) (s : State) (m : MethodId) (args : Array Value) (below : List Frame) (meth : Method) (c : Code) (D : va_G) (dA : Nat → ClassId) (base lt n0 s0 : Nat),
    CX p l e R s m args below meth c cc nL own ret ini D dA base lt n0 → d ≤ R.frames → 64 * d ≤ R.locals → r.2.length ≤ n0 + R.cells → sl r.2 ≤ s0 + R.slots →
    ∀ (lsr : Array Slot) (H : Heap) (locs : List Loc), IV D dA base lt nL s n0 s0 ls lsr h H locs → W p l e R s m args below meth c H locs (h.length - n0) (sl h - s0) (MQ below (QcM D dA base lt r) args s (r.2.length - n0) (sl r.2 - s0) (fun q => base < q)) (F0 m pc lsr (st.map (cv base lt))) := by
  intro f
  induction f with
  | zero => intro pc ls st h r e; cases e
  | succ f ih =>
    intro pc ls st h r e
    rcases hA pc d call hS (exF cd call f) ls st h r e with ⟨-, h2, h3⟩ | ⟨pc', ls', st', h', h1, -, hG, hW⟩
    · refine ⟨by rw [h2]; exact Ge.rf h, ?_⟩
      intro p l e R s m args below meth c D dA base lt n0 s0 hC _ _ _ _ lsr H locs hI
      rw [h2]
      exact h3 p l e R s m args below meth c D dA base lt n0 s0 hC lsr H locs hI
    · obtain ⟨g1, g2⟩ := ih pc' ls' st' h' r h1
      refine ⟨g1.tr hG, ?_⟩
      intro p l e R s m args below meth c D dA base lt n0 s0 hC hf hl hc hs lsr H locs hI
      refine hW p l e R s m args below meth c D dA base lt n0 s0 _ hC hf hl (Nat.le_trans g1.1 hc) (Nat.le_trans g1.2.1 hs) ?_ lsr H locs hI
      intro lsr H locs hI
      exact g2 p l e R s m args below meth c D dA base lt n0 s0 hC hf hl hc hs lsr H locs hI
