/-! each act is the machine's instruction -/
section SAS
variable {tb : mT} {cc : ByteArray} {nL : Nat} {own : String} {ret : Option FieldType} {ini : Bool} {pc : Nat}
theorem SA_st {act : mA} (H : ∀ (call : mC) (k : mK) (ls st : List Value) (h : mH) (r : Option Value × mH), act call k ls st h = some r → ∃ (pc' : Nat) (st' : List Value), k pc' ls st' h = some r ∧ (∀ k' : mK, k' pc' ls st' h = some r → act call k' ls st h = some r) ∧
    ∀ (p : Program) (l : Launch) (e : Env) (R : Room) (s : State) (m : MethodId) (args : Array Value) (below : List Frame) (meth : Method) (c : Code) (base lt : Nat) (Q : State → Prop) (lsr : Array Slot) (Hp : Heap) (locs : List Loc) (cells slots : Nat), p.tables.exec = Jvm.exec → c.code = cc → s.vm.findClass own = some m.cls → (∀ w ∈ lw_g, w.before args s = true) → lv_has lsr nL (asc base lt ls) →
      W p l e R s m args below meth c Hp locs cells slots Q (F0 m pc' lsr (st'.map (cv base lt))) → W p l e R s m args below meth c Hp locs cells slots Q (F0 m pc lsr (st.map (cv base lt)))) : SA tb cc nL own ret ini pc act := by
  intro d call hS k ls st h r e
  obtain ⟨pc', st', h1, h2, h3⟩ := H call k ls st h r e
  refine Or.inr ⟨pc', ls, st', h, h1, h2, Ge.rf h, ?_⟩
  intro p l e R s m args below meth c D dA base lt n0 s0 Q hC _ _ _ _ hk lsr Hp locs hI
  obtain ⟨hx, hb, -, ho, ht, -⟩ := hC
  exact h3 p l e R s m args below meth c base lt Q lsr Hp locs _ _ hx hb ho ht hI.1 (hk lsr Hp locs hI)
theorem s_iconst {n : Int} {v : Int32} (hd : decode cc pc = .ok (.iconst n, 1)) (hv : Int32.ofInt n = v) : SA tb cc nL own ret ini pc (i_c (.int v) (pc + 1)) :=
  SA_st fun call k ls st h r e => ⟨pc + 1, _, e, fun k' e' => e', by intro p l e R s m args below meth c base lt Q lsr Hp locs cells slots hx hb ho ht hl hk; exact lv_iconst hx hb hd hv hk⟩
theorem s_bipush {n : Int} {v : Int32} (hd : decode cc pc = .ok (.bipush n, 2)) (hv : (Int8.ofInt n).toInt32 = v) : SA tb cc nL own ret ini pc (i_c (.int v) (pc + 2)) :=
  SA_st fun call k ls st h r e => ⟨pc + 2, _, e, fun k' e' => e', by intro p l e R s m args below meth c base lt Q lsr Hp locs cells slots hx hb ho ht hl hk; exact lv_bipush hx hb hd hv hk⟩
theorem s_sipush {n : Int} {v : Int32} (hd : decode cc pc = .ok (.sipush n, 3)) (hv : (Int16.ofInt n).toInt32 = v) : SA tb cc nL own ret ini pc (i_c (.int v) (pc + 3)) :=
  SA_st fun call k ls st h r e => ⟨pc + 3, _, e, fun k' e' => e', by intro p l e R s m args below meth c base lt Q lsr Hp locs cells slots hx hb ho ht hl hk; exact lv_sipush hx hb hd hv hk⟩
theorem s_lconst {n : Fin 2} {v : Int64} (hd : decode cc pc = .ok (.lconst n, 1)) (hv : Int64.ofNat (n : Nat) = v) : SA tb cc nL own ret ini pc (i_c (.long v) (pc + 1)) :=
  SA_st fun call k ls st h r e => ⟨pc + 1, _, e, fun k' e' => e', by intro p l e R s m args below meth c base lt Q lsr Hp locs cells slots hx hb ho ht hl hk; exact lv_lconst hx hb hd hv hk⟩
theorem s_ldc2 {i : Nat} {v : Int64} (hd : decode cc pc = .ok (.ldc2_w i, 3)) (hw : Jvm.Cond.constantLong own i v ∈ lw_g) : SA tb cc nL own ret ini pc (i_c (.long v) (pc + 3)) :=
  SA_st fun call k ls st h r e => ⟨pc + 3, _, e, fun k' e' => e', by intro p l e R s m args below meth c base lt Q lsr Hp locs cells slots hx hb ho ht hl hk; exact lv_ldc2 hx hb ho (ht _ hw) hd hk⟩
theorem s_ldcw {i : Nat} {v : Int32} (hd : decode cc pc = .ok (.ldc_w i, 3)) (hw : Jvm.Cond.constant own i v ∈ lw_g) : SA tb cc nL own ret ini pc (i_c (.int v) (pc + 3)) :=
  SA_st fun call k ls st h r e => ⟨pc + 3, _, e, fun k' e' => e', by intro p l e R s m args below meth c base lt Q lsr Hp locs cells slots hx hb ho ht hl hk; exact lv_ldcw hx hb ho (ht _ hw) hd hk⟩
theorem s_null (hd : decode cc pc = .ok (.aconst_null, 1)) : SA tb cc nL own ret ini pc (i_c .null (pc + 1)) :=
  SA_st fun call k ls st h r e => ⟨pc + 1, _, e, fun k' e' => e', by intro p l e R s m args below meth c base lt Q lsr Hp locs cells slots hx hb ho ht hl hk; exact lv_null hx hb hd hk⟩
theorem li_inv {i nx : Nat} {call : mC} {k : mK} {ls st : List Value} {h : mH} {r : Option Value × mH} (e : i_li i nx call k ls st h = some r) : ∃ x, ls[i]? = some (.int x) ∧ k nx ls (.int x :: st) h = some r := by
  unfold i_li at e
  split at e
  · next x hx => exact ⟨x, hx, e⟩
  · cases e
theorem ll_inv {i nx : Nat} {call : mC} {k : mK} {ls st : List Value} {h : mH} {r : Option Value × mH} (e : i_ll i nx call k ls st h = some r) : ∃ x, ls[i]? = some (.long x) ∧ k nx ls (.long x :: st) h = some r := by
  unfold i_ll at e
  split at e
  · next x hx => exact ⟨x, hx, e⟩
  · cases e
theorem la_inv {i nx : Nat} {call : mC} {k : mK} {ls st : List Value} {h : mH} {r : Option Value × mH} (e : i_la i nx call k ls st h = some r) : ∃ x, ls[i]? = some (.ref x) ∧ k nx ls (.ref x :: st) h = some r := by
  unfold i_la at e
  split at e
  · next x hx => exact ⟨x, hx, e⟩
  · cases e
theorem s_iload_n {j : Fin 4} {i : Nat} (hd : decode cc pc = .ok (.iload_n j, 1)) (hj : (j : Nat) = i) : SA tb cc nL own ret ini pc (i_li i (pc + 1)) :=
  SA_st fun call k ls st h r e => by
    obtain ⟨x, hx, e1⟩ := li_inv e
    refine ⟨pc + 1, _, e1, fun k' e' => by simp only [i_li, hx]; exact e', ?_⟩
    intro p l e R s m args below meth c base lt Q lsr Hp locs cells slots hex hb ho ht hl hk
    exact lv_iload_n hex hb hd hj (hl.2.2 _ (asc_get hx (by simp))) hk
theorem s_iload {i : Nat} (hd : decode cc pc = .ok (.iload i, 2)) : SA tb cc nL own ret ini pc (i_li i (pc + 2)) :=
  SA_st fun call k ls st h r e => by
    obtain ⟨x, hx, e1⟩ := li_inv e
    refine ⟨pc + 2, _, e1, fun k' e' => by simp only [i_li, hx]; exact e', ?_⟩
    intro p l e R s m args below meth c base lt Q lsr Hp locs cells slots hex hb ho ht hl hk
    exact lv_iload hex hb hd (hl.2.2 _ (asc_get hx (by simp))) hk
theorem s_lload_n {j : Fin 4} {i : Nat} (hd : decode cc pc = .ok (.lload_n j, 1)) (hj : (j : Nat) = i) : SA tb cc nL own ret ini pc (i_ll i (pc + 1)) :=
  SA_st fun call k ls st h r e => by
    obtain ⟨x, hx, e1⟩ := ll_inv e
    refine ⟨pc + 1, _, e1, fun k' e' => by simp only [i_ll, hx]; exact e', ?_⟩
    intro p l e R s m args below meth c base lt Q lsr Hp locs cells slots hex hb ho ht hl hk
    exact lv_lload_n hex hb hd hj (hl.2.2 _ (asc_get hx (by simp))) hk
theorem s_lload {i : Nat} (hd : decode cc pc = .ok (.lload i, 2)) : SA tb cc nL own ret ini pc (i_ll i (pc + 2)) :=
  SA_st fun call k ls st h r e => by
    obtain ⟨x, hx, e1⟩ := ll_inv e
    refine ⟨pc + 2, _, e1, fun k' e' => by simp only [i_ll, hx]; exact e', ?_⟩
    intro p l e R s m args below meth c base lt Q lsr Hp locs cells slots hex hb ho ht hl hk
    exact lv_lload hex hb hd (hl.2.2 _ (asc_get hx (by simp))) hk
theorem s_aload_n {j : Fin 4} {i : Nat} (hd : decode cc pc = .ok (.aload_n j, 1)) (hj : (j : Nat) = i) : SA tb cc nL own ret ini pc (i_la i (pc + 1)) :=
  SA_st fun call k ls st h r e => by
    obtain ⟨x, hx, e1⟩ := la_inv e
    refine ⟨pc + 1, _, e1, fun k' e' => by simp only [i_la, hx]; exact e', ?_⟩
    intro p l e R s m args below meth c base lt Q lsr Hp locs cells slots hex hb ho ht hl hk
    exact lv_aload_n hex hb hd hj (hl.2.2 _ (asc_get hx (by simp))) hk
theorem s_aload {i : Nat} (hd : decode cc pc = .ok (.aload i, 2)) : SA tb cc nL own ret ini pc (i_la i (pc + 2)) :=
  SA_st fun call k ls st h r e => by
    obtain ⟨x, hx, e1⟩ := la_inv e
    refine ⟨pc + 2, _, e1, fun k' e' => by simp only [i_la, hx]; exact e', ?_⟩
    intro p l e R s m args below meth c base lt Q lsr Hp locs cells slots hex hb ho ht hl hk
    exact lv_aload hex hb hd (hl.2.2 _ (asc_get hx (by simp))) hk
-- two ints, one int
theorem s_b2 {f : Int32 → Int32 → Int32} (row : ∀ (p : Program) (l : Launch) (e : Env) (R : Room) (s : State) (m : MethodId) (args : Array Value) (below : List Frame) (meth : Method) (c : Code) (Q : State → Prop) (lsr : Array Slot) (Hp : Heap) (locs : List Loc) (cells slots : Nat) (x y : Int32) (rest : List Value), p.tables.exec = Jvm.exec → c.code = cc → W p l e R s m args below meth c Hp locs cells slots Q (F0 m (pc + 1) lsr (.int (f x y) :: rest)) → W p l e R s m args below meth c Hp locs cells slots Q (F0 m pc lsr (.int y :: .int x :: rest))) : SA tb cc nL own ret ini pc (i_b2 f (pc + 1)) :=
  SA_st fun call k ls st h r e => by
    unfold i_b2 at e
    split at e
    · next y x st' =>
      refine ⟨pc + 1, _, e, fun k' e' => e', ?_⟩
      intro p l e R s m args below meth c base lt Q lsr Hp locs cells slots hex hb ho ht hl hk
      exact row p l e R s m args below meth c Q lsr Hp locs cells slots x y _ hex hb hk
    · cases e
theorem s_iadd (hd : decode cc pc = .ok (.iadd, 1)) : SA tb cc nL own ret ini pc (i_b2 (fun x y => x + y) (pc + 1)) := s_b2 (by intros; exact lv_iadd ‹_› ‹_› hd ‹_›)
theorem s_isub (hd : decode cc pc = .ok (.isub, 1)) : SA tb cc nL own ret ini pc (i_b2 (fun x y => x - y) (pc + 1)) := s_b2 (by intros; exact lv_isub ‹_› ‹_› hd ‹_›)
theorem s_imul (hd : decode cc pc = .ok (.imul, 1)) : SA tb cc nL own ret ini pc (i_b2 (fun x y => x * y) (pc + 1)) := s_b2 (by intros; exact lv_imul ‹_› ‹_› hd ‹_›)
theorem s_iand (hd : decode cc pc = .ok (.iand, 1)) : SA tb cc nL own ret ini pc (i_b2 (fun x y => x &&& y) (pc + 1)) := s_b2 (by intros; exact lv_iand ‹_› ‹_› hd ‹_›)
theorem s_ior (hd : decode cc pc = .ok (.ior, 1)) : SA tb cc nL own ret ini pc (i_b2 (fun x y => x ||| y) (pc + 1)) := s_b2 (by intros; exact lv_ior ‹_› ‹_› hd ‹_›)
theorem s_ixor (hd : decode cc pc = .ok (.ixor, 1)) : SA tb cc nL own ret ini pc (i_b2 (fun x y => x ^^^ y) (pc + 1)) := s_b2 (by intros; exact lv_ixor ‹_› ‹_› hd ‹_›)
theorem s_ishl (hd : decode cc pc = .ok (.ishl, 1)) : SA tb cc nL own ret ini pc (i_b2 (fun x y => x <<< (y &&& 31)) (pc + 1)) := s_b2 (by intros; exact lv_ishl ‹_› ‹_› hd ‹_›)
theorem s_ishr (hd : decode cc pc = .ok (.ishr, 1)) : SA tb cc nL own ret ini pc (i_b2 (fun x y => x >>> (y &&& 31)) (pc + 1)) := s_b2 (by intros; exact lv_ishr ‹_› ‹_› hd ‹_›)
theorem s_iushr (hd : decode cc pc = .ok (.iushr, 1)) : SA tb cc nL own ret ini pc (i_b2 (fun x y => (x.toUInt32 >>> (y.toUInt32 &&& Int32.toUInt32 31)).toInt32) (pc + 1)) := s_b2 (by intros; exact lv_iushr ‹_› ‹_› hd rfl ‹_›)
theorem s_div (hd : decode cc pc = .ok (.idiv, 1)) : SA tb cc nL own ret ini pc (i_div (pc + 1)) :=
  SA_st fun call k ls st h r e => by
    unfold i_div at e
    split at e
    · next y x st' =>
      by_cases hy : y = 0
      · rw [if_pos hy] at e; cases e
      rw [if_neg hy] at e
      refine ⟨pc + 1, _, e, fun k' e' => by simp only [i_div, if_neg hy]; exact e', ?_⟩
      intro p l e R s m args below meth c base lt Q lsr Hp locs cells slots hex hb ho ht hl hk
      exact lv_idiv hex hb hd hy hk
    · cases e
theorem s_rem (hd : decode cc pc = .ok (.irem, 1)) : SA tb cc nL own ret ini pc (i_rem (pc + 1)) :=
  SA_st fun call k ls st h r e => by
    unfold i_rem at e
    split at e
    · next y x st' =>
      by_cases hy : y = 0
      · rw [if_pos hy] at e; cases e
      rw [if_neg hy] at e
      refine ⟨pc + 1, _, e, fun k' e' => by simp only [i_rem, if_neg hy]; exact e', ?_⟩
      intro p l e R s m args below meth c base lt Q lsr Hp locs cells slots hex hb ho ht hl hk
      exact lv_irem hex hb hd hy hk
    · cases e
theorem s_lb2 {f : Int64 → Int64 → Int64} (row : ∀ (p : Program) (l : Launch) (e : Env) (R : Room) (s : State) (m : MethodId) (args : Array Value) (below : List Frame) (meth : Method) (c : Code) (Q : State → Prop) (lsr : Array Slot) (Hp : Heap) (locs : List Loc) (cells slots : Nat) (x y : Int64) (rest : List Value), p.tables.exec = Jvm.exec → c.code = cc → W p l e R s m args below meth c Hp locs cells slots Q (F0 m (pc + 1) lsr (.long (f x y) :: rest)) → W p l e R s m args below meth c Hp locs cells slots Q (F0 m pc lsr (.long y :: .long x :: rest))) : SA tb cc nL own ret ini pc (i_lb2 f (pc + 1)) :=
  SA_st fun call k ls st h r e => by
    unfold i_lb2 at e
    split at e
    · next y x st' =>
      refine ⟨pc + 1, _, e, fun k' e' => e', ?_⟩
      intro p l e R s m args below meth c base lt Q lsr Hp locs cells slots hex hb ho ht hl hk
      exact row p l e R s m args below meth c Q lsr Hp locs cells slots x y _ hex hb hk
    · cases e
theorem s_ladd (hd : decode cc pc = .ok (.ladd, 1)) : SA tb cc nL own ret ini pc (i_lb2 (fun x y => x + y) (pc + 1)) := s_lb2 (by intros; exact lv_ladd ‹_› ‹_› hd ‹_›)
theorem s_lsub (hd : decode cc pc = .ok (.lsub, 1)) : SA tb cc nL own ret ini pc (i_lb2 (fun x y => x - y) (pc + 1)) := s_lb2 (by intros; exact lv_lsub ‹_› ‹_› hd ‹_›)
theorem s_lmul (hd : decode cc pc = .ok (.lmul, 1)) : SA tb cc nL own ret ini pc (i_lb2 (fun x y => x * y) (pc + 1)) := s_lb2 (by intros; exact lv_lmul ‹_› ‹_› hd ‹_›)
theorem s_ldiv (hd : decode cc pc = .ok (.ldiv, 1)) : SA tb cc nL own ret ini pc (i_ldiv (pc + 1)) :=
  SA_st fun call k ls st h r e => by
    unfold i_ldiv at e
    split at e
    · next y x st' =>
      by_cases hy : y = 0
      · rw [if_pos hy] at e; cases e
      rw [if_neg hy] at e
      refine ⟨pc + 1, _, e, fun k' e' => by simp only [i_ldiv, if_neg hy]; exact e', ?_⟩
      intro p l e R s m args below meth c base lt Q lsr Hp locs cells slots hex hb ho ht hl hk
      exact lv_ldiv hex hb hd hy hk
    · cases e
theorem s_lrem (hd : decode cc pc = .ok (.lrem, 1)) : SA tb cc nL own ret ini pc (i_lrem (pc + 1)) :=
  SA_st fun call k ls st h r e => by
    unfold i_lrem at e
    split at e
    · next y x st' =>
      by_cases hy : y = 0
      · rw [if_pos hy] at e; cases e
      rw [if_neg hy] at e
      refine ⟨pc + 1, _, e, fun k' e' => by simp only [i_lrem, if_neg hy]; exact e', ?_⟩
      intro p l e R s m args below meth c base lt Q lsr Hp locs cells slots hex hb ho ht hl hk
      exact lv_lrem hex hb hd hy hk
    · cases e
theorem s_lcmp (hd : decode cc pc = .ok (.lcmp, 1)) : SA tb cc nL own ret ini pc (i_lcmp (pc + 1)) :=
  SA_st fun call k ls st h r e => by
    unfold i_lcmp i_lcF at e
    split at e
    · next y x st' =>
      refine ⟨pc + 1, _, e, fun k' e' => e', ?_⟩
      intro p l e R s m args below meth c base lt Q lsr Hp locs cells slots hex hb ho ht hl hk
      exact W.lcmp hex hb hd hk
    · cases e
theorem s_i2l (hd : decode cc pc = .ok (.i2l, 1)) : SA tb cc nL own ret ini pc (i_i2l (pc + 1)) :=
  SA_st fun call k ls st h r e => by
    unfold i_i2l i_wF at e
    split at e
    · next x st' =>
      refine ⟨pc + 1, _, e, fun k' e' => e', ?_⟩
      intro p l e R s m args below meth c base lt Q lsr Hp locs cells slots hex hb ho ht hl hk
      exact lv_i2l hex hb hd rfl hk
    · cases e
theorem s_l2i (hd : decode cc pc = .ok (.l2i, 1)) : SA tb cc nL own ret ini pc (i_l2i (pc + 1)) :=
  SA_st fun call k ls st h r e => by
    unfold i_l2i at e
    split at e
    · next x st' =>
      refine ⟨pc + 1, _, e, fun k' e' => e', ?_⟩
      intro p l e R s m args below meth c base lt Q lsr Hp locs cells slots hex hb ho ht hl hk
      exact lv_l2i hex hb hd rfl hk
    · cases e
theorem s_i2b (hd : decode cc pc = .ok (.i2b, 1)) : SA tb cc nL own ret ini pc (i_u1 (fun x => x.toInt8.toInt32) (pc + 1)) :=
  SA_st fun call k ls st h r e => by
    unfold i_u1 at e
    split at e
    · next x st' =>
      refine ⟨pc + 1, _, e, fun k' e' => e', ?_⟩
      intro p l e R s m args below meth c base lt Q lsr Hp locs cells slots hex hb ho ht hl hk
      exact lv_i2b hex hb hd rfl hk
    · cases e
theorem c1_cat {base lt : Nat} {v : Value} (h : c1 v = true) : (cv base lt v).category = 1 := by
  cases v <;> first | rfl | cases h
theorem s_dup (hd : decode cc pc = .ok (.dup, 1)) : SA tb cc nL own ret ini pc (i_dup (pc + 1)) :=
  SA_st fun call k ls st h r e => by
    unfold i_dup at e
    split at e
    · next v st' =>
      cases hc : c1 v with
      | false => rw [hc] at e; cases e
      | true =>
        rw [hc] at e
        refine ⟨pc + 1, _, e, fun k' e' => by simp only [i_dup, hc]; exact e', ?_⟩
        intro p l e R s m args below meth c base lt Q lsr Hp locs cells slots hex hb ho ht hl hk
        exact lv_dup hex hb hd (c1_cat hc) hk
    · cases e
theorem s_dup2 (hd : decode cc pc = .ok (.dup2, 1)) : SA tb cc nL own ret ini pc (i_dup2 (pc + 1)) :=
  SA_st fun call k ls st h r e => by
    unfold i_dup2 at e
    split at e
    · next v w st' =>
      cases hc : c1 v with
      | false => rw [hc] at e; cases e
      | true =>
        cases hc2 : c1 w with
        | false => rw [hc, hc2] at e; cases e
        | true =>
          rw [hc, hc2] at e
          refine ⟨pc + 1, _, e, fun k' e' => by simp only [i_dup2, hc, hc2]; exact e', ?_⟩
          intro p l e R s m args below meth c base lt Q lsr Hp locs cells slots hex hb ho ht hl hk
          exact lv_dup2_11 hex hb hd (c1_cat hc) (c1_cat hc2) hk
    · cases e
theorem s_dupL (hd : decode cc pc = .ok (.dup2, 1)) : SA tb cc nL own ret ini pc (i_dupL (pc + 1)) :=
  SA_st fun call k ls st h r e => by
    unfold i_dupL at e
    split at e
    · next v st' =>
      refine ⟨pc + 1, _, e, fun k' e' => e', ?_⟩
      intro p l e R s m args below meth c base lt Q lsr Hp locs cells slots hex hb ho ht hl hk
      exact lv_dup2_2 hex hb hd rfl hk
    · cases e
theorem s_pop (hd : decode cc pc = .ok (.pop, 1)) : SA tb cc nL own ret ini pc (i_pop (pc + 1)) :=
  SA_st fun call k ls st h r e => by
    unfold i_pop at e
    split at e
    · next v st' =>
      cases hc : c1 v with
      | false => rw [hc] at e; cases e
      | true =>
        rw [hc] at e
        refine ⟨pc + 1, _, e, fun k' e' => by simp only [i_pop, hc]; exact e', ?_⟩
        intro p l e R s m args below meth c base lt Q lsr Hp locs cells slots hex hb ho ht hl hk
        exact lv_pop hex hb hd (c1_cat hc) hk
    · cases e
theorem s_popL (hd : decode cc pc = .ok (.pop2, 1)) : SA tb cc nL own ret ini pc (i_popL (pc + 1)) :=
  SA_st fun call k ls st h r e => by
    unfold i_popL at e
    split at e
    · next v st' =>
      refine ⟨pc + 1, _, e, fun k' e' => e', ?_⟩
      intro p l e R s m args below meth c base lt Q lsr Hp locs cells slots hex hb ho ht hl hk
      exact lv_pop2_2 (va := .long v) hex hb hd rfl hk
    · cases e
theorem s_if_eq {off : Int} {tg : Nat} (hd : decode cc pc = .ok (.ifCond .eq off, 3)) (ht : (pc : Int) + off = (tg : Int)) : SA tb cc nL own ret ini pc (i_eq0 tg (pc + 3)) :=
  SA_st fun call k ls st h r e => by
    unfold i_eq0 at e
    split at e
    · next x st' =>
      by_cases hc : x = 0
      · rw [if_pos hc] at e
        refine ⟨tg, _, e, fun k' e' => by simp only [i_eq0, if_pos hc]; exact e', ?_⟩
        intro p l e R s m args below meth c base lt Q lsr Hp locs cells slots hex hb ho hts hl hk
        exact lv_if_eq hex hb hd ht (fun h9 => hk) (fun h9 => absurd hc h9)
      · rw [if_neg hc] at e
        refine ⟨pc + 3, _, e, fun k' e' => by simp only [i_eq0, if_neg hc]; exact e', ?_⟩
        intro p l e R s m args below meth c base lt Q lsr Hp locs cells slots hex hb ho hts hl hk
        exact lv_if_eq hex hb hd ht (fun h9 => absurd h9 hc) (fun h9 => hk)
    · cases e
theorem s_icmp_eq {off : Int} {tg : Nat} (hd : decode cc pc = .ok (.if_icmp .eq off, 3)) (ht : (pc : Int) + off = (tg : Int)) : SA tb cc nL own ret ini pc (i_eq tg (pc + 3)) :=
  SA_st fun call k ls st h r e => by
    unfold i_eq at e
    split at e
    · next y x st' =>
      by_cases hc : x = y
      · rw [if_pos hc] at e
        refine ⟨tg, _, e, fun k' e' => by simp only [i_eq, if_pos hc]; exact e', ?_⟩
        intro p l e R s m args below meth c base lt Q lsr Hp locs cells slots hex hb ho hts hl hk
        exact lv_icmp_eq hex hb hd ht (fun h9 => hk) (fun h9 => absurd hc h9)
      · rw [if_neg hc] at e
        refine ⟨pc + 3, _, e, fun k' e' => by simp only [i_eq, if_neg hc]; exact e', ?_⟩
        intro p l e R s m args below meth c base lt Q lsr Hp locs cells slots hex hb ho hts hl hk
        exact lv_icmp_eq hex hb hd ht (fun h9 => absurd h9 hc) (fun h9 => hk)
    · cases e
theorem s_if_ne {off : Int} {tg : Nat} (hd : decode cc pc = .ok (.ifCond .ne off, 3)) (ht : (pc : Int) + off = (tg : Int)) : SA tb cc nL own ret ini pc (i_ne0 tg (pc + 3)) :=
  SA_st fun call k ls st h r e => by
    unfold i_ne0 at e
    split at e
    · next x st' =>
      by_cases hc : x = 0
      · rw [if_pos hc] at e
        refine ⟨pc + 3, _, e, fun k' e' => by simp only [i_ne0, if_pos hc]; exact e', ?_⟩
        intro p l e R s m args below meth c base lt Q lsr Hp locs cells slots hex hb ho hts hl hk
        exact lv_if_ne hex hb hd ht (fun h9 => absurd hc h9) (fun h9 => hk)
      · rw [if_neg hc] at e
        refine ⟨tg, _, e, fun k' e' => by simp only [i_ne0, if_neg hc]; exact e', ?_⟩
        intro p l e R s m args below meth c base lt Q lsr Hp locs cells slots hex hb ho hts hl hk
        exact lv_if_ne hex hb hd ht (fun h9 => hk) (fun h9 => absurd h9 hc)
    · cases e
theorem s_icmp_ne {off : Int} {tg : Nat} (hd : decode cc pc = .ok (.if_icmp .ne off, 3)) (ht : (pc : Int) + off = (tg : Int)) : SA tb cc nL own ret ini pc (i_ne tg (pc + 3)) :=
  SA_st fun call k ls st h r e => by
    unfold i_ne at e
    split at e
    · next y x st' =>
      by_cases hc : x = y
      · rw [if_pos hc] at e
        refine ⟨pc + 3, _, e, fun k' e' => by simp only [i_ne, if_pos hc]; exact e', ?_⟩
        intro p l e R s m args below meth c base lt Q lsr Hp locs cells slots hex hb ho hts hl hk
        exact lv_icmp_ne hex hb hd ht (fun h9 => absurd hc h9) (fun h9 => hk)
      · rw [if_neg hc] at e
        refine ⟨tg, _, e, fun k' e' => by simp only [i_ne, if_neg hc]; exact e', ?_⟩
        intro p l e R s m args below meth c base lt Q lsr Hp locs cells slots hex hb ho hts hl hk
        exact lv_icmp_ne hex hb hd ht (fun h9 => hk) (fun h9 => absurd h9 hc)
    · cases e
theorem s_if_lt {off : Int} {tg : Nat} (hd : decode cc pc = .ok (.ifCond .lt off, 3)) (ht : (pc : Int) + off = (tg : Int)) : SA tb cc nL own ret ini pc (i_lt0 tg (pc + 3)) :=
  SA_st fun call k ls st h r e => by
    unfold i_lt0 at e
    split at e
    · next x st' =>
      by_cases hc : x < 0
      · rw [if_pos hc] at e
        refine ⟨tg, _, e, fun k' e' => by simp only [i_lt0, if_pos hc]; exact e', ?_⟩
        intro p l e R s m args below meth c base lt Q lsr Hp locs cells slots hex hb ho hts hl hk
        exact lv_if_lt hex hb hd ht (fun h9 => hk) (fun h9 => absurd hc h9)
      · rw [if_neg hc] at e
        refine ⟨pc + 3, _, e, fun k' e' => by simp only [i_lt0, if_neg hc]; exact e', ?_⟩
        intro p l e R s m args below meth c base lt Q lsr Hp locs cells slots hex hb ho hts hl hk
        exact lv_if_lt hex hb hd ht (fun h9 => absurd h9 hc) (fun h9 => hk)
    · cases e
theorem s_icmp_lt {off : Int} {tg : Nat} (hd : decode cc pc = .ok (.if_icmp .lt off, 3)) (ht : (pc : Int) + off = (tg : Int)) : SA tb cc nL own ret ini pc (i_lt tg (pc + 3)) :=
  SA_st fun call k ls st h r e => by
    unfold i_lt at e
    split at e
    · next y x st' =>
      by_cases hc : x < y
      · rw [if_pos hc] at e
        refine ⟨tg, _, e, fun k' e' => by simp only [i_lt, if_pos hc]; exact e', ?_⟩
        intro p l e R s m args below meth c base lt Q lsr Hp locs cells slots hex hb ho hts hl hk
        exact lv_icmp_lt hex hb hd ht (fun h9 => hk) (fun h9 => absurd hc h9)
      · rw [if_neg hc] at e
        refine ⟨pc + 3, _, e, fun k' e' => by simp only [i_lt, if_neg hc]; exact e', ?_⟩
        intro p l e R s m args below meth c base lt Q lsr Hp locs cells slots hex hb ho hts hl hk
        exact lv_icmp_lt hex hb hd ht (fun h9 => absurd h9 hc) (fun h9 => hk)
    · cases e
theorem s_if_ge {off : Int} {tg : Nat} (hd : decode cc pc = .ok (.ifCond .ge off, 3)) (ht : (pc : Int) + off = (tg : Int)) : SA tb cc nL own ret ini pc (i_ge0 tg (pc + 3)) :=
  SA_st fun call k ls st h r e => by
    unfold i_ge0 at e
    split at e
    · next x st' =>
      by_cases hc : 0 ≤ x
      · rw [if_pos hc] at e
        refine ⟨tg, _, e, fun k' e' => by simp only [i_ge0, if_pos hc]; exact e', ?_⟩
        intro p l e R s m args below meth c base lt Q lsr Hp locs cells slots hex hb ho hts hl hk
        exact lv_if_ge hex hb hd ht (fun h9 => hk) (fun h9 => absurd hc h9)
      · rw [if_neg hc] at e
        refine ⟨pc + 3, _, e, fun k' e' => by simp only [i_ge0, if_neg hc]; exact e', ?_⟩
        intro p l e R s m args below meth c base lt Q lsr Hp locs cells slots hex hb ho hts hl hk
        exact lv_if_ge hex hb hd ht (fun h9 => absurd h9 hc) (fun h9 => hk)
    · cases e
theorem s_icmp_ge {off : Int} {tg : Nat} (hd : decode cc pc = .ok (.if_icmp .ge off, 3)) (ht : (pc : Int) + off = (tg : Int)) : SA tb cc nL own ret ini pc (i_ge tg (pc + 3)) :=
  SA_st fun call k ls st h r e => by
    unfold i_ge at e
    split at e
    · next y x st' =>
      by_cases hc : y ≤ x
      · rw [if_pos hc] at e
        refine ⟨tg, _, e, fun k' e' => by simp only [i_ge, if_pos hc]; exact e', ?_⟩
        intro p l e R s m args below meth c base lt Q lsr Hp locs cells slots hex hb ho hts hl hk
        exact lv_icmp_ge hex hb hd ht (fun h9 => hk) (fun h9 => absurd hc h9)
      · rw [if_neg hc] at e
        refine ⟨pc + 3, _, e, fun k' e' => by simp only [i_ge, if_neg hc]; exact e', ?_⟩
        intro p l e R s m args below meth c base lt Q lsr Hp locs cells slots hex hb ho hts hl hk
        exact lv_icmp_ge hex hb hd ht (fun h9 => absurd h9 hc) (fun h9 => hk)
    · cases e
theorem s_if_gt {off : Int} {tg : Nat} (hd : decode cc pc = .ok (.ifCond .gt off, 3)) (ht : (pc : Int) + off = (tg : Int)) : SA tb cc nL own ret ini pc (i_gt0 tg (pc + 3)) :=
  SA_st fun call k ls st h r e => by
    unfold i_gt0 at e
    split at e
    · next x st' =>
      by_cases hc : 0 < x
      · rw [if_pos hc] at e
        refine ⟨tg, _, e, fun k' e' => by simp only [i_gt0, if_pos hc]; exact e', ?_⟩
        intro p l e R s m args below meth c base lt Q lsr Hp locs cells slots hex hb ho hts hl hk
        exact lv_if_gt hex hb hd ht (fun h9 => hk) (fun h9 => absurd hc h9)
      · rw [if_neg hc] at e
        refine ⟨pc + 3, _, e, fun k' e' => by simp only [i_gt0, if_neg hc]; exact e', ?_⟩
        intro p l e R s m args below meth c base lt Q lsr Hp locs cells slots hex hb ho hts hl hk
        exact lv_if_gt hex hb hd ht (fun h9 => absurd h9 hc) (fun h9 => hk)
    · cases e
theorem s_icmp_gt {off : Int} {tg : Nat} (hd : decode cc pc = .ok (.if_icmp .gt off, 3)) (ht : (pc : Int) + off = (tg : Int)) : SA tb cc nL own ret ini pc (i_gt tg (pc + 3)) :=
  SA_st fun call k ls st h r e => by
    unfold i_gt at e
    split at e
    · next y x st' =>
      by_cases hc : y < x
      · rw [if_pos hc] at e
        refine ⟨tg, _, e, fun k' e' => by simp only [i_gt, if_pos hc]; exact e', ?_⟩
        intro p l e R s m args below meth c base lt Q lsr Hp locs cells slots hex hb ho hts hl hk
        exact lv_icmp_gt hex hb hd ht (fun h9 => hk) (fun h9 => absurd hc h9)
      · rw [if_neg hc] at e
        refine ⟨pc + 3, _, e, fun k' e' => by simp only [i_gt, if_neg hc]; exact e', ?_⟩
        intro p l e R s m args below meth c base lt Q lsr Hp locs cells slots hex hb ho hts hl hk
        exact lv_icmp_gt hex hb hd ht (fun h9 => absurd h9 hc) (fun h9 => hk)
    · cases e
theorem s_if_le {off : Int} {tg : Nat} (hd : decode cc pc = .ok (.ifCond .le off, 3)) (ht : (pc : Int) + off = (tg : Int)) : SA tb cc nL own ret ini pc (i_le0 tg (pc + 3)) :=
  SA_st fun call k ls st h r e => by
    unfold i_le0 at e
    split at e
    · next x st' =>
      by_cases hc : x ≤ 0
      · rw [if_pos hc] at e
        refine ⟨tg, _, e, fun k' e' => by simp only [i_le0, if_pos hc]; exact e', ?_⟩
        intro p l e R s m args below meth c base lt Q lsr Hp locs cells slots hex hb ho hts hl hk
        exact lv_if_le hex hb hd ht (fun h9 => hk) (fun h9 => absurd hc h9)
      · rw [if_neg hc] at e
        refine ⟨pc + 3, _, e, fun k' e' => by simp only [i_le0, if_neg hc]; exact e', ?_⟩
        intro p l e R s m args below meth c base lt Q lsr Hp locs cells slots hex hb ho hts hl hk
        exact lv_if_le hex hb hd ht (fun h9 => absurd h9 hc) (fun h9 => hk)
    · cases e
theorem s_icmp_le {off : Int} {tg : Nat} (hd : decode cc pc = .ok (.if_icmp .le off, 3)) (ht : (pc : Int) + off = (tg : Int)) : SA tb cc nL own ret ini pc (i_le tg (pc + 3)) :=
  SA_st fun call k ls st h r e => by
    unfold i_le at e
    split at e
    · next y x st' =>
      by_cases hc : x ≤ y
      · rw [if_pos hc] at e
        refine ⟨tg, _, e, fun k' e' => by simp only [i_le, if_pos hc]; exact e', ?_⟩
        intro p l e R s m args below meth c base lt Q lsr Hp locs cells slots hex hb ho hts hl hk
        exact lv_icmp_le hex hb hd ht (fun h9 => hk) (fun h9 => absurd hc h9)
      · rw [if_neg hc] at e
        refine ⟨pc + 3, _, e, fun k' e' => by simp only [i_le, if_neg hc]; exact e', ?_⟩
        intro p l e R s m args below meth c base lt Q lsr Hp locs cells slots hex hb ho hts hl hk
        exact lv_icmp_le hex hb hd ht (fun h9 => absurd h9 hc) (fun h9 => hk)
    · cases e
theorem s_goto {off : Int} {tg : Nat} (hd : decode cc pc = .ok (.goto off, 3)) (ht : (pc : Int) + off = (tg : Int)) : SA tb cc nL own ret ini pc (i_go tg) :=
  SA_st fun call k ls st h r e => ⟨tg, _, e, fun k' e' => e', by intro p l e R s m args below meth c base lt Q lsr Hp locs cells slots hx hb ho _ hl hk; exact lv_goto hx hb hd ht hk⟩
theorem s_nn {off : Int} {tg : Nat} (hd : decode cc pc = .ok (.ifnonnull off, 3)) (ht : (pc : Int) + off = (tg : Int)) : SA tb cc nL own ret ini pc (i_nn tg) :=
  SA_st fun call k ls st h r e => by
    unfold i_nn at e
    split at e
    · next x st' =>
      refine ⟨tg, _, e, fun k' e' => e', ?_⟩
      intro p l e R s m args below meth c base lt Q lsr Hp locs cells slots hex hb ho _ hl hk
      exact lv_ifnonnull hex hb hd ht hk
    · cases e
theorem s_nu {off : Int} (hd : decode cc pc = .ok (.ifnull off, 3)) : SA tb cc nL own ret ini pc (i_nu (pc + 3)) :=
  SA_st fun call k ls st h r e => by
    unfold i_nu at e
    split at e
    · next x st' =>
      refine ⟨pc + 3, _, e, fun k' e' => e', ?_⟩
      intro p l e R s m args below meth c base lt Q lsr Hp locs cells slots hex hb ho _ hl hk
      exact lv_ifnull hex hb hd hk
    · cases e
end SAS
