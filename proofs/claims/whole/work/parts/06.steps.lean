/-- a step that leaves heap and locals as they are -/
theorem J.pure {k : Bool} {M : MD} {d pc q : Nat} {ls : List (Nat × Value)} {st : List Value} {h : AH} {st' : List Value} (hok : oks h.2.1 st → oks h.2.1 st')
    (hw : ∀ (p : Program) (l : Launch) (e : Env) (R : Room) (s : State) (m : MethodId) (args : Array Value) (below : List Frame) (meth : Method) (c : Code) (Q : State → Prop) (ad : Nat → Nat) (H : Heap) (locs : List Loc) (cells slots : Nat) (lsA : Array Slot), Cx M p s m args meth c → lv_has lsA M.2.2.1 (ml ad ls) →
      W p l e R s m args below meth c H locs cells slots Q (F0 m q lsA (st'.map (mv ad))) → W p l e R s m args below meth c H locs cells slots Q (F0 m pc lsA (st.map (mv ad)))) : J k M d pc ls st h q ls st' h := by
  refine ⟨⟨Nat.le_refl _, Nat.le_refl _, Nat.le_refl _⟩, fun p l e R s m args below meth c Q D cI cJ A cb sb g r ad H locs lsA P K => ?_⟩
  exact hw p l e R s m args below meth c Q ad H locs _ _ lsA g.1 P.2.1 (K ad H locs lsA (fun _ _ => rfl) ⟨P.1, P.2.1, P.2.2.1, hok P.2.2.2.1, P.2.2.2.2⟩)
/-- a step that changes the locals -/
theorem J.loc {k : Bool} {M : MD} {d pc q : Nat} {ls : List (Nat × Value)} {st : List Value} {h : AH} {ls' : List (Nat × Value)} {st' : List Value} (hok : oks h.2.1 st → oks h.2.1 st') (hokl : okl h.2.1 ls → oks h.2.1 st → okl h.2.1 ls')
    (hw : ∀ (p : Program) (l : Launch) (e : Env) (R : Room) (s : State) (m : MethodId) (args : Array Value) (below : List Frame) (meth : Method) (c : Code) (Q : State → Prop) (ad : Nat → Nat) (H : Heap) (locs : List Loc) (cells slots : Nat) (lsA : Array Slot), Cx M p s m args meth c → lv_has lsA M.2.2.1 (ml ad ls) →
      (∀ lsA' : Array Slot, lv_has lsA' M.2.2.1 (ml ad ls') → W p l e R s m args below meth c H locs cells slots Q (F0 m q lsA' (st'.map (mv ad)))) → W p l e R s m args below meth c H locs cells slots Q (F0 m pc lsA (st.map (mv ad)))) : J k M d pc ls st h q ls' st' h := by
  refine ⟨⟨Nat.le_refl _, Nat.le_refl _, Nat.le_refl _⟩, fun p l e R s m args below meth c Q D cI cJ A cb sb g r ad H locs lsA P K => ?_⟩
  exact hw p l e R s m args below meth c Q ad H locs _ _ lsA g.1 P.2.1 (fun lsA' hl => K ad H locs lsA' (fun _ _ => rfl) ⟨P.1, hl, hokl P.2.2.1 P.2.2.2.1, hok P.2.2.2.1, P.2.2.2.2⟩)
theorem oks_c {n : Nat} {v : Value} {st : List Value} (hv : okv n v) (h : oks n st) : oks n (v :: st) := fun w hw => (List.mem_cons.mp hw).elim (fun e => e ▸ hv) (h w)
theorem oks_t {n : Nat} {v : Value} {st : List Value} (h : oks n (v :: st)) : oks n st := fun w hw => h w (List.mem_cons_of_mem _ hw)
theorem oks_h {n : Nat} {v : Value} {st : List Value} (h : oks n (v :: st)) : okv n v := h v List.mem_cons_self
theorem Cx.x {M : MD} {p : Program} {s : State} {m : MethodId} {args : Array Value} {meth : Method} {c : Code} (h : Cx M p s m args meth c) : p.tables.exec = Jvm.exec := h.1
theorem Cx.b {M : MD} {p : Program} {s : State} {m : MethodId} {args : Array Value} {meth : Method} {c : Code} (h : Cx M p s m args meth c) : c.code = M.2.1 := h.2.1
theorem Cx.o {M : MD} {p : Program} {s : State} {m : MethodId} {args : Array Value} {meth : Method} {c : Code} (h : Cx M p s m args meth c) : s.vm.findClass M.1.cls = some m.cls := h.2.2.2.1
theorem Cx.w {M : MD} {p : Program} {s : State} {m : MethodId} {args : Array Value} {meth : Method} {c : Code} (h : Cx M p s m args meth c) : ∀ w ∈ gw, w.before args s = true := h.2.2.2.2.1
theorem lv_lk {ad : Nat → Nat} {ls : List (Nat × Value)} {i nL : Nat} {v : Value} {lsA : Array Slot} (h : lv_has lsA nL (ml ad ls)) (hl : lk ls i = some v) : lsA[i]? = some (.val (mv ad v)) := h.2.2 (i, mv ad v) (ml_in (lk_in hl))
theorem okl_lk {n : Nat} {ls : List (Nat × Value)} {i : Nat} {v : Value} (h : okl n ls) (hl : lk ls i = some v) : okv n v := h (i, v) (lk_in hl)
def lf1 (i : Nat) (ls : List (Nat × Value)) : List (Nat × Value) := ls.filter (fun q => !(q.1 == i) && !(q.1 + 1 == i && q.2.category == 2))
def lf2 (i : Nat) (ls : List (Nat × Value)) : List (Nat × Value) := ls.filter (fun q => !(q.1 == i) && (!(q.1 == i + 1) && !(q.1 + 1 == i && q.2.category == 2)))
theorem mv_cat {ad : Nat → Nat} {v : Value} : (mv ad v).category = v.category := by cases v <;> rfl
theorem lf1_ml {ad : Nat → Nat} {i : Nat} {ls : List (Nat × Value)} : (ml ad ls).filter (fun q => !(q.1 == i) && !(q.1 + 1 == i && q.2.category == 2)) = ml ad (lf1 i ls) := by
  unfold ml lf1
  rw [List.filter_map]
  congr 1
  apply List.filter_congr
  intro x _
  simp [Function.comp, mv_cat]
theorem lf2_ml {ad : Nat → Nat} {i : Nat} {ls : List (Nat × Value)} : (ml ad ls).filter (fun q => !(q.1 == i) && (!(q.1 == i + 1) && !(q.1 + 1 == i && q.2.category == 2))) = ml ad (lf2 i ls) := by
  unfold ml lf2
  rw [List.filter_map]
  congr 1
  apply List.filter_congr
  intro x _
  simp [Function.comp, mv_cat]
theorem okl_lf1 {n i : Nat} {ls : List (Nat × Value)} (h : okl n ls) : okl n (lf1 i ls) := fun q hq => h q (List.mem_filter.mp hq).1
theorem okl_lf2 {n i : Nat} {ls : List (Nat × Value)} (h : okl n ls) : okl n (lf2 i ls) := fun q hq => h q (List.mem_filter.mp hq).1
theorem okl_c {n i : Nat} {v : Value} {ls : List (Nat × Value)} (hv : okv n v) (h : okl n ls) : okl n ((i, v) :: ls) := fun w hw => (List.mem_cons.mp hw).elim (fun e => e ▸ hv) (h w)

theorem s_iconst {k : Bool} {M : MD} {d pc q : Nat} {ls : List (Nat × Value)} {st : List Value} {h : AH} {n : Int} {v : Int32} (hd : decode M.2.1 pc = .ok (.iconst n, 1)) (hq : pc + 1 = q) (hv : Int32.ofInt n = v) : J k M d pc ls (st) h q ls (.int v :: st) h := by
  subst hq
  exact J.pure (fun o => oks_c trivial o) (fun p l e R s m args below meth c Q ad H locs cells slots lsA C hl K => lv_iconst C.x C.b hd hv K)
theorem s_bipush {k : Bool} {M : MD} {d pc q : Nat} {ls : List (Nat × Value)} {st : List Value} {h : AH} {n : Int} {v : Int32} (hd : decode M.2.1 pc = .ok (.bipush n, 2)) (hq : pc + 2 = q) (hv : (Int8.ofInt n).toInt32 = v) : J k M d pc ls (st) h q ls (.int v :: st) h := by
  subst hq
  exact J.pure (fun o => oks_c trivial o) (fun p l e R s m args below meth c Q ad H locs cells slots lsA C hl K => lv_bipush C.x C.b hd hv K)
theorem s_sipush {k : Bool} {M : MD} {d pc q : Nat} {ls : List (Nat × Value)} {st : List Value} {h : AH} {n : Int} {v : Int32} (hd : decode M.2.1 pc = .ok (.sipush n, 3)) (hq : pc + 3 = q) (hv : (Int16.ofInt n).toInt32 = v) : J k M d pc ls (st) h q ls (.int v :: st) h := by
  subst hq
  exact J.pure (fun o => oks_c trivial o) (fun p l e R s m args below meth c Q ad H locs cells slots lsA C hl K => lv_sipush C.x C.b hd hv K)
theorem s_lconst {k : Bool} {M : MD} {d pc q : Nat} {ls : List (Nat × Value)} {st : List Value} {h : AH} {n : Fin 2} {v : Int64} (hd : decode M.2.1 pc = .ok (.lconst n, 1)) (hq : pc + 1 = q) (hv : Int64.ofNat (n : Nat) = v) : J k M d pc ls (st) h q ls (.long v :: st) h := by
  subst hq
  exact J.pure (fun o => oks_c trivial o) (fun p l e R s m args below meth c Q ad H locs cells slots lsA C hl K => lv_lconst C.x C.b hd hv K)
theorem s_null {k : Bool} {M : MD} {d pc q : Nat} {ls : List (Nat × Value)} {st : List Value} {h : AH}  (hd : decode M.2.1 pc = .ok (.aconst_null, 1)) (hq : pc + 1 = q) : J k M d pc ls (st) h q ls (.null :: st) h := by
  subst hq
  exact J.pure (fun o => oks_c trivial o) (fun p l e R s m args below meth c Q ad H locs cells slots lsA C hl K => lv_null C.x C.b hd K)
theorem s_ldc {k : Bool} {M : MD} {d pc q : Nat} {ls : List (Nat × Value)} {st : List Value} {h : AH} {ix : Nat} {v : Int32} (hd : decode M.2.1 pc = .ok (.ldc ix, 2)) (hq : pc + 2 = q) (hc : Cond.constant M.1.cls ix v ∈ gw) : J k M d pc ls (st) h q ls (.int v :: st) h := by
  subst hq
  exact J.pure (fun o => oks_c trivial o) (fun p l e R s m args below meth c Q ad H locs cells slots lsA C hl K => lv_ldc C.x C.b C.o (C.w _ hc) hd K)
theorem s_ldc2 {k : Bool} {M : MD} {d pc q : Nat} {ls : List (Nat × Value)} {st : List Value} {h : AH} {ix : Nat} {v : Int64} (hd : decode M.2.1 pc = .ok (.ldc2_w ix, 3)) (hq : pc + 3 = q) (hc : Cond.constantLong M.1.cls ix v ∈ gw) : J k M d pc ls (st) h q ls (.long v :: st) h := by
  subst hq
  exact J.pure (fun o => oks_c trivial o) (fun p l e R s m args below meth c Q ad H locs cells slots lsA C hl K => lv_ldc2 C.x C.b C.o (C.w _ hc) hd K)
theorem s_iload_n {k : Bool} {M : MD} {d pc q : Nat} {ls : List (Nat × Value)} {st : List Value} {h : AH} {i : Fin 4} {x : Int32} (hd : decode M.2.1 pc = .ok (.iload_n i, 1)) (hq : pc + 1 = q) (hk : lk ls i = some (.int x)) : J k M d pc ls (st) h q ls (.int x :: st) h := by
  subst hq
  exact J.pure (fun o => oks_c trivial o) (fun p l e R s m args below meth c Q ad H locs cells slots lsA C hl K => lv_iload_n C.x C.b hd rfl (lv_lk hl hk) K)
theorem s_iload {k : Bool} {M : MD} {d pc q : Nat} {ls : List (Nat × Value)} {st : List Value} {h : AH} {i : Nat} {x : Int32} (hd : decode M.2.1 pc = .ok (.iload i, 2)) (hq : pc + 2 = q) (hk : lk ls i = some (.int x)) : J k M d pc ls (st) h q ls (.int x :: st) h := by
  subst hq
  exact J.pure (fun o => oks_c trivial o) (fun p l e R s m args below meth c Q ad H locs cells slots lsA C hl K => lv_iload C.x C.b hd (lv_lk hl hk) K)
theorem s_lload_n {k : Bool} {M : MD} {d pc q : Nat} {ls : List (Nat × Value)} {st : List Value} {h : AH} {i : Fin 4} {x : Int64} (hd : decode M.2.1 pc = .ok (.lload_n i, 1)) (hq : pc + 1 = q) (hk : lk ls i = some (.long x)) : J k M d pc ls (st) h q ls (.long x :: st) h := by
  subst hq
  exact J.pure (fun o => oks_c trivial o) (fun p l e R s m args below meth c Q ad H locs cells slots lsA C hl K => lv_lload_n C.x C.b hd rfl (lv_lk hl hk) K)
theorem s_lload {k : Bool} {M : MD} {d pc q : Nat} {ls : List (Nat × Value)} {st : List Value} {h : AH} {i : Nat} {x : Int64} (hd : decode M.2.1 pc = .ok (.lload i, 2)) (hq : pc + 2 = q) (hk : lk ls i = some (.long x)) : J k M d pc ls (st) h q ls (.long x :: st) h := by
  subst hq
  exact J.pure (fun o => oks_c trivial o) (fun p l e R s m args below meth c Q ad H locs cells slots lsA C hl K => lv_lload C.x C.b hd (lv_lk hl hk) K)
theorem s_aload_n {k : Bool} {M : MD} {d pc q : Nat} {ls : List (Nat × Value)} {st : List Value} {h : AH} {i : Fin 4} {o : Nat} (hd : decode M.2.1 pc = .ok (.aload_n i, 1)) (hq : pc + 1 = q) (hk : lk ls i = some (.ref o)) : J k M d pc ls st h q ls (.ref o :: st) h := by
  subst hq
  refine ⟨⟨Nat.le_refl _, Nat.le_refl _, Nat.le_refl _⟩, fun p l e R s m args below meth c Q D cI cJ A cb sb g r ad H locs lsA P K => ?_⟩
  have C := g.1
  exact lv_aload_n C.x C.b hd rfl (lv_lk P.2.1 hk) (K ad H locs lsA (fun _ _ => rfl) ⟨P.1, P.2.1, P.2.2.1, oks_c (okl_lk P.2.2.1 hk) P.2.2.2.1, P.2.2.2.2⟩)
theorem s_aload {k : Bool} {M : MD} {d pc q : Nat} {ls : List (Nat × Value)} {st : List Value} {h : AH} {i : Nat} {o : Nat} (hd : decode M.2.1 pc = .ok (.aload i, 2)) (hq : pc + 2 = q) (hk : lk ls i = some (.ref o)) : J k M d pc ls st h q ls (.ref o :: st) h := by
  subst hq
  refine ⟨⟨Nat.le_refl _, Nat.le_refl _, Nat.le_refl _⟩, fun p l e R s m args below meth c Q D cI cJ A cb sb g r ad H locs lsA P K => ?_⟩
  have C := g.1
  exact lv_aload C.x C.b hd (lv_lk P.2.1 hk) (K ad H locs lsA (fun _ _ => rfl) ⟨P.1, P.2.1, P.2.2.1, oks_c (okl_lk P.2.2.1 hk) P.2.2.2.1, P.2.2.2.2⟩)
theorem s_iadd {k : Bool} {M : MD} {d pc q : Nat} {ls : List (Nat × Value)} {st : List Value} {h : AH} {x y : Int32} (hd : decode M.2.1 pc = .ok (.iadd, 1)) (hq : pc + 1 = q) : J k M d pc ls (.int y :: .int x :: st) h q ls (.int (x + y) :: st) h := by
  subst hq
  exact J.pure (fun o => oks_c trivial (oks_t (oks_t o))) (fun p l e R s m args below meth c Q ad H locs cells slots lsA C hl K => lv_iadd C.x C.b hd K)
theorem s_isub {k : Bool} {M : MD} {d pc q : Nat} {ls : List (Nat × Value)} {st : List Value} {h : AH} {x y : Int32} (hd : decode M.2.1 pc = .ok (.isub, 1)) (hq : pc + 1 = q) : J k M d pc ls (.int y :: .int x :: st) h q ls (.int (x - y) :: st) h := by
  subst hq
  exact J.pure (fun o => oks_c trivial (oks_t (oks_t o))) (fun p l e R s m args below meth c Q ad H locs cells slots lsA C hl K => lv_isub C.x C.b hd K)
theorem s_imul {k : Bool} {M : MD} {d pc q : Nat} {ls : List (Nat × Value)} {st : List Value} {h : AH} {x y : Int32} (hd : decode M.2.1 pc = .ok (.imul, 1)) (hq : pc + 1 = q) : J k M d pc ls (.int y :: .int x :: st) h q ls (.int (x * y) :: st) h := by
  subst hq
  exact J.pure (fun o => oks_c trivial (oks_t (oks_t o))) (fun p l e R s m args below meth c Q ad H locs cells slots lsA C hl K => lv_imul C.x C.b hd K)
theorem s_iand {k : Bool} {M : MD} {d pc q : Nat} {ls : List (Nat × Value)} {st : List Value} {h : AH} {x y : Int32} (hd : decode M.2.1 pc = .ok (.iand, 1)) (hq : pc + 1 = q) : J k M d pc ls (.int y :: .int x :: st) h q ls (.int (x &&& y) :: st) h := by
  subst hq
  exact J.pure (fun o => oks_c trivial (oks_t (oks_t o))) (fun p l e R s m args below meth c Q ad H locs cells slots lsA C hl K => lv_iand C.x C.b hd K)
theorem s_ladd {k : Bool} {M : MD} {d pc q : Nat} {ls : List (Nat × Value)} {st : List Value} {h : AH} {x y : Int64} (hd : decode M.2.1 pc = .ok (.ladd, 1)) (hq : pc + 1 = q) : J k M d pc ls (.long y :: .long x :: st) h q ls (.long (x + y) :: st) h := by
  subst hq
  exact J.pure (fun o => oks_c trivial (oks_t (oks_t o))) (fun p l e R s m args below meth c Q ad H locs cells slots lsA C hl K => lv_ladd C.x C.b hd K)
theorem s_lsub {k : Bool} {M : MD} {d pc q : Nat} {ls : List (Nat × Value)} {st : List Value} {h : AH} {x y : Int64} (hd : decode M.2.1 pc = .ok (.lsub, 1)) (hq : pc + 1 = q) : J k M d pc ls (.long y :: .long x :: st) h q ls (.long (x - y) :: st) h := by
  subst hq
  exact J.pure (fun o => oks_c trivial (oks_t (oks_t o))) (fun p l e R s m args below meth c Q ad H locs cells slots lsA C hl K => lv_lsub C.x C.b hd K)
theorem s_lmul {k : Bool} {M : MD} {d pc q : Nat} {ls : List (Nat × Value)} {st : List Value} {h : AH} {x y : Int64} (hd : decode M.2.1 pc = .ok (.lmul, 1)) (hq : pc + 1 = q) : J k M d pc ls (.long y :: .long x :: st) h q ls (.long (x * y) :: st) h := by
  subst hq
  exact J.pure (fun o => oks_c trivial (oks_t (oks_t o))) (fun p l e R s m args below meth c Q ad H locs cells slots lsA C hl K => lv_lmul C.x C.b hd K)
theorem s_land {k : Bool} {M : MD} {d pc q : Nat} {ls : List (Nat × Value)} {st : List Value} {h : AH} {x y : Int64} (hd : decode M.2.1 pc = .ok (.land, 1)) (hq : pc + 1 = q) : J k M d pc ls (.long y :: .long x :: st) h q ls (.long (x &&& y) :: st) h := by
  subst hq
  exact J.pure (fun o => oks_c trivial (oks_t (oks_t o))) (fun p l e R s m args below meth c Q ad H locs cells slots lsA C hl K => lv_land C.x C.b hd K)
theorem s_lor {k : Bool} {M : MD} {d pc q : Nat} {ls : List (Nat × Value)} {st : List Value} {h : AH} {x y : Int64} (hd : decode M.2.1 pc = .ok (.lor, 1)) (hq : pc + 1 = q) : J k M d pc ls (.long y :: .long x :: st) h q ls (.long (x ||| y) :: st) h := by
  subst hq
  exact J.pure (fun o => oks_c trivial (oks_t (oks_t o))) (fun p l e R s m args below meth c Q ad H locs cells slots lsA C hl K => lv_lor C.x C.b hd K)
theorem s_idiv {k : Bool} {M : MD} {d pc q : Nat} {ls : List (Nat × Value)} {st : List Value} {h : AH} {x y : Int32} (hd : decode M.2.1 pc = .ok (.idiv, 1)) (hq : pc + 1 = q) (hne : ¬ y = 0) : J k M d pc ls (.int y :: .int x :: st) h q ls (.int (x / y) :: st) h := by
  subst hq
  exact J.pure (fun o => oks_c trivial (oks_t (oks_t o))) (fun p l e R s m args below meth c Q ad H locs cells slots lsA C hl K => lv_idiv C.x C.b hd hne K)
theorem s_irem {k : Bool} {M : MD} {d pc q : Nat} {ls : List (Nat × Value)} {st : List Value} {h : AH} {x y : Int32} (hd : decode M.2.1 pc = .ok (.irem, 1)) (hq : pc + 1 = q) (hne : ¬ y = 0) : J k M d pc ls (.int y :: .int x :: st) h q ls (.int (x - x / y * y) :: st) h := by
  subst hq
  exact J.pure (fun o => oks_c trivial (oks_t (oks_t o))) (fun p l e R s m args below meth c Q ad H locs cells slots lsA C hl K => lv_irem C.x C.b hd hne K)
theorem s_ldiv {k : Bool} {M : MD} {d pc q : Nat} {ls : List (Nat × Value)} {st : List Value} {h : AH} {x y : Int64} (hd : decode M.2.1 pc = .ok (.ldiv, 1)) (hq : pc + 1 = q) (hne : ¬ y = 0) : J k M d pc ls (.long y :: .long x :: st) h q ls (.long (x / y) :: st) h := by
  subst hq
  exact J.pure (fun o => oks_c trivial (oks_t (oks_t o))) (fun p l e R s m args below meth c Q ad H locs cells slots lsA C hl K => lv_ldiv C.x C.b hd hne K)
theorem s_i2l {k : Bool} {M : MD} {d pc q : Nat} {ls : List (Nat × Value)} {st : List Value} {h : AH} {x : Int32} (hd : decode M.2.1 pc = .ok (.i2l, 1)) (hq : pc + 1 = q) : J k M d pc ls (.int x :: st) h q ls (.long x.toInt64 :: st) h := by
  subst hq
  exact J.pure (fun o => oks_c trivial (oks_t o)) (fun p l e R s m args below meth c Q ad H locs cells slots lsA C hl K => lv_i2l C.x C.b hd rfl K)
theorem s_l2i {k : Bool} {M : MD} {d pc q : Nat} {ls : List (Nat × Value)} {st : List Value} {h : AH} {x : Int64} (hd : decode M.2.1 pc = .ok (.l2i, 1)) (hq : pc + 1 = q) : J k M d pc ls (.long x :: st) h q ls (.int x.toInt32 :: st) h := by
  subst hq
  exact J.pure (fun o => oks_c trivial (oks_t o)) (fun p l e R s m args below meth c Q ad H locs cells slots lsA C hl K => lv_l2i C.x C.b hd rfl K)
theorem s_lushr {k : Bool} {M : MD} {d pc q : Nat} {ls : List (Nat × Value)} {st : List Value} {h : AH} {x : Int64} {y : Int32} (hd : decode M.2.1 pc = .ok (.lushr, 1)) (hq : pc + 1 = q) : J k M d pc ls (.int y :: .long x :: st) h q ls (.long ((x.toUInt64 >>> (y.toInt64.toUInt64 &&& Int64.toUInt64 63)).toInt64) :: st) h := by
  subst hq
  exact J.pure (fun o => oks_c trivial (oks_t (oks_t o))) (fun p l e R s m args below meth c Q ad H locs cells slots lsA C hl K => lv_lushr C.x C.b hd rfl K)
theorem s_lshl {k : Bool} {M : MD} {d pc q : Nat} {ls : List (Nat × Value)} {st : List Value} {h : AH} {x : Int64} {y : Int32} (hd : decode M.2.1 pc = .ok (.lshl, 1)) (hq : pc + 1 = q) : J k M d pc ls (.int y :: .long x :: st) h q ls (.long (x <<< (y.toInt64 &&& 63)) :: st) h := by
  subst hq
  exact J.pure (fun o => oks_c trivial (oks_t (oks_t o))) (fun p l e R s m args below meth c Q ad H locs cells slots lsA C hl K => lv_lshl C.x C.b hd rfl K)
theorem s_dup {k : Bool} {M : MD} {d pc q : Nat} {ls : List (Nat × Value)} {st : List Value} {h : AH} {v : Value} (hd : decode M.2.1 pc = .ok (.dup, 1)) (hq : pc + 1 = q) (hc : v.category = 1) : J k M d pc ls (v :: st) h q ls (v :: v :: st) h := by
  subst hq
  exact J.pure (fun o => oks_c (oks_h o) o) (fun p l e R s m args below meth c Q ad H locs cells slots lsA C hl K => lv_dup C.x C.b hd (mv_cat.trans hc) K)
theorem s_pop {k : Bool} {M : MD} {d pc q : Nat} {ls : List (Nat × Value)} {st : List Value} {h : AH} {v : Value} (hd : decode M.2.1 pc = .ok (.pop, 1)) (hq : pc + 1 = q) (hc : v.category = 1) : J k M d pc ls (v :: st) h q ls (st) h := by
  subst hq
  exact J.pure (fun o => oks_t o) (fun p l e R s m args below meth c Q ad H locs cells slots lsA C hl K => lv_pop C.x C.b hd (mv_cat.trans hc) K)
theorem s_dup2 {k : Bool} {M : MD} {d pc q : Nat} {ls : List (Nat × Value)} {st : List Value} {h : AH} {v w : Value} (hd : decode M.2.1 pc = .ok (.dup2, 1)) (hq : pc + 1 = q) (hc : v.category = 1) (hc2 : w.category = 1) : J k M d pc ls (v :: w :: st) h q ls (v :: w :: v :: w :: st) h := by
  subst hq
  exact J.pure (fun o => oks_c (oks_h o) (oks_c (oks_h (oks_t o)) o)) (fun p l e R s m args below meth c Q ad H locs cells slots lsA C hl K => lv_dup2_11 C.x C.b hd (mv_cat.trans hc) (mv_cat.trans hc2) K)
theorem s_goto {k : Bool} {M : MD} {d pc q : Nat} {ls : List (Nat × Value)} {st : List Value} {h : AH} {off : Int} (hd : decode M.2.1 pc = .ok (.goto off, 3)) (hq : (pc : Int) + off = (q : Int)) : J k M d pc ls (st) h q ls (st) h := by
  exact J.pure (fun o => o) (fun p l e R s m args below meth c Q ad H locs cells slots lsA C hl K => lv_goto C.x C.b hd hq K)

theorem s_istore_n {k : Bool} {M : MD} {d pc q : Nat} {ls : List (Nat × Value)} {st : List Value} {h : AH} {i : Fin 4} {x : Int32} {ls' : List (Nat × Value)} (hd : decode M.2.1 pc = .ok (.istore_n i, 1)) (hq : pc + 1 = q) (hn : (i : Nat) < M.2.2.1) (hk : ((i : Nat), Value.int x) :: lf1 (i : Nat) ls = ls') : J k M d pc ls (.int x :: st) h q ls' st h := by
  subst hq
  subst hk
  exact J.loc (fun o => oks_t o) (fun o o2 => okl_c (oks_h o2) (okl_lf1 o)) (fun p l e R s m args below meth c Q ad H locs cells slots lsA C hl K => lv_istore_n C.x C.b hd rfl hl hn (by rw [lf1_ml]; rfl) K)
theorem s_istore {k : Bool} {M : MD} {d pc q : Nat} {ls : List (Nat × Value)} {st : List Value} {h : AH} {i : Nat} {x : Int32} {ls' : List (Nat × Value)} (hd : decode M.2.1 pc = .ok (.istore i, 2)) (hq : pc + 2 = q) (hn : i < M.2.2.1) (hk : (i, Value.int x) :: lf1 i ls = ls') : J k M d pc ls (.int x :: st) h q ls' st h := by
  subst hq
  subst hk
  exact J.loc (fun o => oks_t o) (fun o o2 => okl_c (oks_h o2) (okl_lf1 o)) (fun p l e R s m args below meth c Q ad H locs cells slots lsA C hl K => lv_istore C.x C.b hd hl hn (by rw [lf1_ml]; rfl) K)
theorem s_lstore_n {k : Bool} {M : MD} {d pc q : Nat} {ls : List (Nat × Value)} {st : List Value} {h : AH} {i : Fin 4} {x : Int64} {ls' : List (Nat × Value)} (hd : decode M.2.1 pc = .ok (.lstore_n i, 1)) (hq : pc + 1 = q) (hn : (i : Nat) + 1 < M.2.2.1) (hk : ((i : Nat), Value.long x) :: lf2 (i : Nat) ls = ls') : J k M d pc ls (.long x :: st) h q ls' st h := by
  subst hq
  subst hk
  exact J.loc (fun o => oks_t o) (fun o o2 => okl_c (oks_h o2) (okl_lf2 o)) (fun p l e R s m args below meth c Q ad H locs cells slots lsA C hl K => lv_lstore_n C.x C.b hd rfl hl hn (by rw [lf2_ml]; rfl) K)
theorem s_lstore {k : Bool} {M : MD} {d pc q : Nat} {ls : List (Nat × Value)} {st : List Value} {h : AH} {i : Nat} {x : Int64} {ls' : List (Nat × Value)} (hd : decode M.2.1 pc = .ok (.lstore i, 2)) (hq : pc + 2 = q) (hn : i + 1 < M.2.2.1) (hk : (i, Value.long x) :: lf2 i ls = ls') : J k M d pc ls (.long x :: st) h q ls' st h := by
  subst hq
  subst hk
  exact J.loc (fun o => oks_t o) (fun o o2 => okl_c (oks_h o2) (okl_lf2 o)) (fun p l e R s m args below meth c Q ad H locs cells slots lsA C hl K => lv_lstore C.x C.b hd hl hn (by rw [lf2_ml]; rfl) K)
theorem s_astore_n {k : Bool} {M : MD} {d pc q : Nat} {ls : List (Nat × Value)} {st : List Value} {h : AH} {i : Fin 4} {x : Nat} {ls' : List (Nat × Value)} (hd : decode M.2.1 pc = .ok (.astore_n i, 1)) (hq : pc + 1 = q) (hn : (i : Nat) < M.2.2.1) (hk : ((i : Nat), Value.ref x) :: lf1 (i : Nat) ls = ls') : J k M d pc ls (.ref x :: st) h q ls' st h := by
  subst hq
  subst hk
  exact J.loc (fun o => oks_t o) (fun o o2 => okl_c (oks_h o2) (okl_lf1 o)) (fun p l e R s m args below meth c Q ad H locs cells slots lsA C hl K => lv_astore_n C.x C.b hd rfl hl hn (by rw [lf1_ml]; rfl) K)
theorem s_astore {k : Bool} {M : MD} {d pc q : Nat} {ls : List (Nat × Value)} {st : List Value} {h : AH} {i : Nat} {x : Nat} {ls' : List (Nat × Value)} (hd : decode M.2.1 pc = .ok (.astore i, 2)) (hq : pc + 2 = q) (hn : i < M.2.2.1) (hk : (i, Value.ref x) :: lf1 i ls = ls') : J k M d pc ls (.ref x :: st) h q ls' st h := by
  subst hq
  subst hk
  exact J.loc (fun o => oks_t o) (fun o o2 => okl_c (oks_h o2) (okl_lf1 o)) (fun p l e R s m args below meth c Q ad H locs cells slots lsA C hl K => lv_astore C.x C.b hd hl hn (by rw [lf1_ml]; rfl) K)
theorem s_iinc {k : Bool} {M : MD} {d pc q : Nat} {ls : List (Nat × Value)} {st : List Value} {h : AH} {i : Nat} {n : Int} {x v : Int32} {ls' : List (Nat × Value)} (hd : decode M.2.1 pc = .ok (.iinc i n, 3)) (hq : pc + 3 = q) (hn : i < M.2.2.1) (hx : lk ls i = some (.int x)) (hv : x + Int32.ofInt n = v) (hk : (i, Value.int v) :: lf1 i ls = ls') : J k M d pc ls st h q ls' st h := by
  subst hq
  subst hk
  refine J.loc (fun o => o) (fun o _ => okl_c trivial (okl_lf1 o)) (fun p l e R s m args below meth c Q ad H locs cells slots lsA C hl K => ?_)
  obtain ⟨j, hj⟩ := List.getElem?_of_mem (ml_in (ad := ad) (lk_in hx))
  exact lv_iinc C.x C.b hd hl hj hv hn (by rw [lf1_ml]; rfl) K
theorem s_if_eq_t {k : Bool} {M : MD} {d pc q : Nat} {ls : List (Nat × Value)} {st : List Value} {h : AH} {x : Int32} {off : Int} (hd : decode M.2.1 pc = .ok (.ifCond .eq off, 3)) (hq : (pc : Int) + off = (q : Int)) (hc : x = 0) : J k M d pc ls (.int x :: st) h q ls st h :=
  J.pure (fun o => (oks_t o)) (fun p l e R s m args below meth c Q ad H locs cells slots lsA C hl K => lv_if_eq C.x C.b hd hq (fun _ => K) (fun n => absurd hc n))
theorem s_if_eq_f {k : Bool} {M : MD} {d pc q : Nat} {ls : List (Nat × Value)} {st : List Value} {h : AH} {x : Int32} {off : Int} {tg : Nat} (hd : decode M.2.1 pc = .ok (.ifCond .eq off, 3)) (ht : (pc : Int) + off = (tg : Int)) (hq : pc + 3 = q) (hc : ¬ (x = 0)) : J k M d pc ls (.int x :: st) h q ls st h := by
  subst hq
  exact J.pure (fun o => (oks_t o)) (fun p l e R s m args below meth c Q ad H locs cells slots lsA C hl K => lv_if_eq C.x C.b hd ht (fun n => absurd n hc) (fun _ => K))
theorem s_icmp_eq_t {k : Bool} {M : MD} {d pc q : Nat} {ls : List (Nat × Value)} {st : List Value} {h : AH} {x y : Int32} {off : Int} (hd : decode M.2.1 pc = .ok (.if_icmp .eq off, 3)) (hq : (pc : Int) + off = (q : Int)) (hc : x = y) : J k M d pc ls (.int y :: .int x :: st) h q ls st h :=
  J.pure (fun o => (oks_t (oks_t o))) (fun p l e R s m args below meth c Q ad H locs cells slots lsA C hl K => lv_icmp_eq C.x C.b hd hq (fun _ => K) (fun n => absurd hc n))
theorem s_icmp_eq_f {k : Bool} {M : MD} {d pc q : Nat} {ls : List (Nat × Value)} {st : List Value} {h : AH} {x y : Int32} {off : Int} {tg : Nat} (hd : decode M.2.1 pc = .ok (.if_icmp .eq off, 3)) (ht : (pc : Int) + off = (tg : Int)) (hq : pc + 3 = q) (hc : ¬ (x = y)) : J k M d pc ls (.int y :: .int x :: st) h q ls st h := by
  subst hq
  exact J.pure (fun o => (oks_t (oks_t o))) (fun p l e R s m args below meth c Q ad H locs cells slots lsA C hl K => lv_icmp_eq C.x C.b hd ht (fun n => absurd n hc) (fun _ => K))
theorem s_if_ne_t {k : Bool} {M : MD} {d pc q : Nat} {ls : List (Nat × Value)} {st : List Value} {h : AH} {x : Int32} {off : Int} (hd : decode M.2.1 pc = .ok (.ifCond .ne off, 3)) (hq : (pc : Int) + off = (q : Int)) (hc : ¬ x = 0) : J k M d pc ls (.int x :: st) h q ls st h :=
  J.pure (fun o => (oks_t o)) (fun p l e R s m args below meth c Q ad H locs cells slots lsA C hl K => lv_if_ne C.x C.b hd hq (fun _ => K) (fun n => absurd n hc))
theorem s_if_ne_f {k : Bool} {M : MD} {d pc q : Nat} {ls : List (Nat × Value)} {st : List Value} {h : AH} {x : Int32} {off : Int} {tg : Nat} (hd : decode M.2.1 pc = .ok (.ifCond .ne off, 3)) (ht : (pc : Int) + off = (tg : Int)) (hq : pc + 3 = q) (hc : x = 0) : J k M d pc ls (.int x :: st) h q ls st h := by
  subst hq
  exact J.pure (fun o => (oks_t o)) (fun p l e R s m args below meth c Q ad H locs cells slots lsA C hl K => lv_if_ne C.x C.b hd ht (fun n => absurd hc n) (fun _ => K))
theorem s_icmp_ne_t {k : Bool} {M : MD} {d pc q : Nat} {ls : List (Nat × Value)} {st : List Value} {h : AH} {x y : Int32} {off : Int} (hd : decode M.2.1 pc = .ok (.if_icmp .ne off, 3)) (hq : (pc : Int) + off = (q : Int)) (hc : ¬ x = y) : J k M d pc ls (.int y :: .int x :: st) h q ls st h :=
  J.pure (fun o => (oks_t (oks_t o))) (fun p l e R s m args below meth c Q ad H locs cells slots lsA C hl K => lv_icmp_ne C.x C.b hd hq (fun _ => K) (fun n => absurd n hc))
theorem s_icmp_ne_f {k : Bool} {M : MD} {d pc q : Nat} {ls : List (Nat × Value)} {st : List Value} {h : AH} {x y : Int32} {off : Int} {tg : Nat} (hd : decode M.2.1 pc = .ok (.if_icmp .ne off, 3)) (ht : (pc : Int) + off = (tg : Int)) (hq : pc + 3 = q) (hc : x = y) : J k M d pc ls (.int y :: .int x :: st) h q ls st h := by
  subst hq
  exact J.pure (fun o => (oks_t (oks_t o))) (fun p l e R s m args below meth c Q ad H locs cells slots lsA C hl K => lv_icmp_ne C.x C.b hd ht (fun n => absurd hc n) (fun _ => K))
theorem s_if_lt_t {k : Bool} {M : MD} {d pc q : Nat} {ls : List (Nat × Value)} {st : List Value} {h : AH} {x : Int32} {off : Int} (hd : decode M.2.1 pc = .ok (.ifCond .lt off, 3)) (hq : (pc : Int) + off = (q : Int)) (hc : x < 0) : J k M d pc ls (.int x :: st) h q ls st h :=
  J.pure (fun o => (oks_t o)) (fun p l e R s m args below meth c Q ad H locs cells slots lsA C hl K => lv_if_lt C.x C.b hd hq (fun _ => K) (fun n => absurd hc n))
theorem s_if_lt_f {k : Bool} {M : MD} {d pc q : Nat} {ls : List (Nat × Value)} {st : List Value} {h : AH} {x : Int32} {off : Int} {tg : Nat} (hd : decode M.2.1 pc = .ok (.ifCond .lt off, 3)) (ht : (pc : Int) + off = (tg : Int)) (hq : pc + 3 = q) (hc : ¬ (x < 0)) : J k M d pc ls (.int x :: st) h q ls st h := by
  subst hq
  exact J.pure (fun o => (oks_t o)) (fun p l e R s m args below meth c Q ad H locs cells slots lsA C hl K => lv_if_lt C.x C.b hd ht (fun n => absurd n hc) (fun _ => K))
theorem s_icmp_lt_t {k : Bool} {M : MD} {d pc q : Nat} {ls : List (Nat × Value)} {st : List Value} {h : AH} {x y : Int32} {off : Int} (hd : decode M.2.1 pc = .ok (.if_icmp .lt off, 3)) (hq : (pc : Int) + off = (q : Int)) (hc : x < y) : J k M d pc ls (.int y :: .int x :: st) h q ls st h :=
  J.pure (fun o => (oks_t (oks_t o))) (fun p l e R s m args below meth c Q ad H locs cells slots lsA C hl K => lv_icmp_lt C.x C.b hd hq (fun _ => K) (fun n => absurd hc n))
theorem s_icmp_lt_f {k : Bool} {M : MD} {d pc q : Nat} {ls : List (Nat × Value)} {st : List Value} {h : AH} {x y : Int32} {off : Int} {tg : Nat} (hd : decode M.2.1 pc = .ok (.if_icmp .lt off, 3)) (ht : (pc : Int) + off = (tg : Int)) (hq : pc + 3 = q) (hc : ¬ (x < y)) : J k M d pc ls (.int y :: .int x :: st) h q ls st h := by
  subst hq
  exact J.pure (fun o => (oks_t (oks_t o))) (fun p l e R s m args below meth c Q ad H locs cells slots lsA C hl K => lv_icmp_lt C.x C.b hd ht (fun n => absurd n hc) (fun _ => K))
theorem s_if_ge_t {k : Bool} {M : MD} {d pc q : Nat} {ls : List (Nat × Value)} {st : List Value} {h : AH} {x : Int32} {off : Int} (hd : decode M.2.1 pc = .ok (.ifCond .ge off, 3)) (hq : (pc : Int) + off = (q : Int)) (hc : 0 ≤ x) : J k M d pc ls (.int x :: st) h q ls st h :=
  J.pure (fun o => (oks_t o)) (fun p l e R s m args below meth c Q ad H locs cells slots lsA C hl K => lv_if_ge C.x C.b hd hq (fun _ => K) (fun n => absurd hc n))
theorem s_if_ge_f {k : Bool} {M : MD} {d pc q : Nat} {ls : List (Nat × Value)} {st : List Value} {h : AH} {x : Int32} {off : Int} {tg : Nat} (hd : decode M.2.1 pc = .ok (.ifCond .ge off, 3)) (ht : (pc : Int) + off = (tg : Int)) (hq : pc + 3 = q) (hc : ¬ (0 ≤ x)) : J k M d pc ls (.int x :: st) h q ls st h := by
  subst hq
  exact J.pure (fun o => (oks_t o)) (fun p l e R s m args below meth c Q ad H locs cells slots lsA C hl K => lv_if_ge C.x C.b hd ht (fun n => absurd n hc) (fun _ => K))
theorem s_icmp_ge_t {k : Bool} {M : MD} {d pc q : Nat} {ls : List (Nat × Value)} {st : List Value} {h : AH} {x y : Int32} {off : Int} (hd : decode M.2.1 pc = .ok (.if_icmp .ge off, 3)) (hq : (pc : Int) + off = (q : Int)) (hc : y ≤ x) : J k M d pc ls (.int y :: .int x :: st) h q ls st h :=
  J.pure (fun o => (oks_t (oks_t o))) (fun p l e R s m args below meth c Q ad H locs cells slots lsA C hl K => lv_icmp_ge C.x C.b hd hq (fun _ => K) (fun n => absurd hc n))
theorem s_icmp_ge_f {k : Bool} {M : MD} {d pc q : Nat} {ls : List (Nat × Value)} {st : List Value} {h : AH} {x y : Int32} {off : Int} {tg : Nat} (hd : decode M.2.1 pc = .ok (.if_icmp .ge off, 3)) (ht : (pc : Int) + off = (tg : Int)) (hq : pc + 3 = q) (hc : ¬ (y ≤ x)) : J k M d pc ls (.int y :: .int x :: st) h q ls st h := by
  subst hq
  exact J.pure (fun o => (oks_t (oks_t o))) (fun p l e R s m args below meth c Q ad H locs cells slots lsA C hl K => lv_icmp_ge C.x C.b hd ht (fun n => absurd n hc) (fun _ => K))
theorem s_if_gt_t {k : Bool} {M : MD} {d pc q : Nat} {ls : List (Nat × Value)} {st : List Value} {h : AH} {x : Int32} {off : Int} (hd : decode M.2.1 pc = .ok (.ifCond .gt off, 3)) (hq : (pc : Int) + off = (q : Int)) (hc : 0 < x) : J k M d pc ls (.int x :: st) h q ls st h :=
  J.pure (fun o => (oks_t o)) (fun p l e R s m args below meth c Q ad H locs cells slots lsA C hl K => lv_if_gt C.x C.b hd hq (fun _ => K) (fun n => absurd hc n))
theorem s_if_gt_f {k : Bool} {M : MD} {d pc q : Nat} {ls : List (Nat × Value)} {st : List Value} {h : AH} {x : Int32} {off : Int} {tg : Nat} (hd : decode M.2.1 pc = .ok (.ifCond .gt off, 3)) (ht : (pc : Int) + off = (tg : Int)) (hq : pc + 3 = q) (hc : ¬ (0 < x)) : J k M d pc ls (.int x :: st) h q ls st h := by
  subst hq
  exact J.pure (fun o => (oks_t o)) (fun p l e R s m args below meth c Q ad H locs cells slots lsA C hl K => lv_if_gt C.x C.b hd ht (fun n => absurd n hc) (fun _ => K))
theorem s_icmp_gt_t {k : Bool} {M : MD} {d pc q : Nat} {ls : List (Nat × Value)} {st : List Value} {h : AH} {x y : Int32} {off : Int} (hd : decode M.2.1 pc = .ok (.if_icmp .gt off, 3)) (hq : (pc : Int) + off = (q : Int)) (hc : y < x) : J k M d pc ls (.int y :: .int x :: st) h q ls st h :=
  J.pure (fun o => (oks_t (oks_t o))) (fun p l e R s m args below meth c Q ad H locs cells slots lsA C hl K => lv_icmp_gt C.x C.b hd hq (fun _ => K) (fun n => absurd hc n))
theorem s_icmp_gt_f {k : Bool} {M : MD} {d pc q : Nat} {ls : List (Nat × Value)} {st : List Value} {h : AH} {x y : Int32} {off : Int} {tg : Nat} (hd : decode M.2.1 pc = .ok (.if_icmp .gt off, 3)) (ht : (pc : Int) + off = (tg : Int)) (hq : pc + 3 = q) (hc : ¬ (y < x)) : J k M d pc ls (.int y :: .int x :: st) h q ls st h := by
  subst hq
  exact J.pure (fun o => (oks_t (oks_t o))) (fun p l e R s m args below meth c Q ad H locs cells slots lsA C hl K => lv_icmp_gt C.x C.b hd ht (fun n => absurd n hc) (fun _ => K))
theorem s_if_le_t {k : Bool} {M : MD} {d pc q : Nat} {ls : List (Nat × Value)} {st : List Value} {h : AH} {x : Int32} {off : Int} (hd : decode M.2.1 pc = .ok (.ifCond .le off, 3)) (hq : (pc : Int) + off = (q : Int)) (hc : x ≤ 0) : J k M d pc ls (.int x :: st) h q ls st h :=
  J.pure (fun o => (oks_t o)) (fun p l e R s m args below meth c Q ad H locs cells slots lsA C hl K => lv_if_le C.x C.b hd hq (fun _ => K) (fun n => absurd hc n))
theorem s_if_le_f {k : Bool} {M : MD} {d pc q : Nat} {ls : List (Nat × Value)} {st : List Value} {h : AH} {x : Int32} {off : Int} {tg : Nat} (hd : decode M.2.1 pc = .ok (.ifCond .le off, 3)) (ht : (pc : Int) + off = (tg : Int)) (hq : pc + 3 = q) (hc : ¬ (x ≤ 0)) : J k M d pc ls (.int x :: st) h q ls st h := by
  subst hq
  exact J.pure (fun o => (oks_t o)) (fun p l e R s m args below meth c Q ad H locs cells slots lsA C hl K => lv_if_le C.x C.b hd ht (fun n => absurd n hc) (fun _ => K))
theorem s_icmp_le_t {k : Bool} {M : MD} {d pc q : Nat} {ls : List (Nat × Value)} {st : List Value} {h : AH} {x y : Int32} {off : Int} (hd : decode M.2.1 pc = .ok (.if_icmp .le off, 3)) (hq : (pc : Int) + off = (q : Int)) (hc : x ≤ y) : J k M d pc ls (.int y :: .int x :: st) h q ls st h :=
  J.pure (fun o => (oks_t (oks_t o))) (fun p l e R s m args below meth c Q ad H locs cells slots lsA C hl K => lv_icmp_le C.x C.b hd hq (fun _ => K) (fun n => absurd hc n))
theorem s_icmp_le_f {k : Bool} {M : MD} {d pc q : Nat} {ls : List (Nat × Value)} {st : List Value} {h : AH} {x y : Int32} {off : Int} {tg : Nat} (hd : decode M.2.1 pc = .ok (.if_icmp .le off, 3)) (ht : (pc : Int) + off = (tg : Int)) (hq : pc + 3 = q) (hc : ¬ (x ≤ y)) : J k M d pc ls (.int y :: .int x :: st) h q ls st h := by
  subst hq
  exact J.pure (fun o => (oks_t (oks_t o))) (fun p l e R s m args below meth c Q ad H locs cells slots lsA C hl K => lv_icmp_le C.x C.b hd ht (fun n => absurd n hc) (fun _ => K))
theorem s_lcmp {k : Bool} {M : MD} {d pc q : Nat} {ls : List (Nat × Value)} {st : List Value} {h : AH} {x y : Int64} (hd : decode M.2.1 pc = .ok (.lcmp, 1)) (hq : pc + 1 = q) : J k M d pc ls (.long y :: .long x :: st) h q ls (.int (lg_cmp x y) :: st) h := by
  subst hq
  exact J.pure (fun o => oks_c trivial (oks_t (oks_t o))) (fun p l e R s m args below meth c Q ad H locs cells slots lsA C hl K => W.lcmp C.x C.b hd K)
theorem s_aload_nN {k : Bool} {M : MD} {d pc q : Nat} {ls : List (Nat × Value)} {st : List Value} {h : AH} {i : Fin 4} (hd : decode M.2.1 pc = .ok (.aload_n i, 1)) (hq : pc + 1 = q) (hk : lk ls i = some .null) : J k M d pc ls (st) h q ls (.null :: st) h := by
  subst hq
  exact J.pure (fun o => oks_c trivial o) (fun p l e R s m args below meth c Q ad H locs cells slots lsA C hl K => lv_aload_nN C.x C.b hd rfl (lv_lk hl hk) K)
theorem s_aloadN {k : Bool} {M : MD} {d pc q : Nat} {ls : List (Nat × Value)} {st : List Value} {h : AH} {i : Nat} (hd : decode M.2.1 pc = .ok (.aload i, 2)) (hq : pc + 2 = q) (hk : lk ls i = some .null) : J k M d pc ls (st) h q ls (.null :: st) h := by
  subst hq
  exact J.pure (fun o => oks_c trivial o) (fun p l e R s m args below meth c Q ad H locs cells slots lsA C hl K => lv_aloadN C.x C.b hd (lv_lk hl hk) K)
theorem s_astore_nN {k : Bool} {M : MD} {d pc q : Nat} {ls : List (Nat × Value)} {st : List Value} {h : AH} {i : Fin 4} {ls' : List (Nat × Value)} (hd : decode M.2.1 pc = .ok (.astore_n i, 1)) (hq : pc + 1 = q) (hn : (i : Nat) < M.2.2.1) (hk : ((i : Nat), Value.null) :: lf1 (i : Nat) ls = ls') : J k M d pc ls (.null :: st) h q ls' st h := by
  subst hq
  subst hk
  exact J.loc (fun o => oks_t o) (fun o o2 => okl_c (oks_h o2) (okl_lf1 o)) (fun p l e R s m args below meth c Q ad H locs cells slots lsA C hl K => lv_astore_nN C.x C.b hd rfl hl hn (by rw [lf1_ml]; rfl) K)
theorem s_astoreN {k : Bool} {M : MD} {d pc q : Nat} {ls : List (Nat × Value)} {st : List Value} {h : AH} {i : Nat} {ls' : List (Nat × Value)} (hd : decode M.2.1 pc = .ok (.astore i, 2)) (hq : pc + 2 = q) (hn : i < M.2.2.1) (hk : (i, Value.null) :: lf1 i ls = ls') : J k M d pc ls (.null :: st) h q ls' st h := by
  subst hq
  subst hk
  exact J.loc (fun o => oks_t o) (fun o o2 => okl_c (oks_h o2) (okl_lf1 o)) (fun p l e R s m args below meth c Q ad H locs cells slots lsA C hl K => lv_astoreN C.x C.b hd hl hn (by rw [lf1_ml]; rfl) K)
theorem s_ifnull_r {k : Bool} {M : MD} {d pc q : Nat} {ls : List (Nat × Value)} {st : List Value} {h : AH} {off : Int} {o : Nat} (hd : decode M.2.1 pc = .ok (.ifnull off, 3)) (hq : pc + 3 = q) : J k M d pc ls (.ref o :: st) h q ls st h := by
  subst hq
  exact J.pure (fun o => oks_t o) (fun p l e R s m args below meth c Q ad H locs cells slots lsA C hl K => lv_ifnull C.x C.b hd K)
theorem s_ifnull_n {k : Bool} {M : MD} {d pc q : Nat} {ls : List (Nat × Value)} {st : List Value} {h : AH} {off : Int} (hd : decode M.2.1 pc = .ok (.ifnull off, 3)) (hq : (pc : Int) + off = (q : Int)) : J k M d pc ls (.null :: st) h q ls st h :=
  J.pure (fun o => oks_t o) (fun p l e R s m args below meth c Q ad H locs cells slots lsA C hl K => lv_ifnullN C.x C.b hd hq K)
theorem s_ifnonnull_r {k : Bool} {M : MD} {d pc q : Nat} {ls : List (Nat × Value)} {st : List Value} {h : AH} {off : Int} {o : Nat} (hd : decode M.2.1 pc = .ok (.ifnonnull off, 3)) (hq : (pc : Int) + off = (q : Int)) : J k M d pc ls (.ref o :: st) h q ls st h :=
  J.pure (fun o => oks_t o) (fun p l e R s m args below meth c Q ad H locs cells slots lsA C hl K => lv_ifnonnull C.x C.b hd hq K)
theorem s_ifnonnull_n {k : Bool} {M : MD} {d pc q : Nat} {ls : List (Nat × Value)} {st : List Value} {h : AH} {off : Int} (hd : decode M.2.1 pc = .ok (.ifnonnull off, 3)) (hq : pc + 3 = q) : J k M d pc ls (.null :: st) h q ls st h := by
  subst hq
  exact J.pure (fun o => oks_t o) (fun p l e R s m args below meth c Q ad H locs cells slots lsA C hl K => lv_ifnonnullN C.x C.b hd K)
theorem s_lookup {k : Bool} {M : MD} {d pc q : Nat} {ls : List (Nat × Value)} {st : List Value} {h : AH} {dflt : Int} {ps : Array (Int × Int)} {len : Nat} {x : Int32} {off : Int} (hd : decode M.2.1 pc = .ok (.lookupswitch dflt ps, len)) (hp : (ps.toList.zip (ps.toList.drop 1)).all (fun (a, next) => a.1 < next.1) = true) (ho : Op.lookupswitch.offset ps.toList dflt x.toInt = off) (hq : (pc : Int) + off = (q : Int)) : J k M d pc ls (.int x :: st) h q ls st h :=
  J.pure (fun o => oks_t o) (fun p l e R s m args below meth c Q ad H locs cells slots lsA C hl K => lv_lookup C.x C.b hd hp ho hq K)
theorem s_tabOut {k : Bool} {M : MD} {d pc q : Nat} {ls : List (Nat × Value)} {st : List Value} {h : AH} {dflt lo hi : Int} {offs : Array Int} {len : Nat} {x : Int32} (hd : decode M.2.1 pc = .ok (.tableswitch dflt lo hi offs, len)) (hx : x.toInt < lo ∨ hi < x.toInt) (hq : (pc : Int) + dflt = (q : Int)) : J k M d pc ls (.int x :: st) h q ls st h :=
  J.pure (fun o => oks_t o) (fun p l e R s m args below meth c Q ad H locs cells slots lsA C hl K => lv_tableOut C.x C.b hd hx hq K)
theorem s_tabIn {k : Bool} {M : MD} {d pc q : Nat} {ls : List (Nat × Value)} {st : List Value} {h : AH} {dflt lo hi : Int} {offs : Array Int} {len : Nat} {x : Int32} {off : Int} (hd : decode M.2.1 pc = .ok (.tableswitch dflt lo hi offs, len)) (h1 : ¬ x.toInt < lo) (h2 : ¬ hi < x.toInt) (ho : offs[(x.toInt - lo).toNat]? = some off) (hq : (pc : Int) + off = (q : Int)) : J k M d pc ls (.int x :: st) h q ls st h :=
  J.pure (fun o => oks_t o) (fun p l e R s m args below meth c Q ad H locs cells slots lsA C hl K => lv_tableIn C.x C.b hd h1 h2 ho hq K)
