/-! METHODS THAT THROW: to the throw, out of a method, into a handler -/
/-- what the cell of an exception costs -/
def hX (h : AH) : AH := (h.1, (h.2.1, (h.2.2.1 + 1, h.2.2.2 + 6)))
def XCc (D : va_G) (cI cJ : ClassId) (ad : Nat → Nat) (h : AH) (A : Nat → Prop) (Ex : String) : String → State → State → Prop := fun E st t => E = Ex ∧ va_P D vwCl (wl cI cJ ad h) t.heap ∧ va_F A st t
/-- from the frame on, the method throws; the heap stands as it was -/
def XA (M : MD) (d pc : Nat) (ls : List (Nat × Value)) (st : List Value) (h : AH) (Ex : String) : Prop :=
  ∀ (p : Program) (l : Launch) (e : Env) (R : Room) (s : State) (m : MethodId) (args : Array Value) (below : List Frame) (meth : Method) (c : Code) (D : va_G) (cI cJ : ClassId) (A : Nat → Prop),
    Gx M p l R s m args meth c D cI cJ A d → (1 ≤ R.cells ∧ 6 ≤ R.slots) → c.exceptionTable.toList = [] →
    ∀ (ad : Nat → Nat) (H : Heap) (locs : List Loc) (lsA : Array Slot), Pt false M D cI cJ A s ad ls st h H locs lsA →
    ∀ (Qc : Array Value → State → Outcome → State → Prop) (free : Addr → Prop), (∀ q, A q → free q) →
    W p l e R s m args below meth c H locs 0 0 (vx_MQ below Qc (XCc D cI cJ ad h A Ex) args s 1 6 free) (F0 m pc lsA (st.map (mv ad)))
/-- the method throws -/
def CX (M : MD) (d : Nat) (as : List Value) (h : AH) (Ex : String) : Prop := okh h → oks h.2.1 as → ∀ (l : Launch), l.stackTraces = false → ∀ (D : va_G) (cI cJ : ClassId) (ad : Nat → Nat) (sz : Nat),
  vx_Met l M.1 (Cond.code M.1 M.2.1 M.2.2.1 M.2.2.2.1 :: gw) (rmm d 1 6) (Pcc D cI cJ ad as h sz) (fun _ _ _ _ => False) (XCc D cI cJ ad h (va_A (wl cI cJ ad h) sz) Ex) 1 6 (va_A (wl cI cJ ad h) sz)
theorem wl_ext {cI cJ : ClassId} {ad ad' : Nat → Nat} {h : AH} (ho : okh h) (hx : ∀ i, i ≤ h.2.1 → ad' i = ad i) : wl cI cJ ad' h = wl cI cJ ad h := by
  unfold wl
  apply List.map_congr_left
  intro j hj
  have hj := List.mem_range.mp hj
  rw [hx _ (by omega), cv_ext hx (ho.2 _)]
theorem XA.st {M : MD} {d p1 p2 : Nat} {l1 l2 : List (Nat × Value)} {s1 s2 : List Value} {h : AH} {Ex : String} (a : J false M d p1 l1 s1 h p2 l2 s2 h) (b : XA M d p2 l2 s2 h Ex) : XA M d p1 l1 s1 h Ex := by
  intro p l e R s m args below meth c D cI cJ A g r hc ad H locs lsA P Qc free hf
  have key := a.2 p l e R s m args below meth c (vx_MQ below Qc (XCc D cI cJ ad h A Ex) args s 1 6 free) D cI cJ A h.2.2.1 h.2.2.2 g ⟨Nat.le_refl _, Nat.le_refl _, by rw [Nat.sub_self]; exact Nat.zero_le _, by rw [Nat.sub_self]; exact Nat.zero_le _⟩ ad H locs lsA P (fun ad' H' locs' lsA' hx P' => ?_)
  · rw [Nat.sub_self, Nat.sub_self] at key
    exact key
  · rw [Nat.sub_self, Nat.sub_self]
    have := b p l e R s m args below meth c D cI cJ A g r hc ad' H' locs' lsA' P' Qc free hf
    unfold XCc at this ⊢
    rw [wl_ext P.1.2.2.2 hx] at this
    exact this
theorem XA.cx {M : MD} {d : Nat} {as : List Value} {h : AH} {Ex : String} (hp : plainName M.1.cls = true) (hh : M.2.2.2.2 = []) (hlen : (lg_sl as).length ≤ M.2.2.1) (x : XA M d 0 (lv_args 0 as) [] h Ex) : CX M d as h Ex := by
  intro ho hoa l hl D cI cJ ad sz
  refine vx_ofW (cc := M.2.1) (maxL := M.2.2.1) (ret := M.2.2.2.1) hp rfl ?_
  intro p e s m args below meth c s₁ B hml htab hv
  obtain ⟨rfl, hsz, hP, hK, hD0, hZ⟩ := hv
  have hts := atoms_spec (ws := Cond.code M.1 M.2.1 M.2.2.1 M.2.2.2.1 :: gw) B.pre
  subst hsz
  have hD := hD0.self (sz := s.heap.size)
  have h0 : c.exceptionTable.toList = [] := List.eq_nil_iff_forall_not_mem.mpr (fun x hx => htab x hx)
  have X : Cx M p s m (as.map (mv ad)).toArray meth c := ⟨B.exec, B.bytes, hml, findClass_of_methodNamed B.named, fun w hw => hts w (List.mem_cons_of_mem _ hw), B.returns, B.notSynchronized, (name_of_methodNamed B.named B.method).1, by rw [hh]; exact h0.trans rfl⟩
  have hl0 := lv_entry (as.map (mv ad)) (n := M.2.2.1) (by rw [sl_ml]; exact hlen)
  rw [lg_entry_eq]
  generalize (lg_sl (as.map (mv ad)) ++ List.replicate (M.2.2.1 - (lg_sl (as.map (mv ad))).length) Slot.unset).toArray = lsA at hl0 ⊢
  rw [la_ml] at hl0
  have G : Gx M p l (rmm d 1 6) s m (as.map (mv ad)).toArray meth c D cI cJ (va_A (wl cI cJ ad h) s.heap.size) d := ⟨X, ⟨Nat.le_refl _, Nat.le_refl _⟩, hK, fun q hq => Or.inr hq, hl, hZ⟩
  have P : Pt false M D cI cJ (va_A (wl cI cJ ad h) s.heap.size) s ad (lv_args 0 as) [] h s.heap [] lsA := ⟨⟨hP, hD, va_S.rf, ho⟩, hl0, la_ok hoa, (fun _ h => by cases h), (fun h => by cases h)⟩
  exact x p l e (rmm d 1 6) s m (as.map (mv ad)).toArray below meth c D cI cJ (va_A (wl cI cJ ad h) s.heap.size) G ⟨Nat.le_refl _, Nat.le_refl _⟩ h0 ad s.heap [] lsA P _ _ (fun q hq => hq)
theorem inW_b {w : Cond} (hw : inW w = true) (ho : vx_ot w = true) {args : Array Value} {s : State} (h1 : ∀ w ∈ gw, w.before args s = true) (h2 : ∀ w ∈ xw, va_Nw w s) : w.before args s = true := by
  unfold inW at hw
  rcases (Bool.or_eq_true _ _).mp hw with q | q
  · exact h1 w (List.contains_iff_mem.mp q)
  · exact vx_ot_at (State.WarmedH.refl s) rfl ho (h2 w (List.contains_iff_mem.mp q))
theorem ext_x {M : MD} {D : va_G} {cI cJ : ClassId} {A : Nat → Prop} {s : State} {ad : Nat → Nat} {ls : List (Nat × Value)} {st : List Value} {h : AH} {H : Heap} {locs : List Loc} {lsA : Array Slot} {k : Bool} (P : Pt k M D cI cJ A s ad ls st h H locs lsA) {t : State} (h1 : H.size ≤ t.heap.size) (h2 : ∀ q : Nat, q < H.size → t.heap[q]? = H[q]?) {E : String} : XCc D cI cJ ad h A E E s t := by
  refine ⟨rfl, P.1.1.kept (fun k q hk => h2 _ (vx_lt P.1.1 hk)), Nat.le_trans P.1.2.2.1.1 h1, fun q hq hA => ?_⟩
  rw [h2 q (Nat.lt_of_lt_of_le hq P.1.2.2.1.1)]
  exact P.1.2.2.1.2.1 q hq hA
/-- 'throw new E("..")' -/
theorem xa_newS {M : MD} {d pc ik is ic : Nat} {ls : List (Nat × Value)} {h : AH} {cls text : String} (hM : M.1.cls = RX7) (hcls : Bundle.fit cls = true) (hat : (vx_atS RX7 ic cls upR).all inW = true) (hgo : (Cond.classLink RX7 ik cls :: Cond.initialized cls :: vx_atS RX7 ic cls upR).all vx_ot = true) (hli : inW (Cond.classLink RX7 ik cls) = true ∧ inW (Cond.initialized cls) = true) (hstr : (is, text) ∈ strs)
    (d0 : decode M.2.1 pc = .ok (.new ik, 3)) (d3 : decode M.2.1 (pc + 3) = .ok (.dup, 1)) (d4 : decode M.2.1 (pc + 4) = .ok (.ldc is, 2)) (d6 : decode M.2.1 (pc + 6) = .ok (.invokespecial ic, 3)) (d9 : decode M.2.1 (pc + 9) = .ok (.athrow, 1)) (hd : 6 ≤ d) : XA M d pc ls [] h cls := by
  intro p l e R s m args below meth c D cI cJ A g r hc ad H locs lsA P Qc free hf
  obtain ⟨X, gr, gK, gA, gl, gZ⟩ := id g
  obtain ⟨sa, hsa⟩ := gZ.2.2.1 _ hstr
  have hgo' := List.all_eq_true.mp hgo
  have hB : ∀ w, inW w = true → vx_ot w = true → w.before args s = true := fun w h1 h2 => inW_b h1 h2 X.w gZ.2.2.2
  exact vx_throwS (A := A) (sa := sa) X.x X.b gl (own := RX7) (cls := cls) (text := text) (names := upR) (ik := ik) (is := is) (ic := ic) (by rw [← hM]; exact X.o) hcls fitI.2.2.2.2 (hB _ hli.1 (hgo' _ List.mem_cons_self)) (hB _ hli.2 (hgo' _ (List.mem_cons_of_mem _ List.mem_cons_self))) hsa (fun w hw => hB w (List.all_eq_true.mp hat w hw) (hgo' w (List.mem_cons_of_mem _ (List.mem_cons_of_mem _ hw)))) hgo' gZ.1 gZ.2.1 P.1.2.2.1 (P.2.1.1.trans X.2.2.1.symm) d0 d3 d4 d6 d9 (by rw [hc]; intro x hx; cases hx) (by show 2 + 3 < R.frames; omega) (by show 0 + (13 * (2 + 1) + 43) ≤ R.locals; omega) (by omega) (by omega) X.2.2.2.2.2.2.1 (fun t _ h1 h2 => ext_x P h1 h2) (fun z hz => hf _ (P.1.2.2.1.2.2 z hz)) (Nat.le_refl _) (Nat.le_refl _)
/-- a static method of its own throws: so does this one -/
theorem xa_invs {M K : MD} {d d' pc ix n : Nat} {ls : List (Nat × Value)} {st as rest : List Value} {h : AH} {Ex : String} (hd : decode M.2.1 pc = .ok (.invokestatic ix, 3)) (hf : LSt M.1.cls ix K n) (hdd : d' < d) (hn : as.length = n) (hst : st = as.reverse ++ rest) (hcat : (rest.map fun v => v.category).sum ≤ 8) (hM : CX K d' as h Ex) : XA M d pc ls st h Ex := by
  subst hst
  intro p l e R s m args below meth c D cI cJ A g r hc ad H locs lsA P Qc free hfr
  obtain ⟨f1, f2, f3, f4, f5, f7, f8, f9⟩ := hf
  obtain ⟨X, gr, gK, gA, gl, gZ⟩ := id g
  have hos := P.2.2.2.1
  have hor := oks_r hos
  have hoa : oks h.2.1 as := fun w hw => oks_l hos w (List.mem_reverse.mpr hw)
  have hM := hM P.1.2.2.2 hoa l gl D cI cJ ad H.size
  have hb := pre_P (as := as) P gK gA gZ
  have cw : CallB R s args M.1.cls ix K.1 K.2.1 K.2.2.1 K.2.2.2.1 (Cond.code K.1 K.2.1 K.2.2.1 K.2.2.2.1 :: gw) (rmm d' 1 6) 1 6 n ∧ (Cond.static K.1).before args s = true :=
    va_cwS n X.w (by unfold va_wsS; exact gw_c f4 (gw_c f5 (gw_c f7 (gw_c f3 gw_good)))) rfl rfl rfl f8 ⟨by show d' + 1 ≤ _; omega, by show 8 + (K.2.2.1 + 11) + 64 * d' ≤ _; omega⟩
  have hr := vx_runS (e := e) (meth := meth) (n := n) (As := as.map (mv ad)) (rest := rest.map (mv ad)) (g := F0 m pc lsA ((as.reverse ++ rest).map (mv ad))) (cells := 0) (slots := 0) (locs := locs) (below := below) (H := H) (Ts := gw) (own := M.1.cls) (index := ix) (nL := M.2.2.1)
    ⟨X.x, X.b, X.2.2.1, X.o, X.w⟩ hM cw ⟨Pcc.blind, hb⟩ rfl (by rw [List.length_map]; exact hn) P.2.1.1 (by rw [List.map_append, List.map_reverse]) (lv_room (by rw [List.map_map]; simpa [Function.comp_def, mv_cat] using hcat)) hd (by omega)
  intro T hT XX
  rcases hr T hT XX with ⟨v, st₀, t, T', L, h0, X', hL, e1, e2, q, st⟩ | ⟨q, st₀, t, T', L, E, ce, h0, X', hL, e1, e2, ⟨he, hP, hF⟩, hce, hcv, hcl, st⟩
  · exact q.elim
  · subst he
    have hFr := P.free gA
    obtain ⟨t2, a1, b1⟩ := vx_out (Qc := Qc) (XC := XCc D cI cJ ad h A E) (pc := pc) (ls := lsA) (rest := rest.map (mv ad)) (H := T'.heap) (locs := locs ++ L) (cells := 0 + 1) (slots := 0 + 6) (mc := 1) (ms := 6) (free := free) (p := p) (l := l) (e := e) (R := R) (s := s) (m := m) (args := args) (below := below) (meth := meth) (c := c) (E := E) (ce := ce) (q := q) (by rw [hc]; intro x hx; cases hx) X.2.2.2.2.2.2.1 (by rw [e1]; exact hce) hcv hcl (fun u hu hal => ⟨rfl, by rw [hu, e1]; exact hP, by
        obtain ⟨F1, F2⟩ := hF
        rw [h0] at F1 F2
        refine ⟨by rw [hu, e1]; exact Nat.le_trans P.1.2.2.1.1 F1, fun z hz hA => ?_⟩
        rw [hu, e1, F2 z (Nat.lt_of_lt_of_le hz P.1.2.2.1.1) (fun w => hA (hFr z w))]
        exact P.1.2.2.1.2.1 z hz hA⟩) (fun z hz => by
        rcases List.mem_append.mp hz with w | w
        · exact hfr _ (P.1.2.2.1.2.2 z w)
        · exact hfr _ (hFr _ (hL z w))) (Nat.le_refl _) (Nat.le_refl _) T' rfl X'
    exact ⟨t2, st.trans a1, b1⟩
/-- what an instance method throws, this one catches; the handler begins by putting it away -/
theorem s_invvX {M K : MD} {k : Bool} {d d' pc q ix n ci o a b hp ct : Nat} {fs : List Value} {ls : List (Nat × Value)} {st as rest : List Value} {h : AH} {Ex : String} (hd : decode M.2.1 pc = .ok (.invokevirtual ix, 3)) (hf : LV M.1.cls ix K n ci) (hdd : d' < d) (hn : as.length = n) (hst : st = as.reverse ++ .ref o :: rest) (hcat : (rest.map fun v => v.category).sum ≤ 8) (ho : h.1 o = ob ci fs) (hM : CX K d' (.ref o :: as) h Ex)
    (hh : M.2.2.2.2 = [(a, b, hp, ct)]) (hab : covers ⟨a, b, hp, ct⟩ pc = true) (hct : ct ≠ 0) (hcl : Cond.classLink M.1.cls ct Ex ∈ gw) (hca : Cond.castable Ex Ex ∈ xw) (hon : (Cond.castable Ex Ex).onTables = true)
    (hst2 : ∀ {p : Program} {l : Launch} {e : Env} {R : Room} {s : State} {m : MethodId} {args : Array Value} {below : List Frame} {meth : Method} {c : Code} {Q : State → Prop} {H : Heap} {locs : List Loc} {cells slots x : Nat} {lsA : Array Slot} {lv : List (Nat × Value)}, p.tables.exec = Jvm.exec → c.code = M.2.1 → lv_has lsA M.2.2.1 lv → (∀ lsA' : Array Slot, lv_has lsA' M.2.2.1 [] → W p l e R s m args below meth c H locs cells slots Q (F0 m q lsA' [])) → W p l e R s m args below meth c H locs cells slots Q (F0 m hp lsA [.ref x])) : J k M d pc ls st h q [] [] (hX h) := by
  subst hst
  refine ⟨⟨Nat.le_refl _, Nat.le_succ _, Nat.le_add_right _ _⟩, fun p l e R s m args below meth c Q D cI cJ A cb sb g r ad H locs lsA P kk => ?_⟩
  obtain ⟨f1, f2, f3, f4, f5, f6, f7, f8, f9, T, N, f10⟩ := hf
  obtain ⟨X, gr, gK, gA, gl, gZ⟩ := id g
  have hos := P.2.2.2.1
  have hor := oks_t (oks_r hos)
  have hoo := oks_h (oks_r hos)
  have hoa : oks h.2.1 as := fun w hw => oks_l hos w (List.mem_reverse.mpr hw)
  have hM := hM P.1.2.2.2 (oks_c hoo hoa) l gl D cI cJ ad H.size
  have he := wl_at (cI := cI) (cJ := cJ) (ad := ad) (okh_pos P.1.2.2.2 ho) hoo ho
  have hb := pre_P (as := .ref o :: as) P gK gA gZ
  have r3 : h.2.2.1 + 1 - cb ≤ R.cells := r.2.2.1
  have r4 : h.2.2.2 + 6 - sb ≤ R.slots := r.2.2.2
  have cw : CallW R s args M.1.cls K.1.cls ix K.1 K.2.1 K.2.2.1 K.2.2.2.1 (Cond.code K.1 K.2.1 K.2.2.1 K.2.2.2.1 :: gw) (rmm d' 1 6) 1 6 n :=
    cwV n X.w (by unfold wsV; exact gw_c f4 (gw_c f5 (gw_c f6 (gw_c f7 (gw_c f3 gw_good))))) rfl rfl rfl ⟨rfl, f8⟩ ⟨by show d' + 1 ≤ _; omega, by show 8 + (K.2.2.1 + 11) + 64 * d' ≤ _; omega⟩
  have hr := vx_runV (e := e) (meth := meth) (n := n) (C := K.1.cls) (b := ad o) (As := as.map (mv ad)) (rest := rest.map (mv ad)) (g := F0 m pc lsA ((as.reverse ++ .ref o :: rest).map (mv ad))) (cells := h.2.2.1 - cb) (slots := h.2.2.2 - sb) (locs := locs) (below := below) (H := H) (Ts := gw) (own := M.1.cls) (index := ix) (nL := M.2.2.1)
    ⟨X.x, X.b, X.2.2.1, X.o, X.w⟩ hM cw ⟨Pcc.blind, va_recv gK P.1.1 f10 he, hb⟩ rfl (by rw [List.length_map]; exact hn) P.2.1.1 (by rw [List.map_append, List.map_reverse]; rfl) (lv_room (by rw [List.map_map]; simpa [Function.comp_def, mv_cat] using hcat)) hd (by omega)
  intro T hT XX
  rcases hr T hT XX with ⟨v, st₀, t, T', L, h0, X', hL, e1, e2, q, st⟩ | ⟨q9, st₀, t, T', L, E, ce, h0, X', hL, e1, e2, ⟨he, hP, hF⟩, hce, hcv, hcls, st⟩
  · exact q.elim
  · subst he
    have hFr := P.free gA
    obtain ⟨F1, F2⟩ := hF
    rw [h0] at F1 F2
    have S' : va_S A s.heap T'.heap (locs ++ L) := ⟨by rw [e1]; exact Nat.le_trans P.1.2.2.1.1 F1, fun z hz hA => by
      rw [e1, F2 z (Nat.lt_of_lt_of_le hz P.1.2.2.1.1) (fun w => hA (hFr z w))]
      exact P.1.2.2.1.2.1 z hz hA, fun z hz => by
      rcases List.mem_append.mp hz with w | w
      · exact P.1.2.2.1.2.2 z w
      · exact hFr _ (hL z w)⟩
    have tb : c.exceptionTable.toList = [] ++ (⟨a, b, hp, ct⟩ : ExceptionTableEntry) :: [] := by
      rw [X.2.2.2.2.2.2.2.2, hh]
      rfl
    have hcs : (Cond.castable E E).before args s = true := va_tabs hon rfl (gZ.2.2.2 _ hca)
    obtain ⟨t2, a1, b1⟩ := vx_catch (p := p) (l := l) (e := e) (R := R) (s := s) (m := m) (args := args) (below := below) (meth := meth) (c := c) (Q := Q) (own := M.1.cls) (name := E) (E := E) (ce := ce) (q := q9) (H := T'.heap) (locs := locs ++ L) (cells := h.2.2.1 - cb + 1) (slots := h.2.2.2 - sb + 6) (pc := pc) (ls := lsA) (rest := rest.map (mv ad)) X.o [] ⟨a, b, hp, ct⟩ [] tb (fun z hz => by cases hz) hab hct (X.w _ hcl) hcs (by rw [e1]; exact hce) hcv hcls
      (hst2 X.x X.b P.2.1 (fun lsA' hl' => W.cs (show h.2.2.1 - cb + 1 = h.2.2.1 + 1 - cb by omega) (show h.2.2.2 - sb + 6 = h.2.2.2 + 6 - sb by omega) (kk ad T'.heap (locs ++ L) lsA' (fun _ _ => rfl) ⟨⟨by rw [e1]; exact hP, P.1.2.1, S', P.1.2.2.2⟩, hl', (fun _ h => by cases h), (fun _ h => by cases h), fun kt => by
        obtain ⟨L, xs, f0, f1⟩ := P.2.2.2.2 kt
        exact ⟨L, xs, f0, f1⟩⟩))) T' rfl X'
    exact ⟨t2, st.trans a1, b1⟩
theorem put_a {M : MD} {hp q i : Nat} (hd : decode M.2.1 hp = .ok (.astore i, 2)) (hi : i < M.2.2.1) (hq : hp + 2 = q) : ∀ {p : Program} {l : Launch} {e : Env} {R : Room} {s : State} {m : MethodId} {args : Array Value} {below : List Frame} {meth : Method} {c : Code} {Q : State → Prop} {H : Heap} {locs : List Loc} {cells slots x : Nat} {lsA : Array Slot} {lv : List (Nat × Value)}, p.tables.exec = Jvm.exec → c.code = M.2.1 → lv_has lsA M.2.2.1 lv → (∀ lsA' : Array Slot, lv_has lsA' M.2.2.1 [] → W p l e R s m args below meth c H locs cells slots Q (F0 m q lsA' [])) → W p l e R s m args below meth c H locs cells slots Q (F0 m hp lsA [.ref x]) := by
  subst hq
  intro p l e R s m args below meth c Q H locs cells slots x lsA lv hx hb hl kk
  exact lv_astore hx hb hd hl hi rfl (fun lsA' h' => kk lsA' ⟨h'.1, h'.2.1, (fun _ h => by cases h)⟩)
theorem put_b {M : MD} {hp q : Nat} {i : Fin 4} (hd : decode M.2.1 hp = .ok (.astore_n i, 1)) (hi : (i : Nat) < M.2.2.1) (hq : hp + 1 = q) : ∀ {p : Program} {l : Launch} {e : Env} {R : Room} {s : State} {m : MethodId} {args : Array Value} {below : List Frame} {meth : Method} {c : Code} {Q : State → Prop} {H : Heap} {locs : List Loc} {cells slots x : Nat} {lsA : Array Slot} {lv : List (Nat × Value)}, p.tables.exec = Jvm.exec → c.code = M.2.1 → lv_has lsA M.2.2.1 lv → (∀ lsA' : Array Slot, lv_has lsA' M.2.2.1 [] → W p l e R s m args below meth c H locs cells slots Q (F0 m q lsA' [])) → W p l e R s m args below meth c H locs cells slots Q (F0 m hp lsA [.ref x]) := by
  subst hq
  intro p l e R s m args below meth c Q H locs cells slots x lsA lv hx hb hl kk
  exact lv_astore_n hx hb hd rfl hl hi rfl (fun lsA' h' => kk lsA' ⟨h'.1, h'.2.1, (fun _ h => by cases h)⟩)
/-- a method with a handler, that returns -/
theorem met_ofH {M : MD} {d : Nat} {as : List Value} {h h1 : AH} {v : Option Value} (hp : plainName M.1.cls = true) (hlen : (lg_sl as).length ≤ M.2.2.1) (hJ : CM M d as h v h1) (ho : okh h) (hoa : oks h.2.1 as) {l : Launch} (hl : l.stackTraces = false) (D : va_G) (cI cJ : ClassId) (ad : Nat → Nat) (sz : Nat) :
    vx_Met l M.1 (Cond.codeWith M.1 M.2.1 M.2.2.1 M.2.2.2.1 M.2.2.2.2 :: gw) (rmm d (h1.2.2.1 - h.2.2.1) (h1.2.2.2 - h.2.2.2)) (Pcc D cI cJ ad as h sz) (Qcc D cI cJ ad v h h1 sz) (fun _ _ _ => False) (h1.2.2.1 - h.2.2.1) (h1.2.2.2 - h.2.2.2) (va_A (wl cI cJ ad h) sz) := by
  obtain ⟨pc', ls', st', hret, hj⟩ := hJ
  refine vx_ofWH (cc := M.2.1) (maxL := M.2.2.1) (ret := M.2.2.2.1) (hh := M.2.2.2.2) hp rfl ?_
  intro p e s m args below meth c s₁ B hml hv
  obtain ⟨rfl, hsz, hP, hK, hD0, hZ⟩ := hv
  have hts := atoms_spec (ws := Cond.codeWith M.1 M.2.1 M.2.2.1 M.2.2.2.1 M.2.2.2.2 :: gw) B.pre
  subst hsz
  have hD := hD0.self (sz := s.heap.size)
  have X : Cx M p s m (as.map (mv ad)).toArray meth c := ⟨B.exec, B.bytes, hml, findClass_of_methodNamed B.named, fun w hw => hts w (List.mem_cons_of_mem _ hw), B.returns, B.notSynchronized, (name_of_methodNamed B.named B.method).1, vx_table (x := M.1) B (hts _ List.mem_cons_self)⟩
  have hl0 := lv_entry (as.map (mv ad)) (n := M.2.2.1) (by rw [sl_ml]; exact hlen)
  rw [lg_entry_eq]
  generalize (lg_sl (as.map (mv ad)) ++ List.replicate (M.2.2.1 - (lg_sl (as.map (mv ad))).length) Slot.unset).toArray = lsA at hl0 ⊢
  rw [la_ml] at hl0
  have G : Gx M p l (rmm d (h1.2.2.1 - h.2.2.1) (h1.2.2.2 - h.2.2.2)) s m (as.map (mv ad)).toArray meth c D cI cJ (va_A (wl cI cJ ad h) s.heap.size) d := ⟨X, ⟨Nat.le_refl _, Nat.le_refl _⟩, hK, fun q hq => Or.inr hq, hl, hZ⟩
  have P : Pt false M D cI cJ (va_A (wl cI cJ ad h) s.heap.size) s ad (lv_args 0 as) [] h s.heap [] lsA := ⟨⟨hP, hD, va_S.rf, ho⟩, hl0, la_ok hoa, (fun _ h => by cases h), (fun h => by cases h)⟩
  refine vx_ret ?_
  have key := hj.2 p l e (rmm d (h1.2.2.1 - h.2.2.1) (h1.2.2.2 - h.2.2.2)) s m (as.map (mv ad)).toArray below meth c (MQ below (Qcc D cI cJ ad v h h1 s.heap.size) (as.map (mv ad)).toArray s (h1.2.2.1 - h.2.2.1) (h1.2.2.2 - h.2.2.2) (va_A (wl cI cJ ad h) s.heap.size)) D cI cJ (va_A (wl cI cJ ad h) s.heap.size) h.2.2.1 h.2.2.2 G ⟨Nat.le_refl _, Nat.le_refl _, Nat.le_refl _, Nat.le_refl _⟩ ad s.heap [] lsA P (fun ad' H' locs' lsA' hx P' => ?_)
  · rw [Nat.sub_self, Nat.sub_self] at key
    exact key
  · exact ret_W X P' hret (fun t ht hW ho' => ⟨⟨ad', rfl, hx, by rw [ht]; exact P'.1.1, P'.1.2.1, P'.1.2.2.2, ho'⟩, P'.1.2.2.1.F ht⟩)
/-- such a method, static, by its entry in the pool -/
def LSH (own : String) (ix : Nat) (K : MD) (n : Nat) : Prop := plainName K.1.cls = true ∧ Cond.codeWith K.1 K.2.1 K.2.2.1 K.2.2.2.1 K.2.2.2.2 ∈ gw ∧ Cond.methodLink own ix K.1 ∈ gw ∧ Cond.static K.1 ∈ gw ∧ Cond.initialized K.1.cls ∈ gw ∧ (K.1.cls ≠ "java/lang/invoke/MethodHandle" ∧ K.1.cls ≠ "java/lang/invoke/VarHandle" ∧ (parseMethodDescriptor K.1.desc).map (fun d => d.parameters.length) = some n) ∧ K.2.2.1 ≤ 40
theorem s_invsH {M K : MD} {k : Bool} {d d' pc q ix n : Nat} {ls : List (Nat × Value)} {st as rest : List Value} {h h1 : AH} {v : Option Value} (hd : decode M.2.1 pc = .ok (.invokestatic ix, 3)) (hq : pc + 3 = q) (hf : LSH M.1.cls ix K n) (hdd : d' < d) (hn : as.length = n) (hlen : (lg_sl as).length ≤ K.2.2.1) (hst : st = as.reverse ++ rest) (hcat : (rest.map fun v => v.category).sum ≤ 8) (hM : CM K d' as h v h1) (h0 : k = true → h1.1 0 = h.1 0) : J k M d pc ls st h q ls (v.toList ++ rest) h1 := by
  subst hq
  subst hst
  obtain ⟨pcK, lsK, stK, hrK, hjK⟩ := id hM
  refine ⟨hjK.1, fun p l e R s m args below meth c Q D cI cJ A cb sb g r ad H locs lsA P kk => ?_⟩
  obtain ⟨f1, f3, f4, f5, f7, f8, f9⟩ := hf
  obtain ⟨X, gr, gK, gA, gl, gZ⟩ := id g
  have hos := P.2.2.2.1
  have hor := oks_r hos
  have hoa : oks h.2.1 as := fun w hw => oks_l hos w (List.mem_reverse.mpr hw)
  have hM := met_ofH f1 hlen hM P.1.2.2.2 hoa gl D cI cJ ad H.size
  have hb := pre_P (as := as) P gK gA gZ
  have cw : vx_CSW R s args M.1.cls ix K.1 K.2.1 K.2.2.1 K.2.2.2.1 K.2.2.2.2 (Cond.codeWith K.1 K.2.1 K.2.2.1 K.2.2.2.1 K.2.2.2.2 :: gw) (rmm d' (h1.2.2.1 - h.2.2.1) (h1.2.2.2 - h.2.2.2)) (h1.2.2.1 - h.2.2.1) (h1.2.2.2 - h.2.2.2) n :=
    vx_cwSW n X.w (by unfold va_wsS; exact gw_c f4 (gw_c f5 (gw_c f7 (gw_c f3 gw_good)))) rfl rfl rfl f8 ⟨by show d' + 1 ≤ _; omega, by show 8 + (K.2.2.1 + 11) + 64 * d' ≤ _; omega⟩
  have hr := vx_runSX (e := e) (meth := meth) (n := n) (As := as.map (mv ad)) (rest := rest.map (mv ad)) (g := F0 m pc lsA ((as.reverse ++ rest).map (mv ad))) (cells := h.2.2.1 - cb) (slots := h.2.2.2 - sb) (locs := locs) (below := below) (H := H) (Ts := gw) (own := M.1.cls) (index := ix) (nL := M.2.2.1)
    ⟨X.x, X.b, X.2.2.1, X.o, X.w⟩ hM cw ⟨Pcc.blind, hb⟩ rfl (by rw [List.length_map]; exact hn) P.2.1.1 (by rw [List.map_append, List.map_reverse]) (lv_room (by rw [List.map_map]; simpa [Function.comp_def, mv_cat] using hcat)) hd (by have := hjK.1; omega)
  have hr2 : va_Run p l e R s m args below meth c H locs (h.2.2.1 - cb) (h.2.2.2 - sb) (h1.2.2.1 - h.2.2.1) (h1.2.2.2 - h.2.2.2) (F0 m pc lsA ((as.reverse ++ rest).map (mv ad))) (rest.map (mv ad)) (Qcc D cI cJ ad v h h1 H.size (as.map (mv ad)).toArray) (va_A (wl cI cJ ad h) H.size) := fun T hT XX => by
    rcases hr T hT XX with w | ⟨_, _, _, _, _, _, _, _, _, _, _, _, w, _⟩
    · exact w
    · exact w.elim
  refine run_W (rest := rest) hr2 (P.with hor) gA hjK.1.1 h0 (fun ad' H' locs' lsA' hx P' => W.cs (by have := hjK.1; omega) (by have := hjK.1; omega) (kk ad' H' locs' lsA' hx P'))
