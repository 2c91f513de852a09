/-! THE THROW OF A NoSuchElementException: its constructor hands its text on by another entry of its pool -/
section NS
variable {p : Program} {l : Launch} {e : Env} {R : Room} {s : State} {m : MethodId} {args : Array Value} {below : List Frame} {meth : Method} {c : Code}
theorem ns_ctor {V : State} {locs : List Loc} {cells slots ic : Nat} (X : Stand p l e R s m args below meth c V locs cells slots) (hexec : p.tables.exec = Jvm.exec) (htr : e.platform.stackTraces = false) (hown : s.vm.findClass RX7 = some m.cls)
    (h : ∀ w ∈ atN0 ic, w.before args s = true) (hlocs : ∀ x ∈ locs, ∀ cell, s.heap[x.base]? = some cell → cell.vm.isStatics = false)
    {a : Addr} {cX : ClassId} {kX : Class} (hfX : s.vm.findClass nsN = some cX) (hkX : s.vm.classes[cX]? = some kX) (hcell : V.heap[a]? = some (freshCell cX kX)) (hnew : s.heap.size ≤ a) {msg : Value} (hmsg : msg.isRef = true)
    {g : JFrame} (hg : g.method = m) (hsize : g.locals.size = c.maxLocals) (hlocked : g.locked = none) (hentered : g.entered = []) {rest : List Value} (hstack : g.stack = msg :: .ref a :: .ref a :: rest)
    (hd6 : decode c.code g.pc = .ok (.invokespecial ic, 3)) (hd9 : decode c.code (g.pc + 3) = .ok (.athrow, 1)) (hout : ∀ x ∈ c.exceptionTable.toList, covers x (g.pc + 3) = false)
    (hRf : 5 < R.frames) (hRl : 2 * g.monitorRoom + ((Value.ref a :: rest).map fun v => v.category).sum + 81 ≤ R.locals) (hlocks : meth.locks = false) :
    ∃ U : State, Steps p.tables e below (V.setTop g) U ∧ U.status = .running ∧ Ended U below (.threw a) ∧ s.WarmedH U.vm ∧ s.sameButNew ({ U with vm := s.vm } : State) locs cells slots ∧ ∃ ce, U.heap[a]? = some ce ∧ ce.vm = .none ∧ s.vm.findClass nsN = some ce.cls := by
  have ho : e.platform.frameOwnsMonitors = true := by rw [X.admits.platform]
  have hf : e.platform.finalization = false := by rw [X.admits.platform]
  have hpl : e.platform.magicAccessors = ({} : Platform).magicAccessors := by rw [X.admits.platform]
  have w : ∀ x, x ∈ atN0 ic → x.holds args s none s [] = true := fun x hx => h x hx
  obtain ⟨T, Z0, L, -, Y⟩ := ThrowableC.of_atoms (args := args) ho hf hpl (fun x hx => h x (by simp [atN0, hx]))
  obtain ⟨Z, M, LZ, LM, hnZ⟩ := Init0T.ofS_atoms (args := args) hpl L Y (fun x hx => h x (by simp [atN0, hx]))
  obtain ⟨Q1, Qs, hlen, K1, KL, hQm, hlk1, hlk⟩ := Bundle.chainS (args := args) hpl hnZ ["java/lang/Exception"] rtN fitI.2.2.2.1 (fun n hn => fitI.2.2.2.2 n (List.mem_cons_of_mem _ hn)) (fun x hx => h x (by simp [atN0, hx]))
  obtain ⟨P0, K0, hPm, hPs⟩ := PassC.ofS_atoms (args := args) (s := s) hpl (X := nsN) (Y := rtN) (index := 13) (bytes := by13) (Bundle.fit_spec fitI.2.2.1).1 (Bundle.fit_spec fitI.2.2.2.1).2 (by decide +kernel) (by decide +kernel) (by decide +kernel) (by decide +kernel) (fun x hx => h x (by simp [atN0, hx]))
  have hsup : P0.sup = Q1.m := Option.some.inj (hPs.symm.trans hQm)
  have hfound : s.vm.findClass nsN = some P0.m.cls := findClass_of_methodNamed hPm
  cases Option.some.inj (hfX.symm.trans hfound)
  obtain ⟨c1, kY, hc1, hk, hord, -, -, hn6⟩ := Cond.instantiable_spec (w (.instantiable nsN 6) (by simp [atN0]))
  cases Option.some.inj (hc1.symm.trans hfound)
  cases Option.some.inj (hkX.symm.trans hk)
  have sel : ∀ (nm : MethodName) (mm : MethodId), nm.name ≠ "<clinit>" → Cond.selects nsN nm nm ∈ atN0 ic → s.methodNamed? nm = some mm → s.methodFound? nm.cls nm.name nm.desc = some mm → selectMethod e.platform s.vm P0.m.cls mm = .method mm := fun nm mm _ hm hn hn2 => by
    obtain ⟨c2, r2, m2, q1, q2, q3, q4, -⟩ := Cond.selects_spec (w _ hm)
    cases Option.some.inj (q1.symm.trans hfound)
    cases Option.some.inj (q2.symm.trans hn2)
    cases Option.some.inj (q3.symm.trans hn)
    rw [Launch.admits_selectMethod X.admits]; exact q4
  have sel0 := sel Bundle.tFill0 T.fill0 (by decide) (by simp [atN0]) Y.fill0 (State.methodFound?_of_named Y.fill0 (by decide))
  have selF := sel Bundle.tFill T.fill (by decide) (by simp [atN0]) Y.fill (State.methodFound?_of_named Y.fill (by decide))
  obtain ⟨cS, hcS, his⟩ := Y.statics
  obtain ⟨u0, hu0⟩ := Cond.staticRefV Y.unassigned L.unassignedStatic L.statics hcS his (w (.isRef (.static Bundle.tN "UNASSIGNED_STACK" Bundle.steD)) (by simp [atN0]))
  obtain ⟨sen, hsen⟩ := Cond.staticRefV Y.sentinel L.sentinelStatic L.statics hcS his (w (.isRef (.static Bundle.tN "SUPPRESSED_SENTINEL" Bundle.listD)) (by simp [atN0]))
  obtain ⟨ci, i9, fB, q1, q2, q3, hsB, -, hnB, htB, hffB⟩ := Cond.ownField (t := .object "java/lang/Object") Y.found L.cls (by decide +kernel) (w (.fieldLink Bundle.tN 198 Bundle.tN "backtrace" "Ljava/lang/Object;") (by simp [atN0])) (w (.lays Bundle.tN Bundle.tN "backtrace" "Ljava/lang/Object;") (by simp [atN0])) e.platform hpl
  obtain ⟨cV, hcV, heV, -, hkeep⟩ := X.same.2.2.2.2.2 T.aS cS hcS
  have hcV : V.heap[T.aS]? = some cV := hcV
  have hno : ∀ i, (⟨T.aS, i⟩ : Loc) ∉ locs := fun i hm => by
    have := hlocs _ hm cS hcS
    rw [his] at this; cases this
  have hkV : cV.vm ≠ .unknown := by
    rw [heV]; intro hu
    rw [show cS.vm = .unknown from hu] at his
    cases his
  have hne : T.aS ≠ a := Nat.ne_of_lt (Nat.lt_of_lt_of_le (Array.getElem?_eq_some_iff.mp hcS).1 hnew)
  obtain ⟨iM, hffM⟩ := Y.msg
  obtain ⟨tC, dC, xC, yC⟩ := Cond.laysAt hfound hk Y.cause (w (.lays nsN Bundle.tN "cause" "Ljava/lang/Throwable;") (by simp [atN0]))
  obtain ⟨tS, dS, xS, yS⟩ := Cond.laysAt hfound hk Y.stack (w (.lays nsN Bundle.tN "stackTrace" Bundle.steD) (by simp [atN0]))
  obtain ⟨tP, dP, xP, yP⟩ := Cond.laysAt hfound hk Y.supp (w (.lays nsN Bundle.tN "suppressedExceptions" Bundle.listD) (by simp [atN0]))
  obtain ⟨tM, dM, xM, yM⟩ := Cond.laysAt hfound hk hffM (w (.lays nsN Bundle.tN "detailMessage" "Ljava/lang/String;") (by simp [atN0]))
  obtain ⟨tB, dB, xB, yB⟩ := Cond.laysAt hfound hk hffB (w (.lays nsN Bundle.tN "backtrace" "Ljava/lang/Object;") (by simp [atN0]))
  have bC := Cond.laysApart xB xC yB yC (by rw [hnB, Y.causeName]; decide)
  have bS := Cond.laysApart xB xS yB yS (by rw [hnB, Y.stackName]; decide)
  have bP := Cond.laysApart xB xP yB yP (by rw [hnB, Y.suppName]; decide)
  have hskip : SkipFacts T e.platform s (fun u => u) u0 ((preparedCellV T.toThrowableT (freshCell P0.m.cls kX) a u0 sen).withEntry V.cur) :=
    ⟨{ ci198 := ci, i198 := i9, fBack := fB }, ⟨q1, q2, q3, hsB⟩, by
      have z := fresh_default (c := P0.m.cls) tB
      rw [htB] at z
      simpa [preparedCellV, Cell.setSlot, Cell.withEntry, Array.getElem?_setIfInBounds, bC, bS, bP, bC.symm, bS.symm, bP.symm, defaultValue] using z, fun _ _ => rfl⟩
  obtain ⟨tm, _, _, _, v1, hn1, -, -, -, -, -, -, -, W1, st1⟩ := Steps.initColdS (tb := p.tables) (e := e) (below := below) (s := s) (U := V) X.here hexec X.warmed hpl hown (t := Bundle.initS nsN) rfl rfl (Bundle.fit_spec fitI.2.2.1).2
    (w (.methodLink RX7 ic (Bundle.initS nsN)) (by simp [atN0])) (h (.instanceMethod (Bundle.initS nsN)) (by simp [atN0, Bundle.passSAtoms])) (bytes := by13) (maxL := 2) (h (.code (Bundle.initS nsN) by13 2 none) (by simp [atN0, Bundle.passSAtoms]))
    (f := g) hg (a := a) (msg := msg) (rest := .ref a :: rest) hstack hd6
  cases Option.some.inj (hn1.symm.trans hPm)
  have X1 := X.noted W1
  obtain ⟨v2, X2, st2⟩ := X1.ctorMessageOffV hexec (g := { g with stack := .ref a :: rest }) hg hsize T L Z LZ M LM (P0 :: Q1 :: Qs)
    (fun P hP => by
      rcases List.mem_cons.mp hP with rfl | hP
      · exact K0
      · rcases List.mem_cons.mp hP with rfl | hP
        · exact K1
        · exact KL P hP) ⟨hsup, hlk1, hlk⟩ (u0 := u0) (sen := sen) (self := a) hmsg (cell := freshCell P0.m.cls kX) (cellS := cV)
    hcell (fun _ => by simp) (by simp) rfl rfl sel0 selF hcV hne hkV (by rw [hkeep _ (hno _)]; exact hu0) (by rw [hkeep _ (hno _)]; exact hsen)
    (Takes.of_laid hk hord tC (by rw [Y.causeType]; rfl)) (Takes.of_laid hk hord tS (by rw [Y.stackType]; exact fits_refV_array _ u0)) (Takes.of_laid hk hord tP (by rw [Y.suppType]; exact fits_refV_object _ sen))
    (Takes.of_laid hk hord tM (by rw [Y.msgType]; exact fits_refV_object _ ⟨msg, hmsg⟩)) Y.objLocals hskip htr [] hd6
    (by simp only [List.length_cons, hlen, List.length_nil]; omega) (by simp only [List.length_cons, hlen, List.length_nil]; exact hRl)
  obtain ⟨hwalk, hrun, hended, hWU, hsame⟩ := X2.athrowLeaves hexec (g := { g with stack := .ref a :: rest, pc := g.pc + 3 }) hg hlocked hentered hout (a := a) (rest := rest) rfl hd9
  have hlt : a < ((V.setVm v1).setVm v2).heap.size := (Array.getElem?_eq_some_iff.mp hcell).1
  have hU := heapAt_setCell_self (s := (V.setVm v1).setVm v2) (plainBareV T.toThrowableT (freshCell P0.m.cls kX) a u0 sen msg) hlt
  refine ⟨_, st1 _ (fun acts => ?_), hrun, hended, hWU, hsame.weaken (fun y hy hlt' => ?_) (Nat.le_refl _) (Nat.le_refl _), _, hU, rfl, hfound⟩
  · rw [doInvoke_state]
    exact st2 _ hwalk
  · rcases List.mem_append.mp hy with z | z
    · exact z
    · exfalso
      have hb : y.base = a := by
        simp only [List.mem_cons, List.not_mem_nil, or_false] at z
        rcases z with rfl | rfl | rfl | rfl | rfl <;> rfl
      rw [hb] at hlt'
      exact Nat.not_lt.mpr hnew hlt'
end NS
/-- 'throw new NoSuchElementException("..")' -/
theorem xa_newN {M : MD} {d pc is : Nat} {ls : List (Nat × Value)} {h : AH} {text : String} (hM : M.1.cls = RX7) (hstr : (is, text) ∈ strs)
    (d0 : decode M.2.1 pc = .ok (.new 49, 3)) (d3 : decode M.2.1 (pc + 3) = .ok (.dup, 1)) (d4 : decode M.2.1 (pc + 4) = .ok (.ldc is, 2)) (d6 : decode M.2.1 (pc + 6) = .ok (.invokespecial 53, 3)) (d9 : decode M.2.1 (pc + 9) = .ok (.athrow, 1)) (hd : 6 ≤ d) : XA M d pc ls [] h nsN := by
  intro p l e R s m args below meth c D cI cJ A g r hc ad H locs lsA P Qc free hf
  obtain ⟨X, gr, gK, gA, gl, gZ⟩ := id g
  obtain ⟨sa, hsa⟩ := gZ.2.2.1 _ hstr
  have hgo := List.all_eq_true.mp goN
  have hat := List.all_eq_true.mp atNs
  intro T hT XX
  have htr : e.platform.stackTraces = false := (show e.platform.stackTraces = l.stackTraces by rw [XX.admits.platform]).trans gl
  have Y := vx_rebase XX (R' := { frames := R.frames, locals := R.locals, cells := 1, slots := 6 }) (Nat.le_refl _) (Nat.le_refl _) (by show 0 + 1 ≤ R.cells; omega) (by show 0 + 6 ≤ R.slots; omega)
  obtain ⟨s', hA⟩ : ∃ z, z = (T.setVm s.vm).setFrames (.invoking m args :: below) := ⟨_, rfl⟩
  rw [← hA] at Y
  have hvm : s'.vm = s.vm := by rw [hA]; rfl
  have hhp : s'.heap = H := by rw [hA]; exact hT
  have hW0 : s.WarmedH s'.vm := by rw [hvm]; exact State.WarmedH.refl s
  have hB : ∀ w, inW w = true → vx_ot w = true → w.before args s' = true := fun w h1 h2 => vx_ot_at hW0 hvm.symm h2 (inW_b h1 h2 X.w gZ.2.2.2)
  have hU' : vx_Zq Bundle.tN "UNASSIGNED_STACK" Bundle.steD A s' s'.heap := by rw [hhp]; exact vx_Zq.moved hW0.alike (gZ.1.kept P.1.2.2.1.2.1)
  have hN' : vx_Zq Bundle.tN "SUPPRESSED_SENTINEL" Bundle.listD A s' s'.heap := by rw [hhp]; exact vx_Zq.moved hW0.alike (gZ.2.1.kept P.1.2.2.1.2.1)
  have hall : ∀ w ∈ atN0 53, w.before args s' = true := vx_own (L := atN0 53) (fun w hw => hB w (hat w hw) (hgo w (List.mem_cons_of_mem _ (List.mem_cons_of_mem _ hw)))) (vx_isRefq hU'.1) (vx_isRefq hN'.1) hU'.2.word hN'.2.word
  have hown' : s'.vm.findClass RX7 = some m.cls := by rw [hvm, ← hM]; exact X.o
  obtain ⟨vm1, cX, kX, hfX, hkX, -, -, X1, st1⟩ := Y.newCold X.x (own := RX7) (C := nsN) (index := 49) (n := 6) hown' (hB _ liN.1 (hgo _ List.mem_cons_self)) (hall _ (by simp [atN0])) (hB _ liN.2 (hgo _ (List.mem_cons_of_mem _ List.mem_cons_self)))
    (g := F0 m pc lsA []) rfl (by rw [X.b]; exact d0) (Nat.le_refl _) (Nat.le_refl _)
  generalize hT1 : (T.setVm vm1).pushCell { cls := cX, slots := kX.instanceTypes.map defaultValue, vm := .none } = T1 at X1 st1
  have hcellA : T1.heap[T.heap.size]? = some (freshCell cX kX) := by rw [← hT1]; exact State.heap_pushCell_size _ _
  have d3' : decode c.code (pc + 3) = .ok (.dup, 1) := by rw [X.b]; exact d3
  have d4' : decode c.code (pc + 4) = .ok (.ldc is, 2) := by rw [X.b]; exact d4
  have hstr' : vk_R RX7 is text sa s' := vk_R.warm hW0 hsa
  have hl2 := X.2.2.1
  obtain ⟨U, hsteps, hrun, hend, hW, hsame, ce, hce, hcv, hcl⟩ := ns_ctor X1 X.x htr hown' hall (fun x hx => nomatch hx) hfX hkX hcellA (by rw [hhp, hT]; exact Nat.le_refl _) (msg := .ref sa) rfl
    (g := { method := m, pc := pc + 6, locals := lsA, stack := .ref sa :: .ref T.heap.size :: .ref T.heap.size :: [], locked := none }) rfl (P.2.1.1.trans hl2.symm) rfl rfl (rest := []) rfl
    (by rw [X.b]; exact d6) (by rw [X.b]; exact d9) (by rw [hc]; intro x hx; cases hx) (by show 5 < R.frames; omega) (by show 2 * 0 + (1 + 0) + 81 ≤ R.locals; omega) X.2.2.2.2.2.2.1
  obtain ⟨f1, f2⟩ := vx_frame hsame
  rw [hhp] at f1 f2
  have hWs : s.WarmedH U.vm := State.WarmedH.trans hW0 hW
  have hcls : s.vm.findClass nsN = some ce.cls := by rw [← hvm]; exact hcl
  have hsm : s.sameButNew ({ U with vm := s.vm } : State) locs 1 6 := by
    subst hA
    obtain ⟨e1, e2⟩ := hsame
    rw [State.setFrames_setFrames] at e1
    have h2 : (T.setVm s.vm).sameButNew ({ U with vm := s.vm } : State) [] (0 + 1) (0 + 6) := ⟨e1, e2⟩
    have h3 := XX.same.trans h2
    rw [List.append_nil] at h3
    exact h3.mono (Nat.le_refl _) (Nat.le_refl _)
  refine ⟨U, ?_, .threw T.heap.size, hrun, hend, Or.inr ⟨T.heap.size, rfl, nsN, ce, locs, ext_x P f1 (fun q hq => f2 q hq (fun z hz => nomatch hz)), hce, hcv, hcls, hWs, hsm, fun z hz => hf _ (P.1.2.2.1.2.2 z hz)⟩⟩
  refine st1 _ ?_
  show Steps p.tables e below (T1.setTop { method := m, pc := pc + 3, locals := lsA, stack := .ref T.heap.size :: [], locked := none }) _
  have hx := X.x
  jvm_step X1.here [X1.here.top, hx, d3', Value.category]
  exact X1.ldcString X.x (own := RX7) (text := text) (index := is) (a := sa) hown' hstr'.1 hstr'.2
    (g := { method := m, pc := pc + 4, locals := lsA, stack := .ref T.heap.size :: .ref T.heap.size :: [], locked := none }) rfl d4' _ hsteps
