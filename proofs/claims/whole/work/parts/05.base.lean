/-! THE WALKS' BASE. A walk speaks of an abstract heap: cells by their numbers (0 the script, 1, 2, .. the made ones in their order), values whose references are such numbers; how many cells and slots have been spent. 'J .. a b': from the frame a the machine goes to the frame b. -/
abbrev AC : Type := (Nat × (Nat → Int32)) ⊕ ((Nat × (Nat → Int64)) ⊕ (Nat × List Value))
def ia (n : Nat) (f : Nat → Int32) : AC := .inl (n, f)
def la (n : Nat) (f : Nat → Int64) : AC := .inr (.inl (n, f))
def ob (c : Nat) (fs : List Value) : AC := .inr (.inr (c, fs))
/-- cells; how many are made; cells and slots spent -/
abbrev AH : Type := (Nat → AC) × (Nat × (Nat × Nat))
def hs (h : AH) (o : Nat) (c : AC) : AH := (va_up h.1 o c, h.2)
def hw (h : AH) (c : AC) (z : Nat) : AH := (va_up h.1 (h.2.1 + 1) c, (h.2.1 + 1, (h.2.2.1 + 1, h.2.2.2 + z)))
def mv (ad : Nat → Nat) : Value → Value
  | .ref i => .ref (ad i)
  | v => v
def cv (cI cJ : ClassId) (ad : Nat → Nat) : AC → va_E
  | .inl (n, f) => .inl (cI, n, .inl f)
  | .inr (.inl (n, f)) => .inl (cJ, n, .inr (.inl f))
  | .inr (.inr (c, fs)) => .inr (c, fs.map (mv ad))
def wl (cI cJ : ClassId) (ad : Nat → Nat) (h : AH) : va_W := (List.range h.2.1).map (fun j => (ad (j + 1), cv cI cJ ad (h.1 (j + 1))))
def okv (n : Nat) : Value → Prop
  | .ref i => i ≤ n
  | _ => True
def okc (n : Nat) : AC → Prop
  | .inr (.inr (_, fs)) => ∀ v ∈ fs, okv n v
  | _ => True
def okh (h : AH) : Prop := (∃ L xs, h.1 0 = ia L xs) ∧ ∀ i, okc h.2.1 (h.1 i)
def okl (n : Nat) (ls : List (Nat × Value)) : Prop := ∀ q ∈ ls, okv n q.2
def oks (n : Nat) (st : List Value) : Prop := ∀ v ∈ st, okv n v
def lk : List (Nat × Value) → Nat → Option Value
  | [], _ => none
  | (j, v) :: r, i => if j = i then some v else lk r i
def ml (ad : Nat → Nat) (ls : List (Nat × Value)) : List (Nat × Value) := ls.map (fun q => (q.1, mv ad q.2))
theorem lk_in {v : Value} {i : Nat} : ∀ {ls : List (Nat × Value)}, lk ls i = some v → (i, v) ∈ ls
  | [], h => by cases h
  | (j, w) :: r, h => by
    unfold lk at h
    by_cases e : j = i
    · rw [if_pos e] at h; cases h; subst e; exact List.mem_cons_self
    · rw [if_neg e] at h; exact List.mem_cons_of_mem _ (lk_in h)
theorem ml_in {ad : Nat → Nat} {ls : List (Nat × Value)} {i : Nat} {v : Value} (h : (i, v) ∈ ls) : (i, mv ad v) ∈ ml ad ls := List.mem_map.mpr ⟨(i, v), h, rfl⟩
theorem okv_le {n m : Nat} (h : n ≤ m) : ∀ {v : Value}, okv n v → okv m v
  | .ref _, q => Nat.le_trans q h
  | .int _, _ => trivial
  | .long _, _ => trivial
  | .float _, _ => trivial
  | .double _, _ => trivial
  | .null, _ => trivial
  | .retAddr _, _ => trivial
theorem mv_ext {n : Nat} {ad ad' : Nat → Nat} (h : ∀ i, i ≤ n → ad' i = ad i) : ∀ {v : Value}, okv n v → mv ad' v = mv ad v := by
  intro v hv
  cases v <;> first | rfl | (show Value.ref _ = Value.ref _; rw [h _ hv])
theorem okc_le {n m : Nat} (h : n ≤ m) {c : AC} (q : okc n c) : okc m c := by
  match c, q with
  | .inl _, _ => trivial
  | .inr (.inl _), _ => trivial
  | .inr (.inr (_, fs)), q => exact fun v hv => okv_le h (q v hv)
theorem cv_ext {n : Nat} {ad ad' : Nat → Nat} (h : ∀ i, i ≤ n → ad' i = ad i) {cI cJ : ClassId} {c : AC} (q : okc n c) : cv cI cJ ad' c = cv cI cJ ad c := by
  match c, q with
  | .inl (_, _), _ => rfl
  | .inr (.inl (_, _)), _ => rfl
  | .inr (.inr (k, fs)), q =>
    show Sum.inr (k, fs.map (mv ad')) = Sum.inr (k, fs.map (mv ad))
    rw [List.map_congr_left (fun v hv => mv_ext h (q v hv))]
theorem st_ext {n : Nat} {ad ad' : Nat → Nat} (h : ∀ i, i ≤ n → ad' i = ad i) {st : List Value} (q : oks n st) : st.map (mv ad') = st.map (mv ad) := List.map_congr_left (fun v hv => mv_ext h (q v hv))
theorem ml_ext {n : Nat} {ad ad' : Nat → Nat} (h : ∀ i, i ≤ n → ad' i = ad i) {ls : List (Nat × Value)} (q : okl n ls) : ml ad' ls = ml ad ls := List.map_congr_left (fun v hv => by rw [mv_ext h (q v hv)])
theorem wl_get {cI cJ : ClassId} {ad : Nat → Nat} {h : AH} {j : Nat} (hj : j < h.2.1) : (wl cI cJ ad h)[j]? = some (ad (j + 1), cv cI cJ ad (h.1 (j + 1))) := by
  unfold wl
  rw [List.getElem?_map, List.getElem?_range hj]
  rfl
theorem wl_set {cI cJ : ClassId} {ad : Nat → Nat} {h : AH} {j : Nat} {c : AC} : (wl cI cJ ad h).set j (ad (j + 1), cv cI cJ ad c) = wl cI cJ ad (hs h (j + 1) c) := by
  apply List.ext_getElem?
  intro i
  by_cases hi : i < h.2.1
  · rw [wl_get (h := hs h (j + 1) c) hi, List.getElem?_set]
    by_cases e : j = i
    · subst e
      have hl : j < (wl cI cJ ad h).length := by simpa [wl] using hi
      rw [if_pos rfl, if_pos hl]
      simp [hs, va_up]
    · rw [if_neg e, wl_get hi]
      have e2 : ¬ i + 1 = j + 1 := fun q => e (Nat.succ.inj q).symm
      simp [hs, va_up, e2, Ne.symm e]
  · rw [List.getElem?_eq_none (by simpa [wl] using hi), List.getElem?_eq_none (by simpa [wl, hs] using hi)]
theorem wl_push {cI cJ : ClassId} {ad : Nat → Nat} {h : AH} {c : AC} {z q : Nat} (ho : okh h) (hc : okc h.2.1 c) : wl cI cJ ad h ++ [(q, cv cI cJ ad c)] = wl cI cJ (va_up ad (h.2.1 + 1) q) (hw h c z) := by
  have hx : ∀ i, i ≤ h.2.1 → va_up ad (h.2.1 + 1) q i = ad i := fun i hi => by
    have : ¬ i = h.2.1 + 1 := by omega
    simp [va_up, this]
  show _ = (List.range (h.2.1 + 1)).map _
  rw [List.range_succ, List.map_append]
  congr 1
  · unfold wl
    apply List.map_congr_left
    intro j hj
    have hj := List.mem_range.mp hj
    have e : ¬ j + 1 = h.2.1 + 1 := by omega
    rw [hx _ (by omega)]
    congr 1
    show cv cI cJ ad (h.1 (j + 1)) = cv cI cJ _ (va_up h.1 (h.2.1 + 1) c (j + 1))
    simp only [va_up, if_neg e]
    exact (cv_ext hx (ho.2 _)).symm
  · show [_] = [_]
    congr 2
    · simp [va_up]
    · show cv cI cJ ad c = cv cI cJ _ (va_up h.1 (h.2.1 + 1) c (h.2.1 + 1))
      simp only [va_up, if_pos]
      exact (cv_ext hx hc).symm
theorem okh_set {h : AH} {o : Nat} {c : AC} (ho : okh h) (h0 : 0 < o) (hc : okc h.2.1 c) : okh (hs h o c) := by
  obtain ⟨⟨L, xs, e⟩, q⟩ := ho
  refine ⟨⟨L, xs, ?_⟩, fun i => ?_⟩
  · have : ¬ 0 = o := by omega
    simpa [hs, va_up, this] using e
  · show okc h.2.1 (va_up h.1 o c i)
    unfold va_up
    split
    · exact hc
    · exact q i
theorem okh_new {h : AH} {c : AC} {z : Nat} (ho : okh h) (hc : okc h.2.1 c) : okh (hw h c z) := by
  obtain ⟨⟨L, xs, e⟩, q⟩ := ho
  refine ⟨⟨L, xs, ?_⟩, fun i => ?_⟩
  · have : ¬ 0 = h.2.1 + 1 := by omega
    simpa [hw, va_up, this] using e
  · show okc (h.2.1 + 1) (va_up h.1 (h.2.1 + 1) c i)
    unfold va_up
    split
    · exact okc_le (Nat.le_succ _) hc
    · exact okc_le (Nat.le_succ _) (q i)
/-- a method: name, code, locals, answer, handlers -/
abbrev MD : Type := MethodName × (ByteArray × (Nat × (Option FieldType × List (Nat × Nat × Nat × Nat))))
/-- the words that hold in every method -/
def gw : List Cond := lw_tbl.filter goodWord
theorem gm {ws : List Cond} (g : GoodIn lw_tbl ws) {w : Cond} (h : w ∈ ws) : w ∈ gw := by
  obtain ⟨h1, h2⟩ := g w h
  refine List.mem_filter.mpr ⟨h1, ?_⟩
  rcases h2 with q | ⟨ty, rfl⟩
  · cases w <;> first | exact q | rfl
  · rfl
theorem gw_good : GoodIn gw gw := fun w h => ⟨h, good_of_word (List.mem_filter.mp h).2⟩
def Cx (M : MD) (p : Program) (s : State) (m : MethodId) (args : Array Value) (meth : Method) (c : Code) : Prop :=
  p.tables.exec = Jvm.exec ∧ c.code = M.2.1 ∧ c.maxLocals = M.2.2.1 ∧ s.vm.findClass M.1.cls = some m.cls ∧ (∀ w ∈ gw, w.before args s = true) ∧ meth.sig.returnType = M.2.2.2.1 ∧ meth.locks = false ∧ meth.name = M.1.name ∧ c.exceptionTable.toList = tableOf M.2.2.2.2
/-- the String constants that the class throws with -/
def strs : List (Nat × String) := [(51, "there is no such node, or no such thing to tell of it"), (79, "there is no search"), (101, "there is no such token, or no such thing to tell of it"), (134, "there is no such node, kind, mode or bound")]
/-- words that the tables decide, kept from call to call by rows of their own -/
def xw : List Cond := [.methodLinkNest RX7 9 yX2_init "SharedChoices", .methodLinkNest RX3 11 yX1_init "SharedChoices", .methodLinkNest RX3 20 yX0_init "SharedChoices",
  .castable "java/lang/IllegalArgumentException" "java/lang/IllegalArgumentException", .castable "java/util/NoSuchElementException" "java/util/NoSuchElementException", .castable "java/lang/IllegalStateException" "java/lang/IllegalStateException",
  .declares ⟨"java/lang/RuntimeException", "<init>", "(Ljava/lang/String;)V"⟩, .declares ⟨"java/lang/Exception", "<init>", "(Ljava/lang/String;)V"⟩, .declares ⟨"java/lang/Throwable", "<init>", "(Ljava/lang/String;)V"⟩]
theorem xw_warm {s U : State} (hW : s.WarmedH U.vm) : ∀ w ∈ xw, va_Nw w s → va_Nw w U := by
  intro w hw h
  simp only [xw, List.mem_cons, List.not_mem_nil, or_false] at hw
  rcases hw with rfl | rfl | rfl | rfl | rfl | rfl | rfl | rfl | rfl <;> first | exact va_Nw.warmM hW h | exact va_Nw.warmC hW h | exact va_Nw.warmD hW h
theorem xw_same {s U : State} (hv : s.vm = U.vm) : ∀ w ∈ xw, va_Nw w s → va_Nw w U := by
  intro w hw h
  simp only [xw, List.mem_cons, List.not_mem_nil, or_false] at hw
  rcases hw with rfl | rfl | rfl | rfl | rfl | rfl | rfl | rfl | rfl <;> exact va_Nw.same rfl hv h
/-- what a throw reads of the heap -/
def Zs (A : Nat → Prop) (U : State) (H : Heap) : Prop := vx_Zq Bundle.tN "UNASSIGNED_STACK" Bundle.steD A U H ∧ vx_Zq Bundle.tN "SUPPRESSED_SENTINEL" Bundle.listD A U H ∧ (∀ q ∈ strs, ∃ sa, vk_R RX7 q.1 q.2 sa U) ∧ ∀ w ∈ xw, va_Nw w U
def Hd (D : va_G) (cI cJ : ClassId) (A : Nat → Prop) (H0 : Heap) (ad : Nat → Nat) (h : AH) (H : Heap) (locs : List Loc) : Prop :=
  va_P D vwCl (wl cI cJ ad h) H ∧ va_D A (wl cI cJ ad h) ∧ va_S A H0 H locs ∧ okh h
/-- the heap, the locals, the stack; with k the script too -/
def Pt (k : Bool) (M : MD) (D : va_G) (cI cJ : ClassId) (A : Nat → Prop) (s : State) (ad : Nat → Nat) (ls : List (Nat × Value)) (st : List Value) (h : AH) (H : Heap) (locs : List Loc) (lsA : Array Slot) : Prop :=
  Hd D cI cJ A s.heap ad h H locs ∧ lv_has lsA M.2.2.1 (ml ad ls) ∧ okl h.2.1 ls ∧ oks h.2.1 st ∧ (k = true → ∃ L xs, h.1 0 = ia L xs ∧ va_X (ad 0) L xs s s.heap ∧ ad 0 < s.heap.size ∧ ¬ A (ad 0))
/-- what stands around -/
def Gx (M : MD) (p : Program) (l : Launch) (R : Room) (s : State) (m : MethodId) (args : Array Value) (meth : Method) (c : Code) (D : va_G) (cI cJ : ClassId) (A : Nat → Prop) (d : Nat) : Prop :=
  Cx M p s m args meth c ∧ (d ≤ R.frames ∧ 64 * d ≤ R.locals) ∧ va_K D vwCl [(cI, .int), (cJ, .long)] s ∧ (∀ q, s.heap.size ≤ q → A q) ∧ l.stackTraces = false ∧ Zs A s s.heap
def J (k : Bool) (M : MD) (d pc : Nat) (ls : List (Nat × Value)) (st : List Value) (h : AH) (pc' : Nat) (ls' : List (Nat × Value)) (st' : List Value) (h' : AH) : Prop :=
  (h.2.1 ≤ h'.2.1 ∧ h.2.2.1 ≤ h'.2.2.1 ∧ h.2.2.2 ≤ h'.2.2.2) ∧
  ∀ (p : Program) (l : Launch) (e : Env) (R : Room) (s : State) (m : MethodId) (args : Array Value) (below : List Frame) (meth : Method) (c : Code) (Q : State → Prop) (D : va_G) (cI cJ : ClassId) (A : Nat → Prop) (cb sb : Nat),
    Gx M p l R s m args meth c D cI cJ A d → (cb ≤ h.2.2.1 ∧ sb ≤ h.2.2.2 ∧ h'.2.2.1 - cb ≤ R.cells ∧ h'.2.2.2 - sb ≤ R.slots) →
    ∀ (ad : Nat → Nat) (H : Heap) (locs : List Loc) (lsA : Array Slot), Pt k M D cI cJ A s ad ls st h H locs lsA →
    (∀ (ad' : Nat → Nat) (H' : Heap) (locs' : List Loc) (lsA' : Array Slot), (∀ i, i ≤ h.2.1 → ad' i = ad i) → Pt k M D cI cJ A s ad' ls' st' h' H' locs' lsA' →
      W p l e R s m args below meth c H' locs' (h'.2.2.1 - cb) (h'.2.2.2 - sb) Q (F0 m pc' lsA' (st'.map (mv ad')))) →
    W p l e R s m args below meth c H locs (h.2.2.1 - cb) (h.2.2.2 - sb) Q (F0 m pc lsA (st.map (mv ad)))
theorem J.rf {k : Bool} {M : MD} {d pc : Nat} {ls : List (Nat × Value)} {st : List Value} {h : AH} : J k M d pc ls st h pc ls st h :=
  ⟨⟨Nat.le_refl _, Nat.le_refl _, Nat.le_refl _⟩, fun p l e R s m args below meth c Q D cI cJ A cb sb _ _ ad H locs lsA P K => K ad H locs lsA (fun _ _ => rfl) P⟩
theorem J.tr {k : Bool} {M : MD} {d p1 p2 p3 : Nat} {l1 l2 l3 : List (Nat × Value)} {s1 s2 s3 : List Value} {h1 h2 h3 : AH} (a : J k M d p1 l1 s1 h1 p2 l2 s2 h2) (b : J k M d p2 l2 s2 h2 p3 l3 s3 h3) : J k M d p1 l1 s1 h1 p3 l3 s3 h3 := by
  obtain ⟨⟨a1, a2, a3⟩, a⟩ := a
  obtain ⟨⟨b1, b2, b3⟩, b⟩ := b
  refine ⟨⟨Nat.le_trans a1 b1, Nat.le_trans a2 b2, Nat.le_trans a3 b3⟩, fun p l e R s m args below meth c Q D cI cJ A cb sb g r ad H locs lsA P K => ?_⟩
  refine a p l e R s m args below meth c Q D cI cJ A cb sb g ⟨r.1, r.2.1, by omega, by omega⟩ ad H locs lsA P (fun ad' H' locs' lsA' he P' => ?_)
  exact b p l e R s m args below meth c Q D cI cJ A cb sb g ⟨by omega, by omega, r.2.2.1, r.2.2.2⟩ ad' H' locs' lsA' P' (fun ad'' H'' locs'' lsA'' he' P'' => K ad'' H'' locs'' lsA'' (fun i hi => (he' i (Nat.le_trans hi a1)).trans (he i hi)) P'')
