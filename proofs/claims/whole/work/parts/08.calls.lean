/-! a method's end, its contract, calls -/
/-- at its return, with this answer -/
def RetAt (M : MD) (pc : Nat) (st : List Value) : Option Value → Prop
  | none => decode M.2.1 pc = .ok (.return_, 1) ∧ M.2.2.2.1 = none ∧ st = []
  | some (.int x) => decode M.2.1 pc = .ok (.ireturn, 1) ∧ st = [.int x] ∧ ∃ ty, M.2.2.2.1 = some ty ∧ narrow ty (.int x) = .int x
  | some (.long x) => decode M.2.1 pc = .ok (.lreturn, 1) ∧ st = [.long x] ∧ M.2.2.2.1 = some .long
  | some (.ref o) => decode M.2.1 pc = .ok (.areturn, 1) ∧ st = [.ref o] ∧ ∃ rt, M.2.2.2.1 = some rt ∧ ((∃ n, rt = .object n) ∨ ∃ t, rt = .array t)
  | some .null => decode M.2.1 pc = .ok (.areturn, 1) ∧ st = [.null] ∧ ∃ rt, M.2.2.2.1 = some rt ∧ ((∃ n, rt = .object n) ∨ ∃ t, rt = .array t)
  | _ => False
/-- from the frame on, the method returns v and leaves the heap h' -/
def E (k : Bool) (M : MD) (d pc : Nat) (ls : List (Nat × Value)) (st : List Value) (h : AH) (v : Option Value) (h' : AH) : Prop := ∃ pc' ls' st', RetAt M pc' st' v ∧ J k M d pc ls st h pc' ls' st' h'
theorem E.st {k : Bool} {M : MD} {d p1 p2 : Nat} {l1 l2 : List (Nat × Value)} {s1 s2 : List Value} {h1 h2 : AH} {v : Option Value} {h' : AH} (a : J k M d p1 l1 s1 h1 p2 l2 s2 h2) (b : E k M d p2 l2 s2 h2 v h') : E k M d p1 l1 s1 h1 v h' := by
  obtain ⟨pc', ls', st', r, j⟩ := b
  exact ⟨pc', ls', st', r, a.tr j⟩
/-- the method's contract -/
def CM (M : MD) (d : Nat) (as : List Value) (h : AH) (v : Option Value) (h' : AH) : Prop := E false M d 0 (lv_args 0 as) [] h v h'
theorem la_ml {ad : Nat → Nat} : ∀ {as : List Value} {i : Nat}, lv_args i (as.map (mv ad)) = ml ad (lv_args i as)
  | [], _ => rfl
  | v :: r, i => by
    show (i, mv ad v) :: lv_args _ (r.map (mv ad)) = (i, mv ad v) :: ml ad (lv_args _ r)
    rw [la_ml, mv_cat]
theorem sl_ml {ad : Nat → Nat} : ∀ {as : List Value}, (lg_sl (as.map (mv ad))).length = (lg_sl as).length
  | [] => rfl
  | v :: r => by
    have ih := sl_ml (ad := ad) (as := r)
    unfold lg_sl at ih ⊢
    simp only [List.map_cons, List.flatMap_cons, List.length_append, mv_cat, ih]
    split <;> rfl
theorem la_ok {n : Nat} : ∀ {as : List Value} {i : Nat}, oks n as → okl n (lv_args i as)
  | [], _, _ => fun _ h => by cases h
  | v :: r, i, h => okl_c (oks_h h) (la_ok (oks_t h))
def Pcc (D : va_G) (cI cJ : ClassId) (ad : Nat → Nat) (as : List Value) (h : AH) (sz : Nat) : Array Value → State → Prop := fun a U =>
  a = (as.map (mv ad)).toArray ∧ U.heap.size = sz ∧ va_P D vwCl (wl cI cJ ad h) U.heap ∧ va_K D vwCl [(cI, .int), (cJ, .long)] U ∧ va_D (fun _ => True) (wl cI cJ ad h) ∧ Zs (va_A (wl cI cJ ad h) sz) U U.heap
def Qcc (D : va_G) (cI cJ : ClassId) (ad : Nat → Nat) (v : Option Value) (h h1 : AH) (sz : Nat) : Array Value → State → Outcome → State → Prop := fun _ st oc t =>
  (∃ ad' : Nat → Nat, oc = .returned (v.map (mv ad')) ∧ (∀ i, i ≤ h.2.1 → ad' i = ad i) ∧ va_P D vwCl (wl cI cJ ad' h1) t.heap ∧ va_D (va_A (wl cI cJ ad h) sz) (wl cI cJ ad' h1) ∧ okh h1 ∧ oks h1.2.1 v.toList) ∧ va_F (va_A (wl cI cJ ad h) sz) st t
def rmm (d mc ms : Nat) : Room := { frames := d, cells := mc, slots := ms, locals := 64 * d }
theorem Zs.moved {A : Nat → Prop} {u U : State} {H : Heap} (hvm : u.vm.Alike U.vm) (hs : ∀ own k tx a, vk_R own k tx a u → vk_R own k tx a U) (hw : ∀ w ∈ xw, va_Nw w u → va_Nw w U) (h : Zs A u H) : Zs A U H := ⟨vx_Zq.moved hvm h.1, vx_Zq.moved hvm h.2.1, (fun q hq => by obtain ⟨sa, e⟩ := h.2.2.1 q hq; exact ⟨sa, hs _ _ _ _ e⟩), fun w hm => hw w hm (h.2.2.2 w hm)⟩
theorem Zs.kept {A : Nat → Prop} {U : State} {H H1 : Heap} (h : Zs A U H) (hq : ∀ a : Nat, a < H.size → ¬ A a → H1[a]? = H[a]?) : Zs A U H1 := ⟨vx_Zq.kept h.1 hq, vx_Zq.kept h.2.1 hq, h.2.2⟩
theorem Zs.narrow {A B : Nat → Prop} {U : State} {H : Heap} (h : Zs A U H) (hAB : ∀ q, B q → A q) : Zs B U H := ⟨vx_Zq.narrow h.1 hAB, vx_Zq.narrow h.2.1 hAB, h.2.2⟩
theorem Pcc.blind {D : va_G} {cI cJ : ClassId} {ad : Nat → Nat} {as : List Value} {h : AH} {sz : Nat} : FrameBlind (Pcc D cI cJ ad as h sz) := fun a U g mk q => by
  obtain ⟨q0, q1, q2, q3, q4, q5⟩ := q
  exact ⟨q0, q1, q2, va_K.moved (u := U) (U := U.calling g mk a) (Vm.Alike.refl U.vm) q3, q4, Zs.moved (u := U) (U := U.calling g mk a) (Vm.Alike.refl U.vm) (fun _ _ _ _ e => vk_R.same rfl e) (xw_same rfl) q5⟩
/-- a walk's end gives the machine's end -/
theorem ret_W {k : Bool} {M : MD} {p : Program} {l : Launch} {e : Env} {R : Room} {s : State} {m : MethodId} {args : Array Value} {below : List Frame} {meth : Method} {c : Code} {D : va_G} {cI cJ : ClassId} {A : Nat → Prop} {Qc : Array Value → State → Outcome → State → Prop} {ad : Nat → Nat} {H : Heap} {locs : List Loc} {lsA : Array Slot} {cells slots pc : Nat} {ls : List (Nat × Value)} {st : List Value} {h : AH} {v : Option Value}
    (X : Cx M p s m args meth c) (P : Pt k M D cI cJ A s ad ls st h H locs lsA) (r : RetAt M pc st v) (hq : ∀ t : State, t.heap = H → s.WarmedH t.vm → oks h.2.1 v.toList → Qc args s (.returned (v.map (mv ad))) t) :
    W p l e R s m args below meth c H locs cells slots (MQ below Qc args s cells slots A) (F0 m pc lsA (st.map (mv ad))) := by
  have hr := X.2.2.2.2.2.1
  have hl := X.2.2.2.2.2.2.1
  have hf := P.1.2.2.1.2.2
  have hs := P.2.2.2.1
  match v, r with
  | none, r =>
    obtain ⟨r1, r2, rfl⟩ := r
    exact W.vret X.x X.b (hr.trans r2) (fun t ht hW => hq t ht hW (fun _ h => by cases h)) hf r1 hl
  | some (.int x), r =>
    obtain ⟨r1, rfl, ty, r2, r3⟩ := r
    exact W.zret X.x X.b (hr.trans r2) r3 (fun t ht hW => hq t ht hW hs) hf r1 hl
  | some (.long x), r =>
    obtain ⟨r1, rfl, r2⟩ := r
    exact W.lret X.x X.b (hr.trans r2) (fun t ht hW => hq t ht hW hs) hf r1 hl
  | some (.ref o), r =>
    obtain ⟨r1, rfl, rt, r2, r3⟩ := r
    exact W.aret X.x X.b (hr.trans r2) r3 (Or.inr ⟨_, rfl⟩) (fun t ht hW => hq t ht hW hs) hf r1 hl
  | some .null, r =>
    obtain ⟨r1, rfl, rt, r2, r3⟩ := r
    exact W.aret X.x X.b (hr.trans r2) r3 (Or.inl rfl) (fun t ht hW => hq t ht hW hs) hf r1 hl
  | some (.float _), r => exact r.elim
  | some (.double _), r => exact r.elim
  | some (.retAddr _), r => exact r.elim
/-- a code row's table is empty -/
theorem code_table {l : Launch} {p : Program} {y : MethodName} {S : Spec} {cc : ByteArray} {maxL : Nat} {ret : Option FieldType} {e : Env} {s s₁ : State} {m : MethodId} {args : Array Value} {below : List Frame} {meth : Method} {c : Code} (B : BodyLoose p l y S cc maxL ret e s m args below meth c s₁) (h : (Cond.code y cc maxL ret).before args s = true) : c.exceptionTable.toList = [] := by
  obtain ⟨meth9, c9, h1, h2, -, -, -, -, h6, -⟩ := Cond.code_spec B.named h
  cases Option.some.inj (h1.symm.trans B.method)
  cases Option.some.inj (h2.symm.trans (Stand.of_body B).code)
  exact List.isEmpty_iff.mp (by simpa using h6)
theorem met_of {M : MD} {d : Nat} {as : List Value} {h h1 : AH} {v : Option Value} (hp : plainName M.1.cls = true) (hh : M.2.2.2.2 = []) (hc : Cond.code M.1 M.2.1 M.2.2.1 M.2.2.2.1 ∈ gw) (hlen : (lg_sl as).length ≤ M.2.2.1) (hJ : CM M d as h v h1) (ho : okh h) (hoa : oks h.2.1 as) {l : Launch} (hl : l.stackTraces = false) (D : va_G) (cI cJ : ClassId) (ad : Nat → Nat) (sz : Nat) :
    Met l M.1 (Cond.code M.1 M.2.1 M.2.2.1 M.2.2.2.1 :: gw) (rmm d (h1.2.2.1 - h.2.2.1) (h1.2.2.2 - h.2.2.2)) (Pcc D cI cJ ad as h sz) (Qcc D cI cJ ad v h h1 sz) (h1.2.2.1 - h.2.2.1) (h1.2.2.2 - h.2.2.2) (va_A (wl cI cJ ad h) sz) := by
  obtain ⟨pc', ls', st', hret, hj⟩ := hJ
  refine Met.ofW (cc := M.2.1) (maxL := M.2.2.1) (ret := M.2.2.2.1) hp rfl ?_
  intro p e s m args below meth c s₁ B hml hv
  obtain ⟨rfl, hsz, hP, hK, hD0, hZ⟩ := hv
  have hts := atoms_spec (ws := Cond.code M.1 M.2.1 M.2.2.1 M.2.2.2.1 :: gw) B.pre
  subst hsz
  have hD := hD0.self (sz := s.heap.size)
  have X : Cx M p s m (as.map (mv ad)).toArray meth c := ⟨B.exec, B.bytes, hml, findClass_of_methodNamed B.named, fun w hw => hts w (List.mem_cons_of_mem _ hw), B.returns, B.notSynchronized, (name_of_methodNamed B.named B.method).1, by rw [hh]; exact (code_table B (hts _ List.mem_cons_self)).trans rfl⟩
  have hl0 := lv_entry (as.map (mv ad)) (n := M.2.2.1) (by rw [sl_ml]; exact hlen)
  rw [lg_entry_eq]
  generalize (lg_sl (as.map (mv ad)) ++ List.replicate (M.2.2.1 - (lg_sl (as.map (mv ad))).length) Slot.unset).toArray = lsA at hl0 ⊢
  rw [la_ml] at hl0
  have G : Gx M p l (rmm d (h1.2.2.1 - h.2.2.1) (h1.2.2.2 - h.2.2.2)) s m (as.map (mv ad)).toArray meth c D cI cJ (va_A (wl cI cJ ad h) s.heap.size) d := ⟨X, ⟨Nat.le_refl _, Nat.le_refl _⟩, hK, fun q hq => Or.inr hq, hl, hZ⟩
  have P : Pt false M D cI cJ (va_A (wl cI cJ ad h) s.heap.size) s ad (lv_args 0 as) [] h s.heap [] lsA := ⟨⟨hP, hD, va_S.rf, ho⟩, hl0, la_ok hoa, (fun _ h => by cases h), (fun h => by cases h)⟩
  have key := hj.2 p l e (rmm d (h1.2.2.1 - h.2.2.1) (h1.2.2.2 - h.2.2.2)) s m (as.map (mv ad)).toArray below meth c (MQ below (Qcc D cI cJ ad v h h1 s.heap.size) (as.map (mv ad)).toArray s (h1.2.2.1 - h.2.2.1) (h1.2.2.2 - h.2.2.2) (va_A (wl cI cJ ad h) s.heap.size)) D cI cJ (va_A (wl cI cJ ad h) s.heap.size) h.2.2.1 h.2.2.2 G ⟨Nat.le_refl _, Nat.le_refl _, Nat.le_refl _, Nat.le_refl _⟩ ad s.heap [] lsA P (fun ad' H' locs' lsA' hx P' => ?_)
  · rw [Nat.sub_self, Nat.sub_self] at key
    exact key
  · exact ret_W X P' hret (fun t ht hW ho' => ⟨⟨ad', rfl, hx, by rw [ht]; exact P'.1.1, P'.1.2.1, P'.1.2.2.2, ho'⟩, P'.1.2.2.1.F ht⟩)
theorem ext_app {ad ad' : Nat → Nat} {n : Nat} (hx : ∀ i, i ≤ n → ad' i = ad i) {rest : List Value} (ho : oks n rest) (v : Option Value) : (v.map (mv ad')).toList ++ rest.map (mv ad) = (v.toList ++ rest).map (mv ad') := by
  rw [List.map_append, st_ext hx ho]
  cases v <;> rfl
theorem oks_app {n : Nat} {a b : List Value} (ha : oks n a) (hb : oks n b) : oks n (a ++ b) := fun w hw => (List.mem_append.mp hw).elim (ha w) (hb w)
theorem oks_r {n : Nat} {a b : List Value} (h : oks n (a ++ b)) : oks n b := fun w hw => h w (List.mem_append_right _ hw)
theorem oks_l {n : Nat} {a b : List Value} (h : oks n (a ++ b)) : oks n a := fun w hw => h w (List.mem_append_left _ hw)
section CALLS
variable {p : Program} {l : Launch} {e : Env} {R : Room} {s : State} {m : MethodId} {args : Array Value} {below : List Frame} {meth : Method} {c : Code} {Q : State → Prop} {D : va_G} {cI cJ : ClassId} {A : Nat → Prop} {ad : Nat → Nat} {H : Heap} {locs : List Loc} {lsA : Array Slot} {cells slots mc ms : Nat}
variable {k : Bool} {M K : MD} {d d' pc q : Nat} {ls : List (Nat × Value)} {st rest as : List Value} {h h1 : AH} {v : Option Value}
theorem Pt.free (P : Pt k M D cI cJ A s ad ls st h H locs lsA) (hA : ∀ q, s.heap.size ≤ q → A q) : ∀ q, va_A (wl cI cJ ad h) H.size q → A q := fun q hq => hq.elim (fun ⟨i, e, he⟩ => P.1.2.1.2 i _ he) (fun hq => hA q (Nat.le_trans P.1.2.2.1.1 hq))
/-- behind a call -/
theorem run_W {st0 : List Value} {a : Array Value} (hr : va_Run p l e R s m args below meth c H locs cells slots mc ms (F0 m pc lsA st0) (rest.map (mv ad)) (Qcc D cI cJ ad v h h1 H.size a) (va_A (wl cI cJ ad h) H.size))
    (P : Pt k M D cI cJ A s ad ls rest h H locs lsA) (hA : ∀ q, s.heap.size ≤ q → A q) (hn : h.2.1 ≤ h1.2.1) (h0 : k = true → h1.1 0 = h.1 0)
    (kk : ∀ (ad' : Nat → Nat) (H' : Heap) (locs' : List Loc) (lsA' : Array Slot), (∀ i, i ≤ h.2.1 → ad' i = ad i) → Pt k M D cI cJ A s ad' ls (v.toList ++ rest) h1 H' locs' lsA' → W p l e R s m args below meth c H' locs' (cells + mc) (slots + ms) Q (F0 m (pc + 3) lsA' ((v.toList ++ rest).map (mv ad')))) :
    W p l e R s m args below meth c H locs cells slots Q (F0 m pc lsA st0) := by
  intro T hT X
  obtain ⟨v', st₀, t, T', L, e0, X', hL, e1, e2, ⟨⟨ad', hv, hx, hP1, hD1, ho1, hov⟩, hz, hk⟩, stt⟩ := hr T hT X
  cases hv
  rw [e0] at hz hk
  have hF := P.free hA
  obtain ⟨t2, a1, b1⟩ := kk ad' T'.heap (locs ++ L) lsA hx ⟨⟨by rw [e1]; exact hP1, hD1.weaken (fun _ q _ hq => hF _ hq), ⟨Nat.le_trans P.1.2.2.1.1 (by rw [e1]; exact hz), fun q h1 h2 => by
      rw [e1, hk q (Nat.lt_of_lt_of_le h1 P.1.2.2.1.1) (fun z => h2 (hF q z))]; exact P.1.2.2.1.2.1 q h1 h2, fun q hq => by
      rcases List.mem_append.mp hq with h | h
      · exact P.1.2.2.1.2.2 q h
      · exact hF _ (hL q h)⟩, ho1⟩, by rw [ml_ext hx P.2.2.1]; exact P.2.1, fun w hw => okv_le hn (P.2.2.1 w hw), oks_app hov (fun w hw => okv_le hn (P.2.2.2.1 w hw)), fun kt => by
      obtain ⟨L, xs, f0, f1⟩ := P.2.2.2.2 kt
      exact ⟨L, xs, (h0 kt).trans f0, by rw [hx 0 (Nat.zero_le _)]; exact f1⟩⟩ T' rfl X'
  rw [← ext_app hx P.2.2.2.1 v] at a1
  exact ⟨t2, stt t2 a1, b1⟩
/-- the start of a call -/
theorem pre_P (P : Pt k M D cI cJ A s ad ls st h H locs lsA) (hK : va_K D vwCl [(cI, .int), (cJ, .long)] s) (hA : ∀ q, s.heap.size ≤ q → A q) (hZ : Zs A s s.heap) : ∀ U : State, U.heap = H → s.WarmedH U.vm → Pcc D cI cJ ad as h H.size (as.map (mv ad)).toArray U := by
  intro U hU hW
  have hz : Zs A s H := hZ.kept P.1.2.2.1.2.1
  exact ⟨rfl, by rw [hU], by rw [hU]; exact P.1.1, va_K.moved hW.alike hK, P.1.2.1.weaken (fun _ _ _ _ => trivial), by rw [hU]; exact ((hz.moved hW.alike (fun _ _ _ _ e => vk_R.warm hW e) (xw_warm hW)).narrow (P.free hA))⟩
/-- an instance method by its entry in the pool -/
def LV (own : String) (ix : Nat) (K : MD) (n ci : Nat) : Prop := plainName K.1.cls = true ∧ K.2.2.2.2 = [] ∧ Cond.code K.1 K.2.1 K.2.2.1 K.2.2.2.1 ∈ gw ∧ Cond.methodLink own ix K.1 ∈ gw ∧ Cond.instanceMethod K.1 ∈ gw ∧ Cond.selects K.1.cls K.1 K.1 ∈ gw ∧ Cond.initialized K.1.cls ∈ gw ∧ (K.1.cls ≠ "java/lang/invoke/MethodHandle" ∧ K.1.cls ≠ "java/lang/invoke/VarHandle" ∧ (parseMethodDescriptor K.1.desc).map (fun d => d.parameters.length) = some n) ∧ K.2.2.1 ≤ 40 ∧ ∃ T N, vwCl[ci]? = some (K.1.cls, T, N)
theorem gw_c {w : Cond} {ws : List Cond} (h : w ∈ gw) (hs : GoodIn gw ws) : GoodIn gw (w :: ws) := fun w' hw' => (List.mem_cons.mp hw').elim (fun e => e ▸ gw_good w h) (hs w')
theorem s_invv {ix n ci o : Nat} {fs : List Value} (hd : decode M.2.1 pc = .ok (.invokevirtual ix, 3)) (hq : pc + 3 = q) (hf : LV M.1.cls ix K n ci) (hdd : d' < d) (hn : as.length = n) (hlen : (lg_sl (.ref o :: as)).length ≤ K.2.2.1) (hst : st = as.reverse ++ .ref o :: rest) (hcat : (rest.map fun v => v.category).sum ≤ 8) (ho : h.1 o = ob ci fs) (hM : CM K d' (.ref o :: as) h v h1) (h0 : k = true → h1.1 0 = h.1 0) : J k M d pc ls st h q ls (v.toList ++ rest) h1 := by
  subst hq
  subst hst
  obtain ⟨pcK, lsK, stK, hrK, hjK⟩ := id hM
  refine ⟨hjK.1, fun p l e R s m args below meth c Q D cI cJ A cb sb g r ad H locs lsA P kk => ?_⟩
  obtain ⟨f1, f2, f3, f4, f5, f6, f7, f8, f9, T, N, f10⟩ := hf
  obtain ⟨X, gr, gK, gA, gl, gZ⟩ := id g
  have hos := P.2.2.2.1
  have hor := oks_t (oks_r hos)
  have hoo := oks_h (oks_r hos)
  have hoa : oks h.2.1 as := fun w hw => oks_l hos w (List.mem_reverse.mpr hw)
  have hM := met_of f1 f2 f3 hlen hM P.1.2.2.2 (oks_c hoo hoa) gl D cI cJ ad H.size
  have he := wl_at (cI := cI) (cJ := cJ) (ad := ad) (okh_pos P.1.2.2.2 ho) hoo ho
  have hb := pre_P (as := .ref o :: as) P gK gA gZ
  have cw : CallW R s args M.1.cls K.1.cls ix K.1 K.2.1 K.2.2.1 K.2.2.2.1 (Cond.code K.1 K.2.1 K.2.2.1 K.2.2.2.1 :: gw) (rmm d' (h1.2.2.1 - h.2.2.1) (h1.2.2.2 - h.2.2.2)) (h1.2.2.1 - h.2.2.1) (h1.2.2.2 - h.2.2.2) n :=
    cwV n X.w (by unfold wsV; exact gw_c f4 (gw_c f5 (gw_c f6 (gw_c f7 (gw_c f3 gw_good))))) rfl rfl rfl ⟨rfl, f8⟩ ⟨by show d' + 1 ≤ _; omega, by show 8 + (K.2.2.1 + 11) + 64 * d' ≤ _; omega⟩
  have hr := va_runV (e := e) (meth := meth) (n := n) (C := K.1.cls) (b := ad o) (As := as.map (mv ad)) (rest := rest.map (mv ad)) (g := F0 m pc lsA ((as.reverse ++ .ref o :: rest).map (mv ad))) (cells := h.2.2.1 - cb) (slots := h.2.2.2 - sb) (locs := locs) (below := below) (H := H) (Ts := gw) (own := M.1.cls) (index := ix) (nL := M.2.2.1)
    ⟨X.x, X.b, X.2.2.1, X.o, X.w⟩ hM
    cw
    ⟨Pcc.blind, va_recv gK P.1.1 f10 he, hb⟩ rfl (by rw [List.length_map]; exact hn) P.2.1.1 (by rw [List.map_append, List.map_reverse]; rfl) (lv_room (by rw [List.map_map]; simpa [Function.comp_def, mv_cat] using hcat)) hd (by have := hjK.1; omega)
  refine run_W (rest := rest) hr (P.with hor) gA hjK.1.1 h0 (fun ad' H' locs' lsA' hx P' => W.cs (by have := hjK.1; omega) (by have := hjK.1; omega) (kk ad' H' locs' lsA' hx P'))
/-- a static method by its entry in the pool -/
def LSt (own : String) (ix : Nat) (K : MD) (n : Nat) : Prop := plainName K.1.cls = true ∧ K.2.2.2.2 = [] ∧ Cond.code K.1 K.2.1 K.2.2.1 K.2.2.2.1 ∈ gw ∧ Cond.methodLink own ix K.1 ∈ gw ∧ Cond.static K.1 ∈ gw ∧ Cond.initialized K.1.cls ∈ gw ∧ (K.1.cls ≠ "java/lang/invoke/MethodHandle" ∧ K.1.cls ≠ "java/lang/invoke/VarHandle" ∧ (parseMethodDescriptor K.1.desc).map (fun d => d.parameters.length) = some n) ∧ K.2.2.1 ≤ 40
theorem s_invs {ix n : Nat} (hd : decode M.2.1 pc = .ok (.invokestatic ix, 3)) (hq : pc + 3 = q) (hf : LSt M.1.cls ix K n) (hdd : d' < d) (hn : as.length = n) (hlen : (lg_sl as).length ≤ K.2.2.1) (hst : st = as.reverse ++ rest) (hcat : (rest.map fun v => v.category).sum ≤ 8) (hM : CM K d' as h v h1) (h0 : k = true → h1.1 0 = h.1 0) : J k M d pc ls st h q ls (v.toList ++ rest) h1 := by
  subst hq
  subst hst
  obtain ⟨pcK, lsK, stK, hrK, hjK⟩ := id hM
  refine ⟨hjK.1, fun p l e R s m args below meth c Q D cI cJ A cb sb g r ad H locs lsA P kk => ?_⟩
  obtain ⟨f1, f2, f3, f4, f5, f7, f8, f9⟩ := hf
  obtain ⟨X, gr, gK, gA, gl, gZ⟩ := id g
  have hos := P.2.2.2.1
  have hor := oks_r hos
  have hoa : oks h.2.1 as := fun w hw => oks_l hos w (List.mem_reverse.mpr hw)
  have hM := met_of f1 f2 f3 hlen hM P.1.2.2.2 hoa gl D cI cJ ad H.size
  have hb := pre_P (as := as) P gK gA gZ
  have cw : CallB R s args M.1.cls ix K.1 K.2.1 K.2.2.1 K.2.2.2.1 (Cond.code K.1 K.2.1 K.2.2.1 K.2.2.2.1 :: gw) (rmm d' (h1.2.2.1 - h.2.2.1) (h1.2.2.2 - h.2.2.2)) (h1.2.2.1 - h.2.2.1) (h1.2.2.2 - h.2.2.2) n ∧ (Cond.static K.1).before args s = true :=
    va_cwS n X.w (by unfold va_wsS; exact gw_c f4 (gw_c f5 (gw_c f7 (gw_c f3 gw_good)))) rfl rfl rfl f8 ⟨by show d' + 1 ≤ _; omega, by show 8 + (K.2.2.1 + 11) + 64 * d' ≤ _; omega⟩
  have hr := va_runS (e := e) (meth := meth) (n := n) (As := as.map (mv ad)) (rest := rest.map (mv ad)) (g := F0 m pc lsA ((as.reverse ++ rest).map (mv ad))) (cells := h.2.2.1 - cb) (slots := h.2.2.2 - sb) (locs := locs) (below := below) (H := H) (Ts := gw) (own := M.1.cls) (index := ix) (nL := M.2.2.1)
    ⟨X.x, X.b, X.2.2.1, X.o, X.w⟩ hM cw
    ⟨Pcc.blind, hb⟩ rfl (by rw [List.length_map]; exact hn) P.2.1.1 (by rw [List.map_append, List.map_reverse]) (lv_room (by rw [List.map_map]; simpa [Function.comp_def, mv_cat] using hcat)) hd (by have := hjK.1; omega)
  refine run_W (rest := rest) hr (P.with hor) gA hjK.1.1 h0 (fun ad' H' locs' lsA' hx P' => W.cs (by have := hjK.1; omega) (by have := hjK.1; omega) (kk ad' H' locs' lsA' hx P'))
/-- a constructor by its entry in the pool -/
def LI (own : String) (ix : Nat) (K : MD) (n : Nat) : Prop := plainName K.1.cls = true ∧ K.2.2.2.2 = [] ∧ Cond.code K.1 K.2.1 K.2.2.1 none ∈ gw ∧ Cond.methodLink own ix K.1 ∈ gw ∧ Cond.instanceMethod K.1 ∈ gw ∧ Cond.initialized K.1.cls ∈ gw ∧ (K.1.cls ≠ "java/lang/invoke/MethodHandle" ∧ K.1.cls ≠ "java/lang/invoke/VarHandle" ∧ (parseMethodDescriptor K.1.desc).map (fun d => d.parameters.length) = some n) ∧ K.2.2.1 ≤ 40 ∧ K.1.name = "<init>" ∧ K.2.2.2.1 = none
theorem s_invi {ix n o : Nat} (hd : decode M.2.1 pc = .ok (.invokespecial ix, 3)) (hq : pc + 3 = q) (hf : LI M.1.cls ix K n) (hdd : d' < d) (hn : as.length = n) (hlen : (lg_sl (.ref o :: as)).length ≤ K.2.2.1) (hst : st = as.reverse ++ .ref o :: rest) (hcat : (rest.map fun v => v.category).sum ≤ 8) (hM : CM K d' (.ref o :: as) h v h1) (h0 : k = true → h1.1 0 = h.1 0) : J k M d pc ls st h q ls (v.toList ++ rest) h1 := by
  subst hq
  subst hst
  obtain ⟨pcK, lsK, stK, hrK, hjK⟩ := id hM
  refine ⟨hjK.1, fun p l e R s m args below meth c Q D cI cJ A cb sb g r ad H locs lsA P kk => ?_⟩
  obtain ⟨f1, f2, f3, f4, f5, f7, f8, f9, f10, f11⟩ := hf
  obtain ⟨X, gr, gK, gA, gl, gZ⟩ := id g
  have hos := P.2.2.2.1
  have hor := oks_t (oks_r hos)
  have hoo := oks_h (oks_r hos)
  have hoa : oks h.2.1 as := fun w hw => oks_l hos w (List.mem_reverse.mpr hw)
  have hM := met_of f1 f2 (by rw [f11]; exact f3) hlen hM P.1.2.2.2 (oks_c hoo hoa) gl D cI cJ ad H.size
  rw [f11] at hM
  have hb := pre_P (as := .ref o :: as) P gK gA gZ
  have cw : CallB R s args M.1.cls ix K.1 K.2.1 K.2.2.1 none (Cond.code K.1 K.2.1 K.2.2.1 none :: gw) (rmm d' (h1.2.2.1 - h.2.2.1) (h1.2.2.2 - h.2.2.2)) (h1.2.2.1 - h.2.2.1) (h1.2.2.2 - h.2.2.2) n ∧ K.1.name = "<init>" ∧ (Cond.instanceMethod K.1).before args s = true :=
    cwI n X.w (gw_c f3 gw_good) rfl rfl rfl (X.w _ f7) (X.w _ f4) (X.w _ f5) f10 f8 ⟨by show d' + 1 ≤ _; omega, by show 8 + (K.2.2.1 + 11) + 64 * d' ≤ _; omega⟩
  have hr := va_runI (e := e) (meth := meth) (n := n) (b := ad o) (As := as.map (mv ad)) (rest := rest.map (mv ad)) (g := F0 m pc lsA ((as.reverse ++ .ref o :: rest).map (mv ad))) (cells := h.2.2.1 - cb) (slots := h.2.2.2 - sb) (locs := locs) (below := below) (H := H) (Ts := gw) (own := M.1.cls) (index := ix) (nL := M.2.2.1)
    ⟨X.x, X.b, X.2.2.1, X.o, X.w⟩ hM cw
    ⟨Pcc.blind, hb⟩ rfl (by rw [List.length_map]; exact hn) P.2.1.1 (by rw [List.map_append, List.map_reverse]; rfl) (lv_room (by rw [List.map_map]; simpa [Function.comp_def, mv_cat] using hcat)) hd (by have := hjK.1; omega)
  refine run_W (rest := rest) hr (P.with hor) gA hjK.1.1 h0 (fun ad' H' locs' lsA' hx P' => W.cs (by have := hjK.1; omega) (by have := hjK.1; omega) (kk ad' H' locs' lsA' hx P'))
/-- a private constructor of a nest mate -/
def LN (own : String) (ix : Nat) (K : MD) (n : Nat) : Prop := plainName K.1.cls = true ∧ K.2.2.2.2 = [] ∧ Cond.code K.1 K.2.1 K.2.2.1 none ∈ gw ∧ Cond.methodLinkNest own ix K.1 "SharedChoices" ∈ xw ∧ Cond.instanceMethod K.1 ∈ gw ∧ Cond.initialized K.1.cls ∈ gw ∧ (K.1.cls ≠ "java/lang/invoke/MethodHandle" ∧ K.1.cls ≠ "java/lang/invoke/VarHandle" ∧ (parseMethodDescriptor K.1.desc).map (fun d => d.parameters.length) = some n) ∧ K.2.2.1 ≤ 40 ∧ K.1.name = "<init>" ∧ K.2.2.2.1 = none
theorem s_invn {ix n o : Nat} (hd : decode M.2.1 pc = .ok (.invokespecial ix, 3)) (hq : pc + 3 = q) (hf : LN M.1.cls ix K n) (hdd : d' < d) (hn : as.length = n) (hlen : (lg_sl (.ref o :: as)).length ≤ K.2.2.1) (hst : st = as.reverse ++ .ref o :: rest) (hcat : (rest.map fun v => v.category).sum ≤ 8) (hM : CM K d' (.ref o :: as) h v h1) (h0 : k = true → h1.1 0 = h.1 0) : J k M d pc ls st h q ls (v.toList ++ rest) h1 := by
  subst hq
  subst hst
  obtain ⟨pcK, lsK, stK, hrK, hjK⟩ := id hM
  refine ⟨hjK.1, fun p l e R s m args below meth c Q D cI cJ A cb sb g r ad H locs lsA P kk => ?_⟩
  obtain ⟨f1, f2, f3, f4, f5, f7, f8, f9, f10, f11⟩ := hf
  obtain ⟨X, gr, gK, gA, gl, gZ⟩ := id g
  have hos := P.2.2.2.1
  have hor := oks_t (oks_r hos)
  have hoo := oks_h (oks_r hos)
  have hoa : oks h.2.1 as := fun w hw => oks_l hos w (List.mem_reverse.mpr hw)
  have hM := met_of f1 f2 (by rw [f11]; exact f3) hlen hM P.1.2.2.2 (oks_c hoo hoa) gl D cI cJ ad H.size
  rw [f11] at hM
  have hb := pre_P (as := .ref o :: as) P gK gA gZ
  have cw : va_CN R s args M.1.cls ix K.1 "SharedChoices" K.2.1 K.2.2.1 none (Cond.code K.1 K.2.1 K.2.2.1 none :: gw) (rmm d' (h1.2.2.1 - h.2.2.1) (h1.2.2.2 - h.2.2.2)) (h1.2.2.1 - h.2.2.1) (h1.2.2.2 - h.2.2.2) n ∧ K.1.name = "<init>" ∧ (Cond.instanceMethod K.1).before args s = true :=
    ⟨va_cnB n X.w (gw_c f3 gw_good) rfl rfl rfl (gZ.2.2.2 _ f4) (X.w _ f7) f8 ⟨by show d' + 1 ≤ _; omega, by show 8 + (K.2.2.1 + 11) + 64 * d' ≤ _; omega⟩, f10, X.w _ f5⟩
  have hr := va_runIN (e := e) (meth := meth) (n := n) (b := ad o) (As := as.map (mv ad)) (rest := rest.map (mv ad)) (g := F0 m pc lsA ((as.reverse ++ .ref o :: rest).map (mv ad))) (cells := h.2.2.1 - cb) (slots := h.2.2.2 - sb) (locs := locs) (below := below) (H := H) (Ts := gw) (own := M.1.cls) (index := ix) (nL := M.2.2.1)
    ⟨X.x, X.b, X.2.2.1, X.o, X.w⟩ hM cw
    ⟨Pcc.blind, hb⟩ rfl (by rw [List.length_map]; exact hn) P.2.1.1 (by rw [List.map_append, List.map_reverse]; rfl) (lv_room (by rw [List.map_map]; simpa [Function.comp_def, mv_cat] using hcat)) hd (by have := hjK.1; omega)
  refine run_W (rest := rest) hr (P.with hor) gA hjK.1.1 h0 (fun ad' H' locs' lsA' hx P' => W.cs (by have := hjK.1; omega) (by have := hjK.1; omega) (kk ad' H' locs' lsA' hx P'))
/-- Object's constructor -/
theorem s_obj {ix o : Nat} (hd : decode M.2.1 pc = .ok (.invokespecial ix, 3)) (hq : pc + 3 = q) (hf : Cond.methodLink M.1.cls ix Lib.objectInit ∈ gw) (hg : Cond.instanceMethod Lib.objectInit ∈ gw ∧ Cond.code Lib.objectInit ⟨#[0xb1]⟩ 1 none ∈ gw) (hdd : 0 < d) (hcat : (st.map fun v => v.category).sum ≤ 8) : J k M d pc ls (.ref o :: st) h q ls st h := by
  subst hq
  refine ⟨⟨Nat.le_refl _, Nat.le_refl _, Nat.le_refl _⟩, fun p l e R s m args below meth c Q D cI cJ A cb sb g r ad H locs lsA P K => ?_⟩
  have X := g.1
  have hc : ((st.map (mv ad)).map fun v => v.category).sum ≤ 8 := by rw [List.map_map]; simpa [Function.comp_def, mv_cat] using hcat
  exact W.objInit X.x X.b X.o (X.w _ hf) (X.w _ hg.1) (X.w _ hg.2) rfl (P.2.1.1.trans X.2.2.1.symm) rfl hd (by have := g.2.1; omega) (by have := lv_room (m := m) (pc := pc) (ls := lsA) (rest := st.map (mv ad)) hc; have := g.2.1; show 2 * (F0 m pc lsA (st.map (mv ad))).monitorRoom + _ + 12 ≤ _; omega) (K ad H locs lsA (fun _ _ => rfl) (P.with (oks_t P.2.2.2.1)))
/-- two references -/
theorem wl_inj (P : Pt k M D cI cJ A s ad ls st h H locs lsA) {i j : Nat} (i0 : 0 < i) (j0 : 0 < j) (hi : i ≤ h.2.1) (hj : j ≤ h.2.1) (e : ad i = ad j) : i = j := by
  have h1 := wl_at (cI := cI) (cJ := cJ) (ad := ad) i0 hi rfl
  have h2 := wl_at (cI := cI) (cJ := cJ) (ad := ad) j0 hj rfl
  have := P.1.2.1.1 _ _ _ _ h1 h2 e
  omega
theorem s_acmpeq_t {o : Nat} {off : Int} (hd : decode M.2.1 pc = .ok (.if_acmp .eq off, 3)) (hq : (pc : Int) + off = (q : Int)) : J k M d pc ls (.ref o :: .ref o :: st) h q ls st h :=
  J.pure (fun o => oks_t (oks_t o)) (fun p l e R s m args below meth c Q ad H locs cells slots lsA C hl K => lv_acmp_eq (rx := some (ad o)) (ry := some (ad o)) C.x C.b hd hq (fun _ => K) (fun n => absurd rfl n))
theorem s_acmpeq_f {o o2 : Nat} {off : Int} {tg : Nat} (hd : decode M.2.1 pc = .ok (.if_acmp .eq off, 3)) (ht : (pc : Int) + off = (tg : Int)) (hq : pc + 3 = q) (i0 : 0 < o) (j0 : 0 < o2) (hne : o ≠ o2) : J k M d pc ls (.ref o2 :: .ref o :: st) h q ls st h := by
  subst hq
  refine ⟨⟨Nat.le_refl _, Nat.le_refl _, Nat.le_refl _⟩, fun p l e R s m args below meth c Q D cI cJ A cb sb g r ad H locs lsA P K => ?_⟩
  have X := g.1
  exact lv_acmp_eq (rx := some (ad o)) (ry := some (ad o2)) X.x X.b hd ht (fun n => absurd (wl_inj P i0 j0 (oks_h (oks_t P.2.2.2.1)) (oks_h P.2.2.2.1) (Option.some.inj n)) hne) (fun _ => K ad H locs lsA (fun _ _ => rfl) (P.with (oks_t (oks_t P.2.2.2.1))))
end CALLS
