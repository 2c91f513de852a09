/-! steps that read and write the heap -/
theorem ia_ob {n : Nat} {f : Nat → Int32} {c : Nat} {fs : List Value} (h : ia n f = ob c fs) : False := by cases h
theorem ia_la {n m : Nat} {f : Nat → Int32} {g : Nat → Int64} (h : ia n f = la m g) : False := by cases h
theorem okh_pos {h : AH} (ho : okh h) {o c : Nat} {fs : List Value} (e : h.1 o = ob c fs) : 0 < o := by
  rcases Nat.eq_zero_or_pos o with q | q
  · subst q
    obtain ⟨⟨L, xs, e0⟩, -⟩ := ho
    exact absurd (e0.symm.trans e) ia_ob
  · exact q
theorem okh_posL {h : AH} (ho : okh h) {o n : Nat} {f : Nat → Int64} (e : h.1 o = la n f) : 0 < o := by
  rcases Nat.eq_zero_or_pos o with q | q
  · subst q
    obtain ⟨⟨L, xs, e0⟩, -⟩ := ho
    exact absurd (e0.symm.trans e) ia_la
  · exact q
theorem okh_f {h : AH} (ho : okh h) {o c j : Nat} {fs : List Value} {v : Value} (e : h.1 o = ob c fs) (hv : fs[j]? = some v) : okv h.2.1 v := by
  have q := ho.2 o
  rw [e] at q
  exact q v (List.mem_of_getElem? hv)
theorem okh_o {h : AH} (ho : okh h) {o c : Nat} {fs : List Value} (e : h.1 o = ob c fs) : ∀ v ∈ fs, okv h.2.1 v := by
  have q := ho.2 o
  rw [e] at q
  exact q
/-- the cell o in the world's list -/
theorem wl_at {cI cJ : ClassId} {ad : Nat → Nat} {h : AH} {o : Nat} {c : AC} (h0 : 0 < o) (hn : o ≤ h.2.1) (e : h.1 o = c) : (wl cI cJ ad h)[o - 1]? = some (ad o, cv cI cJ ad c) := by
  obtain ⟨j, rfl⟩ : ∃ j, o = j + 1 := ⟨o - 1, by omega⟩
  rw [Nat.add_sub_cancel, wl_get (by omega), e]
theorem wl_put {cI cJ : ClassId} {ad : Nat → Nat} {h : AH} {o : Nat} {c : AC} (h0 : 0 < o) : (wl cI cJ ad h).set (o - 1) (ad o, cv cI cJ ad c) = wl cI cJ ad (hs h o c) := by
  obtain ⟨j, rfl⟩ : ∃ j, o = j + 1 := ⟨o - 1, by omega⟩
  rw [Nat.add_sub_cancel, wl_set]
/-- a field by its entry in the pool: the number of its class, its slot -/
def FL (own : String) (ix ci kf : Nat) : Prop := ∃ (C : String) (T : u_T) (N : Nat), vwCl[ci]? = some (C, T, N) ∧ (∀ w ∈ u_ws C T N, w ∈ gw) ∧ kf < N ∧ Cond.fieldLink own ix (T kf).1 (T kf).2.1 (T kf).2.2.1 ∈ gw
/-- .. and what may be stored there -/
def FP (own : String) (ix ci kf : Nat) (fin : Bool) (ft : FieldType) : Prop := ∃ (C : String) (T : u_T) (N : Nat) (ty : Nat → FieldType), vwCl[ci]? = some (C, T, N) ∧ (∀ w ∈ u_ws C T N, w ∈ gw) ∧ kf < N ∧ Cond.fieldLink own ix (T kf).1 (T kf).2.1 (T kf).2.2.1 ∈ gw ∧
  (∀ k, k < N → parseFieldDescriptor (T k).2.2.1 = some (ty k)) ∧ (∀ a, a < N → ∀ b, b < N → a ≠ b → (T a).2.1 ≠ (T b).2.1) ∧ (T kf).2.2.2 = fin ∧ parseFieldDescriptor (T kf).2.2.1 = some ft ∧ (T kf).1 = own
theorem FP.l {own : String} {ix ci kf : Nat} {fin : Bool} {ft : FieldType} (h : FP own ix ci kf fin ft) : FL own ix ci kf := by
  obtain ⟨C, T, N, ty, h1, h2, h3, h4, -⟩ := h
  exact ⟨C, T, N, h1, h2, h3, h4⟩
section HEAP
variable {k : Bool} {M : MD} {d pc q : Nat} {ls : List (Nat × Value)} {st : List Value} {h : AH}
theorem Pt.with {D : va_G} {cI cJ : ClassId} {A : Nat → Prop} {s : State} {ad : Nat → Nat} {st' : List Value} {H : Heap} {locs : List Loc} {lsA : Array Slot} (P : Pt k M D cI cJ A s ad ls st h H locs lsA) (hs : oks h.2.1 st') : Pt k M D cI cJ A s ad ls st' h H locs lsA := ⟨P.1, P.2.1, P.2.2.1, hs, P.2.2.2.2⟩
theorem s_getf {ix ci kf o : Nat} {fs : List Value} {v : Value} (hd : decode M.2.1 pc = .ok (.getfield ix, 3)) (hq : pc + 3 = q) (hf : FL M.1.cls ix ci kf) (ho : h.1 o = ob ci fs) (hv : fs[kf]? = some v) : J k M d pc ls (.ref o :: st) h q ls (v :: st) h := by
  subst hq
  refine ⟨⟨Nat.le_refl _, Nat.le_refl _, Nat.le_refl _⟩, fun p l e R s m args below meth c Q D cI cJ A cb sb g r ad H locs lsA P K => ?_⟩
  obtain ⟨C, T, N, h1, h2, h3, h4⟩ := hf
  have X := g.1
  have he := wl_at (cI := cI) (cJ := cJ) (ad := ad) (okh_pos P.1.2.2.2 ho) (oks_h P.2.2.2.1) ho
  exact va_get (D := D) (v := mv ad v) X.x X.b X.w h2 X.o g.2.2.1 P.1.1 (o - 1) he h1 kf h3 (X.w _ h4) (fun _ h9 => h9) (by rw [List.getElem?_map, hv]; rfl) hd (K ad H locs lsA (fun _ _ => rfl) (P.with (oks_c (okh_f P.1.2.2.2 ho hv) (oks_t P.2.2.2.1))))
theorem set_ok {n j : Nat} {fs : List Value} {v : Value} (h : ∀ w ∈ fs, okv n w) (hv : okv n v) : ∀ w ∈ fs.set j v, okv n w := fun w hw => (List.mem_or_eq_of_mem_set hw).elim (h w) (fun e => e ▸ hv)
theorem s_put {ix ci kf o : Nat} {ft : FieldType} {fs : List Value} {v : Value} (hd : decode M.2.1 pc = .ok (.putfield ix, 3)) (hq : pc + 3 = q) (hf : FP M.1.cls ix ci kf false ft) (ho : h.1 o = ob ci fs) (hl : kf < fs.length) (hft : ∀ ad, narrow ft (mv ad v) = mv ad v ∧ fits ft (mv ad v) = true) : J k M d pc ls (v :: .ref o :: st) h q ls st (hs h o (ob ci (fs.set kf v))) := by
  subst hq
  refine ⟨⟨Nat.le_refl _, Nat.le_refl _, Nat.le_refl _⟩, fun p l e R s m args below meth c Q D cI cJ A cb sb g r ad H locs lsA P K => ?_⟩
  obtain ⟨C, T, N, ty, h1, h2, h3, h4, h5, h6, h7, h8, h9⟩ := hf
  have X := g.1
  have o0 := okh_pos P.1.2.2.2 ho
  have he := wl_at (cI := cI) (cJ := cJ) (ad := ad) o0 (oks_h (oks_t P.2.2.2.1)) ho
  refine va_put (D := D) (v := mv ad v) X.x X.b X.w h2 ty h5 h6 X.o g.2.2.1 P.1.1 P.1.2.1 P.1.2.2.1 (o - 1) he h1 kf h3 (X.w _ h4) (fun _ h9 => h9) h7 h8 (hft ad).1 (hft ad).2 (by rw [List.length_map]; exact hl) hd (fun H1 locs1 hP hD hS => ?_)
  have ew : (wl cI cJ ad h).set (o - 1) (ad o, .inr (ci, (fs.map (mv ad)).set kf (mv ad v))) = wl cI cJ ad (hs h o (ob ci (fs.set kf v))) := by
    rw [← wl_put o0, ← List.map_set]
    rfl
  rw [ew] at hP hD
  refine K ad H1 locs1 lsA (fun _ _ => rfl) ⟨⟨hP, hD, hS, okh_set P.1.2.2.2 o0 (set_ok (okh_o P.1.2.2.2 ho) (oks_h P.2.2.2.1))⟩, P.2.1, P.2.2.1, oks_t (oks_t P.2.2.2.1), fun kk => ?_⟩
  obtain ⟨L, xs, e0, e1⟩ := P.2.2.2.2 kk
  exact ⟨L, xs, by rw [← e0]; show va_up h.1 o _ 0 = _; simp [va_up, Nat.ne_of_lt o0], e1⟩
theorem s_putF {ix ci kf o : Nat} {ft : FieldType} {fs : List Value} {v : Value} (hd : decode M.2.1 pc = .ok (.putfield ix, 3)) (hq : pc + 3 = q) (hf : FP M.1.cls ix ci kf true ft) (hi : M.1.name = "<init>") (ho : h.1 o = ob ci fs) (hl : kf < fs.length) (hft : ∀ ad, narrow ft (mv ad v) = mv ad v ∧ fits ft (mv ad v) = true) : J k M d pc ls (v :: .ref o :: st) h q ls st (hs h o (ob ci (fs.set kf v))) := by
  subst hq
  refine ⟨⟨Nat.le_refl _, Nat.le_refl _, Nat.le_refl _⟩, fun p l e R s m args below meth c Q D cI cJ A cb sb g r ad H locs lsA P K => ?_⟩
  obtain ⟨C, T, N, ty, h1, h2, h3, h4, h5, h6, h7, h8, h9⟩ := hf
  have X := g.1
  have o0 := okh_pos P.1.2.2.2 ho
  have he := wl_at (cI := cI) (cJ := cJ) (ad := ad) o0 (oks_h (oks_t P.2.2.2.1)) ho
  refine va_putF (D := D) (v := mv ad v) X.x X.b X.w h2 ty h5 h6 X.o g.2.2.1 P.1.1 P.1.2.1 P.1.2.2.1 (o - 1) he h1 kf h3 (X.w _ h4) (fun _ h9 => h9) h7 (X.2.2.2.2.2.2.2.1.trans hi) h9 h8 (hft ad).1 (hft ad).2 (by rw [List.length_map]; exact hl) hd (fun H1 locs1 hP hD hS => ?_)
  have ew : (wl cI cJ ad h).set (o - 1) (ad o, .inr (ci, (fs.map (mv ad)).set kf (mv ad v))) = wl cI cJ ad (hs h o (ob ci (fs.set kf v))) := by
    rw [← wl_put o0, ← List.map_set]
    rfl
  rw [ew] at hP hD
  refine K ad H1 locs1 lsA (fun _ _ => rfl) ⟨⟨hP, hD, hS, okh_set P.1.2.2.2 o0 (set_ok (okh_o P.1.2.2.2 ho) (oks_h P.2.2.2.1))⟩, P.2.1, P.2.2.1, oks_t (oks_t P.2.2.2.1), fun kk => ?_⟩
  obtain ⟨L, xs, e0, e1⟩ := P.2.2.2.2 kk
  exact ⟨L, xs, by rw [← e0]; show va_up h.1 o _ 0 = _; simp [va_up, Nat.ne_of_lt o0], e1⟩
theorem s_iald {o n : Nat} {f : Nat → Int32} {i : Int32} (hd : decode M.2.1 pc = .ok (.iaload, 1)) (hq : pc + 1 = q) (o0 : 0 < o) (ho : h.1 o = ia n f) (hi : vp_in i n) : J k M d pc ls (.int i :: .ref o :: st) h q ls (.int (f i.toNatClampNeg) :: st) h := by
  subst hq
  refine ⟨⟨Nat.le_refl _, Nat.le_refl _, Nat.le_refl _⟩, fun p l e R s m args below meth c Q D cI cJ A cb sb g r ad H locs lsA P K => ?_⟩
  have X := g.1
  have he := wl_at (cI := cI) (cJ := cJ) (ad := ad) o0 (oks_h (oks_t P.2.2.2.1)) ho
  exact va_iald (D := D) X.x X.b g.2.2.1 P.1.1 (o - 1) 0 he rfl hi hd (K ad H locs lsA (fun _ _ => rfl) (P.with (oks_c trivial (oks_t (oks_t P.2.2.2.1)))))
theorem s_lald {o n : Nat} {f : Nat → Int64} {i : Int32} (hd : decode M.2.1 pc = .ok (.laload, 1)) (hq : pc + 1 = q) (ho : h.1 o = la n f) (hi : vp_in i n) : J k M d pc ls (.int i :: .ref o :: st) h q ls (.long (f i.toNatClampNeg) :: st) h := by
  subst hq
  refine ⟨⟨Nat.le_refl _, Nat.le_refl _, Nat.le_refl _⟩, fun p l e R s m args below meth c Q D cI cJ A cb sb g r ad H locs lsA P K => ?_⟩
  have X := g.1
  have he := wl_at (cI := cI) (cJ := cJ) (ad := ad) (okh_posL P.1.2.2.2 ho) (oks_h (oks_t P.2.2.2.1)) ho
  exact va_lald (D := D) X.x X.b g.2.2.1 P.1.1 (o - 1) 1 he rfl hi hd (K ad H locs lsA (fun _ _ => rfl) (P.with (oks_c trivial (oks_t (oks_t P.2.2.2.1)))))
theorem s_iast {o n : Nat} {f : Nat → Int32} {i x : Int32} (hd : decode M.2.1 pc = .ok (.iastore, 1)) (hq : pc + 1 = q) (o0 : 0 < o) (ho : h.1 o = ia n f) (hi : vp_in i n) : J k M d pc ls (.int x :: .int i :: .ref o :: st) h q ls st (hs h o (ia n (upd f i.toNatClampNeg x))) := by
  subst hq
  refine ⟨⟨Nat.le_refl _, Nat.le_refl _, Nat.le_refl _⟩, fun p l e R s m args below meth c Q D cI cJ A cb sb g r ad H locs lsA P K => ?_⟩
  have X := g.1
  have he := wl_at (cI := cI) (cJ := cJ) (ad := ad) o0 (oks_h (oks_t (oks_t P.2.2.2.1))) ho
  refine va_iast (D := D) X.x X.b g.2.2.1 P.1.1 P.1.2.1 P.1.2.2.1 (o - 1) 0 he rfl hi hd (fun H1 locs1 hP hD hS => ?_)
  have ew : (wl cI cJ ad h).set (o - 1) (ad o, .inl (cI, n, .inl (upd f i.toNatClampNeg x))) = wl cI cJ ad (hs h o (ia n (upd f i.toNatClampNeg x))) := by
    rw [← wl_put o0]
    rfl
  rw [ew] at hP hD
  refine K ad H1 locs1 lsA (fun _ _ => rfl) ⟨⟨hP, hD, hS, okh_set P.1.2.2.2 o0 trivial⟩, P.2.1, P.2.2.1, oks_t (oks_t (oks_t P.2.2.2.1)), fun kk => ?_⟩
  obtain ⟨L, xs, e0, e1⟩ := P.2.2.2.2 kk
  exact ⟨L, xs, by rw [← e0]; show va_up h.1 o _ 0 = _; simp [va_up, Nat.ne_of_lt o0], e1⟩
theorem s_last {o n : Nat} {f : Nat → Int64} {i : Int32} {x : Int64} (hd : decode M.2.1 pc = .ok (.lastore, 1)) (hq : pc + 1 = q) (ho : h.1 o = la n f) (hi : vp_in i n) : J k M d pc ls (.long x :: .int i :: .ref o :: st) h q ls st (hs h o (la n (vp_updL f i.toNatClampNeg x))) := by
  subst hq
  refine ⟨⟨Nat.le_refl _, Nat.le_refl _, Nat.le_refl _⟩, fun p l e R s m args below meth c Q D cI cJ A cb sb g r ad H locs lsA P K => ?_⟩
  have X := g.1
  have o0 := okh_posL P.1.2.2.2 ho
  have he := wl_at (cI := cI) (cJ := cJ) (ad := ad) o0 (oks_h (oks_t (oks_t P.2.2.2.1))) ho
  refine va_last (D := D) X.x X.b g.2.2.1 P.1.1 P.1.2.1 P.1.2.2.1 (o - 1) 1 he rfl hi hd (fun H1 locs1 hP hD hS => ?_)
  have ew : (wl cI cJ ad h).set (o - 1) (ad o, .inl (cJ, n, .inr (.inl (vp_updL f i.toNatClampNeg x)))) = wl cI cJ ad (hs h o (la n (vp_updL f i.toNatClampNeg x))) := by
    rw [← wl_put o0]
    rfl
  rw [ew] at hP hD
  refine K ad H1 locs1 lsA (fun _ _ => rfl) ⟨⟨hP, hD, hS, okh_set P.1.2.2.2 o0 trivial⟩, P.2.1, P.2.2.1, oks_t (oks_t (oks_t P.2.2.2.1)), fun kk => ?_⟩
  obtain ⟨L, xs, e0, e1⟩ := P.2.2.2.2 kk
  exact ⟨L, xs, by rw [← e0]; show va_up h.1 o _ 0 = _; simp [va_up, Nat.ne_of_lt o0], e1⟩
theorem s_alenI {o n : Nat} {f : Nat → Int32} {v : Int32} (hd : decode M.2.1 pc = .ok (.arraylength, 1)) (hq : pc + 1 = q) (o0 : 0 < o) (ho : h.1 o = ia n f) (hv : nI n = v) : J k M d pc ls (.ref o :: st) h q ls (.int v :: st) h := by
  subst hq
  refine ⟨⟨Nat.le_refl _, Nat.le_refl _, Nat.le_refl _⟩, fun p l e R s m args below meth c Q D cI cJ A cb sb g r ad H locs lsA P K => ?_⟩
  have X := g.1
  have he := wl_at (cI := cI) (cJ := cJ) (ad := ad) o0 (oks_h P.2.2.2.1) ho
  exact va_alen (D := D) X.x X.b g.2.2.1 P.1.1 (o - 1) 0 he rfl hv hd (K ad H locs lsA (fun _ _ => rfl) (P.with (oks_c trivial (oks_t P.2.2.2.1))))
theorem s_alenL {o n : Nat} {f : Nat → Int64} {v : Int32} (hd : decode M.2.1 pc = .ok (.arraylength, 1)) (hq : pc + 1 = q) (ho : h.1 o = la n f) (hv : nI n = v) : J k M d pc ls (.ref o :: st) h q ls (.int v :: st) h := by
  subst hq
  refine ⟨⟨Nat.le_refl _, Nat.le_refl _, Nat.le_refl _⟩, fun p l e R s m args below meth c Q D cI cJ A cb sb g r ad H locs lsA P K => ?_⟩
  have X := g.1
  have he := wl_at (cI := cI) (cJ := cJ) (ad := ad) (okh_posL P.1.2.2.2 ho) (oks_h P.2.2.2.1) ho
  exact va_alen (D := D) X.x X.b g.2.2.1 P.1.1 (o - 1) 1 he rfl hv hd (K ad H locs lsA (fun _ _ => rfl) (P.with (oks_c trivial (oks_t P.2.2.2.1))))
/-- the script -/
theorem s_sld {n : Nat} {f : Nat → Int32} {i : Int32} (hd : decode M.2.1 pc = .ok (.iaload, 1)) (hq : pc + 1 = q) (ho : h.1 0 = ia n f) (hi : vp_in i n) : J true M d pc ls (.int i :: .ref 0 :: st) h q ls (.int (f i.toNatClampNeg) :: st) h := by
  subst hq
  refine ⟨⟨Nat.le_refl _, Nat.le_refl _, Nat.le_refl _⟩, fun p l e R s m args below meth c Q D cI cJ A cb sb g r ad H locs lsA P K => ?_⟩
  have X := g.1
  obtain ⟨L, xs, e0, e1, e2, e3⟩ := P.2.2.2.2 rfl
  cases ho.symm.trans e0
  exact va_sld X.x X.b e1 e2 e3 P.1.2.2.1 hi hd (K ad H locs lsA (fun _ _ => rfl) (P.with (oks_c trivial (oks_t (oks_t P.2.2.2.1)))))
theorem s_slen {n : Nat} {f : Nat → Int32} {v : Int32} (hd : decode M.2.1 pc = .ok (.arraylength, 1)) (hq : pc + 1 = q) (ho : h.1 0 = ia n f) (hv : nI n = v) : J true M d pc ls (.ref 0 :: st) h q ls (.int v :: st) h := by
  subst hv
  subst hq
  refine ⟨⟨Nat.le_refl _, Nat.le_refl _, Nat.le_refl _⟩, fun p l e R s m args below meth c Q D cI cJ A cb sb g r ad H locs lsA P K => ?_⟩
  have X := g.1
  obtain ⟨L, xs, e0, e1, e2, e3⟩ := P.2.2.2.2 rfl
  cases ho.symm.trans e0
  exact va_slen X.x X.b e1 e2 e3 P.1.2.2.1 hd (K ad H locs lsA (fun _ _ => rfl) (P.with (oks_c trivial (oks_t P.2.2.2.1))))
/-- a world with one cell more -/
theorem Pt.new {D : va_G} {cI cJ : ClassId} {A : Nat → Prop} {s : State} {ad : Nat → Nat} {st' : List Value} {H H1 : Heap} {locs : List Loc} {lsA : Array Slot} {ac : AC} {z a : Nat} (P : Pt k M D cI cJ A s ad ls st h H locs lsA) (hac : okc h.2.1 ac) (hP : va_P D vwCl (wl cI cJ ad h ++ [(a, cv cI cJ ad ac)]) H1) (hD : va_D A (wl cI cJ ad h ++ [(a, cv cI cJ ad ac)])) (hS : va_S A s.heap H1 locs) (hs : oks h.2.1 st') :
    (∀ i, i ≤ h.2.1 → va_up ad (h.2.1 + 1) a i = ad i) ∧ Pt k M D cI cJ A s (va_up ad (h.2.1 + 1) a) ls (.ref (h.2.1 + 1) :: st') (hw h ac z) H1 locs lsA := by
  have hx : ∀ i, i ≤ h.2.1 → va_up ad (h.2.1 + 1) a i = ad i := fun i hi => by
    have : ¬ i = h.2.1 + 1 := by omega
    simp [va_up, this]
  rw [wl_push (z := z) P.1.2.2.2 hac] at hP hD
  refine ⟨hx, ⟨hP, hD, hS, okh_new P.1.2.2.2 hac⟩, by rw [ml_ext hx P.2.2.1]; exact P.2.1, fun w hw => okv_le (Nat.le_succ _) (P.2.2.1 w hw), oks_c (Nat.le_refl _) (fun w hw => okv_le (Nat.le_succ _) (hs w hw)), fun kk => ?_⟩
  obtain ⟨L, xs, e0, e1⟩ := P.2.2.2.2 kk
  refine ⟨L, xs, by rw [← e0]; show va_up h.1 (h.2.1 + 1) ac 0 = h.1 0; simp [va_up], ?_⟩
  rw [hx 0 (Nat.zero_le _)]
  exact e1
theorem Pt.stk {D : va_G} {cI cJ : ClassId} {A : Nat → Prop} {s : State} {ad ad' : Nat → Nat} {H : Heap} {locs : List Loc} {lsA : Array Slot} (P : Pt k M D cI cJ A s ad ls st h H locs lsA) (hx : ∀ i, i ≤ h.2.1 → ad' i = ad i) : st.map (mv ad') = st.map (mv ad) := st_ext hx P.2.2.2.1
/-- an object by its class's entry in the pool: the number of its class, the fields at first -/
def NL (own : String) (ix ci N : Nat) (fs : List Value) : Prop := ∃ (C : String) (T : u_T) (ty : Nat → FieldType), vwCl[ci]? = some (C, T, N) ∧ (∀ w ∈ u_ws C T N, w ∈ gw) ∧ (∀ k, k < N → parseFieldDescriptor (T k).2.2.1 = some (ty k)) ∧ Cond.classLink own ix C ∈ gw ∧ Cond.instantiable C N ∈ gw ∧ Cond.initialized C ∈ gw ∧ (∀ j, j < N → defaultValue (ty j) = vp_V fs j) ∧ (∀ v ∈ fs, ∀ ad, mv ad v = v) ∧ ∀ v ∈ fs, ∀ n, okv n v
theorem s_new {ix ci N : Nat} {fs : List Value} (hd : decode M.2.1 pc = .ok (.new ix, 3)) (hq : pc + 3 = q) (hf : NL M.1.cls ix ci N fs) : J k M d pc ls st h q ls (.ref (h.2.1 + 1) :: st) (hw h (ob ci fs) N) := by
  subst hq
  refine ⟨⟨Nat.le_succ _, Nat.le_succ _, Nat.le_add_right _ _⟩, fun p l e R s m args below meth c Q D cI cJ A cb sb g r ad H locs lsA P K => ?_⟩
  have X := g.1
  obtain ⟨C, T, ty, h1, h2, h3, h4, h5, h6, h7, h8, h9⟩ := hf
  have efs : fs.map (mv ad) = fs := by
    rw [List.map_congr_left (fun v hv => h8 v hv ad), List.map_id'']
    exact fun _ => rfl
  refine va_new (D := D) (fs := fs) X.x X.b X.w h2 ty h3 X.o (X.w _ h4) (X.w _ h5) (X.w _ h6) g.2.2.1 P.1.1 P.1.2.1 P.1.2.2.1 g.2.2.2.1 h1 h7 (Nat.le_trans (by show _ ≤ h.2.2.1 + 1 - cb; have := r.1; omega) r.2.2.1) (Nat.le_trans (by show _ ≤ h.2.2.2 + N - sb; have := r.2.1; omega) r.2.2.2) hd (fun a H1 hP hD hS => ?_)
  have ec : (Sum.inr (ci, fs) : va_E) = cv cI cJ ad (ob ci fs) := by
    show _ = Sum.inr (ci, fs.map (mv ad))
    rw [efs]
  rw [ec] at hP hD
  obtain ⟨hx, P'⟩ := P.new (z := N) (ac := ob ci fs) (fun v hv => h9 v hv _) hP hD hS P.2.2.2.1
  have := K _ H1 locs lsA hx P'
  rw [List.map_cons, P.stk hx] at this
  have e2 : mv (va_up ad (h.2.1 + 1) a) (.ref (h.2.1 + 1)) = .ref a := by simp [mv, va_up]
  rw [e2] at this
  exact W.cs (by show _ = h.2.2.1 + 1 - cb; have := r.1; omega) (by show _ = h.2.2.2 + N - sb; have := r.2.1; omega) this
theorem K_cls {D : va_G} {tys : List (ClassId × FieldType)} {s : State} {cA cI : ClassId} {ty : FieldType} {i : Nat} (h1 : va_K D vwCl tys s) (hi : tys[i]? = some (cI, ty)) (hn : ∀ C, ty ≠ .object C) (h2 : va_RA s cA ty) : cA = cI := by
  have q := (h1.2 i _ hi).2
  cases ty <;> first | exact absurd rfl (hn _) | exact Option.some.inj (h2.symm.trans q)
theorem s_newI {n : Int32} {N : Nat} (hd : decode M.2.1 pc = .ok (.newarray .int, 2)) (hq : pc + 2 = q) (hn : ¬ n < 0) (hN : n.toNatClampNeg = N) (hb : N ≤ 1000000) : J k M d pc ls (.int n :: st) h q ls (.ref (h.2.1 + 1) :: st) (hw h (ia N (fun _ => 0)) N) := by
  subst hq
  refine ⟨⟨Nat.le_succ _, Nat.le_succ _, Nat.le_add_right _ _⟩, fun p l e R s m args below meth c Q D cI cJ A cb sb g r ad H locs lsA P K => ?_⟩
  have X := g.1
  refine va_newa (D := D) (a0 := (N, .inl (fun _ => 0))) X.x X.b (X.w _ (gm (ws := wsL_law0) gi_law0 (by decide +kernel))) rfl g.2.2.1 P.1.1 P.1.2.1 P.1.2.2.1 g.2.2.2.1 (fun cA => rfl) hn hN (by show N * 4 ≤ _; omega) (Nat.le_trans (by show _ ≤ h.2.2.1 + 1 - cb; have := r.1; omega) r.2.2.1) (Nat.le_trans (by show _ ≤ h.2.2.2 + N - sb; have := r.2.1; omega) r.2.2.2) hd (fun a cA H1 hK hP hD hS => ?_)
  have ecA : cA = cI := K_cls g.2.2.1 (i := 0) rfl (fun _ h => by cases h) (hK.2 2 _ rfl).2
  subst ecA
  obtain ⟨hx, P'⟩ := P.new (z := N) (ac := ia N (fun _ => 0)) trivial hP hD hS (oks_t P.2.2.2.1)
  have := K _ H1 locs lsA hx P'
  rw [List.map_cons, st_ext hx (oks_t P.2.2.2.1)] at this
  have e2 : mv (va_up ad (h.2.1 + 1) a) (.ref (h.2.1 + 1)) = .ref a := by simp [mv, va_up]
  rw [e2] at this
  exact W.cs (by show _ = h.2.2.1 + 1 - cb; have := r.1; omega) (by show _ = h.2.2.2 + N - sb; have := r.2.1; omega) this
theorem s_newL {n : Int32} {N : Nat} (hd : decode M.2.1 pc = .ok (.newarray .long, 2)) (hq : pc + 2 = q) (hn : ¬ n < 0) (hN : n.toNatClampNeg = N) (hb : N ≤ 1000000) : J k M d pc ls (.int n :: st) h q ls (.ref (h.2.1 + 1) :: st) (hw h (la N (fun _ => 0)) N) := by
  subst hq
  refine ⟨⟨Nat.le_succ _, Nat.le_succ _, Nat.le_add_right _ _⟩, fun p l e R s m args below meth c Q D cI cJ A cb sb g r ad H locs lsA P K => ?_⟩
  have X := g.1
  refine va_newa (D := D) (a0 := (N, .inr (.inl (fun _ => 0)))) X.x X.b (X.w _ (gm (ws := wsL_law0) gi_law0 (by decide +kernel))) rfl g.2.2.1 P.1.1 P.1.2.1 P.1.2.2.1 g.2.2.2.1 (fun cA => rfl) hn hN (by show N * 8 ≤ _; omega) (Nat.le_trans (by show _ ≤ h.2.2.1 + 1 - cb; have := r.1; omega) r.2.2.1) (Nat.le_trans (by show _ ≤ h.2.2.2 + N - sb; have := r.2.1; omega) r.2.2.2) hd (fun a cA H1 hK hP hD hS => ?_)
  have ecA : cA = cJ := K_cls g.2.2.1 (i := 1) rfl (fun _ h => by cases h) (hK.2 2 _ rfl).2
  subst ecA
  obtain ⟨hx, P'⟩ := P.new (z := N) (ac := la N (fun _ => 0)) trivial hP hD hS (oks_t P.2.2.2.1)
  have := K _ H1 locs lsA hx P'
  rw [List.map_cons, st_ext hx (oks_t P.2.2.2.1)] at this
  have e2 : mv (va_up ad (h.2.1 + 1) a) (.ref (h.2.1 + 1)) = .ref a := by simp [mv, va_up]
  rw [e2] at this
  exact W.cs (by show _ = h.2.2.1 + 1 - cb; have := r.1; omega) (by show _ = h.2.2.2 + N - sb; have := r.2.1; omega) this
end HEAP
