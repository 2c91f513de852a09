/-! objects by a function of their fields; Math, arraycopy; ends -/
def fo (N : Nat) (F : Nat → Value) : List Value := (List.range N).map F
theorem fo_get {N k : Nat} {F : Nat → Value} (h : k < N) : (fo N F)[k]? = some (F k) := by
  unfold fo
  rw [List.getElem?_map, List.getElem?_range h]
  rfl
theorem fo_len {N : Nat} {F : Nat → Value} : (fo N F).length = N := by simp [fo]
theorem fo_set {N k : Nat} {F : Nat → Value} {v : Value} : (fo N F).set k v = fo N (va_up F k v) := by
  apply List.ext_getElem?
  intro i
  by_cases hi : i < N
  · rw [fo_get hi, List.getElem?_set]
    by_cases e : k = i
    · subst e
      rw [if_pos rfl, if_pos (by rw [fo_len]; exact hi)]
      simp [va_up]
    · rw [if_neg e, fo_get hi]
      simp [va_up, Ne.symm e]
  · rw [List.getElem?_eq_none (by simpa [fo] using hi), List.getElem?_eq_none (by simpa [fo] using hi)]
theorem hs_eq {h : AH} {o : Nat} {c : AC} : (hs h o c).1 o = c := by simp [hs, va_up]
theorem hs_ne {h : AH} {o x : Nat} {c : AC} (e : x ≠ o) : (hs h o c).1 x = h.1 x := by simp [hs, va_up, e]
theorem hw_eq {h : AH} {c : AC} {z : Nat} : (hw h c z).1 (h.2.1 + 1) = c := by simp [hw, va_up]
theorem hw_ne {h : AH} {x : Nat} {c : AC} {z : Nat} (e : x ≤ h.2.1) : (hw h c z).1 x = h.1 x := by
  have : ¬ x = h.2.1 + 1 := by omega
  simp [hw, va_up, this]
theorem up_eq {α : Type} {F : Nat → α} {k : Nat} {v : α} : va_up F k v k = v := by simp [va_up]
theorem up_ne {α : Type} {F : Nat → α} {k j : Nat} {v : α} (e : j ≠ k) : va_up F k v j = F j := by simp [va_up, e]
theorem ne_oi {h : AH} {x y c n : Nat} {fs : List Value} {f : Nat → Int32} (a : h.1 x = ob c fs) (b : h.1 y = ia n f) : x ≠ y := fun e => by subst e; cases a.symm.trans b
theorem ne_ol {h : AH} {x y c n : Nat} {fs : List Value} {f : Nat → Int64} (a : h.1 x = ob c fs) (b : h.1 y = la n f) : x ≠ y := fun e => by subst e; cases a.symm.trans b
theorem ne_il {h : AH} {x y m n : Nat} {g : Nat → Int32} {f : Nat → Int64} (a : h.1 x = ia m g) (b : h.1 y = la n f) : x ≠ y := fun e => by subst e; cases a.symm.trans b
theorem ob_c {c c2 : Nat} {fs fs2 : List Value} (h : ob c fs = ob c2 fs2) : c = c2 := by cases h; rfl
theorem ne_oo {h : AH} {x y c c2 : Nat} {fs fs2 : List Value} (a : h.1 x = ob c fs) (b : h.1 y = ob c2 fs2) (e : c ≠ c2) : x ≠ y := fun q => by subst q; exact e (ob_c (a.symm.trans b))
section MORE
variable {k : Bool} {M : MD} {d pc q : Nat} {ls : List (Nat × Value)} {st : List Value} {h : AH}
theorem s_gf {ix ci kf o N : Nat} {F : Nat → Value} {v : Value} (hd : decode M.2.1 pc = .ok (.getfield ix, 3)) (hq : pc + 3 = q) (hf : FL M.1.cls ix ci kf) (ho : h.1 o = ob ci (fo N F)) (hk : kf < N) (hv : F kf = v) : J k M d pc ls (.ref o :: st) h q ls (v :: st) h := s_getf hd hq hf ho (by rw [fo_get hk, hv])
theorem s_pf {ix ci kf o N : Nat} {ft : FieldType} {F : Nat → Value} {v : Value} (hd : decode M.2.1 pc = .ok (.putfield ix, 3)) (hq : pc + 3 = q) (hf : FP M.1.cls ix ci kf false ft) (ho : h.1 o = ob ci (fo N F)) (hk : kf < N) (hft : ∀ ad, narrow ft (mv ad v) = mv ad v ∧ fits ft (mv ad v) = true) : J k M d pc ls (v :: .ref o :: st) h q ls st (hs h o (ob ci (fo N (va_up F kf v)))) := by
  have := s_put (k := k) (d := d) (ls := ls) (st := st) hd hq hf ho (by rw [fo_len]; exact hk) hft
  rwa [fo_set] at this
theorem s_pff {ix ci kf o N : Nat} {ft : FieldType} {F : Nat → Value} {v : Value} (hd : decode M.2.1 pc = .ok (.putfield ix, 3)) (hq : pc + 3 = q) (hf : FP M.1.cls ix ci kf true ft) (hi : M.1.name = "<init>") (ho : h.1 o = ob ci (fo N F)) (hk : kf < N) (hft : ∀ ad, narrow ft (mv ad v) = mv ad v ∧ fits ft (mv ad v) = true) : J k M d pc ls (v :: .ref o :: st) h q ls st (hs h o (ob ci (fo N (va_up F kf v)))) := by
  have := s_putF (k := k) (d := d) (ls := ls) (st := st) hd hq hf hi ho (by rw [fo_len]; exact hk) hft
  rwa [fo_set] at this
theorem E.v {v : Option Value} {h' : AH} (hd : decode M.2.1 pc = .ok (.return_, 1)) (hr : M.2.2.2.1 = none) (e1 : v = none) (e2 : h = h') : E k M d pc ls [] h v h' := by
  subst e1; subst e2; exact ⟨pc, ls, [], ⟨hd, hr, rfl⟩, J.rf⟩
theorem E.i {x : Int32} {ty : FieldType} {v : Option Value} {h' : AH} (hd : decode M.2.1 pc = .ok (.ireturn, 1)) (hr : M.2.2.2.1 = some ty) (hn : narrow ty (.int x) = .int x) (e1 : v = some (.int x)) (e2 : h = h') : E k M d pc ls [.int x] h v h' := by
  subst e1; subst e2; exact ⟨pc, ls, _, ⟨hd, rfl, ty, hr, hn⟩, J.rf⟩
theorem E.l {x : Int64} {v : Option Value} {h' : AH} (hd : decode M.2.1 pc = .ok (.lreturn, 1)) (hr : M.2.2.2.1 = some .long) (e1 : v = some (.long x)) (e2 : h = h') : E k M d pc ls [.long x] h v h' := by
  subst e1; subst e2; exact ⟨pc, ls, _, ⟨hd, rfl, hr⟩, J.rf⟩
theorem E.a {o : Nat} {rt : FieldType} {v : Option Value} {h' : AH} (hd : decode M.2.1 pc = .ok (.areturn, 1)) (hr : M.2.2.2.1 = some rt) (ht : (∃ n, rt = .object n) ∨ ∃ t, rt = .array t) (e1 : v = some (.ref o)) (e2 : h = h') : E k M d pc ls [.ref o] h v h' := by
  subst e1; subst e2; exact ⟨pc, ls, _, ⟨hd, rfl, rt, hr, ht⟩, J.rf⟩
theorem E.n {rt : FieldType} {v : Option Value} {h' : AH} (hd : decode M.2.1 pc = .ok (.areturn, 1)) (hr : M.2.2.2.1 = some rt) (ht : (∃ n, rt = .object n) ∨ ∃ t, rt = .array t) (e1 : v = some .null) (e2 : h = h') : E k M d pc ls [.null] h v h' := by
  subst e1; subst e2; exact ⟨pc, ls, _, ⟨hd, rfl, rt, hr, ht⟩, J.rf⟩
theorem s_mmin {ix : Nat} {x y : Int32} (hd : decode M.2.1 pc = .ok (.invokestatic ix, 3)) (hq : pc + 3 = q) (hl : Cond.methodLink M.1.cls ix Lib.Math.min.name ∈ gw) (hdd : 0 < d) (hcat : (st.map fun v => v.category).sum ≤ 8) : J k M d pc ls (.int y :: .int x :: st) h q ls (.int (if y < x then y else x) :: st) h := by
  subst hq
  refine ⟨⟨Nat.le_refl _, Nat.le_refl _, Nat.le_refl _⟩, fun p l e R s m args below meth c Q D cI cJ A cb sb g r ad H locs lsA P K => ?_⟩
  have X := g.1
  have hc : ((st.map (mv ad)).map fun v => v.category).sum ≤ 8 := by rw [List.map_map]; simpa [Function.comp_def, mv_cat] using hcat
  exact va_mmin X.x X.b (X.2.2.1.trans P.2.1.1.symm) X.o (X.w _ hl) (X.w _ (gm gi_wsL_law0_r19 (List.mem_of_getElem? (i := 2) rfl))) (X.w _ (gm gi_wsL_law0_r19 (List.mem_of_getElem? (i := 3) rfl))) (X.w _ (gm gi_wsL_law0_r19 (List.mem_of_getElem? (i := 4) rfl))) (by have := g.2.1; omega) (by have := g.2.1; omega) r.2.2.1 r.2.2.2 hd (K ad H locs lsA (fun _ _ => rfl) (P.with (oks_c trivial (oks_t (oks_t P.2.2.2.1)))))
theorem s_mmax {ix : Nat} {x y : Int32} (hd : decode M.2.1 pc = .ok (.invokestatic ix, 3)) (hq : pc + 3 = q) (hl : Cond.methodLink M.1.cls ix Lib.Math.max.name ∈ gw) (hdd : 0 < d) (hcat : (st.map fun v => v.category).sum ≤ 8) : J k M d pc ls (.int y :: .int x :: st) h q ls (.int (if x < y then y else x) :: st) h := by
  subst hq
  refine ⟨⟨Nat.le_refl _, Nat.le_refl _, Nat.le_refl _⟩, fun p l e R s m args below meth c Q D cI cJ A cb sb g r ad H locs lsA P K => ?_⟩
  have X := g.1
  have hc : ((st.map (mv ad)).map fun v => v.category).sum ≤ 8 := by rw [List.map_map]; simpa [Function.comp_def, mv_cat] using hcat
  exact va_mmax X.x X.b (X.2.2.1.trans P.2.1.1.symm) X.o (X.w _ hl) (X.w _ (gm gi_wsL_law0_r21 (List.mem_of_getElem? (i := 17) rfl))) (X.w _ (gm gi_wsL_law0_r19 (List.mem_of_getElem? (i := 3) rfl))) (X.w _ (gm gi_wsL_law0_r21 (List.mem_of_getElem? (i := 18) rfl))) (by have := g.2.1; omega) (by have := g.2.1; omega) r.2.2.1 r.2.2.2 hd (K ad H locs lsA (fun _ _ => rfl) (P.with (oks_c trivial (oks_t (oks_t P.2.2.2.1)))))
theorem s_mminL {ix : Nat} {x y : Int64} (hd : decode M.2.1 pc = .ok (.invokestatic ix, 3)) (hq : pc + 3 = q) (hl : Cond.methodLink M.1.cls ix Lib.MathLoose.min_long.x ∈ gw) (hdd : 0 < d) (hcat : (st.map fun v => v.category).sum ≤ 8) : J k M d pc ls (.long y :: .long x :: st) h q ls (.long (if y < x then y else x) :: st) h := by
  subst hq
  refine ⟨⟨Nat.le_refl _, Nat.le_refl _, Nat.le_refl _⟩, fun p l e R s m args below meth c Q D cI cJ A cb sb g r ad H locs lsA P K => ?_⟩
  have X := g.1
  have hc : ((st.map (mv ad)).map fun v => v.category).sum ≤ 8 := by rw [List.map_map]; simpa [Function.comp_def, mv_cat] using hcat
  exact va_mmin_long X.x X.b (X.2.2.1.trans P.2.1.1.symm) X.o (X.w _ hl) (X.w _ (gm gi_wsL_law0_r26 (List.mem_of_getElem? (i := 20) rfl))) (X.w _ (gm gi_wsL_law0_r19 (List.mem_of_getElem? (i := 3) rfl))) (X.w _ (gm gi_wsL_law0_r26 (List.mem_of_getElem? (i := 21) rfl))) (by have := g.2.1; omega) (by have := g.2.1; omega) r.2.2.1 r.2.2.2 hd (K ad H locs lsA (fun _ _ => rfl) (P.with (oks_c trivial (oks_t (oks_t P.2.2.2.1)))))
theorem s_copyI {ix o o2 n n2 : Nat} {f g : Nat → Int32} {sp dp len : Int32} (hd : decode M.2.1 pc = .ok (.invokestatic ix, 3)) (hq : pc + 3 = q) (hl : Cond.methodLink M.1.cls ix arraycopyName ∈ gw) (hdd : 1 < d) (hcat : (st.map fun v => v.category).sum ≤ 8) (o0 : 0 < o) (o20 : 0 < o2) (ho : h.1 o = ia n f) (ho2 : h.1 o2 = ia n2 g) (h1 : ¬ sp < 0) (h2 : ¬ dp < 0) (h3 : ¬ len < 0) (h4 : sp.toNatClampNeg + len.toNatClampNeg ≤ n) (h5 : dp.toNatClampNeg + len.toNatClampNeg ≤ n2) :
    J k M d pc ls (.int len :: .int dp :: .ref o2 :: .int sp :: .ref o :: st) h q ls st (hs h o2 (ia n2 (va_cpy f g sp.toNatClampNeg dp.toNatClampNeg len.toNatClampNeg))) := by
  subst hq
  refine ⟨⟨Nat.le_refl _, Nat.le_refl _, Nat.le_refl _⟩, fun p l e R s m args below meth c Q D cI cJ A cb sb gg r ad H locs lsA P K => ?_⟩
  have X := gg.1
  have hc : ((st.map (mv ad)).map fun v => v.category).sum ≤ 8 := by rw [List.map_map]; simpa [Function.comp_def, mv_cat] using hcat
  have q1 := P.2.2.2.1
  have he2 := wl_at (cI := cI) (cJ := cJ) (ad := ad) o20 (oks_h (oks_t (oks_t q1))) ho2
  have he := wl_at (cI := cI) (cJ := cJ) (ad := ad) o0 (oks_h (oks_t (oks_t (oks_t (oks_t q1))))) ho
  have hw : nativeFrameWords "java/lang/System" "arraycopy" 5 + 11 ≤ 64 := by decide +kernel
  refine va_copyi (D := D) X.x X.b (X.2.2.1.trans P.2.1.1.symm) X.o (X.w _ hl) (X.w _ (gm gi_wsL_law0_r22 (List.mem_of_getElem? (i := 6) rfl))) (X.w _ (gm gi_wsL_law0_r22 (List.mem_of_getElem? (i := 7) rfl))) (X.w _ (gm gi_wsL_law0_r22 (List.mem_of_getElem? (i := 8) rfl))) gg.2.2.1 P.1.1 P.1.2.1 P.1.2.2.1 (o - 1) (o2 - 1) 0 0 he he2 rfl rfl rfl h1 h2 h3 h4 h5 (fun _ _ => rfl) (by have := gg.2.1; omega) (by have := gg.2.1; omega) hd (fun H1 locs1 hP hD hS => ?_)
  have ew : (wl cI cJ ad h).set (o2 - 1) (ad o2, .inl (cI, n2, .inl (va_cpy f g sp.toNatClampNeg dp.toNatClampNeg len.toNatClampNeg))) = wl cI cJ ad (hs h o2 (ia n2 (va_cpy f g sp.toNatClampNeg dp.toNatClampNeg len.toNatClampNeg))) := by
    rw [← wl_put o20]
    rfl
  rw [ew] at hP hD
  refine K ad H1 locs1 lsA (fun _ _ => rfl) ⟨⟨hP, hD, hS, okh_set P.1.2.2.2 o20 trivial⟩, P.2.1, P.2.2.1, oks_t (oks_t (oks_t (oks_t (oks_t q1)))), fun kk => ?_⟩
  obtain ⟨L, xs, e0, e1⟩ := P.2.2.2.2 kk
  exact ⟨L, xs, by rw [← e0]; show va_up h.1 o2 _ 0 = _; simp [va_up, Nat.ne_of_lt o20], e1⟩
theorem s_copyL {ix o o2 n n2 : Nat} {f g : Nat → Int64} {sp dp len : Int32} (hd : decode M.2.1 pc = .ok (.invokestatic ix, 3)) (hq : pc + 3 = q) (hl : Cond.methodLink M.1.cls ix arraycopyName ∈ gw) (hdd : 1 < d) (hcat : (st.map fun v => v.category).sum ≤ 8) (ho : h.1 o = la n f) (ho2 : h.1 o2 = la n2 g) (h1 : ¬ sp < 0) (h2 : ¬ dp < 0) (h3 : ¬ len < 0) (h4 : sp.toNatClampNeg + len.toNatClampNeg ≤ n) (h5 : dp.toNatClampNeg + len.toNatClampNeg ≤ n2) :
    J k M d pc ls (.int len :: .int dp :: .ref o2 :: .int sp :: .ref o :: st) h q ls st (hs h o2 (la n2 (va_cpy f g sp.toNatClampNeg dp.toNatClampNeg len.toNatClampNeg))) := by
  subst hq
  refine ⟨⟨Nat.le_refl _, Nat.le_refl _, Nat.le_refl _⟩, fun p l e R s m args below meth c Q D cI cJ A cb sb gg r ad H locs lsA P K => ?_⟩
  have X := gg.1
  have hc : ((st.map (mv ad)).map fun v => v.category).sum ≤ 8 := by rw [List.map_map]; simpa [Function.comp_def, mv_cat] using hcat
  have q1 := P.2.2.2.1
  have o20 := okh_posL P.1.2.2.2 ho2
  have he2 := wl_at (cI := cI) (cJ := cJ) (ad := ad) o20 (oks_h (oks_t (oks_t q1))) ho2
  have he := wl_at (cI := cI) (cJ := cJ) (ad := ad) (okh_posL P.1.2.2.2 ho) (oks_h (oks_t (oks_t (oks_t (oks_t q1))))) ho
  have hw : nativeFrameWords "java/lang/System" "arraycopy" 5 + 11 ≤ 64 := by decide +kernel
  refine va_copyl (D := D) X.x X.b (X.2.2.1.trans P.2.1.1.symm) X.o (X.w _ hl) (X.w _ (gm gi_wsL_law0_r22 (List.mem_of_getElem? (i := 6) rfl))) (X.w _ (gm gi_wsL_law0_r22 (List.mem_of_getElem? (i := 7) rfl))) (X.w _ (gm gi_wsL_law0_r22 (List.mem_of_getElem? (i := 8) rfl))) gg.2.2.1 P.1.1 P.1.2.1 P.1.2.2.1 (o - 1) (o2 - 1) 1 1 he he2 rfl rfl rfl h1 h2 h3 h4 h5 (fun _ _ => rfl) (by have := gg.2.1; omega) (by have := gg.2.1; omega) hd (fun H1 locs1 hP hD hS => ?_)
  have ew : (wl cI cJ ad h).set (o2 - 1) (ad o2, .inl (cJ, n2, .inr (.inl (va_cpy f g sp.toNatClampNeg dp.toNatClampNeg len.toNatClampNeg)))) = wl cI cJ ad (hs h o2 (la n2 (va_cpy f g sp.toNatClampNeg dp.toNatClampNeg len.toNatClampNeg))) := by
    rw [← wl_put o20]
    rfl
  rw [ew] at hP hD
  refine K ad H1 locs1 lsA (fun _ _ => rfl) ⟨⟨hP, hD, hS, okh_set P.1.2.2.2 o20 trivial⟩, P.2.1, P.2.2.1, oks_t (oks_t (oks_t (oks_t (oks_t q1)))), fun kk => ?_⟩
  obtain ⟨L, xs, e0, e1⟩ := P.2.2.2.2 kk
  exact ⟨L, xs, by rw [← e0]; show va_up h.1 o2 _ 0 = _; simp [va_up, Nat.ne_of_lt o20], e1⟩
end MORE
theorem lgc_eq (x y : Int64) : lg_cmp x y = 0 ↔ x = y := by
  unfold lg_cmp
  simp only [gt_iff_lt, Int64.lt_iff_toInt_lt, ← Int64.toInt_inj]
  split
  · rename_i h; constructor <;> intro q
    · exact absurd q (by decide)
    · omega
  · split <;> rename_i h1 h2
    · exact ⟨fun _ => h2, fun _ => rfl⟩
    · exact ⟨fun q => absurd q (by decide), fun q => absurd q h2⟩
theorem lgc_lt (x y : Int64) : lg_cmp x y < 0 ↔ x < y := by
  unfold lg_cmp
  simp only [gt_iff_lt, Int64.lt_iff_toInt_lt, ← Int64.toInt_inj]
  split
  · rename_i h; constructor <;> intro q
    · exact absurd q (by decide)
    · omega
  · split <;> rename_i h1 h2
    · exact ⟨fun q => absurd q (by decide), fun q => by omega⟩
    · exact ⟨fun _ => by omega, fun _ => by decide⟩
theorem lgc_ge (x y : Int64) : 0 ≤ lg_cmp x y ↔ y ≤ x := lg_cmp_ge x y
theorem lgc_gt (x y : Int64) : 0 < lg_cmp x y ↔ y < x := by
  unfold lg_cmp
  simp only [gt_iff_lt, Int64.lt_iff_toInt_lt, ← Int64.toInt_inj]
  split
  · rename_i h; exact ⟨fun _ => h, fun _ => by decide⟩
  · split <;> rename_i h1 h2
    · exact ⟨fun q => absurd q (by decide), fun q => by omega⟩
    · exact ⟨fun q => absurd q (by decide), fun q => by omega⟩
theorem lgc_le (x y : Int64) : lg_cmp x y ≤ 0 ↔ x ≤ y := by
  unfold lg_cmp
  simp only [gt_iff_lt, Int64.lt_iff_toInt_lt, Int64.le_iff_toInt_le, ← Int64.toInt_inj]
  split
  · rename_i h; exact ⟨fun q => absurd q (by decide), fun q => by omega⟩
  · split <;> rename_i h1 h2
    · exact ⟨fun _ => by omega, fun _ => by decide⟩
    · exact ⟨fun _ => by omega, fun _ => by decide⟩
theorem s_nmi {k : Bool} {M : MD} {d pc : Nat} {ls : List (Nat × Value)} {st : List Value} {h : AH} {x y : Int32} (e : x = y) : J k M d pc ls (.int x :: st) h pc ls (.int y :: st) h := by subst e; exact J.rf
theorem s_nml {k : Bool} {M : MD} {d pc : Nat} {ls : List (Nat × Value)} {st : List Value} {h : AH} {x y : Int64} (e : x = y) : J k M d pc ls (.long x :: st) h pc ls (.long y :: st) h := by subst e; exact J.rf
/-- fewer locals, in another order: by their places -/
theorem s_ls {k : Bool} {M : MD} {d pc : Nat} {ls ls' : List (Nat × Value)} {st : List Value} {h : AH} (ks : List Nat) (e : lv_pick ls ks = ls') : J k M d pc ls st h pc ls' st h := by
  have hm : ∀ q ∈ ls', q ∈ ls := fun q hq => by
    rw [← e] at hq
    obtain ⟨i, -, hi⟩ := List.mem_filterMap.mp hq
    exact List.mem_of_getElem? hi
  exact J.loc (fun o => o) (fun o _ => fun q hq => o q (hm q hq)) (fun p l e R s m args below meth c Q ad H locs cells slots lsA C hl K => K lsA ⟨hl.1, hl.2.1, fun q hq => by
    obtain ⟨w, hw, rfl⟩ := List.mem_map.mp hq
    exact hl.2.2 _ (List.mem_map.mpr ⟨w, hm w hw, rfl⟩)⟩)
