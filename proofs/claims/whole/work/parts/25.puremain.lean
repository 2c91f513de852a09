theorem keep_post {T : NT} {n : Nat} {σ σ1 : St} (hT : wfT T) (m : Mid T n σ σ1) (hp : Pre T n σ) (hv : sVal σ (sLev σ) n = none) (hl : lvOf (sIns σ) n (sLev σ) = sLev σ) (w : WFs (sMany σ1 (sLev σ1 + 1)) (sLst σ1 (sLev σ1 + 1))) (lw : 1 + (sLst σ1 (sLev σ1 + 1)).length ≤ 100) : Post T n σ (0, keepP σ1 n) := by
  obtain ⟨m1, ⟨h1, h2, h3, h4, h5⟩, m3, m4, m5, m6⟩ := m
  have hv1 : sVal σ1 (sLev σ1) n = none := by rw [m1.1]; exact (m5 n (Nat.le_refl _)).trans hv
  have hl1 : lvOf (sIns σ1) n (sLev σ1) = sLev σ1 := by rw [m1.1, lvOf_ext _ m1.2.1]; exact hl
  obtain ⟨L, hL⟩ : ∃ L : List Tok, L = (2, lN (sMany σ1 (sLev σ1 + 1))) :: sLst σ1 (sLev σ1 + 1) := ⟨_, rfl⟩
  obtain ⟨y, hy⟩ : ∃ y : Vl, y = .inr (.inr ((sHeap σ1).length, 1 + (sLst σ1 (sLev σ1 + 1)).length)) := ⟨_, rfl⟩
  have ll : L.length = 1 + (sLst σ1 (sLev σ1 + 1)).length := by rw [hL, List.length_cons]; omega
  have ek : keepP σ1 n = sv (wHeap σ1 (sHeap σ1 ++ L)) n (some y) := by rw [hL, hy]; rfl
  have pf : sHeap σ1 <+: sHeap σ1 ++ L := List.prefix_append _ _
  have f2 : Fr σ1 (wHeap σ1 (sHeap σ1 ++ L)) := ⟨rfl, fun _ _ => rfl, fun _ _ => ⟨rfl, rfl, rfl, rfl⟩, fun _ _ => ⟨rfl, rfl⟩, fun _ _ h => h, pf, Nat.le_refl _, Nat.le_refl _, Nat.le_refl _, fun _ => rfl⟩
  have oy : okV T (sHeap σ1 ++ L) n y := by
    rw [hy]
    refine ⟨by rw [List.length_append, ll]; exact Nat.le_refl _, ?_⟩
    have : hsl (sHeap σ1 ++ L) (sHeap σ1).length (1 + (sLst σ1 (sLev σ1 + 1)).length) = L := by
      unfold hsl
      rw [List.drop_left, ← ll, List.take_length]
    show LW (hsl (sHeap σ1 ++ L) (sHeap σ1).length (1 + (sLst σ1 (sLev σ1 + 1)).length))
    rw [this, hL]
    exact ⟨_, _, rfl, w, by rw [← hL, ll]; exact lw⟩
  have I2 : Inv T (sv (wHeap σ1 (sHeap σ1 ++ L)) n (some y)) := by
    refine ⟨h1, fun k hk i x hx => ?_, h3, ?_, h5⟩
    · have hx : va_up (sVal σ1) (sLev σ1) (va_up (sVal σ1 (sLev σ1)) n (some y)) k i = some x := hx
      show i < tN T ∧ okV T (sHeap σ1 ++ L) i x
      by_cases e : k = sLev σ1
      · subst e
        rw [up_eq] at hx
        by_cases e2 : i = n
        · subst e2
          rw [up_eq] at hx
          cases hx
          exact ⟨hp.2.1, oy⟩
        · rw [up_ne e2] at hx
          obtain ⟨a, b⟩ := h2 _ hk i x hx
          exact ⟨a, okV_pre pf b⟩
      · rw [up_ne e] at hx
        obtain ⟨a, b⟩ := h2 _ hk i x hx
        exact ⟨a, okV_pre pf b⟩
    · show (sHeap σ1 ++ L).length ≤ 100 * wt (va_up (sVal σ1) (sLev σ1) (va_up (sVal σ1 (sLev σ1)) n (some y))) (sLev σ1)
      rw [wt_up (Nat.le_refl _) (by have := hT.1; have := hp.2.1; omega) hv1, List.length_append]
      omega
  rw [ek]
  refine ⟨by show 0 ≤ 4; omega, m1.tr (f2.tr (sv_fr hv1)), I2, m3, m4, fun i hi => ?_, fun _ => ⟨⟨y, sv_gv (σ := wHeap σ1 (sHeap σ1 ++ L)) hl1⟩, fun z hz => ?_⟩, (fun h => by cases h), (fun h => by cases h)⟩
  · show va_up (sVal σ1) (sLev σ1) (va_up (sVal σ1 (sLev σ1)) n (some y)) (sLev σ) i = _
    rw [← m1.1, up_eq, up_ne (by omega), m1.1]
    exact m5 i (by omega)
  · show sCome σ1 (sLev σ) + cn (va_up (sVal σ1) (sLev σ1) (va_up (sVal σ1 (sLev σ1)) n (some y)) (sLev σ)) z ≤ _
    rw [← m1.1, up_eq, m1.1]
    have a := cn_up_lo (y := y) (x := z) ((m5 n (Nat.le_refl _)).trans hv) hz
    have b := m6 z hz
    omega
theorem go_post {T : NT} {rec : Nat → St → Rs} {tf : St → Rs} {f n m a : Nat} {σ : St} (R : RH T rec f) (hT : wfT T) (ha : a < n) (hnf : n ≤ f) (htf : ∀ σ, TPre T σ → TPost T a σ (tf σ)) (hp : Pre T n σ) (hv : sVal σ (sLev σ) n = none) (hl : lvOf (sIns σ) n (sLev σ) = sLev σ) (h5 : sLev σ < 5) :
    ∀ g σ1, Mid T n σ σ1 → cn (sVal σ1 (sLev σ)) 60 < g → Post T n σ (goP rec tf m n g σ1)
  | 0, σ1, _, hg => by omega
  | g + 1, σ1, M, hg => by
    have ls : sLev σ1 = sLev σ := M.1.1
    have I1 := M.2.1
    have wi := in_WI (m := m) I1
    have wp := ways_post (m := m) I1 (by omega) htf 2001 (inP σ1 m) wi.1 wi.2 (Nat.le_add_right _ _)
    unfold goP
    dsimp only
    generalize waysP tf (sHeap σ1).length 2001 (inP σ1 m) = r at wp
    obtain ⟨w1, w2, w3, w4, w5, w6⟩ := wp
    have om := out_mid M w4
    have lo : sLev (outP r.2 (sHeap σ1).length) = sLev σ1 := om.1.1.1.trans ls.symm
    by_cases h0 : r.1 = 0
    · rw [if_pos h0]
      obtain ⟨x1, x2⟩ := w5 h0
      exact keep_post hT om.1 hp hv hl (by rw [lo]; exact x1) (by rw [lo]; exact x2)
    · rw [if_neg h0]
      by_cases h4 : r.1 = 4 ∧ sWl (outP r.2 (sHeap σ1).length) = sLev (outP r.2 (sHeap σ1).length)
      · rw [if_pos h4]
        obtain ⟨q1, q2, q3, q4⟩ := w6 h4.1
        have hwl : sWl r.2 = sLev σ1 := h4.2.trans lo
        have hlv : lvOf (sIns r.2) (sWn r.2) (sLev σ1) = sLev σ1 := by
          rw [hwl] at q3
          have : lvOf (sIns r.2) (sWn r.2) (sLev σ1 + 1) = if sIns r.2 (sLev σ1 + 1) ≤ sWn r.2 then sLev σ1 + 1 else lvOf (sIns r.2) (sWn r.2) (sLev σ1) := rfl
          rw [this] at q3
          split at q3
          · omega
          · exact q3
        have hx : sWn r.2 < n := by omega
        show Post T n σ (bd (rec (sWn r.2) (outP r.2 (sHeap σ1).length)) _)
        have p := R (sWn r.2) (by omega) _ (om.1.pre hp hv hx)
        by_cases h00 : (rec (sWn r.2) (outP r.2 (sHeap σ1).length)).1 = 0
        · rw [bd_0 h00]
          refine go_post R hT ha hnf htf hp hv hl h5 g _ (om.1.post hx p h00) ?_
          -- one node more has a value
          obtain ⟨p1, p2, p3, p4, p5, p6, p7, -⟩ := p
          obtain ⟨⟨y, hy⟩, -⟩ := p7 h00
          have lv2 : lvOf (sIns (rec (sWn r.2) (outP r.2 (sHeap σ1).length)).2) (sWn r.2) (sLev (rec (sWn r.2) (outP r.2 (sHeap σ1).length)).2) = sLev σ := by
            rw [p2.1, lo, ls, lvOf_ext (ins := sIns r.2) _ (fun j hj => p2.2.1 j (by rw [lo, ls]; exact hj)), ← ls]
            exact hlv
          unfold gv at hy
          rw [lv2] at hy
          have ev : sVal (outP r.2 (sHeap σ1).length) (sLev σ) = sVal σ1 (sLev σ) := by
            rw [← ls]
            exact (w4.2.1 _ (Nat.le_refl _)).2.1
          have hn0 : sVal σ1 (sLev σ) (sWn r.2) = none := by
            rw [← ev, ← ls]
            rw [hwl] at q2
            exact q2
          have pers := p2.2.2.2.2.1
          rw [lo, ls, ev] at pers
          have c1 := cn_pers (v := va_up (sVal σ1 (sLev σ)) (sWn r.2) (some y)) (w := sVal (rec (sWn r.2) (outP r.2 (sHeap σ1).length)).2 (sLev σ)) (fun i z hz => by
            by_cases e : i = sWn r.2
            · subst e
              rw [up_eq] at hz
              cases hz
              exact hy
            · rw [up_ne e] at hz
              exact pers i z hz) 60
          have c2 := cn_up_lo (y := y) hn0 (show sWn r.2 < 60 by have := hT.1; have := hp.2.1; omega)
          omega
        · rw [bd_n h00]
          exact om.1.bad hx p h00
      · rw [if_neg h4]
        obtain ⟨m1, m2, m3, m4, m5, m6⟩ := om.1
        refine ⟨w1, m1, m2, m3, m4, fun i hi => m5 i (by omega), fun h => absurd h h0, fun h => absurd h w3, fun h => ?_⟩
        obtain ⟨q1, q2, q3, q4⟩ := w6 h
        have hne : sWl r.2 ≠ sLev σ1 := fun e => h4 ⟨h, e.trans lo.symm⟩
        refine ⟨by show sWl r.2 < _; omega, q2, ?_, by show sWn r.2 ≤ n; omega⟩
        show lvOf (sIns σ) (sWn r.2) (sLev σ) = sWl r.2
        have : lvOf (sIns r.2) (sWn r.2) (sLev σ1 + 1) = if sIns r.2 (sLev σ1 + 1) ≤ sWn r.2 then sLev σ1 + 1 else lvOf (sIns r.2) (sWn r.2) (sLev σ1) := rfl
        rw [this] at q3
        split at q3
        · omega
        · rw [← q3, ls, ← lvOf_ext (ins := sIns σ) (sWn r.2) m1.2.1]
          rfl
theorem wk_post {T : NT} {rec : Nat → St → Rs} {f n : Nat} {σ : St} (R : RH T rec f) (hT : wfT T) (hnf : n ≤ f) (hp : Pre T n σ) (hlab : sLab σ < 2000) (hv : sVal σ (sLev σ) n = none) (hl : lvOf (sIns σ) n (sLev σ) = sLev σ) : Post T n σ (wkP rec f T n (wLab σ (sLab σ + 1))) := by
  have m0 := lab_mid hp hlab
  have w := hT.2 n hp.2.1
  unfold wkP
  by_cases e0 : tS T n = 0
  · rw [if_pos e0]; exact m0.set hT hp hv hl trivial
  rw [if_neg e0]
  unfold wfN at w
  by_cases e1 : tS T n = 1
  · rw [if_pos e1]
    have w : okA T n ∧ okB T n := by
      rw [e1] at w
      rcases w with w | w | w | w | w | w | w | w | w | w <;> first | exact w.2 | exact absurd w (by decide) | exact absurd w.1 (by decide)
    exact cho_post R hT w.1.2 w.2.2 hnf hp hlab hv hl
  rw [if_neg e1]
  by_cases e2 : tS T n = 2
  · rw [if_pos e2]; exact m0.ret 1 (by decide) (by decide) (by decide)
  rw [if_neg e2]
  by_cases e3 : tS T n = 3
  · rw [if_pos e3]; exact m0.set hT hp hv hl ⟨Nat.le_refl _, e3⟩
  rw [if_neg e3]
  by_cases e4 : tS T n = 4
  · rw [if_pos e4]
    have w : okA T n := by
      rw [e4] at w
      rcases w with w | w | w | w | w | w | w | w | w | w <;> first | exact absurd w (by decide) | exact absurd w.1 (by decide) | exact w.2
    refine nAs_post R w.2 (by have := w.2; omega) m0 hp hv (fun p σ2 m2 hq => ?_)
    have hg : gv σ2 (tA T n) = some (.inr (.inl p)) := by
      revert hq; cases gv σ2 (tA T n) with
      | none => intro h; cases h
      | some x => match x with
        | .inl _ => intro h; cases h
        | .inr (.inr _) => intro h; cases h
        | .inr (.inl q) => intro h; cases h; rfl
    obtain ⟨a1, a2⟩ := gv_ok m2.2.1 hg
    have hpt : p < tN T := by have := a2.1; omega
    have pa := pair_args hT hpt a2.2
    exact tk_post R hT (by have := a2.1; have := w.2; omega) (by have := a2.1; have := w.2; omega) m2 hp hv hl
  rw [if_neg e4]
  by_cases e5 : tS T n = 5
  · rw [if_pos e5]
    have w : okA T n := by
      rw [e5] at w
      rcases w with w | w | w | w | w | w | w | w | w | w <;> first | exact absurd w (by decide) | exact absurd w.1 (by decide) | exact w.2
    refine nAs_post R w.2 (by have := w.2; omega) m0 hp hv (fun p σ2 m2 hq => ?_)
    have hg : gv σ2 (tA T n) = some (.inr (.inl p)) := by
      revert hq; cases gv σ2 (tA T n) with
      | none => intro h; cases h
      | some x => match x with
        | .inl _ => intro h; cases h
        | .inr (.inr _) => intro h; cases h
        | .inr (.inl q) => intro h; cases h; rfl
    obtain ⟨a1, a2⟩ := gv_ok m2.2.1 hg
    have hpt : p < tN T := by have := a2.1; omega
    have pa := pair_args hT hpt a2.2
    exact tk_post R hT (by have := a2.1; have := w.2; omega) (by have := a2.1; have := w.2; omega) m2 hp hv hl
  rw [if_neg e5]
  by_cases e6 : tS T n = 6
  · rw [if_pos e6]
    have w : okA T n ∧ okB T n := by
      rw [e6] at w
      rcases w with w | w | w | w | w | w | w | w | w | w <;> first | exact absurd w (by decide) | exact absurd w.1 (by decide) | exact ⟨w.2.1, w.2.2.1⟩
    refine nAs_post R w.1.2 (by have := w.1.2; omega) m0 hp hv (fun a σ2 m2 _ => ?_)
    exact nAs_post R w.2.2 (by have := w.2.2; omega) m2 hp hv (fun b σ3 m3 _ => ans_post _ hT m3 hp hv hl)
  rw [if_neg e6]
  by_cases e7 : tS T n = 7
  · rw [if_pos e7]
    have w : okA T n ∧ okB T n ∧ okC T n := by
      rw [e7] at w
      rcases w with w | w | w | w | w | w | w | w | w | w <;> first | exact absurd w (by decide) | exact absurd w.1 (by decide) | exact w.2
    refine nAs_post R w.1.2 (by have := w.1.2; omega) m0 hp hv (fun v σ2 m2 _ => ?_)
    have hb := w.2.1.2
    have hc := w.2.2.2
    exact tk_post R hT (by split <;> omega) (by split <;> omega) m2 hp hv hl
  rw [if_neg e7]
  by_cases e8 : tS T n = 8
  · rw [if_pos e8]
    have w : okA T n := by
      rw [e8] at w
      rcases w with w | w | w | w | w | w | w | w | w | w <;> first | exact absurd w (by decide) | exact absurd w.1 (by decide) | exact w.2.1
    have wa := w.2
    by_cases e5' : sLev (wLab σ (sLab σ + 1)) = 5
    · rw [if_pos e5']; exact m0.ret 2 (by decide) (by decide) (by decide)
    · rw [if_neg e5']
      have hl5 : sLev σ < 5 := by have := hp.1.1.1; have : ¬ sLev σ = 5 := e5'; omega
      exact go_post R hT wa hnf (tf_post R hT f (tA T n) (by omega) (by omega) (by have := hp.2.1; omega)) hp hv hl hl5 61 _ m0 (by have := cn_le (sVal (wLab σ (sLab σ + 1)) (sLev σ)) 60; omega)
  rw [if_neg e8]
  have w : okA T n := by
    rcases w with w | w | w | w | w | w | w | w | w | w <;> first | exact absurd w e0 | exact absurd w.1 e1 | exact absurd w e2 | exact absurd w.1 e3 | exact absurd w.1 e4 | exact absurd w.1 e5 | exact absurd w.1 e6 | exact absurd w.1 e7 | exact absurd w.1 e8 | exact w.2.1
  exact nAs_post R w.2 (by have := w.2; omega) m0 hp hv (fun q σ2 m2 _ => ans_post _ hT m2 hp hv hl)
/-- the working out keeps what it must, and never ends at 9 -/
theorem nd_post {T : NT} (hT : wfT T) : ∀ f, RH T (ndP T f) f
  | 0, n, hn, _, _ => by omega
  | f + 1, n, hn, σ, hp => by
    obtain ⟨I, hnt, hc⟩ := id hp
    unfold ndP
    by_cases h1 : (gv σ n).isSome
    · rw [if_pos h1]
      obtain ⟨x, hx⟩ := Option.isSome_iff_exists.mp h1
      exact ⟨by show 0 ≤ 4; omega, Fr.rf σ, I, rfl, by show sCome σ (sLev σ) ≤ 60; omega, fun _ _ => rfl, fun _ => ⟨⟨x, hx⟩, fun _ _ => Nat.le_refl _⟩, (fun h => by cases h), (fun h => by cases h)⟩
    · rw [if_neg h1]
      have hnone : gv σ n = none := by
        cases e : gv σ n with
        | none => rfl
        | some x => rw [e] at h1; exact absurd rfl h1
      by_cases h2 : lvOf (sIns σ) n (sLev σ) < sLev σ
      · rw [if_pos h2]
        exact ⟨by show 4 ≤ 4; omega, Fr.rf σ, I, rfl, by show sCome σ (sLev σ) ≤ 60; omega, fun _ _ => rfl, (fun h => by cases h), (fun h => by cases h), fun _ => ⟨h2, hnone, rfl, Nat.le_refl _⟩⟩
      · rw [if_neg h2]
        have hl : lvOf (sIns σ) n (sLev σ) = sLev σ := by have := lvOf_le (sIns σ) n (sLev σ); omega
        have hv : sVal σ (sLev σ) n = none := by
          unfold gv at hnone
          rw [hl] at hnone
          exact hnone
        by_cases h3 : sLab σ = 2000
        · rw [if_pos h3]
          exact ⟨by show 2 ≤ 4; omega, Fr.rf σ, I, rfl, by show sCome σ (sLev σ) ≤ 60; omega, fun _ _ => rfl, (fun h => by cases h), (fun h => by cases h), (fun h => by cases h)⟩
        · rw [if_neg h3]
          exact wk_post (nd_post hT f) hT (by omega) hp (by have := I.2.2.2.2; omega) hv hl
