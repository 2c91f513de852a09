/-! NODES THAT ARE ADDED LATER change no way -/
def TX (T T' : NT) : Prop := ∀ i, i < tN T → tS T' i = tS T i ∧ T'.2.2.1 i = T.2.2.1 i ∧ T'.2.2.2.1 i = T.2.2.2.1 i ∧ T'.2.2.2.2.1 i = T.2.2.2.2.1 i ∧ tV T' i = tV T i
theorem TX.a {T T' : NT} (x : TX T T') {i : Nat} (h : i < tN T) : tA T' i = tA T i ∧ tB T' i = tB T i ∧ tC T' i = tC T i := by
  obtain ⟨-, a, b, c, -⟩ := x i h
  exact ⟨congrArg _ a, congrArg _ b, congrArg _ c⟩
def EQh (T : NT) (rec rec' : Nat → St → Rs) (f : Nat) : Prop := ∀ n, n < f → ∀ σ, Pre T n σ → rec' n σ = rec n σ
theorem eq_tk {T : NT} {rec rec' : Nat → St → Rs} {f n x : Nat} {σ : St} (H : EQh T rec rec' f) (hf : x < f) (hp : Pre T x σ) : tkP rec' n x σ = tkP rec n x σ := by
  unfold tkP
  rw [H x hf σ hp]
theorem eq_nAs {α : Type} {T : NT} {rec rec' : Nat → St → Rs} {pr : Option Vl → Option α} {f n x : Nat} {σ σ1 : St} {g g' : α → St → Rs} (H : EQh T rec rec' f) (R : RH T rec f) (hx : x < n) (hf : x < f) (m : Mid T n σ σ1) (hp : Pre T n σ) (hv : sVal σ (sLev σ) n = none)
    (k : ∀ a σ2, Mid T n σ σ2 → pr (gv σ2 x) = some a → g' a σ2 = g a σ2) : nAs rec' pr x σ1 g' = nAs rec pr x σ1 g := by
  have hpx := m.pre hp hv hx
  have P := R x hf σ1 hpx
  have e := H x hf σ1 hpx
  by_cases z : (rec x σ1).1 = 0
  · have m2 := m.post hx P z
    cases h : pr (gv (rec x σ1).2 x) with
    | some a => rw [nAs_0 z h, nAs_0 (rec := rec') (by rw [e]; exact z) (by rw [e]; exact h), e]; exact k a _ m2 h
    | none => rw [nAs_f z h, nAs_f (rec := rec') (by rw [e]; exact z) (by rw [e]; exact h), e]
  · rw [nAs_b z, nAs_b (rec := rec') (by rw [e]; exact z), e]
theorem eq_tf {T T' : NT} {rec rec' : Nat → St → Rs} {f : Nat} (H : EQh T rec rec' f) (R : RH T rec f) (hT : wfT T) (X : TX T T') : ∀ g n, n < g → n < f → n < tN T → ∀ σ, TPre T σ → tfP rec' T' g n σ = tfP rec T g n σ
  | g + 1, n, hg, hf, hn, σ, hp => by
    have P := R n hf σ (hp.pre hT hn)
    have e := H n hf σ (hp.pre hT hn)
    rw [tfP_K, tfP_K, e]
    by_cases z : (rec n σ).1 = 0
    · rw [bd_0 z, bd_0 z]
      have tp := P.tpre hT hn hp z
      obtain ⟨⟨x, gx⟩, -⟩ := P.2.2.2.2.2.2.1 z
      obtain ⟨a1, a2⟩ := gv_ok tp.1 gx
      generalize (rec n σ).2 = σ1 at tp gx a2
      unfold tfK
      rw [gx]
      match x, a2 with
      | .inl v, _ => rfl
      | .inr (.inr q), _ => rfl
      | .inr (.inl p), a2 =>
        have hz := a2.1
        have hpt : p < tN T := by omega
        obtain ⟨ha, hb⟩ := pair_args hT hpt a2.2
        obtain ⟨xa, xb, -⟩ := X.a hpt
        show bd (tokP σ1 [(1, 2)]) (fun σ2 => bd (tfP rec' T' g (tA T' p) σ2) (fun σ3 => tfP rec' T' g (tB T' p) σ3)) = bd (tokP σ1 [(1, 2)]) (fun σ2 => bd (tfP rec T g (tA T p) σ2) (fun σ3 => tfP rec T g (tB T p) σ3))
        rw [xa, xb]
        by_cases z1 : (tokP σ1 [(1, 2)]).1 = 0
        · rw [bd_0 z1, bd_0 z1]
          obtain ⟨t1, -⟩ := tok_pre tp z1
          have PA := tf_post R hT g (tA T p) (by omega) (by omega) (by omega) _ t1
          have e1 := eq_tf H R hT X g (tA T p) (by omega) (by omega) (by omega) _ t1
          rw [e1]
          by_cases z2 : (tfP rec T g (tA T p) (tokP σ1 [(1, 2)]).2).1 = 0
          · rw [bd_0 z2, bd_0 z2]
            exact eq_tf H R hT X g (tB T p) (by omega) (by omega) (by omega) _ (PA.tpre t1 z2)
          · rw [bd_n z2, bd_n z2]
        · rw [bd_n z1, bd_n z1]
    · rw [bd_n z, bd_n z]
theorem eq_ways {T : NT} {tf tf' : St → Rs} {m a : Nat} {σ1 : St} (hI : Inv T σ1) (hl : sLev σ1 < 5) (htf : ∀ σ, TPre T σ → TPost T a σ (tf σ)) (hu : ∀ σ, TPre T σ → tf' σ = tf σ) : ∀ g τ, WI m σ1 τ → waysP tf' (sHeap σ1).length g τ = waysP tf (sHeap σ1).length g τ
  | 0, τ, w => rfl
  | g + 1, τ, w => by
    have tp := beg_pre hI hl w
    have tq := htf _ tp
    have wb := beg_WI w
    unfold waysP
    rw [hu _ tp]
    generalize tf (begP τ (sHeap σ1).length) = r at tq
    obtain ⟨p1, p2, p3, p4, p5, p6, p7⟩ := tq
    have wr := wb.fr p2 p3
    have lr : sLev r.2 = sLev σ1 + 1 := wr.1
    have next : ∀ τ2, WI m σ1 τ2 → nextP (waysP tf' (sHeap σ1).length g) τ2 = nextP (waysP tf (sHeap σ1).length g) τ2 := by
      intro τ2 w2
      unfold nextP
      cases e : nxt (sTold τ2 (sLev τ2)) (sCome τ2 (sLev τ2)) with
      | none => rfl
      | some u =>
        show waysP tf' (sHeap σ1).length g (wTC τ2 (va_up (sTold τ2) (sLev τ2) u) (sCome τ2)) = waysP tf (sHeap σ1).length g (wTC τ2 (va_up (sTold τ2) (sLev τ2) u) (sCome τ2))
        refine eq_ways (m := m) hI hl htf hu g _ ?_
        obtain ⟨a1, a2, a3, a4, a5, a6⟩ := w2
        refine ⟨a1, fun k hk => ?_, a3, a4, a5, a6⟩
        obtain ⟨b1, b2, b3, b4, b5, b6, b7⟩ := a2 k hk
        refine ⟨b1, b2, ?_, b4, b5, b6, b7⟩
        show va_up (sTold τ2) (sLev τ2) u k = _
        rw [up_ne (by omega)]
        exact b3
    dsimp only
    by_cases h0 : r.1 = 0
    · rw [if_pos h0, if_pos h0]
      by_cases hb : 1 + (sLst r.2 (sLev r.2)).length + (sFull r.2 (sLev r.2)).length > 100
      · rw [if_pos hb, if_pos hb]
      · rw [if_neg hb, if_neg hb]
        refine next (colP r.2) ?_
        obtain ⟨a1, a2, a3, a4, a5, a6⟩ := wr
        refine ⟨a1, fun k hk => ?_, a3, a4, a5, a6⟩
        obtain ⟨b1, b2, b3, b4, b5, b6, b7⟩ := a2 k hk
        refine ⟨b1, b2, b3, b4, b5, ?_, ?_⟩
        · show va_up (sLst r.2) (sLev r.2) _ k = _
          rw [up_ne (by omega)]; exact b6
        · show va_up (sMany r.2) (sLev r.2) _ k = _
          rw [up_ne (by omega)]; exact b7
    · rw [if_neg h0, if_neg h0]
      by_cases h1 : r.1 = 1
      · rw [if_pos h1, if_pos h1]
        exact next r.2 wr
      · rw [if_neg h1, if_neg h1]
theorem eq_go {T : NT} {rec rec' : Nat → St → Rs} {tf tf' : St → Rs} {f n m a : Nat} {σ : St} (H : EQh T rec rec' f) (R : RH T rec f) (ha : a < n) (hnf : n ≤ f) (htf : ∀ σ, TPre T σ → TPost T a σ (tf σ)) (hu : ∀ σ, TPre T σ → tf' σ = tf σ) (hp : Pre T n σ) (hv : sVal σ (sLev σ) n = none) (h5 : sLev σ < 5) : ∀ g σ1, Mid T n σ σ1 → goP rec' tf' m n g σ1 = goP rec tf m n g σ1
  | 0, σ1, _ => rfl
  | g + 1, σ1, M => by
    have ls : sLev σ1 = sLev σ := M.1.1
    have I1 := M.2.1
    have wi := in_WI (m := m) I1
    have wp := ways_post (m := m) I1 (by omega) htf 2001 (inP σ1 m) wi.1 wi.2 (Nat.le_add_right _ _)
    have ew := eq_ways (m := m) I1 (by omega) htf hu 2001 (inP σ1 m) wi.1
    unfold goP
    rw [ew]
    dsimp only
    generalize waysP tf (sHeap σ1).length 2001 (inP σ1 m) = r at wp
    obtain ⟨w1, w2, w3, w4, w5, w6⟩ := wp
    have om := out_mid M w4
    by_cases h0 : r.1 = 0
    · rw [if_pos h0, if_pos h0]
    · rw [if_neg h0, if_neg h0]
      by_cases h4 : r.1 = 4 ∧ sWl (outP r.2 (sHeap σ1).length) = sLev (outP r.2 (sHeap σ1).length)
      · rw [if_pos h4, if_pos h4]
        obtain ⟨q1, q2, q3, q4⟩ := w6 h4.1
        have hx : sWn r.2 < n := by omega
        have p := R (sWn r.2) (by omega) _ (om.1.pre hp hv hx)
        have e := H (sWn r.2) (by omega) _ (om.1.pre hp hv hx)
        show bd (rec' (sWn r.2) (outP r.2 (sHeap σ1).length)) (goP rec' tf' m n g) = bd (rec (sWn r.2) (outP r.2 (sHeap σ1).length)) (goP rec tf m n g)
        rw [e]
        by_cases h00 : (rec (sWn r.2) (outP r.2 (sHeap σ1).length)).1 = 0
        · rw [bd_0 h00, bd_0 h00]
          exact eq_go H R ha hnf htf hu hp hv h5 g _ (om.1.post hx p h00)
        · rw [bd_n h00, bd_n h00]
      · rw [if_neg h4, if_neg h4]
theorem eq_wk {T T' : NT} {rec rec' : Nat → St → Rs} {f n : Nat} {σ : St} (H : EQh T rec rec' f) (R : RH T rec f) (hT : wfT T) (X : TX T T') (hnf : n ≤ f) (hp : Pre T n σ) (hlab : sLab σ < 2000) (hv : sVal σ (sLev σ) n = none) : wkP rec' f T' n (wLab σ (sLab σ + 1)) = wkP rec f T n (wLab σ (sLab σ + 1)) := by
  have m0 := lab_mid hp hlab
  have hn := hp.2.1
  have w := hT.2 n hn
  obtain ⟨xs, x1, x2, x3, xv⟩ := X n hn
  obtain ⟨xa, xb, xc⟩ := X.a hn
  unfold wkP
  rw [xs, xa, xb, xc, x2, x3, xv]
  by_cases e0 : tS T n = 0
  · rw [if_pos e0, if_pos e0]
  rw [if_neg e0, if_neg e0]
  unfold wfN at w
  by_cases e1 : tS T n = 1
  · rw [if_pos e1, if_pos e1]
    have w : okA T n ∧ okB T n := by
      rw [e1] at w
      rcases w with w | w | w | w | w | w | w | w | w | w <;> first | exact w.2 | exact absurd w (by decide) | exact absurd w.1 (by decide)
    have h3l := hp.1.2.2.1 (sLev σ) (Nat.le_refl _)
    have CM := cho_mid hp hlab hv
    have ha := w.1.2
    have hb := w.2.2
    unfold choP
    rw [xa, xb]
    by_cases e : sCome (wLab σ (sLab σ + 1)) (sLev (wLab σ (sLab σ + 1))) = (sTold (wLab σ (sLab σ + 1)) (sLev (wLab σ (sLab σ + 1)))).length
    · rw [if_pos e, if_pos e]
      by_cases e2 : sLev (wLab σ (sLab σ + 1)) = 0
      · rw [if_pos e2, if_pos e2]
      · rw [if_neg e2, if_neg e2]
        have e3 : sCome σ (sLev σ) = (sTold σ (sLev σ)).length := e
        exact eq_tk H (by omega) ((CM (va_up (sTold σ) (sLev σ) (sTold σ (sLev σ) ++ [false])) (fun k hk => up_ne (Nat.ne_of_lt hk)) (fun h => absurd h e2) (by rw [up_eq, List.length_append, e3]; exact Nat.le_refl _)).pre hp hv ha)
    · rw [if_neg e, if_neg e]
      have e3 : ¬ sCome σ (sLev σ) = (sTold σ (sLev σ)).length := e
      refine eq_tk H ?_ ((CM (sTold σ) (fun _ _ => rfl) (fun _ => rfl) (by omega)).pre hp hv ?_)
      · split <;> omega
      · split <;> assumption
  rw [if_neg e1, if_neg e1]
  by_cases e2 : tS T n = 2
  · rw [if_pos e2, if_pos e2]
  rw [if_neg e2, if_neg e2]
  by_cases e3 : tS T n = 3
  · rw [if_pos e3, if_pos e3]
  rw [if_neg e3, if_neg e3]
  have pr : ∀ {σ0 : St} {p σ2}, Mid T n σ0 σ2 → tA T n < n → pairO (gv σ2 (tA T n)) = some p → n < tN T → p < tN T ∧ tA T p < n ∧ tB T p < n := by
    intro σ0 p σ2 m2 ha hq hn
    have hg : gv σ2 (tA T n) = some (.inr (.inl p)) := by
      revert hq; cases gv σ2 (tA T n) with
      | none => intro h; cases h
      | some x => match x with
        | .inl _ => intro h; cases h
        | .inr (.inr _) => intro h; cases h
        | .inr (.inl q) => intro h; cases h; rfl
    obtain ⟨a1, a2⟩ := gv_ok m2.2.1 hg
    have := a2.1
    have pa := pair_args hT (show p < tN T by omega) a2.2
    omega
  by_cases e4 : tS T n = 4
  · rw [if_pos e4, if_pos e4]
    have w : okA T n := by
      rw [e4] at w
      rcases w with w | w | w | w | w | w | w | w | w | w <;> first | exact absurd w (by decide) | exact absurd w.1 (by decide) | exact w.2
    refine eq_nAs H R w.2 (by have := w.2; omega) m0 hp hv (fun p σ2 m2 hq => ?_)
    obtain ⟨q0, q1, q2⟩ := pr m2 w.2 hq hn
    rw [(X.a q0).1]
    exact eq_tk H (by omega) (m2.pre hp hv q1)
  rw [if_neg e4, if_neg e4]
  by_cases e5 : tS T n = 5
  · rw [if_pos e5, if_pos e5]
    have w : okA T n := by
      rw [e5] at w
      rcases w with w | w | w | w | w | w | w | w | w | w <;> first | exact absurd w (by decide) | exact absurd w.1 (by decide) | exact w.2
    refine eq_nAs H R w.2 (by have := w.2; omega) m0 hp hv (fun p σ2 m2 hq => ?_)
    obtain ⟨q0, q1, q2⟩ := pr m2 w.2 hq hn
    rw [(X.a q0).2.1]
    exact eq_tk H (by omega) (m2.pre hp hv q2)
  rw [if_neg e5, if_neg e5]
  by_cases e6 : tS T n = 6
  · rw [if_pos e6, if_pos e6]
    have w : okA T n ∧ okB T n := by
      rw [e6] at w
      rcases w with w | w | w | w | w | w | w | w | w | w <;> first | exact absurd w (by decide) | exact absurd w.1 (by decide) | exact ⟨w.2.1, w.2.2.1⟩
    exact eq_nAs H R w.1.2 (by have := w.1.2; omega) m0 hp hv (fun a σ2 m2 _ => eq_nAs H R w.2.2 (by have := w.2.2; omega) m2 hp hv (fun b σ3 m3 _ => rfl))
  rw [if_neg e6, if_neg e6]
  by_cases e7 : tS T n = 7
  · rw [if_pos e7, if_pos e7]
    have w : okA T n ∧ okB T n ∧ okC T n := by
      rw [e7] at w
      rcases w with w | w | w | w | w | w | w | w | w | w <;> first | exact absurd w (by decide) | exact absurd w.1 (by decide) | exact w.2
    have hb := w.2.1.2
    have hc := w.2.2.2
    exact eq_nAs H R w.1.2 (by have := w.1.2; omega) m0 hp hv (fun v σ2 m2 _ => eq_tk H (by split <;> omega) (m2.pre hp hv (by split <;> omega)))
  rw [if_neg e7, if_neg e7]
  by_cases e8 : tS T n = 8
  · rw [if_pos e8, if_pos e8]
    have w : okA T n := by
      rw [e8] at w
      rcases w with w | w | w | w | w | w | w | w | w | w <;> first | exact absurd w (by decide) | exact absurd w.1 (by decide) | exact w.2.1
    have wa := w.2
    by_cases e5' : sLev (wLab σ (sLab σ + 1)) = 5
    · rw [if_pos e5', if_pos e5']
    · rw [if_neg e5', if_neg e5']
      have hl5 : sLev σ < 5 := by have := hp.1.1.1; have : ¬ sLev σ = 5 := e5'; omega
      exact eq_go H R wa hnf (tf_post R hT f (tA T n) (by omega) (by omega) (by omega)) (eq_tf H R hT X f (tA T n) (by omega) (by omega) (by omega)) hp hv hl5 61 _ m0
  rw [if_neg e8, if_neg e8]
  have w : okA T n := by
    rcases w with w | w | w | w | w | w | w | w | w | w <;> first | exact absurd w e0 | exact absurd w.1 e1 | exact absurd w e2 | exact absurd w.1 e3 | exact absurd w.1 e4 | exact absurd w.1 e5 | exact absurd w.1 e6 | exact absurd w.1 e7 | exact absurd w.1 e8 | exact w.2.1
  exact eq_nAs H R w.2 (by have := w.2; omega) m0 hp hv (fun q σ2 m2 _ => rfl)
theorem eq_nd {T T' : NT} (hT : wfT T) (X : TX T T') : ∀ f, EQh T (ndP T f) (ndP T' f) f
  | 0, n, hn, _, _ => by omega
  | f + 1, n, hn, σ, hp => by
    unfold ndP
    by_cases h1 : (gv σ n).isSome
    · rw [if_pos h1, if_pos h1]
    · rw [if_neg h1, if_neg h1]
      by_cases h2 : lvOf (sIns σ) n (sLev σ) < sLev σ
      · rw [if_pos h2, if_pos h2]
      · rw [if_neg h2, if_neg h2]
        by_cases h3 : sLab σ = 2000
        · rw [if_pos h3, if_pos h3]
        · rw [if_neg h3, if_neg h3]
          have hv : sVal σ (sLev σ) n = none := by
            have hl : lvOf (sIns σ) n (sLev σ) = sLev σ := by have := lvOf_le (sIns σ) n (sLev σ); omega
            cases e : gv σ n with
            | none =>
              unfold gv at e
              rw [hl] at e
              exact e
            | some x => rw [e] at h1; exact absurd rfl h1
          exact eq_wk (eq_nd hT X f) (nd_post hT f) hT X (by omega) hp (by have := hp.1.2.2.2.2; omega) hv
theorem eq_run {T T' : NT} (hT : wfT T) (X : TX T T') {n : Nat} (hn : n < tN T) (t : List Bool) : runP T' n t = runP T n t := eq_tf (eq_nd hT X 60) (nd_post hT 60) hT X 60 n (by have := hT.1; omega) (by have := hT.1; omega) hn _ (stP_pre T t)
