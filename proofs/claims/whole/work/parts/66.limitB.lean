theorem lr_tok {t : List Bool} {l : Nat} {σ : St} (ts : List Tok) : LR t l (tokP σ ts) (tokP (Upt σ t) ts) := by
  unfold tokP
  by_cases h : (sFull σ (sLev σ)).length + ts.length ≤ 100
  · rw [if_pos h, if_pos (show (sFull (Upt σ t) (sLev (Upt σ t))).length + ts.length ≤ 100 from h)]
    exact ⟨fun _ => rfl, (fun q => by cases q)⟩
  · rw [if_neg h, if_neg (show ¬ (sFull (Upt σ t) (sLev (Upt σ t))).length + ts.length ≤ 100 from h)]
    exact LR.same (by decide)
theorem mono_tok {σ : St} (ts : List Tok) : sCome σ 0 ≤ sCome (tokP σ ts).2 0 := by
  rcases tok_cases σ ts with ⟨e, -⟩ | e <;> rw [e] <;> exact Nat.le_refl _
theorem tok_pre {T : NT} {σ : St} {ts : List Tok} (h : TPre T σ) (z : (tokP σ ts).1 = 0) : TPre T (tokP σ ts).2 ∧ sTold (tokP σ ts).2 0 = sTold σ 0 := by
  rcases tok_cases σ ts with ⟨e, -⟩ | e
  · rw [e]; exact ⟨h, rfl⟩
  · rw [e] at z; cases z
/-- what follows a value's working out when it is told in full -/
def tfK (rec : Nat → St → Rs) (T : NT) (g n : Nat) (σ1 : St) : Rs :=
  match gv σ1 n with
  | some (.inl v) => tokP σ1 [(0, v)]
  | some (.inr (.inr q)) => tokP σ1 (hsl (sHeap σ1) q.1 q.2)
  | some (.inr (.inl p)) => bd (tokP σ1 [(1, 2)]) (fun σ2 => bd (tfP rec T g (tA T p) σ2) (fun σ3 => tfP rec T g (tB T p) σ3))
  | none => (9, σ1)
theorem tfP_K {rec : Nat → St → Rs} {T : NT} {g n : Nat} {σ : St} : tfP rec T (g + 1) n σ = bd (rec n σ) (tfK rec T g n) := rfl
theorem mono_tf {T : NT} {rec : Nat → St → Rs} {f g n : Nat} {σ : St} (R : RH T rec f) (hT : wfT T) (hg : n < g) (hf : n < f) (hn : n < tN T) (hp : TPre T σ) : sCome σ 0 ≤ sCome (tfP rec T g n σ).2 0 := (tf_post R hT g n hg hf hn σ hp).2.1.c0
theorem mono_K {T : NT} {rec : Nat → St → Rs} {f g n : Nat} {σ : St} (R : RH T rec f) (hT : wfT T) (hg : n ≤ g) (hf : n ≤ f) (hp : TPre T σ) : sCome σ 0 ≤ sCome (tfK rec T g n σ).2 0 := by
  unfold tfK
  cases e : gv σ n with
  | none => exact Nat.le_refl _
  | some x =>
    obtain ⟨a1, a2⟩ := gv_ok hp.1 e
    match x, a2 with
    | .inl v, _ => exact mono_tok _
    | .inr (.inr q), _ => exact mono_tok _
    | .inr (.inl p), a2 =>
      have hz := a2.1
      obtain ⟨ha, hb⟩ := pair_args hT (by omega) a2.2
      show sCome σ 0 ≤ sCome (bd (tokP σ [(1, 2)]) (fun σ2 => bd (tfP rec T g (tA T p) σ2) (fun σ3 => tfP rec T g (tB T p) σ3))).2 0
      by_cases z : (tokP σ [(1, 2)]).1 = 0
      · rw [bd_0 z]
        obtain ⟨t1, -⟩ := tok_pre hp z
        have m1 := mono_tok (σ := σ) [(1, 2)]
        have P := tf_post R hT g (tA T p) (by omega) (by omega) (by omega) _ t1
        have m2 := P.2.1.c0
        by_cases z2 : (tfP rec T g (tA T p) (tokP σ [(1, 2)]).2).1 = 0
        · show _ ≤ sCome (bd (tfP rec T g (tA T p) (tokP σ [(1, 2)]).2) _).2 0
          rw [bd_0 z2]
          have m3 := mono_tf (g := g) R hT (by omega) (by omega) (show tB T p < tN T by omega) (P.tpre t1 z2)
          omega
        · show _ ≤ sCome (bd (tfP rec T g (tA T p) (tokP σ [(1, 2)]).2) _).2 0
          rw [bd_n z2]
          omega
      · rw [bd_n z]
        exact mono_tok _
theorem lr_tf {T : NT} {rec : Nat → St → Rs} {f : Nat} {t : List Bool} (H : LRh T rec f t) (R : RH T rec f) (hT : wfT T) : ∀ g n, n < g → n < f → n < tN T → ∀ σ, TPre T σ → sTold σ 0 <+: t → LR t (sTold σ 0).length (tfP rec T g n σ) (tfP rec T g n (Upt σ t))
  | g + 1, n, hg, hf, hn, σ, hp, hs => by
    have P := R n hf σ (hp.pre hT hn)
    have hl := hs.length_le
    have P' := R n hf (Upt σ t) ((hp.upt hl).pre hT hn)
    rw [tfP_K, tfP_K]
    refine (H n hf σ (hp.pre hT hn) hs).bd (fun z => ?_) (fun _ z' => mono_K R hT (by omega) (by omega) (P'.tpre hT hn (hp.upt hl) z'))
    have tp := P.tpre hT hn hp z
    have t0 := P.2.1.t0
    obtain ⟨⟨x, gx⟩, -⟩ := P.2.2.2.2.2.2.1 z
    obtain ⟨a1, a2⟩ := gv_ok tp.1 gx
    generalize (rec n σ).2 = σ1 at tp t0 gx a2
    have gx' : gv (Upt σ1 t) n = some x := gx
    unfold tfK
    rw [gx, gx']
    rw [← t0]
    rw [← t0] at hs
    match x, a2 with
    | .inl v, _ => exact lr_tok _
    | .inr (.inr q), _ => exact lr_tok _
    | .inr (.inl p), a2 =>
      have hz := a2.1
      obtain ⟨ha, hb⟩ := pair_args hT (by omega) a2.2
      have tp' := tp.upt hs.length_le
      refine (lr_tok [(1, 2)]).bd (fun z1 => ?_) (fun q => by rcases tok_cases σ1 [(1, 2)] with ⟨e, -⟩ | e <;> rw [e] at q <;> cases q)
      obtain ⟨t1, s1⟩ := tok_pre tp z1
      have PA := tf_post R hT g (tA T p) (by omega) (by omega) (by omega) _ t1
      generalize (tokP σ1 [(1, 2)]).2 = σ2 at t1 s1 PA
      rw [← s1]
      rw [← s1] at hs
      have PA' := tf_post R hT g (tA T p) (by omega) (by omega) (by omega) _ (t1.upt hs.length_le)
      refine (lr_tf H R hT g (tA T p) (by omega) (by omega) (by omega) σ2 t1 hs).bd (fun z2 => ?_) (fun _ z2' => mono_tf (g := g) R hT (by omega) (by omega) (by omega) (PA'.tpre (t1.upt hs.length_le) z2'))
      have s2 := PA.2.1.t0
      have t2 := PA.tpre t1 z2
      have := lr_tf H R hT g (tB T p) (by omega) (by omega) (by omega) _ t2 (by rw [s2]; exact hs)
      rw [s2] at this
      exact this
theorem inP_upt {σ : St} {t : List Bool} {m : Nat} : inP (Upt σ t) m = Upt (inP σ m) t := by
  show mkS _ _ (va_up (va_up (sTold σ) 0 t) (sLev σ + 1) []) _ _ _ _ _ _ _ _ _ = mkS _ _ (va_up (va_up (sTold σ) (sLev σ + 1) []) 0 t) _ _ _ _ _ _ _ _ _
  rw [up_comm (show (0 : Nat) ≠ sLev σ + 1 by omega)]
  rfl
theorem mono_go {T : NT} {rec : Nat → St → Rs} {tf : St → Rs} {f n m a : Nat} {σ : St} (R : RH T rec f) (ha : a < n) (hnf : n ≤ f) (htf : ∀ σ, TPre T σ → TPost T a σ (tf σ)) (hp : Pre T n σ) (hv : sVal σ (sLev σ) n = none) (h5 : sLev σ < 5) : ∀ g σ1, Mid T n σ σ1 → sCome σ1 0 ≤ sCome (goP rec tf m n g σ1).2 0
  | 0, σ1, _ => Nat.le_refl _
  | g + 1, σ1, M => by
    have ls : sLev σ1 = sLev σ := M.1.1
    have I1 := M.2.1
    have wi := in_WI (m := m) I1
    have wp := ways_post (m := m) I1 (by omega) htf 2001 (inP σ1 m) wi.1 wi.2 (Nat.le_add_right _ _)
    unfold goP
    dsimp only
    generalize waysP tf (sHeap σ1).length 2001 (inP σ1 m) = r at wp
    obtain ⟨w1, w2, w3, w4, w5, w6⟩ := wp
    have om := out_mid M w4
    have lo : sLev (outP r.2 (sHeap σ1).length) = sLev σ1 := om.1.1.1.trans ls.symm
    have c0 : sCome (outP r.2 (sHeap σ1).length) 0 = sCome σ1 0 := (w4.2.1 0 (Nat.zero_le _)).2.2.2.1
    by_cases h0 : r.1 = 0
    · rw [if_pos h0]; exact Nat.le_of_eq c0.symm
    · rw [if_neg h0]
      by_cases h4 : r.1 = 4 ∧ sWl (outP r.2 (sHeap σ1).length) = sLev (outP r.2 (sHeap σ1).length)
      · rw [if_pos h4]
        obtain ⟨q1, q2, q3, q4⟩ := w6 h4.1
        have hx : sWn r.2 < n := by omega
        have p := R (sWn r.2) (by omega) _ (om.1.pre hp hv hx)
        have pc := p.2.1.c0
        show sCome σ1 0 ≤ sCome (bd (rec (sWn r.2) (outP r.2 (sHeap σ1).length)) (goP rec tf m n g)).2 0
        by_cases h00 : (rec (sWn r.2) (outP r.2 (sHeap σ1).length)).1 = 0
        · rw [bd_0 h00]
          have := mono_go (m := m) R ha hnf htf hp hv h5 g _ (om.1.post hx p h00)
          omega
        · rw [bd_n h00]; omega
      · rw [if_neg h4]; exact Nat.le_of_eq c0.symm
theorem lr_go {T : NT} {rec : Nat → St → Rs} {tf : St → Rs} {f n m a : Nat} {σ : St} {t : List Bool} (H : LRh T rec f t) (R : RH T rec f) (hT : wfT T) (ha : a < n) (hnf : n ≤ f) (htf : ∀ σ, TPre T σ → TPost T a σ (tf σ)) (hu : ∀ σ', TPre T σ' → sLev σ' ≠ 0 → sTold σ' 0 = sTold σ 0 → tf (Upt σ' t) = ((tf σ').1, Upt (tf σ').2 t)) (hp : Pre T n σ) (hv : sVal σ (sLev σ) n = none) (h5 : sLev σ < 5) (hs : sTold σ 0 <+: t) : ∀ g σ1, Mid T n σ σ1 → LR t (sTold σ 0).length (goP rec tf m n g σ1) (goP rec tf m n g (Upt σ1 t))
  | 0, σ1, _ => LR.same (by decide)
  | g + 1, σ1, M => by
    have ls : sLev σ1 = sLev σ := M.1.1
    have I1 := M.2.1
    have wi := in_WI (m := m) I1
    have wp := ways_post (m := m) I1 (by omega) htf 2001 (inP σ1 m) wi.1 wi.2 (Nat.le_add_right _ _)
    have uw := up_ways (m := m) (t := t) I1 (by omega) htf (fun σ' h1 h2 h3 => hu σ' h1 h2 (h3.trans M.1.t0)) 2001 (inP σ1 m) wi.1
    unfold goP
    have eh : sHeap (Upt σ1 t) = sHeap σ1 := rfl
    rw [inP_upt, eh, uw]
    dsimp only
    generalize waysP tf (sHeap σ1).length 2001 (inP σ1 m) = r at wp
    obtain ⟨w1, w2, w3, w4, w5, w6⟩ := wp
    have om := out_mid M w4
    have om' := om.1.upt hs.length_le
    by_cases h0 : r.1 = 0
    · rw [if_pos h0, if_pos h0]
      exact ⟨fun _ => rfl, (fun q => by cases q)⟩
    · rw [if_neg h0, if_neg h0]
      by_cases h4 : r.1 = 4 ∧ sWl (outP r.2 (sHeap σ1).length) = sLev (outP r.2 (sHeap σ1).length)
      · rw [if_pos h4, if_pos (show r.1 = 4 ∧ sWl (outP (Upt r.2 t) (sHeap σ1).length) = sLev (outP (Upt r.2 t) (sHeap σ1).length) from h4)]
        obtain ⟨q1, q2, q3, q4⟩ := w6 h4.1
        have hx : sWn r.2 < n := by omega
        have p := R (sWn r.2) (by omega) _ (om.1.pre hp hv hx)
        have pp := om'.pre (hp.upt hs.length_le) hv hx
        have p' := R (sWn r.2) (by omega) _ pp
        have t0 := om.1.1.t0
        have h := H (sWn r.2) (by omega) _ (om.1.pre hp hv hx) (by rw [t0]; exact hs)
        rw [t0] at h
        show LR t (sTold σ 0).length (bd (rec (sWn r.2) (outP r.2 (sHeap σ1).length)) (goP rec tf m n g)) (bd (rec (sWn r.2) (Upt (outP r.2 (sHeap σ1).length) t)) (goP rec tf m n g))
        exact h.bd (fun h00 => lr_go H R hT ha hnf htf hu hp hv h5 hs g _ (om.1.post hx p h00)) (fun _ h00 => mono_go R ha hnf htf (hp.upt hs.length_le) hv h5 g _ (om'.post hx p' h00))
      · rw [if_neg h4, if_neg (show ¬ (r.1 = 4 ∧ sWl (outP (Upt r.2 t) (sHeap σ1).length) = sLev (outP (Upt r.2 t) (sHeap σ1).length)) from h4)]
        exact ⟨fun _ => rfl, fun q => absurd q w3⟩
theorem lr_wk {T : NT} {rec : Nat → St → Rs} {f n : Nat} {σ : St} {t : List Bool} (H : LRh T rec f t) (R : RH T rec f) (hT : wfT T) (hnf : n ≤ f) (hp : Pre T n σ) (hlab : sLab σ < 2000) (hv : sVal σ (sLev σ) n = none) (hs : sTold σ 0 <+: t) : LR t (sTold σ 0).length (wkP rec f T n (wLab σ (sLab σ + 1))) (wkP rec f T n (Upt (wLab σ (sLab σ + 1)) t)) := by
  have m0 := lab_mid hp hlab
  have w := hT.2 n hp.2.1
  have hl := hs.length_le
  have hp' := hp.upt hl
  unfold wkP
  by_cases e0 : tS T n = 0
  · rw [if_pos e0, if_pos e0]; exact ⟨fun _ => rfl, (fun q => by cases q)⟩
  rw [if_neg e0, if_neg e0]
  unfold wfN at w
  by_cases e1 : tS T n = 1
  · rw [if_pos e1, if_pos e1]
    have w : okA T n ∧ okB T n := by
      rw [e1] at w
      rcases w with w | w | w | w | w | w | w | w | w | w <;> first | exact w.2 | exact absurd w (by decide) | exact absurd w.1 (by decide)
    exact lr_cho H R w.1.2 w.2.2 hnf hp hlab hv hs
  rw [if_neg e1, if_neg e1]
  by_cases e2 : tS T n = 2
  · rw [if_pos e2, if_pos e2]; exact LR.same (by decide)
  rw [if_neg e2, if_neg e2]
  by_cases e3 : tS T n = 3
  · rw [if_pos e3, if_pos e3]; exact ⟨fun _ => rfl, (fun q => by cases q)⟩
  rw [if_neg e3, if_neg e3]
  have pr : ∀ {σ0 : St} {p σ2}, Mid T n σ0 σ2 → tA T n < n → pairO (gv σ2 (tA T n)) = some p → n < tN T → tA T p < n ∧ tB T p < n := by
    intro σ0 p σ2 m2 ha hq hn
    have hg : gv σ2 (tA T n) = some (.inr (.inl p)) := by
      revert hq; cases gv σ2 (tA T n) with
      | none => intro h; cases h
      | some x => match x with
        | .inl _ => intro h; cases h
        | .inr (.inr _) => intro h; cases h
        | .inr (.inl q) => intro h; cases h; rfl
    obtain ⟨a1, a2⟩ := gv_ok m2.2.1 hg
    have := a2.1
    have pa := pair_args hT (show p < tN T by omega) a2.2
    omega
  by_cases e4 : tS T n = 4
  · rw [if_pos e4, if_pos e4]
    have w : okA T n := by
      rw [e4] at w
      rcases w with w | w | w | w | w | w | w | w | w | w <;> first | exact absurd w (by decide) | exact absurd w.1 (by decide) | exact w.2
    refine lr_nAs H R w.2 (by have := w.2; omega) m0 hp hv hs (fun p σ2 m2 hq => ?_) (fun p σ2 m2 hq => ?_)
    · have := pr m2 w.2 hq hp.2.1
      exact lr_tk H (by omega) (m2.pre hp hv this.1) m2.1.t0 hs
    · have := pr m2 w.2 hq hp.2.1
      exact mono_tk R (by omega) (m2.pre hp' hv this.1)
  rw [if_neg e4, if_neg e4]
  by_cases e5 : tS T n = 5
  · rw [if_pos e5, if_pos e5]
    have w : okA T n := by
      rw [e5] at w
      rcases w with w | w | w | w | w | w | w | w | w | w <;> first | exact absurd w (by decide) | exact absurd w.1 (by decide) | exact w.2
    refine lr_nAs H R w.2 (by have := w.2; omega) m0 hp hv hs (fun p σ2 m2 hq => ?_) (fun p σ2 m2 hq => ?_)
    · have := pr m2 w.2 hq hp.2.1
      exact lr_tk H (by omega) (m2.pre hp hv this.2) m2.1.t0 hs
    · have := pr m2 w.2 hq hp.2.1
      exact mono_tk R (by omega) (m2.pre hp' hv this.2)
  rw [if_neg e5, if_neg e5]
  by_cases e6 : tS T n = 6
  · rw [if_pos e6, if_pos e6]
    have w : okA T n ∧ okB T n := by
      rw [e6] at w
      rcases w with w | w | w | w | w | w | w | w | w | w <;> first | exact absurd w (by decide) | exact absurd w.1 (by decide) | exact ⟨w.2.1, w.2.2.1⟩
    refine lr_nAs H R w.1.2 (by have := w.1.2; omega) m0 hp hv hs (fun a σ2 m2 _ => lr_nAs H R w.2.2 (by have := w.2.2; omega) m2 hp hv hs (fun b σ3 m3 _ => lr_ans _) (fun b σ3 m3 _ => mono_ans _)) (fun a σ2 m2 _ => mono_nAs R (by have := w.2.2; omega) (m2.pre hp' hv w.2.2) (fun b _ _ => mono_ans _))
  rw [if_neg e6, if_neg e6]
  by_cases e7 : tS T n = 7
  · rw [if_pos e7, if_pos e7]
    have w : okA T n ∧ okB T n ∧ okC T n := by
      rw [e7] at w
      rcases w with w | w | w | w | w | w | w | w | w | w <;> first | exact absurd w (by decide) | exact absurd w.1 (by decide) | exact w.2
    have hb := w.2.1.2
    have hc := w.2.2.2
    exact lr_nAs H R w.1.2 (by have := w.1.2; omega) m0 hp hv hs (fun v σ2 m2 _ => lr_tk H (by split <;> omega) (m2.pre hp hv (by split <;> omega)) m2.1.t0 hs) (fun v σ2 m2 _ => mono_tk R (by split <;> omega) (m2.pre hp' hv (by split <;> omega)))
  rw [if_neg e7, if_neg e7]
  by_cases e8 : tS T n = 8
  · rw [if_pos e8, if_pos e8]
    have w : okA T n := by
      rw [e8] at w
      rcases w with w | w | w | w | w | w | w | w | w | w <;> first | exact absurd w (by decide) | exact absurd w.1 (by decide) | exact w.2.1
    have wa := w.2
    by_cases e5' : sLev σ = 5
    · rw [if_pos (show sLev (wLab σ (sLab σ + 1)) = 5 from e5'), if_pos (show sLev (Upt (wLab σ (sLab σ + 1)) t) = 5 from e5')]; exact LR.same (by decide)
    · rw [if_neg (show ¬ sLev (wLab σ (sLab σ + 1)) = 5 from e5'), if_neg (show ¬ sLev (Upt (wLab σ (sLab σ + 1)) t) = 5 from e5')]
      have hl5 : sLev σ < 5 := by have := hp.1.1.1; omega
      have hn := hp.2.1
      have htf := tf_post R hT f (tA T n) (by omega) (by omega) (by omega)
      refine lr_go H R hT wa hnf htf (fun σ' tp l0 ht => ?_) hp hv hl5 hs 61 _ m0
      have h := lr_tf H R hT f (tA T n) (by omega) (by omega) (by omega) σ' tp (by rw [ht]; exact hs)
      exact h.1 (fun q => l0 ((htf σ' tp).2.2.2.2.2.1 q))
  rw [if_neg e8, if_neg e8]
  have w : okA T n := by
    rcases w with w | w | w | w | w | w | w | w | w | w <;> first | exact absurd w e0 | exact absurd w.1 e1 | exact absurd w e2 | exact absurd w.1 e3 | exact absurd w.1 e4 | exact absurd w.1 e5 | exact absurd w.1 e6 | exact absurd w.1 e7 | exact absurd w.1 e8 | exact w.2.1
  exact lr_nAs H R w.2 (by have := w.2; omega) m0 hp hv hs (fun q σ2 m2 _ => lr_ans _) (fun q σ2 m2 _ => mono_ans _)
theorem lr_nd {T : NT} {t : List Bool} (hT : wfT T) : ∀ f, LRh T (ndP T f) f t
  | 0, n, hn, _, _, _ => by omega
  | f + 1, n, hn, σ, hp, hs => by
    unfold ndP
    have eg : gv (Upt σ t) n = gv σ n := rfl
    rw [eg]
    by_cases h1 : (gv σ n).isSome
    · rw [if_pos h1, if_pos h1]; exact LR.same (by decide)
    · rw [if_neg h1, if_neg h1]
      by_cases h2 : lvOf (sIns σ) n (sLev σ) < sLev σ
      · rw [if_pos h2, if_pos (show lvOf (sIns (Upt σ t)) n (sLev (Upt σ t)) < sLev (Upt σ t) from h2)]
        exact ⟨fun _ => rfl, (fun q => by cases q)⟩
      · rw [if_neg h2, if_neg (show ¬ lvOf (sIns (Upt σ t)) n (sLev (Upt σ t)) < sLev (Upt σ t) from h2)]
        by_cases h3 : sLab σ = 2000
        · rw [if_pos h3, if_pos (show sLab (Upt σ t) = 2000 from h3)]; exact LR.same (by decide)
        · rw [if_neg h3, if_neg (show ¬ sLab (Upt σ t) = 2000 from h3)]
          have hv : sVal σ (sLev σ) n = none := by
            have hl : lvOf (sIns σ) n (sLev σ) = sLev σ := by have := lvOf_le (sIns σ) n (sLev σ); omega
            cases e : gv σ n with
            | none =>
              unfold gv at e
              rw [hl] at e
              exact e
            | some x => rw [e] at h1; exact absurd rfl h1
          exact lr_wk (lr_nd hT f) (nd_post hT f) hT (by omega) hp (by have := hp.1.2.2.2.2; omega) hv hs
theorem Upt_st (s t : List Bool) : Upt (stP s) t = stP t := by
  show mkS _ _ (va_up (tl0 s) 0 t) _ _ _ _ _ _ _ _ _ = mkS _ _ (tl0 t) _ _ _ _ _ _ _ _ _
  have : va_up (tl0 s) 0 t = tl0 t := by
    funext k
    cases k with
    | zero => rw [up_eq]; rfl
    | succ k => rw [up_ne (by omega)]; rfl
  rw [this]
  rfl
/-- fewer told ones and more -/
theorem lr_run {T : NT} (hT : wfT T) {n : Nat} (hn : n < tN T) {s t : List Bool} (h : s <+: t) : LR t s.length (runP T n s) (runP T n t) := by
  have := lr_tf (lr_nd (t := t) hT 60) (nd_post hT 60) hT 60 n (by have := hT.1; omega) (by have := hT.1; omega) hn (stP s) (stP_pre T s) h
  rw [Upt_st] at this
  exact this
def dcs (r : Rs) : Nat := sCome r.2 0
theorem run_t0 {T : NT} (hT : wfT T) {n : Nat} (hn : n < tN T) (t : List Bool) : sTold (runP T n t).2 0 = t := (run_post hT hn t).2.1.t0
theorem run_le {T : NT} (hT : wfT T) {n : Nat} (hn : n < tN T) (t : List Bool) : dcs (runP T n t) ≤ t.length ∧ dcs (runP T n t) ≤ 60 ∧ (runP T n t).1 ≤ 3 ∧ sLev (runP T n t).2 = 0 := by
  have P := run_post hT hn t
  have l0 : sLev (runP T n t).2 = 0 := P.2.1.1
  have := P.2.2.1.2.2.1 0 (Nat.zero_le _)
  rw [run_t0 hT hn t] at this
  refine ⟨this, P.2.2.2.1, ?_, l0⟩
  have h4 := P.1
  have : (runP T n t).1 ≠ 4 := fun q => by
    have := (P.2.2.2.2.2.2 q).1
    have : sWl (runP T n t).2 < 0 := this
    omega
  omega
/-- at a decision: all told ones were come to -/
theorem run_3 {T : NT} (hT : wfT T) {n : Nat} (hn : n < tN T) {t : List Bool} (h : (runP T n t).1 = 3) : dcs (runP T n t) = t.length := by
  have a := ((lr_run hT hn (List.prefix_refl t)).2 h).1
  have b := (run_le hT hn t).1
  exact Nat.le_antisymm b a
/-- fewer told ones than decisions -/
theorem run_less {T : NT} (hT : wfT T) {n : Nat} (hn : n < tN T) {t : List Bool} {k : Nat} (h : k < dcs (runP T n t)) : (runP T n (t.take k)).1 = 3 := by
  by_cases e : (runP T n (t.take k)).1 = 3
  · exact e
  · have a := (lr_run hT hn (List.take_prefix k t)).1 e
    have b := (run_le hT hn (t.take k)).1
    rw [List.length_take] at b
    have c : dcs (runP T n t) = dcs (runP T n (t.take k)) := by rw [a]; rfl
    omega
/-- as many told ones as decisions -/
theorem run_cut {T : NT} (hT : wfT T) {n : Nat} (hn : n < tN T) {t : List Bool} {k : Nat} (h : dcs (runP T n t) ≤ k) (hk : k < t.length) : (runP T n (t.take k)).1 ≠ 3 ∧ runP T n t = ((runP T n (t.take k)).1, Upt (runP T n (t.take k)).2 t) := by
  have l := lr_run hT hn (List.take_prefix k t)
  by_cases e : (runP T n (t.take k)).1 = 3
  · have := (l.2 e).2 (by rw [List.length_take]; omega)
    rw [List.length_take] at this
    have : min k t.length < dcs (runP T n t) := this
    omega
  · exact ⟨e, l.1 e⟩
