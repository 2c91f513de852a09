theorem bd_0 {r : Rs} {g : St → Rs} (h : r.1 = 0) : bd r g = g r.2 := if_pos h
theorem bd_n {r : Rs} {g : St → Rs} (h : ¬ r.1 = 0) : bd r g = r := if_neg h
def RH (T : NT) (rec : Nat → St → Rs) (f : Nat) : Prop := ∀ n, n < f → ∀ σ, Pre T n σ → Post T n σ (rec n σ)
theorem tk_post {T : NT} {rec : Nat → St → Rs} {f n x : Nat} {σ σ1 : St} (R : RH T rec f) (hT : wfT T) (hx : x < n) (hf : x < f) (m : Mid T n σ σ1) (hp : Pre T n σ) (hv : sVal σ (sLev σ) n = none) (hl : lvOf (sIns σ) n (sLev σ) = sLev σ) : Post T n σ (tkP rec n x σ1) := by
  have p := R x hf σ1 (m.pre hp hv hx)
  unfold tkP bd
  by_cases h0 : (rec x σ1).1 = 0
  · rw [if_pos h0]
    obtain ⟨y, hy⟩ := (p.2.2.2.2.2.2.1 h0).1
    show Post T n σ (0, sv (rec x σ1).2 n (gv (rec x σ1).2 x))
    rw [hy]
    have o := gv_ok p.2.2.1 hy
    exact (m.post hx p h0).set hT hp hv hl (okV_up (by omega) o.2)
  · rw [if_neg h0]
    exact m.bad hx p h0
theorem nAs_post {α : Type} {T : NT} {rec : Nat → St → Rs} {pr : Option Vl → Option α} {f n x : Nat} {σ σ1 : St} {g : α → St → Rs} (R : RH T rec f) (hx : x < n) (hf : x < f) (m : Mid T n σ σ1) (hp : Pre T n σ) (hv : sVal σ (sLev σ) n = none)
    (k : ∀ a σ2, Mid T n σ σ2 → pr (gv σ2 x) = some a → Post T n σ (g a σ2)) : Post T n σ (nAs rec pr x σ1 g) := by
  have p := R x hf σ1 (m.pre hp hv hx)
  unfold nAs bd
  by_cases h0 : (rec x σ1).1 = 0
  · rw [if_pos h0]
    have m2 := m.post hx p h0
    show Post T n σ (match pr (gv (rec x σ1).2 x) with | some a => g a (rec x σ1).2 | none => (1, (rec x σ1).2))
    cases e : pr (gv (rec x σ1).2 x) with
    | some a => exact k a _ m2 e
    | none => exact m2.ret 1 (by decide) (by decide) (by decide)
  · rw [if_neg h0]
    exact m.bad hx p h0
theorem ans_post {T : NT} {n : Nat} {σ σ1 : St} (o : Option Int64) (hT : wfT T) (m : Mid T n σ σ1) (hp : Pre T n σ) (hv : sVal σ (sLev σ) n = none) (hl : lvOf (sIns σ) n (sLev σ) = sLev σ) : Post T n σ (ansP σ1 n o) := by
  cases o with
  | some v => exact m.set hT hp hv hl trivial
  | none => exact m.ret 1 (by decide) (by decide) (by decide)
theorem lab_mid {T : NT} {n : Nat} {σ : St} (hp : Pre T n σ) (hlab : sLab σ < 2000) : Mid T n σ (wLab σ (sLab σ + 1)) := by
  obtain ⟨⟨h1, h2, h3, h4, h5⟩, h6, h7⟩ := hp
  exact ⟨⟨rfl, fun _ _ => rfl, fun _ _ => ⟨rfl, rfl, rfl, rfl⟩, fun _ _ => ⟨rfl, rfl⟩, fun _ _ h => h, List.prefix_refl _, Nat.le_succ _, Nat.le_refl _, by show sLab σ + sCome σ (sLev σ) ≤ sLab σ + 1 + sCome σ (sLev σ); omega, fun _ => rfl⟩, ⟨h1, h2, h3, h4, hlab⟩, rfl, by show sCome σ (sLev σ) ≤ 60; omega, fun _ _ => rfl, fun x _ => by show sCome σ (sLev σ) + cn (sVal σ (sLev σ)) x ≤ _; omega⟩
theorem cho_post {T : NT} {rec : Nat → St → Rs} {f n : Nat} {σ : St} (R : RH T rec f) (hT : wfT T) (ha : tA T n < n) (hb : tB T n < n) (hf : n ≤ f) (hp : Pre T n σ) (hlab : sLab σ < 2000) (hv : sVal σ (sLev σ) n = none) (hl : lvOf (sIns σ) n (sLev σ) = sLev σ) : Post T n σ (choP rec T n (wLab σ (sLab σ + 1))) := by
  have m0 := lab_mid hp hlab
  obtain ⟨⟨h1, h2, h3, h4, h5⟩, h6, h7⟩ := id hp
  have c60 : sCome σ (sLev σ) + 1 ≤ 60 := by
    have := cn_lt (sVal σ (sLev σ)) (show n < n + 1 by omega) hv
    omega
  have hm : ∀ t : Nat → List Bool, (∀ k, k < sLev σ → t k = sTold σ k) → (sLev σ = 0 → t 0 = sTold σ 0) → sCome σ (sLev σ) + 1 ≤ (t (sLev σ)).length → Mid T n σ (wTC (wLab σ (sLab σ + 1)) t (va_up (sCome σ) (sLev σ) (sCome σ (sLev σ) + 1))) := by
    intro t t1 t2 t3
    have ec : va_up (sCome σ) (sLev σ) (sCome σ (sLev σ) + 1) (sLev σ) = sCome σ (sLev σ) + 1 := up_eq
    refine ⟨⟨rfl, fun _ _ => rfl, fun k hk => ⟨rfl, t1 k hk, up_ne (by omega), rfl⟩, fun _ _ => ⟨rfl, rfl⟩, fun _ _ h => h, List.prefix_refl _, Nat.le_succ _, ?_, ?_, t2⟩, ⟨h1, h2, fun k hk => ?_, h4, hlab⟩, rfl, ?_, fun _ _ => rfl, fun x _ => ?_⟩
    · show sCome σ (sLev σ) ≤ va_up (sCome σ) (sLev σ) (sCome σ (sLev σ) + 1) (sLev σ)
      rw [ec]; omega
    · show sLab σ + va_up (sCome σ) (sLev σ) (sCome σ (sLev σ) + 1) (sLev σ) ≤ sLab σ + 1 + sCome σ (sLev σ)
      rw [ec]; omega
    · have hk : k ≤ sLev σ := hk
      show va_up (sCome σ) (sLev σ) (sCome σ (sLev σ) + 1) k ≤ (t k).length
      by_cases e : k = sLev σ
      · rw [e, ec]; exact t3
      · rw [up_ne e, t1 k (by omega)]; exact h3 k hk
    · show va_up (sCome σ) (sLev σ) (sCome σ (sLev σ) + 1) (sLev σ) ≤ 60
      rw [ec]; exact c60
    · show va_up (sCome σ) (sLev σ) (sCome σ (sLev σ) + 1) (sLev σ) + cn (sVal σ (sLev σ)) x ≤ _
      rw [ec]; omega
  have h3l := h3 (sLev σ) (Nat.le_refl _)
  unfold choP
  by_cases e : sCome (wLab σ (sLab σ + 1)) (sLev (wLab σ (sLab σ + 1))) = (sTold (wLab σ (sLab σ + 1)) (sLev (wLab σ (sLab σ + 1)))).length
  · rw [if_pos e]
    by_cases e2 : sLev (wLab σ (sLab σ + 1)) = 0
    · rw [if_pos e2]
      obtain ⟨m1, m2, m3, m4, m5, m6⟩ := m0
      exact ⟨by show 3 ≤ 4; omega, m1, m2, m3, m4, fun i hi => m5 i (by omega), (fun h => by cases h), fun _ => e2, (fun h => by cases h)⟩
    · rw [if_neg e2]
      have e3 : sCome σ (sLev σ) = (sTold σ (sLev σ)).length := e
      exact tk_post R hT ha (by omega) (hm (va_up (sTold σ) (sLev σ) (sTold σ (sLev σ) ++ [false])) (fun k hk => up_ne (Nat.ne_of_lt hk)) (fun h => absurd h e2) (by show _ ≤ (va_up (sTold σ) (sLev σ) (sTold σ (sLev σ) ++ [false]) (sLev σ)).length; rw [up_eq, List.length_append, e3]; exact Nat.le_refl _)) hp hv hl
  · rw [if_neg e]
    have e3 : ¬ sCome σ (sLev σ) = (sTold σ (sLev σ)).length := e
    refine tk_post R hT ?_ ?_ (hm (sTold σ) (fun _ _ => rfl) (fun _ => rfl) (by omega)) hp hv hl
    · split <;> assumption
    · split <;> omega
/-- behind a value in full -/
def TPost (T : NT) (n : Nat) (σ : St) (r : Rs) : Prop :=
  r.1 ≤ 4 ∧ Fr σ r.2 ∧ Inv T r.2 ∧ sCome r.2 (sLev σ) ≤ 60 ∧
  (r.1 = 0 → (∃ ts, sFull r.2 (sLev σ) = sFull σ (sLev σ) ++ ts ∧ WFs 1 ts) ∧ (sFull r.2 (sLev σ)).length ≤ 100 ∧ sCome r.2 (sLev σ) + cn (sVal r.2 (sLev σ)) 60 ≤ sCome σ (sLev σ) + cn (sVal σ (sLev σ)) 60) ∧
  (r.1 = 3 → sLev σ = 0) ∧
  (r.1 = 4 → sWl r.2 < sLev σ ∧ sVal r.2 (sWl r.2) (sWn r.2) = none ∧ lvOf (sIns σ) (sWn r.2) (sLev σ) = sWl r.2 ∧ sWn r.2 ≤ n)
def TPre (T : NT) (σ : St) : Prop := Inv T σ ∧ sCome σ (sLev σ) + cn (sVal σ (sLev σ)) 60 ≤ 60
theorem TPre.pre {T : NT} {n : Nat} {σ : St} (h : TPre T σ) (hT : wfT T) (hn : n < tN T) : Pre T n σ := by
  refine ⟨h.1, hn, ?_⟩
  have := cn_mono (sVal σ (sLev σ)) (show n + 1 ≤ 60 by have := hT.1; omega)
  have := h.2
  omega
theorem tok_post {T : NT} {n : Nat} {σ : St} {ts : List Tok} (h : TPre T σ) (hc : (tokP σ ts).1 = 0) : (tokP σ ts).2 = wFull σ (va_up (sFull σ) (sLev σ) (sFull σ (sLev σ) ++ ts)) ∧ (sFull σ (sLev σ)).length + ts.length ≤ 100 := by
  unfold tokP at hc ⊢
  split
  · rename_i q
    exact ⟨rfl, q⟩
  · rename_i q
    rw [if_neg q] at hc
    cases hc
theorem tok_fr {σ : St} {ts : List Tok} : Fr σ (wFull σ (va_up (sFull σ) (sLev σ) (sFull σ (sLev σ) ++ ts))) := ⟨rfl, fun _ _ => rfl, fun _ hk => ⟨rfl, rfl, rfl, up_ne (by omega)⟩, fun _ _ => ⟨rfl, rfl⟩, fun _ _ h => h, List.prefix_refl _, Nat.le_refl _, Nat.le_refl _, Nat.le_refl _, fun _ => rfl⟩
theorem tok_cases (σ : St) (ts : List Tok) : tokP σ ts = (0, wFull σ (va_up (sFull σ) (sLev σ) (sFull σ (sLev σ) ++ ts))) ∧ (sFull σ (sLev σ)).length + ts.length ≤ 100 ∨ tokP σ ts = (2, σ) := by
  unfold tokP
  split
  · rename_i q; exact Or.inl ⟨rfl, q⟩
  · exact Or.inr rfl
theorem pair_args {T : NT} {p : Nat} (hT : wfT T) (hp : p < tN T) (h3 : tS T p = 3) : tA T p < p ∧ tB T p < p := by
  have w := hT.2 p hp
  unfold wfN at w
  rw [h3] at w
  rcases w with w | w | w | w | w | w | w | w | w | w
  · exact absurd w (by decide)
  · exact absurd w.1 (by decide)
  · exact absurd w (by decide)
  · exact ⟨w.2.1.2, w.2.2.2⟩
  · exact absurd w.1 (by decide)
  · exact absurd w.1 (by decide)
  · exact absurd w.1 (by decide)
  · exact absurd w.1 (by decide)
  · exact absurd w.1 (by decide)
  · exact absurd w.1 (by decide)
theorem tf_post {T : NT} {rec : Nat → St → Rs} {f : Nat} (R : RH T rec f) (hT : wfT T) : ∀ g n, n < g → n < f → n < tN T → ∀ σ, TPre T σ → TPost T n σ (tfP rec T g n σ)
  | g + 1, n, hg, hf, hn, σ, hp => by
    have p := R n hf σ (hp.pre hT hn)
    unfold tfP
    by_cases h0 : (rec n σ).1 = 0
    · rw [bd_0 h0]
      generalize rec n σ = r at p h0
      obtain ⟨p1, p2, p3, p4, p5, p6, p7, p8, p9⟩ := p
      obtain ⟨⟨x, hx⟩, q⟩ := p7 h0
      have q60 := q 60 (by have := hT.1; omega)
      have o := gv_ok p3 hx
      have t1 : TPre T r.2 := ⟨p3, by rw [p2.1]; have := hp.2; omega⟩
      simp only [hx]
      have lev : sLev r.2 = sLev σ := p2.1
      have hbad : ∀ y : St, y = r.2 → TPost T n σ (2, y) := fun y hy => by
        subst hy
        exact ⟨by show 2 ≤ 4; omega, p2, p3, p5, (fun h => by cases h), (fun h => by cases h), (fun h => by cases h)⟩
      have one : ∀ ts, WFs 1 ts → TPost T n σ (tokP r.2 ts) := by
        intro ts hw
        rcases tok_cases r.2 ts with ⟨e, hl⟩ | e
        · rw [e]
          have ef : sFull (wFull r.2 (va_up (sFull r.2) (sLev r.2) (sFull r.2 (sLev r.2) ++ ts))) (sLev σ) = sFull σ (sLev σ) ++ ts := by
            show va_up (sFull r.2) (sLev r.2) (sFull r.2 (sLev r.2) ++ ts) (sLev σ) = _
            rw [lev, up_eq, p4]
          refine ⟨by show 0 ≤ 4; omega, p2.tr tok_fr, p3, p5, fun _ => ⟨⟨ts, ef, hw⟩, ?_, q60⟩, (fun h => by cases h), (fun h => by cases h)⟩
          show (sFull (wFull r.2 (va_up (sFull r.2) (sLev r.2) (sFull r.2 (sLev r.2) ++ ts))) (sLev σ)).length ≤ 100
          rw [ef, List.length_append, ← p4, ← lev]
          exact hl
        · rw [e]
          exact hbad _ rfl
      match x, hx, o with
      | .inl v, hx, o => exact one _ ⟨by omega, Or.inl ⟨rfl, rfl⟩⟩
      | .inr (.inr z), hx, o => exact one _ (LW_wf o.2.2)
      | .inr (.inl z), hx, o =>
        obtain ⟨ha, hb⟩ := pair_args hT (by have := o.2.1; omega) o.2.2
        have hz := o.2.1
        show TPost T n σ (bd (tokP r.2 [(1, 2)]) _)
        rcases tok_cases r.2 [(1, 2)] with ⟨e, hl⟩ | e
        · rw [e]
          rw [bd_0 rfl]
          dsimp only
          generalize hσ2 : (wFull r.2 (va_up (sFull r.2) (sLev r.2) (sFull r.2 (sLev r.2) ++ [(1, 2)]))) = σ2
          have f2 : Fr σ σ2 := by rw [← hσ2]; exact p2.tr tok_fr
          have t2 : TPre T σ2 := by rw [← hσ2]; exact ⟨p3, t1.2⟩
          have ef : sFull σ2 (sLev σ) = sFull σ (sLev σ) ++ [(1, 2)] := by
            rw [← hσ2]
            show va_up (sFull r.2) (sLev r.2) (sFull r.2 (sLev r.2) ++ [(1, 2)]) (sLev σ) = _
            rw [lev, up_eq, p4]
          have c2 : sCome σ2 (sLev σ) + cn (sVal σ2 (sLev σ)) 60 ≤ sCome σ (sLev σ) + cn (sVal σ (sLev σ)) 60 := by rw [← hσ2]; exact q60
          have a1 := tf_post R hT g (tA T z) (by omega) (by omega) (by omega) σ2 t2
          by_cases g0 : (tfP rec T g (tA T z) σ2).1 = 0
          · rw [bd_0 g0]
            generalize tfP rec T g (tA T z) σ2 = r3 at a1 g0
            obtain ⟨a1, a2, a3, a4, a5, -, -⟩ := a1
            obtain ⟨⟨us, eu, wu⟩, lu, cu⟩ := a5 g0
            have l3 : sLev r3.2 = sLev σ := a2.1.trans f2.1
            rw [f2.1] at eu lu cu a4
            have t3 : TPre T r3.2 := ⟨a3, by rw [l3]; have := hp.2; omega⟩
            have b1 := tf_post R hT g (tB T z) (by omega) (by omega) (by omega) r3.2 t3
            obtain ⟨b1, b2, b3, b4, b5, b6, b7⟩ := b1
            rw [l3] at b4 b5 b6 b7
            refine ⟨b1, (f2.tr a2).tr b2, b3, b4, fun hh => ?_, b6, fun hh => ?_⟩
            · obtain ⟨⟨vs, ev, wv⟩, lv, cv⟩ := b5 hh
              refine ⟨⟨(1, 2) :: (us ++ vs), ?_, ?_⟩, lv, by omega⟩
              · rw [ev, eu, ef]
                simp
              · exact ⟨by omega, Or.inr ⟨by show (1 : Int32) ≠ 0; decide, 2, by omega, rfl, by show WFs 2 (us ++ vs); exact WFs_app (a := 1) (b := 1) wu wv⟩⟩
            · obtain ⟨w1, w2, w3, w4⟩ := b7 hh
              refine ⟨w1, w2, ?_, by omega⟩
              rw [← w3]
              exact (lvOf_ext _ (fun j hj => (f2.tr a2).2.1 j hj)).symm
          · rw [bd_n g0]
            obtain ⟨b1, b2, b3, b4, b5, b6, b7⟩ := a1
            rw [f2.1] at b4 b6 b7
            refine ⟨b1, f2.tr b2, b3, b4, fun hh => absurd hh g0, b6, fun hh => ?_⟩
            obtain ⟨w1, w2, w3, w4⟩ := b7 hh
            refine ⟨w1, w2, ?_, by omega⟩
            rw [← w3]
            exact (lvOf_ext _ (fun j hj => f2.2.1 j hj)).symm
        · rw [e]
          exact hbad _ rfl
    · rw [bd_n h0]
      obtain ⟨p1, p2, p3, p4, p5, p6, p7, p8, p9⟩ := p
      exact ⟨p1, p2, p3, p5, fun h => absurd h h0, p8, p9⟩
