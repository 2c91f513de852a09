/-! the ways of a set -/
/-- τ, a level deeper, among the ways of a set that was begun at σ1 -/
def WI (m : Nat) (σ1 τ : St) : Prop :=
  sLev τ = sLev σ1 + 1 ∧ (∀ k, k ≤ sLev σ1 → sIns τ k = sIns σ1 k ∧ sVal τ k = sVal σ1 k ∧ sTold τ k = sTold σ1 k ∧ sCome τ k = sCome σ1 k ∧ sFull τ k = sFull σ1 k ∧ sLst τ k = sLst σ1 k ∧ sMany τ k = sMany σ1 k) ∧ sIns τ (sLev σ1 + 1) = m ∧ sHeap σ1 <+: sHeap τ ∧ sLab σ1 ≤ sLab τ ∧ sLab τ ≤ 2000
/-- its list so far -/
def WL (σ1 τ : St) : Prop := WFs (sMany τ (sLev σ1 + 1)) (sLst τ (sLev σ1 + 1)) ∧ 1 + (sLst τ (sLev σ1 + 1)).length ≤ 100
theorem pre_take {a b : List Tok} (h : a <+: b) : b.take a.length = a := by
  obtain ⟨t, rfl⟩ := h
  simp
theorem beg_pre {T : NT} {m : Nat} {σ1 τ : St} (h : Inv T σ1) (hl : sLev σ1 < 5) (w : WI m σ1 τ) : TPre T (begP τ (sHeap σ1).length) := by
  obtain ⟨w1, w2, w3, w4, w5, w6⟩ := w
  obtain ⟨h1, h2, h3, h4, h5⟩ := h
  have eh : sHeap (begP τ (sHeap σ1).length) = sHeap σ1 := pre_take w4
  have ev : ∀ k, k ≤ sLev σ1 → sVal (begP τ (sHeap σ1).length) k = sVal σ1 k := fun k hk => by
    show va_up (sVal τ) (sLev τ) (fun _ => none) k = _
    rw [up_ne (by omega)]
    exact (w2 k hk).2.1
  have ev2 : sVal (begP τ (sHeap σ1).length) (sLev τ) = fun _ => none := by
    show va_up (sVal τ) (sLev τ) (fun _ => none) (sLev τ) = _
    rw [up_eq]
  have ec : sCome (begP τ (sHeap σ1).length) (sLev τ) = 0 := by
    show va_up (sCome τ) (sLev τ) 0 (sLev τ) = _
    rw [up_eq]
  refine ⟨⟨⟨by show sLev τ ≤ 5; omega, ?_⟩, fun k hk i x hx => ?_, fun k hk => ?_, ?_, w6⟩, ?_⟩
  · show sIns τ 0 = 0
    rw [(w2 0 (Nat.zero_le _)).1]
    exact h1.2
  · have hk : k ≤ sLev τ := hk
    rw [eh]
    by_cases e : k = sLev τ
    · rw [e, ev2] at hx
      cases hx
    · rw [ev k (by omega)] at hx
      exact h2 k (by omega) i x hx
  · have hk : k ≤ sLev τ := hk
    by_cases e : k = sLev τ
    · rw [e, ec]
      exact Nat.zero_le _
    · show va_up (sCome τ) (sLev τ) 0 k ≤ (sTold τ k).length
      rw [up_ne e, (w2 k (by omega)).2.2.1, (w2 k (by omega)).2.2.2.1]
      exact h3 k (by omega)
  · rw [eh]
    show _ ≤ 100 * wt (sVal (begP τ (sHeap σ1).length)) (sLev τ)
    rw [w1]
    unfold wt
    rw [wt_eq (v := sVal σ1) ev]
    omega
  · show sCome (begP τ (sHeap σ1).length) (sLev τ) + cn (sVal (begP τ (sHeap σ1).length) (sLev τ)) 60 ≤ 60
    rw [ec, ev2, cn_none _ (fun _ => rfl)]
    omega
theorem beg_WI {m : Nat} {σ1 τ : St} (w : WI m σ1 τ) : WI m σ1 (begP τ (sHeap σ1).length) := by
  obtain ⟨w1, w2, w3, w4, w5, w6⟩ := w
  refine ⟨w1, fun k hk => ?_, w3, ?_, w5, w6⟩
  · obtain ⟨a1, a2, a3, a4, a5, a6, a7⟩ := w2 k hk
    refine ⟨a1, ?_, a3, ?_, ?_, a6, a7⟩
    · show va_up (sVal τ) (sLev τ) (fun _ => none) k = _
      rw [up_ne (by omega)]; exact a2
    · show va_up (sCome τ) (sLev τ) 0 k = _
      rw [up_ne (by omega)]; exact a4
    · show va_up (sFull τ) (sLev τ) [] k = _
      rw [up_ne (by omega)]; exact a5
  · show sHeap σ1 <+: (sHeap τ).take (sHeap σ1).length
    rw [pre_take w4]
    exact List.prefix_refl _
theorem WI.fr {T : NT} {m : Nat} {σ1 τ τ' : St} (w : WI m σ1 τ) (f : Fr τ τ') (i : Inv T τ') : WI m σ1 τ' := by
  obtain ⟨w1, w2, w3, w4, w5, w6⟩ := w
  obtain ⟨f1, f2, f3, f4, f5, f6, f7, -⟩ := f
  refine ⟨f1.trans w1, fun k hk => ?_, (f2 _ (by omega)).trans w3, w4.trans f6, Nat.le_trans w5 f7, i.2.2.2.2⟩
  obtain ⟨a1, a2, a3, a4, a5, a6, a7⟩ := w2 k hk
  obtain ⟨b1, b2, b3, b4⟩ := f3 k (by omega)
  obtain ⟨c1, c2⟩ := f4 k (by omega)
  exact ⟨(f2 k (by omega)).trans a1, b1.trans a2, b2.trans a3, b3.trans a4, b4.trans a5, c1.trans a6, c2.trans a7⟩
theorem nxtR_len : ∀ {l t : List Bool}, nxtR l = some t → 0 < t.length ∧ t.length ≤ l.length
  | [], t, h => by cases h
  | false :: r, t, h => by
    have : t = true :: r := (Option.some.inj h).symm
    subst this
    simp
  | true :: r, t, h => by
    have := nxtR_len (l := r) h
    simp only [List.length_cons]; omega
theorem nxt_len {told t : List Bool} {c : Nat} (h : nxt told c = some t) : 0 < c ∧ 0 < t.length ∧ t.length ≤ c := by
  unfold nxt at h
  cases e : nxtR (told.take c).reverse with
  | none => rw [e] at h; cases h
  | some u =>
    rw [e] at h
    have hu : t = u.reverse := (Option.some.inj h).symm
    have := nxtR_len e
    rw [List.length_reverse, List.length_take] at this
    rw [hu, List.length_reverse]
    omega
/-- how the ways of a set end -/
def WPost (m a : Nat) (σ1 : St) (r : Rs) : Prop :=
  r.1 ≤ 4 ∧ r.1 ≠ 1 ∧ r.1 ≠ 3 ∧ WI m σ1 r.2 ∧ (r.1 = 0 → WL σ1 r.2) ∧ (r.1 = 4 → sWl r.2 ≤ sLev σ1 ∧ sVal r.2 (sWl r.2) (sWn r.2) = none ∧ lvOf (sIns r.2) (sWn r.2) (sLev σ1 + 1) = sWl r.2 ∧ sWn r.2 ≤ a)
theorem ways_post {T : NT} {tf : St → Rs} {m a : Nat} {σ1 : St} (hI : Inv T σ1) (hl : sLev σ1 < 5) (htf : ∀ σ, TPre T σ → TPost T a σ (tf σ)) : ∀ g τ, WI m σ1 τ → WL σ1 τ → 2001 ≤ g + sLab τ → WPost m a σ1 (waysP tf (sHeap σ1).length g τ)
  | 0, τ, w, _, hg => by have := w.2.2.2.2.2; omega
  | g + 1, τ, w, l, hg => by
    have tp := htf _ (beg_pre hI hl w)
    have wb := beg_WI w
    have lb : sLev (begP τ (sHeap σ1).length) = sLev σ1 + 1 := w.1
    have labb : sLab (begP τ (sHeap σ1).length) = sLab τ := rfl
    have lsb : sLst (begP τ (sHeap σ1).length) (sLev σ1 + 1) = sLst τ (sLev σ1 + 1) ∧ sMany (begP τ (sHeap σ1).length) (sLev σ1 + 1) = sMany τ (sLev σ1 + 1) := ⟨rfl, rfl⟩
    have fb : sFull (begP τ (sHeap σ1).length) (sLev σ1 + 1) = [] := by
      show va_up (sFull τ) (sLev τ) [] (sLev σ1 + 1) = _
      rw [w.1, up_eq]
    have cb : sCome (begP τ (sHeap σ1).length) (sLev σ1 + 1) = 0 := by
      show va_up (sCome τ) (sLev τ) 0 (sLev σ1 + 1) = _
      rw [w.1, up_eq]
    unfold waysP
    generalize tf (begP τ (sHeap σ1).length) = r at tp
    obtain ⟨p1, p2, p3, p4, p5, p6, p7⟩ := tp
    rw [lb] at p4 p5 p6 p7
    have wr := wb.fr p2 p3
    have lr : sLev r.2 = sLev σ1 + 1 := wr.1
    have hls := p2.2.2.2.1 (sLev σ1 + 1) (by omega)
    rw [lsb.1, lsb.2] at hls
    have hcl := p2.2.2.2.2.2.2.2.2.1
    rw [lb, cb, labb] at hcl
    have hlr := wr.2.2.2.2.2
    have next : ∀ τ2 : St, WI m σ1 τ2 → WL σ1 τ2 → sLab τ2 = sLab r.2 → sTold τ2 = sTold r.2 → sCome τ2 = sCome r.2 → WPost m a σ1 (nextP (waysP tf (sHeap σ1).length g) τ2) := by
      intro τ2 w2 l2 e1 e2 e3
      unfold nextP
      cases e : nxt (sTold τ2 (sLev τ2)) (sCome τ2 (sLev τ2)) with
      | none => exact ⟨by show 0 ≤ 4; omega, by show (0 : Nat) ≠ 1; omega, by show (0 : Nat) ≠ 3; omega, w2, fun _ => l2, (fun h => by cases h)⟩
      | some t =>
        have nl := nxt_len e
        rw [w2.1, e3] at nl
        refine ways_post hI hl htf g _ ?_ l2 ?_
        · obtain ⟨a1, a2, a3, a4, a5, a6⟩ := w2
          refine ⟨a1, fun k hk => ?_, a3, a4, a5, a6⟩
          obtain ⟨b1, b2, b3, b4, b5, b6, b7⟩ := a2 k hk
          refine ⟨b1, b2, ?_, b4, b5, b6, b7⟩
          show va_up (sTold τ2) (sLev τ2) t k = _
          rw [up_ne (by omega)]
          exact b3
        · show 2001 ≤ g + sLab τ2
          omega
    dsimp only
    by_cases h0 : r.1 = 0
    · rw [if_pos h0]
      obtain ⟨⟨ts, et, wts⟩, lt, -⟩ := p5 h0
      rw [fb, List.nil_append] at et
      by_cases hb : 1 + (sLst r.2 (sLev r.2)).length + (sFull r.2 (sLev r.2)).length > 100
      · rw [if_pos hb]
        exact ⟨by show 2 ≤ 4; omega, by show (2 : Nat) ≠ 1; omega, by show (2 : Nat) ≠ 3; omega, wr, (fun h => by cases h), (fun h => by cases h)⟩
      · rw [if_neg hb]
        rw [lr] at hb
        refine next (colP r.2) ?_ ⟨?_, ?_⟩ rfl rfl rfl
        · obtain ⟨a1, a2, a3, a4, a5, a6⟩ := wr
          refine ⟨a1, fun k hk => ?_, a3, a4, a5, a6⟩
          obtain ⟨b1, b2, b3, b4, b5, b6, b7⟩ := a2 k hk
          refine ⟨b1, b2, b3, b4, b5, ?_, ?_⟩
          · show va_up (sLst r.2) (sLev r.2) _ k = _
            rw [up_ne (by omega)]; exact b6
          · show va_up (sMany r.2) (sLev r.2) _ k = _
            rw [up_ne (by omega)]; exact b7
        · show WFs (va_up (sMany r.2) (sLev r.2) (sMany r.2 (sLev r.2) + 1) (sLev σ1 + 1)) (va_up (sLst r.2) (sLev r.2) (sLst r.2 (sLev r.2) ++ sFull r.2 (sLev r.2)) (sLev σ1 + 1))
          rw [lr, up_eq, up_eq, hls.1, hls.2, et]
          exact WFs_app l.1 wts
        · show 1 + (va_up (sLst r.2) (sLev r.2) (sLst r.2 (sLev r.2) ++ sFull r.2 (sLev r.2)) (sLev σ1 + 1)).length ≤ 100
          rw [lr, up_eq, List.length_append]
          omega
    · rw [if_neg h0]
      by_cases h1 : r.1 = 1
      · rw [if_pos h1]
        exact next r.2 wr ⟨by rw [hls.1, hls.2]; exact l.1, by rw [hls.1]; exact l.2⟩ rfl rfl rfl
      · rw [if_neg h1]
        refine ⟨p1, h1, fun h => by have := p6 h; omega, wr, fun h => absurd h h0, fun h => ?_⟩
        obtain ⟨q1, q2, q3, q4⟩ := p7 h
        refine ⟨by omega, q2, ?_, q4⟩
        rw [← q3]
        exact lvOf_ext _ (fun j hj => p2.2.1 j (by rw [lb]; exact hj))
theorem in_WI {T : NT} {m : Nat} {σ1 : St} (h : Inv T σ1) : WI m σ1 (inP σ1 m) ∧ WL σ1 (inP σ1 m) := by
  refine ⟨⟨rfl, fun k hk => ⟨up_ne (by omega), rfl, up_ne (by omega), rfl, rfl, up_ne (by omega), up_ne (by omega)⟩, up_eq, List.prefix_refl _, Nat.le_refl _, h.2.2.2.2⟩, ?_, ?_⟩
  · show WFs (va_up (sMany σ1) (sLev σ1 + 1) 0 (sLev σ1 + 1)) (va_up (sLst σ1) (sLev σ1 + 1) [] (sLev σ1 + 1))
    rw [up_eq, up_eq]
    rfl
  · show 1 + (va_up (sLst σ1) (sLev σ1 + 1) [] (sLev σ1 + 1)).length ≤ 100
    rw [up_eq]
    decide
/-- out of the ways again: the level's state is as it was, but for the labour -/
theorem out_mid {T : NT} {n m : Nat} {σ σ1 τ : St} (M : Mid T n σ σ1) (w : WI m σ1 τ) : Mid T n σ (outP τ (sHeap σ1).length) ∧ sHeap (outP τ (sHeap σ1).length) = sHeap σ1 := by
  obtain ⟨w1, w2, w3, w4, w5, w6⟩ := w
  obtain ⟨m1, ⟨h1, h2, h3, h4, h5⟩, m3, m4, m5, m6⟩ := M
  have eh : sHeap (outP τ (sHeap σ1).length) = sHeap σ1 := pre_take w4
  have el : sLev (outP τ (sHeap σ1).length) = sLev σ1 := by show sLev τ - 1 = _; omega
  have ls := m1.1
  have ev : ∀ k, k ≤ sLev σ1 → sVal (outP τ (sHeap σ1).length) k = sVal σ1 k := fun k hk => (w2 k hk).2.1
  refine ⟨⟨m1.tr ⟨el, fun k hk => (w2 k hk).1, fun k hk => ?_, fun k hk => ?_, fun i x hx => by rw [ev _ (Nat.le_refl _)]; exact hx, by rw [eh]; exact List.prefix_refl _, w5, ?_, ?_, fun h => (w2 0 (Nat.zero_le _)).2.2.1⟩, ⟨?_, fun k hk i x hx => ?_, fun k hk => ?_, ?_, w6⟩, ?_, ?_, fun i hi => ?_, fun x hx => ?_⟩, eh⟩
  · obtain ⟨a1, a2, a3, a4, a5, a6, a7⟩ := w2 k (by omega)
    exact ⟨a2, a3, a4, a5⟩
  · obtain ⟨a1, a2, a3, a4, a5, a6, a7⟩ := w2 k hk
    exact ⟨a6, a7⟩
  · exact Nat.le_of_eq (w2 _ (Nat.le_refl _)).2.2.2.1.symm
  · show sLab σ1 + sCome τ (sLev σ1) ≤ sLab τ + sCome σ1 (sLev σ1)
    rw [(w2 _ (Nat.le_refl _)).2.2.2.1]; omega
  · rw [el]
    exact ⟨h1.1, (w2 0 (Nat.zero_le _)).1.trans h1.2⟩
  · rw [el] at hk
    rw [ev k hk] at hx
    rw [eh]
    exact h2 k hk i x hx
  · rw [el] at hk
    show sCome τ k ≤ (sTold τ k).length
    rw [(w2 k hk).2.2.1, (w2 k hk).2.2.2.1]
    exact h3 k hk
  · rw [eh, el, wt_eq (v := sVal σ1) ev]
    exact h4
  · show sFull τ (sLev σ) = _
    rw [← ls, (w2 _ (Nat.le_refl _)).2.2.2.2.1, ls]; exact m3
  · show sCome τ (sLev σ) ≤ 60
    rw [← ls, (w2 _ (Nat.le_refl _)).2.2.2.1, ls]; exact m4
  · rw [← ls, ev _ (Nat.le_refl _), ls]; exact m5 i hi
  · show sCome τ (sLev σ) + cn (sVal (outP τ (sHeap σ1).length) (sLev σ)) x ≤ _
    rw [← ls, (w2 _ (Nat.le_refl _)).2.2.2.1, ev _ (Nat.le_refl _), ls]; exact m6 x hx
