/-- what is known behind the working out of n -/
def Post (T : NT) (n : Nat) (σ : St) (r : Rs) : Prop :=
  r.1 ≤ 4 ∧ Fr σ r.2 ∧ Inv T r.2 ∧ sFull r.2 (sLev σ) = sFull σ (sLev σ) ∧ sCome r.2 (sLev σ) ≤ 60 ∧ (∀ i, n < i → sVal r.2 (sLev σ) i = sVal σ (sLev σ) i) ∧
  (r.1 = 0 → (∃ x, gv r.2 n = some x) ∧ ∀ x, n < x → sCome r.2 (sLev σ) + cn (sVal r.2 (sLev σ)) x ≤ sCome σ (sLev σ) + cn (sVal σ (sLev σ)) x) ∧
  (r.1 = 3 → sLev σ = 0) ∧
  (r.1 = 4 → sWl r.2 < sLev σ ∧ sVal r.2 (sWl r.2) (sWn r.2) = none ∧ lvOf (sIns σ) (sWn r.2) (sLev σ) = sWl r.2 ∧ sWn r.2 ≤ n)
def Pre (T : NT) (n : Nat) (σ : St) : Prop := Inv T σ ∧ n < tN T ∧ sCome σ (sLev σ) + cn (sVal σ (sLev σ)) (n + 1) ≤ 60
theorem wt_up {val : Nat → Nat → Option Vl} {n : Nat} {y : Vl} : ∀ {k l : Nat}, l ≤ k → n < 60 → val l n = none → wt (va_up val l (va_up (val l) n (some y))) k = wt val k + 1
  | 0, l, hl, hn, hv => by
    have : l = 0 := by omega
    subst this
    unfold wt
    rw [up_eq]
    have a := cn_up_lo (y := y) hv hn
    have b := cn_le (val 0) 60
    omega
  | k + 1, l, hl, hn, hv => by
    unfold wt
    by_cases e : l = k + 1
    · subst e
      rw [up_eq, wt_eq (v := val) (k := k) (fun j hj => up_ne (by omega))]
      have a := cn_up_lo (y := y) hv hn
      have b := cn_le (val (k + 1)) 60
      omega
    · rw [up_ne (by omega), wt_up (by omega) hn hv]
      omega
/-- a value is kept -/
theorem sv_inv {T : NT} {σ : St} {n : Nat} {y : Vl} (h : Inv T σ) (hT : wfT T) (hn : n < tN T) (hv : sVal σ (sLev σ) n = none) (hy : okV T (sHeap σ) n y) : Inv T (sv σ n (some y)) := by
  obtain ⟨h1, h2, h3, h4, h5⟩ := h
  refine ⟨h1, fun k hk i x hx => ?_, h3, ?_, h5⟩
  · have hx : va_up (sVal σ) (sLev σ) (va_up (sVal σ (sLev σ)) n (some y)) k i = some x := hx
    by_cases e : k = sLev σ
    · subst e
      rw [up_eq] at hx
      by_cases e2 : i = n
      · subst e2
        rw [up_eq] at hx
        cases hx
        exact ⟨hn, hy⟩
      · rw [up_ne e2] at hx
        exact h2 _ hk i x hx
    · rw [up_ne e] at hx
      exact h2 _ hk i x hx
  · show (sHeap σ).length ≤ 100 * wt (va_up (sVal σ) (sLev σ) (va_up (sVal σ (sLev σ)) n (some y))) (sLev σ)
    rw [wt_up (Nat.le_refl _) (by have := hT.1; omega) hv]
    omega
theorem sv_fr {σ : St} {n : Nat} {y : Option Vl} (hv : sVal σ (sLev σ) n = none) : Fr σ (sv σ n y) := by
  refine ⟨rfl, fun _ _ => rfl, fun k hk => ⟨up_ne (by omega), rfl, rfl, rfl⟩, fun _ _ => ⟨rfl, rfl⟩, fun i x h => ?_, List.prefix_refl _, Nat.le_refl _, Nat.le_refl _, Nat.le_refl _, fun _ => rfl⟩
  show va_up (sVal σ) (sLev σ) (va_up (sVal σ (sLev σ)) n y) (sLev σ) i = some x
  rw [up_eq, up_ne (fun e => by rw [e, hv] at h; cases h)]
  exact h
theorem sv_val {σ : St} {n : Nat} {y : Option Vl} : sVal (sv σ n y) (sLev σ) = va_up (sVal σ (sLev σ)) n y := by
  show va_up (sVal σ) (sLev σ) (va_up (sVal σ (sLev σ)) n y) (sLev σ) = _
  rw [up_eq]
/-- the node's own level is the state's -/
theorem sv_gv {σ : St} {n : Nat} {y : Option Vl} (h : lvOf (sIns σ) n (sLev σ) = sLev σ) : gv (sv σ n y) n = y := by
  show va_up (sVal σ) (sLev σ) (va_up (sVal σ (sLev σ)) n y) (lvOf (sIns σ) n (sLev σ)) n = y
  rw [h, up_eq, up_eq]
theorem gv_ok {T : NT} {σ : St} (h : Inv T σ) {n : Nat} {x : Vl} (e : gv σ n = some x) : n < tN T ∧ okV T (sHeap σ) n x := h.2.1 _ (lvOf_le _ _ _) n x e
theorem okV_up {T : NT} {hp : List Tok} {a n : Nat} {x : Vl} (h : a ≤ n) (o : okV T hp a x) : okV T hp n x := by
  match x, o with
  | .inl _, _ => trivial
  | .inr (.inl p), o => exact ⟨Nat.le_trans o.1 h, o.2⟩
  | .inr (.inr q), o => exact o
/-- σ1 is σ moved on while n is in work: c more decisions may stand open -/
def Mid (T : NT) (n : Nat) (σ σ1 : St) : Prop :=
  Fr σ σ1 ∧ Inv T σ1 ∧ sFull σ1 (sLev σ) = sFull σ (sLev σ) ∧ sCome σ1 (sLev σ) ≤ 60 ∧ (∀ i, n ≤ i → sVal σ1 (sLev σ) i = sVal σ (sLev σ) i) ∧ ∀ x, n < x → sCome σ1 (sLev σ) + cn (sVal σ1 (sLev σ)) x ≤ sCome σ (sLev σ) + 1 + cn (sVal σ (sLev σ)) x
/-- .. from where a node below may be needed -/
theorem Mid.pre {T : NT} {n x : Nat} {σ σ1 : St} (m : Mid T n σ σ1) (hp : Pre T n σ) (hv : sVal σ (sLev σ) n = none) (hx : x < n) : Pre T x σ1 := by
  obtain ⟨m1, m2, m3, m4, m5, m6⟩ := m
  refine ⟨m2, Nat.lt_trans hx hp.2.1, ?_⟩
  rw [m1.1]
  have a := m6 (n + 1) (by omega)
  have b := hp.2.2
  have c := cn_mono (sVal σ1 (sLev σ)) (show x + 1 ≤ n from hx)
  have d := cn_lt (sVal σ1 (sLev σ)) (show n < n + 1 by omega) ((m5 n (Nat.le_refl _)).trans hv)
  omega
/-- .. and behind it -/
theorem Mid.post {T : NT} {n x : Nat} {σ σ1 : St} {r : Rs} (m : Mid T n σ σ1) (hx : x < n) (p : Post T x σ1 r) (h0 : r.1 = 0) : Mid T n σ r.2 := by
  obtain ⟨m1, m2, m3, m4, m5, m6⟩ := m
  obtain ⟨p1, p2, p3, p4, p5, p6, p7, -⟩ := p
  rw [m1.1] at p4 p5 p6 p7
  refine ⟨m1.tr p2, p3, p4.trans m3, p5, fun i hi => (p6 i (by omega)).trans (m5 i hi), fun z hz => ?_⟩
  have a := (p7 h0).2 z (by omega)
  have b := m6 z hz
  omega
theorem Mid.bad {T : NT} {n x : Nat} {σ σ1 : St} {r : Rs} (m : Mid T n σ σ1) (hx : x < n) (p : Post T x σ1 r) (h0 : r.1 ≠ 0) : Post T n σ r := by
  obtain ⟨m1, m2, m3, m4, m5, m6⟩ := m
  obtain ⟨p1, p2, p3, p4, p5, p6, p7, p8, p9⟩ := p
  rw [m1.1] at p4 p5 p6 p8 p9
  refine ⟨p1, m1.tr p2, p3, p4.trans m3, p5, fun i hi => (p6 i (by omega)).trans (m5 i (by omega)), fun h => absurd h h0, p8, fun h => ?_⟩
  obtain ⟨q1, q2, q3, q4⟩ := p9 h
  rw [lvOf_ext _ m1.2.1] at q3
  exact ⟨q1, q2, q3, by omega⟩
theorem Mid.ret {T : NT} {n : Nat} {σ σ1 : St} (m : Mid T n σ σ1) (c : Nat) (h0 : c ≠ 0) (h3 : c ≠ 3) (h4 : c ≤ 2) : Post T n σ (c, σ1) := by
  obtain ⟨m1, m2, m3, m4, m5, m6⟩ := m
  exact ⟨by show c ≤ 4; omega, m1, m2, m3, m4, fun i hi => m5 i (by omega), fun h => absurd h h0, fun h => absurd h h3, fun h => by have : c = 4 := h; omega⟩
theorem Mid.set {T : NT} {n : Nat} {σ σ1 : St} {y : Vl} (m : Mid T n σ σ1) (hT : wfT T) (hp : Pre T n σ) (hv : sVal σ (sLev σ) n = none) (hl : lvOf (sIns σ) n (sLev σ) = sLev σ) (hy : okV T (sHeap σ1) n y) : Post T n σ (0, sv σ1 n (some y)) := by
  obtain ⟨m1, m2, m3, m4, m5, m6⟩ := m
  have hv1 : sVal σ1 (sLev σ1) n = none := by rw [m1.1]; exact (m5 n (Nat.le_refl _)).trans hv
  have hl1 : lvOf (sIns σ1) n (sLev σ1) = sLev σ1 := by rw [m1.1, lvOf_ext _ m1.2.1]; exact hl
  refine ⟨by show 0 ≤ 4; omega, m1.tr (sv_fr hv1), sv_inv m2 hT hp.2.1 hv1 hy, m3, m4, fun i hi => ?_, fun _ => ⟨⟨y, sv_gv hl1⟩, fun z hz => ?_⟩, (fun h => by cases h), (fun h => by cases h)⟩
  · rw [← m1.1, sv_val, up_ne (by omega), m1.1]
    exact m5 i (by omega)
  · show sCome σ1 (sLev σ) + cn (sVal (sv σ1 n (some y)) (sLev σ)) z ≤ _
    rw [← m1.1, sv_val, m1.1]
    have a := cn_up_lo (y := y) (x := z) ((m5 n (Nat.le_refl _)).trans hv) hz
    have b := m6 z hz
    omega
