/-! what the working out keeps -/
/-- how many of the first x nodes have no value -/
def cn (v : Nat → Option Vl) : Nat → Nat
  | 0 => 0
  | x + 1 => cn v x + (if (v x).isNone then 1 else 0)
theorem cn_le (v : Nat → Option Vl) : ∀ x, cn v x ≤ x
  | 0 => Nat.le_refl _
  | x + 1 => by have := cn_le v x; unfold cn; split <;> omega
theorem cn_mono (v : Nat → Option Vl) {x y : Nat} (h : x ≤ y) : cn v x ≤ cn v y := by
  induction h with
  | refl => exact Nat.le_refl _
  | step _ ih => exact Nat.le_trans ih (Nat.le_add_right _ _)
theorem cn_lt (v : Nat → Option Vl) {n x : Nat} (h : n < x) (hn : v n = none) : cn v n + 1 ≤ cn v x := by
  have := cn_mono v (show n + 1 ≤ x from h)
  have e : cn v (n + 1) = cn v n + 1 := by
    show cn v n + (if (v n).isNone then 1 else 0) = _
    rw [hn]
    rfl
  omega
theorem cn_pers {v w : Nat → Option Vl} (h : ∀ i y, v i = some y → w i = some y) : ∀ x, cn w x ≤ cn v x
  | 0 => Nat.le_refl _
  | x + 1 => by
    have ih := cn_pers h x
    unfold cn
    cases e : v x with
    | none => simp only [Option.isNone_none, if_true]; split <;> omega
    | some y => rw [h x y e]; simp; exact ih
theorem cn_up_hi {v : Nat → Option Vl} {n : Nat} {y : Option Vl} : ∀ {x : Nat}, x ≤ n → cn (va_up v n y) x = cn v x
  | 0, _ => rfl
  | x + 1, h => by
    unfold cn
    rw [cn_up_hi (by omega), up_ne (by omega)]
theorem cn_up_lo {v : Nat → Option Vl} {n : Nat} {y : Vl} (hn : v n = none) : ∀ {x : Nat}, n < x → cn (va_up v n (some y)) x + 1 = cn v x
  | x + 1, h => by
    unfold cn
    by_cases e : n = x
    · subst e
      rw [cn_up_hi (Nat.le_refl _), up_eq, hn]
      rfl
    · have ih := cn_up_lo (y := y) hn (x := x) (by omega)
      rw [up_ne (by omega)]
      omega
theorem cn_none (v : Nat → Option Vl) (h : ∀ i, v i = none) : ∀ x, cn v x = x
  | 0 => rfl
  | x + 1 => by unfold cn; rw [cn_none v h x, h x]; rfl
/-- how many nodes have values, over the levels up to k -/
def wt (val : Nat → Nat → Option Vl) : Nat → Nat
  | 0 => 60 - cn (val 0) 60
  | k + 1 => wt val k + (60 - cn (val (k + 1)) 60)
theorem wt_le (val : Nat → Nat → Option Vl) : ∀ k, wt val k ≤ 60 * (k + 1)
  | 0 => by unfold wt; omega
  | k + 1 => by have := wt_le val k; unfold wt; omega
theorem wt_eq {v w : Nat → Nat → Option Vl} : ∀ {k : Nat}, (∀ j, j ≤ k → w j = v j) → wt w k = wt v k
  | 0, h => by unfold wt; rw [h 0 (Nat.le_refl _)]
  | k + 1, h => by unfold wt; rw [h (k + 1) (Nat.le_refl _), wt_eq (fun j hj => h j (by omega))]
/-- tokens of m values, one behind the other -/
def WFs : Nat → List Tok → Prop
  | m, [] => m = 0
  | m, t :: r => 0 < m ∧ ((t.1 = 0 ∧ WFs (m - 1) r) ∨ (t.1 ≠ 0 ∧ ∃ j, j ≤ 100 ∧ t.2 = lN j ∧ WFs (m - 1 + j) r))
theorem WFs_app : ∀ {ts us : List Tok} {a b : Nat}, WFs a ts → WFs b us → WFs (a + b) (ts ++ us)
  | [], us, a, b, h, k => by
    have : a = 0 := h
    subst this
    rw [Nat.zero_add]
    exact k
  | t :: r, us, a, b, h, k => by
    obtain ⟨h0, h⟩ := h
    refine ⟨by omega, ?_⟩
    rcases h with ⟨h1, h2⟩ | ⟨h1, j, h2, h3, h4⟩
    · refine Or.inl ⟨h1, ?_⟩
      have := WFs_app h2 k
      rw [show a + b - 1 = a - 1 + b by omega]
      exact this
    · refine Or.inr ⟨h1, j, h2, h3, ?_⟩
      have := WFs_app h4 k
      rw [show a + b - 1 + j = a - 1 + j + b by omega]
      exact this
theorem WFs_len : ∀ {ts : List Tok} {m : Nat}, WFs m ts → m ≤ ts.length
  | [], m, h => by
    have : m = 0 := h
    simp [this]
  | t :: r, m, h => by
    obtain ⟨h0, h⟩ := h
    rcases h with ⟨h1, h2⟩ | ⟨h1, j, h2, h3, h4⟩
    · have := WFs_len h2
      simp only [List.length_cons]; omega
    · have := WFs_len h4
      simp only [List.length_cons]; omega
/-- the tokens of a list -/
def LW (ts : List Tok) : Prop := ∃ m c, ts = (2, lN m) :: c ∧ WFs m c ∧ ts.length ≤ 100
theorem LW_wf {ts : List Tok} (h : LW ts) : WFs 1 ts := by
  obtain ⟨m, c, rfl, h2, h3⟩ := h
  have := WFs_len h2
  simp only [List.length_cons] at h3
  exact ⟨by omega, Or.inr ⟨by show (2 : Int32) ≠ 0; decide, m, by omega, rfl, by simpa using h2⟩⟩
def okA (T : NT) (i : Nat) : Prop := T.2.2.1 i = nI (tA T i) ∧ tA T i < i
def okB (T : NT) (i : Nat) : Prop := T.2.2.2.1 i = nI (tB T i) ∧ tB T i < i
def okC (T : NT) (i : Nat) : Prop := T.2.2.2.2.1 i = nI (tC T i) ∧ tC T i < i
/-- a node as the store makes it -/
def wfN (T : NT) (i : Nat) : Prop := tS T i = 0 ∨ (tS T i = 1 ∧ okA T i ∧ okB T i) ∨ tS T i = 2 ∨ (tS T i = 3 ∧ okA T i ∧ okB T i) ∨ (tS T i = 4 ∧ okA T i) ∨ (tS T i = 5 ∧ okA T i) ∨ (tS T i = 6 ∧ okA T i ∧ okB T i ∧ ∃ k, k ≤ 5 ∧ T.2.2.2.2.1 i = nI k) ∨ (tS T i = 7 ∧ okA T i ∧ okB T i ∧ okC T i) ∨ (tS T i = 8 ∧ okA T i ∧ T.2.2.2.1 i = nI (tB T i) ∧ tB T i ≤ i) ∨ (tS T i = 9 ∧ okA T i ∧ ∃ k, k ≤ 2 ∧ T.2.2.2.1 i = nI k)
def wfT (T : NT) : Prop := tN T ≤ 60 ∧ ∀ i, i < tN T → wfN T i
/-- a value of the node i -/
def okV (T : NT) (hp : List Tok) (i : Nat) : Vl → Prop
  | .inl _ => True
  | .inr (.inl p) => p ≤ i ∧ tS T p = 3
  | .inr (.inr q) => q.1 + q.2 ≤ hp.length ∧ LW (hsl hp q.1 q.2)
def Inv (T : NT) (σ : St) : Prop :=
  (sLev σ ≤ 5 ∧ sIns σ 0 = 0) ∧ (∀ k, k ≤ sLev σ → ∀ i x, sVal σ k i = some x → i < tN T ∧ okV T (sHeap σ) i x) ∧ (∀ k, k ≤ sLev σ → sCome σ k ≤ (sTold σ k).length) ∧ (sHeap σ).length ≤ 100 * wt (sVal σ) (sLev σ) ∧ sLab σ ≤ 2000
theorem hsl_pre {hp hp' : List Tok} {s l : Nat} (h : hp <+: hp') (hl : s + l ≤ hp.length) : hsl hp' s l = hsl hp s l := by
  obtain ⟨t, rfl⟩ := h
  unfold hsl
  rw [List.drop_append_of_le_length (by omega), List.take_append_of_le_length (by rw [List.length_drop]; omega)]
theorem okV_pre {T : NT} {hp hp' : List Tok} {i : Nat} {x : Vl} (h : hp <+: hp') (o : okV T hp i x) : okV T hp' i x := by
  match x, o with
  | .inl _, _ => trivial
  | .inr (.inl p), o => exact o
  | .inr (.inr q), o => exact ⟨Nat.le_trans o.1 h.length_le, by rw [hsl_pre h o.1]; exact o.2⟩
theorem lvOf_le (ins : Nat → Nat) (n : Nat) : ∀ k, lvOf ins n k ≤ k
  | 0 => Nat.le_refl _
  | k + 1 => by unfold lvOf; split; exact Nat.le_refl _; have := lvOf_le ins n k; omega
theorem lvOf_ext {ins ins' : Nat → Nat} (n : Nat) : ∀ {k : Nat}, (∀ j, j ≤ k → ins' j = ins j) → lvOf ins' n k = lvOf ins n k
  | 0, _ => rfl
  | k + 1, h => by unfold lvOf; rw [h (k + 1) (Nat.le_refl _), lvOf_ext n (fun j hj => h j (by omega))]
/-- the state moves on, its level's told value as it was -/
def Fr (σ σ' : St) : Prop :=
  sLev σ' = sLev σ ∧ (∀ k, k ≤ sLev σ → sIns σ' k = sIns σ k) ∧ (∀ k, k < sLev σ → sVal σ' k = sVal σ k ∧ sTold σ' k = sTold σ k ∧ sCome σ' k = sCome σ k ∧ sFull σ' k = sFull σ k) ∧ (∀ k, k ≤ sLev σ → sLst σ' k = sLst σ k ∧ sMany σ' k = sMany σ k) ∧ (∀ i x, sVal σ (sLev σ) i = some x → sVal σ' (sLev σ) i = some x) ∧ sHeap σ <+: sHeap σ' ∧ sLab σ ≤ sLab σ' ∧ sCome σ (sLev σ) ≤ sCome σ' (sLev σ) ∧ sLab σ + sCome σ' (sLev σ) ≤ sLab σ' + sCome σ (sLev σ) ∧ (sLev σ = 0 → sTold σ' 0 = sTold σ 0)
theorem Fr.rf (σ : St) : Fr σ σ := ⟨rfl, fun _ _ => rfl, fun _ _ => ⟨rfl, rfl, rfl, rfl⟩, fun _ _ => ⟨rfl, rfl⟩, fun _ _ h => h, List.prefix_refl _, Nat.le_refl _, Nat.le_refl _, Nat.le_refl _, fun _ => rfl⟩
theorem Fr.tr {a b c : St} (x : Fr a b) (y : Fr b c) : Fr a c := by
  obtain ⟨x1, x2, x3, x4, x5, x6, x7, x8, x9, x10⟩ := x
  obtain ⟨y1, y2, y3, y4, y5, y6, y7, y8, y9, y10⟩ := y
  rw [x1] at y1 y2 y3 y4 y5 y8 y9 y10
  refine ⟨y1, fun k h => (y2 k h).trans (x2 k h), fun k h => ?_, fun k h => ?_, fun i v h => y5 i v (x5 i v h), x6.trans y6, Nat.le_trans x7 y7, Nat.le_trans x8 y8, by omega, fun h => (y10 h).trans (x10 h)⟩
  · obtain ⟨p1, p2, p3, p4⟩ := x3 k h
    obtain ⟨q1, q2, q3, q4⟩ := y3 k h
    exact ⟨q1.trans p1, q2.trans p2, q3.trans p3, q4.trans p4⟩
  · obtain ⟨p1, p2⟩ := x4 k h
    obtain ⟨q1, q2⟩ := y4 k h
    exact ⟨q1.trans p1, q2.trans p2⟩
