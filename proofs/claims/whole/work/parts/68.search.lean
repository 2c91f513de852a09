/-! THE SEARCH, over a mathematical state -/
abbrev Row : Type := List Bool
/-- there, spent, goal, mode, bound, the window's end; pending, later; places, values, failed, given up, cut; the latest value: its row, labour, tokens -/
abbrev SS : Type := (Bool × (Bool × (Nat × (Nat × (Nat × Nat))))) × ((List Row × List Row) × ((Nat × (Nat × (Nat × (Nat × Nat)))) × (Row × (Nat × List Tok))))
abbrev qTh (S : SS) : Bool := S.1.1
abbrev qSp (S : SS) : Bool := S.1.2.1
abbrev qGo (S : SS) : Nat := S.1.2.2.1
abbrev qMo (S : SS) : Nat := S.1.2.2.2.1
abbrev qBo (S : SS) : Nat := S.1.2.2.2.2.1
abbrev qWe (S : SS) : Nat := S.1.2.2.2.2.2
abbrev qPe (S : SS) : List Row := S.2.1.1
abbrev qLa (S : SS) : List Row := S.2.1.2
abbrev qPl (S : SS) : Nat := S.2.2.1.1
abbrev qVa (S : SS) : Nat := S.2.2.1.2.1
abbrev qFa (S : SS) : Nat := S.2.2.1.2.2.1
abbrev qGu (S : SS) : Nat := S.2.2.1.2.2.2.1
abbrev qCu (S : SS) : Nat := S.2.2.1.2.2.2.2
abbrev qRo (S : SS) : Row := S.2.2.2.1
abbrev qLb (S : SS) : Nat := S.2.2.2.2.1
abbrev qTk (S : SS) : List Tok := S.2.2.2.2.2
abbrev mkQ (th sp : Bool) (go mo bo we : Nat) (pe la : List Row) (pl va fa gu cu : Nat) (ro : Row) (lb : Nat) (tk : List Tok) : SS := ((th, (sp, (go, (mo, (bo, we))))), ((pe, la), ((pl, (va, (fa, (gu, cu)))), (ro, (lb, tk)))))
def fgQ (S : SS) : SS := mkQ false false (qGo S) (qMo S) (qBo S) (qWe S) [] [] 0 0 0 0 0 [] 0 []
def asQ (n mo bo : Nat) : SS := mkQ true false n mo bo bo [[]] [] 0 0 0 0 0 [] 0 []
def mostQ (S : SS) : Nat := if qMo S = 1 then qWe S - 1 else if qMo S = 2 then qBo S else 60
def tQ (S : SS) (row : Row) : Row := row ++ List.replicate (min (mostQ S) (row.length + (200 - qPl S)) - row.length) false
/-- the other alternatives, the last one first: k of them from l on -/
def othQ (t : Row) (l : Nat) : Nat → List Row
  | 0 => []
  | k + 1 => (t.take (l + k) ++ [true]) :: othQ t l k
def wayQ (T : NT) (S : SS) (row : Row) (rest : List Row) : Bool × SS :=
  let t := tQ S row
  let r := runP T (qGo S) t
  let c := dcs r
  if 200 - qPl S ≤ c - row.length then (false, mkQ (qTh S) true (qGo S) (qMo S) (qBo S) (qWe S) rest (qLa S) (qPl S + (c - row.length)) (qVa S) (qFa S) (qGu S) (qCu S) (qRo S) (qLb S) (qTk S))
  else if r.1 = 0 then (true, mkQ (qTh S) (qSp S) (qGo S) (qMo S) (qBo S) (qWe S) (othQ t row.length (c - row.length) ++ rest) (qLa S) (qPl S + (c - row.length) + 1) (qVa S + 1) (qFa S) (qGu S) (qCu S) (t.take c) (sLab r.2) (sFull r.2 0))
  else if r.1 = 1 then (false, mkQ (qTh S) (qSp S) (qGo S) (qMo S) (qBo S) (qWe S) (othQ t row.length (c - row.length) ++ rest) (qLa S) (qPl S + (c - row.length) + 1) (qVa S) (qFa S + 1) (qGu S) (qCu S) (qRo S) (qLb S) (qTk S))
  else if r.1 = 3 then
    if qMo S = 2 then (false, mkQ (qTh S) (qSp S) (qGo S) (qMo S) (qBo S) (qWe S) (othQ t row.length (c - row.length) ++ rest) (qLa S) (qPl S + (c - row.length) + 1) (qVa S) (qFa S) (qGu S) (qCu S + 1) (qRo S) (qLb S) (qTk S))
    else (false, mkQ (qTh S) (qSp S) (qGo S) (qMo S) (qBo S) (qWe S) (othQ t row.length (c - row.length) ++ rest) (qLa S ++ [t.take c ++ [false], t.take c ++ [true]]) (qPl S + (c - row.length) + 1) (qVa S) (qFa S) (qGu S) (qCu S) (qRo S) (qLb S) (qTk S))
  else (false, mkQ (qTh S) (qSp S) (qGo S) (qMo S) (qBo S) (qWe S) (othQ t row.length (c - row.length) ++ rest) (qLa S) (qPl S + (c - row.length) + 1) (qVa S) (qFa S) (qGu S + 1) (qCu S) (qRo S) (qLb S) (qTk S))
/-- the next window -/
def opQ (S : SS) : SS := match qPe S, qLa S with
  | [], r :: l => mkQ (qTh S) (qSp S) (qGo S) (qMo S) (qBo S) (qWe S + qBo S) (r :: l) [] (qPl S) (qVa S) (qFa S) (qGu S) (qCu S) (qRo S) (qLb S) (qTk S)
  | _, _ => S
def spQ (S : SS) : SS := mkQ (qTh S) true (qGo S) (qMo S) (qBo S) (qWe S) (qPe S) (qLa S) (qPl S) (qVa S) (qFa S) (qGu S) (qCu S) (qRo S) (qLb S) (qTk S)
def goQ (T : NT) : Nat → SS → Nat × SS
  | 0, S => (2, S)
  | g + 1, S => if qSp S then (2, S) else
    match qPe (opQ S) with
    | [] => (0, opQ S)
    | row :: rest => if 200 ≤ qPl (opQ S) then goQ T g (spQ (opQ S)) else
      if (wayQ T (opQ S) row rest).1 then (1, (wayQ T (opQ S) row rest).2) else goQ T g (wayQ T (opQ S) row rest).2
/-- a row that a decision has led to -/
def rowOK (T : NT) (g : Nat) (row : Row) : Prop := row = [] ∨ ∃ s b, row = s ++ [b] ∧ (runP T g s).1 = 3
theorem row_come {T : NT} (hT : wfT T) {g : Nat} (hg : g < tN T) {row t : Row} (h : rowOK T g row) (p : row <+: t) : row.length ≤ dcs (runP T g t) := by
  rcases h with rfl | ⟨s, b, rfl, h3⟩
  · exact Nat.zero_le _
  · have ps : s <+: t := (List.prefix_append s [b]).trans p
    have hl := p.length_le
    rw [List.length_append] at hl ⊢
    exact ((lr_run hT hg ps).2 h3).2 (by have : [b].length = 1 := rfl; omega)
theorem row_len {T : NT} (hT : wfT T) {g : Nat} (hg : g < tN T) {row : Row} (h : rowOK T g row) : row.length ≤ 60 := Nat.le_trans (row_come hT hg h (List.prefix_refl _)) (run_le hT hg row).2.1
theorem row_tx {T T' : NT} (hT : wfT T) (X : TX T T') {g : Nat} (hg : g < tN T) {row : Row} (h : rowOK T g row) : rowOK T' g row := by
  rcases h with h | ⟨s, b, h, h3⟩
  · exact Or.inl h
  · exact Or.inr ⟨s, b, h, by rw [eq_run hT X hg]; exact h3⟩
theorem oth_len (t : Row) (l : Nat) : ∀ k, (othQ t l k).length = k
  | 0 => rfl
  | k + 1 => by simp [othQ, oth_len t l k]
theorem oth_mem {t : Row} {l : Nat} : ∀ {k : Nat} {r : Row}, r ∈ othQ t l k → ∃ i, i < k ∧ r = t.take (l + i) ++ [true]
  | 0, r, h => by cases h
  | k + 1, r, h => by
    rcases List.mem_cons.mp h with h | h
    · exact ⟨k, by omega, h⟩
    · obtain ⟨i, hi, e⟩ := oth_mem h
      exact ⟨i, by omega, e⟩
def SW (S : SS) : Prop := (∃ w, qWe S = qBo S * (w + 1)) ∧ (∀ r ∈ qPe S, r.length + 1 ≤ qWe S) ∧ (∀ r ∈ qLa S, r.length = qWe S) ∧ qWe S ≤ 120
/-- what is known of a search that is there and not spent -/
def SI (T : NT) (S : SS) : Prop :=
  qGo S < tN T ∧ qMo S ≤ 2 ∧ (1 ≤ qBo S ∧ qBo S ≤ 60) ∧ qPl S ≤ 200 ∧ (∀ r ∈ qPe S, rowOK T (qGo S) r) ∧ (∀ r ∈ qLa S, rowOK T (qGo S) r) ∧ (qPe S).length + (qLa S).length ≤ qPl S + 1 ∧ (qMo S = 1 → SW S) ∧ (qMo S = 2 → ∀ r ∈ qPe S, r.length ≤ qBo S) ∧ (qMo S ≠ 1 → qLa S = [])
/-- all that later steps need of a search, spent or not -/
def SJ (T : NT) (S : SS) : Prop := qTh S = true → qGo S < tN T ∧ qMo S ≤ 2 ∧ (1 ≤ qBo S ∧ qBo S ≤ 60) ∧ qPl S ≤ 200 ∧ (qSp S = false → SI T S)
theorem SI.tx {T T' : NT} {S : SS} (hT : wfT T) (X : TX T T') (hN : tN T ≤ tN T') (h : SI T S) : SI T' S := by
  obtain ⟨a, b, c, d, e, f, g⟩ := h
  exact ⟨Nat.lt_of_lt_of_le a hN, b, c, d, fun r hr => row_tx hT X a (e r hr), fun r hr => row_tx hT X a (f r hr), g⟩
theorem SJ.tx {T T' : NT} {S : SS} (hT : wfT T) (X : TX T T') (hN : tN T ≤ tN T') (h : SJ T S) : SJ T' S := fun z => by
  obtain ⟨a, b, c, d, e⟩ := h z
  exact ⟨Nat.lt_of_lt_of_le a hN, b, c, d, fun q => (e q).tx hT X hN⟩
theorem as_SI {T : NT} {n mo bo : Nat} (hn : n < tN T) (hm : mo ≤ 2) (h1 : 1 ≤ bo) (h2 : bo ≤ 60) : SI T (asQ n mo bo) := by
  refine ⟨hn, hm, ⟨h1, h2⟩, Nat.zero_le _, fun r hr => ?_, (fun r hr => by cases hr), ?_, fun _ => ⟨⟨0, by show bo = bo * (0 + 1); omega⟩, fun r hr => ?_, (fun r hr => by cases hr), by show bo ≤ 120; omega⟩, fun _ r hr => ?_, fun _ => rfl⟩
  · rcases List.mem_cons.mp hr with e | e
    · exact Or.inl e
    · cases e
  · show 1 + 0 ≤ 0 + 1
    omega
  · rcases List.mem_cons.mp hr with e | e
    · rw [e]; exact h1
    · cases e
  · rcases List.mem_cons.mp hr with e | e
    · rw [e]; exact Nat.zero_le _
    · cases e
theorem op_SI {T : NT} {S : SS} (hT : wfT T) (h : SI T S) : SI T (opQ S) := by
  unfold opQ
  split
  · rename_i r l e1 e2
    obtain ⟨a, b, c, d, e, f, g, h1, h2, h3⟩ := h
    have m1 : qMo S = 1 := Decidable.byContradiction fun q => by rw [h3 q] at e2; cases e2
    obtain ⟨⟨w, hw⟩, h4, h5, h6⟩ := h1 m1
    rw [e2] at f h5 g
    have r60 := row_len hT a (f r List.mem_cons_self)
    have rw_ := h5 r List.mem_cons_self
    refine ⟨a, b, c, d, f, (fun r hr => by cases hr), ?_, fun _ => ⟨⟨w + 1, ?_⟩, fun r hr => ?_, (fun r hr => by cases hr), ?_⟩, fun q => ?_, fun _ => rfl⟩
    · rw [e1] at g
      show (r :: l).length + 0 ≤ qPl S + 1
      have : ([] : List Row).length + (r :: l).length ≤ qPl S + 1 := g
      simp only [List.length_nil] at this
      omega
    · show qWe S + qBo S = qBo S * (w + 1 + 1)
      rw [hw]
      exact (Nat.mul_succ _ _).symm
    · show r.length + 1 ≤ qWe S + qBo S
      have := h5 r hr
      omega
    · show qWe S + qBo S ≤ 120
      omega
    · have q : qMo S = 2 := q
      omega
  · exact h
theorem t_len {T : NT} {S : SS} (hT : wfT T) (h : SI T S) {row : Row} {rest : List Row} (e : qPe S = row :: rest) : row.length ≤ mostQ S ∧ (tQ S row).length = min (mostQ S) (row.length + (200 - qPl S)) ∧ row <+: tQ S row ∧ rowOK T (qGo S) row := by
  obtain ⟨a, b, c, d, e1, f, g, h1, h2, h3⟩ := h
  have hr := e1 row (by rw [e]; exact List.mem_cons_self)
  have r60 := row_len hT a hr
  have lm : row.length ≤ mostQ S := by
    unfold mostQ
    by_cases m1 : qMo S = 1
    · rw [if_pos m1]
      have := (h1 m1).2.1 row (by rw [e]; exact List.mem_cons_self)
      omega
    · rw [if_neg m1]
      by_cases m2 : qMo S = 2
      · rw [if_pos m2]
        exact h2 m2 row (by rw [e]; exact List.mem_cons_self)
      · rw [if_neg m2]
        exact r60
  refine ⟨lm, ?_, List.prefix_append _ _, hr⟩
  unfold tQ
  rw [List.length_append, List.length_replicate]
  omega
/-- how far the way of a row goes -/
theorem way_c {T : NT} {S : SS} (hT : wfT T) (h : SI T S) {row : Row} {rest : List Row} (e : qPe S = row :: rest) : row.length ≤ dcs (runP T (qGo S) (tQ S row)) ∧ dcs (runP T (qGo S) (tQ S row)) ≤ (tQ S row).length ∧ dcs (runP T (qGo S) (tQ S row)) ≤ 60 ∧ (runP T (qGo S) (tQ S row)).1 ≤ 3 ∧ ((runP T (qGo S) (tQ S row)).1 = 3 → dcs (runP T (qGo S) (tQ S row)) = (tQ S row).length ∧ (tQ S row).length < 60) := by
  obtain ⟨l1, l2, l3, l4⟩ := t_len hT h e
  have a := h.1
  have r := run_le hT a (tQ S row)
  refine ⟨row_come hT a l4 l3, r.1, r.2.1, r.2.2.1, fun q => ⟨run_3 hT a q, ?_⟩⟩
  have := ((lr_run hT a (List.prefix_append (tQ S row) [false])).2 q).2 (by rw [List.length_append]; show _ < (tQ S row).length + 1; omega)
  have b := (run_le hT a (tQ S row ++ [false])).2.1
  have : (tQ S row).length < dcs (runP T (qGo S) (tQ S row ++ [false])) := this
  omega
theorem oth_ok {T : NT} {g : Nat} (hT : wfT T) (hg : g < tN T) {t : Row} {l c : Nat} (hc : c ≤ dcs (runP T g t)) : ∀ r ∈ othQ t l (c - l), rowOK T g r ∧ r.length ≤ c := by
  intro r hr
  obtain ⟨i, hi, e⟩ := oth_mem hr
  refine ⟨Or.inr ⟨_, _, e, run_less hT hg (by omega)⟩, ?_⟩
  rw [e, List.length_append, List.length_take]
  show min (l + i) t.length + 1 ≤ c
  omega
theorem way_SI {T : NT} {S : SS} (hT : wfT T) (h : SI T S) (hp : qPl S < 200) {row : Row} {rest : List Row} (e : qPe S = row :: rest) : qTh (wayQ T S row rest).2 = qTh S ∧ qPl (wayQ T S row rest).2 ≤ 200 ∧ qGo (wayQ T S row rest).2 = qGo S ∧ qMo (wayQ T S row rest).2 = qMo S ∧ qBo (wayQ T S row rest).2 = qBo S ∧ (qSp (wayQ T S row rest).2 = true ∨ (SI T (wayQ T S row rest).2 ∧ qPl S + 1 ≤ qPl (wayQ T S row rest).2)) := by
  obtain ⟨c1, c2, c3, c4, c5⟩ := way_c hT h e
  obtain ⟨l1, l2, l3, l4⟩ := t_len hT h e
  obtain ⟨a, b, c, d, e1, f, g, h1, h2, h3⟩ := id h
  rw [e] at e1 g h2
  have ok := oth_ok hT a (l := row.length) (Nat.le_refl (dcs (runP T (qGo S) (tQ S row))))
  have e1' : ∀ r ∈ othQ (tQ S row) row.length (dcs (runP T (qGo S) (tQ S row)) - row.length) ++ rest, rowOK T (qGo S) r := fun r hr => by
    rcases List.mem_append.mp hr with q | q
    · exact (ok r q).1
    · exact e1 r (List.mem_cons_of_mem _ q)
  have ll : (othQ (tQ S row) row.length (dcs (runP T (qGo S) (tQ S row)) - row.length) ++ rest).length = dcs (runP T (qGo S) (tQ S row)) - row.length + rest.length := by rw [List.length_append, oth_len]
  simp only [List.length_cons] at g
  have h2' : qMo S = 2 → ∀ r ∈ othQ (tQ S row) row.length (dcs (runP T (qGo S) (tQ S row)) - row.length) ++ rest, r.length ≤ qBo S := fun q r hr => by
    rcases List.mem_append.mp hr with z | z
    · have := (ok r z).2
      have m : mostQ S = qBo S := by unfold mostQ; rw [if_neg (by omega), if_pos q]
      omega
    · exact h2 q r (List.mem_cons_of_mem _ z)
  have h1' : qMo S = 1 → ∀ r ∈ othQ (tQ S row) row.length (dcs (runP T (qGo S) (tQ S row)) - row.length) ++ rest, r.length + 1 ≤ qWe S := fun q r hr => by
    have m : mostQ S = qWe S - 1 := by unfold mostQ; rw [if_pos q]
    obtain ⟨⟨w, hw⟩, h4, -⟩ := h1 q
    rcases List.mem_append.mp hr with z | z
    · have := (ok r z).2
      have := h4 row (by rw [e]; exact List.mem_cons_self)
      omega
    · exact h4 r (by rw [e]; exact List.mem_cons_of_mem _ z)
  unfold wayQ
  dsimp only
  by_cases k : 200 - qPl S ≤ dcs (runP T (qGo S) (tQ S row)) - row.length
  · rw [if_pos k]
    exact ⟨rfl, by show qPl S + (dcs (runP T (qGo S) (tQ S row)) - row.length) ≤ 200; omega, rfl, rfl, rfl, Or.inl rfl⟩
  · rw [if_neg k]
    by_cases z0 : (runP T (qGo S) (tQ S row)).1 = 0
    · rw [if_pos z0]
      exact ⟨rfl, by show qPl S + (dcs (runP T (qGo S) (tQ S row)) - row.length) + 1 ≤ 200; omega, rfl, rfl, rfl, Or.inr ⟨⟨a, b, c, by show qPl S + (dcs (runP T (qGo S) (tQ S row)) - row.length) + 1 ≤ 200; omega, e1', f, by show (othQ (tQ S row) row.length (dcs (runP T (qGo S) (tQ S row)) - row.length) ++ rest).length + (qLa S).length ≤ _; rw [ll]; show _ ≤ qPl S + (dcs (runP T (qGo S) (tQ S row)) - row.length) + 1 + 1; omega, fun q => ⟨(h1 q).1, h1' q, (h1 q).2.2⟩, h2', h3⟩, by show qPl S + 1 ≤ qPl S + (dcs (runP T (qGo S) (tQ S row)) - row.length) + 1; omega⟩⟩
    · rw [if_neg z0]
      by_cases z1 : (runP T (qGo S) (tQ S row)).1 = 1
      · rw [if_pos z1]
        exact ⟨rfl, by show qPl S + (dcs (runP T (qGo S) (tQ S row)) - row.length) + 1 ≤ 200; omega, rfl, rfl, rfl, Or.inr ⟨⟨a, b, c, by show qPl S + (dcs (runP T (qGo S) (tQ S row)) - row.length) + 1 ≤ 200; omega, e1', f, by show (othQ (tQ S row) row.length (dcs (runP T (qGo S) (tQ S row)) - row.length) ++ rest).length + (qLa S).length ≤ _; rw [ll]; show _ ≤ qPl S + (dcs (runP T (qGo S) (tQ S row)) - row.length) + 1 + 1; omega, fun q => ⟨(h1 q).1, h1' q, (h1 q).2.2⟩, h2', h3⟩, by show qPl S + 1 ≤ qPl S + (dcs (runP T (qGo S) (tQ S row)) - row.length) + 1; omega⟩⟩
      · rw [if_neg z1]
        by_cases z3 : (runP T (qGo S) (tQ S row)).1 = 3
        · rw [if_pos z3]
          obtain ⟨c6, c7⟩ := c5 z3
          by_cases m2 : qMo S = 2
          · rw [if_pos m2]
            exact ⟨rfl, by show qPl S + (dcs (runP T (qGo S) (tQ S row)) - row.length) + 1 ≤ 200; omega, rfl, rfl, rfl, Or.inr ⟨⟨a, b, c, by show qPl S + (dcs (runP T (qGo S) (tQ S row)) - row.length) + 1 ≤ 200; omega, e1', f, by show (othQ (tQ S row) row.length (dcs (runP T (qGo S) (tQ S row)) - row.length) ++ rest).length + (qLa S).length ≤ _; rw [ll]; show _ ≤ qPl S + (dcs (runP T (qGo S) (tQ S row)) - row.length) + 1 + 1; omega, fun q => ⟨(h1 q).1, h1' q, (h1 q).2.2⟩, h2', h3⟩, by show qPl S + 1 ≤ qPl S + (dcs (runP T (qGo S) (tQ S row)) - row.length) + 1; omega⟩⟩
          · rw [if_neg m2]
            have m1 : qMo S = 1 := Decidable.byContradiction fun m1 => by
              have : mostQ S = 60 := by unfold mostQ; rw [if_neg m1, if_neg m2]
              omega
            have mm : mostQ S = qWe S - 1 := by unfold mostQ; rw [if_pos m1]
            have tt : (tQ S row).take (dcs (runP T (qGo S) (tQ S row))) = tQ S row := by rw [c6, List.take_length]
            have wl := (h1 m1).2.1 row (by rw [e]; exact List.mem_cons_self)
            refine ⟨rfl, by show qPl S + (dcs (runP T (qGo S) (tQ S row)) - row.length) + 1 ≤ 200; omega, rfl, rfl, rfl, Or.inr ⟨⟨a, b, c, by show qPl S + (dcs (runP T (qGo S) (tQ S row)) - row.length) + 1 ≤ 200; omega, e1', fun r hr => ?_, ?_, fun q => ⟨(h1 q).1, h1' q, fun r hr => ?_, (h1 q).2.2.2⟩, h2', fun q => absurd m1 q⟩, by show qPl S + 1 ≤ qPl S + (dcs (runP T (qGo S) (tQ S row)) - row.length) + 1; omega⟩⟩
            · rcases List.mem_append.mp hr with q | q
              · exact f r q
              · rw [tt] at q
                rcases List.mem_cons.mp q with q | q
                · exact Or.inr ⟨_, _, q, z3⟩
                · rcases List.mem_cons.mp q with q | q
                  · exact Or.inr ⟨_, _, q, z3⟩
                  · cases q
            · show (othQ (tQ S row) row.length (dcs (runP T (qGo S) (tQ S row)) - row.length) ++ rest).length + (qLa S ++ _).length ≤ qPl S + (dcs (runP T (qGo S) (tQ S row)) - row.length) + 1 + 1
              rw [ll, List.length_append]
              show _ + ((qLa S).length + 2) ≤ _
              omega
            · rcases List.mem_append.mp hr with z | z
              · exact (h1 q).2.2.1 r z
              · rw [tt] at z
                have len : ∀ b : Bool, (tQ S row ++ [b]).length = qWe S := fun b => by
                  rw [List.length_append, l2]
                  show min (mostQ S) (row.length + (200 - qPl S)) + 1 = qWe S
                  omega
                rcases List.mem_cons.mp z with z | z
                · rw [z]; exact len false
                · rcases List.mem_cons.mp z with z | z
                  · rw [z]; exact len true
                  · cases z
        · rw [if_neg z3]
          exact ⟨rfl, by show qPl S + (dcs (runP T (qGo S) (tQ S row)) - row.length) + 1 ≤ 200; omega, rfl, rfl, rfl, Or.inr ⟨⟨a, b, c, by show qPl S + (dcs (runP T (qGo S) (tQ S row)) - row.length) + 1 ≤ 200; omega, e1', f, by show (othQ (tQ S row) row.length (dcs (runP T (qGo S) (tQ S row)) - row.length) ++ rest).length + (qLa S).length ≤ _; rw [ll]; show _ ≤ qPl S + (dcs (runP T (qGo S) (tQ S row)) - row.length) + 1 + 1; omega, fun q => ⟨(h1 q).1, h1' q, (h1 q).2.2⟩, h2', h3⟩, by show qPl S + 1 ≤ qPl S + (dcs (runP T (qGo S) (tQ S row)) - row.length) + 1; omega⟩⟩
