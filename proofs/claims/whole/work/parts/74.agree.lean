/-! THE TWO SEARCHES AGREE -/
def zOf (S : SS) (wi : Nat) (op qu : List Row) (gn : Nat) : ZS := mkZ (qTh S) (qSp S) (qGo S) (qMo S) (qBo S) wi op qu gn (qPl S) (qVa S) (qFa S) (qGu S) (qCu S) (qRo S) (qLb S) (qTk S)
def WQ (S : SS) (op old : List Row) (wi : Nat) : Prop := qMo S = 1 → (∀ r ∈ old, r.length + qBo S = qWe S) ∧ (op ≠ [] → qBo S * (wi + 1) = qWe S)
theorem op_nx {T : NT} {S : SS} (si : SI T S) {op old : List Row} {wi gn : Nat} (e : qPe S = op ++ old) (w : WQ S op old wi) : ∃ op1 old1, qPe (opQ S) = op1 ++ old1 ∧ zOf S wi op (old ++ qLa S) gn = zOf (opQ S) wi op1 (old1 ++ qLa (opQ S)) gn ∧ WQ (opQ S) op1 old1 wi ∧ (qPe (opQ S) = [] → qLa (opQ S) = []) ∧ qSp (opQ S) = qSp S ∧ qPl (opQ S) = qPl S ∧ qTh (opQ S) = qTh S := by
  cases hp : qPe S with
  | nil =>
    rw [hp] at e
    have e1 : op = [] := by
      cases op with
      | nil => rfl
      | cons _ _ => cases e
    subst e1
    have e2 : old = [] := e.symm
    subst e2
    cases hl : qLa S with
    | nil =>
      have eo : opQ S = S := by unfold opQ; rw [hp, hl]
      rw [eo, hp, hl]
      exact ⟨[], [], rfl, rfl, w, fun _ => rfl, rfl, rfl, rfl⟩
    | cons r l =>
      have eo : opQ S = (mkQ (qTh S) (qSp S) (qGo S) (qMo S) (qBo S) (qWe S + qBo S) (r :: l) ([]) (qPl S) (qVa S) (qFa S) (qGu S) (qCu S) (qRo S) (qLb S) (qTk S)) := by unfold opQ; rw [hp, hl]
      rw [eo]
      refine ⟨[], r :: l, rfl, ?_, fun m => ⟨fun x hx => ?_, fun q => absurd rfl q⟩, (fun q => by cases q), rfl, rfl, rfl⟩
      · show zOf S wi [] ([] ++ (r :: l)) gn = mkZ _ _ _ _ _ wi [] (r :: l ++ []) gn _ _ _ _ _ _ _ _
        rw [List.append_nil]
        rfl
      · have m1 : qMo S = 1 := m
        have := ((si.2.2.2.2.2.2.2.1 m1).2.2.1) x (by rw [hl]; exact hx)
        show x.length + qBo S = qWe S + qBo S
        rw [this]
  | cons a b =>
    have eo : opQ S = S := by unfold opQ; rw [hp]
    rw [eo]
    exact ⟨op, old, e, rfl, w, (fun q => by rw [hp] at q; cases q), rfl, rfl, rfl⟩
theorem go_sp {T : NT} {S : SS} (h : qSp S = true) : ∀ g, goQ T g S = (2, S)
  | 0 => rfl
  | g + 1 => by unfold goQ; rw [if_pos h]
theorem go_nil {T : NT} {g : Nat} {S : SS} (sp : qSp S = false) (hp : qPe (opQ S) = []) : goQ T (g + 1) S = (0, opQ S) := by
  unfold goQ
  rw [if_neg (by rw [sp]; decide), hp]
theorem go_cons {T : NT} {g : Nat} {S : SS} {row : Row} {rest : List Row} (sp : qSp S = false) (hp : qPe (opQ S) = row :: rest) : goQ T (g + 1) S = if 200 ≤ qPl (opQ S) then goQ T g (spQ (opQ S)) else if (wayQ T (opQ S) row rest).1 then (1, (wayQ T (opQ S) row rest).2) else goQ T g (wayQ T (opQ S) row rest).2 := by
  rw [goQ, if_neg (by rw [sp]; decide), hp]
theorem way_tl {T : NT} {S : SS} (hT : wfT T) (si : SI T S) {row : Row} {rest : List Row} (e : qPe S = row :: rest) : (runP T (qGo S) ((tQ S row).take (dcs (runP T (qGo S) (tQ S row))))).1 = (runP T (qGo S) (tQ S row)).1 ∧ sLab (runP T (qGo S) ((tQ S row).take (dcs (runP T (qGo S) (tQ S row))))).2 = sLab (runP T (qGo S) (tQ S row)).2 ∧ sFull (runP T (qGo S) ((tQ S row).take (dcs (runP T (qGo S) (tQ S row))))).2 = sFull (runP T (qGo S) (tQ S row)).2 := by
  have c := (run_le hT si.1 (tQ S row)).1
  by_cases q : dcs (runP T (qGo S) (tQ S row)) < (tQ S row).length
  · obtain ⟨-, h2⟩ := run_cut hT si.1 (Nat.le_refl _) q
    generalize (runP T (qGo S) ((tQ S row).take (dcs (runP T (qGo S) (tQ S row))))) = r' at h2 ⊢
    rw [h2]
    exact ⟨rfl, rfl, rfl⟩
  · rw [List.take_of_length_le (by omega)]
    exact ⟨rfl, rfl, rfl⟩
/-- the last place of a way -/
theorem nx_end {T : NT} {S : SS} (hT : wfT T) (si : SI T S) {row : Row} {rest X old : List Row} {wi gn : Nat} (e : qPe S = row :: rest) (hk : ¬ 200 - qPl S ≤ dcs (runP T (qGo S) (tQ S row)) - row.length) (w : qMo S = 1 → qBo S * (wi + 1) = qWe S) (g : Nat) : nxZ T (g + 1) (mkZ (qTh S) (qSp S) (qGo S) (qMo S) (qBo S) wi ((tQ S row).take (dcs (runP T (qGo S) (tQ S row))) :: (othQ (tQ S row) row.length (dcs (runP T (qGo S) (tQ S row)) - row.length) ++ X)) (old ++ qLa S) gn (qPl S + (dcs (runP T (qGo S) (tQ S row)) - row.length)) (qVa S) (qFa S) (qGu S) (qCu S) (qRo S) (qLb S) (qTk S)) = if (wayQ T S row rest).1 then (1, zOf (wayQ T S row rest).2 wi (othQ (tQ S row) row.length (dcs (runP T (qGo S) (tQ S row)) - row.length) ++ X) (old ++ qLa (wayQ T S row rest).2) gn) else nxZ T g (zOf (wayQ T S row rest).2 wi (othQ (tQ S row) row.length (dcs (runP T (qGo S) (tQ S row)) - row.length) ++ X) (old ++ qLa (wayQ T S row rest).2) gn) := by
  obtain ⟨l1, l2, l3, l4⟩ := t_len hT si e
  obtain ⟨c1, c2, c3, c4, c5⟩ := way_c hT si e
  obtain ⟨v1, v2, v3⟩ := way_tl hT si e
  have bo := si.2.2.1
  have mo := si.2.1
  rw [way_end hk]
  have fe : feZ (mkZ (qTh S) (qSp S) (qGo S) (qMo S) (qBo S) wi ((tQ S row).take (dcs (runP T (qGo S) (tQ S row))) :: (othQ (tQ S row) row.length (dcs (runP T (qGo S) (tQ S row)) - row.length) ++ X)) (old ++ qLa S) gn (qPl S + (dcs (runP T (qGo S) (tQ S row)) - row.length)) (qVa S) (qFa S) (qGu S) (qCu S) (qRo S) (qLb S) (qTk S)) = ((tQ S row).take (dcs (runP T (qGo S) (tQ S row))), (mkZ (qTh S) (qSp S) (qGo S) (qMo S) (qBo S) wi (othQ (tQ S row) row.length (dcs (runP T (qGo S) (tQ S row)) - row.length) ++ X) (old ++ qLa S) gn (qPl S + (dcs (runP T (qGo S) (tQ S row)) - row.length) + 1) (qVa S) (qFa S) (qGu S) (qCu S) (qRo S) (qLb S) (qTk S))) := rfl
  rw [nx_step (by intro q; cases q.1) (by show ¬ qPl S + _ = 200; omega), fe]
  show stZ T g (qGo S) _ = _
  unfold stZ
  dsimp only
  have lt : ((tQ S row).take (dcs (runP T (qGo S) (tQ S row)))).length = dcs (runP T (qGo S) (tQ S row)) := by rw [List.length_take]; omega
  have t3 : (runP T (qGo S) (tQ S row)).1 = 3 → dcs (runP T (qGo S) (tQ S row)) = mostQ S ∧ dcs (runP T (qGo S) (tQ S row)) < 60 := fun q => by
    have := c5 q
    omega
  unfold endQ enZ
  rw [v1, v2, v3]
  clear v1 v2 v3 c5
  generalize dcs (runP T (qGo S) (tQ S row)) = c at *
  generalize (runP T (qGo S) (tQ S row)) = r at *
  by_cases z3 : r.1 = 3
  · have z0 : ¬ r.1 = 0 := by omega
    have z1 : ¬ r.1 = 1 := by omega
    simp only [if_neg z0, if_neg z1, if_pos z3]
    obtain ⟨t4, t5⟩ := t3 z3
    show nxZ T g _ = nxZ T g _
    congr 1
    unfold stopQ deZ
    by_cases m2 : qMo S = 2
    · rw [if_pos (show _ ∧ _ from ⟨m2, by rw [lt, t4, most_2 m2]⟩), if_pos (show qMo S = 2 from m2)]
      rfl
    · have m1 : qMo S = 1 := Decidable.byContradiction fun m1 => by
        rw [most_0 m1 m2] at t4
        omega
      have w1 := w m1
      have : wi < (c + 1) / qBo S := by
        rw [t4, most_1 m1, ← w1, Nat.sub_add_cancel (by have := Nat.mul_le_mul bo.1 (Nat.le_add_left 1 wi); omega), Nat.mul_div_cancel_left _ (by omega)]
        omega
      rw [if_neg (fun q => m2 q.1), if_pos (show _ ∧ _ from ⟨m1, by rw [lt]; exact this⟩), if_neg (show ¬ qMo S = 2 from m2)]
      show mkZ _ _ _ _ _ _ _ (old ++ qLa S ++ _) _ _ _ _ _ _ _ _ _ = mkZ _ _ _ _ _ _ _ (old ++ (qLa S ++ _)) _ _ _ _ _ _ _ _ _
      rw [List.append_assoc]
  · by_cases z0 : r.1 = 0
    · have z1 : ¬ r.1 = 1 := by omega
      have z2 : ¬ r.1 = 2 := by omega
      simp only [if_neg z3, if_neg z1, if_neg z2, if_pos z0]
      rfl
    · by_cases z1 : r.1 = 1
      · simp only [if_neg z3, if_pos z1, if_neg z0]
        rfl
      · have z2 : r.1 = 2 := by omega
        simp only [if_neg z3, if_neg z1, if_neg z0, if_pos z2]
        rfl
theorem go_nx {T : NT} (hT : wfT T) : ∀ (g g' : Nat) (S : SS) (op old : List Row) (wi gn : Nat), SI T S → qSp S = false → qPe S = op ++ old → WQ S op old wi → 201 ≤ g + qPl S → 201 ≤ g' + qPl S → ∃ wi' op' qu' gn', nxZ T g' (zOf S wi op (old ++ qLa S) gn) = ((goQ T g S).1, zOf (goQ T g S).2 wi' op' qu' gn') ∧ (qSp (goQ T g S).2 = false → ∃ old', qPe (goQ T g S).2 = op' ++ old' ∧ qu' = old' ++ qLa (goQ T g S).2 ∧ WQ (goQ T g S).2 op' old' wi') := by
  intro g
  induction g with
  | zero =>
    intro g' S op old wi gn si _ _ _ hg _
    have := si.2.2.2.1
    omega
  | succ g ih =>
    intro g' S op old wi gn si sp e w hg hg'
    obtain ⟨op1, old1, e1, ez, w1, en, s1, p1, -⟩ := op_nx si (gn := gn) e w
    have si1 := op_SI hT si
    rw [ez]
    have pl := si.2.2.2.1
    obtain ⟨g2, rfl⟩ : ∃ g2, g' = g2 + 1 := ⟨g' - 1, by omega⟩
    have gn' : qPe (opQ S) = [] → goQ T (g + 1) S = (0, opQ S) := go_nil sp
    have gc : ∀ row rest, qPe (opQ S) = row :: rest → goQ T (g + 1) S = if 200 ≤ qPl (opQ S) then goQ T g (spQ (opQ S)) else if (wayQ T (opQ S) row rest).1 then (1, (wayQ T (opQ S) row rest).2) else goQ T g (wayQ T (opQ S) row rest).2 := fun _ _ => go_cons sp
    generalize goQ T (g + 1) S = res at gn' gc ⊢
    rw [← p1] at hg hg' pl
    rw [sp] at s1
    clear ez w e sp si p1
    generalize opQ S = S1 at *
    clear S op old
    cases hp : qPe S1 with
    | nil =>
      rw [hp] at e1
      have o1 : op1 = [] := by
        cases op1 with
        | nil => rfl
        | cons _ _ => cases e1
      subst o1
      have o2 : old1 = [] := e1.symm
      subst o2
      rw [gn' hp]
      refine ⟨wi, [], [], gn, ?_, fun _ => ⟨[], hp, (en hp).symm, w1⟩⟩
      rw [en hp, nxZ, if_pos ⟨rfl, rfl⟩]
      rfl
    | cons row rest =>
      rw [gc row rest hp]
      by_cases h2 : 200 ≤ qPl S1
      · rw [if_pos h2, go_sp rfl]
        refine ⟨wi, op1, old1 ++ qLa S1, gn, ?_, (fun q => by cases q)⟩
        rw [nxZ, if_neg, if_pos (show zPl (zOf S1 wi op1 (old1 ++ qLa S1) gn) = 200 by show qPl S1 = 200; omega)]
        · rfl
        · intro q
          have q1 : op1 = [] := q.1
          have q2 : old1 ++ qLa S1 = [] := q.2
          rw [e1, q1, (List.append_eq_nil_iff.mp q2).1] at hp
          cases hp
      · rw [if_neg h2]
        have N : ∃ X old2 gn2 wi2, nxZ T (g2 + 1) (zOf S1 wi op1 (old1 ++ qLa S1) gn) = nxZ T (g2 + 1) (zOf S1 wi2 (row :: X) (old2 ++ qLa S1) gn2) ∧ rest = X ++ old2 ∧ (qMo S1 = 1 → (∀ r ∈ old2, r.length + qBo S1 = qWe S1) ∧ qBo S1 * (wi2 + 1) = qWe S1) := by
          cases op1 with
          | cons a X =>
            rw [hp] at e1
            cases e1
            exact ⟨X, old1, gn, wi, rfl, rfl, fun m => ⟨(w1 m).1, (w1 m).2 (fun q => by cases q)⟩⟩
          | nil =>
            rw [hp] at e1
            have e1 : row :: rest = old1 := e1
            subst e1
            refine ⟨[], rest, gn + 1, row.length / qBo S1, nx_qu rfl rfl (by show qPl S1 < 200; omega) g2, rfl, fun m => ⟨fun r hr => (w1 m).1 r (List.mem_cons_of_mem _ hr), ?_⟩⟩
            have a := (w1 m).1 row List.mem_cons_self
            obtain ⟨⟨k, hk⟩, -⟩ := si1.2.2.2.2.2.2.2.1 m
            have b := si1.2.2.1
            have : row.length = qBo S1 * k := by
              rw [Nat.mul_add, Nat.mul_one] at hk
              omega
            rw [this, Nat.mul_div_cancel_left _ (by omega), hk]
        obtain ⟨X, old2, gn2, wi2, n1, n2, n3⟩ := N
        rw [n1]
        clear n1 en w1
        obtain ⟨l1, l2, l3, l4⟩ := t_len hT si1 hp
        obtain ⟨c1, c2, c3, c4, c5⟩ := way_c hT si1 hp
        have bo := si1.2.2.1
        have ch := nx_chain hT si1.1 (t := tQ S1 row) (row := row) rfl rfl (X := X) (Z := zOf S1 wi2 (row :: X) (old2 ++ qLa S1) gn2) rfl rfl (fun m => by
          have m : qMo S1 = 1 := m
          have := (n3 m).2
          rw [l2, most_1 m]
          show _ / qBo S1 ≤ wi2
          refine Nat.le_of_lt_succ ((Nat.div_lt_iff_lt_mul (by omega)).mpr ?_)
          rw [Nat.mul_comm, Nat.succ_eq_add_one, this]
          have := (si1.2.2.2.2.2.2.2.1 m).2.1 row (by rw [hp]; exact List.mem_cons_self)
          omega) (fun m => by
          have m : qMo S1 = 2 := m
          rw [l2, most_2 m]
          show _ ≤ qBo S1
          omega) (dcs (runP T (qGo S1) (tQ S1 row)) - row.length) (g2 + 1 - (dcs (runP T (qGo S1) (tQ S1 row)) - row.length)) (by omega) (by show _ + qPl S1 ≤ 200; omega)
        rw [show g2 + 1 - (dcs (runP T (qGo S1) (tQ S1 row)) - row.length) + (dcs (runP T (qGo S1) (tQ S1 row)) - row.length) = g2 + 1 by omega] at ch
        rw [ch, show row.length + (dcs (runP T (qGo S1) (tQ S1 row)) - row.length) = dcs (runP T (qGo S1) (tQ S1 row)) by omega]
        obtain ⟨g3, hg3⟩ : ∃ g3, g2 + 1 - (dcs (runP T (qGo S1) (tQ S1 row)) - row.length) = g3 + 1 := ⟨g2 + 1 - (dcs (runP T (qGo S1) (tQ S1 row)) - row.length) - 1, by omega⟩
        rw [hg3]
        by_cases hk : 200 - qPl S1 ≤ dcs (runP T (qGo S1) (tQ S1 row)) - row.length
        · have we : wayQ T S1 row rest = (false, (mkQ (qTh S1) (true) (qGo S1) (qMo S1) (qBo S1) (qWe S1) (rest) (qLa S1) (qPl S1 + (dcs (runP T (qGo S1) (tQ S1 row)) - row.length)) (qVa S1) (qFa S1) (qGu S1) (qCu S1) (qRo S1) (qLb S1) (qTk S1))) := by
            unfold wayQ
            dsimp only
            rw [if_pos hk]
          rw [we]
          rw [if_neg (show ¬ (false, (mkQ (qTh S1) (true) (qGo S1) (qMo S1) (qBo S1) (qWe S1) (rest) (qLa S1) (qPl S1 + (dcs (runP T (qGo S1) (tQ S1 row)) - row.length)) (qVa S1) (qFa S1) (qGu S1) (qCu S1) (qRo S1) (qLb S1) (qTk S1))).1 = true from (fun q => by cases q)), go_sp rfl]
          refine ⟨wi2, (tQ S1 row).take (dcs (runP T (qGo S1) (tQ S1 row))) :: (othQ (tQ S1 row) row.length (dcs (runP T (qGo S1) (tQ S1 row)) - row.length) ++ X), old2 ++ qLa S1, gn2, ?_, (fun q => by cases q)⟩
          rw [nxZ, if_neg (by intro q; cases q.1), if_pos (by show qPl S1 + _ = 200; omega)]
          rfl
        · have ne := nx_end hT si1 (X := X) (old := old2) (wi := wi2) (gn := gn2) hp hk (fun m => (n3 m).2) g3
          have ws := way_SI hT si1 (by omega) hp
          have we := way_end (T := T) (rest := rest) hk
          have key : qSp (wayQ T S1 row rest).2 = false ∧ qPe (wayQ T S1 row rest).2 = (othQ (tQ S1 row) row.length (dcs (runP T (qGo S1) (tQ S1 row)) - row.length) ++ X) ++ old2 ∧ qMo (wayQ T S1 row rest).2 = qMo S1 ∧ qBo (wayQ T S1 row rest).2 = qBo S1 ∧ qWe (wayQ T S1 row rest).2 = qWe S1 ∧ qPl (wayQ T S1 row rest).2 = qPl S1 + (dcs (runP T (qGo S1) (tQ S1 row)) - row.length) + 1 := by
            rw [we, n2, ← List.append_assoc]
            unfold endQ stopQ
            split
            · exact ⟨s1, rfl, rfl, rfl, rfl, rfl⟩
            · split
              · exact ⟨s1, rfl, rfl, rfl, rfl, rfl⟩
              · split
                · dsimp only
                  split
                  · exact ⟨s1, rfl, rfl, rfl, rfl, rfl⟩
                  · exact ⟨s1, rfl, rfl, rfl, rfl, rfl⟩
                · exact ⟨s1, rfl, rfl, rfl, rfl, rfl⟩
          obtain ⟨k1, k2, k3, k4, k5, k6⟩ := key
          have wq : WQ (wayQ T S1 row rest).2 (othQ (tQ S1 row) row.length (dcs (runP T (qGo S1) (tQ S1 row)) - row.length) ++ X) old2 wi2 := fun m => by
            rw [k3] at m
            rw [k4, k5]
            exact ⟨(n3 m).1, fun _ => (n3 m).2⟩
          by_cases b : (wayQ T S1 row rest).1 = true
          · rw [if_pos b]
            rw [if_pos b] at ne
            exact ⟨wi2, _, _, gn2, ne, fun _ => ⟨old2, k2, rfl, wq⟩⟩
          · rw [if_neg b]
            rw [if_neg b] at ne
            have si2 : SI T (wayQ T S1 row rest).2 := by
              rcases ws.2.2.2.2.2 with q | q
              · rw [k1] at q; cases q
              · exact q.1
            obtain ⟨wi', op', qu', gn', x1, x2⟩ := ih g3 (wayQ T S1 row rest).2 _ old2 wi2 gn2 si2 k1 k2 wq (by omega) (by omega)
            exact ⟨wi', op', qu', gn', ne.trans x1, x2⟩
/-- all that later steps need of a search, spent or not -/
def SB (T : NT) (S : SS) : Prop := qGo S < tN T ∧ qMo S ≤ 2 ∧ (1 ≤ qBo S ∧ qBo S ≤ 60) ∧ qPl S ≤ 200 ∧ (qSp S = false → SI T S)
theorem way_SB {T : NT} {S : SS} (hT : wfT T) (si : SI T S) (hp : qPl S < 200) {row : Row} {rest : List Row} (e : qPe S = row :: rest) : SB T (wayQ T S row rest).2 ∧ qTh (wayQ T S row rest).2 = qTh S := by
  obtain ⟨a, b, c, d, e, f⟩ := way_SI hT si hp e
  refine ⟨⟨by rw [c]; exact si.1, by rw [d]; exact si.2.1, by rw [e]; exact si.2.2.1, b, fun q => ?_⟩, a⟩
  rcases f with f | f
  · rw [f] at q; cases q
  · exact f.1
theorem op_same (S : SS) : qSp (opQ S) = qSp S ∧ qPl (opQ S) = qPl S ∧ qTh (opQ S) = qTh S := by
  unfold opQ
  split
  · exact ⟨rfl, rfl, rfl⟩
  · exact ⟨rfl, rfl, rfl⟩
theorem go_SB {T : NT} (hT : wfT T) : ∀ g S, SB T S → SB T (goQ T g S).2 ∧ qTh (goQ T g S).2 = qTh S ∧ (goQ T g S).1 ≤ 2 := by
  intro g
  induction g with
  | zero => intro S h; exact ⟨h, rfl, Nat.le_refl _⟩
  | succ g ih =>
    intro S h
    cases sp : qSp S with
    | true => rw [go_sp sp]; exact ⟨h, rfl, Nat.le_refl _⟩
    | false =>
      have si := h.2.2.2.2 sp
      obtain ⟨s1, p1, t1⟩ := op_same S
      have si1 := op_SI hT si
      have b1 : SB T (opQ S) := ⟨si1.1, si1.2.1, si1.2.2.1, si1.2.2.2.1, fun _ => si1⟩
      have gn' : qPe (opQ S) = [] → goQ T (g + 1) S = (0, opQ S) := go_nil sp
      have gc : ∀ row rest, qPe (opQ S) = row :: rest → goQ T (g + 1) S = if 200 ≤ qPl (opQ S) then goQ T g (spQ (opQ S)) else if (wayQ T (opQ S) row rest).1 then (1, (wayQ T (opQ S) row rest).2) else goQ T g (wayQ T (opQ S) row rest).2 := fun _ _ => go_cons sp
      generalize goQ T (g + 1) S = res at gn' gc ⊢
      rw [← t1]
      generalize opQ S = S1 at *
      cases hp : qPe S1 with
      | nil => rw [gn' hp]; exact ⟨b1, rfl, Nat.zero_le _⟩
      | cons row rest =>
        rw [gc row rest hp]
        by_cases h2 : 200 ≤ qPl S1
        · rw [if_pos h2, go_sp rfl]
          exact ⟨⟨si1.1, si1.2.1, si1.2.2.1, si1.2.2.2.1, (fun q => by cases q)⟩, rfl, Nat.le_refl _⟩
        · rw [if_neg h2]
          obtain ⟨w1, w2⟩ := way_SB hT si1 (by omega) hp
          by_cases b : (wayQ T S1 row rest).1 = true
          · rw [if_pos b]
            exact ⟨w1, w2, Nat.le_succ 1⟩
          · rw [if_neg b]
            obtain ⟨x1, x2, x3⟩ := ih _ w1
            exact ⟨x1, x2.trans w2, x3⟩
