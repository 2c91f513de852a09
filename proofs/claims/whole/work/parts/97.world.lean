/-! THE WORLD between two calls of the law -/
def WO2 (T1 T2 : NT) (S : SS) (Z : ZS) (t0 : Int32) (c s n : Nat) (xs : Nat → Int32) (σ : St) (κ : KP) (w : WR) (μ : KM) (F : Nat → Value) (I : AI) (La : AL) (X : Nat → Value) (f : Nat → Int64) (h : AH) : Prop :=
  RKx T1 S σ κ w h ∧ RZ t0 T2 Z μ F I La h ∧ AP κ μ ∧ (h.1 1 = ob 7 (fo 2 X) ∧ X 0 = .ref 2 ∧ X 1 = .ref 8) ∧ h.1 94 = la 1 f ∧ (h.2.2.1 + PC κ + (72000 - μ.2.2) ≤ c ∧ h.2.2.2 + PZ κ + 4 * (72000 - μ.2.2) ≤ s) ∧ h.1 0 = ia n xs
def WW (T1 T2 : NT) (S : SS) (Z : ZS) (t0 : Int32) (c s n : Nat) (xs : Nat → Int32) (h : AH) : Prop := ∃ σ κ w μ F I La X f, WO2 T1 T2 S Z t0 c s n xs σ κ w μ F I La X f h
section WLD
variable {T1 T2 T' : NT} {S S' : SS} {Z Z' : ZS} {t0 t1 : Int32} {c s n : Nat} {xs : Nat → Int32} {σ σ' : St} {κ κ' : KP} {w w' : WR} {μ μ' : KM} {F F' : Nat → Value} {I I' : AI} {La La' : AL} {X : Nat → Value} {f : Nat → Int64} {h h' : AH}
theorem WO2.cl (r : WO2 T1 T2 S Z t0 c s n xs σ κ w μ F I La X f h) (k : RKx T' S' σ' κ' w' h') (g : CG h κ h' κ') : WO2 T' T2 S' Z t0 c s n xs σ' κ' w' μ F I La X f h' := by
  obtain ⟨a, b, p, ⟨x1, x2, x3⟩, d, ⟨e1, e2⟩, z⟩ := r
  obtain ⟨z1, z2, z3, z4, z5⟩ := step_c a b p g
  obtain ⟨-, -, -, g1, g2⟩ := g
  exact ⟨k, z1, z2, ⟨z5.trans x1, x2, x3⟩, z3.trans d, ⟨by omega, by omega⟩, z4.trans z⟩
theorem WO2.rf (r : WO2 T1 T2 S Z t0 c s n xs σ κ w μ F I La X f h) (k : RZ t1 T' Z' μ' F' I' La' h') (g : MG h μ h' μ') : WO2 T1 T' S Z' t1 c s n xs σ κ w μ' F' I' La' X f h' := by
  obtain ⟨a, b, p, ⟨x1, x2, x3⟩, d, ⟨e1, e2⟩, z⟩ := r
  obtain ⟨z1, z2, z3, z4, z5⟩ := step_r a b.1.1 p g
  obtain ⟨-, -, -, g1, g2⟩ := g
  exact ⟨z1, k, z2, ⟨z5.trans x1, x2, x3⟩, z3.trans d, ⟨by omega, by omega⟩, z4.trans z⟩
theorem WO2.out (r : WO2 T1 T2 S Z t0 c s n xs σ κ w μ F I La X f h) (g : Nat → Int64) : WO2 T1 T2 S Z t0 c s n xs σ κ w μ F I La X g (hs h 94 (la 1 g)) := by
  obtain ⟨a, b, p, ⟨x1, x2, x3⟩, d, e, z⟩ := r
  have mh := b.1.1
  refine ⟨a.fr (Nat.le_refl _) (fun x hx => hs_ne (by omega)) (fun o ho => ?_), b.fr (mh.fr (Nat.le_refl _) (fun x h1 h2 => hs_ne (by omega)) (hs_ne ?_) (hs_ne ?_)), p, ⟨(hs_ne (by decide)).trans x1, x2, x3⟩, hs_eq, e, (hs_ne (by decide)).trans z⟩
  · obtain ⟨-, -, -, -, t1, t2⟩ := a.tu ho
    exact ⟨hs_ne (by omega), hs_ne (by omega)⟩
  · have := mh.2.2.2.2.2.1
    omega
  · have := mh.2.2.2.2.2.2.1
    omega
theorem WO2.x (r : WO2 T1 T2 S Z t0 c s n xs σ κ w μ F I La X f h) : WO2 T1 T2 S Z t0 (c + 1) (s + 6) n xs σ κ w μ F I La X f (hX h) := by
  obtain ⟨a, b, p, x, d, ⟨e1, e2⟩, z⟩ := r
  refine ⟨a.fr (Nat.le_refl _) (fun _ _ => rfl) (fun _ _ => ⟨rfl, rfl⟩), b.fr (b.1.1.fr (Nat.le_refl _) (fun _ _ _ => rfl) rfl rfl), p, x, d, ⟨?_, ?_⟩, z⟩
  · show h.2.2.1 + 1 + PC κ + (72000 - μ.2.2) ≤ c + 1
    omega
  · show h.2.2.2 + 6 + PZ κ + 4 * (72000 - μ.2.2) ≤ s + 6
    omega
theorem WO2.le (r : WO2 T1 T2 S Z t0 c s n xs σ κ w μ F I La X f h) {c' s' : Nat} (h1 : c ≤ c') (h2 : s ≤ s') : WO2 T1 T2 S Z t0 c' s' n xs σ κ w μ F I La X f h := by
  obtain ⟨a, b, p, x, d, ⟨e1, e2⟩, z⟩ := r
  exact ⟨a, b, p, x, d, ⟨by omega, by omega⟩, z⟩
theorem WO2.th (r : WO2 T1 T2 S Z t0 c s n xs σ κ w μ F I La X f h) (k : Int32) : WO2 T1 T2 S Z k c s n xs σ κ w μ (va_up F 0 (.int k)) I La X f (hs h 65 (ob 8 (fo 53 (va_up F 0 (.int k))))) := r.rf (r.2.1.f0 k) (MG.s (by decide))
end WLD
/-- the two searches, as they belong together -/
def SR (S : SS) (Z : ZS) : Prop := ((qTh S = zTh Z ∧ qPl S = zPl Z ∧ qVa S = zVa Z ∧ qFa S = zFa Z ∧ qGu S = zGu Z) ∧ qCu S = zCu Z ∧ qRo S = zRo Z ∧ qLb S = zLb Z ∧ qTk S = zTk Z) ∧ (qTh S = true → ∃ wi op qu gn, Z = zOf S wi op qu gn ∧ (qSp S = false → ∃ old, qPe S = op ++ old ∧ qu = old ++ qLa S ∧ WQ S op old wi))
def LOG (T : NT) (S : SS) (Z : ZS) : Prop := wfT T ∧ SR S Z ∧ (qTh S = true → SB T S ∧ ZI T Z) ∧ (qRo S).length ≤ 60
theorem SB.tx {T T' : NT} {S : SS} (hT : wfT T) (X : TX T T') (hN : tN T ≤ tN T') (b : SB T S) : SB T' S := ⟨Nat.lt_of_lt_of_le b.1 hN, b.2.1, b.2.2.1, b.2.2.2.1, fun q => (b.2.2.2.2 q).tx hT X hN⟩
theorem ZI.tx {T T' : NT} {Z : ZS} (hT : wfT T) (X : TX T T') (hN : tN T ≤ tN T') (b : ZI T Z) : ZI T' Z := by
  obtain ⟨a, b, c, d, e, f, g⟩ := b
  exact ⟨Nat.lt_of_lt_of_le a hN, b, c, d, fun r hr => row_tx hT X a (e r hr), fun r hr => row_tx hT X a (f r hr), g⟩
theorem LOG.add {T : NT} {S : SS} {Z : ZS} (l : LOG T S Z) (h : tN T < 60) {s a b c : Int32} {v : Int64} (hn : wfN (addT T s a b c v) (tN T)) : LOG (addT T s a b c v) S Z := by
  obtain ⟨l1, l2, l3, l4⟩ := l
  refine ⟨wf_add l1 h hn, l2, fun t => ?_, l4⟩
  obtain ⟨b, z⟩ := l3 t
  exact ⟨b.tx l1 (addT_TX T s a _ c v) (Nat.le_succ _), z.tx l1 (addT_TX T s a _ c v) (Nat.le_succ _)⟩
theorem LOG.clear {T : NT} {S : SS} {Z : ZS} (l : LOG T S Z) : LOG (clT T) (fgQ S) (fgZ Z) := ⟨⟨Nat.zero_le _, (fun i hi => absurd hi (Nat.not_lt_zero _))⟩, ⟨⟨⟨rfl, rfl, rfl, rfl, rfl⟩, rfl, rfl, rfl, rfl⟩, (fun q => by cases q)⟩, (fun q => by cases q), Nat.zero_le _⟩
theorem LOG.ask {T : NT} {S : SS} {Z : ZS} (l : LOG T S Z) {a mo bo : Nat} (ha : a < tN T) (hm : mo ≤ 2) (h1 : 1 ≤ bo) (h2 : bo ≤ 60) : LOG T (asQ a mo bo) (asZ a mo bo) := by
  have si := as_SI ha hm h1 h2
  refine ⟨l.1, ⟨⟨⟨rfl, rfl, rfl, rfl, rfl⟩, rfl, rfl, rfl, rfl⟩, fun _ => ⟨0, [[]], [], 0, rfl, fun _ => ⟨[], rfl, rfl, fun _ => ⟨(fun r hr => by cases hr), fun _ => Nat.mul_one _⟩⟩⟩⟩, fun _ => ⟨⟨ha, hm, ⟨h1, h2⟩, Nat.zero_le _, fun _ => si⟩, ha, hm, ⟨h1, h2⟩, Nat.zero_le _, fun r hr => ?_, (fun r hr => by cases hr), Nat.le_refl _, Nat.le_refl _, Nat.zero_le _⟩, Nat.zero_le _⟩
  rcases List.mem_cons.mp hr with q | q
  · exact Or.inl q
  · cases q
/-- the latest value's row -/
theorem way_ro {T : NT} {S : SS} (hT : wfT T) (si : SI T S) {row : Row} {rest : List Row} (e : qPe S = row :: rest) (h : (qRo S).length ≤ 60) : (qRo (wayQ T S row rest).2).length ≤ 60 := by
  obtain ⟨c1, c2, c3, c4, c5⟩ := way_c hT si e
  by_cases k : 200 - qPl S ≤ dcs (runP T (qGo S) (tQ S row)) - row.length
  · unfold wayQ
    dsimp only
    rw [if_pos k]
    exact h
  · rw [way_end k]
    unfold endQ stopQ
    split
    · show ((tQ S row).take _).length ≤ 60
      rw [List.length_take]
      omega
    · split
      · exact h
      · split
        · dsimp only
          split
          · exact h
          · exact h
        · exact h
theorem go_ro {T : NT} (hT : wfT T) : ∀ g S, SB T S → (qRo S).length ≤ 60 → (qRo (goQ T g S).2).length ≤ 60 := by
  intro g
  induction g with
  | zero => intro S _ h; exact h
  | succ g ih =>
    intro S b h
    cases sp : qSp S with
    | true => rw [go_sp sp]; exact h
    | false =>
      have si := b.2.2.2.2 sp
      have si1 := op_SI hT si
      have h1 : (qRo (opQ S)).length ≤ 60 := by
        unfold opQ
        split
        · exact h
        · exact h
      have gn' : qPe (opQ S) = [] → goQ T (g + 1) S = (0, opQ S) := go_nil sp
      have gc : ∀ row rest, qPe (opQ S) = row :: rest → goQ T (g + 1) S = if 200 ≤ qPl (opQ S) then goQ T g (spQ (opQ S)) else if (wayQ T (opQ S) row rest).1 then (1, (wayQ T (opQ S) row rest).2) else goQ T g (wayQ T (opQ S) row rest).2 := fun _ _ => go_cons sp
      generalize goQ T (g + 1) S = res at gn' gc ⊢
      generalize opQ S = S1 at *
      cases hp : qPe S1 with
      | nil => rw [gn' hp]; exact h1
      | cons row rest =>
        rw [gc row rest hp]
        by_cases h2 : 200 ≤ qPl S1
        · rw [if_pos h2, go_sp rfl]
          exact h1
        · rw [if_neg h2]
          have w1 := way_ro hT si1 hp h1
          by_cases bb : (wayQ T S1 row rest).1 = true
          · rw [if_pos bb]
            exact w1
          · rw [if_neg bb]
            exact ih _ (way_SB hT si1 (by omega) hp).1 w1
theorem LOG.next {T : NT} {S : SS} {Z : ZS} (l : LOG T S Z) (th : qTh S = true) (sp : qSp S = false) (hz : ZI T (nxZ T 201 Z).2) : (nxZ T 201 Z).1 = (goQ T 201 S).1 ∧ LOG T (goQ T 201 S).2 (nxZ T 201 Z).2 := by
  obtain ⟨hT, ⟨-, sr⟩, bz, ro⟩ := l
  obtain ⟨wi, op, qu, gn, rfl, sq⟩ := sr th
  obtain ⟨old, e1, e2, e3⟩ := sq sp
  obtain ⟨b, z⟩ := bz th
  subst e2
  obtain ⟨wi', op', qu', gn', x1, x2⟩ := go_nx hT 201 201 S op old wi gn (b.2.2.2.2 sp) sp e1 e3 (by omega) (by omega)
  obtain ⟨y1, y2, y3⟩ := go_SB hT 201 S b
  rw [x1] at hz ⊢
  exact ⟨rfl, hT, ⟨⟨⟨rfl, rfl, rfl, rfl, rfl⟩, rfl, rfl, rfl, rfl⟩, fun _ => ⟨wi', op', qu', gn', rfl, x2⟩⟩, fun _ => ⟨y1, hz⟩, go_ro hT 201 S b ro⟩
