/-! THE REFERENCE'S SEARCH, over a mathematical state: one place at a time -/
/-- there, spent, goal, mode, bound, window; open rows (the top one first), the queue, how many are gone from it; places, values, failures, lost, cuts; the latest value -/
abbrev ZS : Type := (Bool × (Bool × (Nat × (Nat × (Nat × Nat))))) × ((List Row × (List Row × Nat)) × ((Nat × (Nat × (Nat × (Nat × Nat)))) × (Row × (Nat × List Tok))))
abbrev zTh (Z : ZS) : Bool := Z.1.1
abbrev zSp (Z : ZS) : Bool := Z.1.2.1
abbrev zGo (Z : ZS) : Nat := Z.1.2.2.1
abbrev zMo (Z : ZS) : Nat := Z.1.2.2.2.1
abbrev zBo (Z : ZS) : Nat := Z.1.2.2.2.2.1
abbrev zWi (Z : ZS) : Nat := Z.1.2.2.2.2.2
abbrev zOp (Z : ZS) : List Row := Z.2.1.1
abbrev zQu (Z : ZS) : List Row := Z.2.1.2.1
abbrev zGn (Z : ZS) : Nat := Z.2.1.2.2
abbrev zPl (Z : ZS) : Nat := Z.2.2.1.1
abbrev zVa (Z : ZS) : Nat := Z.2.2.1.2.1
abbrev zFa (Z : ZS) : Nat := Z.2.2.1.2.2.1
abbrev zGu (Z : ZS) : Nat := Z.2.2.1.2.2.2.1
abbrev zCu (Z : ZS) : Nat := Z.2.2.1.2.2.2.2
abbrev zRo (Z : ZS) : Row := Z.2.2.2.1
abbrev zLb (Z : ZS) : Nat := Z.2.2.2.2.1
abbrev zTk (Z : ZS) : List Tok := Z.2.2.2.2.2
abbrev mkZ (th sp : Bool) (go mo bo wi : Nat) (op qu : List Row) (gn pl va fa gu cu : Nat) (ro : Row) (lb : Nat) (tk : List Tok) : ZS := ((th, (sp, (go, (mo, (bo, wi))))), ((op, (qu, gn)), ((pl, (va, (fa, (gu, cu)))), (ro, (lb, tk)))))
def fgZ (Z : ZS) : ZS := mkZ false false (zGo Z) (zMo Z) (zBo Z) 0 [] [] 0 0 0 0 0 0 [] 0 []
def asZ (n mo bo : Nat) : ZS := mkZ true false n mo bo 0 [[]] [] 0 0 0 0 0 0 [] 0 []
def spZ (Z : ZS) : ZS := (mkZ (zTh Z) (true) (zGo Z) (zMo Z) (zBo Z) (zWi Z) (zOp Z) (zQu Z) (zGn Z) (zPl Z) (zVa Z) (zFa Z) (zGu Z) (zCu Z) (zRo Z) (zLb Z) (zTk Z))
/-- the row that is due, and what stays, with the place counted -/
def feZ (Z : ZS) : Row × ZS := match zOp Z with
  | row :: op => (row, (mkZ (zTh Z) (zSp Z) (zGo Z) (zMo Z) (zBo Z) (zWi Z) (op) (zQu Z) (zGn Z) (zPl Z + 1) (zVa Z) (zFa Z) (zGu Z) (zCu Z) (zRo Z) (zLb Z) (zTk Z)))
  | [] => match zQu Z with
    | row :: qu => (row, (mkZ (zTh Z) (zSp Z) (zGo Z) (zMo Z) (zBo Z) (row.length / zBo Z) ([]) (qu) (zGn Z + 1) (zPl Z + 1) (zVa Z) (zFa Z) (zGu Z) (zCu Z) (zRo Z) (zLb Z) (zTk Z)))
    | [] => ([], Z)
def deZ (Z : ZS) (row : Row) : ZS :=
  if zMo Z = 2 ∧ row.length = zBo Z then (mkZ (zTh Z) (zSp Z) (zGo Z) (zMo Z) (zBo Z) (zWi Z) (zOp Z) (zQu Z) (zGn Z) (zPl Z) (zVa Z) (zFa Z) (zGu Z) (zCu Z + 1) (zRo Z) (zLb Z) (zTk Z))
  else if zMo Z = 1 ∧ zWi Z < (row.length + 1) / zBo Z then (mkZ (zTh Z) (zSp Z) (zGo Z) (zMo Z) (zBo Z) (zWi Z) (zOp Z) (zQu Z ++ [row ++ [false], row ++ [true]]) (zGn Z) (zPl Z) (zVa Z) (zFa Z) (zGu Z) (zCu Z) (zRo Z) (zLb Z) (zTk Z))
  else (mkZ (zTh Z) (zSp Z) (zGo Z) (zMo Z) (zBo Z) (zWi Z) ((row ++ [false]) :: (row ++ [true]) :: zOp Z) (zQu Z) (zGn Z) (zPl Z) (zVa Z) (zFa Z) (zGu Z) (zCu Z) (zRo Z) (zLb Z) (zTk Z))
def enZ (Z : ZS) (row : Row) (r : Rs) : Bool × ZS :=
  if r.1 = 1 then (false, (mkZ (zTh Z) (zSp Z) (zGo Z) (zMo Z) (zBo Z) (zWi Z) (zOp Z) (zQu Z) (zGn Z) (zPl Z) (zVa Z) (zFa Z + 1) (zGu Z) (zCu Z) (zRo Z) (zLb Z) (zTk Z))) else if r.1 = 2 then (false, (mkZ (zTh Z) (zSp Z) (zGo Z) (zMo Z) (zBo Z) (zWi Z) (zOp Z) (zQu Z) (zGn Z) (zPl Z) (zVa Z) (zFa Z) (zGu Z + 1) (zCu Z) (zRo Z) (zLb Z) (zTk Z))) else (true, (mkZ (zTh Z) (zSp Z) (zGo Z) (zMo Z) (zBo Z) (zWi Z) (zOp Z) (zQu Z) (zGn Z) (zPl Z) (zVa Z + 1) (zFa Z) (zGu Z) (zCu Z) (row) (sLab r.2) (sFull r.2 0)))
def nxZ (T : NT) : Nat → ZS → Nat × ZS
  | 0, Z => (2, Z)
  | g + 1, Z => if zOp Z = [] ∧ zQu Z = [] then (0, Z) else if zPl Z = 200 then (2, spZ Z) else
    if (runP T (zGo Z) (feZ Z).1).1 = 3 then nxZ T g (deZ (feZ Z).2 (feZ Z).1) else
    if (enZ (feZ Z).2 (feZ Z).1 (runP T (zGo Z) (feZ Z).1)).1 then (1, (enZ (feZ Z).2 (feZ Z).1 (runP T (zGo Z) (feZ Z).1)).2) else nxZ T g (enZ (feZ Z).2 (feZ Z).1 (runP T (zGo Z) (feZ Z).1)).2
def stZ (T : NT) (g go : Nat) (f : Row × ZS) : Nat × ZS := if (runP T go f.1).1 = 3 then nxZ T g (deZ f.2 f.1) else if (enZ f.2 f.1 (runP T go f.1)).1 then (1, (enZ f.2 f.1 (runP T go f.1)).2) else nxZ T g (enZ f.2 f.1 (runP T go f.1)).2
theorem nx_step {T : NT} {Z : ZS} {g : Nat} (h1 : ¬ (zOp Z = [] ∧ zQu Z = [])) (h2 : ¬ zPl Z = 200) : nxZ T (g + 1) Z = stZ T g (zGo Z) (feZ Z) := by
  rw [nxZ, if_neg h1, if_neg h2]
  rfl
/-- a row of the queue is due: as if it were open -/
theorem nx_qu {T : NT} {Z : ZS} {row : Row} {qu : List Row} (h1 : zOp Z = []) (h2 : zQu Z = row :: qu) (h3 : zPl Z < 200) (g : Nat) : nxZ T (g + 1) Z = nxZ T (g + 1) (mkZ (zTh Z) (zSp Z) (zGo Z) (zMo Z) (zBo Z) (row.length / zBo Z) ([row]) (qu) (zGn Z + 1) (zPl Z) (zVa Z) (zFa Z) (zGu Z) (zCu Z) (zRo Z) (zLb Z) (zTk Z)) := by
  have e1 : feZ Z = (row, (mkZ (zTh Z) (zSp Z) (zGo Z) (zMo Z) (zBo Z) (row.length / zBo Z) ([]) (qu) (zGn Z + 1) (zPl Z + 1) (zVa Z) (zFa Z) (zGu Z) (zCu Z) (zRo Z) (zLb Z) (zTk Z))) := by unfold feZ; rw [h1, h2]
  have e2 : feZ (mkZ (zTh Z) (zSp Z) (zGo Z) (zMo Z) (zBo Z) (row.length / zBo Z) ([row]) (qu) (zGn Z + 1) (zPl Z) (zVa Z) (zFa Z) (zGu Z) (zCu Z) (zRo Z) (zLb Z) (zTk Z)) = (row, (mkZ (zTh Z) (zSp Z) (zGo Z) (zMo Z) (zBo Z) (row.length / zBo Z) ([]) (qu) (zGn Z + 1) (zPl Z + 1) (zVa Z) (zFa Z) (zGu Z) (zCu Z) (zRo Z) (zLb Z) (zTk Z))) := rfl
  rw [nx_step (by rw [h2]; intro q; cases q.2) (by omega), nx_step (Z := (mkZ (zTh Z) (zSp Z) (zGo Z) (zMo Z) (zBo Z) (row.length / zBo Z) ([row]) (qu) (zGn Z + 1) (zPl Z) (zVa Z) (zFa Z) (zGu Z) (zCu Z) (zRo Z) (zLb Z) (zTk Z))) (by intro q; cases q.1) (by show ¬ zPl Z = 200; omega), e1, e2]
theorem take_s {t row : Row} {m j : Nat} (ht : t = row ++ List.replicate m false) (hj : row.length ≤ j) (hl : j < t.length) : t.take (j + 1) = t.take j ++ [false] := by
  rw [List.take_add_one]
  congr 1
  have : t[j]? = some false := by
    rw [ht, List.getElem?_append_right hj, List.getElem?_replicate, if_pos (by rw [ht, List.length_append, List.length_replicate] at hl; omega)]
  rw [this]
  rfl
/-- the decisions of one way, place by place -/
theorem nx_chain {T : NT} (hT : wfT T) {go l : Nat} (hg : go < tN T) {t row : Row} {m : Nat} (ht : t = row ++ List.replicate m false) (hl : row.length = l) {X : List Row} {Z : ZS} (z1 : zGo Z = go) (z2 : zOp Z = row :: X) (hw : zMo Z = 1 → t.length / zBo Z ≤ zWi Z) (hb : zMo Z = 2 → t.length ≤ zBo Z) : ∀ k g, l + k ≤ dcs (runP T go t) → k + zPl Z ≤ 200 → nxZ T (g + k) Z = nxZ T g (mkZ (zTh Z) (zSp Z) (zGo Z) (zMo Z) (zBo Z) (zWi Z) (t.take (l + k) :: (othQ t l k ++ X)) (zQu Z) (zGn Z) (zPl Z + k) (zVa Z) (zFa Z) (zGu Z) (zCu Z) (zRo Z) (zLb Z) (zTk Z)) := by
  have ct := (run_le hT hg t).1
  intro k
  induction k with
  | zero =>
    intro g _ _
    have e0 : t.take (l + 0) = row := by rw [ht, ← hl, Nat.add_zero, List.take_left]
    rw [e0]
    show nxZ T g Z = nxZ T g (mkZ (zTh Z) (zSp Z) (zGo Z) (zMo Z) (zBo Z) (zWi Z) (row :: X) (zQu Z) (zGn Z) (zPl Z) (zVa Z) (zFa Z) (zGu Z) (zCu Z) (zRo Z) (zLb Z) (zTk Z))
    rw [← z2]
  | succ k ih =>
    intro g hk hp
    rw [show g + (k + 1) = (g + 1) + k by omega, ih (g + 1) (by omega) (by omega)]
    have r3 : (runP T go (t.take (l + k))).1 = 3 := run_less hT hg (by omega)
    have fe : feZ (mkZ (zTh Z) (zSp Z) (zGo Z) (zMo Z) (zBo Z) (zWi Z) (t.take (l + k) :: (othQ t l k ++ X)) (zQu Z) (zGn Z) (zPl Z + k) (zVa Z) (zFa Z) (zGu Z) (zCu Z) (zRo Z) (zLb Z) (zTk Z)) = (t.take (l + k), (mkZ (zTh Z) (zSp Z) (zGo Z) (zMo Z) (zBo Z) (zWi Z) (othQ t l k ++ X) (zQu Z) (zGn Z) (zPl Z + k + 1) (zVa Z) (zFa Z) (zGu Z) (zCu Z) (zRo Z) (zLb Z) (zTk Z))) := rfl
    have lt : (t.take (l + k)).length = l + k := by rw [List.length_take]; omega
    have de : deZ (mkZ (zTh Z) (zSp Z) (zGo Z) (zMo Z) (zBo Z) (zWi Z) (othQ t l k ++ X) (zQu Z) (zGn Z) (zPl Z + k + 1) (zVa Z) (zFa Z) (zGu Z) (zCu Z) (zRo Z) (zLb Z) (zTk Z)) (t.take (l + k)) = (mkZ (zTh Z) (zSp Z) (zGo Z) (zMo Z) (zBo Z) (zWi Z) ((t.take (l + k) ++ [false]) :: (t.take (l + k) ++ [true]) :: (othQ t l k ++ X)) (zQu Z) (zGn Z) (zPl Z + k + 1) (zVa Z) (zFa Z) (zGu Z) (zCu Z) (zRo Z) (zLb Z) (zTk Z)) := by
      unfold deZ
      rw [if_neg, if_neg]
      · rw [lt]
        intro q
        have q1 : zMo Z = 1 := q.1
        have q2 : zWi Z < (l + k + 1) / zBo Z := q.2
        have := hw q1
        have := Nat.div_le_div_right (c := zBo Z) (show l + k + 1 ≤ t.length by omega)
        omega
      · rw [lt]
        intro q
        have q1 : zMo Z = 2 := q.1
        have q2 : l + k = zBo Z := q.2
        have := hb q1
        omega
    rw [nx_step (by intro q; cases q.1) (by show ¬ zPl Z + k = 200; omega), fe]
    unfold stZ
    rw [show (runP T (zGo (mkZ (zTh Z) (zSp Z) (zGo Z) (zMo Z) (zBo Z) (zWi Z) (t.take (l + k) :: (othQ t l k ++ X)) (zQu Z) (zGn Z) (zPl Z + k) (zVa Z) (zFa Z) (zGu Z) (zCu Z) (zRo Z) (zLb Z) (zTk Z))) (t.take (l + k))).1 = 3 by show (runP T (zGo Z) (t.take (l + k))).1 = 3; rw [z1]; exact r3]
    rw [if_pos rfl]
    show nxZ T g (deZ (mkZ (zTh Z) (zSp Z) (zGo Z) (zMo Z) (zBo Z) (zWi Z) (othQ t l k ++ X) (zQu Z) (zGn Z) (zPl Z + k + 1) (zVa Z) (zFa Z) (zGu Z) (zCu Z) (zRo Z) (zLb Z) (zTk Z)) (t.take (l + k))) = _
    rw [de, ← take_s ht (by omega) (by omega)]
    rfl
