/-! WHAT A WAY IS: the working out of nodes, as a function over a mathematical state; both the class and the reference are held against it -/
/-- a value: a number; a pair, by its node; a list: where it begins, how many tokens -/
abbrev Vl : Type := Int64 ⊕ (Nat ⊕ (Nat × Nat))
/-- nodes: how many; sorts; first, second, third numbers; words -/
abbrev NT : Type := Nat × ((Nat → Int32) × ((Nat → Int32) × ((Nat → Int32) × ((Nat → Int32) × (Nat → Int64)))))
abbrev tN (T : NT) : Nat := T.1
abbrev tS (T : NT) (n : Nat) : Int32 := T.2.1 n
def tA (T : NT) (n : Nat) : Nat := (T.2.2.1 n).toNatClampNeg
def tB (T : NT) (n : Nat) : Nat := (T.2.2.2.1 n).toNatClampNeg
def tC (T : NT) (n : Nat) : Nat := (T.2.2.2.2.1 n).toNatClampNeg
abbrev tV (T : NT) (n : Nat) : Int64 := T.2.2.2.2.2 n
/-- inside, values, told, come, full, list, many (by levels); level, labour, heap, wanted node, its level -/
abbrev St : Type := (Nat → Nat) × ((Nat → Nat → Option Vl) × ((Nat → List Bool) × ((Nat → Nat) × ((Nat → List Tok) × ((Nat → List Tok) × ((Nat → Nat) × (Nat × (Nat × (List Tok × (Nat × Nat))))))))))
abbrev sIns (σ : St) : Nat → Nat := σ.1
abbrev sVal (σ : St) : Nat → Nat → Option Vl := σ.2.1
abbrev sTold (σ : St) : Nat → List Bool := σ.2.2.1
abbrev sCome (σ : St) : Nat → Nat := σ.2.2.2.1
abbrev sFull (σ : St) : Nat → List Tok := σ.2.2.2.2.1
abbrev sLst (σ : St) : Nat → List Tok := σ.2.2.2.2.2.1
abbrev sMany (σ : St) : Nat → Nat := σ.2.2.2.2.2.2.1
abbrev sLev (σ : St) : Nat := σ.2.2.2.2.2.2.2.1
abbrev sLab (σ : St) : Nat := σ.2.2.2.2.2.2.2.2.1
abbrev sHeap (σ : St) : List Tok := σ.2.2.2.2.2.2.2.2.2.1
abbrev sWn (σ : St) : Nat := σ.2.2.2.2.2.2.2.2.2.2.1
abbrev sWl (σ : St) : Nat := σ.2.2.2.2.2.2.2.2.2.2.2
abbrev mkS (ins : Nat → Nat) (val : Nat → Nat → Option Vl) (told : Nat → List Bool) (come : Nat → Nat) (full lst : Nat → List Tok) (many : Nat → Nat) (lev lab : Nat) (heap : List Tok) (wn wl : Nat) : St := (ins, (val, (told, (come, (full, (lst, (many, (lev, (lab, (heap, (wn, wl)))))))))))
abbrev wVal (σ : St) (x : Nat → Nat → Option Vl) : St := mkS (sIns σ) x (sTold σ) (sCome σ) (sFull σ) (sLst σ) (sMany σ) (sLev σ) (sLab σ) (sHeap σ) (sWn σ) (sWl σ)
abbrev wLab (σ : St) (x : Nat) : St := mkS (sIns σ) (sVal σ) (sTold σ) (sCome σ) (sFull σ) (sLst σ) (sMany σ) (sLev σ) x (sHeap σ) (sWn σ) (sWl σ)
abbrev wWant (σ : St) (n k : Nat) : St := mkS (sIns σ) (sVal σ) (sTold σ) (sCome σ) (sFull σ) (sLst σ) (sMany σ) (sLev σ) (sLab σ) (sHeap σ) n k
abbrev wTC (σ : St) (t : Nat → List Bool) (c : Nat → Nat) : St := mkS (sIns σ) (sVal σ) t c (sFull σ) (sLst σ) (sMany σ) (sLev σ) (sLab σ) (sHeap σ) (sWn σ) (sWl σ)
abbrev wFull (σ : St) (x : Nat → List Tok) : St := mkS (sIns σ) (sVal σ) (sTold σ) (sCome σ) x (sLst σ) (sMany σ) (sLev σ) (sLab σ) (sHeap σ) (sWn σ) (sWl σ)
abbrev wHeap (σ : St) (x : List Tok) : St := mkS (sIns σ) (sVal σ) (sTold σ) (sCome σ) (sFull σ) (sLst σ) (sMany σ) (sLev σ) (sLab σ) x (sWn σ) (sWl σ)
abbrev wLM (σ : St) (x : Nat → List Tok) (m : Nat → Nat) : St := mkS (sIns σ) (sVal σ) (sTold σ) (sCome σ) (sFull σ) x m (sLev σ) (sLab σ) (sHeap σ) (sWn σ) (sWl σ)
/-- the level to which a node is inside, from k down -/
def lvOf (ins : Nat → Nat) (n : Nat) : Nat → Nat
  | 0 => 0
  | k + 1 => if ins (k + 1) ≤ n then k + 1 else lvOf ins n k
def gv (σ : St) (n : Nat) : Option Vl := sVal σ (lvOf (sIns σ) n (sLev σ)) n
def sv (σ : St) (n : Nat) (x : Option Vl) : St := wVal σ (va_up (sVal σ) (sLev σ) (va_up (sVal σ (sLev σ)) n x))
/-- how it ends: 0 done, 1 failed, 2 given up, 3 at a decision, 4 outside; 9 never -/
abbrev Rs : Type := Nat × St
def bd (r : Rs) (g : St → Rs) : Rs := if r.1 = 0 then g r.2 else r
def numO : Option Vl → Option Int64
  | some (.inl v) => some v
  | _ => none
def pairO : Option Vl → Option Nat
  | some (.inr (.inl p)) => some p
  | _ => none
def listO : Option Vl → Option (Nat × Nat)
  | some (.inr (.inr q)) => some q
  | _ => none
def tkP (rec : Nat → St → Rs) (n x : Nat) (σ : St) : Rs := bd (rec x σ) (fun σ1 => (0, sv σ1 n (gv σ1 x)))
def nAs {α : Type} (rec : Nat → St → Rs) (pr : Option Vl → Option α) (x : Nat) (σ : St) (g : α → St → Rs) : Rs :=
  bd (rec x σ) (fun σ1 => match pr (gv σ1 x) with
    | some a => g a σ1
    | none => (1, σ1))
def choP (rec : Nat → St → Rs) (T : NT) (n : Nat) (σ : St) : Rs :=
  if sCome σ (sLev σ) = (sTold σ (sLev σ)).length then
    if sLev σ = 0 then (3, σ)
    else tkP rec n (tA T n) (wTC σ (va_up (sTold σ) (sLev σ) (sTold σ (sLev σ) ++ [false])) (va_up (sCome σ) (sLev σ) (sCome σ (sLev σ) + 1)))
  else tkP rec n (if (sTold σ (sLev σ)).getD (sCome σ (sLev σ)) false then tB T n else tA T n) (wTC σ (sTold σ) (va_up (sCome σ) (sLev σ) (sCome σ (sLev σ) + 1)))
def reck (k : Int32) (a b : Int64) : Option Int64 :=
  if k = 0 then some (a + b) else if k = 1 then some (a - b) else if k = 2 then some (a * b) else if k = 3 then (if b = 0 then none else some (a / b)) else if k = 4 then some (if a < b then 1 else 0) else some (if a = b then 1 else 0)
def ansP (σ : St) (n : Nat) : Option Int64 → Rs
  | some v => (0, sv σ n (some (.inl v)))
  | none => (1, σ)
def hsl (hp : List Tok) (s l : Nat) : List Tok := (hp.drop s).take l
def minL : List Int64 → Option Int64
  | [] => none
  | v :: r => some (r.foldl (fun a b => if b < a then b else a) v)
def sumL (l : List Int64) : Int64 := l.foldl (fun a b => a + b) 0
def foldT (k : Int32) (ts : List Tok) : Option Int64 :=
  match ts with
  | [] => none
  | t :: r => if k = 0 then some t.2 else if r.all (fun x => x.1 == 0) then (if k = 1 then some (sumL (r.map Prod.snd)) else minL (r.map Prod.snd)) else none
/-- tokens of the value that is told -/
def tokP (σ : St) (ts : List Tok) : Rs :=
  if (sFull σ (sLev σ)).length + ts.length ≤ 100 then (0, wFull σ (va_up (sFull σ) (sLev σ) (sFull σ (sLev σ) ++ ts))) else (2, σ)
def tfP (rec : Nat → St → Rs) (T : NT) : Nat → Nat → St → Rs
  | 0, _, σ => (9, σ)
  | g + 1, n, σ => bd (rec n σ) (fun σ1 => match gv σ1 n with
    | some (.inl v) => tokP σ1 [(0, v)]
    | some (.inr (.inr q)) => tokP σ1 (hsl (sHeap σ1) q.1 q.2)
    | some (.inr (.inl p)) => bd (tokP σ1 [(1, 2)]) (fun σ2 => bd (tfP rec T g (tA T p) σ2) (fun σ3 => tfP rec T g (tB T p) σ3))
    | none => (9, σ1))
/-- the next told ones, the last first -/
def nxtR : List Bool → Option (List Bool)
  | [] => none
  | false :: r => some (true :: r)
  | true :: r => nxtR r
def nxt (told : List Bool) (come : Nat) : Option (List Bool) := (nxtR (told.take come).reverse).map List.reverse
/-- a way of a set begins -/
def begP (σ : St) (base : Nat) : St := mkS (sIns σ) (va_up (sVal σ) (sLev σ) (fun _ => none)) (sTold σ) (va_up (sCome σ) (sLev σ) 0) (va_up (sFull σ) (sLev σ) []) (sLst σ) (sMany σ) (sLev σ) (sLab σ) ((sHeap σ).take base) (sWn σ) (sWl σ)
def nextP (w : St → Rs) (σ : St) : Rs :=
  match nxt (sTold σ (sLev σ)) (sCome σ (sLev σ)) with
  | none => (0, σ)
  | some t => w (wTC σ (va_up (sTold σ) (sLev σ) t) (sCome σ))
def colP (σ : St) : St := wLM σ (va_up (sLst σ) (sLev σ) (sLst σ (sLev σ) ++ sFull σ (sLev σ))) (va_up (sMany σ) (sLev σ) (sMany σ (sLev σ) + 1))
def waysP (tf : St → Rs) (base : Nat) : Nat → St → Rs
  | 0, σ => (9, σ)
  | g + 1, σ =>
    let r := tf (begP σ base)
    if r.1 = 0 then
      if 1 + (sLst r.2 (sLev r.2)).length + (sFull r.2 (sLev r.2)).length > 100 then (2, r.2)
      else nextP (waysP tf base g) (colP r.2)
    else if r.1 = 1 then nextP (waysP tf base g) r.2
    else r
/-- into a set's ways -/
def inP (σ : St) (m : Nat) : St := mkS (va_up (sIns σ) (sLev σ + 1) m) (sVal σ) (va_up (sTold σ) (sLev σ + 1) []) (sCome σ) (sFull σ) (va_up (sLst σ) (sLev σ + 1) []) (va_up (sMany σ) (sLev σ + 1) 0) (sLev σ + 1) (sLab σ) (sHeap σ) (sWn σ) (sWl σ)
def outP (σ : St) (base : Nat) : St := mkS (sIns σ) (sVal σ) (sTold σ) (sCome σ) (sFull σ) (sLst σ) (sMany σ) (sLev σ - 1) (sLab σ) ((sHeap σ).take base) (sWn σ) (sWl σ)
def keepP (σ : St) (n : Nat) : St := sv (wHeap σ (sHeap σ ++ (2, lN (sMany σ (sLev σ + 1))) :: sLst σ (sLev σ + 1))) n (some (.inr (.inr ((sHeap σ).length, 1 + (sLst σ (sLev σ + 1)).length))))
def goP (rec : Nat → St → Rs) (tf : St → Rs) (m n : Nat) : Nat → St → Rs
  | 0, σ => (9, σ)
  | g + 1, σ =>
    let r := waysP tf (sHeap σ).length 2001 (inP σ m)
    let σ1 := outP r.2 (sHeap σ).length
    if r.1 = 0 then (0, keepP σ1 n)
    else if r.1 = 4 ∧ sWl σ1 = sLev σ1 then bd (rec (sWn σ1) σ1) (goP rec tf m n g)
    else (r.1, σ1)
def wkP (rec : Nat → St → Rs) (f : Nat) (T : NT) (n : Nat) (σ : St) : Rs :=
  if tS T n = 0 then (0, sv σ n (some (.inl (tV T n))))
  else if tS T n = 1 then choP rec T n σ
  else if tS T n = 2 then (1, σ)
  else if tS T n = 3 then (0, sv σ n (some (.inr (.inl n))))
  else if tS T n = 4 then nAs rec pairO (tA T n) σ (fun p σ1 => tkP rec n (tA T p) σ1)
  else if tS T n = 5 then nAs rec pairO (tA T n) σ (fun p σ1 => tkP rec n (tB T p) σ1)
  else if tS T n = 6 then nAs rec numO (tA T n) σ (fun a σ1 => nAs rec numO (tB T n) σ1 (fun b σ2 => ansP σ2 n (reck (T.2.2.2.2.1 n) a b)))
  else if tS T n = 7 then nAs rec numO (tA T n) σ (fun v σ1 => tkP rec n (if v = 0 then tC T n else tB T n) σ1)
  else if tS T n = 8 then (if sLev σ = 5 then (2, σ) else goP rec (tfP rec T f (tA T n)) (tB T n) n 61 σ)
  else nAs rec listO (tA T n) σ (fun q σ1 => ansP σ1 n (foldT (T.2.2.2.1 n) (hsl (sHeap σ1) q.1 q.2)))
/-- a node's value is needed -/
def ndP (T : NT) : Nat → Nat → St → Rs
  | 0, _, σ => (9, σ)
  | f + 1, n, σ =>
    if (gv σ n).isSome then (0, σ)
    else if lvOf (sIns σ) n (sLev σ) < sLev σ then (4, wWant σ n (lvOf (sIns σ) n (sLev σ)))
    else if sLab σ = 2000 then (2, σ)
    else wkP (ndP T f) f T n (wLab σ (sLab σ + 1))
