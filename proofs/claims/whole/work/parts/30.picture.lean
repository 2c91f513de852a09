/-! THE CLASS'S PICTURE of the pure state -/
def wid (k : Nat) : Nat := if k = 0 then 20 else 23 + 7 * k
theorem wid_b {k : Nat} (h : k < 6) : 20 ≤ wid k ∧ wid k ≤ 58 ∧ (wid k = 20 ∨ 30 ≤ wid k) := by
  unfold wid
  split <;> omega
theorem wid_sep {j k : Nat} (h : j ≠ k) : wid j + 7 ≤ wid k ∨ wid k + 7 ≤ wid j := by
  unfold wid
  split <;> split <;> omega
theorem wid_inj {j k : Nat} (h : wid j = wid k) : j = k := by
  rcases Nat.lt_trichotomy j k with q | q | q
  · have := wid_sep (Nat.ne_of_lt q); omega
  · exact q
  · have := wid_sep (Nat.ne_of_lt q); omega
/-- a row of alternatives as a number -/
def bv : List Bool → Nat
  | [] => 0
  | b :: r => (if b then 1 else 0) + 2 * bv r
theorem bv_lt : ∀ l : List Bool, bv l < 2 ^ l.length
  | [] => by decide
  | b :: r => by
    have := bv_lt r
    simp only [bv, List.length_cons, Nat.pow_succ]
    split <;> omega
theorem bv_bit : ∀ (l : List Bool) (i : Nat), bv l / 2 ^ i % 2 = if l.getD i false then 1 else 0
  | [], i => by simp [bv]
  | b :: r, 0 => by
    simp only [bv, Nat.pow_zero, Nat.div_one, List.getD_cons_zero]
    split <;> omega
  | b :: r, i + 1 => by
    have ih := bv_bit r i
    have : bv (b :: r) / 2 ^ (i + 1) = bv r / 2 ^ i := by
      rw [Nat.pow_succ, Nat.mul_comm, ← Nat.div_div_eq_div_mul]
      congr 1
      simp only [bv]
      split <;> omega
    rw [this, ih, List.getD_cons_succ]
theorem bv_false : ∀ l : List Bool, bv (l ++ [false]) = bv l
  | [] => rfl
  | b :: r => by simp only [List.cons_append, bv, bv_false r]
def kV : Option Vl → Int32
  | none => -1
  | some (.inl _) => 0
  | some (.inr (.inl _)) => 1
  | some (.inr (.inr _)) => 2
def nV : Vl → Int64
  | .inl v => v
  | .inr (.inl p) => lN p
  | .inr (.inr q) => lN q.1
def lV : Vl → Int32
  | .inl _ => 1
  | .inr (.inl _) => 1
  | .inr (.inr q) => nI q.2
theorem kV_none {o : Option Vl} : kV o = -1 ↔ o = none := by
  match o with
  | none => exact ⟨fun _ => rfl, fun _ => rfl⟩
  | some (.inl _) => exact ⟨fun h => absurd h (by show ¬ (0 : Int32) = -1; decide), fun h => by cases h⟩
  | some (.inr (.inl _)) => exact ⟨fun h => absurd h (by show ¬ (1 : Int32) = -1; decide), fun h => by cases h⟩
  | some (.inr (.inr _)) => exact ⟨fun h => absurd h (by show ¬ (2 : Int32) = -1; decide), fun h => by cases h⟩
/-- of each row of tokens: its two arrays, how long they are -/
abbrev KP : Type := Nat → Nat × (Nat × Nat)
def TKk (κ : KP) (h : AH) (o lim : Nat) (ts : List Tok) : Prop := TK h o (κ o).1 (κ o).2.1 lim (κ o).2.2 ts
def RNd (T : NT) (h : AH) : Prop :=
  ∃ (F : Nat → Value) (f3 f4 f5 f6 : Nat → Int32) (f7 : Nat → Int64), h.1 2 = ob 2 (fo 6 F) ∧ (F 0 = .ref 3 ∧ F 1 = .ref 4 ∧ F 2 = .ref 5 ∧ F 3 = .ref 6 ∧ F 4 = .ref 7 ∧ F 5 = .int (nI (tN T))) ∧ (h.1 3 = ia 60 f3 ∧ h.1 4 = ia 60 f4 ∧ h.1 5 = ia 60 f5 ∧ h.1 6 = ia 60 f6 ∧ h.1 7 = la 60 f7) ∧ tN T ≤ 60 ∧ ∀ i, i < tN T → f3 i = tS T i ∧ f4 i = T.2.2.1 i ∧ f5 i = T.2.2.2.1 i ∧ f6 i = T.2.2.2.2.1 i ∧ (tS T i = 0 → f7 i = tV T i)
/-- a way's object -/
def RWo (k fi tb de mo vs li : Nat) (h : AH) : Prop :=
  ∃ F : Nat → Value, h.1 (wid k) = ob 5 (fo 12 F) ∧ F 0 = (if k = 0 then .null else .ref (wid (k - 1))) ∧ F 1 = (if k = 5 then .null else .ref (wid (k + 1))) ∧ F 2 = .int (nI fi) ∧ F 3 = .ref (wid k + 1) ∧ F 4 = .ref (wid k + 2) ∧ F 5 = .ref (wid k + 3) ∧ F 6 = .long (lN tb) ∧ F 7 = .int (nI de) ∧ F 8 = .int (nI mo) ∧ F 9 = .ref (wid k + 4) ∧ F 10 = .int (nI vs) ∧ F 11 = .int (nI li)
/-- what stands in the rows of a way that has never begun -/
def jx : Vl := .inr (.inr (0, 1099511627776))
/-- its values -/
def RWv (k : Nat) (v : Nat → Option Vl) (h : AH) : Prop :=
  ∃ (fk : Nat → Int32) (fn : Nat → Int64) (fl : Nat → Int32), h.1 (wid k + 1) = ia 60 fk ∧ h.1 (wid k + 2) = la 60 fn ∧ h.1 (wid k + 3) = ia 60 fl ∧ ∀ i, i < 60 → v i = some jx ∨ (fk i = kV (v i) ∧ ∀ x, v i = some x → fn i = nV x ∧ fl i = lV x)
def RWk (lev lab : Nat) (w : Int32 × (Int64 × (Int32 × (Int32 × Nat)))) (h : AH) : Prop :=
  ∃ F : Nat → Value, h.1 19 = ob 6 (fo 10 F) ∧ F 0 = .ref 2 ∧ F 1 = .ref 20 ∧ F 2 = .ref (wid lev) ∧ F 3 = .int (nI lab) ∧ F 4 = .ref 27 ∧ F 5 = .int w.1 ∧ F 6 = .long w.2.1 ∧ F 7 = .int w.2.2.1 ∧ F 8 = .int w.2.2.2.1 ∧ F 9 = .ref w.2.2.2.2
abbrev WR : Type := Int32 × (Int64 × (Int32 × (Int32 × Nat)))
/-- the tokens that a way holds, where its value begins, how many it has listed -/
def tkL (σ : St) (k : Nat) : List Tok := if k = 0 then sFull σ 0 else (2, lN (sMany σ k)) :: (sLst σ k ++ sFull σ k)
def vsL (σ : St) (k : Nat) : Nat := if k = 0 then 0 else 1 + (sLst σ k).length
def moL (σ : St) (k : Nat) : Nat := if k = 0 then (sTold σ 0).length else 60
/-- a way in use -/
def RWy (κ : KP) (σ : St) (k : Nat) (h : AH) : Prop :=
  ∃ li, RWo k (sIns σ k) (bv (sTold σ k)) (sCome σ k) (moL σ k) (vsL σ k) li h ∧ (k ≠ 0 → li = sMany σ k) ∧ (bv (sTold σ k) < 2 ^ 60 ∧ sIns σ k < 2 ^ 30) ∧ RWv k (sVal σ k) h ∧ TKk κ h (wid k + 4) 200 (tkL σ k)
/-- a way that is free -/
def RWf (κ : KP) (k : Nat) (h : AH) : Prop :=
  ∃ fi tb de mo vs li v ts, RWo k fi tb de mo vs li h ∧ RWv k v h ∧ TKk κ h (wid k + 4) 200 ts
def TE (o : Nat) : Prop := o = 27 ∨ ∃ k, k < 6 ∧ o = wid k + 4
def Sep (κ : KP) (h : AH) : Prop :=
  94 ≤ h.2.1 ∧ (∀ o, TE o → ((κ o).1 = o + 1 ∨ 94 < (κ o).1) ∧ ((κ o).2.1 = o + 2 ∨ 94 < (κ o).2.1) ∧ (κ o).1 ≤ h.2.1 ∧ (κ o).2.1 ≤ h.2.1) ∧ ∀ o o', TE o → TE o' → o ≠ o' → (κ o).1 ≠ (κ o').1 ∧ (κ o).2.1 ≠ (κ o').2.1
def RC (T : NT) (σ : St) (κ : KP) (w : WR) (h : AH) : Prop :=
  RNd T h ∧ RWk (sLev σ) (sLab σ) w h ∧ (∀ k, k ≤ sLev σ → RWy κ σ k h) ∧ (∀ k, sLev σ < k → k < 6 → RWf κ k h) ∧ TKk κ h 27 36000 (sHeap σ) ∧ Sep κ h ∧ sLev σ < 6 ∧ (sTold σ 0).length < 2 ^ 30
/-- frames of the parts -/
theorem RNd.fr {T : NT} {h h' : AH} (r : RNd T h) (e : ∀ x, 2 ≤ x → x ≤ 7 → h'.1 x = h.1 x) : RNd T h' := by
  obtain ⟨F, f3, f4, f5, f6, f7, a, b, ⟨c3, c4, c5, c6, c7⟩, d⟩ := r
  exact ⟨F, f3, f4, f5, f6, f7, (e 2 (by omega) (by omega)).trans a, b, ⟨(e 3 (by omega) (by omega)).trans c3, (e 4 (by omega) (by omega)).trans c4, (e 5 (by omega) (by omega)).trans c5, (e 6 (by omega) (by omega)).trans c6, (e 7 (by omega) (by omega)).trans c7⟩, d⟩
theorem RWo.fr {k fi tb de mo vs li : Nat} {h h' : AH} (r : RWo k fi tb de mo vs li h) (e : h'.1 (wid k) = h.1 (wid k)) : RWo k fi tb de mo vs li h' := by
  obtain ⟨F, a, b⟩ := r
  exact ⟨F, e.trans a, b⟩
theorem RWv.fr {k : Nat} {v : Nat → Option Vl} {h h' : AH} (r : RWv k v h) (e1 : h'.1 (wid k + 1) = h.1 (wid k + 1)) (e2 : h'.1 (wid k + 2) = h.1 (wid k + 2)) (e3 : h'.1 (wid k + 3) = h.1 (wid k + 3)) : RWv k v h' := by
  obtain ⟨fk, fn, fl, a, b, c, d⟩ := r
  exact ⟨fk, fn, fl, e1.trans a, e2.trans b, e3.trans c, d⟩
theorem RWk.fr {lev lab : Nat} {w : WR} {h h' : AH} (r : RWk lev lab w h) (e : h'.1 19 = h.1 19) : RWk lev lab w h' := by
  obtain ⟨F, a, b⟩ := r
  exact ⟨F, e.trans a, b⟩
/-- an address of the tokens' arrays is none of the others' -/
theorem Sep.a {κ : KP} {h : AH} (s : Sep κ h) {o : Nat} (ho : TE o) {x : Nat} (hx : x ≤ 94) (hn : x ≠ o + 1) : x ≠ (κ o).1 := by
  rcases (s.2.1 o ho).1 with q | q <;> omega
theorem Sep.b {κ : KP} {h : AH} (s : Sep κ h) {o : Nat} (ho : TE o) {x : Nat} (hx : x ≤ 94) (hn : x ≠ o + 2) : x ≠ (κ o).2.1 := by
  rcases (s.2.1 o ho).2.1 with q | q <;> omega
theorem TE27 : TE 27 := Or.inl rfl
theorem TEk {k : Nat} (h : k < 6) : TE (wid k + 4) := Or.inr ⟨k, h, rfl⟩
