/-! THE REFERENCE'S PICTURE: one object, its arrays by numbers; the two arrays of its heap may be made anew -/
abbrev AI : Type := Nat → Nat → Int32
abbrev AL : Type := Nat → Nat → Int64
/-- the two arrays of its heap, how long they are -/
abbrev KM : Type := Nat × (Nat × Nat)
def rtab : List (Nat × Nat) := [(2, 66), (3, 67), (4, 68), (5, 69), (6, 70), (8, 71), (9, 72), (10, 73), (11, 74), (12, 75), (16, 78), (17, 79), (18, 80), (19, 81), (20, 82), (21, 83), (22, 84), (23, 85), (24, 86), (35, 87), (36, 88), (38, 89), (39, 90), (49, 91), (51, 92), (52, 93)]
def itab : List (Nat × Nat) := [(66, 60), (68, 60), (69, 60), (70, 60), (71, 6), (72, 360), (74, 360), (75, 360), (78, 12006), (79, 6), (80, 6), (81, 600), (83, 6), (84, 600), (86, 6), (87, 65536), (88, 256), (89, 131072), (90, 512), (91, 256), (92, 100)]
def ltab : List (Nat × Nat) := [(67, 60), (73, 360), (82, 600), (85, 600), (93, 100)]
theorem itab_fun : ∀ p ∈ itab, ∀ q ∈ itab, p.1 = q.1 → p.2 = q.2 := by decide
theorem ltab_fun : ∀ p ∈ ltab, ∀ q ∈ ltab, p.1 = q.1 → p.2 = q.2 := by decide
theorem itab_b : ∀ p ∈ itab, 65 < p.1 ∧ p.1 ≤ 93 ∧ p.1 ≠ 76 ∧ p.1 ≠ 77 := by decide
theorem ltab_b : ∀ p ∈ ltab, 65 < p.1 ∧ p.1 ≤ 93 ∧ p.1 ≠ 76 ∧ p.1 ≠ 77 := by decide
theorem il_ne : ∀ p ∈ itab, ∀ q ∈ ltab, p.1 ≠ q.1 := by decide
def MH (μ : KM) (F : Nat → Value) (I : AI) (L : AL) (h : AH) : Prop :=
  h.1 65 = ob 8 (fo 53 F) ∧ (∀ q ∈ itab, h.1 q.1 = ia q.2 (I q.1)) ∧ (∀ q ∈ ltab, h.1 q.1 = la q.2 (L q.1)) ∧ h.1 μ.1 = ia μ.2.2 (I 76) ∧ h.1 μ.2.1 = la μ.2.2 (L 77) ∧ (μ.1 = 76 ∨ 94 < μ.1) ∧ (μ.2.1 = 77 ∨ 94 < μ.2.1) ∧ μ.1 ≤ h.2.1 ∧ μ.2.1 ≤ h.2.1 ∧ 94 ≤ h.2.1 ∧ 1024 ≤ μ.2.2 ∧ μ.2.2 ≤ 72000
def FS (μ : KM) (F : Nat → Value) : Prop := (∀ q ∈ rtab, F q.1 = .ref q.2) ∧ F 13 = .ref μ.1 ∧ F 14 = .ref μ.2.1
theorem FS.r {μ : KM} {F : Nat → Value} (s : FS μ F) {a b : Nat} (h : (a, b) ∈ rtab) : F a = .ref b := s.1 _ h
theorem MH.i {μ : KM} {F : Nat → Value} {I : AI} {L : AL} {h : AH} (m : MH μ F I L h) {x n : Nat} (hx : (x, n) ∈ itab) : h.1 x = ia n (I x) := m.2.1 _ hx
theorem MH.l {μ : KM} {F : Nat → Value} {I : AI} {L : AL} {h : AH} (m : MH μ F I L h) {x n : Nat} (hx : (x, n) ∈ ltab) : h.1 x = la n (L x) := m.2.2.1 _ hx
theorem MH.mx {μ : KM} {F : Nat → Value} {I : AI} {L : AL} {h : AH} (m : MH μ F I L h) {x : Nat} (h1 : x ≤ 94) (h2 : x ≠ 76) : x ≠ μ.1 := by
  rcases m.2.2.2.2.2.1 with q | q <;> omega
theorem MH.my {μ : KM} {F : Nat → Value} {I : AI} {L : AL} {h : AH} (m : MH μ F I L h) {x : Nat} (h1 : x ≤ 94) (h2 : x ≠ 77) : x ≠ μ.2.1 := by
  rcases m.2.2.2.2.2.2.1 with q | q <;> omega
/-- a cell of its own changes -/
theorem MH.wF {μ : KM} {F : Nat → Value} {I : AI} {L : AL} {h : AH} (m : MH μ F I L h) (F' : Nat → Value) : MH μ F' I L (hs h 65 (ob 8 (fo 53 F'))) := by
  have hx := m.mx (x := 65) (by decide) (by decide)
  have hy := m.my (x := 65) (by decide) (by decide)
  obtain ⟨m1, m2, m3, m4, m5, m6⟩ := m
  exact ⟨hs_eq, fun q hq => (hs_ne (by have := itab_b q hq; omega)).trans (m2 q hq), fun q hq => (hs_ne (by have := ltab_b q hq; omega)).trans (m3 q hq), (hs_ne (Ne.symm hx)).trans m4, (hs_ne (Ne.symm hy)).trans m5, m6⟩
theorem MH.wi {μ : KM} {F : Nat → Value} {I : AI} {L : AL} {h : AH} (m : MH μ F I L h) {x n : Nat} (hx : (x, n) ∈ itab) (f : Nat → Int32) : MH μ F (va_up I x f) L (hs h x (ia n f)) := by
  have b := itab_b _ hx
  have nx := m.mx (x := x) (by omega) b.2.2.1
  have ny := m.my (x := x) (by omega) b.2.2.2
  obtain ⟨m1, m2, m3, m4, m5, m6⟩ := m
  have b1 : 65 < x := b.1
  have b3 : x ≠ 76 := b.2.2.1
  refine ⟨(hs_ne (by omega)).trans m1, fun q hq => ?_, fun q hq => (hs_ne (Ne.symm (il_ne _ hx q hq))).trans (m3 q hq), (hs_ne (Ne.symm nx)).trans (by rw [m4, up_ne (Ne.symm b3)]), (hs_ne (Ne.symm ny)).trans m5, m6⟩
  by_cases e : q.1 = x
  · have := itab_fun q hq _ hx e
    have : q.2 = n := this
    rw [e, this, up_eq]
    exact hs_eq
  · rw [up_ne e]
    exact (hs_ne e).trans (m2 q hq)
theorem MH.wl {μ : KM} {F : Nat → Value} {I : AI} {L : AL} {h : AH} (m : MH μ F I L h) {x n : Nat} (hx : (x, n) ∈ ltab) (f : Nat → Int64) : MH μ F I (va_up L x f) (hs h x (la n f)) := by
  have b := ltab_b _ hx
  have nx := m.mx (x := x) (by omega) b.2.2.1
  have ny := m.my (x := x) (by omega) b.2.2.2
  obtain ⟨m1, m2, m3, m4, m5, m6⟩ := m
  have b1 : 65 < x := b.1
  have b3 : x ≠ 77 := b.2.2.2
  refine ⟨(hs_ne (by omega)).trans m1, fun q hq => (hs_ne (il_ne q hq _ hx)).trans (m2 q hq), fun q hq => ?_, (hs_ne (Ne.symm nx)).trans m4, (hs_ne (Ne.symm ny)).trans (by rw [m5, up_ne (Ne.symm b3)]), m6⟩
  by_cases e : q.1 = x
  · have := ltab_fun q hq _ hx e
    have : q.2 = n := this
    rw [e, this, up_eq]
    exact hs_eq
  · rw [up_ne e]
    exact (hs_ne e).trans (m3 q hq)
theorem MH.wk {μ : KM} {F : Nat → Value} {I : AI} {L : AL} {h : AH} (m : MH μ F I L h) (f : Nat → Int32) : MH μ F (va_up I 76 f) L (hs h μ.1 (ia μ.2.2 f)) := by
  have n65 := m.mx (x := 65) (by decide) (by decide)
  have hi : ∀ q ∈ itab, q.1 ≠ μ.1 := fun q hq => m.mx (by have := itab_b q hq; omega) (itab_b q hq).2.2.1
  have hl : ∀ q ∈ ltab, q.1 ≠ μ.1 := fun q hq => m.mx (by have := ltab_b q hq; omega) (ltab_b q hq).2.2.1
  obtain ⟨m1, m2, m3, m4, m5, m6⟩ := m
  exact ⟨(hs_ne n65).trans m1, fun q hq => by rw [up_ne (itab_b q hq).2.2.1]; exact (hs_ne (hi q hq)).trans (m2 q hq), fun q hq => (hs_ne (hl q hq)).trans (m3 q hq), by rw [up_eq]; exact hs_eq, (hs_ne (Ne.symm (ne_il m4 m5))).trans m5, m6⟩
theorem MH.wh {μ : KM} {F : Nat → Value} {I : AI} {L : AL} {h : AH} (m : MH μ F I L h) (f : Nat → Int64) : MH μ F I (va_up L 77 f) (hs h μ.2.1 (la μ.2.2 f)) := by
  have n65 := m.my (x := 65) (by decide) (by decide)
  have hi : ∀ q ∈ itab, q.1 ≠ μ.2.1 := fun q hq => m.my (by have := itab_b q hq; omega) (itab_b q hq).2.2.2
  have hl : ∀ q ∈ ltab, q.1 ≠ μ.2.1 := fun q hq => m.my (by have := ltab_b q hq; omega) (ltab_b q hq).2.2.2
  obtain ⟨m1, m2, m3, m4, m5, m6⟩ := m
  exact ⟨(hs_ne n65).trans m1, fun q hq => (hs_ne (hi q hq)).trans (m2 q hq), fun q hq => by rw [up_ne (ltab_b q hq).2.2.2]; exact (hs_ne (hl q hq)).trans (m3 q hq), (hs_ne (ne_il m4 m5)).trans m4, by rw [up_eq]; exact hs_eq, m6⟩
def evf (j : Nat) : Prop := j = 7 ∨ j = 13 ∨ j = 14 ∨ j = 15 ∨ (25 ≤ j ∧ j ≤ 28)
/-- what the working out may change, and cost -/
def MF (h : AH) (μ : KM) (F : Nat → Value) (I : AI) (L : AL) (h' : AH) (μ' : KM) (F' : Nat → Value) (I' : AI) (L' : AL) : Prop :=
  (h.2.1 ≤ h'.2.1 ∧ h.2.2.1 ≤ h'.2.2.1 ∧ h.2.2.2 ≤ h'.2.2.2) ∧ (∀ x, x ≤ h.2.1 → (x < 65 ∨ 93 < x) → x ≠ μ.1 → x ≠ μ.2.1 → h'.1 x = h.1 x) ∧ ((μ'.1 = μ.1 ∨ h.2.1 < μ'.1) ∧ (μ'.2.1 = μ.2.1 ∨ h.2.1 < μ'.2.1)) ∧
  (h'.2.2.1 + (72000 - μ'.2.2) ≤ h.2.2.1 + (72000 - μ.2.2) ∧ h'.2.2.2 + 4 * (72000 - μ'.2.2) ≤ h.2.2.2 + 4 * (72000 - μ.2.2)) ∧ (∀ j, ¬ evf j → F' j = F j) ∧ ∀ x, (x < 71 ∨ 86 < x) → I' x = I x ∧ L' x = L x
theorem MF.rf (h : AH) (μ : KM) (F : Nat → Value) (I : AI) (L : AL) : MF h μ F I L h μ F I L := ⟨⟨Nat.le_refl _, Nat.le_refl _, Nat.le_refl _⟩, fun _ _ _ _ _ => rfl, ⟨Or.inl rfl, Or.inl rfl⟩, ⟨Nat.le_refl _, Nat.le_refl _⟩, fun _ _ => rfl, fun _ _ => ⟨rfl, rfl⟩⟩
theorem MF.tr {h h1 h2 : AH} {μ μ1 μ2 : KM} {F F1 F2 : Nat → Value} {I I1 I2 : AI} {L L1 L2 : AL} (a : MF h μ F I L h1 μ1 F1 I1 L1) (b : MF h1 μ1 F1 I1 L1 h2 μ2 F2 I2 L2) : MF h μ F I L h2 μ2 F2 I2 L2 := by
  obtain ⟨⟨a1, a2, a3⟩, a4, ⟨a5, a6⟩, ⟨a7, a8⟩, a9, a10⟩ := a
  obtain ⟨⟨b1, b2, b3⟩, b4, ⟨b5, b6⟩, ⟨b7, b8⟩, b9, b10⟩ := b
  refine ⟨⟨by omega, by omega, by omega⟩, fun x hx hr n1 n2 => ?_, ⟨?_, ?_⟩, ⟨by omega, by omega⟩, fun j hj => (b9 j hj).trans (a9 j hj), fun x hx => ⟨(b10 x hx).1.trans (a10 x hx).1, (b10 x hx).2.trans (a10 x hx).2⟩⟩
  · rw [b4 x (by omega) hr (by rcases a5 with q | q <;> omega) (by rcases a6 with q | q <;> omega), a4 x hx hr n1 n2]
  · rcases b5 with q | q
    · rw [q]; exact a5
    · exact Or.inr (by omega)
  · rcases b6 with q | q
    · rw [q]; exact a6
    · exact Or.inr (by omega)
/-- steps, one behind the other -/
def ST (h : AH) (μ : KM) (F : Nat → Value) (I : AI) (L : AL) (h' : AH) (μ' : KM) (F' : Nat → Value) (I' : AI) (L' : AL) : Prop := MH μ' F' I' L' h' ∧ MF h μ F I L h' μ' F' I' L'
theorem ST.rf {h : AH} {μ : KM} {F : Nat → Value} {I : AI} {L : AL} (m : MH μ F I L h) : ST h μ F I L h μ F I L := ⟨m, MF.rf h μ F I L⟩
theorem ST.f {h0 h : AH} {μ0 μ : KM} {F0 F : Nat → Value} {I0 I : AI} {L0 L : AL} (s : ST h0 μ0 F0 I0 L0 h μ F I L) {j : Nat} (hj : evf j) (v : Value) : ST h0 μ0 F0 I0 L0 (hs h 65 (ob 8 (fo 53 (va_up F j v)))) μ (va_up F j v) I L :=
  ⟨s.1.wF _, s.2.tr ⟨⟨Nat.le_refl _, Nat.le_refl _, Nat.le_refl _⟩, fun x _ hr _ _ => hs_ne (by omega), ⟨Or.inl rfl, Or.inl rfl⟩, ⟨Nat.le_refl _, Nat.le_refl _⟩, fun i hi => up_ne (fun e => hi (by rw [e]; exact hj)), fun _ _ => ⟨rfl, rfl⟩⟩⟩
theorem ST.i {h0 h : AH} {μ0 μ : KM} {F0 F : Nat → Value} {I0 I : AI} {L0 L : AL} (s : ST h0 μ0 F0 I0 L0 h μ F I L) {x n : Nat} (hx : (x, n) ∈ itab) (hb : 71 ≤ x ∧ x ≤ 86) (f : Nat → Int32) : ST h0 μ0 F0 I0 L0 (hs h x (ia n f)) μ F (va_up I x f) L :=
  ⟨s.1.wi hx f, s.2.tr ⟨⟨Nat.le_refl _, Nat.le_refl _, Nat.le_refl _⟩, fun y _ hr _ _ => hs_ne (by omega), ⟨Or.inl rfl, Or.inl rfl⟩, ⟨Nat.le_refl _, Nat.le_refl _⟩, fun i hi => rfl, fun y hy => ⟨up_ne (by omega), rfl⟩⟩⟩
theorem ST.l {h0 h : AH} {μ0 μ : KM} {F0 F : Nat → Value} {I0 I : AI} {L0 L : AL} (s : ST h0 μ0 F0 I0 L0 h μ F I L) {x n : Nat} (hx : (x, n) ∈ ltab) (hb : 71 ≤ x ∧ x ≤ 86) (f : Nat → Int64) : ST h0 μ0 F0 I0 L0 (hs h x (la n f)) μ F I (va_up L x f) :=
  ⟨s.1.wl hx f, s.2.tr ⟨⟨Nat.le_refl _, Nat.le_refl _, Nat.le_refl _⟩, fun y _ hr _ _ => hs_ne (by omega), ⟨Or.inl rfl, Or.inl rfl⟩, ⟨Nat.le_refl _, Nat.le_refl _⟩, fun i hi => rfl, fun y hy => ⟨rfl, up_ne (by omega)⟩⟩⟩
theorem ST.k {h0 h : AH} {μ0 μ : KM} {F0 F : Nat → Value} {I0 I : AI} {L0 L : AL} (s : ST h0 μ0 F0 I0 L0 h μ F I L) (f : Nat → Int32) : ST h0 μ0 F0 I0 L0 (hs h μ.1 (ia μ.2.2 f)) μ F (va_up I 76 f) L :=
  ⟨s.1.wk f, s.2.tr ⟨⟨Nat.le_refl _, Nat.le_refl _, Nat.le_refl _⟩, fun y _ hr n1 _ => hs_ne n1, ⟨Or.inl rfl, Or.inl rfl⟩, ⟨Nat.le_refl _, Nat.le_refl _⟩, fun i hi => rfl, fun y hy => ⟨up_ne (by omega), rfl⟩⟩⟩
theorem ST.h {h0 h : AH} {μ0 μ : KM} {F0 F : Nat → Value} {I0 I : AI} {L0 L : AL} (s : ST h0 μ0 F0 I0 L0 h μ F I L) (f : Nat → Int64) : ST h0 μ0 F0 I0 L0 (hs h μ.2.1 (la μ.2.2 f)) μ F I (va_up L 77 f) :=
  ⟨s.1.wh f, s.2.tr ⟨⟨Nat.le_refl _, Nat.le_refl _, Nat.le_refl _⟩, fun y _ hr _ n2 => hs_ne n2, ⟨Or.inl rfl, Or.inl rfl⟩, ⟨Nat.le_refl _, Nat.le_refl _⟩, fun i hi => rfl, fun y hy => ⟨rfl, up_ne (by omega)⟩⟩⟩
theorem rtab_n : ∀ p ∈ rtab, ¬ evf p.1 := by unfold evf; decide
theorem FS.up {μ : KM} {F : Nat → Value} (s : FS μ F) {j : Nat} (hj : j = 7 ∨ j = 15 ∨ (25 ≤ j ∧ j ≤ 28)) (v : Value) : FS μ (va_up F j v) := ⟨fun q hq => (up_ne (fun e => rtab_n q hq (by rw [e]; unfold evf; omega))).trans (s.1 q hq), (up_ne (by omega)).trans s.2.1, (up_ne (by omega)).trans s.2.2⟩
/-- its nodes -/
def RNm (T : NT) (F : Nat → Value) (I : AI) (L : AL) : Prop := F 1 = .int (nI (tN T)) ∧ ∀ i, i < tN T → I 66 i = tS T i ∧ I 68 i = T.2.2.1 i ∧ I 69 i = T.2.2.2.1 i ∧ I 70 i = T.2.2.2.2.1 i ∧ (tS T i = 0 → L 67 i = tV T i)
theorem RNm.mf {T : NT} {h h' : AH} {μ μ' : KM} {F F' : Nat → Value} {I I' : AI} {L L' : AL} (r : RNm T F I L) (m : MF h μ F I L h' μ' F' I' L') : RNm T F' I' L' := by
  obtain ⟨-, -, -, -, m1, m2⟩ := m
  refine ⟨(m1 1 (by unfold evf; omega)).trans r.1, fun i hi => ?_⟩
  rw [(m2 66 (by omega)).1, (m2 68 (by omega)).1, (m2 69 (by omega)).1, (m2 70 (by omega)).1, (m2 67 (by omega)).2]
  exact r.2 i hi
def MVal (T : NT) (o : Option Vl) (k : Int32) (nu : Int64) (a b : Int32) : Prop :=
  match o with
  | none => k = 0
  | some (.inl v) => k = 1 ∧ nu = v
  | some (.inr (.inl p)) => k = 2 ∧ a = T.2.2.1 p ∧ b = T.2.2.2.1 p
  | some (.inr (.inr q)) => k = 3 ∧ nu = lN q.1
/-- the value of the node i at level k -/
def MVa (T : NT) (o : Option Vl) (k i : Nat) (I : AI) (L : AL) : Prop := MVal T o (I 72 (60 * k + i)) (L 73 (60 * k + i)) (I 74 (60 * k + i)) (I 75 (60 * k + i))
def MT (told : List Bool) (come k : Nat) (I : AI) : Prop := I 79 k = nI told.length ∧ I 80 k = nI come ∧ told.length ≤ 300 ∧ come ≤ told.length ∧ ∀ j, j < told.length → I 78 (2001 * k + j) = if told.getD j false then 1 else 0
def MFu (ts : List Tok) (k : Nat) (I : AI) (L : AL) : Prop := I 83 k = nI ts.length ∧ ts.length ≤ 100 ∧ ∀ j, j < ts.length → I 81 (100 * k + j) = (ts.getD j (0, 0)).1 ∧ L 82 (100 * k + j) = (ts.getD j (0, 0)).2
def MLs (ts : List Tok) (k : Nat) (I : AI) (L : AL) : Prop := I 86 k = nI ts.length ∧ ts.length ≤ 99 ∧ ∀ j, j < ts.length → I 84 (100 * k + j) = (ts.getD j (0, 0)).1 ∧ L 85 (100 * k + j) = (ts.getD j (0, 0)).2
def MHp (hp : List Tok) (I : AI) (L : AL) : Prop := ∀ j, j < hp.length → I 76 j = (hp.getD j (0, 0)).1 ∧ L 77 j = (hp.getD j (0, 0)).2
def MV (T : NT) (σ : St) (F : Nat → Value) (I : AI) (L : AL) : Prop :=
  (F 7 = .int (nI (sLev σ)) ∧ F 15 = .int (nI (sHeap σ).length) ∧ F 25 = .int (nI (sLab σ))) ∧ (∀ k, k ≤ sLev σ → I 71 k = nI (sIns σ k) ∧ sIns σ k < 2 ^ 30) ∧ (∀ k, k ≤ sLev σ → ∀ i, i < 60 → MVa T (sVal σ k i) k i I L) ∧ MHp (sHeap σ) I L ∧ (∀ k, k ≤ sLev σ → MT (sTold σ k) (sCome σ k) k I) ∧ (∀ k, k ≤ sLev σ → MFu (sFull σ k) k I L) ∧ (∀ k, 0 < k → k ≤ sLev σ → MLs (sLst σ k) k I L) ∧ sLev σ < 6
def RMx (T : NT) (σ : St) (c : Nat) (μ : KM) (F : Nat → Value) (I : AI) (L : AL) (h : AH) : Prop :=
  MH μ F I L h ∧ FS μ F ∧ RNm T F I L ∧ MV T σ F I L ∧ F 26 = .int (nI c) ∧ ((∃ a, F 27 = .int a) ∧ ∃ b, F 28 = .int b) ∧ (c = 4 → F 27 = .int (nI (sWn σ)) ∧ F 28 = .int (nI (sWl σ))) ∧ (sHeap σ).length ≤ μ.2.2
def RMw (T : NT) (μ : KM) (F : Nat → Value) (I : AI) (L : AL) (h : AH) : Prop :=
  MH μ F I L h ∧ FS μ F ∧ RNm T F I L ∧ ∀ j, j = 7 ∨ j = 15 ∨ (25 ≤ j ∧ j ≤ 28) → ∃ a, F j = .int a
def RMr (T : NT) (r : Rs) (μ : KM) (F : Nat → Value) (I : AI) (L : AL) (h : AH) : Prop := F 26 = .int (nI r.1) ∧ (r.1 = 2 → RMw T μ F I L h) ∧ (r.1 ≠ 2 → RMx T r.2 r.1 μ F I L h)
theorem RMx.w {T : NT} {σ : St} {c : Nat} {μ : KM} {F : Nat → Value} {I : AI} {L : AL} {h : AH} (r : RMx T σ c μ F I L h) : RMw T μ F I L h := by
  obtain ⟨a1, a2, a3, ⟨⟨v1, v2, v3⟩, -⟩, a5, ⟨a6, a7⟩, -⟩ := r
  refine ⟨a1, a2, a3, fun j hj => ?_⟩
  rcases hj with rfl | rfl | hj
  · exact ⟨_, v1⟩
  · exact ⟨_, v2⟩
  · have : j = 25 ∨ j = 26 ∨ j = 27 ∨ j = 28 := by omega
    rcases this with rfl | rfl | rfl | rfl
    · exact ⟨_, v3⟩
    · exact ⟨_, a5⟩
    · exact a6
    · exact a7
theorem RMx.r {T : NT} {σ : St} {c : Nat} {μ : KM} {F : Nat → Value} {I : AI} {L : AL} {h : AH} (r : RMx T σ c μ F I L h) : RMr T (c, σ) μ F I L h := ⟨r.2.2.2.2.1, fun _ => r.w, fun _ => r⟩
theorem RMr.w {T : NT} {r : Rs} {μ : KM} {F : Nat → Value} {I : AI} {L : AL} {h : AH} (m : RMr T r μ F I L h) : RMw T μ F I L h := by
  by_cases e : r.1 = 2
  · exact m.2.1 e
  · exact (m.2.2 e).w
theorem RMr.x {T : NT} {r : Rs} {μ : KM} {F : Nat → Value} {I : AI} {L : AL} {h : AH} (m : RMr T r μ F I L h) (e : r.1 = 0) : RMx T r.2 0 μ F I L h := by
  have := m.2.2 (by rw [e]; decide)
  rw [e] at this
  exact this
/-- a field of its own changes: the stop -/
theorem RMx.stop {T : NT} {σ : St} {c : Nat} {μ : KM} {F : Nat → Value} {I : AI} {L : AL} {h : AH} (r : RMx T σ c μ F I L h) (c' : Nat) (h4 : c' ≠ 4) : RMx T σ c' μ (va_up F 26 (.int (nI c'))) I L (hs h 65 (ob 8 (fo 53 (va_up F 26 (.int (nI c')))))) ∧ MF h μ F I L (hs h 65 (ob 8 (fo 53 (va_up F 26 (.int (nI c')))))) μ (va_up F 26 (.int (nI c'))) I L := by
  obtain ⟨a1, a2, a3, ⟨⟨v1, v2, v3⟩, v4⟩, a5, ⟨⟨x6, a6⟩, x7, a7⟩, -, a8⟩ := r
  obtain ⟨s1, s2⟩ := (ST.rf a1).f (j := 26) (by unfold evf; omega) (.int (nI c'))
  exact ⟨⟨s1, a2.up (by omega) _, a3.mf s2, ⟨⟨(up_ne (by decide)).trans v1, (up_ne (by decide)).trans v2, (up_ne (by decide)).trans v3⟩, v4⟩, up_eq, ⟨⟨x6, (up_ne (by decide)).trans a6⟩, x7, (up_ne (by decide)).trans a7⟩, fun e => absurd e h4, a8⟩, s2⟩
theorem RMw.stop {T : NT} {μ : KM} {F : Nat → Value} {I : AI} {L : AL} {h : AH} (r : RMw T μ F I L h) {j : Nat} (hj : j = 7 ∨ j = 15 ∨ (25 ≤ j ∧ j ≤ 28)) (c : Int32) : RMw T μ (va_up F j (.int c)) I L (hs h 65 (ob 8 (fo 53 (va_up F j (.int c))))) ∧ MF h μ F I L (hs h 65 (ob 8 (fo 53 (va_up F j (.int c))))) μ (va_up F j (.int c)) I L := by
  obtain ⟨a1, a2, a3, a4⟩ := r
  obtain ⟨s1, s2⟩ := (ST.rf a1).f (j := j) (by unfold evf; omega) (.int c)
  refine ⟨⟨s1, a2.up hj _, a3.mf s2, fun i hi => ?_⟩, s2⟩
  by_cases e : i = j
  · subst e; exact ⟨c, up_eq⟩
  · obtain ⟨x, hx⟩ := a4 i hi
    exact ⟨x, (up_ne e).trans hx⟩
