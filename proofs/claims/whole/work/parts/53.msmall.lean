/-! the reference's small methods -/
def CNd (T : NT) (rec : Nat → St → Rs) (f : Nat) : Prop := ∀ (n : Nat) (σ : St) (μ : KM) (F : Nat → Value) (I : AI) (L : AL) (h : AH) (d : Nat), n < f → Pre T n σ → RMx T σ 0 μ F I L h → 10 * (n + 1) ≤ d → ∃ μ' F' I' L' h', CM mX8_need d [.ref 65, .int (nI n)] h none h' ∧ MF h μ F I L h' μ' F' I' L' ∧ RMr T (rec n σ) μ' F' I' L' h'
theorem MVa.agree {T : NT} {o : Option Vl} {k i : Nat} {I I' : AI} {L L' : AL} (m : MVa T o k i I L) (e1 : I' 72 (60 * k + i) = I 72 (60 * k + i)) (e2 : L' 73 (60 * k + i) = L 73 (60 * k + i)) (e3 : I' 74 (60 * k + i) = I 74 (60 * k + i)) (e4 : I' 75 (60 * k + i) = I 75 (60 * k + i)) : MVa T o k i I' L' := by
  unfold MVa at m ⊢
  rw [e1, e2, e3, e4]
  exact m
theorem MT.agree {t : List Bool} {c k : Nat} {I I' : AI} (m : MT t c k I) (e1 : I' 79 k = I 79 k) (e2 : I' 80 k = I 80 k) (e3 : ∀ j, j < 300 → I' 78 (2001 * k + j) = I 78 (2001 * k + j)) : MT t c k I' := by
  obtain ⟨a, b, c, d, e⟩ := m
  exact ⟨e1.trans a, e2.trans b, c, d, fun j hj => (e3 j (by omega)).trans (e j hj)⟩
theorem MFu.agree {ts : List Tok} {k : Nat} {I I' : AI} {L L' : AL} (m : MFu ts k I L) (e1 : I' 83 k = I 83 k) (e2 : ∀ j, j < 100 → I' 81 (100 * k + j) = I 81 (100 * k + j)) (e3 : ∀ j, j < 100 → L' 82 (100 * k + j) = L 82 (100 * k + j)) : MFu ts k I' L' := by
  obtain ⟨a, b, c⟩ := m
  exact ⟨e1.trans a, b, fun j hj => ⟨(e2 j (by omega)).trans (c j hj).1, (e3 j (by omega)).trans (c j hj).2⟩⟩
theorem MLs.agree {ts : List Tok} {k : Nat} {I I' : AI} {L L' : AL} (m : MLs ts k I L) (e1 : I' 86 k = I 86 k) (e2 : ∀ j, j < 100 → I' 84 (100 * k + j) = I 84 (100 * k + j)) (e3 : ∀ j, j < 100 → L' 85 (100 * k + j) = L 85 (100 * k + j)) : MLs ts k I' L' := by
  obtain ⟨a, b, c⟩ := m
  exact ⟨e1.trans a, b, fun j hj => ⟨(e2 j (by omega)).trans (c j hj).1, (e3 j (by omega)).trans (c j hj).2⟩⟩
theorem MHp.agree {hp : List Tok} {I I' : AI} {L L' : AL} (m : MHp hp I L) (e1 : I' 76 = I 76) (e2 : L' 77 = L 77) : MHp hp I' L' := by
  intro j hj
  rw [e1, e2]
  exact m j hj
/-- a value is laid down -/
theorem MV.sv {T : NT} {σ : St} {F : Nat → Value} {I I' : AI} {L L' : AL} {n : Nat} (m : MV T σ F I L) (hn : n < 60) (x : Vl) (hi : ∀ y, y ≠ 72 → y ≠ 74 → y ≠ 75 → I' y = I y) (hl : ∀ y, y ≠ 73 → L' y = L y) (h72 : ∀ j, j ≠ 60 * sLev σ + n → I' 72 j = I 72 j) (h73 : ∀ j, j ≠ 60 * sLev σ + n → L' 73 j = L 73 j) (h74 : ∀ j, j ≠ 60 * sLev σ + n → I' 74 j = I 74 j) (h75 : ∀ j, j ≠ 60 * sLev σ + n → I' 75 j = I 75 j) (hv : MVa T (some x) (sLev σ) n I' L') : MV T (sv σ n (some x)) F I' L' := by
  obtain ⟨v1, v2, v3, v4, v5, v6, v7, v8⟩ := m
  refine ⟨v1, fun k hk => by rw [hi 71 (by decide) (by decide) (by decide)]; exact v2 k hk, fun k hk i hi' => ?_, v4.agree (hi 76 (by decide) (by decide) (by decide)) (hl 77 (by decide)), fun k hk => (v5 k hk).agree (by rw [hi 79 (by decide) (by decide) (by decide)]) (by rw [hi 80 (by decide) (by decide) (by decide)]) (fun j _ => by rw [hi 78 (by decide) (by decide) (by decide)]), fun k hk => (v6 k hk).agree (by rw [hi 83 (by decide) (by decide) (by decide)]) (fun j _ => by rw [hi 81 (by decide) (by decide) (by decide)]) (fun j _ => by rw [hl 82 (by decide)]), fun k h0 hk => (v7 k h0 hk).agree (by rw [hi 86 (by decide) (by decide) (by decide)]) (fun j _ => by rw [hi 84 (by decide) (by decide) (by decide)]) (fun j _ => by rw [hl 85 (by decide)]), v8⟩
  have hk : k ≤ sLev σ := hk
  show MVa T (va_up (sVal σ) (sLev σ) (va_up (sVal σ (sLev σ)) n (some x)) k i) k i I' L'
  by_cases e : k = sLev σ
  · subst e
    rw [up_eq]
    by_cases e2 : i = n
    · subst e2
      rw [up_eq]
      exact hv
    · rw [up_ne e2]
      exact (v3 _ hk i hi').agree (h72 _ (by omega)) (h73 _ (by omega)) (h74 _ (by omega)) (h75 _ (by omega))
  · rw [up_ne e]
    exact (v3 _ hk i hi').agree (h72 _ (by omega)) (h73 _ (by omega)) (h74 _ (by omega)) (h75 _ (by omega))
theorem RMx.val {T : NT} {σ σ' : St} {μ : KM} {F : Nat → Value} {I I' : AI} {L L' : AL} {h h' : AH} (r : RMx T σ 0 μ F I L h) (s : ST h μ F I L h' μ F I' L') (mv : MV T σ' F I' L') (hl : (sHeap σ').length ≤ μ.2.2) : RMx T σ' 0 μ F I' L' h' ∧ MF h μ F I L h' μ F I' L' := by
  obtain ⟨a1, a2, a3, a4, a5, a6, a7, a8⟩ := r
  exact ⟨⟨s.1, a2, a3.mf s.2, mv, a5, a6, (fun q => by cases q), hl⟩, s.2⟩
theorem c_level {T : NT} {σ : St} {c : Nat} {μ : KM} {F : Nat → Value} {I : AI} {L : AL} {h : AH} (r : RMx T σ c μ F I L h) (h0 : sIns σ 0 = 0) {n : Nat} (hn : n < 2 ^ 30) {d : Nat} : CM mX8_levelOf d [.ref 65, .int (nI n)] h (some (.int (nI (lvOf (sIns σ) n (sLev σ))))) h := by
  obtain ⟨mh, fs, rn, ⟨⟨e7, e15, e25⟩, v2, -, -, -, -, -, v8⟩, -⟩ := r
  refine E.st (j_X8_levelOf_a_1 (d := d) (by omega) h (nI n) μ.1 μ.2.1 F mh.1 _ e7) ?_
  suffices H : ∀ j, j ≤ sLev σ → E false mX8_levelOf d 5 [(0, .ref 65), (1, .int (nI n)), (2, .int (nI j))] [] h (some (.int (nI (lvOf (sIns σ) n j)))) h from H _ (Nat.le_refl _)
  intro j
  induction j with
  | zero =>
    intro hj
    have vi : vp_in (nI 0) 6 := vp_in_nI (by decide) (by decide)
    exact j_X8_levelOf_b_1 (d := d) (by omega) h (nI n) (nI 0) μ.1 μ.2.1 F mh.1 (fs.r (by decide)) 6 (I 71) (mh.i (by decide)) (by assumption) (by rw [nI_clamp (by decide), (v2 0 hj).1, h0]; exact nI_pos' (by omega))
  | succ j ih =>
    intro hj
    have vi : vp_in (nI (j + 1)) 6 := vp_in_nI (by omega) (by decide)
    have cl : (nI (j + 1)).toNatClampNeg = j + 1 := nI_clamp (by omega)
    have hv := v2 (j + 1) hj
    unfold lvOf
    by_cases c : sIns σ (j + 1) ≤ n
    · rw [if_pos c]
      exact j_X8_levelOf_b_1 (d := d) (by omega) h (nI n) (nI (j + 1)) μ.1 μ.2.1 F mh.1 (fs.r (by decide)) 6 (I 71) (mh.i (by decide)) (by assumption) (by rw [cl, hv.1]; exact nI_le c (by omega))
    · rw [if_neg c]
      have B := j_X8_levelOf_b_2 (d := d) (by omega) h (nI n) (nI (j + 1)) μ.1 μ.2.1 F mh.1 (fs.r (by decide)) 6 (I 71) (mh.i (by decide)) (by assumption) (by rw [cl, hv.1]; exact nI_ge (by omega) (by have := hv.2; omega))
      rw [i_pm, nI_pred] at B
      exact E.st B (ih (by omega))
theorem c_cell {T : NT} {σ : St} {c : Nat} {μ : KM} {F : Nat → Value} {I : AI} {L : AL} {h : AH} (r : RMx T σ c μ F I L h) (h0 : sIns σ 0 = 0) {n : Nat} (hn : n < 2 ^ 30) {d : Nat} (hd : 3 ≤ d) : CM mX8_cellOf d [.ref 65, .int (nI n)] h (some (.int (nI (60 * lvOf (sIns σ) n (sLev σ) + n)))) h := by
  have B := j_X8_cellOf_a_1 (d := d) hd h (nI n) 0 0 F r.1.1 _ (c_level r h0 hn (d := 2))
  have e : (60 * nI (lvOf (sIns σ) n (sLev σ)) + nI n) = nI (60 * lvOf (sIns σ) n (sLev σ) + n) := by
    rw [show (60 : Int32) = nI 60 from rfl, pk_mul, nI_add]
  rw [e] at B
  exact B
theorem gv_pers {σ σ' : St} (f : Fr σ σ') {n : Nat} {x : Vl} (e : gv σ n = some x) : gv σ' n = some x := by
  unfold gv at e ⊢
  rw [f.1, lvOf_ext n f.2.1]
  have hl := lvOf_le (sIns σ) n (sLev σ)
  by_cases c : lvOf (sIns σ) n (sLev σ) = sLev σ
  · rw [c] at e ⊢
    exact f.2.2.2.2.1 n x e
  · rw [(f.2.2.1 _ (by omega)).1]
    exact e
/-- the cell of a value that is there -/
theorem RMx.cell {T : NT} {σ : St} {c : Nat} {μ : KM} {F : Nat → Value} {I : AI} {L : AL} {h : AH} (r : RMx T σ c μ F I L h) (hi : Inv T σ) (hT : wfT T) {n : Nat} (hn : n < tN T) : ∃ z, CM mX8_cellOf 3 [.ref 65, .int (nI n)] h (some (.int (nI z))) h ∧ z < 360 ∧ (nI z).toNatClampNeg = z ∧ vp_in (nI z) 360 ∧ MVal T (gv σ n) (I 72 z) (L 73 z) (I 74 z) (I 75 z) := by
  have h60 := hT.1
  have hl := lvOf_le (sIns σ) n (sLev σ)
  have h6 := r.2.2.2.1.2.2.2.2.2.2.2
  have hz : 60 * lvOf (sIns σ) n (sLev σ) + n < 360 := by omega
  exact ⟨_, c_cell r hi.1.2 (by omega) (Nat.le_refl _), hz, nI_clamp (by omega), vp_in_nI hz (by decide), r.2.2.2.1.2.2.1 _ hl n (by omega)⟩
theorem m_take {T : NT} {rec : Nat → St → Rs} {f n x : Nat} {σ : St} {μ : KM} {F : Nat → Value} {I : AI} {L : AL} {h : AH} {d : Nat} (HN : CNd T rec f) (R : RH T rec f) (hT : wfT T) (hx : x < f) (hn : n < 60) (hp : Pre T x σ) (r : RMx T σ 0 μ F I L h) (hd : 10 * (x + 1) + 1 ≤ d) : ∃ μ' F' I' L' h', CM mX8_take d [.ref 65, .int (nI (60 * sLev σ + n)), .int (nI x)] h none h' ∧ MF h μ F I L h' μ' F' I' L' ∧ RMr T (tkP rec n x σ) μ' F' I' L' h' := by
  have P := R x hx σ hp
  have h6 := r.2.2.2.1.2.2.2.2.2.2.2
  obtain ⟨μ1, F1, I1, L1, h1, c1, f1, r1⟩ := HN x σ μ F I L h (d - 1) hx hp r (by omega)
  have go : ∀ {h' : AH}, E false mX8_take d 5 [(0, .ref 65), (1, .int (nI (60 * sLev σ + n))), (2, .int (nI x))] [] h1 none h' → CM mX8_take d [.ref 65, .int (nI (60 * sLev σ + n)), .int (nI x)] h none h' := fun z => E.st (j_X8_take_a_1 (Nat.zero_le _) h (nI (60 * sLev σ + n)) (nI x) 0 0) (E.st (s_invv dX8_take_2 rfl lX8_168 (by omega) rfl (Nat.le_of_ble_eq_true rfl) rfl (Nat.le_of_ble_eq_true rfl) r.1.1 c1 (fun h => nomatch h)) z)
  unfold tkP
  by_cases z : (rec x σ).1 = 0
  · rw [bd_0 z]
    have r2 := r1.x z
    obtain ⟨p1, p2, p3, p4, p5, p6, p7, -⟩ := P
    obtain ⟨⟨y, gy⟩, -⟩ := p7 z
    obtain ⟨q, cq, hq, clq, vq, mq⟩ := r2.cell p3 hT hp.2.1
    obtain ⟨mh, fs, rn, mv, e26, -, -, hlen⟩ := id r2
    have hz : 60 * sLev σ + n < 360 := by omega
    have clz : (nI (60 * sLev σ + n)).toNatClampNeg = 60 * sLev σ + n := nI_clamp (by omega)
    have vz : vp_in (nI (60 * sLev σ + n)) 360 := vp_in_nI hz (by decide)
    have B := j_X8_take_b_1 (d := d) (by omega) h1 (nI (60 * sLev σ + n)) (nI x) μ1.1 μ1.2.1 F1 mh.1 _ e26 rfl _ (by assumption) (fs.r (by decide)) 360 (I1 72) (mh.i (by decide)) (by assumption) (by assumption) (fs.r (by decide)) 360 (L1 73) (mh.l (by decide)) (by assumption) (by assumption) (fs.r (by decide)) 360 (I1 74) (mh.i (by decide)) (by assumption) (by assumption) (fs.r (by decide)) 360 (I1 75) (mh.i (by decide)) (by assumption) (by assumption)
    rw [clz, clq] at B
    have s := ((((ST.rf mh).i (x := 72) (n := 360) (by decide) (by decide) (upd (I1 72) (60 * sLev σ + n) (I1 72 q))).l (x := 73) (n := 360) (by decide) (by decide) (vp_updL (L1 73) (60 * sLev σ + n) (L1 73 q))).i (x := 74) (n := 360) (by decide) (by decide) (upd (I1 74) (60 * sLev σ + n) (I1 74 q))).i (x := 75) (n := 360) (by decide) (by decide) (upd (I1 75) (60 * sLev σ + n) (I1 75 q))
    rw [gy] at mq ⊢
    have lv : sLev (rec x σ).2 = sLev σ := p2.1
    have mv' := mv.sv (n := n) hn y (I' := va_up (va_up (va_up I1 72 (upd (I1 72) (60 * sLev σ + n) (I1 72 q))) 74 (upd (I1 74) (60 * sLev σ + n) (I1 74 q))) 75 (upd (I1 75) (60 * sLev σ + n) (I1 75 q))) (L' := va_up L1 73 (vp_updL (L1 73) (60 * sLev σ + n) (L1 73 q))) (fun w a b c => by rw [up_ne c, up_ne b, up_ne a]) (fun w a => up_ne a) (fun j hj => by rw [lv] at hj; rw [up_ne (by decide), up_ne (by decide), up_eq, pk_un hj]) (fun j hj => by rw [lv] at hj; rw [up_eq, pk_uLn hj]) (fun j hj => by rw [lv] at hj; rw [up_ne (by decide), up_eq, pk_un hj]) (fun j hj => by rw [lv] at hj; rw [up_eq, pk_un hj]) (by
      unfold MVa
      rw [lv]
      simp only [up_eq, up_ne (show (72 : Nat) ≠ 75 by decide), up_ne (show (72 : Nat) ≠ 74 by decide), up_ne (show (74 : Nat) ≠ 75 by decide), pk_us, pk_uLs]
      exact mq)
    obtain ⟨x1, x2⟩ := r2.val s mv' hlen
    exact ⟨μ1, F1, _, _, _, go B, f1.tr x2, x1.r⟩
  · rw [bd_n z]
    obtain ⟨mh, -⟩ := r1.w
    exact ⟨μ1, F1, I1, L1, h1, go (j_X8_take_b_2 (Nat.zero_le _) h1 _ _ 0 0 F1 mh.1 _ r1.1 (fun q => z ((nI_eq (by have := P.1; omega) (by decide)).mp q))), f1, r1⟩
def kO : Option Vl → Int32
  | none => 0
  | some (.inl _) => 1
  | some (.inr (.inl _)) => 2
  | some (.inr (.inr _)) => 3
theorem MVal.k {T : NT} {o : Option Vl} {k : Int32} {nu : Int64} {a b : Int32} (m : MVal T o k nu a b) : k = kO o := by
  match o, m with
  | none, m => exact m
  | some (.inl _), m => exact m.1
  | some (.inr (.inl _)), m => exact m.1
  | some (.inr (.inr _)), m => exact m.1
/-- needed, as a thing of the kind k -/
theorem m_needAs {T : NT} {rec : Nat → St → Rs} {f x : Nat} {σ : St} {μ : KM} {F : Nat → Value} {I : AI} {L : AL} {h : AH} {d : Nat} (HN : CNd T rec f) (R : RH T rec f) (hT : wfT T) (hx : x < f) (hp : Pre T x σ) (r : RMx T σ 0 μ F I L h) (hd : 10 * (x + 1) + 1 ≤ d) (k : Int32) : ∃ μ' F' I' L' h', CM mX8_needAs d [.ref 65, .int (nI x), .int k] h none h' ∧ MF h μ F I L h' μ' F' I' L' ∧ (¬ (rec x σ).1 = 0 → RMr T (rec x σ) μ' F' I' L' h') ∧ ((rec x σ).1 = 0 → kO (gv (rec x σ).2 x) = k → RMx T (rec x σ).2 0 μ' F' I' L' h') ∧ ((rec x σ).1 = 0 → ¬ kO (gv (rec x σ).2 x) = k → RMx T (rec x σ).2 1 μ' F' I' L' h') := by
  have P := R x hx σ hp
  obtain ⟨μ1, F1, I1, L1, h1, c1, f1, r1⟩ := HN x σ μ F I L h (d - 1) hx hp r (by omega)
  obtain ⟨mh0, -⟩ := r.w
  have go : ∀ {h' : AH}, E false mX8_needAs d 5 [(0, .ref 65), (1, .int (nI x)), (2, .int k)] [] h1 none h' → CM mX8_needAs d [.ref 65, .int (nI x), .int k] h none h' := fun z => E.st (j_X8_needAs_a_1 (Nat.zero_le _) h (nI x) k 0 0) (E.st (s_invv dX8_needAs_2 rfl lX8_168 (by omega) rfl (Nat.le_of_ble_eq_true rfl) rfl (Nat.le_of_ble_eq_true rfl) mh0.1 c1 (fun h => nomatch h)) z)
  by_cases z : (rec x σ).1 = 0
  · have r2 := r1.x z
    obtain ⟨p1, p2, p3, -⟩ := P
    obtain ⟨q, cq, hq, clq, vq, mq⟩ := r2.cell p3 hT hp.2.1
    obtain ⟨mh, fs, rn, mv, e26, -⟩ := id r2
    have mk := mq.k
    by_cases e : kO (gv (rec x σ).2 x) = k
    · exact ⟨μ1, F1, I1, L1, h1, go (j_X8_needAs_b_2 (d := d) (by omega) h1 (nI x) k μ1.1 μ1.2.1 F1 mh.1 _ e26 rfl (fs.r (by decide)) _ (by assumption) 360 (I1 72) (mh.i (by decide)) (by assumption) (by rw [clq, mk, e])), f1, fun q => absurd z q, fun _ _ => r2, fun _ q => absurd e q⟩
    · have B := j_X8_needAs_b_3 (d := d) (by omega) h1 (nI x) k μ1.1 μ1.2.1 F1 mh.1 _ e26 rfl (fs.r (by decide)) _ (by assumption) 360 (I1 72) (mh.i (by decide)) (by assumption) (by rw [clq, mk]; exact e)
      obtain ⟨r3, f3⟩ := r2.stop 1 (by decide)
      exact ⟨μ1, _, I1, L1, _, go B, f1.tr f3, fun q => absurd z q, fun _ q => absurd q e, fun _ _ => r3⟩
  · obtain ⟨mh, -⟩ := r1.w
    exact ⟨μ1, F1, I1, L1, h1, go (j_X8_needAs_b_1 (Nat.zero_le _) h1 _ _ 0 0 F1 mh.1 _ r1.1 (fun q => z ((nI_eq (by have := P.1; omega) (by decide)).mp q))), f1, fun _ => r1, fun q => absurd q z, fun q => absurd q z⟩
