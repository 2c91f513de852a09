/-! THE REFERENCE'S SEARCH: its picture -/
/-- what a step of its search may change, and cost -/
def MG (h : AH) (μ : KM) (h' : AH) (μ' : KM) : Prop :=
  (h.2.1 ≤ h'.2.1 ∧ h.2.2.1 ≤ h'.2.2.1 ∧ h.2.2.2 ≤ h'.2.2.2) ∧ (∀ x, x ≤ h.2.1 → (x < 65 ∨ 93 < x) → x ≠ μ.1 → x ≠ μ.2.1 → h'.1 x = h.1 x) ∧ ((μ'.1 = μ.1 ∨ h.2.1 < μ'.1) ∧ (μ'.2.1 = μ.2.1 ∨ h.2.1 < μ'.2.1)) ∧ (h'.2.2.1 + (72000 - μ'.2.2) ≤ h.2.2.1 + (72000 - μ.2.2) ∧ h'.2.2.2 + 4 * (72000 - μ'.2.2) ≤ h.2.2.2 + 4 * (72000 - μ.2.2))
theorem MG.rf (h : AH) (μ : KM) : MG h μ h μ := ⟨⟨Nat.le_refl _, Nat.le_refl _, Nat.le_refl _⟩, fun _ _ _ _ _ => rfl, ⟨Or.inl rfl, Or.inl rfl⟩, ⟨Nat.le_refl _, Nat.le_refl _⟩⟩
theorem MF.g {h h' : AH} {μ μ' : KM} {F F' : Nat → Value} {I I' : AI} {L L' : AL} (m : MF h μ F I L h' μ' F' I' L') : MG h μ h' μ' := ⟨m.1, m.2.1, m.2.2.1, m.2.2.2.1⟩
theorem MG.tr {h h1 h2 : AH} {μ μ1 μ2 : KM} (a : MG h μ h1 μ1) (b : MG h1 μ1 h2 μ2) : MG h μ h2 μ2 := by
  obtain ⟨⟨a1, a2, a3⟩, a4, ⟨a5, a6⟩, ⟨a7, a8⟩⟩ := a
  obtain ⟨⟨b1, b2, b3⟩, b4, ⟨b5, b6⟩, ⟨b7, b8⟩⟩ := b
  refine ⟨⟨by omega, by omega, by omega⟩, fun x hx hr n1 n2 => ?_, ⟨?_, ?_⟩, ⟨by omega, by omega⟩⟩
  · rw [b4 x (by omega) hr (by rcases a5 with q | q <;> omega) (by rcases a6 with q | q <;> omega), a4 x hx hr n1 n2]
  · rcases b5 with q | q
    · rw [q]; exact a5
    · exact Or.inr (by omega)
  · rcases b6 with q | q
    · rw [q]; exact a6
    · exact Or.inr (by omega)
theorem MG.s {h : AH} {μ : KM} {x : Nat} {c : AC} (hx : 65 ≤ x ∧ x ≤ 93) : MG h μ (hs h x c) μ := ⟨⟨Nat.le_refl _, Nat.le_refl _, Nat.le_refl _⟩, fun y _ hr _ _ => hs_ne (by omega), ⟨Or.inl rfl, Or.inl rfl⟩, ⟨Nat.le_refl _, Nat.le_refl _⟩⟩
def rfd (j : Nat) : Bool := rtab.all (fun p => p.1 != j) && j != 13 && j != 14
theorem FS.fd {μ : KM} {F : Nat → Value} (s : FS μ F) {j : Nat} (hj : rfd j = true) (v : Value) : FS μ (va_up F j v) := by
  unfold rfd at hj
  simp only [Bool.and_eq_true, List.all_eq_true, bne_iff_ne, ne_eq] at hj
  exact ⟨fun q hq => (up_ne (fun e => hj.1.1 q hq e)).trans (s.1 q hq), (up_ne (fun e => hj.1.2 e.symm)).trans s.2.1, (up_ne (fun e => hj.2 e.symm)).trans s.2.2⟩
/-- a field of its own changes, not one of the working out -/
theorem RMw.f {T : NT} {μ : KM} {F : Nat → Value} {I : AI} {L : AL} {h : AH} (r : RMw T μ F I L h) {j : Nat} (hj : rfd j = true) (h1 : j ≠ 1) (h7 : j < 7 ∨ 28 < j) (v : Value) : RMw T μ (va_up F j v) I L (hs h 65 (ob 8 (fo 53 (va_up F j v)))) := by
  obtain ⟨a1, a2, a3, a4⟩ := r
  exact ⟨a1.wF _, a2.fd hj v, ⟨(up_ne (Ne.symm h1)).trans a3.1, a3.2⟩, fun i hi => by obtain ⟨x, hx⟩ := a4 i hi; exact ⟨x, (up_ne (by omega)).trans hx⟩⟩
theorem RMw.i {T : NT} {μ : KM} {F : Nat → Value} {I : AI} {L : AL} {h : AH} (r : RMw T μ F I L h) {x n : Nat} (hx : (x, n) ∈ itab) (h7 : 70 < x) (f : Nat → Int32) : RMw T μ F (va_up I x f) L (hs h x (ia n f)) := by
  obtain ⟨a1, a2, a3, a4⟩ := r
  refine ⟨a1.wi hx f, a2, ⟨a3.1, fun i hi => ?_⟩, a4⟩
  rw [up_ne (by omega), up_ne (by omega), up_ne (by omega), up_ne (by omega)]
  exact a3.2 i hi
theorem RMw.l {T : NT} {μ : KM} {F : Nat → Value} {I : AI} {L : AL} {h : AH} (r : RMw T μ F I L h) {x n : Nat} (hx : (x, n) ∈ ltab) (h7 : 70 < x) (f : Nat → Int64) : RMw T μ F I (va_up L x f) (hs h x (la n f)) := by
  obtain ⟨a1, a2, a3, a4⟩ := r
  refine ⟨a1.wl hx f, a2, ⟨a3.1, fun i hi => ?_⟩, a4⟩
  rw [up_ne (by omega)]
  exact a3.2 i hi
def MRow (f : Nat → Int32) (b : Nat) (row : Row) : Prop := ∀ j, j < row.length → f (b + j) = if row.getD j false then 1 else 0
theorem MRow.fr {f g : Nat → Int32} {b : Nat} {row : Row} (m : MRow f b row) (e : ∀ j, j < row.length → g (b + j) = f (b + j)) : MRow g b row := fun j hj => (e j hj).trans (m j hj)
def QOp (op : List Row) (I : AI) : Prop := ∀ i, i < op.length → I 88 i = nI (op.reverse.getD i []).length ∧ MRow (I 87) (256 * i) (op.reverse.getD i [])
def QQu (qu : List Row) (gn : Nat) (I : AI) : Prop := ∀ i, i < qu.length → I 90 (gn + i) = nI (qu.getD i []).length ∧ MRow (I 89) (256 * (gn + i)) (qu.getD i [])
def QVa (ro : Row) (tk : List Tok) (I : AI) (L : AL) : Prop := MRow (I 91) 0 ro ∧ ∀ j, j < tk.length → I 92 j = (tk.getD j (0, 0)).1 ∧ L 93 j = (tk.getD j (0, 0)).2
def QF (Z : ZS) (F : Nat → Value) : Prop := F 29 = .int (bI (zTh Z)) ∧ F 30 = .int (bI (zSp Z)) ∧ F 31 = .int (nI (zGo Z)) ∧ F 32 = .int (nI (zMo Z)) ∧ F 33 = .int (nI (zBo Z)) ∧ F 34 = .int (nI (zWi Z)) ∧ F 37 = .int (nI (zOp Z).length) ∧ F 40 = .int (nI (zGn Z + (zQu Z).length)) ∧ F 41 = .int (nI (zGn Z)) ∧ F 42 = .int (nI (zPl Z)) ∧ F 43 = .int (nI (zVa Z)) ∧ F 44 = .int (nI (zFa Z)) ∧ F 45 = .int (nI (zGu Z)) ∧ F 46 = .int (nI (zCu Z)) ∧ F 47 = .int (nI (zLb Z)) ∧ F 48 = .int (nI (zRo Z).length) ∧ F 50 = .int (nI (zTk Z).length)
def RZ (t0 : Int32) (T : NT) (Z : ZS) (μ : KM) (F : Nat → Value) (I : AI) (L : AL) (h : AH) : Prop := RMw T μ F I L h ∧ F 0 = .int t0 ∧ QF Z F ∧ QOp (zOp Z) I ∧ QQu (zQu Z) (zGn Z) I ∧ QVa (zRo Z) (zTk Z) I L
/-- the bounds of a search of the reference -/
def ZI (T : NT) (Z : ZS) : Prop := zGo Z < tN T ∧ zMo Z ≤ 2 ∧ (1 ≤ zBo Z ∧ zBo Z ≤ 60) ∧ zPl Z ≤ 200 ∧ (∀ r ∈ zOp Z, rowOK T (zGo Z) r) ∧ (∀ r ∈ zQu Z, rowOK T (zGo Z) r) ∧ (zOp Z).length ≤ zPl Z + 1 ∧ zGn Z + (zQu Z).length ≤ 2 * zPl Z ∧ zWi Z ≤ 60
theorem QF.ev {Z : ZS} {F F' : Nat → Value} (q : QF Z F) (e : ∀ j, ¬ evf j → F' j = F j) : QF Z F' := by
  unfold QF at q ⊢
  have k : ∀ j, 28 < j → F' j = F j := fun j hj => e j (by unfold evf; omega)
  rw [k 29 (by decide), k 30 (by decide), k 31 (by decide), k 32 (by decide), k 33 (by decide), k 34 (by decide), k 37 (by decide), k 40 (by decide), k 41 (by decide), k 42 (by decide), k 43 (by decide), k 44 (by decide), k 45 (by decide), k 46 (by decide), k 47 (by decide), k 48 (by decide), k 50 (by decide)]
  exact q
theorem RZ.run {t0 : Int32} {T : NT} {Z : ZS} {μ μ' : KM} {F F' : Nat → Value} {I I' : AI} {L L' : AL} {h h' : AH} (r : RZ t0 T Z μ F I L h) (m : MF h μ F I L h' μ' F' I' L') (w : RMw T μ' F' I' L' h') : RZ t0 T Z μ' F' I' L' h' := by
  obtain ⟨-, a0, b, c, d, e⟩ := r
  obtain ⟨-, -, -, -, m1, m2⟩ := m
  refine ⟨w, (m1 0 (by unfold evf; omega)).trans a0, b.ev m1, ?_, ?_, ?_⟩
  · unfold QOp
    rw [(m2 87 (by omega)).1, (m2 88 (by omega)).1]
    exact c
  · unfold QQu
    rw [(m2 89 (by omega)).1, (m2 90 (by omega)).1]
    exact d
  · unfold QVa
    rw [(m2 91 (by omega)).1, (m2 92 (by omega)).1, (m2 93 (by omega)).2]
    exact e
theorem beg_st (t : Row) : begP (stP t) 0 = stP t := by
  unfold begP stP
  congr 1 <;> (funext k; by_cases e : k = 0 <;> simp [va_up, e, mkS])
theorem m_go {T : NT} {μ : KM} {F : Nat → Value} {I : AI} {L : AL} {h : AH} {d n : Nat} {row : Row} (hT : wfT T) (r : RMw T μ F I L h) (hn : n < tN T) (e31 : F 31 = .int (nI n)) (hr : row.length ≤ 60) (hb : MRow (I 78) 0 row) (hd : 612 ≤ d) : ∃ μ' F' I' L' h', CM mX8_go d [.ref 65, .int (nI row.length)] h none h' ∧ MF h μ F I L h' μ' F' I' L' ∧ RMr T (runP T n row) μ' F' I' L' h' := by
  have h60 := hT.1
  obtain ⟨mh, fs, rn, fi⟩ := r
  have A := j_X8_go_a_1 (d := d) (by omega) h (nI row.length) μ.1 μ.2.1 F mh.1 (fs.r (by decide)) 6 (I 71) (mh.i (by decide)) (show vp_in (nI 0) 6 from vp_in_nI (by decide) (by decide)) (fs.r (by decide)) 6 (I 79) (mh.i (by decide)) (show vp_in (nI 0) 6 from vp_in_nI (by decide) (by decide))
  have s := ((((((ST.rf mh).f (j := 7) (by unfold evf; omega) (.int 0)).i (x := 71) (n := 6) (by decide) (by decide) (upd (I 71) 0 0)).f (j := 25) (by unfold evf; omega) (.int 0)).f (j := 15) (by unfold evf; omega) (.int 0)).f (j := 26) (by unfold evf; omega) (.int 0)).i (x := 79) (n := 6) (by decide) (by decide) (upd (I 79) 0 (nI row.length))
  have n79 : va_up (va_up I 71 (upd (I 71) 0 0)) 79 (upd (I 79) 0 (nI row.length)) 79 = upd (I 79) 0 (nI row.length) := up_eq
  have n71 : va_up (va_up I 71 (upd (I 71) 0 0)) 79 (upd (I 79) 0 (nI row.length)) 71 = upd (I 71) 0 0 := by rw [up_ne (by decide), up_eq]
  have n78 : va_up (va_up I 71 (upd (I 71) 0 0)) 79 (upd (I 79) 0 (nI row.length)) 78 = I 78 := by rw [up_ne (by decide), up_ne (by decide)]
  have fs1 := (((fs.up (j := 7) (by omega) (.int 0)).up (j := 25) (by omega) (.int 0)).up (j := 15) (by omega) (.int 0)).up (j := 26) (by omega) (.int 0)
  have e27 := fi 27 (by omega)
  have e28 := fi 28 (by omega)
  have g7 : va_up (va_up (va_up (va_up F 7 (.int 0)) 25 (.int 0)) 15 (.int 0)) 26 (.int 0) 7 = .int 0 := (up_ne (by decide)).trans ((up_ne (by decide)).trans ((up_ne (by decide)).trans up_eq))
  have g25 : va_up (va_up (va_up (va_up F 7 (.int 0)) 25 (.int 0)) 15 (.int 0)) 26 (.int 0) 25 = .int 0 := (up_ne (by decide)).trans ((up_ne (by decide)).trans up_eq)
  have g15 : va_up (va_up (va_up (va_up F 7 (.int 0)) 25 (.int 0)) 15 (.int 0)) 26 (.int 0) 15 = .int 0 := (up_ne (by decide)).trans up_eq
  have g26 : va_up (va_up (va_up (va_up F 7 (.int 0)) 25 (.int 0)) 15 (.int 0)) 26 (.int 0) 26 = .int 0 := up_eq
  have gk : ∀ j, j ≠ 7 → j ≠ 25 → j ≠ 15 → j ≠ 26 → va_up (va_up (va_up (va_up F 7 (.int 0)) 25 (.int 0)) 15 (.int 0)) 26 (.int 0) j = F j := fun j a b c e => (up_ne e).trans ((up_ne c).trans ((up_ne b).trans (up_ne a)))
  have A2 : J false mX8_go d 0 [(0, .ref 65), (1, .int (nI row.length))] [] h 35 [(0, .ref 65), (1, .int (nI row.length))] [.ref 65] _ := A
  generalize va_up (va_up I 71 (upd (I 71) 0 0)) 79 (upd (I 79) 0 (nI row.length)) = I1 at s n79 n71 n78
  generalize va_up (va_up (va_up (va_up F 7 (.int 0)) 25 (.int 0)) 15 (.int 0)) 26 (.int 0) = F1 at s fs1 g7 g25 g15 g26 gk A2 A
  have rh : RMh T (stP row) 0 μ F1 I1 L _ := ⟨s.1, fs1, rn.mf s.2, ⟨⟨g7, ⟨_, g15⟩, g25⟩, fun k hk => (by
    have hk : k ≤ 0 := hk
    rw [show k = 0 by omega, n71, pk_us]
    exact ⟨rfl, by show 0 < 2 ^ 30; decide⟩), (fun k hk => absurd hk (Nat.not_lt_zero _)), (fun j hj => absurd hj (Nat.not_lt_zero _)), (fun k hk => absurd hk (Nat.not_lt_zero _)), ⟨by show I1 79 0 = _; rw [n79, pk_us]; rfl, by show row.length ≤ 300; omega, fun j hj => by show I1 78 (2001 * 0 + j) = _; rw [n78]; exact hb j hj⟩, (fun k hk => absurd hk (Nat.not_lt_zero _)), (fun k h0 hk => by have hk : k ≤ 0 := hk; omega), by show 0 < 6; decide⟩, g26, ⟨by rw [gk 27 (by decide) (by decide) (by decide) (by decide)]; exact e27, by rw [gk 28 (by decide) (by decide) (by decide) (by decide)]; exact e28⟩, Nat.zero_le _⟩
  obtain ⟨I2, h2, B, s2, mv⟩ := m_begin rh (d := d - 1)
  have mv := mv F1 rfl rfl g15
  rw [beg_st] at mv
  have rx : RMx T (stP row) 0 μ F1 I2 L h2 := ⟨s2.1, fs1, (rn.mf s.2).mf s2.2, mv, g26, rh.2.2.2.2.2.1, (fun q => by cases q), Nat.zero_le _⟩
  obtain ⟨μ3, F3, I3, L3, h3, C, m3, r3⟩ := m_tellFull (m_need hT 60) (nd_post hT 60) hT 60 n (by omega) (by omega) hn (stP row) μ F1 I2 L h2 (d - 1) (stP_pre T row) rx (by omega)
  have D := j_X8_go_b_1 (d := d) (Nat.zero_le _) h2 (nI row.length) 0 0 F1 s2.1.1 _ ((gk 31 (by decide) (by decide) (by decide) (by decide)).trans e31)
  exact ⟨μ3, F3, I3, L3, h3, E.st A2 (E.st (s_invv dX8_go_35 rfl lX8_187 (by omega) rfl (Nat.le_of_ble_eq_true rfl) rfl (Nat.le_of_ble_eq_true rfl) s.1.1 B (fun h => nomatch h)) (E.st D (E.st (s_invv dX8_go_43 rfl lX8_179 (by omega) rfl (Nat.le_of_ble_eq_true rfl) rfl (Nat.le_of_ble_eq_true rfl) s2.1.1 C (fun h => nomatch h)) (j_X8_go_c_1 (Nat.zero_le _) h3 (nI row.length) 0 0)))), (s.2.tr s2.2).tr m3, r3⟩
