/-! node, ask, next, decision, token, count: both sides -/
def isN : String := "java/lang/IllegalStateException"
def nvl (T : NT) (a : Nat) (b : Int32) : Int32 := if b = 0 then tS T a else if b = 1 then T.2.2.1 a else if b = 2 then T.2.2.2.1 a else T.2.2.2.2.1 a
theorem i_le {b : Int32} {k : Nat} (h : ¬ b < 0) (h2 : b ≤ nI k) (hk : k < 2 ^ 31) : b = nI b.toNatClampNeg ∧ b.toNatClampNeg ≤ k := by
  obtain ⟨e, l⟩ := i_nn h
  refine ⟨e, ?_⟩
  rw [e, nI_leI l hk] at h2
  exact h2
theorem i_03 {b : Int32} (h : ¬ b < 0) (h2 : b ≤ 3) : b = 0 ∨ b = 1 ∨ b = 2 ∨ b = 3 := by
  obtain ⟨e, l⟩ := i_le h (show b ≤ nI 3 from h2) (by decide)
  have : b.toNatClampNeg = 0 ∨ b.toNatClampNeg = 1 ∨ b.toNatClampNeg = 2 ∨ b.toNatClampNeg = 3 := by omega
  rcases this with q | q | q | q <;> rw [q] at e
  · exact Or.inl e
  · exact Or.inr (Or.inl e)
  · exact Or.inr (Or.inr (Or.inl e))
  · exact Or.inr (Or.inr (Or.inr e))
theorem i_01 {b : Int32} (h : ¬ b < 0) (h2 : b ≤ 1) : b = 0 ∨ b = 1 := by
  obtain ⟨e, l⟩ := i_le h (show b ≤ nI 1 from h2) (by decide)
  have : b.toNatClampNeg = 0 ∨ b.toNatClampNeg = 1 := by omega
  rcases this with q | q <;> rw [q] at e
  · exact Or.inl e
  · exact Or.inr e
theorem nd_in {T : NT} {a : Int32} (h60 : tN T ≤ 60) (g : nd T a) : vp_in a 60 := by
  obtain ⟨e, l⟩ := nd_i h60 g
  rw [e]
  exact vp_in_nI (by omega) (by decide)
theorem cg94 {T : NT} {S : SS} {σ : St} {κ κ' : KP} {w : WR} {h h' : AH} (k : RKx T S σ κ w h) (g : CG h κ h' κ') : h'.1 94 = h.1 94 := g.2.1 94 k.1.1.2.2.2.2.2.1.1 (by decide) (fun o ho => by
  obtain ⟨-, -, -, -, t1, t2⟩ := k.tu ho
  omega)
theorem k_node {T : NT} {S : SS} {σ : St} {κ : KP} {w : WR} {h : AH} {X : Nat → Value} {f : Nat → Int64} {d : Nat} (r : RKx T S σ κ w h) (x1 : h.1 1 = ob 7 (fo 2 X)) (x2 : X 0 = .ref 2) (h94 : h.1 94 = la 1 f) (hd : 9 ≤ d) (a b : Int32) : (¬ (nd T a ∧ ¬ b < 0 ∧ b ≤ 3) → CM mL_node d [.ref 1, .int a, .int b, .ref 94] h (some (.int 1)) (hX h)) ∧ (nd T a ∧ ¬ b < 0 ∧ b ≤ 3 → CM mL_node d [.ref 1, .int a, .int b, .ref 94] h (some (.int 0)) (hs h 94 (la 1 (vp_updL f 0 ((nvl T a.toNatClampNeg b).toInt64))))) := by
  obtain ⟨F, f3, f4, f5, f6, f7, a2, ⟨b0, b1, b2, b3, b4, b5⟩, ⟨c3, c4, c5, c6, c7⟩, h60, q⟩ := r.1.1.1
  refine ⟨fun g => ?_, fun ⟨g0, g1, g2⟩ => ?_⟩
  · have J0 : J false mX7_node (d - 1) 0 [(0, .ref 1), (1, .int a), (2, .int b)] [] h 20 [(0, .ref 1), (1, .int a), (2, .int b)] [] h := by
      by_cases g0 : nd T a
      case neg => exact j_X7_node_a_1 (by omega) h a b X x1 x2 F a2 _ b5 (dn g0)
      by_cases g1 : ¬ b < 0
      case neg => exact j_X7_node_a_2 (by omega) h a b X x1 x2 F a2 _ b5 g0 (Decidable.not_not.mp g1)
      by_cases g2 : b ≤ 3
      case neg => exact j_X7_node_a_7 (by omega) h a b X x1 x2 F a2 _ b5 g0 g1 g2
      exact absurd ⟨g0, g1, g2⟩ g
    exact E.st (j_L_node_a_1 (Nat.zero_le _) h a b) (E.st (s_invvX (K := mX7_node) (o := 1) (as := [.int a, .int b]) (rest := [.int 0, .ref 94]) (d' := d - 1) dL_node_5 lL_35 (by omega) rfl rfl (Nat.le_of_ble_eq_true rfl) x1 (XA.cx (by decide +kernel) rfl (Nat.le_of_ble_eq_true rfl) (XA.st J0 (xa_newN rfl (List.mem_of_getElem? (i := 0) rfl) dX7_node_20 dX7_node_23 dX7_node_24 dX7_node_26 dX7_node_29 (by omega)))) rfl (by decide) (by decide) (gm gi_wsL_law0_r14 (List.mem_of_getElem? (i := 20) rfl)) (List.mem_of_getElem? (i := 4) rfl) rfl (put_a dL_node_13 (by decide) rfl)) (j_L_node_c_1 (Nat.zero_le _) (hX h)))
  · have vv := nd_in h60 g0
    obtain ⟨q1, q2, q3, q4, -⟩ := q a.toNatClampNeg (nd_i h60 g0).2
    have C : CM mX7_node (d - 1) [.ref 1, .int a, .int b] h (some (.int (nvl T a.toNatClampNeg b))) h := by
      rcases i_03 g1 g2 with e | e | e | e <;> subst e
      · have B := j_X7_node_a_3 (d := d - 1) (by omega) h a 0 X x1 x2 F a2 _ b5 g0 g1 g2 rfl b0 60 f3 c3 vv
        rw [q1] at B
        exact B
      · have B := j_X7_node_a_4 (d := d - 1) (by omega) h a 1 X x1 x2 F a2 _ b5 g0 g1 g2 rfl b1 60 f4 c4 vv
        rw [q2] at B
        exact B
      · have B := j_X7_node_a_5 (d := d - 1) (by omega) h a 2 X x1 x2 F a2 _ b5 g0 g1 g2 rfl b2 60 f5 c5 vv
        rw [q3] at B
        exact B
      · have B := j_X7_node_a_6 (d := d - 1) (by omega) h a 3 X x1 x2 F a2 _ b5 g0 g1 g2 (by decide) b3 60 f6 c6 vv
        rw [q4] at B
        exact B
    exact E.st (j_L_node_a_1 (Nat.zero_le _) h a b) (E.st (s_invv (K := mX7_node) (o := 1) (as := [.int a, .int b]) (rest := [.int 0, .ref 94]) (v := some (.int (nvl T a.toNatClampNeg b))) (d' := d - 1) dL_node_5 rfl lL_35 (by omega) rfl (Nat.le_of_ble_eq_true rfl) rfl (Nat.le_of_ble_eq_true rfl) x1 C (fun h => nomatch h)) (j_L_node_b_1 (Nat.zero_le _) h a b (nvl T a.toNatClampNeg b) 0 1 f h94 in0_1))
theorem q_node {t0 : Int32} {T : NT} {Z : ZS} {μ : KM} {F : Nat → Value} {I : AI} {L : AL} {h : AH} {d : Nat} (r : RZ t0 T Z μ F I L h) (hd : 1 ≤ d) (h60 : tN T ≤ 60) (a b : Int32) : (¬ (nd T a ∧ ¬ b < 0 ∧ b ≤ 3) → CM mX8_node d [.ref 65, .int a, .int b] h (some (.int 0)) (hs h 65 (ob 8 (fo 53 (va_up F 0 (.int 1)))))) ∧ (nd T a ∧ ¬ b < 0 ∧ b ≤ 3 → CM mX8_node d [.ref 65, .int a, .int b] h (some (.int (nvl T a.toNatClampNeg b))) (hs h 65 (ob 8 (fo 53 (va_up F 0 (.int 0)))))) := by
  obtain ⟨mh, fs, rn0, -⟩ := r.1
  have e1 := rn0.1
  refine ⟨fun g => ?_, fun ⟨g0, g1, g2⟩ => ?_⟩
  · by_cases g0 : nd T a
    case neg => exact j_X8_node_a_1 (d := d) (by omega) h a b μ.1 μ.2.1 F mh.1 _ e1 (dn g0)
    by_cases g1 : ¬ b < 0
    case neg => exact j_X8_node_a_2 (d := d) (by omega) h a b μ.1 μ.2.1 F mh.1 _ e1 g0 (Decidable.not_not.mp g1)
    by_cases g2 : b ≤ 3
    case neg => exact j_X8_node_a_7 (d := d) (by omega) h a b μ.1 μ.2.1 F mh.1 _ e1 g0 g1 g2
    exact absurd ⟨g0, g1, g2⟩ g
  · have vv := nd_in h60 g0
    obtain ⟨q1, q2, q3, q4, -⟩ := rn0.2 a.toNatClampNeg (nd_i h60 g0).2
    rcases i_03 g1 g2 with e | e | e | e <;> subst e
    · have B := j_X8_node_a_6 (d := d) (by omega) h a 0 μ.1 μ.2.1 F mh.1 _ e1 g0 g1 g2 rfl (fs.r (by decide)) 60 (I 66) (mh.i (by decide)) vv
      rw [q1] at B
      exact B
    · have B := j_X8_node_a_5 (d := d) (by omega) h a 1 μ.1 μ.2.1 F mh.1 _ e1 g0 g1 g2 (by decide) rfl (fs.r (by decide)) 60 (I 68) (mh.i (by decide)) vv
      rw [q2] at B
      exact B
    · have B := j_X8_node_a_4 (d := d) (by omega) h a 2 μ.1 μ.2.1 F mh.1 _ e1 g0 g1 g2 (by decide) (by decide) rfl (fs.r (by decide)) 60 (I 69) (mh.i (by decide)) vv
      rw [q3] at B
      exact B
    · have B := j_X8_node_a_3 (d := d) (by omega) h a 3 μ.1 μ.2.1 F mh.1 _ e1 g0 g1 g2 (by decide) (by decide) (by decide) (fs.r (by decide)) 60 (I 70) (mh.i (by decide)) vv
      rw [q4] at B
      exact B
theorem k_ask {T : NT} {S : SS} {σ : St} {κ : KP} {w : WR} {h : AH} {X : Nat → Value} {d : Nat} (r : RKx T S σ κ w h) (x1 : h.1 1 = ob 7 (fo 2 X)) (x2 : X 0 = .ref 2) (x3 : X 1 = .ref 8) (hd : 9 ≤ d) (a b c : Int32) : (¬ (nd T a ∧ ¬ b < 0 ∧ ¬ 2 < b ∧ ¬ c < 1 ∧ ¬ 60 < c) → CM mL_ask d [.ref 1, .int a, .int b, .int c] h (some (.int 1)) (hX h)) ∧ (nd T a ∧ ¬ b < 0 ∧ ¬ 2 < b ∧ ¬ c < 1 ∧ ¬ 60 < c → ∃ h1, CM mL_ask d [.ref 1, .int a, .int b, .int c] h (some (.int 0)) h1 ∧ RKx T (asQ a.toNatClampNeg b.toNatClampNeg c.toNatClampNeg) σ κ w h1 ∧ CG h κ h1 κ) := by
  obtain ⟨F, f3, f4, f5, f6, f7, a2, ⟨b0, b1, b2, b3, b4, b5⟩, ⟨c3, c4, c5, c6, c7⟩, h60, q⟩ := r.1.1.1
  refine ⟨fun g => ?_, fun ⟨g0, g1, g2, g3, g4⟩ => ?_⟩
  · have J0 : J false mX7_ask (d - 1) 0 [(0, .ref 1), (1, .int a), (2, .int b), (3, .int c)] [] h 36 [(0, .ref 1), (1, .int a), (2, .int b), (3, .int c)] [.int 0] h := by
      by_cases g0 : nd T a
      case neg => exact j_X7_ask_a_1 (by omega) h a b c X x1 x2 F a2 _ b5 (dn g0)
      by_cases g1 : ¬ b < 0
      case neg => exact j_X7_ask_a_2 (by omega) h a b c X x1 x2 F a2 _ b5 g0 (Decidable.not_not.mp g1)
      by_cases g2 : ¬ 2 < b
      case neg => exact j_X7_ask_a_3 (by omega) h a b c X x1 x2 F a2 _ b5 g0 g1 (Decidable.not_not.mp g2)
      by_cases g3 : ¬ c < 1
      case neg => exact j_X7_ask_a_4 (by omega) h a b c X x1 x2 F a2 _ b5 g0 g1 g2 (Decidable.not_not.mp g3)
      by_cases g4 : ¬ 60 < c
      case neg => exact j_X7_ask_a_5 (by omega) h a b c X x1 x2 F a2 _ b5 g0 g1 g2 g3 (Decidable.not_not.mp g4)
      exact absurd ⟨g0, g1, g2, g3, g4⟩ g
    exact E.st (j_L_ask_a_1 (Nat.zero_le _) h a b c) (E.st (s_invvX (K := mX7_ask) (o := 1) (as := [.int a, .int b, .int c]) (rest := []) (d' := d - 1) dL_ask_4 lL_40 (by omega) rfl rfl (Nat.le_of_ble_eq_true rfl) x1 (XA.cx (by decide +kernel) rfl (Nat.le_of_ble_eq_true rfl) (XA.st J0 (xa_invs (K := mX7_demand) (as := [.int 0]) (rest := []) (d' := d - 2) dX7_ask_36 lX7_33 (by omega) rfl rfl (Nat.le_of_ble_eq_true rfl) (x_demand (by omega) h)))) rfl (by decide) (by decide) (gm gi_wsL_law0_r7 (List.mem_of_getElem? (i := 18) rfl)) (List.mem_of_getElem? (i := 3) rfl) rfl (put_a dL_ask_10 (by decide) rfl)) (j_L_ask_c_1 (Nat.zero_le _) (hX h)))
  · have ea := (nd_i h60 g0).1
    have eb := (i_nn g1).1
    have c0 : ¬ c < 0 := fun z => g3 (Int32.lt_trans z (by decide))
    have ec := (i_nn c0).1
    obtain ⟨h1, C, r1, g1'⟩ := c_begin1 (n := a.toNatClampNeg) (mo := b.toNatClampNeg) (bo := c.toNatClampNeg) r (d := 3) (Nat.le_refl _)
    rw [← ea, ← eb, ← ec] at C
    obtain ⟨-, ⟨Q, q8, -⟩, -⟩ := id r
    have CA : CM mX7_ask (d - 1) [.ref 1, .int a, .int b, .int c] h none h1 := E.st (j_X7_ask_a_6 (by omega) h a b c X x1 x2 F a2 _ b5 g0 g1 g2 g3 g4) (E.st (s_invs (K := mX7_demand) (as := [.int 1]) (rest := []) (v := none) dX7_ask_36 rfl lX7_33 (by omega) rfl (Nat.le_of_ble_eq_true rfl) rfl (Nat.le_of_ble_eq_true rfl) (c_demand 0 h) (fun h => nomatch h)) (E.st (j_X7_ask_b_1 (Nat.zero_le _) h a b c X x1 x3) (E.st (s_invv (K := mX3_begin) (o := 8) (as := [.int a, .int b, .int c]) (rest := []) (v := none) dX7_ask_46 rfl lX7_69 (by omega) rfl (Nat.le_of_ble_eq_true rfl) rfl (Nat.le_of_ble_eq_true rfl) q8 C (fun h => nomatch h)) (j_X7_ask_c_1 (Nat.zero_le _) h1 a b c))))
    exact ⟨h1, E.st (j_L_ask_a_1 (Nat.zero_le _) h a b c) (E.st (s_invv (K := mX7_ask) (o := 1) (as := [.int a, .int b, .int c]) (rest := []) (v := none) (d' := d - 1) dL_ask_4 rfl lL_40 (by omega) rfl (Nat.le_of_ble_eq_true rfl) rfl (Nat.le_of_ble_eq_true rfl) x1 CA (fun h => nomatch h)) (j_L_ask_b_1 (Nat.zero_le _) h1 a b c)), r1, g1'⟩
theorem q_ask {t0 : Int32} {T : NT} {Z : ZS} {μ : KM} {F : Nat → Value} {I : AI} {L : AL} {h : AH} {d : Nat} (r : RZ t0 T Z μ F I L h) (hd : 1 ≤ d) (h60 : tN T ≤ 60) (a b c : Int32) : (¬ (nd T a ∧ ¬ b < 0 ∧ ¬ 2 < b ∧ ¬ c < 1 ∧ ¬ 60 < c) → CM mX8_ask d [.ref 65, .int a, .int b, .int c] h none (hs h 65 (ob 8 (fo 53 (va_up F 0 (.int 1)))))) ∧ (nd T a ∧ ¬ b < 0 ∧ ¬ 2 < b ∧ ¬ c < 1 ∧ ¬ 60 < c → ∃ F' I' h', CM mX8_ask d [.ref 65, .int a, .int b, .int c] h none h' ∧ RZ 0 T (asZ a.toNatClampNeg b.toNatClampNeg c.toNatClampNeg) μ F' I' L h' ∧ MG h μ h' μ) := by
  obtain ⟨rw_, f0, ⟨f29, f30, f31, f32, f33, f34, f37, f40, f41, f42, f43, f44, f45, f46, f47, f48, f50⟩, qo, qq, qv⟩ := id r
  obtain ⟨mh, fs, rn0, -⟩ := id rw_
  have e1 := rn0.1
  refine ⟨fun g => ?_, fun ⟨g0, g1, g2, g3, g4⟩ => ?_⟩
  · by_cases g0 : nd T a
    case neg => exact j_X8_ask_a_1 (d := d) (by omega) h a b c μ.1 μ.2.1 F mh.1 _ e1 (dn g0)
    by_cases g1 : ¬ b < 0
    case neg => exact j_X8_ask_a_2 (d := d) (by omega) h a b c μ.1 μ.2.1 F mh.1 _ e1 g0 (Decidable.not_not.mp g1)
    by_cases g2 : ¬ 2 < b
    case neg => exact j_X8_ask_a_3 (d := d) (by omega) h a b c μ.1 μ.2.1 F mh.1 _ e1 g0 g1 (Decidable.not_not.mp g2)
    by_cases g3 : ¬ c < 1
    case neg => exact j_X8_ask_a_4 (d := d) (by omega) h a b c μ.1 μ.2.1 F mh.1 _ e1 g0 g1 g2 (Decidable.not_not.mp g3)
    by_cases g4 : ¬ 60 < c
    case neg => exact j_X8_ask_a_6 (d := d) (by omega) h a b c μ.1 μ.2.1 F mh.1 _ e1 g0 g1 g2 g3 (Int32.not_le.mpr (Decidable.not_not.mp g4))
    exact absurd ⟨g0, g1, g2, g3, g4⟩ g
  · have ea := (nd_i h60 g0).1
    have eb := (i_nn g1).1
    have c0 : ¬ c < 0 := fun z => g3 (Int32.lt_trans z (by decide))
    have ec := (i_nn c0).1
    have vv : vp_in 0 256 := vp_in_nI (n := 0) (by decide) (by decide)
    have B := j_X8_ask_a_5 (d := d) (by omega) h a b c μ.1 μ.2.1 F mh.1 _ e1 g0 g1 g2 g3 (Int32.not_lt.mp g4) (fs.r (by decide)) 256 (I 88) (mh.i (by decide)) vv
    simp only [hs_hs] at B
    have rA : RMw T μ (va_up (va_up (va_up (va_up (va_up (va_up (va_up (va_up (va_up (va_up (va_up (va_up (va_up (va_up (va_up (va_up (va_up (va_up (va_up F 0 (.int 0)) 29 (.int 0)) 30 (.int 0)) 34 (.int 0)) 37 (.int 0)) 40 (.int 0)) 41 (.int 0)) 42 (.int 0)) 43 (.int 0)) 44 (.int 0)) 45 (.int 0)) 46 (.int 0)) 47 (.int 0)) 48 (.int 0)) 50 (.int 0)) 29 (.int 1)) 31 (.int a)) 32 (.int b)) 33 (.int c)) I L (hs h 65 (ob 8 (fo 53 (va_up (va_up (va_up (va_up (va_up (va_up (va_up (va_up (va_up (va_up (va_up (va_up (va_up (va_up (va_up (va_up (va_up (va_up (va_up F 0 (.int 0)) 29 (.int 0)) 30 (.int 0)) 34 (.int 0)) 37 (.int 0)) 40 (.int 0)) 41 (.int 0)) 42 (.int 0)) 43 (.int 0)) 44 (.int 0)) 45 (.int 0)) 46 (.int 0)) 47 (.int 0)) 48 (.int 0)) 50 (.int 0)) 29 (.int 1)) 31 (.int a)) 32 (.int b)) 33 (.int c))))) := rw_.re (fun j hj => (up_ne (rn hj (by decide))).trans ((up_ne (rn hj (by decide))).trans ((up_ne (rn hj (by decide))).trans ((up_ne (rn hj (by decide))).trans ((up_ne (rn hj (by decide))).trans ((up_ne (rn hj (by decide))).trans ((up_ne (rn hj (by decide))).trans ((up_ne (rn hj (by decide))).trans ((up_ne (rn hj (by decide))).trans ((up_ne (rn hj (by decide))).trans ((up_ne (rn hj (by decide))).trans ((up_ne (rn hj (by decide))).trans ((up_ne (rn hj (by decide))).trans ((up_ne (rn hj (by decide))).trans ((up_ne (rn hj (by decide))).trans ((up_ne (rn hj (by decide))).trans ((up_ne (rn hj (by decide))).trans ((up_ne (rn hj (by decide))).trans ((up_ne (rn hj (by decide))).trans (rfl)))))))))))))))))))) (fun j hj => (up_ne (by omega)).trans ((up_ne (by omega)).trans ((up_ne (by omega)).trans ((up_ne (by omega)).trans ((up_ne (by omega)).trans ((up_ne (by omega)).trans ((up_ne (by omega)).trans ((up_ne (by omega)).trans ((up_ne (by omega)).trans ((up_ne (by omega)).trans ((up_ne (by omega)).trans ((up_ne (by omega)).trans ((up_ne (by omega)).trans ((up_ne (by omega)).trans ((up_ne (by omega)).trans ((up_ne (by omega)).trans ((up_ne (by omega)).trans ((up_ne (by omega)).trans ((up_ne (by omega)).trans (rfl)))))))))))))))))))) ⟨(up_ne (by decide)).trans ((up_ne (by decide)).trans ((up_ne (by decide)).trans ((up_ne (by decide)).trans ((up_ne (by decide)).trans ((up_ne (by decide)).trans ((up_ne (by decide)).trans ((up_ne (by decide)).trans ((up_ne (by decide)).trans ((up_ne (by decide)).trans ((up_ne (by decide)).trans ((up_ne (by decide)).trans ((up_ne (by decide)).trans ((up_ne (by decide)).trans ((up_ne (by decide)).trans ((up_ne (by decide)).trans ((up_ne (by decide)).trans ((up_ne (by decide)).trans ((up_ne (by decide)).trans (e1))))))))))))))))))), rn0.2⟩
    have rB := (rA.i (x := 88) (n := 256) (by decide) (by decide) (upd (I 88) 0 0)).f (j := 37) (by decide) (by decide) (by decide) (.int 1)
    refine ⟨_, _, _, B, ⟨rB, (up_ne (by decide)).trans ((up_ne (by decide)).trans ((up_ne (by decide)).trans ((up_ne (by decide)).trans ((up_ne (by decide)).trans ((up_ne (by decide)).trans ((up_ne (by decide)).trans ((up_ne (by decide)).trans ((up_ne (by decide)).trans ((up_ne (by decide)).trans ((up_ne (by decide)).trans ((up_ne (by decide)).trans ((up_ne (by decide)).trans ((up_ne (by decide)).trans ((up_ne (by decide)).trans ((up_ne (by decide)).trans ((up_ne (by decide)).trans ((up_ne (by decide)).trans ((up_ne (by decide)).trans (up_eq))))))))))))))))))), ⟨(up_ne (by decide)).trans ((up_ne (by decide)).trans ((up_ne (by decide)).trans ((up_ne (by decide)).trans (up_eq)))), (up_ne (by decide)).trans ((up_ne (by decide)).trans ((up_ne (by decide)).trans ((up_ne (by decide)).trans ((up_ne (by decide)).trans ((up_ne (by decide)).trans ((up_ne (by decide)).trans ((up_ne (by decide)).trans ((up_ne (by decide)).trans ((up_ne (by decide)).trans ((up_ne (by decide)).trans ((up_ne (by decide)).trans ((up_ne (by decide)).trans ((up_ne (by decide)).trans ((up_ne (by decide)).trans ((up_ne (by decide)).trans ((up_ne (by decide)).trans (up_eq))))))))))))))))), (up_ne (by decide)).trans ((up_ne (by decide)).trans ((up_ne (by decide)).trans (up_eq.trans (congrArg Value.int ea)))), (up_ne (by decide)).trans ((up_ne (by decide)).trans (up_eq.trans (congrArg Value.int eb))), (up_ne (by decide)).trans (up_eq.trans (congrArg Value.int ec)), (up_ne (by decide)).trans ((up_ne (by decide)).trans ((up_ne (by decide)).trans ((up_ne (by decide)).trans ((up_ne (by decide)).trans ((up_ne (by decide)).trans ((up_ne (by decide)).trans ((up_ne (by decide)).trans ((up_ne (by decide)).trans ((up_ne (by decide)).trans ((up_ne (by decide)).trans ((up_ne (by decide)).trans ((up_ne (by decide)).trans ((up_ne (by decide)).trans ((up_ne (by decide)).trans ((up_ne (by decide)).trans (up_eq)))))))))))))))), up_eq, (up_ne (by decide)).trans ((up_ne (by decide)).trans ((up_ne (by decide)).trans ((up_ne (by decide)).trans ((up_ne (by decide)).trans ((up_ne (by decide)).trans ((up_ne (by decide)).trans ((up_ne (by decide)).trans ((up_ne (by decide)).trans ((up_ne (by decide)).trans ((up_ne (by decide)).trans ((up_ne (by decide)).trans ((up_ne (by decide)).trans ((up_ne (by decide)).trans (up_eq)))))))))))))), (up_ne (by decide)).trans ((up_ne (by decide)).trans ((up_ne (by decide)).trans ((up_ne (by decide)).trans ((up_ne (by decide)).trans ((up_ne (by decide)).trans ((up_ne (by decide)).trans ((up_ne (by decide)).trans ((up_ne (by decide)).trans ((up_ne (by decide)).trans ((up_ne (by decide)).trans ((up_ne (by decide)).trans ((up_ne (by decide)).trans (up_eq))))))))))))), (up_ne (by decide)).trans ((up_ne (by decide)).trans ((up_ne (by decide)).trans ((up_ne (by decide)).trans ((up_ne (by decide)).trans ((up_ne (by decide)).trans ((up_ne (by decide)).trans ((up_ne (by decide)).trans ((up_ne (by decide)).trans ((up_ne (by decide)).trans ((up_ne (by decide)).trans ((up_ne (by decide)).trans (up_eq)))))))))))), (up_ne (by decide)).trans ((up_ne (by decide)).trans ((up_ne (by decide)).trans ((up_ne (by decide)).trans ((up_ne (by decide)).trans ((up_ne (by decide)).trans ((up_ne (by decide)).trans ((up_ne (by decide)).trans ((up_ne (by decide)).trans ((up_ne (by decide)).trans ((up_ne (by decide)).trans (up_eq))))))))))), (up_ne (by decide)).trans ((up_ne (by decide)).trans ((up_ne (by decide)).trans ((up_ne (by decide)).trans ((up_ne (by decide)).trans ((up_ne (by decide)).trans ((up_ne (by decide)).trans ((up_ne (by decide)).trans ((up_ne (by decide)).trans ((up_ne (by decide)).trans (up_eq)))))))))), (up_ne (by decide)).trans ((up_ne (by decide)).trans ((up_ne (by decide)).trans ((up_ne (by decide)).trans ((up_ne (by decide)).trans ((up_ne (by decide)).trans ((up_ne (by decide)).trans ((up_ne (by decide)).trans ((up_ne (by decide)).trans (up_eq))))))))), (up_ne (by decide)).trans ((up_ne (by decide)).trans ((up_ne (by decide)).trans ((up_ne (by decide)).trans ((up_ne (by decide)).trans ((up_ne (by decide)).trans ((up_ne (by decide)).trans ((up_ne (by decide)).trans (up_eq)))))))), (up_ne (by decide)).trans ((up_ne (by decide)).trans ((up_ne (by decide)).trans ((up_ne (by decide)).trans ((up_ne (by decide)).trans ((up_ne (by decide)).trans ((up_ne (by decide)).trans (up_eq))))))), (up_ne (by decide)).trans ((up_ne (by decide)).trans ((up_ne (by decide)).trans ((up_ne (by decide)).trans ((up_ne (by decide)).trans ((up_ne (by decide)).trans (up_eq)))))), (up_ne (by decide)).trans ((up_ne (by decide)).trans ((up_ne (by decide)).trans ((up_ne (by decide)).trans ((up_ne (by decide)).trans (up_eq)))))⟩, fun i hi => ?_, (fun i hi => absurd hi (Nat.not_lt_zero _)), ⟨(fun j hj => absurd hj (Nat.not_lt_zero _)), (fun j hj => absurd hj (Nat.not_lt_zero _))⟩⟩, ((MG.s (by decide)).tr (MG.s (x := 88) (by decide))).tr (MG.s (x := 65) (by decide))⟩
    have hi : i < 1 := hi
    rw [show i = 0 by omega, up_eq, pk_us]
    exact ⟨rfl, (fun j hj => absurd hj (Nat.not_lt_zero _))⟩
theorem k_next {T : NT} {S : SS} {σ : St} {κ : KP} {w : WR} {h : AH} {X : Nat → Value} {f : Nat → Int64} {d : Nat} (r : RKx T S σ κ w h) (x1 : h.1 1 = ob 7 (fo 2 X)) (x2 : X 0 = .ref 2) (h94 : h.1 94 = la 1 f) (hd : 9 ≤ d) (x3 : X 1 = .ref 8) (hd2 : 624 ≤ d) (hT : wfT T) : (qTh S = false → CM mL_next d [.ref 1, .ref 94] h (some (.int 1)) (hX h)) ∧ (qTh S = true → SB T S → ∃ σ' κ' w' h1, CM mL_next d [.ref 1, .ref 94] h (some (.int 0)) (hs h1 94 (la 1 (vp_updL f 0 ((nI (goQ T 201 S).1).toInt64)))) ∧ RKx T (goQ T 201 S).2 σ' κ' w' h1 ∧ CG h κ h1 κ') := by
  obtain ⟨-, ⟨Q, q8, s0, s1, s2, s3, s4, s5, -⟩, -⟩ := id r
  refine ⟨fun t => ?_, fun t b => ?_⟩
  · have J0 := j_X7_next_a_2 (d := d - 1) (by omega) h X x1 x3 Q q8 _ s4 (bI_narrow _) (bI_f t)
    exact E.st (j_L_next_a_1 (Nat.zero_le _) h) (E.st (s_invvX (K := mX7_next) (o := 1) (as := []) (rest := [.int 0, .ref 94]) (d' := d - 1) dL_next_3 lL_44 (by omega) rfl rfl (Nat.le_of_ble_eq_true rfl) x1 (XA.cx (by decide +kernel) rfl (Nat.le_of_ble_eq_true rfl) (XA.st J0 (xa_newS rfl fitI.2.1 atS goS liS (List.mem_of_getElem? (i := 1) rfl) dX7_next_10 dX7_next_13 dX7_next_14 dX7_next_16 dX7_next_19 (by omega)))) rfl (by decide) (by decide) (gm gi_wsL_law0_r17 (List.mem_of_getElem? (i := 5) rfl)) (List.mem_of_getElem? (i := 5) rfl) rfl (put_b dL_next_11 (by decide) rfl)) (j_L_next_c_1 (Nat.zero_le _) (hX h)))
  · obtain ⟨σ', κ', w', h1, C, r1, g1⟩ := c_goOn hT (d := d - 2) (by omega) r b
    have CN : CM mX7_next (d - 1) [.ref 1] h (some (.int (nI (goQ T 201 S).1))) h1 := E.st (j_X7_next_a_1 (by omega) h X x1 x3 Q q8 _ s4 (bI_narrow _) (bI_t t)) (E.st (s_invv (K := mX3_goOn) (o := 8) (as := []) (rest := []) (v := some (.int (nI (goQ T 201 S).1))) dX7_next_24 rfl lX7_82 (by omega) rfl (Nat.le_of_ble_eq_true rfl) rfl (Nat.le_of_ble_eq_true rfl) q8 C (fun h => nomatch h)) (j_X7_next_b_1 (Nat.zero_le _) h1 _))
    exact ⟨σ', κ', w', h1, E.st (j_L_next_a_1 (Nat.zero_le _) h) (E.st (s_invv (K := mX7_next) (o := 1) (as := []) (rest := [.int 0, .ref 94]) (v := some (.int (nI (goQ T 201 S).1))) (d' := d - 1) dL_next_3 rfl lL_44 (by omega) rfl (Nat.le_of_ble_eq_true rfl) rfl (Nat.le_of_ble_eq_true rfl) x1 CN (fun h => nomatch h)) (j_L_next_b_1 (Nat.zero_le _) h1 (nI (goQ T 201 S).1) 0 1 f ((cg94 r g1).trans h94) in0_1)), r1, g1⟩
theorem q_next {t0 : Int32} {T : NT} {Z : ZS} {μ : KM} {F : Nat → Value} {I : AI} {L : AL} {h : AH} {d : Nat} (r : RZ t0 T Z μ F I L h) (hd : 1 ≤ d) (hd2 : 614 ≤ d) (hT : wfT T) : (zTh Z = false → CM mX8_next d [.ref 65] h (some (.int 0)) (hs h 65 (ob 8 (fo 53 (va_up F 0 (.int 1)))))) ∧ (zTh Z = true → zSp Z = true → CM mX8_next d [.ref 65] h (some (.int 2)) (hs h 65 (ob 8 (fo 53 (va_up F 0 (.int 0)))))) ∧ (zTh Z = true → zSp Z = false → ZI T Z → ∃ μ' F' I' L' h', CM mX8_next d [.ref 65] h (some (.int (nI (nxZ T 201 Z).1))) h' ∧ RZ 0 T (nxZ T 201 Z).2 μ' F' I' L' h' ∧ MG h μ h' μ' ∧ ZI T (nxZ T 201 Z).2) := by
  obtain ⟨rw_, f0, ⟨f29, f30, f31, f32, f33, f34, f37, f40, f41, f42, f43, f44, f45, f46, f47, f48, f50⟩, -⟩ := id r
  obtain ⟨mh, fs, -, -⟩ := id rw_
  refine ⟨fun t => j_X8_next_a_3 (d := d) (by omega) h μ.1 μ.2.1 F mh.1 _ f29 (bI_f t), fun t s => j_X8_next_a_2 (d := d) (by omega) h μ.1 μ.2.1 F mh.1 _ f29 (bI_t t) _ f30 (bI_t s), fun t s z => ?_⟩
  have A0 := j_X8_next_a_1 (d := d) (by omega) h μ.1 μ.2.1 F mh.1 _ f29 (bI_t t) _ f30 (bI_f s)
  obtain ⟨μ', F', I', L', h', x1, x2, x3, x4⟩ := m_nextL hT (d := d) (by omega) 201 Z μ _ I L _ (by omega) (r.f0 0) z
  exact ⟨μ', F', I', L', h', E.st A0 x1, x2, (MG.s (by decide)).tr x3, x4⟩
def dcv (ro : Row) (a : Int32) : Int32 := if a < 0 ∨ nI ro.length ≤ a then -1 else if ro.getD a.toNatClampNeg false then 1 else 0
theorem k_decision {T : NT} {S : SS} {σ : St} {κ : KP} {w : WR} {h : AH} {X : Nat → Value} {d : Nat} (r : RKx T S σ κ w h) (x1 : h.1 1 = ob 7 (fo 2 X)) (x3 : X 1 = .ref 8) (hd : 3 ≤ d) (hr : (qRo S).length ≤ 60) (a : Int32) : CM mX7_decision d [.ref 1, .int a] h (some (.int (dcv (qRo S) a))) h := by
  obtain ⟨-, ⟨Q, q8, s0, s1, -⟩, -, -, ⟨G, g9, t0, t1, t2, t3⟩, -⟩ := id r
  unfold dcv
  by_cases g0 : a < 0
  · rw [if_pos (Or.inl g0)]
    exact j_X7_decision_a_1 (by omega) h a X x1 x3 Q q8 s1 G g9 g0
  · by_cases g1 : nI (qRo S).length ≤ a
    · rw [if_pos (Or.inr g1)]
      exact j_X7_decision_a_2 (by omega) h a X x1 x3 Q q8 s1 G g9 g0 _ t2 g1
    · rw [if_neg (fun q => q.elim g0 g1)]
      have B := j_X7_decision_a_3 (d := d) (by omega) h a X x1 x3 Q q8 s1 G g9 g0 _ t2 g1 _ t1
      obtain ⟨ea, la⟩ := i_nn g0
      have lt : a.toNatClampNeg < (qRo S).length := by
        rw [ea, nI_leI (by omega) la] at g1
        omega
      have bb := dec_bit (told := qRo S) (c := a.toNatClampNeg) (Nat.lt_of_lt_of_le (bv_lt _) (Nat.pow_le_pow_right (by decide) hr)) (by omega)
      rw [← ea] at bb
      rw [bb] at B
      exact B
theorem q_decision {t0 : Int32} {T : NT} {Z : ZS} {μ : KM} {F : Nat → Value} {I : AI} {L : AL} {h : AH} {d : Nat} (r : RZ t0 T Z μ F I L h) (hd : 1 ≤ d) (hr : (zRo Z).length ≤ 60) (a : Int32) : CM mX8_decision d [.ref 65, .int a] h (some (.int (dcv (zRo Z) a))) (hs h 65 (ob 8 (fo 53 (va_up F 0 (.int 0))))) := by
  obtain ⟨rw_, f0, ⟨f29, f30, f31, f32, f33, f34, f37, f40, f41, f42, f43, f44, f45, f46, f47, f48, f50⟩, qo, qq, qv⟩ := id r
  obtain ⟨mh, fs, -, -⟩ := id rw_
  unfold dcv
  by_cases g0 : a < 0
  · rw [if_pos (Or.inl g0)]
    exact j_X8_decision_a_1 (d := d) (by omega) h a μ.1 μ.2.1 F mh.1 g0
  · by_cases g1 : nI (zRo Z).length ≤ a
    · rw [if_pos (Or.inr g1)]
      exact j_X8_decision_a_2 (d := d) (by omega) h a μ.1 μ.2.1 F mh.1 g0 _ f48 g1
    · rw [if_neg (fun q => q.elim g0 g1)]
      obtain ⟨ea, la⟩ := i_nn g0
      have lt : a.toNatClampNeg < (zRo Z).length := by
        rw [ea, nI_leI (by omega) la] at g1
        omega
      have vv : vp_in a 256 := by rw [ea]; exact vp_in_nI (by omega) (by decide)
      have B := j_X8_decision_a_3 (d := d) (by omega) h a μ.1 μ.2.1 F mh.1 g0 _ f48 g1 (fs.r (by decide)) 256 (I 91) (mh.i (by decide)) vv
      have bb := qv.1 _ lt
      rw [Nat.zero_add] at bb
      rw [bb] at B
      exact B
def okk (ts : List Tok) (a b : Int32) : Prop := (¬ (a < 0) ∧ ¬ (nI ts.length ≤ a)) ∧ ¬ b < 0 ∧ b ≤ 1
def tkv (ts : List Tok) (a b : Int32) : Int64 := if b = 0 then (ts.getD a.toNatClampNeg (0, 0)).1.toInt64 else (ts.getD a.toNatClampNeg (0, 0)).2
theorem k_token {T : NT} {S : SS} {σ : St} {κ : KP} {w : WR} {h : AH} {X : Nat → Value} {f : Nat → Int64} {d : Nat} (r : RKx T S σ κ w h) (x1 : h.1 1 = ob 7 (fo 2 X)) (x2 : X 0 = .ref 2) (h94 : h.1 94 = la 1 f) (hd : 9 ≤ d) (x3 : X 1 = .ref 8) (a b : Int32) : (¬ okk (qTk S) a b → CM mL_token d [.ref 1, .int a, .int b, .ref 94] h (some (.int 1)) (hX h)) ∧ (okk (qTk S) a b → CM mL_token d [.ref 1, .int a, .int b, .ref 94] h (some (.int 0)) (hs h 94 (la 1 (vp_updL f 0 (tkv (qTk S) a b))))) := by
  obtain ⟨-, ⟨Q, q8, s0, s1, -⟩, -, -, ⟨G, g9, t0, t1, t2, t3⟩, ⟨K, u, v, k10, k0, k1, k2, k3, k4, k5, k6, k7, k8, k9, k11, k12, -⟩, -⟩ := id r
  refine ⟨fun g => ?_, fun ⟨g0, g1, g2⟩ => ?_⟩
  · have J0 : J false mX7_token (d - 1) 0 [(0, .ref 1), (1, .int a), (2, .int b)] [] h 28 [(0, .ref 1), (1, .int a), (2, .int b)] [] h := by
      by_cases g0 : ¬ (a < 0) ∧ ¬ (nI (qTk S).length ≤ a)
      case neg => exact j_X7_token_a_1 (by omega) h a b 0 0 X x1 x3 Q q8 s1 G g9 t0 K k10 _ k3 (dn g0)
      by_cases g1 : ¬ b < 0
      case neg => exact j_X7_token_a_2 (by omega) h a b 0 0 X x1 x3 Q q8 s1 G g9 t0 K k10 _ k3 g0 (Decidable.not_not.mp g1)
      by_cases g2 : b ≤ 1
      case neg => exact j_X7_token_a_7 (by omega) h a b 0 0 X x1 x3 Q q8 s1 G g9 t0 K k10 _ k3 g0 g1 g2
      exact absurd ⟨g0, g1, g2⟩ g
    exact E.st (j_L_token_a_1 (Nat.zero_le _) h a b) (E.st (s_invvX (K := mX7_token) (o := 1) (as := [.int a, .int b]) (rest := [.int 0, .ref 94]) (d' := d - 1) dL_token_5 lL_50 (by omega) rfl rfl (Nat.le_of_ble_eq_true rfl) x1 (XA.cx (by decide +kernel) rfl (Nat.le_of_ble_eq_true rfl) (XA.st J0 (xa_newN rfl (List.mem_of_getElem? (i := 2) rfl) dX7_token_28 dX7_token_31 dX7_token_32 dX7_token_34 dX7_token_37 (by omega)))) rfl (by decide) (by decide) (gm gi_wsL_law0_r14 (List.mem_of_getElem? (i := 20) rfl)) (List.mem_of_getElem? (i := 4) rfl) rfl (put_a dL_token_12 (by decide) rfl)) (j_L_token_c_1 (Nat.zero_le _) (hX h)))
  · obtain ⟨ea, la⟩ := i_nn g0.1
    have lt : a.toNatClampNeg < (qTk S).length := by
      have g9 := g0.2
      rw [ea, nI_leI (by omega) la] at g9
      omega
    have vv : vp_in a (κ 10).2.2 := by rw [ea]; exact vp_in_nI (by omega) (by omega)
    have C : CM mX7_token (d - 1) [.ref 1, .int a, .int b] h (some (.long (tkv (qTk S) a b))) h := by
      rcases i_01 g1 g2 with e | e <;> subst e
      · have B := j_X7_token_a_6 (d := d - 1) (by omega) h a 0 _ 0 X x1 x3 Q q8 s1 G g9 t0 K k10 _ k3 g0 g1 g2 rfl k1 _ u k4 vv k12
        rw [(k6 _ lt).1] at B
        exact B
      · have B := j_X7_token_a_4 (d := d - 1) (by omega) h a 1 0 _ X x1 x3 Q q8 s1 G g9 t0 K k10 _ k3 g0 g1 g2 (by decide) k2 _ v k5 vv
        rw [(k6 _ lt).2] at B
        exact B
    exact E.st (j_L_token_a_1 (Nat.zero_le _) h a b) (E.st (s_invv (K := mX7_token) (o := 1) (as := [.int a, .int b]) (rest := [.int 0, .ref 94]) (v := some (.long (tkv (qTk S) a b))) (d' := d - 1) dL_token_5 rfl lL_50 (by omega) rfl (Nat.le_of_ble_eq_true rfl) rfl (Nat.le_of_ble_eq_true rfl) x1 C (fun h => nomatch h)) (j_L_token_b_1 (Nat.zero_le _) h a b (tkv (qTk S) a b) 0 1 f h94 in0_1))
theorem q_token {t0 : Int32} {T : NT} {Z : ZS} {μ : KM} {F : Nat → Value} {I : AI} {L : AL} {h : AH} {d : Nat} (r : RZ t0 T Z μ F I L h) (hd : 1 ≤ d) (hl : (zTk Z).length ≤ 100) (a b : Int32) : (¬ okk (zTk Z) a b → CM mX8_token_ d [.ref 65, .int a, .int b] h (some (.long 0)) (hs h 65 (ob 8 (fo 53 (va_up F 0 (.int 1)))))) ∧ (okk (zTk Z) a b → CM mX8_token_ d [.ref 65, .int a, .int b] h (some (.long (tkv (zTk Z) a b))) (hs h 65 (ob 8 (fo 53 (va_up F 0 (.int 0)))))) := by
  obtain ⟨rw_, f0, ⟨f29, f30, f31, f32, f33, f34, f37, f40, f41, f42, f43, f44, f45, f46, f47, f48, f50⟩, qo, qq, qv⟩ := id r
  obtain ⟨mh, fs, -, -⟩ := id rw_
  refine ⟨fun g => ?_, fun ⟨g0, g1, g2⟩ => ?_⟩
  · by_cases z0 : ¬ a < 0
    case neg => exact j_X8_token__a_1 (d := d) (by omega) h a b μ.1 μ.2.1 (Decidable.not_not.mp z0) F mh.1
    by_cases z1 : ¬ nI (zTk Z).length ≤ a
    case neg => exact j_X8_token__a_2 (d := d) (by omega) h a b μ.1 μ.2.1 z0 F mh.1 _ f50 (Decidable.not_not.mp z1)
    by_cases g1 : ¬ b < 0
    case neg => exact j_X8_token__a_3 (d := d) (by omega) h a b μ.1 μ.2.1 z0 F mh.1 _ f50 z1 (Decidable.not_not.mp g1)
    by_cases g2 : b ≤ 1
    case neg => exact j_X8_token__a_6 (d := d) (by omega) h a b μ.1 μ.2.1 z0 F mh.1 _ f50 z1 g1 g2
    exact absurd ⟨⟨z0, z1⟩, g1, g2⟩ g
  · obtain ⟨z0, z1⟩ := g0
    obtain ⟨ea, la⟩ := i_nn z0
    have lt : a.toNatClampNeg < (zTk Z).length := by
      have g9 := z1
      rw [ea, nI_leI (by omega) la] at g9
      omega
    have vv : vp_in a 100 := by rw [ea]; exact vp_in_nI (by omega) (by omega)
    have q6 := qv.2 _ lt
    rcases i_01 g1 g2 with e | e <;> subst e
    · have B := j_X8_token__a_5 (d := d) (by omega) h a 0 μ.1 μ.2.1 z0 F mh.1 _ f50 z1 g1 g2 rfl (fs.r (by decide)) 100 (I 92) (mh.i (by decide)) vv
      rw [q6.1] at B
      exact B
    · have B := j_X8_token__a_4 (d := d) (by omega) h a 1 μ.1 μ.2.1 z0 F mh.1 _ f50 z1 g1 g2 (by decide) (fs.r (by decide)) 100 (L 93) (mh.l (by decide)) vv
      rw [q6.2] at B
      exact B
def cnv (n pl va fa gu cu lb rl tl : Nat) (a : Int32) : Int32 := if a = 0 then nI n else if a = 1 then nI pl else if a = 2 then nI va else if a = 3 then nI fa else if a = 4 then nI gu else if a = 5 then nI cu else if a = 6 then nI lb else if a = 7 then nI rl else if a = 8 then nI tl else -1
theorem i_out {a : Int32} (h0 : ¬ a = 0) (h1 : ¬ a = 1) (h2 : ¬ a = 2) (h3 : ¬ a = 3) (h4 : ¬ a = 4) (h5 : ¬ a = 5) (h6 : ¬ a = 6) (h7 : ¬ a = 7) (h8 : ¬ a = 8) : a.toInt < 0 ∨ 8 < a.toInt := by
  apply Classical.byContradiction
  intro q
  have q0 : 0 ≤ a.toInt := by omega
  have q8 : a.toInt ≤ 8 := by omega
  obtain ⟨k, hk⟩ : ∃ k : Nat, a.toInt = k := ⟨a.toInt.toNat, by omega⟩
  have e : a = nI k := Int32.toInt_inj.mp (by rw [hk]; show (k : Int) = (Int32.ofNat k).toInt; rw [Int32.toInt_ofNat_of_lt (by omega)])
  have : k = 0 ∨ k = 1 ∨ k = 2 ∨ k = 3 ∨ k = 4 ∨ k = 5 ∨ k = 6 ∨ k = 7 ∨ k = 8 := by omega
  rcases this with z | z | z | z | z | z | z | z | z <;> rw [z] at e
  · exact h0 e
  · exact h1 e
  · exact h2 e
  · exact h3 e
  · exact h4 e
  · exact h5 e
  · exact h6 e
  · exact h7 e
  · exact h8 e
theorem k_count {T : NT} {S : SS} {σ : St} {κ : KP} {w : WR} {h : AH} {X : Nat → Value} {d : Nat} (r : RKx T S σ κ w h) (x1 : h.1 1 = ob 7 (fo 2 X)) (x2 : X 0 = .ref 2) (x3 : X 1 = .ref 8) (hd : 3 ≤ d) (a : Int32) : CM mX7_count d [.ref 1, .int a] h (some (.int (cnv (tN T) (qPl S) (qVa S) (qFa S) (qGu S) (qCu S) (qLb S) (qRo S).length (qTk S).length a))) h := by
  obtain ⟨F, f3, f4, f5, f6, f7, a2, ⟨b0, b1, b2, b3, b4, b5⟩, -⟩ := r.1.1.1
  obtain ⟨-, ⟨Q, q8, s0, s1, s2, s3, s4, s5, s6, s7, s8, s9, s10, s11, s12, s13, s14⟩, -, -, ⟨G, g9, t0, t1, t2, t3⟩, ⟨K, u, v, k10, k0, k1, k2, k3, -⟩, -⟩ := id r
  unfold cnv
  by_cases h0 : a = 0
  · rw [if_pos h0]
    exact j_X7_count_a_1 (by omega) h a h0 X x1 x2 F a2 _ b5
  rw [if_neg h0]
  by_cases h1 : a = 1
  · rw [if_pos h1]
    exact j_X7_count_a_2 (by omega) h a h1 X x1 x3 Q q8 _ s10
  rw [if_neg h1]
  by_cases h2 : a = 2
  · rw [if_pos h2]
    exact j_X7_count_a_3 (by omega) h a h2 X x1 x3 Q q8 _ s11
  rw [if_neg h2]
  by_cases h3 : a = 3
  · rw [if_pos h3]
    exact j_X7_count_a_4 (by omega) h a h3 X x1 x3 Q q8 _ s12
  rw [if_neg h3]
  by_cases h4 : a = 4
  · rw [if_pos h4]
    exact j_X7_count_a_5 (by omega) h a h4 X x1 x3 Q q8 _ s13
  rw [if_neg h4]
  by_cases h5 : a = 5
  · rw [if_pos h5]
    exact j_X7_count_a_6 (by omega) h a h5 X x1 x3 Q q8 _ s14
  rw [if_neg h5]
  by_cases h6 : a = 6
  · rw [if_pos h6]
    exact j_X7_count_a_7 (by omega) h a h6 X x1 x3 Q q8 s1 G g9 _ t3
  rw [if_neg h6]
  by_cases h7 : a = 7
  · rw [if_pos h7]
    exact j_X7_count_a_8 (by omega) h a h7 X x1 x3 Q q8 s1 G g9 _ t2
  rw [if_neg h7]
  by_cases h8 : a = 8
  · rw [if_pos h8]
    exact j_X7_count_a_9 (by omega) h a h8 X x1 x3 Q q8 s1 G g9 t0 K k10 _ k3
  rw [if_neg h8]
  exact j_X7_count_a_10 (by omega) h a (i_out h0 h1 h2 h3 h4 h5 h6 h7 h8)
theorem q_count {t0 : Int32} {T : NT} {Z : ZS} {μ : KM} {F : Nat → Value} {I : AI} {L : AL} {h : AH} {d : Nat} (r : RZ t0 T Z μ F I L h) (hd : 1 ≤ d) (a : Int32) : CM mX8_count d [.ref 65, .int a] h (some (.int (cnv (tN T) (zPl Z) (zVa Z) (zFa Z) (zGu Z) (zCu Z) (zLb Z) (zRo Z).length (zTk Z).length a))) (hs h 65 (ob 8 (fo 53 (va_up F 0 (.int 0))))) := by
  obtain ⟨rw_, f0, ⟨f29, f30, f31, f32, f33, f34, f37, f40, f41, f42, f43, f44, f45, f46, f47, f48, f50⟩, qo, qq, qv⟩ := id r
  obtain ⟨mh, fs, rn0, -⟩ := id rw_
  have e1 := rn0.1
  unfold cnv
  by_cases h0 : a = 0
  · rw [if_pos h0]
    exact j_X8_count_a_1 (d := d) (by omega) h a μ.1 μ.2.1 F mh.1 h0 _ e1
  rw [if_neg h0]
  by_cases h1 : a = 1
  · rw [if_pos h1]
    exact j_X8_count_a_2 (d := d) (by omega) h a μ.1 μ.2.1 F mh.1 h1 _ f42
  rw [if_neg h1]
  by_cases h2 : a = 2
  · rw [if_pos h2]
    exact j_X8_count_a_3 (d := d) (by omega) h a μ.1 μ.2.1 F mh.1 h2 _ f43
  rw [if_neg h2]
  by_cases h3 : a = 3
  · rw [if_pos h3]
    exact j_X8_count_a_4 (d := d) (by omega) h a μ.1 μ.2.1 F mh.1 h3 _ f44
  rw [if_neg h3]
  by_cases h4 : a = 4
  · rw [if_pos h4]
    exact j_X8_count_a_5 (d := d) (by omega) h a μ.1 μ.2.1 F mh.1 h4 _ f45
  rw [if_neg h4]
  by_cases h5 : a = 5
  · rw [if_pos h5]
    exact j_X8_count_a_6 (d := d) (by omega) h a μ.1 μ.2.1 F mh.1 h5 _ f46
  rw [if_neg h5]
  by_cases h6 : a = 6
  · rw [if_pos h6]
    exact j_X8_count_a_7 (d := d) (by omega) h a μ.1 μ.2.1 F mh.1 h6 _ f47
  rw [if_neg h6]
  by_cases h7 : a = 7
  · rw [if_pos h7]
    exact j_X8_count_a_8 (d := d) (by omega) h a μ.1 μ.2.1 F mh.1 h7 _ f48
  rw [if_neg h7]
  by_cases h8 : a = 8
  · rw [if_pos h8]
    exact j_X8_count_a_9 (d := d) (by omega) h a μ.1 μ.2.1 F mh.1 h8 _ f50
  rw [if_neg h8]
  exact j_X8_count_a_10 (d := d) (by omega) h a μ.1 μ.2.1 F mh.1 (i_out h0 h1 h2 h3 h4 h5 h6 h7 h8)
