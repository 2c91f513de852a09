/-! the class's search goes on; it is forgotten; it begins -/
theorem bI_f {b : Bool} (h : b = false) : bI b = 0 := by rw [h]; rfl
theorem bI_t {b : Bool} (h : b = true) : ¬ bI b = 0 := by rw [h]; decide
theorem c_head {T : NT} {S : SS} {σ : St} {κ : KP} {w : WR} {h : AH} {d n : Nat} (r : RKx T S σ κ w h) (hs' : qSp S = false) (hn : n ≤ 200) (hd : 3 ≤ d) (hp2 : qPl S ≤ 200) : ∃ h', RKx T (opQ S) σ κ w h' ∧ CG h κ h' κ ∧ (qPe (opQ S) = [] → E false mX3_goOn d 2 [(0, .ref 8), (1, .int (nI n))] [] h (some (.int 0)) h') ∧ (qPe (opQ S) ≠ [] → qPl S < 200 → J false mX3_goOn d 2 [(0, .ref 8), (1, .int (nI n))] [] h 61 [(0, .ref 8), (1, .int (nI n))] [.ref 8] h') ∧ (qPe (opQ S) ≠ [] → 200 ≤ qPl S → ∃ h2, J false mX3_goOn d 2 [(0, .ref 8), (1, .int (nI n))] [] h 2 [(0, .ref 8), (1, .int (nI (n + 1)))] [] h2 ∧ RKx T (spQ (opQ S)) σ κ w h2 ∧ CG h κ h2 κ) := by
  have c0 : ¬ (200 < nI n) := nI_nlt (a := 200) (b := n) (by omega) (by omega)
  obtain ⟨-, ⟨Q, q, s0, s1, s2, s3, s4, s5, s6, s7, s8, s9, s10, s11, s12, s13, s14⟩, b1, b2, b3, -⟩ := id r
  have b1 : BG h 13 (qPe S).reverse := b1
  obtain ⟨G, f, g, a, x1, x2, x3, x4, x5, x6, x7⟩ := id b1
  rw [List.length_reverse] at x3 x7
  by_cases hp : qPe S = []
  · obtain ⟨h1, O, r1, g1⟩ := c_open r hp (d := d - 1) (by omega)
    have A := j_X3_goOn_b_5 (d := d) (by omega) h (nI n) c0 Q q _ s5 (bI_f hs') s2 G a _ x3 (by rw [hp]; rfl)
    have C : J false mX3_goOn d 27 [(0, .ref 8), (1, .int (nI n))] [.ref 8] h 30 [(0, .ref 8), (1, .int (nI n))] [] h1 := (s_invv dX3_goOn_27 rfl lX3_85 (by omega) rfl (Nat.le_of_ble_eq_true rfl) rfl (Nat.le_of_ble_eq_true rfl) q O (fun h => nomatch h))
    obtain ⟨-, ⟨Q1, q1, t0, t1, t2, t3, t4, t5, t6, t7, t8, t9, t10, t11, t12, t13, t14⟩, bb, -⟩ := id r1
    have bb : BG h1 13 (qPe (opQ S)).reverse := bb
    obtain ⟨G1, _, _, a1, _, _, y3, _, _, _, y7⟩ := id bb
    rw [List.length_reverse] at y3 y7
    have p1 : qPl (opQ S) = qPl S := (op_same S).2.1
    have u10 : Q1 10 = .int (nI (qPl S)) := by rw [← p1]; exact t10
    refine ⟨h1, r1, g1, fun e => ?_, fun e l => ?_, fun e l => ?_⟩
    · exact E.st A (E.st C (j_X3_goOn_c_3 (d := d) (by omega) h1 (nI n) Q1 q1 t2 G1 a1 _ y3 (by rw [e]; rfl)))
    · exact J.tr A (J.tr C (j_X3_goOn_c_1 (d := d) (by omega) h1 (nI n) Q1 q1 t2 G1 a1 _ y3 (nI_ne0 (by have := List.length_pos_iff.mpr e; omega) (by omega)) _ u10 (nI_lt (b := 200) (by omega) (by omega))))
    · have B := j_X3_goOn_c_2 (d := d) (by omega) h1 (nI n) Q1 q1 t2 G1 a1 _ y3 (nI_ne0 (by have := List.length_pos_iff.mpr e; omega) (by omega)) _ u10 (nI_nlt (b := 200) (by omega) (by omega))
      rw [nI_1] at B
      obtain ⟨r2, g2⟩ := r1.at8 (S' := spQ (opQ S)) (c := ob 3 (fo 15 (va_up Q1 5 (.int 1)))) ⟨_, hs_eq, (up_ne (by decide)).trans (t0), (up_ne (by decide)).trans (t1), (up_ne (by decide)).trans (t2), (up_ne (by decide)).trans (t3), (up_ne (by decide)).trans (t4), up_eq, (up_ne (by decide)).trans (t6), (up_ne (by decide)).trans (t7), (up_ne (by decide)).trans (t8), (up_ne (by decide)).trans (t9), (up_ne (by decide)).trans (t10), (up_ne (by decide)).trans (t11), (up_ne (by decide)).trans (t12), (up_ne (by decide)).trans (t13), (up_ne (by decide)).trans (t14)⟩ rfl rfl rfl rfl rfl
      exact ⟨_, J.tr A (J.tr C B), r2, g1.tr g2⟩
  · have eo : opQ S = S := by
      unfold opQ
      cases e : qPe S with
      | nil => exact absurd e hp
      | cons _ _ => rfl
    rw [eo]
    have ln : ¬ nI (qPe S).length = 0 := nI_ne0 (by have := List.length_pos_iff.mpr hp; omega) (by omega)
    refine ⟨h, r, CG.rf _ _, fun e => absurd e hp, fun e l => ?_, fun e l => ?_⟩
    · exact j_X3_goOn_b_3 (d := d) (by omega) h (nI n) c0 Q q _ s5 (bI_f hs') s2 G a _ x3 ln _ s10 (nI_lt (b := 200) (by omega) (by omega))
    · have B := j_X3_goOn_b_4 (d := d) (by omega) h (nI n) c0 Q q _ s5 (bI_f hs') s2 G a _ x3 ln _ s10 (nI_nlt (b := 200) (by omega) (by omega))
      rw [nI_1] at B
      obtain ⟨r2, g2⟩ := r.at8 (S' := spQ S) (c := ob 3 (fo 15 (va_up Q 5 (.int 1)))) ⟨_, hs_eq, (up_ne (by decide)).trans (s0), (up_ne (by decide)).trans (s1), (up_ne (by decide)).trans (s2), (up_ne (by decide)).trans (s3), (up_ne (by decide)).trans (s4), up_eq, (up_ne (by decide)).trans (s6), (up_ne (by decide)).trans (s7), (up_ne (by decide)).trans (s8), (up_ne (by decide)).trans (s9), (up_ne (by decide)).trans (s10), (up_ne (by decide)).trans (s11), (up_ne (by decide)).trans (s12), (up_ne (by decide)).trans (s13), (up_ne (by decide)).trans (s14)⟩ rfl rfl rfl rfl rfl
      exact ⟨_, B, r2, g2⟩
theorem c_goOnL {T : NT} {d : Nat} (hT : wfT T) (hd : 622 ≤ d) : ∀ (g n : Nat) (S : SS) (σ : St) (κ : KP) (w : WR) (h : AH), g + n = 201 → RKx T S σ κ w h → SB T S → ∃ σ' κ' w' h', E false mX3_goOn d 2 [(0, .ref 8), (1, .int (nI n))] [] h (some (.int (nI (goQ T g S).1))) h' ∧ RKx T (goQ T g S).2 σ' κ' w' h' ∧ CG h κ h' κ' := by
  intro g
  induction g with
  | zero =>
    intro n S σ κ w h hn r b
    exact ⟨σ, κ, w, h, j_X3_goOn_b_1 (Nat.zero_le _) h (nI n) (by rw [show n = 201 by omega]; decide), r, CG.rf _ _⟩
  | succ g ih =>
    intro n S σ κ w h hn r b
    have c0 : ¬ (200 < nI n) := nI_nlt (a := 200) (b := n) (by omega) (by omega)
    cases sp : qSp S with
    | true =>
      obtain ⟨-, ⟨Q, q, s0, s1, s2, s3, s4, s5, s6, s7, s8, s9, s10, s11, s12, s13, s14⟩, -⟩ := id r
      rw [go_sp sp]
      exact ⟨σ, κ, w, h, j_X3_goOn_b_2 (Nat.zero_le _) h (nI n) c0 Q q _ s5 (bI_t sp), r, CG.rf _ _⟩
    | false =>
      have si := b.2.2.2.2 sp
      obtain ⟨h1, r1, g1, k0, k1, k2⟩ := c_head r sp (n := n) (by omega) (d := d) (by omega) b.2.2.2.1
      have si1 := op_SI hT si
      obtain ⟨s1, p1, t1⟩ := op_same S
      rw [← p1] at k1 k2
      have gn' : qPe (opQ S) = [] → goQ T (g + 1) S = (0, opQ S) := go_nil sp
      have gc : ∀ row rest, qPe (opQ S) = row :: rest → goQ T (g + 1) S = if 200 ≤ qPl (opQ S) then goQ T g (spQ (opQ S)) else if (wayQ T (opQ S) row rest).1 then (1, (wayQ T (opQ S) row rest).2) else goQ T g (wayQ T (opQ S) row rest).2 := fun _ _ => go_cons sp
      generalize goQ T (g + 1) S = res at gn' gc ⊢
      generalize opQ S = S1 at *
      cases hp : qPe S1 with
      | nil => rw [gn' hp]; exact ⟨σ, κ, w, h1, k0 hp, r1, g1⟩
      | cons row rest =>
        rw [gc row rest hp]
        have ne : qPe S1 ≠ [] := by rw [hp]; intro q; cases q
        by_cases h2 : 200 ≤ qPl S1
        · rw [if_pos h2]
          obtain ⟨h2', j, r2, g2⟩ := k2 ne h2
          obtain ⟨σ', κ', w', h', x1, x2, x3⟩ := ih (n + 1) _ σ κ w h2' (by omega) r2 ⟨si1.1, si1.2.1, si1.2.2.1, si1.2.2.2.1, (fun q => by cases q)⟩
          exact ⟨σ', κ', w', h', E.st j x1, x2, g2.tr x3⟩
        · rw [if_neg h2]
          have j := k1 ne (by omega)
          obtain ⟨σ2, κ2, w2, h2', C, r2, g2⟩ := c_comes hT r1 si1 (by omega) hp (d := d - 1) (by omega)
          obtain ⟨-, ⟨Q1, q1, -⟩, -⟩ := id r1
          have CC : J false mX3_goOn d 61 [(0, .ref 8), (1, .int (nI n))] [.ref 8] h1 64 [(0, .ref 8), (1, .int (nI n))] [.int (bI (wayQ T S1 row rest).1)] h2' := (s_invv dX3_goOn_61 rfl lX3_88 (by omega) rfl (Nat.le_of_ble_eq_true rfl) rfl (Nat.le_of_ble_eq_true rfl) q1 C (fun h => nomatch h))
          cases bb : (wayQ T S1 row rest).1 with
          | true =>
            rw [bb] at CC
            rw [if_pos rfl]
            exact ⟨σ2, κ2, w2, h2', E.st j (E.st CC (j_X3_goOn_d_2 (Nat.zero_le _) h2' (nI n) _ (bI_t rfl))), r2, g1.tr g2⟩
          | false =>
            rw [bb] at CC
            rw [if_neg (by decide)]
            obtain ⟨σ', κ', w', h', x1, x2, x3⟩ := ih (n + 1) _ σ2 κ2 w2 h2' (by omega) r2 (way_SB hT si1 (by omega) hp).1
            have D := j_X3_goOn_d_1 (d := d) (Nat.zero_le _) h2' (nI n) _ (bI_f rfl)
            rw [nI_1] at D
            exact ⟨σ', κ', w', h', E.st j (E.st CC (E.st D x1)), x2, (g1.tr g2).tr x3⟩
theorem c_goOn {T : NT} {d : Nat} (hT : wfT T) (hd : 622 ≤ d) {S : SS} {σ : St} {κ : KP} {w : WR} {h : AH} (r : RKx T S σ κ w h) (b : SB T S) : ∃ σ' κ' w' h', CM mX3_goOn d [.ref 8] h (some (.int (nI (goQ T 201 S).1))) h' ∧ RKx T (goQ T 201 S).2 σ' κ' w' h' ∧ CG h κ h' κ' := by
  obtain ⟨σ', κ', w', h', x1, x2, x3⟩ := c_goOnL hT hd 201 0 S σ κ w h rfl r b
  exact ⟨σ', κ', w', h', E.st (j_X3_goOn_a_1 (Nat.zero_le _) h) x1, x2, x3⟩
theorem c_forgetL {T : NT} {S : SS} {σ : St} {κ : KP} {w : WR} {h : AH} {d : Nat} (r : RKx T S σ κ w h) (hd : 1 ≤ d) : ∃ h', CM mX1_forget d [.ref 9] h none h' ∧ RKx T (mkQ (qTh S) (qSp S) (qGo S) (qMo S) (qBo S) (qWe S) (qPe S) (qLa S) (qPl S) (qVa S) (qFa S) (qGu S) (qCu S) ([]) (0) ([])) σ κ w h' ∧ CG h κ h' κ := by
  obtain ⟨⟨rc, l0⟩, -, -, -, ⟨F, a, x0, x1, x2, x3⟩, tk, sl⟩ := id r
  obtain ⟨h1, c1, t1, f1, e2, e⟩ := TK_cutTo tk (d := 0) (n := 0) (by decide)
  obtain ⟨r1, g1⟩ := r.at10 t1 f1
  rw [κ_same] at r1 g1
  obtain ⟨G, _, _, gk, -⟩ := id tk
  obtain ⟨-, rs, b13, b16, ⟨F1, a1, y0, y1, y2, y3⟩, -⟩ := id r1
  have C := j_X1_forget_b_1 (d := d) (Nat.zero_le _) h1 F1 a1
  rw [hs_hs, hs_hs] at C
  obtain ⟨r3, g3⟩ := r1.low (S' := (mkQ (qTh S) (qSp S) (qGo S) (qMo S) (qBo S) (qWe S) (qPe S) (qLa S) (qPl S) (qVa S) (qFa S) (qGu S) (qCu S) ([]) (0) ([]))) (h' := hs h1 9 (ob 1 (fo 4 (va_up (va_up (va_up F1 1 (.long 0)) 2 (.int 0)) 3 (.int 0))))) rfl (fun x hx => hs_ne (by omega)) (rs.fr (hs_ne (by decide))) (b13.fr (hs_ne (by decide)) (hs_ne (by decide)) (hs_ne (by decide))) (b16.fr (hs_ne (by decide)) (hs_ne (by decide)) (hs_ne (by decide))) ⟨_, hs_eq, (up_ne (by decide)).trans ((up_ne (by decide)).trans ((up_ne (by decide)).trans y0)), (up_ne (by decide)).trans ((up_ne (by decide)).trans up_eq), (up_ne (by decide)).trans up_eq, up_eq⟩ rfl
  exact ⟨_, E.st (j_X1_forget_a_1 (Nat.zero_le _) h F a x0) (E.st (s_invv dX1_forget_5 rfl lX1_31 (by omega) rfl (Nat.le_of_ble_eq_true rfl) rfl (Nat.le_of_ble_eq_true rfl) gk c1 (fun h => nomatch h)) C), r3, g1.tr g3⟩
theorem BG.no {h : AH} {o : Nat} {bs : List Row} (r : BG h o bs) : ∃ F, h.1 o = ob 0 (fo 3 F) ∧ BG (hs h o (ob 0 (fo 3 (va_up F 2 (.int 0))))) o [] := by
  obtain ⟨F, f, g, a, b1, b2, b3, c, d, e, l⟩ := r
  exact ⟨F, a, _, f, g, hs_eq, (up_ne (by decide)).trans b1, (up_ne (by decide)).trans b2, up_eq, (hs_ne (by omega)).trans c, (hs_ne (by omega)).trans d, (fun i hi => absurd hi (Nat.not_lt_zero _)), Nat.zero_le _⟩
theorem c_forget {T : NT} {S : SS} {σ : St} {κ : KP} {w : WR} {h : AH} {d : Nat} (r : RKx T S σ κ w h) (hd : 2 ≤ d) : ∃ h', CM mX3_forget d [.ref 8] h none h' ∧ RKx T (fgQ S) σ κ w h' ∧ CG h κ h' κ := by
  obtain ⟨-, ⟨Q, q, s0, s1, s2, s3, s4, s5, s6, s7, s8, s9, s10, s11, s12, s13, s14⟩, b1, b2, b3, -⟩ := id r
  obtain ⟨G1, a1, n1⟩ := b1.no
  obtain ⟨G2, a2, n2⟩ := b2.no
  have A := j_X3_forget_a_1 (d := d) (by omega) h Q q s2 G1 a1 s3 G2 a2 s1
  simp only [hs_hs] at A
  obtain ⟨r1, g1⟩ := r.low (S' := (mkQ (false) (false) (qGo S) (qMo S) (qBo S) (qWe S) ([]) ([]) (0) (0) (0) (0) (0) (qRo S) (qLb S) (qTk S))) (h' := hs (hs (hs h 8 (ob 3 (fo 15 (va_up (va_up (va_up (va_up (va_up (va_up (va_up Q 4 (.int 0)) 5 (.int 0)) 10 (.int 0)) 11 (.int 0)) 12 (.int 0)) 13 (.int 0)) 14 (.int 0))))) 13 (ob 0 (fo 3 (va_up G1 2 (.int 0))))) 16 (ob 0 (fo 3 (va_up G2 2 (.int 0))))) rfl (fun x hx => (hs_ne (by omega)).trans ((hs_ne (by omega)).trans (hs_ne (by omega)))) ⟨_, (hs_ne (by decide)).trans ((hs_ne (by decide)).trans hs_eq), (up_ne (by decide)).trans ((up_ne (by decide)).trans ((up_ne (by decide)).trans ((up_ne (by decide)).trans ((up_ne (by decide)).trans ((up_ne (by decide)).trans ((up_ne (by decide)).trans (s0))))))), (up_ne (by decide)).trans ((up_ne (by decide)).trans ((up_ne (by decide)).trans ((up_ne (by decide)).trans ((up_ne (by decide)).trans ((up_ne (by decide)).trans ((up_ne (by decide)).trans (s1))))))), (up_ne (by decide)).trans ((up_ne (by decide)).trans ((up_ne (by decide)).trans ((up_ne (by decide)).trans ((up_ne (by decide)).trans ((up_ne (by decide)).trans ((up_ne (by decide)).trans (s2))))))), (up_ne (by decide)).trans ((up_ne (by decide)).trans ((up_ne (by decide)).trans ((up_ne (by decide)).trans ((up_ne (by decide)).trans ((up_ne (by decide)).trans ((up_ne (by decide)).trans (s3))))))), (up_ne (by decide)).trans ((up_ne (by decide)).trans ((up_ne (by decide)).trans ((up_ne (by decide)).trans ((up_ne (by decide)).trans ((up_ne (by decide)).trans (up_eq)))))), (up_ne (by decide)).trans ((up_ne (by decide)).trans ((up_ne (by decide)).trans ((up_ne (by decide)).trans ((up_ne (by decide)).trans (up_eq))))), (up_ne (by decide)).trans ((up_ne (by decide)).trans ((up_ne (by decide)).trans ((up_ne (by decide)).trans ((up_ne (by decide)).trans ((up_ne (by decide)).trans ((up_ne (by decide)).trans (s6))))))), (up_ne (by decide)).trans ((up_ne (by decide)).trans ((up_ne (by decide)).trans ((up_ne (by decide)).trans ((up_ne (by decide)).trans ((up_ne (by decide)).trans ((up_ne (by decide)).trans (s7))))))), (up_ne (by decide)).trans ((up_ne (by decide)).trans ((up_ne (by decide)).trans ((up_ne (by decide)).trans ((up_ne (by decide)).trans ((up_ne (by decide)).trans ((up_ne (by decide)).trans (s8))))))), (up_ne (by decide)).trans ((up_ne (by decide)).trans ((up_ne (by decide)).trans ((up_ne (by decide)).trans ((up_ne (by decide)).trans ((up_ne (by decide)).trans ((up_ne (by decide)).trans (s9))))))), (up_ne (by decide)).trans ((up_ne (by decide)).trans ((up_ne (by decide)).trans ((up_ne (by decide)).trans (up_eq)))), (up_ne (by decide)).trans ((up_ne (by decide)).trans ((up_ne (by decide)).trans (up_eq))), (up_ne (by decide)).trans ((up_ne (by decide)).trans (up_eq)), (up_ne (by decide)).trans (up_eq), up_eq⟩ (n1.fr ((hs_ne (by decide)).trans (hs_eq.trans hs_eq.symm)) ((hs_ne (by decide)).trans ((hs_ne (by decide)).trans ((hs_ne (by decide)).trans (hs_ne (by decide)).symm))) ((hs_ne (by decide)).trans ((hs_ne (by decide)).trans ((hs_ne (by decide)).trans (hs_ne (by decide)).symm)))) (n2.fr (hs_eq.trans hs_eq.symm) ((hs_ne (by decide)).trans ((hs_ne (by decide)).trans ((hs_ne (by decide)).trans (hs_ne (by decide)).symm))) ((hs_ne (by decide)).trans ((hs_ne (by decide)).trans ((hs_ne (by decide)).trans (hs_ne (by decide)).symm)))) (b3.fr ((hs_ne (by decide)).trans ((hs_ne (by decide)).trans (hs_ne (by decide))))) rfl
  obtain ⟨h2, C, r2, g2⟩ := c_forgetL r1 (d := 1) (Nat.le_refl _)
  obtain ⟨-, -, -, -, ⟨LF, lf, -⟩, -⟩ := id r1
  exact ⟨h2, E.st A (E.st (s_invv dX3_forget_53 rfl lX3_66 (by omega) rfl (Nat.le_of_ble_eq_true rfl) rfl (Nat.le_of_ble_eq_true rfl) lf C (fun h => nomatch h)) (j_X3_forget_b_1 (Nat.zero_le _) h2)), r2, g1.tr g2⟩
theorem c_begin1 {T : NT} {S : SS} {σ : St} {κ : KP} {w : WR} {h : AH} {d n mo bo : Nat} (r : RKx T S σ κ w h) (hd : 3 ≤ d) : ∃ h', CM mX3_begin d [.ref 8, .int (nI n), .int (nI mo), .int (nI bo)] h none h' ∧ RKx T (asQ n mo bo) σ κ w h' ∧ CG h κ h' κ := by
  obtain ⟨-, ⟨Q0, q0, -⟩, -⟩ := id r
  obtain ⟨h1, C, r1, g1⟩ := c_forget r (d := 2) (Nat.le_refl _)
  obtain ⟨-, ⟨Q, q, s0, s1, s2, s3, s4, s5, s6, s7, s8, s9, s10, s11, s12, s13, s14⟩, b1, b2, b3, -⟩ := id r1
  have b1 : BG h1 13 [] := b1
  obtain ⟨G, f, g, a, x1, x2, x3, x4, x5, x6, x7⟩ := id b1
  have A := j_X3_begin_b_1 (d := d) (by omega) h1 (nI n) (nI mo) (nI bo) Q q s2 G a _ x3 x2 202 g x5 (by decide) x1 202 f x4 (vp_in_nI (by decide) (by decide)) (vp_in_nI (by decide) (by decide))
  simp only [hs_hs] at A
  obtain ⟨r2, g2⟩ := r1.at8 (S' := (mkQ true false n mo bo bo [] [] 0 0 0 0 0 [] 0 [])) (c := ob 3 (fo 15 (va_up (va_up (va_up (va_up (va_up Q 4 (.int 1)) 6 (.int (nI n))) 7 (.int (nI mo))) 8 (.int (nI bo))) 9 (.int (nI bo))))) ⟨_, hs_eq, (up_ne (by decide)).trans ((up_ne (by decide)).trans ((up_ne (by decide)).trans ((up_ne (by decide)).trans ((up_ne (by decide)).trans (s0))))), (up_ne (by decide)).trans ((up_ne (by decide)).trans ((up_ne (by decide)).trans ((up_ne (by decide)).trans ((up_ne (by decide)).trans (s1))))), (up_ne (by decide)).trans ((up_ne (by decide)).trans ((up_ne (by decide)).trans ((up_ne (by decide)).trans ((up_ne (by decide)).trans (s2))))), (up_ne (by decide)).trans ((up_ne (by decide)).trans ((up_ne (by decide)).trans ((up_ne (by decide)).trans ((up_ne (by decide)).trans (s3))))), (up_ne (by decide)).trans ((up_ne (by decide)).trans ((up_ne (by decide)).trans ((up_ne (by decide)).trans (up_eq)))), (up_ne (by decide)).trans ((up_ne (by decide)).trans ((up_ne (by decide)).trans ((up_ne (by decide)).trans ((up_ne (by decide)).trans (s5))))), (up_ne (by decide)).trans ((up_ne (by decide)).trans ((up_ne (by decide)).trans (up_eq))), (up_ne (by decide)).trans ((up_ne (by decide)).trans (up_eq)), (up_ne (by decide)).trans (up_eq), up_eq, (up_ne (by decide)).trans ((up_ne (by decide)).trans ((up_ne (by decide)).trans ((up_ne (by decide)).trans ((up_ne (by decide)).trans (s10))))), (up_ne (by decide)).trans ((up_ne (by decide)).trans ((up_ne (by decide)).trans ((up_ne (by decide)).trans ((up_ne (by decide)).trans (s11))))), (up_ne (by decide)).trans ((up_ne (by decide)).trans ((up_ne (by decide)).trans ((up_ne (by decide)).trans ((up_ne (by decide)).trans (s12))))), (up_ne (by decide)).trans ((up_ne (by decide)).trans ((up_ne (by decide)).trans ((up_ne (by decide)).trans ((up_ne (by decide)).trans (s13))))), (up_ne (by decide)).trans ((up_ne (by decide)).trans ((up_ne (by decide)).trans ((up_ne (by decide)).trans ((up_ne (by decide)).trans (s14)))))⟩ rfl rfl rfl rfl rfl
  obtain ⟨-, rs2, -, b4, b5, -⟩ := id r2
  have bp := BG.put (h := hs h1 8 (ob 3 (fo 15 (va_up (va_up (va_up (va_up (va_up Q 4 (.int 1)) 6 (.int (nI n))) 7 (.int (nI mo))) 8 (.int (nI bo))) 9 (.int (nI bo)))))) (o := 13) (bs := []) (F := G) (f := f) (g := g) ⟨x1, x2⟩ (fun i hi => absurd hi (Nat.not_lt_zero _)) (by decide) []
  have k : ∀ x, x ≠ 13 → x ≠ 14 → x ≠ 15 → (hs (hs (hs (hs h1 8 (ob 3 (fo 15 (va_up (va_up (va_up (va_up (va_up Q 4 (.int 1)) 6 (.int (nI n))) 7 (.int (nI mo))) 8 (.int (nI bo))) 9 (.int (nI bo)))))) 14 (la 202 (vp_updL f 0 (lN (bv []))))) 15 (ia 202 (upd g 0 (nI ([] : Row).length)))) 13 (ob 0 (fo 3 (va_up G 2 (.int (nI (0 + 1))))))).1 x = (hs h1 8 (ob 3 (fo 15 (va_up (va_up (va_up (va_up (va_up Q 4 (.int 1)) 6 (.int (nI n))) 7 (.int (nI mo))) 8 (.int (nI bo))) 9 (.int (nI bo)))))).1 x := fun x e1 e2 e3 => (hs_ne e1).trans ((hs_ne e3).trans (hs_ne e2))
  obtain ⟨r3, g3⟩ := r2.low (S' := asQ n mo bo) (h' := hs (hs (hs (hs h1 8 (ob 3 (fo 15 (va_up (va_up (va_up (va_up (va_up Q 4 (.int 1)) 6 (.int (nI n))) 7 (.int (nI mo))) 8 (.int (nI bo))) 9 (.int (nI bo)))))) 14 (la 202 (vp_updL f 0 (lN (bv []))))) 15 (ia 202 (upd g 0 (nI ([] : Row).length)))) 13 (ob 0 (fo 3 (va_up G 2 (.int (nI (0 + 1))))))) rfl (fun x hx => k x (by omega) (by omega) (by omega)) (rs2.fr (k 8 (by decide) (by decide) (by decide))) bp (b4.fr (k _ (by decide) (by decide) (by decide)) (k _ (by decide) (by decide) (by decide)) (k _ (by decide) (by decide) (by decide))) (b5.fr (k _ (by decide) (by decide) (by decide))) rfl
  exact ⟨_, E.st (j_X3_begin_a_1 (Nat.zero_le _) h (nI n) (nI mo) (nI bo)) (E.st (s_invv dX3_begin_1 rfl lX3_67 (by omega) rfl (Nat.le_of_ble_eq_true rfl) rfl (Nat.le_of_ble_eq_true rfl) q0 C (fun h => nomatch h)) A), r3, (g1.tr g2).tr g3⟩
