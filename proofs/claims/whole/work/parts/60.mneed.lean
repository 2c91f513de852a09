/-! the working out as a whole, in the reference -/
theorem m_out {T : NT} {rec : Nat → St → Rs} {f n : Nat} {σ : St} {μ : KM} {F : Nat → Value} {I : AI} {L : AL} {h : AH} {d : Nat} (HN : CNd T rec f) (R : RH T rec f) (hT : wfT T) (hnf : n ≤ f) (hp : Pre T n σ) (hlab : sLab σ < 2000) (hv : sVal σ (sLev σ) n = none) (hl : lvOf (sIns σ) n (sLev σ) = sLev σ) (r : RMx T (wLab σ (sLab σ + 1)) 0 μ F I L h) (hd : 10 * n + 4 ≤ d) : ∃ μ' F' I' L' h', CM mX8_workOut d [.ref 65, .int (nI n)] h none h' ∧ MF h μ F I L h' μ' F' I' L' ∧ RMr T (wkP rec f T n (wLab σ (sLab σ + 1))) μ' F' I' L' h' := by
  have h60 := hT.1
  have hn := hp.2.1
  have m0 := lab_mid hp hlab
  have wf := hT.2 n hn
  obtain ⟨mh, fs, rn, mv, e26, -, -, hlen⟩ := id r
  have e7 : F 7 = .int (nI (sLev σ)) := mv.1.1
  have v8 : sLev σ < 6 := mv.2.2.2.2.2.2.2
  have cl : (nI n).toNatClampNeg = n := nI_clamp (by omega)
  have vn : vp_in (nI n) 60 := vp_in_nI (by omega) (by decide)
  have vz : vp_in (nI (60 * sLev σ + n)) 360 := vp_in_nI (by omega) (by decide)
  have cz : (nI (60 * sLev σ + n)).toNatClampNeg = 60 * sLev σ + n := nI_clamp (by omega)
  have ez : (60 * nI (sLev σ)) + nI n = nI (60 * sLev σ + n) := by rw [show (60 : Int32) = nI 60 from rfl, pk_mul, nI_add]
  have s3 : I 66 (nI n).toNatClampNeg = tS T n := by rw [cl, (rn.2 n hn).1]
  unfold wkP
  unfold wfN at wf
  by_cases e0 : tS T n = 0
  · rw [if_pos e0]
    have B := j_X8_workOut_a_1 (d := d) (by omega) h (nI n) μ.1 μ.2.1 F mh.1 _ e7 _ ez (fs.r (by decide)) 60 (I 66) (mh.i (by decide)) (by assumption) (by rw [s3, e0]) (fs.r (by decide)) 60 (L 67) (mh.l (by decide)) (by assumption) (fs.r (by decide)) 360 (I 72) (mh.i (by decide)) vz (fs.r (by decide)) 360 (L 73) (mh.l (by decide)) vz
    rw [cz, cl, (rn.2 n hn).2.2.2.2 e0] at B
    obtain ⟨r1, f1⟩ := r.tell (n := n) (by omega) (tV T n)
    exact ⟨μ, F, _, _, _, B, f1, r1.r⟩
  rw [if_neg e0]
  by_cases e1 : tS T n = 1
  · rw [if_pos e1]
    have wf : okA T n ∧ okB T n := by
      rw [e1] at wf
      rcases wf with w | w | w | w | w | w | w | w | w | w <;> first | exact w.2 | exact absurd w (by decide) | exact absurd w.1 (by decide)
    obtain ⟨μ1, F1, I1, L1, h1, c1, f1, r1⟩ := m_choose (d := d - 1) HN R hT hnf hp hlab hv r wf.1 wf.2 (by omega)
    exact ⟨μ1, F1, I1, L1, h1, E.st (j_X8_workOut_a_2 (d := d) (by omega) h (nI n) μ.1 μ.2.1 F mh.1 _ e7 _ ez (fs.r (by decide)) 60 (I 66) (mh.i (by decide)) (by assumption) (by rw [s3, e1])) (E.st (s_invv dX8_workOut_85 rfl lX8_146 (by omega) rfl (Nat.le_of_ble_eq_true rfl) rfl (Nat.le_of_ble_eq_true rfl) mh.1 c1 (fun h => nomatch h)) (j_X8_workOut_b88_1 (Nat.zero_le _) h1 _ _ 0 0)), f1, r1⟩
  rw [if_neg e1]
  by_cases e2 : tS T n = 2
  · rw [if_pos e2]
    obtain ⟨r1, f1⟩ := r.stop 1 (by decide)
    exact ⟨μ, _, I, L, _, j_X8_workOut_a_3 (d := d) (by omega) h (nI n) μ.1 μ.2.1 F mh.1 _ e7 _ ez (fs.r (by decide)) 60 (I 66) (mh.i (by decide)) (by assumption) (by rw [s3, e2]), f1, r1.r⟩
  rw [if_neg e2]
  by_cases e3 : tS T n = 3
  · rw [if_pos e3]
    have B := j_X8_workOut_a_4 (d := d) (by omega) h (nI n) μ.1 μ.2.1 F mh.1 _ e7 _ ez (fs.r (by decide)) 60 (I 66) (mh.i (by decide)) (by assumption) (by rw [s3, e3]) (fs.r (by decide)) 360 (I 72) (mh.i (by decide)) (by assumption) (fs.r (by decide)) (fs.r (by decide)) 60 (I 68) (mh.i (by decide)) (by assumption) 360 (I 74) (mh.i (by decide)) (by assumption) (fs.r (by decide)) (fs.r (by decide)) 60 (I 69) (mh.i (by decide)) (by assumption) 360 (I 75) (mh.i (by decide)) (by assumption)
    rw [cz, cl, (rn.2 n hn).2.1, (rn.2 n hn).2.2.1] at B
    have s := (((ST.rf mh).i (x := 72) (n := 360) (by decide) (by decide) (upd (I 72) (60 * sLev σ + n) 2)).i (x := 74) (n := 360) (by decide) (by decide) (upd (I 74) (60 * sLev σ + n) (T.2.2.1 n))).i (x := 75) (n := 360) (by decide) (by decide) (upd (I 75) (60 * sLev σ + n) (T.2.2.2.1 n))
    have mv' := mv.sv (n := n) (by omega) (.inr (.inl n)) (I' := va_up (va_up (va_up I 72 (upd (I 72) (60 * sLev σ + n) 2)) 74 (upd (I 74) (60 * sLev σ + n) (T.2.2.1 n))) 75 (upd (I 75) (60 * sLev σ + n) (T.2.2.2.1 n))) (L' := L) (fun w a b c => by rw [up_ne c, up_ne b, up_ne a]) (fun w a => rfl) (fun j hj => by have hj : j ≠ 60 * sLev σ + n := hj; rw [up_ne (by decide), up_ne (by decide), up_eq, pk_un hj]) (fun j hj => rfl) (fun j hj => by have hj : j ≠ 60 * sLev σ + n := hj; rw [up_ne (by decide), up_eq, pk_un hj]) (fun j hj => by have hj : j ≠ 60 * sLev σ + n := hj; rw [up_eq, pk_un hj]) (by
      show MVal T (some (.inr (.inl n))) (va_up (va_up (va_up I 72 _) 74 _) 75 _ 72 (60 * sLev σ + n)) _ (va_up (va_up (va_up I 72 _) 74 _) 75 _ 74 (60 * sLev σ + n)) (va_up (va_up (va_up I 72 _) 74 _) 75 _ 75 (60 * sLev σ + n))
      simp only [up_eq, up_ne (show (72 : Nat) ≠ 75 by decide), up_ne (show (72 : Nat) ≠ 74 by decide), up_ne (show (74 : Nat) ≠ 75 by decide), pk_us]
      exact ⟨rfl, rfl, rfl⟩)
    obtain ⟨x1, x2⟩ := r.val s mv' hlen
    exact ⟨μ, F, _, _, _, B, x2, x1.r⟩
  rw [if_neg e3]
  by_cases e4' : tS T n = 4
  · rw [if_pos e4']
    have wf : okA T n := by
      rw [e4'] at wf
      rcases wf with w | w | w | w | w | w | w | w | w | w <;> first | exact absurd w (by decide) | exact absurd w.1 (by decide) | exact w.2
    have ha := wf.2
    have P := R (tA T n) (by omega) (wLab σ (sLab σ + 1)) (m0.pre hp hv ha)
    obtain ⟨μ1, F1, I1, L1, h1, c1, f1, x1, x2, x3⟩ := m_needAs (d := d - 1) HN R hT (x := tA T n) (by omega) (m0.pre hp hv ha) r (by omega) 2
    have e4 : I 68 (nI n).toNatClampNeg = nI (tA T n) := by rw [cl, (rn.2 n hn).2.1]; exact wf.1
    have B := j_X8_workOut_a_5 (d := d) (by omega) h (nI n) μ.1 μ.2.1 F mh.1 _ e7 _ ez (fs.r (by decide)) 60 (I 66) (mh.i (by decide)) (by assumption) (by rw [s3, e4']) (fs.r (by decide)) 60 (I 68) (mh.i (by decide)) (by assumption)
    rw [e4] at B
    have go : ∀ {h' : AH}, E false mX8_workOut d 144 [(0, .ref 65), (1, .int (nI n)), (2, .int (nI (60 * sLev σ + n)))] [] h1 none h' → CM mX8_workOut d [.ref 65, .int (nI n)] h none h' := fun w => E.st B (E.st (s_invv dX8_workOut_141 rfl lX8_150 (by omega) rfl (Nat.le_of_ble_eq_true rfl) rfl (Nat.le_of_ble_eq_true rfl) r.1.1 c1 (fun h => nomatch h)) w)
    by_cases z : (rec (tA T n) (wLab σ (sLab σ + 1))).1 = 0
    · by_cases y : kO (gv (rec (tA T n) (wLab σ (sLab σ + 1))).2 (tA T n)) = 2
      · obtain ⟨p, ga⟩ := kO_pair y
        rw [nAs_0 z (a := p) (by rw [ga]; rfl)]
        have m2 := m0.post ha P z
        have r2 := x2 z y
        have l1 : sLev (rec (tA T n) (wLab σ (sLab σ + 1))).2 = sLev σ := m2.1.1
        generalize (rec (tA T n) (wLab σ (sLab σ + 1))).2 = σ2 at m2 r2 ga l1
        obtain ⟨qa, ca, ha1, ha2, ha3, ha4⟩ := r2.cell m2.2.1 hT (n := tA T n) (by omega)
        obtain ⟨-, a2⟩ := gv_ok m2.2.1 ga
        rw [ga] at ha4
        have pn := a2.1
        have hpt : p < tN T := by omega
        obtain ⟨pa, pb⟩ := pair_args hT hpt a2.2
        have wp := hT.2 p hpt
        have wp : okA T p ∧ okB T p := by
          unfold wfN at wp
          rw [a2.2] at wp
          rcases wp with w | w | w | w | w | w | w | w | w | w <;> first | exact w.2 | exact absurd w (by decide) | exact absurd w.1 (by decide)
        clear mh fs rn mv e26 hlen e4 B s3
        obtain ⟨mh, fs, rn, mv, e26, -⟩ := id r2
        have s3 : I1 66 (nI n).toNatClampNeg = tS T n := by rw [cl, (rn.2 n hn).1]
        have e4 : I1 68 (nI n).toNatClampNeg = nI (tA T n) := by rw [cl, (rn.2 n hn).2.1]; exact wf.1
        have ca' : CM mX8_cellOf 3 [.ref 65, .int (I1 68 (nI n).toNatClampNeg)] h1 (some (.int (nI qa))) h1 := by rw [e4]; exact ca
        have D := j_X8_workOut_c_3 (d := d) (by omega) h1 (nI n) (nI (60 * sLev σ + n)) μ1.1 μ1.2.1 F1 mh.1 _ e26 rfl (fs.r (by decide)) 60 (I1 66) (mh.i (by decide)) (by assumption) (by rw [s3, e4']) (fs.r (by decide)) (fs.r (by decide)) 60 (I1 68) (mh.i (by decide)) (by assumption) (nI qa) ca' 360 (I1 74) (mh.i (by decide)) ha3
        rw [ha2, ha4.2.1, wp.1.1] at D
        obtain ⟨μ2, F2, I2, L2, h2, c2, f2, r3⟩ := m_take (d := d - 1) HN R hT (x := tA T p) (n := n) (by omega) (by omega) (m2.pre hp hv (by omega)) r2 (by omega)
        rw [l1] at c2
        exact ⟨μ2, F2, I2, L2, h2, go (E.st D (E.st (s_invv dX8_workOut_196 rfl lX8_156 (by omega) rfl (Nat.le_of_ble_eq_true rfl) rfl (Nat.le_of_ble_eq_true rfl) r2.1.1 c2 (fun h => nomatch h)) (j_X8_workOut_b199_1 (Nat.zero_le _) h2 _ _ 0 0))), f1.tr f2, r3⟩
      · rw [nAs_f z (kO_pairN y)]
        have r2 := x3 z y
        exact ⟨μ1, F1, I1, L1, h1, go (j_X8_workOut_c_1 (Nat.zero_le _) h1 _ _ 0 0 F1 r2.1.1 _ r2.2.2.2.2.1 (by decide)), f1, r2.r⟩
    · rw [nAs_b z]
      have r2 := x1 z
      obtain ⟨mh1, -⟩ := r2.w
      exact ⟨μ1, F1, I1, L1, h1, go (j_X8_workOut_c_1 (Nat.zero_le _) h1 _ _ 0 0 F1 mh1.1 _ r2.1 (fun q => z ((nI_eq (by have := P.1; omega) (by decide)).mp q))), f1, r2⟩
  rw [if_neg e4']
  by_cases e5' : tS T n = 5
  · rw [if_pos e5']
    have wf : okA T n := by
      rw [e5'] at wf
      rcases wf with w | w | w | w | w | w | w | w | w | w <;> first | exact absurd w (by decide) | exact absurd w.1 (by decide) | exact w.2
    have ha := wf.2
    have P := R (tA T n) (by omega) (wLab σ (sLab σ + 1)) (m0.pre hp hv ha)
    obtain ⟨μ1, F1, I1, L1, h1, c1, f1, x1, x2, x3⟩ := m_needAs (d := d - 1) HN R hT (x := tA T n) (by omega) (m0.pre hp hv ha) r (by omega) 2
    have e4 : I 68 (nI n).toNatClampNeg = nI (tA T n) := by rw [cl, (rn.2 n hn).2.1]; exact wf.1
    have B := j_X8_workOut_a_6 (d := d) (by omega) h (nI n) μ.1 μ.2.1 F mh.1 _ e7 _ ez (fs.r (by decide)) 60 (I 66) (mh.i (by decide)) (by assumption) (by rw [s3, e5']) (fs.r (by decide)) 60 (I 68) (mh.i (by decide)) (by assumption)
    rw [e4] at B
    have go : ∀ {h' : AH}, E false mX8_workOut d 144 [(0, .ref 65), (1, .int (nI n)), (2, .int (nI (60 * sLev σ + n)))] [] h1 none h' → CM mX8_workOut d [.ref 65, .int (nI n)] h none h' := fun w => E.st B (E.st (s_invv dX8_workOut_141 rfl lX8_150 (by omega) rfl (Nat.le_of_ble_eq_true rfl) rfl (Nat.le_of_ble_eq_true rfl) r.1.1 c1 (fun h => nomatch h)) w)
    by_cases z : (rec (tA T n) (wLab σ (sLab σ + 1))).1 = 0
    · by_cases y : kO (gv (rec (tA T n) (wLab σ (sLab σ + 1))).2 (tA T n)) = 2
      · obtain ⟨p, ga⟩ := kO_pair y
        rw [nAs_0 z (a := p) (by rw [ga]; rfl)]
        have m2 := m0.post ha P z
        have r2 := x2 z y
        have l1 : sLev (rec (tA T n) (wLab σ (sLab σ + 1))).2 = sLev σ := m2.1.1
        generalize (rec (tA T n) (wLab σ (sLab σ + 1))).2 = σ2 at m2 r2 ga l1
        obtain ⟨qa, ca, ha1, ha2, ha3, ha4⟩ := r2.cell m2.2.1 hT (n := tA T n) (by omega)
        obtain ⟨-, a2⟩ := gv_ok m2.2.1 ga
        rw [ga] at ha4
        have pn := a2.1
        have hpt : p < tN T := by omega
        obtain ⟨pa, pb⟩ := pair_args hT hpt a2.2
        have wp := hT.2 p hpt
        have wp : okA T p ∧ okB T p := by
          unfold wfN at wp
          rw [a2.2] at wp
          rcases wp with w | w | w | w | w | w | w | w | w | w <;> first | exact w.2 | exact absurd w (by decide) | exact absurd w.1 (by decide)
        clear mh fs rn mv e26 hlen e4 B s3
        obtain ⟨mh, fs, rn, mv, e26, -⟩ := id r2
        have s3 : I1 66 (nI n).toNatClampNeg = tS T n := by rw [cl, (rn.2 n hn).1]
        have e4 : I1 68 (nI n).toNatClampNeg = nI (tA T n) := by rw [cl, (rn.2 n hn).2.1]; exact wf.1
        have ca' : CM mX8_cellOf 3 [.ref 65, .int (I1 68 (nI n).toNatClampNeg)] h1 (some (.int (nI qa))) h1 := by rw [e4]; exact ca
        have D := j_X8_workOut_c_2 (d := d) (by omega) h1 (nI n) (nI (60 * sLev σ + n)) μ1.1 μ1.2.1 F1 mh.1 _ e26 rfl (fs.r (by decide)) 60 (I1 66) (mh.i (by decide)) (by assumption) (by rw [s3, e5']; decide) (fs.r (by decide)) (fs.r (by decide)) 60 (I1 68) (mh.i (by decide)) (by assumption) (nI qa) ca' 360 (I1 75) (mh.i (by decide)) ha3
        rw [ha2, ha4.2.2, wp.2.1] at D
        obtain ⟨μ2, F2, I2, L2, h2, c2, f2, r3⟩ := m_take (d := d - 1) HN R hT (x := tB T p) (n := n) (by omega) (by omega) (m2.pre hp hv (by omega)) r2 (by omega)
        rw [l1] at c2
        exact ⟨μ2, F2, I2, L2, h2, go (E.st D (E.st (s_invv dX8_workOut_196 rfl lX8_156 (by omega) rfl (Nat.le_of_ble_eq_true rfl) rfl (Nat.le_of_ble_eq_true rfl) r2.1.1 c2 (fun h => nomatch h)) (j_X8_workOut_b199_1 (Nat.zero_le _) h2 _ _ 0 0))), f1.tr f2, r3⟩
      · rw [nAs_f z (kO_pairN y)]
        have r2 := x3 z y
        exact ⟨μ1, F1, I1, L1, h1, go (j_X8_workOut_c_1 (Nat.zero_le _) h1 _ _ 0 0 F1 r2.1.1 _ r2.2.2.2.2.1 (by decide)), f1, r2.r⟩
    · rw [nAs_b z]
      have r2 := x1 z
      obtain ⟨mh1, -⟩ := r2.w
      exact ⟨μ1, F1, I1, L1, h1, go (j_X8_workOut_c_1 (Nat.zero_le _) h1 _ _ 0 0 F1 mh1.1 _ r2.1 (fun q => z ((nI_eq (by have := P.1; omega) (by decide)).mp q))), f1, r2⟩
  rw [if_neg e5']
  by_cases e6 : tS T n = 6
  · rw [if_pos e6]
    have wf : okA T n ∧ okB T n ∧ ∃ j, j ≤ 5 ∧ T.2.2.2.2.1 n = nI j := by
      rw [e6] at wf
      rcases wf with w | w | w | w | w | w | w | w | w | w <;> first | exact absurd w (by decide) | exact absurd w.1 (by decide) | exact w.2
    obtain ⟨μ1, F1, I1, L1, h1, c1, f1, r1⟩ := m_reckon (d := d - 1) HN R hT hnf m0 hp hv r wf.1 wf.2.1 wf.2.2 (by omega)
    exact ⟨μ1, F1, I1, L1, h1, E.st (j_X8_workOut_a_7 (d := d) (by omega) h (nI n) μ.1 μ.2.1 F mh.1 _ e7 _ ez (fs.r (by decide)) 60 (I 66) (mh.i (by decide)) (by assumption) (by rw [s3, e6])) (E.st (s_invv dX8_workOut_205 rfl lX8_159 (by omega) rfl (Nat.le_of_ble_eq_true rfl) rfl (Nat.le_of_ble_eq_true rfl) mh.1 c1 (fun h => nomatch h)) (j_X8_workOut_b208_1 (Nat.zero_le _) h1 _ _ 0 0)), f1, r1⟩
  rw [if_neg e6]
  by_cases e7' : tS T n = 7
  · rw [if_pos e7']
    have wf : okA T n ∧ okB T n ∧ okC T n := by
      rw [e7'] at wf
      rcases wf with w | w | w | w | w | w | w | w | w | w <;> first | exact absurd w (by decide) | exact absurd w.1 (by decide) | exact w.2
    have ha := wf.1.2
    have hb := wf.2.1.2
    have hc := wf.2.2.2
    have P := R (tA T n) (by omega) (wLab σ (sLab σ + 1)) (m0.pre hp hv ha)
    obtain ⟨μ1, F1, I1, L1, h1, c1, f1, x1, x2, x3⟩ := m_needAs (d := d - 1) HN R hT (x := tA T n) (by omega) (m0.pre hp hv ha) r (by omega) 1
    have e4 : I 68 (nI n).toNatClampNeg = nI (tA T n) := by rw [cl, (rn.2 n hn).2.1]; exact wf.1.1
    have B := j_X8_workOut_a_8 (d := d) (by omega) h (nI n) μ.1 μ.2.1 F mh.1 _ e7 _ ez (fs.r (by decide)) 60 (I 66) (mh.i (by decide)) (by assumption) (by rw [s3, e7']) (fs.r (by decide)) 60 (I 68) (mh.i (by decide)) (by assumption)
    rw [e4] at B
    have go : ∀ {h' : AH}, E false mX8_workOut d 222 [(0, .ref 65), (1, .int (nI n)), (2, .int (nI (60 * sLev σ + n)))] [] h1 none h' → CM mX8_workOut d [.ref 65, .int (nI n)] h none h' := fun w => E.st B (E.st (s_invv dX8_workOut_219 rfl lX8_150 (by omega) rfl (Nat.le_of_ble_eq_true rfl) rfl (Nat.le_of_ble_eq_true rfl) r.1.1 c1 (fun h => nomatch h)) w)
    by_cases z : (rec (tA T n) (wLab σ (sLab σ + 1))).1 = 0
    · by_cases y : kO (gv (rec (tA T n) (wLab σ (sLab σ + 1))).2 (tA T n)) = 1
      · obtain ⟨va, ga⟩ := kO_num y
        rw [nAs_0 z (a := va) (by rw [ga]; rfl)]
        have m2 := m0.post ha P z
        have r2 := x2 z y
        have l1 : sLev (rec (tA T n) (wLab σ (sLab σ + 1))).2 = sLev σ := m2.1.1
        generalize (rec (tA T n) (wLab σ (sLab σ + 1))).2 = σ2 at m2 r2 ga l1
        obtain ⟨qa, ca, ha1, ha2, ha3, ha4⟩ := r2.cell m2.2.1 hT (n := tA T n) (by omega)
        rw [ga] at ha4
        clear mh fs rn mv e26 hlen e4 B s3
        obtain ⟨mh, fs, rn, mv, e26, -⟩ := id r2
        have e4 : I1 68 (nI n).toNatClampNeg = nI (tA T n) := by rw [cl, (rn.2 n hn).2.1]; exact wf.1.1
        have ca' : CM mX8_cellOf 3 [.ref 65, .int (I1 68 (nI n).toNatClampNeg)] h1 (some (.int (nI qa))) h1 := by rw [e4]; exact ca
        have na : L1 73 (nI qa).toNatClampNeg = va := by rw [ha2]; exact ha4.2
        show ∃ μ' F' I' L' h', CM mX8_workOut d [.ref 65, .int (nI n)] h none h' ∧ MF h μ F I L h' μ' F' I' L' ∧ RMr T (tkP rec n (if va = 0 then tC T n else tB T n) σ2) μ' F' I' L' h'
        by_cases v0 : va = 0
        · rw [if_pos v0]
          have e6' : I1 70 (nI n).toNatClampNeg = nI (tC T n) := by rw [cl, (rn.2 n hn).2.2.2.1]; exact wf.2.2.1
          have D := j_X8_workOut_d_2 (d := d) (by omega) h1 (nI n) (nI (60 * sLev σ + n)) μ1.1 μ1.2.1 F1 mh.1 _ e26 rfl (fs.r (by decide)) (fs.r (by decide)) 60 (I1 68) (mh.i (by decide)) (by assumption) (nI qa) ca' 360 (L1 73) (mh.l (by decide)) ha3 (by rw [na]; exact v0) (fs.r (by decide)) 60 (I1 70) (mh.i (by decide)) (by assumption)
          rw [e6'] at D
          obtain ⟨μ2, F2, I2, L2, h2, c2, f2, r3⟩ := m_take (d := d - 1) HN R hT (x := tC T n) (n := n) (by omega) (by omega) (m2.pre hp hv (by omega)) r2 (by omega)
          rw [l1] at c2
          exact ⟨μ2, F2, I2, L2, h2, go (E.st D (E.st (s_invv dX8_workOut_266 rfl lX8_156 (by omega) rfl (Nat.le_of_ble_eq_true rfl) rfl (Nat.le_of_ble_eq_true rfl) r2.1.1 c2 (fun h => nomatch h)) (j_X8_workOut_b269_1 (Nat.zero_le _) h2 _ _ 0 0))), f1.tr f2, r3⟩
        · rw [if_neg v0]
          have e6' : I1 69 (nI n).toNatClampNeg = nI (tB T n) := by rw [cl, (rn.2 n hn).2.2.1]; exact wf.2.1.1
          have D := j_X8_workOut_d_3 (d := d) (by omega) h1 (nI n) (nI (60 * sLev σ + n)) μ1.1 μ1.2.1 F1 mh.1 _ e26 rfl (fs.r (by decide)) (fs.r (by decide)) 60 (I1 68) (mh.i (by decide)) (by assumption) (nI qa) ca' 360 (L1 73) (mh.l (by decide)) ha3 (by rw [na]; exact v0) (fs.r (by decide)) 60 (I1 69) (mh.i (by decide)) (by assumption)
          rw [e6'] at D
          obtain ⟨μ2, F2, I2, L2, h2, c2, f2, r3⟩ := m_take (d := d - 1) HN R hT (x := tB T n) (n := n) (by omega) (by omega) (m2.pre hp hv (by omega)) r2 (by omega)
          rw [l1] at c2
          exact ⟨μ2, F2, I2, L2, h2, go (E.st D (E.st (s_invv dX8_workOut_266 rfl lX8_156 (by omega) rfl (Nat.le_of_ble_eq_true rfl) rfl (Nat.le_of_ble_eq_true rfl) r2.1.1 c2 (fun h => nomatch h)) (j_X8_workOut_b269_1 (Nat.zero_le _) h2 _ _ 0 0))), f1.tr f2, r3⟩
      · rw [nAs_f z (kO_numN y)]
        have r2 := x3 z y
        exact ⟨μ1, F1, I1, L1, h1, go (j_X8_workOut_d_1 (Nat.zero_le _) h1 _ _ 0 0 F1 r2.1.1 _ r2.2.2.2.2.1 (by decide)), f1, r2.r⟩
    · rw [nAs_b z]
      have r2 := x1 z
      obtain ⟨mh1, -⟩ := r2.w
      exact ⟨μ1, F1, I1, L1, h1, go (j_X8_workOut_d_1 (Nat.zero_le _) h1 _ _ 0 0 F1 mh1.1 _ r2.1 (fun q => z ((nI_eq (by have := P.1; omega) (by decide)).mp q))), f1, r2⟩
  rw [if_neg e7']
  by_cases e8 : tS T n = 8
  · rw [if_pos e8]
    have wf : okA T n ∧ T.2.2.2.1 n = nI (tB T n) ∧ tB T n ≤ n := by
      rw [e8] at wf
      rcases wf with w | w | w | w | w | w | w | w | w | w <;> first | exact absurd w (by decide) | exact absurd w.1 (by decide) | exact w.2
    have hcase : ∃ μ' F' I' L' h', CM mX8_goAll (d - 1) [.ref 65, .int (nI (60 * sLev σ + n)), .int (nI n)] h none h' ∧ MF h μ F I L h' μ' F' I' L' ∧ RMr T (if sLev (wLab σ (sLab σ + 1)) = 5 then (2, wLab σ (sLab σ + 1)) else goP rec (tfP rec T f (tA T n)) (tB T n) n 61 (wLab σ (sLab σ + 1))) μ' F' I' L' h' := by
      by_cases e : sLev σ = 5
      · rw [if_pos (show sLev (wLab σ (sLab σ + 1)) = 5 from e)]
        obtain ⟨r1, f1⟩ := r.stop 2 (by decide)
        exact ⟨μ, _, I, L, _, j_X8_goAll_a_2 (d := d - 1) (Nat.zero_le _) h _ _ 0 0 F mh.1 _ e7 (by rw [e]; rfl), f1, r1.r⟩
      · rw [if_neg (show ¬ sLev (wLab σ (sLab σ + 1)) = 5 from e)]
        obtain ⟨μ1, F1, I1, L1, h1, c1, f1, r1⟩ := m_goLoop (d := d - 1) HN R hT hnf hp hv hl (by omega) wf.1 wf.2.1 (by have := wf.2.2; omega) (by omega) 61 (wLab σ (sLab σ + 1)) μ F I L h m0 (by have := cn_le (sVal (wLab σ (sLab σ + 1)) (sLev σ)) 60; omega) r
        exact ⟨μ1, F1, I1, L1, h1, E.st (j_X8_goAll_a_1 (Nat.zero_le _) h _ _ 0 0 F mh.1 _ e7 (fun q => e ((nI_eq (b := 5) (by omega) (by decide)).mp q))) c1, f1, r1⟩
    obtain ⟨μ1, F1, I1, L1, h1, c1, f1, r1⟩ := hcase
    exact ⟨μ1, F1, I1, L1, h1, E.st (j_X8_workOut_a_9 (d := d) (by omega) h (nI n) μ.1 μ.2.1 F mh.1 _ e7 _ ez (fs.r (by decide)) 60 (I 66) (mh.i (by decide)) (by assumption) (by rw [s3, e8])) (E.st (s_invv dX8_workOut_275 rfl lX8_162 (by omega) rfl (Nat.le_of_ble_eq_true rfl) rfl (Nat.le_of_ble_eq_true rfl) mh.1 c1 (fun h => nomatch h)) (j_X8_workOut_b278_1 (Nat.zero_le _) h1 _ _ 0 0)), f1, r1⟩
  rw [if_neg e8]
  have wf : tS T n = 9 ∧ okA T n ∧ ∃ j, j ≤ 2 ∧ T.2.2.2.1 n = nI j := by
    rcases wf with w | w | w | w | w | w | w | w | w | w <;> first | exact absurd w e0 | exact absurd w.1 e1 | exact absurd w e2 | exact absurd w.1 e3 | exact absurd w.1 e4' | exact absurd w.1 e5' | exact absurd w.1 e6 | exact absurd w.1 e7' | exact absurd w.1 e8 | exact w
  obtain ⟨μ1, F1, I1, L1, h1, c1, f1, r1⟩ := m_foldUp (d := d - 1) HN R hT hnf m0 hp hv r wf.2.1 wf.2.2 (by omega)
  exact ⟨μ1, F1, I1, L1, h1, E.st (j_X8_workOut_a_10 (d := d) (by omega) h (nI n) μ.1 μ.2.1 F mh.1 _ e7 _ ez (fs.r (by decide)) 60 (I 66) (mh.i (by decide)) (by assumption) (by rw [s3, wf.1]; decide)) (E.st (s_invv dX8_workOut_284 rfl lX8_165 (by omega) rfl (Nat.le_of_ble_eq_true rfl) rfl (Nat.le_of_ble_eq_true rfl) mh.1 c1 (fun h => nomatch h)) (j_X8_workOut_b287_1 (Nat.zero_le _) h1 _ _ 0 0)), f1, r1⟩
/-- the reference works out as the pure state says -/
theorem m_need {T : NT} (hT : wfT T) : ∀ f, CNd T (ndP T f) f
  | 0 => fun n _ _ _ _ _ _ _ hn => by omega
  | f + 1 => fun n σ μ F I L h d hn hp r hd => by
    have h60 := hT.1
    obtain ⟨hI, hnt, -⟩ := id hp
    obtain ⟨mh, fs, rn, mv, e26, ⟨⟨x27, e27⟩, x28, e28⟩, -, hlen⟩ := id r
    obtain ⟨⟨e7, e15, e25⟩, v2, v3, v4, v5, v6, v7, v8⟩ := id mv
    have hlv := lvOf_le (sIns σ) n (sLev σ)
    have hq := c_level r hI.1.2 (n := n) (by omega) (d := 2)
    have ez : (60 * nI (lvOf (sIns σ) n (sLev σ))) + nI n = nI (60 * lvOf (sIns σ) n (sLev σ) + n) := by rw [show (60 : Int32) = nI 60 from rfl, pk_mul, nI_add]
    have vz : vp_in (nI (60 * lvOf (sIns σ) n (sLev σ) + n)) 360 := vp_in_nI (by omega) (by decide)
    have cz : (nI (60 * lvOf (sIns σ) n (sLev σ) + n)).toNatClampNeg = 60 * lvOf (sIns σ) n (sLev σ) + n := nI_clamp (by omega)
    have mq := (v3 _ hlv n (by omega)).k
    have mq : I 72 (60 * lvOf (sIns σ) n (sLev σ) + n) = kO (gv σ n) := mq
    cases eg : gv σ n with
    | some x =>
      have e : ndP T (f + 1) n σ = (0, σ) := by unfold ndP; rw [eg]; rfl
      have nk : ¬ kO (some x) ≤ 0 := by
        match x with
        | .inl _ => show ¬ (1 : Int32) ≤ 0; decide
        | .inr (.inl _) => show ¬ (2 : Int32) ≤ 0; decide
        | .inr (.inr _) => show ¬ (3 : Int32) ≤ 0; decide
      rw [e]
      exact ⟨μ, F, I, L, h, j_X8_need_a_4 (d := d) (by omega) h (nI n) μ.1 μ.2.1 F mh.1 _ hq (fs.r (by decide)) _ ez 360 (I 72) (mh.i (by decide)) vz (by rw [cz, mq, eg]; exact nk), MF.rf _ _ _ _ _, r.r⟩
    | none =>
      rw [eg] at mq
      by_cases hl : lvOf (sIns σ) n (sLev σ) < sLev σ
      · have e : ndP T (f + 1) n σ = (4, wWant σ n (lvOf (sIns σ) n (sLev σ))) := by
          unfold ndP
          rw [eg, if_neg (by decide), if_pos hl]
        have B := j_X8_need_a_3 (d := d) (by omega) h (nI n) μ.1 μ.2.1 F mh.1 _ hq (fs.r (by decide)) _ ez 360 (I 72) (mh.i (by decide)) vz (by rw [cz, mq]; decide) _ e7 (nI_ge hl (by omega))
        rw [hs_hs, hs_hs] at B
        have s := (((ST.rf mh).f (j := 26) (by unfold evf; omega) (.int 4)).f (j := 27) (by unfold evf; omega) (.int (nI n))).f (j := 28) (by unfold evf; omega) (.int (nI (lvOf (sIns σ) n (sLev σ))))
        rw [hs_hs, hs_hs] at s
        generalize hs h 65 (ob 8 (fo 53 (va_up (va_up (va_up F 26 (.int 4)) 27 (.int (nI n))) 28 (.int (nI (lvOf (sIns σ) n (sLev σ))))))) = hb at B s
        rw [e]
        have rx : RMx T (wWant σ n (lvOf (sIns σ) n (sLev σ))) 4 μ (va_up (va_up (va_up F 26 (.int 4)) 27 (.int (nI n))) 28 (.int (nI (lvOf (sIns σ) n (sLev σ))))) I L hb := by
          refine ⟨s.1, ((fs.up (by omega) _).up (by omega) _).up (by omega) _, rn.mf s.2, ⟨⟨?_, ?_, ?_⟩, v2, v3, v4, v5, v6, v7, v8⟩, ?_, ⟨⟨nI n, ?_⟩, _, up_eq⟩, fun _ => ⟨?_, up_eq⟩, hlen⟩
          · rw [up_ne (by decide), up_ne (by decide), up_ne (by decide)]; exact e7
          · rw [up_ne (by decide), up_ne (by decide), up_ne (by decide)]; exact e15
          · rw [up_ne (by decide), up_ne (by decide), up_ne (by decide)]; exact e25
          · rw [up_ne (by decide), up_ne (by decide), up_eq]; rfl
          · rw [up_ne (by decide), up_eq]
          · rw [up_ne (by decide), up_eq]
        exact ⟨μ, _, I, L, _, B, s.2, rx.r⟩
      · have el : lvOf (sIns σ) n (sLev σ) = sLev σ := by omega
        by_cases hL : sLab σ = 2000
        · have e : ndP T (f + 1) n σ = (2, σ) := by
            unfold ndP
            rw [eg, if_neg (by decide), if_neg hl, if_pos hL]
          obtain ⟨r1, f1⟩ := r.stop 2 (by decide)
          rw [e]
          exact ⟨μ, _, I, L, _, j_X8_need_a_2 (d := d) (by omega) h (nI n) μ.1 μ.2.1 F mh.1 _ hq (fs.r (by decide)) _ ez 360 (I 72) (mh.i (by decide)) vz (by rw [cz, mq]; decide) _ e7 (nI_le (by omega) (by omega)) _ e25 (by rw [hL]; rfl), f1, r1.r⟩
        · have e : ndP T (f + 1) n σ = wkP (ndP T f) f T n (wLab σ (sLab σ + 1)) := by
            conv => lhs; unfold ndP
            rw [eg, if_neg (by decide), if_neg hl, if_neg hL]
          have hlab : sLab σ < 2000 := by have := hI.2.2.2.2; omega
          have hv : sVal σ (sLev σ) n = none := by
            unfold gv at eg
            rw [el] at eg
            exact eg
          have B := j_X8_need_a_1 (d := d) (by omega) h (nI n) μ.1 μ.2.1 F mh.1 _ hq (fs.r (by decide)) _ ez 360 (I 72) (mh.i (by decide)) vz (by rw [cz, mq]; decide) _ e7 (nI_le (by omega) (by omega)) _ e25 (fun q => hL ((nI_eq (b := 2000) (by have := hI.2.2.2.2; omega) (by decide)).mp q))
          rw [nI_1] at B
          have s := (ST.rf mh).f (j := 25) (by unfold evf; omega) (.int (nI (sLab σ + 1)))
          have r1 : RMx T (wLab σ (sLab σ + 1)) 0 μ (va_up F 25 (.int (nI (sLab σ + 1)))) I L (hs h 65 (ob 8 (fo 53 (va_up F 25 (.int (nI (sLab σ + 1))))))) := ⟨s.1, fs.up (by omega) _, rn.mf s.2, ⟨⟨(up_ne (by decide)).trans e7, (up_ne (by decide)).trans e15, up_eq⟩, v2, v3, v4, v5, v6, v7, v8⟩, (up_ne (by decide)).trans e26, ⟨⟨x27, (up_ne (by decide)).trans e27⟩, x28, (up_ne (by decide)).trans e28⟩, (fun q => by cases q), hlen⟩
          obtain ⟨μ2, F2, I2, L2, h2, c2, f2, r2⟩ := m_out (m_need hT f) (nd_post hT f) hT (by omega) hp hlab hv el r1 (d := d - 1) (by omega)
          rw [e]
          exact ⟨μ2, F2, I2, L2, h2, E.st B (E.st (s_invv dX8_need_73 rfl lX8_138 (by omega) rfl (Nat.le_of_ble_eq_true rfl) rfl (Nat.le_of_ble_eq_true rfl) hs_eq c2 (fun h => nomatch h)) (j_X8_need_b_1 (Nat.zero_le _) h2 _ 0 0)), s.2.tr f2, r2⟩
