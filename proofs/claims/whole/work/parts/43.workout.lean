/-! the working out as a whole, in the class -/
theorem w_set {T : NT} {rec : Nat → St → Rs} {f n : Nat} {σ : St} {κ : KP} {w : WR} {h : AH} {d : Nat} (HV : CVal T rec f) (R : RH T rec f) (hT : wfT T) (hnf : n ≤ f) (hp : Pre T n σ) (hlab : sLab σ < 2000) (hv : sVal σ (sLev σ) n = none) (hl : lvOf (sIns σ) n (sLev σ) = sLev σ) (r : RC T (wLab σ (sLab σ + 1)) κ w h) (hA : okA T n) (hB : T.2.2.2.1 n = nI (tB T n)) (hb : tB T n ≤ n) (hd : 10 * n + 3 ≤ d) : ∃ κ' w' h', CM mX6_workSet d [.ref 19, .int (nI n)] h (some (.int (nI (if sLev (wLab σ (sLab σ + 1)) = 5 then (2, wLab σ (sLab σ + 1)) else goP rec (tfP rec T f (tA T n)) (tB T n) n 61 (wLab σ (sLab σ + 1))).1))) h' ∧ WO T h κ n (if sLev (wLab σ (sLab σ + 1)) = 5 then (2, wLab σ (sLab σ + 1)) else goP rec (tfP rec T f (tA T n)) (tB T n) n 61 (wLab σ (sLab σ + 1))) κ' w' h' := by
  have h60 := hT.1
  have hn := hp.2.1
  obtain ⟨-, ⟨K, k, k0, k1, k2, k3, k4, k5, k6, k7, k8, k9⟩, wy, -⟩ := id r
  have k2 : K 2 = .ref (wid (sLev σ)) := k2
  obtain ⟨li, ⟨F, a, f0, f1, f2, f3, f4, f5, f6, f7, f8, f9, f10, f11⟩, -⟩ := wy (sLev σ) (Nat.le_refl _)
  by_cases e : sLev σ = 5
  · rw [if_pos (show sLev (wLab σ (sLab σ + 1)) = 5 from e)]
    rw [if_pos e] at f1
    exact ⟨κ, w, h, j_X6_workSet_a_2 (by omega) h (nI n) (wid (sLev σ)) K k k2 F a f1, r.wo (CF.rf _ _) (by decide) (by decide)⟩
  · rw [if_neg (show ¬ sLev (wLab σ (sLab σ + 1)) = 5 from e)]
    rw [if_neg e] at f1
    have h5 : sLev σ < 5 := by have := hp.1.1.1; omega
    obtain ⟨κ', w', h', x1, x2⟩ := w_setLoop HV R hT hnf hp hv hl h5 hA hB (by omega) hd 61 (wLab σ (sLab σ + 1)) κ w h 0 (lab_mid hp hlab) (by have := cn_le (sVal (wLab σ (sLab σ + 1)) (sLev σ)) 60; omega) rfl r
    exact ⟨κ', w', h', E.st (j_X6_workSet_a_1 (by omega) h (nI n) (wid (sLev σ)) K k k2 F a _ f1) x1, x2⟩
theorem w_out {T : NT} {rec : Nat → St → Rs} {f n : Nat} {σ : St} {κ : KP} {w : WR} {h : AH} {d : Nat} (HV : CVal T rec f) (R : RH T rec f) (hT : wfT T) (hnf : n ≤ f) (hp : Pre T n σ) (hlab : sLab σ < 2000) (hv : sVal σ (sLev σ) n = none) (hl : lvOf (sIns σ) n (sLev σ) = sLev σ) (r : RC T σ κ w h) (hd : 10 * n + 4 ≤ d) : ∃ κ' w' h', CM mX6_workOut d [.ref 19, .int (nI n)] h (some (.int (nI (wkP rec f T n (wLab σ (sLab σ + 1))).1))) h' ∧ VO T h κ n (wkP rec f T n (wLab σ (sLab σ + 1))) κ' w' h' := by
  have P := wk_post R hT hnf hp hlab hv hl
  have h60 := hT.1
  have hn := hp.2.1
  have h6 := r.2.2.2.2.2.2.1
  have m0 := lab_mid hp hlab
  have wf := hT.2 n hn
  have cl : (nI n).toNatClampNeg = n := nI_clamp (by omega)
  have vi : vp_in (nI n) 60 := vp_in_nI (by omega) (by decide)
  have cnn : ¬ nI n < 0 ∧ ¬ nI (tN T) ≤ nI n := ⟨nI_pos (by omega), nI_ge hn (by omega)⟩
  have c60 : ¬ (60 : Int32) ≤ nI n := nI_ge (b := 60) (by omega) (by decide)
  obtain ⟨⟨N, g3, g4, g5, g6, g7, n0, ⟨n1, n2, n3, n4, n5, n6⟩, ⟨m3, m4, m5, m6, m7⟩, n60, nn⟩, ⟨K, k, k0, k1, k2, k3, k4, k5, k6, k7, k8, k9⟩, wy, -⟩ := id r
  have s3 : g3 (nI n).toNatClampNeg = tS T n := by rw [cl, (nn n hn).1]
  have hl2 : nI (sLab σ) < 2000 := nI_lt (b := 2000) hlab (by decide)
  obtain ⟨r0, cf0⟩ := r.at19 (σ' := wLab σ (sLab σ + 1)) (w' := w) (c := ob 6 (fo 10 (va_up K 3 (.int (nI (sLab σ + 1)))))) rfl ⟨_, hs_eq, (up_ne (by decide)).trans (k0), (up_ne (by decide)).trans (k1), (up_ne (by decide)).trans (k2), up_eq, (up_ne (by decide)).trans (k4), (up_ne (by decide)).trans (k5), (up_ne (by decide)).trans (k6), (up_ne (by decide)).trans (k7), (up_ne (by decide)).trans (k8), (up_ne (by decide)).trans (k9)⟩ (fun j _ => SameL.rf σ j) rfl rfl
  have k' : (hs h 19 (ob 6 (fo 10 (va_up K 3 (.int (nI (sLab σ + 1))))))).1 19 = ob 6 (fo 10 (va_up K 3 (.int (nI (sLab σ + 1))))) := hs_eq
  obtain ⟨li, ⟨F, a, f0, f1, f2, f3, f4, f5, f6, f7, f8, f9, f10, f11⟩, -, -, ⟨fk, fn, fl, b1, b2, b3, -⟩, -⟩ := wy (sLev σ) (Nat.le_refl _)
  have wb := wid_b h6
  unfold wkP at P ⊢
  unfold wfN at wf
  by_cases e0 : tS T n = 0
  · rw [if_pos e0]
    have A := j_X6_workOut_a_2 (d := d) (by omega) h (nI n) (wid (sLev σ)) K k _ k3 hl2 k0 N n0 _ n6 cnn n1 60 g3 m3 vi (by rw [s3, e0]) n5 60 g7 m7 vi k2 F a (nI_pos (by omega)) c60 f3 60 fk b1 vi (by omega) f4 60 fn b2 vi f5 60 fl b3 (by omega) vi (by omega)
    have e7 : g7 (nI n).toNatClampNeg = tV T n := by rw [cl]; exact (nn n hn).2.2.2.2 e0
    rw [hs_hs, hs_hs, hs_hs, nI_1, e7, cl] at A
    obtain ⟨r1, cf1⟩ := r.at19 (σ' := wLab σ (sLab σ + 1)) (w' := (0, (tV T n, (1, (w.2.2.2.1, w.2.2.2.2))))) (c := ob 6 (fo 10 (va_up (va_up (va_up (va_up K 3 (.int (nI (sLab σ + 1)))) 5 (.int 0)) 6 (.long (tV T n))) 7 (.int 1)))) rfl ⟨_, hs_eq, (up_ne (by decide)).trans ((up_ne (by decide)).trans ((up_ne (by decide)).trans ((up_ne (by decide)).trans (k0)))), (up_ne (by decide)).trans ((up_ne (by decide)).trans ((up_ne (by decide)).trans ((up_ne (by decide)).trans (k1)))), (up_ne (by decide)).trans ((up_ne (by decide)).trans ((up_ne (by decide)).trans ((up_ne (by decide)).trans (k2)))), (up_ne (by decide)).trans ((up_ne (by decide)).trans ((up_ne (by decide)).trans (up_eq))), (up_ne (by decide)).trans ((up_ne (by decide)).trans ((up_ne (by decide)).trans ((up_ne (by decide)).trans (k4)))), (up_ne (by decide)).trans ((up_ne (by decide)).trans (up_eq)), (up_ne (by decide)).trans (up_eq), up_eq, (up_ne (by decide)).trans ((up_ne (by decide)).trans ((up_ne (by decide)).trans ((up_ne (by decide)).trans (k8)))), (up_ne (by decide)).trans ((up_ne (by decide)).trans ((up_ne (by decide)).trans ((up_ne (by decide)).trans (k9))))⟩ (fun j _ => SameL.rf σ j) rfl rfl
    obtain ⟨r2, cf2⟩ := r1.vals (n := n) (by omega) (.inl (tV T n)) ((hs_ne (show wid (sLev σ) + 1 ≠ 19 by omega)).trans b1) ((hs_ne (show wid (sLev σ) + 2 ≠ 19 by omega)).trans b2) ((hs_ne (show wid (sLev σ) + 3 ≠ 19 by omega)).trans b3)
    exact ⟨κ, _, _, A, r2, cf1.tr cf2, fun _ => ⟨.inl (tV T n), sv_gv hl, rfl, rfl, rfl⟩, (fun q => by cases q)⟩
  rw [if_neg e0] at P ⊢
  by_cases e1 : tS T n = 1
  · rw [if_pos e1] at P ⊢
    have wf : okA T n ∧ okB T n := by
      rw [e1] at wf
      rcases wf with w | w | w | w | w | w | w | w | w | w <;> first | exact w.2 | exact absurd w (by decide) | exact absurd w.1 (by decide)
    have A := j_X6_workOut_a_3 (d := d) (by omega) h (nI n) (wid (sLev σ)) K k _ k3 hl2 k0 N n0 _ n6 cnn n1 60 g3 m3 vi (by rw [s3, e1])
    rw [nI_1] at A
    obtain ⟨κ1, w1, h1, c1, o1⟩ := w_choice (d := d - 1) HV hT hnf hp hlab hv r0 wf.1 wf.2 (by omega)
    obtain ⟨h2, c2, o2⟩ := (o1.tr cf0).out P (by omega) hl (d := d) (by omega)
    exact ⟨κ1, w1, h2, E.st A (E.st (s_invv dX6_workOut_106 rfl lX6_141 (by omega) rfl (Nat.le_of_ble_eq_true rfl) rfl (Nat.le_of_ble_eq_true rfl) k' c1 (fun h => nomatch h)) (E.st (j_X6_workOut_b109_1 (Nat.zero_le _) h1 (nI n) _) c2)), o2⟩
  rw [if_neg e1] at P ⊢
  by_cases e2 : tS T n = 2
  · rw [if_pos e2]
    have A := j_X6_workOut_a_4 (d := d) (by omega) h (nI n) (wid (sLev σ)) K k _ k3 hl2 k0 N n0 _ n6 cnn n1 60 g3 m3 vi (by rw [s3, e2])
    rw [nI_1] at A
    exact ⟨κ, w, _, A, r0, cf0, (fun q => by cases q), (fun q => by cases q)⟩
  rw [if_neg e2] at P ⊢
  by_cases e3 : tS T n = 3
  · rw [if_pos e3]
    have A := j_X6_workOut_a_6 (d := d) (by omega) h (nI n) (wid (sLev σ)) K k _ k3 hl2 k0 N n0 _ n6 cnn n1 60 g3 m3 vi (by rw [s3, e3]) k2 F a (nI_pos (by omega)) c60 f3 60 fk b1 vi (by omega) f4 60 fn b2 vi f5 60 fl b3 (by omega) vi (by omega)
    rw [hs_hs, hs_hs, hs_hs, nI_1, nI_l (by omega), cl] at A
    obtain ⟨r1, cf1⟩ := r.at19 (σ' := wLab σ (sLab σ + 1)) (w' := (1, (lN n, (1, (w.2.2.2.1, w.2.2.2.2))))) (c := ob 6 (fo 10 (va_up (va_up (va_up (va_up K 3 (.int (nI (sLab σ + 1)))) 5 (.int 1)) 6 (.long (lN n))) 7 (.int 1)))) rfl ⟨_, hs_eq, (up_ne (by decide)).trans ((up_ne (by decide)).trans ((up_ne (by decide)).trans ((up_ne (by decide)).trans (k0)))), (up_ne (by decide)).trans ((up_ne (by decide)).trans ((up_ne (by decide)).trans ((up_ne (by decide)).trans (k1)))), (up_ne (by decide)).trans ((up_ne (by decide)).trans ((up_ne (by decide)).trans ((up_ne (by decide)).trans (k2)))), (up_ne (by decide)).trans ((up_ne (by decide)).trans ((up_ne (by decide)).trans (up_eq))), (up_ne (by decide)).trans ((up_ne (by decide)).trans ((up_ne (by decide)).trans ((up_ne (by decide)).trans (k4)))), (up_ne (by decide)).trans ((up_ne (by decide)).trans (up_eq)), (up_ne (by decide)).trans (up_eq), up_eq, (up_ne (by decide)).trans ((up_ne (by decide)).trans ((up_ne (by decide)).trans ((up_ne (by decide)).trans (k8)))), (up_ne (by decide)).trans ((up_ne (by decide)).trans ((up_ne (by decide)).trans ((up_ne (by decide)).trans (k9))))⟩ (fun j _ => SameL.rf σ j) rfl rfl
    obtain ⟨r2, cf2⟩ := r1.vals (n := n) (by omega) (.inr (.inl n)) ((hs_ne (show wid (sLev σ) + 1 ≠ 19 by omega)).trans b1) ((hs_ne (show wid (sLev σ) + 2 ≠ 19 by omega)).trans b2) ((hs_ne (show wid (sLev σ) + 3 ≠ 19 by omega)).trans b3)
    exact ⟨κ, _, _, A, r2, cf1.tr cf2, fun _ => ⟨.inr (.inl n), sv_gv hl, rfl, rfl, rfl⟩, (fun q => by cases q)⟩
  rw [if_neg e3] at P ⊢
  by_cases e4 : tS T n = 4
  · rw [if_pos e4] at P ⊢
    have wf : okA T n := by
      rw [e4] at wf
      rcases wf with w | w | w | w | w | w | w | w | w | w <;> first | exact absurd w (by decide) | exact absurd w.1 (by decide) | exact w.2
    have A := j_X6_workOut_a_7 (d := d) (by omega) h (nI n) (wid (sLev σ)) K k _ k3 hl2 k0 N n0 _ n6 cnn n1 60 g3 m3 vi (by rw [s3, e4])
    rw [nI_1] at A
    obtain ⟨κ1, w1, h1, c1, o1⟩ := w_part (d := d - 1) HV R hT hnf m0 hp hv r0 wf (by omega) false
    obtain ⟨h2, c2, o2⟩ := (o1.tr cf0).out P (by omega) hl (d := d) (by omega)
    exact ⟨κ1, w1, h2, E.st A (E.st (s_invv dX6_workOut_128 rfl lX6_144 (by omega) rfl (Nat.le_of_ble_eq_true rfl) rfl (Nat.le_of_ble_eq_true rfl) k' c1 (fun h => nomatch h)) (E.st (j_X6_workOut_b131_1 (Nat.zero_le _) h1 (nI n) _) c2)), o2⟩
  rw [if_neg e4] at P ⊢
  by_cases e5 : tS T n = 5
  · rw [if_pos e5] at P ⊢
    have wf : okA T n := by
      rw [e5] at wf
      rcases wf with w | w | w | w | w | w | w | w | w | w <;> first | exact absurd w (by decide) | exact absurd w.1 (by decide) | exact w.2
    have A := j_X6_workOut_a_8 (d := d) (by omega) h (nI n) (wid (sLev σ)) K k _ k3 hl2 k0 N n0 _ n6 cnn n1 60 g3 m3 vi (by rw [s3, e5])
    rw [nI_1] at A
    obtain ⟨κ1, w1, h1, c1, o1⟩ := w_part (d := d - 1) HV R hT hnf m0 hp hv r0 wf (by omega) true
    obtain ⟨h2, c2, o2⟩ := (o1.tr cf0).out P (by omega) hl (d := d) (by omega)
    exact ⟨κ1, w1, h2, E.st A (E.st (s_invv dX6_workOut_138 rfl lX6_144 (by omega) rfl (Nat.le_of_ble_eq_true rfl) rfl (Nat.le_of_ble_eq_true rfl) k' c1 (fun h => nomatch h)) (E.st (j_X6_workOut_b141_1 (Nat.zero_le _) h1 (nI n) _) c2)), o2⟩
  rw [if_neg e5] at P ⊢
  by_cases e6 : tS T n = 6
  · rw [if_pos e6] at P ⊢
    have wf : okA T n ∧ okB T n ∧ ∃ j, j ≤ 5 ∧ T.2.2.2.2.1 n = nI j := by
      rw [e6] at wf
      rcases wf with w | w | w | w | w | w | w | w | w | w <;> first | exact absurd w (by decide) | exact absurd w.1 (by decide) | exact w.2
    have A := j_X6_workOut_a_9 (d := d) (by omega) h (nI n) (wid (sLev σ)) K k _ k3 hl2 k0 N n0 _ n6 cnn n1 60 g3 m3 vi (by rw [s3, e6])
    rw [nI_1] at A
    obtain ⟨κ1, w1, h1, c1, o1⟩ := w_op (d := d - 1) HV R hT hnf m0 hp hv r0 wf.1 wf.2.1 wf.2.2 (by omega)
    obtain ⟨h2, c2, o2⟩ := (o1.tr cf0).out P (by omega) hl (d := d) (by omega)
    exact ⟨κ1, w1, h2, E.st A (E.st (s_invv dX6_workOut_147 rfl lX6_148 (by omega) rfl (Nat.le_of_ble_eq_true rfl) rfl (Nat.le_of_ble_eq_true rfl) k' c1 (fun h => nomatch h)) (E.st (j_X6_workOut_b150_1 (Nat.zero_le _) h1 (nI n) _) c2)), o2⟩
  rw [if_neg e6] at P ⊢
  by_cases e7 : tS T n = 7
  · rw [if_pos e7] at P ⊢
    have wf : okA T n ∧ okB T n ∧ okC T n := by
      rw [e7] at wf
      rcases wf with w | w | w | w | w | w | w | w | w | w <;> first | exact absurd w (by decide) | exact absurd w.1 (by decide) | exact w.2
    have A := j_X6_workOut_a_10 (d := d) (by omega) h (nI n) (wid (sLev σ)) K k _ k3 hl2 k0 N n0 _ n6 cnn n1 60 g3 m3 vi (by rw [s3, e7])
    rw [nI_1] at A
    obtain ⟨κ1, w1, h1, c1, o1⟩ := w_when (d := d - 1) HV R hT hnf m0 hp hv r0 wf.1 wf.2.1 wf.2.2 (by omega)
    obtain ⟨h2, c2, o2⟩ := (o1.tr cf0).out P (by omega) hl (d := d) (by omega)
    exact ⟨κ1, w1, h2, E.st A (E.st (s_invv dX6_workOut_156 rfl lX6_151 (by omega) rfl (Nat.le_of_ble_eq_true rfl) rfl (Nat.le_of_ble_eq_true rfl) k' c1 (fun h => nomatch h)) (E.st (j_X6_workOut_b159_1 (Nat.zero_le _) h1 (nI n) _) c2)), o2⟩
  rw [if_neg e7] at P ⊢
  by_cases e8 : tS T n = 8
  · rw [if_pos e8] at P ⊢
    have wf : okA T n ∧ T.2.2.2.1 n = nI (tB T n) ∧ tB T n ≤ n := by
      rw [e8] at wf
      rcases wf with w | w | w | w | w | w | w | w | w | w <;> first | exact absurd w (by decide) | exact absurd w.1 (by decide) | exact w.2
    have A := j_X6_workOut_a_11 (d := d) (by omega) h (nI n) (wid (sLev σ)) K k _ k3 hl2 k0 N n0 _ n6 cnn n1 60 g3 m3 vi (by rw [s3, e8])
    rw [nI_1] at A
    obtain ⟨κ1, w1, h1, c1, o1⟩ := w_set (d := d - 1) HV R hT hnf hp hlab hv hl r0 wf.1 wf.2.1 wf.2.2 (by omega)
    obtain ⟨h2, c2, o2⟩ := (o1.tr cf0).out P (by omega) hl (d := d) (by omega)
    exact ⟨κ1, w1, h2, E.st A (E.st (s_invv dX6_workOut_165 rfl lX6_154 (by omega) rfl (Nat.le_of_ble_eq_true rfl) rfl (Nat.le_of_ble_eq_true rfl) k' c1 (fun h => nomatch h)) (E.st (j_X6_workOut_b168_1 (Nat.zero_le _) h1 (nI n) _) c2)), o2⟩
  rw [if_neg e8] at P ⊢
  have wf : tS T n = 9 ∧ okA T n ∧ ∃ j, j ≤ 2 ∧ T.2.2.2.1 n = nI j := by
    rcases wf with w | w | w | w | w | w | w | w | w | w <;> first | exact absurd w e0 | exact absurd w.1 e1 | exact absurd w e2 | exact absurd w.1 e3 | exact absurd w.1 e4 | exact absurd w.1 e5 | exact absurd w.1 e6 | exact absurd w.1 e7 | exact absurd w.1 e8 | exact w
  have A := j_X6_workOut_a_12 (d := d) (by omega) h (nI n) (wid (sLev σ)) K k _ k3 hl2 k0 N n0 _ n6 cnn n1 60 g3 m3 vi (by rw [s3, wf.1])
  rw [nI_1] at A
  obtain ⟨κ1, w1, h1, c1, o1⟩ := w_fold (d := d - 1) HV R hT hnf m0 hp hv r0 wf.2.1 wf.2.2 (by omega)
  obtain ⟨h2, c2, o2⟩ := (o1.tr cf0).out P (by omega) hl (d := d) (by omega)
  exact ⟨κ1, w1, h2, E.st A (E.st (s_invv dX6_workOut_174 rfl lX6_157 (by omega) rfl (Nat.le_of_ble_eq_true rfl) rfl (Nat.le_of_ble_eq_true rfl) k' c1 (fun h => nomatch h)) (E.st (j_X6_workOut_b177_1 (Nat.zero_le _) h1 (nI n) _) c2)), o2⟩
/-- the class works out as the pure state says -/
theorem c_value {T : NT} (hT : wfT T) : ∀ f, CVal T (ndP T f) f
  | 0 => fun n _ _ _ _ _ _ hn => by omega
  | f + 1 => fun n σ κ w h b d hn hp r hb h60 hd => by
    refine c_valueOf (rec := ndP T f) (f := f) hp hT r hb h60 hd (fun eg el hlab => ?_) (fun _ => rfl)
    have hv : sVal σ (sLev σ) n = none := by
      unfold gv at eg
      rw [el] at eg
      exact eg
    exact w_out (c_value hT f) (nd_post hT f) hT (by omega) hp hlab hv el r (by omega)
theorem c_full {T : NT} (hT : wfT T) {f n : Nat} (hg : n < f) (hn : n < tN T) : CTf T (tfP (ndP T f) T f) n := c_tellInFull (c_value hT f) (nd_post hT f) hT f n hg hg hn
