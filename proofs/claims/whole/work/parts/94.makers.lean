/-! THE STORE'S METHODS THAT MAKE NODES, both sides -/
def iaN : String := "java/lang/IllegalArgumentException"
theorem c_demand (d : Nat) (h : AH) : CM mX7_demand d [.int 1] h none h := j_X7_demand_a_1 (Nat.zero_le _) h 1 (by decide)
theorem x_demand {d : Nat} (hd : 6 ≤ d) (h : AH) : CX mX7_demand d [.int 0] h iaN := XA.cx (by decide +kernel) rfl (Nat.le_of_ble_eq_true rfl) (XA.st (j_X7_demand_a_2 (Nat.zero_le _) h 0 rfl) (xa_newS rfl fitI.1 atI goI liI (List.mem_of_getElem? (i := 3) rfl) dX7_demand_4 dX7_demand_7 dX7_demand_8 dX7_demand_10 dX7_demand_13 hd))
theorem in0_1 : vp_in 0 1 := vp_in_nI (n := 0) (by decide) (by decide)
theorem in60 {n : Nat} (h : n < 60) : vp_in (nI n) 60 := vp_in_nI h (by decide)
theorem ltn {n : Nat} (h : n < 60) : nI n < 60 := nI_lt (b := 60) h (by decide)
theorem n60 {n : Nat} (h : n < 60) : ¬ nI n = 60 := nI_ne (b := 60) (by omega) (by decide) (by omega)

theorem hL_choice : LSH RL 65 mL_choice 4 := ⟨by decide +kernel, gm gi_wsL_law0_r7 (List.mem_of_getElem? (i := 17) rfl), gm gi_wsL_law0_r7 (List.mem_of_getElem? (i := 14) rfl), gm gi_wsL_law0_r7 (List.mem_of_getElem? (i := 15) rfl), gm gi_wsL_law0_r7 (List.mem_of_getElem? (i := 16) rfl), by decide +kernel, by decide⟩
theorem hL_pair : LSH RL 78 mL_pair 4 := ⟨by decide +kernel, gm gi_wsL_law0_r9 (List.mem_of_getElem? (i := 11) rfl), gm gi_wsL_law0_r9 (List.mem_of_getElem? (i := 9) rfl), gm gi_wsL_law0_r9 (List.mem_of_getElem? (i := 10) rfl), gm gi_wsL_law0_r7 (List.mem_of_getElem? (i := 16) rfl), by decide +kernel, by decide⟩
theorem hL_part : LSH RL 81 mL_part 4 := ⟨by decide +kernel, gm gi_wsL_law0_r9 (List.mem_of_getElem? (i := 22) rfl), gm gi_wsL_law0_r9 (List.mem_of_getElem? (i := 20) rfl), gm gi_wsL_law0_r9 (List.mem_of_getElem? (i := 21) rfl), gm gi_wsL_law0_r7 (List.mem_of_getElem? (i := 16) rfl), by decide +kernel, by decide⟩
theorem hL_op : LSH RL 85 mL_op 5 := ⟨by decide +kernel, gm gi_wsL_law0_r10 (List.mem_of_getElem? (i := 9) rfl), gm gi_wsL_law0_r10 (List.mem_of_getElem? (i := 7) rfl), gm gi_wsL_law0_r10 (List.mem_of_getElem? (i := 8) rfl), gm gi_wsL_law0_r7 (List.mem_of_getElem? (i := 16) rfl), by decide +kernel, by decide⟩
theorem hL_when : LSH RL 89 mL_when 5 := ⟨by decide +kernel, gm gi_wsL_law0_r10 (List.mem_of_getElem? (i := 20) rfl), gm gi_wsL_law0_r10 (List.mem_of_getElem? (i := 18) rfl), gm gi_wsL_law0_r10 (List.mem_of_getElem? (i := 19) rfl), gm gi_wsL_law0_r7 (List.mem_of_getElem? (i := 16) rfl), by decide +kernel, by decide⟩
theorem hL_set : LSH RL 92 mL_set 4 := ⟨by decide +kernel, gm gi_wsL_law0_r11 (List.mem_of_getElem? (i := 7) rfl), gm gi_wsL_law0_r11 (List.mem_of_getElem? (i := 5) rfl), gm gi_wsL_law0_r11 (List.mem_of_getElem? (i := 6) rfl), gm gi_wsL_law0_r7 (List.mem_of_getElem? (i := 16) rfl), by decide +kernel, by decide⟩
theorem hL_fold : LSH RL 95 mL_fold 4 := ⟨by decide +kernel, gm gi_wsL_law0_r11 (List.mem_of_getElem? (i := 22) rfl), gm gi_wsL_law0_r11 (List.mem_of_getElem? (i := 20) rfl), gm gi_wsL_law0_r11 (List.mem_of_getElem? (i := 21) rfl), gm gi_wsL_law0_r7 (List.mem_of_getElem? (i := 16) rfl), by decide +kernel, by decide⟩
theorem hL_node : LSH RL 102 mL_node 4 := ⟨by decide +kernel, gm gi_wsL_law0_r14 (List.mem_of_getElem? (i := 19) rfl), gm gi_wsL_law0_r14 (List.mem_of_getElem? (i := 17) rfl), gm gi_wsL_law0_r14 (List.mem_of_getElem? (i := 18) rfl), gm gi_wsL_law0_r7 (List.mem_of_getElem? (i := 16) rfl), by decide +kernel, by decide⟩
theorem hL_ask : LSH RL 105 mL_ask 4 := ⟨by decide +kernel, gm gi_wsL_law0_r16 (List.mem_of_getElem? (i := 2) rfl), gm gi_wsL_law0_r16 (List.mem_of_getElem? (i := 0) rfl), gm gi_wsL_law0_r16 (List.mem_of_getElem? (i := 1) rfl), gm gi_wsL_law0_r7 (List.mem_of_getElem? (i := 16) rfl), by decide +kernel, by decide⟩
theorem hL_next : LSH RL 109 mL_next 2 := ⟨by decide +kernel, gm gi_wsL_law0_r17 (List.mem_of_getElem? (i := 4) rfl), gm gi_wsL_law0_r17 (List.mem_of_getElem? (i := 2) rfl), gm gi_wsL_law0_r17 (List.mem_of_getElem? (i := 3) rfl), gm gi_wsL_law0_r7 (List.mem_of_getElem? (i := 16) rfl), by decide +kernel, by decide⟩
theorem hL_token : LSH RL 118 mL_token 4 := ⟨by decide +kernel, gm gi_wsL_law0_r35 (List.mem_of_getElem? (i := 20) rfl), gm gi_wsL_law0_r35 (List.mem_of_getElem? (i := 18) rfl), gm gi_wsL_law0_r35 (List.mem_of_getElem? (i := 19) rfl), gm gi_wsL_law0_r7 (List.mem_of_getElem? (i := 16) rfl), by decide +kernel, by decide⟩
theorem k_choice {T : NT} {S : SS} {σ : St} {κ : KP} {w : WR} {h : AH} {X : Nat → Value} {f : Nat → Int64} {d : Nat} (r : RKx T S σ κ w h) (x1 : h.1 1 = ob 7 (fo 2 X)) (x2 : X 0 = .ref 2) (h94 : h.1 94 = la 1 f) (hd : 9 ≤ d) (a : Int32) (b : Int32) : (¬ (nd T a ∧ nd T b) → CM mL_choice d [.ref 1, .int a, .int b, .ref 94] h (some (.int 1)) (hX h)) ∧ (nd T a ∧ nd T b → tN T = 60 → CM mL_choice d [.ref 1, .int a, .int b, .ref 94] h (some (.int 0)) (hs h 94 (la 1 (vp_updL f 0 ((-1 : Int32).toInt64))))) ∧ (nd T a ∧ nd T b → tN T < 60 → ∃ h1, CM mL_choice d [.ref 1, .int a, .int b, .ref 94] h (some (.int 0)) (hs h1 94 (la 1 (vp_updL f 0 ((nI (tN T)).toInt64)))) ∧ RKx (addT T (1) (a) (b) (-1) 0) S σ κ w h1 ∧ CG h κ h1 κ) := by
  obtain ⟨F, f3, f4, f5, f6, f7, a2, ⟨b0, b1, b2, b3, b4, b5⟩, ⟨c3, c4, c5, c6, c7⟩, h60, q⟩ := r.1.1.1
  have J0 : ¬ (nd T a ∧ nd T b) → J false mX7_choice (d - 1) 0 [(0, .ref 1), (1, .int a), (2, .int b)] [] h 27 [(0, .ref 1), (1, .int a), (2, .int b)] [.int 0] h := fun g => by
    by_cases g0 : nd T a
    case neg => exact j_X7_choice_a_1 (by omega) h a b X x1 x2 F a2 _ b5 (dn g0)
    by_cases g1 : nd T b
    case neg => exact j_X7_choice_a_2 (by omega) h a b X x1 x2 F a2 _ b5 g0 (dn g1)
    exact absurd ⟨g0, g1⟩ g
  have J1 : nd T a ∧ nd T b → J false mX7_choice (d - 1) 0 [(0, .ref 1), (1, .int a), (2, .int b)] [] h 27 [(0, .ref 1), (1, .int a), (2, .int b)] [.int 1] h := fun ⟨g0, g1⟩ => j_X7_choice_a_3 (by omega) h a b X x1 x2 F a2 _ b5 g0 g1
  have DM : J false mX7_choice (d - 1) 27 [(0, .ref 1), (1, .int a), (2, .int b)] [.int 1] h 30 [(0, .ref 1), (1, .int a), (2, .int b)] [] h := (s_invs (K := mX7_demand) (as := [.int 1]) (rest := []) (v := none) dX7_choice_27 rfl lX7_33 (by omega) rfl (Nat.le_of_ble_eq_true rfl) rfl (Nat.le_of_ble_eq_true rfl) (c_demand 0 h) (fun h => nomatch h))
  refine ⟨fun g => ?_, fun g e => ?_, fun g e => ?_⟩
  · exact E.st (j_L_choice_a_1 (Nat.zero_le _) h a b) (E.st (s_invvX (K := mX7_choice) (o := 1) (as := [.int a, .int b]) (rest := [.int 0, .ref 94]) (d' := d - 1) dL_choice_5 lL_7 (by omega) rfl rfl (Nat.le_of_ble_eq_true rfl) x1 (XA.cx (by decide +kernel) rfl (Nat.le_of_ble_eq_true rfl) (XA.st (J0 g) (xa_invs (K := mX7_demand) (as := [.int 0]) (rest := []) (d' := d - 2) dX7_choice_27 lX7_33 (by omega) rfl rfl (Nat.le_of_ble_eq_true rfl) (x_demand (by omega) h)))) rfl (by decide) (by decide) (gm gi_wsL_law0_r7 (List.mem_of_getElem? (i := 18) rfl)) (List.mem_of_getElem? (i := 3) rfl) rfl (put_a dL_choice_13 (by decide) rfl)) (j_L_choice_c_1 (Nat.zero_le _) (hX h)))
  · have C : CM mX7_choice (d - 1) [.ref 1, .int a, .int b] h (some (.int (-1))) h := E.st (J1 g) (E.st DM (j_X7_choice_b_2 (by omega) h a b X x1 x2 F a2 _ b5 (by rw [e]; decide)))
    exact E.st (j_L_choice_a_1 (Nat.zero_le _) h a b) (E.st (s_invv (K := mX7_choice) (o := 1) (as := [.int a, .int b]) (rest := [.int 0, .ref 94]) (v := some (.int (-1))) (d' := d - 1) dL_choice_5 rfl lL_7 (by omega) rfl (Nat.le_of_ble_eq_true rfl) rfl (Nat.le_of_ble_eq_true rfl) x1 C (fun h => nomatch h)) (j_L_choice_b_1 (Nat.zero_le _) h a b (-1) 0 1 f h94 in0_1))
  · have B := j_X7_choice_b_1 (d := d - 1) (by omega) h a b X x1 x2 F a2 _ b5 (ltn e) b0 60 f3 c3 (in60 e) b1 60 f4 c4 (in60 e) b2 60 f5 c5 (in60 e) b3 60 f6 c6 (in60 e)
    rw [nI_clamp (by omega), nI_1] at B
    obtain ⟨r1, g1⟩ := r.add e a2 ⟨b0, b1, b2, b3, b4, b5⟩ c7 q (s := 1) (x := a) (y := b) (z := -1) (v := 0) (by decide)
    have C : CM mX7_choice (d - 1) [.ref 1, .int a, .int b] h (some (.int (nI (tN T)))) (hadd h F (tN T) f3 f4 f5 f6 (1) (a) (b) (-1)) := E.st (J1 g) (E.st DM B)
    exact ⟨_, E.st (j_L_choice_a_1 (Nat.zero_le _) h a b) (E.st (s_invv (K := mX7_choice) (o := 1) (as := [.int a, .int b]) (rest := [.int 0, .ref 94]) (v := some (.int (nI (tN T)))) (d' := d - 1) dL_choice_5 rfl lL_7 (by omega) rfl (Nat.le_of_ble_eq_true rfl) rfl (Nat.le_of_ble_eq_true rfl) x1 C (fun h => nomatch h)) (j_L_choice_b_1 (Nat.zero_le _) _ a b (nI (tN T)) 0 1 f (by exact (hs_ne (by decide)).trans ((hs_ne (by decide)).trans ((hs_ne (by decide)).trans ((hs_ne (by decide)).trans ((hs_ne (by decide)).trans h94))))) in0_1)), r1, g1⟩

theorem q_choice {t0 : Int32} {T : NT} {Z : ZS} {μ : KM} {F : Nat → Value} {I : AI} {L : AL} {h : AH} {d : Nat} (r : RZ t0 T Z μ F I L h) (hd : 1 ≤ d) (a : Int32) (b : Int32) : (¬ (nd T a ∧ nd T b) → CM mX8_choice d [.ref 65, .int a, .int b] h (some (.int 0)) (hs h 65 (ob 8 (fo 53 (va_up F 0 (.int 1)))))) ∧ (nd T a ∧ nd T b → tN T = 60 → CM mX8_choice d [.ref 65, .int a, .int b] h (some (.int (-1))) (hs h 65 (ob 8 (fo 53 (va_up F 0 (.int 0)))))) ∧ (nd T a ∧ nd T b → tN T < 60 → CM mX8_choice d [.ref 65, .int a, .int b] h (some (.int (nI (tN T)))) (madd h F I L (tN T) (1) (a) (b) (-1) 0)) := by
  obtain ⟨mh, fs, rn, -⟩ := r.1
  have e1 := rn.1
  refine ⟨fun g => ?_, fun g e => ?_, fun g e => ?_⟩
  · skip
    by_cases g0 : nd T a
    case neg => exact j_X8_choice_a_1 (d := d) (by omega) h a b μ.1 μ.2.1 F mh.1 _ e1 (dn g0)
    by_cases g1 : nd T b
    case neg => exact j_X8_choice_a_2 (d := d) (by omega) h a b μ.1 μ.2.1 F mh.1 _ e1 g0 (dn g1)
    exact absurd ⟨g0, g1⟩ g
  · obtain ⟨g0, g1⟩ := g
    exact j_X8_choice_a_4 (d := d) (by omega) h a b μ.1 μ.2.1 F mh.1 _ e1 g0 g1 (by rw [e]; rfl)
  · obtain ⟨g0, g1⟩ := g
    have vv := in60 e
    have B := j_X8_choice_a_3 (d := d) (by omega) h a b μ.1 μ.2.1 F mh.1 _ e1 g0 g1 (n60 e) (fs.r (by decide)) 60 (I 66) (mh.i (by decide)) vv (fs.r (by decide)) 60 (L 67) (mh.l (by decide)) vv (fs.r (by decide)) 60 (I 68) (mh.i (by decide)) vv (fs.r (by decide)) 60 (I 69) (mh.i (by decide)) vv (fs.r (by decide)) 60 (I 70) (mh.i (by decide)) vv
    rw [nI_clamp (by omega), nI_1, nI_pred] at B
    exact B

theorem k_pair {T : NT} {S : SS} {σ : St} {κ : KP} {w : WR} {h : AH} {X : Nat → Value} {f : Nat → Int64} {d : Nat} (r : RKx T S σ κ w h) (x1 : h.1 1 = ob 7 (fo 2 X)) (x2 : X 0 = .ref 2) (h94 : h.1 94 = la 1 f) (hd : 9 ≤ d) (a : Int32) (b : Int32) : (¬ (nd T a ∧ nd T b) → CM mL_pair d [.ref 1, .int a, .int b, .ref 94] h (some (.int 1)) (hX h)) ∧ (nd T a ∧ nd T b → tN T = 60 → CM mL_pair d [.ref 1, .int a, .int b, .ref 94] h (some (.int 0)) (hs h 94 (la 1 (vp_updL f 0 ((-1 : Int32).toInt64))))) ∧ (nd T a ∧ nd T b → tN T < 60 → ∃ h1, CM mL_pair d [.ref 1, .int a, .int b, .ref 94] h (some (.int 0)) (hs h1 94 (la 1 (vp_updL f 0 ((nI (tN T)).toInt64)))) ∧ RKx (addT T (3) (a) (b) (-1) 0) S σ κ w h1 ∧ CG h κ h1 κ) := by
  obtain ⟨F, f3, f4, f5, f6, f7, a2, ⟨b0, b1, b2, b3, b4, b5⟩, ⟨c3, c4, c5, c6, c7⟩, h60, q⟩ := r.1.1.1
  have J0 : ¬ (nd T a ∧ nd T b) → J false mX7_pair (d - 1) 0 [(0, .ref 1), (1, .int a), (2, .int b)] [] h 27 [(0, .ref 1), (1, .int a), (2, .int b)] [.int 0] h := fun g => by
    by_cases g0 : nd T a
    case neg => exact j_X7_pair_a_1 (by omega) h a b X x1 x2 F a2 _ b5 (dn g0)
    by_cases g1 : nd T b
    case neg => exact j_X7_pair_a_2 (by omega) h a b X x1 x2 F a2 _ b5 g0 (dn g1)
    exact absurd ⟨g0, g1⟩ g
  have J1 : nd T a ∧ nd T b → J false mX7_pair (d - 1) 0 [(0, .ref 1), (1, .int a), (2, .int b)] [] h 27 [(0, .ref 1), (1, .int a), (2, .int b)] [.int 1] h := fun ⟨g0, g1⟩ => j_X7_pair_a_3 (by omega) h a b X x1 x2 F a2 _ b5 g0 g1
  have DM : J false mX7_pair (d - 1) 27 [(0, .ref 1), (1, .int a), (2, .int b)] [.int 1] h 30 [(0, .ref 1), (1, .int a), (2, .int b)] [] h := (s_invs (K := mX7_demand) (as := [.int 1]) (rest := []) (v := none) dX7_pair_27 rfl lX7_33 (by omega) rfl (Nat.le_of_ble_eq_true rfl) rfl (Nat.le_of_ble_eq_true rfl) (c_demand 0 h) (fun h => nomatch h))
  refine ⟨fun g => ?_, fun g e => ?_, fun g e => ?_⟩
  · exact E.st (j_L_pair_a_1 (Nat.zero_le _) h a b) (E.st (s_invvX (K := mX7_pair) (o := 1) (as := [.int a, .int b]) (rest := [.int 0, .ref 94]) (d' := d - 1) dL_pair_5 lL_15 (by omega) rfl rfl (Nat.le_of_ble_eq_true rfl) x1 (XA.cx (by decide +kernel) rfl (Nat.le_of_ble_eq_true rfl) (XA.st (J0 g) (xa_invs (K := mX7_demand) (as := [.int 0]) (rest := []) (d' := d - 2) dX7_pair_27 lX7_33 (by omega) rfl rfl (Nat.le_of_ble_eq_true rfl) (x_demand (by omega) h)))) rfl (by decide) (by decide) (gm gi_wsL_law0_r7 (List.mem_of_getElem? (i := 18) rfl)) (List.mem_of_getElem? (i := 3) rfl) rfl (put_a dL_pair_13 (by decide) rfl)) (j_L_pair_c_1 (Nat.zero_le _) (hX h)))
  · have C : CM mX7_pair (d - 1) [.ref 1, .int a, .int b] h (some (.int (-1))) h := E.st (J1 g) (E.st DM (j_X7_pair_b_2 (by omega) h a b X x1 x2 F a2 _ b5 (by rw [e]; decide)))
    exact E.st (j_L_pair_a_1 (Nat.zero_le _) h a b) (E.st (s_invv (K := mX7_pair) (o := 1) (as := [.int a, .int b]) (rest := [.int 0, .ref 94]) (v := some (.int (-1))) (d' := d - 1) dL_pair_5 rfl lL_15 (by omega) rfl (Nat.le_of_ble_eq_true rfl) rfl (Nat.le_of_ble_eq_true rfl) x1 C (fun h => nomatch h)) (j_L_pair_b_1 (Nat.zero_le _) h a b (-1) 0 1 f h94 in0_1))
  · have B := j_X7_pair_b_1 (d := d - 1) (by omega) h a b X x1 x2 F a2 _ b5 (ltn e) b0 60 f3 c3 (in60 e) b1 60 f4 c4 (in60 e) b2 60 f5 c5 (in60 e) b3 60 f6 c6 (in60 e)
    rw [nI_clamp (by omega), nI_1] at B
    obtain ⟨r1, g1⟩ := r.add e a2 ⟨b0, b1, b2, b3, b4, b5⟩ c7 q (s := 3) (x := a) (y := b) (z := -1) (v := 0) (by decide)
    have C : CM mX7_pair (d - 1) [.ref 1, .int a, .int b] h (some (.int (nI (tN T)))) (hadd h F (tN T) f3 f4 f5 f6 (3) (a) (b) (-1)) := E.st (J1 g) (E.st DM B)
    exact ⟨_, E.st (j_L_pair_a_1 (Nat.zero_le _) h a b) (E.st (s_invv (K := mX7_pair) (o := 1) (as := [.int a, .int b]) (rest := [.int 0, .ref 94]) (v := some (.int (nI (tN T)))) (d' := d - 1) dL_pair_5 rfl lL_15 (by omega) rfl (Nat.le_of_ble_eq_true rfl) rfl (Nat.le_of_ble_eq_true rfl) x1 C (fun h => nomatch h)) (j_L_pair_b_1 (Nat.zero_le _) _ a b (nI (tN T)) 0 1 f (by exact (hs_ne (by decide)).trans ((hs_ne (by decide)).trans ((hs_ne (by decide)).trans ((hs_ne (by decide)).trans ((hs_ne (by decide)).trans h94))))) in0_1)), r1, g1⟩

theorem q_pair {t0 : Int32} {T : NT} {Z : ZS} {μ : KM} {F : Nat → Value} {I : AI} {L : AL} {h : AH} {d : Nat} (r : RZ t0 T Z μ F I L h) (hd : 1 ≤ d) (a : Int32) (b : Int32) : (¬ (nd T a ∧ nd T b) → CM mX8_pair d [.ref 65, .int a, .int b] h (some (.int 0)) (hs h 65 (ob 8 (fo 53 (va_up F 0 (.int 1)))))) ∧ (nd T a ∧ nd T b → tN T = 60 → CM mX8_pair d [.ref 65, .int a, .int b] h (some (.int (-1))) (hs h 65 (ob 8 (fo 53 (va_up F 0 (.int 0)))))) ∧ (nd T a ∧ nd T b → tN T < 60 → CM mX8_pair d [.ref 65, .int a, .int b] h (some (.int (nI (tN T)))) (madd h F I L (tN T) (3) (a) (b) (-1) 0)) := by
  obtain ⟨mh, fs, rn, -⟩ := r.1
  have e1 := rn.1
  refine ⟨fun g => ?_, fun g e => ?_, fun g e => ?_⟩
  · skip
    by_cases g0 : nd T a
    case neg => exact j_X8_pair_a_1 (d := d) (by omega) h a b μ.1 μ.2.1 F mh.1 _ e1 (dn g0)
    by_cases g1 : nd T b
    case neg => exact j_X8_pair_a_2 (d := d) (by omega) h a b μ.1 μ.2.1 F mh.1 _ e1 g0 (dn g1)
    exact absurd ⟨g0, g1⟩ g
  · obtain ⟨g0, g1⟩ := g
    exact j_X8_pair_a_4 (d := d) (by omega) h a b μ.1 μ.2.1 F mh.1 _ e1 g0 g1 (by rw [e]; rfl)
  · obtain ⟨g0, g1⟩ := g
    have vv := in60 e
    have B := j_X8_pair_a_3 (d := d) (by omega) h a b μ.1 μ.2.1 F mh.1 _ e1 g0 g1 (n60 e) (fs.r (by decide)) 60 (I 66) (mh.i (by decide)) vv (fs.r (by decide)) 60 (L 67) (mh.l (by decide)) vv (fs.r (by decide)) 60 (I 68) (mh.i (by decide)) vv (fs.r (by decide)) 60 (I 69) (mh.i (by decide)) vv (fs.r (by decide)) 60 (I 70) (mh.i (by decide)) vv
    rw [nI_clamp (by omega), nI_1, nI_pred] at B
    exact B

theorem k_op {T : NT} {S : SS} {σ : St} {κ : KP} {w : WR} {h : AH} {X : Nat → Value} {f : Nat → Int64} {d : Nat} (r : RKx T S σ κ w h) (x1 : h.1 1 = ob 7 (fo 2 X)) (x2 : X 0 = .ref 2) (h94 : h.1 94 = la 1 f) (hd : 9 ≤ d) (a : Int32) (b : Int32) (c : Int32) : (¬ (nd T b ∧ nd T c ∧ ¬ a < 0 ∧ ¬ 5 < a) → CM mL_op d [.ref 1, .int a, .int b, .int c, .ref 94] h (some (.int 1)) (hX h)) ∧ (nd T b ∧ nd T c ∧ ¬ a < 0 ∧ ¬ 5 < a → tN T = 60 → CM mL_op d [.ref 1, .int a, .int b, .int c, .ref 94] h (some (.int 0)) (hs h 94 (la 1 (vp_updL f 0 ((-1 : Int32).toInt64))))) ∧ (nd T b ∧ nd T c ∧ ¬ a < 0 ∧ ¬ 5 < a → tN T < 60 → ∃ h1, CM mL_op d [.ref 1, .int a, .int b, .int c, .ref 94] h (some (.int 0)) (hs h1 94 (la 1 (vp_updL f 0 ((nI (tN T)).toInt64)))) ∧ RKx (addT T (6) (b) (c) (a) 0) S σ κ w h1 ∧ CG h κ h1 κ) := by
  obtain ⟨F, f3, f4, f5, f6, f7, a2, ⟨b0, b1, b2, b3, b4, b5⟩, ⟨c3, c4, c5, c6, c7⟩, h60, q⟩ := r.1.1.1
  have J0 : ¬ (nd T b ∧ nd T c ∧ ¬ a < 0 ∧ ¬ 5 < a) → J false mX7_op (d - 1) 0 [(0, .ref 1), (1, .int a), (2, .int b), (3, .int c)] [] h 36 [(0, .ref 1), (1, .int a), (2, .int b), (3, .int c)] [.int 0] h := fun g => by
    by_cases g0 : nd T b
    case neg => exact j_X7_op_a_1 (by omega) h a b c X x1 x2 F a2 _ b5 (dn g0)
    by_cases g1 : nd T c
    case neg => exact j_X7_op_a_2 (by omega) h a b c X x1 x2 F a2 _ b5 g0 (dn g1)
    by_cases g2 : ¬ a < 0
    case neg => exact j_X7_op_a_3 (by omega) h a b c X x1 x2 F a2 _ b5 g0 g1 (Decidable.not_not.mp g2)
    by_cases g3 : ¬ 5 < a
    case neg => exact j_X7_op_a_4 (by omega) h a b c X x1 x2 F a2 _ b5 g0 g1 g2 (Decidable.not_not.mp g3)
    exact absurd ⟨g0, g1, g2, g3⟩ g
  have J1 : nd T b ∧ nd T c ∧ ¬ a < 0 ∧ ¬ 5 < a → J false mX7_op (d - 1) 0 [(0, .ref 1), (1, .int a), (2, .int b), (3, .int c)] [] h 36 [(0, .ref 1), (1, .int a), (2, .int b), (3, .int c)] [.int 1] h := fun ⟨g0, g1, g2, g3⟩ => j_X7_op_a_5 (by omega) h a b c X x1 x2 F a2 _ b5 g0 g1 g2 g3
  have DM : J false mX7_op (d - 1) 36 [(0, .ref 1), (1, .int a), (2, .int b), (3, .int c)] [.int 1] h 39 [(0, .ref 1), (1, .int a), (2, .int b), (3, .int c)] [] h := (s_invs (K := mX7_demand) (as := [.int 1]) (rest := []) (v := none) dX7_op_36 rfl lX7_33 (by omega) rfl (Nat.le_of_ble_eq_true rfl) rfl (Nat.le_of_ble_eq_true rfl) (c_demand 0 h) (fun h => nomatch h))
  refine ⟨fun g => ?_, fun g e => ?_, fun g e => ?_⟩
  · exact E.st (j_L_op_a_1 (Nat.zero_le _) h a b c) (E.st (s_invvX (K := mX7_op) (o := 1) (as := [.int a, .int b, .int c]) (rest := [.int 0, .ref 94]) (d' := d - 1) dL_op_7 lL_22 (by omega) rfl rfl (Nat.le_of_ble_eq_true rfl) x1 (XA.cx (by decide +kernel) rfl (Nat.le_of_ble_eq_true rfl) (XA.st (J0 g) (xa_invs (K := mX7_demand) (as := [.int 0]) (rest := []) (d' := d - 2) dX7_op_36 lX7_33 (by omega) rfl rfl (Nat.le_of_ble_eq_true rfl) (x_demand (by omega) h)))) rfl (by decide) (by decide) (gm gi_wsL_law0_r7 (List.mem_of_getElem? (i := 18) rfl)) (List.mem_of_getElem? (i := 3) rfl) rfl (put_a dL_op_15 (by decide) rfl)) (j_L_op_c_1 (Nat.zero_le _) (hX h)))
  · have C : CM mX7_op (d - 1) [.ref 1, .int a, .int b, .int c] h (some (.int (-1))) h := E.st (J1 g) (E.st DM (j_X7_op_b_2 (by omega) h a b c X x1 x2 F a2 _ b5 (by rw [e]; decide)))
    exact E.st (j_L_op_a_1 (Nat.zero_le _) h a b c) (E.st (s_invv (K := mX7_op) (o := 1) (as := [.int a, .int b, .int c]) (rest := [.int 0, .ref 94]) (v := some (.int (-1))) (d' := d - 1) dL_op_7 rfl lL_22 (by omega) rfl (Nat.le_of_ble_eq_true rfl) rfl (Nat.le_of_ble_eq_true rfl) x1 C (fun h => nomatch h)) (j_L_op_b_1 (Nat.zero_le _) h a b c (-1) 0 1 f h94 in0_1))
  · have B := j_X7_op_b_1 (d := d - 1) (by omega) h a b c X x1 x2 F a2 _ b5 (ltn e) b0 60 f3 c3 (in60 e) b1 60 f4 c4 (in60 e) b2 60 f5 c5 (in60 e) b3 60 f6 c6 (in60 e)
    rw [nI_clamp (by omega), nI_1] at B
    obtain ⟨r1, g1⟩ := r.add e a2 ⟨b0, b1, b2, b3, b4, b5⟩ c7 q (s := 6) (x := b) (y := c) (z := a) (v := 0) (by decide)
    have C : CM mX7_op (d - 1) [.ref 1, .int a, .int b, .int c] h (some (.int (nI (tN T)))) (hadd h F (tN T) f3 f4 f5 f6 (6) (b) (c) (a)) := E.st (J1 g) (E.st DM B)
    exact ⟨_, E.st (j_L_op_a_1 (Nat.zero_le _) h a b c) (E.st (s_invv (K := mX7_op) (o := 1) (as := [.int a, .int b, .int c]) (rest := [.int 0, .ref 94]) (v := some (.int (nI (tN T)))) (d' := d - 1) dL_op_7 rfl lL_22 (by omega) rfl (Nat.le_of_ble_eq_true rfl) rfl (Nat.le_of_ble_eq_true rfl) x1 C (fun h => nomatch h)) (j_L_op_b_1 (Nat.zero_le _) _ a b c (nI (tN T)) 0 1 f (by exact (hs_ne (by decide)).trans ((hs_ne (by decide)).trans ((hs_ne (by decide)).trans ((hs_ne (by decide)).trans ((hs_ne (by decide)).trans h94))))) in0_1)), r1, g1⟩

theorem q_op {t0 : Int32} {T : NT} {Z : ZS} {μ : KM} {F : Nat → Value} {I : AI} {L : AL} {h : AH} {d : Nat} (r : RZ t0 T Z μ F I L h) (hd : 1 ≤ d) (a : Int32) (b : Int32) (c : Int32) : (¬ (nd T b ∧ nd T c ∧ ¬ a < 0 ∧ ¬ 5 < a) → CM mX8_op d [.ref 65, .int a, .int b, .int c] h (some (.int 0)) (hs h 65 (ob 8 (fo 53 (va_up F 0 (.int 1)))))) ∧ (nd T b ∧ nd T c ∧ ¬ a < 0 ∧ ¬ 5 < a → tN T = 60 → CM mX8_op d [.ref 65, .int a, .int b, .int c] h (some (.int (-1))) (hs h 65 (ob 8 (fo 53 (va_up F 0 (.int 0)))))) ∧ (nd T b ∧ nd T c ∧ ¬ a < 0 ∧ ¬ 5 < a → tN T < 60 → CM mX8_op d [.ref 65, .int a, .int b, .int c] h (some (.int (nI (tN T)))) (madd h F I L (tN T) (6) (b) (c) (a) 0)) := by
  obtain ⟨mh, fs, rn, -⟩ := r.1
  have e1 := rn.1
  refine ⟨fun g => ?_, fun g e => ?_, fun g e => ?_⟩
  · skip
    by_cases g0 : nd T b
    case neg => exact j_X8_op_a_1 (d := d) (by omega) h a b c μ.1 μ.2.1 F mh.1 _ e1 (dn g0)
    by_cases g1 : nd T c
    case neg => exact j_X8_op_a_2 (d := d) (by omega) h a b c μ.1 μ.2.1 F mh.1 _ e1 g0 (dn g1)
    by_cases g2 : ¬ a < 0
    case neg => exact j_X8_op_a_3 (d := d) (by omega) h a b c μ.1 μ.2.1 F mh.1 _ e1 g0 g1 (Decidable.not_not.mp g2)
    by_cases g3 : ¬ 5 < a
    case neg => exact j_X8_op_a_6 (d := d) (by omega) h a b c μ.1 μ.2.1 F mh.1 _ e1 g0 g1 g2 (Int32.not_le.mpr (Decidable.not_not.mp g3))
    exact absurd ⟨g0, g1, g2, g3⟩ g
  · obtain ⟨g0, g1, g2, g3⟩ := g
    exact j_X8_op_a_5 (d := d) (by omega) h a b c μ.1 μ.2.1 F mh.1 _ e1 g0 g1 g2 (Int32.not_lt.mp g3) (by rw [e]; rfl)
  · obtain ⟨g0, g1, g2, g3⟩ := g
    have vv := in60 e
    have B := j_X8_op_a_4 (d := d) (by omega) h a b c μ.1 μ.2.1 F mh.1 _ e1 g0 g1 g2 (Int32.not_lt.mp g3) (n60 e) (fs.r (by decide)) 60 (I 66) (mh.i (by decide)) vv (fs.r (by decide)) 60 (L 67) (mh.l (by decide)) vv (fs.r (by decide)) 60 (I 68) (mh.i (by decide)) vv (fs.r (by decide)) 60 (I 69) (mh.i (by decide)) vv (fs.r (by decide)) 60 (I 70) (mh.i (by decide)) vv
    rw [nI_clamp (by omega), nI_1, nI_pred] at B
    exact B

theorem k_when {T : NT} {S : SS} {σ : St} {κ : KP} {w : WR} {h : AH} {X : Nat → Value} {f : Nat → Int64} {d : Nat} (r : RKx T S σ κ w h) (x1 : h.1 1 = ob 7 (fo 2 X)) (x2 : X 0 = .ref 2) (h94 : h.1 94 = la 1 f) (hd : 9 ≤ d) (a : Int32) (b : Int32) (c : Int32) : (¬ (nd T a ∧ nd T b ∧ nd T c) → CM mL_when d [.ref 1, .int a, .int b, .int c, .ref 94] h (some (.int 1)) (hX h)) ∧ (nd T a ∧ nd T b ∧ nd T c → tN T = 60 → CM mL_when d [.ref 1, .int a, .int b, .int c, .ref 94] h (some (.int 0)) (hs h 94 (la 1 (vp_updL f 0 ((-1 : Int32).toInt64))))) ∧ (nd T a ∧ nd T b ∧ nd T c → tN T < 60 → ∃ h1, CM mL_when d [.ref 1, .int a, .int b, .int c, .ref 94] h (some (.int 0)) (hs h1 94 (la 1 (vp_updL f 0 ((nI (tN T)).toInt64)))) ∧ RKx (addT T (7) (a) (b) (c) 0) S σ κ w h1 ∧ CG h κ h1 κ) := by
  obtain ⟨F, f3, f4, f5, f6, f7, a2, ⟨b0, b1, b2, b3, b4, b5⟩, ⟨c3, c4, c5, c6, c7⟩, h60, q⟩ := r.1.1.1
  have J0 : ¬ (nd T a ∧ nd T b ∧ nd T c) → J false mX7_when (d - 1) 0 [(0, .ref 1), (1, .int a), (2, .int b), (3, .int c)] [] h 38 [(0, .ref 1), (1, .int a), (2, .int b), (3, .int c)] [.int 0] h := fun g => by
    by_cases g0 : nd T a
    case neg => exact j_X7_when_a_1 (by omega) h a b c X x1 x2 F a2 _ b5 (dn g0)
    by_cases g1 : nd T b
    case neg => exact j_X7_when_a_2 (by omega) h a b c X x1 x2 F a2 _ b5 g0 (dn g1)
    by_cases g2 : nd T c
    case neg => exact j_X7_when_a_3 (by omega) h a b c X x1 x2 F a2 _ b5 g0 g1 (dn g2)
    exact absurd ⟨g0, g1, g2⟩ g
  have J1 : nd T a ∧ nd T b ∧ nd T c → J false mX7_when (d - 1) 0 [(0, .ref 1), (1, .int a), (2, .int b), (3, .int c)] [] h 38 [(0, .ref 1), (1, .int a), (2, .int b), (3, .int c)] [.int 1] h := fun ⟨g0, g1, g2⟩ => j_X7_when_a_4 (by omega) h a b c X x1 x2 F a2 _ b5 g0 g1 g2
  have DM : J false mX7_when (d - 1) 38 [(0, .ref 1), (1, .int a), (2, .int b), (3, .int c)] [.int 1] h 41 [(0, .ref 1), (1, .int a), (2, .int b), (3, .int c)] [] h := (s_invs (K := mX7_demand) (as := [.int 1]) (rest := []) (v := none) dX7_when_38 rfl lX7_33 (by omega) rfl (Nat.le_of_ble_eq_true rfl) rfl (Nat.le_of_ble_eq_true rfl) (c_demand 0 h) (fun h => nomatch h))
  refine ⟨fun g => ?_, fun g e => ?_, fun g e => ?_⟩
  · exact E.st (j_L_when_a_1 (Nat.zero_le _) h a b c) (E.st (s_invvX (K := mX7_when) (o := 1) (as := [.int a, .int b, .int c]) (rest := [.int 0, .ref 94]) (d' := d - 1) dL_when_7 lL_26 (by omega) rfl rfl (Nat.le_of_ble_eq_true rfl) x1 (XA.cx (by decide +kernel) rfl (Nat.le_of_ble_eq_true rfl) (XA.st (J0 g) (xa_invs (K := mX7_demand) (as := [.int 0]) (rest := []) (d' := d - 2) dX7_when_38 lX7_33 (by omega) rfl rfl (Nat.le_of_ble_eq_true rfl) (x_demand (by omega) h)))) rfl (by decide) (by decide) (gm gi_wsL_law0_r7 (List.mem_of_getElem? (i := 18) rfl)) (List.mem_of_getElem? (i := 3) rfl) rfl (put_a dL_when_15 (by decide) rfl)) (j_L_when_c_1 (Nat.zero_le _) (hX h)))
  · have C : CM mX7_when (d - 1) [.ref 1, .int a, .int b, .int c] h (some (.int (-1))) h := E.st (J1 g) (E.st DM (j_X7_when_b_2 (by omega) h a b c X x1 x2 F a2 _ b5 (by rw [e]; decide)))
    exact E.st (j_L_when_a_1 (Nat.zero_le _) h a b c) (E.st (s_invv (K := mX7_when) (o := 1) (as := [.int a, .int b, .int c]) (rest := [.int 0, .ref 94]) (v := some (.int (-1))) (d' := d - 1) dL_when_7 rfl lL_26 (by omega) rfl (Nat.le_of_ble_eq_true rfl) rfl (Nat.le_of_ble_eq_true rfl) x1 C (fun h => nomatch h)) (j_L_when_b_1 (Nat.zero_le _) h a b c (-1) 0 1 f h94 in0_1))
  · have B := j_X7_when_b_1 (d := d - 1) (by omega) h a b c X x1 x2 F a2 _ b5 (ltn e) b0 60 f3 c3 (in60 e) b1 60 f4 c4 (in60 e) b2 60 f5 c5 (in60 e) b3 60 f6 c6 (in60 e)
    rw [nI_clamp (by omega), nI_1] at B
    obtain ⟨r1, g1⟩ := r.add e a2 ⟨b0, b1, b2, b3, b4, b5⟩ c7 q (s := 7) (x := a) (y := b) (z := c) (v := 0) (by decide)
    have C : CM mX7_when (d - 1) [.ref 1, .int a, .int b, .int c] h (some (.int (nI (tN T)))) (hadd h F (tN T) f3 f4 f5 f6 (7) (a) (b) (c)) := E.st (J1 g) (E.st DM B)
    exact ⟨_, E.st (j_L_when_a_1 (Nat.zero_le _) h a b c) (E.st (s_invv (K := mX7_when) (o := 1) (as := [.int a, .int b, .int c]) (rest := [.int 0, .ref 94]) (v := some (.int (nI (tN T)))) (d' := d - 1) dL_when_7 rfl lL_26 (by omega) rfl (Nat.le_of_ble_eq_true rfl) rfl (Nat.le_of_ble_eq_true rfl) x1 C (fun h => nomatch h)) (j_L_when_b_1 (Nat.zero_le _) _ a b c (nI (tN T)) 0 1 f (by exact (hs_ne (by decide)).trans ((hs_ne (by decide)).trans ((hs_ne (by decide)).trans ((hs_ne (by decide)).trans ((hs_ne (by decide)).trans h94))))) in0_1)), r1, g1⟩

theorem q_when {t0 : Int32} {T : NT} {Z : ZS} {μ : KM} {F : Nat → Value} {I : AI} {L : AL} {h : AH} {d : Nat} (r : RZ t0 T Z μ F I L h) (hd : 1 ≤ d) (a : Int32) (b : Int32) (c : Int32) : (¬ (nd T a ∧ nd T b ∧ nd T c) → CM mX8_when d [.ref 65, .int a, .int b, .int c] h (some (.int 0)) (hs h 65 (ob 8 (fo 53 (va_up F 0 (.int 1)))))) ∧ (nd T a ∧ nd T b ∧ nd T c → tN T = 60 → CM mX8_when d [.ref 65, .int a, .int b, .int c] h (some (.int (-1))) (hs h 65 (ob 8 (fo 53 (va_up F 0 (.int 0)))))) ∧ (nd T a ∧ nd T b ∧ nd T c → tN T < 60 → CM mX8_when d [.ref 65, .int a, .int b, .int c] h (some (.int (nI (tN T)))) (madd h F I L (tN T) (7) (a) (b) (c) 0)) := by
  obtain ⟨mh, fs, rn, -⟩ := r.1
  have e1 := rn.1
  refine ⟨fun g => ?_, fun g e => ?_, fun g e => ?_⟩
  · skip
    by_cases g0 : nd T a
    case neg => exact j_X8_when_a_1 (d := d) (by omega) h a b c μ.1 μ.2.1 F mh.1 _ e1 (dn g0)
    by_cases g1 : nd T b
    case neg => exact j_X8_when_a_2 (d := d) (by omega) h a b c μ.1 μ.2.1 F mh.1 _ e1 g0 (dn g1)
    by_cases g2 : nd T c
    case neg => exact j_X8_when_a_3 (d := d) (by omega) h a b c μ.1 μ.2.1 F mh.1 _ e1 g0 g1 (dn g2)
    exact absurd ⟨g0, g1, g2⟩ g
  · obtain ⟨g0, g1, g2⟩ := g
    exact j_X8_when_a_5 (d := d) (by omega) h a b c μ.1 μ.2.1 F mh.1 _ e1 g0 g1 g2 (by rw [e]; rfl)
  · obtain ⟨g0, g1, g2⟩ := g
    have vv := in60 e
    have B := j_X8_when_a_4 (d := d) (by omega) h a b c μ.1 μ.2.1 F mh.1 _ e1 g0 g1 g2 (n60 e) (fs.r (by decide)) 60 (I 66) (mh.i (by decide)) vv (fs.r (by decide)) 60 (L 67) (mh.l (by decide)) vv (fs.r (by decide)) 60 (I 68) (mh.i (by decide)) vv (fs.r (by decide)) 60 (I 69) (mh.i (by decide)) vv (fs.r (by decide)) 60 (I 70) (mh.i (by decide)) vv
    rw [nI_clamp (by omega), nI_1, nI_pred] at B
    exact B

theorem k_set {T : NT} {S : SS} {σ : St} {κ : KP} {w : WR} {h : AH} {X : Nat → Value} {f : Nat → Int64} {d : Nat} (r : RKx T S σ κ w h) (x1 : h.1 1 = ob 7 (fo 2 X)) (x2 : X 0 = .ref 2) (h94 : h.1 94 = la 1 f) (hd : 9 ≤ d) (a : Int32) (b : Int32) : (¬ (nd T a ∧ ¬ b < 0 ∧ ¬ nI (tN T) < b) → CM mL_set d [.ref 1, .int a, .int b, .ref 94] h (some (.int 1)) (hX h)) ∧ (nd T a ∧ ¬ b < 0 ∧ ¬ nI (tN T) < b → tN T = 60 → CM mL_set d [.ref 1, .int a, .int b, .ref 94] h (some (.int 0)) (hs h 94 (la 1 (vp_updL f 0 ((-1 : Int32).toInt64))))) ∧ (nd T a ∧ ¬ b < 0 ∧ ¬ nI (tN T) < b → tN T < 60 → ∃ h1, CM mL_set d [.ref 1, .int a, .int b, .ref 94] h (some (.int 0)) (hs h1 94 (la 1 (vp_updL f 0 ((nI (tN T)).toInt64)))) ∧ RKx (addT T (8) (a) (b) (-1) 0) S σ κ w h1 ∧ CG h κ h1 κ) := by
  obtain ⟨F, f3, f4, f5, f6, f7, a2, ⟨b0, b1, b2, b3, b4, b5⟩, ⟨c3, c4, c5, c6, c7⟩, h60, q⟩ := r.1.1.1
  have J0 : ¬ (nd T a ∧ ¬ b < 0 ∧ ¬ nI (tN T) < b) → J false mX7_set (d - 1) 0 [(0, .ref 1), (1, .int a), (2, .int b)] [] h 31 [(0, .ref 1), (1, .int a), (2, .int b)] [.int 0] h := fun g => by
    by_cases g0 : nd T a
    case neg => exact j_X7_set_a_1 (by omega) h a b X x1 x2 F a2 _ b5 (dn g0)
    by_cases g1 : ¬ b < 0
    case neg => exact j_X7_set_a_2 (by omega) h a b X x1 x2 F a2 _ b5 g0 (Decidable.not_not.mp g1)
    by_cases g2 : ¬ nI (tN T) < b
    case neg => exact j_X7_set_a_3 (by omega) h a b X x1 x2 F a2 _ b5 g0 g1 (Decidable.not_not.mp g2)
    exact absurd ⟨g0, g1, g2⟩ g
  have J1 : nd T a ∧ ¬ b < 0 ∧ ¬ nI (tN T) < b → J false mX7_set (d - 1) 0 [(0, .ref 1), (1, .int a), (2, .int b)] [] h 31 [(0, .ref 1), (1, .int a), (2, .int b)] [.int 1] h := fun ⟨g0, g1, g2⟩ => j_X7_set_a_4 (by omega) h a b X x1 x2 F a2 _ b5 g0 g1 g2
  have DM : J false mX7_set (d - 1) 31 [(0, .ref 1), (1, .int a), (2, .int b)] [.int 1] h 34 [(0, .ref 1), (1, .int a), (2, .int b)] [] h := (s_invs (K := mX7_demand) (as := [.int 1]) (rest := []) (v := none) dX7_set_31 rfl lX7_33 (by omega) rfl (Nat.le_of_ble_eq_true rfl) rfl (Nat.le_of_ble_eq_true rfl) (c_demand 0 h) (fun h => nomatch h))
  refine ⟨fun g => ?_, fun g e => ?_, fun g e => ?_⟩
  · exact E.st (j_L_set_a_1 (Nat.zero_le _) h a b) (E.st (s_invvX (K := mX7_set) (o := 1) (as := [.int a, .int b]) (rest := [.int 0, .ref 94]) (d' := d - 1) dL_set_5 lL_29 (by omega) rfl rfl (Nat.le_of_ble_eq_true rfl) x1 (XA.cx (by decide +kernel) rfl (Nat.le_of_ble_eq_true rfl) (XA.st (J0 g) (xa_invs (K := mX7_demand) (as := [.int 0]) (rest := []) (d' := d - 2) dX7_set_31 lX7_33 (by omega) rfl rfl (Nat.le_of_ble_eq_true rfl) (x_demand (by omega) h)))) rfl (by decide) (by decide) (gm gi_wsL_law0_r7 (List.mem_of_getElem? (i := 18) rfl)) (List.mem_of_getElem? (i := 3) rfl) rfl (put_a dL_set_13 (by decide) rfl)) (j_L_set_c_1 (Nat.zero_le _) (hX h)))
  · have C : CM mX7_set (d - 1) [.ref 1, .int a, .int b] h (some (.int (-1))) h := E.st (J1 g) (E.st DM (j_X7_set_b_2 (by omega) h a b X x1 x2 F a2 _ b5 (by rw [e]; decide)))
    exact E.st (j_L_set_a_1 (Nat.zero_le _) h a b) (E.st (s_invv (K := mX7_set) (o := 1) (as := [.int a, .int b]) (rest := [.int 0, .ref 94]) (v := some (.int (-1))) (d' := d - 1) dL_set_5 rfl lL_29 (by omega) rfl (Nat.le_of_ble_eq_true rfl) rfl (Nat.le_of_ble_eq_true rfl) x1 C (fun h => nomatch h)) (j_L_set_b_1 (Nat.zero_le _) h a b (-1) 0 1 f h94 in0_1))
  · have B := j_X7_set_b_1 (d := d - 1) (by omega) h a b X x1 x2 F a2 _ b5 (ltn e) b0 60 f3 c3 (in60 e) b1 60 f4 c4 (in60 e) b2 60 f5 c5 (in60 e) b3 60 f6 c6 (in60 e)
    rw [nI_clamp (by omega), nI_1] at B
    obtain ⟨r1, g1⟩ := r.add e a2 ⟨b0, b1, b2, b3, b4, b5⟩ c7 q (s := 8) (x := a) (y := b) (z := -1) (v := 0) (by decide)
    have C : CM mX7_set (d - 1) [.ref 1, .int a, .int b] h (some (.int (nI (tN T)))) (hadd h F (tN T) f3 f4 f5 f6 (8) (a) (b) (-1)) := E.st (J1 g) (E.st DM B)
    exact ⟨_, E.st (j_L_set_a_1 (Nat.zero_le _) h a b) (E.st (s_invv (K := mX7_set) (o := 1) (as := [.int a, .int b]) (rest := [.int 0, .ref 94]) (v := some (.int (nI (tN T)))) (d' := d - 1) dL_set_5 rfl lL_29 (by omega) rfl (Nat.le_of_ble_eq_true rfl) rfl (Nat.le_of_ble_eq_true rfl) x1 C (fun h => nomatch h)) (j_L_set_b_1 (Nat.zero_le _) _ a b (nI (tN T)) 0 1 f (by exact (hs_ne (by decide)).trans ((hs_ne (by decide)).trans ((hs_ne (by decide)).trans ((hs_ne (by decide)).trans ((hs_ne (by decide)).trans h94))))) in0_1)), r1, g1⟩

theorem q_set {t0 : Int32} {T : NT} {Z : ZS} {μ : KM} {F : Nat → Value} {I : AI} {L : AL} {h : AH} {d : Nat} (r : RZ t0 T Z μ F I L h) (hd : 1 ≤ d) (a : Int32) (b : Int32) : (¬ (nd T a ∧ ¬ b < 0 ∧ ¬ nI (tN T) < b) → CM mX8_set d [.ref 65, .int a, .int b] h (some (.int 0)) (hs h 65 (ob 8 (fo 53 (va_up F 0 (.int 1)))))) ∧ (nd T a ∧ ¬ b < 0 ∧ ¬ nI (tN T) < b → tN T = 60 → CM mX8_set d [.ref 65, .int a, .int b] h (some (.int (-1))) (hs h 65 (ob 8 (fo 53 (va_up F 0 (.int 0)))))) ∧ (nd T a ∧ ¬ b < 0 ∧ ¬ nI (tN T) < b → tN T < 60 → CM mX8_set d [.ref 65, .int a, .int b] h (some (.int (nI (tN T)))) (madd h F I L (tN T) (8) (a) (b) (-1) 0)) := by
  obtain ⟨mh, fs, rn, -⟩ := r.1
  have e1 := rn.1
  refine ⟨fun g => ?_, fun g e => ?_, fun g e => ?_⟩
  · skip
    by_cases g0 : nd T a
    case neg => exact j_X8_set_a_1 (d := d) (by omega) h a b μ.1 μ.2.1 F mh.1 _ e1 (dn g0)
    by_cases g1 : ¬ b < 0
    case neg => exact j_X8_set_a_2 (d := d) (by omega) h a b μ.1 μ.2.1 F mh.1 _ e1 g0 (Decidable.not_not.mp g1)
    by_cases g2 : ¬ nI (tN T) < b
    case neg => exact j_X8_set_a_5 (d := d) (by omega) h a b μ.1 μ.2.1 F mh.1 _ e1 g0 g1 (Int32.not_le.mpr (Decidable.not_not.mp g2))
    exact absurd ⟨g0, g1, g2⟩ g
  · obtain ⟨g0, g1, g2⟩ := g
    exact j_X8_set_a_4 (d := d) (by omega) h a b μ.1 μ.2.1 F mh.1 _ e1 g0 g1 (Int32.not_lt.mp g2) (by rw [e]; rfl)
  · obtain ⟨g0, g1, g2⟩ := g
    have vv := in60 e
    have B := j_X8_set_a_3 (d := d) (by omega) h a b μ.1 μ.2.1 F mh.1 _ e1 g0 g1 (Int32.not_lt.mp g2) (n60 e) (fs.r (by decide)) 60 (I 66) (mh.i (by decide)) vv (fs.r (by decide)) 60 (L 67) (mh.l (by decide)) vv (fs.r (by decide)) 60 (I 68) (mh.i (by decide)) vv (fs.r (by decide)) 60 (I 69) (mh.i (by decide)) vv (fs.r (by decide)) 60 (I 70) (mh.i (by decide)) vv
    rw [nI_clamp (by omega), nI_1, nI_pred] at B
    exact B

theorem k_fold {T : NT} {S : SS} {σ : St} {κ : KP} {w : WR} {h : AH} {X : Nat → Value} {f : Nat → Int64} {d : Nat} (r : RKx T S σ κ w h) (x1 : h.1 1 = ob 7 (fo 2 X)) (x2 : X 0 = .ref 2) (h94 : h.1 94 = la 1 f) (hd : 9 ≤ d) (a : Int32) (b : Int32) : (¬ (nd T b ∧ ¬ a < 0 ∧ ¬ 2 < a) → CM mL_fold d [.ref 1, .int a, .int b, .ref 94] h (some (.int 1)) (hX h)) ∧ (nd T b ∧ ¬ a < 0 ∧ ¬ 2 < a → tN T = 60 → CM mL_fold d [.ref 1, .int a, .int b, .ref 94] h (some (.int 0)) (hs h 94 (la 1 (vp_updL f 0 ((-1 : Int32).toInt64))))) ∧ (nd T b ∧ ¬ a < 0 ∧ ¬ 2 < a → tN T < 60 → ∃ h1, CM mL_fold d [.ref 1, .int a, .int b, .ref 94] h (some (.int 0)) (hs h1 94 (la 1 (vp_updL f 0 ((nI (tN T)).toInt64)))) ∧ RKx (addT T (9) (b) (a) (-1) 0) S σ κ w h1 ∧ CG h κ h1 κ) := by
  obtain ⟨F, f3, f4, f5, f6, f7, a2, ⟨b0, b1, b2, b3, b4, b5⟩, ⟨c3, c4, c5, c6, c7⟩, h60, q⟩ := r.1.1.1
  have J0 : ¬ (nd T b ∧ ¬ a < 0 ∧ ¬ 2 < a) → J false mX7_fold (d - 1) 0 [(0, .ref 1), (1, .int a), (2, .int b)] [] h 25 [(0, .ref 1), (1, .int a), (2, .int b)] [.int 0] h := fun g => by
    by_cases g0 : nd T b
    case neg => exact j_X7_fold_a_1 (by omega) h a b X x1 x2 F a2 _ b5 (dn g0)
    by_cases g1 : ¬ a < 0
    case neg => exact j_X7_fold_a_2 (by omega) h a b X x1 x2 F a2 _ b5 g0 (Decidable.not_not.mp g1)
    by_cases g2 : ¬ 2 < a
    case neg => exact j_X7_fold_a_3 (by omega) h a b X x1 x2 F a2 _ b5 g0 g1 (Decidable.not_not.mp g2)
    exact absurd ⟨g0, g1, g2⟩ g
  have J1 : nd T b ∧ ¬ a < 0 ∧ ¬ 2 < a → J false mX7_fold (d - 1) 0 [(0, .ref 1), (1, .int a), (2, .int b)] [] h 25 [(0, .ref 1), (1, .int a), (2, .int b)] [.int 1] h := fun ⟨g0, g1, g2⟩ => j_X7_fold_a_4 (by omega) h a b X x1 x2 F a2 _ b5 g0 g1 g2
  have DM : J false mX7_fold (d - 1) 25 [(0, .ref 1), (1, .int a), (2, .int b)] [.int 1] h 28 [(0, .ref 1), (1, .int a), (2, .int b)] [] h := (s_invs (K := mX7_demand) (as := [.int 1]) (rest := []) (v := none) dX7_fold_25 rfl lX7_33 (by omega) rfl (Nat.le_of_ble_eq_true rfl) rfl (Nat.le_of_ble_eq_true rfl) (c_demand 0 h) (fun h => nomatch h))
  refine ⟨fun g => ?_, fun g e => ?_, fun g e => ?_⟩
  · exact E.st (j_L_fold_a_1 (Nat.zero_le _) h a b) (E.st (s_invvX (K := mX7_fold) (o := 1) (as := [.int a, .int b]) (rest := [.int 0, .ref 94]) (d' := d - 1) dL_fold_5 lL_32 (by omega) rfl rfl (Nat.le_of_ble_eq_true rfl) x1 (XA.cx (by decide +kernel) rfl (Nat.le_of_ble_eq_true rfl) (XA.st (J0 g) (xa_invs (K := mX7_demand) (as := [.int 0]) (rest := []) (d' := d - 2) dX7_fold_25 lX7_33 (by omega) rfl rfl (Nat.le_of_ble_eq_true rfl) (x_demand (by omega) h)))) rfl (by decide) (by decide) (gm gi_wsL_law0_r7 (List.mem_of_getElem? (i := 18) rfl)) (List.mem_of_getElem? (i := 3) rfl) rfl (put_a dL_fold_13 (by decide) rfl)) (j_L_fold_c_1 (Nat.zero_le _) (hX h)))
  · have C : CM mX7_fold (d - 1) [.ref 1, .int a, .int b] h (some (.int (-1))) h := E.st (J1 g) (E.st DM (j_X7_fold_b_2 (by omega) h a b X x1 x2 F a2 _ b5 (by rw [e]; decide)))
    exact E.st (j_L_fold_a_1 (Nat.zero_le _) h a b) (E.st (s_invv (K := mX7_fold) (o := 1) (as := [.int a, .int b]) (rest := [.int 0, .ref 94]) (v := some (.int (-1))) (d' := d - 1) dL_fold_5 rfl lL_32 (by omega) rfl (Nat.le_of_ble_eq_true rfl) rfl (Nat.le_of_ble_eq_true rfl) x1 C (fun h => nomatch h)) (j_L_fold_b_1 (Nat.zero_le _) h a b (-1) 0 1 f h94 in0_1))
  · have B := j_X7_fold_b_1 (d := d - 1) (by omega) h a b X x1 x2 F a2 _ b5 (ltn e) b0 60 f3 c3 (in60 e) b1 60 f4 c4 (in60 e) b2 60 f5 c5 (in60 e) b3 60 f6 c6 (in60 e)
    rw [nI_clamp (by omega), nI_1] at B
    obtain ⟨r1, g1⟩ := r.add e a2 ⟨b0, b1, b2, b3, b4, b5⟩ c7 q (s := 9) (x := b) (y := a) (z := -1) (v := 0) (by decide)
    have C : CM mX7_fold (d - 1) [.ref 1, .int a, .int b] h (some (.int (nI (tN T)))) (hadd h F (tN T) f3 f4 f5 f6 (9) (b) (a) (-1)) := E.st (J1 g) (E.st DM B)
    exact ⟨_, E.st (j_L_fold_a_1 (Nat.zero_le _) h a b) (E.st (s_invv (K := mX7_fold) (o := 1) (as := [.int a, .int b]) (rest := [.int 0, .ref 94]) (v := some (.int (nI (tN T)))) (d' := d - 1) dL_fold_5 rfl lL_32 (by omega) rfl (Nat.le_of_ble_eq_true rfl) rfl (Nat.le_of_ble_eq_true rfl) x1 C (fun h => nomatch h)) (j_L_fold_b_1 (Nat.zero_le _) _ a b (nI (tN T)) 0 1 f (by exact (hs_ne (by decide)).trans ((hs_ne (by decide)).trans ((hs_ne (by decide)).trans ((hs_ne (by decide)).trans ((hs_ne (by decide)).trans h94))))) in0_1)), r1, g1⟩

theorem q_fold {t0 : Int32} {T : NT} {Z : ZS} {μ : KM} {F : Nat → Value} {I : AI} {L : AL} {h : AH} {d : Nat} (r : RZ t0 T Z μ F I L h) (hd : 1 ≤ d) (a : Int32) (b : Int32) : (¬ (nd T b ∧ ¬ a < 0 ∧ ¬ 2 < a) → CM mX8_fold d [.ref 65, .int a, .int b] h (some (.int 0)) (hs h 65 (ob 8 (fo 53 (va_up F 0 (.int 1)))))) ∧ (nd T b ∧ ¬ a < 0 ∧ ¬ 2 < a → tN T = 60 → CM mX8_fold d [.ref 65, .int a, .int b] h (some (.int (-1))) (hs h 65 (ob 8 (fo 53 (va_up F 0 (.int 0)))))) ∧ (nd T b ∧ ¬ a < 0 ∧ ¬ 2 < a → tN T < 60 → CM mX8_fold d [.ref 65, .int a, .int b] h (some (.int (nI (tN T)))) (madd h F I L (tN T) (9) (b) (a) (-1) 0)) := by
  obtain ⟨mh, fs, rn, -⟩ := r.1
  have e1 := rn.1
  refine ⟨fun g => ?_, fun g e => ?_, fun g e => ?_⟩
  · skip
    by_cases g0 : nd T b
    case neg => exact j_X8_fold_a_1 (d := d) (by omega) h a b μ.1 μ.2.1 F mh.1 _ e1 (dn g0)
    by_cases g1 : ¬ a < 0
    case neg => exact j_X8_fold_a_2 (d := d) (by omega) h a b μ.1 μ.2.1 F mh.1 _ e1 g0 (Decidable.not_not.mp g1)
    by_cases g2 : ¬ 2 < a
    case neg => exact j_X8_fold_a_5 (d := d) (by omega) h a b μ.1 μ.2.1 F mh.1 _ e1 g0 g1 (Int32.not_le.mpr (Decidable.not_not.mp g2))
    exact absurd ⟨g0, g1, g2⟩ g
  · obtain ⟨g0, g1, g2⟩ := g
    exact j_X8_fold_a_4 (d := d) (by omega) h a b μ.1 μ.2.1 F mh.1 _ e1 g0 g1 (Int32.not_lt.mp g2) (by rw [e]; rfl)
  · obtain ⟨g0, g1, g2⟩ := g
    have vv := in60 e
    have B := j_X8_fold_a_3 (d := d) (by omega) h a b μ.1 μ.2.1 F mh.1 _ e1 g0 g1 (Int32.not_lt.mp g2) (n60 e) (fs.r (by decide)) 60 (I 66) (mh.i (by decide)) vv (fs.r (by decide)) 60 (L 67) (mh.l (by decide)) vv (fs.r (by decide)) 60 (I 68) (mh.i (by decide)) vv (fs.r (by decide)) 60 (I 69) (mh.i (by decide)) vv (fs.r (by decide)) 60 (I 70) (mh.i (by decide)) vv
    rw [nI_clamp (by omega), nI_1, nI_pred] at B
    exact B

