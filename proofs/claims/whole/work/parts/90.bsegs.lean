set_option maxRecDepth 20000 in
theorem j_X8_number_a_1 {d : Nat} (hd : 1 ≤ d) (h : AH) (v : Int64) (x : Nat) (y : Nat) (F : Nat → Value) (ho : h.1 65 = ob 8 (fo 53 F)) (v1 : Int32) (e1 : F 1 = .int v1) (c : ¬ v1 = 60) (e2 : F 2 = .ref 66) (n : Nat) (f : Nat → Int32) (ha : h.1 66 = ia n f) (c1 : vp_in v1 n) (e3 : F 3 = .ref 67) (n1 : Nat) (f1 : Nat → Int64) (ha1 : h.1 67 = la n1 f1) (c2 : vp_in v1 n1) (e4 : F 4 = .ref 68) (n2 : Nat) (f2 : Nat → Int32) (ha2 : h.1 68 = ia n2 f2) (c3 : vp_in v1 n2) (e5 : F 5 = .ref 69) (n3 : Nat) (f3 : Nat → Int32) (ha3 : h.1 69 = ia n3 f3) (c4 : vp_in v1 n3) (e6 : F 6 = .ref 70) (n4 : Nat) (f4 : Nat → Int32) (ha4 : h.1 70 = ia n4 f4) (c5 : vp_in v1 n4) : E false mX8_number d 0 [(0, .ref 65), (1, .long v)] [] h (some (.int ((v1 + 1) - 1))) (hs (hs (hs (hs (hs (hs (hs h 65 (ob 8 (fo 53 (va_up F 0 (.int 0))))) 66 (ia n (upd f v1.toNatClampNeg (0 : Int32)))) 67 (la n1 (vp_updL f1 v1.toNatClampNeg v))) 68 (ia n2 (upd f2 v1.toNatClampNeg (-1 : Int32)))) 69 (ia n3 (upd f3 v1.toNatClampNeg (-1 : Int32)))) 70 (ia n4 (upd f4 v1.toNatClampNeg (-1 : Int32)))) 65 (ob 8 (fo 53 (va_up (va_up F 0 (.int 0)) 1 (.int (v1 + 1)))))) := by
  refine E.st (s_aload_n (q := 1) dX8_number_0 rfl rfl) ?_
  refine E.st (s_iconst (q := 2) (v := 0) dX8_number_1 rfl (by decide)) ?_
  refine E.st (s_pf (q := 5) dX8_number_2 rfl fX8_97 (ho) (by decide) (fun _ => ⟨rfl, rfl⟩)) ?_
  refine E.st (s_aload_n (q := 6) dX8_number_5 rfl rfl) ?_
  refine E.st (s_iconst (q := 7) (v := 0) dX8_number_6 rfl (by decide)) ?_
  refine E.st (s_lload_n (q := 8) dX8_number_7 rfl rfl) ?_
  refine E.st (s_iconst (q := 9) (v := (-1)) dX8_number_8 rfl (by decide)) ?_
  refine E.st (s_iconst (q := 10) (v := (-1)) dX8_number_9 rfl (by decide)) ?_
  refine E.st (s_iconst (q := 11) (v := (-1)) dX8_number_10 rfl (by decide)) ?_
  refine E.st (p2 := 14) (l2 := [(0, .ref 65), (1, .long v)]) (s2 := [.int ((v1 + 1) - 1)]) (h2 := (hs (hs (hs (hs (hs (hs (hs h 65 (ob 8 (fo 53 (va_up F 0 (.int 0))))) 66 (ia n (upd f v1.toNatClampNeg (0 : Int32)))) 67 (la n1 (vp_updL f1 v1.toNatClampNeg v))) 68 (ia n2 (upd f2 v1.toNatClampNeg (-1 : Int32)))) 69 (ia n3 (upd f3 v1.toNatClampNeg (-1 : Int32)))) 70 (ia n4 (upd f4 v1.toNatClampNeg (-1 : Int32)))) 65 (ob 8 (fo 53 (va_up (va_up F 0 (.int 0)) 1 (.int (v1 + 1))))))) (s_invv (K := mX8_make) (o := 65) (as := [.int 0, .long v, .int (-1), .int (-1), .int (-1)]) (rest := []) (v := some (.int ((v1 + 1) - 1))) dX8_number_11 rfl lX8_104 (by omega) rfl (Nat.le_of_ble_eq_true rfl) rfl (Nat.le_of_ble_eq_true rfl) (hs_eq) (p_X8_make_1 (d := 0) (Nat.le_refl _) (hs h 65 (ob 8 (fo 53 (va_up F 0 (.int 0))))) 65 (0 : Int32) v (-1 : Int32) (-1 : Int32) (-1 : Int32) (va_up F 0 (.int 0)) hs_eq v1 ((up_ne (by decide)).trans (e1)) c 66 ((up_ne (by decide)).trans (e2)) n f ((hs_ne (by decide)).trans (ha)) c1 (by decide) 67 ((up_ne (by decide)).trans (e3)) n1 f1 ((hs_ne (by decide)).trans (ha1)) c2 68 ((up_ne (by decide)).trans (e4)) n2 f2 ((hs_ne (by decide)).trans (ha2)) (by decide) c3 (by decide) 69 ((up_ne (by decide)).trans (e5)) n3 f3 ((hs_ne (by decide)).trans (ha3)) (by decide) (by decide) c4 (by decide) 70 ((up_ne (by decide)).trans (e6)) n4 f4 ((hs_ne (by decide)).trans (ha4)) (by decide) (by decide) (by decide) c5 (by decide)) (fun h => nomatch h)) ?_
  exact E.i dX8_number_14 rfl rfl rfl rfl

set_option maxRecDepth 20000 in
theorem j_X8_number_a_2 {d : Nat} (hd : 1 ≤ d) (h : AH) (v : Int64) (x : Nat) (y : Nat) (F : Nat → Value) (ho : h.1 65 = ob 8 (fo 53 F)) (v1 : Int32) (e1 : F 1 = .int v1) (c : v1 = 60) : E false mX8_number d 0 [(0, .ref 65), (1, .long v)] [] h (some (.int (-1))) (hs h 65 (ob 8 (fo 53 (va_up F 0 (.int 0))))) := by
  refine E.st (s_aload_n (q := 1) dX8_number_0 rfl rfl) ?_
  refine E.st (s_iconst (q := 2) (v := 0) dX8_number_1 rfl (by decide)) ?_
  refine E.st (s_pf (q := 5) dX8_number_2 rfl fX8_97 (ho) (by decide) (fun _ => ⟨rfl, rfl⟩)) ?_
  refine E.st (s_aload_n (q := 6) dX8_number_5 rfl rfl) ?_
  refine E.st (s_iconst (q := 7) (v := 0) dX8_number_6 rfl (by decide)) ?_
  refine E.st (s_lload_n (q := 8) dX8_number_7 rfl rfl) ?_
  refine E.st (s_iconst (q := 9) (v := (-1)) dX8_number_8 rfl (by decide)) ?_
  refine E.st (s_iconst (q := 10) (v := (-1)) dX8_number_9 rfl (by decide)) ?_
  refine E.st (s_iconst (q := 11) (v := (-1)) dX8_number_10 rfl (by decide)) ?_
  refine E.st (p2 := 14) (l2 := [(0, .ref 65), (1, .long v)]) (s2 := [.int (-1)]) (h2 := (hs h 65 (ob 8 (fo 53 (va_up F 0 (.int 0)))))) (s_invv (K := mX8_make) (o := 65) (as := [.int 0, .long v, .int (-1), .int (-1), .int (-1)]) (rest := []) (v := some (.int (-1))) dX8_number_11 rfl lX8_104 (by omega) rfl (Nat.le_of_ble_eq_true rfl) rfl (Nat.le_of_ble_eq_true rfl) (hs_eq) (p_X8_make_2 (d := 0) (Nat.le_refl _) (hs h 65 (ob 8 (fo 53 (va_up F 0 (.int 0))))) 65 (0 : Int32) v (-1 : Int32) (-1 : Int32) (-1 : Int32) (va_up F 0 (.int 0)) hs_eq v1 ((up_ne (by decide)).trans (e1)) c) (fun h => nomatch h)) ?_
  exact E.i dX8_number_14 rfl rfl rfl rfl

set_option maxRecDepth 20000 in
theorem j_X8_fail_a_1 {d : Nat} (hd : 1 ≤ d) (h : AH) (x : Nat) (y : Nat) (F : Nat → Value) (ho : h.1 65 = ob 8 (fo 53 F)) (v1 : Int32) (e1 : F 1 = .int v1) (c : ¬ v1 = 60) (e2 : F 2 = .ref 66) (n : Nat) (f : Nat → Int32) (ha : h.1 66 = ia n f) (c1 : vp_in v1 n) (e3 : F 3 = .ref 67) (n1 : Nat) (f1 : Nat → Int64) (ha1 : h.1 67 = la n1 f1) (c2 : vp_in v1 n1) (e4 : F 4 = .ref 68) (n2 : Nat) (f2 : Nat → Int32) (ha2 : h.1 68 = ia n2 f2) (c3 : vp_in v1 n2) (e5 : F 5 = .ref 69) (n3 : Nat) (f3 : Nat → Int32) (ha3 : h.1 69 = ia n3 f3) (c4 : vp_in v1 n3) (e6 : F 6 = .ref 70) (n4 : Nat) (f4 : Nat → Int32) (ha4 : h.1 70 = ia n4 f4) (c5 : vp_in v1 n4) : E false mX8_fail d 0 [(0, .ref 65)] [] h (some (.int ((v1 + 1) - 1))) (hs (hs (hs (hs (hs (hs (hs h 65 (ob 8 (fo 53 (va_up F 0 (.int 0))))) 66 (ia n (upd f v1.toNatClampNeg (2 : Int32)))) 67 (la n1 (vp_updL f1 v1.toNatClampNeg (0 : Int64)))) 68 (ia n2 (upd f2 v1.toNatClampNeg (-1 : Int32)))) 69 (ia n3 (upd f3 v1.toNatClampNeg (-1 : Int32)))) 70 (ia n4 (upd f4 v1.toNatClampNeg (-1 : Int32)))) 65 (ob 8 (fo 53 (va_up (va_up F 0 (.int 0)) 1 (.int (v1 + 1)))))) := by
  refine E.st (s_aload_n (q := 1) dX8_fail_0 rfl rfl) ?_
  refine E.st (s_iconst (q := 2) (v := 0) dX8_fail_1 rfl (by decide)) ?_
  refine E.st (s_pf (q := 5) dX8_fail_2 rfl fX8_97 (ho) (by decide) (fun _ => ⟨rfl, rfl⟩)) ?_
  refine E.st (s_aload_n (q := 6) dX8_fail_5 rfl rfl) ?_
  refine E.st (s_iconst (q := 7) (v := 2) dX8_fail_6 rfl (by decide)) ?_
  refine E.st (s_lconst (q := 8) (v := 0) dX8_fail_7 rfl (by decide)) ?_
  refine E.st (s_iconst (q := 9) (v := (-1)) dX8_fail_8 rfl (by decide)) ?_
  refine E.st (s_iconst (q := 10) (v := (-1)) dX8_fail_9 rfl (by decide)) ?_
  refine E.st (s_iconst (q := 11) (v := (-1)) dX8_fail_10 rfl (by decide)) ?_
  refine E.st (p2 := 14) (l2 := [(0, .ref 65)]) (s2 := [.int ((v1 + 1) - 1)]) (h2 := (hs (hs (hs (hs (hs (hs (hs h 65 (ob 8 (fo 53 (va_up F 0 (.int 0))))) 66 (ia n (upd f v1.toNatClampNeg (2 : Int32)))) 67 (la n1 (vp_updL f1 v1.toNatClampNeg (0 : Int64)))) 68 (ia n2 (upd f2 v1.toNatClampNeg (-1 : Int32)))) 69 (ia n3 (upd f3 v1.toNatClampNeg (-1 : Int32)))) 70 (ia n4 (upd f4 v1.toNatClampNeg (-1 : Int32)))) 65 (ob 8 (fo 53 (va_up (va_up F 0 (.int 0)) 1 (.int (v1 + 1))))))) (s_invv (K := mX8_make) (o := 65) (as := [.int 2, .long 0, .int (-1), .int (-1), .int (-1)]) (rest := []) (v := some (.int ((v1 + 1) - 1))) dX8_fail_11 rfl lX8_104 (by omega) rfl (Nat.le_of_ble_eq_true rfl) rfl (Nat.le_of_ble_eq_true rfl) (hs_eq) (p_X8_make_1 (d := 0) (Nat.le_refl _) (hs h 65 (ob 8 (fo 53 (va_up F 0 (.int 0))))) 65 (2 : Int32) (0 : Int64) (-1 : Int32) (-1 : Int32) (-1 : Int32) (va_up F 0 (.int 0)) hs_eq v1 ((up_ne (by decide)).trans (e1)) c 66 ((up_ne (by decide)).trans (e2)) n f ((hs_ne (by decide)).trans (ha)) c1 (by decide) 67 ((up_ne (by decide)).trans (e3)) n1 f1 ((hs_ne (by decide)).trans (ha1)) c2 68 ((up_ne (by decide)).trans (e4)) n2 f2 ((hs_ne (by decide)).trans (ha2)) (by decide) c3 (by decide) 69 ((up_ne (by decide)).trans (e5)) n3 f3 ((hs_ne (by decide)).trans (ha3)) (by decide) (by decide) c4 (by decide) 70 ((up_ne (by decide)).trans (e6)) n4 f4 ((hs_ne (by decide)).trans (ha4)) (by decide) (by decide) (by decide) c5 (by decide)) (fun h => nomatch h)) ?_
  exact E.i dX8_fail_14 rfl rfl rfl rfl

set_option maxRecDepth 20000 in
theorem j_X8_fail_a_2 {d : Nat} (hd : 1 ≤ d) (h : AH) (x : Nat) (y : Nat) (F : Nat → Value) (ho : h.1 65 = ob 8 (fo 53 F)) (v1 : Int32) (e1 : F 1 = .int v1) (c : v1 = 60) : E false mX8_fail d 0 [(0, .ref 65)] [] h (some (.int (-1))) (hs h 65 (ob 8 (fo 53 (va_up F 0 (.int 0))))) := by
  refine E.st (s_aload_n (q := 1) dX8_fail_0 rfl rfl) ?_
  refine E.st (s_iconst (q := 2) (v := 0) dX8_fail_1 rfl (by decide)) ?_
  refine E.st (s_pf (q := 5) dX8_fail_2 rfl fX8_97 (ho) (by decide) (fun _ => ⟨rfl, rfl⟩)) ?_
  refine E.st (s_aload_n (q := 6) dX8_fail_5 rfl rfl) ?_
  refine E.st (s_iconst (q := 7) (v := 2) dX8_fail_6 rfl (by decide)) ?_
  refine E.st (s_lconst (q := 8) (v := 0) dX8_fail_7 rfl (by decide)) ?_
  refine E.st (s_iconst (q := 9) (v := (-1)) dX8_fail_8 rfl (by decide)) ?_
  refine E.st (s_iconst (q := 10) (v := (-1)) dX8_fail_9 rfl (by decide)) ?_
  refine E.st (s_iconst (q := 11) (v := (-1)) dX8_fail_10 rfl (by decide)) ?_
  refine E.st (p2 := 14) (l2 := [(0, .ref 65)]) (s2 := [.int (-1)]) (h2 := (hs h 65 (ob 8 (fo 53 (va_up F 0 (.int 0)))))) (s_invv (K := mX8_make) (o := 65) (as := [.int 2, .long 0, .int (-1), .int (-1), .int (-1)]) (rest := []) (v := some (.int (-1))) dX8_fail_11 rfl lX8_104 (by omega) rfl (Nat.le_of_ble_eq_true rfl) rfl (Nat.le_of_ble_eq_true rfl) (hs_eq) (p_X8_make_2 (d := 0) (Nat.le_refl _) (hs h 65 (ob 8 (fo 53 (va_up F 0 (.int 0))))) 65 (2 : Int32) (0 : Int64) (-1 : Int32) (-1 : Int32) (-1 : Int32) (va_up F 0 (.int 0)) hs_eq v1 ((up_ne (by decide)).trans (e1)) c) (fun h => nomatch h)) ?_
  exact E.i dX8_fail_14 rfl rfl rfl rfl

set_option maxRecDepth 20000 in
theorem j_X8_choice_a_1 {d : Nat} (hd : 1 ≤ d) (h : AH) (a : Int32) (b : Int32) (x : Nat) (y : Nat) (F : Nat → Value) (ho : h.1 65 = ob 8 (fo 53 F)) (v1 : Int32) (e1 : F 1 = .int v1) (c : a < 0 ∨ v1 ≤ a) : E false mX8_choice d 0 [(0, .ref 65), (1, .int a), (2, .int b)] [] h (some (.int 0)) (hs h 65 (ob 8 (fo 53 (va_up F 0 (.int 1))))) := by
  refine E.st (s_aload_n (q := 1) dX8_choice_0 rfl rfl) ?_
  refine E.st (s_aload_n (q := 2) dX8_choice_1 rfl rfl) ?_
  refine E.st (s_iload_n (q := 3) dX8_choice_2 rfl rfl) ?_
  refine E.st (p2 := 6) (l2 := [(0, .ref 65), (1, .int a), (2, .int b)]) (s2 := [.int 0, .ref 65]) (h2 := h) (s_invv (K := mX8_isNode) (o := 65) (as := [.int a]) (rest := [.ref 65]) (v := some (.int 0)) dX8_choice_3 rfl lX8_108 (by omega) rfl (Nat.le_of_ble_eq_true rfl) rfl (Nat.le_of_ble_eq_true rfl) (ho) (q_X8_isNode_n (d := 0) (Nat.le_refl _) h 65 a F ho v1 e1 c) (fun h => nomatch h)) ?_
  refine E.st (s_if_eq_t (q := 17) dX8_choice_6 (by decide) (by decide)) ?_
  refine E.st (s_iconst (q := 18) (v := 1) dX8_choice_17 rfl (by decide)) ?_
  refine E.st (s_goto (q := 22) dX8_choice_18 (by decide)) ?_
  refine E.st (p2 := 25) (l2 := [(0, .ref 65), (1, .int a), (2, .int b)]) (s2 := [.int (1 : Int32)]) (h2 := (hs h 65 (ob 8 (fo 53 (va_up F 0 (.int 1)))))) (s_invv (K := mX8_refused) (o := 65) (as := [.int 1]) (rest := []) (v := some (.int (1 : Int32))) dX8_choice_22 rfl lX8_112 (by omega) rfl (Nat.le_of_ble_eq_true rfl) rfl (Nat.le_of_ble_eq_true rfl) (ho) (p_X8_refused_2 (d := 0) (Nat.le_refl _) h 65 (1 : Int32) (by decide) F ho rfl) (fun h => nomatch h)) ?_
  refine E.st (s_if_eq_f (q := 28) (tg := 32) dX8_choice_25 (by decide) rfl (by decide)) ?_
  refine E.st (s_iconst (q := 29) (v := 0) dX8_choice_28 rfl (by decide)) ?_
  refine E.st (s_goto (q := 41) dX8_choice_29 (by decide)) ?_
  exact E.i dX8_choice_41 rfl rfl rfl rfl

set_option maxRecDepth 20000 in
theorem j_X8_choice_a_2 {d : Nat} (hd : 1 ≤ d) (h : AH) (a : Int32) (b : Int32) (x : Nat) (y : Nat) (F : Nat → Value) (ho : h.1 65 = ob 8 (fo 53 F)) (v1 : Int32) (e1 : F 1 = .int v1) (c : ¬ (a < 0) ∧ ¬ (v1 ≤ a)) (c1 : b < 0 ∨ v1 ≤ b) : E false mX8_choice d 0 [(0, .ref 65), (1, .int a), (2, .int b)] [] h (some (.int 0)) (hs h 65 (ob 8 (fo 53 (va_up F 0 (.int 1))))) := by
  refine E.st (s_aload_n (q := 1) dX8_choice_0 rfl rfl) ?_
  refine E.st (s_aload_n (q := 2) dX8_choice_1 rfl rfl) ?_
  refine E.st (s_iload_n (q := 3) dX8_choice_2 rfl rfl) ?_
  refine E.st (p2 := 6) (l2 := [(0, .ref 65), (1, .int a), (2, .int b)]) (s2 := [.int 1, .ref 65]) (h2 := h) (s_invv (K := mX8_isNode) (o := 65) (as := [.int a]) (rest := [.ref 65]) (v := some (.int 1)) dX8_choice_3 rfl lX8_108 (by omega) rfl (Nat.le_of_ble_eq_true rfl) rfl (Nat.le_of_ble_eq_true rfl) (ho) (q_X8_isNode_y (d := 0) (Nat.le_refl _) h 65 a F ho v1 e1 c) (fun h => nomatch h)) ?_
  refine E.st (s_if_eq_f (q := 9) (tg := 17) dX8_choice_6 (by decide) rfl (by decide)) ?_
  refine E.st (s_aload_n (q := 10) dX8_choice_9 rfl rfl) ?_
  refine E.st (s_iload_n (q := 11) dX8_choice_10 rfl rfl) ?_
  refine E.st (p2 := 14) (l2 := [(0, .ref 65), (1, .int a), (2, .int b)]) (s2 := [.int 0, .ref 65]) (h2 := h) (s_invv (K := mX8_isNode) (o := 65) (as := [.int b]) (rest := [.ref 65]) (v := some (.int 0)) dX8_choice_11 rfl lX8_108 (by omega) rfl (Nat.le_of_ble_eq_true rfl) rfl (Nat.le_of_ble_eq_true rfl) (ho) (q_X8_isNode_n (d := 0) (Nat.le_refl _) h 65 b F ho v1 e1 c1) (fun h => nomatch h)) ?_
  refine E.st (s_if_ne_f (q := 17) (tg := 21) dX8_choice_14 (by decide) rfl (by decide)) ?_
  refine E.st (s_iconst (q := 18) (v := 1) dX8_choice_17 rfl (by decide)) ?_
  refine E.st (s_goto (q := 22) dX8_choice_18 (by decide)) ?_
  refine E.st (p2 := 25) (l2 := [(0, .ref 65), (1, .int a), (2, .int b)]) (s2 := [.int (1 : Int32)]) (h2 := (hs h 65 (ob 8 (fo 53 (va_up F 0 (.int 1)))))) (s_invv (K := mX8_refused) (o := 65) (as := [.int 1]) (rest := []) (v := some (.int (1 : Int32))) dX8_choice_22 rfl lX8_112 (by omega) rfl (Nat.le_of_ble_eq_true rfl) rfl (Nat.le_of_ble_eq_true rfl) (ho) (p_X8_refused_2 (d := 0) (Nat.le_refl _) h 65 (1 : Int32) (by decide) F ho rfl) (fun h => nomatch h)) ?_
  refine E.st (s_if_eq_f (q := 28) (tg := 32) dX8_choice_25 (by decide) rfl (by decide)) ?_
  refine E.st (s_iconst (q := 29) (v := 0) dX8_choice_28 rfl (by decide)) ?_
  refine E.st (s_goto (q := 41) dX8_choice_29 (by decide)) ?_
  exact E.i dX8_choice_41 rfl rfl rfl rfl

set_option maxRecDepth 20000 in
theorem j_X8_choice_a_3 {d : Nat} (hd : 1 ≤ d) (h : AH) (a : Int32) (b : Int32) (x : Nat) (y : Nat) (F : Nat → Value) (ho : h.1 65 = ob 8 (fo 53 F)) (v1 : Int32) (e1 : F 1 = .int v1) (c : ¬ (a < 0) ∧ ¬ (v1 ≤ a)) (c1 : ¬ (b < 0) ∧ ¬ (v1 ≤ b)) (c2 : ¬ v1 = 60) (e2 : F 2 = .ref 66) (n : Nat) (f : Nat → Int32) (ha : h.1 66 = ia n f) (c3 : vp_in v1 n) (e3 : F 3 = .ref 67) (n1 : Nat) (f1 : Nat → Int64) (ha1 : h.1 67 = la n1 f1) (c4 : vp_in v1 n1) (e4 : F 4 = .ref 68) (n2 : Nat) (f2 : Nat → Int32) (ha2 : h.1 68 = ia n2 f2) (c5 : vp_in v1 n2) (e5 : F 5 = .ref 69) (n3 : Nat) (f3 : Nat → Int32) (ha3 : h.1 69 = ia n3 f3) (c6 : vp_in v1 n3) (e6 : F 6 = .ref 70) (n4 : Nat) (f4 : Nat → Int32) (ha4 : h.1 70 = ia n4 f4) (c7 : vp_in v1 n4) : E false mX8_choice d 0 [(0, .ref 65), (1, .int a), (2, .int b)] [] h (some (.int ((v1 + 1) - 1))) (hs (hs (hs (hs (hs (hs (hs h 65 (ob 8 (fo 53 (va_up F 0 (.int 0))))) 66 (ia n (upd f v1.toNatClampNeg (1 : Int32)))) 67 (la n1 (vp_updL f1 v1.toNatClampNeg (0 : Int64)))) 68 (ia n2 (upd f2 v1.toNatClampNeg a))) 69 (ia n3 (upd f3 v1.toNatClampNeg b))) 70 (ia n4 (upd f4 v1.toNatClampNeg (-1 : Int32)))) 65 (ob 8 (fo 53 (va_up (va_up F 0 (.int 0)) 1 (.int (v1 + 1)))))) := by
  refine E.st (s_aload_n (q := 1) dX8_choice_0 rfl rfl) ?_
  refine E.st (s_aload_n (q := 2) dX8_choice_1 rfl rfl) ?_
  refine E.st (s_iload_n (q := 3) dX8_choice_2 rfl rfl) ?_
  refine E.st (p2 := 6) (l2 := [(0, .ref 65), (1, .int a), (2, .int b)]) (s2 := [.int 1, .ref 65]) (h2 := h) (s_invv (K := mX8_isNode) (o := 65) (as := [.int a]) (rest := [.ref 65]) (v := some (.int 1)) dX8_choice_3 rfl lX8_108 (by omega) rfl (Nat.le_of_ble_eq_true rfl) rfl (Nat.le_of_ble_eq_true rfl) (ho) (q_X8_isNode_y (d := 0) (Nat.le_refl _) h 65 a F ho v1 e1 c) (fun h => nomatch h)) ?_
  refine E.st (s_if_eq_f (q := 9) (tg := 17) dX8_choice_6 (by decide) rfl (by decide)) ?_
  refine E.st (s_aload_n (q := 10) dX8_choice_9 rfl rfl) ?_
  refine E.st (s_iload_n (q := 11) dX8_choice_10 rfl rfl) ?_
  refine E.st (p2 := 14) (l2 := [(0, .ref 65), (1, .int a), (2, .int b)]) (s2 := [.int 1, .ref 65]) (h2 := h) (s_invv (K := mX8_isNode) (o := 65) (as := [.int b]) (rest := [.ref 65]) (v := some (.int 1)) dX8_choice_11 rfl lX8_108 (by omega) rfl (Nat.le_of_ble_eq_true rfl) rfl (Nat.le_of_ble_eq_true rfl) (ho) (q_X8_isNode_y (d := 0) (Nat.le_refl _) h 65 b F ho v1 e1 c1) (fun h => nomatch h)) ?_
  refine E.st (s_if_ne_t (q := 21) dX8_choice_14 (by decide) (by decide)) ?_
  refine E.st (s_iconst (q := 22) (v := 0) dX8_choice_21 rfl (by decide)) ?_
  refine E.st (p2 := 25) (l2 := [(0, .ref 65), (1, .int a), (2, .int b)]) (s2 := [.int (0 : Int32)]) (h2 := (hs h 65 (ob 8 (fo 53 (va_up F 0 (.int 0)))))) (s_invv (K := mX8_refused) (o := 65) (as := [.int 0]) (rest := []) (v := some (.int (0 : Int32))) dX8_choice_22 rfl lX8_112 (by omega) rfl (Nat.le_of_ble_eq_true rfl) rfl (Nat.le_of_ble_eq_true rfl) (ho) (p_X8_refused_1 (d := 0) (Nat.le_refl _) h 65 (0 : Int32) (by decide) F ho rfl) (fun h => nomatch h)) ?_
  refine E.st (s_if_eq_t (q := 32) dX8_choice_25 (by decide) (by decide)) ?_
  refine E.st (s_aload_n (q := 33) dX8_choice_32 rfl rfl) ?_
  refine E.st (s_iconst (q := 34) (v := 1) dX8_choice_33 rfl (by decide)) ?_
  refine E.st (s_lconst (q := 35) (v := 0) dX8_choice_34 rfl (by decide)) ?_
  refine E.st (s_iload_n (q := 36) dX8_choice_35 rfl rfl) ?_
  refine E.st (s_iload_n (q := 37) dX8_choice_36 rfl rfl) ?_
  refine E.st (s_iconst (q := 38) (v := (-1)) dX8_choice_37 rfl (by decide)) ?_
  refine E.st (p2 := 41) (l2 := [(0, .ref 65), (1, .int a), (2, .int b)]) (s2 := [.int ((v1 + 1) - 1)]) (h2 := (hs (hs (hs (hs (hs (hs (hs h 65 (ob 8 (fo 53 (va_up F 0 (.int 0))))) 66 (ia n (upd f v1.toNatClampNeg (1 : Int32)))) 67 (la n1 (vp_updL f1 v1.toNatClampNeg (0 : Int64)))) 68 (ia n2 (upd f2 v1.toNatClampNeg a))) 69 (ia n3 (upd f3 v1.toNatClampNeg b))) 70 (ia n4 (upd f4 v1.toNatClampNeg (-1 : Int32)))) 65 (ob 8 (fo 53 (va_up (va_up F 0 (.int 0)) 1 (.int (v1 + 1))))))) (s_invv (K := mX8_make) (o := 65) (as := [.int 1, .long 0, .int a, .int b, .int (-1)]) (rest := []) (v := some (.int ((v1 + 1) - 1))) dX8_choice_38 rfl lX8_104 (by omega) rfl (Nat.le_of_ble_eq_true rfl) rfl (Nat.le_of_ble_eq_true rfl) (hs_eq) (p_X8_make_1 (d := 0) (Nat.le_refl _) (hs h 65 (ob 8 (fo 53 (va_up F 0 (.int 0))))) 65 (1 : Int32) (0 : Int64) a b (-1 : Int32) (va_up F 0 (.int 0)) hs_eq v1 ((up_ne (by decide)).trans (e1)) c2 66 ((up_ne (by decide)).trans (e2)) n f ((hs_ne (by decide)).trans (ha)) c3 (by decide) 67 ((up_ne (by decide)).trans (e3)) n1 f1 ((hs_ne (by decide)).trans (ha1)) c4 68 ((up_ne (by decide)).trans (e4)) n2 f2 ((hs_ne (by decide)).trans (ha2)) (by decide) c5 (by decide) 69 ((up_ne (by decide)).trans (e5)) n3 f3 ((hs_ne (by decide)).trans (ha3)) (by decide) (by decide) c6 (by decide) 70 ((up_ne (by decide)).trans (e6)) n4 f4 ((hs_ne (by decide)).trans (ha4)) (by decide) (by decide) (by decide) c7 (by decide)) (fun h => nomatch h)) ?_
  exact E.i dX8_choice_41 rfl rfl rfl rfl

set_option maxRecDepth 20000 in
theorem j_X8_choice_a_4 {d : Nat} (hd : 1 ≤ d) (h : AH) (a : Int32) (b : Int32) (x : Nat) (y : Nat) (F : Nat → Value) (ho : h.1 65 = ob 8 (fo 53 F)) (v1 : Int32) (e1 : F 1 = .int v1) (c : ¬ (a < 0) ∧ ¬ (v1 ≤ a)) (c1 : ¬ (b < 0) ∧ ¬ (v1 ≤ b)) (c2 : v1 = 60) : E false mX8_choice d 0 [(0, .ref 65), (1, .int a), (2, .int b)] [] h (some (.int (-1))) (hs h 65 (ob 8 (fo 53 (va_up F 0 (.int 0))))) := by
  refine E.st (s_aload_n (q := 1) dX8_choice_0 rfl rfl) ?_
  refine E.st (s_aload_n (q := 2) dX8_choice_1 rfl rfl) ?_
  refine E.st (s_iload_n (q := 3) dX8_choice_2 rfl rfl) ?_
  refine E.st (p2 := 6) (l2 := [(0, .ref 65), (1, .int a), (2, .int b)]) (s2 := [.int 1, .ref 65]) (h2 := h) (s_invv (K := mX8_isNode) (o := 65) (as := [.int a]) (rest := [.ref 65]) (v := some (.int 1)) dX8_choice_3 rfl lX8_108 (by omega) rfl (Nat.le_of_ble_eq_true rfl) rfl (Nat.le_of_ble_eq_true rfl) (ho) (q_X8_isNode_y (d := 0) (Nat.le_refl _) h 65 a F ho v1 e1 c) (fun h => nomatch h)) ?_
  refine E.st (s_if_eq_f (q := 9) (tg := 17) dX8_choice_6 (by decide) rfl (by decide)) ?_
  refine E.st (s_aload_n (q := 10) dX8_choice_9 rfl rfl) ?_
  refine E.st (s_iload_n (q := 11) dX8_choice_10 rfl rfl) ?_
  refine E.st (p2 := 14) (l2 := [(0, .ref 65), (1, .int a), (2, .int b)]) (s2 := [.int 1, .ref 65]) (h2 := h) (s_invv (K := mX8_isNode) (o := 65) (as := [.int b]) (rest := [.ref 65]) (v := some (.int 1)) dX8_choice_11 rfl lX8_108 (by omega) rfl (Nat.le_of_ble_eq_true rfl) rfl (Nat.le_of_ble_eq_true rfl) (ho) (q_X8_isNode_y (d := 0) (Nat.le_refl _) h 65 b F ho v1 e1 c1) (fun h => nomatch h)) ?_
  refine E.st (s_if_ne_t (q := 21) dX8_choice_14 (by decide) (by decide)) ?_
  refine E.st (s_iconst (q := 22) (v := 0) dX8_choice_21 rfl (by decide)) ?_
  refine E.st (p2 := 25) (l2 := [(0, .ref 65), (1, .int a), (2, .int b)]) (s2 := [.int (0 : Int32)]) (h2 := (hs h 65 (ob 8 (fo 53 (va_up F 0 (.int 0)))))) (s_invv (K := mX8_refused) (o := 65) (as := [.int 0]) (rest := []) (v := some (.int (0 : Int32))) dX8_choice_22 rfl lX8_112 (by omega) rfl (Nat.le_of_ble_eq_true rfl) rfl (Nat.le_of_ble_eq_true rfl) (ho) (p_X8_refused_1 (d := 0) (Nat.le_refl _) h 65 (0 : Int32) (by decide) F ho rfl) (fun h => nomatch h)) ?_
  refine E.st (s_if_eq_t (q := 32) dX8_choice_25 (by decide) (by decide)) ?_
  refine E.st (s_aload_n (q := 33) dX8_choice_32 rfl rfl) ?_
  refine E.st (s_iconst (q := 34) (v := 1) dX8_choice_33 rfl (by decide)) ?_
  refine E.st (s_lconst (q := 35) (v := 0) dX8_choice_34 rfl (by decide)) ?_
  refine E.st (s_iload_n (q := 36) dX8_choice_35 rfl rfl) ?_
  refine E.st (s_iload_n (q := 37) dX8_choice_36 rfl rfl) ?_
  refine E.st (s_iconst (q := 38) (v := (-1)) dX8_choice_37 rfl (by decide)) ?_
  refine E.st (p2 := 41) (l2 := [(0, .ref 65), (1, .int a), (2, .int b)]) (s2 := [.int (-1)]) (h2 := (hs h 65 (ob 8 (fo 53 (va_up F 0 (.int 0)))))) (s_invv (K := mX8_make) (o := 65) (as := [.int 1, .long 0, .int a, .int b, .int (-1)]) (rest := []) (v := some (.int (-1))) dX8_choice_38 rfl lX8_104 (by omega) rfl (Nat.le_of_ble_eq_true rfl) rfl (Nat.le_of_ble_eq_true rfl) (hs_eq) (p_X8_make_2 (d := 0) (Nat.le_refl _) (hs h 65 (ob 8 (fo 53 (va_up F 0 (.int 0))))) 65 (1 : Int32) (0 : Int64) a b (-1 : Int32) (va_up F 0 (.int 0)) hs_eq v1 ((up_ne (by decide)).trans (e1)) c2) (fun h => nomatch h)) ?_
  exact E.i dX8_choice_41 rfl rfl rfl rfl

set_option maxRecDepth 20000 in
theorem j_X8_pair_a_1 {d : Nat} (hd : 1 ≤ d) (h : AH) (a : Int32) (b : Int32) (x : Nat) (y : Nat) (F : Nat → Value) (ho : h.1 65 = ob 8 (fo 53 F)) (v1 : Int32) (e1 : F 1 = .int v1) (c : a < 0 ∨ v1 ≤ a) : E false mX8_pair d 0 [(0, .ref 65), (1, .int a), (2, .int b)] [] h (some (.int 0)) (hs h 65 (ob 8 (fo 53 (va_up F 0 (.int 1))))) := by
  refine E.st (s_aload_n (q := 1) dX8_pair_0 rfl rfl) ?_
  refine E.st (s_aload_n (q := 2) dX8_pair_1 rfl rfl) ?_
  refine E.st (s_iload_n (q := 3) dX8_pair_2 rfl rfl) ?_
  refine E.st (p2 := 6) (l2 := [(0, .ref 65), (1, .int a), (2, .int b)]) (s2 := [.int 0, .ref 65]) (h2 := h) (s_invv (K := mX8_isNode) (o := 65) (as := [.int a]) (rest := [.ref 65]) (v := some (.int 0)) dX8_pair_3 rfl lX8_108 (by omega) rfl (Nat.le_of_ble_eq_true rfl) rfl (Nat.le_of_ble_eq_true rfl) (ho) (q_X8_isNode_n (d := 0) (Nat.le_refl _) h 65 a F ho v1 e1 c) (fun h => nomatch h)) ?_
  refine E.st (s_if_eq_t (q := 17) dX8_pair_6 (by decide) (by decide)) ?_
  refine E.st (s_iconst (q := 18) (v := 1) dX8_pair_17 rfl (by decide)) ?_
  refine E.st (s_goto (q := 22) dX8_pair_18 (by decide)) ?_
  refine E.st (p2 := 25) (l2 := [(0, .ref 65), (1, .int a), (2, .int b)]) (s2 := [.int (1 : Int32)]) (h2 := (hs h 65 (ob 8 (fo 53 (va_up F 0 (.int 1)))))) (s_invv (K := mX8_refused) (o := 65) (as := [.int 1]) (rest := []) (v := some (.int (1 : Int32))) dX8_pair_22 rfl lX8_112 (by omega) rfl (Nat.le_of_ble_eq_true rfl) rfl (Nat.le_of_ble_eq_true rfl) (ho) (p_X8_refused_2 (d := 0) (Nat.le_refl _) h 65 (1 : Int32) (by decide) F ho rfl) (fun h => nomatch h)) ?_
  refine E.st (s_if_eq_f (q := 28) (tg := 32) dX8_pair_25 (by decide) rfl (by decide)) ?_
  refine E.st (s_iconst (q := 29) (v := 0) dX8_pair_28 rfl (by decide)) ?_
  refine E.st (s_goto (q := 41) dX8_pair_29 (by decide)) ?_
  exact E.i dX8_pair_41 rfl rfl rfl rfl

set_option maxRecDepth 20000 in
theorem j_X8_pair_a_2 {d : Nat} (hd : 1 ≤ d) (h : AH) (a : Int32) (b : Int32) (x : Nat) (y : Nat) (F : Nat → Value) (ho : h.1 65 = ob 8 (fo 53 F)) (v1 : Int32) (e1 : F 1 = .int v1) (c : ¬ (a < 0) ∧ ¬ (v1 ≤ a)) (c1 : b < 0 ∨ v1 ≤ b) : E false mX8_pair d 0 [(0, .ref 65), (1, .int a), (2, .int b)] [] h (some (.int 0)) (hs h 65 (ob 8 (fo 53 (va_up F 0 (.int 1))))) := by
  refine E.st (s_aload_n (q := 1) dX8_pair_0 rfl rfl) ?_
  refine E.st (s_aload_n (q := 2) dX8_pair_1 rfl rfl) ?_
  refine E.st (s_iload_n (q := 3) dX8_pair_2 rfl rfl) ?_
  refine E.st (p2 := 6) (l2 := [(0, .ref 65), (1, .int a), (2, .int b)]) (s2 := [.int 1, .ref 65]) (h2 := h) (s_invv (K := mX8_isNode) (o := 65) (as := [.int a]) (rest := [.ref 65]) (v := some (.int 1)) dX8_pair_3 rfl lX8_108 (by omega) rfl (Nat.le_of_ble_eq_true rfl) rfl (Nat.le_of_ble_eq_true rfl) (ho) (q_X8_isNode_y (d := 0) (Nat.le_refl _) h 65 a F ho v1 e1 c) (fun h => nomatch h)) ?_
  refine E.st (s_if_eq_f (q := 9) (tg := 17) dX8_pair_6 (by decide) rfl (by decide)) ?_
  refine E.st (s_aload_n (q := 10) dX8_pair_9 rfl rfl) ?_
  refine E.st (s_iload_n (q := 11) dX8_pair_10 rfl rfl) ?_
  refine E.st (p2 := 14) (l2 := [(0, .ref 65), (1, .int a), (2, .int b)]) (s2 := [.int 0, .ref 65]) (h2 := h) (s_invv (K := mX8_isNode) (o := 65) (as := [.int b]) (rest := [.ref 65]) (v := some (.int 0)) dX8_pair_11 rfl lX8_108 (by omega) rfl (Nat.le_of_ble_eq_true rfl) rfl (Nat.le_of_ble_eq_true rfl) (ho) (q_X8_isNode_n (d := 0) (Nat.le_refl _) h 65 b F ho v1 e1 c1) (fun h => nomatch h)) ?_
  refine E.st (s_if_ne_f (q := 17) (tg := 21) dX8_pair_14 (by decide) rfl (by decide)) ?_
  refine E.st (s_iconst (q := 18) (v := 1) dX8_pair_17 rfl (by decide)) ?_
  refine E.st (s_goto (q := 22) dX8_pair_18 (by decide)) ?_
  refine E.st (p2 := 25) (l2 := [(0, .ref 65), (1, .int a), (2, .int b)]) (s2 := [.int (1 : Int32)]) (h2 := (hs h 65 (ob 8 (fo 53 (va_up F 0 (.int 1)))))) (s_invv (K := mX8_refused) (o := 65) (as := [.int 1]) (rest := []) (v := some (.int (1 : Int32))) dX8_pair_22 rfl lX8_112 (by omega) rfl (Nat.le_of_ble_eq_true rfl) rfl (Nat.le_of_ble_eq_true rfl) (ho) (p_X8_refused_2 (d := 0) (Nat.le_refl _) h 65 (1 : Int32) (by decide) F ho rfl) (fun h => nomatch h)) ?_
  refine E.st (s_if_eq_f (q := 28) (tg := 32) dX8_pair_25 (by decide) rfl (by decide)) ?_
  refine E.st (s_iconst (q := 29) (v := 0) dX8_pair_28 rfl (by decide)) ?_
  refine E.st (s_goto (q := 41) dX8_pair_29 (by decide)) ?_
  exact E.i dX8_pair_41 rfl rfl rfl rfl

set_option maxRecDepth 20000 in
theorem j_X8_pair_a_3 {d : Nat} (hd : 1 ≤ d) (h : AH) (a : Int32) (b : Int32) (x : Nat) (y : Nat) (F : Nat → Value) (ho : h.1 65 = ob 8 (fo 53 F)) (v1 : Int32) (e1 : F 1 = .int v1) (c : ¬ (a < 0) ∧ ¬ (v1 ≤ a)) (c1 : ¬ (b < 0) ∧ ¬ (v1 ≤ b)) (c2 : ¬ v1 = 60) (e2 : F 2 = .ref 66) (n : Nat) (f : Nat → Int32) (ha : h.1 66 = ia n f) (c3 : vp_in v1 n) (e3 : F 3 = .ref 67) (n1 : Nat) (f1 : Nat → Int64) (ha1 : h.1 67 = la n1 f1) (c4 : vp_in v1 n1) (e4 : F 4 = .ref 68) (n2 : Nat) (f2 : Nat → Int32) (ha2 : h.1 68 = ia n2 f2) (c5 : vp_in v1 n2) (e5 : F 5 = .ref 69) (n3 : Nat) (f3 : Nat → Int32) (ha3 : h.1 69 = ia n3 f3) (c6 : vp_in v1 n3) (e6 : F 6 = .ref 70) (n4 : Nat) (f4 : Nat → Int32) (ha4 : h.1 70 = ia n4 f4) (c7 : vp_in v1 n4) : E false mX8_pair d 0 [(0, .ref 65), (1, .int a), (2, .int b)] [] h (some (.int ((v1 + 1) - 1))) (hs (hs (hs (hs (hs (hs (hs h 65 (ob 8 (fo 53 (va_up F 0 (.int 0))))) 66 (ia n (upd f v1.toNatClampNeg (3 : Int32)))) 67 (la n1 (vp_updL f1 v1.toNatClampNeg (0 : Int64)))) 68 (ia n2 (upd f2 v1.toNatClampNeg a))) 69 (ia n3 (upd f3 v1.toNatClampNeg b))) 70 (ia n4 (upd f4 v1.toNatClampNeg (-1 : Int32)))) 65 (ob 8 (fo 53 (va_up (va_up F 0 (.int 0)) 1 (.int (v1 + 1)))))) := by
  refine E.st (s_aload_n (q := 1) dX8_pair_0 rfl rfl) ?_
  refine E.st (s_aload_n (q := 2) dX8_pair_1 rfl rfl) ?_
  refine E.st (s_iload_n (q := 3) dX8_pair_2 rfl rfl) ?_
  refine E.st (p2 := 6) (l2 := [(0, .ref 65), (1, .int a), (2, .int b)]) (s2 := [.int 1, .ref 65]) (h2 := h) (s_invv (K := mX8_isNode) (o := 65) (as := [.int a]) (rest := [.ref 65]) (v := some (.int 1)) dX8_pair_3 rfl lX8_108 (by omega) rfl (Nat.le_of_ble_eq_true rfl) rfl (Nat.le_of_ble_eq_true rfl) (ho) (q_X8_isNode_y (d := 0) (Nat.le_refl _) h 65 a F ho v1 e1 c) (fun h => nomatch h)) ?_
  refine E.st (s_if_eq_f (q := 9) (tg := 17) dX8_pair_6 (by decide) rfl (by decide)) ?_
  refine E.st (s_aload_n (q := 10) dX8_pair_9 rfl rfl) ?_
  refine E.st (s_iload_n (q := 11) dX8_pair_10 rfl rfl) ?_
  refine E.st (p2 := 14) (l2 := [(0, .ref 65), (1, .int a), (2, .int b)]) (s2 := [.int 1, .ref 65]) (h2 := h) (s_invv (K := mX8_isNode) (o := 65) (as := [.int b]) (rest := [.ref 65]) (v := some (.int 1)) dX8_pair_11 rfl lX8_108 (by omega) rfl (Nat.le_of_ble_eq_true rfl) rfl (Nat.le_of_ble_eq_true rfl) (ho) (q_X8_isNode_y (d := 0) (Nat.le_refl _) h 65 b F ho v1 e1 c1) (fun h => nomatch h)) ?_
  refine E.st (s_if_ne_t (q := 21) dX8_pair_14 (by decide) (by decide)) ?_
  refine E.st (s_iconst (q := 22) (v := 0) dX8_pair_21 rfl (by decide)) ?_
  refine E.st (p2 := 25) (l2 := [(0, .ref 65), (1, .int a), (2, .int b)]) (s2 := [.int (0 : Int32)]) (h2 := (hs h 65 (ob 8 (fo 53 (va_up F 0 (.int 0)))))) (s_invv (K := mX8_refused) (o := 65) (as := [.int 0]) (rest := []) (v := some (.int (0 : Int32))) dX8_pair_22 rfl lX8_112 (by omega) rfl (Nat.le_of_ble_eq_true rfl) rfl (Nat.le_of_ble_eq_true rfl) (ho) (p_X8_refused_1 (d := 0) (Nat.le_refl _) h 65 (0 : Int32) (by decide) F ho rfl) (fun h => nomatch h)) ?_
  refine E.st (s_if_eq_t (q := 32) dX8_pair_25 (by decide) (by decide)) ?_
  refine E.st (s_aload_n (q := 33) dX8_pair_32 rfl rfl) ?_
  refine E.st (s_iconst (q := 34) (v := 3) dX8_pair_33 rfl (by decide)) ?_
  refine E.st (s_lconst (q := 35) (v := 0) dX8_pair_34 rfl (by decide)) ?_
  refine E.st (s_iload_n (q := 36) dX8_pair_35 rfl rfl) ?_
  refine E.st (s_iload_n (q := 37) dX8_pair_36 rfl rfl) ?_
  refine E.st (s_iconst (q := 38) (v := (-1)) dX8_pair_37 rfl (by decide)) ?_
  refine E.st (p2 := 41) (l2 := [(0, .ref 65), (1, .int a), (2, .int b)]) (s2 := [.int ((v1 + 1) - 1)]) (h2 := (hs (hs (hs (hs (hs (hs (hs h 65 (ob 8 (fo 53 (va_up F 0 (.int 0))))) 66 (ia n (upd f v1.toNatClampNeg (3 : Int32)))) 67 (la n1 (vp_updL f1 v1.toNatClampNeg (0 : Int64)))) 68 (ia n2 (upd f2 v1.toNatClampNeg a))) 69 (ia n3 (upd f3 v1.toNatClampNeg b))) 70 (ia n4 (upd f4 v1.toNatClampNeg (-1 : Int32)))) 65 (ob 8 (fo 53 (va_up (va_up F 0 (.int 0)) 1 (.int (v1 + 1))))))) (s_invv (K := mX8_make) (o := 65) (as := [.int 3, .long 0, .int a, .int b, .int (-1)]) (rest := []) (v := some (.int ((v1 + 1) - 1))) dX8_pair_38 rfl lX8_104 (by omega) rfl (Nat.le_of_ble_eq_true rfl) rfl (Nat.le_of_ble_eq_true rfl) (hs_eq) (p_X8_make_1 (d := 0) (Nat.le_refl _) (hs h 65 (ob 8 (fo 53 (va_up F 0 (.int 0))))) 65 (3 : Int32) (0 : Int64) a b (-1 : Int32) (va_up F 0 (.int 0)) hs_eq v1 ((up_ne (by decide)).trans (e1)) c2 66 ((up_ne (by decide)).trans (e2)) n f ((hs_ne (by decide)).trans (ha)) c3 (by decide) 67 ((up_ne (by decide)).trans (e3)) n1 f1 ((hs_ne (by decide)).trans (ha1)) c4 68 ((up_ne (by decide)).trans (e4)) n2 f2 ((hs_ne (by decide)).trans (ha2)) (by decide) c5 (by decide) 69 ((up_ne (by decide)).trans (e5)) n3 f3 ((hs_ne (by decide)).trans (ha3)) (by decide) (by decide) c6 (by decide) 70 ((up_ne (by decide)).trans (e6)) n4 f4 ((hs_ne (by decide)).trans (ha4)) (by decide) (by decide) (by decide) c7 (by decide)) (fun h => nomatch h)) ?_
  exact E.i dX8_pair_41 rfl rfl rfl rfl

set_option maxRecDepth 20000 in
theorem j_X8_pair_a_4 {d : Nat} (hd : 1 ≤ d) (h : AH) (a : Int32) (b : Int32) (x : Nat) (y : Nat) (F : Nat → Value) (ho : h.1 65 = ob 8 (fo 53 F)) (v1 : Int32) (e1 : F 1 = .int v1) (c : ¬ (a < 0) ∧ ¬ (v1 ≤ a)) (c1 : ¬ (b < 0) ∧ ¬ (v1 ≤ b)) (c2 : v1 = 60) : E false mX8_pair d 0 [(0, .ref 65), (1, .int a), (2, .int b)] [] h (some (.int (-1))) (hs h 65 (ob 8 (fo 53 (va_up F 0 (.int 0))))) := by
  refine E.st (s_aload_n (q := 1) dX8_pair_0 rfl rfl) ?_
  refine E.st (s_aload_n (q := 2) dX8_pair_1 rfl rfl) ?_
  refine E.st (s_iload_n (q := 3) dX8_pair_2 rfl rfl) ?_
  refine E.st (p2 := 6) (l2 := [(0, .ref 65), (1, .int a), (2, .int b)]) (s2 := [.int 1, .ref 65]) (h2 := h) (s_invv (K := mX8_isNode) (o := 65) (as := [.int a]) (rest := [.ref 65]) (v := some (.int 1)) dX8_pair_3 rfl lX8_108 (by omega) rfl (Nat.le_of_ble_eq_true rfl) rfl (Nat.le_of_ble_eq_true rfl) (ho) (q_X8_isNode_y (d := 0) (Nat.le_refl _) h 65 a F ho v1 e1 c) (fun h => nomatch h)) ?_
  refine E.st (s_if_eq_f (q := 9) (tg := 17) dX8_pair_6 (by decide) rfl (by decide)) ?_
  refine E.st (s_aload_n (q := 10) dX8_pair_9 rfl rfl) ?_
  refine E.st (s_iload_n (q := 11) dX8_pair_10 rfl rfl) ?_
  refine E.st (p2 := 14) (l2 := [(0, .ref 65), (1, .int a), (2, .int b)]) (s2 := [.int 1, .ref 65]) (h2 := h) (s_invv (K := mX8_isNode) (o := 65) (as := [.int b]) (rest := [.ref 65]) (v := some (.int 1)) dX8_pair_11 rfl lX8_108 (by omega) rfl (Nat.le_of_ble_eq_true rfl) rfl (Nat.le_of_ble_eq_true rfl) (ho) (q_X8_isNode_y (d := 0) (Nat.le_refl _) h 65 b F ho v1 e1 c1) (fun h => nomatch h)) ?_
  refine E.st (s_if_ne_t (q := 21) dX8_pair_14 (by decide) (by decide)) ?_
  refine E.st (s_iconst (q := 22) (v := 0) dX8_pair_21 rfl (by decide)) ?_
  refine E.st (p2 := 25) (l2 := [(0, .ref 65), (1, .int a), (2, .int b)]) (s2 := [.int (0 : Int32)]) (h2 := (hs h 65 (ob 8 (fo 53 (va_up F 0 (.int 0)))))) (s_invv (K := mX8_refused) (o := 65) (as := [.int 0]) (rest := []) (v := some (.int (0 : Int32))) dX8_pair_22 rfl lX8_112 (by omega) rfl (Nat.le_of_ble_eq_true rfl) rfl (Nat.le_of_ble_eq_true rfl) (ho) (p_X8_refused_1 (d := 0) (Nat.le_refl _) h 65 (0 : Int32) (by decide) F ho rfl) (fun h => nomatch h)) ?_
  refine E.st (s_if_eq_t (q := 32) dX8_pair_25 (by decide) (by decide)) ?_
  refine E.st (s_aload_n (q := 33) dX8_pair_32 rfl rfl) ?_
  refine E.st (s_iconst (q := 34) (v := 3) dX8_pair_33 rfl (by decide)) ?_
  refine E.st (s_lconst (q := 35) (v := 0) dX8_pair_34 rfl (by decide)) ?_
  refine E.st (s_iload_n (q := 36) dX8_pair_35 rfl rfl) ?_
  refine E.st (s_iload_n (q := 37) dX8_pair_36 rfl rfl) ?_
  refine E.st (s_iconst (q := 38) (v := (-1)) dX8_pair_37 rfl (by decide)) ?_
  refine E.st (p2 := 41) (l2 := [(0, .ref 65), (1, .int a), (2, .int b)]) (s2 := [.int (-1)]) (h2 := (hs h 65 (ob 8 (fo 53 (va_up F 0 (.int 0)))))) (s_invv (K := mX8_make) (o := 65) (as := [.int 3, .long 0, .int a, .int b, .int (-1)]) (rest := []) (v := some (.int (-1))) dX8_pair_38 rfl lX8_104 (by omega) rfl (Nat.le_of_ble_eq_true rfl) rfl (Nat.le_of_ble_eq_true rfl) (hs_eq) (p_X8_make_2 (d := 0) (Nat.le_refl _) (hs h 65 (ob 8 (fo 53 (va_up F 0 (.int 0))))) 65 (3 : Int32) (0 : Int64) a b (-1 : Int32) (va_up F 0 (.int 0)) hs_eq v1 ((up_ne (by decide)).trans (e1)) c2) (fun h => nomatch h)) ?_
  exact E.i dX8_pair_41 rfl rfl rfl rfl

set_option maxRecDepth 20000 in
theorem j_X8_part_a_1 {d : Nat} (hd : 1 ≤ d) (h : AH) (a : Int32) (b : Int32) (x : Nat) (y : Nat) (F : Nat → Value) (ho : h.1 65 = ob 8 (fo 53 F)) (v1 : Int32) (e1 : F 1 = .int v1) (c : a < 0 ∨ v1 ≤ a) : E false mX8_part d 0 [(0, .ref 65), (1, .int a), (2, .int b)] [] h (some (.int 0)) (hs h 65 (ob 8 (fo 53 (va_up F 0 (.int 1))))) := by
  refine E.st (s_aload_n (q := 1) dX8_part_0 rfl rfl) ?_
  refine E.st (s_aload_n (q := 2) dX8_part_1 rfl rfl) ?_
  refine E.st (s_iload_n (q := 3) dX8_part_2 rfl rfl) ?_
  refine E.st (p2 := 6) (l2 := [(0, .ref 65), (1, .int a), (2, .int b)]) (s2 := [.int 0, .ref 65]) (h2 := h) (s_invv (K := mX8_isNode) (o := 65) (as := [.int a]) (rest := [.ref 65]) (v := some (.int 0)) dX8_part_3 rfl lX8_108 (by omega) rfl (Nat.le_of_ble_eq_true rfl) rfl (Nat.le_of_ble_eq_true rfl) (ho) (q_X8_isNode_n (d := 0) (Nat.le_refl _) h 65 a F ho v1 e1 c) (fun h => nomatch h)) ?_
  refine E.st (s_if_ne_f (q := 9) (tg := 13) dX8_part_6 (by decide) rfl (by decide)) ?_
  refine E.st (s_iconst (q := 10) (v := 1) dX8_part_9 rfl (by decide)) ?_
  refine E.st (s_goto (q := 14) dX8_part_10 (by decide)) ?_
  refine E.st (p2 := 17) (l2 := [(0, .ref 65), (1, .int a), (2, .int b)]) (s2 := [.int (1 : Int32)]) (h2 := (hs h 65 (ob 8 (fo 53 (va_up F 0 (.int 1)))))) (s_invv (K := mX8_refused) (o := 65) (as := [.int 1]) (rest := []) (v := some (.int (1 : Int32))) dX8_part_14 rfl lX8_112 (by omega) rfl (Nat.le_of_ble_eq_true rfl) rfl (Nat.le_of_ble_eq_true rfl) (ho) (p_X8_refused_2 (d := 0) (Nat.le_refl _) h 65 (1 : Int32) (by decide) F ho rfl) (fun h => nomatch h)) ?_
  refine E.st (s_if_eq_f (q := 20) (tg := 24) dX8_part_17 (by decide) rfl (by decide)) ?_
  refine E.st (s_iconst (q := 21) (v := 0) dX8_part_20 rfl (by decide)) ?_
  refine E.st (s_goto (q := 41) dX8_part_21 (by decide)) ?_
  exact E.i dX8_part_41 rfl rfl rfl rfl

set_option maxRecDepth 20000 in
theorem j_X8_part_a_2 {d : Nat} (hd : 1 ≤ d) (h : AH) (a : Int32) (b : Int32) (x : Nat) (y : Nat) (F : Nat → Value) (ho : h.1 65 = ob 8 (fo 53 F)) (v1 : Int32) (e1 : F 1 = .int v1) (c : ¬ (a < 0) ∧ ¬ (v1 ≤ a)) (c1 : b = 0) (c2 : ¬ v1 = 60) (e2 : F 2 = .ref 66) (n : Nat) (f : Nat → Int32) (ha : h.1 66 = ia n f) (c3 : vp_in v1 n) (e3 : F 3 = .ref 67) (n1 : Nat) (f1 : Nat → Int64) (ha1 : h.1 67 = la n1 f1) (c4 : vp_in v1 n1) (e4 : F 4 = .ref 68) (n2 : Nat) (f2 : Nat → Int32) (ha2 : h.1 68 = ia n2 f2) (c5 : vp_in v1 n2) (e5 : F 5 = .ref 69) (n3 : Nat) (f3 : Nat → Int32) (ha3 : h.1 69 = ia n3 f3) (c6 : vp_in v1 n3) (e6 : F 6 = .ref 70) (n4 : Nat) (f4 : Nat → Int32) (ha4 : h.1 70 = ia n4 f4) (c7 : vp_in v1 n4) : E false mX8_part d 0 [(0, .ref 65), (1, .int a), (2, .int b)] [] h (some (.int ((v1 + 1) - 1))) (hs (hs (hs (hs (hs (hs (hs h 65 (ob 8 (fo 53 (va_up F 0 (.int 0))))) 66 (ia n (upd f v1.toNatClampNeg (4 : Int32)))) 67 (la n1 (vp_updL f1 v1.toNatClampNeg (0 : Int64)))) 68 (ia n2 (upd f2 v1.toNatClampNeg a))) 69 (ia n3 (upd f3 v1.toNatClampNeg (-1 : Int32)))) 70 (ia n4 (upd f4 v1.toNatClampNeg (-1 : Int32)))) 65 (ob 8 (fo 53 (va_up (va_up F 0 (.int 0)) 1 (.int (v1 + 1)))))) := by
  refine E.st (s_aload_n (q := 1) dX8_part_0 rfl rfl) ?_
  refine E.st (s_aload_n (q := 2) dX8_part_1 rfl rfl) ?_
  refine E.st (s_iload_n (q := 3) dX8_part_2 rfl rfl) ?_
  refine E.st (p2 := 6) (l2 := [(0, .ref 65), (1, .int a), (2, .int b)]) (s2 := [.int 1, .ref 65]) (h2 := h) (s_invv (K := mX8_isNode) (o := 65) (as := [.int a]) (rest := [.ref 65]) (v := some (.int 1)) dX8_part_3 rfl lX8_108 (by omega) rfl (Nat.le_of_ble_eq_true rfl) rfl (Nat.le_of_ble_eq_true rfl) (ho) (q_X8_isNode_y (d := 0) (Nat.le_refl _) h 65 a F ho v1 e1 c) (fun h => nomatch h)) ?_
  refine E.st (s_if_ne_t (q := 13) dX8_part_6 (by decide) (by decide)) ?_
  refine E.st (s_iconst (q := 14) (v := 0) dX8_part_13 rfl (by decide)) ?_
  refine E.st (p2 := 17) (l2 := [(0, .ref 65), (1, .int a), (2, .int b)]) (s2 := [.int (0 : Int32)]) (h2 := (hs h 65 (ob 8 (fo 53 (va_up F 0 (.int 0)))))) (s_invv (K := mX8_refused) (o := 65) (as := [.int 0]) (rest := []) (v := some (.int (0 : Int32))) dX8_part_14 rfl lX8_112 (by omega) rfl (Nat.le_of_ble_eq_true rfl) rfl (Nat.le_of_ble_eq_true rfl) (ho) (p_X8_refused_1 (d := 0) (Nat.le_refl _) h 65 (0 : Int32) (by decide) F ho rfl) (fun h => nomatch h)) ?_
  refine E.st (s_if_eq_t (q := 24) dX8_part_17 (by decide) (by decide)) ?_
  refine E.st (s_aload_n (q := 25) dX8_part_24 rfl rfl) ?_
  refine E.st (s_iload_n (q := 26) dX8_part_25 rfl rfl) ?_
  refine E.st (s_if_eq_t (q := 33) dX8_part_26 (by decide) c1) ?_
  refine E.st (s_iconst (q := 34) (v := 4) dX8_part_33 rfl (by decide)) ?_
  refine E.st (s_lconst (q := 35) (v := 0) dX8_part_34 rfl (by decide)) ?_
  refine E.st (s_iload_n (q := 36) dX8_part_35 rfl rfl) ?_
  refine E.st (s_iconst (q := 37) (v := (-1)) dX8_part_36 rfl (by decide)) ?_
  refine E.st (s_iconst (q := 38) (v := (-1)) dX8_part_37 rfl (by decide)) ?_
  refine E.st (p2 := 41) (l2 := [(0, .ref 65), (1, .int a), (2, .int b)]) (s2 := [.int ((v1 + 1) - 1)]) (h2 := (hs (hs (hs (hs (hs (hs (hs h 65 (ob 8 (fo 53 (va_up F 0 (.int 0))))) 66 (ia n (upd f v1.toNatClampNeg (4 : Int32)))) 67 (la n1 (vp_updL f1 v1.toNatClampNeg (0 : Int64)))) 68 (ia n2 (upd f2 v1.toNatClampNeg a))) 69 (ia n3 (upd f3 v1.toNatClampNeg (-1 : Int32)))) 70 (ia n4 (upd f4 v1.toNatClampNeg (-1 : Int32)))) 65 (ob 8 (fo 53 (va_up (va_up F 0 (.int 0)) 1 (.int (v1 + 1))))))) (s_invv (K := mX8_make) (o := 65) (as := [.int 4, .long 0, .int a, .int (-1), .int (-1)]) (rest := []) (v := some (.int ((v1 + 1) - 1))) dX8_part_38 rfl lX8_104 (by omega) rfl (Nat.le_of_ble_eq_true rfl) rfl (Nat.le_of_ble_eq_true rfl) (hs_eq) (p_X8_make_1 (d := 0) (Nat.le_refl _) (hs h 65 (ob 8 (fo 53 (va_up F 0 (.int 0))))) 65 (4 : Int32) (0 : Int64) a (-1 : Int32) (-1 : Int32) (va_up F 0 (.int 0)) hs_eq v1 ((up_ne (by decide)).trans (e1)) c2 66 ((up_ne (by decide)).trans (e2)) n f ((hs_ne (by decide)).trans (ha)) c3 (by decide) 67 ((up_ne (by decide)).trans (e3)) n1 f1 ((hs_ne (by decide)).trans (ha1)) c4 68 ((up_ne (by decide)).trans (e4)) n2 f2 ((hs_ne (by decide)).trans (ha2)) (by decide) c5 (by decide) 69 ((up_ne (by decide)).trans (e5)) n3 f3 ((hs_ne (by decide)).trans (ha3)) (by decide) (by decide) c6 (by decide) 70 ((up_ne (by decide)).trans (e6)) n4 f4 ((hs_ne (by decide)).trans (ha4)) (by decide) (by decide) (by decide) c7 (by decide)) (fun h => nomatch h)) ?_
  exact E.i dX8_part_41 rfl rfl rfl rfl

set_option maxRecDepth 20000 in
theorem j_X8_part_a_3 {d : Nat} (hd : 1 ≤ d) (h : AH) (a : Int32) (b : Int32) (x : Nat) (y : Nat) (F : Nat → Value) (ho : h.1 65 = ob 8 (fo 53 F)) (v1 : Int32) (e1 : F 1 = .int v1) (c : ¬ (a < 0) ∧ ¬ (v1 ≤ a)) (c1 : b = 0) (c2 : v1 = 60) : E false mX8_part d 0 [(0, .ref 65), (1, .int a), (2, .int b)] [] h (some (.int (-1))) (hs h 65 (ob 8 (fo 53 (va_up F 0 (.int 0))))) := by
  refine E.st (s_aload_n (q := 1) dX8_part_0 rfl rfl) ?_
  refine E.st (s_aload_n (q := 2) dX8_part_1 rfl rfl) ?_
  refine E.st (s_iload_n (q := 3) dX8_part_2 rfl rfl) ?_
  refine E.st (p2 := 6) (l2 := [(0, .ref 65), (1, .int a), (2, .int b)]) (s2 := [.int 1, .ref 65]) (h2 := h) (s_invv (K := mX8_isNode) (o := 65) (as := [.int a]) (rest := [.ref 65]) (v := some (.int 1)) dX8_part_3 rfl lX8_108 (by omega) rfl (Nat.le_of_ble_eq_true rfl) rfl (Nat.le_of_ble_eq_true rfl) (ho) (q_X8_isNode_y (d := 0) (Nat.le_refl _) h 65 a F ho v1 e1 c) (fun h => nomatch h)) ?_
  refine E.st (s_if_ne_t (q := 13) dX8_part_6 (by decide) (by decide)) ?_
  refine E.st (s_iconst (q := 14) (v := 0) dX8_part_13 rfl (by decide)) ?_
  refine E.st (p2 := 17) (l2 := [(0, .ref 65), (1, .int a), (2, .int b)]) (s2 := [.int (0 : Int32)]) (h2 := (hs h 65 (ob 8 (fo 53 (va_up F 0 (.int 0)))))) (s_invv (K := mX8_refused) (o := 65) (as := [.int 0]) (rest := []) (v := some (.int (0 : Int32))) dX8_part_14 rfl lX8_112 (by omega) rfl (Nat.le_of_ble_eq_true rfl) rfl (Nat.le_of_ble_eq_true rfl) (ho) (p_X8_refused_1 (d := 0) (Nat.le_refl _) h 65 (0 : Int32) (by decide) F ho rfl) (fun h => nomatch h)) ?_
  refine E.st (s_if_eq_t (q := 24) dX8_part_17 (by decide) (by decide)) ?_
  refine E.st (s_aload_n (q := 25) dX8_part_24 rfl rfl) ?_
  refine E.st (s_iload_n (q := 26) dX8_part_25 rfl rfl) ?_
  refine E.st (s_if_eq_t (q := 33) dX8_part_26 (by decide) c1) ?_
  refine E.st (s_iconst (q := 34) (v := 4) dX8_part_33 rfl (by decide)) ?_
  refine E.st (s_lconst (q := 35) (v := 0) dX8_part_34 rfl (by decide)) ?_
  refine E.st (s_iload_n (q := 36) dX8_part_35 rfl rfl) ?_
  refine E.st (s_iconst (q := 37) (v := (-1)) dX8_part_36 rfl (by decide)) ?_
  refine E.st (s_iconst (q := 38) (v := (-1)) dX8_part_37 rfl (by decide)) ?_
  refine E.st (p2 := 41) (l2 := [(0, .ref 65), (1, .int a), (2, .int b)]) (s2 := [.int (-1)]) (h2 := (hs h 65 (ob 8 (fo 53 (va_up F 0 (.int 0)))))) (s_invv (K := mX8_make) (o := 65) (as := [.int 4, .long 0, .int a, .int (-1), .int (-1)]) (rest := []) (v := some (.int (-1))) dX8_part_38 rfl lX8_104 (by omega) rfl (Nat.le_of_ble_eq_true rfl) rfl (Nat.le_of_ble_eq_true rfl) (hs_eq) (p_X8_make_2 (d := 0) (Nat.le_refl _) (hs h 65 (ob 8 (fo 53 (va_up F 0 (.int 0))))) 65 (4 : Int32) (0 : Int64) a (-1 : Int32) (-1 : Int32) (va_up F 0 (.int 0)) hs_eq v1 ((up_ne (by decide)).trans (e1)) c2) (fun h => nomatch h)) ?_
  exact E.i dX8_part_41 rfl rfl rfl rfl

set_option maxRecDepth 20000 in
theorem j_X8_part_a_4 {d : Nat} (hd : 1 ≤ d) (h : AH) (a : Int32) (b : Int32) (x : Nat) (y : Nat) (F : Nat → Value) (ho : h.1 65 = ob 8 (fo 53 F)) (v1 : Int32) (e1 : F 1 = .int v1) (c : ¬ (a < 0) ∧ ¬ (v1 ≤ a)) (c1 : ¬ (b = 0)) (c2 : ¬ v1 = 60) (e2 : F 2 = .ref 66) (n : Nat) (f : Nat → Int32) (ha : h.1 66 = ia n f) (c3 : vp_in v1 n) (e3 : F 3 = .ref 67) (n1 : Nat) (f1 : Nat → Int64) (ha1 : h.1 67 = la n1 f1) (c4 : vp_in v1 n1) (e4 : F 4 = .ref 68) (n2 : Nat) (f2 : Nat → Int32) (ha2 : h.1 68 = ia n2 f2) (c5 : vp_in v1 n2) (e5 : F 5 = .ref 69) (n3 : Nat) (f3 : Nat → Int32) (ha3 : h.1 69 = ia n3 f3) (c6 : vp_in v1 n3) (e6 : F 6 = .ref 70) (n4 : Nat) (f4 : Nat → Int32) (ha4 : h.1 70 = ia n4 f4) (c7 : vp_in v1 n4) : E false mX8_part d 0 [(0, .ref 65), (1, .int a), (2, .int b)] [] h (some (.int ((v1 + 1) - 1))) (hs (hs (hs (hs (hs (hs (hs h 65 (ob 8 (fo 53 (va_up F 0 (.int 0))))) 66 (ia n (upd f v1.toNatClampNeg (5 : Int32)))) 67 (la n1 (vp_updL f1 v1.toNatClampNeg (0 : Int64)))) 68 (ia n2 (upd f2 v1.toNatClampNeg a))) 69 (ia n3 (upd f3 v1.toNatClampNeg (-1 : Int32)))) 70 (ia n4 (upd f4 v1.toNatClampNeg (-1 : Int32)))) 65 (ob 8 (fo 53 (va_up (va_up F 0 (.int 0)) 1 (.int (v1 + 1)))))) := by
  refine E.st (s_aload_n (q := 1) dX8_part_0 rfl rfl) ?_
  refine E.st (s_aload_n (q := 2) dX8_part_1 rfl rfl) ?_
  refine E.st (s_iload_n (q := 3) dX8_part_2 rfl rfl) ?_
  refine E.st (p2 := 6) (l2 := [(0, .ref 65), (1, .int a), (2, .int b)]) (s2 := [.int 1, .ref 65]) (h2 := h) (s_invv (K := mX8_isNode) (o := 65) (as := [.int a]) (rest := [.ref 65]) (v := some (.int 1)) dX8_part_3 rfl lX8_108 (by omega) rfl (Nat.le_of_ble_eq_true rfl) rfl (Nat.le_of_ble_eq_true rfl) (ho) (q_X8_isNode_y (d := 0) (Nat.le_refl _) h 65 a F ho v1 e1 c) (fun h => nomatch h)) ?_
  refine E.st (s_if_ne_t (q := 13) dX8_part_6 (by decide) (by decide)) ?_
  refine E.st (s_iconst (q := 14) (v := 0) dX8_part_13 rfl (by decide)) ?_
  refine E.st (p2 := 17) (l2 := [(0, .ref 65), (1, .int a), (2, .int b)]) (s2 := [.int (0 : Int32)]) (h2 := (hs h 65 (ob 8 (fo 53 (va_up F 0 (.int 0)))))) (s_invv (K := mX8_refused) (o := 65) (as := [.int 0]) (rest := []) (v := some (.int (0 : Int32))) dX8_part_14 rfl lX8_112 (by omega) rfl (Nat.le_of_ble_eq_true rfl) rfl (Nat.le_of_ble_eq_true rfl) (ho) (p_X8_refused_1 (d := 0) (Nat.le_refl _) h 65 (0 : Int32) (by decide) F ho rfl) (fun h => nomatch h)) ?_
  refine E.st (s_if_eq_t (q := 24) dX8_part_17 (by decide) (by decide)) ?_
  refine E.st (s_aload_n (q := 25) dX8_part_24 rfl rfl) ?_
  refine E.st (s_iload_n (q := 26) dX8_part_25 rfl rfl) ?_
  refine E.st (s_if_eq_f (q := 29) (tg := 33) dX8_part_26 (by decide) rfl c1) ?_
  refine E.st (s_iconst (q := 30) (v := 5) dX8_part_29 rfl (by decide)) ?_
  refine E.st (s_goto (q := 34) dX8_part_30 (by decide)) ?_
  refine E.st (s_lconst (q := 35) (v := 0) dX8_part_34 rfl (by decide)) ?_
  refine E.st (s_iload_n (q := 36) dX8_part_35 rfl rfl) ?_
  refine E.st (s_iconst (q := 37) (v := (-1)) dX8_part_36 rfl (by decide)) ?_
  refine E.st (s_iconst (q := 38) (v := (-1)) dX8_part_37 rfl (by decide)) ?_
  refine E.st (p2 := 41) (l2 := [(0, .ref 65), (1, .int a), (2, .int b)]) (s2 := [.int ((v1 + 1) - 1)]) (h2 := (hs (hs (hs (hs (hs (hs (hs h 65 (ob 8 (fo 53 (va_up F 0 (.int 0))))) 66 (ia n (upd f v1.toNatClampNeg (5 : Int32)))) 67 (la n1 (vp_updL f1 v1.toNatClampNeg (0 : Int64)))) 68 (ia n2 (upd f2 v1.toNatClampNeg a))) 69 (ia n3 (upd f3 v1.toNatClampNeg (-1 : Int32)))) 70 (ia n4 (upd f4 v1.toNatClampNeg (-1 : Int32)))) 65 (ob 8 (fo 53 (va_up (va_up F 0 (.int 0)) 1 (.int (v1 + 1))))))) (s_invv (K := mX8_make) (o := 65) (as := [.int 5, .long 0, .int a, .int (-1), .int (-1)]) (rest := []) (v := some (.int ((v1 + 1) - 1))) dX8_part_38 rfl lX8_104 (by omega) rfl (Nat.le_of_ble_eq_true rfl) rfl (Nat.le_of_ble_eq_true rfl) (hs_eq) (p_X8_make_1 (d := 0) (Nat.le_refl _) (hs h 65 (ob 8 (fo 53 (va_up F 0 (.int 0))))) 65 (5 : Int32) (0 : Int64) a (-1 : Int32) (-1 : Int32) (va_up F 0 (.int 0)) hs_eq v1 ((up_ne (by decide)).trans (e1)) c2 66 ((up_ne (by decide)).trans (e2)) n f ((hs_ne (by decide)).trans (ha)) c3 (by decide) 67 ((up_ne (by decide)).trans (e3)) n1 f1 ((hs_ne (by decide)).trans (ha1)) c4 68 ((up_ne (by decide)).trans (e4)) n2 f2 ((hs_ne (by decide)).trans (ha2)) (by decide) c5 (by decide) 69 ((up_ne (by decide)).trans (e5)) n3 f3 ((hs_ne (by decide)).trans (ha3)) (by decide) (by decide) c6 (by decide) 70 ((up_ne (by decide)).trans (e6)) n4 f4 ((hs_ne (by decide)).trans (ha4)) (by decide) (by decide) (by decide) c7 (by decide)) (fun h => nomatch h)) ?_
  exact E.i dX8_part_41 rfl rfl rfl rfl

set_option maxRecDepth 20000 in
theorem j_X8_part_a_5 {d : Nat} (hd : 1 ≤ d) (h : AH) (a : Int32) (b : Int32) (x : Nat) (y : Nat) (F : Nat → Value) (ho : h.1 65 = ob 8 (fo 53 F)) (v1 : Int32) (e1 : F 1 = .int v1) (c : ¬ (a < 0) ∧ ¬ (v1 ≤ a)) (c1 : ¬ (b = 0)) (c2 : v1 = 60) : E false mX8_part d 0 [(0, .ref 65), (1, .int a), (2, .int b)] [] h (some (.int (-1))) (hs h 65 (ob 8 (fo 53 (va_up F 0 (.int 0))))) := by
  refine E.st (s_aload_n (q := 1) dX8_part_0 rfl rfl) ?_
  refine E.st (s_aload_n (q := 2) dX8_part_1 rfl rfl) ?_
  refine E.st (s_iload_n (q := 3) dX8_part_2 rfl rfl) ?_
  refine E.st (p2 := 6) (l2 := [(0, .ref 65), (1, .int a), (2, .int b)]) (s2 := [.int 1, .ref 65]) (h2 := h) (s_invv (K := mX8_isNode) (o := 65) (as := [.int a]) (rest := [.ref 65]) (v := some (.int 1)) dX8_part_3 rfl lX8_108 (by omega) rfl (Nat.le_of_ble_eq_true rfl) rfl (Nat.le_of_ble_eq_true rfl) (ho) (q_X8_isNode_y (d := 0) (Nat.le_refl _) h 65 a F ho v1 e1 c) (fun h => nomatch h)) ?_
  refine E.st (s_if_ne_t (q := 13) dX8_part_6 (by decide) (by decide)) ?_
  refine E.st (s_iconst (q := 14) (v := 0) dX8_part_13 rfl (by decide)) ?_
  refine E.st (p2 := 17) (l2 := [(0, .ref 65), (1, .int a), (2, .int b)]) (s2 := [.int (0 : Int32)]) (h2 := (hs h 65 (ob 8 (fo 53 (va_up F 0 (.int 0)))))) (s_invv (K := mX8_refused) (o := 65) (as := [.int 0]) (rest := []) (v := some (.int (0 : Int32))) dX8_part_14 rfl lX8_112 (by omega) rfl (Nat.le_of_ble_eq_true rfl) rfl (Nat.le_of_ble_eq_true rfl) (ho) (p_X8_refused_1 (d := 0) (Nat.le_refl _) h 65 (0 : Int32) (by decide) F ho rfl) (fun h => nomatch h)) ?_
  refine E.st (s_if_eq_t (q := 24) dX8_part_17 (by decide) (by decide)) ?_
  refine E.st (s_aload_n (q := 25) dX8_part_24 rfl rfl) ?_
  refine E.st (s_iload_n (q := 26) dX8_part_25 rfl rfl) ?_
  refine E.st (s_if_eq_f (q := 29) (tg := 33) dX8_part_26 (by decide) rfl c1) ?_
  refine E.st (s_iconst (q := 30) (v := 5) dX8_part_29 rfl (by decide)) ?_
  refine E.st (s_goto (q := 34) dX8_part_30 (by decide)) ?_
  refine E.st (s_lconst (q := 35) (v := 0) dX8_part_34 rfl (by decide)) ?_
  refine E.st (s_iload_n (q := 36) dX8_part_35 rfl rfl) ?_
  refine E.st (s_iconst (q := 37) (v := (-1)) dX8_part_36 rfl (by decide)) ?_
  refine E.st (s_iconst (q := 38) (v := (-1)) dX8_part_37 rfl (by decide)) ?_
  refine E.st (p2 := 41) (l2 := [(0, .ref 65), (1, .int a), (2, .int b)]) (s2 := [.int (-1)]) (h2 := (hs h 65 (ob 8 (fo 53 (va_up F 0 (.int 0)))))) (s_invv (K := mX8_make) (o := 65) (as := [.int 5, .long 0, .int a, .int (-1), .int (-1)]) (rest := []) (v := some (.int (-1))) dX8_part_38 rfl lX8_104 (by omega) rfl (Nat.le_of_ble_eq_true rfl) rfl (Nat.le_of_ble_eq_true rfl) (hs_eq) (p_X8_make_2 (d := 0) (Nat.le_refl _) (hs h 65 (ob 8 (fo 53 (va_up F 0 (.int 0))))) 65 (5 : Int32) (0 : Int64) a (-1 : Int32) (-1 : Int32) (va_up F 0 (.int 0)) hs_eq v1 ((up_ne (by decide)).trans (e1)) c2) (fun h => nomatch h)) ?_
  exact E.i dX8_part_41 rfl rfl rfl rfl

set_option maxRecDepth 20000 in
theorem j_X8_op_a_1 {d : Nat} (hd : 1 ≤ d) (h : AH) (a : Int32) (b : Int32) (c : Int32) (x : Nat) (y : Nat) (F : Nat → Value) (ho : h.1 65 = ob 8 (fo 53 F)) (v1 : Int32) (e1 : F 1 = .int v1) (c1 : b < 0 ∨ v1 ≤ b) : E false mX8_op d 0 [(0, .ref 65), (1, .int a), (2, .int b), (3, .int c)] [] h (some (.int 0)) (hs h 65 (ob 8 (fo 53 (va_up F 0 (.int 1))))) := by
  refine E.st (s_aload_n (q := 1) dX8_op_0 rfl rfl) ?_
  refine E.st (s_aload_n (q := 2) dX8_op_1 rfl rfl) ?_
  refine E.st (s_iload_n (q := 3) dX8_op_2 rfl rfl) ?_
  refine E.st (p2 := 6) (l2 := [(0, .ref 65), (1, .int a), (2, .int b), (3, .int c)]) (s2 := [.int 0, .ref 65]) (h2 := h) (s_invv (K := mX8_isNode) (o := 65) (as := [.int b]) (rest := [.ref 65]) (v := some (.int 0)) dX8_op_3 rfl lX8_108 (by omega) rfl (Nat.le_of_ble_eq_true rfl) rfl (Nat.le_of_ble_eq_true rfl) (ho) (q_X8_isNode_n (d := 0) (Nat.le_refl _) h 65 b F ho v1 e1 c1) (fun h => nomatch h)) ?_
  refine E.st (s_if_eq_t (q := 26) dX8_op_6 (by decide) (by decide)) ?_
  refine E.st (s_iconst (q := 27) (v := 1) dX8_op_26 rfl (by decide)) ?_
  refine E.st (s_goto (q := 31) dX8_op_27 (by decide)) ?_
  refine E.st (p2 := 34) (l2 := [(0, .ref 65), (1, .int a), (2, .int b), (3, .int c)]) (s2 := [.int (1 : Int32)]) (h2 := (hs h 65 (ob 8 (fo 53 (va_up F 0 (.int 1)))))) (s_invv (K := mX8_refused) (o := 65) (as := [.int 1]) (rest := []) (v := some (.int (1 : Int32))) dX8_op_31 rfl lX8_112 (by omega) rfl (Nat.le_of_ble_eq_true rfl) rfl (Nat.le_of_ble_eq_true rfl) (ho) (p_X8_refused_2 (d := 0) (Nat.le_refl _) h 65 (1 : Int32) (by decide) F ho rfl) (fun h => nomatch h)) ?_
  refine E.st (s_if_eq_f (q := 37) (tg := 41) dX8_op_34 (by decide) rfl (by decide)) ?_
  refine E.st (s_iconst (q := 38) (v := 0) dX8_op_37 rfl (by decide)) ?_
  refine E.st (s_goto (q := 51) dX8_op_38 (by decide)) ?_
  exact E.i dX8_op_51 rfl rfl rfl rfl

set_option maxRecDepth 20000 in
theorem j_X8_op_a_2 {d : Nat} (hd : 1 ≤ d) (h : AH) (a : Int32) (b : Int32) (c : Int32) (x : Nat) (y : Nat) (F : Nat → Value) (ho : h.1 65 = ob 8 (fo 53 F)) (v1 : Int32) (e1 : F 1 = .int v1) (c1 : ¬ (b < 0) ∧ ¬ (v1 ≤ b)) (c2 : c < 0 ∨ v1 ≤ c) : E false mX8_op d 0 [(0, .ref 65), (1, .int a), (2, .int b), (3, .int c)] [] h (some (.int 0)) (hs h 65 (ob 8 (fo 53 (va_up F 0 (.int 1))))) := by
  refine E.st (s_aload_n (q := 1) dX8_op_0 rfl rfl) ?_
  refine E.st (s_aload_n (q := 2) dX8_op_1 rfl rfl) ?_
  refine E.st (s_iload_n (q := 3) dX8_op_2 rfl rfl) ?_
  refine E.st (p2 := 6) (l2 := [(0, .ref 65), (1, .int a), (2, .int b), (3, .int c)]) (s2 := [.int 1, .ref 65]) (h2 := h) (s_invv (K := mX8_isNode) (o := 65) (as := [.int b]) (rest := [.ref 65]) (v := some (.int 1)) dX8_op_3 rfl lX8_108 (by omega) rfl (Nat.le_of_ble_eq_true rfl) rfl (Nat.le_of_ble_eq_true rfl) (ho) (q_X8_isNode_y (d := 0) (Nat.le_refl _) h 65 b F ho v1 e1 c1) (fun h => nomatch h)) ?_
  refine E.st (s_if_eq_f (q := 9) (tg := 26) dX8_op_6 (by decide) rfl (by decide)) ?_
  refine E.st (s_aload_n (q := 10) dX8_op_9 rfl rfl) ?_
  refine E.st (s_iload_n (q := 11) dX8_op_10 rfl rfl) ?_
  refine E.st (p2 := 14) (l2 := [(0, .ref 65), (1, .int a), (2, .int b), (3, .int c)]) (s2 := [.int 0, .ref 65]) (h2 := h) (s_invv (K := mX8_isNode) (o := 65) (as := [.int c]) (rest := [.ref 65]) (v := some (.int 0)) dX8_op_11 rfl lX8_108 (by omega) rfl (Nat.le_of_ble_eq_true rfl) rfl (Nat.le_of_ble_eq_true rfl) (ho) (q_X8_isNode_n (d := 0) (Nat.le_refl _) h 65 c F ho v1 e1 c2) (fun h => nomatch h)) ?_
  refine E.st (s_if_eq_t (q := 26) dX8_op_14 (by decide) (by decide)) ?_
  refine E.st (s_iconst (q := 27) (v := 1) dX8_op_26 rfl (by decide)) ?_
  refine E.st (s_goto (q := 31) dX8_op_27 (by decide)) ?_
  refine E.st (p2 := 34) (l2 := [(0, .ref 65), (1, .int a), (2, .int b), (3, .int c)]) (s2 := [.int (1 : Int32)]) (h2 := (hs h 65 (ob 8 (fo 53 (va_up F 0 (.int 1)))))) (s_invv (K := mX8_refused) (o := 65) (as := [.int 1]) (rest := []) (v := some (.int (1 : Int32))) dX8_op_31 rfl lX8_112 (by omega) rfl (Nat.le_of_ble_eq_true rfl) rfl (Nat.le_of_ble_eq_true rfl) (ho) (p_X8_refused_2 (d := 0) (Nat.le_refl _) h 65 (1 : Int32) (by decide) F ho rfl) (fun h => nomatch h)) ?_
  refine E.st (s_if_eq_f (q := 37) (tg := 41) dX8_op_34 (by decide) rfl (by decide)) ?_
  refine E.st (s_iconst (q := 38) (v := 0) dX8_op_37 rfl (by decide)) ?_
  refine E.st (s_goto (q := 51) dX8_op_38 (by decide)) ?_
  exact E.i dX8_op_51 rfl rfl rfl rfl

set_option maxRecDepth 20000 in
theorem j_X8_op_a_3 {d : Nat} (hd : 1 ≤ d) (h : AH) (a : Int32) (b : Int32) (c : Int32) (x : Nat) (y : Nat) (F : Nat → Value) (ho : h.1 65 = ob 8 (fo 53 F)) (v1 : Int32) (e1 : F 1 = .int v1) (c1 : ¬ (b < 0) ∧ ¬ (v1 ≤ b)) (c2 : ¬ (c < 0) ∧ ¬ (v1 ≤ c)) (c3 : a < 0) : E false mX8_op d 0 [(0, .ref 65), (1, .int a), (2, .int b), (3, .int c)] [] h (some (.int 0)) (hs h 65 (ob 8 (fo 53 (va_up F 0 (.int 1))))) := by
  refine E.st (s_aload_n (q := 1) dX8_op_0 rfl rfl) ?_
  refine E.st (s_aload_n (q := 2) dX8_op_1 rfl rfl) ?_
  refine E.st (s_iload_n (q := 3) dX8_op_2 rfl rfl) ?_
  refine E.st (p2 := 6) (l2 := [(0, .ref 65), (1, .int a), (2, .int b), (3, .int c)]) (s2 := [.int 1, .ref 65]) (h2 := h) (s_invv (K := mX8_isNode) (o := 65) (as := [.int b]) (rest := [.ref 65]) (v := some (.int 1)) dX8_op_3 rfl lX8_108 (by omega) rfl (Nat.le_of_ble_eq_true rfl) rfl (Nat.le_of_ble_eq_true rfl) (ho) (q_X8_isNode_y (d := 0) (Nat.le_refl _) h 65 b F ho v1 e1 c1) (fun h => nomatch h)) ?_
  refine E.st (s_if_eq_f (q := 9) (tg := 26) dX8_op_6 (by decide) rfl (by decide)) ?_
  refine E.st (s_aload_n (q := 10) dX8_op_9 rfl rfl) ?_
  refine E.st (s_iload_n (q := 11) dX8_op_10 rfl rfl) ?_
  refine E.st (p2 := 14) (l2 := [(0, .ref 65), (1, .int a), (2, .int b), (3, .int c)]) (s2 := [.int 1, .ref 65]) (h2 := h) (s_invv (K := mX8_isNode) (o := 65) (as := [.int c]) (rest := [.ref 65]) (v := some (.int 1)) dX8_op_11 rfl lX8_108 (by omega) rfl (Nat.le_of_ble_eq_true rfl) rfl (Nat.le_of_ble_eq_true rfl) (ho) (q_X8_isNode_y (d := 0) (Nat.le_refl _) h 65 c F ho v1 e1 c2) (fun h => nomatch h)) ?_
  refine E.st (s_if_eq_f (q := 17) (tg := 26) dX8_op_14 (by decide) rfl (by decide)) ?_
  refine E.st (s_iload_n (q := 18) dX8_op_17 rfl rfl) ?_
  refine E.st (s_if_lt_t (q := 26) dX8_op_18 (by decide) c3) ?_
  refine E.st (s_iconst (q := 27) (v := 1) dX8_op_26 rfl (by decide)) ?_
  refine E.st (s_goto (q := 31) dX8_op_27 (by decide)) ?_
  refine E.st (p2 := 34) (l2 := [(0, .ref 65), (1, .int a), (2, .int b), (3, .int c)]) (s2 := [.int (1 : Int32)]) (h2 := (hs h 65 (ob 8 (fo 53 (va_up F 0 (.int 1)))))) (s_invv (K := mX8_refused) (o := 65) (as := [.int 1]) (rest := []) (v := some (.int (1 : Int32))) dX8_op_31 rfl lX8_112 (by omega) rfl (Nat.le_of_ble_eq_true rfl) rfl (Nat.le_of_ble_eq_true rfl) (ho) (p_X8_refused_2 (d := 0) (Nat.le_refl _) h 65 (1 : Int32) (by decide) F ho rfl) (fun h => nomatch h)) ?_
  refine E.st (s_if_eq_f (q := 37) (tg := 41) dX8_op_34 (by decide) rfl (by decide)) ?_
  refine E.st (s_iconst (q := 38) (v := 0) dX8_op_37 rfl (by decide)) ?_
  refine E.st (s_goto (q := 51) dX8_op_38 (by decide)) ?_
  exact E.i dX8_op_51 rfl rfl rfl rfl

set_option maxRecDepth 20000 in
theorem j_X8_op_a_4 {d : Nat} (hd : 1 ≤ d) (h : AH) (a : Int32) (b : Int32) (c : Int32) (x : Nat) (y : Nat) (F : Nat → Value) (ho : h.1 65 = ob 8 (fo 53 F)) (v1 : Int32) (e1 : F 1 = .int v1) (c1 : ¬ (b < 0) ∧ ¬ (v1 ≤ b)) (c2 : ¬ (c < 0) ∧ ¬ (v1 ≤ c)) (c3 : ¬ (a < 0)) (c4 : a ≤ 5) (c5 : ¬ v1 = 60) (e2 : F 2 = .ref 66) (n : Nat) (f : Nat → Int32) (ha : h.1 66 = ia n f) (c6 : vp_in v1 n) (e3 : F 3 = .ref 67) (n1 : Nat) (f1 : Nat → Int64) (ha1 : h.1 67 = la n1 f1) (c7 : vp_in v1 n1) (e4 : F 4 = .ref 68) (n2 : Nat) (f2 : Nat → Int32) (ha2 : h.1 68 = ia n2 f2) (c8 : vp_in v1 n2) (e5 : F 5 = .ref 69) (n3 : Nat) (f3 : Nat → Int32) (ha3 : h.1 69 = ia n3 f3) (c9 : vp_in v1 n3) (e6 : F 6 = .ref 70) (n4 : Nat) (f4 : Nat → Int32) (ha4 : h.1 70 = ia n4 f4) (c10 : vp_in v1 n4) : E false mX8_op d 0 [(0, .ref 65), (1, .int a), (2, .int b), (3, .int c)] [] h (some (.int ((v1 + 1) - 1))) (hs (hs (hs (hs (hs (hs (hs h 65 (ob 8 (fo 53 (va_up F 0 (.int 0))))) 66 (ia n (upd f v1.toNatClampNeg (6 : Int32)))) 67 (la n1 (vp_updL f1 v1.toNatClampNeg (0 : Int64)))) 68 (ia n2 (upd f2 v1.toNatClampNeg b))) 69 (ia n3 (upd f3 v1.toNatClampNeg c))) 70 (ia n4 (upd f4 v1.toNatClampNeg a))) 65 (ob 8 (fo 53 (va_up (va_up F 0 (.int 0)) 1 (.int (v1 + 1)))))) := by
  refine E.st (s_aload_n (q := 1) dX8_op_0 rfl rfl) ?_
  refine E.st (s_aload_n (q := 2) dX8_op_1 rfl rfl) ?_
  refine E.st (s_iload_n (q := 3) dX8_op_2 rfl rfl) ?_
  refine E.st (p2 := 6) (l2 := [(0, .ref 65), (1, .int a), (2, .int b), (3, .int c)]) (s2 := [.int 1, .ref 65]) (h2 := h) (s_invv (K := mX8_isNode) (o := 65) (as := [.int b]) (rest := [.ref 65]) (v := some (.int 1)) dX8_op_3 rfl lX8_108 (by omega) rfl (Nat.le_of_ble_eq_true rfl) rfl (Nat.le_of_ble_eq_true rfl) (ho) (q_X8_isNode_y (d := 0) (Nat.le_refl _) h 65 b F ho v1 e1 c1) (fun h => nomatch h)) ?_
  refine E.st (s_if_eq_f (q := 9) (tg := 26) dX8_op_6 (by decide) rfl (by decide)) ?_
  refine E.st (s_aload_n (q := 10) dX8_op_9 rfl rfl) ?_
  refine E.st (s_iload_n (q := 11) dX8_op_10 rfl rfl) ?_
  refine E.st (p2 := 14) (l2 := [(0, .ref 65), (1, .int a), (2, .int b), (3, .int c)]) (s2 := [.int 1, .ref 65]) (h2 := h) (s_invv (K := mX8_isNode) (o := 65) (as := [.int c]) (rest := [.ref 65]) (v := some (.int 1)) dX8_op_11 rfl lX8_108 (by omega) rfl (Nat.le_of_ble_eq_true rfl) rfl (Nat.le_of_ble_eq_true rfl) (ho) (q_X8_isNode_y (d := 0) (Nat.le_refl _) h 65 c F ho v1 e1 c2) (fun h => nomatch h)) ?_
  refine E.st (s_if_eq_f (q := 17) (tg := 26) dX8_op_14 (by decide) rfl (by decide)) ?_
  refine E.st (s_iload_n (q := 18) dX8_op_17 rfl rfl) ?_
  refine E.st (s_if_lt_f (q := 21) (tg := 26) dX8_op_18 (by decide) rfl c3) ?_
  refine E.st (s_iload_n (q := 22) dX8_op_21 rfl rfl) ?_
  refine E.st (s_iconst (q := 23) (v := 5) dX8_op_22 rfl (by decide)) ?_
  refine E.st (s_icmp_le_t (q := 30) dX8_op_23 (by decide) c4) ?_
  refine E.st (s_iconst (q := 31) (v := 0) dX8_op_30 rfl (by decide)) ?_
  refine E.st (p2 := 34) (l2 := [(0, .ref 65), (1, .int a), (2, .int b), (3, .int c)]) (s2 := [.int (0 : Int32)]) (h2 := (hs h 65 (ob 8 (fo 53 (va_up F 0 (.int 0)))))) (s_invv (K := mX8_refused) (o := 65) (as := [.int 0]) (rest := []) (v := some (.int (0 : Int32))) dX8_op_31 rfl lX8_112 (by omega) rfl (Nat.le_of_ble_eq_true rfl) rfl (Nat.le_of_ble_eq_true rfl) (ho) (p_X8_refused_1 (d := 0) (Nat.le_refl _) h 65 (0 : Int32) (by decide) F ho rfl) (fun h => nomatch h)) ?_
  refine E.st (s_if_eq_t (q := 41) dX8_op_34 (by decide) (by decide)) ?_
  refine E.st (s_aload_n (q := 42) dX8_op_41 rfl rfl) ?_
  refine E.st (s_bipush (q := 44) (v := 6) dX8_op_42 rfl (by decide)) ?_
  refine E.st (s_lconst (q := 45) (v := 0) dX8_op_44 rfl (by decide)) ?_
  refine E.st (s_iload_n (q := 46) dX8_op_45 rfl rfl) ?_
  refine E.st (s_iload_n (q := 47) dX8_op_46 rfl rfl) ?_
  refine E.st (s_iload_n (q := 48) dX8_op_47 rfl rfl) ?_
  refine E.st (p2 := 51) (l2 := [(0, .ref 65), (1, .int a), (2, .int b), (3, .int c)]) (s2 := [.int ((v1 + 1) - 1)]) (h2 := (hs (hs (hs (hs (hs (hs (hs h 65 (ob 8 (fo 53 (va_up F 0 (.int 0))))) 66 (ia n (upd f v1.toNatClampNeg (6 : Int32)))) 67 (la n1 (vp_updL f1 v1.toNatClampNeg (0 : Int64)))) 68 (ia n2 (upd f2 v1.toNatClampNeg b))) 69 (ia n3 (upd f3 v1.toNatClampNeg c))) 70 (ia n4 (upd f4 v1.toNatClampNeg a))) 65 (ob 8 (fo 53 (va_up (va_up F 0 (.int 0)) 1 (.int (v1 + 1))))))) (s_invv (K := mX8_make) (o := 65) (as := [.int 6, .long 0, .int b, .int c, .int a]) (rest := []) (v := some (.int ((v1 + 1) - 1))) dX8_op_48 rfl lX8_104 (by omega) rfl (Nat.le_of_ble_eq_true rfl) rfl (Nat.le_of_ble_eq_true rfl) (hs_eq) (p_X8_make_1 (d := 0) (Nat.le_refl _) (hs h 65 (ob 8 (fo 53 (va_up F 0 (.int 0))))) 65 (6 : Int32) (0 : Int64) b c a (va_up F 0 (.int 0)) hs_eq v1 ((up_ne (by decide)).trans (e1)) c5 66 ((up_ne (by decide)).trans (e2)) n f ((hs_ne (by decide)).trans (ha)) c6 (by decide) 67 ((up_ne (by decide)).trans (e3)) n1 f1 ((hs_ne (by decide)).trans (ha1)) c7 68 ((up_ne (by decide)).trans (e4)) n2 f2 ((hs_ne (by decide)).trans (ha2)) (by decide) c8 (by decide) 69 ((up_ne (by decide)).trans (e5)) n3 f3 ((hs_ne (by decide)).trans (ha3)) (by decide) (by decide) c9 (by decide) 70 ((up_ne (by decide)).trans (e6)) n4 f4 ((hs_ne (by decide)).trans (ha4)) (by decide) (by decide) (by decide) c10 (by decide)) (fun h => nomatch h)) ?_
  exact E.i dX8_op_51 rfl rfl rfl rfl

set_option maxRecDepth 20000 in
theorem j_X8_op_a_5 {d : Nat} (hd : 1 ≤ d) (h : AH) (a : Int32) (b : Int32) (c : Int32) (x : Nat) (y : Nat) (F : Nat → Value) (ho : h.1 65 = ob 8 (fo 53 F)) (v1 : Int32) (e1 : F 1 = .int v1) (c1 : ¬ (b < 0) ∧ ¬ (v1 ≤ b)) (c2 : ¬ (c < 0) ∧ ¬ (v1 ≤ c)) (c3 : ¬ (a < 0)) (c4 : a ≤ 5) (c5 : v1 = 60) : E false mX8_op d 0 [(0, .ref 65), (1, .int a), (2, .int b), (3, .int c)] [] h (some (.int (-1))) (hs h 65 (ob 8 (fo 53 (va_up F 0 (.int 0))))) := by
  refine E.st (s_aload_n (q := 1) dX8_op_0 rfl rfl) ?_
  refine E.st (s_aload_n (q := 2) dX8_op_1 rfl rfl) ?_
  refine E.st (s_iload_n (q := 3) dX8_op_2 rfl rfl) ?_
  refine E.st (p2 := 6) (l2 := [(0, .ref 65), (1, .int a), (2, .int b), (3, .int c)]) (s2 := [.int 1, .ref 65]) (h2 := h) (s_invv (K := mX8_isNode) (o := 65) (as := [.int b]) (rest := [.ref 65]) (v := some (.int 1)) dX8_op_3 rfl lX8_108 (by omega) rfl (Nat.le_of_ble_eq_true rfl) rfl (Nat.le_of_ble_eq_true rfl) (ho) (q_X8_isNode_y (d := 0) (Nat.le_refl _) h 65 b F ho v1 e1 c1) (fun h => nomatch h)) ?_
  refine E.st (s_if_eq_f (q := 9) (tg := 26) dX8_op_6 (by decide) rfl (by decide)) ?_
  refine E.st (s_aload_n (q := 10) dX8_op_9 rfl rfl) ?_
  refine E.st (s_iload_n (q := 11) dX8_op_10 rfl rfl) ?_
  refine E.st (p2 := 14) (l2 := [(0, .ref 65), (1, .int a), (2, .int b), (3, .int c)]) (s2 := [.int 1, .ref 65]) (h2 := h) (s_invv (K := mX8_isNode) (o := 65) (as := [.int c]) (rest := [.ref 65]) (v := some (.int 1)) dX8_op_11 rfl lX8_108 (by omega) rfl (Nat.le_of_ble_eq_true rfl) rfl (Nat.le_of_ble_eq_true rfl) (ho) (q_X8_isNode_y (d := 0) (Nat.le_refl _) h 65 c F ho v1 e1 c2) (fun h => nomatch h)) ?_
  refine E.st (s_if_eq_f (q := 17) (tg := 26) dX8_op_14 (by decide) rfl (by decide)) ?_
  refine E.st (s_iload_n (q := 18) dX8_op_17 rfl rfl) ?_
  refine E.st (s_if_lt_f (q := 21) (tg := 26) dX8_op_18 (by decide) rfl c3) ?_
  refine E.st (s_iload_n (q := 22) dX8_op_21 rfl rfl) ?_
  refine E.st (s_iconst (q := 23) (v := 5) dX8_op_22 rfl (by decide)) ?_
  refine E.st (s_icmp_le_t (q := 30) dX8_op_23 (by decide) c4) ?_
  refine E.st (s_iconst (q := 31) (v := 0) dX8_op_30 rfl (by decide)) ?_
  refine E.st (p2 := 34) (l2 := [(0, .ref 65), (1, .int a), (2, .int b), (3, .int c)]) (s2 := [.int (0 : Int32)]) (h2 := (hs h 65 (ob 8 (fo 53 (va_up F 0 (.int 0)))))) (s_invv (K := mX8_refused) (o := 65) (as := [.int 0]) (rest := []) (v := some (.int (0 : Int32))) dX8_op_31 rfl lX8_112 (by omega) rfl (Nat.le_of_ble_eq_true rfl) rfl (Nat.le_of_ble_eq_true rfl) (ho) (p_X8_refused_1 (d := 0) (Nat.le_refl _) h 65 (0 : Int32) (by decide) F ho rfl) (fun h => nomatch h)) ?_
  refine E.st (s_if_eq_t (q := 41) dX8_op_34 (by decide) (by decide)) ?_
  refine E.st (s_aload_n (q := 42) dX8_op_41 rfl rfl) ?_
  refine E.st (s_bipush (q := 44) (v := 6) dX8_op_42 rfl (by decide)) ?_
  refine E.st (s_lconst (q := 45) (v := 0) dX8_op_44 rfl (by decide)) ?_
  refine E.st (s_iload_n (q := 46) dX8_op_45 rfl rfl) ?_
  refine E.st (s_iload_n (q := 47) dX8_op_46 rfl rfl) ?_
  refine E.st (s_iload_n (q := 48) dX8_op_47 rfl rfl) ?_
  refine E.st (p2 := 51) (l2 := [(0, .ref 65), (1, .int a), (2, .int b), (3, .int c)]) (s2 := [.int (-1)]) (h2 := (hs h 65 (ob 8 (fo 53 (va_up F 0 (.int 0)))))) (s_invv (K := mX8_make) (o := 65) (as := [.int 6, .long 0, .int b, .int c, .int a]) (rest := []) (v := some (.int (-1))) dX8_op_48 rfl lX8_104 (by omega) rfl (Nat.le_of_ble_eq_true rfl) rfl (Nat.le_of_ble_eq_true rfl) (hs_eq) (p_X8_make_2 (d := 0) (Nat.le_refl _) (hs h 65 (ob 8 (fo 53 (va_up F 0 (.int 0))))) 65 (6 : Int32) (0 : Int64) b c a (va_up F 0 (.int 0)) hs_eq v1 ((up_ne (by decide)).trans (e1)) c5) (fun h => nomatch h)) ?_
  exact E.i dX8_op_51 rfl rfl rfl rfl

set_option maxRecDepth 20000 in
theorem j_X8_op_a_6 {d : Nat} (hd : 1 ≤ d) (h : AH) (a : Int32) (b : Int32) (c : Int32) (x : Nat) (y : Nat) (F : Nat → Value) (ho : h.1 65 = ob 8 (fo 53 F)) (v1 : Int32) (e1 : F 1 = .int v1) (c1 : ¬ (b < 0) ∧ ¬ (v1 ≤ b)) (c2 : ¬ (c < 0) ∧ ¬ (v1 ≤ c)) (c3 : ¬ (a < 0)) (c4 : ¬ (a ≤ 5)) : E false mX8_op d 0 [(0, .ref 65), (1, .int a), (2, .int b), (3, .int c)] [] h (some (.int 0)) (hs h 65 (ob 8 (fo 53 (va_up F 0 (.int 1))))) := by
  refine E.st (s_aload_n (q := 1) dX8_op_0 rfl rfl) ?_
  refine E.st (s_aload_n (q := 2) dX8_op_1 rfl rfl) ?_
  refine E.st (s_iload_n (q := 3) dX8_op_2 rfl rfl) ?_
  refine E.st (p2 := 6) (l2 := [(0, .ref 65), (1, .int a), (2, .int b), (3, .int c)]) (s2 := [.int 1, .ref 65]) (h2 := h) (s_invv (K := mX8_isNode) (o := 65) (as := [.int b]) (rest := [.ref 65]) (v := some (.int 1)) dX8_op_3 rfl lX8_108 (by omega) rfl (Nat.le_of_ble_eq_true rfl) rfl (Nat.le_of_ble_eq_true rfl) (ho) (q_X8_isNode_y (d := 0) (Nat.le_refl _) h 65 b F ho v1 e1 c1) (fun h => nomatch h)) ?_
  refine E.st (s_if_eq_f (q := 9) (tg := 26) dX8_op_6 (by decide) rfl (by decide)) ?_
  refine E.st (s_aload_n (q := 10) dX8_op_9 rfl rfl) ?_
  refine E.st (s_iload_n (q := 11) dX8_op_10 rfl rfl) ?_
  refine E.st (p2 := 14) (l2 := [(0, .ref 65), (1, .int a), (2, .int b), (3, .int c)]) (s2 := [.int 1, .ref 65]) (h2 := h) (s_invv (K := mX8_isNode) (o := 65) (as := [.int c]) (rest := [.ref 65]) (v := some (.int 1)) dX8_op_11 rfl lX8_108 (by omega) rfl (Nat.le_of_ble_eq_true rfl) rfl (Nat.le_of_ble_eq_true rfl) (ho) (q_X8_isNode_y (d := 0) (Nat.le_refl _) h 65 c F ho v1 e1 c2) (fun h => nomatch h)) ?_
  refine E.st (s_if_eq_f (q := 17) (tg := 26) dX8_op_14 (by decide) rfl (by decide)) ?_
  refine E.st (s_iload_n (q := 18) dX8_op_17 rfl rfl) ?_
  refine E.st (s_if_lt_f (q := 21) (tg := 26) dX8_op_18 (by decide) rfl c3) ?_
  refine E.st (s_iload_n (q := 22) dX8_op_21 rfl rfl) ?_
  refine E.st (s_iconst (q := 23) (v := 5) dX8_op_22 rfl (by decide)) ?_
  refine E.st (s_icmp_le_f (q := 26) (tg := 30) dX8_op_23 (by decide) rfl c4) ?_
  refine E.st (s_iconst (q := 27) (v := 1) dX8_op_26 rfl (by decide)) ?_
  refine E.st (s_goto (q := 31) dX8_op_27 (by decide)) ?_
  refine E.st (p2 := 34) (l2 := [(0, .ref 65), (1, .int a), (2, .int b), (3, .int c)]) (s2 := [.int (1 : Int32)]) (h2 := (hs h 65 (ob 8 (fo 53 (va_up F 0 (.int 1)))))) (s_invv (K := mX8_refused) (o := 65) (as := [.int 1]) (rest := []) (v := some (.int (1 : Int32))) dX8_op_31 rfl lX8_112 (by omega) rfl (Nat.le_of_ble_eq_true rfl) rfl (Nat.le_of_ble_eq_true rfl) (ho) (p_X8_refused_2 (d := 0) (Nat.le_refl _) h 65 (1 : Int32) (by decide) F ho rfl) (fun h => nomatch h)) ?_
  refine E.st (s_if_eq_f (q := 37) (tg := 41) dX8_op_34 (by decide) rfl (by decide)) ?_
  refine E.st (s_iconst (q := 38) (v := 0) dX8_op_37 rfl (by decide)) ?_
  refine E.st (s_goto (q := 51) dX8_op_38 (by decide)) ?_
  exact E.i dX8_op_51 rfl rfl rfl rfl

set_option maxRecDepth 20000 in
theorem j_X8_when_a_1 {d : Nat} (hd : 1 ≤ d) (h : AH) (a : Int32) (b : Int32) (c : Int32) (x : Nat) (y : Nat) (F : Nat → Value) (ho : h.1 65 = ob 8 (fo 53 F)) (v1 : Int32) (e1 : F 1 = .int v1) (c1 : a < 0 ∨ v1 ≤ a) : E false mX8_when d 0 [(0, .ref 65), (1, .int a), (2, .int b), (3, .int c)] [] h (some (.int 0)) (hs h 65 (ob 8 (fo 53 (va_up F 0 (.int 1))))) := by
  refine E.st (s_aload_n (q := 1) dX8_when_0 rfl rfl) ?_
  refine E.st (s_aload_n (q := 2) dX8_when_1 rfl rfl) ?_
  refine E.st (s_iload_n (q := 3) dX8_when_2 rfl rfl) ?_
  refine E.st (p2 := 6) (l2 := [(0, .ref 65), (1, .int a), (2, .int b), (3, .int c)]) (s2 := [.int 0, .ref 65]) (h2 := h) (s_invv (K := mX8_isNode) (o := 65) (as := [.int a]) (rest := [.ref 65]) (v := some (.int 0)) dX8_when_3 rfl lX8_108 (by omega) rfl (Nat.le_of_ble_eq_true rfl) rfl (Nat.le_of_ble_eq_true rfl) (ho) (q_X8_isNode_n (d := 0) (Nat.le_refl _) h 65 a F ho v1 e1 c1) (fun h => nomatch h)) ?_
  refine E.st (s_if_eq_t (q := 25) dX8_when_6 (by decide) (by decide)) ?_
  refine E.st (s_iconst (q := 26) (v := 1) dX8_when_25 rfl (by decide)) ?_
  refine E.st (s_goto (q := 30) dX8_when_26 (by decide)) ?_
  refine E.st (p2 := 33) (l2 := [(0, .ref 65), (1, .int a), (2, .int b), (3, .int c)]) (s2 := [.int (1 : Int32)]) (h2 := (hs h 65 (ob 8 (fo 53 (va_up F 0 (.int 1)))))) (s_invv (K := mX8_refused) (o := 65) (as := [.int 1]) (rest := []) (v := some (.int (1 : Int32))) dX8_when_30 rfl lX8_112 (by omega) rfl (Nat.le_of_ble_eq_true rfl) rfl (Nat.le_of_ble_eq_true rfl) (ho) (p_X8_refused_2 (d := 0) (Nat.le_refl _) h 65 (1 : Int32) (by decide) F ho rfl) (fun h => nomatch h)) ?_
  refine E.st (s_if_eq_f (q := 36) (tg := 40) dX8_when_33 (by decide) rfl (by decide)) ?_
  refine E.st (s_iconst (q := 37) (v := 0) dX8_when_36 rfl (by decide)) ?_
  refine E.st (s_goto (q := 50) dX8_when_37 (by decide)) ?_
  exact E.i dX8_when_50 rfl rfl rfl rfl

set_option maxRecDepth 20000 in
theorem j_X8_when_a_2 {d : Nat} (hd : 1 ≤ d) (h : AH) (a : Int32) (b : Int32) (c : Int32) (x : Nat) (y : Nat) (F : Nat → Value) (ho : h.1 65 = ob 8 (fo 53 F)) (v1 : Int32) (e1 : F 1 = .int v1) (c1 : ¬ (a < 0) ∧ ¬ (v1 ≤ a)) (c2 : b < 0 ∨ v1 ≤ b) : E false mX8_when d 0 [(0, .ref 65), (1, .int a), (2, .int b), (3, .int c)] [] h (some (.int 0)) (hs h 65 (ob 8 (fo 53 (va_up F 0 (.int 1))))) := by
  refine E.st (s_aload_n (q := 1) dX8_when_0 rfl rfl) ?_
  refine E.st (s_aload_n (q := 2) dX8_when_1 rfl rfl) ?_
  refine E.st (s_iload_n (q := 3) dX8_when_2 rfl rfl) ?_
  refine E.st (p2 := 6) (l2 := [(0, .ref 65), (1, .int a), (2, .int b), (3, .int c)]) (s2 := [.int 1, .ref 65]) (h2 := h) (s_invv (K := mX8_isNode) (o := 65) (as := [.int a]) (rest := [.ref 65]) (v := some (.int 1)) dX8_when_3 rfl lX8_108 (by omega) rfl (Nat.le_of_ble_eq_true rfl) rfl (Nat.le_of_ble_eq_true rfl) (ho) (q_X8_isNode_y (d := 0) (Nat.le_refl _) h 65 a F ho v1 e1 c1) (fun h => nomatch h)) ?_
  refine E.st (s_if_eq_f (q := 9) (tg := 25) dX8_when_6 (by decide) rfl (by decide)) ?_
  refine E.st (s_aload_n (q := 10) dX8_when_9 rfl rfl) ?_
  refine E.st (s_iload_n (q := 11) dX8_when_10 rfl rfl) ?_
  refine E.st (p2 := 14) (l2 := [(0, .ref 65), (1, .int a), (2, .int b), (3, .int c)]) (s2 := [.int 0, .ref 65]) (h2 := h) (s_invv (K := mX8_isNode) (o := 65) (as := [.int b]) (rest := [.ref 65]) (v := some (.int 0)) dX8_when_11 rfl lX8_108 (by omega) rfl (Nat.le_of_ble_eq_true rfl) rfl (Nat.le_of_ble_eq_true rfl) (ho) (q_X8_isNode_n (d := 0) (Nat.le_refl _) h 65 b F ho v1 e1 c2) (fun h => nomatch h)) ?_
  refine E.st (s_if_eq_t (q := 25) dX8_when_14 (by decide) (by decide)) ?_
  refine E.st (s_iconst (q := 26) (v := 1) dX8_when_25 rfl (by decide)) ?_
  refine E.st (s_goto (q := 30) dX8_when_26 (by decide)) ?_
  refine E.st (p2 := 33) (l2 := [(0, .ref 65), (1, .int a), (2, .int b), (3, .int c)]) (s2 := [.int (1 : Int32)]) (h2 := (hs h 65 (ob 8 (fo 53 (va_up F 0 (.int 1)))))) (s_invv (K := mX8_refused) (o := 65) (as := [.int 1]) (rest := []) (v := some (.int (1 : Int32))) dX8_when_30 rfl lX8_112 (by omega) rfl (Nat.le_of_ble_eq_true rfl) rfl (Nat.le_of_ble_eq_true rfl) (ho) (p_X8_refused_2 (d := 0) (Nat.le_refl _) h 65 (1 : Int32) (by decide) F ho rfl) (fun h => nomatch h)) ?_
  refine E.st (s_if_eq_f (q := 36) (tg := 40) dX8_when_33 (by decide) rfl (by decide)) ?_
  refine E.st (s_iconst (q := 37) (v := 0) dX8_when_36 rfl (by decide)) ?_
  refine E.st (s_goto (q := 50) dX8_when_37 (by decide)) ?_
  exact E.i dX8_when_50 rfl rfl rfl rfl

set_option maxRecDepth 20000 in
theorem j_X8_when_a_3 {d : Nat} (hd : 1 ≤ d) (h : AH) (a : Int32) (b : Int32) (c : Int32) (x : Nat) (y : Nat) (F : Nat → Value) (ho : h.1 65 = ob 8 (fo 53 F)) (v1 : Int32) (e1 : F 1 = .int v1) (c1 : ¬ (a < 0) ∧ ¬ (v1 ≤ a)) (c2 : ¬ (b < 0) ∧ ¬ (v1 ≤ b)) (c3 : c < 0 ∨ v1 ≤ c) : E false mX8_when d 0 [(0, .ref 65), (1, .int a), (2, .int b), (3, .int c)] [] h (some (.int 0)) (hs h 65 (ob 8 (fo 53 (va_up F 0 (.int 1))))) := by
  refine E.st (s_aload_n (q := 1) dX8_when_0 rfl rfl) ?_
  refine E.st (s_aload_n (q := 2) dX8_when_1 rfl rfl) ?_
  refine E.st (s_iload_n (q := 3) dX8_when_2 rfl rfl) ?_
  refine E.st (p2 := 6) (l2 := [(0, .ref 65), (1, .int a), (2, .int b), (3, .int c)]) (s2 := [.int 1, .ref 65]) (h2 := h) (s_invv (K := mX8_isNode) (o := 65) (as := [.int a]) (rest := [.ref 65]) (v := some (.int 1)) dX8_when_3 rfl lX8_108 (by omega) rfl (Nat.le_of_ble_eq_true rfl) rfl (Nat.le_of_ble_eq_true rfl) (ho) (q_X8_isNode_y (d := 0) (Nat.le_refl _) h 65 a F ho v1 e1 c1) (fun h => nomatch h)) ?_
  refine E.st (s_if_eq_f (q := 9) (tg := 25) dX8_when_6 (by decide) rfl (by decide)) ?_
  refine E.st (s_aload_n (q := 10) dX8_when_9 rfl rfl) ?_
  refine E.st (s_iload_n (q := 11) dX8_when_10 rfl rfl) ?_
  refine E.st (p2 := 14) (l2 := [(0, .ref 65), (1, .int a), (2, .int b), (3, .int c)]) (s2 := [.int 1, .ref 65]) (h2 := h) (s_invv (K := mX8_isNode) (o := 65) (as := [.int b]) (rest := [.ref 65]) (v := some (.int 1)) dX8_when_11 rfl lX8_108 (by omega) rfl (Nat.le_of_ble_eq_true rfl) rfl (Nat.le_of_ble_eq_true rfl) (ho) (q_X8_isNode_y (d := 0) (Nat.le_refl _) h 65 b F ho v1 e1 c2) (fun h => nomatch h)) ?_
  refine E.st (s_if_eq_f (q := 17) (tg := 25) dX8_when_14 (by decide) rfl (by decide)) ?_
  refine E.st (s_aload_n (q := 18) dX8_when_17 rfl rfl) ?_
  refine E.st (s_iload_n (q := 19) dX8_when_18 rfl rfl) ?_
  refine E.st (p2 := 22) (l2 := [(0, .ref 65), (1, .int a), (2, .int b), (3, .int c)]) (s2 := [.int 0, .ref 65]) (h2 := h) (s_invv (K := mX8_isNode) (o := 65) (as := [.int c]) (rest := [.ref 65]) (v := some (.int 0)) dX8_when_19 rfl lX8_108 (by omega) rfl (Nat.le_of_ble_eq_true rfl) rfl (Nat.le_of_ble_eq_true rfl) (ho) (q_X8_isNode_n (d := 0) (Nat.le_refl _) h 65 c F ho v1 e1 c3) (fun h => nomatch h)) ?_
  refine E.st (s_if_ne_f (q := 25) (tg := 29) dX8_when_22 (by decide) rfl (by decide)) ?_
  refine E.st (s_iconst (q := 26) (v := 1) dX8_when_25 rfl (by decide)) ?_
  refine E.st (s_goto (q := 30) dX8_when_26 (by decide)) ?_
  refine E.st (p2 := 33) (l2 := [(0, .ref 65), (1, .int a), (2, .int b), (3, .int c)]) (s2 := [.int (1 : Int32)]) (h2 := (hs h 65 (ob 8 (fo 53 (va_up F 0 (.int 1)))))) (s_invv (K := mX8_refused) (o := 65) (as := [.int 1]) (rest := []) (v := some (.int (1 : Int32))) dX8_when_30 rfl lX8_112 (by omega) rfl (Nat.le_of_ble_eq_true rfl) rfl (Nat.le_of_ble_eq_true rfl) (ho) (p_X8_refused_2 (d := 0) (Nat.le_refl _) h 65 (1 : Int32) (by decide) F ho rfl) (fun h => nomatch h)) ?_
  refine E.st (s_if_eq_f (q := 36) (tg := 40) dX8_when_33 (by decide) rfl (by decide)) ?_
  refine E.st (s_iconst (q := 37) (v := 0) dX8_when_36 rfl (by decide)) ?_
  refine E.st (s_goto (q := 50) dX8_when_37 (by decide)) ?_
  exact E.i dX8_when_50 rfl rfl rfl rfl

set_option maxRecDepth 20000 in
theorem j_X8_when_a_4 {d : Nat} (hd : 1 ≤ d) (h : AH) (a : Int32) (b : Int32) (c : Int32) (x : Nat) (y : Nat) (F : Nat → Value) (ho : h.1 65 = ob 8 (fo 53 F)) (v1 : Int32) (e1 : F 1 = .int v1) (c1 : ¬ (a < 0) ∧ ¬ (v1 ≤ a)) (c2 : ¬ (b < 0) ∧ ¬ (v1 ≤ b)) (c3 : ¬ (c < 0) ∧ ¬ (v1 ≤ c)) (c4 : ¬ v1 = 60) (e2 : F 2 = .ref 66) (n : Nat) (f : Nat → Int32) (ha : h.1 66 = ia n f) (c5 : vp_in v1 n) (e3 : F 3 = .ref 67) (n1 : Nat) (f1 : Nat → Int64) (ha1 : h.1 67 = la n1 f1) (c6 : vp_in v1 n1) (e4 : F 4 = .ref 68) (n2 : Nat) (f2 : Nat → Int32) (ha2 : h.1 68 = ia n2 f2) (c7 : vp_in v1 n2) (e5 : F 5 = .ref 69) (n3 : Nat) (f3 : Nat → Int32) (ha3 : h.1 69 = ia n3 f3) (c8 : vp_in v1 n3) (e6 : F 6 = .ref 70) (n4 : Nat) (f4 : Nat → Int32) (ha4 : h.1 70 = ia n4 f4) (c9 : vp_in v1 n4) : E false mX8_when d 0 [(0, .ref 65), (1, .int a), (2, .int b), (3, .int c)] [] h (some (.int ((v1 + 1) - 1))) (hs (hs (hs (hs (hs (hs (hs h 65 (ob 8 (fo 53 (va_up F 0 (.int 0))))) 66 (ia n (upd f v1.toNatClampNeg (7 : Int32)))) 67 (la n1 (vp_updL f1 v1.toNatClampNeg (0 : Int64)))) 68 (ia n2 (upd f2 v1.toNatClampNeg a))) 69 (ia n3 (upd f3 v1.toNatClampNeg b))) 70 (ia n4 (upd f4 v1.toNatClampNeg c))) 65 (ob 8 (fo 53 (va_up (va_up F 0 (.int 0)) 1 (.int (v1 + 1)))))) := by
  refine E.st (s_aload_n (q := 1) dX8_when_0 rfl rfl) ?_
  refine E.st (s_aload_n (q := 2) dX8_when_1 rfl rfl) ?_
  refine E.st (s_iload_n (q := 3) dX8_when_2 rfl rfl) ?_
  refine E.st (p2 := 6) (l2 := [(0, .ref 65), (1, .int a), (2, .int b), (3, .int c)]) (s2 := [.int 1, .ref 65]) (h2 := h) (s_invv (K := mX8_isNode) (o := 65) (as := [.int a]) (rest := [.ref 65]) (v := some (.int 1)) dX8_when_3 rfl lX8_108 (by omega) rfl (Nat.le_of_ble_eq_true rfl) rfl (Nat.le_of_ble_eq_true rfl) (ho) (q_X8_isNode_y (d := 0) (Nat.le_refl _) h 65 a F ho v1 e1 c1) (fun h => nomatch h)) ?_
  refine E.st (s_if_eq_f (q := 9) (tg := 25) dX8_when_6 (by decide) rfl (by decide)) ?_
  refine E.st (s_aload_n (q := 10) dX8_when_9 rfl rfl) ?_
  refine E.st (s_iload_n (q := 11) dX8_when_10 rfl rfl) ?_
  refine E.st (p2 := 14) (l2 := [(0, .ref 65), (1, .int a), (2, .int b), (3, .int c)]) (s2 := [.int 1, .ref 65]) (h2 := h) (s_invv (K := mX8_isNode) (o := 65) (as := [.int b]) (rest := [.ref 65]) (v := some (.int 1)) dX8_when_11 rfl lX8_108 (by omega) rfl (Nat.le_of_ble_eq_true rfl) rfl (Nat.le_of_ble_eq_true rfl) (ho) (q_X8_isNode_y (d := 0) (Nat.le_refl _) h 65 b F ho v1 e1 c2) (fun h => nomatch h)) ?_
  refine E.st (s_if_eq_f (q := 17) (tg := 25) dX8_when_14 (by decide) rfl (by decide)) ?_
  refine E.st (s_aload_n (q := 18) dX8_when_17 rfl rfl) ?_
  refine E.st (s_iload_n (q := 19) dX8_when_18 rfl rfl) ?_
  refine E.st (p2 := 22) (l2 := [(0, .ref 65), (1, .int a), (2, .int b), (3, .int c)]) (s2 := [.int 1, .ref 65]) (h2 := h) (s_invv (K := mX8_isNode) (o := 65) (as := [.int c]) (rest := [.ref 65]) (v := some (.int 1)) dX8_when_19 rfl lX8_108 (by omega) rfl (Nat.le_of_ble_eq_true rfl) rfl (Nat.le_of_ble_eq_true rfl) (ho) (q_X8_isNode_y (d := 0) (Nat.le_refl _) h 65 c F ho v1 e1 c3) (fun h => nomatch h)) ?_
  refine E.st (s_if_ne_t (q := 29) dX8_when_22 (by decide) (by decide)) ?_
  refine E.st (s_iconst (q := 30) (v := 0) dX8_when_29 rfl (by decide)) ?_
  refine E.st (p2 := 33) (l2 := [(0, .ref 65), (1, .int a), (2, .int b), (3, .int c)]) (s2 := [.int (0 : Int32)]) (h2 := (hs h 65 (ob 8 (fo 53 (va_up F 0 (.int 0)))))) (s_invv (K := mX8_refused) (o := 65) (as := [.int 0]) (rest := []) (v := some (.int (0 : Int32))) dX8_when_30 rfl lX8_112 (by omega) rfl (Nat.le_of_ble_eq_true rfl) rfl (Nat.le_of_ble_eq_true rfl) (ho) (p_X8_refused_1 (d := 0) (Nat.le_refl _) h 65 (0 : Int32) (by decide) F ho rfl) (fun h => nomatch h)) ?_
  refine E.st (s_if_eq_t (q := 40) dX8_when_33 (by decide) (by decide)) ?_
  refine E.st (s_aload_n (q := 41) dX8_when_40 rfl rfl) ?_
  refine E.st (s_bipush (q := 43) (v := 7) dX8_when_41 rfl (by decide)) ?_
  refine E.st (s_lconst (q := 44) (v := 0) dX8_when_43 rfl (by decide)) ?_
  refine E.st (s_iload_n (q := 45) dX8_when_44 rfl rfl) ?_
  refine E.st (s_iload_n (q := 46) dX8_when_45 rfl rfl) ?_
  refine E.st (s_iload_n (q := 47) dX8_when_46 rfl rfl) ?_
  refine E.st (p2 := 50) (l2 := [(0, .ref 65), (1, .int a), (2, .int b), (3, .int c)]) (s2 := [.int ((v1 + 1) - 1)]) (h2 := (hs (hs (hs (hs (hs (hs (hs h 65 (ob 8 (fo 53 (va_up F 0 (.int 0))))) 66 (ia n (upd f v1.toNatClampNeg (7 : Int32)))) 67 (la n1 (vp_updL f1 v1.toNatClampNeg (0 : Int64)))) 68 (ia n2 (upd f2 v1.toNatClampNeg a))) 69 (ia n3 (upd f3 v1.toNatClampNeg b))) 70 (ia n4 (upd f4 v1.toNatClampNeg c))) 65 (ob 8 (fo 53 (va_up (va_up F 0 (.int 0)) 1 (.int (v1 + 1))))))) (s_invv (K := mX8_make) (o := 65) (as := [.int 7, .long 0, .int a, .int b, .int c]) (rest := []) (v := some (.int ((v1 + 1) - 1))) dX8_when_47 rfl lX8_104 (by omega) rfl (Nat.le_of_ble_eq_true rfl) rfl (Nat.le_of_ble_eq_true rfl) (hs_eq) (p_X8_make_1 (d := 0) (Nat.le_refl _) (hs h 65 (ob 8 (fo 53 (va_up F 0 (.int 0))))) 65 (7 : Int32) (0 : Int64) a b c (va_up F 0 (.int 0)) hs_eq v1 ((up_ne (by decide)).trans (e1)) c4 66 ((up_ne (by decide)).trans (e2)) n f ((hs_ne (by decide)).trans (ha)) c5 (by decide) 67 ((up_ne (by decide)).trans (e3)) n1 f1 ((hs_ne (by decide)).trans (ha1)) c6 68 ((up_ne (by decide)).trans (e4)) n2 f2 ((hs_ne (by decide)).trans (ha2)) (by decide) c7 (by decide) 69 ((up_ne (by decide)).trans (e5)) n3 f3 ((hs_ne (by decide)).trans (ha3)) (by decide) (by decide) c8 (by decide) 70 ((up_ne (by decide)).trans (e6)) n4 f4 ((hs_ne (by decide)).trans (ha4)) (by decide) (by decide) (by decide) c9 (by decide)) (fun h => nomatch h)) ?_
  exact E.i dX8_when_50 rfl rfl rfl rfl

set_option maxRecDepth 20000 in
theorem j_X8_when_a_5 {d : Nat} (hd : 1 ≤ d) (h : AH) (a : Int32) (b : Int32) (c : Int32) (x : Nat) (y : Nat) (F : Nat → Value) (ho : h.1 65 = ob 8 (fo 53 F)) (v1 : Int32) (e1 : F 1 = .int v1) (c1 : ¬ (a < 0) ∧ ¬ (v1 ≤ a)) (c2 : ¬ (b < 0) ∧ ¬ (v1 ≤ b)) (c3 : ¬ (c < 0) ∧ ¬ (v1 ≤ c)) (c4 : v1 = 60) : E false mX8_when d 0 [(0, .ref 65), (1, .int a), (2, .int b), (3, .int c)] [] h (some (.int (-1))) (hs h 65 (ob 8 (fo 53 (va_up F 0 (.int 0))))) := by
  refine E.st (s_aload_n (q := 1) dX8_when_0 rfl rfl) ?_
  refine E.st (s_aload_n (q := 2) dX8_when_1 rfl rfl) ?_
  refine E.st (s_iload_n (q := 3) dX8_when_2 rfl rfl) ?_
  refine E.st (p2 := 6) (l2 := [(0, .ref 65), (1, .int a), (2, .int b), (3, .int c)]) (s2 := [.int 1, .ref 65]) (h2 := h) (s_invv (K := mX8_isNode) (o := 65) (as := [.int a]) (rest := [.ref 65]) (v := some (.int 1)) dX8_when_3 rfl lX8_108 (by omega) rfl (Nat.le_of_ble_eq_true rfl) rfl (Nat.le_of_ble_eq_true rfl) (ho) (q_X8_isNode_y (d := 0) (Nat.le_refl _) h 65 a F ho v1 e1 c1) (fun h => nomatch h)) ?_
  refine E.st (s_if_eq_f (q := 9) (tg := 25) dX8_when_6 (by decide) rfl (by decide)) ?_
  refine E.st (s_aload_n (q := 10) dX8_when_9 rfl rfl) ?_
  refine E.st (s_iload_n (q := 11) dX8_when_10 rfl rfl) ?_
  refine E.st (p2 := 14) (l2 := [(0, .ref 65), (1, .int a), (2, .int b), (3, .int c)]) (s2 := [.int 1, .ref 65]) (h2 := h) (s_invv (K := mX8_isNode) (o := 65) (as := [.int b]) (rest := [.ref 65]) (v := some (.int 1)) dX8_when_11 rfl lX8_108 (by omega) rfl (Nat.le_of_ble_eq_true rfl) rfl (Nat.le_of_ble_eq_true rfl) (ho) (q_X8_isNode_y (d := 0) (Nat.le_refl _) h 65 b F ho v1 e1 c2) (fun h => nomatch h)) ?_
  refine E.st (s_if_eq_f (q := 17) (tg := 25) dX8_when_14 (by decide) rfl (by decide)) ?_
  refine E.st (s_aload_n (q := 18) dX8_when_17 rfl rfl) ?_
  refine E.st (s_iload_n (q := 19) dX8_when_18 rfl rfl) ?_
  refine E.st (p2 := 22) (l2 := [(0, .ref 65), (1, .int a), (2, .int b), (3, .int c)]) (s2 := [.int 1, .ref 65]) (h2 := h) (s_invv (K := mX8_isNode) (o := 65) (as := [.int c]) (rest := [.ref 65]) (v := some (.int 1)) dX8_when_19 rfl lX8_108 (by omega) rfl (Nat.le_of_ble_eq_true rfl) rfl (Nat.le_of_ble_eq_true rfl) (ho) (q_X8_isNode_y (d := 0) (Nat.le_refl _) h 65 c F ho v1 e1 c3) (fun h => nomatch h)) ?_
  refine E.st (s_if_ne_t (q := 29) dX8_when_22 (by decide) (by decide)) ?_
  refine E.st (s_iconst (q := 30) (v := 0) dX8_when_29 rfl (by decide)) ?_
  refine E.st (p2 := 33) (l2 := [(0, .ref 65), (1, .int a), (2, .int b), (3, .int c)]) (s2 := [.int (0 : Int32)]) (h2 := (hs h 65 (ob 8 (fo 53 (va_up F 0 (.int 0)))))) (s_invv (K := mX8_refused) (o := 65) (as := [.int 0]) (rest := []) (v := some (.int (0 : Int32))) dX8_when_30 rfl lX8_112 (by omega) rfl (Nat.le_of_ble_eq_true rfl) rfl (Nat.le_of_ble_eq_true rfl) (ho) (p_X8_refused_1 (d := 0) (Nat.le_refl _) h 65 (0 : Int32) (by decide) F ho rfl) (fun h => nomatch h)) ?_
  refine E.st (s_if_eq_t (q := 40) dX8_when_33 (by decide) (by decide)) ?_
  refine E.st (s_aload_n (q := 41) dX8_when_40 rfl rfl) ?_
  refine E.st (s_bipush (q := 43) (v := 7) dX8_when_41 rfl (by decide)) ?_
  refine E.st (s_lconst (q := 44) (v := 0) dX8_when_43 rfl (by decide)) ?_
  refine E.st (s_iload_n (q := 45) dX8_when_44 rfl rfl) ?_
  refine E.st (s_iload_n (q := 46) dX8_when_45 rfl rfl) ?_
  refine E.st (s_iload_n (q := 47) dX8_when_46 rfl rfl) ?_
  refine E.st (p2 := 50) (l2 := [(0, .ref 65), (1, .int a), (2, .int b), (3, .int c)]) (s2 := [.int (-1)]) (h2 := (hs h 65 (ob 8 (fo 53 (va_up F 0 (.int 0)))))) (s_invv (K := mX8_make) (o := 65) (as := [.int 7, .long 0, .int a, .int b, .int c]) (rest := []) (v := some (.int (-1))) dX8_when_47 rfl lX8_104 (by omega) rfl (Nat.le_of_ble_eq_true rfl) rfl (Nat.le_of_ble_eq_true rfl) (hs_eq) (p_X8_make_2 (d := 0) (Nat.le_refl _) (hs h 65 (ob 8 (fo 53 (va_up F 0 (.int 0))))) 65 (7 : Int32) (0 : Int64) a b c (va_up F 0 (.int 0)) hs_eq v1 ((up_ne (by decide)).trans (e1)) c4) (fun h => nomatch h)) ?_
  exact E.i dX8_when_50 rfl rfl rfl rfl

set_option maxRecDepth 20000 in
theorem j_X8_set_a_1 {d : Nat} (hd : 1 ≤ d) (h : AH) (a : Int32) (b : Int32) (x : Nat) (y : Nat) (F : Nat → Value) (ho : h.1 65 = ob 8 (fo 53 F)) (v1 : Int32) (e1 : F 1 = .int v1) (c : a < 0 ∨ v1 ≤ a) : E false mX8_set d 0 [(0, .ref 65), (1, .int a), (2, .int b)] [] h (some (.int 0)) (hs h 65 (ob 8 (fo 53 (va_up F 0 (.int 1))))) := by
  refine E.st (s_aload_n (q := 1) dX8_set_0 rfl rfl) ?_
  refine E.st (s_aload_n (q := 2) dX8_set_1 rfl rfl) ?_
  refine E.st (s_iload_n (q := 3) dX8_set_2 rfl rfl) ?_
  refine E.st (p2 := 6) (l2 := [(0, .ref 65), (1, .int a), (2, .int b)]) (s2 := [.int 0, .ref 65]) (h2 := h) (s_invv (K := mX8_isNode) (o := 65) (as := [.int a]) (rest := [.ref 65]) (v := some (.int 0)) dX8_set_3 rfl lX8_108 (by omega) rfl (Nat.le_of_ble_eq_true rfl) rfl (Nat.le_of_ble_eq_true rfl) (ho) (q_X8_isNode_n (d := 0) (Nat.le_refl _) h 65 a F ho v1 e1 c) (fun h => nomatch h)) ?_
  refine E.st (s_if_eq_t (q := 21) dX8_set_6 (by decide) (by decide)) ?_
  refine E.st (s_iconst (q := 22) (v := 1) dX8_set_21 rfl (by decide)) ?_
  refine E.st (s_goto (q := 26) dX8_set_22 (by decide)) ?_
  refine E.st (p2 := 29) (l2 := [(0, .ref 65), (1, .int a), (2, .int b)]) (s2 := [.int (1 : Int32)]) (h2 := (hs h 65 (ob 8 (fo 53 (va_up F 0 (.int 1)))))) (s_invv (K := mX8_refused) (o := 65) (as := [.int 1]) (rest := []) (v := some (.int (1 : Int32))) dX8_set_26 rfl lX8_112 (by omega) rfl (Nat.le_of_ble_eq_true rfl) rfl (Nat.le_of_ble_eq_true rfl) (ho) (p_X8_refused_2 (d := 0) (Nat.le_refl _) h 65 (1 : Int32) (by decide) F ho rfl) (fun h => nomatch h)) ?_
  refine E.st (s_if_eq_f (q := 32) (tg := 36) dX8_set_29 (by decide) rfl (by decide)) ?_
  refine E.st (s_iconst (q := 33) (v := 0) dX8_set_32 rfl (by decide)) ?_
  refine E.st (s_goto (q := 46) dX8_set_33 (by decide)) ?_
  exact E.i dX8_set_46 rfl rfl rfl rfl

set_option maxRecDepth 20000 in
theorem j_X8_set_a_2 {d : Nat} (hd : 1 ≤ d) (h : AH) (a : Int32) (b : Int32) (x : Nat) (y : Nat) (F : Nat → Value) (ho : h.1 65 = ob 8 (fo 53 F)) (v1 : Int32) (e1 : F 1 = .int v1) (c : ¬ (a < 0) ∧ ¬ (v1 ≤ a)) (c1 : b < 0) : E false mX8_set d 0 [(0, .ref 65), (1, .int a), (2, .int b)] [] h (some (.int 0)) (hs h 65 (ob 8 (fo 53 (va_up F 0 (.int 1))))) := by
  refine E.st (s_aload_n (q := 1) dX8_set_0 rfl rfl) ?_
  refine E.st (s_aload_n (q := 2) dX8_set_1 rfl rfl) ?_
  refine E.st (s_iload_n (q := 3) dX8_set_2 rfl rfl) ?_
  refine E.st (p2 := 6) (l2 := [(0, .ref 65), (1, .int a), (2, .int b)]) (s2 := [.int 1, .ref 65]) (h2 := h) (s_invv (K := mX8_isNode) (o := 65) (as := [.int a]) (rest := [.ref 65]) (v := some (.int 1)) dX8_set_3 rfl lX8_108 (by omega) rfl (Nat.le_of_ble_eq_true rfl) rfl (Nat.le_of_ble_eq_true rfl) (ho) (q_X8_isNode_y (d := 0) (Nat.le_refl _) h 65 a F ho v1 e1 c) (fun h => nomatch h)) ?_
  refine E.st (s_if_eq_f (q := 9) (tg := 21) dX8_set_6 (by decide) rfl (by decide)) ?_
  refine E.st (s_iload_n (q := 10) dX8_set_9 rfl rfl) ?_
  refine E.st (s_if_lt_t (q := 21) dX8_set_10 (by decide) c1) ?_
  refine E.st (s_iconst (q := 22) (v := 1) dX8_set_21 rfl (by decide)) ?_
  refine E.st (s_goto (q := 26) dX8_set_22 (by decide)) ?_
  refine E.st (p2 := 29) (l2 := [(0, .ref 65), (1, .int a), (2, .int b)]) (s2 := [.int (1 : Int32)]) (h2 := (hs h 65 (ob 8 (fo 53 (va_up F 0 (.int 1)))))) (s_invv (K := mX8_refused) (o := 65) (as := [.int 1]) (rest := []) (v := some (.int (1 : Int32))) dX8_set_26 rfl lX8_112 (by omega) rfl (Nat.le_of_ble_eq_true rfl) rfl (Nat.le_of_ble_eq_true rfl) (ho) (p_X8_refused_2 (d := 0) (Nat.le_refl _) h 65 (1 : Int32) (by decide) F ho rfl) (fun h => nomatch h)) ?_
  refine E.st (s_if_eq_f (q := 32) (tg := 36) dX8_set_29 (by decide) rfl (by decide)) ?_
  refine E.st (s_iconst (q := 33) (v := 0) dX8_set_32 rfl (by decide)) ?_
  refine E.st (s_goto (q := 46) dX8_set_33 (by decide)) ?_
  exact E.i dX8_set_46 rfl rfl rfl rfl

set_option maxRecDepth 20000 in
theorem j_X8_set_a_3 {d : Nat} (hd : 1 ≤ d) (h : AH) (a : Int32) (b : Int32) (x : Nat) (y : Nat) (F : Nat → Value) (ho : h.1 65 = ob 8 (fo 53 F)) (v1 : Int32) (e1 : F 1 = .int v1) (c : ¬ (a < 0) ∧ ¬ (v1 ≤ a)) (c1 : ¬ (b < 0)) (c2 : b ≤ v1) (c3 : ¬ v1 = 60) (e2 : F 2 = .ref 66) (n : Nat) (f : Nat → Int32) (ha : h.1 66 = ia n f) (c4 : vp_in v1 n) (e3 : F 3 = .ref 67) (n1 : Nat) (f1 : Nat → Int64) (ha1 : h.1 67 = la n1 f1) (c5 : vp_in v1 n1) (e4 : F 4 = .ref 68) (n2 : Nat) (f2 : Nat → Int32) (ha2 : h.1 68 = ia n2 f2) (c6 : vp_in v1 n2) (e5 : F 5 = .ref 69) (n3 : Nat) (f3 : Nat → Int32) (ha3 : h.1 69 = ia n3 f3) (c7 : vp_in v1 n3) (e6 : F 6 = .ref 70) (n4 : Nat) (f4 : Nat → Int32) (ha4 : h.1 70 = ia n4 f4) (c8 : vp_in v1 n4) : E false mX8_set d 0 [(0, .ref 65), (1, .int a), (2, .int b)] [] h (some (.int ((v1 + 1) - 1))) (hs (hs (hs (hs (hs (hs (hs h 65 (ob 8 (fo 53 (va_up F 0 (.int 0))))) 66 (ia n (upd f v1.toNatClampNeg (8 : Int32)))) 67 (la n1 (vp_updL f1 v1.toNatClampNeg (0 : Int64)))) 68 (ia n2 (upd f2 v1.toNatClampNeg a))) 69 (ia n3 (upd f3 v1.toNatClampNeg b))) 70 (ia n4 (upd f4 v1.toNatClampNeg (-1 : Int32)))) 65 (ob 8 (fo 53 (va_up (va_up F 0 (.int 0)) 1 (.int (v1 + 1)))))) := by
  refine E.st (s_aload_n (q := 1) dX8_set_0 rfl rfl) ?_
  refine E.st (s_aload_n (q := 2) dX8_set_1 rfl rfl) ?_
  refine E.st (s_iload_n (q := 3) dX8_set_2 rfl rfl) ?_
  refine E.st (p2 := 6) (l2 := [(0, .ref 65), (1, .int a), (2, .int b)]) (s2 := [.int 1, .ref 65]) (h2 := h) (s_invv (K := mX8_isNode) (o := 65) (as := [.int a]) (rest := [.ref 65]) (v := some (.int 1)) dX8_set_3 rfl lX8_108 (by omega) rfl (Nat.le_of_ble_eq_true rfl) rfl (Nat.le_of_ble_eq_true rfl) (ho) (q_X8_isNode_y (d := 0) (Nat.le_refl _) h 65 a F ho v1 e1 c) (fun h => nomatch h)) ?_
  refine E.st (s_if_eq_f (q := 9) (tg := 21) dX8_set_6 (by decide) rfl (by decide)) ?_
  refine E.st (s_iload_n (q := 10) dX8_set_9 rfl rfl) ?_
  refine E.st (s_if_lt_f (q := 13) (tg := 21) dX8_set_10 (by decide) rfl c1) ?_
  refine E.st (s_iload_n (q := 14) dX8_set_13 rfl rfl) ?_
  refine E.st (s_aload_n (q := 15) dX8_set_14 rfl rfl) ?_
  refine E.st (s_gf (q := 18) (v := .int v1) dX8_set_15 rfl fX8_101.l (ho) (by decide) (e1)) ?_
  refine E.st (s_icmp_le_t (q := 25) dX8_set_18 (by decide) c2) ?_
  refine E.st (s_iconst (q := 26) (v := 0) dX8_set_25 rfl (by decide)) ?_
  refine E.st (p2 := 29) (l2 := [(0, .ref 65), (1, .int a), (2, .int b)]) (s2 := [.int (0 : Int32)]) (h2 := (hs h 65 (ob 8 (fo 53 (va_up F 0 (.int 0)))))) (s_invv (K := mX8_refused) (o := 65) (as := [.int 0]) (rest := []) (v := some (.int (0 : Int32))) dX8_set_26 rfl lX8_112 (by omega) rfl (Nat.le_of_ble_eq_true rfl) rfl (Nat.le_of_ble_eq_true rfl) (ho) (p_X8_refused_1 (d := 0) (Nat.le_refl _) h 65 (0 : Int32) (by decide) F ho rfl) (fun h => nomatch h)) ?_
  refine E.st (s_if_eq_t (q := 36) dX8_set_29 (by decide) (by decide)) ?_
  refine E.st (s_aload_n (q := 37) dX8_set_36 rfl rfl) ?_
  refine E.st (s_bipush (q := 39) (v := 8) dX8_set_37 rfl (by decide)) ?_
  refine E.st (s_lconst (q := 40) (v := 0) dX8_set_39 rfl (by decide)) ?_
  refine E.st (s_iload_n (q := 41) dX8_set_40 rfl rfl) ?_
  refine E.st (s_iload_n (q := 42) dX8_set_41 rfl rfl) ?_
  refine E.st (s_iconst (q := 43) (v := (-1)) dX8_set_42 rfl (by decide)) ?_
  refine E.st (p2 := 46) (l2 := [(0, .ref 65), (1, .int a), (2, .int b)]) (s2 := [.int ((v1 + 1) - 1)]) (h2 := (hs (hs (hs (hs (hs (hs (hs h 65 (ob 8 (fo 53 (va_up F 0 (.int 0))))) 66 (ia n (upd f v1.toNatClampNeg (8 : Int32)))) 67 (la n1 (vp_updL f1 v1.toNatClampNeg (0 : Int64)))) 68 (ia n2 (upd f2 v1.toNatClampNeg a))) 69 (ia n3 (upd f3 v1.toNatClampNeg b))) 70 (ia n4 (upd f4 v1.toNatClampNeg (-1 : Int32)))) 65 (ob 8 (fo 53 (va_up (va_up F 0 (.int 0)) 1 (.int (v1 + 1))))))) (s_invv (K := mX8_make) (o := 65) (as := [.int 8, .long 0, .int a, .int b, .int (-1)]) (rest := []) (v := some (.int ((v1 + 1) - 1))) dX8_set_43 rfl lX8_104 (by omega) rfl (Nat.le_of_ble_eq_true rfl) rfl (Nat.le_of_ble_eq_true rfl) (hs_eq) (p_X8_make_1 (d := 0) (Nat.le_refl _) (hs h 65 (ob 8 (fo 53 (va_up F 0 (.int 0))))) 65 (8 : Int32) (0 : Int64) a b (-1 : Int32) (va_up F 0 (.int 0)) hs_eq v1 ((up_ne (by decide)).trans (e1)) c3 66 ((up_ne (by decide)).trans (e2)) n f ((hs_ne (by decide)).trans (ha)) c4 (by decide) 67 ((up_ne (by decide)).trans (e3)) n1 f1 ((hs_ne (by decide)).trans (ha1)) c5 68 ((up_ne (by decide)).trans (e4)) n2 f2 ((hs_ne (by decide)).trans (ha2)) (by decide) c6 (by decide) 69 ((up_ne (by decide)).trans (e5)) n3 f3 ((hs_ne (by decide)).trans (ha3)) (by decide) (by decide) c7 (by decide) 70 ((up_ne (by decide)).trans (e6)) n4 f4 ((hs_ne (by decide)).trans (ha4)) (by decide) (by decide) (by decide) c8 (by decide)) (fun h => nomatch h)) ?_
  exact E.i dX8_set_46 rfl rfl rfl rfl

set_option maxRecDepth 20000 in
theorem j_X8_set_a_4 {d : Nat} (hd : 1 ≤ d) (h : AH) (a : Int32) (b : Int32) (x : Nat) (y : Nat) (F : Nat → Value) (ho : h.1 65 = ob 8 (fo 53 F)) (v1 : Int32) (e1 : F 1 = .int v1) (c : ¬ (a < 0) ∧ ¬ (v1 ≤ a)) (c1 : ¬ (b < 0)) (c2 : b ≤ v1) (c3 : v1 = 60) : E false mX8_set d 0 [(0, .ref 65), (1, .int a), (2, .int b)] [] h (some (.int (-1))) (hs h 65 (ob 8 (fo 53 (va_up F 0 (.int 0))))) := by
  refine E.st (s_aload_n (q := 1) dX8_set_0 rfl rfl) ?_
  refine E.st (s_aload_n (q := 2) dX8_set_1 rfl rfl) ?_
  refine E.st (s_iload_n (q := 3) dX8_set_2 rfl rfl) ?_
  refine E.st (p2 := 6) (l2 := [(0, .ref 65), (1, .int a), (2, .int b)]) (s2 := [.int 1, .ref 65]) (h2 := h) (s_invv (K := mX8_isNode) (o := 65) (as := [.int a]) (rest := [.ref 65]) (v := some (.int 1)) dX8_set_3 rfl lX8_108 (by omega) rfl (Nat.le_of_ble_eq_true rfl) rfl (Nat.le_of_ble_eq_true rfl) (ho) (q_X8_isNode_y (d := 0) (Nat.le_refl _) h 65 a F ho v1 e1 c) (fun h => nomatch h)) ?_
  refine E.st (s_if_eq_f (q := 9) (tg := 21) dX8_set_6 (by decide) rfl (by decide)) ?_
  refine E.st (s_iload_n (q := 10) dX8_set_9 rfl rfl) ?_
  refine E.st (s_if_lt_f (q := 13) (tg := 21) dX8_set_10 (by decide) rfl c1) ?_
  refine E.st (s_iload_n (q := 14) dX8_set_13 rfl rfl) ?_
  refine E.st (s_aload_n (q := 15) dX8_set_14 rfl rfl) ?_
  refine E.st (s_gf (q := 18) (v := .int v1) dX8_set_15 rfl fX8_101.l (ho) (by decide) (e1)) ?_
  refine E.st (s_icmp_le_t (q := 25) dX8_set_18 (by decide) c2) ?_
  refine E.st (s_iconst (q := 26) (v := 0) dX8_set_25 rfl (by decide)) ?_
  refine E.st (p2 := 29) (l2 := [(0, .ref 65), (1, .int a), (2, .int b)]) (s2 := [.int (0 : Int32)]) (h2 := (hs h 65 (ob 8 (fo 53 (va_up F 0 (.int 0)))))) (s_invv (K := mX8_refused) (o := 65) (as := [.int 0]) (rest := []) (v := some (.int (0 : Int32))) dX8_set_26 rfl lX8_112 (by omega) rfl (Nat.le_of_ble_eq_true rfl) rfl (Nat.le_of_ble_eq_true rfl) (ho) (p_X8_refused_1 (d := 0) (Nat.le_refl _) h 65 (0 : Int32) (by decide) F ho rfl) (fun h => nomatch h)) ?_
  refine E.st (s_if_eq_t (q := 36) dX8_set_29 (by decide) (by decide)) ?_
  refine E.st (s_aload_n (q := 37) dX8_set_36 rfl rfl) ?_
  refine E.st (s_bipush (q := 39) (v := 8) dX8_set_37 rfl (by decide)) ?_
  refine E.st (s_lconst (q := 40) (v := 0) dX8_set_39 rfl (by decide)) ?_
  refine E.st (s_iload_n (q := 41) dX8_set_40 rfl rfl) ?_
  refine E.st (s_iload_n (q := 42) dX8_set_41 rfl rfl) ?_
  refine E.st (s_iconst (q := 43) (v := (-1)) dX8_set_42 rfl (by decide)) ?_
  refine E.st (p2 := 46) (l2 := [(0, .ref 65), (1, .int a), (2, .int b)]) (s2 := [.int (-1)]) (h2 := (hs h 65 (ob 8 (fo 53 (va_up F 0 (.int 0)))))) (s_invv (K := mX8_make) (o := 65) (as := [.int 8, .long 0, .int a, .int b, .int (-1)]) (rest := []) (v := some (.int (-1))) dX8_set_43 rfl lX8_104 (by omega) rfl (Nat.le_of_ble_eq_true rfl) rfl (Nat.le_of_ble_eq_true rfl) (hs_eq) (p_X8_make_2 (d := 0) (Nat.le_refl _) (hs h 65 (ob 8 (fo 53 (va_up F 0 (.int 0))))) 65 (8 : Int32) (0 : Int64) a b (-1 : Int32) (va_up F 0 (.int 0)) hs_eq v1 ((up_ne (by decide)).trans (e1)) c3) (fun h => nomatch h)) ?_
  exact E.i dX8_set_46 rfl rfl rfl rfl

set_option maxRecDepth 20000 in
theorem j_X8_set_a_5 {d : Nat} (hd : 1 ≤ d) (h : AH) (a : Int32) (b : Int32) (x : Nat) (y : Nat) (F : Nat → Value) (ho : h.1 65 = ob 8 (fo 53 F)) (v1 : Int32) (e1 : F 1 = .int v1) (c : ¬ (a < 0) ∧ ¬ (v1 ≤ a)) (c1 : ¬ (b < 0)) (c2 : ¬ (b ≤ v1)) : E false mX8_set d 0 [(0, .ref 65), (1, .int a), (2, .int b)] [] h (some (.int 0)) (hs h 65 (ob 8 (fo 53 (va_up F 0 (.int 1))))) := by
  refine E.st (s_aload_n (q := 1) dX8_set_0 rfl rfl) ?_
  refine E.st (s_aload_n (q := 2) dX8_set_1 rfl rfl) ?_
  refine E.st (s_iload_n (q := 3) dX8_set_2 rfl rfl) ?_
  refine E.st (p2 := 6) (l2 := [(0, .ref 65), (1, .int a), (2, .int b)]) (s2 := [.int 1, .ref 65]) (h2 := h) (s_invv (K := mX8_isNode) (o := 65) (as := [.int a]) (rest := [.ref 65]) (v := some (.int 1)) dX8_set_3 rfl lX8_108 (by omega) rfl (Nat.le_of_ble_eq_true rfl) rfl (Nat.le_of_ble_eq_true rfl) (ho) (q_X8_isNode_y (d := 0) (Nat.le_refl _) h 65 a F ho v1 e1 c) (fun h => nomatch h)) ?_
  refine E.st (s_if_eq_f (q := 9) (tg := 21) dX8_set_6 (by decide) rfl (by decide)) ?_
  refine E.st (s_iload_n (q := 10) dX8_set_9 rfl rfl) ?_
  refine E.st (s_if_lt_f (q := 13) (tg := 21) dX8_set_10 (by decide) rfl c1) ?_
  refine E.st (s_iload_n (q := 14) dX8_set_13 rfl rfl) ?_
  refine E.st (s_aload_n (q := 15) dX8_set_14 rfl rfl) ?_
  refine E.st (s_gf (q := 18) (v := .int v1) dX8_set_15 rfl fX8_101.l (ho) (by decide) (e1)) ?_
  refine E.st (s_icmp_le_f (q := 21) (tg := 25) dX8_set_18 (by decide) rfl c2) ?_
  refine E.st (s_iconst (q := 22) (v := 1) dX8_set_21 rfl (by decide)) ?_
  refine E.st (s_goto (q := 26) dX8_set_22 (by decide)) ?_
  refine E.st (p2 := 29) (l2 := [(0, .ref 65), (1, .int a), (2, .int b)]) (s2 := [.int (1 : Int32)]) (h2 := (hs h 65 (ob 8 (fo 53 (va_up F 0 (.int 1)))))) (s_invv (K := mX8_refused) (o := 65) (as := [.int 1]) (rest := []) (v := some (.int (1 : Int32))) dX8_set_26 rfl lX8_112 (by omega) rfl (Nat.le_of_ble_eq_true rfl) rfl (Nat.le_of_ble_eq_true rfl) (ho) (p_X8_refused_2 (d := 0) (Nat.le_refl _) h 65 (1 : Int32) (by decide) F ho rfl) (fun h => nomatch h)) ?_
  refine E.st (s_if_eq_f (q := 32) (tg := 36) dX8_set_29 (by decide) rfl (by decide)) ?_
  refine E.st (s_iconst (q := 33) (v := 0) dX8_set_32 rfl (by decide)) ?_
  refine E.st (s_goto (q := 46) dX8_set_33 (by decide)) ?_
  exact E.i dX8_set_46 rfl rfl rfl rfl

set_option maxRecDepth 20000 in
theorem j_X8_fold_a_1 {d : Nat} (hd : 1 ≤ d) (h : AH) (a : Int32) (b : Int32) (x : Nat) (y : Nat) (F : Nat → Value) (ho : h.1 65 = ob 8 (fo 53 F)) (v1 : Int32) (e1 : F 1 = .int v1) (c : b < 0 ∨ v1 ≤ b) : E false mX8_fold d 0 [(0, .ref 65), (1, .int a), (2, .int b)] [] h (some (.int 0)) (hs h 65 (ob 8 (fo 53 (va_up F 0 (.int 1))))) := by
  refine E.st (s_aload_n (q := 1) dX8_fold_0 rfl rfl) ?_
  refine E.st (s_aload_n (q := 2) dX8_fold_1 rfl rfl) ?_
  refine E.st (s_iload_n (q := 3) dX8_fold_2 rfl rfl) ?_
  refine E.st (p2 := 6) (l2 := [(0, .ref 65), (1, .int a), (2, .int b)]) (s2 := [.int 0, .ref 65]) (h2 := h) (s_invv (K := mX8_isNode) (o := 65) (as := [.int b]) (rest := [.ref 65]) (v := some (.int 0)) dX8_fold_3 rfl lX8_108 (by omega) rfl (Nat.le_of_ble_eq_true rfl) rfl (Nat.le_of_ble_eq_true rfl) (ho) (q_X8_isNode_n (d := 0) (Nat.le_refl _) h 65 b F ho v1 e1 c) (fun h => nomatch h)) ?_
  refine E.st (s_if_eq_t (q := 18) dX8_fold_6 (by decide) (by decide)) ?_
  refine E.st (s_iconst (q := 19) (v := 1) dX8_fold_18 rfl (by decide)) ?_
  refine E.st (s_goto (q := 23) dX8_fold_19 (by decide)) ?_
  refine E.st (p2 := 26) (l2 := [(0, .ref 65), (1, .int a), (2, .int b)]) (s2 := [.int (1 : Int32)]) (h2 := (hs h 65 (ob 8 (fo 53 (va_up F 0 (.int 1)))))) (s_invv (K := mX8_refused) (o := 65) (as := [.int 1]) (rest := []) (v := some (.int (1 : Int32))) dX8_fold_23 rfl lX8_112 (by omega) rfl (Nat.le_of_ble_eq_true rfl) rfl (Nat.le_of_ble_eq_true rfl) (ho) (p_X8_refused_2 (d := 0) (Nat.le_refl _) h 65 (1 : Int32) (by decide) F ho rfl) (fun h => nomatch h)) ?_
  refine E.st (s_if_eq_f (q := 29) (tg := 33) dX8_fold_26 (by decide) rfl (by decide)) ?_
  refine E.st (s_iconst (q := 30) (v := 0) dX8_fold_29 rfl (by decide)) ?_
  refine E.st (s_goto (q := 43) dX8_fold_30 (by decide)) ?_
  exact E.i dX8_fold_43 rfl rfl rfl rfl

set_option maxRecDepth 20000 in
theorem j_X8_fold_a_2 {d : Nat} (hd : 1 ≤ d) (h : AH) (a : Int32) (b : Int32) (x : Nat) (y : Nat) (F : Nat → Value) (ho : h.1 65 = ob 8 (fo 53 F)) (v1 : Int32) (e1 : F 1 = .int v1) (c : ¬ (b < 0) ∧ ¬ (v1 ≤ b)) (c1 : a < 0) : E false mX8_fold d 0 [(0, .ref 65), (1, .int a), (2, .int b)] [] h (some (.int 0)) (hs h 65 (ob 8 (fo 53 (va_up F 0 (.int 1))))) := by
  refine E.st (s_aload_n (q := 1) dX8_fold_0 rfl rfl) ?_
  refine E.st (s_aload_n (q := 2) dX8_fold_1 rfl rfl) ?_
  refine E.st (s_iload_n (q := 3) dX8_fold_2 rfl rfl) ?_
  refine E.st (p2 := 6) (l2 := [(0, .ref 65), (1, .int a), (2, .int b)]) (s2 := [.int 1, .ref 65]) (h2 := h) (s_invv (K := mX8_isNode) (o := 65) (as := [.int b]) (rest := [.ref 65]) (v := some (.int 1)) dX8_fold_3 rfl lX8_108 (by omega) rfl (Nat.le_of_ble_eq_true rfl) rfl (Nat.le_of_ble_eq_true rfl) (ho) (q_X8_isNode_y (d := 0) (Nat.le_refl _) h 65 b F ho v1 e1 c) (fun h => nomatch h)) ?_
  refine E.st (s_if_eq_f (q := 9) (tg := 18) dX8_fold_6 (by decide) rfl (by decide)) ?_
  refine E.st (s_iload_n (q := 10) dX8_fold_9 rfl rfl) ?_
  refine E.st (s_if_lt_t (q := 18) dX8_fold_10 (by decide) c1) ?_
  refine E.st (s_iconst (q := 19) (v := 1) dX8_fold_18 rfl (by decide)) ?_
  refine E.st (s_goto (q := 23) dX8_fold_19 (by decide)) ?_
  refine E.st (p2 := 26) (l2 := [(0, .ref 65), (1, .int a), (2, .int b)]) (s2 := [.int (1 : Int32)]) (h2 := (hs h 65 (ob 8 (fo 53 (va_up F 0 (.int 1)))))) (s_invv (K := mX8_refused) (o := 65) (as := [.int 1]) (rest := []) (v := some (.int (1 : Int32))) dX8_fold_23 rfl lX8_112 (by omega) rfl (Nat.le_of_ble_eq_true rfl) rfl (Nat.le_of_ble_eq_true rfl) (ho) (p_X8_refused_2 (d := 0) (Nat.le_refl _) h 65 (1 : Int32) (by decide) F ho rfl) (fun h => nomatch h)) ?_
  refine E.st (s_if_eq_f (q := 29) (tg := 33) dX8_fold_26 (by decide) rfl (by decide)) ?_
  refine E.st (s_iconst (q := 30) (v := 0) dX8_fold_29 rfl (by decide)) ?_
  refine E.st (s_goto (q := 43) dX8_fold_30 (by decide)) ?_
  exact E.i dX8_fold_43 rfl rfl rfl rfl

set_option maxRecDepth 20000 in
theorem j_X8_fold_a_3 {d : Nat} (hd : 1 ≤ d) (h : AH) (a : Int32) (b : Int32) (x : Nat) (y : Nat) (F : Nat → Value) (ho : h.1 65 = ob 8 (fo 53 F)) (v1 : Int32) (e1 : F 1 = .int v1) (c : ¬ (b < 0) ∧ ¬ (v1 ≤ b)) (c1 : ¬ (a < 0)) (c2 : a ≤ 2) (c3 : ¬ v1 = 60) (e2 : F 2 = .ref 66) (n : Nat) (f : Nat → Int32) (ha : h.1 66 = ia n f) (c4 : vp_in v1 n) (e3 : F 3 = .ref 67) (n1 : Nat) (f1 : Nat → Int64) (ha1 : h.1 67 = la n1 f1) (c5 : vp_in v1 n1) (e4 : F 4 = .ref 68) (n2 : Nat) (f2 : Nat → Int32) (ha2 : h.1 68 = ia n2 f2) (c6 : vp_in v1 n2) (e5 : F 5 = .ref 69) (n3 : Nat) (f3 : Nat → Int32) (ha3 : h.1 69 = ia n3 f3) (c7 : vp_in v1 n3) (e6 : F 6 = .ref 70) (n4 : Nat) (f4 : Nat → Int32) (ha4 : h.1 70 = ia n4 f4) (c8 : vp_in v1 n4) : E false mX8_fold d 0 [(0, .ref 65), (1, .int a), (2, .int b)] [] h (some (.int ((v1 + 1) - 1))) (hs (hs (hs (hs (hs (hs (hs h 65 (ob 8 (fo 53 (va_up F 0 (.int 0))))) 66 (ia n (upd f v1.toNatClampNeg (9 : Int32)))) 67 (la n1 (vp_updL f1 v1.toNatClampNeg (0 : Int64)))) 68 (ia n2 (upd f2 v1.toNatClampNeg b))) 69 (ia n3 (upd f3 v1.toNatClampNeg a))) 70 (ia n4 (upd f4 v1.toNatClampNeg (-1 : Int32)))) 65 (ob 8 (fo 53 (va_up (va_up F 0 (.int 0)) 1 (.int (v1 + 1)))))) := by
  refine E.st (s_aload_n (q := 1) dX8_fold_0 rfl rfl) ?_
  refine E.st (s_aload_n (q := 2) dX8_fold_1 rfl rfl) ?_
  refine E.st (s_iload_n (q := 3) dX8_fold_2 rfl rfl) ?_
  refine E.st (p2 := 6) (l2 := [(0, .ref 65), (1, .int a), (2, .int b)]) (s2 := [.int 1, .ref 65]) (h2 := h) (s_invv (K := mX8_isNode) (o := 65) (as := [.int b]) (rest := [.ref 65]) (v := some (.int 1)) dX8_fold_3 rfl lX8_108 (by omega) rfl (Nat.le_of_ble_eq_true rfl) rfl (Nat.le_of_ble_eq_true rfl) (ho) (q_X8_isNode_y (d := 0) (Nat.le_refl _) h 65 b F ho v1 e1 c) (fun h => nomatch h)) ?_
  refine E.st (s_if_eq_f (q := 9) (tg := 18) dX8_fold_6 (by decide) rfl (by decide)) ?_
  refine E.st (s_iload_n (q := 10) dX8_fold_9 rfl rfl) ?_
  refine E.st (s_if_lt_f (q := 13) (tg := 18) dX8_fold_10 (by decide) rfl c1) ?_
  refine E.st (s_iload_n (q := 14) dX8_fold_13 rfl rfl) ?_
  refine E.st (s_iconst (q := 15) (v := 2) dX8_fold_14 rfl (by decide)) ?_
  refine E.st (s_icmp_le_t (q := 22) dX8_fold_15 (by decide) c2) ?_
  refine E.st (s_iconst (q := 23) (v := 0) dX8_fold_22 rfl (by decide)) ?_
  refine E.st (p2 := 26) (l2 := [(0, .ref 65), (1, .int a), (2, .int b)]) (s2 := [.int (0 : Int32)]) (h2 := (hs h 65 (ob 8 (fo 53 (va_up F 0 (.int 0)))))) (s_invv (K := mX8_refused) (o := 65) (as := [.int 0]) (rest := []) (v := some (.int (0 : Int32))) dX8_fold_23 rfl lX8_112 (by omega) rfl (Nat.le_of_ble_eq_true rfl) rfl (Nat.le_of_ble_eq_true rfl) (ho) (p_X8_refused_1 (d := 0) (Nat.le_refl _) h 65 (0 : Int32) (by decide) F ho rfl) (fun h => nomatch h)) ?_
  refine E.st (s_if_eq_t (q := 33) dX8_fold_26 (by decide) (by decide)) ?_
  refine E.st (s_aload_n (q := 34) dX8_fold_33 rfl rfl) ?_
  refine E.st (s_bipush (q := 36) (v := 9) dX8_fold_34 rfl (by decide)) ?_
  refine E.st (s_lconst (q := 37) (v := 0) dX8_fold_36 rfl (by decide)) ?_
  refine E.st (s_iload_n (q := 38) dX8_fold_37 rfl rfl) ?_
  refine E.st (s_iload_n (q := 39) dX8_fold_38 rfl rfl) ?_
  refine E.st (s_iconst (q := 40) (v := (-1)) dX8_fold_39 rfl (by decide)) ?_
  refine E.st (p2 := 43) (l2 := [(0, .ref 65), (1, .int a), (2, .int b)]) (s2 := [.int ((v1 + 1) - 1)]) (h2 := (hs (hs (hs (hs (hs (hs (hs h 65 (ob 8 (fo 53 (va_up F 0 (.int 0))))) 66 (ia n (upd f v1.toNatClampNeg (9 : Int32)))) 67 (la n1 (vp_updL f1 v1.toNatClampNeg (0 : Int64)))) 68 (ia n2 (upd f2 v1.toNatClampNeg b))) 69 (ia n3 (upd f3 v1.toNatClampNeg a))) 70 (ia n4 (upd f4 v1.toNatClampNeg (-1 : Int32)))) 65 (ob 8 (fo 53 (va_up (va_up F 0 (.int 0)) 1 (.int (v1 + 1))))))) (s_invv (K := mX8_make) (o := 65) (as := [.int 9, .long 0, .int b, .int a, .int (-1)]) (rest := []) (v := some (.int ((v1 + 1) - 1))) dX8_fold_40 rfl lX8_104 (by omega) rfl (Nat.le_of_ble_eq_true rfl) rfl (Nat.le_of_ble_eq_true rfl) (hs_eq) (p_X8_make_1 (d := 0) (Nat.le_refl _) (hs h 65 (ob 8 (fo 53 (va_up F 0 (.int 0))))) 65 (9 : Int32) (0 : Int64) b a (-1 : Int32) (va_up F 0 (.int 0)) hs_eq v1 ((up_ne (by decide)).trans (e1)) c3 66 ((up_ne (by decide)).trans (e2)) n f ((hs_ne (by decide)).trans (ha)) c4 (by decide) 67 ((up_ne (by decide)).trans (e3)) n1 f1 ((hs_ne (by decide)).trans (ha1)) c5 68 ((up_ne (by decide)).trans (e4)) n2 f2 ((hs_ne (by decide)).trans (ha2)) (by decide) c6 (by decide) 69 ((up_ne (by decide)).trans (e5)) n3 f3 ((hs_ne (by decide)).trans (ha3)) (by decide) (by decide) c7 (by decide) 70 ((up_ne (by decide)).trans (e6)) n4 f4 ((hs_ne (by decide)).trans (ha4)) (by decide) (by decide) (by decide) c8 (by decide)) (fun h => nomatch h)) ?_
  exact E.i dX8_fold_43 rfl rfl rfl rfl

set_option maxRecDepth 20000 in
theorem j_X8_fold_a_4 {d : Nat} (hd : 1 ≤ d) (h : AH) (a : Int32) (b : Int32) (x : Nat) (y : Nat) (F : Nat → Value) (ho : h.1 65 = ob 8 (fo 53 F)) (v1 : Int32) (e1 : F 1 = .int v1) (c : ¬ (b < 0) ∧ ¬ (v1 ≤ b)) (c1 : ¬ (a < 0)) (c2 : a ≤ 2) (c3 : v1 = 60) : E false mX8_fold d 0 [(0, .ref 65), (1, .int a), (2, .int b)] [] h (some (.int (-1))) (hs h 65 (ob 8 (fo 53 (va_up F 0 (.int 0))))) := by
  refine E.st (s_aload_n (q := 1) dX8_fold_0 rfl rfl) ?_
  refine E.st (s_aload_n (q := 2) dX8_fold_1 rfl rfl) ?_
  refine E.st (s_iload_n (q := 3) dX8_fold_2 rfl rfl) ?_
  refine E.st (p2 := 6) (l2 := [(0, .ref 65), (1, .int a), (2, .int b)]) (s2 := [.int 1, .ref 65]) (h2 := h) (s_invv (K := mX8_isNode) (o := 65) (as := [.int b]) (rest := [.ref 65]) (v := some (.int 1)) dX8_fold_3 rfl lX8_108 (by omega) rfl (Nat.le_of_ble_eq_true rfl) rfl (Nat.le_of_ble_eq_true rfl) (ho) (q_X8_isNode_y (d := 0) (Nat.le_refl _) h 65 b F ho v1 e1 c) (fun h => nomatch h)) ?_
  refine E.st (s_if_eq_f (q := 9) (tg := 18) dX8_fold_6 (by decide) rfl (by decide)) ?_
  refine E.st (s_iload_n (q := 10) dX8_fold_9 rfl rfl) ?_
  refine E.st (s_if_lt_f (q := 13) (tg := 18) dX8_fold_10 (by decide) rfl c1) ?_
  refine E.st (s_iload_n (q := 14) dX8_fold_13 rfl rfl) ?_
  refine E.st (s_iconst (q := 15) (v := 2) dX8_fold_14 rfl (by decide)) ?_
  refine E.st (s_icmp_le_t (q := 22) dX8_fold_15 (by decide) c2) ?_
  refine E.st (s_iconst (q := 23) (v := 0) dX8_fold_22 rfl (by decide)) ?_
  refine E.st (p2 := 26) (l2 := [(0, .ref 65), (1, .int a), (2, .int b)]) (s2 := [.int (0 : Int32)]) (h2 := (hs h 65 (ob 8 (fo 53 (va_up F 0 (.int 0)))))) (s_invv (K := mX8_refused) (o := 65) (as := [.int 0]) (rest := []) (v := some (.int (0 : Int32))) dX8_fold_23 rfl lX8_112 (by omega) rfl (Nat.le_of_ble_eq_true rfl) rfl (Nat.le_of_ble_eq_true rfl) (ho) (p_X8_refused_1 (d := 0) (Nat.le_refl _) h 65 (0 : Int32) (by decide) F ho rfl) (fun h => nomatch h)) ?_
  refine E.st (s_if_eq_t (q := 33) dX8_fold_26 (by decide) (by decide)) ?_
  refine E.st (s_aload_n (q := 34) dX8_fold_33 rfl rfl) ?_
  refine E.st (s_bipush (q := 36) (v := 9) dX8_fold_34 rfl (by decide)) ?_
  refine E.st (s_lconst (q := 37) (v := 0) dX8_fold_36 rfl (by decide)) ?_
  refine E.st (s_iload_n (q := 38) dX8_fold_37 rfl rfl) ?_
  refine E.st (s_iload_n (q := 39) dX8_fold_38 rfl rfl) ?_
  refine E.st (s_iconst (q := 40) (v := (-1)) dX8_fold_39 rfl (by decide)) ?_
  refine E.st (p2 := 43) (l2 := [(0, .ref 65), (1, .int a), (2, .int b)]) (s2 := [.int (-1)]) (h2 := (hs h 65 (ob 8 (fo 53 (va_up F 0 (.int 0)))))) (s_invv (K := mX8_make) (o := 65) (as := [.int 9, .long 0, .int b, .int a, .int (-1)]) (rest := []) (v := some (.int (-1))) dX8_fold_40 rfl lX8_104 (by omega) rfl (Nat.le_of_ble_eq_true rfl) rfl (Nat.le_of_ble_eq_true rfl) (hs_eq) (p_X8_make_2 (d := 0) (Nat.le_refl _) (hs h 65 (ob 8 (fo 53 (va_up F 0 (.int 0))))) 65 (9 : Int32) (0 : Int64) b a (-1 : Int32) (va_up F 0 (.int 0)) hs_eq v1 ((up_ne (by decide)).trans (e1)) c3) (fun h => nomatch h)) ?_
  exact E.i dX8_fold_43 rfl rfl rfl rfl

set_option maxRecDepth 20000 in
theorem j_X8_fold_a_5 {d : Nat} (hd : 1 ≤ d) (h : AH) (a : Int32) (b : Int32) (x : Nat) (y : Nat) (F : Nat → Value) (ho : h.1 65 = ob 8 (fo 53 F)) (v1 : Int32) (e1 : F 1 = .int v1) (c : ¬ (b < 0) ∧ ¬ (v1 ≤ b)) (c1 : ¬ (a < 0)) (c2 : ¬ (a ≤ 2)) : E false mX8_fold d 0 [(0, .ref 65), (1, .int a), (2, .int b)] [] h (some (.int 0)) (hs h 65 (ob 8 (fo 53 (va_up F 0 (.int 1))))) := by
  refine E.st (s_aload_n (q := 1) dX8_fold_0 rfl rfl) ?_
  refine E.st (s_aload_n (q := 2) dX8_fold_1 rfl rfl) ?_
  refine E.st (s_iload_n (q := 3) dX8_fold_2 rfl rfl) ?_
  refine E.st (p2 := 6) (l2 := [(0, .ref 65), (1, .int a), (2, .int b)]) (s2 := [.int 1, .ref 65]) (h2 := h) (s_invv (K := mX8_isNode) (o := 65) (as := [.int b]) (rest := [.ref 65]) (v := some (.int 1)) dX8_fold_3 rfl lX8_108 (by omega) rfl (Nat.le_of_ble_eq_true rfl) rfl (Nat.le_of_ble_eq_true rfl) (ho) (q_X8_isNode_y (d := 0) (Nat.le_refl _) h 65 b F ho v1 e1 c) (fun h => nomatch h)) ?_
  refine E.st (s_if_eq_f (q := 9) (tg := 18) dX8_fold_6 (by decide) rfl (by decide)) ?_
  refine E.st (s_iload_n (q := 10) dX8_fold_9 rfl rfl) ?_
  refine E.st (s_if_lt_f (q := 13) (tg := 18) dX8_fold_10 (by decide) rfl c1) ?_
  refine E.st (s_iload_n (q := 14) dX8_fold_13 rfl rfl) ?_
  refine E.st (s_iconst (q := 15) (v := 2) dX8_fold_14 rfl (by decide)) ?_
  refine E.st (s_icmp_le_f (q := 18) (tg := 22) dX8_fold_15 (by decide) rfl c2) ?_
  refine E.st (s_iconst (q := 19) (v := 1) dX8_fold_18 rfl (by decide)) ?_
  refine E.st (s_goto (q := 23) dX8_fold_19 (by decide)) ?_
  refine E.st (p2 := 26) (l2 := [(0, .ref 65), (1, .int a), (2, .int b)]) (s2 := [.int (1 : Int32)]) (h2 := (hs h 65 (ob 8 (fo 53 (va_up F 0 (.int 1)))))) (s_invv (K := mX8_refused) (o := 65) (as := [.int 1]) (rest := []) (v := some (.int (1 : Int32))) dX8_fold_23 rfl lX8_112 (by omega) rfl (Nat.le_of_ble_eq_true rfl) rfl (Nat.le_of_ble_eq_true rfl) (ho) (p_X8_refused_2 (d := 0) (Nat.le_refl _) h 65 (1 : Int32) (by decide) F ho rfl) (fun h => nomatch h)) ?_
  refine E.st (s_if_eq_f (q := 29) (tg := 33) dX8_fold_26 (by decide) rfl (by decide)) ?_
  refine E.st (s_iconst (q := 30) (v := 0) dX8_fold_29 rfl (by decide)) ?_
  refine E.st (s_goto (q := 43) dX8_fold_30 (by decide)) ?_
  exact E.i dX8_fold_43 rfl rfl rfl rfl

set_option maxRecDepth 20000 in
theorem j_X8_node_a_1 {d : Nat} (hd : 1 ≤ d) (h : AH) (a : Int32) (b : Int32) (x : Nat) (y : Nat) (F : Nat → Value) (ho : h.1 65 = ob 8 (fo 53 F)) (v1 : Int32) (e1 : F 1 = .int v1) (c : a < 0 ∨ v1 ≤ a) : E false mX8_node d 0 [(0, .ref 65), (1, .int a), (2, .int b)] [] h (some (.int 0)) (hs h 65 (ob 8 (fo 53 (va_up F 0 (.int 1))))) := by
  refine E.st (s_aload_n (q := 1) dX8_node_0 rfl rfl) ?_
  refine E.st (s_aload_n (q := 2) dX8_node_1 rfl rfl) ?_
  refine E.st (s_iload_n (q := 3) dX8_node_2 rfl rfl) ?_
  refine E.st (p2 := 6) (l2 := [(0, .ref 65), (1, .int a), (2, .int b)]) (s2 := [.int 0, .ref 65]) (h2 := h) (s_invv (K := mX8_isNode) (o := 65) (as := [.int a]) (rest := [.ref 65]) (v := some (.int 0)) dX8_node_3 rfl lX8_108 (by omega) rfl (Nat.le_of_ble_eq_true rfl) rfl (Nat.le_of_ble_eq_true rfl) (ho) (q_X8_isNode_n (d := 0) (Nat.le_refl _) h 65 a F ho v1 e1 c) (fun h => nomatch h)) ?_
  refine E.st (s_if_eq_t (q := 18) dX8_node_6 (by decide) (by decide)) ?_
  refine E.st (s_iconst (q := 19) (v := 1) dX8_node_18 rfl (by decide)) ?_
  refine E.st (s_goto (q := 23) dX8_node_19 (by decide)) ?_
  refine E.st (p2 := 26) (l2 := [(0, .ref 65), (1, .int a), (2, .int b)]) (s2 := [.int (1 : Int32)]) (h2 := (hs h 65 (ob 8 (fo 53 (va_up F 0 (.int 1)))))) (s_invv (K := mX8_refused) (o := 65) (as := [.int 1]) (rest := []) (v := some (.int (1 : Int32))) dX8_node_23 rfl lX8_112 (by omega) rfl (Nat.le_of_ble_eq_true rfl) rfl (Nat.le_of_ble_eq_true rfl) (ho) (p_X8_refused_2 (d := 0) (Nat.le_refl _) h 65 (1 : Int32) (by decide) F ho rfl) (fun h => nomatch h)) ?_
  refine E.st (s_if_eq_f (q := 29) (tg := 31) dX8_node_26 (by decide) rfl (by decide)) ?_
  refine E.st (s_iconst (q := 30) (v := 0) dX8_node_29 rfl (by decide)) ?_
  exact E.i dX8_node_30 rfl rfl rfl rfl

set_option maxRecDepth 20000 in
theorem j_X8_node_a_2 {d : Nat} (hd : 1 ≤ d) (h : AH) (a : Int32) (b : Int32) (x : Nat) (y : Nat) (F : Nat → Value) (ho : h.1 65 = ob 8 (fo 53 F)) (v1 : Int32) (e1 : F 1 = .int v1) (c : ¬ (a < 0) ∧ ¬ (v1 ≤ a)) (c1 : b < 0) : E false mX8_node d 0 [(0, .ref 65), (1, .int a), (2, .int b)] [] h (some (.int 0)) (hs h 65 (ob 8 (fo 53 (va_up F 0 (.int 1))))) := by
  refine E.st (s_aload_n (q := 1) dX8_node_0 rfl rfl) ?_
  refine E.st (s_aload_n (q := 2) dX8_node_1 rfl rfl) ?_
  refine E.st (s_iload_n (q := 3) dX8_node_2 rfl rfl) ?_
  refine E.st (p2 := 6) (l2 := [(0, .ref 65), (1, .int a), (2, .int b)]) (s2 := [.int 1, .ref 65]) (h2 := h) (s_invv (K := mX8_isNode) (o := 65) (as := [.int a]) (rest := [.ref 65]) (v := some (.int 1)) dX8_node_3 rfl lX8_108 (by omega) rfl (Nat.le_of_ble_eq_true rfl) rfl (Nat.le_of_ble_eq_true rfl) (ho) (q_X8_isNode_y (d := 0) (Nat.le_refl _) h 65 a F ho v1 e1 c) (fun h => nomatch h)) ?_
  refine E.st (s_if_eq_f (q := 9) (tg := 18) dX8_node_6 (by decide) rfl (by decide)) ?_
  refine E.st (s_iload_n (q := 10) dX8_node_9 rfl rfl) ?_
  refine E.st (s_if_lt_t (q := 18) dX8_node_10 (by decide) c1) ?_
  refine E.st (s_iconst (q := 19) (v := 1) dX8_node_18 rfl (by decide)) ?_
  refine E.st (s_goto (q := 23) dX8_node_19 (by decide)) ?_
  refine E.st (p2 := 26) (l2 := [(0, .ref 65), (1, .int a), (2, .int b)]) (s2 := [.int (1 : Int32)]) (h2 := (hs h 65 (ob 8 (fo 53 (va_up F 0 (.int 1)))))) (s_invv (K := mX8_refused) (o := 65) (as := [.int 1]) (rest := []) (v := some (.int (1 : Int32))) dX8_node_23 rfl lX8_112 (by omega) rfl (Nat.le_of_ble_eq_true rfl) rfl (Nat.le_of_ble_eq_true rfl) (ho) (p_X8_refused_2 (d := 0) (Nat.le_refl _) h 65 (1 : Int32) (by decide) F ho rfl) (fun h => nomatch h)) ?_
  refine E.st (s_if_eq_f (q := 29) (tg := 31) dX8_node_26 (by decide) rfl (by decide)) ?_
  refine E.st (s_iconst (q := 30) (v := 0) dX8_node_29 rfl (by decide)) ?_
  exact E.i dX8_node_30 rfl rfl rfl rfl

set_option maxRecDepth 20000 in
theorem j_X8_node_a_3 {d : Nat} (hd : 1 ≤ d) (h : AH) (a : Int32) (b : Int32) (x : Nat) (y : Nat) (F : Nat → Value) (ho : h.1 65 = ob 8 (fo 53 F)) (v1 : Int32) (e1 : F 1 = .int v1) (c : ¬ (a < 0) ∧ ¬ (v1 ≤ a)) (c1 : ¬ (b < 0)) (c2 : b ≤ 3) (c3 : ¬ b = 0) (c4 : ¬ b = 1) (c5 : ¬ b = 2) (e6 : F 6 = .ref 70) (n : Nat) (f : Nat → Int32) (ha : h.1 70 = ia n f) (i : vp_in a n) : E false mX8_node d 0 [(0, .ref 65), (1, .int a), (2, .int b)] [] h (some (.int (f a.toNatClampNeg))) (hs h 65 (ob 8 (fo 53 (va_up F 0 (.int 0))))) := by
  refine E.st (s_aload_n (q := 1) dX8_node_0 rfl rfl) ?_
  refine E.st (s_aload_n (q := 2) dX8_node_1 rfl rfl) ?_
  refine E.st (s_iload_n (q := 3) dX8_node_2 rfl rfl) ?_
  refine E.st (p2 := 6) (l2 := [(0, .ref 65), (1, .int a), (2, .int b)]) (s2 := [.int 1, .ref 65]) (h2 := h) (s_invv (K := mX8_isNode) (o := 65) (as := [.int a]) (rest := [.ref 65]) (v := some (.int 1)) dX8_node_3 rfl lX8_108 (by omega) rfl (Nat.le_of_ble_eq_true rfl) rfl (Nat.le_of_ble_eq_true rfl) (ho) (q_X8_isNode_y (d := 0) (Nat.le_refl _) h 65 a F ho v1 e1 c) (fun h => nomatch h)) ?_
  refine E.st (s_if_eq_f (q := 9) (tg := 18) dX8_node_6 (by decide) rfl (by decide)) ?_
  refine E.st (s_iload_n (q := 10) dX8_node_9 rfl rfl) ?_
  refine E.st (s_if_lt_f (q := 13) (tg := 18) dX8_node_10 (by decide) rfl c1) ?_
  refine E.st (s_iload_n (q := 14) dX8_node_13 rfl rfl) ?_
  refine E.st (s_iconst (q := 15) (v := 3) dX8_node_14 rfl (by decide)) ?_
  refine E.st (s_icmp_le_t (q := 22) dX8_node_15 (by decide) c2) ?_
  refine E.st (s_iconst (q := 23) (v := 0) dX8_node_22 rfl (by decide)) ?_
  refine E.st (p2 := 26) (l2 := [(0, .ref 65), (1, .int a), (2, .int b)]) (s2 := [.int (0 : Int32)]) (h2 := (hs h 65 (ob 8 (fo 53 (va_up F 0 (.int 0)))))) (s_invv (K := mX8_refused) (o := 65) (as := [.int 0]) (rest := []) (v := some (.int (0 : Int32))) dX8_node_23 rfl lX8_112 (by omega) rfl (Nat.le_of_ble_eq_true rfl) rfl (Nat.le_of_ble_eq_true rfl) (ho) (p_X8_refused_1 (d := 0) (Nat.le_refl _) h 65 (0 : Int32) (by decide) F ho rfl) (fun h => nomatch h)) ?_
  refine E.st (s_if_eq_t (q := 31) dX8_node_26 (by decide) (by decide)) ?_
  refine E.st (s_iload_n (q := 32) dX8_node_31 rfl rfl) ?_
  refine E.st (s_if_ne_t (q := 44) dX8_node_32 (by decide) c3) ?_
  refine E.st (s_iload_n (q := 45) dX8_node_44 rfl rfl) ?_
  refine E.st (s_iconst (q := 46) (v := 1) dX8_node_45 rfl (by decide)) ?_
  refine E.st (s_icmp_ne_t (q := 58) dX8_node_46 (by decide) c4) ?_
  refine E.st (s_iload_n (q := 59) dX8_node_58 rfl rfl) ?_
  refine E.st (s_iconst (q := 60) (v := 2) dX8_node_59 rfl (by decide)) ?_
  refine E.st (s_icmp_ne_t (q := 72) dX8_node_60 (by decide) c5) ?_
  refine E.st (s_aload_n (q := 73) dX8_node_72 rfl rfl) ?_
  refine E.st (s_gf (q := 76) (v := .ref 70) dX8_node_73 rfl fX8_23.l (hs_eq) (by decide) ((up_ne (by decide)).trans (e6))) ?_
  refine E.st (s_iload_n (q := 77) dX8_node_76 rfl rfl) ?_
  refine E.st (s_iald (q := 78) dX8_node_77 rfl (by decide) ((hs_ne (by decide)).trans (ha)) i) ?_
  exact E.i dX8_node_78 rfl rfl rfl rfl

set_option maxRecDepth 20000 in
theorem j_X8_node_a_4 {d : Nat} (hd : 1 ≤ d) (h : AH) (a : Int32) (b : Int32) (x : Nat) (y : Nat) (F : Nat → Value) (ho : h.1 65 = ob 8 (fo 53 F)) (v1 : Int32) (e1 : F 1 = .int v1) (c : ¬ (a < 0) ∧ ¬ (v1 ≤ a)) (c1 : ¬ (b < 0)) (c2 : b ≤ 3) (c3 : ¬ b = 0) (c4 : ¬ b = 1) (c5 : b = 2) (e5 : F 5 = .ref 69) (n : Nat) (f : Nat → Int32) (ha : h.1 69 = ia n f) (i : vp_in a n) : E false mX8_node d 0 [(0, .ref 65), (1, .int a), (2, .int b)] [] h (some (.int (f a.toNatClampNeg))) (hs h 65 (ob 8 (fo 53 (va_up F 0 (.int 0))))) := by
  refine E.st (s_aload_n (q := 1) dX8_node_0 rfl rfl) ?_
  refine E.st (s_aload_n (q := 2) dX8_node_1 rfl rfl) ?_
  refine E.st (s_iload_n (q := 3) dX8_node_2 rfl rfl) ?_
  refine E.st (p2 := 6) (l2 := [(0, .ref 65), (1, .int a), (2, .int b)]) (s2 := [.int 1, .ref 65]) (h2 := h) (s_invv (K := mX8_isNode) (o := 65) (as := [.int a]) (rest := [.ref 65]) (v := some (.int 1)) dX8_node_3 rfl lX8_108 (by omega) rfl (Nat.le_of_ble_eq_true rfl) rfl (Nat.le_of_ble_eq_true rfl) (ho) (q_X8_isNode_y (d := 0) (Nat.le_refl _) h 65 a F ho v1 e1 c) (fun h => nomatch h)) ?_
  refine E.st (s_if_eq_f (q := 9) (tg := 18) dX8_node_6 (by decide) rfl (by decide)) ?_
  refine E.st (s_iload_n (q := 10) dX8_node_9 rfl rfl) ?_
  refine E.st (s_if_lt_f (q := 13) (tg := 18) dX8_node_10 (by decide) rfl c1) ?_
  refine E.st (s_iload_n (q := 14) dX8_node_13 rfl rfl) ?_
  refine E.st (s_iconst (q := 15) (v := 3) dX8_node_14 rfl (by decide)) ?_
  refine E.st (s_icmp_le_t (q := 22) dX8_node_15 (by decide) c2) ?_
  refine E.st (s_iconst (q := 23) (v := 0) dX8_node_22 rfl (by decide)) ?_
  refine E.st (p2 := 26) (l2 := [(0, .ref 65), (1, .int a), (2, .int b)]) (s2 := [.int (0 : Int32)]) (h2 := (hs h 65 (ob 8 (fo 53 (va_up F 0 (.int 0)))))) (s_invv (K := mX8_refused) (o := 65) (as := [.int 0]) (rest := []) (v := some (.int (0 : Int32))) dX8_node_23 rfl lX8_112 (by omega) rfl (Nat.le_of_ble_eq_true rfl) rfl (Nat.le_of_ble_eq_true rfl) (ho) (p_X8_refused_1 (d := 0) (Nat.le_refl _) h 65 (0 : Int32) (by decide) F ho rfl) (fun h => nomatch h)) ?_
  refine E.st (s_if_eq_t (q := 31) dX8_node_26 (by decide) (by decide)) ?_
  refine E.st (s_iload_n (q := 32) dX8_node_31 rfl rfl) ?_
  refine E.st (s_if_ne_t (q := 44) dX8_node_32 (by decide) c3) ?_
  refine E.st (s_iload_n (q := 45) dX8_node_44 rfl rfl) ?_
  refine E.st (s_iconst (q := 46) (v := 1) dX8_node_45 rfl (by decide)) ?_
  refine E.st (s_icmp_ne_t (q := 58) dX8_node_46 (by decide) c4) ?_
  refine E.st (s_iload_n (q := 59) dX8_node_58 rfl rfl) ?_
  refine E.st (s_iconst (q := 60) (v := 2) dX8_node_59 rfl (by decide)) ?_
  refine E.st (s_icmp_ne_f (q := 63) (tg := 72) dX8_node_60 (by decide) rfl c5) ?_
  refine E.st (s_aload_n (q := 64) dX8_node_63 rfl rfl) ?_
  refine E.st (s_gf (q := 67) (v := .ref 69) dX8_node_64 rfl fX8_20.l (hs_eq) (by decide) ((up_ne (by decide)).trans (e5))) ?_
  refine E.st (s_iload_n (q := 68) dX8_node_67 rfl rfl) ?_
  refine E.st (s_iald (q := 69) dX8_node_68 rfl (by decide) ((hs_ne (by decide)).trans (ha)) i) ?_
  refine E.st (s_goto (q := 78) dX8_node_69 (by decide)) ?_
  exact E.i dX8_node_78 rfl rfl rfl rfl

set_option maxRecDepth 20000 in
theorem j_X8_node_a_5 {d : Nat} (hd : 1 ≤ d) (h : AH) (a : Int32) (b : Int32) (x : Nat) (y : Nat) (F : Nat → Value) (ho : h.1 65 = ob 8 (fo 53 F)) (v1 : Int32) (e1 : F 1 = .int v1) (c : ¬ (a < 0) ∧ ¬ (v1 ≤ a)) (c1 : ¬ (b < 0)) (c2 : b ≤ 3) (c3 : ¬ b = 0) (c4 : b = 1) (e4 : F 4 = .ref 68) (n : Nat) (f : Nat → Int32) (ha : h.1 68 = ia n f) (i : vp_in a n) : E false mX8_node d 0 [(0, .ref 65), (1, .int a), (2, .int b)] [] h (some (.int (f a.toNatClampNeg))) (hs h 65 (ob 8 (fo 53 (va_up F 0 (.int 0))))) := by
  refine E.st (s_aload_n (q := 1) dX8_node_0 rfl rfl) ?_
  refine E.st (s_aload_n (q := 2) dX8_node_1 rfl rfl) ?_
  refine E.st (s_iload_n (q := 3) dX8_node_2 rfl rfl) ?_
  refine E.st (p2 := 6) (l2 := [(0, .ref 65), (1, .int a), (2, .int b)]) (s2 := [.int 1, .ref 65]) (h2 := h) (s_invv (K := mX8_isNode) (o := 65) (as := [.int a]) (rest := [.ref 65]) (v := some (.int 1)) dX8_node_3 rfl lX8_108 (by omega) rfl (Nat.le_of_ble_eq_true rfl) rfl (Nat.le_of_ble_eq_true rfl) (ho) (q_X8_isNode_y (d := 0) (Nat.le_refl _) h 65 a F ho v1 e1 c) (fun h => nomatch h)) ?_
  refine E.st (s_if_eq_f (q := 9) (tg := 18) dX8_node_6 (by decide) rfl (by decide)) ?_
  refine E.st (s_iload_n (q := 10) dX8_node_9 rfl rfl) ?_
  refine E.st (s_if_lt_f (q := 13) (tg := 18) dX8_node_10 (by decide) rfl c1) ?_
  refine E.st (s_iload_n (q := 14) dX8_node_13 rfl rfl) ?_
  refine E.st (s_iconst (q := 15) (v := 3) dX8_node_14 rfl (by decide)) ?_
  refine E.st (s_icmp_le_t (q := 22) dX8_node_15 (by decide) c2) ?_
  refine E.st (s_iconst (q := 23) (v := 0) dX8_node_22 rfl (by decide)) ?_
  refine E.st (p2 := 26) (l2 := [(0, .ref 65), (1, .int a), (2, .int b)]) (s2 := [.int (0 : Int32)]) (h2 := (hs h 65 (ob 8 (fo 53 (va_up F 0 (.int 0)))))) (s_invv (K := mX8_refused) (o := 65) (as := [.int 0]) (rest := []) (v := some (.int (0 : Int32))) dX8_node_23 rfl lX8_112 (by omega) rfl (Nat.le_of_ble_eq_true rfl) rfl (Nat.le_of_ble_eq_true rfl) (ho) (p_X8_refused_1 (d := 0) (Nat.le_refl _) h 65 (0 : Int32) (by decide) F ho rfl) (fun h => nomatch h)) ?_
  refine E.st (s_if_eq_t (q := 31) dX8_node_26 (by decide) (by decide)) ?_
  refine E.st (s_iload_n (q := 32) dX8_node_31 rfl rfl) ?_
  refine E.st (s_if_ne_t (q := 44) dX8_node_32 (by decide) c3) ?_
  refine E.st (s_iload_n (q := 45) dX8_node_44 rfl rfl) ?_
  refine E.st (s_iconst (q := 46) (v := 1) dX8_node_45 rfl (by decide)) ?_
  refine E.st (s_icmp_ne_f (q := 49) (tg := 58) dX8_node_46 (by decide) rfl c4) ?_
  refine E.st (s_aload_n (q := 50) dX8_node_49 rfl rfl) ?_
  refine E.st (s_gf (q := 53) (v := .ref 68) dX8_node_50 rfl fX8_17.l (hs_eq) (by decide) ((up_ne (by decide)).trans (e4))) ?_
  refine E.st (s_iload_n (q := 54) dX8_node_53 rfl rfl) ?_
  refine E.st (s_iald (q := 55) dX8_node_54 rfl (by decide) ((hs_ne (by decide)).trans (ha)) i) ?_
  refine E.st (s_goto (q := 78) dX8_node_55 (by decide)) ?_
  exact E.i dX8_node_78 rfl rfl rfl rfl

set_option maxRecDepth 20000 in
theorem j_X8_node_a_6 {d : Nat} (hd : 1 ≤ d) (h : AH) (a : Int32) (b : Int32) (x : Nat) (y : Nat) (F : Nat → Value) (ho : h.1 65 = ob 8 (fo 53 F)) (v1 : Int32) (e1 : F 1 = .int v1) (c : ¬ (a < 0) ∧ ¬ (v1 ≤ a)) (c1 : ¬ (b < 0)) (c2 : b ≤ 3) (c3 : b = 0) (e2 : F 2 = .ref 66) (n : Nat) (f : Nat → Int32) (ha : h.1 66 = ia n f) (i : vp_in a n) : E false mX8_node d 0 [(0, .ref 65), (1, .int a), (2, .int b)] [] h (some (.int (f a.toNatClampNeg))) (hs h 65 (ob 8 (fo 53 (va_up F 0 (.int 0))))) := by
  refine E.st (s_aload_n (q := 1) dX8_node_0 rfl rfl) ?_
  refine E.st (s_aload_n (q := 2) dX8_node_1 rfl rfl) ?_
  refine E.st (s_iload_n (q := 3) dX8_node_2 rfl rfl) ?_
  refine E.st (p2 := 6) (l2 := [(0, .ref 65), (1, .int a), (2, .int b)]) (s2 := [.int 1, .ref 65]) (h2 := h) (s_invv (K := mX8_isNode) (o := 65) (as := [.int a]) (rest := [.ref 65]) (v := some (.int 1)) dX8_node_3 rfl lX8_108 (by omega) rfl (Nat.le_of_ble_eq_true rfl) rfl (Nat.le_of_ble_eq_true rfl) (ho) (q_X8_isNode_y (d := 0) (Nat.le_refl _) h 65 a F ho v1 e1 c) (fun h => nomatch h)) ?_
  refine E.st (s_if_eq_f (q := 9) (tg := 18) dX8_node_6 (by decide) rfl (by decide)) ?_
  refine E.st (s_iload_n (q := 10) dX8_node_9 rfl rfl) ?_
  refine E.st (s_if_lt_f (q := 13) (tg := 18) dX8_node_10 (by decide) rfl c1) ?_
  refine E.st (s_iload_n (q := 14) dX8_node_13 rfl rfl) ?_
  refine E.st (s_iconst (q := 15) (v := 3) dX8_node_14 rfl (by decide)) ?_
  refine E.st (s_icmp_le_t (q := 22) dX8_node_15 (by decide) c2) ?_
  refine E.st (s_iconst (q := 23) (v := 0) dX8_node_22 rfl (by decide)) ?_
  refine E.st (p2 := 26) (l2 := [(0, .ref 65), (1, .int a), (2, .int b)]) (s2 := [.int (0 : Int32)]) (h2 := (hs h 65 (ob 8 (fo 53 (va_up F 0 (.int 0)))))) (s_invv (K := mX8_refused) (o := 65) (as := [.int 0]) (rest := []) (v := some (.int (0 : Int32))) dX8_node_23 rfl lX8_112 (by omega) rfl (Nat.le_of_ble_eq_true rfl) rfl (Nat.le_of_ble_eq_true rfl) (ho) (p_X8_refused_1 (d := 0) (Nat.le_refl _) h 65 (0 : Int32) (by decide) F ho rfl) (fun h => nomatch h)) ?_
  refine E.st (s_if_eq_t (q := 31) dX8_node_26 (by decide) (by decide)) ?_
  refine E.st (s_iload_n (q := 32) dX8_node_31 rfl rfl) ?_
  refine E.st (s_if_ne_f (q := 35) (tg := 44) dX8_node_32 (by decide) rfl c3) ?_
  refine E.st (s_aload_n (q := 36) dX8_node_35 rfl rfl) ?_
  refine E.st (s_gf (q := 39) (v := .ref 66) dX8_node_36 rfl fX8_9.l (hs_eq) (by decide) ((up_ne (by decide)).trans (e2))) ?_
  refine E.st (s_iload_n (q := 40) dX8_node_39 rfl rfl) ?_
  refine E.st (s_iald (q := 41) dX8_node_40 rfl (by decide) ((hs_ne (by decide)).trans (ha)) i) ?_
  refine E.st (s_goto (q := 78) dX8_node_41 (by decide)) ?_
  exact E.i dX8_node_78 rfl rfl rfl rfl

set_option maxRecDepth 20000 in
theorem j_X8_node_a_7 {d : Nat} (hd : 1 ≤ d) (h : AH) (a : Int32) (b : Int32) (x : Nat) (y : Nat) (F : Nat → Value) (ho : h.1 65 = ob 8 (fo 53 F)) (v1 : Int32) (e1 : F 1 = .int v1) (c : ¬ (a < 0) ∧ ¬ (v1 ≤ a)) (c1 : ¬ (b < 0)) (c2 : ¬ (b ≤ 3)) : E false mX8_node d 0 [(0, .ref 65), (1, .int a), (2, .int b)] [] h (some (.int 0)) (hs h 65 (ob 8 (fo 53 (va_up F 0 (.int 1))))) := by
  refine E.st (s_aload_n (q := 1) dX8_node_0 rfl rfl) ?_
  refine E.st (s_aload_n (q := 2) dX8_node_1 rfl rfl) ?_
  refine E.st (s_iload_n (q := 3) dX8_node_2 rfl rfl) ?_
  refine E.st (p2 := 6) (l2 := [(0, .ref 65), (1, .int a), (2, .int b)]) (s2 := [.int 1, .ref 65]) (h2 := h) (s_invv (K := mX8_isNode) (o := 65) (as := [.int a]) (rest := [.ref 65]) (v := some (.int 1)) dX8_node_3 rfl lX8_108 (by omega) rfl (Nat.le_of_ble_eq_true rfl) rfl (Nat.le_of_ble_eq_true rfl) (ho) (q_X8_isNode_y (d := 0) (Nat.le_refl _) h 65 a F ho v1 e1 c) (fun h => nomatch h)) ?_
  refine E.st (s_if_eq_f (q := 9) (tg := 18) dX8_node_6 (by decide) rfl (by decide)) ?_
  refine E.st (s_iload_n (q := 10) dX8_node_9 rfl rfl) ?_
  refine E.st (s_if_lt_f (q := 13) (tg := 18) dX8_node_10 (by decide) rfl c1) ?_
  refine E.st (s_iload_n (q := 14) dX8_node_13 rfl rfl) ?_
  refine E.st (s_iconst (q := 15) (v := 3) dX8_node_14 rfl (by decide)) ?_
  refine E.st (s_icmp_le_f (q := 18) (tg := 22) dX8_node_15 (by decide) rfl c2) ?_
  refine E.st (s_iconst (q := 19) (v := 1) dX8_node_18 rfl (by decide)) ?_
  refine E.st (s_goto (q := 23) dX8_node_19 (by decide)) ?_
  refine E.st (p2 := 26) (l2 := [(0, .ref 65), (1, .int a), (2, .int b)]) (s2 := [.int (1 : Int32)]) (h2 := (hs h 65 (ob 8 (fo 53 (va_up F 0 (.int 1)))))) (s_invv (K := mX8_refused) (o := 65) (as := [.int 1]) (rest := []) (v := some (.int (1 : Int32))) dX8_node_23 rfl lX8_112 (by omega) rfl (Nat.le_of_ble_eq_true rfl) rfl (Nat.le_of_ble_eq_true rfl) (ho) (p_X8_refused_2 (d := 0) (Nat.le_refl _) h 65 (1 : Int32) (by decide) F ho rfl) (fun h => nomatch h)) ?_
  refine E.st (s_if_eq_f (q := 29) (tg := 31) dX8_node_26 (by decide) rfl (by decide)) ?_
  refine E.st (s_iconst (q := 30) (v := 0) dX8_node_29 rfl (by decide)) ?_
  exact E.i dX8_node_30 rfl rfl rfl rfl

set_option maxRecDepth 20000 in
theorem j_X8_ask_a_1 {d : Nat} (hd : 1 ≤ d) (h : AH) (a : Int32) (b : Int32) (c : Int32) (x : Nat) (y : Nat) (F : Nat → Value) (ho : h.1 65 = ob 8 (fo 53 F)) (v1 : Int32) (e1 : F 1 = .int v1) (c1 : a < 0 ∨ v1 ≤ a) : E false mX8_ask d 0 [(0, .ref 65), (1, .int a), (2, .int b), (3, .int c)] [] h (none) (hs h 65 (ob 8 (fo 53 (va_up F 0 (.int 1))))) := by
  refine E.st (s_aload_n (q := 1) dX8_ask_0 rfl rfl) ?_
  refine E.st (s_aload_n (q := 2) dX8_ask_1 rfl rfl) ?_
  refine E.st (s_iload_n (q := 3) dX8_ask_2 rfl rfl) ?_
  refine E.st (p2 := 6) (l2 := [(0, .ref 65), (1, .int a), (2, .int b), (3, .int c)]) (s2 := [.int 0, .ref 65]) (h2 := h) (s_invv (K := mX8_isNode) (o := 65) (as := [.int a]) (rest := [.ref 65]) (v := some (.int 0)) dX8_ask_3 rfl lX8_108 (by omega) rfl (Nat.le_of_ble_eq_true rfl) rfl (Nat.le_of_ble_eq_true rfl) (ho) (q_X8_isNode_n (d := 0) (Nat.le_refl _) h 65 a F ho v1 e1 c1) (fun h => nomatch h)) ?_
  refine E.st (s_if_eq_t (q := 29) dX8_ask_6 (by decide) (by decide)) ?_
  refine E.st (s_iconst (q := 30) (v := 1) dX8_ask_29 rfl (by decide)) ?_
  refine E.st (s_goto (q := 34) dX8_ask_30 (by decide)) ?_
  refine E.st (p2 := 37) (l2 := [(0, .ref 65), (1, .int a), (2, .int b), (3, .int c)]) (s2 := [.int (1 : Int32)]) (h2 := (hs h 65 (ob 8 (fo 53 (va_up F 0 (.int 1)))))) (s_invv (K := mX8_refused) (o := 65) (as := [.int 1]) (rest := []) (v := some (.int (1 : Int32))) dX8_ask_34 rfl lX8_112 (by omega) rfl (Nat.le_of_ble_eq_true rfl) rfl (Nat.le_of_ble_eq_true rfl) (ho) (p_X8_refused_2 (d := 0) (Nat.le_refl _) h 65 (1 : Int32) (by decide) F ho rfl) (fun h => nomatch h)) ?_
  refine E.st (s_if_eq_f (q := 40) (tg := 41) dX8_ask_37 (by decide) rfl (by decide)) ?_
  exact E.v dX8_ask_40 rfl rfl rfl

set_option maxRecDepth 20000 in
theorem j_X8_ask_a_2 {d : Nat} (hd : 1 ≤ d) (h : AH) (a : Int32) (b : Int32) (c : Int32) (x : Nat) (y : Nat) (F : Nat → Value) (ho : h.1 65 = ob 8 (fo 53 F)) (v1 : Int32) (e1 : F 1 = .int v1) (c1 : ¬ (a < 0) ∧ ¬ (v1 ≤ a)) (c2 : b < 0) : E false mX8_ask d 0 [(0, .ref 65), (1, .int a), (2, .int b), (3, .int c)] [] h (none) (hs h 65 (ob 8 (fo 53 (va_up F 0 (.int 1))))) := by
  refine E.st (s_aload_n (q := 1) dX8_ask_0 rfl rfl) ?_
  refine E.st (s_aload_n (q := 2) dX8_ask_1 rfl rfl) ?_
  refine E.st (s_iload_n (q := 3) dX8_ask_2 rfl rfl) ?_
  refine E.st (p2 := 6) (l2 := [(0, .ref 65), (1, .int a), (2, .int b), (3, .int c)]) (s2 := [.int 1, .ref 65]) (h2 := h) (s_invv (K := mX8_isNode) (o := 65) (as := [.int a]) (rest := [.ref 65]) (v := some (.int 1)) dX8_ask_3 rfl lX8_108 (by omega) rfl (Nat.le_of_ble_eq_true rfl) rfl (Nat.le_of_ble_eq_true rfl) (ho) (q_X8_isNode_y (d := 0) (Nat.le_refl _) h 65 a F ho v1 e1 c1) (fun h => nomatch h)) ?_
  refine E.st (s_if_eq_f (q := 9) (tg := 29) dX8_ask_6 (by decide) rfl (by decide)) ?_
  refine E.st (s_iload_n (q := 10) dX8_ask_9 rfl rfl) ?_
  refine E.st (s_if_lt_t (q := 29) dX8_ask_10 (by decide) c2) ?_
  refine E.st (s_iconst (q := 30) (v := 1) dX8_ask_29 rfl (by decide)) ?_
  refine E.st (s_goto (q := 34) dX8_ask_30 (by decide)) ?_
  refine E.st (p2 := 37) (l2 := [(0, .ref 65), (1, .int a), (2, .int b), (3, .int c)]) (s2 := [.int (1 : Int32)]) (h2 := (hs h 65 (ob 8 (fo 53 (va_up F 0 (.int 1)))))) (s_invv (K := mX8_refused) (o := 65) (as := [.int 1]) (rest := []) (v := some (.int (1 : Int32))) dX8_ask_34 rfl lX8_112 (by omega) rfl (Nat.le_of_ble_eq_true rfl) rfl (Nat.le_of_ble_eq_true rfl) (ho) (p_X8_refused_2 (d := 0) (Nat.le_refl _) h 65 (1 : Int32) (by decide) F ho rfl) (fun h => nomatch h)) ?_
  refine E.st (s_if_eq_f (q := 40) (tg := 41) dX8_ask_37 (by decide) rfl (by decide)) ?_
  exact E.v dX8_ask_40 rfl rfl rfl

set_option maxRecDepth 20000 in
theorem j_X8_ask_a_3 {d : Nat} (hd : 1 ≤ d) (h : AH) (a : Int32) (b : Int32) (c : Int32) (x : Nat) (y : Nat) (F : Nat → Value) (ho : h.1 65 = ob 8 (fo 53 F)) (v1 : Int32) (e1 : F 1 = .int v1) (c1 : ¬ (a < 0) ∧ ¬ (v1 ≤ a)) (c2 : ¬ (b < 0)) (c3 : 2 < b) : E false mX8_ask d 0 [(0, .ref 65), (1, .int a), (2, .int b), (3, .int c)] [] h (none) (hs h 65 (ob 8 (fo 53 (va_up F 0 (.int 1))))) := by
  refine E.st (s_aload_n (q := 1) dX8_ask_0 rfl rfl) ?_
  refine E.st (s_aload_n (q := 2) dX8_ask_1 rfl rfl) ?_
  refine E.st (s_iload_n (q := 3) dX8_ask_2 rfl rfl) ?_
  refine E.st (p2 := 6) (l2 := [(0, .ref 65), (1, .int a), (2, .int b), (3, .int c)]) (s2 := [.int 1, .ref 65]) (h2 := h) (s_invv (K := mX8_isNode) (o := 65) (as := [.int a]) (rest := [.ref 65]) (v := some (.int 1)) dX8_ask_3 rfl lX8_108 (by omega) rfl (Nat.le_of_ble_eq_true rfl) rfl (Nat.le_of_ble_eq_true rfl) (ho) (q_X8_isNode_y (d := 0) (Nat.le_refl _) h 65 a F ho v1 e1 c1) (fun h => nomatch h)) ?_
  refine E.st (s_if_eq_f (q := 9) (tg := 29) dX8_ask_6 (by decide) rfl (by decide)) ?_
  refine E.st (s_iload_n (q := 10) dX8_ask_9 rfl rfl) ?_
  refine E.st (s_if_lt_f (q := 13) (tg := 29) dX8_ask_10 (by decide) rfl c2) ?_
  refine E.st (s_iload_n (q := 14) dX8_ask_13 rfl rfl) ?_
  refine E.st (s_iconst (q := 15) (v := 2) dX8_ask_14 rfl (by decide)) ?_
  refine E.st (s_icmp_gt_t (q := 29) dX8_ask_15 (by decide) c3) ?_
  refine E.st (s_iconst (q := 30) (v := 1) dX8_ask_29 rfl (by decide)) ?_
  refine E.st (s_goto (q := 34) dX8_ask_30 (by decide)) ?_
  refine E.st (p2 := 37) (l2 := [(0, .ref 65), (1, .int a), (2, .int b), (3, .int c)]) (s2 := [.int (1 : Int32)]) (h2 := (hs h 65 (ob 8 (fo 53 (va_up F 0 (.int 1)))))) (s_invv (K := mX8_refused) (o := 65) (as := [.int 1]) (rest := []) (v := some (.int (1 : Int32))) dX8_ask_34 rfl lX8_112 (by omega) rfl (Nat.le_of_ble_eq_true rfl) rfl (Nat.le_of_ble_eq_true rfl) (ho) (p_X8_refused_2 (d := 0) (Nat.le_refl _) h 65 (1 : Int32) (by decide) F ho rfl) (fun h => nomatch h)) ?_
  refine E.st (s_if_eq_f (q := 40) (tg := 41) dX8_ask_37 (by decide) rfl (by decide)) ?_
  exact E.v dX8_ask_40 rfl rfl rfl

set_option maxRecDepth 20000 in
theorem j_X8_ask_a_4 {d : Nat} (hd : 1 ≤ d) (h : AH) (a : Int32) (b : Int32) (c : Int32) (x : Nat) (y : Nat) (F : Nat → Value) (ho : h.1 65 = ob 8 (fo 53 F)) (v1 : Int32) (e1 : F 1 = .int v1) (c1 : ¬ (a < 0) ∧ ¬ (v1 ≤ a)) (c2 : ¬ (b < 0)) (c3 : ¬ (2 < b)) (c4 : c < 1) : E false mX8_ask d 0 [(0, .ref 65), (1, .int a), (2, .int b), (3, .int c)] [] h (none) (hs h 65 (ob 8 (fo 53 (va_up F 0 (.int 1))))) := by
  refine E.st (s_aload_n (q := 1) dX8_ask_0 rfl rfl) ?_
  refine E.st (s_aload_n (q := 2) dX8_ask_1 rfl rfl) ?_
  refine E.st (s_iload_n (q := 3) dX8_ask_2 rfl rfl) ?_
  refine E.st (p2 := 6) (l2 := [(0, .ref 65), (1, .int a), (2, .int b), (3, .int c)]) (s2 := [.int 1, .ref 65]) (h2 := h) (s_invv (K := mX8_isNode) (o := 65) (as := [.int a]) (rest := [.ref 65]) (v := some (.int 1)) dX8_ask_3 rfl lX8_108 (by omega) rfl (Nat.le_of_ble_eq_true rfl) rfl (Nat.le_of_ble_eq_true rfl) (ho) (q_X8_isNode_y (d := 0) (Nat.le_refl _) h 65 a F ho v1 e1 c1) (fun h => nomatch h)) ?_
  refine E.st (s_if_eq_f (q := 9) (tg := 29) dX8_ask_6 (by decide) rfl (by decide)) ?_
  refine E.st (s_iload_n (q := 10) dX8_ask_9 rfl rfl) ?_
  refine E.st (s_if_lt_f (q := 13) (tg := 29) dX8_ask_10 (by decide) rfl c2) ?_
  refine E.st (s_iload_n (q := 14) dX8_ask_13 rfl rfl) ?_
  refine E.st (s_iconst (q := 15) (v := 2) dX8_ask_14 rfl (by decide)) ?_
  refine E.st (s_icmp_gt_f (q := 18) (tg := 29) dX8_ask_15 (by decide) rfl c3) ?_
  refine E.st (s_iload_n (q := 19) dX8_ask_18 rfl rfl) ?_
  refine E.st (s_iconst (q := 20) (v := 1) dX8_ask_19 rfl (by decide)) ?_
  refine E.st (s_icmp_lt_t (q := 29) dX8_ask_20 (by decide) c4) ?_
  refine E.st (s_iconst (q := 30) (v := 1) dX8_ask_29 rfl (by decide)) ?_
  refine E.st (s_goto (q := 34) dX8_ask_30 (by decide)) ?_
  refine E.st (p2 := 37) (l2 := [(0, .ref 65), (1, .int a), (2, .int b), (3, .int c)]) (s2 := [.int (1 : Int32)]) (h2 := (hs h 65 (ob 8 (fo 53 (va_up F 0 (.int 1)))))) (s_invv (K := mX8_refused) (o := 65) (as := [.int 1]) (rest := []) (v := some (.int (1 : Int32))) dX8_ask_34 rfl lX8_112 (by omega) rfl (Nat.le_of_ble_eq_true rfl) rfl (Nat.le_of_ble_eq_true rfl) (ho) (p_X8_refused_2 (d := 0) (Nat.le_refl _) h 65 (1 : Int32) (by decide) F ho rfl) (fun h => nomatch h)) ?_
  refine E.st (s_if_eq_f (q := 40) (tg := 41) dX8_ask_37 (by decide) rfl (by decide)) ?_
  exact E.v dX8_ask_40 rfl rfl rfl

set_option maxRecDepth 20000 in
theorem j_X8_ask_a_5 {d : Nat} (hd : 1 ≤ d) (h : AH) (a : Int32) (b : Int32) (c : Int32) (x : Nat) (y : Nat) (F : Nat → Value) (ho : h.1 65 = ob 8 (fo 53 F)) (v1 : Int32) (e1 : F 1 = .int v1) (c1 : ¬ (a < 0) ∧ ¬ (v1 ≤ a)) (c2 : ¬ (b < 0)) (c3 : ¬ (2 < b)) (c4 : ¬ (c < 1)) (c5 : c ≤ 60) (e36 : F 36 = .ref 88) (n : Nat) (f : Nat → Int32) (ha : h.1 88 = ia n f) (i : vp_in 0 n) : E false mX8_ask d 0 [(0, .ref 65), (1, .int a), (2, .int b), (3, .int c)] [] h (none) (hs (hs (hs (hs (hs (hs (hs (hs (hs (hs (hs (hs (hs (hs (hs (hs (hs (hs (hs (hs (hs h 65 (ob 8 (fo 53 (va_up F 0 (.int 0))))) 65 (ob 8 (fo 53 (va_up (va_up F 0 (.int 0)) 29 (.int 0))))) 65 (ob 8 (fo 53 (va_up (va_up (va_up F 0 (.int 0)) 29 (.int 0)) 30 (.int 0))))) 65 (ob 8 (fo 53 (va_up (va_up (va_up (va_up F 0 (.int 0)) 29 (.int 0)) 30 (.int 0)) 34 (.int 0))))) 65 (ob 8 (fo 53 (va_up (va_up (va_up (va_up (va_up F 0 (.int 0)) 29 (.int 0)) 30 (.int 0)) 34 (.int 0)) 37 (.int 0))))) 65 (ob 8 (fo 53 (va_up (va_up (va_up (va_up (va_up (va_up F 0 (.int 0)) 29 (.int 0)) 30 (.int 0)) 34 (.int 0)) 37 (.int 0)) 40 (.int 0))))) 65 (ob 8 (fo 53 (va_up (va_up (va_up (va_up (va_up (va_up (va_up F 0 (.int 0)) 29 (.int 0)) 30 (.int 0)) 34 (.int 0)) 37 (.int 0)) 40 (.int 0)) 41 (.int 0))))) 65 (ob 8 (fo 53 (va_up (va_up (va_up (va_up (va_up (va_up (va_up (va_up F 0 (.int 0)) 29 (.int 0)) 30 (.int 0)) 34 (.int 0)) 37 (.int 0)) 40 (.int 0)) 41 (.int 0)) 42 (.int 0))))) 65 (ob 8 (fo 53 (va_up (va_up (va_up (va_up (va_up (va_up (va_up (va_up (va_up F 0 (.int 0)) 29 (.int 0)) 30 (.int 0)) 34 (.int 0)) 37 (.int 0)) 40 (.int 0)) 41 (.int 0)) 42 (.int 0)) 43 (.int 0))))) 65 (ob 8 (fo 53 (va_up (va_up (va_up (va_up (va_up (va_up (va_up (va_up (va_up (va_up F 0 (.int 0)) 29 (.int 0)) 30 (.int 0)) 34 (.int 0)) 37 (.int 0)) 40 (.int 0)) 41 (.int 0)) 42 (.int 0)) 43 (.int 0)) 44 (.int 0))))) 65 (ob 8 (fo 53 (va_up (va_up (va_up (va_up (va_up (va_up (va_up (va_up (va_up (va_up (va_up F 0 (.int 0)) 29 (.int 0)) 30 (.int 0)) 34 (.int 0)) 37 (.int 0)) 40 (.int 0)) 41 (.int 0)) 42 (.int 0)) 43 (.int 0)) 44 (.int 0)) 45 (.int 0))))) 65 (ob 8 (fo 53 (va_up (va_up (va_up (va_up (va_up (va_up (va_up (va_up (va_up (va_up (va_up (va_up F 0 (.int 0)) 29 (.int 0)) 30 (.int 0)) 34 (.int 0)) 37 (.int 0)) 40 (.int 0)) 41 (.int 0)) 42 (.int 0)) 43 (.int 0)) 44 (.int 0)) 45 (.int 0)) 46 (.int 0))))) 65 (ob 8 (fo 53 (va_up (va_up (va_up (va_up (va_up (va_up (va_up (va_up (va_up (va_up (va_up (va_up (va_up F 0 (.int 0)) 29 (.int 0)) 30 (.int 0)) 34 (.int 0)) 37 (.int 0)) 40 (.int 0)) 41 (.int 0)) 42 (.int 0)) 43 (.int 0)) 44 (.int 0)) 45 (.int 0)) 46 (.int 0)) 47 (.int 0))))) 65 (ob 8 (fo 53 (va_up (va_up (va_up (va_up (va_up (va_up (va_up (va_up (va_up (va_up (va_up (va_up (va_up (va_up F 0 (.int 0)) 29 (.int 0)) 30 (.int 0)) 34 (.int 0)) 37 (.int 0)) 40 (.int 0)) 41 (.int 0)) 42 (.int 0)) 43 (.int 0)) 44 (.int 0)) 45 (.int 0)) 46 (.int 0)) 47 (.int 0)) 48 (.int 0))))) 65 (ob 8 (fo 53 (va_up (va_up (va_up (va_up (va_up (va_up (va_up (va_up (va_up (va_up (va_up (va_up (va_up (va_up (va_up F 0 (.int 0)) 29 (.int 0)) 30 (.int 0)) 34 (.int 0)) 37 (.int 0)) 40 (.int 0)) 41 (.int 0)) 42 (.int 0)) 43 (.int 0)) 44 (.int 0)) 45 (.int 0)) 46 (.int 0)) 47 (.int 0)) 48 (.int 0)) 50 (.int 0))))) 65 (ob 8 (fo 53 (va_up (va_up (va_up (va_up (va_up (va_up (va_up (va_up (va_up (va_up (va_up (va_up (va_up (va_up (va_up (va_up F 0 (.int 0)) 29 (.int 0)) 30 (.int 0)) 34 (.int 0)) 37 (.int 0)) 40 (.int 0)) 41 (.int 0)) 42 (.int 0)) 43 (.int 0)) 44 (.int 0)) 45 (.int 0)) 46 (.int 0)) 47 (.int 0)) 48 (.int 0)) 50 (.int 0)) 29 (.int 1))))) 65 (ob 8 (fo 53 (va_up (va_up (va_up (va_up (va_up (va_up (va_up (va_up (va_up (va_up (va_up (va_up (va_up (va_up (va_up (va_up (va_up F 0 (.int 0)) 29 (.int 0)) 30 (.int 0)) 34 (.int 0)) 37 (.int 0)) 40 (.int 0)) 41 (.int 0)) 42 (.int 0)) 43 (.int 0)) 44 (.int 0)) 45 (.int 0)) 46 (.int 0)) 47 (.int 0)) 48 (.int 0)) 50 (.int 0)) 29 (.int 1)) 31 (.int a))))) 65 (ob 8 (fo 53 (va_up (va_up (va_up (va_up (va_up (va_up (va_up (va_up (va_up (va_up (va_up (va_up (va_up (va_up (va_up (va_up (va_up (va_up F 0 (.int 0)) 29 (.int 0)) 30 (.int 0)) 34 (.int 0)) 37 (.int 0)) 40 (.int 0)) 41 (.int 0)) 42 (.int 0)) 43 (.int 0)) 44 (.int 0)) 45 (.int 0)) 46 (.int 0)) 47 (.int 0)) 48 (.int 0)) 50 (.int 0)) 29 (.int 1)) 31 (.int a)) 32 (.int b))))) 65 (ob 8 (fo 53 (va_up (va_up (va_up (va_up (va_up (va_up (va_up (va_up (va_up (va_up (va_up (va_up (va_up (va_up (va_up (va_up (va_up (va_up (va_up F 0 (.int 0)) 29 (.int 0)) 30 (.int 0)) 34 (.int 0)) 37 (.int 0)) 40 (.int 0)) 41 (.int 0)) 42 (.int 0)) 43 (.int 0)) 44 (.int 0)) 45 (.int 0)) 46 (.int 0)) 47 (.int 0)) 48 (.int 0)) 50 (.int 0)) 29 (.int 1)) 31 (.int a)) 32 (.int b)) 33 (.int c))))) 88 (ia n (upd f (0 : Int32).toNatClampNeg 0))) 65 (ob 8 (fo 53 (va_up (va_up (va_up (va_up (va_up (va_up (va_up (va_up (va_up (va_up (va_up (va_up (va_up (va_up (va_up (va_up (va_up (va_up (va_up (va_up F 0 (.int 0)) 29 (.int 0)) 30 (.int 0)) 34 (.int 0)) 37 (.int 0)) 40 (.int 0)) 41 (.int 0)) 42 (.int 0)) 43 (.int 0)) 44 (.int 0)) 45 (.int 0)) 46 (.int 0)) 47 (.int 0)) 48 (.int 0)) 50 (.int 0)) 29 (.int 1)) 31 (.int a)) 32 (.int b)) 33 (.int c)) 37 (.int 1))))) := by
  refine E.st (s_aload_n (q := 1) dX8_ask_0 rfl rfl) ?_
  refine E.st (s_aload_n (q := 2) dX8_ask_1 rfl rfl) ?_
  refine E.st (s_iload_n (q := 3) dX8_ask_2 rfl rfl) ?_
  refine E.st (p2 := 6) (l2 := [(0, .ref 65), (1, .int a), (2, .int b), (3, .int c)]) (s2 := [.int 1, .ref 65]) (h2 := h) (s_invv (K := mX8_isNode) (o := 65) (as := [.int a]) (rest := [.ref 65]) (v := some (.int 1)) dX8_ask_3 rfl lX8_108 (by omega) rfl (Nat.le_of_ble_eq_true rfl) rfl (Nat.le_of_ble_eq_true rfl) (ho) (q_X8_isNode_y (d := 0) (Nat.le_refl _) h 65 a F ho v1 e1 c1) (fun h => nomatch h)) ?_
  refine E.st (s_if_eq_f (q := 9) (tg := 29) dX8_ask_6 (by decide) rfl (by decide)) ?_
  refine E.st (s_iload_n (q := 10) dX8_ask_9 rfl rfl) ?_
  refine E.st (s_if_lt_f (q := 13) (tg := 29) dX8_ask_10 (by decide) rfl c2) ?_
  refine E.st (s_iload_n (q := 14) dX8_ask_13 rfl rfl) ?_
  refine E.st (s_iconst (q := 15) (v := 2) dX8_ask_14 rfl (by decide)) ?_
  refine E.st (s_icmp_gt_f (q := 18) (tg := 29) dX8_ask_15 (by decide) rfl c3) ?_
  refine E.st (s_iload_n (q := 19) dX8_ask_18 rfl rfl) ?_
  refine E.st (s_iconst (q := 20) (v := 1) dX8_ask_19 rfl (by decide)) ?_
  refine E.st (s_icmp_lt_f (q := 23) (tg := 29) dX8_ask_20 (by decide) rfl c4) ?_
  refine E.st (s_iload_n (q := 24) dX8_ask_23 rfl rfl) ?_
  refine E.st (s_bipush (q := 26) (v := 60) dX8_ask_24 rfl (by decide)) ?_
  refine E.st (s_icmp_le_t (q := 33) dX8_ask_26 (by decide) c5) ?_
  refine E.st (s_iconst (q := 34) (v := 0) dX8_ask_33 rfl (by decide)) ?_
  refine E.st (p2 := 37) (l2 := [(0, .ref 65), (1, .int a), (2, .int b), (3, .int c)]) (s2 := [.int (0 : Int32)]) (h2 := (hs h 65 (ob 8 (fo 53 (va_up F 0 (.int 0)))))) (s_invv (K := mX8_refused) (o := 65) (as := [.int 0]) (rest := []) (v := some (.int (0 : Int32))) dX8_ask_34 rfl lX8_112 (by omega) rfl (Nat.le_of_ble_eq_true rfl) rfl (Nat.le_of_ble_eq_true rfl) (ho) (p_X8_refused_1 (d := 0) (Nat.le_refl _) h 65 (0 : Int32) (by decide) F ho rfl) (fun h => nomatch h)) ?_
  refine E.st (s_if_eq_t (q := 41) dX8_ask_37 (by decide) (by decide)) ?_
  refine E.st (s_aload_n (q := 42) dX8_ask_41 rfl rfl) ?_
  refine E.st (p2 := 45) (l2 := [(0, .ref 65), (1, .int a), (2, .int b), (3, .int c)]) (s2 := []) (h2 := (hs (hs (hs (hs (hs (hs (hs (hs (hs (hs (hs (hs (hs (hs (hs h 65 (ob 8 (fo 53 (va_up F 0 (.int 0))))) 65 (ob 8 (fo 53 (va_up (va_up F 0 (.int 0)) 29 (.int 0))))) 65 (ob 8 (fo 53 (va_up (va_up (va_up F 0 (.int 0)) 29 (.int 0)) 30 (.int 0))))) 65 (ob 8 (fo 53 (va_up (va_up (va_up (va_up F 0 (.int 0)) 29 (.int 0)) 30 (.int 0)) 34 (.int 0))))) 65 (ob 8 (fo 53 (va_up (va_up (va_up (va_up (va_up F 0 (.int 0)) 29 (.int 0)) 30 (.int 0)) 34 (.int 0)) 37 (.int 0))))) 65 (ob 8 (fo 53 (va_up (va_up (va_up (va_up (va_up (va_up F 0 (.int 0)) 29 (.int 0)) 30 (.int 0)) 34 (.int 0)) 37 (.int 0)) 40 (.int 0))))) 65 (ob 8 (fo 53 (va_up (va_up (va_up (va_up (va_up (va_up (va_up F 0 (.int 0)) 29 (.int 0)) 30 (.int 0)) 34 (.int 0)) 37 (.int 0)) 40 (.int 0)) 41 (.int 0))))) 65 (ob 8 (fo 53 (va_up (va_up (va_up (va_up (va_up (va_up (va_up (va_up F 0 (.int 0)) 29 (.int 0)) 30 (.int 0)) 34 (.int 0)) 37 (.int 0)) 40 (.int 0)) 41 (.int 0)) 42 (.int 0))))) 65 (ob 8 (fo 53 (va_up (va_up (va_up (va_up (va_up (va_up (va_up (va_up (va_up F 0 (.int 0)) 29 (.int 0)) 30 (.int 0)) 34 (.int 0)) 37 (.int 0)) 40 (.int 0)) 41 (.int 0)) 42 (.int 0)) 43 (.int 0))))) 65 (ob 8 (fo 53 (va_up (va_up (va_up (va_up (va_up (va_up (va_up (va_up (va_up (va_up F 0 (.int 0)) 29 (.int 0)) 30 (.int 0)) 34 (.int 0)) 37 (.int 0)) 40 (.int 0)) 41 (.int 0)) 42 (.int 0)) 43 (.int 0)) 44 (.int 0))))) 65 (ob 8 (fo 53 (va_up (va_up (va_up (va_up (va_up (va_up (va_up (va_up (va_up (va_up (va_up F 0 (.int 0)) 29 (.int 0)) 30 (.int 0)) 34 (.int 0)) 37 (.int 0)) 40 (.int 0)) 41 (.int 0)) 42 (.int 0)) 43 (.int 0)) 44 (.int 0)) 45 (.int 0))))) 65 (ob 8 (fo 53 (va_up (va_up (va_up (va_up (va_up (va_up (va_up (va_up (va_up (va_up (va_up (va_up F 0 (.int 0)) 29 (.int 0)) 30 (.int 0)) 34 (.int 0)) 37 (.int 0)) 40 (.int 0)) 41 (.int 0)) 42 (.int 0)) 43 (.int 0)) 44 (.int 0)) 45 (.int 0)) 46 (.int 0))))) 65 (ob 8 (fo 53 (va_up (va_up (va_up (va_up (va_up (va_up (va_up (va_up (va_up (va_up (va_up (va_up (va_up F 0 (.int 0)) 29 (.int 0)) 30 (.int 0)) 34 (.int 0)) 37 (.int 0)) 40 (.int 0)) 41 (.int 0)) 42 (.int 0)) 43 (.int 0)) 44 (.int 0)) 45 (.int 0)) 46 (.int 0)) 47 (.int 0))))) 65 (ob 8 (fo 53 (va_up (va_up (va_up (va_up (va_up (va_up (va_up (va_up (va_up (va_up (va_up (va_up (va_up (va_up F 0 (.int 0)) 29 (.int 0)) 30 (.int 0)) 34 (.int 0)) 37 (.int 0)) 40 (.int 0)) 41 (.int 0)) 42 (.int 0)) 43 (.int 0)) 44 (.int 0)) 45 (.int 0)) 46 (.int 0)) 47 (.int 0)) 48 (.int 0))))) 65 (ob 8 (fo 53 (va_up (va_up (va_up (va_up (va_up (va_up (va_up (va_up (va_up (va_up (va_up (va_up (va_up (va_up (va_up F 0 (.int 0)) 29 (.int 0)) 30 (.int 0)) 34 (.int 0)) 37 (.int 0)) 40 (.int 0)) 41 (.int 0)) 42 (.int 0)) 43 (.int 0)) 44 (.int 0)) 45 (.int 0)) 46 (.int 0)) 47 (.int 0)) 48 (.int 0)) 50 (.int 0)))))) (s_invv (K := mX8_forget) (o := 65) (as := []) (rest := []) (v := none) dX8_ask_42 rfl lX8_116 (by omega) rfl (Nat.le_of_ble_eq_true rfl) rfl (Nat.le_of_ble_eq_true rfl) (hs_eq) (p_X8_forget_1 (d := 0) (Nat.le_refl _) (hs h 65 (ob 8 (fo 53 (va_up F 0 (.int 0))))) 65 (va_up F 0 (.int 0)) hs_eq) (fun h => nomatch h)) ?_
  refine E.st (s_aload_n (q := 46) dX8_ask_45 rfl rfl) ?_
  refine E.st (s_iconst (q := 47) (v := 1) dX8_ask_46 rfl (by decide)) ?_
  refine E.st (s_pf (q := 50) dX8_ask_47 rfl fX8_203 (hs_eq) (by decide) (fun _ => ⟨rfl, rfl⟩)) ?_
  refine E.st (s_aload_n (q := 51) dX8_ask_50 rfl rfl) ?_
  refine E.st (s_iload_n (q := 52) dX8_ask_51 rfl rfl) ?_
  refine E.st (s_pf (q := 55) dX8_ask_52 rfl fX8_246 (hs_eq) (by decide) (fun _ => ⟨rfl, rfl⟩)) ?_
  refine E.st (s_aload_n (q := 56) dX8_ask_55 rfl rfl) ?_
  refine E.st (s_iload_n (q := 57) dX8_ask_56 rfl rfl) ?_
  refine E.st (s_pf (q := 60) dX8_ask_57 rfl fX8_249 (hs_eq) (by decide) (fun _ => ⟨rfl, rfl⟩)) ?_
  refine E.st (s_aload_n (q := 61) dX8_ask_60 rfl rfl) ?_
  refine E.st (s_iload_n (q := 62) dX8_ask_61 rfl rfl) ?_
  refine E.st (s_pf (q := 65) dX8_ask_62 rfl fX8_252 (hs_eq) (by decide) (fun _ => ⟨rfl, rfl⟩)) ?_
  refine E.st (s_aload_n (q := 66) dX8_ask_65 rfl rfl) ?_
  refine E.st (s_gf (q := 69) (v := .ref 88) dX8_ask_66 rfl fX8_78.l (hs_eq) (by decide) ((up_ne (by decide)).trans ((up_ne (by decide)).trans ((up_ne (by decide)).trans ((up_ne (by decide)).trans ((up_ne (by decide)).trans ((up_ne (by decide)).trans ((up_ne (by decide)).trans ((up_ne (by decide)).trans ((up_ne (by decide)).trans ((up_ne (by decide)).trans ((up_ne (by decide)).trans ((up_ne (by decide)).trans ((up_ne (by decide)).trans ((up_ne (by decide)).trans ((up_ne (by decide)).trans ((up_ne (by decide)).trans ((up_ne (by decide)).trans ((up_ne (by decide)).trans (e36)))))))))))))))))))) ?_
  refine E.st (s_iconst (q := 70) (v := 0) dX8_ask_69 rfl (by decide)) ?_
  refine E.st (s_iconst (q := 71) (v := 0) dX8_ask_70 rfl (by decide)) ?_
  refine E.st (s_iast (q := 72) dX8_ask_71 rfl (by decide) ((hs_ne (by decide)).trans ((hs_ne (by decide)).trans ((hs_ne (by decide)).trans ((hs_ne (by decide)).trans ((hs_ne (by decide)).trans ((hs_ne (by decide)).trans ((hs_ne (by decide)).trans ((hs_ne (by decide)).trans ((hs_ne (by decide)).trans ((hs_ne (by decide)).trans ((hs_ne (by decide)).trans ((hs_ne (by decide)).trans ((hs_ne (by decide)).trans ((hs_ne (by decide)).trans ((hs_ne (by decide)).trans ((hs_ne (by decide)).trans ((hs_ne (by decide)).trans ((hs_ne (by decide)).trans ((hs_ne (by decide)).trans (ha)))))))))))))))))))) i) ?_
  refine E.st (s_aload_n (q := 73) dX8_ask_72 rfl rfl) ?_
  refine E.st (s_iconst (q := 74) (v := 1) dX8_ask_73 rfl (by decide)) ?_
  refine E.st (s_pf (q := 77) dX8_ask_74 rfl fX8_213 ((hs_ne (by decide)).trans (hs_eq)) (by decide) (fun _ => ⟨rfl, rfl⟩)) ?_
  exact E.v dX8_ask_77 rfl rfl rfl

set_option maxRecDepth 20000 in
theorem j_X8_ask_a_6 {d : Nat} (hd : 1 ≤ d) (h : AH) (a : Int32) (b : Int32) (c : Int32) (x : Nat) (y : Nat) (F : Nat → Value) (ho : h.1 65 = ob 8 (fo 53 F)) (v1 : Int32) (e1 : F 1 = .int v1) (c1 : ¬ (a < 0) ∧ ¬ (v1 ≤ a)) (c2 : ¬ (b < 0)) (c3 : ¬ (2 < b)) (c4 : ¬ (c < 1)) (c5 : ¬ (c ≤ 60)) : E false mX8_ask d 0 [(0, .ref 65), (1, .int a), (2, .int b), (3, .int c)] [] h (none) (hs h 65 (ob 8 (fo 53 (va_up F 0 (.int 1))))) := by
  refine E.st (s_aload_n (q := 1) dX8_ask_0 rfl rfl) ?_
  refine E.st (s_aload_n (q := 2) dX8_ask_1 rfl rfl) ?_
  refine E.st (s_iload_n (q := 3) dX8_ask_2 rfl rfl) ?_
  refine E.st (p2 := 6) (l2 := [(0, .ref 65), (1, .int a), (2, .int b), (3, .int c)]) (s2 := [.int 1, .ref 65]) (h2 := h) (s_invv (K := mX8_isNode) (o := 65) (as := [.int a]) (rest := [.ref 65]) (v := some (.int 1)) dX8_ask_3 rfl lX8_108 (by omega) rfl (Nat.le_of_ble_eq_true rfl) rfl (Nat.le_of_ble_eq_true rfl) (ho) (q_X8_isNode_y (d := 0) (Nat.le_refl _) h 65 a F ho v1 e1 c1) (fun h => nomatch h)) ?_
  refine E.st (s_if_eq_f (q := 9) (tg := 29) dX8_ask_6 (by decide) rfl (by decide)) ?_
  refine E.st (s_iload_n (q := 10) dX8_ask_9 rfl rfl) ?_
  refine E.st (s_if_lt_f (q := 13) (tg := 29) dX8_ask_10 (by decide) rfl c2) ?_
  refine E.st (s_iload_n (q := 14) dX8_ask_13 rfl rfl) ?_
  refine E.st (s_iconst (q := 15) (v := 2) dX8_ask_14 rfl (by decide)) ?_
  refine E.st (s_icmp_gt_f (q := 18) (tg := 29) dX8_ask_15 (by decide) rfl c3) ?_
  refine E.st (s_iload_n (q := 19) dX8_ask_18 rfl rfl) ?_
  refine E.st (s_iconst (q := 20) (v := 1) dX8_ask_19 rfl (by decide)) ?_
  refine E.st (s_icmp_lt_f (q := 23) (tg := 29) dX8_ask_20 (by decide) rfl c4) ?_
  refine E.st (s_iload_n (q := 24) dX8_ask_23 rfl rfl) ?_
  refine E.st (s_bipush (q := 26) (v := 60) dX8_ask_24 rfl (by decide)) ?_
  refine E.st (s_icmp_le_f (q := 29) (tg := 33) dX8_ask_26 (by decide) rfl c5) ?_
  refine E.st (s_iconst (q := 30) (v := 1) dX8_ask_29 rfl (by decide)) ?_
  refine E.st (s_goto (q := 34) dX8_ask_30 (by decide)) ?_
  refine E.st (p2 := 37) (l2 := [(0, .ref 65), (1, .int a), (2, .int b), (3, .int c)]) (s2 := [.int (1 : Int32)]) (h2 := (hs h 65 (ob 8 (fo 53 (va_up F 0 (.int 1)))))) (s_invv (K := mX8_refused) (o := 65) (as := [.int 1]) (rest := []) (v := some (.int (1 : Int32))) dX8_ask_34 rfl lX8_112 (by omega) rfl (Nat.le_of_ble_eq_true rfl) rfl (Nat.le_of_ble_eq_true rfl) (ho) (p_X8_refused_2 (d := 0) (Nat.le_refl _) h 65 (1 : Int32) (by decide) F ho rfl) (fun h => nomatch h)) ?_
  refine E.st (s_if_eq_f (q := 40) (tg := 41) dX8_ask_37 (by decide) rfl (by decide)) ?_
  exact E.v dX8_ask_40 rfl rfl rfl

set_option maxRecDepth 20000 in
theorem j_X8_decision_a_1 {d : Nat} (hd : 0 ≤ d) (h : AH) (a : Int32) (x : Nat) (y : Nat) (F : Nat → Value) (ho : h.1 65 = ob 8 (fo 53 F)) (c : a < 0) : E false mX8_decision d 0 [(0, .ref 65), (1, .int a)] [] h (some (.int (-1))) (hs h 65 (ob 8 (fo 53 (va_up F 0 (.int 0))))) := by
  refine E.st (s_aload_n (q := 1) dX8_decision_0 rfl rfl) ?_
  refine E.st (s_iconst (q := 2) (v := 0) dX8_decision_1 rfl (by decide)) ?_
  refine E.st (s_pf (q := 5) dX8_decision_2 rfl fX8_97 (ho) (by decide) (fun _ => ⟨rfl, rfl⟩)) ?_
  refine E.st (s_iload_n (q := 6) dX8_decision_5 rfl rfl) ?_
  refine E.st (s_if_lt_t (q := 26) dX8_decision_6 (by decide) c) ?_
  refine E.st (s_iconst (q := 27) (v := (-1)) dX8_decision_26 rfl (by decide)) ?_
  exact E.i dX8_decision_27 rfl rfl rfl rfl

set_option maxRecDepth 20000 in
theorem j_X8_decision_a_2 {d : Nat} (hd : 0 ≤ d) (h : AH) (a : Int32) (x : Nat) (y : Nat) (F : Nat → Value) (ho : h.1 65 = ob 8 (fo 53 F)) (c : ¬ (a < 0)) (v48 : Int32) (e48 : F 48 = .int v48) (c1 : v48 ≤ a) : E false mX8_decision d 0 [(0, .ref 65), (1, .int a)] [] h (some (.int (-1))) (hs h 65 (ob 8 (fo 53 (va_up F 0 (.int 0))))) := by
  refine E.st (s_aload_n (q := 1) dX8_decision_0 rfl rfl) ?_
  refine E.st (s_iconst (q := 2) (v := 0) dX8_decision_1 rfl (by decide)) ?_
  refine E.st (s_pf (q := 5) dX8_decision_2 rfl fX8_97 (ho) (by decide) (fun _ => ⟨rfl, rfl⟩)) ?_
  refine E.st (s_iload_n (q := 6) dX8_decision_5 rfl rfl) ?_
  refine E.st (s_if_lt_f (q := 9) (tg := 26) dX8_decision_6 (by decide) rfl c) ?_
  refine E.st (s_iload_n (q := 10) dX8_decision_9 rfl rfl) ?_
  refine E.st (s_aload_n (q := 11) dX8_decision_10 rfl rfl) ?_
  refine E.st (s_gf (q := 14) (v := .int v48) dX8_decision_11 rfl fX8_240.l (hs_eq) (by decide) ((up_ne (by decide)).trans (e48))) ?_
  refine E.st (s_icmp_ge_t (q := 26) dX8_decision_14 (by decide) c1) ?_
  refine E.st (s_iconst (q := 27) (v := (-1)) dX8_decision_26 rfl (by decide)) ?_
  exact E.i dX8_decision_27 rfl rfl rfl rfl

set_option maxRecDepth 20000 in
theorem j_X8_decision_a_3 {d : Nat} (hd : 0 ≤ d) (h : AH) (a : Int32) (x : Nat) (y : Nat) (F : Nat → Value) (ho : h.1 65 = ob 8 (fo 53 F)) (c : ¬ (a < 0)) (v48 : Int32) (e48 : F 48 = .int v48) (c1 : ¬ (v48 ≤ a)) (e49 : F 49 = .ref 91) (n : Nat) (f : Nat → Int32) (ha : h.1 91 = ia n f) (i : vp_in a n) : E false mX8_decision d 0 [(0, .ref 65), (1, .int a)] [] h (some (.int (f a.toNatClampNeg))) (hs h 65 (ob 8 (fo 53 (va_up F 0 (.int 0))))) := by
  refine E.st (s_aload_n (q := 1) dX8_decision_0 rfl rfl) ?_
  refine E.st (s_iconst (q := 2) (v := 0) dX8_decision_1 rfl (by decide)) ?_
  refine E.st (s_pf (q := 5) dX8_decision_2 rfl fX8_97 (ho) (by decide) (fun _ => ⟨rfl, rfl⟩)) ?_
  refine E.st (s_iload_n (q := 6) dX8_decision_5 rfl rfl) ?_
  refine E.st (s_if_lt_f (q := 9) (tg := 26) dX8_decision_6 (by decide) rfl c) ?_
  refine E.st (s_iload_n (q := 10) dX8_decision_9 rfl rfl) ?_
  refine E.st (s_aload_n (q := 11) dX8_decision_10 rfl rfl) ?_
  refine E.st (s_gf (q := 14) (v := .int v48) dX8_decision_11 rfl fX8_240.l (hs_eq) (by decide) ((up_ne (by decide)).trans (e48))) ?_
  refine E.st (s_icmp_ge_f (q := 17) (tg := 26) dX8_decision_14 (by decide) rfl c1) ?_
  refine E.st (s_aload_n (q := 18) dX8_decision_17 rfl rfl) ?_
  refine E.st (s_gf (q := 21) (v := .ref 91) dX8_decision_18 rfl fX8_88.l (hs_eq) (by decide) ((up_ne (by decide)).trans (e49))) ?_
  refine E.st (s_iload_n (q := 22) dX8_decision_21 rfl rfl) ?_
  refine E.st (s_iald (q := 23) dX8_decision_22 rfl (by decide) ((hs_ne (by decide)).trans (ha)) i) ?_
  refine E.st (s_goto (q := 27) dX8_decision_23 (by decide)) ?_
  exact E.i dX8_decision_27 rfl rfl rfl rfl

set_option maxRecDepth 20000 in
theorem j_X8_count_a_1 {d : Nat} (hd : 0 ≤ d) (h : AH) (a : Int32) (x : Nat) (y : Nat) (F : Nat → Value) (ho : h.1 65 = ob 8 (fo 53 F)) (c : a = 0) (v1 : Int32) (e1 : F 1 = .int v1) : E false mX8_count d 0 [(0, .ref 65), (1, .int a)] [] h (some (.int v1)) (hs h 65 (ob 8 (fo 53 (va_up F 0 (.int 0))))) := by
  refine E.st (s_aload_n (q := 1) dX8_count_0 rfl rfl) ?_
  refine E.st (s_iconst (q := 2) (v := 0) dX8_count_1 rfl (by decide)) ?_
  refine E.st (s_pf (q := 5) dX8_count_2 rfl fX8_97 (ho) (by decide) (fun _ => ⟨rfl, rfl⟩)) ?_
  refine E.st (s_iload_n (q := 6) dX8_count_5 rfl rfl) ?_
  refine E.st (s_tabIn (q := 56) (off := 50) dX8_count_6 (by rw [c]; decide) (by rw [c]; decide) (by rw [c]; rfl) (by decide)) ?_
  refine E.st (s_aload_n (q := 57) dX8_count_56 rfl rfl) ?_
  refine E.st (s_gf (q := 60) (v := .int v1) dX8_count_57 rfl fX8_101.l (hs_eq) (by decide) ((up_ne (by decide)).trans (e1))) ?_
  exact E.i dX8_count_60 rfl rfl rfl rfl

set_option maxRecDepth 20000 in
theorem j_X8_count_a_2 {d : Nat} (hd : 0 ≤ d) (h : AH) (a : Int32) (x : Nat) (y : Nat) (F : Nat → Value) (ho : h.1 65 = ob 8 (fo 53 F)) (c : a = 1) (v42 : Int32) (e42 : F 42 = .int v42) : E false mX8_count d 0 [(0, .ref 65), (1, .int a)] [] h (some (.int v42)) (hs h 65 (ob 8 (fo 53 (va_up F 0 (.int 0))))) := by
  refine E.st (s_aload_n (q := 1) dX8_count_0 rfl rfl) ?_
  refine E.st (s_iconst (q := 2) (v := 0) dX8_count_1 rfl (by decide)) ?_
  refine E.st (s_pf (q := 5) dX8_count_2 rfl fX8_97 (ho) (by decide) (fun _ => ⟨rfl, rfl⟩)) ?_
  refine E.st (s_iload_n (q := 6) dX8_count_5 rfl rfl) ?_
  refine E.st (s_tabIn (q := 61) (off := 55) dX8_count_6 (by rw [c]; decide) (by rw [c]; decide) (by rw [c]; rfl) (by decide)) ?_
  refine E.st (s_aload_n (q := 62) dX8_count_61 rfl rfl) ?_
  refine E.st (s_gf (q := 65) (v := .int v42) dX8_count_62 rfl fX8_222.l (hs_eq) (by decide) ((up_ne (by decide)).trans (e42))) ?_
  exact E.i dX8_count_65 rfl rfl rfl rfl

set_option maxRecDepth 20000 in
theorem j_X8_count_a_3 {d : Nat} (hd : 0 ≤ d) (h : AH) (a : Int32) (x : Nat) (y : Nat) (F : Nat → Value) (ho : h.1 65 = ob 8 (fo 53 F)) (c : a = 2) (v43 : Int32) (e43 : F 43 = .int v43) : E false mX8_count d 0 [(0, .ref 65), (1, .int a)] [] h (some (.int v43)) (hs h 65 (ob 8 (fo 53 (va_up F 0 (.int 0))))) := by
  refine E.st (s_aload_n (q := 1) dX8_count_0 rfl rfl) ?_
  refine E.st (s_iconst (q := 2) (v := 0) dX8_count_1 rfl (by decide)) ?_
  refine E.st (s_pf (q := 5) dX8_count_2 rfl fX8_97 (ho) (by decide) (fun _ => ⟨rfl, rfl⟩)) ?_
  refine E.st (s_iload_n (q := 6) dX8_count_5 rfl rfl) ?_
  refine E.st (s_tabIn (q := 66) (off := 60) dX8_count_6 (by rw [c]; decide) (by rw [c]; decide) (by rw [c]; rfl) (by decide)) ?_
  refine E.st (s_aload_n (q := 67) dX8_count_66 rfl rfl) ?_
  refine E.st (s_gf (q := 70) (v := .int v43) dX8_count_67 rfl fX8_225.l (hs_eq) (by decide) ((up_ne (by decide)).trans (e43))) ?_
  exact E.i dX8_count_70 rfl rfl rfl rfl

set_option maxRecDepth 20000 in
theorem j_X8_count_a_4 {d : Nat} (hd : 0 ≤ d) (h : AH) (a : Int32) (x : Nat) (y : Nat) (F : Nat → Value) (ho : h.1 65 = ob 8 (fo 53 F)) (c : a = 3) (v44 : Int32) (e44 : F 44 = .int v44) : E false mX8_count d 0 [(0, .ref 65), (1, .int a)] [] h (some (.int v44)) (hs h 65 (ob 8 (fo 53 (va_up F 0 (.int 0))))) := by
  refine E.st (s_aload_n (q := 1) dX8_count_0 rfl rfl) ?_
  refine E.st (s_iconst (q := 2) (v := 0) dX8_count_1 rfl (by decide)) ?_
  refine E.st (s_pf (q := 5) dX8_count_2 rfl fX8_97 (ho) (by decide) (fun _ => ⟨rfl, rfl⟩)) ?_
  refine E.st (s_iload_n (q := 6) dX8_count_5 rfl rfl) ?_
  refine E.st (s_tabIn (q := 71) (off := 65) dX8_count_6 (by rw [c]; decide) (by rw [c]; decide) (by rw [c]; rfl) (by decide)) ?_
  refine E.st (s_aload_n (q := 72) dX8_count_71 rfl rfl) ?_
  refine E.st (s_gf (q := 75) (v := .int v44) dX8_count_72 rfl fX8_228.l (hs_eq) (by decide) ((up_ne (by decide)).trans (e44))) ?_
  exact E.i dX8_count_75 rfl rfl rfl rfl

set_option maxRecDepth 20000 in
theorem j_X8_count_a_5 {d : Nat} (hd : 0 ≤ d) (h : AH) (a : Int32) (x : Nat) (y : Nat) (F : Nat → Value) (ho : h.1 65 = ob 8 (fo 53 F)) (c : a = 4) (v45 : Int32) (e45 : F 45 = .int v45) : E false mX8_count d 0 [(0, .ref 65), (1, .int a)] [] h (some (.int v45)) (hs h 65 (ob 8 (fo 53 (va_up F 0 (.int 0))))) := by
  refine E.st (s_aload_n (q := 1) dX8_count_0 rfl rfl) ?_
  refine E.st (s_iconst (q := 2) (v := 0) dX8_count_1 rfl (by decide)) ?_
  refine E.st (s_pf (q := 5) dX8_count_2 rfl fX8_97 (ho) (by decide) (fun _ => ⟨rfl, rfl⟩)) ?_
  refine E.st (s_iload_n (q := 6) dX8_count_5 rfl rfl) ?_
  refine E.st (s_tabIn (q := 76) (off := 70) dX8_count_6 (by rw [c]; decide) (by rw [c]; decide) (by rw [c]; rfl) (by decide)) ?_
  refine E.st (s_aload_n (q := 77) dX8_count_76 rfl rfl) ?_
  refine E.st (s_gf (q := 80) (v := .int v45) dX8_count_77 rfl fX8_231.l (hs_eq) (by decide) ((up_ne (by decide)).trans (e45))) ?_
  exact E.i dX8_count_80 rfl rfl rfl rfl

set_option maxRecDepth 20000 in
theorem j_X8_count_a_6 {d : Nat} (hd : 0 ≤ d) (h : AH) (a : Int32) (x : Nat) (y : Nat) (F : Nat → Value) (ho : h.1 65 = ob 8 (fo 53 F)) (c : a = 5) (v46 : Int32) (e46 : F 46 = .int v46) : E false mX8_count d 0 [(0, .ref 65), (1, .int a)] [] h (some (.int v46)) (hs h 65 (ob 8 (fo 53 (va_up F 0 (.int 0))))) := by
  refine E.st (s_aload_n (q := 1) dX8_count_0 rfl rfl) ?_
  refine E.st (s_iconst (q := 2) (v := 0) dX8_count_1 rfl (by decide)) ?_
  refine E.st (s_pf (q := 5) dX8_count_2 rfl fX8_97 (ho) (by decide) (fun _ => ⟨rfl, rfl⟩)) ?_
  refine E.st (s_iload_n (q := 6) dX8_count_5 rfl rfl) ?_
  refine E.st (s_tabIn (q := 81) (off := 75) dX8_count_6 (by rw [c]; decide) (by rw [c]; decide) (by rw [c]; rfl) (by decide)) ?_
  refine E.st (s_aload_n (q := 82) dX8_count_81 rfl rfl) ?_
  refine E.st (s_gf (q := 85) (v := .int v46) dX8_count_82 rfl fX8_234.l (hs_eq) (by decide) ((up_ne (by decide)).trans (e46))) ?_
  exact E.i dX8_count_85 rfl rfl rfl rfl

set_option maxRecDepth 20000 in
theorem j_X8_count_a_7 {d : Nat} (hd : 0 ≤ d) (h : AH) (a : Int32) (x : Nat) (y : Nat) (F : Nat → Value) (ho : h.1 65 = ob 8 (fo 53 F)) (c : a = 6) (v47 : Int32) (e47 : F 47 = .int v47) : E false mX8_count d 0 [(0, .ref 65), (1, .int a)] [] h (some (.int v47)) (hs h 65 (ob 8 (fo 53 (va_up F 0 (.int 0))))) := by
  refine E.st (s_aload_n (q := 1) dX8_count_0 rfl rfl) ?_
  refine E.st (s_iconst (q := 2) (v := 0) dX8_count_1 rfl (by decide)) ?_
  refine E.st (s_pf (q := 5) dX8_count_2 rfl fX8_97 (ho) (by decide) (fun _ => ⟨rfl, rfl⟩)) ?_
  refine E.st (s_iload_n (q := 6) dX8_count_5 rfl rfl) ?_
  refine E.st (s_tabIn (q := 86) (off := 80) dX8_count_6 (by rw [c]; decide) (by rw [c]; decide) (by rw [c]; rfl) (by decide)) ?_
  refine E.st (s_aload_n (q := 87) dX8_count_86 rfl rfl) ?_
  refine E.st (s_gf (q := 90) (v := .int v47) dX8_count_87 rfl fX8_237.l (hs_eq) (by decide) ((up_ne (by decide)).trans (e47))) ?_
  exact E.i dX8_count_90 rfl rfl rfl rfl

set_option maxRecDepth 20000 in
theorem j_X8_count_a_8 {d : Nat} (hd : 0 ≤ d) (h : AH) (a : Int32) (x : Nat) (y : Nat) (F : Nat → Value) (ho : h.1 65 = ob 8 (fo 53 F)) (c : a = 7) (v48 : Int32) (e48 : F 48 = .int v48) : E false mX8_count d 0 [(0, .ref 65), (1, .int a)] [] h (some (.int v48)) (hs h 65 (ob 8 (fo 53 (va_up F 0 (.int 0))))) := by
  refine E.st (s_aload_n (q := 1) dX8_count_0 rfl rfl) ?_
  refine E.st (s_iconst (q := 2) (v := 0) dX8_count_1 rfl (by decide)) ?_
  refine E.st (s_pf (q := 5) dX8_count_2 rfl fX8_97 (ho) (by decide) (fun _ => ⟨rfl, rfl⟩)) ?_
  refine E.st (s_iload_n (q := 6) dX8_count_5 rfl rfl) ?_
  refine E.st (s_tabIn (q := 91) (off := 85) dX8_count_6 (by rw [c]; decide) (by rw [c]; decide) (by rw [c]; rfl) (by decide)) ?_
  refine E.st (s_aload_n (q := 92) dX8_count_91 rfl rfl) ?_
  refine E.st (s_gf (q := 95) (v := .int v48) dX8_count_92 rfl fX8_240.l (hs_eq) (by decide) ((up_ne (by decide)).trans (e48))) ?_
  exact E.i dX8_count_95 rfl rfl rfl rfl

set_option maxRecDepth 20000 in
theorem j_X8_count_a_9 {d : Nat} (hd : 0 ≤ d) (h : AH) (a : Int32) (x : Nat) (y : Nat) (F : Nat → Value) (ho : h.1 65 = ob 8 (fo 53 F)) (c : a = 8) (v50 : Int32) (e50 : F 50 = .int v50) : E false mX8_count d 0 [(0, .ref 65), (1, .int a)] [] h (some (.int v50)) (hs h 65 (ob 8 (fo 53 (va_up F 0 (.int 0))))) := by
  refine E.st (s_aload_n (q := 1) dX8_count_0 rfl rfl) ?_
  refine E.st (s_iconst (q := 2) (v := 0) dX8_count_1 rfl (by decide)) ?_
  refine E.st (s_pf (q := 5) dX8_count_2 rfl fX8_97 (ho) (by decide) (fun _ => ⟨rfl, rfl⟩)) ?_
  refine E.st (s_iload_n (q := 6) dX8_count_5 rfl rfl) ?_
  refine E.st (s_tabIn (q := 96) (off := 90) dX8_count_6 (by rw [c]; decide) (by rw [c]; decide) (by rw [c]; rfl) (by decide)) ?_
  refine E.st (s_aload_n (q := 97) dX8_count_96 rfl rfl) ?_
  refine E.st (s_gf (q := 100) (v := .int v50) dX8_count_97 rfl fX8_243.l (hs_eq) (by decide) ((up_ne (by decide)).trans (e50))) ?_
  exact E.i dX8_count_100 rfl rfl rfl rfl

set_option maxRecDepth 20000 in
theorem j_X8_count_a_10 {d : Nat} (hd : 0 ≤ d) (h : AH) (a : Int32) (x : Nat) (y : Nat) (F : Nat → Value) (ho : h.1 65 = ob 8 (fo 53 F)) (c : a.toInt < 0 ∨ 8 < a.toInt) : E false mX8_count d 0 [(0, .ref 65), (1, .int a)] [] h (some (.int (-1))) (hs h 65 (ob 8 (fo 53 (va_up F 0 (.int 0))))) := by
  refine E.st (s_aload_n (q := 1) dX8_count_0 rfl rfl) ?_
  refine E.st (s_iconst (q := 2) (v := 0) dX8_count_1 rfl (by decide)) ?_
  refine E.st (s_pf (q := 5) dX8_count_2 rfl fX8_97 (ho) (by decide) (fun _ => ⟨rfl, rfl⟩)) ?_
  refine E.st (s_iload_n (q := 6) dX8_count_5 rfl rfl) ?_
  refine E.st (s_tabOut (q := 101) dX8_count_6 c (by decide)) ?_
  refine E.st (s_iconst (q := 102) (v := (-1)) dX8_count_101 rfl (by decide)) ?_
  exact E.i dX8_count_102 rfl rfl rfl rfl

set_option maxRecDepth 20000 in
theorem j_X8_clear_a_1 {d : Nat} (hd : 1 ≤ d) (h : AH) (x : Nat) (y : Nat) (F : Nat → Value) (ho : h.1 65 = ob 8 (fo 53 F)) (v1 : Int32) (e1 : F 1 = .int v1) : E false mX8_clear d 0 [(0, .ref 65)] [] h (some (.int v1)) (hs (hs (hs (hs (hs (hs (hs (hs (hs (hs (hs (hs (hs (hs (hs (hs h 65 (ob 8 (fo 53 (va_up F 0 (.int 0))))) 65 (ob 8 (fo 53 (va_up (va_up F 0 (.int 0)) 1 (.int 0))))) 65 (ob 8 (fo 53 (va_up (va_up (va_up F 0 (.int 0)) 1 (.int 0)) 29 (.int 0))))) 65 (ob 8 (fo 53 (va_up (va_up (va_up (va_up F 0 (.int 0)) 1 (.int 0)) 29 (.int 0)) 30 (.int 0))))) 65 (ob 8 (fo 53 (va_up (va_up (va_up (va_up (va_up F 0 (.int 0)) 1 (.int 0)) 29 (.int 0)) 30 (.int 0)) 34 (.int 0))))) 65 (ob 8 (fo 53 (va_up (va_up (va_up (va_up (va_up (va_up F 0 (.int 0)) 1 (.int 0)) 29 (.int 0)) 30 (.int 0)) 34 (.int 0)) 37 (.int 0))))) 65 (ob 8 (fo 53 (va_up (va_up (va_up (va_up (va_up (va_up (va_up F 0 (.int 0)) 1 (.int 0)) 29 (.int 0)) 30 (.int 0)) 34 (.int 0)) 37 (.int 0)) 40 (.int 0))))) 65 (ob 8 (fo 53 (va_up (va_up (va_up (va_up (va_up (va_up (va_up (va_up F 0 (.int 0)) 1 (.int 0)) 29 (.int 0)) 30 (.int 0)) 34 (.int 0)) 37 (.int 0)) 40 (.int 0)) 41 (.int 0))))) 65 (ob 8 (fo 53 (va_up (va_up (va_up (va_up (va_up (va_up (va_up (va_up (va_up F 0 (.int 0)) 1 (.int 0)) 29 (.int 0)) 30 (.int 0)) 34 (.int 0)) 37 (.int 0)) 40 (.int 0)) 41 (.int 0)) 42 (.int 0))))) 65 (ob 8 (fo 53 (va_up (va_up (va_up (va_up (va_up (va_up (va_up (va_up (va_up (va_up F 0 (.int 0)) 1 (.int 0)) 29 (.int 0)) 30 (.int 0)) 34 (.int 0)) 37 (.int 0)) 40 (.int 0)) 41 (.int 0)) 42 (.int 0)) 43 (.int 0))))) 65 (ob 8 (fo 53 (va_up (va_up (va_up (va_up (va_up (va_up (va_up (va_up (va_up (va_up (va_up F 0 (.int 0)) 1 (.int 0)) 29 (.int 0)) 30 (.int 0)) 34 (.int 0)) 37 (.int 0)) 40 (.int 0)) 41 (.int 0)) 42 (.int 0)) 43 (.int 0)) 44 (.int 0))))) 65 (ob 8 (fo 53 (va_up (va_up (va_up (va_up (va_up (va_up (va_up (va_up (va_up (va_up (va_up (va_up F 0 (.int 0)) 1 (.int 0)) 29 (.int 0)) 30 (.int 0)) 34 (.int 0)) 37 (.int 0)) 40 (.int 0)) 41 (.int 0)) 42 (.int 0)) 43 (.int 0)) 44 (.int 0)) 45 (.int 0))))) 65 (ob 8 (fo 53 (va_up (va_up (va_up (va_up (va_up (va_up (va_up (va_up (va_up (va_up (va_up (va_up (va_up F 0 (.int 0)) 1 (.int 0)) 29 (.int 0)) 30 (.int 0)) 34 (.int 0)) 37 (.int 0)) 40 (.int 0)) 41 (.int 0)) 42 (.int 0)) 43 (.int 0)) 44 (.int 0)) 45 (.int 0)) 46 (.int 0))))) 65 (ob 8 (fo 53 (va_up (va_up (va_up (va_up (va_up (va_up (va_up (va_up (va_up (va_up (va_up (va_up (va_up (va_up F 0 (.int 0)) 1 (.int 0)) 29 (.int 0)) 30 (.int 0)) 34 (.int 0)) 37 (.int 0)) 40 (.int 0)) 41 (.int 0)) 42 (.int 0)) 43 (.int 0)) 44 (.int 0)) 45 (.int 0)) 46 (.int 0)) 47 (.int 0))))) 65 (ob 8 (fo 53 (va_up (va_up (va_up (va_up (va_up (va_up (va_up (va_up (va_up (va_up (va_up (va_up (va_up (va_up (va_up F 0 (.int 0)) 1 (.int 0)) 29 (.int 0)) 30 (.int 0)) 34 (.int 0)) 37 (.int 0)) 40 (.int 0)) 41 (.int 0)) 42 (.int 0)) 43 (.int 0)) 44 (.int 0)) 45 (.int 0)) 46 (.int 0)) 47 (.int 0)) 48 (.int 0))))) 65 (ob 8 (fo 53 (va_up (va_up (va_up (va_up (va_up (va_up (va_up (va_up (va_up (va_up (va_up (va_up (va_up (va_up (va_up (va_up F 0 (.int 0)) 1 (.int 0)) 29 (.int 0)) 30 (.int 0)) 34 (.int 0)) 37 (.int 0)) 40 (.int 0)) 41 (.int 0)) 42 (.int 0)) 43 (.int 0)) 44 (.int 0)) 45 (.int 0)) 46 (.int 0)) 47 (.int 0)) 48 (.int 0)) 50 (.int 0))))) := by
  refine E.st (s_aload_n (q := 1) dX8_clear_0 rfl rfl) ?_
  refine E.st (s_iconst (q := 2) (v := 0) dX8_clear_1 rfl (by decide)) ?_
  refine E.st (s_pf (q := 5) dX8_clear_2 rfl fX8_97 (ho) (by decide) (fun _ => ⟨rfl, rfl⟩)) ?_
  refine E.st (s_aload_n (q := 6) dX8_clear_5 rfl rfl) ?_
  refine E.st (s_gf (q := 9) (v := .int v1) dX8_clear_6 rfl fX8_101.l (hs_eq) (by decide) ((up_ne (by decide)).trans (e1))) ?_
  refine E.st (s_istore_n (q := 10) (ls' := [(1, .int v1), (0, .ref 65)]) dX8_clear_9 rfl (by decide) rfl) ?_
  refine E.st (s_aload_n (q := 11) dX8_clear_10 rfl rfl) ?_
  refine E.st (s_iconst (q := 12) (v := 0) dX8_clear_11 rfl (by decide)) ?_
  refine E.st (s_pf (q := 15) dX8_clear_12 rfl fX8_101 (hs_eq) (by decide) (fun _ => ⟨rfl, rfl⟩)) ?_
  refine E.st (s_aload_n (q := 16) dX8_clear_15 rfl rfl) ?_
  refine E.st (p2 := 19) (l2 := [(1, .int v1), (0, .ref 65)]) (s2 := []) (h2 := (hs (hs (hs (hs (hs (hs (hs (hs (hs (hs (hs (hs (hs (hs (hs (hs h 65 (ob 8 (fo 53 (va_up F 0 (.int 0))))) 65 (ob 8 (fo 53 (va_up (va_up F 0 (.int 0)) 1 (.int 0))))) 65 (ob 8 (fo 53 (va_up (va_up (va_up F 0 (.int 0)) 1 (.int 0)) 29 (.int 0))))) 65 (ob 8 (fo 53 (va_up (va_up (va_up (va_up F 0 (.int 0)) 1 (.int 0)) 29 (.int 0)) 30 (.int 0))))) 65 (ob 8 (fo 53 (va_up (va_up (va_up (va_up (va_up F 0 (.int 0)) 1 (.int 0)) 29 (.int 0)) 30 (.int 0)) 34 (.int 0))))) 65 (ob 8 (fo 53 (va_up (va_up (va_up (va_up (va_up (va_up F 0 (.int 0)) 1 (.int 0)) 29 (.int 0)) 30 (.int 0)) 34 (.int 0)) 37 (.int 0))))) 65 (ob 8 (fo 53 (va_up (va_up (va_up (va_up (va_up (va_up (va_up F 0 (.int 0)) 1 (.int 0)) 29 (.int 0)) 30 (.int 0)) 34 (.int 0)) 37 (.int 0)) 40 (.int 0))))) 65 (ob 8 (fo 53 (va_up (va_up (va_up (va_up (va_up (va_up (va_up (va_up F 0 (.int 0)) 1 (.int 0)) 29 (.int 0)) 30 (.int 0)) 34 (.int 0)) 37 (.int 0)) 40 (.int 0)) 41 (.int 0))))) 65 (ob 8 (fo 53 (va_up (va_up (va_up (va_up (va_up (va_up (va_up (va_up (va_up F 0 (.int 0)) 1 (.int 0)) 29 (.int 0)) 30 (.int 0)) 34 (.int 0)) 37 (.int 0)) 40 (.int 0)) 41 (.int 0)) 42 (.int 0))))) 65 (ob 8 (fo 53 (va_up (va_up (va_up (va_up (va_up (va_up (va_up (va_up (va_up (va_up F 0 (.int 0)) 1 (.int 0)) 29 (.int 0)) 30 (.int 0)) 34 (.int 0)) 37 (.int 0)) 40 (.int 0)) 41 (.int 0)) 42 (.int 0)) 43 (.int 0))))) 65 (ob 8 (fo 53 (va_up (va_up (va_up (va_up (va_up (va_up (va_up (va_up (va_up (va_up (va_up F 0 (.int 0)) 1 (.int 0)) 29 (.int 0)) 30 (.int 0)) 34 (.int 0)) 37 (.int 0)) 40 (.int 0)) 41 (.int 0)) 42 (.int 0)) 43 (.int 0)) 44 (.int 0))))) 65 (ob 8 (fo 53 (va_up (va_up (va_up (va_up (va_up (va_up (va_up (va_up (va_up (va_up (va_up (va_up F 0 (.int 0)) 1 (.int 0)) 29 (.int 0)) 30 (.int 0)) 34 (.int 0)) 37 (.int 0)) 40 (.int 0)) 41 (.int 0)) 42 (.int 0)) 43 (.int 0)) 44 (.int 0)) 45 (.int 0))))) 65 (ob 8 (fo 53 (va_up (va_up (va_up (va_up (va_up (va_up (va_up (va_up (va_up (va_up (va_up (va_up (va_up F 0 (.int 0)) 1 (.int 0)) 29 (.int 0)) 30 (.int 0)) 34 (.int 0)) 37 (.int 0)) 40 (.int 0)) 41 (.int 0)) 42 (.int 0)) 43 (.int 0)) 44 (.int 0)) 45 (.int 0)) 46 (.int 0))))) 65 (ob 8 (fo 53 (va_up (va_up (va_up (va_up (va_up (va_up (va_up (va_up (va_up (va_up (va_up (va_up (va_up (va_up F 0 (.int 0)) 1 (.int 0)) 29 (.int 0)) 30 (.int 0)) 34 (.int 0)) 37 (.int 0)) 40 (.int 0)) 41 (.int 0)) 42 (.int 0)) 43 (.int 0)) 44 (.int 0)) 45 (.int 0)) 46 (.int 0)) 47 (.int 0))))) 65 (ob 8 (fo 53 (va_up (va_up (va_up (va_up (va_up (va_up (va_up (va_up (va_up (va_up (va_up (va_up (va_up (va_up (va_up F 0 (.int 0)) 1 (.int 0)) 29 (.int 0)) 30 (.int 0)) 34 (.int 0)) 37 (.int 0)) 40 (.int 0)) 41 (.int 0)) 42 (.int 0)) 43 (.int 0)) 44 (.int 0)) 45 (.int 0)) 46 (.int 0)) 47 (.int 0)) 48 (.int 0))))) 65 (ob 8 (fo 53 (va_up (va_up (va_up (va_up (va_up (va_up (va_up (va_up (va_up (va_up (va_up (va_up (va_up (va_up (va_up (va_up F 0 (.int 0)) 1 (.int 0)) 29 (.int 0)) 30 (.int 0)) 34 (.int 0)) 37 (.int 0)) 40 (.int 0)) 41 (.int 0)) 42 (.int 0)) 43 (.int 0)) 44 (.int 0)) 45 (.int 0)) 46 (.int 0)) 47 (.int 0)) 48 (.int 0)) 50 (.int 0)))))) (s_invv (K := mX8_forget) (o := 65) (as := []) (rest := []) (v := none) dX8_clear_16 rfl lX8_116 (by omega) rfl (Nat.le_of_ble_eq_true rfl) rfl (Nat.le_of_ble_eq_true rfl) (hs_eq) (p_X8_forget_1 (d := 0) (Nat.le_refl _) (hs (hs h 65 (ob 8 (fo 53 (va_up F 0 (.int 0))))) 65 (ob 8 (fo 53 (va_up (va_up F 0 (.int 0)) 1 (.int 0))))) 65 (va_up (va_up F 0 (.int 0)) 1 (.int 0)) hs_eq) (fun h => nomatch h)) ?_
  refine E.st (s_iload_n (q := 20) dX8_clear_19 rfl rfl) ?_
  exact E.i dX8_clear_20 rfl rfl rfl rfl

set_option maxRecDepth 20000 in
theorem j_X8_token__a_1 {d : Nat} (hd : 0 ≤ d) (h : AH) (a : Int32) (b : Int32) (x : Nat) (y : Nat) (c : a < 0) (F : Nat → Value) (ho : h.1 65 = ob 8 (fo 53 F)) : E false mX8_token_ d 0 [(0, .ref 65), (1, .int a), (2, .int b)] [] h (some (.long 0)) (hs h 65 (ob 8 (fo 53 (va_up F 0 (.int 1))))) := by
  refine E.st (s_aload_n (q := 1) dX8_token__0 rfl rfl) ?_
  refine E.st (s_iload_n (q := 2) dX8_token__1 rfl rfl) ?_
  refine E.st (s_if_lt_t (q := 22) dX8_token__2 (by decide) c) ?_
  refine E.st (s_iconst (q := 23) (v := 1) dX8_token__22 rfl (by decide)) ?_
  refine E.st (s_goto (q := 27) dX8_token__23 (by decide)) ?_
  refine E.st (s_pf (q := 30) dX8_token__27 rfl fX8_97 (ho) (by decide) (fun _ => ⟨rfl, rfl⟩)) ?_
  refine E.st (s_aload_n (q := 31) dX8_token__30 rfl rfl) ?_
  refine E.st (s_gf (q := 34) (v := .int 1) dX8_token__31 rfl fX8_97.l (hs_eq) (by decide) (up_eq)) ?_
  refine E.st (s_if_le_f (q := 37) (tg := 41) dX8_token__34 (by decide) rfl (by decide)) ?_
  refine E.st (s_lconst (q := 38) (v := 0) dX8_token__37 rfl (by decide)) ?_
  refine E.st (s_goto (q := 61) dX8_token__38 (by decide)) ?_
  exact E.l dX8_token__61 rfl rfl rfl

set_option maxRecDepth 20000 in
theorem j_X8_token__a_2 {d : Nat} (hd : 0 ≤ d) (h : AH) (a : Int32) (b : Int32) (x : Nat) (y : Nat) (c : ¬ (a < 0)) (F : Nat → Value) (ho : h.1 65 = ob 8 (fo 53 F)) (v50 : Int32) (e50 : F 50 = .int v50) (c1 : v50 ≤ a) : E false mX8_token_ d 0 [(0, .ref 65), (1, .int a), (2, .int b)] [] h (some (.long 0)) (hs h 65 (ob 8 (fo 53 (va_up F 0 (.int 1))))) := by
  refine E.st (s_aload_n (q := 1) dX8_token__0 rfl rfl) ?_
  refine E.st (s_iload_n (q := 2) dX8_token__1 rfl rfl) ?_
  refine E.st (s_if_lt_f (q := 5) (tg := 22) dX8_token__2 (by decide) rfl c) ?_
  refine E.st (s_iload_n (q := 6) dX8_token__5 rfl rfl) ?_
  refine E.st (s_aload_n (q := 7) dX8_token__6 rfl rfl) ?_
  refine E.st (s_gf (q := 10) (v := .int v50) dX8_token__7 rfl fX8_243.l (ho) (by decide) (e50)) ?_
  refine E.st (s_icmp_ge_t (q := 22) dX8_token__10 (by decide) c1) ?_
  refine E.st (s_iconst (q := 23) (v := 1) dX8_token__22 rfl (by decide)) ?_
  refine E.st (s_goto (q := 27) dX8_token__23 (by decide)) ?_
  refine E.st (s_pf (q := 30) dX8_token__27 rfl fX8_97 (ho) (by decide) (fun _ => ⟨rfl, rfl⟩)) ?_
  refine E.st (s_aload_n (q := 31) dX8_token__30 rfl rfl) ?_
  refine E.st (s_gf (q := 34) (v := .int 1) dX8_token__31 rfl fX8_97.l (hs_eq) (by decide) (up_eq)) ?_
  refine E.st (s_if_le_f (q := 37) (tg := 41) dX8_token__34 (by decide) rfl (by decide)) ?_
  refine E.st (s_lconst (q := 38) (v := 0) dX8_token__37 rfl (by decide)) ?_
  refine E.st (s_goto (q := 61) dX8_token__38 (by decide)) ?_
  exact E.l dX8_token__61 rfl rfl rfl

set_option maxRecDepth 20000 in
theorem j_X8_token__a_3 {d : Nat} (hd : 0 ≤ d) (h : AH) (a : Int32) (b : Int32) (x : Nat) (y : Nat) (c : ¬ (a < 0)) (F : Nat → Value) (ho : h.1 65 = ob 8 (fo 53 F)) (v50 : Int32) (e50 : F 50 = .int v50) (c1 : ¬ (v50 ≤ a)) (c2 : b < 0) : E false mX8_token_ d 0 [(0, .ref 65), (1, .int a), (2, .int b)] [] h (some (.long 0)) (hs h 65 (ob 8 (fo 53 (va_up F 0 (.int 1))))) := by
  refine E.st (s_aload_n (q := 1) dX8_token__0 rfl rfl) ?_
  refine E.st (s_iload_n (q := 2) dX8_token__1 rfl rfl) ?_
  refine E.st (s_if_lt_f (q := 5) (tg := 22) dX8_token__2 (by decide) rfl c) ?_
  refine E.st (s_iload_n (q := 6) dX8_token__5 rfl rfl) ?_
  refine E.st (s_aload_n (q := 7) dX8_token__6 rfl rfl) ?_
  refine E.st (s_gf (q := 10) (v := .int v50) dX8_token__7 rfl fX8_243.l (ho) (by decide) (e50)) ?_
  refine E.st (s_icmp_ge_f (q := 13) (tg := 22) dX8_token__10 (by decide) rfl c1) ?_
  refine E.st (s_iload_n (q := 14) dX8_token__13 rfl rfl) ?_
  refine E.st (s_if_lt_t (q := 22) dX8_token__14 (by decide) c2) ?_
  refine E.st (s_iconst (q := 23) (v := 1) dX8_token__22 rfl (by decide)) ?_
  refine E.st (s_goto (q := 27) dX8_token__23 (by decide)) ?_
  refine E.st (s_pf (q := 30) dX8_token__27 rfl fX8_97 (ho) (by decide) (fun _ => ⟨rfl, rfl⟩)) ?_
  refine E.st (s_aload_n (q := 31) dX8_token__30 rfl rfl) ?_
  refine E.st (s_gf (q := 34) (v := .int 1) dX8_token__31 rfl fX8_97.l (hs_eq) (by decide) (up_eq)) ?_
  refine E.st (s_if_le_f (q := 37) (tg := 41) dX8_token__34 (by decide) rfl (by decide)) ?_
  refine E.st (s_lconst (q := 38) (v := 0) dX8_token__37 rfl (by decide)) ?_
  refine E.st (s_goto (q := 61) dX8_token__38 (by decide)) ?_
  exact E.l dX8_token__61 rfl rfl rfl

set_option maxRecDepth 20000 in
theorem j_X8_token__a_4 {d : Nat} (hd : 0 ≤ d) (h : AH) (a : Int32) (b : Int32) (x : Nat) (y : Nat) (c : ¬ (a < 0)) (F : Nat → Value) (ho : h.1 65 = ob 8 (fo 53 F)) (v50 : Int32) (e50 : F 50 = .int v50) (c1 : ¬ (v50 ≤ a)) (c2 : ¬ (b < 0)) (c3 : b ≤ 1) (c4 : ¬ b = 0) (e52 : F 52 = .ref 93) (n : Nat) (f : Nat → Int64) (ha : h.1 93 = la n f) (i : vp_in a n) : E false mX8_token_ d 0 [(0, .ref 65), (1, .int a), (2, .int b)] [] h (some (.long (f a.toNatClampNeg))) (hs h 65 (ob 8 (fo 53 (va_up F 0 (.int 0))))) := by
  refine E.st (s_aload_n (q := 1) dX8_token__0 rfl rfl) ?_
  refine E.st (s_iload_n (q := 2) dX8_token__1 rfl rfl) ?_
  refine E.st (s_if_lt_f (q := 5) (tg := 22) dX8_token__2 (by decide) rfl c) ?_
  refine E.st (s_iload_n (q := 6) dX8_token__5 rfl rfl) ?_
  refine E.st (s_aload_n (q := 7) dX8_token__6 rfl rfl) ?_
  refine E.st (s_gf (q := 10) (v := .int v50) dX8_token__7 rfl fX8_243.l (ho) (by decide) (e50)) ?_
  refine E.st (s_icmp_ge_f (q := 13) (tg := 22) dX8_token__10 (by decide) rfl c1) ?_
  refine E.st (s_iload_n (q := 14) dX8_token__13 rfl rfl) ?_
  refine E.st (s_if_lt_f (q := 17) (tg := 22) dX8_token__14 (by decide) rfl c2) ?_
  refine E.st (s_iload_n (q := 18) dX8_token__17 rfl rfl) ?_
  refine E.st (s_iconst (q := 19) (v := 1) dX8_token__18 rfl (by decide)) ?_
  refine E.st (s_icmp_le_t (q := 26) dX8_token__19 (by decide) c3) ?_
  refine E.st (s_iconst (q := 27) (v := 0) dX8_token__26 rfl (by decide)) ?_
  refine E.st (s_pf (q := 30) dX8_token__27 rfl fX8_97 (ho) (by decide) (fun _ => ⟨rfl, rfl⟩)) ?_
  refine E.st (s_aload_n (q := 31) dX8_token__30 rfl rfl) ?_
  refine E.st (s_gf (q := 34) (v := .int 0) dX8_token__31 rfl fX8_97.l (hs_eq) (by decide) (up_eq)) ?_
  refine E.st (s_if_le_t (q := 41) dX8_token__34 (by decide) (by decide)) ?_
  refine E.st (s_iload_n (q := 42) dX8_token__41 rfl rfl) ?_
  refine E.st (s_if_ne_t (q := 55) dX8_token__42 (by decide) c4) ?_
  refine E.st (s_aload_n (q := 56) dX8_token__55 rfl rfl) ?_
  refine E.st (s_gf (q := 59) (v := .ref 93) dX8_token__56 rfl fX8_94.l (hs_eq) (by decide) ((up_ne (by decide)).trans (e52))) ?_
  refine E.st (s_iload_n (q := 60) dX8_token__59 rfl rfl) ?_
  refine E.st (s_lald (q := 61) dX8_token__60 rfl ((hs_ne (by decide)).trans (ha)) i) ?_
  exact E.l dX8_token__61 rfl rfl rfl

set_option maxRecDepth 20000 in
theorem j_X8_token__a_5 {d : Nat} (hd : 0 ≤ d) (h : AH) (a : Int32) (b : Int32) (x : Nat) (y : Nat) (c : ¬ (a < 0)) (F : Nat → Value) (ho : h.1 65 = ob 8 (fo 53 F)) (v50 : Int32) (e50 : F 50 = .int v50) (c1 : ¬ (v50 ≤ a)) (c2 : ¬ (b < 0)) (c3 : b ≤ 1) (c4 : b = 0) (e51 : F 51 = .ref 92) (n : Nat) (f : Nat → Int32) (ha : h.1 92 = ia n f) (i : vp_in a n) : E false mX8_token_ d 0 [(0, .ref 65), (1, .int a), (2, .int b)] [] h (some (.long ((f a.toNatClampNeg).toInt64))) (hs h 65 (ob 8 (fo 53 (va_up F 0 (.int 0))))) := by
  refine E.st (s_aload_n (q := 1) dX8_token__0 rfl rfl) ?_
  refine E.st (s_iload_n (q := 2) dX8_token__1 rfl rfl) ?_
  refine E.st (s_if_lt_f (q := 5) (tg := 22) dX8_token__2 (by decide) rfl c) ?_
  refine E.st (s_iload_n (q := 6) dX8_token__5 rfl rfl) ?_
  refine E.st (s_aload_n (q := 7) dX8_token__6 rfl rfl) ?_
  refine E.st (s_gf (q := 10) (v := .int v50) dX8_token__7 rfl fX8_243.l (ho) (by decide) (e50)) ?_
  refine E.st (s_icmp_ge_f (q := 13) (tg := 22) dX8_token__10 (by decide) rfl c1) ?_
  refine E.st (s_iload_n (q := 14) dX8_token__13 rfl rfl) ?_
  refine E.st (s_if_lt_f (q := 17) (tg := 22) dX8_token__14 (by decide) rfl c2) ?_
  refine E.st (s_iload_n (q := 18) dX8_token__17 rfl rfl) ?_
  refine E.st (s_iconst (q := 19) (v := 1) dX8_token__18 rfl (by decide)) ?_
  refine E.st (s_icmp_le_t (q := 26) dX8_token__19 (by decide) c3) ?_
  refine E.st (s_iconst (q := 27) (v := 0) dX8_token__26 rfl (by decide)) ?_
  refine E.st (s_pf (q := 30) dX8_token__27 rfl fX8_97 (ho) (by decide) (fun _ => ⟨rfl, rfl⟩)) ?_
  refine E.st (s_aload_n (q := 31) dX8_token__30 rfl rfl) ?_
  refine E.st (s_gf (q := 34) (v := .int 0) dX8_token__31 rfl fX8_97.l (hs_eq) (by decide) (up_eq)) ?_
  refine E.st (s_if_le_t (q := 41) dX8_token__34 (by decide) (by decide)) ?_
  refine E.st (s_iload_n (q := 42) dX8_token__41 rfl rfl) ?_
  refine E.st (s_if_ne_f (q := 45) (tg := 55) dX8_token__42 (by decide) rfl c4) ?_
  refine E.st (s_aload_n (q := 46) dX8_token__45 rfl rfl) ?_
  refine E.st (s_gf (q := 49) (v := .ref 92) dX8_token__46 rfl fX8_91.l (hs_eq) (by decide) ((up_ne (by decide)).trans (e51))) ?_
  refine E.st (s_iload_n (q := 50) dX8_token__49 rfl rfl) ?_
  refine E.st (s_iald (q := 51) dX8_token__50 rfl (by decide) ((hs_ne (by decide)).trans (ha)) i) ?_
  refine E.st (s_i2l (q := 52) dX8_token__51 rfl) ?_
  refine E.st (s_goto (q := 61) dX8_token__52 (by decide)) ?_
  exact E.l dX8_token__61 rfl rfl rfl

set_option maxRecDepth 20000 in
theorem j_X8_token__a_6 {d : Nat} (hd : 0 ≤ d) (h : AH) (a : Int32) (b : Int32) (x : Nat) (y : Nat) (c : ¬ (a < 0)) (F : Nat → Value) (ho : h.1 65 = ob 8 (fo 53 F)) (v50 : Int32) (e50 : F 50 = .int v50) (c1 : ¬ (v50 ≤ a)) (c2 : ¬ (b < 0)) (c3 : ¬ (b ≤ 1)) : E false mX8_token_ d 0 [(0, .ref 65), (1, .int a), (2, .int b)] [] h (some (.long 0)) (hs h 65 (ob 8 (fo 53 (va_up F 0 (.int 1))))) := by
  refine E.st (s_aload_n (q := 1) dX8_token__0 rfl rfl) ?_
  refine E.st (s_iload_n (q := 2) dX8_token__1 rfl rfl) ?_
  refine E.st (s_if_lt_f (q := 5) (tg := 22) dX8_token__2 (by decide) rfl c) ?_
  refine E.st (s_iload_n (q := 6) dX8_token__5 rfl rfl) ?_
  refine E.st (s_aload_n (q := 7) dX8_token__6 rfl rfl) ?_
  refine E.st (s_gf (q := 10) (v := .int v50) dX8_token__7 rfl fX8_243.l (ho) (by decide) (e50)) ?_
  refine E.st (s_icmp_ge_f (q := 13) (tg := 22) dX8_token__10 (by decide) rfl c1) ?_
  refine E.st (s_iload_n (q := 14) dX8_token__13 rfl rfl) ?_
  refine E.st (s_if_lt_f (q := 17) (tg := 22) dX8_token__14 (by decide) rfl c2) ?_
  refine E.st (s_iload_n (q := 18) dX8_token__17 rfl rfl) ?_
  refine E.st (s_iconst (q := 19) (v := 1) dX8_token__18 rfl (by decide)) ?_
  refine E.st (s_icmp_le_f (q := 22) (tg := 26) dX8_token__19 (by decide) rfl c3) ?_
  refine E.st (s_iconst (q := 23) (v := 1) dX8_token__22 rfl (by decide)) ?_
  refine E.st (s_goto (q := 27) dX8_token__23 (by decide)) ?_
  refine E.st (s_pf (q := 30) dX8_token__27 rfl fX8_97 (ho) (by decide) (fun _ => ⟨rfl, rfl⟩)) ?_
  refine E.st (s_aload_n (q := 31) dX8_token__30 rfl rfl) ?_
  refine E.st (s_gf (q := 34) (v := .int 1) dX8_token__31 rfl fX8_97.l (hs_eq) (by decide) (up_eq)) ?_
  refine E.st (s_if_le_f (q := 37) (tg := 41) dX8_token__34 (by decide) rfl (by decide)) ?_
  refine E.st (s_lconst (q := 38) (v := 0) dX8_token__37 rfl (by decide)) ?_
  refine E.st (s_goto (q := 61) dX8_token__38 (by decide)) ?_
  exact E.l dX8_token__61 rfl rfl rfl

set_option maxRecDepth 20000 in
theorem j_X8_thrown_a_1 {d : Nat} (hd : 0 ≤ d) (h : AH) (x : Nat) (y : Nat) (F : Nat → Value) (ho : h.1 65 = ob 8 (fo 53 F)) (v0 : Int32) (e0 : F 0 = .int v0) : E false mX8_thrown d 0 [(0, .ref 65)] [] h (some (.int v0)) h := by
  refine E.st (s_aload_n (q := 1) dX8_thrown_0 rfl rfl) ?_
  refine E.st (s_gf (q := 4) (v := .int v0) dX8_thrown_1 rfl fX8_97.l (ho) (by decide) (e0)) ?_
  exact E.i dX8_thrown_4 rfl rfl rfl rfl
