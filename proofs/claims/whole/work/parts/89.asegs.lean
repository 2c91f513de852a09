set_option maxRecDepth 20000 in
theorem j_X7_number_a_1 {d : Nat} (hd : 2 ≤ d) (h : AH) (v : Int64) (F : Nat → Value) (ho : h.1 1 = ob 7 (fo 2 F)) (e0 : F 0 = .ref 2) (F1 : Nat → Value) (ho1 : h.1 2 = ob 2 (fo 6 F1)) (v5 : Int32) (e5 : F1 5 = .int v5) (c : v5 < 60) (e01 : F1 0 = .ref 3) (n : Nat) (f : Nat → Int32) (ha : h.1 3 = ia n f) (c1 : vp_in v5 n) (e1 : F1 1 = .ref 4) (n1 : Nat) (f1 : Nat → Int32) (ha1 : h.1 4 = ia n1 f1) (c2 : vp_in v5 n1) (e2 : F1 2 = .ref 5) (n2 : Nat) (f2 : Nat → Int32) (ha2 : h.1 5 = ia n2 f2) (c3 : vp_in v5 n2) (e3 : F1 3 = .ref 6) (n3 : Nat) (f3 : Nat → Int32) (ha3 : h.1 6 = ia n3 f3) (c4 : vp_in v5 n3) (c5 : v5 < 0) : E false mX7_number d 0 [(0, .ref 1), (1, .long v)] [] h (some (.int v5)) (hs (hs (hs (hs (hs h 3 (ia n (upd f v5.toNatClampNeg (0 : Int32)))) 4 (ia n1 (upd f1 v5.toNatClampNeg (-1 : Int32)))) 5 (ia n2 (upd f2 v5.toNatClampNeg (-1 : Int32)))) 6 (ia n3 (upd f3 v5.toNatClampNeg (-1 : Int32)))) 2 (ob 2 (fo 6 (va_up F1 5 (.int (v5 + 1)))))) := by
  refine E.st (s_aload_n (q := 1) dX7_number_0 rfl rfl) ?_
  refine E.st (s_gf (q := 4) (v := .ref 2) dX7_number_1 rfl fX7_10.l (ho) (by decide) (e0)) ?_
  refine E.st (s_lload_n (q := 5) dX7_number_4 rfl rfl) ?_
  refine E.st (p2 := 8) (l2 := [(0, .ref 1), (1, .long v)]) (s2 := [.int v5]) (h2 := (hs (hs (hs (hs (hs h 3 (ia n (upd f v5.toNatClampNeg (0 : Int32)))) 4 (ia n1 (upd f1 v5.toNatClampNeg (-1 : Int32)))) 5 (ia n2 (upd f2 v5.toNatClampNeg (-1 : Int32)))) 6 (ia n3 (upd f3 v5.toNatClampNeg (-1 : Int32)))) 2 (ob 2 (fo 6 (va_up F1 5 (.int (v5 + 1))))))) (s_invv (K := mX2_addNumber) (o := 2) (as := [.long v]) (rest := []) (v := some (.int v5)) dX7_number_5 rfl lX7_25 (by omega) rfl (Nat.le_of_ble_eq_true rfl) rfl (Nat.le_of_ble_eq_true rfl) (ho1) (p_X2_addNumber_1 (d := 1) (Nat.le_refl _) h 2 v F1 ho1 v5 e5 c 3 e01 n f ha c1 (by decide) 4 e1 n1 f1 ha1 (by decide) c2 (by decide) 5 e2 n2 f2 ha2 (by decide) (by decide) c3 (by decide) 6 e3 n3 f3 ha3 (by decide) (by decide) (by decide) c4 (by decide) c5) (fun h => nomatch h)) ?_
  exact E.i dX7_number_8 rfl rfl rfl rfl

set_option maxRecDepth 20000 in
theorem j_X7_number_a_2 {d : Nat} (hd : 2 ≤ d) (h : AH) (v : Int64) (F : Nat → Value) (ho : h.1 1 = ob 7 (fo 2 F)) (e0 : F 0 = .ref 2) (F1 : Nat → Value) (ho1 : h.1 2 = ob 2 (fo 6 F1)) (v5 : Int32) (e5 : F1 5 = .int v5) (c : v5 < 60) (e01 : F1 0 = .ref 3) (n : Nat) (f : Nat → Int32) (ha : h.1 3 = ia n f) (c1 : vp_in v5 n) (e1 : F1 1 = .ref 4) (n1 : Nat) (f1 : Nat → Int32) (ha1 : h.1 4 = ia n1 f1) (c2 : vp_in v5 n1) (e2 : F1 2 = .ref 5) (n2 : Nat) (f2 : Nat → Int32) (ha2 : h.1 5 = ia n2 f2) (c3 : vp_in v5 n2) (e3 : F1 3 = .ref 6) (n3 : Nat) (f3 : Nat → Int32) (ha3 : h.1 6 = ia n3 f3) (c4 : vp_in v5 n3) (c5 : ¬ (v5 < 0)) (e4 : F1 4 = .ref 7) (n4 : Nat) (f4 : Nat → Int64) (ha4 : h.1 7 = la n4 f4) (c6 : vp_in v5 n4) : E false mX7_number d 0 [(0, .ref 1), (1, .long v)] [] h (some (.int v5)) (hs (hs (hs (hs (hs (hs h 3 (ia n (upd f v5.toNatClampNeg (0 : Int32)))) 4 (ia n1 (upd f1 v5.toNatClampNeg (-1 : Int32)))) 5 (ia n2 (upd f2 v5.toNatClampNeg (-1 : Int32)))) 6 (ia n3 (upd f3 v5.toNatClampNeg (-1 : Int32)))) 2 (ob 2 (fo 6 (va_up F1 5 (.int (v5 + 1)))))) 7 (la n4 (vp_updL f4 v5.toNatClampNeg v))) := by
  refine E.st (s_aload_n (q := 1) dX7_number_0 rfl rfl) ?_
  refine E.st (s_gf (q := 4) (v := .ref 2) dX7_number_1 rfl fX7_10.l (ho) (by decide) (e0)) ?_
  refine E.st (s_lload_n (q := 5) dX7_number_4 rfl rfl) ?_
  refine E.st (p2 := 8) (l2 := [(0, .ref 1), (1, .long v)]) (s2 := [.int v5]) (h2 := (hs (hs (hs (hs (hs (hs h 3 (ia n (upd f v5.toNatClampNeg (0 : Int32)))) 4 (ia n1 (upd f1 v5.toNatClampNeg (-1 : Int32)))) 5 (ia n2 (upd f2 v5.toNatClampNeg (-1 : Int32)))) 6 (ia n3 (upd f3 v5.toNatClampNeg (-1 : Int32)))) 2 (ob 2 (fo 6 (va_up F1 5 (.int (v5 + 1)))))) 7 (la n4 (vp_updL f4 v5.toNatClampNeg v)))) (s_invv (K := mX2_addNumber) (o := 2) (as := [.long v]) (rest := []) (v := some (.int v5)) dX7_number_5 rfl lX7_25 (by omega) rfl (Nat.le_of_ble_eq_true rfl) rfl (Nat.le_of_ble_eq_true rfl) (ho1) (p_X2_addNumber_2 (d := 1) (Nat.le_refl _) h 2 v F1 ho1 v5 e5 c 3 e01 n f ha c1 (by decide) 4 e1 n1 f1 ha1 (by decide) c2 (by decide) 5 e2 n2 f2 ha2 (by decide) (by decide) c3 (by decide) 6 e3 n3 f3 ha3 (by decide) (by decide) (by decide) c4 (by decide) c5 7 e4 n4 f4 ha4 c6) (fun h => nomatch h)) ?_
  exact E.i dX7_number_8 rfl rfl rfl rfl

set_option maxRecDepth 20000 in
theorem j_X7_number_a_3 {d : Nat} (hd : 2 ≤ d) (h : AH) (v : Int64) (F : Nat → Value) (ho : h.1 1 = ob 7 (fo 2 F)) (e0 : F 0 = .ref 2) (F1 : Nat → Value) (ho1 : h.1 2 = ob 2 (fo 6 F1)) (v5 : Int32) (e5 : F1 5 = .int v5) (c : ¬ (v5 < 60)) : E false mX7_number d 0 [(0, .ref 1), (1, .long v)] [] h (some (.int (-1))) h := by
  refine E.st (s_aload_n (q := 1) dX7_number_0 rfl rfl) ?_
  refine E.st (s_gf (q := 4) (v := .ref 2) dX7_number_1 rfl fX7_10.l (ho) (by decide) (e0)) ?_
  refine E.st (s_lload_n (q := 5) dX7_number_4 rfl rfl) ?_
  refine E.st (p2 := 8) (l2 := [(0, .ref 1), (1, .long v)]) (s2 := [.int (-1)]) (h2 := h) (s_invv (K := mX2_addNumber) (o := 2) (as := [.long v]) (rest := []) (v := some (.int (-1))) dX7_number_5 rfl lX7_25 (by omega) rfl (Nat.le_of_ble_eq_true rfl) rfl (Nat.le_of_ble_eq_true rfl) (ho1) (p_X2_addNumber_3 (d := 1) (Nat.le_refl _) h 2 v F1 ho1 v5 e5 c) (fun h => nomatch h)) ?_
  exact E.i dX7_number_8 rfl rfl rfl rfl

set_option maxRecDepth 20000 in
theorem j_X7_fail_a_1 {d : Nat} (hd : 1 ≤ d) (h : AH) (F : Nat → Value) (ho : h.1 1 = ob 7 (fo 2 F)) (e0 : F 0 = .ref 2) (F1 : Nat → Value) (ho1 : h.1 2 = ob 2 (fo 6 F1)) (v5 : Int32) (e5 : F1 5 = .int v5) (c : v5 < 60) (e01 : F1 0 = .ref 3) (n : Nat) (f : Nat → Int32) (ha : h.1 3 = ia n f) (c1 : vp_in v5 n) (e1 : F1 1 = .ref 4) (n1 : Nat) (f1 : Nat → Int32) (ha1 : h.1 4 = ia n1 f1) (c2 : vp_in v5 n1) (e2 : F1 2 = .ref 5) (n2 : Nat) (f2 : Nat → Int32) (ha2 : h.1 5 = ia n2 f2) (c3 : vp_in v5 n2) (e3 : F1 3 = .ref 6) (n3 : Nat) (f3 : Nat → Int32) (ha3 : h.1 6 = ia n3 f3) (c4 : vp_in v5 n3) : E false mX7_fail d 0 [(0, .ref 1)] [] h (some (.int v5)) (hs (hs (hs (hs (hs h 3 (ia n (upd f v5.toNatClampNeg (2 : Int32)))) 4 (ia n1 (upd f1 v5.toNatClampNeg (-1 : Int32)))) 5 (ia n2 (upd f2 v5.toNatClampNeg (-1 : Int32)))) 6 (ia n3 (upd f3 v5.toNatClampNeg (-1 : Int32)))) 2 (ob 2 (fo 6 (va_up F1 5 (.int (v5 + 1)))))) := by
  refine E.st (s_aload_n (q := 1) dX7_fail_0 rfl rfl) ?_
  refine E.st (s_gf (q := 4) (v := .ref 2) dX7_fail_1 rfl fX7_10.l (ho) (by decide) (e0)) ?_
  refine E.st (s_iconst (q := 5) (v := 2) dX7_fail_4 rfl (by decide)) ?_
  refine E.st (s_iconst (q := 6) (v := (-1)) dX7_fail_5 rfl (by decide)) ?_
  refine E.st (s_iconst (q := 7) (v := (-1)) dX7_fail_6 rfl (by decide)) ?_
  refine E.st (s_iconst (q := 8) (v := (-1)) dX7_fail_7 rfl (by decide)) ?_
  refine E.st (p2 := 11) (l2 := [(0, .ref 1)]) (s2 := [.int v5]) (h2 := (hs (hs (hs (hs (hs h 3 (ia n (upd f v5.toNatClampNeg (2 : Int32)))) 4 (ia n1 (upd f1 v5.toNatClampNeg (-1 : Int32)))) 5 (ia n2 (upd f2 v5.toNatClampNeg (-1 : Int32)))) 6 (ia n3 (upd f3 v5.toNatClampNeg (-1 : Int32)))) 2 (ob 2 (fo 6 (va_up F1 5 (.int (v5 + 1))))))) (s_invv (K := mX2_add) (o := 2) (as := [.int 2, .int (-1), .int (-1), .int (-1)]) (rest := []) (v := some (.int v5)) dX7_fail_8 rfl lX7_37 (by omega) rfl (Nat.le_of_ble_eq_true rfl) rfl (Nat.le_of_ble_eq_true rfl) (ho1) (p_X2_add_1 (d := 0) (Nat.le_refl _) h 2 (2 : Int32) (-1 : Int32) (-1 : Int32) (-1 : Int32) F1 ho1 v5 e5 c 3 e01 n f ha c1 (by decide) 4 e1 n1 f1 ha1 (by decide) c2 (by decide) 5 e2 n2 f2 ha2 (by decide) (by decide) c3 (by decide) 6 e3 n3 f3 ha3 (by decide) (by decide) (by decide) c4 (by decide)) (fun h => nomatch h)) ?_
  exact E.i dX7_fail_11 rfl rfl rfl rfl

set_option maxRecDepth 20000 in
theorem j_X7_fail_a_2 {d : Nat} (hd : 1 ≤ d) (h : AH) (F : Nat → Value) (ho : h.1 1 = ob 7 (fo 2 F)) (e0 : F 0 = .ref 2) (F1 : Nat → Value) (ho1 : h.1 2 = ob 2 (fo 6 F1)) (v5 : Int32) (e5 : F1 5 = .int v5) (c : ¬ (v5 < 60)) : E false mX7_fail d 0 [(0, .ref 1)] [] h (some (.int (-1))) h := by
  refine E.st (s_aload_n (q := 1) dX7_fail_0 rfl rfl) ?_
  refine E.st (s_gf (q := 4) (v := .ref 2) dX7_fail_1 rfl fX7_10.l (ho) (by decide) (e0)) ?_
  refine E.st (s_iconst (q := 5) (v := 2) dX7_fail_4 rfl (by decide)) ?_
  refine E.st (s_iconst (q := 6) (v := (-1)) dX7_fail_5 rfl (by decide)) ?_
  refine E.st (s_iconst (q := 7) (v := (-1)) dX7_fail_6 rfl (by decide)) ?_
  refine E.st (s_iconst (q := 8) (v := (-1)) dX7_fail_7 rfl (by decide)) ?_
  refine E.st (p2 := 11) (l2 := [(0, .ref 1)]) (s2 := [.int (-1)]) (h2 := h) (s_invv (K := mX2_add) (o := 2) (as := [.int 2, .int (-1), .int (-1), .int (-1)]) (rest := []) (v := some (.int (-1))) dX7_fail_8 rfl lX7_37 (by omega) rfl (Nat.le_of_ble_eq_true rfl) rfl (Nat.le_of_ble_eq_true rfl) (ho1) (p_X2_add_2 (d := 0) (Nat.le_refl _) h 2 (2 : Int32) (-1 : Int32) (-1 : Int32) (-1 : Int32) F1 ho1 v5 e5 c) (fun h => nomatch h)) ?_
  exact E.i dX7_fail_11 rfl rfl rfl rfl

set_option maxRecDepth 20000 in
theorem j_X7_choice_a_1 {d : Nat} (hd : 1 ≤ d) (h : AH) (a : Int32) (b : Int32) (F : Nat → Value) (ho : h.1 1 = ob 7 (fo 2 F)) (e0 : F 0 = .ref 2) (F1 : Nat → Value) (ho1 : h.1 2 = ob 2 (fo 6 F1)) (v5 : Int32) (e5 : F1 5 = .int v5) (c : a < 0 ∨ v5 ≤ a) : J false mX7_choice d 0 [(0, .ref 1), (1, .int a), (2, .int b)] [] h 27 [(0, .ref 1), (1, .int a), (2, .int b)] [.int 0] h := by
  refine J.tr (s_aload_n (q := 1) dX7_choice_0 rfl rfl) ?_
  refine J.tr (s_gf (q := 4) (v := .ref 2) dX7_choice_1 rfl fX7_10.l (ho) (by decide) (e0)) ?_
  refine J.tr (s_iload_n (q := 5) dX7_choice_4 rfl rfl) ?_
  refine J.tr (p2 := 8) (l2 := [(0, .ref 1), (1, .int a), (2, .int b)]) (s2 := [.int 0]) (h2 := h) (s_invv (K := mX2_has) (o := 2) (as := [.int a]) (rest := []) (v := some (.int 0)) dX7_choice_5 rfl lX7_29 (by omega) rfl (Nat.le_of_ble_eq_true rfl) rfl (Nat.le_of_ble_eq_true rfl) (ho1) (q_X2_has_n (d := 0) (Nat.le_refl _) h 2 a F1 ho1 v5 e5 c) (fun h => nomatch h)) ?_
  refine J.tr (s_if_eq_t (q := 26) dX7_choice_8 (by decide) (by decide)) ?_
  refine J.tr (s_iconst (q := 27) (v := 0) dX7_choice_26 rfl (by decide)) ?_
  refine J.tr (s_ls (ls' := [(0, .ref 1), (1, .int a), (2, .int b)]) [0, 1, 2] rfl) ?_
  exact J.rf

set_option maxRecDepth 20000 in
theorem j_X7_choice_a_2 {d : Nat} (hd : 1 ≤ d) (h : AH) (a : Int32) (b : Int32) (F : Nat → Value) (ho : h.1 1 = ob 7 (fo 2 F)) (e0 : F 0 = .ref 2) (F1 : Nat → Value) (ho1 : h.1 2 = ob 2 (fo 6 F1)) (v5 : Int32) (e5 : F1 5 = .int v5) (c : ¬ (a < 0) ∧ ¬ (v5 ≤ a)) (c1 : b < 0 ∨ v5 ≤ b) : J false mX7_choice d 0 [(0, .ref 1), (1, .int a), (2, .int b)] [] h 27 [(0, .ref 1), (1, .int a), (2, .int b)] [.int 0] h := by
  refine J.tr (s_aload_n (q := 1) dX7_choice_0 rfl rfl) ?_
  refine J.tr (s_gf (q := 4) (v := .ref 2) dX7_choice_1 rfl fX7_10.l (ho) (by decide) (e0)) ?_
  refine J.tr (s_iload_n (q := 5) dX7_choice_4 rfl rfl) ?_
  refine J.tr (p2 := 8) (l2 := [(0, .ref 1), (1, .int a), (2, .int b)]) (s2 := [.int 1]) (h2 := h) (s_invv (K := mX2_has) (o := 2) (as := [.int a]) (rest := []) (v := some (.int 1)) dX7_choice_5 rfl lX7_29 (by omega) rfl (Nat.le_of_ble_eq_true rfl) rfl (Nat.le_of_ble_eq_true rfl) (ho1) (q_X2_has_y (d := 0) (Nat.le_refl _) h 2 a F1 ho1 v5 e5 c) (fun h => nomatch h)) ?_
  refine J.tr (s_if_eq_f (q := 11) (tg := 26) dX7_choice_8 (by decide) rfl (by decide)) ?_
  refine J.tr (s_aload_n (q := 12) dX7_choice_11 rfl rfl) ?_
  refine J.tr (s_gf (q := 15) (v := .ref 2) dX7_choice_12 rfl fX7_10.l (ho) (by decide) (e0)) ?_
  refine J.tr (s_iload_n (q := 16) dX7_choice_15 rfl rfl) ?_
  refine J.tr (p2 := 19) (l2 := [(0, .ref 1), (1, .int a), (2, .int b)]) (s2 := [.int 0]) (h2 := h) (s_invv (K := mX2_has) (o := 2) (as := [.int b]) (rest := []) (v := some (.int 0)) dX7_choice_16 rfl lX7_29 (by omega) rfl (Nat.le_of_ble_eq_true rfl) rfl (Nat.le_of_ble_eq_true rfl) (ho1) (q_X2_has_n (d := 0) (Nat.le_refl _) h 2 b F1 ho1 v5 e5 c1) (fun h => nomatch h)) ?_
  refine J.tr (s_if_eq_t (q := 26) dX7_choice_19 (by decide) (by decide)) ?_
  refine J.tr (s_iconst (q := 27) (v := 0) dX7_choice_26 rfl (by decide)) ?_
  refine J.tr (s_ls (ls' := [(0, .ref 1), (1, .int a), (2, .int b)]) [0, 1, 2] rfl) ?_
  exact J.rf

set_option maxRecDepth 20000 in
theorem j_X7_choice_a_3 {d : Nat} (hd : 1 ≤ d) (h : AH) (a : Int32) (b : Int32) (F : Nat → Value) (ho : h.1 1 = ob 7 (fo 2 F)) (e0 : F 0 = .ref 2) (F1 : Nat → Value) (ho1 : h.1 2 = ob 2 (fo 6 F1)) (v5 : Int32) (e5 : F1 5 = .int v5) (c : ¬ (a < 0) ∧ ¬ (v5 ≤ a)) (c1 : ¬ (b < 0) ∧ ¬ (v5 ≤ b)) : J false mX7_choice d 0 [(0, .ref 1), (1, .int a), (2, .int b)] [] h 27 [(0, .ref 1), (1, .int a), (2, .int b)] [.int 1] h := by
  refine J.tr (s_aload_n (q := 1) dX7_choice_0 rfl rfl) ?_
  refine J.tr (s_gf (q := 4) (v := .ref 2) dX7_choice_1 rfl fX7_10.l (ho) (by decide) (e0)) ?_
  refine J.tr (s_iload_n (q := 5) dX7_choice_4 rfl rfl) ?_
  refine J.tr (p2 := 8) (l2 := [(0, .ref 1), (1, .int a), (2, .int b)]) (s2 := [.int 1]) (h2 := h) (s_invv (K := mX2_has) (o := 2) (as := [.int a]) (rest := []) (v := some (.int 1)) dX7_choice_5 rfl lX7_29 (by omega) rfl (Nat.le_of_ble_eq_true rfl) rfl (Nat.le_of_ble_eq_true rfl) (ho1) (q_X2_has_y (d := 0) (Nat.le_refl _) h 2 a F1 ho1 v5 e5 c) (fun h => nomatch h)) ?_
  refine J.tr (s_if_eq_f (q := 11) (tg := 26) dX7_choice_8 (by decide) rfl (by decide)) ?_
  refine J.tr (s_aload_n (q := 12) dX7_choice_11 rfl rfl) ?_
  refine J.tr (s_gf (q := 15) (v := .ref 2) dX7_choice_12 rfl fX7_10.l (ho) (by decide) (e0)) ?_
  refine J.tr (s_iload_n (q := 16) dX7_choice_15 rfl rfl) ?_
  refine J.tr (p2 := 19) (l2 := [(0, .ref 1), (1, .int a), (2, .int b)]) (s2 := [.int 1]) (h2 := h) (s_invv (K := mX2_has) (o := 2) (as := [.int b]) (rest := []) (v := some (.int 1)) dX7_choice_16 rfl lX7_29 (by omega) rfl (Nat.le_of_ble_eq_true rfl) rfl (Nat.le_of_ble_eq_true rfl) (ho1) (q_X2_has_y (d := 0) (Nat.le_refl _) h 2 b F1 ho1 v5 e5 c1) (fun h => nomatch h)) ?_
  refine J.tr (s_if_eq_f (q := 22) (tg := 26) dX7_choice_19 (by decide) rfl (by decide)) ?_
  refine J.tr (s_iconst (q := 23) (v := 1) dX7_choice_22 rfl (by decide)) ?_
  refine J.tr (s_goto (q := 27) dX7_choice_23 (by decide)) ?_
  refine J.tr (s_ls (ls' := [(0, .ref 1), (1, .int a), (2, .int b)]) [0, 1, 2] rfl) ?_
  exact J.rf

set_option maxRecDepth 20000 in
theorem j_X7_choice_b_1 {d : Nat} (hd : 1 ≤ d) (h : AH) (a : Int32) (b : Int32) (F : Nat → Value) (ho : h.1 1 = ob 7 (fo 2 F)) (e0 : F 0 = .ref 2) (F1 : Nat → Value) (ho1 : h.1 2 = ob 2 (fo 6 F1)) (v5 : Int32) (e5 : F1 5 = .int v5) (c : v5 < 60) (e01 : F1 0 = .ref 3) (n : Nat) (f : Nat → Int32) (ha : h.1 3 = ia n f) (c1 : vp_in v5 n) (e1 : F1 1 = .ref 4) (n1 : Nat) (f1 : Nat → Int32) (ha1 : h.1 4 = ia n1 f1) (c2 : vp_in v5 n1) (e2 : F1 2 = .ref 5) (n2 : Nat) (f2 : Nat → Int32) (ha2 : h.1 5 = ia n2 f2) (c3 : vp_in v5 n2) (e3 : F1 3 = .ref 6) (n3 : Nat) (f3 : Nat → Int32) (ha3 : h.1 6 = ia n3 f3) (c4 : vp_in v5 n3) : E false mX7_choice d 30 [(0, .ref 1), (1, .int a), (2, .int b)] [] h (some (.int v5)) (hs (hs (hs (hs (hs h 3 (ia n (upd f v5.toNatClampNeg (1 : Int32)))) 4 (ia n1 (upd f1 v5.toNatClampNeg a))) 5 (ia n2 (upd f2 v5.toNatClampNeg b))) 6 (ia n3 (upd f3 v5.toNatClampNeg (-1 : Int32)))) 2 (ob 2 (fo 6 (va_up F1 5 (.int (v5 + 1)))))) := by
  refine E.st (s_aload_n (q := 31) dX7_choice_30 rfl rfl) ?_
  refine E.st (s_gf (q := 34) (v := .ref 2) dX7_choice_31 rfl fX7_10.l (ho) (by decide) (e0)) ?_
  refine E.st (s_iconst (q := 35) (v := 1) dX7_choice_34 rfl (by decide)) ?_
  refine E.st (s_iload_n (q := 36) dX7_choice_35 rfl rfl) ?_
  refine E.st (s_iload_n (q := 37) dX7_choice_36 rfl rfl) ?_
  refine E.st (s_iconst (q := 38) (v := (-1)) dX7_choice_37 rfl (by decide)) ?_
  refine E.st (p2 := 41) (l2 := [(0, .ref 1), (1, .int a), (2, .int b)]) (s2 := [.int v5]) (h2 := (hs (hs (hs (hs (hs h 3 (ia n (upd f v5.toNatClampNeg (1 : Int32)))) 4 (ia n1 (upd f1 v5.toNatClampNeg a))) 5 (ia n2 (upd f2 v5.toNatClampNeg b))) 6 (ia n3 (upd f3 v5.toNatClampNeg (-1 : Int32)))) 2 (ob 2 (fo 6 (va_up F1 5 (.int (v5 + 1))))))) (s_invv (K := mX2_add) (o := 2) (as := [.int 1, .int a, .int b, .int (-1)]) (rest := []) (v := some (.int v5)) dX7_choice_38 rfl lX7_37 (by omega) rfl (Nat.le_of_ble_eq_true rfl) rfl (Nat.le_of_ble_eq_true rfl) (ho1) (p_X2_add_1 (d := 0) (Nat.le_refl _) h 2 (1 : Int32) a b (-1 : Int32) F1 ho1 v5 e5 c 3 e01 n f ha c1 (by decide) 4 e1 n1 f1 ha1 (by decide) c2 (by decide) 5 e2 n2 f2 ha2 (by decide) (by decide) c3 (by decide) 6 e3 n3 f3 ha3 (by decide) (by decide) (by decide) c4 (by decide)) (fun h => nomatch h)) ?_
  exact E.i dX7_choice_41 rfl rfl rfl rfl

set_option maxRecDepth 20000 in
theorem j_X7_choice_b_2 {d : Nat} (hd : 1 ≤ d) (h : AH) (a : Int32) (b : Int32) (F : Nat → Value) (ho : h.1 1 = ob 7 (fo 2 F)) (e0 : F 0 = .ref 2) (F1 : Nat → Value) (ho1 : h.1 2 = ob 2 (fo 6 F1)) (v5 : Int32) (e5 : F1 5 = .int v5) (c : ¬ (v5 < 60)) : E false mX7_choice d 30 [(0, .ref 1), (1, .int a), (2, .int b)] [] h (some (.int (-1))) h := by
  refine E.st (s_aload_n (q := 31) dX7_choice_30 rfl rfl) ?_
  refine E.st (s_gf (q := 34) (v := .ref 2) dX7_choice_31 rfl fX7_10.l (ho) (by decide) (e0)) ?_
  refine E.st (s_iconst (q := 35) (v := 1) dX7_choice_34 rfl (by decide)) ?_
  refine E.st (s_iload_n (q := 36) dX7_choice_35 rfl rfl) ?_
  refine E.st (s_iload_n (q := 37) dX7_choice_36 rfl rfl) ?_
  refine E.st (s_iconst (q := 38) (v := (-1)) dX7_choice_37 rfl (by decide)) ?_
  refine E.st (p2 := 41) (l2 := [(0, .ref 1), (1, .int a), (2, .int b)]) (s2 := [.int (-1)]) (h2 := h) (s_invv (K := mX2_add) (o := 2) (as := [.int 1, .int a, .int b, .int (-1)]) (rest := []) (v := some (.int (-1))) dX7_choice_38 rfl lX7_37 (by omega) rfl (Nat.le_of_ble_eq_true rfl) rfl (Nat.le_of_ble_eq_true rfl) (ho1) (p_X2_add_2 (d := 0) (Nat.le_refl _) h 2 (1 : Int32) a b (-1 : Int32) F1 ho1 v5 e5 c) (fun h => nomatch h)) ?_
  exact E.i dX7_choice_41 rfl rfl rfl rfl

set_option maxRecDepth 20000 in
theorem j_X7_pair_a_1 {d : Nat} (hd : 1 ≤ d) (h : AH) (a : Int32) (b : Int32) (F : Nat → Value) (ho : h.1 1 = ob 7 (fo 2 F)) (e0 : F 0 = .ref 2) (F1 : Nat → Value) (ho1 : h.1 2 = ob 2 (fo 6 F1)) (v5 : Int32) (e5 : F1 5 = .int v5) (c : a < 0 ∨ v5 ≤ a) : J false mX7_pair d 0 [(0, .ref 1), (1, .int a), (2, .int b)] [] h 27 [(0, .ref 1), (1, .int a), (2, .int b)] [.int 0] h := by
  refine J.tr (s_aload_n (q := 1) dX7_pair_0 rfl rfl) ?_
  refine J.tr (s_gf (q := 4) (v := .ref 2) dX7_pair_1 rfl fX7_10.l (ho) (by decide) (e0)) ?_
  refine J.tr (s_iload_n (q := 5) dX7_pair_4 rfl rfl) ?_
  refine J.tr (p2 := 8) (l2 := [(0, .ref 1), (1, .int a), (2, .int b)]) (s2 := [.int 0]) (h2 := h) (s_invv (K := mX2_has) (o := 2) (as := [.int a]) (rest := []) (v := some (.int 0)) dX7_pair_5 rfl lX7_29 (by omega) rfl (Nat.le_of_ble_eq_true rfl) rfl (Nat.le_of_ble_eq_true rfl) (ho1) (q_X2_has_n (d := 0) (Nat.le_refl _) h 2 a F1 ho1 v5 e5 c) (fun h => nomatch h)) ?_
  refine J.tr (s_if_eq_t (q := 26) dX7_pair_8 (by decide) (by decide)) ?_
  refine J.tr (s_iconst (q := 27) (v := 0) dX7_pair_26 rfl (by decide)) ?_
  refine J.tr (s_ls (ls' := [(0, .ref 1), (1, .int a), (2, .int b)]) [0, 1, 2] rfl) ?_
  exact J.rf

set_option maxRecDepth 20000 in
theorem j_X7_pair_a_2 {d : Nat} (hd : 1 ≤ d) (h : AH) (a : Int32) (b : Int32) (F : Nat → Value) (ho : h.1 1 = ob 7 (fo 2 F)) (e0 : F 0 = .ref 2) (F1 : Nat → Value) (ho1 : h.1 2 = ob 2 (fo 6 F1)) (v5 : Int32) (e5 : F1 5 = .int v5) (c : ¬ (a < 0) ∧ ¬ (v5 ≤ a)) (c1 : b < 0 ∨ v5 ≤ b) : J false mX7_pair d 0 [(0, .ref 1), (1, .int a), (2, .int b)] [] h 27 [(0, .ref 1), (1, .int a), (2, .int b)] [.int 0] h := by
  refine J.tr (s_aload_n (q := 1) dX7_pair_0 rfl rfl) ?_
  refine J.tr (s_gf (q := 4) (v := .ref 2) dX7_pair_1 rfl fX7_10.l (ho) (by decide) (e0)) ?_
  refine J.tr (s_iload_n (q := 5) dX7_pair_4 rfl rfl) ?_
  refine J.tr (p2 := 8) (l2 := [(0, .ref 1), (1, .int a), (2, .int b)]) (s2 := [.int 1]) (h2 := h) (s_invv (K := mX2_has) (o := 2) (as := [.int a]) (rest := []) (v := some (.int 1)) dX7_pair_5 rfl lX7_29 (by omega) rfl (Nat.le_of_ble_eq_true rfl) rfl (Nat.le_of_ble_eq_true rfl) (ho1) (q_X2_has_y (d := 0) (Nat.le_refl _) h 2 a F1 ho1 v5 e5 c) (fun h => nomatch h)) ?_
  refine J.tr (s_if_eq_f (q := 11) (tg := 26) dX7_pair_8 (by decide) rfl (by decide)) ?_
  refine J.tr (s_aload_n (q := 12) dX7_pair_11 rfl rfl) ?_
  refine J.tr (s_gf (q := 15) (v := .ref 2) dX7_pair_12 rfl fX7_10.l (ho) (by decide) (e0)) ?_
  refine J.tr (s_iload_n (q := 16) dX7_pair_15 rfl rfl) ?_
  refine J.tr (p2 := 19) (l2 := [(0, .ref 1), (1, .int a), (2, .int b)]) (s2 := [.int 0]) (h2 := h) (s_invv (K := mX2_has) (o := 2) (as := [.int b]) (rest := []) (v := some (.int 0)) dX7_pair_16 rfl lX7_29 (by omega) rfl (Nat.le_of_ble_eq_true rfl) rfl (Nat.le_of_ble_eq_true rfl) (ho1) (q_X2_has_n (d := 0) (Nat.le_refl _) h 2 b F1 ho1 v5 e5 c1) (fun h => nomatch h)) ?_
  refine J.tr (s_if_eq_t (q := 26) dX7_pair_19 (by decide) (by decide)) ?_
  refine J.tr (s_iconst (q := 27) (v := 0) dX7_pair_26 rfl (by decide)) ?_
  refine J.tr (s_ls (ls' := [(0, .ref 1), (1, .int a), (2, .int b)]) [0, 1, 2] rfl) ?_
  exact J.rf

set_option maxRecDepth 20000 in
theorem j_X7_pair_a_3 {d : Nat} (hd : 1 ≤ d) (h : AH) (a : Int32) (b : Int32) (F : Nat → Value) (ho : h.1 1 = ob 7 (fo 2 F)) (e0 : F 0 = .ref 2) (F1 : Nat → Value) (ho1 : h.1 2 = ob 2 (fo 6 F1)) (v5 : Int32) (e5 : F1 5 = .int v5) (c : ¬ (a < 0) ∧ ¬ (v5 ≤ a)) (c1 : ¬ (b < 0) ∧ ¬ (v5 ≤ b)) : J false mX7_pair d 0 [(0, .ref 1), (1, .int a), (2, .int b)] [] h 27 [(0, .ref 1), (1, .int a), (2, .int b)] [.int 1] h := by
  refine J.tr (s_aload_n (q := 1) dX7_pair_0 rfl rfl) ?_
  refine J.tr (s_gf (q := 4) (v := .ref 2) dX7_pair_1 rfl fX7_10.l (ho) (by decide) (e0)) ?_
  refine J.tr (s_iload_n (q := 5) dX7_pair_4 rfl rfl) ?_
  refine J.tr (p2 := 8) (l2 := [(0, .ref 1), (1, .int a), (2, .int b)]) (s2 := [.int 1]) (h2 := h) (s_invv (K := mX2_has) (o := 2) (as := [.int a]) (rest := []) (v := some (.int 1)) dX7_pair_5 rfl lX7_29 (by omega) rfl (Nat.le_of_ble_eq_true rfl) rfl (Nat.le_of_ble_eq_true rfl) (ho1) (q_X2_has_y (d := 0) (Nat.le_refl _) h 2 a F1 ho1 v5 e5 c) (fun h => nomatch h)) ?_
  refine J.tr (s_if_eq_f (q := 11) (tg := 26) dX7_pair_8 (by decide) rfl (by decide)) ?_
  refine J.tr (s_aload_n (q := 12) dX7_pair_11 rfl rfl) ?_
  refine J.tr (s_gf (q := 15) (v := .ref 2) dX7_pair_12 rfl fX7_10.l (ho) (by decide) (e0)) ?_
  refine J.tr (s_iload_n (q := 16) dX7_pair_15 rfl rfl) ?_
  refine J.tr (p2 := 19) (l2 := [(0, .ref 1), (1, .int a), (2, .int b)]) (s2 := [.int 1]) (h2 := h) (s_invv (K := mX2_has) (o := 2) (as := [.int b]) (rest := []) (v := some (.int 1)) dX7_pair_16 rfl lX7_29 (by omega) rfl (Nat.le_of_ble_eq_true rfl) rfl (Nat.le_of_ble_eq_true rfl) (ho1) (q_X2_has_y (d := 0) (Nat.le_refl _) h 2 b F1 ho1 v5 e5 c1) (fun h => nomatch h)) ?_
  refine J.tr (s_if_eq_f (q := 22) (tg := 26) dX7_pair_19 (by decide) rfl (by decide)) ?_
  refine J.tr (s_iconst (q := 23) (v := 1) dX7_pair_22 rfl (by decide)) ?_
  refine J.tr (s_goto (q := 27) dX7_pair_23 (by decide)) ?_
  refine J.tr (s_ls (ls' := [(0, .ref 1), (1, .int a), (2, .int b)]) [0, 1, 2] rfl) ?_
  exact J.rf

set_option maxRecDepth 20000 in
theorem j_X7_pair_b_1 {d : Nat} (hd : 1 ≤ d) (h : AH) (a : Int32) (b : Int32) (F : Nat → Value) (ho : h.1 1 = ob 7 (fo 2 F)) (e0 : F 0 = .ref 2) (F1 : Nat → Value) (ho1 : h.1 2 = ob 2 (fo 6 F1)) (v5 : Int32) (e5 : F1 5 = .int v5) (c : v5 < 60) (e01 : F1 0 = .ref 3) (n : Nat) (f : Nat → Int32) (ha : h.1 3 = ia n f) (c1 : vp_in v5 n) (e1 : F1 1 = .ref 4) (n1 : Nat) (f1 : Nat → Int32) (ha1 : h.1 4 = ia n1 f1) (c2 : vp_in v5 n1) (e2 : F1 2 = .ref 5) (n2 : Nat) (f2 : Nat → Int32) (ha2 : h.1 5 = ia n2 f2) (c3 : vp_in v5 n2) (e3 : F1 3 = .ref 6) (n3 : Nat) (f3 : Nat → Int32) (ha3 : h.1 6 = ia n3 f3) (c4 : vp_in v5 n3) : E false mX7_pair d 30 [(0, .ref 1), (1, .int a), (2, .int b)] [] h (some (.int v5)) (hs (hs (hs (hs (hs h 3 (ia n (upd f v5.toNatClampNeg (3 : Int32)))) 4 (ia n1 (upd f1 v5.toNatClampNeg a))) 5 (ia n2 (upd f2 v5.toNatClampNeg b))) 6 (ia n3 (upd f3 v5.toNatClampNeg (-1 : Int32)))) 2 (ob 2 (fo 6 (va_up F1 5 (.int (v5 + 1)))))) := by
  refine E.st (s_aload_n (q := 31) dX7_pair_30 rfl rfl) ?_
  refine E.st (s_gf (q := 34) (v := .ref 2) dX7_pair_31 rfl fX7_10.l (ho) (by decide) (e0)) ?_
  refine E.st (s_iconst (q := 35) (v := 3) dX7_pair_34 rfl (by decide)) ?_
  refine E.st (s_iload_n (q := 36) dX7_pair_35 rfl rfl) ?_
  refine E.st (s_iload_n (q := 37) dX7_pair_36 rfl rfl) ?_
  refine E.st (s_iconst (q := 38) (v := (-1)) dX7_pair_37 rfl (by decide)) ?_
  refine E.st (p2 := 41) (l2 := [(0, .ref 1), (1, .int a), (2, .int b)]) (s2 := [.int v5]) (h2 := (hs (hs (hs (hs (hs h 3 (ia n (upd f v5.toNatClampNeg (3 : Int32)))) 4 (ia n1 (upd f1 v5.toNatClampNeg a))) 5 (ia n2 (upd f2 v5.toNatClampNeg b))) 6 (ia n3 (upd f3 v5.toNatClampNeg (-1 : Int32)))) 2 (ob 2 (fo 6 (va_up F1 5 (.int (v5 + 1))))))) (s_invv (K := mX2_add) (o := 2) (as := [.int 3, .int a, .int b, .int (-1)]) (rest := []) (v := some (.int v5)) dX7_pair_38 rfl lX7_37 (by omega) rfl (Nat.le_of_ble_eq_true rfl) rfl (Nat.le_of_ble_eq_true rfl) (ho1) (p_X2_add_1 (d := 0) (Nat.le_refl _) h 2 (3 : Int32) a b (-1 : Int32) F1 ho1 v5 e5 c 3 e01 n f ha c1 (by decide) 4 e1 n1 f1 ha1 (by decide) c2 (by decide) 5 e2 n2 f2 ha2 (by decide) (by decide) c3 (by decide) 6 e3 n3 f3 ha3 (by decide) (by decide) (by decide) c4 (by decide)) (fun h => nomatch h)) ?_
  exact E.i dX7_pair_41 rfl rfl rfl rfl

set_option maxRecDepth 20000 in
theorem j_X7_pair_b_2 {d : Nat} (hd : 1 ≤ d) (h : AH) (a : Int32) (b : Int32) (F : Nat → Value) (ho : h.1 1 = ob 7 (fo 2 F)) (e0 : F 0 = .ref 2) (F1 : Nat → Value) (ho1 : h.1 2 = ob 2 (fo 6 F1)) (v5 : Int32) (e5 : F1 5 = .int v5) (c : ¬ (v5 < 60)) : E false mX7_pair d 30 [(0, .ref 1), (1, .int a), (2, .int b)] [] h (some (.int (-1))) h := by
  refine E.st (s_aload_n (q := 31) dX7_pair_30 rfl rfl) ?_
  refine E.st (s_gf (q := 34) (v := .ref 2) dX7_pair_31 rfl fX7_10.l (ho) (by decide) (e0)) ?_
  refine E.st (s_iconst (q := 35) (v := 3) dX7_pair_34 rfl (by decide)) ?_
  refine E.st (s_iload_n (q := 36) dX7_pair_35 rfl rfl) ?_
  refine E.st (s_iload_n (q := 37) dX7_pair_36 rfl rfl) ?_
  refine E.st (s_iconst (q := 38) (v := (-1)) dX7_pair_37 rfl (by decide)) ?_
  refine E.st (p2 := 41) (l2 := [(0, .ref 1), (1, .int a), (2, .int b)]) (s2 := [.int (-1)]) (h2 := h) (s_invv (K := mX2_add) (o := 2) (as := [.int 3, .int a, .int b, .int (-1)]) (rest := []) (v := some (.int (-1))) dX7_pair_38 rfl lX7_37 (by omega) rfl (Nat.le_of_ble_eq_true rfl) rfl (Nat.le_of_ble_eq_true rfl) (ho1) (p_X2_add_2 (d := 0) (Nat.le_refl _) h 2 (3 : Int32) a b (-1 : Int32) F1 ho1 v5 e5 c) (fun h => nomatch h)) ?_
  exact E.i dX7_pair_41 rfl rfl rfl rfl

set_option maxRecDepth 20000 in
theorem j_X7_part_a_1 {d : Nat} (hd : 1 ≤ d) (h : AH) (a : Int32) (b : Int32) (F : Nat → Value) (ho : h.1 1 = ob 7 (fo 2 F)) (e0 : F 0 = .ref 2) (F1 : Nat → Value) (ho1 : h.1 2 = ob 2 (fo 6 F1)) (v5 : Int32) (e5 : F1 5 = .int v5) (c : a < 0 ∨ v5 ≤ a) : J false mX7_part d 0 [(0, .ref 1), (1, .int a), (2, .int b)] [] h 8 [(0, .ref 1), (1, .int a), (2, .int b)] [.int 0] h := by
  refine J.tr (s_aload_n (q := 1) dX7_part_0 rfl rfl) ?_
  refine J.tr (s_gf (q := 4) (v := .ref 2) dX7_part_1 rfl fX7_10.l (ho) (by decide) (e0)) ?_
  refine J.tr (s_iload_n (q := 5) dX7_part_4 rfl rfl) ?_
  refine J.tr (p2 := 8) (l2 := [(0, .ref 1), (1, .int a), (2, .int b)]) (s2 := [.int 0]) (h2 := h) (s_invv (K := mX2_has) (o := 2) (as := [.int a]) (rest := []) (v := some (.int 0)) dX7_part_5 rfl lX7_29 (by omega) rfl (Nat.le_of_ble_eq_true rfl) rfl (Nat.le_of_ble_eq_true rfl) (ho1) (q_X2_has_n (d := 0) (Nat.le_refl _) h 2 a F1 ho1 v5 e5 c) (fun h => nomatch h)) ?_
  refine J.tr (s_ls (ls' := [(0, .ref 1), (1, .int a), (2, .int b)]) [0, 1, 2] rfl) ?_
  exact J.rf

set_option maxRecDepth 20000 in
theorem j_X7_part_a_2 {d : Nat} (hd : 1 ≤ d) (h : AH) (a : Int32) (b : Int32) (F : Nat → Value) (ho : h.1 1 = ob 7 (fo 2 F)) (e0 : F 0 = .ref 2) (F1 : Nat → Value) (ho1 : h.1 2 = ob 2 (fo 6 F1)) (v5 : Int32) (e5 : F1 5 = .int v5) (c : ¬ (a < 0) ∧ ¬ (v5 ≤ a)) : J false mX7_part d 0 [(0, .ref 1), (1, .int a), (2, .int b)] [] h 8 [(0, .ref 1), (1, .int a), (2, .int b)] [.int 1] h := by
  refine J.tr (s_aload_n (q := 1) dX7_part_0 rfl rfl) ?_
  refine J.tr (s_gf (q := 4) (v := .ref 2) dX7_part_1 rfl fX7_10.l (ho) (by decide) (e0)) ?_
  refine J.tr (s_iload_n (q := 5) dX7_part_4 rfl rfl) ?_
  refine J.tr (p2 := 8) (l2 := [(0, .ref 1), (1, .int a), (2, .int b)]) (s2 := [.int 1]) (h2 := h) (s_invv (K := mX2_has) (o := 2) (as := [.int a]) (rest := []) (v := some (.int 1)) dX7_part_5 rfl lX7_29 (by omega) rfl (Nat.le_of_ble_eq_true rfl) rfl (Nat.le_of_ble_eq_true rfl) (ho1) (q_X2_has_y (d := 0) (Nat.le_refl _) h 2 a F1 ho1 v5 e5 c) (fun h => nomatch h)) ?_
  refine J.tr (s_ls (ls' := [(0, .ref 1), (1, .int a), (2, .int b)]) [0, 1, 2] rfl) ?_
  exact J.rf

set_option maxRecDepth 20000 in
theorem j_X7_part_b_1 {d : Nat} (hd : 1 ≤ d) (h : AH) (a : Int32) (b : Int32) (F : Nat → Value) (ho : h.1 1 = ob 7 (fo 2 F)) (e0 : F 0 = .ref 2) (c : b = 0) (F1 : Nat → Value) (ho1 : h.1 2 = ob 2 (fo 6 F1)) (v5 : Int32) (e5 : F1 5 = .int v5) (c1 : v5 < 60) (e01 : F1 0 = .ref 3) (n : Nat) (f : Nat → Int32) (ha : h.1 3 = ia n f) (c2 : vp_in v5 n) (e1 : F1 1 = .ref 4) (n1 : Nat) (f1 : Nat → Int32) (ha1 : h.1 4 = ia n1 f1) (c3 : vp_in v5 n1) (e2 : F1 2 = .ref 5) (n2 : Nat) (f2 : Nat → Int32) (ha2 : h.1 5 = ia n2 f2) (c4 : vp_in v5 n2) (e3 : F1 3 = .ref 6) (n3 : Nat) (f3 : Nat → Int32) (ha3 : h.1 6 = ia n3 f3) (c5 : vp_in v5 n3) : E false mX7_part d 11 [(0, .ref 1), (1, .int a), (2, .int b)] [] h (some (.int v5)) (hs (hs (hs (hs (hs h 3 (ia n (upd f v5.toNatClampNeg (4 : Int32)))) 4 (ia n1 (upd f1 v5.toNatClampNeg a))) 5 (ia n2 (upd f2 v5.toNatClampNeg (-1 : Int32)))) 6 (ia n3 (upd f3 v5.toNatClampNeg (-1 : Int32)))) 2 (ob 2 (fo 6 (va_up F1 5 (.int (v5 + 1)))))) := by
  refine E.st (s_aload_n (q := 12) dX7_part_11 rfl rfl) ?_
  refine E.st (s_gf (q := 15) (v := .ref 2) dX7_part_12 rfl fX7_10.l (ho) (by decide) (e0)) ?_
  refine E.st (s_iload_n (q := 16) dX7_part_15 rfl rfl) ?_
  refine E.st (s_if_eq_t (q := 23) dX7_part_16 (by decide) c) ?_
  refine E.st (s_iconst (q := 24) (v := 4) dX7_part_23 rfl (by decide)) ?_
  refine E.st (s_iload_n (q := 25) dX7_part_24 rfl rfl) ?_
  refine E.st (s_iconst (q := 26) (v := (-1)) dX7_part_25 rfl (by decide)) ?_
  refine E.st (s_iconst (q := 27) (v := (-1)) dX7_part_26 rfl (by decide)) ?_
  refine E.st (p2 := 30) (l2 := [(0, .ref 1), (1, .int a), (2, .int b)]) (s2 := [.int v5]) (h2 := (hs (hs (hs (hs (hs h 3 (ia n (upd f v5.toNatClampNeg (4 : Int32)))) 4 (ia n1 (upd f1 v5.toNatClampNeg a))) 5 (ia n2 (upd f2 v5.toNatClampNeg (-1 : Int32)))) 6 (ia n3 (upd f3 v5.toNatClampNeg (-1 : Int32)))) 2 (ob 2 (fo 6 (va_up F1 5 (.int (v5 + 1))))))) (s_invv (K := mX2_add) (o := 2) (as := [.int 4, .int a, .int (-1), .int (-1)]) (rest := []) (v := some (.int v5)) dX7_part_27 rfl lX7_37 (by omega) rfl (Nat.le_of_ble_eq_true rfl) rfl (Nat.le_of_ble_eq_true rfl) (ho1) (p_X2_add_1 (d := 0) (Nat.le_refl _) h 2 (4 : Int32) a (-1 : Int32) (-1 : Int32) F1 ho1 v5 e5 c1 3 e01 n f ha c2 (by decide) 4 e1 n1 f1 ha1 (by decide) c3 (by decide) 5 e2 n2 f2 ha2 (by decide) (by decide) c4 (by decide) 6 e3 n3 f3 ha3 (by decide) (by decide) (by decide) c5 (by decide)) (fun h => nomatch h)) ?_
  exact E.i dX7_part_30 rfl rfl rfl rfl

set_option maxRecDepth 20000 in
theorem j_X7_part_b_2 {d : Nat} (hd : 1 ≤ d) (h : AH) (a : Int32) (b : Int32) (F : Nat → Value) (ho : h.1 1 = ob 7 (fo 2 F)) (e0 : F 0 = .ref 2) (c : b = 0) (F1 : Nat → Value) (ho1 : h.1 2 = ob 2 (fo 6 F1)) (v5 : Int32) (e5 : F1 5 = .int v5) (c1 : ¬ (v5 < 60)) : E false mX7_part d 11 [(0, .ref 1), (1, .int a), (2, .int b)] [] h (some (.int (-1))) h := by
  refine E.st (s_aload_n (q := 12) dX7_part_11 rfl rfl) ?_
  refine E.st (s_gf (q := 15) (v := .ref 2) dX7_part_12 rfl fX7_10.l (ho) (by decide) (e0)) ?_
  refine E.st (s_iload_n (q := 16) dX7_part_15 rfl rfl) ?_
  refine E.st (s_if_eq_t (q := 23) dX7_part_16 (by decide) c) ?_
  refine E.st (s_iconst (q := 24) (v := 4) dX7_part_23 rfl (by decide)) ?_
  refine E.st (s_iload_n (q := 25) dX7_part_24 rfl rfl) ?_
  refine E.st (s_iconst (q := 26) (v := (-1)) dX7_part_25 rfl (by decide)) ?_
  refine E.st (s_iconst (q := 27) (v := (-1)) dX7_part_26 rfl (by decide)) ?_
  refine E.st (p2 := 30) (l2 := [(0, .ref 1), (1, .int a), (2, .int b)]) (s2 := [.int (-1)]) (h2 := h) (s_invv (K := mX2_add) (o := 2) (as := [.int 4, .int a, .int (-1), .int (-1)]) (rest := []) (v := some (.int (-1))) dX7_part_27 rfl lX7_37 (by omega) rfl (Nat.le_of_ble_eq_true rfl) rfl (Nat.le_of_ble_eq_true rfl) (ho1) (p_X2_add_2 (d := 0) (Nat.le_refl _) h 2 (4 : Int32) a (-1 : Int32) (-1 : Int32) F1 ho1 v5 e5 c1) (fun h => nomatch h)) ?_
  exact E.i dX7_part_30 rfl rfl rfl rfl

set_option maxRecDepth 20000 in
theorem j_X7_part_b_3 {d : Nat} (hd : 1 ≤ d) (h : AH) (a : Int32) (b : Int32) (F : Nat → Value) (ho : h.1 1 = ob 7 (fo 2 F)) (e0 : F 0 = .ref 2) (c : ¬ (b = 0)) (F1 : Nat → Value) (ho1 : h.1 2 = ob 2 (fo 6 F1)) (v5 : Int32) (e5 : F1 5 = .int v5) (c1 : v5 < 60) (e01 : F1 0 = .ref 3) (n : Nat) (f : Nat → Int32) (ha : h.1 3 = ia n f) (c2 : vp_in v5 n) (e1 : F1 1 = .ref 4) (n1 : Nat) (f1 : Nat → Int32) (ha1 : h.1 4 = ia n1 f1) (c3 : vp_in v5 n1) (e2 : F1 2 = .ref 5) (n2 : Nat) (f2 : Nat → Int32) (ha2 : h.1 5 = ia n2 f2) (c4 : vp_in v5 n2) (e3 : F1 3 = .ref 6) (n3 : Nat) (f3 : Nat → Int32) (ha3 : h.1 6 = ia n3 f3) (c5 : vp_in v5 n3) : E false mX7_part d 11 [(0, .ref 1), (1, .int a), (2, .int b)] [] h (some (.int v5)) (hs (hs (hs (hs (hs h 3 (ia n (upd f v5.toNatClampNeg (5 : Int32)))) 4 (ia n1 (upd f1 v5.toNatClampNeg a))) 5 (ia n2 (upd f2 v5.toNatClampNeg (-1 : Int32)))) 6 (ia n3 (upd f3 v5.toNatClampNeg (-1 : Int32)))) 2 (ob 2 (fo 6 (va_up F1 5 (.int (v5 + 1)))))) := by
  refine E.st (s_aload_n (q := 12) dX7_part_11 rfl rfl) ?_
  refine E.st (s_gf (q := 15) (v := .ref 2) dX7_part_12 rfl fX7_10.l (ho) (by decide) (e0)) ?_
  refine E.st (s_iload_n (q := 16) dX7_part_15 rfl rfl) ?_
  refine E.st (s_if_eq_f (q := 19) (tg := 23) dX7_part_16 (by decide) rfl c) ?_
  refine E.st (s_iconst (q := 20) (v := 5) dX7_part_19 rfl (by decide)) ?_
  refine E.st (s_goto (q := 24) dX7_part_20 (by decide)) ?_
  refine E.st (s_iload_n (q := 25) dX7_part_24 rfl rfl) ?_
  refine E.st (s_iconst (q := 26) (v := (-1)) dX7_part_25 rfl (by decide)) ?_
  refine E.st (s_iconst (q := 27) (v := (-1)) dX7_part_26 rfl (by decide)) ?_
  refine E.st (p2 := 30) (l2 := [(0, .ref 1), (1, .int a), (2, .int b)]) (s2 := [.int v5]) (h2 := (hs (hs (hs (hs (hs h 3 (ia n (upd f v5.toNatClampNeg (5 : Int32)))) 4 (ia n1 (upd f1 v5.toNatClampNeg a))) 5 (ia n2 (upd f2 v5.toNatClampNeg (-1 : Int32)))) 6 (ia n3 (upd f3 v5.toNatClampNeg (-1 : Int32)))) 2 (ob 2 (fo 6 (va_up F1 5 (.int (v5 + 1))))))) (s_invv (K := mX2_add) (o := 2) (as := [.int 5, .int a, .int (-1), .int (-1)]) (rest := []) (v := some (.int v5)) dX7_part_27 rfl lX7_37 (by omega) rfl (Nat.le_of_ble_eq_true rfl) rfl (Nat.le_of_ble_eq_true rfl) (ho1) (p_X2_add_1 (d := 0) (Nat.le_refl _) h 2 (5 : Int32) a (-1 : Int32) (-1 : Int32) F1 ho1 v5 e5 c1 3 e01 n f ha c2 (by decide) 4 e1 n1 f1 ha1 (by decide) c3 (by decide) 5 e2 n2 f2 ha2 (by decide) (by decide) c4 (by decide) 6 e3 n3 f3 ha3 (by decide) (by decide) (by decide) c5 (by decide)) (fun h => nomatch h)) ?_
  exact E.i dX7_part_30 rfl rfl rfl rfl

set_option maxRecDepth 20000 in
theorem j_X7_part_b_4 {d : Nat} (hd : 1 ≤ d) (h : AH) (a : Int32) (b : Int32) (F : Nat → Value) (ho : h.1 1 = ob 7 (fo 2 F)) (e0 : F 0 = .ref 2) (c : ¬ (b = 0)) (F1 : Nat → Value) (ho1 : h.1 2 = ob 2 (fo 6 F1)) (v5 : Int32) (e5 : F1 5 = .int v5) (c1 : ¬ (v5 < 60)) : E false mX7_part d 11 [(0, .ref 1), (1, .int a), (2, .int b)] [] h (some (.int (-1))) h := by
  refine E.st (s_aload_n (q := 12) dX7_part_11 rfl rfl) ?_
  refine E.st (s_gf (q := 15) (v := .ref 2) dX7_part_12 rfl fX7_10.l (ho) (by decide) (e0)) ?_
  refine E.st (s_iload_n (q := 16) dX7_part_15 rfl rfl) ?_
  refine E.st (s_if_eq_f (q := 19) (tg := 23) dX7_part_16 (by decide) rfl c) ?_
  refine E.st (s_iconst (q := 20) (v := 5) dX7_part_19 rfl (by decide)) ?_
  refine E.st (s_goto (q := 24) dX7_part_20 (by decide)) ?_
  refine E.st (s_iload_n (q := 25) dX7_part_24 rfl rfl) ?_
  refine E.st (s_iconst (q := 26) (v := (-1)) dX7_part_25 rfl (by decide)) ?_
  refine E.st (s_iconst (q := 27) (v := (-1)) dX7_part_26 rfl (by decide)) ?_
  refine E.st (p2 := 30) (l2 := [(0, .ref 1), (1, .int a), (2, .int b)]) (s2 := [.int (-1)]) (h2 := h) (s_invv (K := mX2_add) (o := 2) (as := [.int 5, .int a, .int (-1), .int (-1)]) (rest := []) (v := some (.int (-1))) dX7_part_27 rfl lX7_37 (by omega) rfl (Nat.le_of_ble_eq_true rfl) rfl (Nat.le_of_ble_eq_true rfl) (ho1) (p_X2_add_2 (d := 0) (Nat.le_refl _) h 2 (5 : Int32) a (-1 : Int32) (-1 : Int32) F1 ho1 v5 e5 c1) (fun h => nomatch h)) ?_
  exact E.i dX7_part_30 rfl rfl rfl rfl

set_option maxRecDepth 20000 in
theorem j_X7_op_a_1 {d : Nat} (hd : 1 ≤ d) (h : AH) (a : Int32) (b : Int32) (c : Int32) (F : Nat → Value) (ho : h.1 1 = ob 7 (fo 2 F)) (e0 : F 0 = .ref 2) (F1 : Nat → Value) (ho1 : h.1 2 = ob 2 (fo 6 F1)) (v5 : Int32) (e5 : F1 5 = .int v5) (c1 : b < 0 ∨ v5 ≤ b) : J false mX7_op d 0 [(0, .ref 1), (1, .int a), (2, .int b), (3, .int c)] [] h 36 [(0, .ref 1), (1, .int a), (2, .int b), (3, .int c)] [.int 0] h := by
  refine J.tr (s_aload_n (q := 1) dX7_op_0 rfl rfl) ?_
  refine J.tr (s_gf (q := 4) (v := .ref 2) dX7_op_1 rfl fX7_10.l (ho) (by decide) (e0)) ?_
  refine J.tr (s_iload_n (q := 5) dX7_op_4 rfl rfl) ?_
  refine J.tr (p2 := 8) (l2 := [(0, .ref 1), (1, .int a), (2, .int b), (3, .int c)]) (s2 := [.int 0]) (h2 := h) (s_invv (K := mX2_has) (o := 2) (as := [.int b]) (rest := []) (v := some (.int 0)) dX7_op_5 rfl lX7_29 (by omega) rfl (Nat.le_of_ble_eq_true rfl) rfl (Nat.le_of_ble_eq_true rfl) (ho1) (q_X2_has_n (d := 0) (Nat.le_refl _) h 2 b F1 ho1 v5 e5 c1) (fun h => nomatch h)) ?_
  refine J.tr (s_if_eq_t (q := 35) dX7_op_8 (by decide) (by decide)) ?_
  refine J.tr (s_iconst (q := 36) (v := 0) dX7_op_35 rfl (by decide)) ?_
  refine J.tr (s_ls (ls' := [(0, .ref 1), (1, .int a), (2, .int b), (3, .int c)]) [0, 1, 2, 3] rfl) ?_
  exact J.rf

set_option maxRecDepth 20000 in
theorem j_X7_op_a_2 {d : Nat} (hd : 1 ≤ d) (h : AH) (a : Int32) (b : Int32) (c : Int32) (F : Nat → Value) (ho : h.1 1 = ob 7 (fo 2 F)) (e0 : F 0 = .ref 2) (F1 : Nat → Value) (ho1 : h.1 2 = ob 2 (fo 6 F1)) (v5 : Int32) (e5 : F1 5 = .int v5) (c1 : ¬ (b < 0) ∧ ¬ (v5 ≤ b)) (c2 : c < 0 ∨ v5 ≤ c) : J false mX7_op d 0 [(0, .ref 1), (1, .int a), (2, .int b), (3, .int c)] [] h 36 [(0, .ref 1), (1, .int a), (2, .int b), (3, .int c)] [.int 0] h := by
  refine J.tr (s_aload_n (q := 1) dX7_op_0 rfl rfl) ?_
  refine J.tr (s_gf (q := 4) (v := .ref 2) dX7_op_1 rfl fX7_10.l (ho) (by decide) (e0)) ?_
  refine J.tr (s_iload_n (q := 5) dX7_op_4 rfl rfl) ?_
  refine J.tr (p2 := 8) (l2 := [(0, .ref 1), (1, .int a), (2, .int b), (3, .int c)]) (s2 := [.int 1]) (h2 := h) (s_invv (K := mX2_has) (o := 2) (as := [.int b]) (rest := []) (v := some (.int 1)) dX7_op_5 rfl lX7_29 (by omega) rfl (Nat.le_of_ble_eq_true rfl) rfl (Nat.le_of_ble_eq_true rfl) (ho1) (q_X2_has_y (d := 0) (Nat.le_refl _) h 2 b F1 ho1 v5 e5 c1) (fun h => nomatch h)) ?_
  refine J.tr (s_if_eq_f (q := 11) (tg := 35) dX7_op_8 (by decide) rfl (by decide)) ?_
  refine J.tr (s_aload_n (q := 12) dX7_op_11 rfl rfl) ?_
  refine J.tr (s_gf (q := 15) (v := .ref 2) dX7_op_12 rfl fX7_10.l (ho) (by decide) (e0)) ?_
  refine J.tr (s_iload_n (q := 16) dX7_op_15 rfl rfl) ?_
  refine J.tr (p2 := 19) (l2 := [(0, .ref 1), (1, .int a), (2, .int b), (3, .int c)]) (s2 := [.int 0]) (h2 := h) (s_invv (K := mX2_has) (o := 2) (as := [.int c]) (rest := []) (v := some (.int 0)) dX7_op_16 rfl lX7_29 (by omega) rfl (Nat.le_of_ble_eq_true rfl) rfl (Nat.le_of_ble_eq_true rfl) (ho1) (q_X2_has_n (d := 0) (Nat.le_refl _) h 2 c F1 ho1 v5 e5 c2) (fun h => nomatch h)) ?_
  refine J.tr (s_if_eq_t (q := 35) dX7_op_19 (by decide) (by decide)) ?_
  refine J.tr (s_iconst (q := 36) (v := 0) dX7_op_35 rfl (by decide)) ?_
  refine J.tr (s_ls (ls' := [(0, .ref 1), (1, .int a), (2, .int b), (3, .int c)]) [0, 1, 2, 3] rfl) ?_
  exact J.rf

set_option maxRecDepth 20000 in
theorem j_X7_op_a_3 {d : Nat} (hd : 1 ≤ d) (h : AH) (a : Int32) (b : Int32) (c : Int32) (F : Nat → Value) (ho : h.1 1 = ob 7 (fo 2 F)) (e0 : F 0 = .ref 2) (F1 : Nat → Value) (ho1 : h.1 2 = ob 2 (fo 6 F1)) (v5 : Int32) (e5 : F1 5 = .int v5) (c1 : ¬ (b < 0) ∧ ¬ (v5 ≤ b)) (c2 : ¬ (c < 0) ∧ ¬ (v5 ≤ c)) (c3 : a < 0) : J false mX7_op d 0 [(0, .ref 1), (1, .int a), (2, .int b), (3, .int c)] [] h 36 [(0, .ref 1), (1, .int a), (2, .int b), (3, .int c)] [.int 0] h := by
  refine J.tr (s_aload_n (q := 1) dX7_op_0 rfl rfl) ?_
  refine J.tr (s_gf (q := 4) (v := .ref 2) dX7_op_1 rfl fX7_10.l (ho) (by decide) (e0)) ?_
  refine J.tr (s_iload_n (q := 5) dX7_op_4 rfl rfl) ?_
  refine J.tr (p2 := 8) (l2 := [(0, .ref 1), (1, .int a), (2, .int b), (3, .int c)]) (s2 := [.int 1]) (h2 := h) (s_invv (K := mX2_has) (o := 2) (as := [.int b]) (rest := []) (v := some (.int 1)) dX7_op_5 rfl lX7_29 (by omega) rfl (Nat.le_of_ble_eq_true rfl) rfl (Nat.le_of_ble_eq_true rfl) (ho1) (q_X2_has_y (d := 0) (Nat.le_refl _) h 2 b F1 ho1 v5 e5 c1) (fun h => nomatch h)) ?_
  refine J.tr (s_if_eq_f (q := 11) (tg := 35) dX7_op_8 (by decide) rfl (by decide)) ?_
  refine J.tr (s_aload_n (q := 12) dX7_op_11 rfl rfl) ?_
  refine J.tr (s_gf (q := 15) (v := .ref 2) dX7_op_12 rfl fX7_10.l (ho) (by decide) (e0)) ?_
  refine J.tr (s_iload_n (q := 16) dX7_op_15 rfl rfl) ?_
  refine J.tr (p2 := 19) (l2 := [(0, .ref 1), (1, .int a), (2, .int b), (3, .int c)]) (s2 := [.int 1]) (h2 := h) (s_invv (K := mX2_has) (o := 2) (as := [.int c]) (rest := []) (v := some (.int 1)) dX7_op_16 rfl lX7_29 (by omega) rfl (Nat.le_of_ble_eq_true rfl) rfl (Nat.le_of_ble_eq_true rfl) (ho1) (q_X2_has_y (d := 0) (Nat.le_refl _) h 2 c F1 ho1 v5 e5 c2) (fun h => nomatch h)) ?_
  refine J.tr (s_if_eq_f (q := 22) (tg := 35) dX7_op_19 (by decide) rfl (by decide)) ?_
  refine J.tr (s_iload_n (q := 23) dX7_op_22 rfl rfl) ?_
  refine J.tr (s_if_lt_t (q := 35) dX7_op_23 (by decide) c3) ?_
  refine J.tr (s_iconst (q := 36) (v := 0) dX7_op_35 rfl (by decide)) ?_
  refine J.tr (s_ls (ls' := [(0, .ref 1), (1, .int a), (2, .int b), (3, .int c)]) [0, 1, 2, 3] rfl) ?_
  exact J.rf

set_option maxRecDepth 20000 in
theorem j_X7_op_a_4 {d : Nat} (hd : 1 ≤ d) (h : AH) (a : Int32) (b : Int32) (c : Int32) (F : Nat → Value) (ho : h.1 1 = ob 7 (fo 2 F)) (e0 : F 0 = .ref 2) (F1 : Nat → Value) (ho1 : h.1 2 = ob 2 (fo 6 F1)) (v5 : Int32) (e5 : F1 5 = .int v5) (c1 : ¬ (b < 0) ∧ ¬ (v5 ≤ b)) (c2 : ¬ (c < 0) ∧ ¬ (v5 ≤ c)) (c3 : ¬ (a < 0)) (c4 : 5 < a) : J false mX7_op d 0 [(0, .ref 1), (1, .int a), (2, .int b), (3, .int c)] [] h 36 [(0, .ref 1), (1, .int a), (2, .int b), (3, .int c)] [.int 0] h := by
  refine J.tr (s_aload_n (q := 1) dX7_op_0 rfl rfl) ?_
  refine J.tr (s_gf (q := 4) (v := .ref 2) dX7_op_1 rfl fX7_10.l (ho) (by decide) (e0)) ?_
  refine J.tr (s_iload_n (q := 5) dX7_op_4 rfl rfl) ?_
  refine J.tr (p2 := 8) (l2 := [(0, .ref 1), (1, .int a), (2, .int b), (3, .int c)]) (s2 := [.int 1]) (h2 := h) (s_invv (K := mX2_has) (o := 2) (as := [.int b]) (rest := []) (v := some (.int 1)) dX7_op_5 rfl lX7_29 (by omega) rfl (Nat.le_of_ble_eq_true rfl) rfl (Nat.le_of_ble_eq_true rfl) (ho1) (q_X2_has_y (d := 0) (Nat.le_refl _) h 2 b F1 ho1 v5 e5 c1) (fun h => nomatch h)) ?_
  refine J.tr (s_if_eq_f (q := 11) (tg := 35) dX7_op_8 (by decide) rfl (by decide)) ?_
  refine J.tr (s_aload_n (q := 12) dX7_op_11 rfl rfl) ?_
  refine J.tr (s_gf (q := 15) (v := .ref 2) dX7_op_12 rfl fX7_10.l (ho) (by decide) (e0)) ?_
  refine J.tr (s_iload_n (q := 16) dX7_op_15 rfl rfl) ?_
  refine J.tr (p2 := 19) (l2 := [(0, .ref 1), (1, .int a), (2, .int b), (3, .int c)]) (s2 := [.int 1]) (h2 := h) (s_invv (K := mX2_has) (o := 2) (as := [.int c]) (rest := []) (v := some (.int 1)) dX7_op_16 rfl lX7_29 (by omega) rfl (Nat.le_of_ble_eq_true rfl) rfl (Nat.le_of_ble_eq_true rfl) (ho1) (q_X2_has_y (d := 0) (Nat.le_refl _) h 2 c F1 ho1 v5 e5 c2) (fun h => nomatch h)) ?_
  refine J.tr (s_if_eq_f (q := 22) (tg := 35) dX7_op_19 (by decide) rfl (by decide)) ?_
  refine J.tr (s_iload_n (q := 23) dX7_op_22 rfl rfl) ?_
  refine J.tr (s_if_lt_f (q := 26) (tg := 35) dX7_op_23 (by decide) rfl c3) ?_
  refine J.tr (s_iload_n (q := 27) dX7_op_26 rfl rfl) ?_
  refine J.tr (s_iconst (q := 28) (v := 5) dX7_op_27 rfl (by decide)) ?_
  refine J.tr (s_icmp_gt_t (q := 35) dX7_op_28 (by decide) c4) ?_
  refine J.tr (s_iconst (q := 36) (v := 0) dX7_op_35 rfl (by decide)) ?_
  refine J.tr (s_ls (ls' := [(0, .ref 1), (1, .int a), (2, .int b), (3, .int c)]) [0, 1, 2, 3] rfl) ?_
  exact J.rf

set_option maxRecDepth 20000 in
theorem j_X7_op_a_5 {d : Nat} (hd : 1 ≤ d) (h : AH) (a : Int32) (b : Int32) (c : Int32) (F : Nat → Value) (ho : h.1 1 = ob 7 (fo 2 F)) (e0 : F 0 = .ref 2) (F1 : Nat → Value) (ho1 : h.1 2 = ob 2 (fo 6 F1)) (v5 : Int32) (e5 : F1 5 = .int v5) (c1 : ¬ (b < 0) ∧ ¬ (v5 ≤ b)) (c2 : ¬ (c < 0) ∧ ¬ (v5 ≤ c)) (c3 : ¬ (a < 0)) (c4 : ¬ (5 < a)) : J false mX7_op d 0 [(0, .ref 1), (1, .int a), (2, .int b), (3, .int c)] [] h 36 [(0, .ref 1), (1, .int a), (2, .int b), (3, .int c)] [.int 1] h := by
  refine J.tr (s_aload_n (q := 1) dX7_op_0 rfl rfl) ?_
  refine J.tr (s_gf (q := 4) (v := .ref 2) dX7_op_1 rfl fX7_10.l (ho) (by decide) (e0)) ?_
  refine J.tr (s_iload_n (q := 5) dX7_op_4 rfl rfl) ?_
  refine J.tr (p2 := 8) (l2 := [(0, .ref 1), (1, .int a), (2, .int b), (3, .int c)]) (s2 := [.int 1]) (h2 := h) (s_invv (K := mX2_has) (o := 2) (as := [.int b]) (rest := []) (v := some (.int 1)) dX7_op_5 rfl lX7_29 (by omega) rfl (Nat.le_of_ble_eq_true rfl) rfl (Nat.le_of_ble_eq_true rfl) (ho1) (q_X2_has_y (d := 0) (Nat.le_refl _) h 2 b F1 ho1 v5 e5 c1) (fun h => nomatch h)) ?_
  refine J.tr (s_if_eq_f (q := 11) (tg := 35) dX7_op_8 (by decide) rfl (by decide)) ?_
  refine J.tr (s_aload_n (q := 12) dX7_op_11 rfl rfl) ?_
  refine J.tr (s_gf (q := 15) (v := .ref 2) dX7_op_12 rfl fX7_10.l (ho) (by decide) (e0)) ?_
  refine J.tr (s_iload_n (q := 16) dX7_op_15 rfl rfl) ?_
  refine J.tr (p2 := 19) (l2 := [(0, .ref 1), (1, .int a), (2, .int b), (3, .int c)]) (s2 := [.int 1]) (h2 := h) (s_invv (K := mX2_has) (o := 2) (as := [.int c]) (rest := []) (v := some (.int 1)) dX7_op_16 rfl lX7_29 (by omega) rfl (Nat.le_of_ble_eq_true rfl) rfl (Nat.le_of_ble_eq_true rfl) (ho1) (q_X2_has_y (d := 0) (Nat.le_refl _) h 2 c F1 ho1 v5 e5 c2) (fun h => nomatch h)) ?_
  refine J.tr (s_if_eq_f (q := 22) (tg := 35) dX7_op_19 (by decide) rfl (by decide)) ?_
  refine J.tr (s_iload_n (q := 23) dX7_op_22 rfl rfl) ?_
  refine J.tr (s_if_lt_f (q := 26) (tg := 35) dX7_op_23 (by decide) rfl c3) ?_
  refine J.tr (s_iload_n (q := 27) dX7_op_26 rfl rfl) ?_
  refine J.tr (s_iconst (q := 28) (v := 5) dX7_op_27 rfl (by decide)) ?_
  refine J.tr (s_icmp_gt_f (q := 31) (tg := 35) dX7_op_28 (by decide) rfl c4) ?_
  refine J.tr (s_iconst (q := 32) (v := 1) dX7_op_31 rfl (by decide)) ?_
  refine J.tr (s_goto (q := 36) dX7_op_32 (by decide)) ?_
  refine J.tr (s_ls (ls' := [(0, .ref 1), (1, .int a), (2, .int b), (3, .int c)]) [0, 1, 2, 3] rfl) ?_
  exact J.rf

set_option maxRecDepth 20000 in
theorem j_X7_op_b_1 {d : Nat} (hd : 1 ≤ d) (h : AH) (a : Int32) (b : Int32) (c : Int32) (F : Nat → Value) (ho : h.1 1 = ob 7 (fo 2 F)) (e0 : F 0 = .ref 2) (F1 : Nat → Value) (ho1 : h.1 2 = ob 2 (fo 6 F1)) (v5 : Int32) (e5 : F1 5 = .int v5) (c1 : v5 < 60) (e01 : F1 0 = .ref 3) (n : Nat) (f : Nat → Int32) (ha : h.1 3 = ia n f) (c2 : vp_in v5 n) (e1 : F1 1 = .ref 4) (n1 : Nat) (f1 : Nat → Int32) (ha1 : h.1 4 = ia n1 f1) (c3 : vp_in v5 n1) (e2 : F1 2 = .ref 5) (n2 : Nat) (f2 : Nat → Int32) (ha2 : h.1 5 = ia n2 f2) (c4 : vp_in v5 n2) (e3 : F1 3 = .ref 6) (n3 : Nat) (f3 : Nat → Int32) (ha3 : h.1 6 = ia n3 f3) (c5 : vp_in v5 n3) : E false mX7_op d 39 [(0, .ref 1), (1, .int a), (2, .int b), (3, .int c)] [] h (some (.int v5)) (hs (hs (hs (hs (hs h 3 (ia n (upd f v5.toNatClampNeg (6 : Int32)))) 4 (ia n1 (upd f1 v5.toNatClampNeg b))) 5 (ia n2 (upd f2 v5.toNatClampNeg c))) 6 (ia n3 (upd f3 v5.toNatClampNeg a))) 2 (ob 2 (fo 6 (va_up F1 5 (.int (v5 + 1)))))) := by
  refine E.st (s_aload_n (q := 40) dX7_op_39 rfl rfl) ?_
  refine E.st (s_gf (q := 43) (v := .ref 2) dX7_op_40 rfl fX7_10.l (ho) (by decide) (e0)) ?_
  refine E.st (s_bipush (q := 45) (v := 6) dX7_op_43 rfl (by decide)) ?_
  refine E.st (s_iload_n (q := 46) dX7_op_45 rfl rfl) ?_
  refine E.st (s_iload_n (q := 47) dX7_op_46 rfl rfl) ?_
  refine E.st (s_iload_n (q := 48) dX7_op_47 rfl rfl) ?_
  refine E.st (p2 := 51) (l2 := [(0, .ref 1), (1, .int a), (2, .int b), (3, .int c)]) (s2 := [.int v5]) (h2 := (hs (hs (hs (hs (hs h 3 (ia n (upd f v5.toNatClampNeg (6 : Int32)))) 4 (ia n1 (upd f1 v5.toNatClampNeg b))) 5 (ia n2 (upd f2 v5.toNatClampNeg c))) 6 (ia n3 (upd f3 v5.toNatClampNeg a))) 2 (ob 2 (fo 6 (va_up F1 5 (.int (v5 + 1))))))) (s_invv (K := mX2_add) (o := 2) (as := [.int 6, .int b, .int c, .int a]) (rest := []) (v := some (.int v5)) dX7_op_48 rfl lX7_37 (by omega) rfl (Nat.le_of_ble_eq_true rfl) rfl (Nat.le_of_ble_eq_true rfl) (ho1) (p_X2_add_1 (d := 0) (Nat.le_refl _) h 2 (6 : Int32) b c a F1 ho1 v5 e5 c1 3 e01 n f ha c2 (by decide) 4 e1 n1 f1 ha1 (by decide) c3 (by decide) 5 e2 n2 f2 ha2 (by decide) (by decide) c4 (by decide) 6 e3 n3 f3 ha3 (by decide) (by decide) (by decide) c5 (by decide)) (fun h => nomatch h)) ?_
  exact E.i dX7_op_51 rfl rfl rfl rfl

set_option maxRecDepth 20000 in
theorem j_X7_op_b_2 {d : Nat} (hd : 1 ≤ d) (h : AH) (a : Int32) (b : Int32) (c : Int32) (F : Nat → Value) (ho : h.1 1 = ob 7 (fo 2 F)) (e0 : F 0 = .ref 2) (F1 : Nat → Value) (ho1 : h.1 2 = ob 2 (fo 6 F1)) (v5 : Int32) (e5 : F1 5 = .int v5) (c1 : ¬ (v5 < 60)) : E false mX7_op d 39 [(0, .ref 1), (1, .int a), (2, .int b), (3, .int c)] [] h (some (.int (-1))) h := by
  refine E.st (s_aload_n (q := 40) dX7_op_39 rfl rfl) ?_
  refine E.st (s_gf (q := 43) (v := .ref 2) dX7_op_40 rfl fX7_10.l (ho) (by decide) (e0)) ?_
  refine E.st (s_bipush (q := 45) (v := 6) dX7_op_43 rfl (by decide)) ?_
  refine E.st (s_iload_n (q := 46) dX7_op_45 rfl rfl) ?_
  refine E.st (s_iload_n (q := 47) dX7_op_46 rfl rfl) ?_
  refine E.st (s_iload_n (q := 48) dX7_op_47 rfl rfl) ?_
  refine E.st (p2 := 51) (l2 := [(0, .ref 1), (1, .int a), (2, .int b), (3, .int c)]) (s2 := [.int (-1)]) (h2 := h) (s_invv (K := mX2_add) (o := 2) (as := [.int 6, .int b, .int c, .int a]) (rest := []) (v := some (.int (-1))) dX7_op_48 rfl lX7_37 (by omega) rfl (Nat.le_of_ble_eq_true rfl) rfl (Nat.le_of_ble_eq_true rfl) (ho1) (p_X2_add_2 (d := 0) (Nat.le_refl _) h 2 (6 : Int32) b c a F1 ho1 v5 e5 c1) (fun h => nomatch h)) ?_
  exact E.i dX7_op_51 rfl rfl rfl rfl

set_option maxRecDepth 20000 in
theorem j_X7_when_a_1 {d : Nat} (hd : 1 ≤ d) (h : AH) (a : Int32) (b : Int32) (c : Int32) (F : Nat → Value) (ho : h.1 1 = ob 7 (fo 2 F)) (e0 : F 0 = .ref 2) (F1 : Nat → Value) (ho1 : h.1 2 = ob 2 (fo 6 F1)) (v5 : Int32) (e5 : F1 5 = .int v5) (c1 : a < 0 ∨ v5 ≤ a) : J false mX7_when d 0 [(0, .ref 1), (1, .int a), (2, .int b), (3, .int c)] [] h 38 [(0, .ref 1), (1, .int a), (2, .int b), (3, .int c)] [.int 0] h := by
  refine J.tr (s_aload_n (q := 1) dX7_when_0 rfl rfl) ?_
  refine J.tr (s_gf (q := 4) (v := .ref 2) dX7_when_1 rfl fX7_10.l (ho) (by decide) (e0)) ?_
  refine J.tr (s_iload_n (q := 5) dX7_when_4 rfl rfl) ?_
  refine J.tr (p2 := 8) (l2 := [(0, .ref 1), (1, .int a), (2, .int b), (3, .int c)]) (s2 := [.int 0]) (h2 := h) (s_invv (K := mX2_has) (o := 2) (as := [.int a]) (rest := []) (v := some (.int 0)) dX7_when_5 rfl lX7_29 (by omega) rfl (Nat.le_of_ble_eq_true rfl) rfl (Nat.le_of_ble_eq_true rfl) (ho1) (q_X2_has_n (d := 0) (Nat.le_refl _) h 2 a F1 ho1 v5 e5 c1) (fun h => nomatch h)) ?_
  refine J.tr (s_if_eq_t (q := 37) dX7_when_8 (by decide) (by decide)) ?_
  refine J.tr (s_iconst (q := 38) (v := 0) dX7_when_37 rfl (by decide)) ?_
  refine J.tr (s_ls (ls' := [(0, .ref 1), (1, .int a), (2, .int b), (3, .int c)]) [0, 1, 2, 3] rfl) ?_
  exact J.rf

set_option maxRecDepth 20000 in
theorem j_X7_when_a_2 {d : Nat} (hd : 1 ≤ d) (h : AH) (a : Int32) (b : Int32) (c : Int32) (F : Nat → Value) (ho : h.1 1 = ob 7 (fo 2 F)) (e0 : F 0 = .ref 2) (F1 : Nat → Value) (ho1 : h.1 2 = ob 2 (fo 6 F1)) (v5 : Int32) (e5 : F1 5 = .int v5) (c1 : ¬ (a < 0) ∧ ¬ (v5 ≤ a)) (c2 : b < 0 ∨ v5 ≤ b) : J false mX7_when d 0 [(0, .ref 1), (1, .int a), (2, .int b), (3, .int c)] [] h 38 [(0, .ref 1), (1, .int a), (2, .int b), (3, .int c)] [.int 0] h := by
  refine J.tr (s_aload_n (q := 1) dX7_when_0 rfl rfl) ?_
  refine J.tr (s_gf (q := 4) (v := .ref 2) dX7_when_1 rfl fX7_10.l (ho) (by decide) (e0)) ?_
  refine J.tr (s_iload_n (q := 5) dX7_when_4 rfl rfl) ?_
  refine J.tr (p2 := 8) (l2 := [(0, .ref 1), (1, .int a), (2, .int b), (3, .int c)]) (s2 := [.int 1]) (h2 := h) (s_invv (K := mX2_has) (o := 2) (as := [.int a]) (rest := []) (v := some (.int 1)) dX7_when_5 rfl lX7_29 (by omega) rfl (Nat.le_of_ble_eq_true rfl) rfl (Nat.le_of_ble_eq_true rfl) (ho1) (q_X2_has_y (d := 0) (Nat.le_refl _) h 2 a F1 ho1 v5 e5 c1) (fun h => nomatch h)) ?_
  refine J.tr (s_if_eq_f (q := 11) (tg := 37) dX7_when_8 (by decide) rfl (by decide)) ?_
  refine J.tr (s_aload_n (q := 12) dX7_when_11 rfl rfl) ?_
  refine J.tr (s_gf (q := 15) (v := .ref 2) dX7_when_12 rfl fX7_10.l (ho) (by decide) (e0)) ?_
  refine J.tr (s_iload_n (q := 16) dX7_when_15 rfl rfl) ?_
  refine J.tr (p2 := 19) (l2 := [(0, .ref 1), (1, .int a), (2, .int b), (3, .int c)]) (s2 := [.int 0]) (h2 := h) (s_invv (K := mX2_has) (o := 2) (as := [.int b]) (rest := []) (v := some (.int 0)) dX7_when_16 rfl lX7_29 (by omega) rfl (Nat.le_of_ble_eq_true rfl) rfl (Nat.le_of_ble_eq_true rfl) (ho1) (q_X2_has_n (d := 0) (Nat.le_refl _) h 2 b F1 ho1 v5 e5 c2) (fun h => nomatch h)) ?_
  refine J.tr (s_if_eq_t (q := 37) dX7_when_19 (by decide) (by decide)) ?_
  refine J.tr (s_iconst (q := 38) (v := 0) dX7_when_37 rfl (by decide)) ?_
  refine J.tr (s_ls (ls' := [(0, .ref 1), (1, .int a), (2, .int b), (3, .int c)]) [0, 1, 2, 3] rfl) ?_
  exact J.rf

set_option maxRecDepth 20000 in
theorem j_X7_when_a_3 {d : Nat} (hd : 1 ≤ d) (h : AH) (a : Int32) (b : Int32) (c : Int32) (F : Nat → Value) (ho : h.1 1 = ob 7 (fo 2 F)) (e0 : F 0 = .ref 2) (F1 : Nat → Value) (ho1 : h.1 2 = ob 2 (fo 6 F1)) (v5 : Int32) (e5 : F1 5 = .int v5) (c1 : ¬ (a < 0) ∧ ¬ (v5 ≤ a)) (c2 : ¬ (b < 0) ∧ ¬ (v5 ≤ b)) (c3 : c < 0 ∨ v5 ≤ c) : J false mX7_when d 0 [(0, .ref 1), (1, .int a), (2, .int b), (3, .int c)] [] h 38 [(0, .ref 1), (1, .int a), (2, .int b), (3, .int c)] [.int 0] h := by
  refine J.tr (s_aload_n (q := 1) dX7_when_0 rfl rfl) ?_
  refine J.tr (s_gf (q := 4) (v := .ref 2) dX7_when_1 rfl fX7_10.l (ho) (by decide) (e0)) ?_
  refine J.tr (s_iload_n (q := 5) dX7_when_4 rfl rfl) ?_
  refine J.tr (p2 := 8) (l2 := [(0, .ref 1), (1, .int a), (2, .int b), (3, .int c)]) (s2 := [.int 1]) (h2 := h) (s_invv (K := mX2_has) (o := 2) (as := [.int a]) (rest := []) (v := some (.int 1)) dX7_when_5 rfl lX7_29 (by omega) rfl (Nat.le_of_ble_eq_true rfl) rfl (Nat.le_of_ble_eq_true rfl) (ho1) (q_X2_has_y (d := 0) (Nat.le_refl _) h 2 a F1 ho1 v5 e5 c1) (fun h => nomatch h)) ?_
  refine J.tr (s_if_eq_f (q := 11) (tg := 37) dX7_when_8 (by decide) rfl (by decide)) ?_
  refine J.tr (s_aload_n (q := 12) dX7_when_11 rfl rfl) ?_
  refine J.tr (s_gf (q := 15) (v := .ref 2) dX7_when_12 rfl fX7_10.l (ho) (by decide) (e0)) ?_
  refine J.tr (s_iload_n (q := 16) dX7_when_15 rfl rfl) ?_
  refine J.tr (p2 := 19) (l2 := [(0, .ref 1), (1, .int a), (2, .int b), (3, .int c)]) (s2 := [.int 1]) (h2 := h) (s_invv (K := mX2_has) (o := 2) (as := [.int b]) (rest := []) (v := some (.int 1)) dX7_when_16 rfl lX7_29 (by omega) rfl (Nat.le_of_ble_eq_true rfl) rfl (Nat.le_of_ble_eq_true rfl) (ho1) (q_X2_has_y (d := 0) (Nat.le_refl _) h 2 b F1 ho1 v5 e5 c2) (fun h => nomatch h)) ?_
  refine J.tr (s_if_eq_f (q := 22) (tg := 37) dX7_when_19 (by decide) rfl (by decide)) ?_
  refine J.tr (s_aload_n (q := 23) dX7_when_22 rfl rfl) ?_
  refine J.tr (s_gf (q := 26) (v := .ref 2) dX7_when_23 rfl fX7_10.l (ho) (by decide) (e0)) ?_
  refine J.tr (s_iload_n (q := 27) dX7_when_26 rfl rfl) ?_
  refine J.tr (p2 := 30) (l2 := [(0, .ref 1), (1, .int a), (2, .int b), (3, .int c)]) (s2 := [.int 0]) (h2 := h) (s_invv (K := mX2_has) (o := 2) (as := [.int c]) (rest := []) (v := some (.int 0)) dX7_when_27 rfl lX7_29 (by omega) rfl (Nat.le_of_ble_eq_true rfl) rfl (Nat.le_of_ble_eq_true rfl) (ho1) (q_X2_has_n (d := 0) (Nat.le_refl _) h 2 c F1 ho1 v5 e5 c3) (fun h => nomatch h)) ?_
  refine J.tr (s_if_eq_t (q := 37) dX7_when_30 (by decide) (by decide)) ?_
  refine J.tr (s_iconst (q := 38) (v := 0) dX7_when_37 rfl (by decide)) ?_
  refine J.tr (s_ls (ls' := [(0, .ref 1), (1, .int a), (2, .int b), (3, .int c)]) [0, 1, 2, 3] rfl) ?_
  exact J.rf

set_option maxRecDepth 20000 in
theorem j_X7_when_a_4 {d : Nat} (hd : 1 ≤ d) (h : AH) (a : Int32) (b : Int32) (c : Int32) (F : Nat → Value) (ho : h.1 1 = ob 7 (fo 2 F)) (e0 : F 0 = .ref 2) (F1 : Nat → Value) (ho1 : h.1 2 = ob 2 (fo 6 F1)) (v5 : Int32) (e5 : F1 5 = .int v5) (c1 : ¬ (a < 0) ∧ ¬ (v5 ≤ a)) (c2 : ¬ (b < 0) ∧ ¬ (v5 ≤ b)) (c3 : ¬ (c < 0) ∧ ¬ (v5 ≤ c)) : J false mX7_when d 0 [(0, .ref 1), (1, .int a), (2, .int b), (3, .int c)] [] h 38 [(0, .ref 1), (1, .int a), (2, .int b), (3, .int c)] [.int 1] h := by
  refine J.tr (s_aload_n (q := 1) dX7_when_0 rfl rfl) ?_
  refine J.tr (s_gf (q := 4) (v := .ref 2) dX7_when_1 rfl fX7_10.l (ho) (by decide) (e0)) ?_
  refine J.tr (s_iload_n (q := 5) dX7_when_4 rfl rfl) ?_
  refine J.tr (p2 := 8) (l2 := [(0, .ref 1), (1, .int a), (2, .int b), (3, .int c)]) (s2 := [.int 1]) (h2 := h) (s_invv (K := mX2_has) (o := 2) (as := [.int a]) (rest := []) (v := some (.int 1)) dX7_when_5 rfl lX7_29 (by omega) rfl (Nat.le_of_ble_eq_true rfl) rfl (Nat.le_of_ble_eq_true rfl) (ho1) (q_X2_has_y (d := 0) (Nat.le_refl _) h 2 a F1 ho1 v5 e5 c1) (fun h => nomatch h)) ?_
  refine J.tr (s_if_eq_f (q := 11) (tg := 37) dX7_when_8 (by decide) rfl (by decide)) ?_
  refine J.tr (s_aload_n (q := 12) dX7_when_11 rfl rfl) ?_
  refine J.tr (s_gf (q := 15) (v := .ref 2) dX7_when_12 rfl fX7_10.l (ho) (by decide) (e0)) ?_
  refine J.tr (s_iload_n (q := 16) dX7_when_15 rfl rfl) ?_
  refine J.tr (p2 := 19) (l2 := [(0, .ref 1), (1, .int a), (2, .int b), (3, .int c)]) (s2 := [.int 1]) (h2 := h) (s_invv (K := mX2_has) (o := 2) (as := [.int b]) (rest := []) (v := some (.int 1)) dX7_when_16 rfl lX7_29 (by omega) rfl (Nat.le_of_ble_eq_true rfl) rfl (Nat.le_of_ble_eq_true rfl) (ho1) (q_X2_has_y (d := 0) (Nat.le_refl _) h 2 b F1 ho1 v5 e5 c2) (fun h => nomatch h)) ?_
  refine J.tr (s_if_eq_f (q := 22) (tg := 37) dX7_when_19 (by decide) rfl (by decide)) ?_
  refine J.tr (s_aload_n (q := 23) dX7_when_22 rfl rfl) ?_
  refine J.tr (s_gf (q := 26) (v := .ref 2) dX7_when_23 rfl fX7_10.l (ho) (by decide) (e0)) ?_
  refine J.tr (s_iload_n (q := 27) dX7_when_26 rfl rfl) ?_
  refine J.tr (p2 := 30) (l2 := [(0, .ref 1), (1, .int a), (2, .int b), (3, .int c)]) (s2 := [.int 1]) (h2 := h) (s_invv (K := mX2_has) (o := 2) (as := [.int c]) (rest := []) (v := some (.int 1)) dX7_when_27 rfl lX7_29 (by omega) rfl (Nat.le_of_ble_eq_true rfl) rfl (Nat.le_of_ble_eq_true rfl) (ho1) (q_X2_has_y (d := 0) (Nat.le_refl _) h 2 c F1 ho1 v5 e5 c3) (fun h => nomatch h)) ?_
  refine J.tr (s_if_eq_f (q := 33) (tg := 37) dX7_when_30 (by decide) rfl (by decide)) ?_
  refine J.tr (s_iconst (q := 34) (v := 1) dX7_when_33 rfl (by decide)) ?_
  refine J.tr (s_goto (q := 38) dX7_when_34 (by decide)) ?_
  refine J.tr (s_ls (ls' := [(0, .ref 1), (1, .int a), (2, .int b), (3, .int c)]) [0, 1, 2, 3] rfl) ?_
  exact J.rf

set_option maxRecDepth 20000 in
theorem j_X7_when_b_1 {d : Nat} (hd : 1 ≤ d) (h : AH) (a : Int32) (b : Int32) (c : Int32) (F : Nat → Value) (ho : h.1 1 = ob 7 (fo 2 F)) (e0 : F 0 = .ref 2) (F1 : Nat → Value) (ho1 : h.1 2 = ob 2 (fo 6 F1)) (v5 : Int32) (e5 : F1 5 = .int v5) (c1 : v5 < 60) (e01 : F1 0 = .ref 3) (n : Nat) (f : Nat → Int32) (ha : h.1 3 = ia n f) (c2 : vp_in v5 n) (e1 : F1 1 = .ref 4) (n1 : Nat) (f1 : Nat → Int32) (ha1 : h.1 4 = ia n1 f1) (c3 : vp_in v5 n1) (e2 : F1 2 = .ref 5) (n2 : Nat) (f2 : Nat → Int32) (ha2 : h.1 5 = ia n2 f2) (c4 : vp_in v5 n2) (e3 : F1 3 = .ref 6) (n3 : Nat) (f3 : Nat → Int32) (ha3 : h.1 6 = ia n3 f3) (c5 : vp_in v5 n3) : E false mX7_when d 41 [(0, .ref 1), (1, .int a), (2, .int b), (3, .int c)] [] h (some (.int v5)) (hs (hs (hs (hs (hs h 3 (ia n (upd f v5.toNatClampNeg (7 : Int32)))) 4 (ia n1 (upd f1 v5.toNatClampNeg a))) 5 (ia n2 (upd f2 v5.toNatClampNeg b))) 6 (ia n3 (upd f3 v5.toNatClampNeg c))) 2 (ob 2 (fo 6 (va_up F1 5 (.int (v5 + 1)))))) := by
  refine E.st (s_aload_n (q := 42) dX7_when_41 rfl rfl) ?_
  refine E.st (s_gf (q := 45) (v := .ref 2) dX7_when_42 rfl fX7_10.l (ho) (by decide) (e0)) ?_
  refine E.st (s_bipush (q := 47) (v := 7) dX7_when_45 rfl (by decide)) ?_
  refine E.st (s_iload_n (q := 48) dX7_when_47 rfl rfl) ?_
  refine E.st (s_iload_n (q := 49) dX7_when_48 rfl rfl) ?_
  refine E.st (s_iload_n (q := 50) dX7_when_49 rfl rfl) ?_
  refine E.st (p2 := 53) (l2 := [(0, .ref 1), (1, .int a), (2, .int b), (3, .int c)]) (s2 := [.int v5]) (h2 := (hs (hs (hs (hs (hs h 3 (ia n (upd f v5.toNatClampNeg (7 : Int32)))) 4 (ia n1 (upd f1 v5.toNatClampNeg a))) 5 (ia n2 (upd f2 v5.toNatClampNeg b))) 6 (ia n3 (upd f3 v5.toNatClampNeg c))) 2 (ob 2 (fo 6 (va_up F1 5 (.int (v5 + 1))))))) (s_invv (K := mX2_add) (o := 2) (as := [.int 7, .int a, .int b, .int c]) (rest := []) (v := some (.int v5)) dX7_when_50 rfl lX7_37 (by omega) rfl (Nat.le_of_ble_eq_true rfl) rfl (Nat.le_of_ble_eq_true rfl) (ho1) (p_X2_add_1 (d := 0) (Nat.le_refl _) h 2 (7 : Int32) a b c F1 ho1 v5 e5 c1 3 e01 n f ha c2 (by decide) 4 e1 n1 f1 ha1 (by decide) c3 (by decide) 5 e2 n2 f2 ha2 (by decide) (by decide) c4 (by decide) 6 e3 n3 f3 ha3 (by decide) (by decide) (by decide) c5 (by decide)) (fun h => nomatch h)) ?_
  exact E.i dX7_when_53 rfl rfl rfl rfl

set_option maxRecDepth 20000 in
theorem j_X7_when_b_2 {d : Nat} (hd : 1 ≤ d) (h : AH) (a : Int32) (b : Int32) (c : Int32) (F : Nat → Value) (ho : h.1 1 = ob 7 (fo 2 F)) (e0 : F 0 = .ref 2) (F1 : Nat → Value) (ho1 : h.1 2 = ob 2 (fo 6 F1)) (v5 : Int32) (e5 : F1 5 = .int v5) (c1 : ¬ (v5 < 60)) : E false mX7_when d 41 [(0, .ref 1), (1, .int a), (2, .int b), (3, .int c)] [] h (some (.int (-1))) h := by
  refine E.st (s_aload_n (q := 42) dX7_when_41 rfl rfl) ?_
  refine E.st (s_gf (q := 45) (v := .ref 2) dX7_when_42 rfl fX7_10.l (ho) (by decide) (e0)) ?_
  refine E.st (s_bipush (q := 47) (v := 7) dX7_when_45 rfl (by decide)) ?_
  refine E.st (s_iload_n (q := 48) dX7_when_47 rfl rfl) ?_
  refine E.st (s_iload_n (q := 49) dX7_when_48 rfl rfl) ?_
  refine E.st (s_iload_n (q := 50) dX7_when_49 rfl rfl) ?_
  refine E.st (p2 := 53) (l2 := [(0, .ref 1), (1, .int a), (2, .int b), (3, .int c)]) (s2 := [.int (-1)]) (h2 := h) (s_invv (K := mX2_add) (o := 2) (as := [.int 7, .int a, .int b, .int c]) (rest := []) (v := some (.int (-1))) dX7_when_50 rfl lX7_37 (by omega) rfl (Nat.le_of_ble_eq_true rfl) rfl (Nat.le_of_ble_eq_true rfl) (ho1) (p_X2_add_2 (d := 0) (Nat.le_refl _) h 2 (7 : Int32) a b c F1 ho1 v5 e5 c1) (fun h => nomatch h)) ?_
  exact E.i dX7_when_53 rfl rfl rfl rfl

set_option maxRecDepth 20000 in
theorem j_X7_set_a_1 {d : Nat} (hd : 1 ≤ d) (h : AH) (a : Int32) (b : Int32) (F : Nat → Value) (ho : h.1 1 = ob 7 (fo 2 F)) (e0 : F 0 = .ref 2) (F1 : Nat → Value) (ho1 : h.1 2 = ob 2 (fo 6 F1)) (v5 : Int32) (e5 : F1 5 = .int v5) (c : a < 0 ∨ v5 ≤ a) : J false mX7_set d 0 [(0, .ref 1), (1, .int a), (2, .int b)] [] h 31 [(0, .ref 1), (1, .int a), (2, .int b)] [.int 0] h := by
  refine J.tr (s_aload_n (q := 1) dX7_set_0 rfl rfl) ?_
  refine J.tr (s_gf (q := 4) (v := .ref 2) dX7_set_1 rfl fX7_10.l (ho) (by decide) (e0)) ?_
  refine J.tr (s_iload_n (q := 5) dX7_set_4 rfl rfl) ?_
  refine J.tr (p2 := 8) (l2 := [(0, .ref 1), (1, .int a), (2, .int b)]) (s2 := [.int 0]) (h2 := h) (s_invv (K := mX2_has) (o := 2) (as := [.int a]) (rest := []) (v := some (.int 0)) dX7_set_5 rfl lX7_29 (by omega) rfl (Nat.le_of_ble_eq_true rfl) rfl (Nat.le_of_ble_eq_true rfl) (ho1) (q_X2_has_n (d := 0) (Nat.le_refl _) h 2 a F1 ho1 v5 e5 c) (fun h => nomatch h)) ?_
  refine J.tr (s_if_eq_t (q := 30) dX7_set_8 (by decide) (by decide)) ?_
  refine J.tr (s_iconst (q := 31) (v := 0) dX7_set_30 rfl (by decide)) ?_
  refine J.tr (s_ls (ls' := [(0, .ref 1), (1, .int a), (2, .int b)]) [0, 1, 2] rfl) ?_
  exact J.rf

set_option maxRecDepth 20000 in
theorem j_X7_set_a_2 {d : Nat} (hd : 1 ≤ d) (h : AH) (a : Int32) (b : Int32) (F : Nat → Value) (ho : h.1 1 = ob 7 (fo 2 F)) (e0 : F 0 = .ref 2) (F1 : Nat → Value) (ho1 : h.1 2 = ob 2 (fo 6 F1)) (v5 : Int32) (e5 : F1 5 = .int v5) (c : ¬ (a < 0) ∧ ¬ (v5 ≤ a)) (c1 : b < 0) : J false mX7_set d 0 [(0, .ref 1), (1, .int a), (2, .int b)] [] h 31 [(0, .ref 1), (1, .int a), (2, .int b)] [.int 0] h := by
  refine J.tr (s_aload_n (q := 1) dX7_set_0 rfl rfl) ?_
  refine J.tr (s_gf (q := 4) (v := .ref 2) dX7_set_1 rfl fX7_10.l (ho) (by decide) (e0)) ?_
  refine J.tr (s_iload_n (q := 5) dX7_set_4 rfl rfl) ?_
  refine J.tr (p2 := 8) (l2 := [(0, .ref 1), (1, .int a), (2, .int b)]) (s2 := [.int 1]) (h2 := h) (s_invv (K := mX2_has) (o := 2) (as := [.int a]) (rest := []) (v := some (.int 1)) dX7_set_5 rfl lX7_29 (by omega) rfl (Nat.le_of_ble_eq_true rfl) rfl (Nat.le_of_ble_eq_true rfl) (ho1) (q_X2_has_y (d := 0) (Nat.le_refl _) h 2 a F1 ho1 v5 e5 c) (fun h => nomatch h)) ?_
  refine J.tr (s_if_eq_f (q := 11) (tg := 30) dX7_set_8 (by decide) rfl (by decide)) ?_
  refine J.tr (s_iload_n (q := 12) dX7_set_11 rfl rfl) ?_
  refine J.tr (s_if_lt_t (q := 30) dX7_set_12 (by decide) c1) ?_
  refine J.tr (s_iconst (q := 31) (v := 0) dX7_set_30 rfl (by decide)) ?_
  refine J.tr (s_ls (ls' := [(0, .ref 1), (1, .int a), (2, .int b)]) [0, 1, 2] rfl) ?_
  exact J.rf

set_option maxRecDepth 20000 in
theorem j_X7_set_a_3 {d : Nat} (hd : 1 ≤ d) (h : AH) (a : Int32) (b : Int32) (F : Nat → Value) (ho : h.1 1 = ob 7 (fo 2 F)) (e0 : F 0 = .ref 2) (F1 : Nat → Value) (ho1 : h.1 2 = ob 2 (fo 6 F1)) (v5 : Int32) (e5 : F1 5 = .int v5) (c : ¬ (a < 0) ∧ ¬ (v5 ≤ a)) (c1 : ¬ (b < 0)) (c2 : v5 < b) : J false mX7_set d 0 [(0, .ref 1), (1, .int a), (2, .int b)] [] h 31 [(0, .ref 1), (1, .int a), (2, .int b)] [.int 0] h := by
  refine J.tr (s_aload_n (q := 1) dX7_set_0 rfl rfl) ?_
  refine J.tr (s_gf (q := 4) (v := .ref 2) dX7_set_1 rfl fX7_10.l (ho) (by decide) (e0)) ?_
  refine J.tr (s_iload_n (q := 5) dX7_set_4 rfl rfl) ?_
  refine J.tr (p2 := 8) (l2 := [(0, .ref 1), (1, .int a), (2, .int b)]) (s2 := [.int 1]) (h2 := h) (s_invv (K := mX2_has) (o := 2) (as := [.int a]) (rest := []) (v := some (.int 1)) dX7_set_5 rfl lX7_29 (by omega) rfl (Nat.le_of_ble_eq_true rfl) rfl (Nat.le_of_ble_eq_true rfl) (ho1) (q_X2_has_y (d := 0) (Nat.le_refl _) h 2 a F1 ho1 v5 e5 c) (fun h => nomatch h)) ?_
  refine J.tr (s_if_eq_f (q := 11) (tg := 30) dX7_set_8 (by decide) rfl (by decide)) ?_
  refine J.tr (s_iload_n (q := 12) dX7_set_11 rfl rfl) ?_
  refine J.tr (s_if_lt_f (q := 15) (tg := 30) dX7_set_12 (by decide) rfl c1) ?_
  refine J.tr (s_iload_n (q := 16) dX7_set_15 rfl rfl) ?_
  refine J.tr (s_aload_n (q := 17) dX7_set_16 rfl rfl) ?_
  refine J.tr (s_gf (q := 20) (v := .ref 2) dX7_set_17 rfl fX7_10.l (ho) (by decide) (e0)) ?_
  refine J.tr (p2 := 23) (l2 := [(0, .ref 1), (1, .int a), (2, .int b)]) (s2 := [.int v5, .int b]) (h2 := h) (s_invv (K := mX2_size) (o := 2) (as := []) (rest := [.int b]) (v := some (.int v5)) dX7_set_20 rfl lX7_41 (by omega) rfl (Nat.le_of_ble_eq_true rfl) rfl (Nat.le_of_ble_eq_true rfl) (ho1) (p_X2_size_1 (d := 0) (Nat.le_refl _) h 2 F1 ho1 v5 e5) (fun h => nomatch h)) ?_
  refine J.tr (s_icmp_gt_t (q := 30) dX7_set_23 (by decide) c2) ?_
  refine J.tr (s_iconst (q := 31) (v := 0) dX7_set_30 rfl (by decide)) ?_
  refine J.tr (s_ls (ls' := [(0, .ref 1), (1, .int a), (2, .int b)]) [0, 1, 2] rfl) ?_
  exact J.rf

set_option maxRecDepth 20000 in
theorem j_X7_set_a_4 {d : Nat} (hd : 1 ≤ d) (h : AH) (a : Int32) (b : Int32) (F : Nat → Value) (ho : h.1 1 = ob 7 (fo 2 F)) (e0 : F 0 = .ref 2) (F1 : Nat → Value) (ho1 : h.1 2 = ob 2 (fo 6 F1)) (v5 : Int32) (e5 : F1 5 = .int v5) (c : ¬ (a < 0) ∧ ¬ (v5 ≤ a)) (c1 : ¬ (b < 0)) (c2 : ¬ (v5 < b)) : J false mX7_set d 0 [(0, .ref 1), (1, .int a), (2, .int b)] [] h 31 [(0, .ref 1), (1, .int a), (2, .int b)] [.int 1] h := by
  refine J.tr (s_aload_n (q := 1) dX7_set_0 rfl rfl) ?_
  refine J.tr (s_gf (q := 4) (v := .ref 2) dX7_set_1 rfl fX7_10.l (ho) (by decide) (e0)) ?_
  refine J.tr (s_iload_n (q := 5) dX7_set_4 rfl rfl) ?_
  refine J.tr (p2 := 8) (l2 := [(0, .ref 1), (1, .int a), (2, .int b)]) (s2 := [.int 1]) (h2 := h) (s_invv (K := mX2_has) (o := 2) (as := [.int a]) (rest := []) (v := some (.int 1)) dX7_set_5 rfl lX7_29 (by omega) rfl (Nat.le_of_ble_eq_true rfl) rfl (Nat.le_of_ble_eq_true rfl) (ho1) (q_X2_has_y (d := 0) (Nat.le_refl _) h 2 a F1 ho1 v5 e5 c) (fun h => nomatch h)) ?_
  refine J.tr (s_if_eq_f (q := 11) (tg := 30) dX7_set_8 (by decide) rfl (by decide)) ?_
  refine J.tr (s_iload_n (q := 12) dX7_set_11 rfl rfl) ?_
  refine J.tr (s_if_lt_f (q := 15) (tg := 30) dX7_set_12 (by decide) rfl c1) ?_
  refine J.tr (s_iload_n (q := 16) dX7_set_15 rfl rfl) ?_
  refine J.tr (s_aload_n (q := 17) dX7_set_16 rfl rfl) ?_
  refine J.tr (s_gf (q := 20) (v := .ref 2) dX7_set_17 rfl fX7_10.l (ho) (by decide) (e0)) ?_
  refine J.tr (p2 := 23) (l2 := [(0, .ref 1), (1, .int a), (2, .int b)]) (s2 := [.int v5, .int b]) (h2 := h) (s_invv (K := mX2_size) (o := 2) (as := []) (rest := [.int b]) (v := some (.int v5)) dX7_set_20 rfl lX7_41 (by omega) rfl (Nat.le_of_ble_eq_true rfl) rfl (Nat.le_of_ble_eq_true rfl) (ho1) (p_X2_size_1 (d := 0) (Nat.le_refl _) h 2 F1 ho1 v5 e5) (fun h => nomatch h)) ?_
  refine J.tr (s_icmp_gt_f (q := 26) (tg := 30) dX7_set_23 (by decide) rfl c2) ?_
  refine J.tr (s_iconst (q := 27) (v := 1) dX7_set_26 rfl (by decide)) ?_
  refine J.tr (s_goto (q := 31) dX7_set_27 (by decide)) ?_
  refine J.tr (s_ls (ls' := [(0, .ref 1), (1, .int a), (2, .int b)]) [0, 1, 2] rfl) ?_
  exact J.rf

set_option maxRecDepth 20000 in
theorem j_X7_set_b_1 {d : Nat} (hd : 1 ≤ d) (h : AH) (a : Int32) (b : Int32) (F : Nat → Value) (ho : h.1 1 = ob 7 (fo 2 F)) (e0 : F 0 = .ref 2) (F1 : Nat → Value) (ho1 : h.1 2 = ob 2 (fo 6 F1)) (v5 : Int32) (e5 : F1 5 = .int v5) (c : v5 < 60) (e01 : F1 0 = .ref 3) (n : Nat) (f : Nat → Int32) (ha : h.1 3 = ia n f) (c1 : vp_in v5 n) (e1 : F1 1 = .ref 4) (n1 : Nat) (f1 : Nat → Int32) (ha1 : h.1 4 = ia n1 f1) (c2 : vp_in v5 n1) (e2 : F1 2 = .ref 5) (n2 : Nat) (f2 : Nat → Int32) (ha2 : h.1 5 = ia n2 f2) (c3 : vp_in v5 n2) (e3 : F1 3 = .ref 6) (n3 : Nat) (f3 : Nat → Int32) (ha3 : h.1 6 = ia n3 f3) (c4 : vp_in v5 n3) : E false mX7_set d 34 [(0, .ref 1), (1, .int a), (2, .int b)] [] h (some (.int v5)) (hs (hs (hs (hs (hs h 3 (ia n (upd f v5.toNatClampNeg (8 : Int32)))) 4 (ia n1 (upd f1 v5.toNatClampNeg a))) 5 (ia n2 (upd f2 v5.toNatClampNeg b))) 6 (ia n3 (upd f3 v5.toNatClampNeg (-1 : Int32)))) 2 (ob 2 (fo 6 (va_up F1 5 (.int (v5 + 1)))))) := by
  refine E.st (s_aload_n (q := 35) dX7_set_34 rfl rfl) ?_
  refine E.st (s_gf (q := 38) (v := .ref 2) dX7_set_35 rfl fX7_10.l (ho) (by decide) (e0)) ?_
  refine E.st (s_bipush (q := 40) (v := 8) dX7_set_38 rfl (by decide)) ?_
  refine E.st (s_iload_n (q := 41) dX7_set_40 rfl rfl) ?_
  refine E.st (s_iload_n (q := 42) dX7_set_41 rfl rfl) ?_
  refine E.st (s_iconst (q := 43) (v := (-1)) dX7_set_42 rfl (by decide)) ?_
  refine E.st (p2 := 46) (l2 := [(0, .ref 1), (1, .int a), (2, .int b)]) (s2 := [.int v5]) (h2 := (hs (hs (hs (hs (hs h 3 (ia n (upd f v5.toNatClampNeg (8 : Int32)))) 4 (ia n1 (upd f1 v5.toNatClampNeg a))) 5 (ia n2 (upd f2 v5.toNatClampNeg b))) 6 (ia n3 (upd f3 v5.toNatClampNeg (-1 : Int32)))) 2 (ob 2 (fo 6 (va_up F1 5 (.int (v5 + 1))))))) (s_invv (K := mX2_add) (o := 2) (as := [.int 8, .int a, .int b, .int (-1)]) (rest := []) (v := some (.int v5)) dX7_set_43 rfl lX7_37 (by omega) rfl (Nat.le_of_ble_eq_true rfl) rfl (Nat.le_of_ble_eq_true rfl) (ho1) (p_X2_add_1 (d := 0) (Nat.le_refl _) h 2 (8 : Int32) a b (-1 : Int32) F1 ho1 v5 e5 c 3 e01 n f ha c1 (by decide) 4 e1 n1 f1 ha1 (by decide) c2 (by decide) 5 e2 n2 f2 ha2 (by decide) (by decide) c3 (by decide) 6 e3 n3 f3 ha3 (by decide) (by decide) (by decide) c4 (by decide)) (fun h => nomatch h)) ?_
  exact E.i dX7_set_46 rfl rfl rfl rfl

set_option maxRecDepth 20000 in
theorem j_X7_set_b_2 {d : Nat} (hd : 1 ≤ d) (h : AH) (a : Int32) (b : Int32) (F : Nat → Value) (ho : h.1 1 = ob 7 (fo 2 F)) (e0 : F 0 = .ref 2) (F1 : Nat → Value) (ho1 : h.1 2 = ob 2 (fo 6 F1)) (v5 : Int32) (e5 : F1 5 = .int v5) (c : ¬ (v5 < 60)) : E false mX7_set d 34 [(0, .ref 1), (1, .int a), (2, .int b)] [] h (some (.int (-1))) h := by
  refine E.st (s_aload_n (q := 35) dX7_set_34 rfl rfl) ?_
  refine E.st (s_gf (q := 38) (v := .ref 2) dX7_set_35 rfl fX7_10.l (ho) (by decide) (e0)) ?_
  refine E.st (s_bipush (q := 40) (v := 8) dX7_set_38 rfl (by decide)) ?_
  refine E.st (s_iload_n (q := 41) dX7_set_40 rfl rfl) ?_
  refine E.st (s_iload_n (q := 42) dX7_set_41 rfl rfl) ?_
  refine E.st (s_iconst (q := 43) (v := (-1)) dX7_set_42 rfl (by decide)) ?_
  refine E.st (p2 := 46) (l2 := [(0, .ref 1), (1, .int a), (2, .int b)]) (s2 := [.int (-1)]) (h2 := h) (s_invv (K := mX2_add) (o := 2) (as := [.int 8, .int a, .int b, .int (-1)]) (rest := []) (v := some (.int (-1))) dX7_set_43 rfl lX7_37 (by omega) rfl (Nat.le_of_ble_eq_true rfl) rfl (Nat.le_of_ble_eq_true rfl) (ho1) (p_X2_add_2 (d := 0) (Nat.le_refl _) h 2 (8 : Int32) a b (-1 : Int32) F1 ho1 v5 e5 c) (fun h => nomatch h)) ?_
  exact E.i dX7_set_46 rfl rfl rfl rfl

set_option maxRecDepth 20000 in
theorem j_X7_fold_a_1 {d : Nat} (hd : 1 ≤ d) (h : AH) (a : Int32) (b : Int32) (F : Nat → Value) (ho : h.1 1 = ob 7 (fo 2 F)) (e0 : F 0 = .ref 2) (F1 : Nat → Value) (ho1 : h.1 2 = ob 2 (fo 6 F1)) (v5 : Int32) (e5 : F1 5 = .int v5) (c : b < 0 ∨ v5 ≤ b) : J false mX7_fold d 0 [(0, .ref 1), (1, .int a), (2, .int b)] [] h 25 [(0, .ref 1), (1, .int a), (2, .int b)] [.int 0] h := by
  refine J.tr (s_aload_n (q := 1) dX7_fold_0 rfl rfl) ?_
  refine J.tr (s_gf (q := 4) (v := .ref 2) dX7_fold_1 rfl fX7_10.l (ho) (by decide) (e0)) ?_
  refine J.tr (s_iload_n (q := 5) dX7_fold_4 rfl rfl) ?_
  refine J.tr (p2 := 8) (l2 := [(0, .ref 1), (1, .int a), (2, .int b)]) (s2 := [.int 0]) (h2 := h) (s_invv (K := mX2_has) (o := 2) (as := [.int b]) (rest := []) (v := some (.int 0)) dX7_fold_5 rfl lX7_29 (by omega) rfl (Nat.le_of_ble_eq_true rfl) rfl (Nat.le_of_ble_eq_true rfl) (ho1) (q_X2_has_n (d := 0) (Nat.le_refl _) h 2 b F1 ho1 v5 e5 c) (fun h => nomatch h)) ?_
  refine J.tr (s_if_eq_t (q := 24) dX7_fold_8 (by decide) (by decide)) ?_
  refine J.tr (s_iconst (q := 25) (v := 0) dX7_fold_24 rfl (by decide)) ?_
  refine J.tr (s_ls (ls' := [(0, .ref 1), (1, .int a), (2, .int b)]) [0, 1, 2] rfl) ?_
  exact J.rf

set_option maxRecDepth 20000 in
theorem j_X7_fold_a_2 {d : Nat} (hd : 1 ≤ d) (h : AH) (a : Int32) (b : Int32) (F : Nat → Value) (ho : h.1 1 = ob 7 (fo 2 F)) (e0 : F 0 = .ref 2) (F1 : Nat → Value) (ho1 : h.1 2 = ob 2 (fo 6 F1)) (v5 : Int32) (e5 : F1 5 = .int v5) (c : ¬ (b < 0) ∧ ¬ (v5 ≤ b)) (c1 : a < 0) : J false mX7_fold d 0 [(0, .ref 1), (1, .int a), (2, .int b)] [] h 25 [(0, .ref 1), (1, .int a), (2, .int b)] [.int 0] h := by
  refine J.tr (s_aload_n (q := 1) dX7_fold_0 rfl rfl) ?_
  refine J.tr (s_gf (q := 4) (v := .ref 2) dX7_fold_1 rfl fX7_10.l (ho) (by decide) (e0)) ?_
  refine J.tr (s_iload_n (q := 5) dX7_fold_4 rfl rfl) ?_
  refine J.tr (p2 := 8) (l2 := [(0, .ref 1), (1, .int a), (2, .int b)]) (s2 := [.int 1]) (h2 := h) (s_invv (K := mX2_has) (o := 2) (as := [.int b]) (rest := []) (v := some (.int 1)) dX7_fold_5 rfl lX7_29 (by omega) rfl (Nat.le_of_ble_eq_true rfl) rfl (Nat.le_of_ble_eq_true rfl) (ho1) (q_X2_has_y (d := 0) (Nat.le_refl _) h 2 b F1 ho1 v5 e5 c) (fun h => nomatch h)) ?_
  refine J.tr (s_if_eq_f (q := 11) (tg := 24) dX7_fold_8 (by decide) rfl (by decide)) ?_
  refine J.tr (s_iload_n (q := 12) dX7_fold_11 rfl rfl) ?_
  refine J.tr (s_if_lt_t (q := 24) dX7_fold_12 (by decide) c1) ?_
  refine J.tr (s_iconst (q := 25) (v := 0) dX7_fold_24 rfl (by decide)) ?_
  refine J.tr (s_ls (ls' := [(0, .ref 1), (1, .int a), (2, .int b)]) [0, 1, 2] rfl) ?_
  exact J.rf

set_option maxRecDepth 20000 in
theorem j_X7_fold_a_3 {d : Nat} (hd : 1 ≤ d) (h : AH) (a : Int32) (b : Int32) (F : Nat → Value) (ho : h.1 1 = ob 7 (fo 2 F)) (e0 : F 0 = .ref 2) (F1 : Nat → Value) (ho1 : h.1 2 = ob 2 (fo 6 F1)) (v5 : Int32) (e5 : F1 5 = .int v5) (c : ¬ (b < 0) ∧ ¬ (v5 ≤ b)) (c1 : ¬ (a < 0)) (c2 : 2 < a) : J false mX7_fold d 0 [(0, .ref 1), (1, .int a), (2, .int b)] [] h 25 [(0, .ref 1), (1, .int a), (2, .int b)] [.int 0] h := by
  refine J.tr (s_aload_n (q := 1) dX7_fold_0 rfl rfl) ?_
  refine J.tr (s_gf (q := 4) (v := .ref 2) dX7_fold_1 rfl fX7_10.l (ho) (by decide) (e0)) ?_
  refine J.tr (s_iload_n (q := 5) dX7_fold_4 rfl rfl) ?_
  refine J.tr (p2 := 8) (l2 := [(0, .ref 1), (1, .int a), (2, .int b)]) (s2 := [.int 1]) (h2 := h) (s_invv (K := mX2_has) (o := 2) (as := [.int b]) (rest := []) (v := some (.int 1)) dX7_fold_5 rfl lX7_29 (by omega) rfl (Nat.le_of_ble_eq_true rfl) rfl (Nat.le_of_ble_eq_true rfl) (ho1) (q_X2_has_y (d := 0) (Nat.le_refl _) h 2 b F1 ho1 v5 e5 c) (fun h => nomatch h)) ?_
  refine J.tr (s_if_eq_f (q := 11) (tg := 24) dX7_fold_8 (by decide) rfl (by decide)) ?_
  refine J.tr (s_iload_n (q := 12) dX7_fold_11 rfl rfl) ?_
  refine J.tr (s_if_lt_f (q := 15) (tg := 24) dX7_fold_12 (by decide) rfl c1) ?_
  refine J.tr (s_iload_n (q := 16) dX7_fold_15 rfl rfl) ?_
  refine J.tr (s_iconst (q := 17) (v := 2) dX7_fold_16 rfl (by decide)) ?_
  refine J.tr (s_icmp_gt_t (q := 24) dX7_fold_17 (by decide) c2) ?_
  refine J.tr (s_iconst (q := 25) (v := 0) dX7_fold_24 rfl (by decide)) ?_
  refine J.tr (s_ls (ls' := [(0, .ref 1), (1, .int a), (2, .int b)]) [0, 1, 2] rfl) ?_
  exact J.rf

set_option maxRecDepth 20000 in
theorem j_X7_fold_a_4 {d : Nat} (hd : 1 ≤ d) (h : AH) (a : Int32) (b : Int32) (F : Nat → Value) (ho : h.1 1 = ob 7 (fo 2 F)) (e0 : F 0 = .ref 2) (F1 : Nat → Value) (ho1 : h.1 2 = ob 2 (fo 6 F1)) (v5 : Int32) (e5 : F1 5 = .int v5) (c : ¬ (b < 0) ∧ ¬ (v5 ≤ b)) (c1 : ¬ (a < 0)) (c2 : ¬ (2 < a)) : J false mX7_fold d 0 [(0, .ref 1), (1, .int a), (2, .int b)] [] h 25 [(0, .ref 1), (1, .int a), (2, .int b)] [.int 1] h := by
  refine J.tr (s_aload_n (q := 1) dX7_fold_0 rfl rfl) ?_
  refine J.tr (s_gf (q := 4) (v := .ref 2) dX7_fold_1 rfl fX7_10.l (ho) (by decide) (e0)) ?_
  refine J.tr (s_iload_n (q := 5) dX7_fold_4 rfl rfl) ?_
  refine J.tr (p2 := 8) (l2 := [(0, .ref 1), (1, .int a), (2, .int b)]) (s2 := [.int 1]) (h2 := h) (s_invv (K := mX2_has) (o := 2) (as := [.int b]) (rest := []) (v := some (.int 1)) dX7_fold_5 rfl lX7_29 (by omega) rfl (Nat.le_of_ble_eq_true rfl) rfl (Nat.le_of_ble_eq_true rfl) (ho1) (q_X2_has_y (d := 0) (Nat.le_refl _) h 2 b F1 ho1 v5 e5 c) (fun h => nomatch h)) ?_
  refine J.tr (s_if_eq_f (q := 11) (tg := 24) dX7_fold_8 (by decide) rfl (by decide)) ?_
  refine J.tr (s_iload_n (q := 12) dX7_fold_11 rfl rfl) ?_
  refine J.tr (s_if_lt_f (q := 15) (tg := 24) dX7_fold_12 (by decide) rfl c1) ?_
  refine J.tr (s_iload_n (q := 16) dX7_fold_15 rfl rfl) ?_
  refine J.tr (s_iconst (q := 17) (v := 2) dX7_fold_16 rfl (by decide)) ?_
  refine J.tr (s_icmp_gt_f (q := 20) (tg := 24) dX7_fold_17 (by decide) rfl c2) ?_
  refine J.tr (s_iconst (q := 21) (v := 1) dX7_fold_20 rfl (by decide)) ?_
  refine J.tr (s_goto (q := 25) dX7_fold_21 (by decide)) ?_
  refine J.tr (s_ls (ls' := [(0, .ref 1), (1, .int a), (2, .int b)]) [0, 1, 2] rfl) ?_
  exact J.rf

set_option maxRecDepth 20000 in
theorem j_X7_fold_b_1 {d : Nat} (hd : 1 ≤ d) (h : AH) (a : Int32) (b : Int32) (F : Nat → Value) (ho : h.1 1 = ob 7 (fo 2 F)) (e0 : F 0 = .ref 2) (F1 : Nat → Value) (ho1 : h.1 2 = ob 2 (fo 6 F1)) (v5 : Int32) (e5 : F1 5 = .int v5) (c : v5 < 60) (e01 : F1 0 = .ref 3) (n : Nat) (f : Nat → Int32) (ha : h.1 3 = ia n f) (c1 : vp_in v5 n) (e1 : F1 1 = .ref 4) (n1 : Nat) (f1 : Nat → Int32) (ha1 : h.1 4 = ia n1 f1) (c2 : vp_in v5 n1) (e2 : F1 2 = .ref 5) (n2 : Nat) (f2 : Nat → Int32) (ha2 : h.1 5 = ia n2 f2) (c3 : vp_in v5 n2) (e3 : F1 3 = .ref 6) (n3 : Nat) (f3 : Nat → Int32) (ha3 : h.1 6 = ia n3 f3) (c4 : vp_in v5 n3) : E false mX7_fold d 28 [(0, .ref 1), (1, .int a), (2, .int b)] [] h (some (.int v5)) (hs (hs (hs (hs (hs h 3 (ia n (upd f v5.toNatClampNeg (9 : Int32)))) 4 (ia n1 (upd f1 v5.toNatClampNeg b))) 5 (ia n2 (upd f2 v5.toNatClampNeg a))) 6 (ia n3 (upd f3 v5.toNatClampNeg (-1 : Int32)))) 2 (ob 2 (fo 6 (va_up F1 5 (.int (v5 + 1)))))) := by
  refine E.st (s_aload_n (q := 29) dX7_fold_28 rfl rfl) ?_
  refine E.st (s_gf (q := 32) (v := .ref 2) dX7_fold_29 rfl fX7_10.l (ho) (by decide) (e0)) ?_
  refine E.st (s_bipush (q := 34) (v := 9) dX7_fold_32 rfl (by decide)) ?_
  refine E.st (s_iload_n (q := 35) dX7_fold_34 rfl rfl) ?_
  refine E.st (s_iload_n (q := 36) dX7_fold_35 rfl rfl) ?_
  refine E.st (s_iconst (q := 37) (v := (-1)) dX7_fold_36 rfl (by decide)) ?_
  refine E.st (p2 := 40) (l2 := [(0, .ref 1), (1, .int a), (2, .int b)]) (s2 := [.int v5]) (h2 := (hs (hs (hs (hs (hs h 3 (ia n (upd f v5.toNatClampNeg (9 : Int32)))) 4 (ia n1 (upd f1 v5.toNatClampNeg b))) 5 (ia n2 (upd f2 v5.toNatClampNeg a))) 6 (ia n3 (upd f3 v5.toNatClampNeg (-1 : Int32)))) 2 (ob 2 (fo 6 (va_up F1 5 (.int (v5 + 1))))))) (s_invv (K := mX2_add) (o := 2) (as := [.int 9, .int b, .int a, .int (-1)]) (rest := []) (v := some (.int v5)) dX7_fold_37 rfl lX7_37 (by omega) rfl (Nat.le_of_ble_eq_true rfl) rfl (Nat.le_of_ble_eq_true rfl) (ho1) (p_X2_add_1 (d := 0) (Nat.le_refl _) h 2 (9 : Int32) b a (-1 : Int32) F1 ho1 v5 e5 c 3 e01 n f ha c1 (by decide) 4 e1 n1 f1 ha1 (by decide) c2 (by decide) 5 e2 n2 f2 ha2 (by decide) (by decide) c3 (by decide) 6 e3 n3 f3 ha3 (by decide) (by decide) (by decide) c4 (by decide)) (fun h => nomatch h)) ?_
  exact E.i dX7_fold_40 rfl rfl rfl rfl

set_option maxRecDepth 20000 in
theorem j_X7_fold_b_2 {d : Nat} (hd : 1 ≤ d) (h : AH) (a : Int32) (b : Int32) (F : Nat → Value) (ho : h.1 1 = ob 7 (fo 2 F)) (e0 : F 0 = .ref 2) (F1 : Nat → Value) (ho1 : h.1 2 = ob 2 (fo 6 F1)) (v5 : Int32) (e5 : F1 5 = .int v5) (c : ¬ (v5 < 60)) : E false mX7_fold d 28 [(0, .ref 1), (1, .int a), (2, .int b)] [] h (some (.int (-1))) h := by
  refine E.st (s_aload_n (q := 29) dX7_fold_28 rfl rfl) ?_
  refine E.st (s_gf (q := 32) (v := .ref 2) dX7_fold_29 rfl fX7_10.l (ho) (by decide) (e0)) ?_
  refine E.st (s_bipush (q := 34) (v := 9) dX7_fold_32 rfl (by decide)) ?_
  refine E.st (s_iload_n (q := 35) dX7_fold_34 rfl rfl) ?_
  refine E.st (s_iload_n (q := 36) dX7_fold_35 rfl rfl) ?_
  refine E.st (s_iconst (q := 37) (v := (-1)) dX7_fold_36 rfl (by decide)) ?_
  refine E.st (p2 := 40) (l2 := [(0, .ref 1), (1, .int a), (2, .int b)]) (s2 := [.int (-1)]) (h2 := h) (s_invv (K := mX2_add) (o := 2) (as := [.int 9, .int b, .int a, .int (-1)]) (rest := []) (v := some (.int (-1))) dX7_fold_37 rfl lX7_37 (by omega) rfl (Nat.le_of_ble_eq_true rfl) rfl (Nat.le_of_ble_eq_true rfl) (ho1) (p_X2_add_2 (d := 0) (Nat.le_refl _) h 2 (9 : Int32) b a (-1 : Int32) F1 ho1 v5 e5 c) (fun h => nomatch h)) ?_
  exact E.i dX7_fold_40 rfl rfl rfl rfl

set_option maxRecDepth 20000 in
theorem j_X7_ask_a_1 {d : Nat} (hd : 1 ≤ d) (h : AH) (a : Int32) (b : Int32) (c : Int32) (F : Nat → Value) (ho : h.1 1 = ob 7 (fo 2 F)) (e0 : F 0 = .ref 2) (F1 : Nat → Value) (ho1 : h.1 2 = ob 2 (fo 6 F1)) (v5 : Int32) (e5 : F1 5 = .int v5) (c1 : a < 0 ∨ v5 ≤ a) : J false mX7_ask d 0 [(0, .ref 1), (1, .int a), (2, .int b), (3, .int c)] [] h 36 [(0, .ref 1), (1, .int a), (2, .int b), (3, .int c)] [.int 0] h := by
  refine J.tr (s_aload_n (q := 1) dX7_ask_0 rfl rfl) ?_
  refine J.tr (s_gf (q := 4) (v := .ref 2) dX7_ask_1 rfl fX7_10.l (ho) (by decide) (e0)) ?_
  refine J.tr (s_iload_n (q := 5) dX7_ask_4 rfl rfl) ?_
  refine J.tr (p2 := 8) (l2 := [(0, .ref 1), (1, .int a), (2, .int b), (3, .int c)]) (s2 := [.int 0]) (h2 := h) (s_invv (K := mX2_has) (o := 2) (as := [.int a]) (rest := []) (v := some (.int 0)) dX7_ask_5 rfl lX7_29 (by omega) rfl (Nat.le_of_ble_eq_true rfl) rfl (Nat.le_of_ble_eq_true rfl) (ho1) (q_X2_has_n (d := 0) (Nat.le_refl _) h 2 a F1 ho1 v5 e5 c1) (fun h => nomatch h)) ?_
  refine J.tr (s_if_eq_t (q := 35) dX7_ask_8 (by decide) (by decide)) ?_
  refine J.tr (s_iconst (q := 36) (v := 0) dX7_ask_35 rfl (by decide)) ?_
  refine J.tr (s_ls (ls' := [(0, .ref 1), (1, .int a), (2, .int b), (3, .int c)]) [0, 1, 2, 3] rfl) ?_
  exact J.rf

set_option maxRecDepth 20000 in
theorem j_X7_ask_a_2 {d : Nat} (hd : 1 ≤ d) (h : AH) (a : Int32) (b : Int32) (c : Int32) (F : Nat → Value) (ho : h.1 1 = ob 7 (fo 2 F)) (e0 : F 0 = .ref 2) (F1 : Nat → Value) (ho1 : h.1 2 = ob 2 (fo 6 F1)) (v5 : Int32) (e5 : F1 5 = .int v5) (c1 : ¬ (a < 0) ∧ ¬ (v5 ≤ a)) (c2 : b < 0) : J false mX7_ask d 0 [(0, .ref 1), (1, .int a), (2, .int b), (3, .int c)] [] h 36 [(0, .ref 1), (1, .int a), (2, .int b), (3, .int c)] [.int 0] h := by
  refine J.tr (s_aload_n (q := 1) dX7_ask_0 rfl rfl) ?_
  refine J.tr (s_gf (q := 4) (v := .ref 2) dX7_ask_1 rfl fX7_10.l (ho) (by decide) (e0)) ?_
  refine J.tr (s_iload_n (q := 5) dX7_ask_4 rfl rfl) ?_
  refine J.tr (p2 := 8) (l2 := [(0, .ref 1), (1, .int a), (2, .int b), (3, .int c)]) (s2 := [.int 1]) (h2 := h) (s_invv (K := mX2_has) (o := 2) (as := [.int a]) (rest := []) (v := some (.int 1)) dX7_ask_5 rfl lX7_29 (by omega) rfl (Nat.le_of_ble_eq_true rfl) rfl (Nat.le_of_ble_eq_true rfl) (ho1) (q_X2_has_y (d := 0) (Nat.le_refl _) h 2 a F1 ho1 v5 e5 c1) (fun h => nomatch h)) ?_
  refine J.tr (s_if_eq_f (q := 11) (tg := 35) dX7_ask_8 (by decide) rfl (by decide)) ?_
  refine J.tr (s_iload_n (q := 12) dX7_ask_11 rfl rfl) ?_
  refine J.tr (s_if_lt_t (q := 35) dX7_ask_12 (by decide) c2) ?_
  refine J.tr (s_iconst (q := 36) (v := 0) dX7_ask_35 rfl (by decide)) ?_
  refine J.tr (s_ls (ls' := [(0, .ref 1), (1, .int a), (2, .int b), (3, .int c)]) [0, 1, 2, 3] rfl) ?_
  exact J.rf

set_option maxRecDepth 20000 in
theorem j_X7_ask_a_3 {d : Nat} (hd : 1 ≤ d) (h : AH) (a : Int32) (b : Int32) (c : Int32) (F : Nat → Value) (ho : h.1 1 = ob 7 (fo 2 F)) (e0 : F 0 = .ref 2) (F1 : Nat → Value) (ho1 : h.1 2 = ob 2 (fo 6 F1)) (v5 : Int32) (e5 : F1 5 = .int v5) (c1 : ¬ (a < 0) ∧ ¬ (v5 ≤ a)) (c2 : ¬ (b < 0)) (c3 : 2 < b) : J false mX7_ask d 0 [(0, .ref 1), (1, .int a), (2, .int b), (3, .int c)] [] h 36 [(0, .ref 1), (1, .int a), (2, .int b), (3, .int c)] [.int 0] h := by
  refine J.tr (s_aload_n (q := 1) dX7_ask_0 rfl rfl) ?_
  refine J.tr (s_gf (q := 4) (v := .ref 2) dX7_ask_1 rfl fX7_10.l (ho) (by decide) (e0)) ?_
  refine J.tr (s_iload_n (q := 5) dX7_ask_4 rfl rfl) ?_
  refine J.tr (p2 := 8) (l2 := [(0, .ref 1), (1, .int a), (2, .int b), (3, .int c)]) (s2 := [.int 1]) (h2 := h) (s_invv (K := mX2_has) (o := 2) (as := [.int a]) (rest := []) (v := some (.int 1)) dX7_ask_5 rfl lX7_29 (by omega) rfl (Nat.le_of_ble_eq_true rfl) rfl (Nat.le_of_ble_eq_true rfl) (ho1) (q_X2_has_y (d := 0) (Nat.le_refl _) h 2 a F1 ho1 v5 e5 c1) (fun h => nomatch h)) ?_
  refine J.tr (s_if_eq_f (q := 11) (tg := 35) dX7_ask_8 (by decide) rfl (by decide)) ?_
  refine J.tr (s_iload_n (q := 12) dX7_ask_11 rfl rfl) ?_
  refine J.tr (s_if_lt_f (q := 15) (tg := 35) dX7_ask_12 (by decide) rfl c2) ?_
  refine J.tr (s_iload_n (q := 16) dX7_ask_15 rfl rfl) ?_
  refine J.tr (s_iconst (q := 17) (v := 2) dX7_ask_16 rfl (by decide)) ?_
  refine J.tr (s_icmp_gt_t (q := 35) dX7_ask_17 (by decide) c3) ?_
  refine J.tr (s_iconst (q := 36) (v := 0) dX7_ask_35 rfl (by decide)) ?_
  refine J.tr (s_ls (ls' := [(0, .ref 1), (1, .int a), (2, .int b), (3, .int c)]) [0, 1, 2, 3] rfl) ?_
  exact J.rf

set_option maxRecDepth 20000 in
theorem j_X7_ask_a_4 {d : Nat} (hd : 1 ≤ d) (h : AH) (a : Int32) (b : Int32) (c : Int32) (F : Nat → Value) (ho : h.1 1 = ob 7 (fo 2 F)) (e0 : F 0 = .ref 2) (F1 : Nat → Value) (ho1 : h.1 2 = ob 2 (fo 6 F1)) (v5 : Int32) (e5 : F1 5 = .int v5) (c1 : ¬ (a < 0) ∧ ¬ (v5 ≤ a)) (c2 : ¬ (b < 0)) (c3 : ¬ (2 < b)) (c4 : c < 1) : J false mX7_ask d 0 [(0, .ref 1), (1, .int a), (2, .int b), (3, .int c)] [] h 36 [(0, .ref 1), (1, .int a), (2, .int b), (3, .int c)] [.int 0] h := by
  refine J.tr (s_aload_n (q := 1) dX7_ask_0 rfl rfl) ?_
  refine J.tr (s_gf (q := 4) (v := .ref 2) dX7_ask_1 rfl fX7_10.l (ho) (by decide) (e0)) ?_
  refine J.tr (s_iload_n (q := 5) dX7_ask_4 rfl rfl) ?_
  refine J.tr (p2 := 8) (l2 := [(0, .ref 1), (1, .int a), (2, .int b), (3, .int c)]) (s2 := [.int 1]) (h2 := h) (s_invv (K := mX2_has) (o := 2) (as := [.int a]) (rest := []) (v := some (.int 1)) dX7_ask_5 rfl lX7_29 (by omega) rfl (Nat.le_of_ble_eq_true rfl) rfl (Nat.le_of_ble_eq_true rfl) (ho1) (q_X2_has_y (d := 0) (Nat.le_refl _) h 2 a F1 ho1 v5 e5 c1) (fun h => nomatch h)) ?_
  refine J.tr (s_if_eq_f (q := 11) (tg := 35) dX7_ask_8 (by decide) rfl (by decide)) ?_
  refine J.tr (s_iload_n (q := 12) dX7_ask_11 rfl rfl) ?_
  refine J.tr (s_if_lt_f (q := 15) (tg := 35) dX7_ask_12 (by decide) rfl c2) ?_
  refine J.tr (s_iload_n (q := 16) dX7_ask_15 rfl rfl) ?_
  refine J.tr (s_iconst (q := 17) (v := 2) dX7_ask_16 rfl (by decide)) ?_
  refine J.tr (s_icmp_gt_f (q := 20) (tg := 35) dX7_ask_17 (by decide) rfl c3) ?_
  refine J.tr (s_iload_n (q := 21) dX7_ask_20 rfl rfl) ?_
  refine J.tr (s_iconst (q := 22) (v := 1) dX7_ask_21 rfl (by decide)) ?_
  refine J.tr (s_icmp_lt_t (q := 35) dX7_ask_22 (by decide) c4) ?_
  refine J.tr (s_iconst (q := 36) (v := 0) dX7_ask_35 rfl (by decide)) ?_
  refine J.tr (s_ls (ls' := [(0, .ref 1), (1, .int a), (2, .int b), (3, .int c)]) [0, 1, 2, 3] rfl) ?_
  exact J.rf

set_option maxRecDepth 20000 in
theorem j_X7_ask_a_5 {d : Nat} (hd : 1 ≤ d) (h : AH) (a : Int32) (b : Int32) (c : Int32) (F : Nat → Value) (ho : h.1 1 = ob 7 (fo 2 F)) (e0 : F 0 = .ref 2) (F1 : Nat → Value) (ho1 : h.1 2 = ob 2 (fo 6 F1)) (v5 : Int32) (e5 : F1 5 = .int v5) (c1 : ¬ (a < 0) ∧ ¬ (v5 ≤ a)) (c2 : ¬ (b < 0)) (c3 : ¬ (2 < b)) (c4 : ¬ (c < 1)) (c5 : 60 < c) : J false mX7_ask d 0 [(0, .ref 1), (1, .int a), (2, .int b), (3, .int c)] [] h 36 [(0, .ref 1), (1, .int a), (2, .int b), (3, .int c)] [.int 0] h := by
  refine J.tr (s_aload_n (q := 1) dX7_ask_0 rfl rfl) ?_
  refine J.tr (s_gf (q := 4) (v := .ref 2) dX7_ask_1 rfl fX7_10.l (ho) (by decide) (e0)) ?_
  refine J.tr (s_iload_n (q := 5) dX7_ask_4 rfl rfl) ?_
  refine J.tr (p2 := 8) (l2 := [(0, .ref 1), (1, .int a), (2, .int b), (3, .int c)]) (s2 := [.int 1]) (h2 := h) (s_invv (K := mX2_has) (o := 2) (as := [.int a]) (rest := []) (v := some (.int 1)) dX7_ask_5 rfl lX7_29 (by omega) rfl (Nat.le_of_ble_eq_true rfl) rfl (Nat.le_of_ble_eq_true rfl) (ho1) (q_X2_has_y (d := 0) (Nat.le_refl _) h 2 a F1 ho1 v5 e5 c1) (fun h => nomatch h)) ?_
  refine J.tr (s_if_eq_f (q := 11) (tg := 35) dX7_ask_8 (by decide) rfl (by decide)) ?_
  refine J.tr (s_iload_n (q := 12) dX7_ask_11 rfl rfl) ?_
  refine J.tr (s_if_lt_f (q := 15) (tg := 35) dX7_ask_12 (by decide) rfl c2) ?_
  refine J.tr (s_iload_n (q := 16) dX7_ask_15 rfl rfl) ?_
  refine J.tr (s_iconst (q := 17) (v := 2) dX7_ask_16 rfl (by decide)) ?_
  refine J.tr (s_icmp_gt_f (q := 20) (tg := 35) dX7_ask_17 (by decide) rfl c3) ?_
  refine J.tr (s_iload_n (q := 21) dX7_ask_20 rfl rfl) ?_
  refine J.tr (s_iconst (q := 22) (v := 1) dX7_ask_21 rfl (by decide)) ?_
  refine J.tr (s_icmp_lt_f (q := 25) (tg := 35) dX7_ask_22 (by decide) rfl c4) ?_
  refine J.tr (s_iload_n (q := 26) dX7_ask_25 rfl rfl) ?_
  refine J.tr (s_bipush (q := 28) (v := 60) dX7_ask_26 rfl (by decide)) ?_
  refine J.tr (s_icmp_gt_t (q := 35) dX7_ask_28 (by decide) c5) ?_
  refine J.tr (s_iconst (q := 36) (v := 0) dX7_ask_35 rfl (by decide)) ?_
  refine J.tr (s_ls (ls' := [(0, .ref 1), (1, .int a), (2, .int b), (3, .int c)]) [0, 1, 2, 3] rfl) ?_
  exact J.rf

set_option maxRecDepth 20000 in
theorem j_X7_ask_a_6 {d : Nat} (hd : 1 ≤ d) (h : AH) (a : Int32) (b : Int32) (c : Int32) (F : Nat → Value) (ho : h.1 1 = ob 7 (fo 2 F)) (e0 : F 0 = .ref 2) (F1 : Nat → Value) (ho1 : h.1 2 = ob 2 (fo 6 F1)) (v5 : Int32) (e5 : F1 5 = .int v5) (c1 : ¬ (a < 0) ∧ ¬ (v5 ≤ a)) (c2 : ¬ (b < 0)) (c3 : ¬ (2 < b)) (c4 : ¬ (c < 1)) (c5 : ¬ (60 < c)) : J false mX7_ask d 0 [(0, .ref 1), (1, .int a), (2, .int b), (3, .int c)] [] h 36 [(0, .ref 1), (1, .int a), (2, .int b), (3, .int c)] [.int 1] h := by
  refine J.tr (s_aload_n (q := 1) dX7_ask_0 rfl rfl) ?_
  refine J.tr (s_gf (q := 4) (v := .ref 2) dX7_ask_1 rfl fX7_10.l (ho) (by decide) (e0)) ?_
  refine J.tr (s_iload_n (q := 5) dX7_ask_4 rfl rfl) ?_
  refine J.tr (p2 := 8) (l2 := [(0, .ref 1), (1, .int a), (2, .int b), (3, .int c)]) (s2 := [.int 1]) (h2 := h) (s_invv (K := mX2_has) (o := 2) (as := [.int a]) (rest := []) (v := some (.int 1)) dX7_ask_5 rfl lX7_29 (by omega) rfl (Nat.le_of_ble_eq_true rfl) rfl (Nat.le_of_ble_eq_true rfl) (ho1) (q_X2_has_y (d := 0) (Nat.le_refl _) h 2 a F1 ho1 v5 e5 c1) (fun h => nomatch h)) ?_
  refine J.tr (s_if_eq_f (q := 11) (tg := 35) dX7_ask_8 (by decide) rfl (by decide)) ?_
  refine J.tr (s_iload_n (q := 12) dX7_ask_11 rfl rfl) ?_
  refine J.tr (s_if_lt_f (q := 15) (tg := 35) dX7_ask_12 (by decide) rfl c2) ?_
  refine J.tr (s_iload_n (q := 16) dX7_ask_15 rfl rfl) ?_
  refine J.tr (s_iconst (q := 17) (v := 2) dX7_ask_16 rfl (by decide)) ?_
  refine J.tr (s_icmp_gt_f (q := 20) (tg := 35) dX7_ask_17 (by decide) rfl c3) ?_
  refine J.tr (s_iload_n (q := 21) dX7_ask_20 rfl rfl) ?_
  refine J.tr (s_iconst (q := 22) (v := 1) dX7_ask_21 rfl (by decide)) ?_
  refine J.tr (s_icmp_lt_f (q := 25) (tg := 35) dX7_ask_22 (by decide) rfl c4) ?_
  refine J.tr (s_iload_n (q := 26) dX7_ask_25 rfl rfl) ?_
  refine J.tr (s_bipush (q := 28) (v := 60) dX7_ask_26 rfl (by decide)) ?_
  refine J.tr (s_icmp_gt_f (q := 31) (tg := 35) dX7_ask_28 (by decide) rfl c5) ?_
  refine J.tr (s_iconst (q := 32) (v := 1) dX7_ask_31 rfl (by decide)) ?_
  refine J.tr (s_goto (q := 36) dX7_ask_32 (by decide)) ?_
  refine J.tr (s_ls (ls' := [(0, .ref 1), (1, .int a), (2, .int b), (3, .int c)]) [0, 1, 2, 3] rfl) ?_
  exact J.rf

set_option maxRecDepth 20000 in
theorem j_X7_ask_b_1 {d : Nat} (hd : 0 ≤ d) (h : AH) (a : Int32) (b : Int32) (c : Int32) (F : Nat → Value) (ho : h.1 1 = ob 7 (fo 2 F)) (e1 : F 1 = .ref 8) : J false mX7_ask d 39 [(0, .ref 1), (1, .int a), (2, .int b), (3, .int c)] [] h 46 [(0, .ref 1), (1, .int a), (2, .int b), (3, .int c)] [.int c, .int b, .int a, .ref 8] h := by
  refine J.tr (s_aload_n (q := 40) dX7_ask_39 rfl rfl) ?_
  refine J.tr (s_gf (q := 43) (v := .ref 8) dX7_ask_40 rfl fX7_21.l (ho) (by decide) (e1)) ?_
  refine J.tr (s_iload_n (q := 44) dX7_ask_43 rfl rfl) ?_
  refine J.tr (s_iload_n (q := 45) dX7_ask_44 rfl rfl) ?_
  refine J.tr (s_iload_n (q := 46) dX7_ask_45 rfl rfl) ?_
  exact J.rf

set_option maxRecDepth 20000 in
theorem j_X7_ask_c_1 {d : Nat} (hd : 0 ≤ d) (h : AH) (a : Int32) (b : Int32) (c : Int32) : E false mX7_ask d 49 [(0, .ref 1), (1, .int a), (2, .int b), (3, .int c)] [] h (none) h := by
  exact E.v dX7_ask_49 rfl rfl rfl

set_option maxRecDepth 20000 in
theorem j_X7_demand_a_1 {d : Nat} (hd : 0 ≤ d) (h : AH) (a : Int32) (c : ¬ a = 0) : E false mX7_demand d 0 [(0, .int a)] [] h (none) h := by
  refine E.st (s_iload_n (q := 1) dX7_demand_0 rfl rfl) ?_
  refine E.st (s_if_ne_t (q := 14) dX7_demand_1 (by decide) c) ?_
  exact E.v dX7_demand_14 rfl rfl rfl

set_option maxRecDepth 20000 in
theorem j_X7_demand_a_2 {d : Nat} (hd : 0 ≤ d) (h : AH) (a : Int32) (c : a = 0) : J false mX7_demand d 0 [(0, .int a)] [] h 4 [(0, .int a)] [] h := by
  refine J.tr (s_iload_n (q := 1) dX7_demand_0 rfl rfl) ?_
  refine J.tr (s_if_ne_f (q := 4) (tg := 14) dX7_demand_1 (by decide) rfl c) ?_
  refine J.tr (s_ls (ls' := [(0, .int a)]) [0] rfl) ?_
  exact J.rf

set_option maxRecDepth 20000 in
theorem j_X7_clear_a_1 {d : Nat} (hd : 1 ≤ d) (h : AH) (F : Nat → Value) (ho : h.1 1 = ob 7 (fo 2 F)) (e0 : F 0 = .ref 2) (F1 : Nat → Value) (ho1 : h.1 2 = ob 2 (fo 6 F1)) (v5 : Int32) (e5 : F1 5 = .int v5) (e1 : F 1 = .ref 8) : J false mX7_clear d 0 [(0, .ref 1)] [] h 19 [(0, .ref 1), (1, .int v5)] [.ref 8] (hs h 2 (ob 2 (fo 6 (va_up F1 5 (.int 0))))) := by
  refine J.tr (s_aload_n (q := 1) dX7_clear_0 rfl rfl) ?_
  refine J.tr (s_gf (q := 4) (v := .ref 2) dX7_clear_1 rfl fX7_10.l (ho) (by decide) (e0)) ?_
  refine J.tr (p2 := 7) (l2 := [(0, .ref 1)]) (s2 := [.int v5]) (h2 := h) (s_invv (K := mX2_size) (o := 2) (as := []) (rest := []) (v := some (.int v5)) dX7_clear_4 rfl lX7_41 (by omega) rfl (Nat.le_of_ble_eq_true rfl) rfl (Nat.le_of_ble_eq_true rfl) (ho1) (p_X2_size_1 (d := 0) (Nat.le_refl _) h 2 F1 ho1 v5 e5) (fun h => nomatch h)) ?_
  refine J.tr (s_istore_n (q := 8) (ls' := [(1, .int v5), (0, .ref 1)]) dX7_clear_7 rfl (by decide) rfl) ?_
  refine J.tr (s_aload_n (q := 9) dX7_clear_8 rfl rfl) ?_
  refine J.tr (s_gf (q := 12) (v := .ref 2) dX7_clear_9 rfl fX7_10.l (ho) (by decide) (e0)) ?_
  refine J.tr (p2 := 15) (l2 := [(1, .int v5), (0, .ref 1)]) (s2 := []) (h2 := (hs h 2 (ob 2 (fo 6 (va_up F1 5 (.int 0)))))) (s_invv (K := mX2_forget) (o := 2) (as := []) (rest := []) (v := none) dX7_clear_12 rfl lX7_45 (by omega) rfl (Nat.le_of_ble_eq_true rfl) rfl (Nat.le_of_ble_eq_true rfl) (ho1) (p_X2_forget_1 (d := 0) (Nat.le_refl _) h 2 F1 ho1) (fun h => nomatch h)) ?_
  refine J.tr (s_aload_n (q := 16) dX7_clear_15 rfl rfl) ?_
  refine J.tr (s_gf (q := 19) (v := .ref 8) dX7_clear_16 rfl fX7_21.l ((hs_ne (by decide)).trans (ho)) (by decide) (e1)) ?_
  refine J.tr (s_ls (ls' := [(0, .ref 1), (1, .int v5)]) [1, 0] rfl) ?_
  exact J.rf

set_option maxRecDepth 20000 in
theorem j_X7_clear_b_1 {d : Nat} (hd : 0 ≤ d) (h : AH) (n : Int32) : E false mX7_clear d 22 [(0, .ref 1), (1, .int n)] [] h (some (.int n)) h := by
  refine E.st (s_iload_n (q := 23) dX7_clear_22 rfl rfl) ?_
  exact E.i dX7_clear_23 rfl rfl rfl rfl

set_option maxRecDepth 20000 in
theorem j_X7_node_a_1 {d : Nat} (hd : 1 ≤ d) (h : AH) (a : Int32) (b : Int32) (F : Nat → Value) (ho : h.1 1 = ob 7 (fo 2 F)) (e0 : F 0 = .ref 2) (F1 : Nat → Value) (ho1 : h.1 2 = ob 2 (fo 6 F1)) (v5 : Int32) (e5 : F1 5 = .int v5) (c : a < 0 ∨ v5 ≤ a) : J false mX7_node d 0 [(0, .ref 1), (1, .int a), (2, .int b)] [] h 20 [(0, .ref 1), (1, .int a), (2, .int b)] [] h := by
  refine J.tr (s_aload_n (q := 1) dX7_node_0 rfl rfl) ?_
  refine J.tr (s_gf (q := 4) (v := .ref 2) dX7_node_1 rfl fX7_10.l (ho) (by decide) (e0)) ?_
  refine J.tr (s_iload_n (q := 5) dX7_node_4 rfl rfl) ?_
  refine J.tr (p2 := 8) (l2 := [(0, .ref 1), (1, .int a), (2, .int b)]) (s2 := [.int 0]) (h2 := h) (s_invv (K := mX2_has) (o := 2) (as := [.int a]) (rest := []) (v := some (.int 0)) dX7_node_5 rfl lX7_29 (by omega) rfl (Nat.le_of_ble_eq_true rfl) rfl (Nat.le_of_ble_eq_true rfl) (ho1) (q_X2_has_n (d := 0) (Nat.le_refl _) h 2 a F1 ho1 v5 e5 c) (fun h => nomatch h)) ?_
  refine J.tr (s_if_eq_t (q := 20) dX7_node_8 (by decide) (by decide)) ?_
  refine J.tr (s_ls (ls' := [(0, .ref 1), (1, .int a), (2, .int b)]) [0, 1, 2] rfl) ?_
  exact J.rf

set_option maxRecDepth 20000 in
theorem j_X7_node_a_2 {d : Nat} (hd : 1 ≤ d) (h : AH) (a : Int32) (b : Int32) (F : Nat → Value) (ho : h.1 1 = ob 7 (fo 2 F)) (e0 : F 0 = .ref 2) (F1 : Nat → Value) (ho1 : h.1 2 = ob 2 (fo 6 F1)) (v5 : Int32) (e5 : F1 5 = .int v5) (c : ¬ (a < 0) ∧ ¬ (v5 ≤ a)) (c1 : b < 0) : J false mX7_node d 0 [(0, .ref 1), (1, .int a), (2, .int b)] [] h 20 [(0, .ref 1), (1, .int a), (2, .int b)] [] h := by
  refine J.tr (s_aload_n (q := 1) dX7_node_0 rfl rfl) ?_
  refine J.tr (s_gf (q := 4) (v := .ref 2) dX7_node_1 rfl fX7_10.l (ho) (by decide) (e0)) ?_
  refine J.tr (s_iload_n (q := 5) dX7_node_4 rfl rfl) ?_
  refine J.tr (p2 := 8) (l2 := [(0, .ref 1), (1, .int a), (2, .int b)]) (s2 := [.int 1]) (h2 := h) (s_invv (K := mX2_has) (o := 2) (as := [.int a]) (rest := []) (v := some (.int 1)) dX7_node_5 rfl lX7_29 (by omega) rfl (Nat.le_of_ble_eq_true rfl) rfl (Nat.le_of_ble_eq_true rfl) (ho1) (q_X2_has_y (d := 0) (Nat.le_refl _) h 2 a F1 ho1 v5 e5 c) (fun h => nomatch h)) ?_
  refine J.tr (s_if_eq_f (q := 11) (tg := 20) dX7_node_8 (by decide) rfl (by decide)) ?_
  refine J.tr (s_iload_n (q := 12) dX7_node_11 rfl rfl) ?_
  refine J.tr (s_if_lt_t (q := 20) dX7_node_12 (by decide) c1) ?_
  refine J.tr (s_ls (ls' := [(0, .ref 1), (1, .int a), (2, .int b)]) [0, 1, 2] rfl) ?_
  exact J.rf

set_option maxRecDepth 20000 in
theorem j_X7_node_a_3 {d : Nat} (hd : 2 ≤ d) (h : AH) (a : Int32) (b : Int32) (F : Nat → Value) (ho : h.1 1 = ob 7 (fo 2 F)) (e0 : F 0 = .ref 2) (F1 : Nat → Value) (ho1 : h.1 2 = ob 2 (fo 6 F1)) (v5 : Int32) (e5 : F1 5 = .int v5) (c : ¬ (a < 0) ∧ ¬ (v5 ≤ a)) (c1 : ¬ (b < 0)) (c2 : b ≤ 3) (c3 : b = 0) (e01 : F1 0 = .ref 3) (n : Nat) (f : Nat → Int32) (ha : h.1 3 = ia n f) (c4 : vp_in a n) : E false mX7_node d 0 [(0, .ref 1), (1, .int a), (2, .int b)] [] h (some (.int (f a.toNatClampNeg))) h := by
  refine E.st (s_aload_n (q := 1) dX7_node_0 rfl rfl) ?_
  refine E.st (s_gf (q := 4) (v := .ref 2) dX7_node_1 rfl fX7_10.l (ho) (by decide) (e0)) ?_
  refine E.st (s_iload_n (q := 5) dX7_node_4 rfl rfl) ?_
  refine E.st (p2 := 8) (l2 := [(0, .ref 1), (1, .int a), (2, .int b)]) (s2 := [.int 1]) (h2 := h) (s_invv (K := mX2_has) (o := 2) (as := [.int a]) (rest := []) (v := some (.int 1)) dX7_node_5 rfl lX7_29 (by omega) rfl (Nat.le_of_ble_eq_true rfl) rfl (Nat.le_of_ble_eq_true rfl) (ho1) (q_X2_has_y (d := 0) (Nat.le_refl _) h 2 a F1 ho1 v5 e5 c) (fun h => nomatch h)) ?_
  refine E.st (s_if_eq_f (q := 11) (tg := 20) dX7_node_8 (by decide) rfl (by decide)) ?_
  refine E.st (s_iload_n (q := 12) dX7_node_11 rfl rfl) ?_
  refine E.st (s_if_lt_f (q := 15) (tg := 20) dX7_node_12 (by decide) rfl c1) ?_
  refine E.st (s_iload_n (q := 16) dX7_node_15 rfl rfl) ?_
  refine E.st (s_iconst (q := 17) (v := 3) dX7_node_16 rfl (by decide)) ?_
  refine E.st (s_icmp_le_t (q := 30) dX7_node_17 (by decide) c2) ?_
  refine E.st (s_iload_n (q := 31) dX7_node_30 rfl rfl) ?_
  refine E.st (s_tabIn (q := 56) (off := 25) dX7_node_31 (by rw [c3]; decide) (by rw [c3]; decide) (by rw [c3]; rfl) (by decide)) ?_
  refine E.st (s_aload_n (q := 57) dX7_node_56 rfl rfl) ?_
  refine E.st (s_gf (q := 60) (v := .ref 2) dX7_node_57 rfl fX7_10.l (ho) (by decide) (e0)) ?_
  refine E.st (s_iload_n (q := 61) dX7_node_60 rfl rfl) ?_
  refine E.st (p2 := 64) (l2 := [(0, .ref 1), (1, .int a), (2, .int b)]) (s2 := [.int (f a.toNatClampNeg)]) (h2 := h) (s_invv (K := mX2_sortOf) (o := 2) (as := [.int a]) (rest := []) (v := some (.int (f a.toNatClampNeg))) dX7_node_61 rfl lX7_56 (by omega) rfl (Nat.le_of_ble_eq_true rfl) rfl (Nat.le_of_ble_eq_true rfl) (ho1) (p_X2_sortOf_n (d := 1) (Nat.le_refl _) h 2 a F1 ho1 v5 e5 c 3 e01 n f ha c4 (by decide)) (fun h => nomatch h)) ?_
  exact E.i dX7_node_64 rfl rfl rfl rfl

set_option maxRecDepth 20000 in
theorem j_X7_node_a_4 {d : Nat} (hd : 2 ≤ d) (h : AH) (a : Int32) (b : Int32) (F : Nat → Value) (ho : h.1 1 = ob 7 (fo 2 F)) (e0 : F 0 = .ref 2) (F1 : Nat → Value) (ho1 : h.1 2 = ob 2 (fo 6 F1)) (v5 : Int32) (e5 : F1 5 = .int v5) (c : ¬ (a < 0) ∧ ¬ (v5 ≤ a)) (c1 : ¬ (b < 0)) (c2 : b ≤ 3) (c3 : b = 1) (e1 : F1 1 = .ref 4) (n : Nat) (f : Nat → Int32) (ha : h.1 4 = ia n f) (c4 : vp_in a n) : E false mX7_node d 0 [(0, .ref 1), (1, .int a), (2, .int b)] [] h (some (.int (f a.toNatClampNeg))) h := by
  refine E.st (s_aload_n (q := 1) dX7_node_0 rfl rfl) ?_
  refine E.st (s_gf (q := 4) (v := .ref 2) dX7_node_1 rfl fX7_10.l (ho) (by decide) (e0)) ?_
  refine E.st (s_iload_n (q := 5) dX7_node_4 rfl rfl) ?_
  refine E.st (p2 := 8) (l2 := [(0, .ref 1), (1, .int a), (2, .int b)]) (s2 := [.int 1]) (h2 := h) (s_invv (K := mX2_has) (o := 2) (as := [.int a]) (rest := []) (v := some (.int 1)) dX7_node_5 rfl lX7_29 (by omega) rfl (Nat.le_of_ble_eq_true rfl) rfl (Nat.le_of_ble_eq_true rfl) (ho1) (q_X2_has_y (d := 0) (Nat.le_refl _) h 2 a F1 ho1 v5 e5 c) (fun h => nomatch h)) ?_
  refine E.st (s_if_eq_f (q := 11) (tg := 20) dX7_node_8 (by decide) rfl (by decide)) ?_
  refine E.st (s_iload_n (q := 12) dX7_node_11 rfl rfl) ?_
  refine E.st (s_if_lt_f (q := 15) (tg := 20) dX7_node_12 (by decide) rfl c1) ?_
  refine E.st (s_iload_n (q := 16) dX7_node_15 rfl rfl) ?_
  refine E.st (s_iconst (q := 17) (v := 3) dX7_node_16 rfl (by decide)) ?_
  refine E.st (s_icmp_le_t (q := 30) dX7_node_17 (by decide) c2) ?_
  refine E.st (s_iload_n (q := 31) dX7_node_30 rfl rfl) ?_
  refine E.st (s_tabIn (q := 65) (off := 34) dX7_node_31 (by rw [c3]; decide) (by rw [c3]; decide) (by rw [c3]; rfl) (by decide)) ?_
  refine E.st (s_aload_n (q := 66) dX7_node_65 rfl rfl) ?_
  refine E.st (s_gf (q := 69) (v := .ref 2) dX7_node_66 rfl fX7_10.l (ho) (by decide) (e0)) ?_
  refine E.st (s_iload_n (q := 70) dX7_node_69 rfl rfl) ?_
  refine E.st (p2 := 73) (l2 := [(0, .ref 1), (1, .int a), (2, .int b)]) (s2 := [.int (f a.toNatClampNeg)]) (h2 := h) (s_invv (K := mX2_firstOf) (o := 2) (as := [.int a]) (rest := []) (v := some (.int (f a.toNatClampNeg))) dX7_node_70 rfl lX7_60 (by omega) rfl (Nat.le_of_ble_eq_true rfl) rfl (Nat.le_of_ble_eq_true rfl) (ho1) (p_X2_firstOf_n (d := 1) (Nat.le_refl _) h 2 a F1 ho1 v5 e5 c 4 e1 n f ha c4 (by decide)) (fun h => nomatch h)) ?_
  exact E.i dX7_node_73 rfl rfl rfl rfl

set_option maxRecDepth 20000 in
theorem j_X7_node_a_5 {d : Nat} (hd : 2 ≤ d) (h : AH) (a : Int32) (b : Int32) (F : Nat → Value) (ho : h.1 1 = ob 7 (fo 2 F)) (e0 : F 0 = .ref 2) (F1 : Nat → Value) (ho1 : h.1 2 = ob 2 (fo 6 F1)) (v5 : Int32) (e5 : F1 5 = .int v5) (c : ¬ (a < 0) ∧ ¬ (v5 ≤ a)) (c1 : ¬ (b < 0)) (c2 : b ≤ 3) (c3 : b = 2) (e2 : F1 2 = .ref 5) (n : Nat) (f : Nat → Int32) (ha : h.1 5 = ia n f) (c4 : vp_in a n) : E false mX7_node d 0 [(0, .ref 1), (1, .int a), (2, .int b)] [] h (some (.int (f a.toNatClampNeg))) h := by
  refine E.st (s_aload_n (q := 1) dX7_node_0 rfl rfl) ?_
  refine E.st (s_gf (q := 4) (v := .ref 2) dX7_node_1 rfl fX7_10.l (ho) (by decide) (e0)) ?_
  refine E.st (s_iload_n (q := 5) dX7_node_4 rfl rfl) ?_
  refine E.st (p2 := 8) (l2 := [(0, .ref 1), (1, .int a), (2, .int b)]) (s2 := [.int 1]) (h2 := h) (s_invv (K := mX2_has) (o := 2) (as := [.int a]) (rest := []) (v := some (.int 1)) dX7_node_5 rfl lX7_29 (by omega) rfl (Nat.le_of_ble_eq_true rfl) rfl (Nat.le_of_ble_eq_true rfl) (ho1) (q_X2_has_y (d := 0) (Nat.le_refl _) h 2 a F1 ho1 v5 e5 c) (fun h => nomatch h)) ?_
  refine E.st (s_if_eq_f (q := 11) (tg := 20) dX7_node_8 (by decide) rfl (by decide)) ?_
  refine E.st (s_iload_n (q := 12) dX7_node_11 rfl rfl) ?_
  refine E.st (s_if_lt_f (q := 15) (tg := 20) dX7_node_12 (by decide) rfl c1) ?_
  refine E.st (s_iload_n (q := 16) dX7_node_15 rfl rfl) ?_
  refine E.st (s_iconst (q := 17) (v := 3) dX7_node_16 rfl (by decide)) ?_
  refine E.st (s_icmp_le_t (q := 30) dX7_node_17 (by decide) c2) ?_
  refine E.st (s_iload_n (q := 31) dX7_node_30 rfl rfl) ?_
  refine E.st (s_tabIn (q := 74) (off := 43) dX7_node_31 (by rw [c3]; decide) (by rw [c3]; decide) (by rw [c3]; rfl) (by decide)) ?_
  refine E.st (s_aload_n (q := 75) dX7_node_74 rfl rfl) ?_
  refine E.st (s_gf (q := 78) (v := .ref 2) dX7_node_75 rfl fX7_10.l (ho) (by decide) (e0)) ?_
  refine E.st (s_iload_n (q := 79) dX7_node_78 rfl rfl) ?_
  refine E.st (p2 := 82) (l2 := [(0, .ref 1), (1, .int a), (2, .int b)]) (s2 := [.int (f a.toNatClampNeg)]) (h2 := h) (s_invv (K := mX2_secondOf) (o := 2) (as := [.int a]) (rest := []) (v := some (.int (f a.toNatClampNeg))) dX7_node_79 rfl lX7_63 (by omega) rfl (Nat.le_of_ble_eq_true rfl) rfl (Nat.le_of_ble_eq_true rfl) (ho1) (p_X2_secondOf_n (d := 1) (Nat.le_refl _) h 2 a F1 ho1 v5 e5 c 5 e2 n f ha c4 (by decide)) (fun h => nomatch h)) ?_
  exact E.i dX7_node_82 rfl rfl rfl rfl

set_option maxRecDepth 20000 in
theorem j_X7_node_a_6 {d : Nat} (hd : 2 ≤ d) (h : AH) (a : Int32) (b : Int32) (F : Nat → Value) (ho : h.1 1 = ob 7 (fo 2 F)) (e0 : F 0 = .ref 2) (F1 : Nat → Value) (ho1 : h.1 2 = ob 2 (fo 6 F1)) (v5 : Int32) (e5 : F1 5 = .int v5) (c : ¬ (a < 0) ∧ ¬ (v5 ≤ a)) (c1 : ¬ (b < 0)) (c2 : b ≤ 3) (c3 : b.toInt < 0 ∨ 2 < b.toInt) (e3 : F1 3 = .ref 6) (n : Nat) (f : Nat → Int32) (ha : h.1 6 = ia n f) (c4 : vp_in a n) : E false mX7_node d 0 [(0, .ref 1), (1, .int a), (2, .int b)] [] h (some (.int (f a.toNatClampNeg))) h := by
  refine E.st (s_aload_n (q := 1) dX7_node_0 rfl rfl) ?_
  refine E.st (s_gf (q := 4) (v := .ref 2) dX7_node_1 rfl fX7_10.l (ho) (by decide) (e0)) ?_
  refine E.st (s_iload_n (q := 5) dX7_node_4 rfl rfl) ?_
  refine E.st (p2 := 8) (l2 := [(0, .ref 1), (1, .int a), (2, .int b)]) (s2 := [.int 1]) (h2 := h) (s_invv (K := mX2_has) (o := 2) (as := [.int a]) (rest := []) (v := some (.int 1)) dX7_node_5 rfl lX7_29 (by omega) rfl (Nat.le_of_ble_eq_true rfl) rfl (Nat.le_of_ble_eq_true rfl) (ho1) (q_X2_has_y (d := 0) (Nat.le_refl _) h 2 a F1 ho1 v5 e5 c) (fun h => nomatch h)) ?_
  refine E.st (s_if_eq_f (q := 11) (tg := 20) dX7_node_8 (by decide) rfl (by decide)) ?_
  refine E.st (s_iload_n (q := 12) dX7_node_11 rfl rfl) ?_
  refine E.st (s_if_lt_f (q := 15) (tg := 20) dX7_node_12 (by decide) rfl c1) ?_
  refine E.st (s_iload_n (q := 16) dX7_node_15 rfl rfl) ?_
  refine E.st (s_iconst (q := 17) (v := 3) dX7_node_16 rfl (by decide)) ?_
  refine E.st (s_icmp_le_t (q := 30) dX7_node_17 (by decide) c2) ?_
  refine E.st (s_iload_n (q := 31) dX7_node_30 rfl rfl) ?_
  refine E.st (s_tabOut (q := 83) dX7_node_31 c3 (by decide)) ?_
  refine E.st (s_aload_n (q := 84) dX7_node_83 rfl rfl) ?_
  refine E.st (s_gf (q := 87) (v := .ref 2) dX7_node_84 rfl fX7_10.l (ho) (by decide) (e0)) ?_
  refine E.st (s_iload_n (q := 88) dX7_node_87 rfl rfl) ?_
  refine E.st (p2 := 91) (l2 := [(0, .ref 1), (1, .int a), (2, .int b)]) (s2 := [.int (f a.toNatClampNeg)]) (h2 := h) (s_invv (K := mX2_thirdOf) (o := 2) (as := [.int a]) (rest := []) (v := some (.int (f a.toNatClampNeg))) dX7_node_88 rfl lX7_66 (by omega) rfl (Nat.le_of_ble_eq_true rfl) rfl (Nat.le_of_ble_eq_true rfl) (ho1) (p_X2_thirdOf_n (d := 1) (Nat.le_refl _) h 2 a F1 ho1 v5 e5 c 6 e3 n f ha c4 (by decide)) (fun h => nomatch h)) ?_
  exact E.i dX7_node_91 rfl rfl rfl rfl

set_option maxRecDepth 20000 in
theorem j_X7_node_a_7 {d : Nat} (hd : 1 ≤ d) (h : AH) (a : Int32) (b : Int32) (F : Nat → Value) (ho : h.1 1 = ob 7 (fo 2 F)) (e0 : F 0 = .ref 2) (F1 : Nat → Value) (ho1 : h.1 2 = ob 2 (fo 6 F1)) (v5 : Int32) (e5 : F1 5 = .int v5) (c : ¬ (a < 0) ∧ ¬ (v5 ≤ a)) (c1 : ¬ (b < 0)) (c2 : ¬ (b ≤ 3)) : J false mX7_node d 0 [(0, .ref 1), (1, .int a), (2, .int b)] [] h 20 [(0, .ref 1), (1, .int a), (2, .int b)] [] h := by
  refine J.tr (s_aload_n (q := 1) dX7_node_0 rfl rfl) ?_
  refine J.tr (s_gf (q := 4) (v := .ref 2) dX7_node_1 rfl fX7_10.l (ho) (by decide) (e0)) ?_
  refine J.tr (s_iload_n (q := 5) dX7_node_4 rfl rfl) ?_
  refine J.tr (p2 := 8) (l2 := [(0, .ref 1), (1, .int a), (2, .int b)]) (s2 := [.int 1]) (h2 := h) (s_invv (K := mX2_has) (o := 2) (as := [.int a]) (rest := []) (v := some (.int 1)) dX7_node_5 rfl lX7_29 (by omega) rfl (Nat.le_of_ble_eq_true rfl) rfl (Nat.le_of_ble_eq_true rfl) (ho1) (q_X2_has_y (d := 0) (Nat.le_refl _) h 2 a F1 ho1 v5 e5 c) (fun h => nomatch h)) ?_
  refine J.tr (s_if_eq_f (q := 11) (tg := 20) dX7_node_8 (by decide) rfl (by decide)) ?_
  refine J.tr (s_iload_n (q := 12) dX7_node_11 rfl rfl) ?_
  refine J.tr (s_if_lt_f (q := 15) (tg := 20) dX7_node_12 (by decide) rfl c1) ?_
  refine J.tr (s_iload_n (q := 16) dX7_node_15 rfl rfl) ?_
  refine J.tr (s_iconst (q := 17) (v := 3) dX7_node_16 rfl (by decide)) ?_
  refine J.tr (s_icmp_le_f (q := 20) (tg := 30) dX7_node_17 (by decide) rfl c2) ?_
  refine J.tr (s_ls (ls' := [(0, .ref 1), (1, .int a), (2, .int b)]) [0, 1, 2] rfl) ?_
  exact J.rf

set_option maxRecDepth 20000 in
theorem j_X7_next_a_1 {d : Nat} (hd : 1 ≤ d) (h : AH) (F : Nat → Value) (ho : h.1 1 = ob 7 (fo 2 F)) (e1 : F 1 = .ref 8) (F1 : Nat → Value) (ho1 : h.1 8 = ob 3 (fo 15 F1)) (v4 : Int32) (e4 : F1 4 = .int v4) (c : narrow .boolean (.int v4) = .int v4) (c1 : ¬ v4 = 0) : J false mX7_next d 0 [(0, .ref 1)] [] h 24 [(0, .ref 1)] [.ref 8] h := by
  refine J.tr (s_aload_n (q := 1) dX7_next_0 rfl rfl) ?_
  refine J.tr (s_gf (q := 4) (v := .ref 8) dX7_next_1 rfl fX7_21.l (ho) (by decide) (e1)) ?_
  refine J.tr (p2 := 7) (l2 := [(0, .ref 1)]) (s2 := [.int v4]) (h2 := h) (s_invv (K := mX3_isThere) (o := 8) (as := []) (rest := []) (v := some (.int v4)) dX7_next_4 rfl lX7_73 (by omega) rfl (Nat.le_of_ble_eq_true rfl) rfl (Nat.le_of_ble_eq_true rfl) (ho1) (p_X3_isThere_1 (d := 0) (Nat.le_refl _) h 8 F1 ho1 v4 e4 c) (fun h => nomatch h)) ?_
  refine J.tr (s_if_ne_t (q := 20) dX7_next_7 (by decide) c1) ?_
  refine J.tr (s_aload_n (q := 21) dX7_next_20 rfl rfl) ?_
  refine J.tr (s_gf (q := 24) (v := .ref 8) dX7_next_21 rfl fX7_21.l (ho) (by decide) (e1)) ?_
  refine J.tr (s_ls (ls' := [(0, .ref 1)]) [0] rfl) ?_
  exact J.rf

set_option maxRecDepth 20000 in
theorem j_X7_next_a_2 {d : Nat} (hd : 1 ≤ d) (h : AH) (F : Nat → Value) (ho : h.1 1 = ob 7 (fo 2 F)) (e1 : F 1 = .ref 8) (F1 : Nat → Value) (ho1 : h.1 8 = ob 3 (fo 15 F1)) (v4 : Int32) (e4 : F1 4 = .int v4) (c : narrow .boolean (.int v4) = .int v4) (c1 : v4 = 0) : J false mX7_next d 0 [(0, .ref 1)] [] h 10 [(0, .ref 1)] [] h := by
  refine J.tr (s_aload_n (q := 1) dX7_next_0 rfl rfl) ?_
  refine J.tr (s_gf (q := 4) (v := .ref 8) dX7_next_1 rfl fX7_21.l (ho) (by decide) (e1)) ?_
  refine J.tr (p2 := 7) (l2 := [(0, .ref 1)]) (s2 := [.int v4]) (h2 := h) (s_invv (K := mX3_isThere) (o := 8) (as := []) (rest := []) (v := some (.int v4)) dX7_next_4 rfl lX7_73 (by omega) rfl (Nat.le_of_ble_eq_true rfl) rfl (Nat.le_of_ble_eq_true rfl) (ho1) (p_X3_isThere_1 (d := 0) (Nat.le_refl _) h 8 F1 ho1 v4 e4 c) (fun h => nomatch h)) ?_
  refine J.tr (s_if_ne_f (q := 10) (tg := 20) dX7_next_7 (by decide) rfl c1) ?_
  refine J.tr (s_ls (ls' := [(0, .ref 1)]) [0] rfl) ?_
  exact J.rf

set_option maxRecDepth 20000 in
theorem j_X7_next_b_1 {d : Nat} (hd : 0 ≤ d) (h : AH) (r : Int32) : E false mX7_next d 27 [(0, .ref 1)] [.int r] h (some (.int r)) h := by
  exact E.i dX7_next_27 rfl rfl rfl rfl

set_option maxRecDepth 20000 in
theorem j_X7_decision_a_1 {d : Nat} (hd : 1 ≤ d) (h : AH) (a : Int32) (F : Nat → Value) (ho : h.1 1 = ob 7 (fo 2 F)) (e1 : F 1 = .ref 8) (F1 : Nat → Value) (ho1 : h.1 8 = ob 3 (fo 15 F1)) (e11 : F1 1 = .ref 9) (F2 : Nat → Value) (ho2 : h.1 9 = ob 1 (fo 4 F2)) (c : a < 0) : E false mX7_decision d 0 [(0, .ref 1), (1, .int a)] [] h (some (.int (-1))) h := by
  refine E.st (s_aload_n (q := 1) dX7_decision_0 rfl rfl) ?_
  refine E.st (s_gf (q := 4) (v := .ref 8) dX7_decision_1 rfl fX7_21.l (ho) (by decide) (e1)) ?_
  refine E.st (p2 := 7) (l2 := [(0, .ref 1), (1, .int a)]) (s2 := [.ref 9]) (h2 := h) (s_invv (K := mX3_latest) (o := 8) (as := []) (rest := []) (v := some (.ref 9)) dX7_decision_4 rfl lX7_85 (by omega) rfl (Nat.le_of_ble_eq_true rfl) rfl (Nat.le_of_ble_eq_true rfl) (ho1) (p_X3_latest_1 (d := 0) (Nat.le_refl _) h 8 F1 ho1 9 e11) (fun h => nomatch h)) ?_
  refine E.st (s_iload_n (q := 8) dX7_decision_7 rfl rfl) ?_
  refine E.st (p2 := 11) (l2 := [(0, .ref 1), (1, .int a)]) (s2 := [.int (-1)]) (h2 := h) (s_invv (K := mX1_alternativeAt) (o := 9) (as := [.int a]) (rest := []) (v := some (.int (-1))) dX7_decision_8 rfl lX7_89 (by omega) rfl (Nat.le_of_ble_eq_true rfl) rfl (Nat.le_of_ble_eq_true rfl) (ho2) (p_X1_alternativeAt_1 (d := 0) (Nat.le_refl _) h 9 a c) (fun h => nomatch h)) ?_
  exact E.i dX7_decision_11 rfl rfl rfl rfl

set_option maxRecDepth 20000 in
theorem j_X7_decision_a_2 {d : Nat} (hd : 1 ≤ d) (h : AH) (a : Int32) (F : Nat → Value) (ho : h.1 1 = ob 7 (fo 2 F)) (e1 : F 1 = .ref 8) (F1 : Nat → Value) (ho1 : h.1 8 = ob 3 (fo 15 F1)) (e11 : F1 1 = .ref 9) (F2 : Nat → Value) (ho2 : h.1 9 = ob 1 (fo 4 F2)) (c : ¬ (a < 0)) (v2 : Int32) (e2 : F2 2 = .int v2) (c1 : v2 ≤ a) : E false mX7_decision d 0 [(0, .ref 1), (1, .int a)] [] h (some (.int (-1))) h := by
  refine E.st (s_aload_n (q := 1) dX7_decision_0 rfl rfl) ?_
  refine E.st (s_gf (q := 4) (v := .ref 8) dX7_decision_1 rfl fX7_21.l (ho) (by decide) (e1)) ?_
  refine E.st (p2 := 7) (l2 := [(0, .ref 1), (1, .int a)]) (s2 := [.ref 9]) (h2 := h) (s_invv (K := mX3_latest) (o := 8) (as := []) (rest := []) (v := some (.ref 9)) dX7_decision_4 rfl lX7_85 (by omega) rfl (Nat.le_of_ble_eq_true rfl) rfl (Nat.le_of_ble_eq_true rfl) (ho1) (p_X3_latest_1 (d := 0) (Nat.le_refl _) h 8 F1 ho1 9 e11) (fun h => nomatch h)) ?_
  refine E.st (s_iload_n (q := 8) dX7_decision_7 rfl rfl) ?_
  refine E.st (p2 := 11) (l2 := [(0, .ref 1), (1, .int a)]) (s2 := [.int (-1)]) (h2 := h) (s_invv (K := mX1_alternativeAt) (o := 9) (as := [.int a]) (rest := []) (v := some (.int (-1))) dX7_decision_8 rfl lX7_89 (by omega) rfl (Nat.le_of_ble_eq_true rfl) rfl (Nat.le_of_ble_eq_true rfl) (ho2) (p_X1_alternativeAt_2 (d := 0) (Nat.le_refl _) h 9 a c F2 ho2 v2 e2 c1) (fun h => nomatch h)) ?_
  exact E.i dX7_decision_11 rfl rfl rfl rfl

set_option maxRecDepth 20000 in
theorem j_X7_decision_a_3 {d : Nat} (hd : 1 ≤ d) (h : AH) (a : Int32) (F : Nat → Value) (ho : h.1 1 = ob 7 (fo 2 F)) (e1 : F 1 = .ref 8) (F1 : Nat → Value) (ho1 : h.1 8 = ob 3 (fo 15 F1)) (e11 : F1 1 = .ref 9) (F2 : Nat → Value) (ho2 : h.1 9 = ob 1 (fo 4 F2)) (c : ¬ (a < 0)) (v2 : Int32) (e2 : F2 2 = .int v2) (c1 : ¬ (v2 ≤ a)) (v1 : Int64) (e12 : F2 1 = .long v1) : E false mX7_decision d 0 [(0, .ref 1), (1, .int a)] [] h (some (.int (((((v1).toUInt64 >>> ((a : Int32).toInt64.toUInt64 &&& Int64.toUInt64 63)).toInt64) &&& 1).toInt32))) h := by
  refine E.st (s_aload_n (q := 1) dX7_decision_0 rfl rfl) ?_
  refine E.st (s_gf (q := 4) (v := .ref 8) dX7_decision_1 rfl fX7_21.l (ho) (by decide) (e1)) ?_
  refine E.st (p2 := 7) (l2 := [(0, .ref 1), (1, .int a)]) (s2 := [.ref 9]) (h2 := h) (s_invv (K := mX3_latest) (o := 8) (as := []) (rest := []) (v := some (.ref 9)) dX7_decision_4 rfl lX7_85 (by omega) rfl (Nat.le_of_ble_eq_true rfl) rfl (Nat.le_of_ble_eq_true rfl) (ho1) (p_X3_latest_1 (d := 0) (Nat.le_refl _) h 8 F1 ho1 9 e11) (fun h => nomatch h)) ?_
  refine E.st (s_iload_n (q := 8) dX7_decision_7 rfl rfl) ?_
  refine E.st (p2 := 11) (l2 := [(0, .ref 1), (1, .int a)]) (s2 := [.int (((((v1).toUInt64 >>> ((a : Int32).toInt64.toUInt64 &&& Int64.toUInt64 63)).toInt64) &&& 1).toInt32)]) (h2 := h) (s_invv (K := mX1_alternativeAt) (o := 9) (as := [.int a]) (rest := []) (v := some (.int (((((v1).toUInt64 >>> ((a : Int32).toInt64.toUInt64 &&& Int64.toUInt64 63)).toInt64) &&& 1).toInt32))) dX7_decision_8 rfl lX7_89 (by omega) rfl (Nat.le_of_ble_eq_true rfl) rfl (Nat.le_of_ble_eq_true rfl) (ho2) (p_X1_alternativeAt_3 (d := 0) (Nat.le_refl _) h 9 a c F2 ho2 v2 e2 c1 v1 e12) (fun h => nomatch h)) ?_
  exact E.i dX7_decision_11 rfl rfl rfl rfl

set_option maxRecDepth 20000 in
theorem j_X7_token_a_1 {d : Nat} (hd : 1 ≤ d) (h : AH) (a : Int32) (b : Int32) (p : Nat) (q : Nat) (F : Nat → Value) (ho : h.1 1 = ob 7 (fo 2 F)) (e1 : F 1 = .ref 8) (F1 : Nat → Value) (ho1 : h.1 8 = ob 3 (fo 15 F1)) (e11 : F1 1 = .ref 9) (F2 : Nat → Value) (ho2 : h.1 9 = ob 1 (fo 4 F2)) (e0 : F2 0 = .ref 10) (F3 : Nat → Value) (ho3 : h.1 10 = ob 4 (fo 4 F3)) (v3 : Int32) (e3 : F3 3 = .int v3) (c : a < 0 ∨ v3 ≤ a) : J false mX7_token d 0 [(0, .ref 1), (1, .int a), (2, .int b)] [] h 28 [(0, .ref 1), (1, .int a), (2, .int b)] [] h := by
  refine J.tr (s_aload_n (q := 1) dX7_token_0 rfl rfl) ?_
  refine J.tr (s_gf (q := 4) (v := .ref 8) dX7_token_1 rfl fX7_21.l (ho) (by decide) (e1)) ?_
  refine J.tr (p2 := 7) (l2 := [(0, .ref 1), (1, .int a), (2, .int b)]) (s2 := [.ref 9]) (h2 := h) (s_invv (K := mX3_latest) (o := 8) (as := []) (rest := []) (v := some (.ref 9)) dX7_token_4 rfl lX7_85 (by omega) rfl (Nat.le_of_ble_eq_true rfl) rfl (Nat.le_of_ble_eq_true rfl) (ho1) (p_X3_latest_1 (d := 0) (Nat.le_refl _) h 8 F1 ho1 9 e11) (fun h => nomatch h)) ?_
  refine J.tr (p2 := 10) (l2 := [(0, .ref 1), (1, .int a), (2, .int b)]) (s2 := [.ref 10]) (h2 := h) (s_invv (K := mX1_tokens) (o := 9) (as := []) (rest := []) (v := some (.ref 10)) dX7_token_7 rfl lX7_94 (by omega) rfl (Nat.le_of_ble_eq_true rfl) rfl (Nat.le_of_ble_eq_true rfl) (ho2) (p_X1_tokens_1 (d := 0) (Nat.le_refl _) h 9 F2 ho2 10 e0) (fun h => nomatch h)) ?_
  refine J.tr (s_astore_n (q := 11) (ls' := [(3, .ref 10), (0, .ref 1), (1, .int a), (2, .int b)]) dX7_token_10 rfl (by decide) rfl) ?_
  refine J.tr (s_aload_n (q := 12) dX7_token_11 rfl rfl) ?_
  refine J.tr (s_iload_n (q := 13) dX7_token_12 rfl rfl) ?_
  refine J.tr (p2 := 16) (l2 := [(3, .ref 10), (0, .ref 1), (1, .int a), (2, .int b)]) (s2 := [.int 0]) (h2 := h) (s_invv (K := mX4_has) (o := 10) (as := [.int a]) (rest := []) (v := some (.int 0)) dX7_token_13 rfl lX7_98 (by omega) rfl (Nat.le_of_ble_eq_true rfl) rfl (Nat.le_of_ble_eq_true rfl) (ho3) (q_X4_has_n (d := 0) (Nat.le_refl _) h 10 a F3 ho3 v3 e3 c) (fun h => nomatch h)) ?_
  refine J.tr (s_if_eq_t (q := 28) dX7_token_16 (by decide) (by decide)) ?_
  refine J.tr (s_ls (ls' := [(0, .ref 1), (1, .int a), (2, .int b)]) [1, 2, 3] rfl) ?_
  exact J.rf

set_option maxRecDepth 20000 in
theorem j_X7_token_a_2 {d : Nat} (hd : 1 ≤ d) (h : AH) (a : Int32) (b : Int32) (p : Nat) (q : Nat) (F : Nat → Value) (ho : h.1 1 = ob 7 (fo 2 F)) (e1 : F 1 = .ref 8) (F1 : Nat → Value) (ho1 : h.1 8 = ob 3 (fo 15 F1)) (e11 : F1 1 = .ref 9) (F2 : Nat → Value) (ho2 : h.1 9 = ob 1 (fo 4 F2)) (e0 : F2 0 = .ref 10) (F3 : Nat → Value) (ho3 : h.1 10 = ob 4 (fo 4 F3)) (v3 : Int32) (e3 : F3 3 = .int v3) (c : ¬ (a < 0) ∧ ¬ (v3 ≤ a)) (c1 : b < 0) : J false mX7_token d 0 [(0, .ref 1), (1, .int a), (2, .int b)] [] h 28 [(0, .ref 1), (1, .int a), (2, .int b)] [] h := by
  refine J.tr (s_aload_n (q := 1) dX7_token_0 rfl rfl) ?_
  refine J.tr (s_gf (q := 4) (v := .ref 8) dX7_token_1 rfl fX7_21.l (ho) (by decide) (e1)) ?_
  refine J.tr (p2 := 7) (l2 := [(0, .ref 1), (1, .int a), (2, .int b)]) (s2 := [.ref 9]) (h2 := h) (s_invv (K := mX3_latest) (o := 8) (as := []) (rest := []) (v := some (.ref 9)) dX7_token_4 rfl lX7_85 (by omega) rfl (Nat.le_of_ble_eq_true rfl) rfl (Nat.le_of_ble_eq_true rfl) (ho1) (p_X3_latest_1 (d := 0) (Nat.le_refl _) h 8 F1 ho1 9 e11) (fun h => nomatch h)) ?_
  refine J.tr (p2 := 10) (l2 := [(0, .ref 1), (1, .int a), (2, .int b)]) (s2 := [.ref 10]) (h2 := h) (s_invv (K := mX1_tokens) (o := 9) (as := []) (rest := []) (v := some (.ref 10)) dX7_token_7 rfl lX7_94 (by omega) rfl (Nat.le_of_ble_eq_true rfl) rfl (Nat.le_of_ble_eq_true rfl) (ho2) (p_X1_tokens_1 (d := 0) (Nat.le_refl _) h 9 F2 ho2 10 e0) (fun h => nomatch h)) ?_
  refine J.tr (s_astore_n (q := 11) (ls' := [(3, .ref 10), (0, .ref 1), (1, .int a), (2, .int b)]) dX7_token_10 rfl (by decide) rfl) ?_
  refine J.tr (s_aload_n (q := 12) dX7_token_11 rfl rfl) ?_
  refine J.tr (s_iload_n (q := 13) dX7_token_12 rfl rfl) ?_
  refine J.tr (p2 := 16) (l2 := [(3, .ref 10), (0, .ref 1), (1, .int a), (2, .int b)]) (s2 := [.int 1]) (h2 := h) (s_invv (K := mX4_has) (o := 10) (as := [.int a]) (rest := []) (v := some (.int 1)) dX7_token_13 rfl lX7_98 (by omega) rfl (Nat.le_of_ble_eq_true rfl) rfl (Nat.le_of_ble_eq_true rfl) (ho3) (q_X4_has_y (d := 0) (Nat.le_refl _) h 10 a F3 ho3 v3 e3 c) (fun h => nomatch h)) ?_
  refine J.tr (s_if_eq_f (q := 19) (tg := 28) dX7_token_16 (by decide) rfl (by decide)) ?_
  refine J.tr (s_iload_n (q := 20) dX7_token_19 rfl rfl) ?_
  refine J.tr (s_if_lt_t (q := 28) dX7_token_20 (by decide) c1) ?_
  refine J.tr (s_ls (ls' := [(0, .ref 1), (1, .int a), (2, .int b)]) [1, 2, 3] rfl) ?_
  exact J.rf

set_option maxRecDepth 20000 in
theorem j_X7_token_a_3 {d : Nat} (hd : 2 ≤ d) (h : AH) (a : Int32) (b : Int32) (p : Nat) (q : Nat) (F : Nat → Value) (ho : h.1 1 = ob 7 (fo 2 F)) (e1 : F 1 = .ref 8) (F1 : Nat → Value) (ho1 : h.1 8 = ob 3 (fo 15 F1)) (e11 : F1 1 = .ref 9) (F2 : Nat → Value) (ho2 : h.1 9 = ob 1 (fo 4 F2)) (e0 : F2 0 = .ref 10) (F3 : Nat → Value) (ho3 : h.1 10 = ob 4 (fo 4 F3)) (v3 : Int32) (e3 : F3 3 = .int v3) (c : ¬ (a < 0) ∧ ¬ (v3 ≤ a)) (c1 : ¬ (b < 0)) (c2 : b ≤ 1) (c3 : ¬ b = 0) (c4 : a < 0 ∨ v3 ≤ a) : E false mX7_token d 0 [(0, .ref 1), (1, .int a), (2, .int b)] [] h (some (.long 0)) h := by
  refine E.st (s_aload_n (q := 1) dX7_token_0 rfl rfl) ?_
  refine E.st (s_gf (q := 4) (v := .ref 8) dX7_token_1 rfl fX7_21.l (ho) (by decide) (e1)) ?_
  refine E.st (p2 := 7) (l2 := [(0, .ref 1), (1, .int a), (2, .int b)]) (s2 := [.ref 9]) (h2 := h) (s_invv (K := mX3_latest) (o := 8) (as := []) (rest := []) (v := some (.ref 9)) dX7_token_4 rfl lX7_85 (by omega) rfl (Nat.le_of_ble_eq_true rfl) rfl (Nat.le_of_ble_eq_true rfl) (ho1) (p_X3_latest_1 (d := 0) (Nat.le_refl _) h 8 F1 ho1 9 e11) (fun h => nomatch h)) ?_
  refine E.st (p2 := 10) (l2 := [(0, .ref 1), (1, .int a), (2, .int b)]) (s2 := [.ref 10]) (h2 := h) (s_invv (K := mX1_tokens) (o := 9) (as := []) (rest := []) (v := some (.ref 10)) dX7_token_7 rfl lX7_94 (by omega) rfl (Nat.le_of_ble_eq_true rfl) rfl (Nat.le_of_ble_eq_true rfl) (ho2) (p_X1_tokens_1 (d := 0) (Nat.le_refl _) h 9 F2 ho2 10 e0) (fun h => nomatch h)) ?_
  refine E.st (s_astore_n (q := 11) (ls' := [(3, .ref 10), (0, .ref 1), (1, .int a), (2, .int b)]) dX7_token_10 rfl (by decide) rfl) ?_
  refine E.st (s_aload_n (q := 12) dX7_token_11 rfl rfl) ?_
  refine E.st (s_iload_n (q := 13) dX7_token_12 rfl rfl) ?_
  refine E.st (p2 := 16) (l2 := [(3, .ref 10), (0, .ref 1), (1, .int a), (2, .int b)]) (s2 := [.int 1]) (h2 := h) (s_invv (K := mX4_has) (o := 10) (as := [.int a]) (rest := []) (v := some (.int 1)) dX7_token_13 rfl lX7_98 (by omega) rfl (Nat.le_of_ble_eq_true rfl) rfl (Nat.le_of_ble_eq_true rfl) (ho3) (q_X4_has_y (d := 0) (Nat.le_refl _) h 10 a F3 ho3 v3 e3 c) (fun h => nomatch h)) ?_
  refine E.st (s_if_eq_f (q := 19) (tg := 28) dX7_token_16 (by decide) rfl (by decide)) ?_
  refine E.st (s_iload_n (q := 20) dX7_token_19 rfl rfl) ?_
  refine E.st (s_if_lt_f (q := 23) (tg := 28) dX7_token_20 (by decide) rfl c1) ?_
  refine E.st (s_iload_n (q := 24) dX7_token_23 rfl rfl) ?_
  refine E.st (s_iconst (q := 25) (v := 1) dX7_token_24 rfl (by decide)) ?_
  refine E.st (s_icmp_le_t (q := 38) dX7_token_25 (by decide) c2) ?_
  refine E.st (s_iload_n (q := 39) dX7_token_38 rfl rfl) ?_
  refine E.st (s_if_ne_t (q := 51) dX7_token_39 (by decide) c3) ?_
  refine E.st (s_aload_n (q := 52) dX7_token_51 rfl rfl) ?_
  refine E.st (s_iload_n (q := 53) dX7_token_52 rfl rfl) ?_
  refine E.st (p2 := 56) (l2 := [(3, .ref 10), (0, .ref 1), (1, .int a), (2, .int b)]) (s2 := [.long 0]) (h2 := h) (s_invv (K := mX4_numberAt) (o := 10) (as := [.int a]) (rest := []) (v := some (.long 0)) dX7_token_53 rfl lX7_106 (by omega) rfl (Nat.le_of_ble_eq_true rfl) rfl (Nat.le_of_ble_eq_true rfl) (ho3) (p_X4_numberAt_1 (d := 1) (Nat.le_refl _) h 10 a F3 ho3 v3 e3 c4) (fun h => nomatch h)) ?_
  exact E.l dX7_token_56 rfl rfl rfl

set_option maxRecDepth 20000 in
theorem j_X7_token_a_4 {d : Nat} (hd : 2 ≤ d) (h : AH) (a : Int32) (b : Int32) (p : Nat) (q : Nat) (F : Nat → Value) (ho : h.1 1 = ob 7 (fo 2 F)) (e1 : F 1 = .ref 8) (F1 : Nat → Value) (ho1 : h.1 8 = ob 3 (fo 15 F1)) (e11 : F1 1 = .ref 9) (F2 : Nat → Value) (ho2 : h.1 9 = ob 1 (fo 4 F2)) (e0 : F2 0 = .ref 10) (F3 : Nat → Value) (ho3 : h.1 10 = ob 4 (fo 4 F3)) (v3 : Int32) (e3 : F3 3 = .int v3) (c : ¬ (a < 0) ∧ ¬ (v3 ≤ a)) (c1 : ¬ (b < 0)) (c2 : b ≤ 1) (c3 : ¬ b = 0) (e2 : F3 2 = .ref q) (n : Nat) (f : Nat → Int64) (ha : h.1 q = la n f) (c4 : vp_in a n) : E false mX7_token d 0 [(0, .ref 1), (1, .int a), (2, .int b)] [] h (some (.long (f a.toNatClampNeg))) h := by
  refine E.st (s_aload_n (q := 1) dX7_token_0 rfl rfl) ?_
  refine E.st (s_gf (q := 4) (v := .ref 8) dX7_token_1 rfl fX7_21.l (ho) (by decide) (e1)) ?_
  refine E.st (p2 := 7) (l2 := [(0, .ref 1), (1, .int a), (2, .int b)]) (s2 := [.ref 9]) (h2 := h) (s_invv (K := mX3_latest) (o := 8) (as := []) (rest := []) (v := some (.ref 9)) dX7_token_4 rfl lX7_85 (by omega) rfl (Nat.le_of_ble_eq_true rfl) rfl (Nat.le_of_ble_eq_true rfl) (ho1) (p_X3_latest_1 (d := 0) (Nat.le_refl _) h 8 F1 ho1 9 e11) (fun h => nomatch h)) ?_
  refine E.st (p2 := 10) (l2 := [(0, .ref 1), (1, .int a), (2, .int b)]) (s2 := [.ref 10]) (h2 := h) (s_invv (K := mX1_tokens) (o := 9) (as := []) (rest := []) (v := some (.ref 10)) dX7_token_7 rfl lX7_94 (by omega) rfl (Nat.le_of_ble_eq_true rfl) rfl (Nat.le_of_ble_eq_true rfl) (ho2) (p_X1_tokens_1 (d := 0) (Nat.le_refl _) h 9 F2 ho2 10 e0) (fun h => nomatch h)) ?_
  refine E.st (s_astore_n (q := 11) (ls' := [(3, .ref 10), (0, .ref 1), (1, .int a), (2, .int b)]) dX7_token_10 rfl (by decide) rfl) ?_
  refine E.st (s_aload_n (q := 12) dX7_token_11 rfl rfl) ?_
  refine E.st (s_iload_n (q := 13) dX7_token_12 rfl rfl) ?_
  refine E.st (p2 := 16) (l2 := [(3, .ref 10), (0, .ref 1), (1, .int a), (2, .int b)]) (s2 := [.int 1]) (h2 := h) (s_invv (K := mX4_has) (o := 10) (as := [.int a]) (rest := []) (v := some (.int 1)) dX7_token_13 rfl lX7_98 (by omega) rfl (Nat.le_of_ble_eq_true rfl) rfl (Nat.le_of_ble_eq_true rfl) (ho3) (q_X4_has_y (d := 0) (Nat.le_refl _) h 10 a F3 ho3 v3 e3 c) (fun h => nomatch h)) ?_
  refine E.st (s_if_eq_f (q := 19) (tg := 28) dX7_token_16 (by decide) rfl (by decide)) ?_
  refine E.st (s_iload_n (q := 20) dX7_token_19 rfl rfl) ?_
  refine E.st (s_if_lt_f (q := 23) (tg := 28) dX7_token_20 (by decide) rfl c1) ?_
  refine E.st (s_iload_n (q := 24) dX7_token_23 rfl rfl) ?_
  refine E.st (s_iconst (q := 25) (v := 1) dX7_token_24 rfl (by decide)) ?_
  refine E.st (s_icmp_le_t (q := 38) dX7_token_25 (by decide) c2) ?_
  refine E.st (s_iload_n (q := 39) dX7_token_38 rfl rfl) ?_
  refine E.st (s_if_ne_t (q := 51) dX7_token_39 (by decide) c3) ?_
  refine E.st (s_aload_n (q := 52) dX7_token_51 rfl rfl) ?_
  refine E.st (s_iload_n (q := 53) dX7_token_52 rfl rfl) ?_
  refine E.st (p2 := 56) (l2 := [(3, .ref 10), (0, .ref 1), (1, .int a), (2, .int b)]) (s2 := [.long (f a.toNatClampNeg)]) (h2 := h) (s_invv (K := mX4_numberAt) (o := 10) (as := [.int a]) (rest := []) (v := some (.long (f a.toNatClampNeg))) dX7_token_53 rfl lX7_106 (by omega) rfl (Nat.le_of_ble_eq_true rfl) rfl (Nat.le_of_ble_eq_true rfl) (ho3) (p_X4_numberAt_2 (d := 1) (Nat.le_refl _) h 10 a F3 ho3 v3 e3 c q e2 n f ha c4) (fun h => nomatch h)) ?_
  exact E.l dX7_token_56 rfl rfl rfl

set_option maxRecDepth 20000 in
theorem j_X7_token_a_5 {d : Nat} (hd : 2 ≤ d) (h : AH) (a : Int32) (b : Int32) (p : Nat) (q : Nat) (F : Nat → Value) (ho : h.1 1 = ob 7 (fo 2 F)) (e1 : F 1 = .ref 8) (F1 : Nat → Value) (ho1 : h.1 8 = ob 3 (fo 15 F1)) (e11 : F1 1 = .ref 9) (F2 : Nat → Value) (ho2 : h.1 9 = ob 1 (fo 4 F2)) (e0 : F2 0 = .ref 10) (F3 : Nat → Value) (ho3 : h.1 10 = ob 4 (fo 4 F3)) (v3 : Int32) (e3 : F3 3 = .int v3) (c : ¬ (a < 0) ∧ ¬ (v3 ≤ a)) (c1 : ¬ (b < 0)) (c2 : b ≤ 1) (c3 : b = 0) (c4 : a < 0 ∨ v3 ≤ a) : E false mX7_token d 0 [(0, .ref 1), (1, .int a), (2, .int b)] [] h (some (.long (((-1) : Int32).toInt64))) h := by
  refine E.st (s_aload_n (q := 1) dX7_token_0 rfl rfl) ?_
  refine E.st (s_gf (q := 4) (v := .ref 8) dX7_token_1 rfl fX7_21.l (ho) (by decide) (e1)) ?_
  refine E.st (p2 := 7) (l2 := [(0, .ref 1), (1, .int a), (2, .int b)]) (s2 := [.ref 9]) (h2 := h) (s_invv (K := mX3_latest) (o := 8) (as := []) (rest := []) (v := some (.ref 9)) dX7_token_4 rfl lX7_85 (by omega) rfl (Nat.le_of_ble_eq_true rfl) rfl (Nat.le_of_ble_eq_true rfl) (ho1) (p_X3_latest_1 (d := 0) (Nat.le_refl _) h 8 F1 ho1 9 e11) (fun h => nomatch h)) ?_
  refine E.st (p2 := 10) (l2 := [(0, .ref 1), (1, .int a), (2, .int b)]) (s2 := [.ref 10]) (h2 := h) (s_invv (K := mX1_tokens) (o := 9) (as := []) (rest := []) (v := some (.ref 10)) dX7_token_7 rfl lX7_94 (by omega) rfl (Nat.le_of_ble_eq_true rfl) rfl (Nat.le_of_ble_eq_true rfl) (ho2) (p_X1_tokens_1 (d := 0) (Nat.le_refl _) h 9 F2 ho2 10 e0) (fun h => nomatch h)) ?_
  refine E.st (s_astore_n (q := 11) (ls' := [(3, .ref 10), (0, .ref 1), (1, .int a), (2, .int b)]) dX7_token_10 rfl (by decide) rfl) ?_
  refine E.st (s_aload_n (q := 12) dX7_token_11 rfl rfl) ?_
  refine E.st (s_iload_n (q := 13) dX7_token_12 rfl rfl) ?_
  refine E.st (p2 := 16) (l2 := [(3, .ref 10), (0, .ref 1), (1, .int a), (2, .int b)]) (s2 := [.int 1]) (h2 := h) (s_invv (K := mX4_has) (o := 10) (as := [.int a]) (rest := []) (v := some (.int 1)) dX7_token_13 rfl lX7_98 (by omega) rfl (Nat.le_of_ble_eq_true rfl) rfl (Nat.le_of_ble_eq_true rfl) (ho3) (q_X4_has_y (d := 0) (Nat.le_refl _) h 10 a F3 ho3 v3 e3 c) (fun h => nomatch h)) ?_
  refine E.st (s_if_eq_f (q := 19) (tg := 28) dX7_token_16 (by decide) rfl (by decide)) ?_
  refine E.st (s_iload_n (q := 20) dX7_token_19 rfl rfl) ?_
  refine E.st (s_if_lt_f (q := 23) (tg := 28) dX7_token_20 (by decide) rfl c1) ?_
  refine E.st (s_iload_n (q := 24) dX7_token_23 rfl rfl) ?_
  refine E.st (s_iconst (q := 25) (v := 1) dX7_token_24 rfl (by decide)) ?_
  refine E.st (s_icmp_le_t (q := 38) dX7_token_25 (by decide) c2) ?_
  refine E.st (s_iload_n (q := 39) dX7_token_38 rfl rfl) ?_
  refine E.st (s_if_ne_f (q := 42) (tg := 51) dX7_token_39 (by decide) rfl c3) ?_
  refine E.st (s_aload_n (q := 43) dX7_token_42 rfl rfl) ?_
  refine E.st (s_iload_n (q := 44) dX7_token_43 rfl rfl) ?_
  refine E.st (p2 := 47) (l2 := [(3, .ref 10), (0, .ref 1), (1, .int a), (2, .int b)]) (s2 := [.int (-1)]) (h2 := h) (s_invv (K := mX4_kindAt) (o := 10) (as := [.int a]) (rest := []) (v := some (.int (-1))) dX7_token_44 rfl lX7_103 (by omega) rfl (Nat.le_of_ble_eq_true rfl) rfl (Nat.le_of_ble_eq_true rfl) (ho3) (p_X4_kindAt_1 (d := 1) (Nat.le_refl _) h 10 a F3 ho3 v3 e3 c4) (fun h => nomatch h)) ?_
  refine E.st (s_i2l (q := 48) dX7_token_47 rfl) ?_
  refine E.st (s_goto (q := 56) dX7_token_48 (by decide)) ?_
  exact E.l dX7_token_56 rfl rfl rfl

set_option maxRecDepth 20000 in
theorem j_X7_token_a_6 {d : Nat} (hd : 2 ≤ d) (h : AH) (a : Int32) (b : Int32) (p : Nat) (q : Nat) (F : Nat → Value) (ho : h.1 1 = ob 7 (fo 2 F)) (e1 : F 1 = .ref 8) (F1 : Nat → Value) (ho1 : h.1 8 = ob 3 (fo 15 F1)) (e11 : F1 1 = .ref 9) (F2 : Nat → Value) (ho2 : h.1 9 = ob 1 (fo 4 F2)) (e0 : F2 0 = .ref 10) (F3 : Nat → Value) (ho3 : h.1 10 = ob 4 (fo 4 F3)) (v3 : Int32) (e3 : F3 3 = .int v3) (c : ¬ (a < 0) ∧ ¬ (v3 ≤ a)) (c1 : ¬ (b < 0)) (c2 : b ≤ 1) (c3 : b = 0) (e12 : F3 1 = .ref p) (n : Nat) (f : Nat → Int32) (ha : h.1 p = ia n f) (c4 : vp_in a n) (p1 : 0 < p) : E false mX7_token d 0 [(0, .ref 1), (1, .int a), (2, .int b)] [] h (some (.long ((f a.toNatClampNeg).toInt64))) h := by
  refine E.st (s_aload_n (q := 1) dX7_token_0 rfl rfl) ?_
  refine E.st (s_gf (q := 4) (v := .ref 8) dX7_token_1 rfl fX7_21.l (ho) (by decide) (e1)) ?_
  refine E.st (p2 := 7) (l2 := [(0, .ref 1), (1, .int a), (2, .int b)]) (s2 := [.ref 9]) (h2 := h) (s_invv (K := mX3_latest) (o := 8) (as := []) (rest := []) (v := some (.ref 9)) dX7_token_4 rfl lX7_85 (by omega) rfl (Nat.le_of_ble_eq_true rfl) rfl (Nat.le_of_ble_eq_true rfl) (ho1) (p_X3_latest_1 (d := 0) (Nat.le_refl _) h 8 F1 ho1 9 e11) (fun h => nomatch h)) ?_
  refine E.st (p2 := 10) (l2 := [(0, .ref 1), (1, .int a), (2, .int b)]) (s2 := [.ref 10]) (h2 := h) (s_invv (K := mX1_tokens) (o := 9) (as := []) (rest := []) (v := some (.ref 10)) dX7_token_7 rfl lX7_94 (by omega) rfl (Nat.le_of_ble_eq_true rfl) rfl (Nat.le_of_ble_eq_true rfl) (ho2) (p_X1_tokens_1 (d := 0) (Nat.le_refl _) h 9 F2 ho2 10 e0) (fun h => nomatch h)) ?_
  refine E.st (s_astore_n (q := 11) (ls' := [(3, .ref 10), (0, .ref 1), (1, .int a), (2, .int b)]) dX7_token_10 rfl (by decide) rfl) ?_
  refine E.st (s_aload_n (q := 12) dX7_token_11 rfl rfl) ?_
  refine E.st (s_iload_n (q := 13) dX7_token_12 rfl rfl) ?_
  refine E.st (p2 := 16) (l2 := [(3, .ref 10), (0, .ref 1), (1, .int a), (2, .int b)]) (s2 := [.int 1]) (h2 := h) (s_invv (K := mX4_has) (o := 10) (as := [.int a]) (rest := []) (v := some (.int 1)) dX7_token_13 rfl lX7_98 (by omega) rfl (Nat.le_of_ble_eq_true rfl) rfl (Nat.le_of_ble_eq_true rfl) (ho3) (q_X4_has_y (d := 0) (Nat.le_refl _) h 10 a F3 ho3 v3 e3 c) (fun h => nomatch h)) ?_
  refine E.st (s_if_eq_f (q := 19) (tg := 28) dX7_token_16 (by decide) rfl (by decide)) ?_
  refine E.st (s_iload_n (q := 20) dX7_token_19 rfl rfl) ?_
  refine E.st (s_if_lt_f (q := 23) (tg := 28) dX7_token_20 (by decide) rfl c1) ?_
  refine E.st (s_iload_n (q := 24) dX7_token_23 rfl rfl) ?_
  refine E.st (s_iconst (q := 25) (v := 1) dX7_token_24 rfl (by decide)) ?_
  refine E.st (s_icmp_le_t (q := 38) dX7_token_25 (by decide) c2) ?_
  refine E.st (s_iload_n (q := 39) dX7_token_38 rfl rfl) ?_
  refine E.st (s_if_ne_f (q := 42) (tg := 51) dX7_token_39 (by decide) rfl c3) ?_
  refine E.st (s_aload_n (q := 43) dX7_token_42 rfl rfl) ?_
  refine E.st (s_iload_n (q := 44) dX7_token_43 rfl rfl) ?_
  refine E.st (p2 := 47) (l2 := [(3, .ref 10), (0, .ref 1), (1, .int a), (2, .int b)]) (s2 := [.int (f a.toNatClampNeg)]) (h2 := h) (s_invv (K := mX4_kindAt) (o := 10) (as := [.int a]) (rest := []) (v := some (.int (f a.toNatClampNeg))) dX7_token_44 rfl lX7_103 (by omega) rfl (Nat.le_of_ble_eq_true rfl) rfl (Nat.le_of_ble_eq_true rfl) (ho3) (p_X4_kindAt_2 (d := 1) (Nat.le_refl _) h 10 a F3 ho3 v3 e3 c p e12 n f ha c4 p1) (fun h => nomatch h)) ?_
  refine E.st (s_i2l (q := 48) dX7_token_47 rfl) ?_
  refine E.st (s_goto (q := 56) dX7_token_48 (by decide)) ?_
  exact E.l dX7_token_56 rfl rfl rfl

set_option maxRecDepth 20000 in
theorem j_X7_token_a_7 {d : Nat} (hd : 1 ≤ d) (h : AH) (a : Int32) (b : Int32) (p : Nat) (q : Nat) (F : Nat → Value) (ho : h.1 1 = ob 7 (fo 2 F)) (e1 : F 1 = .ref 8) (F1 : Nat → Value) (ho1 : h.1 8 = ob 3 (fo 15 F1)) (e11 : F1 1 = .ref 9) (F2 : Nat → Value) (ho2 : h.1 9 = ob 1 (fo 4 F2)) (e0 : F2 0 = .ref 10) (F3 : Nat → Value) (ho3 : h.1 10 = ob 4 (fo 4 F3)) (v3 : Int32) (e3 : F3 3 = .int v3) (c : ¬ (a < 0) ∧ ¬ (v3 ≤ a)) (c1 : ¬ (b < 0)) (c2 : ¬ (b ≤ 1)) : J false mX7_token d 0 [(0, .ref 1), (1, .int a), (2, .int b)] [] h 28 [(0, .ref 1), (1, .int a), (2, .int b)] [] h := by
  refine J.tr (s_aload_n (q := 1) dX7_token_0 rfl rfl) ?_
  refine J.tr (s_gf (q := 4) (v := .ref 8) dX7_token_1 rfl fX7_21.l (ho) (by decide) (e1)) ?_
  refine J.tr (p2 := 7) (l2 := [(0, .ref 1), (1, .int a), (2, .int b)]) (s2 := [.ref 9]) (h2 := h) (s_invv (K := mX3_latest) (o := 8) (as := []) (rest := []) (v := some (.ref 9)) dX7_token_4 rfl lX7_85 (by omega) rfl (Nat.le_of_ble_eq_true rfl) rfl (Nat.le_of_ble_eq_true rfl) (ho1) (p_X3_latest_1 (d := 0) (Nat.le_refl _) h 8 F1 ho1 9 e11) (fun h => nomatch h)) ?_
  refine J.tr (p2 := 10) (l2 := [(0, .ref 1), (1, .int a), (2, .int b)]) (s2 := [.ref 10]) (h2 := h) (s_invv (K := mX1_tokens) (o := 9) (as := []) (rest := []) (v := some (.ref 10)) dX7_token_7 rfl lX7_94 (by omega) rfl (Nat.le_of_ble_eq_true rfl) rfl (Nat.le_of_ble_eq_true rfl) (ho2) (p_X1_tokens_1 (d := 0) (Nat.le_refl _) h 9 F2 ho2 10 e0) (fun h => nomatch h)) ?_
  refine J.tr (s_astore_n (q := 11) (ls' := [(3, .ref 10), (0, .ref 1), (1, .int a), (2, .int b)]) dX7_token_10 rfl (by decide) rfl) ?_
  refine J.tr (s_aload_n (q := 12) dX7_token_11 rfl rfl) ?_
  refine J.tr (s_iload_n (q := 13) dX7_token_12 rfl rfl) ?_
  refine J.tr (p2 := 16) (l2 := [(3, .ref 10), (0, .ref 1), (1, .int a), (2, .int b)]) (s2 := [.int 1]) (h2 := h) (s_invv (K := mX4_has) (o := 10) (as := [.int a]) (rest := []) (v := some (.int 1)) dX7_token_13 rfl lX7_98 (by omega) rfl (Nat.le_of_ble_eq_true rfl) rfl (Nat.le_of_ble_eq_true rfl) (ho3) (q_X4_has_y (d := 0) (Nat.le_refl _) h 10 a F3 ho3 v3 e3 c) (fun h => nomatch h)) ?_
  refine J.tr (s_if_eq_f (q := 19) (tg := 28) dX7_token_16 (by decide) rfl (by decide)) ?_
  refine J.tr (s_iload_n (q := 20) dX7_token_19 rfl rfl) ?_
  refine J.tr (s_if_lt_f (q := 23) (tg := 28) dX7_token_20 (by decide) rfl c1) ?_
  refine J.tr (s_iload_n (q := 24) dX7_token_23 rfl rfl) ?_
  refine J.tr (s_iconst (q := 25) (v := 1) dX7_token_24 rfl (by decide)) ?_
  refine J.tr (s_icmp_le_f (q := 28) (tg := 38) dX7_token_25 (by decide) rfl c2) ?_
  refine J.tr (s_ls (ls' := [(0, .ref 1), (1, .int a), (2, .int b)]) [1, 2, 3] rfl) ?_
  exact J.rf

set_option maxRecDepth 20000 in
theorem j_X7_count_a_1 {d : Nat} (hd : 1 ≤ d) (h : AH) (a : Int32) (c : a = 0) (F : Nat → Value) (ho : h.1 1 = ob 7 (fo 2 F)) (e0 : F 0 = .ref 2) (F1 : Nat → Value) (ho1 : h.1 2 = ob 2 (fo 6 F1)) (v5 : Int32) (e5 : F1 5 = .int v5) : E false mX7_count d 0 [(0, .ref 1), (1, .int a)] [] h (some (.int v5)) h := by
  refine E.st (s_iload_n (q := 1) dX7_count_0 rfl rfl) ?_
  refine E.st (s_tabIn (q := 52) (off := 51) dX7_count_1 (by rw [c]; decide) (by rw [c]; decide) (by rw [c]; rfl) (by decide)) ?_
  refine E.st (s_aload_n (q := 53) dX7_count_52 rfl rfl) ?_
  refine E.st (s_gf (q := 56) (v := .ref 2) dX7_count_53 rfl fX7_10.l (ho) (by decide) (e0)) ?_
  refine E.st (p2 := 59) (l2 := [(0, .ref 1), (1, .int a)]) (s2 := [.int v5]) (h2 := h) (s_invv (K := mX2_size) (o := 2) (as := []) (rest := []) (v := some (.int v5)) dX7_count_56 rfl lX7_41 (by omega) rfl (Nat.le_of_ble_eq_true rfl) rfl (Nat.le_of_ble_eq_true rfl) (ho1) (p_X2_size_1 (d := 0) (Nat.le_refl _) h 2 F1 ho1 v5 e5) (fun h => nomatch h)) ?_
  exact E.i dX7_count_59 rfl rfl rfl rfl

set_option maxRecDepth 20000 in
theorem j_X7_count_a_2 {d : Nat} (hd : 1 ≤ d) (h : AH) (a : Int32) (c : a = 1) (F : Nat → Value) (ho : h.1 1 = ob 7 (fo 2 F)) (e1 : F 1 = .ref 8) (F1 : Nat → Value) (ho1 : h.1 8 = ob 3 (fo 15 F1)) (v10 : Int32) (e10 : F1 10 = .int v10) : E false mX7_count d 0 [(0, .ref 1), (1, .int a)] [] h (some (.int v10)) h := by
  refine E.st (s_iload_n (q := 1) dX7_count_0 rfl rfl) ?_
  refine E.st (s_tabIn (q := 60) (off := 59) dX7_count_1 (by rw [c]; decide) (by rw [c]; decide) (by rw [c]; rfl) (by decide)) ?_
  refine E.st (s_aload_n (q := 61) dX7_count_60 rfl rfl) ?_
  refine E.st (s_gf (q := 64) (v := .ref 8) dX7_count_61 rfl fX7_21.l (ho) (by decide) (e1)) ?_
  refine E.st (p2 := 67) (l2 := [(0, .ref 1), (1, .int a)]) (s2 := [.int v10]) (h2 := h) (s_invv (K := mX3_places) (o := 8) (as := []) (rest := []) (v := some (.int v10)) dX7_count_64 rfl lX7_110 (by omega) rfl (Nat.le_of_ble_eq_true rfl) rfl (Nat.le_of_ble_eq_true rfl) (ho1) (p_X3_places_1 (d := 0) (Nat.le_refl _) h 8 F1 ho1 v10 e10) (fun h => nomatch h)) ?_
  exact E.i dX7_count_67 rfl rfl rfl rfl

set_option maxRecDepth 20000 in
theorem j_X7_count_a_3 {d : Nat} (hd : 1 ≤ d) (h : AH) (a : Int32) (c : a = 2) (F : Nat → Value) (ho : h.1 1 = ob 7 (fo 2 F)) (e1 : F 1 = .ref 8) (F1 : Nat → Value) (ho1 : h.1 8 = ob 3 (fo 15 F1)) (v11 : Int32) (e11 : F1 11 = .int v11) : E false mX7_count d 0 [(0, .ref 1), (1, .int a)] [] h (some (.int v11)) h := by
  refine E.st (s_iload_n (q := 1) dX7_count_0 rfl rfl) ?_
  refine E.st (s_tabIn (q := 68) (off := 67) dX7_count_1 (by rw [c]; decide) (by rw [c]; decide) (by rw [c]; rfl) (by decide)) ?_
  refine E.st (s_aload_n (q := 69) dX7_count_68 rfl rfl) ?_
  refine E.st (s_gf (q := 72) (v := .ref 8) dX7_count_69 rfl fX7_21.l (ho) (by decide) (e1)) ?_
  refine E.st (p2 := 75) (l2 := [(0, .ref 1), (1, .int a)]) (s2 := [.int v11]) (h2 := h) (s_invv (K := mX3_values) (o := 8) (as := []) (rest := []) (v := some (.int v11)) dX7_count_72 rfl lX7_113 (by omega) rfl (Nat.le_of_ble_eq_true rfl) rfl (Nat.le_of_ble_eq_true rfl) (ho1) (p_X3_values_1 (d := 0) (Nat.le_refl _) h 8 F1 ho1 v11 e11) (fun h => nomatch h)) ?_
  exact E.i dX7_count_75 rfl rfl rfl rfl

set_option maxRecDepth 20000 in
theorem j_X7_count_a_4 {d : Nat} (hd : 1 ≤ d) (h : AH) (a : Int32) (c : a = 3) (F : Nat → Value) (ho : h.1 1 = ob 7 (fo 2 F)) (e1 : F 1 = .ref 8) (F1 : Nat → Value) (ho1 : h.1 8 = ob 3 (fo 15 F1)) (v12 : Int32) (e12 : F1 12 = .int v12) : E false mX7_count d 0 [(0, .ref 1), (1, .int a)] [] h (some (.int v12)) h := by
  refine E.st (s_iload_n (q := 1) dX7_count_0 rfl rfl) ?_
  refine E.st (s_tabIn (q := 76) (off := 75) dX7_count_1 (by rw [c]; decide) (by rw [c]; decide) (by rw [c]; rfl) (by decide)) ?_
  refine E.st (s_aload_n (q := 77) dX7_count_76 rfl rfl) ?_
  refine E.st (s_gf (q := 80) (v := .ref 8) dX7_count_77 rfl fX7_21.l (ho) (by decide) (e1)) ?_
  refine E.st (p2 := 83) (l2 := [(0, .ref 1), (1, .int a)]) (s2 := [.int v12]) (h2 := h) (s_invv (K := mX3_failed) (o := 8) (as := []) (rest := []) (v := some (.int v12)) dX7_count_80 rfl lX7_116 (by omega) rfl (Nat.le_of_ble_eq_true rfl) rfl (Nat.le_of_ble_eq_true rfl) (ho1) (p_X3_failed_1 (d := 0) (Nat.le_refl _) h 8 F1 ho1 v12 e12) (fun h => nomatch h)) ?_
  exact E.i dX7_count_83 rfl rfl rfl rfl

set_option maxRecDepth 20000 in
theorem j_X7_count_a_5 {d : Nat} (hd : 1 ≤ d) (h : AH) (a : Int32) (c : a = 4) (F : Nat → Value) (ho : h.1 1 = ob 7 (fo 2 F)) (e1 : F 1 = .ref 8) (F1 : Nat → Value) (ho1 : h.1 8 = ob 3 (fo 15 F1)) (v13 : Int32) (e13 : F1 13 = .int v13) : E false mX7_count d 0 [(0, .ref 1), (1, .int a)] [] h (some (.int v13)) h := by
  refine E.st (s_iload_n (q := 1) dX7_count_0 rfl rfl) ?_
  refine E.st (s_tabIn (q := 84) (off := 83) dX7_count_1 (by rw [c]; decide) (by rw [c]; decide) (by rw [c]; rfl) (by decide)) ?_
  refine E.st (s_aload_n (q := 85) dX7_count_84 rfl rfl) ?_
  refine E.st (s_gf (q := 88) (v := .ref 8) dX7_count_85 rfl fX7_21.l (ho) (by decide) (e1)) ?_
  refine E.st (p2 := 91) (l2 := [(0, .ref 1), (1, .int a)]) (s2 := [.int v13]) (h2 := h) (s_invv (K := mX3_givenUp) (o := 8) (as := []) (rest := []) (v := some (.int v13)) dX7_count_88 rfl lX7_119 (by omega) rfl (Nat.le_of_ble_eq_true rfl) rfl (Nat.le_of_ble_eq_true rfl) (ho1) (p_X3_givenUp_1 (d := 0) (Nat.le_refl _) h 8 F1 ho1 v13 e13) (fun h => nomatch h)) ?_
  exact E.i dX7_count_91 rfl rfl rfl rfl

set_option maxRecDepth 20000 in
theorem j_X7_count_a_6 {d : Nat} (hd : 1 ≤ d) (h : AH) (a : Int32) (c : a = 5) (F : Nat → Value) (ho : h.1 1 = ob 7 (fo 2 F)) (e1 : F 1 = .ref 8) (F1 : Nat → Value) (ho1 : h.1 8 = ob 3 (fo 15 F1)) (v14 : Int32) (e14 : F1 14 = .int v14) : E false mX7_count d 0 [(0, .ref 1), (1, .int a)] [] h (some (.int v14)) h := by
  refine E.st (s_iload_n (q := 1) dX7_count_0 rfl rfl) ?_
  refine E.st (s_tabIn (q := 92) (off := 91) dX7_count_1 (by rw [c]; decide) (by rw [c]; decide) (by rw [c]; rfl) (by decide)) ?_
  refine E.st (s_aload_n (q := 93) dX7_count_92 rfl rfl) ?_
  refine E.st (s_gf (q := 96) (v := .ref 8) dX7_count_93 rfl fX7_21.l (ho) (by decide) (e1)) ?_
  refine E.st (p2 := 99) (l2 := [(0, .ref 1), (1, .int a)]) (s2 := [.int v14]) (h2 := h) (s_invv (K := mX3_cut) (o := 8) (as := []) (rest := []) (v := some (.int v14)) dX7_count_96 rfl lX7_122 (by omega) rfl (Nat.le_of_ble_eq_true rfl) rfl (Nat.le_of_ble_eq_true rfl) (ho1) (p_X3_cut_1 (d := 0) (Nat.le_refl _) h 8 F1 ho1 v14 e14) (fun h => nomatch h)) ?_
  exact E.i dX7_count_99 rfl rfl rfl rfl

set_option maxRecDepth 20000 in
theorem j_X7_count_a_7 {d : Nat} (hd : 1 ≤ d) (h : AH) (a : Int32) (c : a = 6) (F : Nat → Value) (ho : h.1 1 = ob 7 (fo 2 F)) (e1 : F 1 = .ref 8) (F1 : Nat → Value) (ho1 : h.1 8 = ob 3 (fo 15 F1)) (e11 : F1 1 = .ref 9) (F2 : Nat → Value) (ho2 : h.1 9 = ob 1 (fo 4 F2)) (v3 : Int32) (e3 : F2 3 = .int v3) : E false mX7_count d 0 [(0, .ref 1), (1, .int a)] [] h (some (.int v3)) h := by
  refine E.st (s_iload_n (q := 1) dX7_count_0 rfl rfl) ?_
  refine E.st (s_tabIn (q := 100) (off := 99) dX7_count_1 (by rw [c]; decide) (by rw [c]; decide) (by rw [c]; rfl) (by decide)) ?_
  refine E.st (s_aload_n (q := 101) dX7_count_100 rfl rfl) ?_
  refine E.st (s_gf (q := 104) (v := .ref 8) dX7_count_101 rfl fX7_21.l (ho) (by decide) (e1)) ?_
  refine E.st (p2 := 107) (l2 := [(0, .ref 1), (1, .int a)]) (s2 := [.ref 9]) (h2 := h) (s_invv (K := mX3_latest) (o := 8) (as := []) (rest := []) (v := some (.ref 9)) dX7_count_104 rfl lX7_85 (by omega) rfl (Nat.le_of_ble_eq_true rfl) rfl (Nat.le_of_ble_eq_true rfl) (ho1) (p_X3_latest_1 (d := 0) (Nat.le_refl _) h 8 F1 ho1 9 e11) (fun h => nomatch h)) ?_
  refine E.st (p2 := 110) (l2 := [(0, .ref 1), (1, .int a)]) (s2 := [.int v3]) (h2 := h) (s_invv (K := mX1_labour) (o := 9) (as := []) (rest := []) (v := some (.int v3)) dX7_count_107 rfl lX7_125 (by omega) rfl (Nat.le_of_ble_eq_true rfl) rfl (Nat.le_of_ble_eq_true rfl) (ho2) (p_X1_labour_1 (d := 0) (Nat.le_refl _) h 9 F2 ho2 v3 e3) (fun h => nomatch h)) ?_
  exact E.i dX7_count_110 rfl rfl rfl rfl

set_option maxRecDepth 20000 in
theorem j_X7_count_a_8 {d : Nat} (hd : 1 ≤ d) (h : AH) (a : Int32) (c : a = 7) (F : Nat → Value) (ho : h.1 1 = ob 7 (fo 2 F)) (e1 : F 1 = .ref 8) (F1 : Nat → Value) (ho1 : h.1 8 = ob 3 (fo 15 F1)) (e11 : F1 1 = .ref 9) (F2 : Nat → Value) (ho2 : h.1 9 = ob 1 (fo 4 F2)) (v2 : Int32) (e2 : F2 2 = .int v2) : E false mX7_count d 0 [(0, .ref 1), (1, .int a)] [] h (some (.int v2)) h := by
  refine E.st (s_iload_n (q := 1) dX7_count_0 rfl rfl) ?_
  refine E.st (s_tabIn (q := 111) (off := 110) dX7_count_1 (by rw [c]; decide) (by rw [c]; decide) (by rw [c]; rfl) (by decide)) ?_
  refine E.st (s_aload_n (q := 112) dX7_count_111 rfl rfl) ?_
  refine E.st (s_gf (q := 115) (v := .ref 8) dX7_count_112 rfl fX7_21.l (ho) (by decide) (e1)) ?_
  refine E.st (p2 := 118) (l2 := [(0, .ref 1), (1, .int a)]) (s2 := [.ref 9]) (h2 := h) (s_invv (K := mX3_latest) (o := 8) (as := []) (rest := []) (v := some (.ref 9)) dX7_count_115 rfl lX7_85 (by omega) rfl (Nat.le_of_ble_eq_true rfl) rfl (Nat.le_of_ble_eq_true rfl) (ho1) (p_X3_latest_1 (d := 0) (Nat.le_refl _) h 8 F1 ho1 9 e11) (fun h => nomatch h)) ?_
  refine E.st (p2 := 121) (l2 := [(0, .ref 1), (1, .int a)]) (s2 := [.int v2]) (h2 := h) (s_invv (K := mX1_decisions) (o := 9) (as := []) (rest := []) (v := some (.int v2)) dX7_count_118 rfl lX7_128 (by omega) rfl (Nat.le_of_ble_eq_true rfl) rfl (Nat.le_of_ble_eq_true rfl) (ho2) (p_X1_decisions_1 (d := 0) (Nat.le_refl _) h 9 F2 ho2 v2 e2) (fun h => nomatch h)) ?_
  exact E.i dX7_count_121 rfl rfl rfl rfl

set_option maxRecDepth 20000 in
theorem j_X7_count_a_9 {d : Nat} (hd : 1 ≤ d) (h : AH) (a : Int32) (c : a = 8) (F : Nat → Value) (ho : h.1 1 = ob 7 (fo 2 F)) (e1 : F 1 = .ref 8) (F1 : Nat → Value) (ho1 : h.1 8 = ob 3 (fo 15 F1)) (e11 : F1 1 = .ref 9) (F2 : Nat → Value) (ho2 : h.1 9 = ob 1 (fo 4 F2)) (e0 : F2 0 = .ref 10) (F3 : Nat → Value) (ho3 : h.1 10 = ob 4 (fo 4 F3)) (v3 : Int32) (e3 : F3 3 = .int v3) : E false mX7_count d 0 [(0, .ref 1), (1, .int a)] [] h (some (.int v3)) h := by
  refine E.st (s_iload_n (q := 1) dX7_count_0 rfl rfl) ?_
  refine E.st (s_tabIn (q := 122) (off := 121) dX7_count_1 (by rw [c]; decide) (by rw [c]; decide) (by rw [c]; rfl) (by decide)) ?_
  refine E.st (s_aload_n (q := 123) dX7_count_122 rfl rfl) ?_
  refine E.st (s_gf (q := 126) (v := .ref 8) dX7_count_123 rfl fX7_21.l (ho) (by decide) (e1)) ?_
  refine E.st (p2 := 129) (l2 := [(0, .ref 1), (1, .int a)]) (s2 := [.ref 9]) (h2 := h) (s_invv (K := mX3_latest) (o := 8) (as := []) (rest := []) (v := some (.ref 9)) dX7_count_126 rfl lX7_85 (by omega) rfl (Nat.le_of_ble_eq_true rfl) rfl (Nat.le_of_ble_eq_true rfl) (ho1) (p_X3_latest_1 (d := 0) (Nat.le_refl _) h 8 F1 ho1 9 e11) (fun h => nomatch h)) ?_
  refine E.st (p2 := 132) (l2 := [(0, .ref 1), (1, .int a)]) (s2 := [.ref 10]) (h2 := h) (s_invv (K := mX1_tokens) (o := 9) (as := []) (rest := []) (v := some (.ref 10)) dX7_count_129 rfl lX7_94 (by omega) rfl (Nat.le_of_ble_eq_true rfl) rfl (Nat.le_of_ble_eq_true rfl) (ho2) (p_X1_tokens_1 (d := 0) (Nat.le_refl _) h 9 F2 ho2 10 e0) (fun h => nomatch h)) ?_
  refine E.st (p2 := 135) (l2 := [(0, .ref 1), (1, .int a)]) (s2 := [.int v3]) (h2 := h) (s_invv (K := mX4_size) (o := 10) (as := []) (rest := []) (v := some (.int v3)) dX7_count_132 rfl lX7_131 (by omega) rfl (Nat.le_of_ble_eq_true rfl) rfl (Nat.le_of_ble_eq_true rfl) (ho3) (p_X4_size_1 (d := 0) (Nat.le_refl _) h 10 F3 ho3 v3 e3) (fun h => nomatch h)) ?_
  exact E.i dX7_count_135 rfl rfl rfl rfl

set_option maxRecDepth 20000 in
theorem j_X7_count_a_10 {d : Nat} (hd : 0 ≤ d) (h : AH) (a : Int32) (c : a.toInt < 0 ∨ 8 < a.toInt) : E false mX7_count d 0 [(0, .ref 1), (1, .int a)] [] h (some (.int (-1))) h := by
  refine E.st (s_iload_n (q := 1) dX7_count_0 rfl rfl) ?_
  refine E.st (s_tabOut (q := 136) dX7_count_1 c (by decide)) ?_
  refine E.st (s_iconst (q := 137) (v := (-1)) dX7_count_136 rfl (by decide)) ?_
  exact E.i dX7_count_137 rfl rfl rfl rfl
