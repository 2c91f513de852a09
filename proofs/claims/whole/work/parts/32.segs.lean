set_option maxRecDepth 20000 in
theorem j_X6_homeOf_a_1 {d : Nat} (hd : 0 ≤ d) (h : AH) (n : Int32) (c : Nat) (F : Nat → Value) (ho : h.1 19 = ob 6 (fo 10 F)) (e2 : F 2 = .ref c) : J false mX6_homeOf d 0 [(0, .ref 19), (1, .int n)] [] h 5 [(0, .ref 19), (1, .int n), (2, .ref c)] [] h := by
  refine J.tr (s_aload_n (q := 1) dX6_homeOf_0 rfl rfl) ?_
  refine J.tr (s_gf (q := 4) (v := .ref c) dX6_homeOf_1 rfl fX6_20.l (ho) (by decide) (e2)) ?_
  refine J.tr (s_astore_n (q := 5) (ls' := [(2, .ref c), (0, .ref 19), (1, .int n)]) dX6_homeOf_4 rfl (by decide) rfl) ?_
  refine J.tr (s_ls (ls' := [(0, .ref 19), (1, .int n), (2, .ref c)]) [1, 2, 0] rfl) ?_
  exact J.rf

set_option maxRecDepth 20000 in
theorem j_X6_homeOf_b_1 {d : Nat} (hd : 1 ≤ d) (h : AH) (n : Int32) (c : Nat) (F : Nat → Value) (ho : h.1 c = ob 5 (fo 12 F)) (v2 : Int32) (e2 : F 2 = .int v2) (c1 : n < v2) (r0 : Nat) (e0 : F 0 = .ref r0) : J false mX6_homeOf d 5 [(0, .ref 19), (1, .int n), (2, .ref c)] [] h 5 [(0, .ref 19), (1, .int n), (2, .ref r0)] [] h := by
  refine J.tr (s_aload_n (q := 6) dX6_homeOf_5 rfl rfl) ?_
  refine J.tr (s_ifnull_r (q := 9) dX6_homeOf_6 rfl) ?_
  refine J.tr (s_aload_n (q := 10) dX6_homeOf_9 rfl rfl) ?_
  refine J.tr (s_iload_n (q := 11) dX6_homeOf_10 rfl rfl) ?_
  refine J.tr (p2 := 14) (l2 := [(0, .ref 19), (1, .int n), (2, .ref c)]) (s2 := [.int 0]) (h2 := h) (s_invv (K := mX5_isInside) (o := c) (as := [.int n]) (rest := []) (v := some (.int 0)) dX6_homeOf_11 rfl lX6_126 (by omega) rfl (Nat.le_of_ble_eq_true rfl) rfl (Nat.le_of_ble_eq_true rfl) (ho) (p_X5_isInside_1 (d := 0) (Nat.le_refl _) h c n F ho v2 e2 c1) (fun h => nomatch h)) ?_
  refine J.tr (s_if_eq_t (q := 19) dX6_homeOf_14 (by decide) (by decide)) ?_
  refine J.tr (s_aload_n (q := 20) dX6_homeOf_19 rfl rfl) ?_
  refine J.tr (p2 := 23) (l2 := [(0, .ref 19), (1, .int n), (2, .ref c)]) (s2 := [.ref r0]) (h2 := h) (s_invv (K := mX5_around) (o := c) (as := []) (rest := []) (v := some (.ref r0)) dX6_homeOf_20 rfl lX6_129 (by omega) rfl (Nat.le_of_ble_eq_true rfl) rfl (Nat.le_of_ble_eq_true rfl) (ho) (p_X5_around_1 (d := 0) (Nat.le_refl _) h c F ho r0 e0) (fun h => nomatch h)) ?_
  refine J.tr (s_astore_n (q := 24) (ls' := [(2, .ref r0), (0, .ref 19), (1, .int n)]) dX6_homeOf_23 rfl (by decide) rfl) ?_
  refine J.tr (s_goto (q := 5) dX6_homeOf_24 (by decide)) ?_
  refine J.tr (s_ls (ls' := [(0, .ref 19), (1, .int n), (2, .ref r0)]) [1, 2, 0] rfl) ?_
  exact J.rf

set_option maxRecDepth 20000 in
theorem j_X6_homeOf_b_2 {d : Nat} (hd : 1 ≤ d) (h : AH) (n : Int32) (c : Nat) (F : Nat → Value) (ho : h.1 c = ob 5 (fo 12 F)) (v2 : Int32) (e2 : F 2 = .int v2) (c1 : n < v2) (e0 : F 0 = .null) : J false mX6_homeOf d 5 [(0, .ref 19), (1, .int n), (2, .ref c)] [] h 5 [(0, .ref 19), (1, .int n), (2, .null)] [] h := by
  refine J.tr (s_aload_n (q := 6) dX6_homeOf_5 rfl rfl) ?_
  refine J.tr (s_ifnull_r (q := 9) dX6_homeOf_6 rfl) ?_
  refine J.tr (s_aload_n (q := 10) dX6_homeOf_9 rfl rfl) ?_
  refine J.tr (s_iload_n (q := 11) dX6_homeOf_10 rfl rfl) ?_
  refine J.tr (p2 := 14) (l2 := [(0, .ref 19), (1, .int n), (2, .ref c)]) (s2 := [.int 0]) (h2 := h) (s_invv (K := mX5_isInside) (o := c) (as := [.int n]) (rest := []) (v := some (.int 0)) dX6_homeOf_11 rfl lX6_126 (by omega) rfl (Nat.le_of_ble_eq_true rfl) rfl (Nat.le_of_ble_eq_true rfl) (ho) (p_X5_isInside_1 (d := 0) (Nat.le_refl _) h c n F ho v2 e2 c1) (fun h => nomatch h)) ?_
  refine J.tr (s_if_eq_t (q := 19) dX6_homeOf_14 (by decide) (by decide)) ?_
  refine J.tr (s_aload_n (q := 20) dX6_homeOf_19 rfl rfl) ?_
  refine J.tr (p2 := 23) (l2 := [(0, .ref 19), (1, .int n), (2, .ref c)]) (s2 := [.null]) (h2 := h) (s_invv (K := mX5_around) (o := c) (as := []) (rest := []) (v := some (.null)) dX6_homeOf_20 rfl lX6_129 (by omega) rfl (Nat.le_of_ble_eq_true rfl) rfl (Nat.le_of_ble_eq_true rfl) (ho) (p_X5_around_2 (d := 0) (Nat.le_refl _) h c F ho e0) (fun h => nomatch h)) ?_
  refine J.tr (s_astore_nN (q := 24) (ls' := [(2, .null), (0, .ref 19), (1, .int n)]) dX6_homeOf_23 rfl (by decide) rfl) ?_
  refine J.tr (s_goto (q := 5) dX6_homeOf_24 (by decide)) ?_
  refine J.tr (s_ls (ls' := [(0, .ref 19), (1, .int n), (2, .null)]) [1, 2, 0] rfl) ?_
  exact J.rf

set_option maxRecDepth 20000 in
theorem j_X6_homeOf_b_3 {d : Nat} (hd : 1 ≤ d) (h : AH) (n : Int32) (c : Nat) (F : Nat → Value) (ho : h.1 c = ob 5 (fo 12 F)) (v2 : Int32) (e2 : F 2 = .int v2) (c1 : ¬ (n < v2)) : E false mX6_homeOf d 5 [(0, .ref 19), (1, .int n), (2, .ref c)] [] h (some (.ref c)) h := by
  refine E.st (s_aload_n (q := 6) dX6_homeOf_5 rfl rfl) ?_
  refine E.st (s_ifnull_r (q := 9) dX6_homeOf_6 rfl) ?_
  refine E.st (s_aload_n (q := 10) dX6_homeOf_9 rfl rfl) ?_
  refine E.st (s_iload_n (q := 11) dX6_homeOf_10 rfl rfl) ?_
  refine E.st (p2 := 14) (l2 := [(0, .ref 19), (1, .int n), (2, .ref c)]) (s2 := [.int 1]) (h2 := h) (s_invv (K := mX5_isInside) (o := c) (as := [.int n]) (rest := []) (v := some (.int 1)) dX6_homeOf_11 rfl lX6_126 (by omega) rfl (Nat.le_of_ble_eq_true rfl) rfl (Nat.le_of_ble_eq_true rfl) (ho) (p_X5_isInside_2 (d := 0) (Nat.le_refl _) h c n F ho v2 e2 c1) (fun h => nomatch h)) ?_
  refine E.st (s_if_eq_f (q := 17) (tg := 19) dX6_homeOf_14 (by decide) rfl (by decide)) ?_
  refine E.st (s_aload_n (q := 18) dX6_homeOf_17 rfl rfl) ?_
  exact E.a dX6_homeOf_18 rfl (Or.inl ⟨_, rfl⟩) rfl rfl

set_option maxRecDepth 20000 in
theorem j_X6_valueOf_a_2 {d : Nat} (hd : 0 ≤ d) (h : AH) (n : Int32) (b : Int32) (c : Nat) (c1 : ¬ (n < 0)) (c2 : n < b) : J false mX6_valueOf d 0 [(0, .ref 19), (1, .int n), (2, .int b)] [] h 13 [(0, .ref 19), (1, .int n), (2, .int b)] [.int n, .ref 19] h := by
  refine J.tr (s_iload_n (q := 1) dX6_valueOf_0 rfl rfl) ?_
  refine J.tr (s_if_lt_f (q := 4) (tg := 9) dX6_valueOf_1 (by decide) rfl c1) ?_
  refine J.tr (s_iload_n (q := 5) dX6_valueOf_4 rfl rfl) ?_
  refine J.tr (s_iload_n (q := 6) dX6_valueOf_5 rfl rfl) ?_
  refine J.tr (s_icmp_lt_t (q := 11) dX6_valueOf_6 (by decide) c2) ?_
  refine J.tr (s_aload_n (q := 12) dX6_valueOf_11 rfl rfl) ?_
  refine J.tr (s_iload_n (q := 13) dX6_valueOf_12 rfl rfl) ?_
  exact J.rf

set_option maxRecDepth 20000 in
theorem j_X6_valueOf_b_1 {d : Nat} (hd : 1 ≤ d) (h : AH) (n : Int32) (b : Int32) (c : Nat) (F : Nat → Value) (ho : h.1 c = ob 5 (fo 12 F)) (c1 : ¬ (n < 0)) (c2 : ¬ (60 ≤ n)) (e3 : F 3 = .ref (c + 1)) (n1 : Nat) (f : Nat → Int32) (ha : h.1 (c + 1) = ia n1 f) (c3 : vp_in n n1) (p : 0 < (c + 1)) (c4 : (f n.toNatClampNeg) = (-1)) (F1 : Nat → Value) (ho1 : h.1 19 = ob 6 (fo 10 F1)) (e2 : F1 2 = .ref c) : J false mX6_valueOf d 16 [(0, .ref 19), (1, .int n), (2, .int b)] [.ref c] h 67 [(0, .ref 19), (1, .int n), (2, .int b)] [.int n, .ref 19] h := by
  refine J.tr (s_astore_n (q := 17) (ls' := [(3, .ref c), (0, .ref 19), (1, .int n), (2, .int b)]) dX6_valueOf_16 rfl (by decide) rfl) ?_
  refine J.tr (s_aload_n (q := 18) dX6_valueOf_17 rfl rfl) ?_
  refine J.tr (s_iload_n (q := 19) dX6_valueOf_18 rfl rfl) ?_
  refine J.tr (p2 := 22) (l2 := [(3, .ref c), (0, .ref 19), (1, .int n), (2, .int b)]) (s2 := [.int 0]) (h2 := h) (s_invv (K := mX5_hasValue) (o := c) (as := [.int n]) (rest := []) (v := some (.int 0)) dX6_valueOf_19 rfl lX6_102 (by omega) rfl (Nat.le_of_ble_eq_true rfl) rfl (Nat.le_of_ble_eq_true rfl) (ho) (p_X5_hasValue_3 (d := 0) (Nat.le_refl _) h c n c1 c2 F ho (c + 1) e3 n1 f ha c3 p c4) (fun h => nomatch h)) ?_
  refine J.tr (s_if_eq_t (q := 45) dX6_valueOf_22 (by decide) (by decide)) ?_
  refine J.tr (s_aload_n (q := 46) dX6_valueOf_45 rfl rfl) ?_
  refine J.tr (s_aload_n (q := 47) dX6_valueOf_46 rfl rfl) ?_
  refine J.tr (s_gf (q := 50) (v := .ref c) dX6_valueOf_47 rfl fX6_20.l (ho1) (by decide) (e2)) ?_
  refine J.tr (s_acmpeq_t (q := 65) dX6_valueOf_50 (by decide)) ?_
  refine J.tr (s_aload_n (q := 66) dX6_valueOf_65 rfl rfl) ?_
  refine J.tr (s_iload_n (q := 67) dX6_valueOf_66 rfl rfl) ?_
  refine J.tr (s_ls (ls' := [(0, .ref 19), (1, .int n), (2, .int b)]) [1, 2, 3] rfl) ?_
  exact J.rf

set_option maxRecDepth 20000 in
theorem j_X6_valueOf_b_2 {d : Nat} (hd : 2 ≤ d) (h : AH) (n : Int32) (b : Int32) (c : Nat) (F : Nat → Value) (ho : h.1 c = ob 5 (fo 12 F)) (c1 : ¬ (n < 0)) (c2 : ¬ (60 ≤ n)) (e3 : F 3 = .ref (c + 1)) (n1 : Nat) (f : Nat → Int32) (ha : h.1 (c + 1) = ia n1 f) (c3 : vp_in n n1) (p : 0 < (c + 1)) (c4 : ¬ ((f n.toNatClampNeg) = (-1))) (e4 : F 4 = .ref (c + 2)) (n2 : Nat) (f1 : Nat → Int64) (ha1 : h.1 (c + 2) = la n2 f1) (c5 : vp_in n n2) (e5 : F 5 = .ref (c + 3)) (n3 : Nat) (f2 : Nat → Int32) (ha2 : h.1 (c + 3) = ia n3 f2) (c6 : vp_in n n3) (p1 : 0 < (c + 3)) (F1 : Nat → Value) (ho1 : h.1 19 = ob 6 (fo 10 F1)) : E false mX6_valueOf d 16 [(0, .ref 19), (1, .int n), (2, .int b)] [.ref c] h (some (.int 0)) (hs (hs (hs h 19 (ob 6 (fo 10 (va_up F1 5 (.int (f n.toNatClampNeg)))))) 19 (ob 6 (fo 10 (va_up (va_up F1 5 (.int (f n.toNatClampNeg))) 6 (.long (f1 n.toNatClampNeg)))))) 19 (ob 6 (fo 10 (va_up (va_up (va_up F1 5 (.int (f n.toNatClampNeg))) 6 (.long (f1 n.toNatClampNeg))) 7 (.int (f2 n.toNatClampNeg)))))) := by
  refine E.st (s_astore_n (q := 17) (ls' := [(3, .ref c), (0, .ref 19), (1, .int n), (2, .int b)]) dX6_valueOf_16 rfl (by decide) rfl) ?_
  refine E.st (s_aload_n (q := 18) dX6_valueOf_17 rfl rfl) ?_
  refine E.st (s_iload_n (q := 19) dX6_valueOf_18 rfl rfl) ?_
  refine E.st (p2 := 22) (l2 := [(3, .ref c), (0, .ref 19), (1, .int n), (2, .int b)]) (s2 := [.int 1]) (h2 := h) (s_invv (K := mX5_hasValue) (o := c) (as := [.int n]) (rest := []) (v := some (.int 1)) dX6_valueOf_19 rfl lX6_102 (by omega) rfl (Nat.le_of_ble_eq_true rfl) rfl (Nat.le_of_ble_eq_true rfl) (ho) (p_X5_hasValue_4 (d := 0) (Nat.le_refl _) h c n c1 c2 F ho (c + 1) e3 n1 f ha c3 p c4) (fun h => nomatch h)) ?_
  refine E.st (s_if_eq_f (q := 25) (tg := 45) dX6_valueOf_22 (by decide) rfl (by decide)) ?_
  refine E.st (s_aload_n (q := 26) dX6_valueOf_25 rfl rfl) ?_
  refine E.st (s_aload_n (q := 27) dX6_valueOf_26 rfl rfl) ?_
  refine E.st (s_iload_n (q := 28) dX6_valueOf_27 rfl rfl) ?_
  refine E.st (p2 := 31) (l2 := [(3, .ref c), (0, .ref 19), (1, .int n), (2, .int b)]) (s2 := [.int (f n.toNatClampNeg), .ref 19]) (h2 := h) (s_invv (K := mX5_kindOf) (o := c) (as := [.int n]) (rest := [.ref 19]) (v := some (.int (f n.toNatClampNeg))) dX6_valueOf_28 rfl lX6_106 (by omega) rfl (Nat.le_of_ble_eq_true rfl) rfl (Nat.le_of_ble_eq_true rfl) (ho) (p_X5_kindOf_2 (d := 1) (Nat.le_refl _) h c n F ho c1 c2 (c + 1) e3 n1 f ha c3 p c4) (fun h => nomatch h)) ?_
  refine E.st (s_aload_n (q := 32) dX6_valueOf_31 rfl rfl) ?_
  refine E.st (s_iload_n (q := 33) dX6_valueOf_32 rfl rfl) ?_
  refine E.st (p2 := 36) (l2 := [(3, .ref c), (0, .ref 19), (1, .int n), (2, .int b)]) (s2 := [.long (f1 n.toNatClampNeg), .int (f n.toNatClampNeg), .ref 19]) (h2 := h) (s_invv (K := mX5_numberOf) (o := c) (as := [.int n]) (rest := [.int (f n.toNatClampNeg), .ref 19]) (v := some (.long (f1 n.toNatClampNeg))) dX6_valueOf_33 rfl lX6_109 (by omega) rfl (Nat.le_of_ble_eq_true rfl) rfl (Nat.le_of_ble_eq_true rfl) (ho) (p_X5_numberOf_2 (d := 1) (Nat.le_refl _) h c n F ho c1 c2 (c + 1) e3 n1 f ha c3 p c4 (c + 2) e4 n2 f1 ha1 c5) (fun h => nomatch h)) ?_
  refine E.st (s_aload_n (q := 37) dX6_valueOf_36 rfl rfl) ?_
  refine E.st (s_iload_n (q := 38) dX6_valueOf_37 rfl rfl) ?_
  refine E.st (p2 := 41) (l2 := [(3, .ref c), (0, .ref 19), (1, .int n), (2, .int b)]) (s2 := [.int (f2 n.toNatClampNeg), .long (f1 n.toNatClampNeg), .int (f n.toNatClampNeg), .ref 19]) (h2 := h) (s_invv (K := mX5_lengthOf) (o := c) (as := [.int n]) (rest := [.long (f1 n.toNatClampNeg), .int (f n.toNatClampNeg), .ref 19]) (v := some (.int (f2 n.toNatClampNeg))) dX6_valueOf_38 rfl lX6_113 (by omega) rfl (Nat.le_of_ble_eq_true rfl) rfl (Nat.le_of_ble_eq_true rfl) (ho) (p_X5_lengthOf_2 (d := 1) (Nat.le_refl _) h c n F ho c1 c2 (c + 1) e3 n1 f ha c3 p c4 (c + 3) e5 n3 f2 ha2 c6 p1) (fun h => nomatch h)) ?_
  refine E.st (p2 := 44) (l2 := [(3, .ref c), (0, .ref 19), (1, .int n), (2, .int b)]) (s2 := [.int 0]) (h2 := (hs (hs (hs h 19 (ob 6 (fo 10 (va_up F1 5 (.int (f n.toNatClampNeg)))))) 19 (ob 6 (fo 10 (va_up (va_up F1 5 (.int (f n.toNatClampNeg))) 6 (.long (f1 n.toNatClampNeg)))))) 19 (ob 6 (fo 10 (va_up (va_up (va_up F1 5 (.int (f n.toNatClampNeg))) 6 (.long (f1 n.toNatClampNeg))) 7 (.int (f2 n.toNatClampNeg))))))) (s_invv (K := mX6_take) (o := 19) (as := [.int (f n.toNatClampNeg), .long (f1 n.toNatClampNeg), .int (f2 n.toNatClampNeg)]) (rest := []) (v := some (.int 0)) dX6_valueOf_41 rfl lX6_116 (by omega) rfl (Nat.le_of_ble_eq_true rfl) rfl (Nat.le_of_ble_eq_true rfl) (ho1) (p_X6_take_1 (d := 0) (Nat.le_refl _) h 19 (f n.toNatClampNeg) (f1 n.toNatClampNeg) (f2 n.toNatClampNeg) F1 ho1) (fun h => nomatch h)) ?_
  exact E.i dX6_valueOf_44 rfl rfl rfl rfl

set_option maxRecDepth 20000 in
theorem j_X6_valueOf_c_1 {d : Nat} (hd : 1 ≤ d) (h : AH) (n : Int32) (b : Int32) (c : Nat) (e : Nat) (F : Nat → Value) (ho : h.1 c = ob 5 (fo 12 F)) (c1 : ¬ (n < 0)) (c2 : ¬ (60 ≤ n)) (e3 : F 3 = .ref (c + 1)) (n1 : Nat) (f : Nat → Int32) (ha : h.1 (c + 1) = ia n1 f) (c3 : vp_in n n1) (p : 0 < (c + 1)) (c4 : (f n.toNatClampNeg) = (-1)) (F1 : Nat → Value) (ho1 : h.1 19 = ob 6 (fo 10 F1)) (e2 : F1 2 = .ref e) (p1 : 0 < c) (p2 : 0 < e) (ne : c ≠ e) : E false mX6_valueOf d 16 [(0, .ref 19), (1, .int n), (2, .int b)] [.ref c] h (some (.int 4)) (hs (hs h 19 (ob 6 (fo 10 (va_up F1 8 (.int n))))) 19 (ob 6 (fo 10 (va_up (va_up F1 8 (.int n)) 9 (.ref c))))) := by
  refine E.st (s_astore_n (q := 17) (ls' := [(3, .ref c), (0, .ref 19), (1, .int n), (2, .int b)]) dX6_valueOf_16 rfl (by decide) rfl) ?_
  refine E.st (s_aload_n (q := 18) dX6_valueOf_17 rfl rfl) ?_
  refine E.st (s_iload_n (q := 19) dX6_valueOf_18 rfl rfl) ?_
  refine E.st (p2 := 22) (l2 := [(3, .ref c), (0, .ref 19), (1, .int n), (2, .int b)]) (s2 := [.int 0]) (h2 := h) (s_invv (K := mX5_hasValue) (o := c) (as := [.int n]) (rest := []) (v := some (.int 0)) dX6_valueOf_19 rfl lX6_102 (by omega) rfl (Nat.le_of_ble_eq_true rfl) rfl (Nat.le_of_ble_eq_true rfl) (ho) (p_X5_hasValue_3 (d := 0) (Nat.le_refl _) h c n c1 c2 F ho (c + 1) e3 n1 f ha c3 p c4) (fun h => nomatch h)) ?_
  refine E.st (s_if_eq_t (q := 45) dX6_valueOf_22 (by decide) (by decide)) ?_
  refine E.st (s_aload_n (q := 46) dX6_valueOf_45 rfl rfl) ?_
  refine E.st (s_aload_n (q := 47) dX6_valueOf_46 rfl rfl) ?_
  refine E.st (s_gf (q := 50) (v := .ref e) dX6_valueOf_47 rfl fX6_20.l (ho1) (by decide) (e2)) ?_
  refine E.st (s_acmpeq_f (q := 53) (tg := 65) dX6_valueOf_50 (by decide) rfl p1 p2 ne) ?_
  refine E.st (s_aload_n (q := 54) dX6_valueOf_53 rfl rfl) ?_
  refine E.st (s_iload_n (q := 55) dX6_valueOf_54 rfl rfl) ?_
  refine E.st (s_pf (q := 58) dX6_valueOf_55 rfl fX6_120 (ho1) (by decide) (fun _ => ⟨rfl, rfl⟩)) ?_
  refine E.st (s_aload_n (q := 59) dX6_valueOf_58 rfl rfl) ?_
  refine E.st (s_aload_n (q := 60) dX6_valueOf_59 rfl rfl) ?_
  refine E.st (s_pf (q := 63) dX6_valueOf_60 rfl fX6_33 (hs_eq) (by decide) (fun _ => ⟨rfl, rfl⟩)) ?_
  refine E.st (s_iconst (q := 64) (v := 4) dX6_valueOf_63 rfl (by decide)) ?_
  exact E.i dX6_valueOf_64 rfl rfl rfl rfl

set_option maxRecDepth 20000 in
theorem j_X6_valueOf_c_2 {d : Nat} (hd : 2 ≤ d) (h : AH) (n : Int32) (b : Int32) (c : Nat) (e : Nat) (F : Nat → Value) (ho : h.1 c = ob 5 (fo 12 F)) (c1 : ¬ (n < 0)) (c2 : ¬ (60 ≤ n)) (e3 : F 3 = .ref (c + 1)) (n1 : Nat) (f : Nat → Int32) (ha : h.1 (c + 1) = ia n1 f) (c3 : vp_in n n1) (p : 0 < (c + 1)) (c4 : ¬ ((f n.toNatClampNeg) = (-1))) (e4 : F 4 = .ref (c + 2)) (n2 : Nat) (f1 : Nat → Int64) (ha1 : h.1 (c + 2) = la n2 f1) (c5 : vp_in n n2) (e5 : F 5 = .ref (c + 3)) (n3 : Nat) (f2 : Nat → Int32) (ha2 : h.1 (c + 3) = ia n3 f2) (c6 : vp_in n n3) (p1 : 0 < (c + 3)) (F1 : Nat → Value) (ho1 : h.1 19 = ob 6 (fo 10 F1)) : E false mX6_valueOf d 16 [(0, .ref 19), (1, .int n), (2, .int b)] [.ref c] h (some (.int 0)) (hs (hs (hs h 19 (ob 6 (fo 10 (va_up F1 5 (.int (f n.toNatClampNeg)))))) 19 (ob 6 (fo 10 (va_up (va_up F1 5 (.int (f n.toNatClampNeg))) 6 (.long (f1 n.toNatClampNeg)))))) 19 (ob 6 (fo 10 (va_up (va_up (va_up F1 5 (.int (f n.toNatClampNeg))) 6 (.long (f1 n.toNatClampNeg))) 7 (.int (f2 n.toNatClampNeg)))))) := by
  refine E.st (s_astore_n (q := 17) (ls' := [(3, .ref c), (0, .ref 19), (1, .int n), (2, .int b)]) dX6_valueOf_16 rfl (by decide) rfl) ?_
  refine E.st (s_aload_n (q := 18) dX6_valueOf_17 rfl rfl) ?_
  refine E.st (s_iload_n (q := 19) dX6_valueOf_18 rfl rfl) ?_
  refine E.st (p2 := 22) (l2 := [(3, .ref c), (0, .ref 19), (1, .int n), (2, .int b)]) (s2 := [.int 1]) (h2 := h) (s_invv (K := mX5_hasValue) (o := c) (as := [.int n]) (rest := []) (v := some (.int 1)) dX6_valueOf_19 rfl lX6_102 (by omega) rfl (Nat.le_of_ble_eq_true rfl) rfl (Nat.le_of_ble_eq_true rfl) (ho) (p_X5_hasValue_4 (d := 0) (Nat.le_refl _) h c n c1 c2 F ho (c + 1) e3 n1 f ha c3 p c4) (fun h => nomatch h)) ?_
  refine E.st (s_if_eq_f (q := 25) (tg := 45) dX6_valueOf_22 (by decide) rfl (by decide)) ?_
  refine E.st (s_aload_n (q := 26) dX6_valueOf_25 rfl rfl) ?_
  refine E.st (s_aload_n (q := 27) dX6_valueOf_26 rfl rfl) ?_
  refine E.st (s_iload_n (q := 28) dX6_valueOf_27 rfl rfl) ?_
  refine E.st (p2 := 31) (l2 := [(3, .ref c), (0, .ref 19), (1, .int n), (2, .int b)]) (s2 := [.int (f n.toNatClampNeg), .ref 19]) (h2 := h) (s_invv (K := mX5_kindOf) (o := c) (as := [.int n]) (rest := [.ref 19]) (v := some (.int (f n.toNatClampNeg))) dX6_valueOf_28 rfl lX6_106 (by omega) rfl (Nat.le_of_ble_eq_true rfl) rfl (Nat.le_of_ble_eq_true rfl) (ho) (p_X5_kindOf_2 (d := 1) (Nat.le_refl _) h c n F ho c1 c2 (c + 1) e3 n1 f ha c3 p c4) (fun h => nomatch h)) ?_
  refine E.st (s_aload_n (q := 32) dX6_valueOf_31 rfl rfl) ?_
  refine E.st (s_iload_n (q := 33) dX6_valueOf_32 rfl rfl) ?_
  refine E.st (p2 := 36) (l2 := [(3, .ref c), (0, .ref 19), (1, .int n), (2, .int b)]) (s2 := [.long (f1 n.toNatClampNeg), .int (f n.toNatClampNeg), .ref 19]) (h2 := h) (s_invv (K := mX5_numberOf) (o := c) (as := [.int n]) (rest := [.int (f n.toNatClampNeg), .ref 19]) (v := some (.long (f1 n.toNatClampNeg))) dX6_valueOf_33 rfl lX6_109 (by omega) rfl (Nat.le_of_ble_eq_true rfl) rfl (Nat.le_of_ble_eq_true rfl) (ho) (p_X5_numberOf_2 (d := 1) (Nat.le_refl _) h c n F ho c1 c2 (c + 1) e3 n1 f ha c3 p c4 (c + 2) e4 n2 f1 ha1 c5) (fun h => nomatch h)) ?_
  refine E.st (s_aload_n (q := 37) dX6_valueOf_36 rfl rfl) ?_
  refine E.st (s_iload_n (q := 38) dX6_valueOf_37 rfl rfl) ?_
  refine E.st (p2 := 41) (l2 := [(3, .ref c), (0, .ref 19), (1, .int n), (2, .int b)]) (s2 := [.int (f2 n.toNatClampNeg), .long (f1 n.toNatClampNeg), .int (f n.toNatClampNeg), .ref 19]) (h2 := h) (s_invv (K := mX5_lengthOf) (o := c) (as := [.int n]) (rest := [.long (f1 n.toNatClampNeg), .int (f n.toNatClampNeg), .ref 19]) (v := some (.int (f2 n.toNatClampNeg))) dX6_valueOf_38 rfl lX6_113 (by omega) rfl (Nat.le_of_ble_eq_true rfl) rfl (Nat.le_of_ble_eq_true rfl) (ho) (p_X5_lengthOf_2 (d := 1) (Nat.le_refl _) h c n F ho c1 c2 (c + 1) e3 n1 f ha c3 p c4 (c + 3) e5 n3 f2 ha2 c6 p1) (fun h => nomatch h)) ?_
  refine E.st (p2 := 44) (l2 := [(3, .ref c), (0, .ref 19), (1, .int n), (2, .int b)]) (s2 := [.int 0]) (h2 := (hs (hs (hs h 19 (ob 6 (fo 10 (va_up F1 5 (.int (f n.toNatClampNeg)))))) 19 (ob 6 (fo 10 (va_up (va_up F1 5 (.int (f n.toNatClampNeg))) 6 (.long (f1 n.toNatClampNeg)))))) 19 (ob 6 (fo 10 (va_up (va_up (va_up F1 5 (.int (f n.toNatClampNeg))) 6 (.long (f1 n.toNatClampNeg))) 7 (.int (f2 n.toNatClampNeg))))))) (s_invv (K := mX6_take) (o := 19) (as := [.int (f n.toNatClampNeg), .long (f1 n.toNatClampNeg), .int (f2 n.toNatClampNeg)]) (rest := []) (v := some (.int 0)) dX6_valueOf_41 rfl lX6_116 (by omega) rfl (Nat.le_of_ble_eq_true rfl) rfl (Nat.le_of_ble_eq_true rfl) (ho1) (p_X6_take_1 (d := 0) (Nat.le_refl _) h 19 (f n.toNatClampNeg) (f1 n.toNatClampNeg) (f2 n.toNatClampNeg) F1 ho1) (fun h => nomatch h)) ?_
  exact E.i dX6_valueOf_44 rfl rfl rfl rfl

set_option maxRecDepth 20000 in
theorem j_X6_valueOf_d_1 {d : Nat} (hd : 0 ≤ d) (h : AH) (n : Int32) (b : Int32) (r : Int32) : E false mX6_valueOf d 70 [(0, .ref 19), (1, .int n), (2, .int b)] [.int r] h (some (.int r)) h := by
  exact E.i dX6_valueOf_70 rfl rfl rfl rfl

set_option maxRecDepth 20000 in
theorem j_X6_workOut_a_1 {d : Nat} (hd : 2 ≤ d) (h : AH) (n : Int32) (c : Nat) (F : Nat → Value) (ho : h.1 19 = ob 6 (fo 10 F)) (v3 : Int32) (e3 : F 3 = .int v3) (c1 : v3 < 2000) (e0 : F 0 = .ref 2) (F1 : Nat → Value) (ho1 : h.1 2 = ob 2 (fo 6 F1)) (v5 : Int32) (e5 : F1 5 = .int v5) (c2 : ¬ (n < 0) ∧ ¬ (v5 ≤ n)) (e01 : F1 0 = .ref 3) (n1 : Nat) (f : Nat → Int32) (ha : h.1 3 = ia n1 f) (c3 : vp_in n n1) (c4 : (f n.toNatClampNeg) = 0) (e4 : F1 4 = .ref 7) (n2 : Nat) (f1 : Nat → Int64) (ha1 : h.1 7 = la n2 f1) (c5 : vp_in n n2) (e2 : F 2 = .ref c) (F2 : Nat → Value) (ho2 : h.1 c = ob 5 (fo 12 F2)) (c6 : ¬ (n < 0)) (c7 : 60 ≤ n) : E false mX6_workOut d 0 [(0, .ref 19), (1, .int n)] [] h (some (.int 0)) (hs (hs (hs (hs h 19 (ob 6 (fo 10 (va_up F 3 (.int (v3 + 1)))))) 19 (ob 6 (fo 10 (va_up (va_up F 3 (.int (v3 + 1))) 5 (.int (0 : Int32)))))) 19 (ob 6 (fo 10 (va_up (va_up (va_up F 3 (.int (v3 + 1))) 5 (.int (0 : Int32))) 6 (.long (f1 n.toNatClampNeg)))))) 19 (ob 6 (fo 10 (va_up (va_up (va_up (va_up F 3 (.int (v3 + 1))) 5 (.int (0 : Int32))) 6 (.long (f1 n.toNatClampNeg))) 7 (.int (1 : Int32)))))) := by
  refine E.st (s_aload_n (q := 1) dX6_workOut_0 rfl rfl) ?_
  refine E.st (s_gf (q := 4) (v := .int v3) dX6_workOut_1 rfl fX6_43.l (ho) (by decide) (e3)) ?_
  refine E.st (s_sipush (q := 7) (v := 2000) dX6_workOut_4 rfl (by decide)) ?_
  refine E.st (s_icmp_lt_t (q := 12) dX6_workOut_7 (by decide) c1) ?_
  refine E.st (s_aload_n (q := 13) dX6_workOut_12 rfl rfl) ?_
  refine E.st (s_dup (q := 14) dX6_workOut_13 rfl rfl) ?_
  refine E.st (s_gf (q := 17) (v := .int v3) dX6_workOut_14 rfl fX6_43.l (ho) (by decide) (e3)) ?_
  refine E.st (s_iconst (q := 18) (v := 1) dX6_workOut_17 rfl (by decide)) ?_
  refine E.st (s_iadd (q := 19) dX6_workOut_18 rfl) ?_
  refine E.st (s_pf (q := 22) dX6_workOut_19 rfl fX6_43 (ho) (by decide) (fun _ => ⟨rfl, rfl⟩)) ?_
  refine E.st (s_iconst (q := 23) (v := 1) dX6_workOut_22 rfl (by decide)) ?_
  refine E.st (s_istore_n (q := 24) (ls' := [(2, .int 1), (0, .ref 19), (1, .int n)]) dX6_workOut_23 rfl (by decide) rfl) ?_
  refine E.st (s_aload_n (q := 25) dX6_workOut_24 rfl rfl) ?_
  refine E.st (s_gf (q := 28) (v := .ref 2) dX6_workOut_25 rfl fX6_36.l (hs_eq) (by decide) ((up_ne (by decide)).trans (e0))) ?_
  refine E.st (s_iload_n (q := 29) dX6_workOut_28 rfl rfl) ?_
  refine E.st (p2 := 32) (l2 := [(2, .int 1), (0, .ref 19), (1, .int n)]) (s2 := [.int (f n.toNatClampNeg)]) (h2 := (hs h 19 (ob 6 (fo 10 (va_up F 3 (.int (v3 + 1))))))) (s_invv (K := mX2_sortOf) (o := 2) (as := [.int n]) (rest := []) (v := some (.int (f n.toNatClampNeg))) dX6_workOut_29 rfl lX6_133 (by omega) rfl (Nat.le_of_ble_eq_true rfl) rfl (Nat.le_of_ble_eq_true rfl) ((hs_ne (by decide)).trans (ho1)) (p_X2_sortOf_n (d := 1) (Nat.le_refl _) (hs h 19 (ob 6 (fo 10 (va_up F 3 (.int (v3 + 1)))))) 2 n F1 ((hs_ne (by decide)).trans (ho1)) v5 e5 c2 3 e01 n1 f ((hs_ne (by decide)).trans (ha)) c3 (by decide)) (fun h => nomatch h)) ?_
  refine E.st (s_tabIn (q := 88) (off := 56) dX6_workOut_32 (by rw [c4]; decide) (by rw [c4]; decide) (by rw [c4]; rfl) (by decide)) ?_
  refine E.st (s_aload_n (q := 89) dX6_workOut_88 rfl rfl) ?_
  refine E.st (s_aload_n (q := 90) dX6_workOut_89 rfl rfl) ?_
  refine E.st (s_gf (q := 93) (v := .ref 2) dX6_workOut_90 rfl fX6_36.l (hs_eq) (by decide) ((up_ne (by decide)).trans (e0))) ?_
  refine E.st (s_iload_n (q := 94) dX6_workOut_93 rfl rfl) ?_
  refine E.st (p2 := 97) (l2 := [(2, .int 1), (0, .ref 19), (1, .int n)]) (s2 := [.long (f1 n.toNatClampNeg), .ref 19]) (h2 := (hs h 19 (ob 6 (fo 10 (va_up F 3 (.int (v3 + 1))))))) (s_invv (K := mX2_numberOf) (o := 2) (as := [.int n]) (rest := [.ref 19]) (v := some (.long (f1 n.toNatClampNeg))) dX6_workOut_94 rfl lX6_136 (by omega) rfl (Nat.le_of_ble_eq_true rfl) rfl (Nat.le_of_ble_eq_true rfl) ((hs_ne (by decide)).trans (ho1)) (p_X2_numberOf_n (d := 1) (Nat.le_refl _) (hs h 19 (ob 6 (fo 10 (va_up F 3 (.int (v3 + 1)))))) 2 n F1 ((hs_ne (by decide)).trans (ho1)) v5 e5 c2 7 e4 n2 f1 ((hs_ne (by decide)).trans (ha1)) c5) (fun h => nomatch h)) ?_
  refine E.st (p2 := 100) (l2 := [(2, .int 1), (0, .ref 19), (1, .int n)]) (s2 := [.int 0]) (h2 := (hs (hs (hs (hs h 19 (ob 6 (fo 10 (va_up F 3 (.int (v3 + 1)))))) 19 (ob 6 (fo 10 (va_up (va_up F 3 (.int (v3 + 1))) 5 (.int (0 : Int32)))))) 19 (ob 6 (fo 10 (va_up (va_up (va_up F 3 (.int (v3 + 1))) 5 (.int (0 : Int32))) 6 (.long (f1 n.toNatClampNeg)))))) 19 (ob 6 (fo 10 (va_up (va_up (va_up (va_up F 3 (.int (v3 + 1))) 5 (.int (0 : Int32))) 6 (.long (f1 n.toNatClampNeg))) 7 (.int (1 : Int32))))))) (s_invv (K := mX6_takeNumber) (o := 19) (as := [.long (f1 n.toNatClampNeg)]) (rest := []) (v := some (.int 0)) dX6_workOut_97 rfl lX6_137 (by omega) rfl (Nat.le_of_ble_eq_true rfl) rfl (Nat.le_of_ble_eq_true rfl) (hs_eq) (p_X6_takeNumber_1 (d := 1) (Nat.le_refl _) (hs h 19 (ob 6 (fo 10 (va_up F 3 (.int (v3 + 1)))))) 19 (f1 n.toNatClampNeg) (va_up F 3 (.int (v3 + 1))) hs_eq) (fun h => nomatch h)) ?_
  refine E.st (s_istore_n (q := 101) (ls' := [(2, .int 0), (0, .ref 19), (1, .int n)]) dX6_workOut_100 rfl (by decide) rfl) ?_
  refine E.st (s_goto (q := 181) dX6_workOut_101 (by decide)) ?_
  refine E.st (s_iload_n (q := 182) dX6_workOut_181 rfl rfl) ?_
  refine E.st (s_if_ne_f (q := 185) (tg := 205) dX6_workOut_182 (by decide) rfl (by decide)) ?_
  refine E.st (s_aload_n (q := 186) dX6_workOut_185 rfl rfl) ?_
  refine E.st (s_gf (q := 189) (v := .ref c) dX6_workOut_186 rfl fX6_20.l (hs_eq) (by decide) ((up_ne (by decide)).trans ((up_ne (by decide)).trans ((up_ne (by decide)).trans (e2))))) ?_
  refine E.st (s_iload_n (q := 190) dX6_workOut_189 rfl rfl) ?_
  refine E.st (s_aload_n (q := 191) dX6_workOut_190 rfl rfl) ?_
  refine E.st (s_gf (q := 194) (v := .int (0 : Int32)) dX6_workOut_191 rfl fX6_69.l (hs_eq) (by decide) ((up_ne (by decide)).trans ((up_ne (by decide)).trans (up_eq)))) ?_
  refine E.st (s_aload_n (q := 195) dX6_workOut_194 rfl rfl) ?_
  refine E.st (s_gf (q := 198) (v := .long (f1 n.toNatClampNeg)) dX6_workOut_195 rfl fX6_72.l (hs_eq) (by decide) ((up_ne (by decide)).trans (up_eq))) ?_
  refine E.st (s_aload_n (q := 199) dX6_workOut_198 rfl rfl) ?_
  refine E.st (s_gf (q := 202) (v := .int (1 : Int32)) dX6_workOut_199 rfl fX6_80.l (hs_eq) (by decide) (up_eq)) ?_
  refine E.st (p2 := 205) (l2 := [(2, .int 0), (0, .ref 19), (1, .int n)]) (s2 := []) (h2 := (hs (hs (hs (hs h 19 (ob 6 (fo 10 (va_up F 3 (.int (v3 + 1)))))) 19 (ob 6 (fo 10 (va_up (va_up F 3 (.int (v3 + 1))) 5 (.int (0 : Int32)))))) 19 (ob 6 (fo 10 (va_up (va_up (va_up F 3 (.int (v3 + 1))) 5 (.int (0 : Int32))) 6 (.long (f1 n.toNatClampNeg)))))) 19 (ob 6 (fo 10 (va_up (va_up (va_up (va_up F 3 (.int (v3 + 1))) 5 (.int (0 : Int32))) 6 (.long (f1 n.toNatClampNeg))) 7 (.int (1 : Int32))))))) (s_invv (K := mX5_keep) (o := c) (as := [.int n, .int (0 : Int32), .long (f1 n.toNatClampNeg), .int (1 : Int32)]) (rest := []) (v := none) dX6_workOut_202 rfl lX6_160 (by omega) rfl (Nat.le_of_ble_eq_true rfl) rfl (Nat.le_of_ble_eq_true rfl) ((hs_ne (ne_oo ho2 ho (by decide))).trans ((hs_ne (ne_oo ho2 ho (by decide))).trans ((hs_ne (ne_oo ho2 ho (by decide))).trans ((hs_ne (ne_oo ho2 ho (by decide))).trans (ho2))))) (p_X5_keep_2 (d := 0) (Nat.le_refl _) (hs (hs (hs (hs h 19 (ob 6 (fo 10 (va_up F 3 (.int (v3 + 1)))))) 19 (ob 6 (fo 10 (va_up (va_up F 3 (.int (v3 + 1))) 5 (.int (0 : Int32)))))) 19 (ob 6 (fo 10 (va_up (va_up (va_up F 3 (.int (v3 + 1))) 5 (.int (0 : Int32))) 6 (.long (f1 n.toNatClampNeg)))))) 19 (ob 6 (fo 10 (va_up (va_up (va_up (va_up F 3 (.int (v3 + 1))) 5 (.int (0 : Int32))) 6 (.long (f1 n.toNatClampNeg))) 7 (.int (1 : Int32)))))) c n (0 : Int32) (f1 n.toNatClampNeg) (1 : Int32) c6 c7) (fun h => nomatch h)) ?_
  refine E.st (s_iload_n (q := 206) dX6_workOut_205 rfl rfl) ?_
  exact E.i dX6_workOut_206 rfl rfl rfl rfl

set_option maxRecDepth 20000 in
theorem j_X6_workOut_a_2 {d : Nat} (hd : 2 ≤ d) (h : AH) (n : Int32) (c : Nat) (F : Nat → Value) (ho : h.1 19 = ob 6 (fo 10 F)) (v3 : Int32) (e3 : F 3 = .int v3) (c1 : v3 < 2000) (e0 : F 0 = .ref 2) (F1 : Nat → Value) (ho1 : h.1 2 = ob 2 (fo 6 F1)) (v5 : Int32) (e5 : F1 5 = .int v5) (c2 : ¬ (n < 0) ∧ ¬ (v5 ≤ n)) (e01 : F1 0 = .ref 3) (n1 : Nat) (f : Nat → Int32) (ha : h.1 3 = ia n1 f) (c3 : vp_in n n1) (c4 : (f n.toNatClampNeg) = 0) (e4 : F1 4 = .ref 7) (n2 : Nat) (f1 : Nat → Int64) (ha1 : h.1 7 = la n2 f1) (c5 : vp_in n n2) (e2 : F 2 = .ref c) (F2 : Nat → Value) (ho2 : h.1 c = ob 5 (fo 12 F2)) (c6 : ¬ (n < 0)) (c7 : ¬ (60 ≤ n)) (e31 : F2 3 = .ref (c + 1)) (n3 : Nat) (f2 : Nat → Int32) (ha2 : h.1 (c + 1) = ia n3 f2) (c8 : vp_in n n3) (p : 0 < (c + 1)) (e41 : F2 4 = .ref (c + 2)) (n4 : Nat) (f3 : Nat → Int64) (ha3 : h.1 (c + 2) = la n4 f3) (c9 : vp_in n n4) (e51 : F2 5 = .ref (c + 3)) (n5 : Nat) (f4 : Nat → Int32) (ha4 : h.1 (c + 3) = ia n5 f4) (ne : (c + 3) ≠ (c + 1)) (c10 : vp_in n n5) (p1 : 0 < (c + 3)) : E false mX6_workOut d 0 [(0, .ref 19), (1, .int n)] [] h (some (.int 0)) (hs (hs (hs (hs (hs (hs (hs h 19 (ob 6 (fo 10 (va_up F 3 (.int (v3 + 1)))))) 19 (ob 6 (fo 10 (va_up (va_up F 3 (.int (v3 + 1))) 5 (.int (0 : Int32)))))) 19 (ob 6 (fo 10 (va_up (va_up (va_up F 3 (.int (v3 + 1))) 5 (.int (0 : Int32))) 6 (.long (f1 n.toNatClampNeg)))))) 19 (ob 6 (fo 10 (va_up (va_up (va_up (va_up F 3 (.int (v3 + 1))) 5 (.int (0 : Int32))) 6 (.long (f1 n.toNatClampNeg))) 7 (.int (1 : Int32)))))) (c + 1) (ia n3 (upd f2 n.toNatClampNeg (0 : Int32)))) (c + 2) (la n4 (vp_updL f3 n.toNatClampNeg (f1 n.toNatClampNeg)))) (c + 3) (ia n5 (upd f4 n.toNatClampNeg (1 : Int32)))) := by
  refine E.st (s_aload_n (q := 1) dX6_workOut_0 rfl rfl) ?_
  refine E.st (s_gf (q := 4) (v := .int v3) dX6_workOut_1 rfl fX6_43.l (ho) (by decide) (e3)) ?_
  refine E.st (s_sipush (q := 7) (v := 2000) dX6_workOut_4 rfl (by decide)) ?_
  refine E.st (s_icmp_lt_t (q := 12) dX6_workOut_7 (by decide) c1) ?_
  refine E.st (s_aload_n (q := 13) dX6_workOut_12 rfl rfl) ?_
  refine E.st (s_dup (q := 14) dX6_workOut_13 rfl rfl) ?_
  refine E.st (s_gf (q := 17) (v := .int v3) dX6_workOut_14 rfl fX6_43.l (ho) (by decide) (e3)) ?_
  refine E.st (s_iconst (q := 18) (v := 1) dX6_workOut_17 rfl (by decide)) ?_
  refine E.st (s_iadd (q := 19) dX6_workOut_18 rfl) ?_
  refine E.st (s_pf (q := 22) dX6_workOut_19 rfl fX6_43 (ho) (by decide) (fun _ => ⟨rfl, rfl⟩)) ?_
  refine E.st (s_iconst (q := 23) (v := 1) dX6_workOut_22 rfl (by decide)) ?_
  refine E.st (s_istore_n (q := 24) (ls' := [(2, .int 1), (0, .ref 19), (1, .int n)]) dX6_workOut_23 rfl (by decide) rfl) ?_
  refine E.st (s_aload_n (q := 25) dX6_workOut_24 rfl rfl) ?_
  refine E.st (s_gf (q := 28) (v := .ref 2) dX6_workOut_25 rfl fX6_36.l (hs_eq) (by decide) ((up_ne (by decide)).trans (e0))) ?_
  refine E.st (s_iload_n (q := 29) dX6_workOut_28 rfl rfl) ?_
  refine E.st (p2 := 32) (l2 := [(2, .int 1), (0, .ref 19), (1, .int n)]) (s2 := [.int (f n.toNatClampNeg)]) (h2 := (hs h 19 (ob 6 (fo 10 (va_up F 3 (.int (v3 + 1))))))) (s_invv (K := mX2_sortOf) (o := 2) (as := [.int n]) (rest := []) (v := some (.int (f n.toNatClampNeg))) dX6_workOut_29 rfl lX6_133 (by omega) rfl (Nat.le_of_ble_eq_true rfl) rfl (Nat.le_of_ble_eq_true rfl) ((hs_ne (by decide)).trans (ho1)) (p_X2_sortOf_n (d := 1) (Nat.le_refl _) (hs h 19 (ob 6 (fo 10 (va_up F 3 (.int (v3 + 1)))))) 2 n F1 ((hs_ne (by decide)).trans (ho1)) v5 e5 c2 3 e01 n1 f ((hs_ne (by decide)).trans (ha)) c3 (by decide)) (fun h => nomatch h)) ?_
  refine E.st (s_tabIn (q := 88) (off := 56) dX6_workOut_32 (by rw [c4]; decide) (by rw [c4]; decide) (by rw [c4]; rfl) (by decide)) ?_
  refine E.st (s_aload_n (q := 89) dX6_workOut_88 rfl rfl) ?_
  refine E.st (s_aload_n (q := 90) dX6_workOut_89 rfl rfl) ?_
  refine E.st (s_gf (q := 93) (v := .ref 2) dX6_workOut_90 rfl fX6_36.l (hs_eq) (by decide) ((up_ne (by decide)).trans (e0))) ?_
  refine E.st (s_iload_n (q := 94) dX6_workOut_93 rfl rfl) ?_
  refine E.st (p2 := 97) (l2 := [(2, .int 1), (0, .ref 19), (1, .int n)]) (s2 := [.long (f1 n.toNatClampNeg), .ref 19]) (h2 := (hs h 19 (ob 6 (fo 10 (va_up F 3 (.int (v3 + 1))))))) (s_invv (K := mX2_numberOf) (o := 2) (as := [.int n]) (rest := [.ref 19]) (v := some (.long (f1 n.toNatClampNeg))) dX6_workOut_94 rfl lX6_136 (by omega) rfl (Nat.le_of_ble_eq_true rfl) rfl (Nat.le_of_ble_eq_true rfl) ((hs_ne (by decide)).trans (ho1)) (p_X2_numberOf_n (d := 1) (Nat.le_refl _) (hs h 19 (ob 6 (fo 10 (va_up F 3 (.int (v3 + 1)))))) 2 n F1 ((hs_ne (by decide)).trans (ho1)) v5 e5 c2 7 e4 n2 f1 ((hs_ne (by decide)).trans (ha1)) c5) (fun h => nomatch h)) ?_
  refine E.st (p2 := 100) (l2 := [(2, .int 1), (0, .ref 19), (1, .int n)]) (s2 := [.int 0]) (h2 := (hs (hs (hs (hs h 19 (ob 6 (fo 10 (va_up F 3 (.int (v3 + 1)))))) 19 (ob 6 (fo 10 (va_up (va_up F 3 (.int (v3 + 1))) 5 (.int (0 : Int32)))))) 19 (ob 6 (fo 10 (va_up (va_up (va_up F 3 (.int (v3 + 1))) 5 (.int (0 : Int32))) 6 (.long (f1 n.toNatClampNeg)))))) 19 (ob 6 (fo 10 (va_up (va_up (va_up (va_up F 3 (.int (v3 + 1))) 5 (.int (0 : Int32))) 6 (.long (f1 n.toNatClampNeg))) 7 (.int (1 : Int32))))))) (s_invv (K := mX6_takeNumber) (o := 19) (as := [.long (f1 n.toNatClampNeg)]) (rest := []) (v := some (.int 0)) dX6_workOut_97 rfl lX6_137 (by omega) rfl (Nat.le_of_ble_eq_true rfl) rfl (Nat.le_of_ble_eq_true rfl) (hs_eq) (p_X6_takeNumber_1 (d := 1) (Nat.le_refl _) (hs h 19 (ob 6 (fo 10 (va_up F 3 (.int (v3 + 1)))))) 19 (f1 n.toNatClampNeg) (va_up F 3 (.int (v3 + 1))) hs_eq) (fun h => nomatch h)) ?_
  refine E.st (s_istore_n (q := 101) (ls' := [(2, .int 0), (0, .ref 19), (1, .int n)]) dX6_workOut_100 rfl (by decide) rfl) ?_
  refine E.st (s_goto (q := 181) dX6_workOut_101 (by decide)) ?_
  refine E.st (s_iload_n (q := 182) dX6_workOut_181 rfl rfl) ?_
  refine E.st (s_if_ne_f (q := 185) (tg := 205) dX6_workOut_182 (by decide) rfl (by decide)) ?_
  refine E.st (s_aload_n (q := 186) dX6_workOut_185 rfl rfl) ?_
  refine E.st (s_gf (q := 189) (v := .ref c) dX6_workOut_186 rfl fX6_20.l (hs_eq) (by decide) ((up_ne (by decide)).trans ((up_ne (by decide)).trans ((up_ne (by decide)).trans (e2))))) ?_
  refine E.st (s_iload_n (q := 190) dX6_workOut_189 rfl rfl) ?_
  refine E.st (s_aload_n (q := 191) dX6_workOut_190 rfl rfl) ?_
  refine E.st (s_gf (q := 194) (v := .int (0 : Int32)) dX6_workOut_191 rfl fX6_69.l (hs_eq) (by decide) ((up_ne (by decide)).trans ((up_ne (by decide)).trans (up_eq)))) ?_
  refine E.st (s_aload_n (q := 195) dX6_workOut_194 rfl rfl) ?_
  refine E.st (s_gf (q := 198) (v := .long (f1 n.toNatClampNeg)) dX6_workOut_195 rfl fX6_72.l (hs_eq) (by decide) ((up_ne (by decide)).trans (up_eq))) ?_
  refine E.st (s_aload_n (q := 199) dX6_workOut_198 rfl rfl) ?_
  refine E.st (s_gf (q := 202) (v := .int (1 : Int32)) dX6_workOut_199 rfl fX6_80.l (hs_eq) (by decide) (up_eq)) ?_
  refine E.st (p2 := 205) (l2 := [(2, .int 0), (0, .ref 19), (1, .int n)]) (s2 := []) (h2 := (hs (hs (hs (hs (hs (hs (hs h 19 (ob 6 (fo 10 (va_up F 3 (.int (v3 + 1)))))) 19 (ob 6 (fo 10 (va_up (va_up F 3 (.int (v3 + 1))) 5 (.int (0 : Int32)))))) 19 (ob 6 (fo 10 (va_up (va_up (va_up F 3 (.int (v3 + 1))) 5 (.int (0 : Int32))) 6 (.long (f1 n.toNatClampNeg)))))) 19 (ob 6 (fo 10 (va_up (va_up (va_up (va_up F 3 (.int (v3 + 1))) 5 (.int (0 : Int32))) 6 (.long (f1 n.toNatClampNeg))) 7 (.int (1 : Int32)))))) (c + 1) (ia n3 (upd f2 n.toNatClampNeg (0 : Int32)))) (c + 2) (la n4 (vp_updL f3 n.toNatClampNeg (f1 n.toNatClampNeg)))) (c + 3) (ia n5 (upd f4 n.toNatClampNeg (1 : Int32))))) (s_invv (K := mX5_keep) (o := c) (as := [.int n, .int (0 : Int32), .long (f1 n.toNatClampNeg), .int (1 : Int32)]) (rest := []) (v := none) dX6_workOut_202 rfl lX6_160 (by omega) rfl (Nat.le_of_ble_eq_true rfl) rfl (Nat.le_of_ble_eq_true rfl) ((hs_ne (ne_oo ho2 ho (by decide))).trans ((hs_ne (ne_oo ho2 ho (by decide))).trans ((hs_ne (ne_oo ho2 ho (by decide))).trans ((hs_ne (ne_oo ho2 ho (by decide))).trans (ho2))))) (p_X5_keep_3 (d := 0) (Nat.le_refl _) (hs (hs (hs (hs h 19 (ob 6 (fo 10 (va_up F 3 (.int (v3 + 1)))))) 19 (ob 6 (fo 10 (va_up (va_up F 3 (.int (v3 + 1))) 5 (.int (0 : Int32)))))) 19 (ob 6 (fo 10 (va_up (va_up (va_up F 3 (.int (v3 + 1))) 5 (.int (0 : Int32))) 6 (.long (f1 n.toNatClampNeg)))))) 19 (ob 6 (fo 10 (va_up (va_up (va_up (va_up F 3 (.int (v3 + 1))) 5 (.int (0 : Int32))) 6 (.long (f1 n.toNatClampNeg))) 7 (.int (1 : Int32)))))) c n (0 : Int32) (f1 n.toNatClampNeg) (1 : Int32) c6 c7 F2 ((hs_ne (ne_oo ho2 ho (by decide))).trans ((hs_ne (ne_oo ho2 ho (by decide))).trans ((hs_ne (ne_oo ho2 ho (by decide))).trans ((hs_ne (ne_oo ho2 ho (by decide))).trans (ho2))))) (c + 1) e31 n3 f2 ((hs_ne (Ne.symm (ne_oi ho ha2))).trans ((hs_ne (Ne.symm (ne_oi ho ha2))).trans ((hs_ne (Ne.symm (ne_oi ho ha2))).trans ((hs_ne (Ne.symm (ne_oi ho ha2))).trans (ha2))))) c8 p (c + 2) e41 n4 f3 ((hs_ne (Ne.symm (ne_ol ho ha3))).trans ((hs_ne (Ne.symm (ne_ol ho ha3))).trans ((hs_ne (Ne.symm (ne_ol ho ha3))).trans ((hs_ne (Ne.symm (ne_ol ho ha3))).trans (ha3))))) c9 (c + 3) e51 n5 f4 ((hs_ne (Ne.symm (ne_oi ho ha4))).trans ((hs_ne (Ne.symm (ne_oi ho ha4))).trans ((hs_ne (Ne.symm (ne_oi ho ha4))).trans ((hs_ne (Ne.symm (ne_oi ho ha4))).trans (ha4))))) ne c10 p1) (fun h => nomatch h)) ?_
  refine E.st (s_iload_n (q := 206) dX6_workOut_205 rfl rfl) ?_
  exact E.i dX6_workOut_206 rfl rfl rfl rfl

set_option maxRecDepth 20000 in
theorem j_X6_workOut_a_3 {d : Nat} (hd : 2 ≤ d) (h : AH) (n : Int32) (c : Nat) (F : Nat → Value) (ho : h.1 19 = ob 6 (fo 10 F)) (v3 : Int32) (e3 : F 3 = .int v3) (c1 : v3 < 2000) (e0 : F 0 = .ref 2) (F1 : Nat → Value) (ho1 : h.1 2 = ob 2 (fo 6 F1)) (v5 : Int32) (e5 : F1 5 = .int v5) (c2 : ¬ (n < 0) ∧ ¬ (v5 ≤ n)) (e01 : F1 0 = .ref 3) (n1 : Nat) (f : Nat → Int32) (ha : h.1 3 = ia n1 f) (c3 : vp_in n n1) (c4 : (f n.toNatClampNeg) = 1) : J false mX6_workOut d 0 [(0, .ref 19), (1, .int n)] [] h 106 [(0, .ref 19), (1, .int n)] [.int n, .ref 19] (hs h 19 (ob 6 (fo 10 (va_up F 3 (.int (v3 + 1)))))) := by
  refine J.tr (s_aload_n (q := 1) dX6_workOut_0 rfl rfl) ?_
  refine J.tr (s_gf (q := 4) (v := .int v3) dX6_workOut_1 rfl fX6_43.l (ho) (by decide) (e3)) ?_
  refine J.tr (s_sipush (q := 7) (v := 2000) dX6_workOut_4 rfl (by decide)) ?_
  refine J.tr (s_icmp_lt_t (q := 12) dX6_workOut_7 (by decide) c1) ?_
  refine J.tr (s_aload_n (q := 13) dX6_workOut_12 rfl rfl) ?_
  refine J.tr (s_dup (q := 14) dX6_workOut_13 rfl rfl) ?_
  refine J.tr (s_gf (q := 17) (v := .int v3) dX6_workOut_14 rfl fX6_43.l (ho) (by decide) (e3)) ?_
  refine J.tr (s_iconst (q := 18) (v := 1) dX6_workOut_17 rfl (by decide)) ?_
  refine J.tr (s_iadd (q := 19) dX6_workOut_18 rfl) ?_
  refine J.tr (s_pf (q := 22) dX6_workOut_19 rfl fX6_43 (ho) (by decide) (fun _ => ⟨rfl, rfl⟩)) ?_
  refine J.tr (s_iconst (q := 23) (v := 1) dX6_workOut_22 rfl (by decide)) ?_
  refine J.tr (s_istore_n (q := 24) (ls' := [(2, .int 1), (0, .ref 19), (1, .int n)]) dX6_workOut_23 rfl (by decide) rfl) ?_
  refine J.tr (s_aload_n (q := 25) dX6_workOut_24 rfl rfl) ?_
  refine J.tr (s_gf (q := 28) (v := .ref 2) dX6_workOut_25 rfl fX6_36.l (hs_eq) (by decide) ((up_ne (by decide)).trans (e0))) ?_
  refine J.tr (s_iload_n (q := 29) dX6_workOut_28 rfl rfl) ?_
  refine J.tr (p2 := 32) (l2 := [(2, .int 1), (0, .ref 19), (1, .int n)]) (s2 := [.int (f n.toNatClampNeg)]) (h2 := (hs h 19 (ob 6 (fo 10 (va_up F 3 (.int (v3 + 1))))))) (s_invv (K := mX2_sortOf) (o := 2) (as := [.int n]) (rest := []) (v := some (.int (f n.toNatClampNeg))) dX6_workOut_29 rfl lX6_133 (by omega) rfl (Nat.le_of_ble_eq_true rfl) rfl (Nat.le_of_ble_eq_true rfl) ((hs_ne (by decide)).trans (ho1)) (p_X2_sortOf_n (d := 1) (Nat.le_refl _) (hs h 19 (ob 6 (fo 10 (va_up F 3 (.int (v3 + 1)))))) 2 n F1 ((hs_ne (by decide)).trans (ho1)) v5 e5 c2 3 e01 n1 f ((hs_ne (by decide)).trans (ha)) c3 (by decide)) (fun h => nomatch h)) ?_
  refine J.tr (s_tabIn (q := 104) (off := 72) dX6_workOut_32 (by rw [c4]; decide) (by rw [c4]; decide) (by rw [c4]; rfl) (by decide)) ?_
  refine J.tr (s_aload_n (q := 105) dX6_workOut_104 rfl rfl) ?_
  refine J.tr (s_iload_n (q := 106) dX6_workOut_105 rfl rfl) ?_
  refine J.tr (s_ls (ls' := [(0, .ref 19), (1, .int n)]) [1, 2] rfl) ?_
  exact J.rf

set_option maxRecDepth 20000 in
theorem j_X6_workOut_a_4 {d : Nat} (hd : 2 ≤ d) (h : AH) (n : Int32) (c : Nat) (F : Nat → Value) (ho : h.1 19 = ob 6 (fo 10 F)) (v3 : Int32) (e3 : F 3 = .int v3) (c1 : v3 < 2000) (e0 : F 0 = .ref 2) (F1 : Nat → Value) (ho1 : h.1 2 = ob 2 (fo 6 F1)) (v5 : Int32) (e5 : F1 5 = .int v5) (c2 : ¬ (n < 0) ∧ ¬ (v5 ≤ n)) (e01 : F1 0 = .ref 3) (n1 : Nat) (f : Nat → Int32) (ha : h.1 3 = ia n1 f) (c3 : vp_in n n1) (c4 : (f n.toNatClampNeg) = 2) : E false mX6_workOut d 0 [(0, .ref 19), (1, .int n)] [] h (some (.int 1)) (hs h 19 (ob 6 (fo 10 (va_up F 3 (.int (v3 + 1)))))) := by
  refine E.st (s_aload_n (q := 1) dX6_workOut_0 rfl rfl) ?_
  refine E.st (s_gf (q := 4) (v := .int v3) dX6_workOut_1 rfl fX6_43.l (ho) (by decide) (e3)) ?_
  refine E.st (s_sipush (q := 7) (v := 2000) dX6_workOut_4 rfl (by decide)) ?_
  refine E.st (s_icmp_lt_t (q := 12) dX6_workOut_7 (by decide) c1) ?_
  refine E.st (s_aload_n (q := 13) dX6_workOut_12 rfl rfl) ?_
  refine E.st (s_dup (q := 14) dX6_workOut_13 rfl rfl) ?_
  refine E.st (s_gf (q := 17) (v := .int v3) dX6_workOut_14 rfl fX6_43.l (ho) (by decide) (e3)) ?_
  refine E.st (s_iconst (q := 18) (v := 1) dX6_workOut_17 rfl (by decide)) ?_
  refine E.st (s_iadd (q := 19) dX6_workOut_18 rfl) ?_
  refine E.st (s_pf (q := 22) dX6_workOut_19 rfl fX6_43 (ho) (by decide) (fun _ => ⟨rfl, rfl⟩)) ?_
  refine E.st (s_iconst (q := 23) (v := 1) dX6_workOut_22 rfl (by decide)) ?_
  refine E.st (s_istore_n (q := 24) (ls' := [(2, .int 1), (0, .ref 19), (1, .int n)]) dX6_workOut_23 rfl (by decide) rfl) ?_
  refine E.st (s_aload_n (q := 25) dX6_workOut_24 rfl rfl) ?_
  refine E.st (s_gf (q := 28) (v := .ref 2) dX6_workOut_25 rfl fX6_36.l (hs_eq) (by decide) ((up_ne (by decide)).trans (e0))) ?_
  refine E.st (s_iload_n (q := 29) dX6_workOut_28 rfl rfl) ?_
  refine E.st (p2 := 32) (l2 := [(2, .int 1), (0, .ref 19), (1, .int n)]) (s2 := [.int (f n.toNatClampNeg)]) (h2 := (hs h 19 (ob 6 (fo 10 (va_up F 3 (.int (v3 + 1))))))) (s_invv (K := mX2_sortOf) (o := 2) (as := [.int n]) (rest := []) (v := some (.int (f n.toNatClampNeg))) dX6_workOut_29 rfl lX6_133 (by omega) rfl (Nat.le_of_ble_eq_true rfl) rfl (Nat.le_of_ble_eq_true rfl) ((hs_ne (by decide)).trans (ho1)) (p_X2_sortOf_n (d := 1) (Nat.le_refl _) (hs h 19 (ob 6 (fo 10 (va_up F 3 (.int (v3 + 1)))))) 2 n F1 ((hs_ne (by decide)).trans (ho1)) v5 e5 c2 3 e01 n1 f ((hs_ne (by decide)).trans (ha)) c3 (by decide)) (fun h => nomatch h)) ?_
  refine E.st (s_tabIn (q := 181) (off := 149) dX6_workOut_32 (by rw [c4]; decide) (by rw [c4]; decide) (by rw [c4]; rfl) (by decide)) ?_
  refine E.st (s_iload_n (q := 182) dX6_workOut_181 rfl rfl) ?_
  refine E.st (s_if_ne_t (q := 205) dX6_workOut_182 (by decide) (by decide)) ?_
  refine E.st (s_iload_n (q := 206) dX6_workOut_205 rfl rfl) ?_
  exact E.i dX6_workOut_206 rfl rfl rfl rfl

set_option maxRecDepth 20000 in
theorem j_X6_workOut_a_5 {d : Nat} (hd : 2 ≤ d) (h : AH) (n : Int32) (c : Nat) (F : Nat → Value) (ho : h.1 19 = ob 6 (fo 10 F)) (v3 : Int32) (e3 : F 3 = .int v3) (c1 : v3 < 2000) (e0 : F 0 = .ref 2) (F1 : Nat → Value) (ho1 : h.1 2 = ob 2 (fo 6 F1)) (v5 : Int32) (e5 : F1 5 = .int v5) (c2 : ¬ (n < 0) ∧ ¬ (v5 ≤ n)) (e01 : F1 0 = .ref 3) (n1 : Nat) (f : Nat → Int32) (ha : h.1 3 = ia n1 f) (c3 : vp_in n n1) (c4 : (f n.toNatClampNeg) = 3) (e2 : F 2 = .ref c) (F2 : Nat → Value) (ho2 : h.1 c = ob 5 (fo 12 F2)) (c5 : ¬ (n < 0)) (c6 : 60 ≤ n) : E false mX6_workOut d 0 [(0, .ref 19), (1, .int n)] [] h (some (.int 0)) (hs (hs (hs (hs h 19 (ob 6 (fo 10 (va_up F 3 (.int (v3 + 1)))))) 19 (ob 6 (fo 10 (va_up (va_up F 3 (.int (v3 + 1))) 5 (.int (1 : Int32)))))) 19 (ob 6 (fo 10 (va_up (va_up (va_up F 3 (.int (v3 + 1))) 5 (.int (1 : Int32))) 6 (.long (n.toInt64)))))) 19 (ob 6 (fo 10 (va_up (va_up (va_up (va_up F 3 (.int (v3 + 1))) 5 (.int (1 : Int32))) 6 (.long (n.toInt64))) 7 (.int (1 : Int32)))))) := by
  refine E.st (s_aload_n (q := 1) dX6_workOut_0 rfl rfl) ?_
  refine E.st (s_gf (q := 4) (v := .int v3) dX6_workOut_1 rfl fX6_43.l (ho) (by decide) (e3)) ?_
  refine E.st (s_sipush (q := 7) (v := 2000) dX6_workOut_4 rfl (by decide)) ?_
  refine E.st (s_icmp_lt_t (q := 12) dX6_workOut_7 (by decide) c1) ?_
  refine E.st (s_aload_n (q := 13) dX6_workOut_12 rfl rfl) ?_
  refine E.st (s_dup (q := 14) dX6_workOut_13 rfl rfl) ?_
  refine E.st (s_gf (q := 17) (v := .int v3) dX6_workOut_14 rfl fX6_43.l (ho) (by decide) (e3)) ?_
  refine E.st (s_iconst (q := 18) (v := 1) dX6_workOut_17 rfl (by decide)) ?_
  refine E.st (s_iadd (q := 19) dX6_workOut_18 rfl) ?_
  refine E.st (s_pf (q := 22) dX6_workOut_19 rfl fX6_43 (ho) (by decide) (fun _ => ⟨rfl, rfl⟩)) ?_
  refine E.st (s_iconst (q := 23) (v := 1) dX6_workOut_22 rfl (by decide)) ?_
  refine E.st (s_istore_n (q := 24) (ls' := [(2, .int 1), (0, .ref 19), (1, .int n)]) dX6_workOut_23 rfl (by decide) rfl) ?_
  refine E.st (s_aload_n (q := 25) dX6_workOut_24 rfl rfl) ?_
  refine E.st (s_gf (q := 28) (v := .ref 2) dX6_workOut_25 rfl fX6_36.l (hs_eq) (by decide) ((up_ne (by decide)).trans (e0))) ?_
  refine E.st (s_iload_n (q := 29) dX6_workOut_28 rfl rfl) ?_
  refine E.st (p2 := 32) (l2 := [(2, .int 1), (0, .ref 19), (1, .int n)]) (s2 := [.int (f n.toNatClampNeg)]) (h2 := (hs h 19 (ob 6 (fo 10 (va_up F 3 (.int (v3 + 1))))))) (s_invv (K := mX2_sortOf) (o := 2) (as := [.int n]) (rest := []) (v := some (.int (f n.toNatClampNeg))) dX6_workOut_29 rfl lX6_133 (by omega) rfl (Nat.le_of_ble_eq_true rfl) rfl (Nat.le_of_ble_eq_true rfl) ((hs_ne (by decide)).trans (ho1)) (p_X2_sortOf_n (d := 1) (Nat.le_refl _) (hs h 19 (ob 6 (fo 10 (va_up F 3 (.int (v3 + 1)))))) 2 n F1 ((hs_ne (by decide)).trans (ho1)) v5 e5 c2 3 e01 n1 f ((hs_ne (by decide)).trans (ha)) c3 (by decide)) (fun h => nomatch h)) ?_
  refine E.st (s_tabIn (q := 113) (off := 81) dX6_workOut_32 (by rw [c4]; decide) (by rw [c4]; decide) (by rw [c4]; rfl) (by decide)) ?_
  refine E.st (s_aload_n (q := 114) dX6_workOut_113 rfl rfl) ?_
  refine E.st (s_iconst (q := 115) (v := 1) dX6_workOut_114 rfl (by decide)) ?_
  refine E.st (s_iload_n (q := 116) dX6_workOut_115 rfl rfl) ?_
  refine E.st (s_i2l (q := 117) dX6_workOut_116 rfl) ?_
  refine E.st (s_iconst (q := 118) (v := 1) dX6_workOut_117 rfl (by decide)) ?_
  refine E.st (p2 := 121) (l2 := [(2, .int 1), (0, .ref 19), (1, .int n)]) (s2 := [.int 0]) (h2 := (hs (hs (hs (hs h 19 (ob 6 (fo 10 (va_up F 3 (.int (v3 + 1)))))) 19 (ob 6 (fo 10 (va_up (va_up F 3 (.int (v3 + 1))) 5 (.int (1 : Int32)))))) 19 (ob 6 (fo 10 (va_up (va_up (va_up F 3 (.int (v3 + 1))) 5 (.int (1 : Int32))) 6 (.long (n.toInt64)))))) 19 (ob 6 (fo 10 (va_up (va_up (va_up (va_up F 3 (.int (v3 + 1))) 5 (.int (1 : Int32))) 6 (.long (n.toInt64))) 7 (.int (1 : Int32))))))) (s_invv (K := mX6_take) (o := 19) (as := [.int 1, .long (n.toInt64), .int 1]) (rest := []) (v := some (.int 0)) dX6_workOut_118 rfl lX6_116 (by omega) rfl (Nat.le_of_ble_eq_true rfl) rfl (Nat.le_of_ble_eq_true rfl) (hs_eq) (p_X6_take_1 (d := 0) (Nat.le_refl _) (hs h 19 (ob 6 (fo 10 (va_up F 3 (.int (v3 + 1)))))) 19 (1 : Int32) (n.toInt64) (1 : Int32) (va_up F 3 (.int (v3 + 1))) hs_eq) (fun h => nomatch h)) ?_
  refine E.st (s_istore_n (q := 122) (ls' := [(2, .int 0), (0, .ref 19), (1, .int n)]) dX6_workOut_121 rfl (by decide) rfl) ?_
  refine E.st (s_goto (q := 181) dX6_workOut_122 (by decide)) ?_
  refine E.st (s_iload_n (q := 182) dX6_workOut_181 rfl rfl) ?_
  refine E.st (s_if_ne_f (q := 185) (tg := 205) dX6_workOut_182 (by decide) rfl (by decide)) ?_
  refine E.st (s_aload_n (q := 186) dX6_workOut_185 rfl rfl) ?_
  refine E.st (s_gf (q := 189) (v := .ref c) dX6_workOut_186 rfl fX6_20.l (hs_eq) (by decide) ((up_ne (by decide)).trans ((up_ne (by decide)).trans ((up_ne (by decide)).trans (e2))))) ?_
  refine E.st (s_iload_n (q := 190) dX6_workOut_189 rfl rfl) ?_
  refine E.st (s_aload_n (q := 191) dX6_workOut_190 rfl rfl) ?_
  refine E.st (s_gf (q := 194) (v := .int (1 : Int32)) dX6_workOut_191 rfl fX6_69.l (hs_eq) (by decide) ((up_ne (by decide)).trans ((up_ne (by decide)).trans (up_eq)))) ?_
  refine E.st (s_aload_n (q := 195) dX6_workOut_194 rfl rfl) ?_
  refine E.st (s_gf (q := 198) (v := .long (n.toInt64)) dX6_workOut_195 rfl fX6_72.l (hs_eq) (by decide) ((up_ne (by decide)).trans (up_eq))) ?_
  refine E.st (s_aload_n (q := 199) dX6_workOut_198 rfl rfl) ?_
  refine E.st (s_gf (q := 202) (v := .int (1 : Int32)) dX6_workOut_199 rfl fX6_80.l (hs_eq) (by decide) (up_eq)) ?_
  refine E.st (p2 := 205) (l2 := [(2, .int 0), (0, .ref 19), (1, .int n)]) (s2 := []) (h2 := (hs (hs (hs (hs h 19 (ob 6 (fo 10 (va_up F 3 (.int (v3 + 1)))))) 19 (ob 6 (fo 10 (va_up (va_up F 3 (.int (v3 + 1))) 5 (.int (1 : Int32)))))) 19 (ob 6 (fo 10 (va_up (va_up (va_up F 3 (.int (v3 + 1))) 5 (.int (1 : Int32))) 6 (.long (n.toInt64)))))) 19 (ob 6 (fo 10 (va_up (va_up (va_up (va_up F 3 (.int (v3 + 1))) 5 (.int (1 : Int32))) 6 (.long (n.toInt64))) 7 (.int (1 : Int32))))))) (s_invv (K := mX5_keep) (o := c) (as := [.int n, .int (1 : Int32), .long (n.toInt64), .int (1 : Int32)]) (rest := []) (v := none) dX6_workOut_202 rfl lX6_160 (by omega) rfl (Nat.le_of_ble_eq_true rfl) rfl (Nat.le_of_ble_eq_true rfl) ((hs_ne (ne_oo ho2 ho (by decide))).trans ((hs_ne (ne_oo ho2 ho (by decide))).trans ((hs_ne (ne_oo ho2 ho (by decide))).trans ((hs_ne (ne_oo ho2 ho (by decide))).trans (ho2))))) (p_X5_keep_2 (d := 0) (Nat.le_refl _) (hs (hs (hs (hs h 19 (ob 6 (fo 10 (va_up F 3 (.int (v3 + 1)))))) 19 (ob 6 (fo 10 (va_up (va_up F 3 (.int (v3 + 1))) 5 (.int (1 : Int32)))))) 19 (ob 6 (fo 10 (va_up (va_up (va_up F 3 (.int (v3 + 1))) 5 (.int (1 : Int32))) 6 (.long (n.toInt64)))))) 19 (ob 6 (fo 10 (va_up (va_up (va_up (va_up F 3 (.int (v3 + 1))) 5 (.int (1 : Int32))) 6 (.long (n.toInt64))) 7 (.int (1 : Int32)))))) c n (1 : Int32) (n.toInt64) (1 : Int32) c5 c6) (fun h => nomatch h)) ?_
  refine E.st (s_iload_n (q := 206) dX6_workOut_205 rfl rfl) ?_
  exact E.i dX6_workOut_206 rfl rfl rfl rfl

set_option maxRecDepth 20000 in
theorem j_X6_workOut_a_6 {d : Nat} (hd : 2 ≤ d) (h : AH) (n : Int32) (c : Nat) (F : Nat → Value) (ho : h.1 19 = ob 6 (fo 10 F)) (v3 : Int32) (e3 : F 3 = .int v3) (c1 : v3 < 2000) (e0 : F 0 = .ref 2) (F1 : Nat → Value) (ho1 : h.1 2 = ob 2 (fo 6 F1)) (v5 : Int32) (e5 : F1 5 = .int v5) (c2 : ¬ (n < 0) ∧ ¬ (v5 ≤ n)) (e01 : F1 0 = .ref 3) (n1 : Nat) (f : Nat → Int32) (ha : h.1 3 = ia n1 f) (c3 : vp_in n n1) (c4 : (f n.toNatClampNeg) = 3) (e2 : F 2 = .ref c) (F2 : Nat → Value) (ho2 : h.1 c = ob 5 (fo 12 F2)) (c5 : ¬ (n < 0)) (c6 : ¬ (60 ≤ n)) (e31 : F2 3 = .ref (c + 1)) (n2 : Nat) (f1 : Nat → Int32) (ha1 : h.1 (c + 1) = ia n2 f1) (c7 : vp_in n n2) (p : 0 < (c + 1)) (e4 : F2 4 = .ref (c + 2)) (n3 : Nat) (f2 : Nat → Int64) (ha2 : h.1 (c + 2) = la n3 f2) (c8 : vp_in n n3) (e51 : F2 5 = .ref (c + 3)) (n4 : Nat) (f3 : Nat → Int32) (ha3 : h.1 (c + 3) = ia n4 f3) (ne : (c + 3) ≠ (c + 1)) (c9 : vp_in n n4) (p1 : 0 < (c + 3)) : E false mX6_workOut d 0 [(0, .ref 19), (1, .int n)] [] h (some (.int 0)) (hs (hs (hs (hs (hs (hs (hs h 19 (ob 6 (fo 10 (va_up F 3 (.int (v3 + 1)))))) 19 (ob 6 (fo 10 (va_up (va_up F 3 (.int (v3 + 1))) 5 (.int (1 : Int32)))))) 19 (ob 6 (fo 10 (va_up (va_up (va_up F 3 (.int (v3 + 1))) 5 (.int (1 : Int32))) 6 (.long (n.toInt64)))))) 19 (ob 6 (fo 10 (va_up (va_up (va_up (va_up F 3 (.int (v3 + 1))) 5 (.int (1 : Int32))) 6 (.long (n.toInt64))) 7 (.int (1 : Int32)))))) (c + 1) (ia n2 (upd f1 n.toNatClampNeg (1 : Int32)))) (c + 2) (la n3 (vp_updL f2 n.toNatClampNeg (n.toInt64)))) (c + 3) (ia n4 (upd f3 n.toNatClampNeg (1 : Int32)))) := by
  refine E.st (s_aload_n (q := 1) dX6_workOut_0 rfl rfl) ?_
  refine E.st (s_gf (q := 4) (v := .int v3) dX6_workOut_1 rfl fX6_43.l (ho) (by decide) (e3)) ?_
  refine E.st (s_sipush (q := 7) (v := 2000) dX6_workOut_4 rfl (by decide)) ?_
  refine E.st (s_icmp_lt_t (q := 12) dX6_workOut_7 (by decide) c1) ?_
  refine E.st (s_aload_n (q := 13) dX6_workOut_12 rfl rfl) ?_
  refine E.st (s_dup (q := 14) dX6_workOut_13 rfl rfl) ?_
  refine E.st (s_gf (q := 17) (v := .int v3) dX6_workOut_14 rfl fX6_43.l (ho) (by decide) (e3)) ?_
  refine E.st (s_iconst (q := 18) (v := 1) dX6_workOut_17 rfl (by decide)) ?_
  refine E.st (s_iadd (q := 19) dX6_workOut_18 rfl) ?_
  refine E.st (s_pf (q := 22) dX6_workOut_19 rfl fX6_43 (ho) (by decide) (fun _ => ⟨rfl, rfl⟩)) ?_
  refine E.st (s_iconst (q := 23) (v := 1) dX6_workOut_22 rfl (by decide)) ?_
  refine E.st (s_istore_n (q := 24) (ls' := [(2, .int 1), (0, .ref 19), (1, .int n)]) dX6_workOut_23 rfl (by decide) rfl) ?_
  refine E.st (s_aload_n (q := 25) dX6_workOut_24 rfl rfl) ?_
  refine E.st (s_gf (q := 28) (v := .ref 2) dX6_workOut_25 rfl fX6_36.l (hs_eq) (by decide) ((up_ne (by decide)).trans (e0))) ?_
  refine E.st (s_iload_n (q := 29) dX6_workOut_28 rfl rfl) ?_
  refine E.st (p2 := 32) (l2 := [(2, .int 1), (0, .ref 19), (1, .int n)]) (s2 := [.int (f n.toNatClampNeg)]) (h2 := (hs h 19 (ob 6 (fo 10 (va_up F 3 (.int (v3 + 1))))))) (s_invv (K := mX2_sortOf) (o := 2) (as := [.int n]) (rest := []) (v := some (.int (f n.toNatClampNeg))) dX6_workOut_29 rfl lX6_133 (by omega) rfl (Nat.le_of_ble_eq_true rfl) rfl (Nat.le_of_ble_eq_true rfl) ((hs_ne (by decide)).trans (ho1)) (p_X2_sortOf_n (d := 1) (Nat.le_refl _) (hs h 19 (ob 6 (fo 10 (va_up F 3 (.int (v3 + 1)))))) 2 n F1 ((hs_ne (by decide)).trans (ho1)) v5 e5 c2 3 e01 n1 f ((hs_ne (by decide)).trans (ha)) c3 (by decide)) (fun h => nomatch h)) ?_
  refine E.st (s_tabIn (q := 113) (off := 81) dX6_workOut_32 (by rw [c4]; decide) (by rw [c4]; decide) (by rw [c4]; rfl) (by decide)) ?_
  refine E.st (s_aload_n (q := 114) dX6_workOut_113 rfl rfl) ?_
  refine E.st (s_iconst (q := 115) (v := 1) dX6_workOut_114 rfl (by decide)) ?_
  refine E.st (s_iload_n (q := 116) dX6_workOut_115 rfl rfl) ?_
  refine E.st (s_i2l (q := 117) dX6_workOut_116 rfl) ?_
  refine E.st (s_iconst (q := 118) (v := 1) dX6_workOut_117 rfl (by decide)) ?_
  refine E.st (p2 := 121) (l2 := [(2, .int 1), (0, .ref 19), (1, .int n)]) (s2 := [.int 0]) (h2 := (hs (hs (hs (hs h 19 (ob 6 (fo 10 (va_up F 3 (.int (v3 + 1)))))) 19 (ob 6 (fo 10 (va_up (va_up F 3 (.int (v3 + 1))) 5 (.int (1 : Int32)))))) 19 (ob 6 (fo 10 (va_up (va_up (va_up F 3 (.int (v3 + 1))) 5 (.int (1 : Int32))) 6 (.long (n.toInt64)))))) 19 (ob 6 (fo 10 (va_up (va_up (va_up (va_up F 3 (.int (v3 + 1))) 5 (.int (1 : Int32))) 6 (.long (n.toInt64))) 7 (.int (1 : Int32))))))) (s_invv (K := mX6_take) (o := 19) (as := [.int 1, .long (n.toInt64), .int 1]) (rest := []) (v := some (.int 0)) dX6_workOut_118 rfl lX6_116 (by omega) rfl (Nat.le_of_ble_eq_true rfl) rfl (Nat.le_of_ble_eq_true rfl) (hs_eq) (p_X6_take_1 (d := 0) (Nat.le_refl _) (hs h 19 (ob 6 (fo 10 (va_up F 3 (.int (v3 + 1)))))) 19 (1 : Int32) (n.toInt64) (1 : Int32) (va_up F 3 (.int (v3 + 1))) hs_eq) (fun h => nomatch h)) ?_
  refine E.st (s_istore_n (q := 122) (ls' := [(2, .int 0), (0, .ref 19), (1, .int n)]) dX6_workOut_121 rfl (by decide) rfl) ?_
  refine E.st (s_goto (q := 181) dX6_workOut_122 (by decide)) ?_
  refine E.st (s_iload_n (q := 182) dX6_workOut_181 rfl rfl) ?_
  refine E.st (s_if_ne_f (q := 185) (tg := 205) dX6_workOut_182 (by decide) rfl (by decide)) ?_
  refine E.st (s_aload_n (q := 186) dX6_workOut_185 rfl rfl) ?_
  refine E.st (s_gf (q := 189) (v := .ref c) dX6_workOut_186 rfl fX6_20.l (hs_eq) (by decide) ((up_ne (by decide)).trans ((up_ne (by decide)).trans ((up_ne (by decide)).trans (e2))))) ?_
  refine E.st (s_iload_n (q := 190) dX6_workOut_189 rfl rfl) ?_
  refine E.st (s_aload_n (q := 191) dX6_workOut_190 rfl rfl) ?_
  refine E.st (s_gf (q := 194) (v := .int (1 : Int32)) dX6_workOut_191 rfl fX6_69.l (hs_eq) (by decide) ((up_ne (by decide)).trans ((up_ne (by decide)).trans (up_eq)))) ?_
  refine E.st (s_aload_n (q := 195) dX6_workOut_194 rfl rfl) ?_
  refine E.st (s_gf (q := 198) (v := .long (n.toInt64)) dX6_workOut_195 rfl fX6_72.l (hs_eq) (by decide) ((up_ne (by decide)).trans (up_eq))) ?_
  refine E.st (s_aload_n (q := 199) dX6_workOut_198 rfl rfl) ?_
  refine E.st (s_gf (q := 202) (v := .int (1 : Int32)) dX6_workOut_199 rfl fX6_80.l (hs_eq) (by decide) (up_eq)) ?_
  refine E.st (p2 := 205) (l2 := [(2, .int 0), (0, .ref 19), (1, .int n)]) (s2 := []) (h2 := (hs (hs (hs (hs (hs (hs (hs h 19 (ob 6 (fo 10 (va_up F 3 (.int (v3 + 1)))))) 19 (ob 6 (fo 10 (va_up (va_up F 3 (.int (v3 + 1))) 5 (.int (1 : Int32)))))) 19 (ob 6 (fo 10 (va_up (va_up (va_up F 3 (.int (v3 + 1))) 5 (.int (1 : Int32))) 6 (.long (n.toInt64)))))) 19 (ob 6 (fo 10 (va_up (va_up (va_up (va_up F 3 (.int (v3 + 1))) 5 (.int (1 : Int32))) 6 (.long (n.toInt64))) 7 (.int (1 : Int32)))))) (c + 1) (ia n2 (upd f1 n.toNatClampNeg (1 : Int32)))) (c + 2) (la n3 (vp_updL f2 n.toNatClampNeg (n.toInt64)))) (c + 3) (ia n4 (upd f3 n.toNatClampNeg (1 : Int32))))) (s_invv (K := mX5_keep) (o := c) (as := [.int n, .int (1 : Int32), .long (n.toInt64), .int (1 : Int32)]) (rest := []) (v := none) dX6_workOut_202 rfl lX6_160 (by omega) rfl (Nat.le_of_ble_eq_true rfl) rfl (Nat.le_of_ble_eq_true rfl) ((hs_ne (ne_oo ho2 ho (by decide))).trans ((hs_ne (ne_oo ho2 ho (by decide))).trans ((hs_ne (ne_oo ho2 ho (by decide))).trans ((hs_ne (ne_oo ho2 ho (by decide))).trans (ho2))))) (p_X5_keep_3 (d := 0) (Nat.le_refl _) (hs (hs (hs (hs h 19 (ob 6 (fo 10 (va_up F 3 (.int (v3 + 1)))))) 19 (ob 6 (fo 10 (va_up (va_up F 3 (.int (v3 + 1))) 5 (.int (1 : Int32)))))) 19 (ob 6 (fo 10 (va_up (va_up (va_up F 3 (.int (v3 + 1))) 5 (.int (1 : Int32))) 6 (.long (n.toInt64)))))) 19 (ob 6 (fo 10 (va_up (va_up (va_up (va_up F 3 (.int (v3 + 1))) 5 (.int (1 : Int32))) 6 (.long (n.toInt64))) 7 (.int (1 : Int32)))))) c n (1 : Int32) (n.toInt64) (1 : Int32) c5 c6 F2 ((hs_ne (ne_oo ho2 ho (by decide))).trans ((hs_ne (ne_oo ho2 ho (by decide))).trans ((hs_ne (ne_oo ho2 ho (by decide))).trans ((hs_ne (ne_oo ho2 ho (by decide))).trans (ho2))))) (c + 1) e31 n2 f1 ((hs_ne (Ne.symm (ne_oi ho ha1))).trans ((hs_ne (Ne.symm (ne_oi ho ha1))).trans ((hs_ne (Ne.symm (ne_oi ho ha1))).trans ((hs_ne (Ne.symm (ne_oi ho ha1))).trans (ha1))))) c7 p (c + 2) e4 n3 f2 ((hs_ne (Ne.symm (ne_ol ho ha2))).trans ((hs_ne (Ne.symm (ne_ol ho ha2))).trans ((hs_ne (Ne.symm (ne_ol ho ha2))).trans ((hs_ne (Ne.symm (ne_ol ho ha2))).trans (ha2))))) c8 (c + 3) e51 n4 f3 ((hs_ne (Ne.symm (ne_oi ho ha3))).trans ((hs_ne (Ne.symm (ne_oi ho ha3))).trans ((hs_ne (Ne.symm (ne_oi ho ha3))).trans ((hs_ne (Ne.symm (ne_oi ho ha3))).trans (ha3))))) ne c9 p1) (fun h => nomatch h)) ?_
  refine E.st (s_iload_n (q := 206) dX6_workOut_205 rfl rfl) ?_
  exact E.i dX6_workOut_206 rfl rfl rfl rfl

set_option maxRecDepth 20000 in
theorem j_X6_workOut_a_7 {d : Nat} (hd : 2 ≤ d) (h : AH) (n : Int32) (c : Nat) (F : Nat → Value) (ho : h.1 19 = ob 6 (fo 10 F)) (v3 : Int32) (e3 : F 3 = .int v3) (c1 : v3 < 2000) (e0 : F 0 = .ref 2) (F1 : Nat → Value) (ho1 : h.1 2 = ob 2 (fo 6 F1)) (v5 : Int32) (e5 : F1 5 = .int v5) (c2 : ¬ (n < 0) ∧ ¬ (v5 ≤ n)) (e01 : F1 0 = .ref 3) (n1 : Nat) (f : Nat → Int32) (ha : h.1 3 = ia n1 f) (c3 : vp_in n n1) (c4 : (f n.toNatClampNeg) = 4) : J false mX6_workOut d 0 [(0, .ref 19), (1, .int n)] [] h 128 [(0, .ref 19), (1, .int n)] [.int 0, .int n, .ref 19] (hs h 19 (ob 6 (fo 10 (va_up F 3 (.int (v3 + 1)))))) := by
  refine J.tr (s_aload_n (q := 1) dX6_workOut_0 rfl rfl) ?_
  refine J.tr (s_gf (q := 4) (v := .int v3) dX6_workOut_1 rfl fX6_43.l (ho) (by decide) (e3)) ?_
  refine J.tr (s_sipush (q := 7) (v := 2000) dX6_workOut_4 rfl (by decide)) ?_
  refine J.tr (s_icmp_lt_t (q := 12) dX6_workOut_7 (by decide) c1) ?_
  refine J.tr (s_aload_n (q := 13) dX6_workOut_12 rfl rfl) ?_
  refine J.tr (s_dup (q := 14) dX6_workOut_13 rfl rfl) ?_
  refine J.tr (s_gf (q := 17) (v := .int v3) dX6_workOut_14 rfl fX6_43.l (ho) (by decide) (e3)) ?_
  refine J.tr (s_iconst (q := 18) (v := 1) dX6_workOut_17 rfl (by decide)) ?_
  refine J.tr (s_iadd (q := 19) dX6_workOut_18 rfl) ?_
  refine J.tr (s_pf (q := 22) dX6_workOut_19 rfl fX6_43 (ho) (by decide) (fun _ => ⟨rfl, rfl⟩)) ?_
  refine J.tr (s_iconst (q := 23) (v := 1) dX6_workOut_22 rfl (by decide)) ?_
  refine J.tr (s_istore_n (q := 24) (ls' := [(2, .int 1), (0, .ref 19), (1, .int n)]) dX6_workOut_23 rfl (by decide) rfl) ?_
  refine J.tr (s_aload_n (q := 25) dX6_workOut_24 rfl rfl) ?_
  refine J.tr (s_gf (q := 28) (v := .ref 2) dX6_workOut_25 rfl fX6_36.l (hs_eq) (by decide) ((up_ne (by decide)).trans (e0))) ?_
  refine J.tr (s_iload_n (q := 29) dX6_workOut_28 rfl rfl) ?_
  refine J.tr (p2 := 32) (l2 := [(2, .int 1), (0, .ref 19), (1, .int n)]) (s2 := [.int (f n.toNatClampNeg)]) (h2 := (hs h 19 (ob 6 (fo 10 (va_up F 3 (.int (v3 + 1))))))) (s_invv (K := mX2_sortOf) (o := 2) (as := [.int n]) (rest := []) (v := some (.int (f n.toNatClampNeg))) dX6_workOut_29 rfl lX6_133 (by omega) rfl (Nat.le_of_ble_eq_true rfl) rfl (Nat.le_of_ble_eq_true rfl) ((hs_ne (by decide)).trans (ho1)) (p_X2_sortOf_n (d := 1) (Nat.le_refl _) (hs h 19 (ob 6 (fo 10 (va_up F 3 (.int (v3 + 1)))))) 2 n F1 ((hs_ne (by decide)).trans (ho1)) v5 e5 c2 3 e01 n1 f ((hs_ne (by decide)).trans (ha)) c3 (by decide)) (fun h => nomatch h)) ?_
  refine J.tr (s_tabIn (q := 125) (off := 93) dX6_workOut_32 (by rw [c4]; decide) (by rw [c4]; decide) (by rw [c4]; rfl) (by decide)) ?_
  refine J.tr (s_aload_n (q := 126) dX6_workOut_125 rfl rfl) ?_
  refine J.tr (s_iload_n (q := 127) dX6_workOut_126 rfl rfl) ?_
  refine J.tr (s_iconst (q := 128) (v := 0) dX6_workOut_127 rfl (by decide)) ?_
  refine J.tr (s_ls (ls' := [(0, .ref 19), (1, .int n)]) [1, 2] rfl) ?_
  exact J.rf

set_option maxRecDepth 20000 in
theorem j_X6_workOut_a_8 {d : Nat} (hd : 2 ≤ d) (h : AH) (n : Int32) (c : Nat) (F : Nat → Value) (ho : h.1 19 = ob 6 (fo 10 F)) (v3 : Int32) (e3 : F 3 = .int v3) (c1 : v3 < 2000) (e0 : F 0 = .ref 2) (F1 : Nat → Value) (ho1 : h.1 2 = ob 2 (fo 6 F1)) (v5 : Int32) (e5 : F1 5 = .int v5) (c2 : ¬ (n < 0) ∧ ¬ (v5 ≤ n)) (e01 : F1 0 = .ref 3) (n1 : Nat) (f : Nat → Int32) (ha : h.1 3 = ia n1 f) (c3 : vp_in n n1) (c4 : (f n.toNatClampNeg) = 5) : J false mX6_workOut d 0 [(0, .ref 19), (1, .int n)] [] h 138 [(0, .ref 19), (1, .int n)] [.int 1, .int n, .ref 19] (hs h 19 (ob 6 (fo 10 (va_up F 3 (.int (v3 + 1)))))) := by
  refine J.tr (s_aload_n (q := 1) dX6_workOut_0 rfl rfl) ?_
  refine J.tr (s_gf (q := 4) (v := .int v3) dX6_workOut_1 rfl fX6_43.l (ho) (by decide) (e3)) ?_
  refine J.tr (s_sipush (q := 7) (v := 2000) dX6_workOut_4 rfl (by decide)) ?_
  refine J.tr (s_icmp_lt_t (q := 12) dX6_workOut_7 (by decide) c1) ?_
  refine J.tr (s_aload_n (q := 13) dX6_workOut_12 rfl rfl) ?_
  refine J.tr (s_dup (q := 14) dX6_workOut_13 rfl rfl) ?_
  refine J.tr (s_gf (q := 17) (v := .int v3) dX6_workOut_14 rfl fX6_43.l (ho) (by decide) (e3)) ?_
  refine J.tr (s_iconst (q := 18) (v := 1) dX6_workOut_17 rfl (by decide)) ?_
  refine J.tr (s_iadd (q := 19) dX6_workOut_18 rfl) ?_
  refine J.tr (s_pf (q := 22) dX6_workOut_19 rfl fX6_43 (ho) (by decide) (fun _ => ⟨rfl, rfl⟩)) ?_
  refine J.tr (s_iconst (q := 23) (v := 1) dX6_workOut_22 rfl (by decide)) ?_
  refine J.tr (s_istore_n (q := 24) (ls' := [(2, .int 1), (0, .ref 19), (1, .int n)]) dX6_workOut_23 rfl (by decide) rfl) ?_
  refine J.tr (s_aload_n (q := 25) dX6_workOut_24 rfl rfl) ?_
  refine J.tr (s_gf (q := 28) (v := .ref 2) dX6_workOut_25 rfl fX6_36.l (hs_eq) (by decide) ((up_ne (by decide)).trans (e0))) ?_
  refine J.tr (s_iload_n (q := 29) dX6_workOut_28 rfl rfl) ?_
  refine J.tr (p2 := 32) (l2 := [(2, .int 1), (0, .ref 19), (1, .int n)]) (s2 := [.int (f n.toNatClampNeg)]) (h2 := (hs h 19 (ob 6 (fo 10 (va_up F 3 (.int (v3 + 1))))))) (s_invv (K := mX2_sortOf) (o := 2) (as := [.int n]) (rest := []) (v := some (.int (f n.toNatClampNeg))) dX6_workOut_29 rfl lX6_133 (by omega) rfl (Nat.le_of_ble_eq_true rfl) rfl (Nat.le_of_ble_eq_true rfl) ((hs_ne (by decide)).trans (ho1)) (p_X2_sortOf_n (d := 1) (Nat.le_refl _) (hs h 19 (ob 6 (fo 10 (va_up F 3 (.int (v3 + 1)))))) 2 n F1 ((hs_ne (by decide)).trans (ho1)) v5 e5 c2 3 e01 n1 f ((hs_ne (by decide)).trans (ha)) c3 (by decide)) (fun h => nomatch h)) ?_
  refine J.tr (s_tabIn (q := 135) (off := 103) dX6_workOut_32 (by rw [c4]; decide) (by rw [c4]; decide) (by rw [c4]; rfl) (by decide)) ?_
  refine J.tr (s_aload_n (q := 136) dX6_workOut_135 rfl rfl) ?_
  refine J.tr (s_iload_n (q := 137) dX6_workOut_136 rfl rfl) ?_
  refine J.tr (s_iconst (q := 138) (v := 1) dX6_workOut_137 rfl (by decide)) ?_
  refine J.tr (s_ls (ls' := [(0, .ref 19), (1, .int n)]) [1, 2] rfl) ?_
  exact J.rf

set_option maxRecDepth 20000 in
theorem j_X6_workOut_a_9 {d : Nat} (hd : 2 ≤ d) (h : AH) (n : Int32) (c : Nat) (F : Nat → Value) (ho : h.1 19 = ob 6 (fo 10 F)) (v3 : Int32) (e3 : F 3 = .int v3) (c1 : v3 < 2000) (e0 : F 0 = .ref 2) (F1 : Nat → Value) (ho1 : h.1 2 = ob 2 (fo 6 F1)) (v5 : Int32) (e5 : F1 5 = .int v5) (c2 : ¬ (n < 0) ∧ ¬ (v5 ≤ n)) (e01 : F1 0 = .ref 3) (n1 : Nat) (f : Nat → Int32) (ha : h.1 3 = ia n1 f) (c3 : vp_in n n1) (c4 : (f n.toNatClampNeg) = 6) : J false mX6_workOut d 0 [(0, .ref 19), (1, .int n)] [] h 147 [(0, .ref 19), (1, .int n)] [.int n, .ref 19] (hs h 19 (ob 6 (fo 10 (va_up F 3 (.int (v3 + 1)))))) := by
  refine J.tr (s_aload_n (q := 1) dX6_workOut_0 rfl rfl) ?_
  refine J.tr (s_gf (q := 4) (v := .int v3) dX6_workOut_1 rfl fX6_43.l (ho) (by decide) (e3)) ?_
  refine J.tr (s_sipush (q := 7) (v := 2000) dX6_workOut_4 rfl (by decide)) ?_
  refine J.tr (s_icmp_lt_t (q := 12) dX6_workOut_7 (by decide) c1) ?_
  refine J.tr (s_aload_n (q := 13) dX6_workOut_12 rfl rfl) ?_
  refine J.tr (s_dup (q := 14) dX6_workOut_13 rfl rfl) ?_
  refine J.tr (s_gf (q := 17) (v := .int v3) dX6_workOut_14 rfl fX6_43.l (ho) (by decide) (e3)) ?_
  refine J.tr (s_iconst (q := 18) (v := 1) dX6_workOut_17 rfl (by decide)) ?_
  refine J.tr (s_iadd (q := 19) dX6_workOut_18 rfl) ?_
  refine J.tr (s_pf (q := 22) dX6_workOut_19 rfl fX6_43 (ho) (by decide) (fun _ => ⟨rfl, rfl⟩)) ?_
  refine J.tr (s_iconst (q := 23) (v := 1) dX6_workOut_22 rfl (by decide)) ?_
  refine J.tr (s_istore_n (q := 24) (ls' := [(2, .int 1), (0, .ref 19), (1, .int n)]) dX6_workOut_23 rfl (by decide) rfl) ?_
  refine J.tr (s_aload_n (q := 25) dX6_workOut_24 rfl rfl) ?_
  refine J.tr (s_gf (q := 28) (v := .ref 2) dX6_workOut_25 rfl fX6_36.l (hs_eq) (by decide) ((up_ne (by decide)).trans (e0))) ?_
  refine J.tr (s_iload_n (q := 29) dX6_workOut_28 rfl rfl) ?_
  refine J.tr (p2 := 32) (l2 := [(2, .int 1), (0, .ref 19), (1, .int n)]) (s2 := [.int (f n.toNatClampNeg)]) (h2 := (hs h 19 (ob 6 (fo 10 (va_up F 3 (.int (v3 + 1))))))) (s_invv (K := mX2_sortOf) (o := 2) (as := [.int n]) (rest := []) (v := some (.int (f n.toNatClampNeg))) dX6_workOut_29 rfl lX6_133 (by omega) rfl (Nat.le_of_ble_eq_true rfl) rfl (Nat.le_of_ble_eq_true rfl) ((hs_ne (by decide)).trans (ho1)) (p_X2_sortOf_n (d := 1) (Nat.le_refl _) (hs h 19 (ob 6 (fo 10 (va_up F 3 (.int (v3 + 1)))))) 2 n F1 ((hs_ne (by decide)).trans (ho1)) v5 e5 c2 3 e01 n1 f ((hs_ne (by decide)).trans (ha)) c3 (by decide)) (fun h => nomatch h)) ?_
  refine J.tr (s_tabIn (q := 145) (off := 113) dX6_workOut_32 (by rw [c4]; decide) (by rw [c4]; decide) (by rw [c4]; rfl) (by decide)) ?_
  refine J.tr (s_aload_n (q := 146) dX6_workOut_145 rfl rfl) ?_
  refine J.tr (s_iload_n (q := 147) dX6_workOut_146 rfl rfl) ?_
  refine J.tr (s_ls (ls' := [(0, .ref 19), (1, .int n)]) [1, 2] rfl) ?_
  exact J.rf

set_option maxRecDepth 20000 in
theorem j_X6_workOut_a_10 {d : Nat} (hd : 2 ≤ d) (h : AH) (n : Int32) (c : Nat) (F : Nat → Value) (ho : h.1 19 = ob 6 (fo 10 F)) (v3 : Int32) (e3 : F 3 = .int v3) (c1 : v3 < 2000) (e0 : F 0 = .ref 2) (F1 : Nat → Value) (ho1 : h.1 2 = ob 2 (fo 6 F1)) (v5 : Int32) (e5 : F1 5 = .int v5) (c2 : ¬ (n < 0) ∧ ¬ (v5 ≤ n)) (e01 : F1 0 = .ref 3) (n1 : Nat) (f : Nat → Int32) (ha : h.1 3 = ia n1 f) (c3 : vp_in n n1) (c4 : (f n.toNatClampNeg) = 7) : J false mX6_workOut d 0 [(0, .ref 19), (1, .int n)] [] h 156 [(0, .ref 19), (1, .int n)] [.int n, .ref 19] (hs h 19 (ob 6 (fo 10 (va_up F 3 (.int (v3 + 1)))))) := by
  refine J.tr (s_aload_n (q := 1) dX6_workOut_0 rfl rfl) ?_
  refine J.tr (s_gf (q := 4) (v := .int v3) dX6_workOut_1 rfl fX6_43.l (ho) (by decide) (e3)) ?_
  refine J.tr (s_sipush (q := 7) (v := 2000) dX6_workOut_4 rfl (by decide)) ?_
  refine J.tr (s_icmp_lt_t (q := 12) dX6_workOut_7 (by decide) c1) ?_
  refine J.tr (s_aload_n (q := 13) dX6_workOut_12 rfl rfl) ?_
  refine J.tr (s_dup (q := 14) dX6_workOut_13 rfl rfl) ?_
  refine J.tr (s_gf (q := 17) (v := .int v3) dX6_workOut_14 rfl fX6_43.l (ho) (by decide) (e3)) ?_
  refine J.tr (s_iconst (q := 18) (v := 1) dX6_workOut_17 rfl (by decide)) ?_
  refine J.tr (s_iadd (q := 19) dX6_workOut_18 rfl) ?_
  refine J.tr (s_pf (q := 22) dX6_workOut_19 rfl fX6_43 (ho) (by decide) (fun _ => ⟨rfl, rfl⟩)) ?_
  refine J.tr (s_iconst (q := 23) (v := 1) dX6_workOut_22 rfl (by decide)) ?_
  refine J.tr (s_istore_n (q := 24) (ls' := [(2, .int 1), (0, .ref 19), (1, .int n)]) dX6_workOut_23 rfl (by decide) rfl) ?_
  refine J.tr (s_aload_n (q := 25) dX6_workOut_24 rfl rfl) ?_
  refine J.tr (s_gf (q := 28) (v := .ref 2) dX6_workOut_25 rfl fX6_36.l (hs_eq) (by decide) ((up_ne (by decide)).trans (e0))) ?_
  refine J.tr (s_iload_n (q := 29) dX6_workOut_28 rfl rfl) ?_
  refine J.tr (p2 := 32) (l2 := [(2, .int 1), (0, .ref 19), (1, .int n)]) (s2 := [.int (f n.toNatClampNeg)]) (h2 := (hs h 19 (ob 6 (fo 10 (va_up F 3 (.int (v3 + 1))))))) (s_invv (K := mX2_sortOf) (o := 2) (as := [.int n]) (rest := []) (v := some (.int (f n.toNatClampNeg))) dX6_workOut_29 rfl lX6_133 (by omega) rfl (Nat.le_of_ble_eq_true rfl) rfl (Nat.le_of_ble_eq_true rfl) ((hs_ne (by decide)).trans (ho1)) (p_X2_sortOf_n (d := 1) (Nat.le_refl _) (hs h 19 (ob 6 (fo 10 (va_up F 3 (.int (v3 + 1)))))) 2 n F1 ((hs_ne (by decide)).trans (ho1)) v5 e5 c2 3 e01 n1 f ((hs_ne (by decide)).trans (ha)) c3 (by decide)) (fun h => nomatch h)) ?_
  refine J.tr (s_tabIn (q := 154) (off := 122) dX6_workOut_32 (by rw [c4]; decide) (by rw [c4]; decide) (by rw [c4]; rfl) (by decide)) ?_
  refine J.tr (s_aload_n (q := 155) dX6_workOut_154 rfl rfl) ?_
  refine J.tr (s_iload_n (q := 156) dX6_workOut_155 rfl rfl) ?_
  refine J.tr (s_ls (ls' := [(0, .ref 19), (1, .int n)]) [1, 2] rfl) ?_
  exact J.rf

set_option maxRecDepth 20000 in
theorem j_X6_workOut_a_11 {d : Nat} (hd : 2 ≤ d) (h : AH) (n : Int32) (c : Nat) (F : Nat → Value) (ho : h.1 19 = ob 6 (fo 10 F)) (v3 : Int32) (e3 : F 3 = .int v3) (c1 : v3 < 2000) (e0 : F 0 = .ref 2) (F1 : Nat → Value) (ho1 : h.1 2 = ob 2 (fo 6 F1)) (v5 : Int32) (e5 : F1 5 = .int v5) (c2 : ¬ (n < 0) ∧ ¬ (v5 ≤ n)) (e01 : F1 0 = .ref 3) (n1 : Nat) (f : Nat → Int32) (ha : h.1 3 = ia n1 f) (c3 : vp_in n n1) (c4 : (f n.toNatClampNeg) = 8) : J false mX6_workOut d 0 [(0, .ref 19), (1, .int n)] [] h 165 [(0, .ref 19), (1, .int n)] [.int n, .ref 19] (hs h 19 (ob 6 (fo 10 (va_up F 3 (.int (v3 + 1)))))) := by
  refine J.tr (s_aload_n (q := 1) dX6_workOut_0 rfl rfl) ?_
  refine J.tr (s_gf (q := 4) (v := .int v3) dX6_workOut_1 rfl fX6_43.l (ho) (by decide) (e3)) ?_
  refine J.tr (s_sipush (q := 7) (v := 2000) dX6_workOut_4 rfl (by decide)) ?_
  refine J.tr (s_icmp_lt_t (q := 12) dX6_workOut_7 (by decide) c1) ?_
  refine J.tr (s_aload_n (q := 13) dX6_workOut_12 rfl rfl) ?_
  refine J.tr (s_dup (q := 14) dX6_workOut_13 rfl rfl) ?_
  refine J.tr (s_gf (q := 17) (v := .int v3) dX6_workOut_14 rfl fX6_43.l (ho) (by decide) (e3)) ?_
  refine J.tr (s_iconst (q := 18) (v := 1) dX6_workOut_17 rfl (by decide)) ?_
  refine J.tr (s_iadd (q := 19) dX6_workOut_18 rfl) ?_
  refine J.tr (s_pf (q := 22) dX6_workOut_19 rfl fX6_43 (ho) (by decide) (fun _ => ⟨rfl, rfl⟩)) ?_
  refine J.tr (s_iconst (q := 23) (v := 1) dX6_workOut_22 rfl (by decide)) ?_
  refine J.tr (s_istore_n (q := 24) (ls' := [(2, .int 1), (0, .ref 19), (1, .int n)]) dX6_workOut_23 rfl (by decide) rfl) ?_
  refine J.tr (s_aload_n (q := 25) dX6_workOut_24 rfl rfl) ?_
  refine J.tr (s_gf (q := 28) (v := .ref 2) dX6_workOut_25 rfl fX6_36.l (hs_eq) (by decide) ((up_ne (by decide)).trans (e0))) ?_
  refine J.tr (s_iload_n (q := 29) dX6_workOut_28 rfl rfl) ?_
  refine J.tr (p2 := 32) (l2 := [(2, .int 1), (0, .ref 19), (1, .int n)]) (s2 := [.int (f n.toNatClampNeg)]) (h2 := (hs h 19 (ob 6 (fo 10 (va_up F 3 (.int (v3 + 1))))))) (s_invv (K := mX2_sortOf) (o := 2) (as := [.int n]) (rest := []) (v := some (.int (f n.toNatClampNeg))) dX6_workOut_29 rfl lX6_133 (by omega) rfl (Nat.le_of_ble_eq_true rfl) rfl (Nat.le_of_ble_eq_true rfl) ((hs_ne (by decide)).trans (ho1)) (p_X2_sortOf_n (d := 1) (Nat.le_refl _) (hs h 19 (ob 6 (fo 10 (va_up F 3 (.int (v3 + 1)))))) 2 n F1 ((hs_ne (by decide)).trans (ho1)) v5 e5 c2 3 e01 n1 f ((hs_ne (by decide)).trans (ha)) c3 (by decide)) (fun h => nomatch h)) ?_
  refine J.tr (s_tabIn (q := 163) (off := 131) dX6_workOut_32 (by rw [c4]; decide) (by rw [c4]; decide) (by rw [c4]; rfl) (by decide)) ?_
  refine J.tr (s_aload_n (q := 164) dX6_workOut_163 rfl rfl) ?_
  refine J.tr (s_iload_n (q := 165) dX6_workOut_164 rfl rfl) ?_
  refine J.tr (s_ls (ls' := [(0, .ref 19), (1, .int n)]) [1, 2] rfl) ?_
  exact J.rf

set_option maxRecDepth 20000 in
theorem j_X6_workOut_a_12 {d : Nat} (hd : 2 ≤ d) (h : AH) (n : Int32) (c : Nat) (F : Nat → Value) (ho : h.1 19 = ob 6 (fo 10 F)) (v3 : Int32) (e3 : F 3 = .int v3) (c1 : v3 < 2000) (e0 : F 0 = .ref 2) (F1 : Nat → Value) (ho1 : h.1 2 = ob 2 (fo 6 F1)) (v5 : Int32) (e5 : F1 5 = .int v5) (c2 : ¬ (n < 0) ∧ ¬ (v5 ≤ n)) (e01 : F1 0 = .ref 3) (n1 : Nat) (f : Nat → Int32) (ha : h.1 3 = ia n1 f) (c3 : vp_in n n1) (c4 : (f n.toNatClampNeg) = 9) : J false mX6_workOut d 0 [(0, .ref 19), (1, .int n)] [] h 174 [(0, .ref 19), (1, .int n)] [.int n, .ref 19] (hs h 19 (ob 6 (fo 10 (va_up F 3 (.int (v3 + 1)))))) := by
  refine J.tr (s_aload_n (q := 1) dX6_workOut_0 rfl rfl) ?_
  refine J.tr (s_gf (q := 4) (v := .int v3) dX6_workOut_1 rfl fX6_43.l (ho) (by decide) (e3)) ?_
  refine J.tr (s_sipush (q := 7) (v := 2000) dX6_workOut_4 rfl (by decide)) ?_
  refine J.tr (s_icmp_lt_t (q := 12) dX6_workOut_7 (by decide) c1) ?_
  refine J.tr (s_aload_n (q := 13) dX6_workOut_12 rfl rfl) ?_
  refine J.tr (s_dup (q := 14) dX6_workOut_13 rfl rfl) ?_
  refine J.tr (s_gf (q := 17) (v := .int v3) dX6_workOut_14 rfl fX6_43.l (ho) (by decide) (e3)) ?_
  refine J.tr (s_iconst (q := 18) (v := 1) dX6_workOut_17 rfl (by decide)) ?_
  refine J.tr (s_iadd (q := 19) dX6_workOut_18 rfl) ?_
  refine J.tr (s_pf (q := 22) dX6_workOut_19 rfl fX6_43 (ho) (by decide) (fun _ => ⟨rfl, rfl⟩)) ?_
  refine J.tr (s_iconst (q := 23) (v := 1) dX6_workOut_22 rfl (by decide)) ?_
  refine J.tr (s_istore_n (q := 24) (ls' := [(2, .int 1), (0, .ref 19), (1, .int n)]) dX6_workOut_23 rfl (by decide) rfl) ?_
  refine J.tr (s_aload_n (q := 25) dX6_workOut_24 rfl rfl) ?_
  refine J.tr (s_gf (q := 28) (v := .ref 2) dX6_workOut_25 rfl fX6_36.l (hs_eq) (by decide) ((up_ne (by decide)).trans (e0))) ?_
  refine J.tr (s_iload_n (q := 29) dX6_workOut_28 rfl rfl) ?_
  refine J.tr (p2 := 32) (l2 := [(2, .int 1), (0, .ref 19), (1, .int n)]) (s2 := [.int (f n.toNatClampNeg)]) (h2 := (hs h 19 (ob 6 (fo 10 (va_up F 3 (.int (v3 + 1))))))) (s_invv (K := mX2_sortOf) (o := 2) (as := [.int n]) (rest := []) (v := some (.int (f n.toNatClampNeg))) dX6_workOut_29 rfl lX6_133 (by omega) rfl (Nat.le_of_ble_eq_true rfl) rfl (Nat.le_of_ble_eq_true rfl) ((hs_ne (by decide)).trans (ho1)) (p_X2_sortOf_n (d := 1) (Nat.le_refl _) (hs h 19 (ob 6 (fo 10 (va_up F 3 (.int (v3 + 1)))))) 2 n F1 ((hs_ne (by decide)).trans (ho1)) v5 e5 c2 3 e01 n1 f ((hs_ne (by decide)).trans (ha)) c3 (by decide)) (fun h => nomatch h)) ?_
  refine J.tr (s_tabIn (q := 172) (off := 140) dX6_workOut_32 (by rw [c4]; decide) (by rw [c4]; decide) (by rw [c4]; rfl) (by decide)) ?_
  refine J.tr (s_aload_n (q := 173) dX6_workOut_172 rfl rfl) ?_
  refine J.tr (s_iload_n (q := 174) dX6_workOut_173 rfl rfl) ?_
  refine J.tr (s_ls (ls' := [(0, .ref 19), (1, .int n)]) [1, 2] rfl) ?_
  exact J.rf

set_option maxRecDepth 20000 in
theorem j_X6_workOut_a_13 {d : Nat} (hd : 2 ≤ d) (h : AH) (n : Int32) (c : Nat) (F : Nat → Value) (ho : h.1 19 = ob 6 (fo 10 F)) (v3 : Int32) (e3 : F 3 = .int v3) (c1 : v3 < 2000) (e0 : F 0 = .ref 2) (F1 : Nat → Value) (ho1 : h.1 2 = ob 2 (fo 6 F1)) (v5 : Int32) (e5 : F1 5 = .int v5) (c2 : ¬ (n < 0) ∧ ¬ (v5 ≤ n)) (e01 : F1 0 = .ref 3) (n1 : Nat) (f : Nat → Int32) (ha : h.1 3 = ia n1 f) (c3 : vp_in n n1) (c4 : (f n.toNatClampNeg).toInt < 0 ∨ 9 < (f n.toNatClampNeg).toInt) : E false mX6_workOut d 0 [(0, .ref 19), (1, .int n)] [] h (some (.int 1)) (hs h 19 (ob 6 (fo 10 (va_up F 3 (.int (v3 + 1)))))) := by
  refine E.st (s_aload_n (q := 1) dX6_workOut_0 rfl rfl) ?_
  refine E.st (s_gf (q := 4) (v := .int v3) dX6_workOut_1 rfl fX6_43.l (ho) (by decide) (e3)) ?_
  refine E.st (s_sipush (q := 7) (v := 2000) dX6_workOut_4 rfl (by decide)) ?_
  refine E.st (s_icmp_lt_t (q := 12) dX6_workOut_7 (by decide) c1) ?_
  refine E.st (s_aload_n (q := 13) dX6_workOut_12 rfl rfl) ?_
  refine E.st (s_dup (q := 14) dX6_workOut_13 rfl rfl) ?_
  refine E.st (s_gf (q := 17) (v := .int v3) dX6_workOut_14 rfl fX6_43.l (ho) (by decide) (e3)) ?_
  refine E.st (s_iconst (q := 18) (v := 1) dX6_workOut_17 rfl (by decide)) ?_
  refine E.st (s_iadd (q := 19) dX6_workOut_18 rfl) ?_
  refine E.st (s_pf (q := 22) dX6_workOut_19 rfl fX6_43 (ho) (by decide) (fun _ => ⟨rfl, rfl⟩)) ?_
  refine E.st (s_iconst (q := 23) (v := 1) dX6_workOut_22 rfl (by decide)) ?_
  refine E.st (s_istore_n (q := 24) (ls' := [(2, .int 1), (0, .ref 19), (1, .int n)]) dX6_workOut_23 rfl (by decide) rfl) ?_
  refine E.st (s_aload_n (q := 25) dX6_workOut_24 rfl rfl) ?_
  refine E.st (s_gf (q := 28) (v := .ref 2) dX6_workOut_25 rfl fX6_36.l (hs_eq) (by decide) ((up_ne (by decide)).trans (e0))) ?_
  refine E.st (s_iload_n (q := 29) dX6_workOut_28 rfl rfl) ?_
  refine E.st (p2 := 32) (l2 := [(2, .int 1), (0, .ref 19), (1, .int n)]) (s2 := [.int (f n.toNatClampNeg)]) (h2 := (hs h 19 (ob 6 (fo 10 (va_up F 3 (.int (v3 + 1))))))) (s_invv (K := mX2_sortOf) (o := 2) (as := [.int n]) (rest := []) (v := some (.int (f n.toNatClampNeg))) dX6_workOut_29 rfl lX6_133 (by omega) rfl (Nat.le_of_ble_eq_true rfl) rfl (Nat.le_of_ble_eq_true rfl) ((hs_ne (by decide)).trans (ho1)) (p_X2_sortOf_n (d := 1) (Nat.le_refl _) (hs h 19 (ob 6 (fo 10 (va_up F 3 (.int (v3 + 1)))))) 2 n F1 ((hs_ne (by decide)).trans (ho1)) v5 e5 c2 3 e01 n1 f ((hs_ne (by decide)).trans (ha)) c3 (by decide)) (fun h => nomatch h)) ?_
  refine E.st (s_tabOut (q := 181) dX6_workOut_32 c4 (by decide)) ?_
  refine E.st (s_iload_n (q := 182) dX6_workOut_181 rfl rfl) ?_
  refine E.st (s_if_ne_t (q := 205) dX6_workOut_182 (by decide) (by decide)) ?_
  refine E.st (s_iload_n (q := 206) dX6_workOut_205 rfl rfl) ?_
  exact E.i dX6_workOut_206 rfl rfl rfl rfl

set_option maxRecDepth 20000 in
theorem j_X6_workOut_a_14 {d : Nat} (hd : 0 ≤ d) (h : AH) (n : Int32) (c : Nat) (F : Nat → Value) (ho : h.1 19 = ob 6 (fo 10 F)) (v3 : Int32) (e3 : F 3 = .int v3) (c1 : ¬ (v3 < 2000)) : E false mX6_workOut d 0 [(0, .ref 19), (1, .int n)] [] h (some (.int 2)) h := by
  refine E.st (s_aload_n (q := 1) dX6_workOut_0 rfl rfl) ?_
  refine E.st (s_gf (q := 4) (v := .int v3) dX6_workOut_1 rfl fX6_43.l (ho) (by decide) (e3)) ?_
  refine E.st (s_sipush (q := 7) (v := 2000) dX6_workOut_4 rfl (by decide)) ?_
  refine E.st (s_icmp_lt_f (q := 10) (tg := 12) dX6_workOut_7 (by decide) rfl c1) ?_
  refine E.st (s_iconst (q := 11) (v := 2) dX6_workOut_10 rfl (by decide)) ?_
  exact E.i dX6_workOut_11 rfl rfl rfl rfl

set_option maxRecDepth 20000 in
theorem j_X6_workOut_b109_1 {d : Nat} (hd : 0 ≤ d) (h : AH) (n : Int32) (r : Int32) : J false mX6_workOut d 109 [(0, .ref 19), (1, .int n)] [.int r] h 181 [(0, .ref 19), (1, .int n), (2, .int r)] [] h := by
  refine J.tr (s_istore_n (q := 110) (ls' := [(2, .int r), (0, .ref 19), (1, .int n)]) dX6_workOut_109 rfl (by decide) rfl) ?_
  refine J.tr (s_goto (q := 181) dX6_workOut_110 (by decide)) ?_
  refine J.tr (s_ls (ls' := [(0, .ref 19), (1, .int n), (2, .int r)]) [1, 2, 0] rfl) ?_
  exact J.rf

set_option maxRecDepth 20000 in
theorem j_X6_workOut_b131_1 {d : Nat} (hd : 0 ≤ d) (h : AH) (n : Int32) (r : Int32) : J false mX6_workOut d 131 [(0, .ref 19), (1, .int n)] [.int r] h 181 [(0, .ref 19), (1, .int n), (2, .int r)] [] h := by
  refine J.tr (s_istore_n (q := 132) (ls' := [(2, .int r), (0, .ref 19), (1, .int n)]) dX6_workOut_131 rfl (by decide) rfl) ?_
  refine J.tr (s_goto (q := 181) dX6_workOut_132 (by decide)) ?_
  refine J.tr (s_ls (ls' := [(0, .ref 19), (1, .int n), (2, .int r)]) [1, 2, 0] rfl) ?_
  exact J.rf

set_option maxRecDepth 20000 in
theorem j_X6_workOut_b141_1 {d : Nat} (hd : 0 ≤ d) (h : AH) (n : Int32) (r : Int32) : J false mX6_workOut d 141 [(0, .ref 19), (1, .int n)] [.int r] h 181 [(0, .ref 19), (1, .int n), (2, .int r)] [] h := by
  refine J.tr (s_istore_n (q := 142) (ls' := [(2, .int r), (0, .ref 19), (1, .int n)]) dX6_workOut_141 rfl (by decide) rfl) ?_
  refine J.tr (s_goto (q := 181) dX6_workOut_142 (by decide)) ?_
  refine J.tr (s_ls (ls' := [(0, .ref 19), (1, .int n), (2, .int r)]) [1, 2, 0] rfl) ?_
  exact J.rf

set_option maxRecDepth 20000 in
theorem j_X6_workOut_b150_1 {d : Nat} (hd : 0 ≤ d) (h : AH) (n : Int32) (r : Int32) : J false mX6_workOut d 150 [(0, .ref 19), (1, .int n)] [.int r] h 181 [(0, .ref 19), (1, .int n), (2, .int r)] [] h := by
  refine J.tr (s_istore_n (q := 151) (ls' := [(2, .int r), (0, .ref 19), (1, .int n)]) dX6_workOut_150 rfl (by decide) rfl) ?_
  refine J.tr (s_goto (q := 181) dX6_workOut_151 (by decide)) ?_
  refine J.tr (s_ls (ls' := [(0, .ref 19), (1, .int n), (2, .int r)]) [1, 2, 0] rfl) ?_
  exact J.rf

set_option maxRecDepth 20000 in
theorem j_X6_workOut_b159_1 {d : Nat} (hd : 0 ≤ d) (h : AH) (n : Int32) (r : Int32) : J false mX6_workOut d 159 [(0, .ref 19), (1, .int n)] [.int r] h 181 [(0, .ref 19), (1, .int n), (2, .int r)] [] h := by
  refine J.tr (s_istore_n (q := 160) (ls' := [(2, .int r), (0, .ref 19), (1, .int n)]) dX6_workOut_159 rfl (by decide) rfl) ?_
  refine J.tr (s_goto (q := 181) dX6_workOut_160 (by decide)) ?_
  refine J.tr (s_ls (ls' := [(0, .ref 19), (1, .int n), (2, .int r)]) [1, 2, 0] rfl) ?_
  exact J.rf

set_option maxRecDepth 20000 in
theorem j_X6_workOut_b168_1 {d : Nat} (hd : 0 ≤ d) (h : AH) (n : Int32) (r : Int32) : J false mX6_workOut d 168 [(0, .ref 19), (1, .int n)] [.int r] h 181 [(0, .ref 19), (1, .int n), (2, .int r)] [] h := by
  refine J.tr (s_istore_n (q := 169) (ls' := [(2, .int r), (0, .ref 19), (1, .int n)]) dX6_workOut_168 rfl (by decide) rfl) ?_
  refine J.tr (s_goto (q := 181) dX6_workOut_169 (by decide)) ?_
  refine J.tr (s_ls (ls' := [(0, .ref 19), (1, .int n), (2, .int r)]) [1, 2, 0] rfl) ?_
  exact J.rf

set_option maxRecDepth 20000 in
theorem j_X6_workOut_b177_1 {d : Nat} (hd : 0 ≤ d) (h : AH) (n : Int32) (r : Int32) : J false mX6_workOut d 177 [(0, .ref 19), (1, .int n)] [.int r] h 181 [(0, .ref 19), (1, .int n), (2, .int r)] [] h := by
  refine J.tr (s_istore_n (q := 178) (ls' := [(2, .int r), (0, .ref 19), (1, .int n)]) dX6_workOut_177 rfl (by decide) rfl) ?_
  refine J.tr (s_goto (q := 181) dX6_workOut_178 (by decide)) ?_
  refine J.tr (s_ls (ls' := [(0, .ref 19), (1, .int n), (2, .int r)]) [1, 2, 0] rfl) ?_
  exact J.rf

set_option maxRecDepth 20000 in
theorem j_X6_workOut_c_1 {d : Nat} (hd : 0 ≤ d) (h : AH) (n : Int32) (r : Int32) (c : Nat) (c1 : ¬ r = 0) : E false mX6_workOut d 181 [(0, .ref 19), (1, .int n), (2, .int r)] [] h (some (.int r)) h := by
  refine E.st (s_iload_n (q := 182) dX6_workOut_181 rfl rfl) ?_
  refine E.st (s_if_ne_t (q := 205) dX6_workOut_182 (by decide) c1) ?_
  refine E.st (s_iload_n (q := 206) dX6_workOut_205 rfl rfl) ?_
  exact E.i dX6_workOut_206 rfl rfl rfl rfl

set_option maxRecDepth 20000 in
theorem j_X6_workOut_c_2 {d : Nat} (hd : 1 ≤ d) (h : AH) (n : Int32) (r : Int32) (c : Nat) (c1 : r = 0) (F : Nat → Value) (ho : h.1 19 = ob 6 (fo 10 F)) (e2 : F 2 = .ref c) (v5 : Int32) (e5 : F 5 = .int v5) (v6 : Int64) (e6 : F 6 = .long v6) (v7 : Int32) (e7 : F 7 = .int v7) (F1 : Nat → Value) (ho1 : h.1 c = ob 5 (fo 12 F1)) (c2 : n < 0) : E false mX6_workOut d 181 [(0, .ref 19), (1, .int n), (2, .int r)] [] h (some (.int r)) h := by
  refine E.st (s_iload_n (q := 182) dX6_workOut_181 rfl rfl) ?_
  refine E.st (s_if_ne_f (q := 185) (tg := 205) dX6_workOut_182 (by decide) rfl c1) ?_
  refine E.st (s_aload_n (q := 186) dX6_workOut_185 rfl rfl) ?_
  refine E.st (s_gf (q := 189) (v := .ref c) dX6_workOut_186 rfl fX6_20.l (ho) (by decide) (e2)) ?_
  refine E.st (s_iload_n (q := 190) dX6_workOut_189 rfl rfl) ?_
  refine E.st (s_aload_n (q := 191) dX6_workOut_190 rfl rfl) ?_
  refine E.st (s_gf (q := 194) (v := .int v5) dX6_workOut_191 rfl fX6_69.l (ho) (by decide) (e5)) ?_
  refine E.st (s_aload_n (q := 195) dX6_workOut_194 rfl rfl) ?_
  refine E.st (s_gf (q := 198) (v := .long v6) dX6_workOut_195 rfl fX6_72.l (ho) (by decide) (e6)) ?_
  refine E.st (s_aload_n (q := 199) dX6_workOut_198 rfl rfl) ?_
  refine E.st (s_gf (q := 202) (v := .int v7) dX6_workOut_199 rfl fX6_80.l (ho) (by decide) (e7)) ?_
  refine E.st (p2 := 205) (l2 := [(0, .ref 19), (1, .int n), (2, .int r)]) (s2 := []) (h2 := h) (s_invv (K := mX5_keep) (o := c) (as := [.int n, .int v5, .long v6, .int v7]) (rest := []) (v := none) dX6_workOut_202 rfl lX6_160 (by omega) rfl (Nat.le_of_ble_eq_true rfl) rfl (Nat.le_of_ble_eq_true rfl) (ho1) (p_X5_keep_1 (d := 0) (Nat.le_refl _) h c n v5 v6 v7 c2) (fun h => nomatch h)) ?_
  refine E.st (s_iload_n (q := 206) dX6_workOut_205 rfl rfl) ?_
  exact E.i dX6_workOut_206 rfl rfl rfl rfl

set_option maxRecDepth 20000 in
theorem j_X6_workOut_c_3 {d : Nat} (hd : 1 ≤ d) (h : AH) (n : Int32) (r : Int32) (c : Nat) (c1 : r = 0) (F : Nat → Value) (ho : h.1 19 = ob 6 (fo 10 F)) (e2 : F 2 = .ref c) (v5 : Int32) (e5 : F 5 = .int v5) (v6 : Int64) (e6 : F 6 = .long v6) (v7 : Int32) (e7 : F 7 = .int v7) (F1 : Nat → Value) (ho1 : h.1 c = ob 5 (fo 12 F1)) (c2 : ¬ (n < 0)) (c3 : 60 ≤ n) : E false mX6_workOut d 181 [(0, .ref 19), (1, .int n), (2, .int r)] [] h (some (.int r)) h := by
  refine E.st (s_iload_n (q := 182) dX6_workOut_181 rfl rfl) ?_
  refine E.st (s_if_ne_f (q := 185) (tg := 205) dX6_workOut_182 (by decide) rfl c1) ?_
  refine E.st (s_aload_n (q := 186) dX6_workOut_185 rfl rfl) ?_
  refine E.st (s_gf (q := 189) (v := .ref c) dX6_workOut_186 rfl fX6_20.l (ho) (by decide) (e2)) ?_
  refine E.st (s_iload_n (q := 190) dX6_workOut_189 rfl rfl) ?_
  refine E.st (s_aload_n (q := 191) dX6_workOut_190 rfl rfl) ?_
  refine E.st (s_gf (q := 194) (v := .int v5) dX6_workOut_191 rfl fX6_69.l (ho) (by decide) (e5)) ?_
  refine E.st (s_aload_n (q := 195) dX6_workOut_194 rfl rfl) ?_
  refine E.st (s_gf (q := 198) (v := .long v6) dX6_workOut_195 rfl fX6_72.l (ho) (by decide) (e6)) ?_
  refine E.st (s_aload_n (q := 199) dX6_workOut_198 rfl rfl) ?_
  refine E.st (s_gf (q := 202) (v := .int v7) dX6_workOut_199 rfl fX6_80.l (ho) (by decide) (e7)) ?_
  refine E.st (p2 := 205) (l2 := [(0, .ref 19), (1, .int n), (2, .int r)]) (s2 := []) (h2 := h) (s_invv (K := mX5_keep) (o := c) (as := [.int n, .int v5, .long v6, .int v7]) (rest := []) (v := none) dX6_workOut_202 rfl lX6_160 (by omega) rfl (Nat.le_of_ble_eq_true rfl) rfl (Nat.le_of_ble_eq_true rfl) (ho1) (p_X5_keep_2 (d := 0) (Nat.le_refl _) h c n v5 v6 v7 c2 c3) (fun h => nomatch h)) ?_
  refine E.st (s_iload_n (q := 206) dX6_workOut_205 rfl rfl) ?_
  exact E.i dX6_workOut_206 rfl rfl rfl rfl

set_option maxRecDepth 20000 in
theorem j_X6_workOut_c_4 {d : Nat} (hd : 1 ≤ d) (h : AH) (n : Int32) (r : Int32) (c : Nat) (c1 : r = 0) (F : Nat → Value) (ho : h.1 19 = ob 6 (fo 10 F)) (e2 : F 2 = .ref c) (v5 : Int32) (e5 : F 5 = .int v5) (v6 : Int64) (e6 : F 6 = .long v6) (v7 : Int32) (e7 : F 7 = .int v7) (F1 : Nat → Value) (ho1 : h.1 c = ob 5 (fo 12 F1)) (c2 : ¬ (n < 0)) (c3 : ¬ (60 ≤ n)) (e3 : F1 3 = .ref (c + 1)) (n1 : Nat) (f : Nat → Int32) (ha : h.1 (c + 1) = ia n1 f) (c4 : vp_in n n1) (p : 0 < (c + 1)) (e4 : F1 4 = .ref (c + 2)) (n2 : Nat) (f1 : Nat → Int64) (ha1 : h.1 (c + 2) = la n2 f1) (c5 : vp_in n n2) (e51 : F1 5 = .ref (c + 3)) (n3 : Nat) (f2 : Nat → Int32) (ha2 : h.1 (c + 3) = ia n3 f2) (ne : (c + 3) ≠ (c + 1)) (c6 : vp_in n n3) (p1 : 0 < (c + 3)) : E false mX6_workOut d 181 [(0, .ref 19), (1, .int n), (2, .int r)] [] h (some (.int r)) (hs (hs (hs h (c + 1) (ia n1 (upd f n.toNatClampNeg v5))) (c + 2) (la n2 (vp_updL f1 n.toNatClampNeg v6))) (c + 3) (ia n3 (upd f2 n.toNatClampNeg v7))) := by
  refine E.st (s_iload_n (q := 182) dX6_workOut_181 rfl rfl) ?_
  refine E.st (s_if_ne_f (q := 185) (tg := 205) dX6_workOut_182 (by decide) rfl c1) ?_
  refine E.st (s_aload_n (q := 186) dX6_workOut_185 rfl rfl) ?_
  refine E.st (s_gf (q := 189) (v := .ref c) dX6_workOut_186 rfl fX6_20.l (ho) (by decide) (e2)) ?_
  refine E.st (s_iload_n (q := 190) dX6_workOut_189 rfl rfl) ?_
  refine E.st (s_aload_n (q := 191) dX6_workOut_190 rfl rfl) ?_
  refine E.st (s_gf (q := 194) (v := .int v5) dX6_workOut_191 rfl fX6_69.l (ho) (by decide) (e5)) ?_
  refine E.st (s_aload_n (q := 195) dX6_workOut_194 rfl rfl) ?_
  refine E.st (s_gf (q := 198) (v := .long v6) dX6_workOut_195 rfl fX6_72.l (ho) (by decide) (e6)) ?_
  refine E.st (s_aload_n (q := 199) dX6_workOut_198 rfl rfl) ?_
  refine E.st (s_gf (q := 202) (v := .int v7) dX6_workOut_199 rfl fX6_80.l (ho) (by decide) (e7)) ?_
  refine E.st (p2 := 205) (l2 := [(0, .ref 19), (1, .int n), (2, .int r)]) (s2 := []) (h2 := (hs (hs (hs h (c + 1) (ia n1 (upd f n.toNatClampNeg v5))) (c + 2) (la n2 (vp_updL f1 n.toNatClampNeg v6))) (c + 3) (ia n3 (upd f2 n.toNatClampNeg v7)))) (s_invv (K := mX5_keep) (o := c) (as := [.int n, .int v5, .long v6, .int v7]) (rest := []) (v := none) dX6_workOut_202 rfl lX6_160 (by omega) rfl (Nat.le_of_ble_eq_true rfl) rfl (Nat.le_of_ble_eq_true rfl) (ho1) (p_X5_keep_3 (d := 0) (Nat.le_refl _) h c n v5 v6 v7 c2 c3 F1 ho1 (c + 1) e3 n1 f ha c4 p (c + 2) e4 n2 f1 ha1 c5 (c + 3) e51 n3 f2 ha2 ne c6 p1) (fun h => nomatch h)) ?_
  refine E.st (s_iload_n (q := 206) dX6_workOut_205 rfl rfl) ?_
  exact E.i dX6_workOut_206 rfl rfl rfl rfl

set_option maxRecDepth 20000 in
theorem j_X6_workChoice_a_1 {d : Nat} (hd : 2 ≤ d) (h : AH) (n : Int32) (c : Nat) (F : Nat → Value) (ho : h.1 19 = ob 6 (fo 10 F)) (e2 : F 2 = .ref c) (F1 : Nat → Value) (ho1 : h.1 c = ob 5 (fo 12 F1)) (v7 : Int32) (e7 : F1 7 = .int v7) (v8 : Int32) (e8 : F1 8 = .int v8) (c1 : v7 < v8) (v6 : Int64) (e6 : F1 6 = .long v6) (q : Int32) (en : (((((v6).toUInt64 >>> ((v7 : Int32).toInt64.toUInt64 &&& Int64.toUInt64 63)).toInt64) &&& 1).toInt32) = q) (c2 : ¬ q = (-1)) (c3 : ¬ q = 0) (e0 : F 0 = .ref 2) (F2 : Nat → Value) (ho2 : h.1 2 = ob 2 (fo 6 F2)) (v5 : Int32) (e5 : F2 5 = .int v5) (c4 : ¬ (n < 0) ∧ ¬ (v5 ≤ n)) (e21 : F2 2 = .ref 5) (n1 : Nat) (f : Nat → Int32) (ha : h.1 5 = ia n1 f) (c5 : vp_in n n1) : J false mX6_workChoice d 0 [(0, .ref 19), (1, .int n)] [] h 40 [(0, .ref 19), (1, .int n)] [.int n, .int (f n.toNatClampNeg), .ref 19] (hs h c (ob 5 (fo 12 (va_up F1 7 (.int (v7 + 1)))))) := by
  refine J.tr (s_aload_n (q := 1) dX6_workChoice_0 rfl rfl) ?_
  refine J.tr (s_gf (q := 4) (v := .ref c) dX6_workChoice_1 rfl fX6_20.l (ho) (by decide) (e2)) ?_
  refine J.tr (p2 := 7) (l2 := [(0, .ref 19), (1, .int n)]) (s2 := [.int (((((v6).toUInt64 >>> ((v7 : Int32).toInt64.toUInt64 &&& Int64.toUInt64 63)).toInt64) &&& 1).toInt32)]) (h2 := (hs h c (ob 5 (fo 12 (va_up F1 7 (.int (v7 + 1))))))) (s_invv (K := mX5_decide) (o := c) (as := []) (rest := []) (v := some (.int (((((v6).toUInt64 >>> ((v7 : Int32).toInt64.toUInt64 &&& Int64.toUInt64 63)).toInt64) &&& 1).toInt32))) dX6_workChoice_4 rfl lX6_164 (by omega) rfl (Nat.le_of_ble_eq_true rfl) rfl (Nat.le_of_ble_eq_true rfl) (ho1) (p_X5_decide_1 (d := 0) (Nat.le_refl _) h c F1 ho1 v7 e7 v8 e8 c1 v6 e6) (fun h => nomatch h)) ?_
  refine J.tr (s_nmi en) ?_
  refine J.tr (s_istore_n (q := 8) (ls' := [(2, .int q), (0, .ref 19), (1, .int n)]) dX6_workChoice_7 rfl (by decide) rfl) ?_
  refine J.tr (s_iload_n (q := 9) dX6_workChoice_8 rfl rfl) ?_
  refine J.tr (s_iconst (q := 10) (v := (-1)) dX6_workChoice_9 rfl (by decide)) ?_
  refine J.tr (s_icmp_ne_t (q := 15) dX6_workChoice_10 (by decide) c2) ?_
  refine J.tr (s_aload_n (q := 16) dX6_workChoice_15 rfl rfl) ?_
  refine J.tr (s_iload_n (q := 17) dX6_workChoice_16 rfl rfl) ?_
  refine J.tr (s_if_ne_t (q := 31) dX6_workChoice_17 (by decide) c3) ?_
  refine J.tr (s_aload_n (q := 32) dX6_workChoice_31 rfl rfl) ?_
  refine J.tr (s_gf (q := 35) (v := .ref 2) dX6_workChoice_32 rfl fX6_36.l ((hs_ne (ne_oo ho ho1 (by decide))).trans (ho)) (by decide) (e0)) ?_
  refine J.tr (s_iload_n (q := 36) dX6_workChoice_35 rfl rfl) ?_
  refine J.tr (p2 := 39) (l2 := [(2, .int q), (0, .ref 19), (1, .int n)]) (s2 := [.int (f n.toNatClampNeg), .ref 19]) (h2 := (hs h c (ob 5 (fo 12 (va_up F1 7 (.int (v7 + 1))))))) (s_invv (K := mX2_secondOf) (o := 2) (as := [.int n]) (rest := [.ref 19]) (v := some (.int (f n.toNatClampNeg))) dX6_workChoice_36 rfl lX6_95 (by omega) rfl (Nat.le_of_ble_eq_true rfl) rfl (Nat.le_of_ble_eq_true rfl) ((hs_ne (ne_oo ho2 ho1 (by decide))).trans (ho2)) (p_X2_secondOf_n (d := 1) (Nat.le_refl _) (hs h c (ob 5 (fo 12 (va_up F1 7 (.int (v7 + 1)))))) 2 n F2 ((hs_ne (ne_oo ho2 ho1 (by decide))).trans (ho2)) v5 e5 c4 5 e21 n1 f ((hs_ne (Ne.symm (ne_oi ho1 ha))).trans (ha)) c5 (by decide)) (fun h => nomatch h)) ?_
  refine J.tr (s_iload_n (q := 40) dX6_workChoice_39 rfl rfl) ?_
  refine J.tr (s_ls (ls' := [(0, .ref 19), (1, .int n)]) [1, 2] rfl) ?_
  exact J.rf

set_option maxRecDepth 20000 in
theorem j_X6_workChoice_a_2 {d : Nat} (hd : 2 ≤ d) (h : AH) (n : Int32) (c : Nat) (F : Nat → Value) (ho : h.1 19 = ob 6 (fo 10 F)) (e2 : F 2 = .ref c) (F1 : Nat → Value) (ho1 : h.1 c = ob 5 (fo 12 F1)) (v7 : Int32) (e7 : F1 7 = .int v7) (v8 : Int32) (e8 : F1 8 = .int v8) (c1 : v7 < v8) (v6 : Int64) (e6 : F1 6 = .long v6) (q : Int32) (en : (((((v6).toUInt64 >>> ((v7 : Int32).toInt64.toUInt64 &&& Int64.toUInt64 63)).toInt64) &&& 1).toInt32) = q) (c2 : ¬ q = (-1)) (c3 : q = 0) (e0 : F 0 = .ref 2) (F2 : Nat → Value) (ho2 : h.1 2 = ob 2 (fo 6 F2)) (v5 : Int32) (e5 : F2 5 = .int v5) (c4 : ¬ (n < 0) ∧ ¬ (v5 ≤ n)) (e1 : F2 1 = .ref 4) (n1 : Nat) (f : Nat → Int32) (ha : h.1 4 = ia n1 f) (c5 : vp_in n n1) : J false mX6_workChoice d 0 [(0, .ref 19), (1, .int n)] [] h 40 [(0, .ref 19), (1, .int n)] [.int n, .int (f n.toNatClampNeg), .ref 19] (hs h c (ob 5 (fo 12 (va_up F1 7 (.int (v7 + 1)))))) := by
  refine J.tr (s_aload_n (q := 1) dX6_workChoice_0 rfl rfl) ?_
  refine J.tr (s_gf (q := 4) (v := .ref c) dX6_workChoice_1 rfl fX6_20.l (ho) (by decide) (e2)) ?_
  refine J.tr (p2 := 7) (l2 := [(0, .ref 19), (1, .int n)]) (s2 := [.int (((((v6).toUInt64 >>> ((v7 : Int32).toInt64.toUInt64 &&& Int64.toUInt64 63)).toInt64) &&& 1).toInt32)]) (h2 := (hs h c (ob 5 (fo 12 (va_up F1 7 (.int (v7 + 1))))))) (s_invv (K := mX5_decide) (o := c) (as := []) (rest := []) (v := some (.int (((((v6).toUInt64 >>> ((v7 : Int32).toInt64.toUInt64 &&& Int64.toUInt64 63)).toInt64) &&& 1).toInt32))) dX6_workChoice_4 rfl lX6_164 (by omega) rfl (Nat.le_of_ble_eq_true rfl) rfl (Nat.le_of_ble_eq_true rfl) (ho1) (p_X5_decide_1 (d := 0) (Nat.le_refl _) h c F1 ho1 v7 e7 v8 e8 c1 v6 e6) (fun h => nomatch h)) ?_
  refine J.tr (s_nmi en) ?_
  refine J.tr (s_istore_n (q := 8) (ls' := [(2, .int q), (0, .ref 19), (1, .int n)]) dX6_workChoice_7 rfl (by decide) rfl) ?_
  refine J.tr (s_iload_n (q := 9) dX6_workChoice_8 rfl rfl) ?_
  refine J.tr (s_iconst (q := 10) (v := (-1)) dX6_workChoice_9 rfl (by decide)) ?_
  refine J.tr (s_icmp_ne_t (q := 15) dX6_workChoice_10 (by decide) c2) ?_
  refine J.tr (s_aload_n (q := 16) dX6_workChoice_15 rfl rfl) ?_
  refine J.tr (s_iload_n (q := 17) dX6_workChoice_16 rfl rfl) ?_
  refine J.tr (s_if_ne_f (q := 20) (tg := 31) dX6_workChoice_17 (by decide) rfl c3) ?_
  refine J.tr (s_aload_n (q := 21) dX6_workChoice_20 rfl rfl) ?_
  refine J.tr (s_gf (q := 24) (v := .ref 2) dX6_workChoice_21 rfl fX6_36.l ((hs_ne (ne_oo ho ho1 (by decide))).trans (ho)) (by decide) (e0)) ?_
  refine J.tr (s_iload_n (q := 25) dX6_workChoice_24 rfl rfl) ?_
  refine J.tr (p2 := 28) (l2 := [(2, .int q), (0, .ref 19), (1, .int n)]) (s2 := [.int (f n.toNatClampNeg), .ref 19]) (h2 := (hs h c (ob 5 (fo 12 (va_up F1 7 (.int (v7 + 1))))))) (s_invv (K := mX2_firstOf) (o := 2) (as := [.int n]) (rest := [.ref 19]) (v := some (.int (f n.toNatClampNeg))) dX6_workChoice_25 rfl lX6_89 (by omega) rfl (Nat.le_of_ble_eq_true rfl) rfl (Nat.le_of_ble_eq_true rfl) ((hs_ne (ne_oo ho2 ho1 (by decide))).trans (ho2)) (p_X2_firstOf_n (d := 1) (Nat.le_refl _) (hs h c (ob 5 (fo 12 (va_up F1 7 (.int (v7 + 1)))))) 2 n F2 ((hs_ne (ne_oo ho2 ho1 (by decide))).trans (ho2)) v5 e5 c4 4 e1 n1 f ((hs_ne (Ne.symm (ne_oi ho1 ha))).trans (ha)) c5 (by decide)) (fun h => nomatch h)) ?_
  refine J.tr (s_goto (q := 39) dX6_workChoice_28 (by decide)) ?_
  refine J.tr (s_iload_n (q := 40) dX6_workChoice_39 rfl rfl) ?_
  refine J.tr (s_ls (ls' := [(0, .ref 19), (1, .int n)]) [1, 2] rfl) ?_
  exact J.rf

set_option maxRecDepth 20000 in
theorem j_X6_workChoice_a_3 {d : Nat} (hd : 1 ≤ d) (h : AH) (n : Int32) (c : Nat) (F : Nat → Value) (ho : h.1 19 = ob 6 (fo 10 F)) (e2 : F 2 = .ref c) (F1 : Nat → Value) (ho1 : h.1 c = ob 5 (fo 12 F1)) (v7 : Int32) (e7 : F1 7 = .int v7) (v8 : Int32) (e8 : F1 8 = .int v8) (c1 : v7 < v8) (v6 : Int64) (e6 : F1 6 = .long v6) (q : Int32) (en : (((((v6).toUInt64 >>> ((v7 : Int32).toInt64.toUInt64 &&& Int64.toUInt64 63)).toInt64) &&& 1).toInt32) = q) (c2 : q = (-1)) : E false mX6_workChoice d 0 [(0, .ref 19), (1, .int n)] [] h (some (.int 3)) (hs h c (ob 5 (fo 12 (va_up F1 7 (.int (v7 + 1)))))) := by
  refine E.st (s_aload_n (q := 1) dX6_workChoice_0 rfl rfl) ?_
  refine E.st (s_gf (q := 4) (v := .ref c) dX6_workChoice_1 rfl fX6_20.l (ho) (by decide) (e2)) ?_
  refine E.st (p2 := 7) (l2 := [(0, .ref 19), (1, .int n)]) (s2 := [.int (((((v6).toUInt64 >>> ((v7 : Int32).toInt64.toUInt64 &&& Int64.toUInt64 63)).toInt64) &&& 1).toInt32)]) (h2 := (hs h c (ob 5 (fo 12 (va_up F1 7 (.int (v7 + 1))))))) (s_invv (K := mX5_decide) (o := c) (as := []) (rest := []) (v := some (.int (((((v6).toUInt64 >>> ((v7 : Int32).toInt64.toUInt64 &&& Int64.toUInt64 63)).toInt64) &&& 1).toInt32))) dX6_workChoice_4 rfl lX6_164 (by omega) rfl (Nat.le_of_ble_eq_true rfl) rfl (Nat.le_of_ble_eq_true rfl) (ho1) (p_X5_decide_1 (d := 0) (Nat.le_refl _) h c F1 ho1 v7 e7 v8 e8 c1 v6 e6) (fun h => nomatch h)) ?_
  refine E.st (s_nmi en) ?_
  refine E.st (s_istore_n (q := 8) (ls' := [(2, .int q), (0, .ref 19), (1, .int n)]) dX6_workChoice_7 rfl (by decide) rfl) ?_
  refine E.st (s_iload_n (q := 9) dX6_workChoice_8 rfl rfl) ?_
  refine E.st (s_iconst (q := 10) (v := (-1)) dX6_workChoice_9 rfl (by decide)) ?_
  refine E.st (s_icmp_ne_f (q := 13) (tg := 15) dX6_workChoice_10 (by decide) rfl c2) ?_
  refine E.st (s_iconst (q := 14) (v := 3) dX6_workChoice_13 rfl (by decide)) ?_
  exact E.i dX6_workChoice_14 rfl rfl rfl rfl

set_option maxRecDepth 20000 in
theorem j_X6_workChoice_a_4 {d : Nat} (hd : 1 ≤ d) (h : AH) (n : Int32) (c : Nat) (F : Nat → Value) (ho : h.1 19 = ob 6 (fo 10 F)) (e2 : F 2 = .ref c) (F1 : Nat → Value) (ho1 : h.1 c = ob 5 (fo 12 F1)) (v7 : Int32) (e7 : F1 7 = .int v7) (v8 : Int32) (e8 : F1 8 = .int v8) (c1 : ¬ (v7 < v8)) : E false mX6_workChoice d 0 [(0, .ref 19), (1, .int n)] [] h (some (.int 3)) h := by
  refine E.st (s_aload_n (q := 1) dX6_workChoice_0 rfl rfl) ?_
  refine E.st (s_gf (q := 4) (v := .ref c) dX6_workChoice_1 rfl fX6_20.l (ho) (by decide) (e2)) ?_
  refine E.st (p2 := 7) (l2 := [(0, .ref 19), (1, .int n)]) (s2 := [.int (-1)]) (h2 := h) (s_invv (K := mX5_decide) (o := c) (as := []) (rest := []) (v := some (.int (-1))) dX6_workChoice_4 rfl lX6_164 (by omega) rfl (Nat.le_of_ble_eq_true rfl) rfl (Nat.le_of_ble_eq_true rfl) (ho1) (p_X5_decide_2 (d := 0) (Nat.le_refl _) h c F1 ho1 v7 e7 v8 e8 c1) (fun h => nomatch h)) ?_
  refine E.st (s_istore_n (q := 8) (ls' := [(2, .int (-1)), (0, .ref 19), (1, .int n)]) dX6_workChoice_7 rfl (by decide) rfl) ?_
  refine E.st (s_iload_n (q := 9) dX6_workChoice_8 rfl rfl) ?_
  refine E.st (s_iconst (q := 10) (v := (-1)) dX6_workChoice_9 rfl (by decide)) ?_
  refine E.st (s_icmp_ne_f (q := 13) (tg := 15) dX6_workChoice_10 (by decide) rfl (by decide)) ?_
  refine E.st (s_iconst (q := 14) (v := 3) dX6_workChoice_13 rfl (by decide)) ?_
  exact E.i dX6_workChoice_14 rfl rfl rfl rfl

set_option maxRecDepth 20000 in
theorem j_X6_workChoice_b_1 {d : Nat} (hd : 0 ≤ d) (h : AH) (n : Int32) (r : Int32) : E false mX6_workChoice d 43 [(0, .ref 19), (1, .int n)] [.int r] h (some (.int r)) h := by
  exact E.i dX6_workChoice_43 rfl rfl rfl rfl

set_option maxRecDepth 20000 in
theorem j_X6_workPart_a_1 {d : Nat} (hd : 2 ≤ d) (h : AH) (n : Int32) (s : Int32) (c : Nat) (F : Nat → Value) (ho : h.1 19 = ob 6 (fo 10 F)) (e0 : F 0 = .ref 2) (F1 : Nat → Value) (ho1 : h.1 2 = ob 2 (fo 6 F1)) (v5 : Int32) (e5 : F1 5 = .int v5) (c1 : ¬ (n < 0) ∧ ¬ (v5 ≤ n)) (e1 : F1 1 = .ref 4) (n1 : Nat) (f : Nat → Int32) (ha : h.1 4 = ia n1 f) (c2 : vp_in n n1) : J false mX6_workPart d 0 [(0, .ref 19), (1, .int n), (2, .int s)] [] h 10 [(0, .ref 19), (1, .int n), (2, .int s)] [.int n, .int (f n.toNatClampNeg), .ref 19] h := by
  refine J.tr (s_aload_n (q := 1) dX6_workPart_0 rfl rfl) ?_
  refine J.tr (s_aload_n (q := 2) dX6_workPart_1 rfl rfl) ?_
  refine J.tr (s_gf (q := 5) (v := .ref 2) dX6_workPart_2 rfl fX6_36.l (ho) (by decide) (e0)) ?_
  refine J.tr (s_iload_n (q := 6) dX6_workPart_5 rfl rfl) ?_
  refine J.tr (p2 := 9) (l2 := [(0, .ref 19), (1, .int n), (2, .int s)]) (s2 := [.int (f n.toNatClampNeg), .ref 19]) (h2 := h) (s_invv (K := mX2_firstOf) (o := 2) (as := [.int n]) (rest := [.ref 19]) (v := some (.int (f n.toNatClampNeg))) dX6_workPart_6 rfl lX6_89 (by omega) rfl (Nat.le_of_ble_eq_true rfl) rfl (Nat.le_of_ble_eq_true rfl) (ho1) (p_X2_firstOf_n (d := 1) (Nat.le_refl _) h 2 n F1 ho1 v5 e5 c1 4 e1 n1 f ha c2 (by decide)) (fun h => nomatch h)) ?_
  refine J.tr (s_iload_n (q := 10) dX6_workPart_9 rfl rfl) ?_
  exact J.rf

set_option maxRecDepth 20000 in
theorem j_X6_workPart_b_1 {d : Nat} (hd : 2 ≤ d) (h : AH) (n : Int32) (s : Int32) (r : Int32) (c : Nat) (c1 : r = 0) (F : Nat → Value) (ho : h.1 19 = ob 6 (fo 10 F)) (v5 : Int32) (e5 : F 5 = .int v5) (c2 : v5 = 1) (v6 : Int64) (e6 : F 6 = .long v6) (p : Int32) (en : (v6.toInt32) = p) (c3 : s = 0) (e0 : F 0 = .ref 2) (F1 : Nat → Value) (ho1 : h.1 2 = ob 2 (fo 6 F1)) (v51 : Int32) (e51 : F1 5 = .int v51) (c4 : ¬ (p < 0) ∧ ¬ (v51 ≤ p)) (e1 : F1 1 = .ref 4) (n1 : Nat) (f : Nat → Int32) (ha : h.1 4 = ia n1 f) (c5 : vp_in p n1) : J false mX6_workPart d 13 [(0, .ref 19), (1, .int n), (2, .int s)] [.int r] h 64 [(0, .ref 19), (1, .int n), (2, .int s)] [.int n, .int (f p.toNatClampNeg), .ref 19] h := by
  refine J.tr (s_istore_n (q := 14) (ls' := [(3, .int r), (0, .ref 19), (1, .int n), (2, .int s)]) dX6_workPart_13 rfl (by decide) rfl) ?_
  refine J.tr (s_iload_n (q := 15) dX6_workPart_14 rfl rfl) ?_
  refine J.tr (s_if_eq_t (q := 20) dX6_workPart_15 (by decide) c1) ?_
  refine J.tr (s_aload_n (q := 21) dX6_workPart_20 rfl rfl) ?_
  refine J.tr (s_gf (q := 24) (v := .int v5) dX6_workPart_21 rfl fX6_69.l (ho) (by decide) (e5)) ?_
  refine J.tr (s_iconst (q := 25) (v := 1) dX6_workPart_24 rfl (by decide)) ?_
  refine J.tr (s_icmp_eq_t (q := 30) dX6_workPart_25 (by decide) c2) ?_
  refine J.tr (s_aload_n (q := 31) dX6_workPart_30 rfl rfl) ?_
  refine J.tr (s_gf (q := 34) (v := .long v6) dX6_workPart_31 rfl fX6_72.l (ho) (by decide) (e6)) ?_
  refine J.tr (s_l2i (q := 35) dX6_workPart_34 rfl) ?_
  refine J.tr (s_nmi en) ?_
  refine J.tr (s_istore (q := 37) (ls' := [(4, .int p), (3, .int r), (0, .ref 19), (1, .int n), (2, .int s)]) dX6_workPart_35 rfl (by decide) rfl) ?_
  refine J.tr (s_aload_n (q := 38) dX6_workPart_37 rfl rfl) ?_
  refine J.tr (s_iload_n (q := 39) dX6_workPart_38 rfl rfl) ?_
  refine J.tr (s_if_eq_t (q := 54) dX6_workPart_39 (by decide) c3) ?_
  refine J.tr (s_aload_n (q := 55) dX6_workPart_54 rfl rfl) ?_
  refine J.tr (s_gf (q := 58) (v := .ref 2) dX6_workPart_55 rfl fX6_36.l (ho) (by decide) (e0)) ?_
  refine J.tr (s_iload (q := 60) dX6_workPart_58 rfl rfl) ?_
  refine J.tr (p2 := 63) (l2 := [(4, .int p), (3, .int r), (0, .ref 19), (1, .int n), (2, .int s)]) (s2 := [.int (f p.toNatClampNeg), .ref 19]) (h2 := h) (s_invv (K := mX2_firstOf) (o := 2) (as := [.int p]) (rest := [.ref 19]) (v := some (.int (f p.toNatClampNeg))) dX6_workPart_60 rfl lX6_89 (by omega) rfl (Nat.le_of_ble_eq_true rfl) rfl (Nat.le_of_ble_eq_true rfl) (ho1) (p_X2_firstOf_n (d := 1) (Nat.le_refl _) h 2 p F1 ho1 v51 e51 c4 4 e1 n1 f ha c5 (by decide)) (fun h => nomatch h)) ?_
  refine J.tr (s_iload_n (q := 64) dX6_workPart_63 rfl rfl) ?_
  refine J.tr (s_ls (ls' := [(0, .ref 19), (1, .int n), (2, .int s)]) [2, 3, 4] rfl) ?_
  exact J.rf

set_option maxRecDepth 20000 in
theorem j_X6_workPart_b_2 {d : Nat} (hd : 2 ≤ d) (h : AH) (n : Int32) (s : Int32) (r : Int32) (c : Nat) (c1 : r = 0) (F : Nat → Value) (ho : h.1 19 = ob 6 (fo 10 F)) (v5 : Int32) (e5 : F 5 = .int v5) (c2 : v5 = 1) (v6 : Int64) (e6 : F 6 = .long v6) (p : Int32) (en : (v6.toInt32) = p) (c3 : ¬ (s = 0)) (e0 : F 0 = .ref 2) (F1 : Nat → Value) (ho1 : h.1 2 = ob 2 (fo 6 F1)) (v51 : Int32) (e51 : F1 5 = .int v51) (c4 : ¬ (p < 0) ∧ ¬ (v51 ≤ p)) (e2 : F1 2 = .ref 5) (n1 : Nat) (f : Nat → Int32) (ha : h.1 5 = ia n1 f) (c5 : vp_in p n1) : J false mX6_workPart d 13 [(0, .ref 19), (1, .int n), (2, .int s)] [.int r] h 64 [(0, .ref 19), (1, .int n), (2, .int s)] [.int n, .int (f p.toNatClampNeg), .ref 19] h := by
  refine J.tr (s_istore_n (q := 14) (ls' := [(3, .int r), (0, .ref 19), (1, .int n), (2, .int s)]) dX6_workPart_13 rfl (by decide) rfl) ?_
  refine J.tr (s_iload_n (q := 15) dX6_workPart_14 rfl rfl) ?_
  refine J.tr (s_if_eq_t (q := 20) dX6_workPart_15 (by decide) c1) ?_
  refine J.tr (s_aload_n (q := 21) dX6_workPart_20 rfl rfl) ?_
  refine J.tr (s_gf (q := 24) (v := .int v5) dX6_workPart_21 rfl fX6_69.l (ho) (by decide) (e5)) ?_
  refine J.tr (s_iconst (q := 25) (v := 1) dX6_workPart_24 rfl (by decide)) ?_
  refine J.tr (s_icmp_eq_t (q := 30) dX6_workPart_25 (by decide) c2) ?_
  refine J.tr (s_aload_n (q := 31) dX6_workPart_30 rfl rfl) ?_
  refine J.tr (s_gf (q := 34) (v := .long v6) dX6_workPart_31 rfl fX6_72.l (ho) (by decide) (e6)) ?_
  refine J.tr (s_l2i (q := 35) dX6_workPart_34 rfl) ?_
  refine J.tr (s_nmi en) ?_
  refine J.tr (s_istore (q := 37) (ls' := [(4, .int p), (3, .int r), (0, .ref 19), (1, .int n), (2, .int s)]) dX6_workPart_35 rfl (by decide) rfl) ?_
  refine J.tr (s_aload_n (q := 38) dX6_workPart_37 rfl rfl) ?_
  refine J.tr (s_iload_n (q := 39) dX6_workPart_38 rfl rfl) ?_
  refine J.tr (s_if_eq_f (q := 42) (tg := 54) dX6_workPart_39 (by decide) rfl c3) ?_
  refine J.tr (s_aload_n (q := 43) dX6_workPart_42 rfl rfl) ?_
  refine J.tr (s_gf (q := 46) (v := .ref 2) dX6_workPart_43 rfl fX6_36.l (ho) (by decide) (e0)) ?_
  refine J.tr (s_iload (q := 48) dX6_workPart_46 rfl rfl) ?_
  refine J.tr (p2 := 51) (l2 := [(4, .int p), (3, .int r), (0, .ref 19), (1, .int n), (2, .int s)]) (s2 := [.int (f p.toNatClampNeg), .ref 19]) (h2 := h) (s_invv (K := mX2_secondOf) (o := 2) (as := [.int p]) (rest := [.ref 19]) (v := some (.int (f p.toNatClampNeg))) dX6_workPart_48 rfl lX6_95 (by omega) rfl (Nat.le_of_ble_eq_true rfl) rfl (Nat.le_of_ble_eq_true rfl) (ho1) (p_X2_secondOf_n (d := 1) (Nat.le_refl _) h 2 p F1 ho1 v51 e51 c4 5 e2 n1 f ha c5 (by decide)) (fun h => nomatch h)) ?_
  refine J.tr (s_goto (q := 63) dX6_workPart_51 (by decide)) ?_
  refine J.tr (s_iload_n (q := 64) dX6_workPart_63 rfl rfl) ?_
  refine J.tr (s_ls (ls' := [(0, .ref 19), (1, .int n), (2, .int s)]) [2, 3, 4] rfl) ?_
  exact J.rf

set_option maxRecDepth 20000 in
theorem j_X6_workPart_b_3 {d : Nat} (hd : 0 ≤ d) (h : AH) (n : Int32) (s : Int32) (r : Int32) (c : Nat) (c1 : r = 0) (F : Nat → Value) (ho : h.1 19 = ob 6 (fo 10 F)) (v5 : Int32) (e5 : F 5 = .int v5) (c2 : ¬ (v5 = 1)) : E false mX6_workPart d 13 [(0, .ref 19), (1, .int n), (2, .int s)] [.int r] h (some (.int 1)) h := by
  refine E.st (s_istore_n (q := 14) (ls' := [(3, .int r), (0, .ref 19), (1, .int n), (2, .int s)]) dX6_workPart_13 rfl (by decide) rfl) ?_
  refine E.st (s_iload_n (q := 15) dX6_workPart_14 rfl rfl) ?_
  refine E.st (s_if_eq_t (q := 20) dX6_workPart_15 (by decide) c1) ?_
  refine E.st (s_aload_n (q := 21) dX6_workPart_20 rfl rfl) ?_
  refine E.st (s_gf (q := 24) (v := .int v5) dX6_workPart_21 rfl fX6_69.l (ho) (by decide) (e5)) ?_
  refine E.st (s_iconst (q := 25) (v := 1) dX6_workPart_24 rfl (by decide)) ?_
  refine E.st (s_icmp_eq_f (q := 28) (tg := 30) dX6_workPart_25 (by decide) rfl c2) ?_
  refine E.st (s_iconst (q := 29) (v := 1) dX6_workPart_28 rfl (by decide)) ?_
  exact E.i dX6_workPart_29 rfl rfl rfl rfl

set_option maxRecDepth 20000 in
theorem j_X6_workPart_b_4 {d : Nat} (hd : 0 ≤ d) (h : AH) (n : Int32) (s : Int32) (r : Int32) (c : Nat) (c1 : ¬ (r = 0)) : E false mX6_workPart d 13 [(0, .ref 19), (1, .int n), (2, .int s)] [.int r] h (some (.int r)) h := by
  refine E.st (s_istore_n (q := 14) (ls' := [(3, .int r), (0, .ref 19), (1, .int n), (2, .int s)]) dX6_workPart_13 rfl (by decide) rfl) ?_
  refine E.st (s_iload_n (q := 15) dX6_workPart_14 rfl rfl) ?_
  refine E.st (s_if_eq_f (q := 18) (tg := 20) dX6_workPart_15 (by decide) rfl c1) ?_
  refine E.st (s_iload_n (q := 19) dX6_workPart_18 rfl rfl) ?_
  exact E.i dX6_workPart_19 rfl rfl rfl rfl

set_option maxRecDepth 20000 in
theorem j_X6_workPart_c_1 {d : Nat} (hd : 0 ≤ d) (h : AH) (n : Int32) (s : Int32) (r : Int32) : E false mX6_workPart d 67 [(0, .ref 19), (1, .int n), (2, .int s)] [.int r] h (some (.int r)) h := by
  exact E.i dX6_workPart_67 rfl rfl rfl rfl

set_option maxRecDepth 20000 in
theorem j_X6_workOp_a_1 {d : Nat} (hd : 2 ≤ d) (h : AH) (n : Int32) (c : Nat) (F : Nat → Value) (ho : h.1 19 = ob 6 (fo 10 F)) (e0 : F 0 = .ref 2) (F1 : Nat → Value) (ho1 : h.1 2 = ob 2 (fo 6 F1)) (v5 : Int32) (e5 : F1 5 = .int v5) (c1 : ¬ (n < 0) ∧ ¬ (v5 ≤ n)) (e1 : F1 1 = .ref 4) (n1 : Nat) (f : Nat → Int32) (ha : h.1 4 = ia n1 f) (c2 : vp_in n n1) : J false mX6_workOp d 0 [(0, .ref 19), (1, .int n)] [] h 10 [(0, .ref 19), (1, .int n)] [.int n, .int (f n.toNatClampNeg), .ref 19] h := by
  refine J.tr (s_aload_n (q := 1) dX6_workOp_0 rfl rfl) ?_
  refine J.tr (s_aload_n (q := 2) dX6_workOp_1 rfl rfl) ?_
  refine J.tr (s_gf (q := 5) (v := .ref 2) dX6_workOp_2 rfl fX6_36.l (ho) (by decide) (e0)) ?_
  refine J.tr (s_iload_n (q := 6) dX6_workOp_5 rfl rfl) ?_
  refine J.tr (p2 := 9) (l2 := [(0, .ref 19), (1, .int n)]) (s2 := [.int (f n.toNatClampNeg), .ref 19]) (h2 := h) (s_invv (K := mX2_firstOf) (o := 2) (as := [.int n]) (rest := [.ref 19]) (v := some (.int (f n.toNatClampNeg))) dX6_workOp_6 rfl lX6_89 (by omega) rfl (Nat.le_of_ble_eq_true rfl) rfl (Nat.le_of_ble_eq_true rfl) (ho1) (p_X2_firstOf_n (d := 1) (Nat.le_refl _) h 2 n F1 ho1 v5 e5 c1 4 e1 n1 f ha c2 (by decide)) (fun h => nomatch h)) ?_
  refine J.tr (s_iload_n (q := 10) dX6_workOp_9 rfl rfl) ?_
  exact J.rf

set_option maxRecDepth 20000 in
theorem j_X6_workOp_b_1 {d : Nat} (hd : 2 ≤ d) (h : AH) (n : Int32) (r : Int32) (c : Nat) (c1 : r = 0) (F : Nat → Value) (ho : h.1 19 = ob 6 (fo 10 F)) (v5 : Int32) (e5 : F 5 = .int v5) (c2 : v5 = 0) (v6 : Int64) (e6 : F 6 = .long v6) (e0 : F 0 = .ref 2) (F1 : Nat → Value) (ho1 : h.1 2 = ob 2 (fo 6 F1)) (v51 : Int32) (e51 : F1 5 = .int v51) (c3 : ¬ (n < 0) ∧ ¬ (v51 ≤ n)) (e2 : F1 2 = .ref 5) (n1 : Nat) (f : Nat → Int32) (ha : h.1 5 = ia n1 f) (c4 : vp_in n n1) : J false mX6_workOp d 13 [(0, .ref 19), (1, .int n)] [.int r] h 44 [(0, .ref 19), (1, .int n), (3, .long v6)] [.int n, .int (f n.toNatClampNeg), .ref 19] h := by
  refine J.tr (s_istore_n (q := 14) (ls' := [(2, .int r), (0, .ref 19), (1, .int n)]) dX6_workOp_13 rfl (by decide) rfl) ?_
  refine J.tr (s_iload_n (q := 15) dX6_workOp_14 rfl rfl) ?_
  refine J.tr (s_if_eq_t (q := 20) dX6_workOp_15 (by decide) c1) ?_
  refine J.tr (s_aload_n (q := 21) dX6_workOp_20 rfl rfl) ?_
  refine J.tr (s_gf (q := 24) (v := .int v5) dX6_workOp_21 rfl fX6_69.l (ho) (by decide) (e5)) ?_
  refine J.tr (s_if_eq_t (q := 29) dX6_workOp_24 (by decide) c2) ?_
  refine J.tr (s_aload_n (q := 30) dX6_workOp_29 rfl rfl) ?_
  refine J.tr (s_gf (q := 33) (v := .long v6) dX6_workOp_30 rfl fX6_72.l (ho) (by decide) (e6)) ?_
  refine J.tr (s_lstore_n (q := 34) (ls' := [(3, .long v6), (2, .int r), (0, .ref 19), (1, .int n)]) dX6_workOp_33 rfl (by decide) rfl) ?_
  refine J.tr (s_aload_n (q := 35) dX6_workOp_34 rfl rfl) ?_
  refine J.tr (s_aload_n (q := 36) dX6_workOp_35 rfl rfl) ?_
  refine J.tr (s_gf (q := 39) (v := .ref 2) dX6_workOp_36 rfl fX6_36.l (ho) (by decide) (e0)) ?_
  refine J.tr (s_iload_n (q := 40) dX6_workOp_39 rfl rfl) ?_
  refine J.tr (p2 := 43) (l2 := [(3, .long v6), (2, .int r), (0, .ref 19), (1, .int n)]) (s2 := [.int (f n.toNatClampNeg), .ref 19]) (h2 := h) (s_invv (K := mX2_secondOf) (o := 2) (as := [.int n]) (rest := [.ref 19]) (v := some (.int (f n.toNatClampNeg))) dX6_workOp_40 rfl lX6_95 (by omega) rfl (Nat.le_of_ble_eq_true rfl) rfl (Nat.le_of_ble_eq_true rfl) (ho1) (p_X2_secondOf_n (d := 1) (Nat.le_refl _) h 2 n F1 ho1 v51 e51 c3 5 e2 n1 f ha c4 (by decide)) (fun h => nomatch h)) ?_
  refine J.tr (s_iload_n (q := 44) dX6_workOp_43 rfl rfl) ?_
  refine J.tr (s_ls (ls' := [(0, .ref 19), (1, .int n), (3, .long v6)]) [2, 3, 0] rfl) ?_
  exact J.rf

set_option maxRecDepth 20000 in
theorem j_X6_workOp_b_2 {d : Nat} (hd : 0 ≤ d) (h : AH) (n : Int32) (r : Int32) (c : Nat) (c1 : r = 0) (F : Nat → Value) (ho : h.1 19 = ob 6 (fo 10 F)) (v5 : Int32) (e5 : F 5 = .int v5) (c2 : ¬ (v5 = 0)) : E false mX6_workOp d 13 [(0, .ref 19), (1, .int n)] [.int r] h (some (.int 1)) h := by
  refine E.st (s_istore_n (q := 14) (ls' := [(2, .int r), (0, .ref 19), (1, .int n)]) dX6_workOp_13 rfl (by decide) rfl) ?_
  refine E.st (s_iload_n (q := 15) dX6_workOp_14 rfl rfl) ?_
  refine E.st (s_if_eq_t (q := 20) dX6_workOp_15 (by decide) c1) ?_
  refine E.st (s_aload_n (q := 21) dX6_workOp_20 rfl rfl) ?_
  refine E.st (s_gf (q := 24) (v := .int v5) dX6_workOp_21 rfl fX6_69.l (ho) (by decide) (e5)) ?_
  refine E.st (s_if_eq_f (q := 27) (tg := 29) dX6_workOp_24 (by decide) rfl c2) ?_
  refine E.st (s_iconst (q := 28) (v := 1) dX6_workOp_27 rfl (by decide)) ?_
  exact E.i dX6_workOp_28 rfl rfl rfl rfl

set_option maxRecDepth 20000 in
theorem j_X6_workOp_b_3 {d : Nat} (hd : 0 ≤ d) (h : AH) (n : Int32) (r : Int32) (c : Nat) (c1 : ¬ (r = 0)) : E false mX6_workOp d 13 [(0, .ref 19), (1, .int n)] [.int r] h (some (.int r)) h := by
  refine E.st (s_istore_n (q := 14) (ls' := [(2, .int r), (0, .ref 19), (1, .int n)]) dX6_workOp_13 rfl (by decide) rfl) ?_
  refine E.st (s_iload_n (q := 15) dX6_workOp_14 rfl rfl) ?_
  refine E.st (s_if_eq_f (q := 18) (tg := 20) dX6_workOp_15 (by decide) rfl c1) ?_
  refine E.st (s_iload_n (q := 19) dX6_workOp_18 rfl rfl) ?_
  exact E.i dX6_workOp_19 rfl rfl rfl rfl

set_option maxRecDepth 20000 in
theorem j_X6_workOp_c_1 {d : Nat} (hd : 0 ≤ d) (h : AH) (n : Int32) (a : Int64) (r : Int32) (c : Nat) (c1 : r = 0) (F : Nat → Value) (ho : h.1 19 = ob 6 (fo 10 F)) (v5 : Int32) (e5 : F 5 = .int v5) (c2 : ¬ v5 = 0) : E false mX6_workOp d 47 [(0, .ref 19), (1, .int n), (3, .long a)] [.int r] h (some (.int 1)) h := by
  refine E.st (s_istore_n (q := 48) (ls' := [(2, .int r), (0, .ref 19), (1, .int n), (3, .long a)]) dX6_workOp_47 rfl (by decide) rfl) ?_
  refine E.st (s_iload_n (q := 49) dX6_workOp_48 rfl rfl) ?_
  refine E.st (s_if_eq_t (q := 54) dX6_workOp_49 (by decide) c1) ?_
  refine E.st (s_aload_n (q := 55) dX6_workOp_54 rfl rfl) ?_
  refine E.st (s_gf (q := 58) (v := .int v5) dX6_workOp_55 rfl fX6_69.l (ho) (by decide) (e5)) ?_
  refine E.st (s_if_ne_t (q := 81) dX6_workOp_58 (by decide) c2) ?_
  refine E.st (s_iconst (q := 82) (v := 1) dX6_workOp_81 rfl (by decide)) ?_
  exact E.i dX6_workOp_82 rfl rfl rfl rfl

set_option maxRecDepth 20000 in
theorem j_X6_workOp_c_2 {d : Nat} (hd : 2 ≤ d) (h : AH) (n : Int32) (a : Int64) (r : Int32) (c : Nat) (c1 : r = 0) (F : Nat → Value) (ho : h.1 19 = ob 6 (fo 10 F)) (v5 : Int32) (e5 : F 5 = .int v5) (c2 : v5 = 0) (e0 : F 0 = .ref 2) (F1 : Nat → Value) (ho1 : h.1 2 = ob 2 (fo 6 F1)) (v51 : Int32) (e51 : F1 5 = .int v51) (c3 : ¬ (n < 0) ∧ ¬ (v51 ≤ n)) (e3 : F1 3 = .ref 6) (n1 : Nat) (f : Nat → Int32) (ha : h.1 6 = ia n1 f) (c4 : vp_in n n1) (v6 : Int64) (e6 : F 6 = .long v6) : J false mX6_workOp d 47 [(0, .ref 19), (1, .int n), (3, .long a)] [.int r] h 75 [(0, .ref 19), (1, .int n)] [.long v6, .long a, .int (f n.toNatClampNeg), .ref 19] h := by
  refine J.tr (s_istore_n (q := 48) (ls' := [(2, .int r), (0, .ref 19), (1, .int n), (3, .long a)]) dX6_workOp_47 rfl (by decide) rfl) ?_
  refine J.tr (s_iload_n (q := 49) dX6_workOp_48 rfl rfl) ?_
  refine J.tr (s_if_eq_t (q := 54) dX6_workOp_49 (by decide) c1) ?_
  refine J.tr (s_aload_n (q := 55) dX6_workOp_54 rfl rfl) ?_
  refine J.tr (s_gf (q := 58) (v := .int v5) dX6_workOp_55 rfl fX6_69.l (ho) (by decide) (e5)) ?_
  refine J.tr (s_if_ne_f (q := 61) (tg := 81) dX6_workOp_58 (by decide) rfl c2) ?_
  refine J.tr (s_aload_n (q := 62) dX6_workOp_61 rfl rfl) ?_
  refine J.tr (s_aload_n (q := 63) dX6_workOp_62 rfl rfl) ?_
  refine J.tr (s_gf (q := 66) (v := .ref 2) dX6_workOp_63 rfl fX6_36.l (ho) (by decide) (e0)) ?_
  refine J.tr (s_iload_n (q := 67) dX6_workOp_66 rfl rfl) ?_
  refine J.tr (p2 := 70) (l2 := [(2, .int r), (0, .ref 19), (1, .int n), (3, .long a)]) (s2 := [.int (f n.toNatClampNeg), .ref 19]) (h2 := h) (s_invv (K := mX2_thirdOf) (o := 2) (as := [.int n]) (rest := [.ref 19]) (v := some (.int (f n.toNatClampNeg))) dX6_workOp_67 rfl lX6_167 (by omega) rfl (Nat.le_of_ble_eq_true rfl) rfl (Nat.le_of_ble_eq_true rfl) (ho1) (p_X2_thirdOf_n (d := 1) (Nat.le_refl _) h 2 n F1 ho1 v51 e51 c3 6 e3 n1 f ha c4 (by decide)) (fun h => nomatch h)) ?_
  refine J.tr (s_lload_n (q := 71) dX6_workOp_70 rfl rfl) ?_
  refine J.tr (s_aload_n (q := 72) dX6_workOp_71 rfl rfl) ?_
  refine J.tr (s_gf (q := 75) (v := .long v6) dX6_workOp_72 rfl fX6_72.l (ho) (by decide) (e6)) ?_
  refine J.tr (s_ls (ls' := [(0, .ref 19), (1, .int n)]) [1, 2] rfl) ?_
  exact J.rf

set_option maxRecDepth 20000 in
theorem j_X6_workOp_c_3 {d : Nat} (hd : 0 ≤ d) (h : AH) (n : Int32) (a : Int64) (r : Int32) (c : Nat) (c1 : ¬ (r = 0)) : E false mX6_workOp d 47 [(0, .ref 19), (1, .int n), (3, .long a)] [.int r] h (some (.int r)) h := by
  refine E.st (s_istore_n (q := 48) (ls' := [(2, .int r), (0, .ref 19), (1, .int n), (3, .long a)]) dX6_workOp_47 rfl (by decide) rfl) ?_
  refine E.st (s_iload_n (q := 49) dX6_workOp_48 rfl rfl) ?_
  refine E.st (s_if_eq_f (q := 52) (tg := 54) dX6_workOp_49 (by decide) rfl c1) ?_
  refine E.st (s_iload_n (q := 53) dX6_workOp_52 rfl rfl) ?_
  exact E.i dX6_workOp_53 rfl rfl rfl rfl

set_option maxRecDepth 20000 in
theorem j_X6_workOp_d_1 {d : Nat} (hd : 0 ≤ d) (h : AH) (n : Int32) (r : Int32) : E false mX6_workOp d 78 [(0, .ref 19), (1, .int n)] [.int r] h (some (.int r)) h := by
  refine E.st (s_goto (q := 82) dX6_workOp_78 (by decide)) ?_
  exact E.i dX6_workOp_82 rfl rfl rfl rfl

set_option maxRecDepth 20000 in
theorem j_X6_workWhen_a_1 {d : Nat} (hd : 2 ≤ d) (h : AH) (n : Int32) (c : Nat) (F : Nat → Value) (ho : h.1 19 = ob 6 (fo 10 F)) (e0 : F 0 = .ref 2) (F1 : Nat → Value) (ho1 : h.1 2 = ob 2 (fo 6 F1)) (v5 : Int32) (e5 : F1 5 = .int v5) (c1 : ¬ (n < 0) ∧ ¬ (v5 ≤ n)) (e1 : F1 1 = .ref 4) (n1 : Nat) (f : Nat → Int32) (ha : h.1 4 = ia n1 f) (c2 : vp_in n n1) : J false mX6_workWhen d 0 [(0, .ref 19), (1, .int n)] [] h 10 [(0, .ref 19), (1, .int n)] [.int n, .int (f n.toNatClampNeg), .ref 19] h := by
  refine J.tr (s_aload_n (q := 1) dX6_workWhen_0 rfl rfl) ?_
  refine J.tr (s_aload_n (q := 2) dX6_workWhen_1 rfl rfl) ?_
  refine J.tr (s_gf (q := 5) (v := .ref 2) dX6_workWhen_2 rfl fX6_36.l (ho) (by decide) (e0)) ?_
  refine J.tr (s_iload_n (q := 6) dX6_workWhen_5 rfl rfl) ?_
  refine J.tr (p2 := 9) (l2 := [(0, .ref 19), (1, .int n)]) (s2 := [.int (f n.toNatClampNeg), .ref 19]) (h2 := h) (s_invv (K := mX2_firstOf) (o := 2) (as := [.int n]) (rest := [.ref 19]) (v := some (.int (f n.toNatClampNeg))) dX6_workWhen_6 rfl lX6_89 (by omega) rfl (Nat.le_of_ble_eq_true rfl) rfl (Nat.le_of_ble_eq_true rfl) (ho1) (p_X2_firstOf_n (d := 1) (Nat.le_refl _) h 2 n F1 ho1 v5 e5 c1 4 e1 n1 f ha c2 (by decide)) (fun h => nomatch h)) ?_
  refine J.tr (s_iload_n (q := 10) dX6_workWhen_9 rfl rfl) ?_
  exact J.rf

set_option maxRecDepth 20000 in
theorem j_X6_workWhen_b_1 {d : Nat} (hd : 2 ≤ d) (h : AH) (n : Int32) (r : Int32) (c : Nat) (c1 : r = 0) (F : Nat → Value) (ho : h.1 19 = ob 6 (fo 10 F)) (v5 : Int32) (e5 : F 5 = .int v5) (c2 : v5 = 0) (v6 : Int64) (e6 : F 6 = .long v6) (c3 : v6 = 0) (e0 : F 0 = .ref 2) (F1 : Nat → Value) (ho1 : h.1 2 = ob 2 (fo 6 F1)) (v51 : Int32) (e51 : F1 5 = .int v51) (c4 : ¬ (n < 0) ∧ ¬ (v51 ≤ n)) (e3 : F1 3 = .ref 6) (n1 : Nat) (f : Nat → Int32) (ha : h.1 6 = ia n1 f) (c5 : vp_in n n1) : J false mX6_workWhen d 13 [(0, .ref 19), (1, .int n)] [.int r] h 59 [(0, .ref 19), (1, .int n)] [.int n, .int (f n.toNatClampNeg), .ref 19] h := by
  refine J.tr (s_istore_n (q := 14) (ls' := [(2, .int r), (0, .ref 19), (1, .int n)]) dX6_workWhen_13 rfl (by decide) rfl) ?_
  refine J.tr (s_iload_n (q := 15) dX6_workWhen_14 rfl rfl) ?_
  refine J.tr (s_if_eq_t (q := 20) dX6_workWhen_15 (by decide) c1) ?_
  refine J.tr (s_aload_n (q := 21) dX6_workWhen_20 rfl rfl) ?_
  refine J.tr (s_gf (q := 24) (v := .int v5) dX6_workWhen_21 rfl fX6_69.l (ho) (by decide) (e5)) ?_
  refine J.tr (s_if_eq_t (q := 29) dX6_workWhen_24 (by decide) c2) ?_
  refine J.tr (s_aload_n (q := 30) dX6_workWhen_29 rfl rfl) ?_
  refine J.tr (s_aload_n (q := 31) dX6_workWhen_30 rfl rfl) ?_
  refine J.tr (s_gf (q := 34) (v := .long v6) dX6_workWhen_31 rfl fX6_72.l (ho) (by decide) (e6)) ?_
  refine J.tr (s_lconst (q := 35) (v := 0) dX6_workWhen_34 rfl (by decide)) ?_
  refine J.tr (s_lcmp (q := 36) dX6_workWhen_35 rfl) ?_
  refine J.tr (s_if_eq_t (q := 50) dX6_workWhen_36 (by decide) ((lgc_eq _ _).mpr c3)) ?_
  refine J.tr (s_aload_n (q := 51) dX6_workWhen_50 rfl rfl) ?_
  refine J.tr (s_gf (q := 54) (v := .ref 2) dX6_workWhen_51 rfl fX6_36.l (ho) (by decide) (e0)) ?_
  refine J.tr (s_iload_n (q := 55) dX6_workWhen_54 rfl rfl) ?_
  refine J.tr (p2 := 58) (l2 := [(2, .int r), (0, .ref 19), (1, .int n)]) (s2 := [.int (f n.toNatClampNeg), .ref 19]) (h2 := h) (s_invv (K := mX2_thirdOf) (o := 2) (as := [.int n]) (rest := [.ref 19]) (v := some (.int (f n.toNatClampNeg))) dX6_workWhen_55 rfl lX6_167 (by omega) rfl (Nat.le_of_ble_eq_true rfl) rfl (Nat.le_of_ble_eq_true rfl) (ho1) (p_X2_thirdOf_n (d := 1) (Nat.le_refl _) h 2 n F1 ho1 v51 e51 c4 6 e3 n1 f ha c5 (by decide)) (fun h => nomatch h)) ?_
  refine J.tr (s_iload_n (q := 59) dX6_workWhen_58 rfl rfl) ?_
  refine J.tr (s_ls (ls' := [(0, .ref 19), (1, .int n)]) [1, 2] rfl) ?_
  exact J.rf

set_option maxRecDepth 20000 in
theorem j_X6_workWhen_b_2 {d : Nat} (hd : 2 ≤ d) (h : AH) (n : Int32) (r : Int32) (c : Nat) (c1 : r = 0) (F : Nat → Value) (ho : h.1 19 = ob 6 (fo 10 F)) (v5 : Int32) (e5 : F 5 = .int v5) (c2 : v5 = 0) (v6 : Int64) (e6 : F 6 = .long v6) (c3 : ¬ (v6 = 0)) (e0 : F 0 = .ref 2) (F1 : Nat → Value) (ho1 : h.1 2 = ob 2 (fo 6 F1)) (v51 : Int32) (e51 : F1 5 = .int v51) (c4 : ¬ (n < 0) ∧ ¬ (v51 ≤ n)) (e2 : F1 2 = .ref 5) (n1 : Nat) (f : Nat → Int32) (ha : h.1 5 = ia n1 f) (c5 : vp_in n n1) : J false mX6_workWhen d 13 [(0, .ref 19), (1, .int n)] [.int r] h 59 [(0, .ref 19), (1, .int n)] [.int n, .int (f n.toNatClampNeg), .ref 19] h := by
  refine J.tr (s_istore_n (q := 14) (ls' := [(2, .int r), (0, .ref 19), (1, .int n)]) dX6_workWhen_13 rfl (by decide) rfl) ?_
  refine J.tr (s_iload_n (q := 15) dX6_workWhen_14 rfl rfl) ?_
  refine J.tr (s_if_eq_t (q := 20) dX6_workWhen_15 (by decide) c1) ?_
  refine J.tr (s_aload_n (q := 21) dX6_workWhen_20 rfl rfl) ?_
  refine J.tr (s_gf (q := 24) (v := .int v5) dX6_workWhen_21 rfl fX6_69.l (ho) (by decide) (e5)) ?_
  refine J.tr (s_if_eq_t (q := 29) dX6_workWhen_24 (by decide) c2) ?_
  refine J.tr (s_aload_n (q := 30) dX6_workWhen_29 rfl rfl) ?_
  refine J.tr (s_aload_n (q := 31) dX6_workWhen_30 rfl rfl) ?_
  refine J.tr (s_gf (q := 34) (v := .long v6) dX6_workWhen_31 rfl fX6_72.l (ho) (by decide) (e6)) ?_
  refine J.tr (s_lconst (q := 35) (v := 0) dX6_workWhen_34 rfl (by decide)) ?_
  refine J.tr (s_lcmp (q := 36) dX6_workWhen_35 rfl) ?_
  refine J.tr (s_if_eq_f (q := 39) (tg := 50) dX6_workWhen_36 (by decide) rfl (fun z => c3 ((lgc_eq _ _).mp z))) ?_
  refine J.tr (s_aload_n (q := 40) dX6_workWhen_39 rfl rfl) ?_
  refine J.tr (s_gf (q := 43) (v := .ref 2) dX6_workWhen_40 rfl fX6_36.l (ho) (by decide) (e0)) ?_
  refine J.tr (s_iload_n (q := 44) dX6_workWhen_43 rfl rfl) ?_
  refine J.tr (p2 := 47) (l2 := [(2, .int r), (0, .ref 19), (1, .int n)]) (s2 := [.int (f n.toNatClampNeg), .ref 19]) (h2 := h) (s_invv (K := mX2_secondOf) (o := 2) (as := [.int n]) (rest := [.ref 19]) (v := some (.int (f n.toNatClampNeg))) dX6_workWhen_44 rfl lX6_95 (by omega) rfl (Nat.le_of_ble_eq_true rfl) rfl (Nat.le_of_ble_eq_true rfl) (ho1) (p_X2_secondOf_n (d := 1) (Nat.le_refl _) h 2 n F1 ho1 v51 e51 c4 5 e2 n1 f ha c5 (by decide)) (fun h => nomatch h)) ?_
  refine J.tr (s_goto (q := 58) dX6_workWhen_47 (by decide)) ?_
  refine J.tr (s_iload_n (q := 59) dX6_workWhen_58 rfl rfl) ?_
  refine J.tr (s_ls (ls' := [(0, .ref 19), (1, .int n)]) [1, 2] rfl) ?_
  exact J.rf

set_option maxRecDepth 20000 in
theorem j_X6_workWhen_b_3 {d : Nat} (hd : 0 ≤ d) (h : AH) (n : Int32) (r : Int32) (c : Nat) (c1 : r = 0) (F : Nat → Value) (ho : h.1 19 = ob 6 (fo 10 F)) (v5 : Int32) (e5 : F 5 = .int v5) (c2 : ¬ (v5 = 0)) : E false mX6_workWhen d 13 [(0, .ref 19), (1, .int n)] [.int r] h (some (.int 1)) h := by
  refine E.st (s_istore_n (q := 14) (ls' := [(2, .int r), (0, .ref 19), (1, .int n)]) dX6_workWhen_13 rfl (by decide) rfl) ?_
  refine E.st (s_iload_n (q := 15) dX6_workWhen_14 rfl rfl) ?_
  refine E.st (s_if_eq_t (q := 20) dX6_workWhen_15 (by decide) c1) ?_
  refine E.st (s_aload_n (q := 21) dX6_workWhen_20 rfl rfl) ?_
  refine E.st (s_gf (q := 24) (v := .int v5) dX6_workWhen_21 rfl fX6_69.l (ho) (by decide) (e5)) ?_
  refine E.st (s_if_eq_f (q := 27) (tg := 29) dX6_workWhen_24 (by decide) rfl c2) ?_
  refine E.st (s_iconst (q := 28) (v := 1) dX6_workWhen_27 rfl (by decide)) ?_
  exact E.i dX6_workWhen_28 rfl rfl rfl rfl

set_option maxRecDepth 20000 in
theorem j_X6_workWhen_b_4 {d : Nat} (hd : 0 ≤ d) (h : AH) (n : Int32) (r : Int32) (c : Nat) (c1 : ¬ (r = 0)) : E false mX6_workWhen d 13 [(0, .ref 19), (1, .int n)] [.int r] h (some (.int r)) h := by
  refine E.st (s_istore_n (q := 14) (ls' := [(2, .int r), (0, .ref 19), (1, .int n)]) dX6_workWhen_13 rfl (by decide) rfl) ?_
  refine E.st (s_iload_n (q := 15) dX6_workWhen_14 rfl rfl) ?_
  refine E.st (s_if_eq_f (q := 18) (tg := 20) dX6_workWhen_15 (by decide) rfl c1) ?_
  refine E.st (s_iload_n (q := 19) dX6_workWhen_18 rfl rfl) ?_
  exact E.i dX6_workWhen_19 rfl rfl rfl rfl

set_option maxRecDepth 20000 in
theorem j_X6_workWhen_c_1 {d : Nat} (hd : 0 ≤ d) (h : AH) (n : Int32) (r : Int32) : E false mX6_workWhen d 62 [(0, .ref 19), (1, .int n)] [.int r] h (some (.int r)) h := by
  exact E.i dX6_workWhen_62 rfl rfl rfl rfl

set_option maxRecDepth 20000 in
theorem j_X6_tellInFull_a_1 {d : Nat} (hd : 0 ≤ d) (h : AH) (n : Int32) (b : Int32) (c : Nat) : J false mX6_tellInFull d 0 [(0, .ref 19), (1, .int n), (2, .int b)] [] h 3 [(0, .ref 19), (1, .int n), (2, .int b)] [.int b, .int n, .ref 19] h := by
  refine J.tr (s_aload_n (q := 1) dX6_tellInFull_0 rfl rfl) ?_
  refine J.tr (s_iload_n (q := 2) dX6_tellInFull_1 rfl rfl) ?_
  refine J.tr (s_iload_n (q := 3) dX6_tellInFull_2 rfl rfl) ?_
  exact J.rf

set_option maxRecDepth 20000 in
theorem j_X6_tellInFull_b_1 {d : Nat} (hd : 0 ≤ d) (h : AH) (n : Int32) (b : Int32) (r : Int32) (c : Nat) (c1 : r = 0) (F : Nat → Value) (ho : h.1 19 = ob 6 (fo 10 F)) (v5 : Int32) (e5 : F 5 = .int v5) (c2 : ¬ v5 = 0) (c3 : ¬ v5 = 2) (v6 : Int64) (e6 : F 6 = .long v6) (p : Int32) (en : (v6.toInt32) = p) (e2 : F 2 = .ref c) : J false mX6_tellInFull d 6 [(0, .ref 19), (1, .int n), (2, .int b)] [.int r] h 93 [(0, .ref 19), (4, .int p)] [.long 2, .int 1, .ref c] h := by
  refine J.tr (s_istore_n (q := 7) (ls' := [(3, .int r), (0, .ref 19), (1, .int n), (2, .int b)]) dX6_tellInFull_6 rfl (by decide) rfl) ?_
  refine J.tr (s_iload_n (q := 8) dX6_tellInFull_7 rfl rfl) ?_
  refine J.tr (s_if_eq_t (q := 13) dX6_tellInFull_8 (by decide) c1) ?_
  refine J.tr (s_aload_n (q := 14) dX6_tellInFull_13 rfl rfl) ?_
  refine J.tr (s_gf (q := 17) (v := .int v5) dX6_tellInFull_14 rfl fX6_69.l (ho) (by decide) (e5)) ?_
  refine J.tr (s_if_ne_t (q := 41) dX6_tellInFull_17 (by decide) c2) ?_
  refine J.tr (s_aload_n (q := 42) dX6_tellInFull_41 rfl rfl) ?_
  refine J.tr (s_gf (q := 45) (v := .int v5) dX6_tellInFull_42 rfl fX6_69.l (ho) (by decide) (e5)) ?_
  refine J.tr (s_iconst (q := 46) (v := 2) dX6_tellInFull_45 rfl (by decide)) ?_
  refine J.tr (s_icmp_ne_t (q := 78) dX6_tellInFull_46 (by decide) c3) ?_
  refine J.tr (s_aload_n (q := 79) dX6_tellInFull_78 rfl rfl) ?_
  refine J.tr (s_gf (q := 82) (v := .long v6) dX6_tellInFull_79 rfl fX6_72.l (ho) (by decide) (e6)) ?_
  refine J.tr (s_l2i (q := 83) dX6_tellInFull_82 rfl) ?_
  refine J.tr (s_nmi en) ?_
  refine J.tr (s_istore (q := 85) (ls' := [(4, .int p), (3, .int r), (0, .ref 19), (1, .int n), (2, .int b)]) dX6_tellInFull_83 rfl (by decide) rfl) ?_
  refine J.tr (s_aload_n (q := 86) dX6_tellInFull_85 rfl rfl) ?_
  refine J.tr (s_gf (q := 89) (v := .ref c) dX6_tellInFull_86 rfl fX6_20.l (ho) (by decide) (e2)) ?_
  refine J.tr (s_iconst (q := 90) (v := 1) dX6_tellInFull_89 rfl (by decide)) ?_
  refine J.tr (s_ldc2 (q := 93) dX6_tellInFull_90 rfl kX6_87) ?_
  refine J.tr (s_ls (ls' := [(0, .ref 19), (4, .int p)]) [2, 0] rfl) ?_
  exact J.rf

set_option maxRecDepth 20000 in
theorem j_X6_tellInFull_b_2 {d : Nat} (hd : 0 ≤ d) (h : AH) (n : Int32) (b : Int32) (r : Int32) (c : Nat) (c1 : r = 0) (F : Nat → Value) (ho : h.1 19 = ob 6 (fo 10 F)) (v5 : Int32) (e5 : F 5 = .int v5) (c2 : ¬ v5 = 0) (c3 : v5 = 2) (e2 : F 2 = .ref c) (e4 : F 4 = .ref 27) (v6 : Int64) (e6 : F 6 = .long v6) (t : Int32) (en : (v6.toInt32) = t) (v7 : Int32) (e7 : F 7 = .int v7) : J false mX6_tellInFull d 6 [(0, .ref 19), (1, .int n), (2, .int b)] [.int r] h 66 [(0, .ref 19)] [.int v7, .int t, .ref 27, .ref c] h := by
  refine J.tr (s_istore_n (q := 7) (ls' := [(3, .int r), (0, .ref 19), (1, .int n), (2, .int b)]) dX6_tellInFull_6 rfl (by decide) rfl) ?_
  refine J.tr (s_iload_n (q := 8) dX6_tellInFull_7 rfl rfl) ?_
  refine J.tr (s_if_eq_t (q := 13) dX6_tellInFull_8 (by decide) c1) ?_
  refine J.tr (s_aload_n (q := 14) dX6_tellInFull_13 rfl rfl) ?_
  refine J.tr (s_gf (q := 17) (v := .int v5) dX6_tellInFull_14 rfl fX6_69.l (ho) (by decide) (e5)) ?_
  refine J.tr (s_if_ne_t (q := 41) dX6_tellInFull_17 (by decide) c2) ?_
  refine J.tr (s_aload_n (q := 42) dX6_tellInFull_41 rfl rfl) ?_
  refine J.tr (s_gf (q := 45) (v := .int v5) dX6_tellInFull_42 rfl fX6_69.l (ho) (by decide) (e5)) ?_
  refine J.tr (s_iconst (q := 46) (v := 2) dX6_tellInFull_45 rfl (by decide)) ?_
  refine J.tr (s_icmp_ne_f (q := 49) (tg := 78) dX6_tellInFull_46 (by decide) rfl c3) ?_
  refine J.tr (s_aload_n (q := 50) dX6_tellInFull_49 rfl rfl) ?_
  refine J.tr (s_gf (q := 53) (v := .ref c) dX6_tellInFull_50 rfl fX6_20.l (ho) (by decide) (e2)) ?_
  refine J.tr (s_aload_n (q := 54) dX6_tellInFull_53 rfl rfl) ?_
  refine J.tr (s_gf (q := 57) (v := .ref 27) dX6_tellInFull_54 rfl fX6_29.l (ho) (by decide) (e4)) ?_
  refine J.tr (s_aload_n (q := 58) dX6_tellInFull_57 rfl rfl) ?_
  refine J.tr (s_gf (q := 61) (v := .long v6) dX6_tellInFull_58 rfl fX6_72.l (ho) (by decide) (e6)) ?_
  refine J.tr (s_l2i (q := 62) dX6_tellInFull_61 rfl) ?_
  refine J.tr (s_nmi en) ?_
  refine J.tr (s_aload_n (q := 63) dX6_tellInFull_62 rfl rfl) ?_
  refine J.tr (s_gf (q := 66) (v := .int v7) dX6_tellInFull_63 rfl fX6_80.l (ho) (by decide) (e7)) ?_
  refine J.tr (s_ls (ls' := [(0, .ref 19)]) [1] rfl) ?_
  exact J.rf

set_option maxRecDepth 20000 in
theorem j_X6_tellInFull_b_3 {d : Nat} (hd : 0 ≤ d) (h : AH) (n : Int32) (b : Int32) (r : Int32) (c : Nat) (c1 : r = 0) (F : Nat → Value) (ho : h.1 19 = ob 6 (fo 10 F)) (v5 : Int32) (e5 : F 5 = .int v5) (c2 : v5 = 0) (e2 : F 2 = .ref c) (v6 : Int64) (e6 : F 6 = .long v6) : J false mX6_tellInFull d 6 [(0, .ref 19), (1, .int n), (2, .int b)] [.int r] h 29 [(0, .ref 19)] [.long v6, .int 0, .ref c] h := by
  refine J.tr (s_istore_n (q := 7) (ls' := [(3, .int r), (0, .ref 19), (1, .int n), (2, .int b)]) dX6_tellInFull_6 rfl (by decide) rfl) ?_
  refine J.tr (s_iload_n (q := 8) dX6_tellInFull_7 rfl rfl) ?_
  refine J.tr (s_if_eq_t (q := 13) dX6_tellInFull_8 (by decide) c1) ?_
  refine J.tr (s_aload_n (q := 14) dX6_tellInFull_13 rfl rfl) ?_
  refine J.tr (s_gf (q := 17) (v := .int v5) dX6_tellInFull_14 rfl fX6_69.l (ho) (by decide) (e5)) ?_
  refine J.tr (s_if_ne_f (q := 20) (tg := 41) dX6_tellInFull_17 (by decide) rfl c2) ?_
  refine J.tr (s_aload_n (q := 21) dX6_tellInFull_20 rfl rfl) ?_
  refine J.tr (s_gf (q := 24) (v := .ref c) dX6_tellInFull_21 rfl fX6_20.l (ho) (by decide) (e2)) ?_
  refine J.tr (s_iconst (q := 25) (v := 0) dX6_tellInFull_24 rfl (by decide)) ?_
  refine J.tr (s_aload_n (q := 26) dX6_tellInFull_25 rfl rfl) ?_
  refine J.tr (s_gf (q := 29) (v := .long v6) dX6_tellInFull_26 rfl fX6_72.l (ho) (by decide) (e6)) ?_
  refine J.tr (s_ls (ls' := [(0, .ref 19)]) [1] rfl) ?_
  exact J.rf

set_option maxRecDepth 20000 in
theorem j_X6_tellInFull_b_4 {d : Nat} (hd : 0 ≤ d) (h : AH) (n : Int32) (b : Int32) (r : Int32) (c : Nat) (c1 : ¬ (r = 0)) : E false mX6_tellInFull d 6 [(0, .ref 19), (1, .int n), (2, .int b)] [.int r] h (some (.int r)) h := by
  refine E.st (s_istore_n (q := 7) (ls' := [(3, .int r), (0, .ref 19), (1, .int n), (2, .int b)]) dX6_tellInFull_6 rfl (by decide) rfl) ?_
  refine E.st (s_iload_n (q := 8) dX6_tellInFull_7 rfl rfl) ?_
  refine E.st (s_if_eq_f (q := 11) (tg := 13) dX6_tellInFull_8 (by decide) rfl c1) ?_
  refine E.st (s_iload_n (q := 12) dX6_tellInFull_11 rfl rfl) ?_
  exact E.i dX6_tellInFull_12 rfl rfl rfl rfl

set_option maxRecDepth 20000 in
theorem j_X6_tellInFull_c_1 {d : Nat} (hd : 0 ≤ d) (h : AH) (r : Int32) (c : r = 0) : E false mX6_tellInFull d 32 [(0, .ref 19)] [.int r] h (some (.int 2)) h := by
  refine E.st (s_if_eq_t (q := 39) dX6_tellInFull_32 (by decide) c) ?_
  refine E.st (s_iconst (q := 40) (v := 2) dX6_tellInFull_39 rfl (by decide)) ?_
  exact E.i dX6_tellInFull_40 rfl rfl rfl rfl

set_option maxRecDepth 20000 in
theorem j_X6_tellInFull_c_2 {d : Nat} (hd : 0 ≤ d) (h : AH) (r : Int32) (c : ¬ (r = 0)) : E false mX6_tellInFull d 32 [(0, .ref 19)] [.int r] h (some (.int 0)) h := by
  refine E.st (s_if_eq_f (q := 35) (tg := 39) dX6_tellInFull_32 (by decide) rfl c) ?_
  refine E.st (s_iconst (q := 36) (v := 0) dX6_tellInFull_35 rfl (by decide)) ?_
  refine E.st (s_goto (q := 40) dX6_tellInFull_36 (by decide)) ?_
  exact E.i dX6_tellInFull_40 rfl rfl rfl rfl

set_option maxRecDepth 20000 in
theorem j_X6_tellInFull_d_1 {d : Nat} (hd : 0 ≤ d) (h : AH) (r : Int32) (c : r = 0) : E false mX6_tellInFull d 69 [(0, .ref 19)] [.int r] h (some (.int 2)) h := by
  refine E.st (s_if_eq_t (q := 76) dX6_tellInFull_69 (by decide) c) ?_
  refine E.st (s_iconst (q := 77) (v := 2) dX6_tellInFull_76 rfl (by decide)) ?_
  exact E.i dX6_tellInFull_77 rfl rfl rfl rfl

set_option maxRecDepth 20000 in
theorem j_X6_tellInFull_d_2 {d : Nat} (hd : 0 ≤ d) (h : AH) (r : Int32) (c : ¬ (r = 0)) : E false mX6_tellInFull d 69 [(0, .ref 19)] [.int r] h (some (.int 0)) h := by
  refine E.st (s_if_eq_f (q := 72) (tg := 76) dX6_tellInFull_69 (by decide) rfl c) ?_
  refine E.st (s_iconst (q := 73) (v := 0) dX6_tellInFull_72 rfl (by decide)) ?_
  refine E.st (s_goto (q := 77) dX6_tellInFull_73 (by decide)) ?_
  exact E.i dX6_tellInFull_77 rfl rfl rfl rfl

set_option maxRecDepth 20000 in
theorem j_X6_tellInFull_e_1 {d : Nat} (hd : 2 ≤ d) (h : AH) (p : Int32) (r : Int32) (c : Nat) (c1 : ¬ r = 0) (F : Nat → Value) (ho : h.1 19 = ob 6 (fo 10 F)) (e0 : F 0 = .ref 2) (F1 : Nat → Value) (ho1 : h.1 2 = ob 2 (fo 6 F1)) (v5 : Int32) (e5 : F1 5 = .int v5) (c2 : ¬ (p < 0) ∧ ¬ (v5 ≤ p)) (e1 : F1 1 = .ref 4) (n : Nat) (f : Nat → Int32) (ha : h.1 4 = ia n f) (c3 : vp_in p n) : J false mX6_tellInFull d 96 [(0, .ref 19), (4, .int p)] [.int r] h 113 [(0, .ref 19), (4, .int p)] [.int p, .int (f p.toNatClampNeg), .ref 19] h := by
  refine J.tr (s_if_ne_t (q := 101) dX6_tellInFull_96 (by decide) c1) ?_
  refine J.tr (s_aload_n (q := 102) dX6_tellInFull_101 rfl rfl) ?_
  refine J.tr (s_aload_n (q := 103) dX6_tellInFull_102 rfl rfl) ?_
  refine J.tr (s_gf (q := 106) (v := .ref 2) dX6_tellInFull_103 rfl fX6_36.l (ho) (by decide) (e0)) ?_
  refine J.tr (s_iload (q := 108) dX6_tellInFull_106 rfl rfl) ?_
  refine J.tr (p2 := 111) (l2 := [(0, .ref 19), (4, .int p)]) (s2 := [.int (f p.toNatClampNeg), .ref 19]) (h2 := h) (s_invv (K := mX2_firstOf) (o := 2) (as := [.int p]) (rest := [.ref 19]) (v := some (.int (f p.toNatClampNeg))) dX6_tellInFull_108 rfl lX6_89 (by omega) rfl (Nat.le_of_ble_eq_true rfl) rfl (Nat.le_of_ble_eq_true rfl) (ho1) (p_X2_firstOf_n (d := 1) (Nat.le_refl _) h 2 p F1 ho1 v5 e5 c2 4 e1 n f ha c3 (by decide)) (fun h => nomatch h)) ?_
  refine J.tr (s_iload (q := 113) dX6_tellInFull_111 rfl rfl) ?_
  exact J.rf

set_option maxRecDepth 20000 in
theorem j_X6_tellInFull_e_2 {d : Nat} (hd : 0 ≤ d) (h : AH) (p : Int32) (r : Int32) (c : Nat) (c1 : r = 0) : E false mX6_tellInFull d 96 [(0, .ref 19), (4, .int p)] [.int r] h (some (.int 2)) h := by
  refine E.st (s_if_ne_f (q := 99) (tg := 101) dX6_tellInFull_96 (by decide) rfl c1) ?_
  refine E.st (s_iconst (q := 100) (v := 2) dX6_tellInFull_99 rfl (by decide)) ?_
  exact E.i dX6_tellInFull_100 rfl rfl rfl rfl

set_option maxRecDepth 20000 in
theorem j_X6_tellInFull_f_1 {d : Nat} (hd : 0 ≤ d) (h : AH) (p : Int32) (r : Int32) (c : Nat) (c1 : ¬ r = 0) : E false mX6_tellInFull d 116 [(0, .ref 19), (4, .int p)] [.int r] h (some (.int r)) h := by
  refine E.st (s_istore_n (q := 117) (ls' := [(3, .int r), (0, .ref 19), (4, .int p)]) dX6_tellInFull_116 rfl (by decide) rfl) ?_
  refine E.st (s_iload_n (q := 118) dX6_tellInFull_117 rfl rfl) ?_
  refine E.st (s_if_ne_t (q := 139) dX6_tellInFull_118 (by decide) c1) ?_
  refine E.st (s_iload_n (q := 140) dX6_tellInFull_139 rfl rfl) ?_
  exact E.i dX6_tellInFull_140 rfl rfl rfl rfl

set_option maxRecDepth 20000 in
theorem j_X6_tellInFull_f_2 {d : Nat} (hd : 2 ≤ d) (h : AH) (p : Int32) (r : Int32) (c : Nat) (c1 : r = 0) (F : Nat → Value) (ho : h.1 19 = ob 6 (fo 10 F)) (e0 : F 0 = .ref 2) (F1 : Nat → Value) (ho1 : h.1 2 = ob 2 (fo 6 F1)) (v5 : Int32) (e5 : F1 5 = .int v5) (c2 : ¬ (p < 0) ∧ ¬ (v5 ≤ p)) (e2 : F1 2 = .ref 5) (n : Nat) (f : Nat → Int32) (ha : h.1 5 = ia n f) (c3 : vp_in p n) : J false mX6_tellInFull d 116 [(0, .ref 19), (4, .int p)] [.int r] h 133 [(0, .ref 19), (4, .int p)] [.int p, .int (f p.toNatClampNeg), .ref 19] h := by
  refine J.tr (s_istore_n (q := 117) (ls' := [(3, .int r), (0, .ref 19), (4, .int p)]) dX6_tellInFull_116 rfl (by decide) rfl) ?_
  refine J.tr (s_iload_n (q := 118) dX6_tellInFull_117 rfl rfl) ?_
  refine J.tr (s_if_ne_f (q := 121) (tg := 139) dX6_tellInFull_118 (by decide) rfl c1) ?_
  refine J.tr (s_aload_n (q := 122) dX6_tellInFull_121 rfl rfl) ?_
  refine J.tr (s_aload_n (q := 123) dX6_tellInFull_122 rfl rfl) ?_
  refine J.tr (s_gf (q := 126) (v := .ref 2) dX6_tellInFull_123 rfl fX6_36.l (ho) (by decide) (e0)) ?_
  refine J.tr (s_iload (q := 128) dX6_tellInFull_126 rfl rfl) ?_
  refine J.tr (p2 := 131) (l2 := [(3, .int r), (0, .ref 19), (4, .int p)]) (s2 := [.int (f p.toNatClampNeg), .ref 19]) (h2 := h) (s_invv (K := mX2_secondOf) (o := 2) (as := [.int p]) (rest := [.ref 19]) (v := some (.int (f p.toNatClampNeg))) dX6_tellInFull_128 rfl lX6_95 (by omega) rfl (Nat.le_of_ble_eq_true rfl) rfl (Nat.le_of_ble_eq_true rfl) (ho1) (p_X2_secondOf_n (d := 1) (Nat.le_refl _) h 2 p F1 ho1 v5 e5 c2 5 e2 n f ha c3 (by decide)) (fun h => nomatch h)) ?_
  refine J.tr (s_iload (q := 133) dX6_tellInFull_131 rfl rfl) ?_
  refine J.tr (s_ls (ls' := [(0, .ref 19), (4, .int p)]) [1, 2] rfl) ?_
  exact J.rf

set_option maxRecDepth 20000 in
theorem j_X6_tellInFull_g_1 {d : Nat} (hd : 0 ≤ d) (h : AH) (p : Int32) (r : Int32) : E false mX6_tellInFull d 136 [(0, .ref 19), (4, .int p)] [.int r] h (some (.int r)) h := by
  refine E.st (s_goto (q := 140) dX6_tellInFull_136 (by decide)) ?_
  exact E.i dX6_tellInFull_140 rfl rfl rfl rfl

set_option maxRecDepth 20000 in
theorem j_X6_takeList_a_1 {d : Nat} (hd : 0 ≤ d) (h : AH) (t : Nat) (c : Nat) (F : Nat → Value) (ho : h.1 19 = ob 6 (fo 10 F)) (e4 : F 4 = .ref 27) : J false mX6_takeList d 0 [(0, .ref 19), (1, .ref t)] [] h 4 [(0, .ref 19), (1, .ref t)] [.ref 27] h := by
  refine J.tr (s_aload_n (q := 1) dX6_takeList_0 rfl rfl) ?_
  refine J.tr (s_gf (q := 4) (v := .ref 27) dX6_takeList_1 rfl fX6_29.l (ho) (by decide) (e4)) ?_
  exact J.rf
