set_option maxRecDepth 20000 in
theorem j_X8_tellFull_a_1 {d : Nat} (hd : 0 ≤ d) (h : AH) (n : Int32) (x : Nat) (y : Nat) : J false mX8_tellFull d 0 [(0, .ref 65), (1, .int n)] [] h 2 [(0, .ref 65), (1, .int n)] [.int n, .ref 65] h := by
  refine J.tr (s_aload_n (q := 1) dX8_tellFull_0 rfl rfl) ?_
  refine J.tr (s_iload_n (q := 2) dX8_tellFull_1 rfl rfl) ?_
  exact J.rf

set_option maxRecDepth 20000 in
theorem j_X8_tellFull_b_1 {d : Nat} (hd : 4 ≤ d) (h : AH) (n : Int32) (x : Nat) (y : Nat) (F : Nat → Value) (ho : h.1 65 = ob 8 (fo 53 F)) (v26 : Int32) (e26 : F 26 = .int v26) (c : v26 = 0) (q : Int32) (hq : CM mX8_cellOf 3 [.ref 65, .int n] h (some (.int q)) h) (e9 : F 9 = .ref 72) (n1 : Nat) (f : Nat → Int32) (ha : h.1 72 = ia n1 f) (i : vp_in q n1) (c1 : ¬ (f q.toNatClampNeg) = 1) (c2 : ¬ (f q.toNatClampNeg) = 3) (e11 : F 11 = .ref 74) (n2 : Nat) (f1 : Nat → Int32) (ha1 : h.1 74 = ia n2 f1) (i1 : vp_in q n2) (e12 : F 12 = .ref 75) (n3 : Nat) (f2 : Nat → Int32) (ha2 : h.1 75 = ia n3 f2) (i2 : vp_in q n3) (e21 : F 21 = .ref 83) (v7 : Int32) (e7 : F 7 = .int v7) (n4 : Nat) (f3 : Nat → Int32) (ha3 : h.1 83 = ia n4 f3) (c3 : vp_in v7 n4) (c4 : ¬ (f3 v7.toNatClampNeg) = 100) (e19 : F 19 = .ref 81) (n5 : Nat) (f4 : Nat → Int32) (ha4 : h.1 81 = ia n5 f4) (c5 : vp_in ((100 * v7) + (f3 v7.toNatClampNeg)) n5) (e20 : F 20 = .ref 82) (n6 : Nat) (f5 : Nat → Int64) (ha5 : h.1 82 = la n6 f5) (c6 : vp_in ((100 * v7) + (f3 v7.toNatClampNeg)) n6) : J false mX8_tellFull d 5 [(0, .ref 65), (1, .int n)] [] h 144 [(0, .ref 65), (4, .int (f2 q.toNatClampNeg))] [.int (f1 q.toNatClampNeg), .ref 65] (hs (hs (hs h 81 (ia n5 (upd f4 ((100 * v7) + (f3 v7.toNatClampNeg)).toNatClampNeg (1 : Int32)))) 82 (la n6 (vp_updL f5 ((100 * v7) + (f3 v7.toNatClampNeg)).toNatClampNeg (2 : Int64)))) 83 (ia n4 (upd f3 v7.toNatClampNeg ((f3 v7.toNatClampNeg) + 1)))) := by
  refine J.tr (s_aload_n (q := 6) dX8_tellFull_5 rfl rfl) ?_
  refine J.tr (s_gf (q := 9) (v := .int v26) dX8_tellFull_6 rfl fX8_126.l (ho) (by decide) (e26)) ?_
  refine J.tr (s_if_eq_t (q := 13) dX8_tellFull_9 (by decide) c) ?_
  refine J.tr (s_aload_n (q := 14) dX8_tellFull_13 rfl rfl) ?_
  refine J.tr (s_iload_n (q := 15) dX8_tellFull_14 rfl rfl) ?_
  refine J.tr (p2 := 18) (l2 := [(0, .ref 65), (1, .int n)]) (s2 := [.int q]) (h2 := h) (s_invv (K := mX8_cellOf) (o := 65) (as := [.int n]) (rest := []) (v := some (.int q)) dX8_tellFull_15 rfl lX8_153 (by omega) rfl (Nat.le_of_ble_eq_true rfl) rfl (Nat.le_of_ble_eq_true rfl) (ho) hq (fun h => nomatch h)) ?_
  refine J.tr (s_istore_n (q := 19) (ls' := [(2, .int q), (0, .ref 65), (1, .int n)]) dX8_tellFull_18 rfl (by decide) rfl) ?_
  refine J.tr (s_aload_n (q := 20) dX8_tellFull_19 rfl rfl) ?_
  refine J.tr (s_gf (q := 23) (v := .ref 72) dX8_tellFull_20 rfl fX8_29.l (ho) (by decide) (e9)) ?_
  refine J.tr (s_iload_n (q := 24) dX8_tellFull_23 rfl rfl) ?_
  refine J.tr (s_iald (q := 25) dX8_tellFull_24 rfl (by decide) (ha) i) ?_
  refine J.tr (s_iconst (q := 26) (v := 1) dX8_tellFull_25 rfl (by decide)) ?_
  refine J.tr (s_icmp_ne_t (q := 43) dX8_tellFull_26 (by decide) c1) ?_
  refine J.tr (s_aload_n (q := 44) dX8_tellFull_43 rfl rfl) ?_
  refine J.tr (s_gf (q := 47) (v := .ref 72) dX8_tellFull_44 rfl fX8_29.l (ho) (by decide) (e9)) ?_
  refine J.tr (s_iload_n (q := 48) dX8_tellFull_47 rfl rfl) ?_
  refine J.tr (s_iald (q := 49) dX8_tellFull_48 rfl (by decide) (ha) i) ?_
  refine J.tr (s_iconst (q := 50) (v := 3) dX8_tellFull_49 rfl (by decide)) ?_
  refine J.tr (s_icmp_ne_t (q := 112) dX8_tellFull_50 (by decide) c2) ?_
  refine J.tr (s_aload_n (q := 113) dX8_tellFull_112 rfl rfl) ?_
  refine J.tr (s_gf (q := 116) (v := .ref 74) dX8_tellFull_113 rfl fX8_35.l (ho) (by decide) (e11)) ?_
  refine J.tr (s_iload_n (q := 117) dX8_tellFull_116 rfl rfl) ?_
  refine J.tr (s_iald (q := 118) dX8_tellFull_117 rfl (by decide) (ha1) i1) ?_
  refine J.tr (s_istore_n (q := 119) (ls' := [(3, .int (f1 q.toNatClampNeg)), (2, .int q), (0, .ref 65), (1, .int n)]) dX8_tellFull_118 rfl (by decide) rfl) ?_
  refine J.tr (s_aload_n (q := 120) dX8_tellFull_119 rfl rfl) ?_
  refine J.tr (s_gf (q := 123) (v := .ref 75) dX8_tellFull_120 rfl fX8_38.l (ho) (by decide) (e12)) ?_
  refine J.tr (s_iload_n (q := 124) dX8_tellFull_123 rfl rfl) ?_
  refine J.tr (s_iald (q := 125) dX8_tellFull_124 rfl (by decide) (ha2) i2) ?_
  refine J.tr (s_istore (q := 127) (ls' := [(4, .int (f2 q.toNatClampNeg)), (3, .int (f1 q.toNatClampNeg)), (2, .int q), (0, .ref 65), (1, .int n)]) dX8_tellFull_125 rfl (by decide) rfl) ?_
  refine J.tr (s_aload_n (q := 128) dX8_tellFull_127 rfl rfl) ?_
  refine J.tr (s_iconst (q := 129) (v := 1) dX8_tellFull_128 rfl (by decide)) ?_
  refine J.tr (s_ldc2 (q := 132) dX8_tellFull_129 rfl kX8_177) ?_
  refine J.tr (p2 := 135) (l2 := [(4, .int (f2 q.toNatClampNeg)), (3, .int (f1 q.toNatClampNeg)), (2, .int q), (0, .ref 65), (1, .int n)]) (s2 := []) (h2 := (hs (hs (hs h 81 (ia n5 (upd f4 ((100 * v7) + (f3 v7.toNatClampNeg)).toNatClampNeg (1 : Int32)))) 82 (la n6 (vp_updL f5 ((100 * v7) + (f3 v7.toNatClampNeg)).toNatClampNeg (2 : Int64)))) 83 (ia n4 (upd f3 v7.toNatClampNeg ((f3 v7.toNatClampNeg) + 1))))) (s_invv (K := mX8_token) (o := 65) (as := [.int 1, .long 2]) (rest := []) (v := none) dX8_tellFull_132 rfl lX8_171 (by omega) rfl (Nat.le_of_ble_eq_true rfl) rfl (Nat.le_of_ble_eq_true rfl) (ho) (p_X8_token_1 (d := 0) (Nat.le_refl _) h 65 (1 : Int32) (2 : Int64) F ho 83 e21 v7 e7 n4 f3 ha3 c3 (by decide) c4 81 e19 n5 f4 ha4 c5 (by decide) 82 e20 n6 f5 ha5 c6 (by decide)) (fun h => nomatch h)) ?_
  refine J.tr (s_aload_n (q := 136) dX8_tellFull_135 rfl rfl) ?_
  refine J.tr (s_gf (q := 139) (v := .int v26) dX8_tellFull_136 rfl fX8_126.l ((hs_ne (by decide)).trans ((hs_ne (by decide)).trans ((hs_ne (by decide)).trans (ho)))) (by decide) (e26)) ?_
  refine J.tr (s_if_ne_f (q := 142) (tg := 147) dX8_tellFull_139 (by decide) rfl c) ?_
  refine J.tr (s_aload_n (q := 143) dX8_tellFull_142 rfl rfl) ?_
  refine J.tr (s_iload_n (q := 144) dX8_tellFull_143 rfl rfl) ?_
  refine J.tr (s_ls (ls' := [(0, .ref 65), (4, .int (f2 q.toNatClampNeg))]) [3, 0] rfl) ?_
  exact J.rf

set_option maxRecDepth 20000 in
theorem j_X8_tellFull_b_2 {d : Nat} (hd : 4 ≤ d) (h : AH) (n : Int32) (x : Nat) (y : Nat) (F : Nat → Value) (ho : h.1 65 = ob 8 (fo 53 F)) (v26 : Int32) (e26 : F 26 = .int v26) (c : v26 = 0) (q : Int32) (hq : CM mX8_cellOf 3 [.ref 65, .int n] h (some (.int q)) h) (e9 : F 9 = .ref 72) (n1 : Nat) (f : Nat → Int32) (ha : h.1 72 = ia n1 f) (i : vp_in q n1) (c1 : ¬ (f q.toNatClampNeg) = 1) (c2 : ¬ (f q.toNatClampNeg) = 3) (e11 : F 11 = .ref 74) (n2 : Nat) (f1 : Nat → Int32) (ha1 : h.1 74 = ia n2 f1) (i1 : vp_in q n2) (e12 : F 12 = .ref 75) (n3 : Nat) (f2 : Nat → Int32) (ha2 : h.1 75 = ia n3 f2) (i2 : vp_in q n3) (e21 : F 21 = .ref 83) (v7 : Int32) (e7 : F 7 = .int v7) (n4 : Nat) (f3 : Nat → Int32) (ha3 : h.1 83 = ia n4 f3) (c3 : vp_in v7 n4) (c4 : (f3 v7.toNatClampNeg) = 100) : E false mX8_tellFull d 5 [(0, .ref 65), (1, .int n)] [] h (none) (hs h 65 (ob 8 (fo 53 (va_up F 26 (.int 2))))) := by
  refine E.st (s_aload_n (q := 6) dX8_tellFull_5 rfl rfl) ?_
  refine E.st (s_gf (q := 9) (v := .int v26) dX8_tellFull_6 rfl fX8_126.l (ho) (by decide) (e26)) ?_
  refine E.st (s_if_eq_t (q := 13) dX8_tellFull_9 (by decide) c) ?_
  refine E.st (s_aload_n (q := 14) dX8_tellFull_13 rfl rfl) ?_
  refine E.st (s_iload_n (q := 15) dX8_tellFull_14 rfl rfl) ?_
  refine E.st (p2 := 18) (l2 := [(0, .ref 65), (1, .int n)]) (s2 := [.int q]) (h2 := h) (s_invv (K := mX8_cellOf) (o := 65) (as := [.int n]) (rest := []) (v := some (.int q)) dX8_tellFull_15 rfl lX8_153 (by omega) rfl (Nat.le_of_ble_eq_true rfl) rfl (Nat.le_of_ble_eq_true rfl) (ho) hq (fun h => nomatch h)) ?_
  refine E.st (s_istore_n (q := 19) (ls' := [(2, .int q), (0, .ref 65), (1, .int n)]) dX8_tellFull_18 rfl (by decide) rfl) ?_
  refine E.st (s_aload_n (q := 20) dX8_tellFull_19 rfl rfl) ?_
  refine E.st (s_gf (q := 23) (v := .ref 72) dX8_tellFull_20 rfl fX8_29.l (ho) (by decide) (e9)) ?_
  refine E.st (s_iload_n (q := 24) dX8_tellFull_23 rfl rfl) ?_
  refine E.st (s_iald (q := 25) dX8_tellFull_24 rfl (by decide) (ha) i) ?_
  refine E.st (s_iconst (q := 26) (v := 1) dX8_tellFull_25 rfl (by decide)) ?_
  refine E.st (s_icmp_ne_t (q := 43) dX8_tellFull_26 (by decide) c1) ?_
  refine E.st (s_aload_n (q := 44) dX8_tellFull_43 rfl rfl) ?_
  refine E.st (s_gf (q := 47) (v := .ref 72) dX8_tellFull_44 rfl fX8_29.l (ho) (by decide) (e9)) ?_
  refine E.st (s_iload_n (q := 48) dX8_tellFull_47 rfl rfl) ?_
  refine E.st (s_iald (q := 49) dX8_tellFull_48 rfl (by decide) (ha) i) ?_
  refine E.st (s_iconst (q := 50) (v := 3) dX8_tellFull_49 rfl (by decide)) ?_
  refine E.st (s_icmp_ne_t (q := 112) dX8_tellFull_50 (by decide) c2) ?_
  refine E.st (s_aload_n (q := 113) dX8_tellFull_112 rfl rfl) ?_
  refine E.st (s_gf (q := 116) (v := .ref 74) dX8_tellFull_113 rfl fX8_35.l (ho) (by decide) (e11)) ?_
  refine E.st (s_iload_n (q := 117) dX8_tellFull_116 rfl rfl) ?_
  refine E.st (s_iald (q := 118) dX8_tellFull_117 rfl (by decide) (ha1) i1) ?_
  refine E.st (s_istore_n (q := 119) (ls' := [(3, .int (f1 q.toNatClampNeg)), (2, .int q), (0, .ref 65), (1, .int n)]) dX8_tellFull_118 rfl (by decide) rfl) ?_
  refine E.st (s_aload_n (q := 120) dX8_tellFull_119 rfl rfl) ?_
  refine E.st (s_gf (q := 123) (v := .ref 75) dX8_tellFull_120 rfl fX8_38.l (ho) (by decide) (e12)) ?_
  refine E.st (s_iload_n (q := 124) dX8_tellFull_123 rfl rfl) ?_
  refine E.st (s_iald (q := 125) dX8_tellFull_124 rfl (by decide) (ha2) i2) ?_
  refine E.st (s_istore (q := 127) (ls' := [(4, .int (f2 q.toNatClampNeg)), (3, .int (f1 q.toNatClampNeg)), (2, .int q), (0, .ref 65), (1, .int n)]) dX8_tellFull_125 rfl (by decide) rfl) ?_
  refine E.st (s_aload_n (q := 128) dX8_tellFull_127 rfl rfl) ?_
  refine E.st (s_iconst (q := 129) (v := 1) dX8_tellFull_128 rfl (by decide)) ?_
  refine E.st (s_ldc2 (q := 132) dX8_tellFull_129 rfl kX8_177) ?_
  refine E.st (p2 := 135) (l2 := [(4, .int (f2 q.toNatClampNeg)), (3, .int (f1 q.toNatClampNeg)), (2, .int q), (0, .ref 65), (1, .int n)]) (s2 := []) (h2 := (hs h 65 (ob 8 (fo 53 (va_up F 26 (.int 2)))))) (s_invv (K := mX8_token) (o := 65) (as := [.int 1, .long 2]) (rest := []) (v := none) dX8_tellFull_132 rfl lX8_171 (by omega) rfl (Nat.le_of_ble_eq_true rfl) rfl (Nat.le_of_ble_eq_true rfl) (ho) (p_X8_token_2 (d := 0) (Nat.le_refl _) h 65 (1 : Int32) (2 : Int64) F ho 83 e21 v7 e7 n4 f3 ha3 c3 (by decide) c4) (fun h => nomatch h)) ?_
  refine E.st (s_aload_n (q := 136) dX8_tellFull_135 rfl rfl) ?_
  refine E.st (s_gf (q := 139) (v := .int 2) dX8_tellFull_136 rfl fX8_126.l (hs_eq) (by decide) (up_eq)) ?_
  refine E.st (s_if_ne_t (q := 147) dX8_tellFull_139 (by decide) (by decide)) ?_
  refine E.st (s_aload_n (q := 148) dX8_tellFull_147 rfl rfl) ?_
  refine E.st (s_gf (q := 151) (v := .int 2) dX8_tellFull_148 rfl fX8_126.l (hs_eq) (by decide) (up_eq)) ?_
  refine E.st (s_if_ne_t (q := 160) dX8_tellFull_151 (by decide) (by decide)) ?_
  exact E.v dX8_tellFull_160 rfl rfl rfl

set_option maxRecDepth 20000 in
theorem j_X8_tellFull_b_3 {d : Nat} (hd : 4 ≤ d) (h : AH) (n : Int32) (x : Nat) (y : Nat) (F : Nat → Value) (ho : h.1 65 = ob 8 (fo 53 F)) (v26 : Int32) (e26 : F 26 = .int v26) (c : v26 = 0) (q : Int32) (hq : CM mX8_cellOf 3 [.ref 65, .int n] h (some (.int q)) h) (e9 : F 9 = .ref 72) (n1 : Nat) (f : Nat → Int32) (ha : h.1 72 = ia n1 f) (i : vp_in q n1) (c1 : ¬ (f q.toNatClampNeg) = 1) (c2 : (f q.toNatClampNeg) = 3) (e10 : F 10 = .ref 73) (n2 : Nat) (f1 : Nat → Int64) (ha1 : h.1 73 = la n2 f1) (i1 : vp_in q n2) (f2 : Int32) (en : ((f1 q.toNatClampNeg).toInt32) = f2) (q1 : Int32) (hq1 : CM mX8_behind 2 [.ref 65, .int f2] h (some (.int q1)) h) : J false mX8_tellFull d 5 [(0, .ref 65), (1, .int n)] [] h 71 [(0, .ref 65), (3, .int f2), (4, .int q1), (5, .int f2)] [] h := by
  refine J.tr (s_aload_n (q := 6) dX8_tellFull_5 rfl rfl) ?_
  refine J.tr (s_gf (q := 9) (v := .int v26) dX8_tellFull_6 rfl fX8_126.l (ho) (by decide) (e26)) ?_
  refine J.tr (s_if_eq_t (q := 13) dX8_tellFull_9 (by decide) c) ?_
  refine J.tr (s_aload_n (q := 14) dX8_tellFull_13 rfl rfl) ?_
  refine J.tr (s_iload_n (q := 15) dX8_tellFull_14 rfl rfl) ?_
  refine J.tr (p2 := 18) (l2 := [(0, .ref 65), (1, .int n)]) (s2 := [.int q]) (h2 := h) (s_invv (K := mX8_cellOf) (o := 65) (as := [.int n]) (rest := []) (v := some (.int q)) dX8_tellFull_15 rfl lX8_153 (by omega) rfl (Nat.le_of_ble_eq_true rfl) rfl (Nat.le_of_ble_eq_true rfl) (ho) hq (fun h => nomatch h)) ?_
  refine J.tr (s_istore_n (q := 19) (ls' := [(2, .int q), (0, .ref 65), (1, .int n)]) dX8_tellFull_18 rfl (by decide) rfl) ?_
  refine J.tr (s_aload_n (q := 20) dX8_tellFull_19 rfl rfl) ?_
  refine J.tr (s_gf (q := 23) (v := .ref 72) dX8_tellFull_20 rfl fX8_29.l (ho) (by decide) (e9)) ?_
  refine J.tr (s_iload_n (q := 24) dX8_tellFull_23 rfl rfl) ?_
  refine J.tr (s_iald (q := 25) dX8_tellFull_24 rfl (by decide) (ha) i) ?_
  refine J.tr (s_iconst (q := 26) (v := 1) dX8_tellFull_25 rfl (by decide)) ?_
  refine J.tr (s_icmp_ne_t (q := 43) dX8_tellFull_26 (by decide) c1) ?_
  refine J.tr (s_aload_n (q := 44) dX8_tellFull_43 rfl rfl) ?_
  refine J.tr (s_gf (q := 47) (v := .ref 72) dX8_tellFull_44 rfl fX8_29.l (ho) (by decide) (e9)) ?_
  refine J.tr (s_iload_n (q := 48) dX8_tellFull_47 rfl rfl) ?_
  refine J.tr (s_iald (q := 49) dX8_tellFull_48 rfl (by decide) (ha) i) ?_
  refine J.tr (s_iconst (q := 50) (v := 3) dX8_tellFull_49 rfl (by decide)) ?_
  refine J.tr (s_icmp_ne_f (q := 53) (tg := 112) dX8_tellFull_50 (by decide) rfl c2) ?_
  refine J.tr (s_aload_n (q := 54) dX8_tellFull_53 rfl rfl) ?_
  refine J.tr (s_gf (q := 57) (v := .ref 73) dX8_tellFull_54 rfl fX8_32.l (ho) (by decide) (e10)) ?_
  refine J.tr (s_iload_n (q := 58) dX8_tellFull_57 rfl rfl) ?_
  refine J.tr (s_lald (q := 59) dX8_tellFull_58 rfl (ha1) i1) ?_
  refine J.tr (s_l2i (q := 60) dX8_tellFull_59 rfl) ?_
  refine J.tr (s_nmi en) ?_
  refine J.tr (s_istore_n (q := 61) (ls' := [(3, .int f2), (2, .int q), (0, .ref 65), (1, .int n)]) dX8_tellFull_60 rfl (by decide) rfl) ?_
  refine J.tr (s_aload_n (q := 62) dX8_tellFull_61 rfl rfl) ?_
  refine J.tr (s_iload_n (q := 63) dX8_tellFull_62 rfl rfl) ?_
  refine J.tr (p2 := 66) (l2 := [(3, .int f2), (2, .int q), (0, .ref 65), (1, .int n)]) (s2 := [.int q1]) (h2 := h) (s_invv (K := mX8_behind) (o := 65) (as := [.int f2]) (rest := []) (v := some (.int q1)) dX8_tellFull_63 rfl lX8_174 (by omega) rfl (Nat.le_of_ble_eq_true rfl) rfl (Nat.le_of_ble_eq_true rfl) (ho) hq1 (fun h => nomatch h)) ?_
  refine J.tr (s_istore (q := 68) (ls' := [(4, .int q1), (3, .int f2), (2, .int q), (0, .ref 65), (1, .int n)]) dX8_tellFull_66 rfl (by decide) rfl) ?_
  refine J.tr (s_iload_n (q := 69) dX8_tellFull_68 rfl rfl) ?_
  refine J.tr (s_istore (q := 71) (ls' := [(5, .int f2), (4, .int q1), (3, .int f2), (2, .int q), (0, .ref 65), (1, .int n)]) dX8_tellFull_69 rfl (by decide) rfl) ?_
  refine J.tr (s_ls (ls' := [(0, .ref 65), (3, .int f2), (4, .int q1), (5, .int f2)]) [4, 2, 1, 0] rfl) ?_
  exact J.rf

set_option maxRecDepth 20000 in
theorem j_X8_tellFull_b_4 {d : Nat} (hd : 4 ≤ d) (h : AH) (n : Int32) (x : Nat) (y : Nat) (F : Nat → Value) (ho : h.1 65 = ob 8 (fo 53 F)) (v26 : Int32) (e26 : F 26 = .int v26) (c : v26 = 0) (q : Int32) (hq : CM mX8_cellOf 3 [.ref 65, .int n] h (some (.int q)) h) (e9 : F 9 = .ref 72) (n1 : Nat) (f : Nat → Int32) (ha : h.1 72 = ia n1 f) (i : vp_in q n1) (c1 : (f q.toNatClampNeg) = 1) (e10 : F 10 = .ref 73) (n2 : Nat) (f1 : Nat → Int64) (ha1 : h.1 73 = la n2 f1) (i1 : vp_in q n2) (e21 : F 21 = .ref 83) (v7 : Int32) (e7 : F 7 = .int v7) (n3 : Nat) (f2 : Nat → Int32) (ha2 : h.1 83 = ia n3 f2) (c2 : vp_in v7 n3) (c3 : ¬ (f2 v7.toNatClampNeg) = 100) (e19 : F 19 = .ref 81) (n4 : Nat) (f3 : Nat → Int32) (ha3 : h.1 81 = ia n4 f3) (c4 : vp_in ((100 * v7) + (f2 v7.toNatClampNeg)) n4) (e20 : F 20 = .ref 82) (n5 : Nat) (f4 : Nat → Int64) (ha4 : h.1 82 = la n5 f4) (c5 : vp_in ((100 * v7) + (f2 v7.toNatClampNeg)) n5) : E false mX8_tellFull d 5 [(0, .ref 65), (1, .int n)] [] h (none) (hs (hs (hs h 81 (ia n4 (upd f3 ((100 * v7) + (f2 v7.toNatClampNeg)).toNatClampNeg (0 : Int32)))) 82 (la n5 (vp_updL f4 ((100 * v7) + (f2 v7.toNatClampNeg)).toNatClampNeg (f1 q.toNatClampNeg)))) 83 (ia n3 (upd f2 v7.toNatClampNeg ((f2 v7.toNatClampNeg) + 1)))) := by
  refine E.st (s_aload_n (q := 6) dX8_tellFull_5 rfl rfl) ?_
  refine E.st (s_gf (q := 9) (v := .int v26) dX8_tellFull_6 rfl fX8_126.l (ho) (by decide) (e26)) ?_
  refine E.st (s_if_eq_t (q := 13) dX8_tellFull_9 (by decide) c) ?_
  refine E.st (s_aload_n (q := 14) dX8_tellFull_13 rfl rfl) ?_
  refine E.st (s_iload_n (q := 15) dX8_tellFull_14 rfl rfl) ?_
  refine E.st (p2 := 18) (l2 := [(0, .ref 65), (1, .int n)]) (s2 := [.int q]) (h2 := h) (s_invv (K := mX8_cellOf) (o := 65) (as := [.int n]) (rest := []) (v := some (.int q)) dX8_tellFull_15 rfl lX8_153 (by omega) rfl (Nat.le_of_ble_eq_true rfl) rfl (Nat.le_of_ble_eq_true rfl) (ho) hq (fun h => nomatch h)) ?_
  refine E.st (s_istore_n (q := 19) (ls' := [(2, .int q), (0, .ref 65), (1, .int n)]) dX8_tellFull_18 rfl (by decide) rfl) ?_
  refine E.st (s_aload_n (q := 20) dX8_tellFull_19 rfl rfl) ?_
  refine E.st (s_gf (q := 23) (v := .ref 72) dX8_tellFull_20 rfl fX8_29.l (ho) (by decide) (e9)) ?_
  refine E.st (s_iload_n (q := 24) dX8_tellFull_23 rfl rfl) ?_
  refine E.st (s_iald (q := 25) dX8_tellFull_24 rfl (by decide) (ha) i) ?_
  refine E.st (s_iconst (q := 26) (v := 1) dX8_tellFull_25 rfl (by decide)) ?_
  refine E.st (s_icmp_ne_f (q := 29) (tg := 43) dX8_tellFull_26 (by decide) rfl c1) ?_
  refine E.st (s_aload_n (q := 30) dX8_tellFull_29 rfl rfl) ?_
  refine E.st (s_iconst (q := 31) (v := 0) dX8_tellFull_30 rfl (by decide)) ?_
  refine E.st (s_aload_n (q := 32) dX8_tellFull_31 rfl rfl) ?_
  refine E.st (s_gf (q := 35) (v := .ref 73) dX8_tellFull_32 rfl fX8_32.l (ho) (by decide) (e10)) ?_
  refine E.st (s_iload_n (q := 36) dX8_tellFull_35 rfl rfl) ?_
  refine E.st (s_lald (q := 37) dX8_tellFull_36 rfl (ha1) i1) ?_
  refine E.st (p2 := 40) (l2 := [(2, .int q), (0, .ref 65), (1, .int n)]) (s2 := []) (h2 := (hs (hs (hs h 81 (ia n4 (upd f3 ((100 * v7) + (f2 v7.toNatClampNeg)).toNatClampNeg (0 : Int32)))) 82 (la n5 (vp_updL f4 ((100 * v7) + (f2 v7.toNatClampNeg)).toNatClampNeg (f1 q.toNatClampNeg)))) 83 (ia n3 (upd f2 v7.toNatClampNeg ((f2 v7.toNatClampNeg) + 1))))) (s_invv (K := mX8_token) (o := 65) (as := [.int 0, .long (f1 q.toNatClampNeg)]) (rest := []) (v := none) dX8_tellFull_37 rfl lX8_171 (by omega) rfl (Nat.le_of_ble_eq_true rfl) rfl (Nat.le_of_ble_eq_true rfl) (ho) (p_X8_token_1 (d := 0) (Nat.le_refl _) h 65 (0 : Int32) (f1 q.toNatClampNeg) F ho 83 e21 v7 e7 n3 f2 ha2 c2 (by decide) c3 81 e19 n4 f3 ha3 c4 (by decide) 82 e20 n5 f4 ha4 c5 (by decide)) (fun h => nomatch h)) ?_
  refine E.st (s_goto (q := 160) dX8_tellFull_40 (by decide)) ?_
  exact E.v dX8_tellFull_160 rfl rfl rfl

set_option maxRecDepth 20000 in
theorem j_X8_tellFull_b_5 {d : Nat} (hd : 4 ≤ d) (h : AH) (n : Int32) (x : Nat) (y : Nat) (F : Nat → Value) (ho : h.1 65 = ob 8 (fo 53 F)) (v26 : Int32) (e26 : F 26 = .int v26) (c : v26 = 0) (q : Int32) (hq : CM mX8_cellOf 3 [.ref 65, .int n] h (some (.int q)) h) (e9 : F 9 = .ref 72) (n1 : Nat) (f : Nat → Int32) (ha : h.1 72 = ia n1 f) (i : vp_in q n1) (c1 : (f q.toNatClampNeg) = 1) (e10 : F 10 = .ref 73) (n2 : Nat) (f1 : Nat → Int64) (ha1 : h.1 73 = la n2 f1) (i1 : vp_in q n2) (e21 : F 21 = .ref 83) (v7 : Int32) (e7 : F 7 = .int v7) (n3 : Nat) (f2 : Nat → Int32) (ha2 : h.1 83 = ia n3 f2) (c2 : vp_in v7 n3) (c3 : (f2 v7.toNatClampNeg) = 100) : E false mX8_tellFull d 5 [(0, .ref 65), (1, .int n)] [] h (none) (hs h 65 (ob 8 (fo 53 (va_up F 26 (.int 2))))) := by
  refine E.st (s_aload_n (q := 6) dX8_tellFull_5 rfl rfl) ?_
  refine E.st (s_gf (q := 9) (v := .int v26) dX8_tellFull_6 rfl fX8_126.l (ho) (by decide) (e26)) ?_
  refine E.st (s_if_eq_t (q := 13) dX8_tellFull_9 (by decide) c) ?_
  refine E.st (s_aload_n (q := 14) dX8_tellFull_13 rfl rfl) ?_
  refine E.st (s_iload_n (q := 15) dX8_tellFull_14 rfl rfl) ?_
  refine E.st (p2 := 18) (l2 := [(0, .ref 65), (1, .int n)]) (s2 := [.int q]) (h2 := h) (s_invv (K := mX8_cellOf) (o := 65) (as := [.int n]) (rest := []) (v := some (.int q)) dX8_tellFull_15 rfl lX8_153 (by omega) rfl (Nat.le_of_ble_eq_true rfl) rfl (Nat.le_of_ble_eq_true rfl) (ho) hq (fun h => nomatch h)) ?_
  refine E.st (s_istore_n (q := 19) (ls' := [(2, .int q), (0, .ref 65), (1, .int n)]) dX8_tellFull_18 rfl (by decide) rfl) ?_
  refine E.st (s_aload_n (q := 20) dX8_tellFull_19 rfl rfl) ?_
  refine E.st (s_gf (q := 23) (v := .ref 72) dX8_tellFull_20 rfl fX8_29.l (ho) (by decide) (e9)) ?_
  refine E.st (s_iload_n (q := 24) dX8_tellFull_23 rfl rfl) ?_
  refine E.st (s_iald (q := 25) dX8_tellFull_24 rfl (by decide) (ha) i) ?_
  refine E.st (s_iconst (q := 26) (v := 1) dX8_tellFull_25 rfl (by decide)) ?_
  refine E.st (s_icmp_ne_f (q := 29) (tg := 43) dX8_tellFull_26 (by decide) rfl c1) ?_
  refine E.st (s_aload_n (q := 30) dX8_tellFull_29 rfl rfl) ?_
  refine E.st (s_iconst (q := 31) (v := 0) dX8_tellFull_30 rfl (by decide)) ?_
  refine E.st (s_aload_n (q := 32) dX8_tellFull_31 rfl rfl) ?_
  refine E.st (s_gf (q := 35) (v := .ref 73) dX8_tellFull_32 rfl fX8_32.l (ho) (by decide) (e10)) ?_
  refine E.st (s_iload_n (q := 36) dX8_tellFull_35 rfl rfl) ?_
  refine E.st (s_lald (q := 37) dX8_tellFull_36 rfl (ha1) i1) ?_
  refine E.st (p2 := 40) (l2 := [(2, .int q), (0, .ref 65), (1, .int n)]) (s2 := []) (h2 := (hs h 65 (ob 8 (fo 53 (va_up F 26 (.int 2)))))) (s_invv (K := mX8_token) (o := 65) (as := [.int 0, .long (f1 q.toNatClampNeg)]) (rest := []) (v := none) dX8_tellFull_37 rfl lX8_171 (by omega) rfl (Nat.le_of_ble_eq_true rfl) rfl (Nat.le_of_ble_eq_true rfl) (ho) (p_X8_token_2 (d := 0) (Nat.le_refl _) h 65 (0 : Int32) (f1 q.toNatClampNeg) F ho 83 e21 v7 e7 n3 f2 ha2 c2 (by decide) c3) (fun h => nomatch h)) ?_
  refine E.st (s_goto (q := 160) dX8_tellFull_40 (by decide)) ?_
  exact E.v dX8_tellFull_160 rfl rfl rfl

set_option maxRecDepth 20000 in
theorem j_X8_tellFull_b_6 {d : Nat} (hd : 0 ≤ d) (h : AH) (n : Int32) (x : Nat) (y : Nat) (F : Nat → Value) (ho : h.1 65 = ob 8 (fo 53 F)) (v26 : Int32) (e26 : F 26 = .int v26) (c : ¬ (v26 = 0)) : E false mX8_tellFull d 5 [(0, .ref 65), (1, .int n)] [] h (none) h := by
  refine E.st (s_aload_n (q := 6) dX8_tellFull_5 rfl rfl) ?_
  refine E.st (s_gf (q := 9) (v := .int v26) dX8_tellFull_6 rfl fX8_126.l (ho) (by decide) (e26)) ?_
  refine E.st (s_if_eq_f (q := 12) (tg := 13) dX8_tellFull_9 (by decide) rfl c) ?_
  exact E.v dX8_tellFull_12 rfl rfl rfl

set_option maxRecDepth 20000 in
theorem j_X8_tellFull_c_1 {d : Nat} (hd : 0 ≤ d) (h : AH) (f : Int32) (e : Int32) (k : Int32) (x : Nat) (y : Nat) (c : e ≤ k) : E false mX8_tellFull d 71 [(0, .ref 65), (3, .int f), (4, .int e), (5, .int k)] [] h (none) h := by
  refine E.st (s_iload (q := 73) dX8_tellFull_71 rfl rfl) ?_
  refine E.st (s_iload (q := 75) dX8_tellFull_73 rfl rfl) ?_
  refine E.st (s_icmp_ge_t (q := 109) dX8_tellFull_75 (by decide) c) ?_
  refine E.st (s_goto (q := 160) dX8_tellFull_109 (by decide)) ?_
  exact E.v dX8_tellFull_160 rfl rfl rfl

set_option maxRecDepth 20000 in
theorem j_X8_tellFull_c_2 {d : Nat} (hd : 0 ≤ d) (h : AH) (f : Int32) (e : Int32) (k : Int32) (x : Nat) (y : Nat) (c : ¬ (e ≤ k)) (F : Nat → Value) (ho : h.1 65 = ob 8 (fo 53 F)) (v26 : Int32) (e26 : F 26 = .int v26) (c1 : ¬ v26 = 0) : E false mX8_tellFull d 71 [(0, .ref 65), (3, .int f), (4, .int e), (5, .int k)] [] h (none) h := by
  refine E.st (s_iload (q := 73) dX8_tellFull_71 rfl rfl) ?_
  refine E.st (s_iload (q := 75) dX8_tellFull_73 rfl rfl) ?_
  refine E.st (s_icmp_ge_f (q := 78) (tg := 109) dX8_tellFull_75 (by decide) rfl c) ?_
  refine E.st (s_aload_n (q := 79) dX8_tellFull_78 rfl rfl) ?_
  refine E.st (s_gf (q := 82) (v := .int v26) dX8_tellFull_79 rfl fX8_126.l (ho) (by decide) (e26)) ?_
  refine E.st (s_if_ne_t (q := 109) dX8_tellFull_82 (by decide) c1) ?_
  refine E.st (s_goto (q := 160) dX8_tellFull_109 (by decide)) ?_
  exact E.v dX8_tellFull_160 rfl rfl rfl

set_option maxRecDepth 20000 in
theorem j_X8_tellFull_c_3 {d : Nat} (hd : 1 ≤ d) (h : AH) (f : Int32) (e : Int32) (k : Int32) (x : Nat) (y : Nat) (c : ¬ (e ≤ k)) (F : Nat → Value) (ho : h.1 65 = ob 8 (fo 53 F)) (v26 : Int32) (e26 : F 26 = .int v26) (c1 : v26 = 0) (e13 : F 13 = .ref x) (n : Nat) (f1 : Nat → Int32) (ha : h.1 x = ia n f1) (i : vp_in k n) (p : 0 < x) (e14 : F 14 = .ref y) (n1 : Nat) (f2 : Nat → Int64) (ha1 : h.1 y = la n1 f2) (i1 : vp_in k n1) (e21 : F 21 = .ref 83) (v7 : Int32) (e7 : F 7 = .int v7) (n2 : Nat) (f3 : Nat → Int32) (ha2 : h.1 83 = ia n2 f3) (c2 : vp_in v7 n2) (c3 : ¬ (f3 v7.toNatClampNeg) = 100) (e19 : F 19 = .ref 81) (n3 : Nat) (f4 : Nat → Int32) (ha3 : h.1 81 = ia n3 f4) (c4 : vp_in ((100 * v7) + (f3 v7.toNatClampNeg)) n3) (e20 : F 20 = .ref 82) (n4 : Nat) (f5 : Nat → Int64) (ha4 : h.1 82 = la n4 f5) (c5 : vp_in ((100 * v7) + (f3 v7.toNatClampNeg)) n4) : J false mX8_tellFull d 71 [(0, .ref 65), (3, .int f), (4, .int e), (5, .int k)] [] h 71 [(0, .ref 65), (3, .int f), (4, .int e), (5, .int (k + 1))] [] (hs (hs (hs h 81 (ia n3 (upd f4 ((100 * v7) + (f3 v7.toNatClampNeg)).toNatClampNeg (f1 k.toNatClampNeg)))) 82 (la n4 (vp_updL f5 ((100 * v7) + (f3 v7.toNatClampNeg)).toNatClampNeg (f2 k.toNatClampNeg)))) 83 (ia n2 (upd f3 v7.toNatClampNeg ((f3 v7.toNatClampNeg) + 1)))) := by
  refine J.tr (s_iload (q := 73) dX8_tellFull_71 rfl rfl) ?_
  refine J.tr (s_iload (q := 75) dX8_tellFull_73 rfl rfl) ?_
  refine J.tr (s_icmp_ge_f (q := 78) (tg := 109) dX8_tellFull_75 (by decide) rfl c) ?_
  refine J.tr (s_aload_n (q := 79) dX8_tellFull_78 rfl rfl) ?_
  refine J.tr (s_gf (q := 82) (v := .int v26) dX8_tellFull_79 rfl fX8_126.l (ho) (by decide) (e26)) ?_
  refine J.tr (s_if_ne_f (q := 85) (tg := 109) dX8_tellFull_82 (by decide) rfl c1) ?_
  refine J.tr (s_aload_n (q := 86) dX8_tellFull_85 rfl rfl) ?_
  refine J.tr (s_aload_n (q := 87) dX8_tellFull_86 rfl rfl) ?_
  refine J.tr (s_gf (q := 90) (v := .ref x) dX8_tellFull_87 rfl fX8_41.l (ho) (by decide) (e13)) ?_
  refine J.tr (s_iload (q := 92) dX8_tellFull_90 rfl rfl) ?_
  refine J.tr (s_iald (q := 93) dX8_tellFull_92 rfl p (ha) i) ?_
  refine J.tr (s_aload_n (q := 94) dX8_tellFull_93 rfl rfl) ?_
  refine J.tr (s_gf (q := 97) (v := .ref y) dX8_tellFull_94 rfl fX8_44.l (ho) (by decide) (e14)) ?_
  refine J.tr (s_iload (q := 99) dX8_tellFull_97 rfl rfl) ?_
  refine J.tr (s_lald (q := 100) dX8_tellFull_99 rfl (ha1) i1) ?_
  refine J.tr (p2 := 103) (l2 := [(0, .ref 65), (3, .int f), (4, .int e), (5, .int k)]) (s2 := []) (h2 := (hs (hs (hs h 81 (ia n3 (upd f4 ((100 * v7) + (f3 v7.toNatClampNeg)).toNatClampNeg (f1 k.toNatClampNeg)))) 82 (la n4 (vp_updL f5 ((100 * v7) + (f3 v7.toNatClampNeg)).toNatClampNeg (f2 k.toNatClampNeg)))) 83 (ia n2 (upd f3 v7.toNatClampNeg ((f3 v7.toNatClampNeg) + 1))))) (s_invv (K := mX8_token) (o := 65) (as := [.int (f1 k.toNatClampNeg), .long (f2 k.toNatClampNeg)]) (rest := []) (v := none) dX8_tellFull_100 rfl lX8_171 (by omega) rfl (Nat.le_of_ble_eq_true rfl) rfl (Nat.le_of_ble_eq_true rfl) (ho) (p_X8_token_1 (d := 0) (Nat.le_refl _) h 65 (f1 k.toNatClampNeg) (f2 k.toNatClampNeg) F ho 83 e21 v7 e7 n2 f3 ha2 c2 (by decide) c3 81 e19 n3 f4 ha3 c4 (by decide) 82 e20 n4 f5 ha4 c5 (by decide)) (fun h => nomatch h)) ?_
  refine J.tr (s_iinc (q := 106) (v := (k + 1)) (ls' := [(5, .int (k + 1)), (0, .ref 65), (3, .int f), (4, .int e)]) dX8_tellFull_103 rfl (by decide) rfl rfl rfl) ?_
  refine J.tr (s_goto (q := 71) dX8_tellFull_106 (by decide)) ?_
  refine J.tr (s_ls (ls' := [(0, .ref 65), (3, .int f), (4, .int e), (5, .int (k + 1))]) [1, 2, 3, 0] rfl) ?_
  exact J.rf

set_option maxRecDepth 20000 in
theorem j_X8_tellFull_c_4 {d : Nat} (hd : 1 ≤ d) (h : AH) (f : Int32) (e : Int32) (k : Int32) (x : Nat) (y : Nat) (c : ¬ (e ≤ k)) (F : Nat → Value) (ho : h.1 65 = ob 8 (fo 53 F)) (v26 : Int32) (e26 : F 26 = .int v26) (c1 : v26 = 0) (e13 : F 13 = .ref x) (n : Nat) (f1 : Nat → Int32) (ha : h.1 x = ia n f1) (i : vp_in k n) (p : 0 < x) (e14 : F 14 = .ref y) (n1 : Nat) (f2 : Nat → Int64) (ha1 : h.1 y = la n1 f2) (i1 : vp_in k n1) (e21 : F 21 = .ref 83) (v7 : Int32) (e7 : F 7 = .int v7) (n2 : Nat) (f3 : Nat → Int32) (ha2 : h.1 83 = ia n2 f3) (c2 : vp_in v7 n2) (c3 : (f3 v7.toNatClampNeg) = 100) : J false mX8_tellFull d 71 [(0, .ref 65), (3, .int f), (4, .int e), (5, .int k)] [] h 71 [(0, .ref 65), (3, .int f), (4, .int e), (5, .int (k + 1))] [] (hs h 65 (ob 8 (fo 53 (va_up F 26 (.int 2))))) := by
  refine J.tr (s_iload (q := 73) dX8_tellFull_71 rfl rfl) ?_
  refine J.tr (s_iload (q := 75) dX8_tellFull_73 rfl rfl) ?_
  refine J.tr (s_icmp_ge_f (q := 78) (tg := 109) dX8_tellFull_75 (by decide) rfl c) ?_
  refine J.tr (s_aload_n (q := 79) dX8_tellFull_78 rfl rfl) ?_
  refine J.tr (s_gf (q := 82) (v := .int v26) dX8_tellFull_79 rfl fX8_126.l (ho) (by decide) (e26)) ?_
  refine J.tr (s_if_ne_f (q := 85) (tg := 109) dX8_tellFull_82 (by decide) rfl c1) ?_
  refine J.tr (s_aload_n (q := 86) dX8_tellFull_85 rfl rfl) ?_
  refine J.tr (s_aload_n (q := 87) dX8_tellFull_86 rfl rfl) ?_
  refine J.tr (s_gf (q := 90) (v := .ref x) dX8_tellFull_87 rfl fX8_41.l (ho) (by decide) (e13)) ?_
  refine J.tr (s_iload (q := 92) dX8_tellFull_90 rfl rfl) ?_
  refine J.tr (s_iald (q := 93) dX8_tellFull_92 rfl p (ha) i) ?_
  refine J.tr (s_aload_n (q := 94) dX8_tellFull_93 rfl rfl) ?_
  refine J.tr (s_gf (q := 97) (v := .ref y) dX8_tellFull_94 rfl fX8_44.l (ho) (by decide) (e14)) ?_
  refine J.tr (s_iload (q := 99) dX8_tellFull_97 rfl rfl) ?_
  refine J.tr (s_lald (q := 100) dX8_tellFull_99 rfl (ha1) i1) ?_
  refine J.tr (p2 := 103) (l2 := [(0, .ref 65), (3, .int f), (4, .int e), (5, .int k)]) (s2 := []) (h2 := (hs h 65 (ob 8 (fo 53 (va_up F 26 (.int 2)))))) (s_invv (K := mX8_token) (o := 65) (as := [.int (f1 k.toNatClampNeg), .long (f2 k.toNatClampNeg)]) (rest := []) (v := none) dX8_tellFull_100 rfl lX8_171 (by omega) rfl (Nat.le_of_ble_eq_true rfl) rfl (Nat.le_of_ble_eq_true rfl) (ho) (p_X8_token_2 (d := 0) (Nat.le_refl _) h 65 (f1 k.toNatClampNeg) (f2 k.toNatClampNeg) F ho 83 e21 v7 e7 n2 f3 ha2 c2 (by decide) c3) (fun h => nomatch h)) ?_
  refine J.tr (s_iinc (q := 106) (v := (k + 1)) (ls' := [(5, .int (k + 1)), (0, .ref 65), (3, .int f), (4, .int e)]) dX8_tellFull_103 rfl (by decide) rfl rfl rfl) ?_
  refine J.tr (s_goto (q := 71) dX8_tellFull_106 (by decide)) ?_
  refine J.tr (s_ls (ls' := [(0, .ref 65), (3, .int f), (4, .int e), (5, .int (k + 1))]) [1, 2, 3, 0] rfl) ?_
  exact J.rf

set_option maxRecDepth 20000 in
theorem j_X8_tellFull_d_1 {d : Nat} (hd : 0 ≤ d) (h : AH) (e : Int32) (x : Nat) (y : Nat) (F : Nat → Value) (ho : h.1 65 = ob 8 (fo 53 F)) (v26 : Int32) (e26 : F 26 = .int v26) (c : ¬ v26 = 0) : E false mX8_tellFull d 147 [(0, .ref 65), (4, .int e)] [] h (none) h := by
  refine E.st (s_aload_n (q := 148) dX8_tellFull_147 rfl rfl) ?_
  refine E.st (s_gf (q := 151) (v := .int v26) dX8_tellFull_148 rfl fX8_126.l (ho) (by decide) (e26)) ?_
  refine E.st (s_if_ne_t (q := 160) dX8_tellFull_151 (by decide) c) ?_
  exact E.v dX8_tellFull_160 rfl rfl rfl

set_option maxRecDepth 20000 in
theorem j_X8_tellFull_d_2 {d : Nat} (hd : 0 ≤ d) (h : AH) (e : Int32) (x : Nat) (y : Nat) (F : Nat → Value) (ho : h.1 65 = ob 8 (fo 53 F)) (v26 : Int32) (e26 : F 26 = .int v26) (c : v26 = 0) : J false mX8_tellFull d 147 [(0, .ref 65), (4, .int e)] [] h 157 [(0, .ref 65)] [.int e, .ref 65] h := by
  refine J.tr (s_aload_n (q := 148) dX8_tellFull_147 rfl rfl) ?_
  refine J.tr (s_gf (q := 151) (v := .int v26) dX8_tellFull_148 rfl fX8_126.l (ho) (by decide) (e26)) ?_
  refine J.tr (s_if_ne_f (q := 154) (tg := 160) dX8_tellFull_151 (by decide) rfl c) ?_
  refine J.tr (s_aload_n (q := 155) dX8_tellFull_154 rfl rfl) ?_
  refine J.tr (s_iload (q := 157) dX8_tellFull_155 rfl rfl) ?_
  refine J.tr (s_ls (ls' := [(0, .ref 65)]) [0] rfl) ?_
  exact J.rf

set_option maxRecDepth 20000 in
theorem j_X8_tellFull_e_1 {d : Nat} (hd : 0 ≤ d) (h : AH) (x : Nat) (y : Nat) : E false mX8_tellFull d 160 [(0, .ref 65)] [] h (none) h := by
  exact E.v dX8_tellFull_160 rfl rfl rfl

set_option maxRecDepth 20000 in
theorem j_X8_behind_a_1 {d : Nat} (hd : 0 ≤ d) (h : AH) (f : Int32) (x : Nat) (y : Nat) : J false mX8_behind d 0 [(0, .ref 65), (1, .int f)] [] h 5 [(0, .ref 65), (2, .long 1), (4, .int f)] [] h := by
  refine J.tr (s_lconst (q := 1) (v := 1) dX8_behind_0 rfl (by decide)) ?_
  refine J.tr (s_lstore_n (q := 2) (ls' := [(2, .long 1), (0, .ref 65), (1, .int f)]) dX8_behind_1 rfl (by decide) rfl) ?_
  refine J.tr (s_iload_n (q := 3) dX8_behind_2 rfl rfl) ?_
  refine J.tr (s_istore (q := 5) (ls' := [(4, .int f), (2, .long 1), (0, .ref 65), (1, .int f)]) dX8_behind_3 rfl (by decide) rfl) ?_
  refine J.tr (s_ls (ls' := [(0, .ref 65), (2, .long 1), (4, .int f)]) [2, 1, 0] rfl) ?_
  exact J.rf

set_option maxRecDepth 20000 in
theorem j_X8_behind_b_1 {d : Nat} (hd : 0 ≤ d) (h : AH) (l : Int64) (k : Int32) (x : Nat) (y : Nat) (c : l ≤ 0) : E false mX8_behind d 5 [(0, .ref 65), (2, .long l), (4, .int k)] [] h (some (.int k)) h := by
  refine E.st (s_lload_n (q := 6) dX8_behind_5 rfl rfl) ?_
  refine E.st (s_lconst (q := 7) (v := 0) dX8_behind_6 rfl (by decide)) ?_
  refine E.st (s_lcmp (q := 8) dX8_behind_7 rfl) ?_
  refine E.st (s_if_le_t (q := 45) dX8_behind_8 (by decide) ((lgc_le _ _).mpr c)) ?_
  refine E.st (s_iload (q := 47) dX8_behind_45 rfl rfl) ?_
  exact E.i dX8_behind_47 rfl rfl rfl rfl

set_option maxRecDepth 20000 in
theorem j_X8_behind_b_2 {d : Nat} (hd : 0 ≤ d) (h : AH) (l : Int64) (k : Int32) (x : Nat) (y : Nat) (c : ¬ (l ≤ 0)) (F : Nat → Value) (ho : h.1 65 = ob 8 (fo 53 F)) (e13 : F 13 = .ref x) (n : Nat) (f : Nat → Int32) (ha : h.1 x = ia n f) (i : vp_in k n) (p : 0 < x) (c1 : ¬ (f k.toNatClampNeg) = 0) (e14 : F 14 = .ref y) (n1 : Nat) (f1 : Nat → Int64) (ha1 : h.1 y = la n1 f1) (i1 : vp_in k n1) : J false mX8_behind d 5 [(0, .ref 65), (2, .long l), (4, .int k)] [] h 5 [(0, .ref 65), (2, .long (l + ((f1 k.toNatClampNeg) - 1))), (4, .int (k + 1))] [] h := by
  refine J.tr (s_lload_n (q := 6) dX8_behind_5 rfl rfl) ?_
  refine J.tr (s_lconst (q := 7) (v := 0) dX8_behind_6 rfl (by decide)) ?_
  refine J.tr (s_lcmp (q := 8) dX8_behind_7 rfl) ?_
  refine J.tr (s_if_le_f (q := 11) (tg := 45) dX8_behind_8 (by decide) rfl (fun z => c ((lgc_le _ _).mp z))) ?_
  refine J.tr (s_lload_n (q := 12) dX8_behind_11 rfl rfl) ?_
  refine J.tr (s_aload_n (q := 13) dX8_behind_12 rfl rfl) ?_
  refine J.tr (s_gf (q := 16) (v := .ref x) dX8_behind_13 rfl fX8_41.l (ho) (by decide) (e13)) ?_
  refine J.tr (s_iload (q := 18) dX8_behind_16 rfl rfl) ?_
  refine J.tr (s_iald (q := 19) dX8_behind_18 rfl p (ha) i) ?_
  refine J.tr (s_if_ne_t (q := 28) dX8_behind_19 (by decide) c1) ?_
  refine J.tr (s_aload_n (q := 29) dX8_behind_28 rfl rfl) ?_
  refine J.tr (s_gf (q := 32) (v := .ref y) dX8_behind_29 rfl fX8_44.l (ho) (by decide) (e14)) ?_
  refine J.tr (s_iload (q := 34) dX8_behind_32 rfl rfl) ?_
  refine J.tr (s_lald (q := 35) dX8_behind_34 rfl (ha1) i1) ?_
  refine J.tr (s_lconst (q := 36) (v := 1) dX8_behind_35 rfl (by decide)) ?_
  refine J.tr (s_lsub (q := 37) dX8_behind_36 rfl) ?_
  refine J.tr (s_ladd (q := 38) dX8_behind_37 rfl) ?_
  refine J.tr (s_lstore_n (q := 39) (ls' := [(2, .long (l + ((f1 k.toNatClampNeg) - 1))), (0, .ref 65), (4, .int k)]) dX8_behind_38 rfl (by decide) rfl) ?_
  refine J.tr (s_iinc (q := 42) (v := (k + 1)) (ls' := [(4, .int (k + 1)), (2, .long (l + ((f1 k.toNatClampNeg) - 1))), (0, .ref 65)]) dX8_behind_39 rfl (by decide) rfl rfl rfl) ?_
  refine J.tr (s_goto (q := 5) dX8_behind_42 (by decide)) ?_
  refine J.tr (s_ls (ls' := [(0, .ref 65), (2, .long (l + ((f1 k.toNatClampNeg) - 1))), (4, .int (k + 1))]) [2, 1, 0] rfl) ?_
  exact J.rf

set_option maxRecDepth 20000 in
theorem j_X8_behind_b_3 {d : Nat} (hd : 0 ≤ d) (h : AH) (l : Int64) (k : Int32) (x : Nat) (y : Nat) (c : ¬ (l ≤ 0)) (F : Nat → Value) (ho : h.1 65 = ob 8 (fo 53 F)) (e13 : F 13 = .ref x) (n : Nat) (f : Nat → Int32) (ha : h.1 x = ia n f) (i : vp_in k n) (p : 0 < x) (c1 : (f k.toNatClampNeg) = 0) : J false mX8_behind d 5 [(0, .ref 65), (2, .long l), (4, .int k)] [] h 5 [(0, .ref 65), (2, .long (l + (-1))), (4, .int (k + 1))] [] h := by
  refine J.tr (s_lload_n (q := 6) dX8_behind_5 rfl rfl) ?_
  refine J.tr (s_lconst (q := 7) (v := 0) dX8_behind_6 rfl (by decide)) ?_
  refine J.tr (s_lcmp (q := 8) dX8_behind_7 rfl) ?_
  refine J.tr (s_if_le_f (q := 11) (tg := 45) dX8_behind_8 (by decide) rfl (fun z => c ((lgc_le _ _).mp z))) ?_
  refine J.tr (s_lload_n (q := 12) dX8_behind_11 rfl rfl) ?_
  refine J.tr (s_aload_n (q := 13) dX8_behind_12 rfl rfl) ?_
  refine J.tr (s_gf (q := 16) (v := .ref x) dX8_behind_13 rfl fX8_41.l (ho) (by decide) (e13)) ?_
  refine J.tr (s_iload (q := 18) dX8_behind_16 rfl rfl) ?_
  refine J.tr (s_iald (q := 19) dX8_behind_18 rfl p (ha) i) ?_
  refine J.tr (s_if_ne_f (q := 22) (tg := 28) dX8_behind_19 (by decide) rfl c1) ?_
  refine J.tr (s_ldc2 (q := 25) dX8_behind_22 rfl kX8_182) ?_
  refine J.tr (s_goto (q := 37) dX8_behind_25 (by decide)) ?_
  refine J.tr (s_ladd (q := 38) dX8_behind_37 rfl) ?_
  refine J.tr (s_lstore_n (q := 39) (ls' := [(2, .long (l + (-1))), (0, .ref 65), (4, .int k)]) dX8_behind_38 rfl (by decide) rfl) ?_
  refine J.tr (s_iinc (q := 42) (v := (k + 1)) (ls' := [(4, .int (k + 1)), (2, .long (l + (-1))), (0, .ref 65)]) dX8_behind_39 rfl (by decide) rfl rfl rfl) ?_
  refine J.tr (s_goto (q := 5) dX8_behind_42 (by decide)) ?_
  refine J.tr (s_ls (ls' := [(0, .ref 65), (2, .long (l + (-1))), (4, .int (k + 1))]) [2, 1, 0] rfl) ?_
  exact J.rf

set_option maxRecDepth 20000 in
theorem j_X8_goAll_a_1 {d : Nat} (hd : 0 ≤ d) (h : AH) (z : Int32) (n : Int32) (x : Nat) (y : Nat) (F : Nat → Value) (ho : h.1 65 = ob 8 (fo 53 F)) (v7 : Int32) (e7 : F 7 = .int v7) (c : ¬ v7 = 5) : J false mX8_goAll d 0 [(0, .ref 65), (1, .int z), (2, .int n)] [] h 16 [(0, .ref 65), (1, .int z), (2, .int n), (3, .int 1)] [] h := by
  refine J.tr (s_aload_n (q := 1) dX8_goAll_0 rfl rfl) ?_
  refine J.tr (s_gf (q := 4) (v := .int v7) dX8_goAll_1 rfl fX8_119.l (ho) (by decide) (e7)) ?_
  refine J.tr (s_iconst (q := 5) (v := 5) dX8_goAll_4 rfl (by decide)) ?_
  refine J.tr (s_icmp_ne_t (q := 14) dX8_goAll_5 (by decide) c) ?_
  refine J.tr (s_iconst (q := 15) (v := 1) dX8_goAll_14 rfl (by decide)) ?_
  refine J.tr (s_istore_n (q := 16) (ls' := [(3, .int 1), (0, .ref 65), (1, .int z), (2, .int n)]) dX8_goAll_15 rfl (by decide) rfl) ?_
  refine J.tr (s_ls (ls' := [(0, .ref 65), (1, .int z), (2, .int n), (3, .int 1)]) [1, 2, 3, 0] rfl) ?_
  exact J.rf

set_option maxRecDepth 20000 in
theorem j_X8_goAll_a_2 {d : Nat} (hd : 0 ≤ d) (h : AH) (z : Int32) (n : Int32) (x : Nat) (y : Nat) (F : Nat → Value) (ho : h.1 65 = ob 8 (fo 53 F)) (v7 : Int32) (e7 : F 7 = .int v7) (c : v7 = 5) : E false mX8_goAll d 0 [(0, .ref 65), (1, .int z), (2, .int n)] [] h (none) (hs h 65 (ob 8 (fo 53 (va_up F 26 (.int 2))))) := by
  refine E.st (s_aload_n (q := 1) dX8_goAll_0 rfl rfl) ?_
  refine E.st (s_gf (q := 4) (v := .int v7) dX8_goAll_1 rfl fX8_119.l (ho) (by decide) (e7)) ?_
  refine E.st (s_iconst (q := 5) (v := 5) dX8_goAll_4 rfl (by decide)) ?_
  refine E.st (s_icmp_ne_f (q := 8) (tg := 14) dX8_goAll_5 (by decide) rfl c) ?_
  refine E.st (s_aload_n (q := 9) dX8_goAll_8 rfl rfl) ?_
  refine E.st (s_iconst (q := 10) (v := 2) dX8_goAll_9 rfl (by decide)) ?_
  refine E.st (s_pf (q := 13) dX8_goAll_10 rfl fX8_126 (ho) (by decide) (fun _ => ⟨rfl, rfl⟩)) ?_
  exact E.v dX8_goAll_13 rfl rfl rfl

set_option maxRecDepth 20000 in
theorem j_X8_goAll_b_1 {d : Nat} (hd : 0 ≤ d) (h : AH) (z : Int32) (n : Int32) (a : Int32) (x : Nat) (y : Nat) (c : a = 0) : E false mX8_goAll d 16 [(0, .ref 65), (1, .int z), (2, .int n), (3, .int a)] [] h (none) h := by
  refine E.st (s_iload_n (q := 17) dX8_goAll_16 rfl rfl) ?_
  refine E.st (s_if_eq_t (q := 256) dX8_goAll_17 (by decide) c) ?_
  exact E.v dX8_goAll_256 rfl rfl rfl

set_option maxRecDepth 20000 in
theorem j_X8_goAll_b_2 {d : Nat} (hd : 0 ≤ d) (h : AH) (z : Int32) (n : Int32) (a : Int32) (x : Nat) (y : Nat) (c : ¬ (a = 0)) (F : Nat → Value) (ho : h.1 65 = ob 8 (fo 53 F)) (v26 : Int32) (e26 : F 26 = .int v26) (c1 : ¬ v26 = 0) : E false mX8_goAll d 16 [(0, .ref 65), (1, .int z), (2, .int n), (3, .int a)] [] h (none) h := by
  refine E.st (s_iload_n (q := 17) dX8_goAll_16 rfl rfl) ?_
  refine E.st (s_if_eq_f (q := 20) (tg := 256) dX8_goAll_17 (by decide) rfl c) ?_
  refine E.st (s_aload_n (q := 21) dX8_goAll_20 rfl rfl) ?_
  refine E.st (s_gf (q := 24) (v := .int v26) dX8_goAll_21 rfl fX8_126.l (ho) (by decide) (e26)) ?_
  refine E.st (s_if_ne_t (q := 256) dX8_goAll_24 (by decide) c1) ?_
  exact E.v dX8_goAll_256 rfl rfl rfl

set_option maxRecDepth 20000 in
theorem j_X8_goAll_b_3 {d : Nat} (hd : 0 ≤ d) (h : AH) (z : Int32) (n : Int32) (a : Int32) (x : Nat) (y : Nat) (c : ¬ (a = 0)) (F : Nat → Value) (ho : h.1 65 = ob 8 (fo 53 F)) (v26 : Int32) (e26 : F 26 = .int v26) (c1 : v26 = 0) (v15 : Int32) (e15 : F 15 = .int v15) (v7 : Int32) (e7 : F 7 = .int v7) (e8 : F 8 = .ref 71) (e5 : F 5 = .ref 69) (n1 : Nat) (f : Nat → Int32) (ha : h.1 69 = ia n1 f) (i : vp_in n n1) (n2 : Nat) (f1 : Nat → Int32) (ha1 : h.1 71 = ia n2 f1) (i1 : vp_in (v7 + 1) n2) (e17 : F 17 = .ref 79) (n3 : Nat) (f2 : Nat → Int32) (ha2 : h.1 79 = ia n3 f2) (i2 : vp_in (v7 + 1) n3) (e24 : F 24 = .ref 86) (n4 : Nat) (f3 : Nat → Int32) (ha3 : h.1 86 = ia n4 f3) (i3 : vp_in (v7 + 1) n4) : J false mX8_goAll d 16 [(0, .ref 65), (1, .int z), (2, .int n), (3, .int a)] [] h 86 [(0, .ref 65), (1, .int z), (2, .int n), (3, .int 0), (4, .int v15), (5, .long 0), (7, .int 1)] [] (hs (hs (hs (hs h 65 (ob 8 (fo 53 (va_up F 7 (.int (v7 + 1)))))) 71 (ia n2 (upd f1 (v7 + 1).toNatClampNeg (f n.toNatClampNeg)))) 79 (ia n3 (upd f2 (v7 + 1).toNatClampNeg 0))) 86 (ia n4 (upd f3 (v7 + 1).toNatClampNeg 0))) := by
  refine J.tr (s_iload_n (q := 17) dX8_goAll_16 rfl rfl) ?_
  refine J.tr (s_if_eq_f (q := 20) (tg := 256) dX8_goAll_17 (by decide) rfl c) ?_
  refine J.tr (s_aload_n (q := 21) dX8_goAll_20 rfl rfl) ?_
  refine J.tr (s_gf (q := 24) (v := .int v26) dX8_goAll_21 rfl fX8_126.l (ho) (by decide) (e26)) ?_
  refine J.tr (s_if_ne_f (q := 27) (tg := 256) dX8_goAll_24 (by decide) rfl c1) ?_
  refine J.tr (s_iconst (q := 28) (v := 0) dX8_goAll_27 rfl (by decide)) ?_
  refine J.tr (s_istore_n (q := 29) (ls' := [(3, .int 0), (0, .ref 65), (1, .int z), (2, .int n)]) dX8_goAll_28 rfl (by decide) rfl) ?_
  refine J.tr (s_aload_n (q := 30) dX8_goAll_29 rfl rfl) ?_
  refine J.tr (s_gf (q := 33) (v := .int v15) dX8_goAll_30 rfl fX8_184.l (ho) (by decide) (e15)) ?_
  refine J.tr (s_istore (q := 35) (ls' := [(4, .int v15), (3, .int 0), (0, .ref 65), (1, .int z), (2, .int n)]) dX8_goAll_33 rfl (by decide) rfl) ?_
  refine J.tr (s_aload_n (q := 36) dX8_goAll_35 rfl rfl) ?_
  refine J.tr (s_dup (q := 37) dX8_goAll_36 rfl rfl) ?_
  refine J.tr (s_gf (q := 40) (v := .int v7) dX8_goAll_37 rfl fX8_119.l (ho) (by decide) (e7)) ?_
  refine J.tr (s_iconst (q := 41) (v := 1) dX8_goAll_40 rfl (by decide)) ?_
  refine J.tr (s_iadd (q := 42) dX8_goAll_41 rfl) ?_
  refine J.tr (s_pf (q := 45) dX8_goAll_42 rfl fX8_119 (ho) (by decide) (fun _ => ⟨rfl, rfl⟩)) ?_
  refine J.tr (s_aload_n (q := 46) dX8_goAll_45 rfl rfl) ?_
  refine J.tr (s_gf (q := 49) (v := .ref 71) dX8_goAll_46 rfl fX8_26.l (hs_eq) (by decide) ((up_ne (by decide)).trans (e8))) ?_
  refine J.tr (s_aload_n (q := 50) dX8_goAll_49 rfl rfl) ?_
  refine J.tr (s_gf (q := 53) (v := .int (v7 + 1)) dX8_goAll_50 rfl fX8_119.l (hs_eq) (by decide) (up_eq)) ?_
  refine J.tr (s_aload_n (q := 54) dX8_goAll_53 rfl rfl) ?_
  refine J.tr (s_gf (q := 57) (v := .ref 69) dX8_goAll_54 rfl fX8_20.l (hs_eq) (by decide) ((up_ne (by decide)).trans (e5))) ?_
  refine J.tr (s_iload_n (q := 58) dX8_goAll_57 rfl rfl) ?_
  refine J.tr (s_iald (q := 59) dX8_goAll_58 rfl (by decide) ((hs_ne (by decide)).trans (ha)) i) ?_
  refine J.tr (s_iast (q := 60) dX8_goAll_59 rfl (by decide) ((hs_ne (by decide)).trans (ha1)) i1) ?_
  refine J.tr (s_aload_n (q := 61) dX8_goAll_60 rfl rfl) ?_
  refine J.tr (s_gf (q := 64) (v := .ref 79) dX8_goAll_61 rfl fX8_50.l ((hs_ne (by decide)).trans (hs_eq)) (by decide) ((up_ne (by decide)).trans (e17))) ?_
  refine J.tr (s_aload_n (q := 65) dX8_goAll_64 rfl rfl) ?_
  refine J.tr (s_gf (q := 68) (v := .int (v7 + 1)) dX8_goAll_65 rfl fX8_119.l ((hs_ne (by decide)).trans (hs_eq)) (by decide) (up_eq)) ?_
  refine J.tr (s_iconst (q := 69) (v := 0) dX8_goAll_68 rfl (by decide)) ?_
  refine J.tr (s_iast (q := 70) dX8_goAll_69 rfl (by decide) ((hs_ne (by decide)).trans ((hs_ne (by decide)).trans (ha2))) i2) ?_
  refine J.tr (s_aload_n (q := 71) dX8_goAll_70 rfl rfl) ?_
  refine J.tr (s_gf (q := 74) (v := .ref 86) dX8_goAll_71 rfl fX8_71.l ((hs_ne (by decide)).trans ((hs_ne (by decide)).trans (hs_eq))) (by decide) ((up_ne (by decide)).trans (e24))) ?_
  refine J.tr (s_aload_n (q := 75) dX8_goAll_74 rfl rfl) ?_
  refine J.tr (s_gf (q := 78) (v := .int (v7 + 1)) dX8_goAll_75 rfl fX8_119.l ((hs_ne (by decide)).trans ((hs_ne (by decide)).trans (hs_eq))) (by decide) (up_eq)) ?_
  refine J.tr (s_iconst (q := 79) (v := 0) dX8_goAll_78 rfl (by decide)) ?_
  refine J.tr (s_iast (q := 80) dX8_goAll_79 rfl (by decide) ((hs_ne (by decide)).trans ((hs_ne (by decide)).trans ((hs_ne (by decide)).trans (ha3)))) i3) ?_
  refine J.tr (s_lconst (q := 81) (v := 0) dX8_goAll_80 rfl (by decide)) ?_
  refine J.tr (s_lstore (q := 83) (ls' := [(5, .long 0), (4, .int v15), (3, .int 0), (0, .ref 65), (1, .int z), (2, .int n)]) dX8_goAll_81 rfl (by decide) rfl) ?_
  refine J.tr (s_iconst (q := 84) (v := 1) dX8_goAll_83 rfl (by decide)) ?_
  refine J.tr (s_istore (q := 86) (ls' := [(7, .int 1), (5, .long 0), (4, .int v15), (3, .int 0), (0, .ref 65), (1, .int z), (2, .int n)]) dX8_goAll_84 rfl (by decide) rfl) ?_
  refine J.tr (s_ls (ls' := [(0, .ref 65), (1, .int z), (2, .int n), (3, .int 0), (4, .int v15), (5, .long 0), (7, .int 1)]) [4, 5, 6, 3, 2, 1, 0] rfl) ?_
  exact J.rf

set_option maxRecDepth 20000 in
theorem j_X8_goAll_c_1 {d : Nat} (hd : 0 ≤ d) (h : AH) (z : Int32) (n : Int32) (a : Int32) (b : Int32) (m : Int64) (o : Int32) (x : Nat) (y : Nat) (c : o = 0) : J false mX8_goAll d 86 [(0, .ref 65), (1, .int z), (2, .int n), (3, .int a), (4, .int b), (5, .long m), (7, .int o)] [] h 175 [(0, .ref 65), (1, .int z), (2, .int n), (3, .int a), (4, .int b), (5, .long m)] [] h := by
  refine J.tr (s_iload (q := 88) dX8_goAll_86 rfl rfl) ?_
  refine J.tr (s_if_eq_t (q := 175) dX8_goAll_88 (by decide) c) ?_
  refine J.tr (s_ls (ls' := [(0, .ref 65), (1, .int z), (2, .int n), (3, .int a), (4, .int b), (5, .long m)]) [0, 1, 2, 3, 4, 5] rfl) ?_
  exact J.rf

set_option maxRecDepth 20000 in
theorem j_X8_goAll_c_2 {d : Nat} (hd : 0 ≤ d) (h : AH) (z : Int32) (n : Int32) (a : Int32) (b : Int32) (m : Int64) (o : Int32) (x : Nat) (y : Nat) (c : ¬ (o = 0)) (F : Nat → Value) (ho : h.1 65 = ob 8 (fo 53 F)) (v26 : Int32) (e26 : F 26 = .int v26) (c1 : ¬ v26 = 0) : J false mX8_goAll d 86 [(0, .ref 65), (1, .int z), (2, .int n), (3, .int a), (4, .int b), (5, .long m), (7, .int o)] [] h 175 [(0, .ref 65), (1, .int z), (2, .int n), (3, .int a), (4, .int b), (5, .long m)] [] h := by
  refine J.tr (s_iload (q := 88) dX8_goAll_86 rfl rfl) ?_
  refine J.tr (s_if_eq_f (q := 91) (tg := 175) dX8_goAll_88 (by decide) rfl c) ?_
  refine J.tr (s_aload_n (q := 92) dX8_goAll_91 rfl rfl) ?_
  refine J.tr (s_gf (q := 95) (v := .int v26) dX8_goAll_92 rfl fX8_126.l (ho) (by decide) (e26)) ?_
  refine J.tr (s_if_ne_t (q := 175) dX8_goAll_95 (by decide) c1) ?_
  refine J.tr (s_ls (ls' := [(0, .ref 65), (1, .int z), (2, .int n), (3, .int a), (4, .int b), (5, .long m)]) [0, 1, 2, 3, 4, 5] rfl) ?_
  exact J.rf

set_option maxRecDepth 20000 in
theorem j_X8_goAll_c_3 {d : Nat} (hd : 0 ≤ d) (h : AH) (z : Int32) (n : Int32) (a : Int32) (b : Int32) (m : Int64) (o : Int32) (x : Nat) (y : Nat) (c : ¬ (o = 0)) (F : Nat → Value) (ho : h.1 65 = ob 8 (fo 53 F)) (v26 : Int32) (e26 : F 26 = .int v26) (c1 : v26 = 0) : J false mX8_goAll d 86 [(0, .ref 65), (1, .int z), (2, .int n), (3, .int a), (4, .int b), (5, .long m), (7, .int o)] [] h 99 [(0, .ref 65), (1, .int z), (2, .int n), (3, .int a), (4, .int b), (5, .long m), (7, .int o)] [.ref 65] h := by
  refine J.tr (s_iload (q := 88) dX8_goAll_86 rfl rfl) ?_
  refine J.tr (s_if_eq_f (q := 91) (tg := 175) dX8_goAll_88 (by decide) rfl c) ?_
  refine J.tr (s_aload_n (q := 92) dX8_goAll_91 rfl rfl) ?_
  refine J.tr (s_gf (q := 95) (v := .int v26) dX8_goAll_92 rfl fX8_126.l (ho) (by decide) (e26)) ?_
  refine J.tr (s_if_ne_f (q := 98) (tg := 175) dX8_goAll_95 (by decide) rfl c1) ?_
  refine J.tr (s_aload_n (q := 99) dX8_goAll_98 rfl rfl) ?_
  refine J.tr (s_ls (ls' := [(0, .ref 65), (1, .int z), (2, .int n), (3, .int a), (4, .int b), (5, .long m), (7, .int o)]) [0, 1, 2, 3, 4, 5, 6] rfl) ?_
  exact J.rf

set_option maxRecDepth 20000 in
theorem j_X8_goAll_d_1 {d : Nat} (hd : 0 ≤ d) (h : AH) (z : Int32) (n : Int32) (a : Int32) (b : Int32) (m : Int64) (o : Int32) (x : Nat) (y : Nat) (F : Nat → Value) (ho : h.1 65 = ob 8 (fo 53 F)) (e4 : F 4 = .ref 68) (n1 : Nat) (f : Nat → Int32) (ha : h.1 68 = ia n1 f) (i : vp_in n n1) : J false mX8_goAll d 102 [(0, .ref 65), (1, .int z), (2, .int n), (3, .int a), (4, .int b), (5, .long m), (7, .int o)] [] h 115 [(0, .ref 65), (1, .int z), (2, .int n), (3, .int a), (4, .int b), (5, .long m), (7, .int o)] [.int (f n.toNatClampNeg), .ref 65] (hs h 65 (ob 8 (fo 53 (va_up F 15 (.int b))))) := by
  refine J.tr (s_aload_n (q := 103) dX8_goAll_102 rfl rfl) ?_
  refine J.tr (s_iload (q := 105) dX8_goAll_103 rfl rfl) ?_
  refine J.tr (s_pf (q := 108) dX8_goAll_105 rfl fX8_184 (ho) (by decide) (fun _ => ⟨rfl, rfl⟩)) ?_
  refine J.tr (s_aload_n (q := 109) dX8_goAll_108 rfl rfl) ?_
  refine J.tr (s_aload_n (q := 110) dX8_goAll_109 rfl rfl) ?_
  refine J.tr (s_gf (q := 113) (v := .ref 68) dX8_goAll_110 rfl fX8_17.l (hs_eq) (by decide) ((up_ne (by decide)).trans (e4))) ?_
  refine J.tr (s_iload_n (q := 114) dX8_goAll_113 rfl rfl) ?_
  refine J.tr (s_iald (q := 115) dX8_goAll_114 rfl (by decide) ((hs_ne (by decide)).trans (ha)) i) ?_
  refine J.tr (s_ls (ls' := [(0, .ref 65), (1, .int z), (2, .int n), (3, .int a), (4, .int b), (5, .long m), (7, .int o)]) [0, 1, 2, 3, 4, 5, 6] rfl) ?_
  exact J.rf

set_option maxRecDepth 20000 in
theorem j_X8_goAll_e_1 {d : Nat} (hd : 0 ≤ d) (h : AH) (z : Int32) (n : Int32) (a : Int32) (b : Int32) (m : Int64) (o : Int32) (x : Nat) (y : Nat) (F : Nat → Value) (ho : h.1 65 = ob 8 (fo 53 F)) (v26 : Int32) (e26 : F 26 = .int v26) (c : ¬ v26 = 0) (c1 : ¬ v26 = 1) : J false mX8_goAll d 118 [(0, .ref 65), (1, .int z), (2, .int n), (3, .int a), (4, .int b), (5, .long m), (7, .int o)] [] h 86 [(0, .ref 65), (1, .int z), (2, .int n), (3, .int a), (4, .int b), (5, .long m), (7, .int 0)] [] h := by
  refine J.tr (s_aload_n (q := 119) dX8_goAll_118 rfl rfl) ?_
  refine J.tr (s_gf (q := 122) (v := .int v26) dX8_goAll_119 rfl fX8_126.l (ho) (by decide) (e26)) ?_
  refine J.tr (s_if_ne_t (q := 138) dX8_goAll_122 (by decide) c) ?_
  refine J.tr (s_aload_n (q := 139) dX8_goAll_138 rfl rfl) ?_
  refine J.tr (s_gf (q := 142) (v := .int v26) dX8_goAll_139 rfl fX8_126.l (ho) (by decide) (e26)) ?_
  refine J.tr (s_iconst (q := 143) (v := 1) dX8_goAll_142 rfl (by decide)) ?_
  refine J.tr (s_icmp_ne_t (q := 151) dX8_goAll_143 (by decide) c1) ?_
  refine J.tr (s_aload_n (q := 152) dX8_goAll_151 rfl rfl) ?_
  refine J.tr (s_gf (q := 155) (v := .int v26) dX8_goAll_152 rfl fX8_126.l (ho) (by decide) (e26)) ?_
  refine J.tr (s_if_ne_t (q := 169) dX8_goAll_155 (by decide) c) ?_
  refine J.tr (s_iconst (q := 170) (v := 0) dX8_goAll_169 rfl (by decide)) ?_
  refine J.tr (s_istore (q := 172) (ls' := [(7, .int 0), (0, .ref 65), (1, .int z), (2, .int n), (3, .int a), (4, .int b), (5, .long m)]) dX8_goAll_170 rfl (by decide) rfl) ?_
  refine J.tr (s_goto (q := 86) dX8_goAll_172 (by decide)) ?_
  refine J.tr (s_ls (ls' := [(0, .ref 65), (1, .int z), (2, .int n), (3, .int a), (4, .int b), (5, .long m), (7, .int 0)]) [1, 2, 3, 4, 5, 6, 0] rfl) ?_
  exact J.rf

set_option maxRecDepth 20000 in
theorem j_X8_goAll_e_2 {d : Nat} (hd : 0 ≤ d) (h : AH) (z : Int32) (n : Int32) (a : Int32) (b : Int32) (m : Int64) (o : Int32) (x : Nat) (y : Nat) (F : Nat → Value) (ho : h.1 65 = ob 8 (fo 53 F)) (v26 : Int32) (e26 : F 26 = .int v26) (c : ¬ v26 = 0) (c1 : v26 = 1) : J false mX8_goAll d 118 [(0, .ref 65), (1, .int z), (2, .int n), (3, .int a), (4, .int b), (5, .long m), (7, .int o)] [] h 159 [(0, .ref 65), (1, .int z), (2, .int n), (3, .int a), (4, .int b), (5, .long m), (7, .int o)] [.ref 65] (hs h 65 (ob 8 (fo 53 (va_up F 26 (.int 0))))) := by
  refine J.tr (s_aload_n (q := 119) dX8_goAll_118 rfl rfl) ?_
  refine J.tr (s_gf (q := 122) (v := .int v26) dX8_goAll_119 rfl fX8_126.l (ho) (by decide) (e26)) ?_
  refine J.tr (s_if_ne_t (q := 138) dX8_goAll_122 (by decide) c) ?_
  refine J.tr (s_aload_n (q := 139) dX8_goAll_138 rfl rfl) ?_
  refine J.tr (s_gf (q := 142) (v := .int v26) dX8_goAll_139 rfl fX8_126.l (ho) (by decide) (e26)) ?_
  refine J.tr (s_iconst (q := 143) (v := 1) dX8_goAll_142 rfl (by decide)) ?_
  refine J.tr (s_icmp_ne_f (q := 146) (tg := 151) dX8_goAll_143 (by decide) rfl c1) ?_
  refine J.tr (s_aload_n (q := 147) dX8_goAll_146 rfl rfl) ?_
  refine J.tr (s_iconst (q := 148) (v := 0) dX8_goAll_147 rfl (by decide)) ?_
  refine J.tr (s_pf (q := 151) dX8_goAll_148 rfl fX8_126 (ho) (by decide) (fun _ => ⟨rfl, rfl⟩)) ?_
  refine J.tr (s_aload_n (q := 152) dX8_goAll_151 rfl rfl) ?_
  refine J.tr (s_gf (q := 155) (v := .int 0) dX8_goAll_152 rfl fX8_126.l (hs_eq) (by decide) (up_eq)) ?_
  refine J.tr (s_if_ne_f (q := 158) (tg := 169) dX8_goAll_155 (by decide) rfl (by decide)) ?_
  refine J.tr (s_aload_n (q := 159) dX8_goAll_158 rfl rfl) ?_
  refine J.tr (s_ls (ls' := [(0, .ref 65), (1, .int z), (2, .int n), (3, .int a), (4, .int b), (5, .long m), (7, .int o)]) [0, 1, 2, 3, 4, 5, 6] rfl) ?_
  exact J.rf

set_option maxRecDepth 20000 in
theorem j_X8_goAll_e_3 {d : Nat} (hd : 0 ≤ d) (h : AH) (z : Int32) (n : Int32) (a : Int32) (b : Int32) (m : Int64) (o : Int32) (x : Nat) (y : Nat) (F : Nat → Value) (ho : h.1 65 = ob 8 (fo 53 F)) (v26 : Int32) (e26 : F 26 = .int v26) (c : v26 = 0) : J false mX8_goAll d 118 [(0, .ref 65), (1, .int z), (2, .int n), (3, .int a), (4, .int b), (5, .long m), (7, .int o)] [] h 126 [(0, .ref 65), (1, .int z), (2, .int n), (3, .int a), (4, .int b), (5, .long m), (7, .int o)] [.ref 65] h := by
  refine J.tr (s_aload_n (q := 119) dX8_goAll_118 rfl rfl) ?_
  refine J.tr (s_gf (q := 122) (v := .int v26) dX8_goAll_119 rfl fX8_126.l (ho) (by decide) (e26)) ?_
  refine J.tr (s_if_ne_f (q := 125) (tg := 138) dX8_goAll_122 (by decide) rfl c) ?_
  refine J.tr (s_aload_n (q := 126) dX8_goAll_125 rfl rfl) ?_
  refine J.tr (s_ls (ls' := [(0, .ref 65), (1, .int z), (2, .int n), (3, .int a), (4, .int b), (5, .long m), (7, .int o)]) [0, 1, 2, 3, 4, 5, 6] rfl) ?_
  exact J.rf

set_option maxRecDepth 20000 in
theorem j_X8_goAll_f_1 {d : Nat} (hd : 0 ≤ d) (h : AH) (z : Int32) (n : Int32) (a : Int32) (b : Int32) (m : Int64) (o : Int32) (x : Nat) (y : Nat) (F : Nat → Value) (ho : h.1 65 = ob 8 (fo 53 F)) (v26 : Int32) (e26 : F 26 = .int v26) (c : ¬ v26 = 0) : J false mX8_goAll d 129 [(0, .ref 65), (1, .int z), (2, .int n), (3, .int a), (4, .int b), (5, .long m), (7, .int o)] [] h 86 [(0, .ref 65), (1, .int z), (2, .int n), (3, .int a), (4, .int b), (5, .long (m + 1)), (7, .int 0)] [] h := by
  refine J.tr (s_lload (q := 131) dX8_goAll_129 rfl rfl) ?_
  refine J.tr (s_lconst (q := 132) (v := 1) dX8_goAll_131 rfl (by decide)) ?_
  refine J.tr (s_ladd (q := 133) dX8_goAll_132 rfl) ?_
  refine J.tr (s_lstore (q := 135) (ls' := [(5, .long (m + 1)), (0, .ref 65), (1, .int z), (2, .int n), (3, .int a), (4, .int b), (7, .int o)]) dX8_goAll_133 rfl (by decide) rfl) ?_
  refine J.tr (s_goto (q := 151) dX8_goAll_135 (by decide)) ?_
  refine J.tr (s_aload_n (q := 152) dX8_goAll_151 rfl rfl) ?_
  refine J.tr (s_gf (q := 155) (v := .int v26) dX8_goAll_152 rfl fX8_126.l (ho) (by decide) (e26)) ?_
  refine J.tr (s_if_ne_t (q := 169) dX8_goAll_155 (by decide) c) ?_
  refine J.tr (s_iconst (q := 170) (v := 0) dX8_goAll_169 rfl (by decide)) ?_
  refine J.tr (s_istore (q := 172) (ls' := [(7, .int 0), (5, .long (m + 1)), (0, .ref 65), (1, .int z), (2, .int n), (3, .int a), (4, .int b)]) dX8_goAll_170 rfl (by decide) rfl) ?_
  refine J.tr (s_goto (q := 86) dX8_goAll_172 (by decide)) ?_
  refine J.tr (s_ls (ls' := [(0, .ref 65), (1, .int z), (2, .int n), (3, .int a), (4, .int b), (5, .long (m + 1)), (7, .int 0)]) [2, 3, 4, 5, 6, 1, 0] rfl) ?_
  exact J.rf

set_option maxRecDepth 20000 in
theorem j_X8_goAll_f_2 {d : Nat} (hd : 0 ≤ d) (h : AH) (z : Int32) (n : Int32) (a : Int32) (b : Int32) (m : Int64) (o : Int32) (x : Nat) (y : Nat) (F : Nat → Value) (ho : h.1 65 = ob 8 (fo 53 F)) (v26 : Int32) (e26 : F 26 = .int v26) (c : v26 = 0) : J false mX8_goAll d 129 [(0, .ref 65), (1, .int z), (2, .int n), (3, .int a), (4, .int b), (5, .long m), (7, .int o)] [] h 159 [(0, .ref 65), (1, .int z), (2, .int n), (3, .int a), (4, .int b), (5, .long (m + 1)), (7, .int o)] [.ref 65] h := by
  refine J.tr (s_lload (q := 131) dX8_goAll_129 rfl rfl) ?_
  refine J.tr (s_lconst (q := 132) (v := 1) dX8_goAll_131 rfl (by decide)) ?_
  refine J.tr (s_ladd (q := 133) dX8_goAll_132 rfl) ?_
  refine J.tr (s_lstore (q := 135) (ls' := [(5, .long (m + 1)), (0, .ref 65), (1, .int z), (2, .int n), (3, .int a), (4, .int b), (7, .int o)]) dX8_goAll_133 rfl (by decide) rfl) ?_
  refine J.tr (s_goto (q := 151) dX8_goAll_135 (by decide)) ?_
  refine J.tr (s_aload_n (q := 152) dX8_goAll_151 rfl rfl) ?_
  refine J.tr (s_gf (q := 155) (v := .int v26) dX8_goAll_152 rfl fX8_126.l (ho) (by decide) (e26)) ?_
  refine J.tr (s_if_ne_f (q := 158) (tg := 169) dX8_goAll_155 (by decide) rfl c) ?_
  refine J.tr (s_aload_n (q := 159) dX8_goAll_158 rfl rfl) ?_
  refine J.tr (s_ls (ls' := [(0, .ref 65), (1, .int z), (2, .int n), (3, .int a), (4, .int b), (5, .long (m + 1)), (7, .int o)]) [1, 2, 3, 4, 5, 0, 6] rfl) ?_
  exact J.rf

set_option maxRecDepth 20000 in
theorem j_X8_goAll_g_1 {d : Nat} (hd : 0 ≤ d) (h : AH) (z : Int32) (n : Int32) (a : Int32) (b : Int32) (m : Int64) (o : Int32) (r : Int32) (x : Nat) (y : Nat) (c : r = 0) : J false mX8_goAll d 162 [(0, .ref 65), (1, .int z), (2, .int n), (3, .int a), (4, .int b), (5, .long m), (7, .int o)] [.int r] h 86 [(0, .ref 65), (1, .int z), (2, .int n), (3, .int a), (4, .int b), (5, .long m), (7, .int 0)] [] h := by
  refine J.tr (s_if_eq_t (q := 169) dX8_goAll_162 (by decide) c) ?_
  refine J.tr (s_iconst (q := 170) (v := 0) dX8_goAll_169 rfl (by decide)) ?_
  refine J.tr (s_istore (q := 172) (ls' := [(7, .int 0), (0, .ref 65), (1, .int z), (2, .int n), (3, .int a), (4, .int b), (5, .long m)]) dX8_goAll_170 rfl (by decide) rfl) ?_
  refine J.tr (s_goto (q := 86) dX8_goAll_172 (by decide)) ?_
  refine J.tr (s_ls (ls' := [(0, .ref 65), (1, .int z), (2, .int n), (3, .int a), (4, .int b), (5, .long m), (7, .int 0)]) [1, 2, 3, 4, 5, 6, 0] rfl) ?_
  exact J.rf

set_option maxRecDepth 20000 in
theorem j_X8_goAll_g_2 {d : Nat} (hd : 0 ≤ d) (h : AH) (z : Int32) (n : Int32) (a : Int32) (b : Int32) (m : Int64) (o : Int32) (r : Int32) (x : Nat) (y : Nat) (c : ¬ (r = 0)) : J false mX8_goAll d 162 [(0, .ref 65), (1, .int z), (2, .int n), (3, .int a), (4, .int b), (5, .long m), (7, .int o)] [.int r] h 86 [(0, .ref 65), (1, .int z), (2, .int n), (3, .int a), (4, .int b), (5, .long m), (7, .int 1)] [] h := by
  refine J.tr (s_if_eq_f (q := 165) (tg := 169) dX8_goAll_162 (by decide) rfl c) ?_
  refine J.tr (s_iconst (q := 166) (v := 1) dX8_goAll_165 rfl (by decide)) ?_
  refine J.tr (s_goto (q := 170) dX8_goAll_166 (by decide)) ?_
  refine J.tr (s_istore (q := 172) (ls' := [(7, .int 1), (0, .ref 65), (1, .int z), (2, .int n), (3, .int a), (4, .int b), (5, .long m)]) dX8_goAll_170 rfl (by decide) rfl) ?_
  refine J.tr (s_goto (q := 86) dX8_goAll_172 (by decide)) ?_
  refine J.tr (s_ls (ls' := [(0, .ref 65), (1, .int z), (2, .int n), (3, .int a), (4, .int b), (5, .long m), (7, .int 1)]) [1, 2, 3, 4, 5, 6, 0] rfl) ?_
  exact J.rf

set_option maxRecDepth 20000 in
theorem j_X8_goAll_h_1 {d : Nat} (hd : 0 ≤ d) (h : AH) (z : Int32) (n : Int32) (a : Int32) (b : Int32) (m : Int64) (x : Nat) (y : Nat) (F : Nat → Value) (ho : h.1 65 = ob 8 (fo 53 F)) (v7 : Int32) (e7 : F 7 = .int v7) (v26 : Int32) (e26 : F 26 = .int v26) (c : ¬ v26 = 0) (c1 : ¬ v26 = 4) : J false mX8_goAll d 175 [(0, .ref 65), (1, .int z), (2, .int n), (3, .int a), (4, .int b), (5, .long m)] [] h 16 [(0, .ref 65), (1, .int z), (2, .int n), (3, .int a)] [] (hs (hs h 65 (ob 8 (fo 53 (va_up F 7 (.int (v7 - 1)))))) 65 (ob 8 (fo 53 (va_up (va_up F 7 (.int (v7 - 1))) 15 (.int b))))) := by
  refine J.tr (s_aload_n (q := 176) dX8_goAll_175 rfl rfl) ?_
  refine J.tr (s_dup (q := 177) dX8_goAll_176 rfl rfl) ?_
  refine J.tr (s_gf (q := 180) (v := .int v7) dX8_goAll_177 rfl fX8_119.l (ho) (by decide) (e7)) ?_
  refine J.tr (s_iconst (q := 181) (v := 1) dX8_goAll_180 rfl (by decide)) ?_
  refine J.tr (s_isub (q := 182) dX8_goAll_181 rfl) ?_
  refine J.tr (s_pf (q := 185) dX8_goAll_182 rfl fX8_119 (ho) (by decide) (fun _ => ⟨rfl, rfl⟩)) ?_
  refine J.tr (s_aload_n (q := 186) dX8_goAll_185 rfl rfl) ?_
  refine J.tr (s_iload (q := 188) dX8_goAll_186 rfl rfl) ?_
  refine J.tr (s_pf (q := 191) dX8_goAll_188 rfl fX8_184 (hs_eq) (by decide) (fun _ => ⟨rfl, rfl⟩)) ?_
  refine J.tr (s_aload_n (q := 192) dX8_goAll_191 rfl rfl) ?_
  refine J.tr (s_gf (q := 195) (v := .int v26) dX8_goAll_192 rfl fX8_126.l (hs_eq) (by decide) ((up_ne (by decide)).trans ((up_ne (by decide)).trans (e26)))) ?_
  refine J.tr (s_if_ne_t (q := 208) dX8_goAll_195 (by decide) c) ?_
  refine J.tr (s_aload_n (q := 209) dX8_goAll_208 rfl rfl) ?_
  refine J.tr (s_gf (q := 212) (v := .int v26) dX8_goAll_209 rfl fX8_126.l (hs_eq) (by decide) ((up_ne (by decide)).trans ((up_ne (by decide)).trans (e26)))) ?_
  refine J.tr (s_iconst (q := 213) (v := 4) dX8_goAll_212 rfl (by decide)) ?_
  refine J.tr (s_icmp_ne_t (q := 253) dX8_goAll_213 (by decide) c1) ?_
  refine J.tr (s_goto (q := 16) dX8_goAll_253 (by decide)) ?_
  refine J.tr (s_ls (ls' := [(0, .ref 65), (1, .int z), (2, .int n), (3, .int a)]) [0, 1, 2, 3] rfl) ?_
  exact J.rf

set_option maxRecDepth 20000 in
theorem j_X8_goAll_h_2 {d : Nat} (hd : 0 ≤ d) (h : AH) (z : Int32) (n : Int32) (a : Int32) (b : Int32) (m : Int64) (x : Nat) (y : Nat) (F : Nat → Value) (ho : h.1 65 = ob 8 (fo 53 F)) (v7 : Int32) (e7 : F 7 = .int v7) (v26 : Int32) (e26 : F 26 = .int v26) (c : ¬ v26 = 0) (c1 : v26 = 4) (v28 : Int32) (e28 : F 28 = .int v28) (c2 : ¬ v28 = (v7 - 1)) : J false mX8_goAll d 175 [(0, .ref 65), (1, .int z), (2, .int n), (3, .int a), (4, .int b), (5, .long m)] [] h 16 [(0, .ref 65), (1, .int z), (2, .int n), (3, .int a)] [] (hs (hs h 65 (ob 8 (fo 53 (va_up F 7 (.int (v7 - 1)))))) 65 (ob 8 (fo 53 (va_up (va_up F 7 (.int (v7 - 1))) 15 (.int b))))) := by
  refine J.tr (s_aload_n (q := 176) dX8_goAll_175 rfl rfl) ?_
  refine J.tr (s_dup (q := 177) dX8_goAll_176 rfl rfl) ?_
  refine J.tr (s_gf (q := 180) (v := .int v7) dX8_goAll_177 rfl fX8_119.l (ho) (by decide) (e7)) ?_
  refine J.tr (s_iconst (q := 181) (v := 1) dX8_goAll_180 rfl (by decide)) ?_
  refine J.tr (s_isub (q := 182) dX8_goAll_181 rfl) ?_
  refine J.tr (s_pf (q := 185) dX8_goAll_182 rfl fX8_119 (ho) (by decide) (fun _ => ⟨rfl, rfl⟩)) ?_
  refine J.tr (s_aload_n (q := 186) dX8_goAll_185 rfl rfl) ?_
  refine J.tr (s_iload (q := 188) dX8_goAll_186 rfl rfl) ?_
  refine J.tr (s_pf (q := 191) dX8_goAll_188 rfl fX8_184 (hs_eq) (by decide) (fun _ => ⟨rfl, rfl⟩)) ?_
  refine J.tr (s_aload_n (q := 192) dX8_goAll_191 rfl rfl) ?_
  refine J.tr (s_gf (q := 195) (v := .int v26) dX8_goAll_192 rfl fX8_126.l (hs_eq) (by decide) ((up_ne (by decide)).trans ((up_ne (by decide)).trans (e26)))) ?_
  refine J.tr (s_if_ne_t (q := 208) dX8_goAll_195 (by decide) c) ?_
  refine J.tr (s_aload_n (q := 209) dX8_goAll_208 rfl rfl) ?_
  refine J.tr (s_gf (q := 212) (v := .int v26) dX8_goAll_209 rfl fX8_126.l (hs_eq) (by decide) ((up_ne (by decide)).trans ((up_ne (by decide)).trans (e26)))) ?_
  refine J.tr (s_iconst (q := 213) (v := 4) dX8_goAll_212 rfl (by decide)) ?_
  refine J.tr (s_icmp_ne_f (q := 216) (tg := 253) dX8_goAll_213 (by decide) rfl c1) ?_
  refine J.tr (s_aload_n (q := 217) dX8_goAll_216 rfl rfl) ?_
  refine J.tr (s_gf (q := 220) (v := .int v28) dX8_goAll_217 rfl fX8_132.l (hs_eq) (by decide) ((up_ne (by decide)).trans ((up_ne (by decide)).trans (e28)))) ?_
  refine J.tr (s_aload_n (q := 221) dX8_goAll_220 rfl rfl) ?_
  refine J.tr (s_gf (q := 224) (v := .int (v7 - 1)) dX8_goAll_221 rfl fX8_119.l (hs_eq) (by decide) ((up_ne (by decide)).trans (up_eq))) ?_
  refine J.tr (s_icmp_ne_t (q := 253) dX8_goAll_224 (by decide) c2) ?_
  refine J.tr (s_goto (q := 16) dX8_goAll_253 (by decide)) ?_
  refine J.tr (s_ls (ls' := [(0, .ref 65), (1, .int z), (2, .int n), (3, .int a)]) [0, 1, 2, 3] rfl) ?_
  exact J.rf

set_option maxRecDepth 20000 in
theorem j_X8_goAll_h_3 {d : Nat} (hd : 0 ≤ d) (h : AH) (z : Int32) (n : Int32) (a : Int32) (b : Int32) (m : Int64) (x : Nat) (y : Nat) (F : Nat → Value) (ho : h.1 65 = ob 8 (fo 53 F)) (v7 : Int32) (e7 : F 7 = .int v7) (v26 : Int32) (e26 : F 26 = .int v26) (c : ¬ v26 = 0) (c1 : v26 = 4) (v28 : Int32) (e28 : F 28 = .int v28) (c2 : v28 = (v7 - 1)) (v27 : Int32) (e27 : F 27 = .int v27) : J false mX8_goAll d 175 [(0, .ref 65), (1, .int z), (2, .int n), (3, .int a), (4, .int b), (5, .long m)] [] h 237 [(0, .ref 65), (1, .int z), (2, .int n)] [.int v27, .ref 65] (hs (hs (hs h 65 (ob 8 (fo 53 (va_up F 7 (.int (v7 - 1)))))) 65 (ob 8 (fo 53 (va_up (va_up F 7 (.int (v7 - 1))) 15 (.int b))))) 65 (ob 8 (fo 53 (va_up (va_up (va_up F 7 (.int (v7 - 1))) 15 (.int b)) 26 (.int 0))))) := by
  refine J.tr (s_aload_n (q := 176) dX8_goAll_175 rfl rfl) ?_
  refine J.tr (s_dup (q := 177) dX8_goAll_176 rfl rfl) ?_
  refine J.tr (s_gf (q := 180) (v := .int v7) dX8_goAll_177 rfl fX8_119.l (ho) (by decide) (e7)) ?_
  refine J.tr (s_iconst (q := 181) (v := 1) dX8_goAll_180 rfl (by decide)) ?_
  refine J.tr (s_isub (q := 182) dX8_goAll_181 rfl) ?_
  refine J.tr (s_pf (q := 185) dX8_goAll_182 rfl fX8_119 (ho) (by decide) (fun _ => ⟨rfl, rfl⟩)) ?_
  refine J.tr (s_aload_n (q := 186) dX8_goAll_185 rfl rfl) ?_
  refine J.tr (s_iload (q := 188) dX8_goAll_186 rfl rfl) ?_
  refine J.tr (s_pf (q := 191) dX8_goAll_188 rfl fX8_184 (hs_eq) (by decide) (fun _ => ⟨rfl, rfl⟩)) ?_
  refine J.tr (s_aload_n (q := 192) dX8_goAll_191 rfl rfl) ?_
  refine J.tr (s_gf (q := 195) (v := .int v26) dX8_goAll_192 rfl fX8_126.l (hs_eq) (by decide) ((up_ne (by decide)).trans ((up_ne (by decide)).trans (e26)))) ?_
  refine J.tr (s_if_ne_t (q := 208) dX8_goAll_195 (by decide) c) ?_
  refine J.tr (s_aload_n (q := 209) dX8_goAll_208 rfl rfl) ?_
  refine J.tr (s_gf (q := 212) (v := .int v26) dX8_goAll_209 rfl fX8_126.l (hs_eq) (by decide) ((up_ne (by decide)).trans ((up_ne (by decide)).trans (e26)))) ?_
  refine J.tr (s_iconst (q := 213) (v := 4) dX8_goAll_212 rfl (by decide)) ?_
  refine J.tr (s_icmp_ne_f (q := 216) (tg := 253) dX8_goAll_213 (by decide) rfl c1) ?_
  refine J.tr (s_aload_n (q := 217) dX8_goAll_216 rfl rfl) ?_
  refine J.tr (s_gf (q := 220) (v := .int v28) dX8_goAll_217 rfl fX8_132.l (hs_eq) (by decide) ((up_ne (by decide)).trans ((up_ne (by decide)).trans (e28)))) ?_
  refine J.tr (s_aload_n (q := 221) dX8_goAll_220 rfl rfl) ?_
  refine J.tr (s_gf (q := 224) (v := .int (v7 - 1)) dX8_goAll_221 rfl fX8_119.l (hs_eq) (by decide) ((up_ne (by decide)).trans (up_eq))) ?_
  refine J.tr (s_icmp_ne_f (q := 227) (tg := 253) dX8_goAll_224 (by decide) rfl c2) ?_
  refine J.tr (s_aload_n (q := 228) dX8_goAll_227 rfl rfl) ?_
  refine J.tr (s_iconst (q := 229) (v := 0) dX8_goAll_228 rfl (by decide)) ?_
  refine J.tr (s_pf (q := 232) dX8_goAll_229 rfl fX8_126 (hs_eq) (by decide) (fun _ => ⟨rfl, rfl⟩)) ?_
  refine J.tr (s_aload_n (q := 233) dX8_goAll_232 rfl rfl) ?_
  refine J.tr (s_aload_n (q := 234) dX8_goAll_233 rfl rfl) ?_
  refine J.tr (s_gf (q := 237) (v := .int v27) dX8_goAll_234 rfl fX8_129.l (hs_eq) (by decide) ((up_ne (by decide)).trans ((up_ne (by decide)).trans ((up_ne (by decide)).trans (e27))))) ?_
  refine J.tr (s_ls (ls' := [(0, .ref 65), (1, .int z), (2, .int n)]) [0, 1, 2] rfl) ?_
  exact J.rf

set_option maxRecDepth 20000 in
theorem j_X8_goAll_h_4 {d : Nat} (hd : 0 ≤ d) (h : AH) (z : Int32) (n : Int32) (a : Int32) (b : Int32) (m : Int64) (x : Nat) (y : Nat) (F : Nat → Value) (ho : h.1 65 = ob 8 (fo 53 F)) (v7 : Int32) (e7 : F 7 = .int v7) (v26 : Int32) (e26 : F 26 = .int v26) (c : v26 = 0) : J false mX8_goAll d 175 [(0, .ref 65), (1, .int z), (2, .int n), (3, .int a), (4, .int b), (5, .long m)] [] h 202 [(0, .ref 65), (1, .int z), (2, .int n), (3, .int a)] [.long m, .int z, .ref 65] (hs (hs h 65 (ob 8 (fo 53 (va_up F 7 (.int (v7 - 1)))))) 65 (ob 8 (fo 53 (va_up (va_up F 7 (.int (v7 - 1))) 15 (.int b))))) := by
  refine J.tr (s_aload_n (q := 176) dX8_goAll_175 rfl rfl) ?_
  refine J.tr (s_dup (q := 177) dX8_goAll_176 rfl rfl) ?_
  refine J.tr (s_gf (q := 180) (v := .int v7) dX8_goAll_177 rfl fX8_119.l (ho) (by decide) (e7)) ?_
  refine J.tr (s_iconst (q := 181) (v := 1) dX8_goAll_180 rfl (by decide)) ?_
  refine J.tr (s_isub (q := 182) dX8_goAll_181 rfl) ?_
  refine J.tr (s_pf (q := 185) dX8_goAll_182 rfl fX8_119 (ho) (by decide) (fun _ => ⟨rfl, rfl⟩)) ?_
  refine J.tr (s_aload_n (q := 186) dX8_goAll_185 rfl rfl) ?_
  refine J.tr (s_iload (q := 188) dX8_goAll_186 rfl rfl) ?_
  refine J.tr (s_pf (q := 191) dX8_goAll_188 rfl fX8_184 (hs_eq) (by decide) (fun _ => ⟨rfl, rfl⟩)) ?_
  refine J.tr (s_aload_n (q := 192) dX8_goAll_191 rfl rfl) ?_
  refine J.tr (s_gf (q := 195) (v := .int v26) dX8_goAll_192 rfl fX8_126.l (hs_eq) (by decide) ((up_ne (by decide)).trans ((up_ne (by decide)).trans (e26)))) ?_
  refine J.tr (s_if_ne_f (q := 198) (tg := 208) dX8_goAll_195 (by decide) rfl c) ?_
  refine J.tr (s_aload_n (q := 199) dX8_goAll_198 rfl rfl) ?_
  refine J.tr (s_iload_n (q := 200) dX8_goAll_199 rfl rfl) ?_
  refine J.tr (s_lload (q := 202) dX8_goAll_200 rfl rfl) ?_
  refine J.tr (s_ls (ls' := [(0, .ref 65), (1, .int z), (2, .int n), (3, .int a)]) [0, 1, 2, 3] rfl) ?_
  exact J.rf

set_option maxRecDepth 20000 in
theorem j_X8_goAll_i_1 {d : Nat} (hd : 0 ≤ d) (h : AH) (z : Int32) (n : Int32) (a : Int32) (x : Nat) (y : Nat) : J false mX8_goAll d 205 [(0, .ref 65), (1, .int z), (2, .int n), (3, .int a)] [] h 16 [(0, .ref 65), (1, .int z), (2, .int n), (3, .int a)] [] h := by
  refine J.tr (s_goto (q := 253) dX8_goAll_205 (by decide)) ?_
  refine J.tr (s_goto (q := 16) dX8_goAll_253 (by decide)) ?_
  refine J.tr (s_ls (ls' := [(0, .ref 65), (1, .int z), (2, .int n), (3, .int a)]) [0, 1, 2, 3] rfl) ?_
  exact J.rf

set_option maxRecDepth 20000 in
theorem j_X8_goAll_j_1 {d : Nat} (hd : 0 ≤ d) (h : AH) (z : Int32) (n : Int32) (x : Nat) (y : Nat) (F : Nat → Value) (ho : h.1 65 = ob 8 (fo 53 F)) (v26 : Int32) (e26 : F 26 = .int v26) (c : ¬ v26 = 0) : J false mX8_goAll d 240 [(0, .ref 65), (1, .int z), (2, .int n)] [] h 16 [(0, .ref 65), (1, .int z), (2, .int n), (3, .int 0)] [] h := by
  refine J.tr (s_aload_n (q := 241) dX8_goAll_240 rfl rfl) ?_
  refine J.tr (s_gf (q := 244) (v := .int v26) dX8_goAll_241 rfl fX8_126.l (ho) (by decide) (e26)) ?_
  refine J.tr (s_if_ne_t (q := 251) dX8_goAll_244 (by decide) c) ?_
  refine J.tr (s_iconst (q := 252) (v := 0) dX8_goAll_251 rfl (by decide)) ?_
  refine J.tr (s_istore_n (q := 253) (ls' := [(3, .int 0), (0, .ref 65), (1, .int z), (2, .int n)]) dX8_goAll_252 rfl (by decide) rfl) ?_
  refine J.tr (s_goto (q := 16) dX8_goAll_253 (by decide)) ?_
  refine J.tr (s_ls (ls' := [(0, .ref 65), (1, .int z), (2, .int n), (3, .int 0)]) [1, 2, 3, 0] rfl) ?_
  exact J.rf

set_option maxRecDepth 20000 in
theorem j_X8_goAll_j_2 {d : Nat} (hd : 0 ≤ d) (h : AH) (z : Int32) (n : Int32) (x : Nat) (y : Nat) (F : Nat → Value) (ho : h.1 65 = ob 8 (fo 53 F)) (v26 : Int32) (e26 : F 26 = .int v26) (c : v26 = 0) : J false mX8_goAll d 240 [(0, .ref 65), (1, .int z), (2, .int n)] [] h 16 [(0, .ref 65), (1, .int z), (2, .int n), (3, .int 1)] [] h := by
  refine J.tr (s_aload_n (q := 241) dX8_goAll_240 rfl rfl) ?_
  refine J.tr (s_gf (q := 244) (v := .int v26) dX8_goAll_241 rfl fX8_126.l (ho) (by decide) (e26)) ?_
  refine J.tr (s_if_ne_f (q := 247) (tg := 251) dX8_goAll_244 (by decide) rfl c) ?_
  refine J.tr (s_iconst (q := 248) (v := 1) dX8_goAll_247 rfl (by decide)) ?_
  refine J.tr (s_goto (q := 252) dX8_goAll_248 (by decide)) ?_
  refine J.tr (s_istore_n (q := 253) (ls' := [(3, .int 1), (0, .ref 65), (1, .int z), (2, .int n)]) dX8_goAll_252 rfl (by decide) rfl) ?_
  refine J.tr (s_goto (q := 16) dX8_goAll_253 (by decide)) ?_
  refine J.tr (s_ls (ls' := [(0, .ref 65), (1, .int z), (2, .int n), (3, .int 1)]) [1, 2, 3, 0] rfl) ?_
  exact J.rf

set_option maxRecDepth 20000 in
theorem j_X8_collect_a_1 {d : Nat} (hd : 0 ≤ d) (h : AH) (x : Nat) (y : Nat) (F : Nat → Value) (ho : h.1 65 = ob 8 (fo 53 F)) (e24 : F 24 = .ref 86) (v7 : Int32) (e7 : F 7 = .int v7) (n : Nat) (f : Nat → Int32) (ha : h.1 86 = ia n f) (i : vp_in v7 n) (e21 : F 21 = .ref 83) (n1 : Nat) (f1 : Nat → Int32) (ha1 : h.1 83 = ia n1 f1) (i1 : vp_in v7 n1) (c : ((1 + (f v7.toNatClampNeg)) + (f1 v7.toNatClampNeg)) ≤ 100) : J false mX8_collect d 0 [(0, .ref 65)] [] h 34 [(0, .ref 65), (1, .int 0)] [] h := by
  refine J.tr (s_iconst (q := 1) (v := 1) dX8_collect_0 rfl (by decide)) ?_
  refine J.tr (s_aload_n (q := 2) dX8_collect_1 rfl rfl) ?_
  refine J.tr (s_gf (q := 5) (v := .ref 86) dX8_collect_2 rfl fX8_71.l (ho) (by decide) (e24)) ?_
  refine J.tr (s_aload_n (q := 6) dX8_collect_5 rfl rfl) ?_
  refine J.tr (s_gf (q := 9) (v := .int v7) dX8_collect_6 rfl fX8_119.l (ho) (by decide) (e7)) ?_
  refine J.tr (s_iald (q := 10) dX8_collect_9 rfl (by decide) (ha) i) ?_
  refine J.tr (s_iadd (q := 11) dX8_collect_10 rfl) ?_
  refine J.tr (s_aload_n (q := 12) dX8_collect_11 rfl rfl) ?_
  refine J.tr (s_gf (q := 15) (v := .ref 83) dX8_collect_12 rfl fX8_62.l (ho) (by decide) (e21)) ?_
  refine J.tr (s_aload_n (q := 16) dX8_collect_15 rfl rfl) ?_
  refine J.tr (s_gf (q := 19) (v := .int v7) dX8_collect_16 rfl fX8_119.l (ho) (by decide) (e7)) ?_
  refine J.tr (s_iald (q := 20) dX8_collect_19 rfl (by decide) (ha1) i1) ?_
  refine J.tr (s_iadd (q := 21) dX8_collect_20 rfl) ?_
  refine J.tr (s_bipush (q := 23) (v := 100) dX8_collect_21 rfl (by decide)) ?_
  refine J.tr (s_icmp_le_t (q := 32) dX8_collect_23 (by decide) c) ?_
  refine J.tr (s_iconst (q := 33) (v := 0) dX8_collect_32 rfl (by decide)) ?_
  refine J.tr (s_istore_n (q := 34) (ls' := [(1, .int 0), (0, .ref 65)]) dX8_collect_33 rfl (by decide) rfl) ?_
  refine J.tr (s_ls (ls' := [(0, .ref 65), (1, .int 0)]) [1, 0] rfl) ?_
  exact J.rf

set_option maxRecDepth 20000 in
theorem j_X8_collect_a_2 {d : Nat} (hd : 0 ≤ d) (h : AH) (x : Nat) (y : Nat) (F : Nat → Value) (ho : h.1 65 = ob 8 (fo 53 F)) (e24 : F 24 = .ref 86) (v7 : Int32) (e7 : F 7 = .int v7) (n : Nat) (f : Nat → Int32) (ha : h.1 86 = ia n f) (i : vp_in v7 n) (e21 : F 21 = .ref 83) (n1 : Nat) (f1 : Nat → Int32) (ha1 : h.1 83 = ia n1 f1) (i1 : vp_in v7 n1) (c : ¬ (((1 + (f v7.toNatClampNeg)) + (f1 v7.toNatClampNeg)) ≤ 100)) : E false mX8_collect d 0 [(0, .ref 65)] [] h (none) (hs h 65 (ob 8 (fo 53 (va_up F 26 (.int 2))))) := by
  refine E.st (s_iconst (q := 1) (v := 1) dX8_collect_0 rfl (by decide)) ?_
  refine E.st (s_aload_n (q := 2) dX8_collect_1 rfl rfl) ?_
  refine E.st (s_gf (q := 5) (v := .ref 86) dX8_collect_2 rfl fX8_71.l (ho) (by decide) (e24)) ?_
  refine E.st (s_aload_n (q := 6) dX8_collect_5 rfl rfl) ?_
  refine E.st (s_gf (q := 9) (v := .int v7) dX8_collect_6 rfl fX8_119.l (ho) (by decide) (e7)) ?_
  refine E.st (s_iald (q := 10) dX8_collect_9 rfl (by decide) (ha) i) ?_
  refine E.st (s_iadd (q := 11) dX8_collect_10 rfl) ?_
  refine E.st (s_aload_n (q := 12) dX8_collect_11 rfl rfl) ?_
  refine E.st (s_gf (q := 15) (v := .ref 83) dX8_collect_12 rfl fX8_62.l (ho) (by decide) (e21)) ?_
  refine E.st (s_aload_n (q := 16) dX8_collect_15 rfl rfl) ?_
  refine E.st (s_gf (q := 19) (v := .int v7) dX8_collect_16 rfl fX8_119.l (ho) (by decide) (e7)) ?_
  refine E.st (s_iald (q := 20) dX8_collect_19 rfl (by decide) (ha1) i1) ?_
  refine E.st (s_iadd (q := 21) dX8_collect_20 rfl) ?_
  refine E.st (s_bipush (q := 23) (v := 100) dX8_collect_21 rfl (by decide)) ?_
  refine E.st (s_icmp_le_f (q := 26) (tg := 32) dX8_collect_23 (by decide) rfl c) ?_
  refine E.st (s_aload_n (q := 27) dX8_collect_26 rfl rfl) ?_
  refine E.st (s_iconst (q := 28) (v := 2) dX8_collect_27 rfl (by decide)) ?_
  refine E.st (s_pf (q := 31) dX8_collect_28 rfl fX8_126 (ho) (by decide) (fun _ => ⟨rfl, rfl⟩)) ?_
  exact E.v dX8_collect_31 rfl rfl rfl

set_option maxRecDepth 20000 in
theorem j_X8_collect_b_1 {d : Nat} (hd : 0 ≤ d) (h : AH) (k : Int32) (x : Nat) (y : Nat) (F : Nat → Value) (ho : h.1 65 = ob 8 (fo 53 F)) (e21 : F 21 = .ref 83) (v7 : Int32) (e7 : F 7 = .int v7) (n : Nat) (f : Nat → Int32) (ha : h.1 83 = ia n f) (i : vp_in v7 n) (c : (f v7.toNatClampNeg) ≤ k) : E false mX8_collect d 34 [(0, .ref 65), (1, .int k)] [] h (none) h := by
  refine E.st (s_iload_n (q := 35) dX8_collect_34 rfl rfl) ?_
  refine E.st (s_aload_n (q := 36) dX8_collect_35 rfl rfl) ?_
  refine E.st (s_gf (q := 39) (v := .ref 83) dX8_collect_36 rfl fX8_62.l (ho) (by decide) (e21)) ?_
  refine E.st (s_aload_n (q := 40) dX8_collect_39 rfl rfl) ?_
  refine E.st (s_gf (q := 43) (v := .int v7) dX8_collect_40 rfl fX8_119.l (ho) (by decide) (e7)) ?_
  refine E.st (s_iald (q := 44) dX8_collect_43 rfl (by decide) (ha) i) ?_
  refine E.st (s_icmp_ge_t (q := 138) dX8_collect_44 (by decide) c) ?_
  exact E.v dX8_collect_138 rfl rfl rfl

set_option maxRecDepth 20000 in
theorem j_X8_collect_b_2 {d : Nat} (hd : 0 ≤ d) (h : AH) (k : Int32) (x : Nat) (y : Nat) (F : Nat → Value) (ho : h.1 65 = ob 8 (fo 53 F)) (e21 : F 21 = .ref 83) (v7 : Int32) (e7 : F 7 = .int v7) (n : Nat) (f : Nat → Int32) (ha : h.1 83 = ia n f) (i : vp_in v7 n) (c : ¬ ((f v7.toNatClampNeg) ≤ k)) (e22 : F 22 = .ref 84) (e24 : F 24 = .ref 86) (n1 : Nat) (f1 : Nat → Int32) (ha1 : h.1 86 = ia n1 f1) (i1 : vp_in v7 n1) (p : Int32) (en : ((100 * v7) + (f1 v7.toNatClampNeg)) = p) (e19 : F 19 = .ref 81) (e : Int32) (en1 : ((100 * v7) + k) = e) (n2 : Nat) (f2 : Nat → Int32) (ha2 : h.1 81 = ia n2 f2) (i2 : vp_in e n2) (n3 : Nat) (f3 : Nat → Int32) (ha3 : h.1 84 = ia n3 f3) (i3 : vp_in p n3) (e23 : F 23 = .ref 85) (p1 : Int32) (en2 : ((100 * v7) + (f1 v7.toNatClampNeg)) = p1) (e20 : F 20 = .ref 82) (e1 : Int32) (en3 : ((100 * v7) + k) = e1) (n4 : Nat) (f4 : Nat → Int64) (ha4 : h.1 82 = la n4 f4) (i4 : vp_in e1 n4) (n5 : Nat) (f5 : Nat → Int64) (ha5 : h.1 85 = la n5 f5) (i5 : vp_in p1 n5) : J false mX8_collect d 34 [(0, .ref 65), (1, .int k)] [] h 34 [(0, .ref 65), (1, .int (k + 1))] [] (hs (hs (hs h 84 (ia n3 (upd f3 p.toNatClampNeg (f2 e.toNatClampNeg)))) 85 (la n5 (vp_updL f5 p1.toNatClampNeg (f4 e1.toNatClampNeg)))) 86 (ia n1 (upd f1 v7.toNatClampNeg ((f1 v7.toNatClampNeg) + 1)))) := by
  refine J.tr (s_iload_n (q := 35) dX8_collect_34 rfl rfl) ?_
  refine J.tr (s_aload_n (q := 36) dX8_collect_35 rfl rfl) ?_
  refine J.tr (s_gf (q := 39) (v := .ref 83) dX8_collect_36 rfl fX8_62.l (ho) (by decide) (e21)) ?_
  refine J.tr (s_aload_n (q := 40) dX8_collect_39 rfl rfl) ?_
  refine J.tr (s_gf (q := 43) (v := .int v7) dX8_collect_40 rfl fX8_119.l (ho) (by decide) (e7)) ?_
  refine J.tr (s_iald (q := 44) dX8_collect_43 rfl (by decide) (ha) i) ?_
  refine J.tr (s_icmp_ge_f (q := 47) (tg := 138) dX8_collect_44 (by decide) rfl c) ?_
  refine J.tr (s_aload_n (q := 48) dX8_collect_47 rfl rfl) ?_
  refine J.tr (s_gf (q := 51) (v := .ref 84) dX8_collect_48 rfl fX8_65.l (ho) (by decide) (e22)) ?_
  refine J.tr (s_bipush (q := 53) (v := 100) dX8_collect_51 rfl (by decide)) ?_
  refine J.tr (s_aload_n (q := 54) dX8_collect_53 rfl rfl) ?_
  refine J.tr (s_gf (q := 57) (v := .int v7) dX8_collect_54 rfl fX8_119.l (ho) (by decide) (e7)) ?_
  refine J.tr (s_imul (q := 58) dX8_collect_57 rfl) ?_
  refine J.tr (s_aload_n (q := 59) dX8_collect_58 rfl rfl) ?_
  refine J.tr (s_gf (q := 62) (v := .ref 86) dX8_collect_59 rfl fX8_71.l (ho) (by decide) (e24)) ?_
  refine J.tr (s_aload_n (q := 63) dX8_collect_62 rfl rfl) ?_
  refine J.tr (s_gf (q := 66) (v := .int v7) dX8_collect_63 rfl fX8_119.l (ho) (by decide) (e7)) ?_
  refine J.tr (s_iald (q := 67) dX8_collect_66 rfl (by decide) (ha1) i1) ?_
  refine J.tr (s_iadd (q := 68) dX8_collect_67 rfl) ?_
  refine J.tr (s_nmi en) ?_
  refine J.tr (s_aload_n (q := 69) dX8_collect_68 rfl rfl) ?_
  refine J.tr (s_gf (q := 72) (v := .ref 81) dX8_collect_69 rfl fX8_56.l (ho) (by decide) (e19)) ?_
  refine J.tr (s_bipush (q := 74) (v := 100) dX8_collect_72 rfl (by decide)) ?_
  refine J.tr (s_aload_n (q := 75) dX8_collect_74 rfl rfl) ?_
  refine J.tr (s_gf (q := 78) (v := .int v7) dX8_collect_75 rfl fX8_119.l (ho) (by decide) (e7)) ?_
  refine J.tr (s_imul (q := 79) dX8_collect_78 rfl) ?_
  refine J.tr (s_iload_n (q := 80) dX8_collect_79 rfl rfl) ?_
  refine J.tr (s_iadd (q := 81) dX8_collect_80 rfl) ?_
  refine J.tr (s_nmi en1) ?_
  refine J.tr (s_iald (q := 82) dX8_collect_81 rfl (by decide) (ha2) i2) ?_
  refine J.tr (s_iast (q := 83) dX8_collect_82 rfl (by decide) (ha3) i3) ?_
  refine J.tr (s_aload_n (q := 84) dX8_collect_83 rfl rfl) ?_
  refine J.tr (s_gf (q := 87) (v := .ref 85) dX8_collect_84 rfl fX8_68.l ((hs_ne (by decide)).trans (ho)) (by decide) (e23)) ?_
  refine J.tr (s_bipush (q := 89) (v := 100) dX8_collect_87 rfl (by decide)) ?_
  refine J.tr (s_aload_n (q := 90) dX8_collect_89 rfl rfl) ?_
  refine J.tr (s_gf (q := 93) (v := .int v7) dX8_collect_90 rfl fX8_119.l ((hs_ne (by decide)).trans (ho)) (by decide) (e7)) ?_
  refine J.tr (s_imul (q := 94) dX8_collect_93 rfl) ?_
  refine J.tr (s_aload_n (q := 95) dX8_collect_94 rfl rfl) ?_
  refine J.tr (s_gf (q := 98) (v := .ref 86) dX8_collect_95 rfl fX8_71.l ((hs_ne (by decide)).trans (ho)) (by decide) (e24)) ?_
  refine J.tr (s_aload_n (q := 99) dX8_collect_98 rfl rfl) ?_
  refine J.tr (s_gf (q := 102) (v := .int v7) dX8_collect_99 rfl fX8_119.l ((hs_ne (by decide)).trans (ho)) (by decide) (e7)) ?_
  refine J.tr (s_iald (q := 103) dX8_collect_102 rfl (by decide) ((hs_ne (by decide)).trans (ha1)) i1) ?_
  refine J.tr (s_iadd (q := 104) dX8_collect_103 rfl) ?_
  refine J.tr (s_nmi en2) ?_
  refine J.tr (s_aload_n (q := 105) dX8_collect_104 rfl rfl) ?_
  refine J.tr (s_gf (q := 108) (v := .ref 82) dX8_collect_105 rfl fX8_59.l ((hs_ne (by decide)).trans (ho)) (by decide) (e20)) ?_
  refine J.tr (s_bipush (q := 110) (v := 100) dX8_collect_108 rfl (by decide)) ?_
  refine J.tr (s_aload_n (q := 111) dX8_collect_110 rfl rfl) ?_
  refine J.tr (s_gf (q := 114) (v := .int v7) dX8_collect_111 rfl fX8_119.l ((hs_ne (by decide)).trans (ho)) (by decide) (e7)) ?_
  refine J.tr (s_imul (q := 115) dX8_collect_114 rfl) ?_
  refine J.tr (s_iload_n (q := 116) dX8_collect_115 rfl rfl) ?_
  refine J.tr (s_iadd (q := 117) dX8_collect_116 rfl) ?_
  refine J.tr (s_nmi en3) ?_
  refine J.tr (s_lald (q := 118) dX8_collect_117 rfl ((hs_ne (by decide)).trans (ha4)) i4) ?_
  refine J.tr (s_last (q := 119) dX8_collect_118 rfl ((hs_ne (by decide)).trans (ha5)) i5) ?_
  refine J.tr (s_aload_n (q := 120) dX8_collect_119 rfl rfl) ?_
  refine J.tr (s_gf (q := 123) (v := .ref 86) dX8_collect_120 rfl fX8_71.l ((hs_ne (by decide)).trans ((hs_ne (by decide)).trans (ho))) (by decide) (e24)) ?_
  refine J.tr (s_aload_n (q := 124) dX8_collect_123 rfl rfl) ?_
  refine J.tr (s_gf (q := 127) (v := .int v7) dX8_collect_124 rfl fX8_119.l ((hs_ne (by decide)).trans ((hs_ne (by decide)).trans (ho))) (by decide) (e7)) ?_
  refine J.tr (s_dup2 (q := 128) dX8_collect_127 rfl rfl rfl) ?_
  refine J.tr (s_iald (q := 129) dX8_collect_128 rfl (by decide) ((hs_ne (by decide)).trans ((hs_ne (by decide)).trans (ha1))) i1) ?_
  refine J.tr (s_iconst (q := 130) (v := 1) dX8_collect_129 rfl (by decide)) ?_
  refine J.tr (s_iadd (q := 131) dX8_collect_130 rfl) ?_
  refine J.tr (s_iast (q := 132) dX8_collect_131 rfl (by decide) ((hs_ne (by decide)).trans ((hs_ne (by decide)).trans (ha1))) i1) ?_
  refine J.tr (s_iinc (q := 135) (v := (k + 1)) (ls' := [(1, .int (k + 1)), (0, .ref 65)]) dX8_collect_132 rfl (by decide) rfl rfl rfl) ?_
  refine J.tr (s_goto (q := 34) dX8_collect_135 (by decide)) ?_
  refine J.tr (s_ls (ls' := [(0, .ref 65), (1, .int (k + 1))]) [1, 0] rfl) ?_
  exact J.rf

set_option maxRecDepth 20000 in
theorem j_X8_nextWay_a_1 {d : Nat} (hd : 0 ≤ d) (h : AH) (x : Nat) (y : Nat) (F : Nat → Value) (ho : h.1 65 = ob 8 (fo 53 F)) (e18 : F 18 = .ref 80) (v7 : Int32) (e7 : F 7 = .int v7) (n : Nat) (f : Nat → Int32) (ha : h.1 80 = ia n f) (i : vp_in v7 n) : J false mX8_nextWay d 0 [(0, .ref 65)] [] h 12 [(0, .ref 65), (1, .int ((f v7.toNatClampNeg) - 1))] [] h := by
  refine J.tr (s_aload_n (q := 1) dX8_nextWay_0 rfl rfl) ?_
  refine J.tr (s_gf (q := 4) (v := .ref 80) dX8_nextWay_1 rfl fX8_53.l (ho) (by decide) (e18)) ?_
  refine J.tr (s_aload_n (q := 5) dX8_nextWay_4 rfl rfl) ?_
  refine J.tr (s_gf (q := 8) (v := .int v7) dX8_nextWay_5 rfl fX8_119.l (ho) (by decide) (e7)) ?_
  refine J.tr (s_iald (q := 9) dX8_nextWay_8 rfl (by decide) (ha) i) ?_
  refine J.tr (s_iconst (q := 10) (v := 1) dX8_nextWay_9 rfl (by decide)) ?_
  refine J.tr (s_isub (q := 11) dX8_nextWay_10 rfl) ?_
  refine J.tr (s_istore_n (q := 12) (ls' := [(1, .int ((f v7.toNatClampNeg) - 1)), (0, .ref 65)]) dX8_nextWay_11 rfl (by decide) rfl) ?_
  refine J.tr (s_ls (ls' := [(0, .ref 65), (1, .int ((f v7.toNatClampNeg) - 1))]) [1, 0] rfl) ?_
  exact J.rf

set_option maxRecDepth 20000 in
theorem j_X8_nextWay_b_1 {d : Nat} (hd : 0 ≤ d) (h : AH) (k : Int32) (x : Nat) (y : Nat) (c : k < 0) (c1 : 0 ≤ k) (F : Nat → Value) (ho : h.1 65 = ob 8 (fo 53 F)) (e16 : F 16 = .ref 78) (v7 : Int32) (e7 : F 7 = .int v7) (p : Int32) (en : ((2001 * v7) + k) = p) (n : Nat) (f : Nat → Int32) (ha : h.1 78 = ia n f) (i : vp_in p n) (e17 : F 17 = .ref 79) (n1 : Nat) (f1 : Nat → Int32) (ha1 : h.1 79 = ia n1 f1) (i1 : vp_in v7 n1) : E false mX8_nextWay d 12 [(0, .ref 65), (1, .int k)] [] h (some (.int 1)) (hs (hs h 78 (ia n (upd f p.toNatClampNeg 1))) 79 (ia n1 (upd f1 v7.toNatClampNeg (k + 1)))) := by
  refine E.st (s_iload_n (q := 13) dX8_nextWay_12 rfl rfl) ?_
  refine E.st (s_if_lt_t (q := 41) dX8_nextWay_13 (by decide) c) ?_
  refine E.st (s_iload_n (q := 42) dX8_nextWay_41 rfl rfl) ?_
  refine E.st (s_if_ge_t (q := 47) dX8_nextWay_42 (by decide) c1) ?_
  refine E.st (s_aload_n (q := 48) dX8_nextWay_47 rfl rfl) ?_
  refine E.st (s_gf (q := 51) (v := .ref 78) dX8_nextWay_48 rfl fX8_47.l (ho) (by decide) (e16)) ?_
  refine E.st (s_sipush (q := 54) (v := 2001) dX8_nextWay_51 rfl (by decide)) ?_
  refine E.st (s_aload_n (q := 55) dX8_nextWay_54 rfl rfl) ?_
  refine E.st (s_gf (q := 58) (v := .int v7) dX8_nextWay_55 rfl fX8_119.l (ho) (by decide) (e7)) ?_
  refine E.st (s_imul (q := 59) dX8_nextWay_58 rfl) ?_
  refine E.st (s_iload_n (q := 60) dX8_nextWay_59 rfl rfl) ?_
  refine E.st (s_iadd (q := 61) dX8_nextWay_60 rfl) ?_
  refine E.st (s_nmi en) ?_
  refine E.st (s_iconst (q := 62) (v := 1) dX8_nextWay_61 rfl (by decide)) ?_
  refine E.st (s_iast (q := 63) dX8_nextWay_62 rfl (by decide) (ha) i) ?_
  refine E.st (s_aload_n (q := 64) dX8_nextWay_63 rfl rfl) ?_
  refine E.st (s_gf (q := 67) (v := .ref 79) dX8_nextWay_64 rfl fX8_50.l ((hs_ne (by decide)).trans (ho)) (by decide) (e17)) ?_
  refine E.st (s_aload_n (q := 68) dX8_nextWay_67 rfl rfl) ?_
  refine E.st (s_gf (q := 71) (v := .int v7) dX8_nextWay_68 rfl fX8_119.l ((hs_ne (by decide)).trans (ho)) (by decide) (e7)) ?_
  refine E.st (s_iload_n (q := 72) dX8_nextWay_71 rfl rfl) ?_
  refine E.st (s_iconst (q := 73) (v := 1) dX8_nextWay_72 rfl (by decide)) ?_
  refine E.st (s_iadd (q := 74) dX8_nextWay_73 rfl) ?_
  refine E.st (s_iast (q := 75) dX8_nextWay_74 rfl (by decide) ((hs_ne (by decide)).trans (ha1)) i1) ?_
  refine E.st (s_iconst (q := 76) (v := 1) dX8_nextWay_75 rfl (by decide)) ?_
  exact E.i dX8_nextWay_76 rfl rfl rfl rfl

set_option maxRecDepth 20000 in
theorem j_X8_nextWay_b_2 {d : Nat} (hd : 0 ≤ d) (h : AH) (k : Int32) (x : Nat) (y : Nat) (c : k < 0) (c1 : ¬ (0 ≤ k)) : E false mX8_nextWay d 12 [(0, .ref 65), (1, .int k)] [] h (some (.int 0)) h := by
  refine E.st (s_iload_n (q := 13) dX8_nextWay_12 rfl rfl) ?_
  refine E.st (s_if_lt_t (q := 41) dX8_nextWay_13 (by decide) c) ?_
  refine E.st (s_iload_n (q := 42) dX8_nextWay_41 rfl rfl) ?_
  refine E.st (s_if_ge_f (q := 45) (tg := 47) dX8_nextWay_42 (by decide) rfl c1) ?_
  refine E.st (s_iconst (q := 46) (v := 0) dX8_nextWay_45 rfl (by decide)) ?_
  exact E.i dX8_nextWay_46 rfl rfl rfl rfl

set_option maxRecDepth 20000 in
theorem j_X8_nextWay_b_3 {d : Nat} (hd : 0 ≤ d) (h : AH) (k : Int32) (x : Nat) (y : Nat) (c : ¬ (k < 0)) (F : Nat → Value) (ho : h.1 65 = ob 8 (fo 53 F)) (e16 : F 16 = .ref 78) (v7 : Int32) (e7 : F 7 = .int v7) (p : Int32) (en : ((2001 * v7) + k) = p) (n : Nat) (f : Nat → Int32) (ha : h.1 78 = ia n f) (i : vp_in p n) (c1 : ¬ (f p.toNatClampNeg) = 1) (c2 : 0 ≤ k) (p1 : Int32) (en1 : ((2001 * v7) + k) = p1) (i1 : vp_in p1 n) (e17 : F 17 = .ref 79) (n1 : Nat) (f1 : Nat → Int32) (ha1 : h.1 79 = ia n1 f1) (i2 : vp_in v7 n1) : E false mX8_nextWay d 12 [(0, .ref 65), (1, .int k)] [] h (some (.int 1)) (hs (hs h 78 (ia n (upd f p1.toNatClampNeg 1))) 79 (ia n1 (upd f1 v7.toNatClampNeg (k + 1)))) := by
  refine E.st (s_iload_n (q := 13) dX8_nextWay_12 rfl rfl) ?_
  refine E.st (s_if_lt_f (q := 16) (tg := 41) dX8_nextWay_13 (by decide) rfl c) ?_
  refine E.st (s_aload_n (q := 17) dX8_nextWay_16 rfl rfl) ?_
  refine E.st (s_gf (q := 20) (v := .ref 78) dX8_nextWay_17 rfl fX8_47.l (ho) (by decide) (e16)) ?_
  refine E.st (s_sipush (q := 23) (v := 2001) dX8_nextWay_20 rfl (by decide)) ?_
  refine E.st (s_aload_n (q := 24) dX8_nextWay_23 rfl rfl) ?_
  refine E.st (s_gf (q := 27) (v := .int v7) dX8_nextWay_24 rfl fX8_119.l (ho) (by decide) (e7)) ?_
  refine E.st (s_imul (q := 28) dX8_nextWay_27 rfl) ?_
  refine E.st (s_iload_n (q := 29) dX8_nextWay_28 rfl rfl) ?_
  refine E.st (s_iadd (q := 30) dX8_nextWay_29 rfl) ?_
  refine E.st (s_nmi en) ?_
  refine E.st (s_iald (q := 31) dX8_nextWay_30 rfl (by decide) (ha) i) ?_
  refine E.st (s_iconst (q := 32) (v := 1) dX8_nextWay_31 rfl (by decide)) ?_
  refine E.st (s_icmp_ne_t (q := 41) dX8_nextWay_32 (by decide) c1) ?_
  refine E.st (s_iload_n (q := 42) dX8_nextWay_41 rfl rfl) ?_
  refine E.st (s_if_ge_t (q := 47) dX8_nextWay_42 (by decide) c2) ?_
  refine E.st (s_aload_n (q := 48) dX8_nextWay_47 rfl rfl) ?_
  refine E.st (s_gf (q := 51) (v := .ref 78) dX8_nextWay_48 rfl fX8_47.l (ho) (by decide) (e16)) ?_
  refine E.st (s_sipush (q := 54) (v := 2001) dX8_nextWay_51 rfl (by decide)) ?_
  refine E.st (s_aload_n (q := 55) dX8_nextWay_54 rfl rfl) ?_
  refine E.st (s_gf (q := 58) (v := .int v7) dX8_nextWay_55 rfl fX8_119.l (ho) (by decide) (e7)) ?_
  refine E.st (s_imul (q := 59) dX8_nextWay_58 rfl) ?_
  refine E.st (s_iload_n (q := 60) dX8_nextWay_59 rfl rfl) ?_
  refine E.st (s_iadd (q := 61) dX8_nextWay_60 rfl) ?_
  refine E.st (s_nmi en1) ?_
  refine E.st (s_iconst (q := 62) (v := 1) dX8_nextWay_61 rfl (by decide)) ?_
  refine E.st (s_iast (q := 63) dX8_nextWay_62 rfl (by decide) (ha) i1) ?_
  refine E.st (s_aload_n (q := 64) dX8_nextWay_63 rfl rfl) ?_
  refine E.st (s_gf (q := 67) (v := .ref 79) dX8_nextWay_64 rfl fX8_50.l ((hs_ne (by decide)).trans (ho)) (by decide) (e17)) ?_
  refine E.st (s_aload_n (q := 68) dX8_nextWay_67 rfl rfl) ?_
  refine E.st (s_gf (q := 71) (v := .int v7) dX8_nextWay_68 rfl fX8_119.l ((hs_ne (by decide)).trans (ho)) (by decide) (e7)) ?_
  refine E.st (s_iload_n (q := 72) dX8_nextWay_71 rfl rfl) ?_
  refine E.st (s_iconst (q := 73) (v := 1) dX8_nextWay_72 rfl (by decide)) ?_
  refine E.st (s_iadd (q := 74) dX8_nextWay_73 rfl) ?_
  refine E.st (s_iast (q := 75) dX8_nextWay_74 rfl (by decide) ((hs_ne (by decide)).trans (ha1)) i2) ?_
  refine E.st (s_iconst (q := 76) (v := 1) dX8_nextWay_75 rfl (by decide)) ?_
  exact E.i dX8_nextWay_76 rfl rfl rfl rfl

set_option maxRecDepth 20000 in
theorem j_X8_nextWay_b_4 {d : Nat} (hd : 0 ≤ d) (h : AH) (k : Int32) (x : Nat) (y : Nat) (c : ¬ (k < 0)) (F : Nat → Value) (ho : h.1 65 = ob 8 (fo 53 F)) (e16 : F 16 = .ref 78) (v7 : Int32) (e7 : F 7 = .int v7) (p : Int32) (en : ((2001 * v7) + k) = p) (n : Nat) (f : Nat → Int32) (ha : h.1 78 = ia n f) (i : vp_in p n) (c1 : ¬ (f p.toNatClampNeg) = 1) (c2 : ¬ (0 ≤ k)) : E false mX8_nextWay d 12 [(0, .ref 65), (1, .int k)] [] h (some (.int 0)) h := by
  refine E.st (s_iload_n (q := 13) dX8_nextWay_12 rfl rfl) ?_
  refine E.st (s_if_lt_f (q := 16) (tg := 41) dX8_nextWay_13 (by decide) rfl c) ?_
  refine E.st (s_aload_n (q := 17) dX8_nextWay_16 rfl rfl) ?_
  refine E.st (s_gf (q := 20) (v := .ref 78) dX8_nextWay_17 rfl fX8_47.l (ho) (by decide) (e16)) ?_
  refine E.st (s_sipush (q := 23) (v := 2001) dX8_nextWay_20 rfl (by decide)) ?_
  refine E.st (s_aload_n (q := 24) dX8_nextWay_23 rfl rfl) ?_
  refine E.st (s_gf (q := 27) (v := .int v7) dX8_nextWay_24 rfl fX8_119.l (ho) (by decide) (e7)) ?_
  refine E.st (s_imul (q := 28) dX8_nextWay_27 rfl) ?_
  refine E.st (s_iload_n (q := 29) dX8_nextWay_28 rfl rfl) ?_
  refine E.st (s_iadd (q := 30) dX8_nextWay_29 rfl) ?_
  refine E.st (s_nmi en) ?_
  refine E.st (s_iald (q := 31) dX8_nextWay_30 rfl (by decide) (ha) i) ?_
  refine E.st (s_iconst (q := 32) (v := 1) dX8_nextWay_31 rfl (by decide)) ?_
  refine E.st (s_icmp_ne_t (q := 41) dX8_nextWay_32 (by decide) c1) ?_
  refine E.st (s_iload_n (q := 42) dX8_nextWay_41 rfl rfl) ?_
  refine E.st (s_if_ge_f (q := 45) (tg := 47) dX8_nextWay_42 (by decide) rfl c2) ?_
  refine E.st (s_iconst (q := 46) (v := 0) dX8_nextWay_45 rfl (by decide)) ?_
  exact E.i dX8_nextWay_46 rfl rfl rfl rfl

set_option maxRecDepth 20000 in
theorem j_X8_nextWay_b_5 {d : Nat} (hd : 0 ≤ d) (h : AH) (k : Int32) (x : Nat) (y : Nat) (c : ¬ (k < 0)) (F : Nat → Value) (ho : h.1 65 = ob 8 (fo 53 F)) (e16 : F 16 = .ref 78) (v7 : Int32) (e7 : F 7 = .int v7) (p : Int32) (en : ((2001 * v7) + k) = p) (n : Nat) (f : Nat → Int32) (ha : h.1 78 = ia n f) (i : vp_in p n) (c1 : (f p.toNatClampNeg) = 1) : J false mX8_nextWay d 12 [(0, .ref 65), (1, .int k)] [] h 12 [(0, .ref 65), (1, .int (k + (-1)))] [] h := by
  refine J.tr (s_iload_n (q := 13) dX8_nextWay_12 rfl rfl) ?_
  refine J.tr (s_if_lt_f (q := 16) (tg := 41) dX8_nextWay_13 (by decide) rfl c) ?_
  refine J.tr (s_aload_n (q := 17) dX8_nextWay_16 rfl rfl) ?_
  refine J.tr (s_gf (q := 20) (v := .ref 78) dX8_nextWay_17 rfl fX8_47.l (ho) (by decide) (e16)) ?_
  refine J.tr (s_sipush (q := 23) (v := 2001) dX8_nextWay_20 rfl (by decide)) ?_
  refine J.tr (s_aload_n (q := 24) dX8_nextWay_23 rfl rfl) ?_
  refine J.tr (s_gf (q := 27) (v := .int v7) dX8_nextWay_24 rfl fX8_119.l (ho) (by decide) (e7)) ?_
  refine J.tr (s_imul (q := 28) dX8_nextWay_27 rfl) ?_
  refine J.tr (s_iload_n (q := 29) dX8_nextWay_28 rfl rfl) ?_
  refine J.tr (s_iadd (q := 30) dX8_nextWay_29 rfl) ?_
  refine J.tr (s_nmi en) ?_
  refine J.tr (s_iald (q := 31) dX8_nextWay_30 rfl (by decide) (ha) i) ?_
  refine J.tr (s_iconst (q := 32) (v := 1) dX8_nextWay_31 rfl (by decide)) ?_
  refine J.tr (s_icmp_ne_f (q := 35) (tg := 41) dX8_nextWay_32 (by decide) rfl c1) ?_
  refine J.tr (s_iinc (q := 38) (v := (k + (-1))) (ls' := [(1, .int (k + (-1))), (0, .ref 65)]) dX8_nextWay_35 rfl (by decide) rfl rfl rfl) ?_
  refine J.tr (s_goto (q := 12) dX8_nextWay_38 (by decide)) ?_
  refine J.tr (s_ls (ls' := [(0, .ref 65), (1, .int (k + (-1)))]) [1, 0] rfl) ?_
  exact J.rf

set_option maxRecDepth 20000 in
theorem j_X8_keep_a_1 {d : Nat} (hd : 0 ≤ d) (h : AH) (z : Int32) (m : Int64) (x : Nat) (y : Nat) (F : Nat → Value) (ho : h.1 65 = ob 8 (fo 53 F)) (v15 : Int32) (e15 : F 15 = .int v15) : J false mX8_keep d 0 [(0, .ref 65), (1, .int z), (2, .long m)] [] h 9 [(0, .ref 65), (1, .int z), (2, .long m), (4, .int v15)] [.long m, .int 2, .ref 65] h := by
  refine J.tr (s_aload_n (q := 1) dX8_keep_0 rfl rfl) ?_
  refine J.tr (s_gf (q := 4) (v := .int v15) dX8_keep_1 rfl fX8_184.l (ho) (by decide) (e15)) ?_
  refine J.tr (s_istore (q := 6) (ls' := [(4, .int v15), (0, .ref 65), (1, .int z), (2, .long m)]) dX8_keep_4 rfl (by decide) rfl) ?_
  refine J.tr (s_aload_n (q := 7) dX8_keep_6 rfl rfl) ?_
  refine J.tr (s_iconst (q := 8) (v := 2) dX8_keep_7 rfl (by decide)) ?_
  refine J.tr (s_lload_n (q := 9) dX8_keep_8 rfl rfl) ?_
  refine J.tr (s_ls (ls' := [(0, .ref 65), (1, .int z), (2, .long m), (4, .int v15)]) [1, 2, 3, 0] rfl) ?_
  exact J.rf

set_option maxRecDepth 20000 in
theorem j_X8_keep_b_1 {d : Nat} (hd : 0 ≤ d) (h : AH) (z : Int32) (m : Int64) (f : Int32) (x : Nat) (y : Nat) : J false mX8_keep d 12 [(0, .ref 65), (1, .int z), (2, .long m), (4, .int f)] [] h 15 [(0, .ref 65), (1, .int z), (2, .long m), (4, .int f), (5, .int 0)] [] h := by
  refine J.tr (s_iconst (q := 13) (v := 0) dX8_keep_12 rfl (by decide)) ?_
  refine J.tr (s_istore (q := 15) (ls' := [(5, .int 0), (0, .ref 65), (1, .int z), (2, .long m), (4, .int f)]) dX8_keep_13 rfl (by decide) rfl) ?_
  refine J.tr (s_ls (ls' := [(0, .ref 65), (1, .int z), (2, .long m), (4, .int f), (5, .int 0)]) [1, 2, 3, 4, 0] rfl) ?_
  exact J.rf

set_option maxRecDepth 20000 in
theorem j_X8_keep_c_1 {d : Nat} (hd : 0 ≤ d) (h : AH) (z : Int32) (m : Int64) (f : Int32) (k : Int32) (x : Nat) (y : Nat) (F : Nat → Value) (ho : h.1 65 = ob 8 (fo 53 F)) (e24 : F 24 = .ref 86) (v7 : Int32) (e7 : F 7 = .int v7) (n : Nat) (f1 : Nat → Int32) (ha : h.1 86 = ia n f1) (i : vp_in (v7 + 1) n) (c : (f1 (v7 + 1).toNatClampNeg) ≤ k) (e9 : F 9 = .ref 72) (n1 : Nat) (f2 : Nat → Int32) (ha1 : h.1 72 = ia n1 f2) (i1 : vp_in z n1) (e10 : F 10 = .ref 73) (n2 : Nat) (f3 : Nat → Int64) (ha2 : h.1 73 = la n2 f3) (i2 : vp_in z n2) : E false mX8_keep d 15 [(0, .ref 65), (1, .int z), (2, .long m), (4, .int f), (5, .int k)] [] h (none) (hs (hs h 72 (ia n1 (upd f2 z.toNatClampNeg 3))) 73 (la n2 (vp_updL f3 z.toNatClampNeg (f.toInt64)))) := by
  refine E.st (s_iload (q := 17) dX8_keep_15 rfl rfl) ?_
  refine E.st (s_aload_n (q := 18) dX8_keep_17 rfl rfl) ?_
  refine E.st (s_gf (q := 21) (v := .ref 86) dX8_keep_18 rfl fX8_71.l (ho) (by decide) (e24)) ?_
  refine E.st (s_aload_n (q := 22) dX8_keep_21 rfl rfl) ?_
  refine E.st (s_gf (q := 25) (v := .int v7) dX8_keep_22 rfl fX8_119.l (ho) (by decide) (e7)) ?_
  refine E.st (s_iconst (q := 26) (v := 1) dX8_keep_25 rfl (by decide)) ?_
  refine E.st (s_iadd (q := 27) dX8_keep_26 rfl) ?_
  refine E.st (s_iald (q := 28) dX8_keep_27 rfl (by decide) (ha) i) ?_
  refine E.st (s_icmp_ge_t (q := 75) dX8_keep_28 (by decide) c) ?_
  refine E.st (s_aload_n (q := 76) dX8_keep_75 rfl rfl) ?_
  refine E.st (s_gf (q := 79) (v := .ref 72) dX8_keep_76 rfl fX8_29.l (ho) (by decide) (e9)) ?_
  refine E.st (s_iload_n (q := 80) dX8_keep_79 rfl rfl) ?_
  refine E.st (s_iconst (q := 81) (v := 3) dX8_keep_80 rfl (by decide)) ?_
  refine E.st (s_iast (q := 82) dX8_keep_81 rfl (by decide) (ha1) i1) ?_
  refine E.st (s_aload_n (q := 83) dX8_keep_82 rfl rfl) ?_
  refine E.st (s_gf (q := 86) (v := .ref 73) dX8_keep_83 rfl fX8_32.l ((hs_ne (by decide)).trans (ho)) (by decide) (e10)) ?_
  refine E.st (s_iload_n (q := 87) dX8_keep_86 rfl rfl) ?_
  refine E.st (s_iload (q := 89) dX8_keep_87 rfl rfl) ?_
  refine E.st (s_i2l (q := 90) dX8_keep_89 rfl) ?_
  refine E.st (s_last (q := 91) dX8_keep_90 rfl ((hs_ne (by decide)).trans (ha2)) i2) ?_
  exact E.v dX8_keep_91 rfl rfl rfl

set_option maxRecDepth 20000 in
theorem j_X8_keep_c_2 {d : Nat} (hd : 0 ≤ d) (h : AH) (z : Int32) (m : Int64) (f : Int32) (k : Int32) (x : Nat) (y : Nat) (F : Nat → Value) (ho : h.1 65 = ob 8 (fo 53 F)) (e24 : F 24 = .ref 86) (v7 : Int32) (e7 : F 7 = .int v7) (n : Nat) (f1 : Nat → Int32) (ha : h.1 86 = ia n f1) (i : vp_in (v7 + 1) n) (c : ¬ ((f1 (v7 + 1).toNatClampNeg) ≤ k)) (e22 : F 22 = .ref 84) (p : Int32) (en : ((100 * (v7 + 1)) + k) = p) (n1 : Nat) (f2 : Nat → Int32) (ha1 : h.1 84 = ia n1 f2) (i1 : vp_in p n1) (e23 : F 23 = .ref 85) (p1 : Int32) (en1 : ((100 * (v7 + 1)) + k) = p1) (n2 : Nat) (f3 : Nat → Int64) (ha2 : h.1 85 = la n2 f3) (i2 : vp_in p1 n2) : J false mX8_keep d 15 [(0, .ref 65), (1, .int z), (2, .long m), (4, .int f), (5, .int k)] [] h 66 [(0, .ref 65), (1, .int z), (2, .long m), (4, .int f), (5, .int k)] [.long (f3 p1.toNatClampNeg), .int (f2 p.toNatClampNeg), .ref 65] h := by
  refine J.tr (s_iload (q := 17) dX8_keep_15 rfl rfl) ?_
  refine J.tr (s_aload_n (q := 18) dX8_keep_17 rfl rfl) ?_
  refine J.tr (s_gf (q := 21) (v := .ref 86) dX8_keep_18 rfl fX8_71.l (ho) (by decide) (e24)) ?_
  refine J.tr (s_aload_n (q := 22) dX8_keep_21 rfl rfl) ?_
  refine J.tr (s_gf (q := 25) (v := .int v7) dX8_keep_22 rfl fX8_119.l (ho) (by decide) (e7)) ?_
  refine J.tr (s_iconst (q := 26) (v := 1) dX8_keep_25 rfl (by decide)) ?_
  refine J.tr (s_iadd (q := 27) dX8_keep_26 rfl) ?_
  refine J.tr (s_iald (q := 28) dX8_keep_27 rfl (by decide) (ha) i) ?_
  refine J.tr (s_icmp_ge_f (q := 31) (tg := 75) dX8_keep_28 (by decide) rfl c) ?_
  refine J.tr (s_aload_n (q := 32) dX8_keep_31 rfl rfl) ?_
  refine J.tr (s_aload_n (q := 33) dX8_keep_32 rfl rfl) ?_
  refine J.tr (s_gf (q := 36) (v := .ref 84) dX8_keep_33 rfl fX8_65.l (ho) (by decide) (e22)) ?_
  refine J.tr (s_bipush (q := 38) (v := 100) dX8_keep_36 rfl (by decide)) ?_
  refine J.tr (s_aload_n (q := 39) dX8_keep_38 rfl rfl) ?_
  refine J.tr (s_gf (q := 42) (v := .int v7) dX8_keep_39 rfl fX8_119.l (ho) (by decide) (e7)) ?_
  refine J.tr (s_iconst (q := 43) (v := 1) dX8_keep_42 rfl (by decide)) ?_
  refine J.tr (s_iadd (q := 44) dX8_keep_43 rfl) ?_
  refine J.tr (s_imul (q := 45) dX8_keep_44 rfl) ?_
  refine J.tr (s_iload (q := 47) dX8_keep_45 rfl rfl) ?_
  refine J.tr (s_iadd (q := 48) dX8_keep_47 rfl) ?_
  refine J.tr (s_nmi en) ?_
  refine J.tr (s_iald (q := 49) dX8_keep_48 rfl (by decide) (ha1) i1) ?_
  refine J.tr (s_aload_n (q := 50) dX8_keep_49 rfl rfl) ?_
  refine J.tr (s_gf (q := 53) (v := .ref 85) dX8_keep_50 rfl fX8_68.l (ho) (by decide) (e23)) ?_
  refine J.tr (s_bipush (q := 55) (v := 100) dX8_keep_53 rfl (by decide)) ?_
  refine J.tr (s_aload_n (q := 56) dX8_keep_55 rfl rfl) ?_
  refine J.tr (s_gf (q := 59) (v := .int v7) dX8_keep_56 rfl fX8_119.l (ho) (by decide) (e7)) ?_
  refine J.tr (s_iconst (q := 60) (v := 1) dX8_keep_59 rfl (by decide)) ?_
  refine J.tr (s_iadd (q := 61) dX8_keep_60 rfl) ?_
  refine J.tr (s_imul (q := 62) dX8_keep_61 rfl) ?_
  refine J.tr (s_iload (q := 64) dX8_keep_62 rfl rfl) ?_
  refine J.tr (s_iadd (q := 65) dX8_keep_64 rfl) ?_
  refine J.tr (s_nmi en1) ?_
  refine J.tr (s_lald (q := 66) dX8_keep_65 rfl (ha2) i2) ?_
  refine J.tr (s_ls (ls' := [(0, .ref 65), (1, .int z), (2, .long m), (4, .int f), (5, .int k)]) [0, 1, 2, 3, 4] rfl) ?_
  exact J.rf

set_option maxRecDepth 20000 in
theorem j_X8_keep_d_1 {d : Nat} (hd : 0 ≤ d) (h : AH) (z : Int32) (m : Int64) (f : Int32) (k : Int32) (x : Nat) (y : Nat) : J false mX8_keep d 69 [(0, .ref 65), (1, .int z), (2, .long m), (4, .int f), (5, .int k)] [] h 15 [(0, .ref 65), (1, .int z), (2, .long m), (4, .int f), (5, .int (k + 1))] [] h := by
  refine J.tr (s_iinc (q := 72) (v := (k + 1)) (ls' := [(5, .int (k + 1)), (0, .ref 65), (1, .int z), (2, .long m), (4, .int f)]) dX8_keep_69 rfl (by decide) rfl rfl rfl) ?_
  refine J.tr (s_goto (q := 15) dX8_keep_72 (by decide)) ?_
  refine J.tr (s_ls (ls' := [(0, .ref 65), (1, .int z), (2, .long m), (4, .int f), (5, .int (k + 1))]) [1, 2, 3, 4, 0] rfl) ?_
  exact J.rf

set_option maxRecDepth 20000 in
theorem j_X8_lay_a_1 {d : Nat} (hd : 0 ≤ d) (h : AH) (k : Int32) (v : Int64) (x : Nat) (y : Nat) (F : Nat → Value) (ho : h.1 65 = ob 8 (fo 53 F)) (v15 : Int32) (e15 : F 15 = .int v15) (e14 : F 14 = .ref y) (n : Nat) (f : Nat → Int64) (ha : h.1 y = la n f) (c : ¬ v15 = (nI n)) (e13 : F 13 = .ref x) (n1 : Nat) (f1 : Nat → Int32) (ha1 : h.1 x = ia n1 f1) (i : vp_in v15 n1) (p : 0 < x) (i1 : vp_in v15 n) : E false mX8_lay d 0 [(0, .ref 65), (1, .int k), (2, .long v)] [] h (none) (hs (hs (hs h x (ia n1 (upd f1 v15.toNatClampNeg k))) y (la n (vp_updL f v15.toNatClampNeg v))) 65 (ob 8 (fo 53 (va_up F 15 (.int (v15 + 1)))))) := by
  refine E.st (s_aload_n (q := 1) dX8_lay_0 rfl rfl) ?_
  refine E.st (s_gf (q := 4) (v := .int v15) dX8_lay_1 rfl fX8_184.l (ho) (by decide) (e15)) ?_
  refine E.st (s_aload_n (q := 5) dX8_lay_4 rfl rfl) ?_
  refine E.st (s_gf (q := 8) (v := .ref y) dX8_lay_5 rfl fX8_44.l (ho) (by decide) (e14)) ?_
  refine E.st (s_alenL (q := 9) dX8_lay_8 rfl (ha) rfl) ?_
  refine E.st (s_icmp_ne_t (q := 86) dX8_lay_9 (by decide) c) ?_
  refine E.st (s_aload_n (q := 87) dX8_lay_86 rfl rfl) ?_
  refine E.st (s_gf (q := 90) (v := .ref x) dX8_lay_87 rfl fX8_41.l (ho) (by decide) (e13)) ?_
  refine E.st (s_aload_n (q := 91) dX8_lay_90 rfl rfl) ?_
  refine E.st (s_gf (q := 94) (v := .int v15) dX8_lay_91 rfl fX8_184.l (ho) (by decide) (e15)) ?_
  refine E.st (s_iload_n (q := 95) dX8_lay_94 rfl rfl) ?_
  refine E.st (s_iast (q := 96) dX8_lay_95 rfl p (ha1) i) ?_
  refine E.st (s_aload_n (q := 97) dX8_lay_96 rfl rfl) ?_
  refine E.st (s_gf (q := 100) (v := .ref y) dX8_lay_97 rfl fX8_44.l ((hs_ne (ne_oi ho ha1)).trans (ho)) (by decide) (e14)) ?_
  refine E.st (s_aload_n (q := 101) dX8_lay_100 rfl rfl) ?_
  refine E.st (s_gf (q := 104) (v := .int v15) dX8_lay_101 rfl fX8_184.l ((hs_ne (ne_oi ho ha1)).trans (ho)) (by decide) (e15)) ?_
  refine E.st (s_lload_n (q := 105) dX8_lay_104 rfl rfl) ?_
  refine E.st (s_last (q := 106) dX8_lay_105 rfl ((hs_ne (Ne.symm (ne_il ha1 ha))).trans (ha)) i1) ?_
  refine E.st (s_aload_n (q := 107) dX8_lay_106 rfl rfl) ?_
  refine E.st (s_dup (q := 108) dX8_lay_107 rfl rfl) ?_
  refine E.st (s_gf (q := 111) (v := .int v15) dX8_lay_108 rfl fX8_184.l ((hs_ne (ne_ol ho ha)).trans ((hs_ne (ne_oi ho ha1)).trans (ho))) (by decide) (e15)) ?_
  refine E.st (s_iconst (q := 112) (v := 1) dX8_lay_111 rfl (by decide)) ?_
  refine E.st (s_iadd (q := 113) dX8_lay_112 rfl) ?_
  refine E.st (s_pf (q := 116) dX8_lay_113 rfl fX8_184 ((hs_ne (ne_ol ho ha)).trans ((hs_ne (ne_oi ho ha1)).trans (ho))) (by decide) (fun _ => ⟨rfl, rfl⟩)) ?_
  exact E.v dX8_lay_116 rfl rfl rfl

set_option maxRecDepth 20000 in
theorem j_X8_lay_a_2 {d : Nat} (hd : 0 ≤ d) (h : AH) (k : Int32) (v : Int64) (x : Nat) (y : Nat) (F : Nat → Value) (ho : h.1 65 = ob 8 (fo 53 F)) (v15 : Int32) (e15 : F 15 = .int v15) (e14 : F 14 = .ref y) (n : Nat) (f : Nat → Int64) (ha : h.1 y = la n f) (c : v15 = (nI n)) (w : Int32) (en : (2 * v15) = w) (c1 : ¬ w < 0) (c2 : (w.toNatClampNeg) ≤ 1000000) (le : 65 ≤ h.2.1) (w1 : Int32) (en1 : (2 * v15) = w1) (c3 : ¬ w1 < 0) (c4 : (w1.toNatClampNeg) ≤ 1000000) : J false mX8_lay d 0 [(0, .ref 65), (1, .int k), (2, .long v)] [] h 35 [(0, .ref 65), (1, .int k), (2, .long v), (4, .ref (h.2.1 + 1)), (5, .ref (h.2.1 + 2)), (6, .int 0)] [] (hw (hw h (ia (w.toNatClampNeg) (fun _ => 0)) (w.toNatClampNeg)) (la (w1.toNatClampNeg) (fun _ => 0)) (w1.toNatClampNeg)) := by
  refine J.tr (s_aload_n (q := 1) dX8_lay_0 rfl rfl) ?_
  refine J.tr (s_gf (q := 4) (v := .int v15) dX8_lay_1 rfl fX8_184.l (ho) (by decide) (e15)) ?_
  refine J.tr (s_aload_n (q := 5) dX8_lay_4 rfl rfl) ?_
  refine J.tr (s_gf (q := 8) (v := .ref y) dX8_lay_5 rfl fX8_44.l (ho) (by decide) (e14)) ?_
  refine J.tr (s_alenL (q := 9) dX8_lay_8 rfl (ha) rfl) ?_
  refine J.tr (s_icmp_ne_f (q := 12) (tg := 86) dX8_lay_9 (by decide) rfl c) ?_
  refine J.tr (s_iconst (q := 13) (v := 2) dX8_lay_12 rfl (by decide)) ?_
  refine J.tr (s_aload_n (q := 14) dX8_lay_13 rfl rfl) ?_
  refine J.tr (s_gf (q := 17) (v := .int v15) dX8_lay_14 rfl fX8_184.l (ho) (by decide) (e15)) ?_
  refine J.tr (s_imul (q := 18) dX8_lay_17 rfl) ?_
  refine J.tr (s_nmi en) ?_
  refine J.tr (s_newI (q := 20) (N := (w.toNatClampNeg)) dX8_lay_18 rfl c1 rfl c2) ?_
  refine J.tr (s_astore (q := 22) (ls' := [(4, .ref (h.2.1 + 1)), (0, .ref 65), (1, .int k), (2, .long v)]) dX8_lay_20 rfl (by decide) rfl) ?_
  refine J.tr (s_iconst (q := 23) (v := 2) dX8_lay_22 rfl (by decide)) ?_
  refine J.tr (s_aload_n (q := 24) dX8_lay_23 rfl rfl) ?_
  refine J.tr (s_gf (q := 27) (v := .int v15) dX8_lay_24 rfl fX8_184.l ((hw_ne (by show 65 ≤ h.2.1 + 0; have := le; omega)).trans (ho)) (by decide) (e15)) ?_
  refine J.tr (s_imul (q := 28) dX8_lay_27 rfl) ?_
  refine J.tr (s_nmi en1) ?_
  refine J.tr (s_newL (q := 30) (N := (w1.toNatClampNeg)) dX8_lay_28 rfl c3 rfl c4) ?_
  refine J.tr (s_astore (q := 32) (ls' := [(5, .ref (h.2.1 + 2)), (4, .ref (h.2.1 + 1)), (0, .ref 65), (1, .int k), (2, .long v)]) dX8_lay_30 rfl (by decide) rfl) ?_
  refine J.tr (s_iconst (q := 33) (v := 0) dX8_lay_32 rfl (by decide)) ?_
  refine J.tr (s_istore (q := 35) (ls' := [(6, .int 0), (5, .ref (h.2.1 + 2)), (4, .ref (h.2.1 + 1)), (0, .ref 65), (1, .int k), (2, .long v)]) dX8_lay_33 rfl (by decide) rfl) ?_
  refine J.tr (s_ls (ls' := [(0, .ref 65), (1, .int k), (2, .long v), (4, .ref (h.2.1 + 1)), (5, .ref (h.2.1 + 2)), (6, .int 0)]) [3, 4, 5, 2, 1, 0] rfl) ?_
  exact J.rf

set_option maxRecDepth 20000 in
theorem j_X8_lay_b_1 {d : Nat} (hd : 0 ≤ d) (h : AH) (k : Int32) (v : Int64) (p : Nat) (q : Nat) (i : Int32) (x : Nat) (y : Nat) (F : Nat → Value) (ho : h.1 65 = ob 8 (fo 53 F)) (v15 : Int32) (e15 : F 15 = .int v15) (c : v15 ≤ i) (n : Nat) (f : Nat → Int32) (ha : h.1 p = ia n f) (i1 : vp_in v15 n) (p1 : 0 < p) (n1 : Nat) (f1 : Nat → Int64) (ha1 : h.1 q = la n1 f1) (i2 : vp_in v15 n1) : E false mX8_lay d 35 [(0, .ref 65), (1, .int k), (2, .long v), (4, .ref p), (5, .ref q), (6, .int i)] [] h (none) (hs (hs (hs (hs (hs h 65 (ob 8 (fo 53 (va_up F 13 (.ref p))))) 65 (ob 8 (fo 53 (va_up (va_up F 13 (.ref p)) 14 (.ref q))))) p (ia n (upd f v15.toNatClampNeg k))) q (la n1 (vp_updL f1 v15.toNatClampNeg v))) 65 (ob 8 (fo 53 (va_up (va_up (va_up F 13 (.ref p)) 14 (.ref q)) 15 (.int (v15 + 1)))))) := by
  refine E.st (s_iload (q := 37) dX8_lay_35 rfl rfl) ?_
  refine E.st (s_aload_n (q := 38) dX8_lay_37 rfl rfl) ?_
  refine E.st (s_gf (q := 41) (v := .int v15) dX8_lay_38 rfl fX8_184.l (ho) (by decide) (e15)) ?_
  refine E.st (s_icmp_ge_t (q := 74) dX8_lay_41 (by decide) c) ?_
  refine E.st (s_aload_n (q := 75) dX8_lay_74 rfl rfl) ?_
  refine E.st (s_aload (q := 77) dX8_lay_75 rfl rfl) ?_
  refine E.st (s_pf (q := 80) dX8_lay_77 rfl fX8_41 (ho) (by decide) (fun _ => ⟨rfl, rfl⟩)) ?_
  refine E.st (s_aload_n (q := 81) dX8_lay_80 rfl rfl) ?_
  refine E.st (s_aload (q := 83) dX8_lay_81 rfl rfl) ?_
  refine E.st (s_pf (q := 86) dX8_lay_83 rfl fX8_44 (hs_eq) (by decide) (fun _ => ⟨rfl, rfl⟩)) ?_
  refine E.st (s_aload_n (q := 87) dX8_lay_86 rfl rfl) ?_
  refine E.st (s_gf (q := 90) (v := .ref p) dX8_lay_87 rfl fX8_41.l (hs_eq) (by decide) ((up_ne (by decide)).trans (up_eq))) ?_
  refine E.st (s_aload_n (q := 91) dX8_lay_90 rfl rfl) ?_
  refine E.st (s_gf (q := 94) (v := .int v15) dX8_lay_91 rfl fX8_184.l (hs_eq) (by decide) ((up_ne (by decide)).trans ((up_ne (by decide)).trans (e15)))) ?_
  refine E.st (s_iload_n (q := 95) dX8_lay_94 rfl rfl) ?_
  refine E.st (s_iast (q := 96) dX8_lay_95 rfl p1 ((hs_ne (Ne.symm (ne_oi ho ha))).trans ((hs_ne (Ne.symm (ne_oi ho ha))).trans (ha))) i1) ?_
  refine E.st (s_aload_n (q := 97) dX8_lay_96 rfl rfl) ?_
  refine E.st (s_gf (q := 100) (v := .ref q) dX8_lay_97 rfl fX8_44.l ((hs_ne (ne_oi ho ha)).trans (hs_eq)) (by decide) (up_eq)) ?_
  refine E.st (s_aload_n (q := 101) dX8_lay_100 rfl rfl) ?_
  refine E.st (s_gf (q := 104) (v := .int v15) dX8_lay_101 rfl fX8_184.l ((hs_ne (ne_oi ho ha)).trans (hs_eq)) (by decide) ((up_ne (by decide)).trans ((up_ne (by decide)).trans (e15)))) ?_
  refine E.st (s_lload_n (q := 105) dX8_lay_104 rfl rfl) ?_
  refine E.st (s_last (q := 106) dX8_lay_105 rfl ((hs_ne (Ne.symm (ne_il ha ha1))).trans ((hs_ne (Ne.symm (ne_ol ho ha1))).trans ((hs_ne (Ne.symm (ne_ol ho ha1))).trans (ha1)))) i2) ?_
  refine E.st (s_aload_n (q := 107) dX8_lay_106 rfl rfl) ?_
  refine E.st (s_dup (q := 108) dX8_lay_107 rfl rfl) ?_
  refine E.st (s_gf (q := 111) (v := .int v15) dX8_lay_108 rfl fX8_184.l ((hs_ne (ne_ol ho ha1)).trans ((hs_ne (ne_oi ho ha)).trans (hs_eq))) (by decide) ((up_ne (by decide)).trans ((up_ne (by decide)).trans (e15)))) ?_
  refine E.st (s_iconst (q := 112) (v := 1) dX8_lay_111 rfl (by decide)) ?_
  refine E.st (s_iadd (q := 113) dX8_lay_112 rfl) ?_
  refine E.st (s_pf (q := 116) dX8_lay_113 rfl fX8_184 ((hs_ne (ne_ol ho ha1)).trans ((hs_ne (ne_oi ho ha)).trans (hs_eq))) (by decide) (fun _ => ⟨rfl, rfl⟩)) ?_
  exact E.v dX8_lay_116 rfl rfl rfl

set_option maxRecDepth 20000 in
theorem j_X8_lay_b_2 {d : Nat} (hd : 0 ≤ d) (h : AH) (k : Int32) (v : Int64) (p : Nat) (q : Nat) (i : Int32) (x : Nat) (y : Nat) (F : Nat → Value) (ho : h.1 65 = ob 8 (fo 53 F)) (v15 : Int32) (e15 : F 15 = .int v15) (c : ¬ (v15 ≤ i)) (e13 : F 13 = .ref x) (n : Nat) (f : Nat → Int32) (ha : h.1 x = ia n f) (i1 : vp_in i n) (p1 : 0 < x) (n1 : Nat) (f1 : Nat → Int32) (ha1 : h.1 p = ia n1 f1) (i2 : vp_in i n1) (p2 : 0 < p) (e14 : F 14 = .ref y) (n2 : Nat) (f2 : Nat → Int64) (ha2 : h.1 y = la n2 f2) (i3 : vp_in i n2) (n3 : Nat) (f3 : Nat → Int64) (ha3 : h.1 q = la n3 f3) (i4 : vp_in i n3) : J false mX8_lay d 35 [(0, .ref 65), (1, .int k), (2, .long v), (4, .ref p), (5, .ref q), (6, .int i)] [] h 35 [(0, .ref 65), (1, .int k), (2, .long v), (4, .ref p), (5, .ref q), (6, .int (i + 1))] [] (hs (hs h p (ia n1 (upd f1 i.toNatClampNeg (f i.toNatClampNeg)))) q (la n3 (vp_updL f3 i.toNatClampNeg (f2 i.toNatClampNeg)))) := by
  refine J.tr (s_iload (q := 37) dX8_lay_35 rfl rfl) ?_
  refine J.tr (s_aload_n (q := 38) dX8_lay_37 rfl rfl) ?_
  refine J.tr (s_gf (q := 41) (v := .int v15) dX8_lay_38 rfl fX8_184.l (ho) (by decide) (e15)) ?_
  refine J.tr (s_icmp_ge_f (q := 44) (tg := 74) dX8_lay_41 (by decide) rfl c) ?_
  refine J.tr (s_aload (q := 46) dX8_lay_44 rfl rfl) ?_
  refine J.tr (s_iload (q := 48) dX8_lay_46 rfl rfl) ?_
  refine J.tr (s_aload_n (q := 49) dX8_lay_48 rfl rfl) ?_
  refine J.tr (s_gf (q := 52) (v := .ref x) dX8_lay_49 rfl fX8_41.l (ho) (by decide) (e13)) ?_
  refine J.tr (s_iload (q := 54) dX8_lay_52 rfl rfl) ?_
  refine J.tr (s_iald (q := 55) dX8_lay_54 rfl p1 (ha) i1) ?_
  refine J.tr (s_iast (q := 56) dX8_lay_55 rfl p2 (ha1) i2) ?_
  refine J.tr (s_aload (q := 58) dX8_lay_56 rfl rfl) ?_
  refine J.tr (s_iload (q := 60) dX8_lay_58 rfl rfl) ?_
  refine J.tr (s_aload_n (q := 61) dX8_lay_60 rfl rfl) ?_
  refine J.tr (s_gf (q := 64) (v := .ref y) dX8_lay_61 rfl fX8_44.l ((hs_ne (ne_oi ho ha1)).trans (ho)) (by decide) (e14)) ?_
  refine J.tr (s_iload (q := 66) dX8_lay_64 rfl rfl) ?_
  refine J.tr (s_lald (q := 67) dX8_lay_66 rfl ((hs_ne (Ne.symm (ne_il ha1 ha2))).trans (ha2)) i3) ?_
  refine J.tr (s_last (q := 68) dX8_lay_67 rfl ((hs_ne (Ne.symm (ne_il ha1 ha3))).trans (ha3)) i4) ?_
  refine J.tr (s_iinc (q := 71) (v := (i + 1)) (ls' := [(6, .int (i + 1)), (0, .ref 65), (1, .int k), (2, .long v), (4, .ref p), (5, .ref q)]) dX8_lay_68 rfl (by decide) rfl rfl rfl) ?_
  refine J.tr (s_goto (q := 35) dX8_lay_71 (by decide)) ?_
  refine J.tr (s_ls (ls' := [(0, .ref 65), (1, .int k), (2, .long v), (4, .ref p), (5, .ref q), (6, .int (i + 1))]) [1, 2, 3, 4, 5, 0] rfl) ?_
  exact J.rf
