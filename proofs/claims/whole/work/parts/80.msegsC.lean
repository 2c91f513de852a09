set_option maxRecDepth 20000 in
theorem j_X8_go_a_1 {d : Nat} (hd : 0 ≤ d) (h : AH) (s : Int32) (x : Nat) (y : Nat) (F : Nat → Value) (ho : h.1 65 = ob 8 (fo 53 F)) (e8 : F 8 = .ref 71) (n : Nat) (f : Nat → Int32) (ha : h.1 71 = ia n f) (i : vp_in 0 n) (e17 : F 17 = .ref 79) (n1 : Nat) (f1 : Nat → Int32) (ha1 : h.1 79 = ia n1 f1) (i1 : vp_in 0 n1) : J false mX8_go d 0 [(0, .ref 65), (1, .int s)] [] h 35 [(0, .ref 65), (1, .int s)] [.ref 65] (hs (hs (hs (hs (hs (hs h 65 (ob 8 (fo 53 (va_up F 7 (.int 0))))) 71 (ia n (upd f (0 : Int32).toNatClampNeg 0))) 65 (ob 8 (fo 53 (va_up (va_up F 7 (.int 0)) 25 (.int 0))))) 65 (ob 8 (fo 53 (va_up (va_up (va_up F 7 (.int 0)) 25 (.int 0)) 15 (.int 0))))) 65 (ob 8 (fo 53 (va_up (va_up (va_up (va_up F 7 (.int 0)) 25 (.int 0)) 15 (.int 0)) 26 (.int 0))))) 79 (ia n1 (upd f1 (0 : Int32).toNatClampNeg s))) := by
  refine J.tr (s_aload_n (q := 1) dX8_go_0 rfl rfl) ?_
  refine J.tr (s_iconst (q := 2) (v := 0) dX8_go_1 rfl (by decide)) ?_
  refine J.tr (s_pf (q := 5) dX8_go_2 rfl fX8_119 (ho) (by decide) (fun _ => ⟨rfl, rfl⟩)) ?_
  refine J.tr (s_aload_n (q := 6) dX8_go_5 rfl rfl) ?_
  refine J.tr (s_gf (q := 9) (v := .ref 71) dX8_go_6 rfl fX8_26.l (hs_eq) (by decide) ((up_ne (by decide)).trans (e8))) ?_
  refine J.tr (s_iconst (q := 10) (v := 0) dX8_go_9 rfl (by decide)) ?_
  refine J.tr (s_iconst (q := 11) (v := 0) dX8_go_10 rfl (by decide)) ?_
  refine J.tr (s_iast (q := 12) dX8_go_11 rfl (by decide) ((hs_ne (by decide)).trans (ha)) i) ?_
  refine J.tr (s_aload_n (q := 13) dX8_go_12 rfl rfl) ?_
  refine J.tr (s_iconst (q := 14) (v := 0) dX8_go_13 rfl (by decide)) ?_
  refine J.tr (s_pf (q := 17) dX8_go_14 rfl fX8_135 ((hs_ne (by decide)).trans (hs_eq)) (by decide) (fun _ => ⟨rfl, rfl⟩)) ?_
  refine J.tr (s_aload_n (q := 18) dX8_go_17 rfl rfl) ?_
  refine J.tr (s_iconst (q := 19) (v := 0) dX8_go_18 rfl (by decide)) ?_
  refine J.tr (s_pf (q := 22) dX8_go_19 rfl fX8_184 (hs_eq) (by decide) (fun _ => ⟨rfl, rfl⟩)) ?_
  refine J.tr (s_aload_n (q := 23) dX8_go_22 rfl rfl) ?_
  refine J.tr (s_iconst (q := 24) (v := 0) dX8_go_23 rfl (by decide)) ?_
  refine J.tr (s_pf (q := 27) dX8_go_24 rfl fX8_126 (hs_eq) (by decide) (fun _ => ⟨rfl, rfl⟩)) ?_
  refine J.tr (s_aload_n (q := 28) dX8_go_27 rfl rfl) ?_
  refine J.tr (s_gf (q := 31) (v := .ref 79) dX8_go_28 rfl fX8_50.l (hs_eq) (by decide) ((up_ne (by decide)).trans ((up_ne (by decide)).trans ((up_ne (by decide)).trans ((up_ne (by decide)).trans (e17)))))) ?_
  refine J.tr (s_iconst (q := 32) (v := 0) dX8_go_31 rfl (by decide)) ?_
  refine J.tr (s_iload_n (q := 33) dX8_go_32 rfl rfl) ?_
  refine J.tr (s_iast (q := 34) dX8_go_33 rfl (by decide) ((hs_ne (by decide)).trans ((hs_ne (by decide)).trans ((hs_ne (by decide)).trans ((hs_ne (by decide)).trans ((hs_ne (by decide)).trans (ha1)))))) i1) ?_
  refine J.tr (s_aload_n (q := 35) dX8_go_34 rfl rfl) ?_
  refine J.tr (s_ls (ls' := [(0, .ref 65), (1, .int s)]) [0, 1] rfl) ?_
  exact J.rf

set_option maxRecDepth 20000 in
theorem j_X8_go_b_1 {d : Nat} (hd : 0 ≤ d) (h : AH) (s : Int32) (x : Nat) (y : Nat) (F : Nat → Value) (ho : h.1 65 = ob 8 (fo 53 F)) (v31 : Int32) (e31 : F 31 = .int v31) : J false mX8_go d 38 [(0, .ref 65), (1, .int s)] [] h 43 [(0, .ref 65), (1, .int s)] [.int v31, .ref 65] h := by
  refine J.tr (s_aload_n (q := 39) dX8_go_38 rfl rfl) ?_
  refine J.tr (s_aload_n (q := 40) dX8_go_39 rfl rfl) ?_
  refine J.tr (s_gf (q := 43) (v := .int v31) dX8_go_40 rfl fX8_246.l (ho) (by decide) (e31)) ?_
  refine J.tr (s_ls (ls' := [(0, .ref 65), (1, .int s)]) [0, 1] rfl) ?_
  exact J.rf

set_option maxRecDepth 20000 in
theorem j_X8_go_c_1 {d : Nat} (hd : 0 ≤ d) (h : AH) (s : Int32) (x : Nat) (y : Nat) : E false mX8_go d 46 [(0, .ref 65), (1, .int s)] [] h (none) h := by
  exact E.v dX8_go_46 rfl rfl rfl

set_option maxRecDepth 20000 in
theorem j_X8_next_a_1 {d : Nat} (hd : 1 ≤ d) (h : AH) (x : Nat) (y : Nat) (F : Nat → Value) (ho : h.1 65 = ob 8 (fo 53 F)) (v29 : Int32) (e29 : F 29 = .int v29) (c : ¬ v29 = 0) (v30 : Int32) (e30 : F 30 = .int v30) (c1 : v30 = 0) : J false mX8_next d 0 [(0, .ref 65)] [] h 30 [(0, .ref 65)] [] (hs h 65 (ob 8 (fo 53 (va_up F 0 (.int 0))))) := by
  refine J.tr (s_aload_n (q := 1) dX8_next_0 rfl rfl) ?_
  refine J.tr (s_aload_n (q := 2) dX8_next_1 rfl rfl) ?_
  refine J.tr (s_gf (q := 5) (v := .int v29) dX8_next_2 rfl fX8_203.l (ho) (by decide) (e29)) ?_
  refine J.tr (s_if_ne_t (q := 12) dX8_next_5 (by decide) c) ?_
  refine J.tr (s_iconst (q := 13) (v := 0) dX8_next_12 rfl (by decide)) ?_
  refine J.tr (p2 := 16) (l2 := [(0, .ref 65)]) (s2 := [.int (0 : Int32)]) (h2 := (hs h 65 (ob 8 (fo 53 (va_up F 0 (.int 0)))))) (s_invv (K := mX8_refused) (o := 65) (as := [.int 0]) (rest := []) (v := some (.int (0 : Int32))) dX8_next_13 rfl lX8_112 (by omega) rfl (Nat.le_of_ble_eq_true rfl) rfl (Nat.le_of_ble_eq_true rfl) (ho) (p_X8_refused_1 (d := 0) (Nat.le_refl _) h 65 (0 : Int32) (by decide) F ho rfl) (fun h => nomatch h)) ?_
  refine J.tr (s_if_eq_t (q := 21) dX8_next_16 (by decide) (by decide)) ?_
  refine J.tr (s_aload_n (q := 22) dX8_next_21 rfl rfl) ?_
  refine J.tr (s_gf (q := 25) (v := .int v30) dX8_next_22 rfl fX8_207.l (hs_eq) (by decide) ((up_ne (by decide)).trans (e30))) ?_
  refine J.tr (s_if_eq_t (q := 30) dX8_next_25 (by decide) c1) ?_
  refine J.tr (s_ls (ls' := [(0, .ref 65)]) [0] rfl) ?_
  exact J.rf

set_option maxRecDepth 20000 in
theorem j_X8_next_a_2 {d : Nat} (hd : 1 ≤ d) (h : AH) (x : Nat) (y : Nat) (F : Nat → Value) (ho : h.1 65 = ob 8 (fo 53 F)) (v29 : Int32) (e29 : F 29 = .int v29) (c : ¬ v29 = 0) (v30 : Int32) (e30 : F 30 = .int v30) (c1 : ¬ (v30 = 0)) : E false mX8_next d 0 [(0, .ref 65)] [] h (some (.int 2)) (hs h 65 (ob 8 (fo 53 (va_up F 0 (.int 0))))) := by
  refine E.st (s_aload_n (q := 1) dX8_next_0 rfl rfl) ?_
  refine E.st (s_aload_n (q := 2) dX8_next_1 rfl rfl) ?_
  refine E.st (s_gf (q := 5) (v := .int v29) dX8_next_2 rfl fX8_203.l (ho) (by decide) (e29)) ?_
  refine E.st (s_if_ne_t (q := 12) dX8_next_5 (by decide) c) ?_
  refine E.st (s_iconst (q := 13) (v := 0) dX8_next_12 rfl (by decide)) ?_
  refine E.st (p2 := 16) (l2 := [(0, .ref 65)]) (s2 := [.int (0 : Int32)]) (h2 := (hs h 65 (ob 8 (fo 53 (va_up F 0 (.int 0)))))) (s_invv (K := mX8_refused) (o := 65) (as := [.int 0]) (rest := []) (v := some (.int (0 : Int32))) dX8_next_13 rfl lX8_112 (by omega) rfl (Nat.le_of_ble_eq_true rfl) rfl (Nat.le_of_ble_eq_true rfl) (ho) (p_X8_refused_1 (d := 0) (Nat.le_refl _) h 65 (0 : Int32) (by decide) F ho rfl) (fun h => nomatch h)) ?_
  refine E.st (s_if_eq_t (q := 21) dX8_next_16 (by decide) (by decide)) ?_
  refine E.st (s_aload_n (q := 22) dX8_next_21 rfl rfl) ?_
  refine E.st (s_gf (q := 25) (v := .int v30) dX8_next_22 rfl fX8_207.l (hs_eq) (by decide) ((up_ne (by decide)).trans (e30))) ?_
  refine E.st (s_if_eq_f (q := 28) (tg := 30) dX8_next_25 (by decide) rfl c1) ?_
  refine E.st (s_iconst (q := 29) (v := 2) dX8_next_28 rfl (by decide)) ?_
  exact E.i dX8_next_29 rfl rfl rfl rfl

set_option maxRecDepth 20000 in
theorem j_X8_next_a_3 {d : Nat} (hd : 1 ≤ d) (h : AH) (x : Nat) (y : Nat) (F : Nat → Value) (ho : h.1 65 = ob 8 (fo 53 F)) (v29 : Int32) (e29 : F 29 = .int v29) (c : v29 = 0) : E false mX8_next d 0 [(0, .ref 65)] [] h (some (.int 0)) (hs h 65 (ob 8 (fo 53 (va_up F 0 (.int 1))))) := by
  refine E.st (s_aload_n (q := 1) dX8_next_0 rfl rfl) ?_
  refine E.st (s_aload_n (q := 2) dX8_next_1 rfl rfl) ?_
  refine E.st (s_gf (q := 5) (v := .int v29) dX8_next_2 rfl fX8_203.l (ho) (by decide) (e29)) ?_
  refine E.st (s_if_ne_f (q := 8) (tg := 12) dX8_next_5 (by decide) rfl c) ?_
  refine E.st (s_iconst (q := 9) (v := 1) dX8_next_8 rfl (by decide)) ?_
  refine E.st (s_goto (q := 13) dX8_next_9 (by decide)) ?_
  refine E.st (p2 := 16) (l2 := [(0, .ref 65)]) (s2 := [.int (1 : Int32)]) (h2 := (hs h 65 (ob 8 (fo 53 (va_up F 0 (.int 1)))))) (s_invv (K := mX8_refused) (o := 65) (as := [.int 1]) (rest := []) (v := some (.int (1 : Int32))) dX8_next_13 rfl lX8_112 (by omega) rfl (Nat.le_of_ble_eq_true rfl) rfl (Nat.le_of_ble_eq_true rfl) (ho) (p_X8_refused_2 (d := 0) (Nat.le_refl _) h 65 (1 : Int32) (by decide) F ho rfl) (fun h => nomatch h)) ?_
  refine E.st (s_if_eq_f (q := 19) (tg := 21) dX8_next_16 (by decide) rfl (by decide)) ?_
  refine E.st (s_iconst (q := 20) (v := 0) dX8_next_19 rfl (by decide)) ?_
  exact E.i dX8_next_20 rfl rfl rfl rfl

set_option maxRecDepth 20000 in
theorem j_X8_next_b_1 {d : Nat} (hd : 0 ≤ d) (h : AH) (x : Nat) (y : Nat) (F : Nat → Value) (ho : h.1 65 = ob 8 (fo 53 F)) (v37 : Int32) (e37 : F 37 = .int v37) (c : 0 < v37) (v42 : Int32) (e42 : F 42 = .int v42) (c1 : ¬ v42 = 200) : J false mX8_next d 30 [(0, .ref 65)] [] h 76 [(0, .ref 65)] [.ref 65] (hs h 65 (ob 8 (fo 53 (va_up F 42 (.int (v42 + 1)))))) := by
  refine J.tr (s_aload_n (q := 31) dX8_next_30 rfl rfl) ?_
  refine J.tr (s_gf (q := 34) (v := .int v37) dX8_next_31 rfl fX8_213.l (ho) (by decide) (e37)) ?_
  refine J.tr (s_if_gt_t (q := 48) dX8_next_34 (by decide) c) ?_
  refine J.tr (s_aload_n (q := 49) dX8_next_48 rfl rfl) ?_
  refine J.tr (s_gf (q := 52) (v := .int v42) dX8_next_49 rfl fX8_222.l (ho) (by decide) (e42)) ?_
  refine J.tr (s_sipush (q := 55) (v := 200) dX8_next_52 rfl (by decide)) ?_
  refine J.tr (s_icmp_ne_t (q := 65) dX8_next_55 (by decide) c1) ?_
  refine J.tr (s_aload_n (q := 66) dX8_next_65 rfl rfl) ?_
  refine J.tr (s_dup (q := 67) dX8_next_66 rfl rfl) ?_
  refine J.tr (s_gf (q := 70) (v := .int v42) dX8_next_67 rfl fX8_222.l (ho) (by decide) (e42)) ?_
  refine J.tr (s_iconst (q := 71) (v := 1) dX8_next_70 rfl (by decide)) ?_
  refine J.tr (s_iadd (q := 72) dX8_next_71 rfl) ?_
  refine J.tr (s_pf (q := 75) dX8_next_72 rfl fX8_222 (ho) (by decide) (fun _ => ⟨rfl, rfl⟩)) ?_
  refine J.tr (s_aload_n (q := 76) dX8_next_75 rfl rfl) ?_
  refine J.tr (s_ls (ls' := [(0, .ref 65)]) [0] rfl) ?_
  exact J.rf

set_option maxRecDepth 20000 in
theorem j_X8_next_b_2 {d : Nat} (hd : 0 ≤ d) (h : AH) (x : Nat) (y : Nat) (F : Nat → Value) (ho : h.1 65 = ob 8 (fo 53 F)) (v37 : Int32) (e37 : F 37 = .int v37) (c : 0 < v37) (v42 : Int32) (e42 : F 42 = .int v42) (c1 : v42 = 200) : E false mX8_next d 30 [(0, .ref 65)] [] h (some (.int 2)) (hs h 65 (ob 8 (fo 53 (va_up F 30 (.int 1))))) := by
  refine E.st (s_aload_n (q := 31) dX8_next_30 rfl rfl) ?_
  refine E.st (s_gf (q := 34) (v := .int v37) dX8_next_31 rfl fX8_213.l (ho) (by decide) (e37)) ?_
  refine E.st (s_if_gt_t (q := 48) dX8_next_34 (by decide) c) ?_
  refine E.st (s_aload_n (q := 49) dX8_next_48 rfl rfl) ?_
  refine E.st (s_gf (q := 52) (v := .int v42) dX8_next_49 rfl fX8_222.l (ho) (by decide) (e42)) ?_
  refine E.st (s_sipush (q := 55) (v := 200) dX8_next_52 rfl (by decide)) ?_
  refine E.st (s_icmp_ne_f (q := 58) (tg := 65) dX8_next_55 (by decide) rfl c1) ?_
  refine E.st (s_aload_n (q := 59) dX8_next_58 rfl rfl) ?_
  refine E.st (s_iconst (q := 60) (v := 1) dX8_next_59 rfl (by decide)) ?_
  refine E.st (s_pf (q := 63) dX8_next_60 rfl fX8_207 (ho) (by decide) (fun _ => ⟨rfl, rfl⟩)) ?_
  refine E.st (s_iconst (q := 64) (v := 2) dX8_next_63 rfl (by decide)) ?_
  exact E.i dX8_next_64 rfl rfl rfl rfl

set_option maxRecDepth 20000 in
theorem j_X8_next_b_3 {d : Nat} (hd : 0 ≤ d) (h : AH) (x : Nat) (y : Nat) (F : Nat → Value) (ho : h.1 65 = ob 8 (fo 53 F)) (v37 : Int32) (e37 : F 37 = .int v37) (c : ¬ (0 < v37)) (v41 : Int32) (e41 : F 41 = .int v41) (v40 : Int32) (e40 : F 40 = .int v40) (c1 : v40 ≤ v41) : E false mX8_next d 30 [(0, .ref 65)] [] h (some (.int 0)) h := by
  refine E.st (s_aload_n (q := 31) dX8_next_30 rfl rfl) ?_
  refine E.st (s_gf (q := 34) (v := .int v37) dX8_next_31 rfl fX8_213.l (ho) (by decide) (e37)) ?_
  refine E.st (s_if_gt_f (q := 37) (tg := 48) dX8_next_34 (by decide) rfl c) ?_
  refine E.st (s_aload_n (q := 38) dX8_next_37 rfl rfl) ?_
  refine E.st (s_gf (q := 41) (v := .int v41) dX8_next_38 rfl fX8_219.l (ho) (by decide) (e41)) ?_
  refine E.st (s_aload_n (q := 42) dX8_next_41 rfl rfl) ?_
  refine E.st (s_gf (q := 45) (v := .int v40) dX8_next_42 rfl fX8_216.l (ho) (by decide) (e40)) ?_
  refine E.st (s_icmp_ge_t (q := 114) dX8_next_45 (by decide) c1) ?_
  refine E.st (s_iconst (q := 115) (v := 0) dX8_next_114 rfl (by decide)) ?_
  exact E.i dX8_next_115 rfl rfl rfl rfl

set_option maxRecDepth 20000 in
theorem j_X8_next_b_4 {d : Nat} (hd : 0 ≤ d) (h : AH) (x : Nat) (y : Nat) (F : Nat → Value) (ho : h.1 65 = ob 8 (fo 53 F)) (v37 : Int32) (e37 : F 37 = .int v37) (c : ¬ (0 < v37)) (v41 : Int32) (e41 : F 41 = .int v41) (v40 : Int32) (e40 : F 40 = .int v40) (c1 : ¬ (v40 ≤ v41)) (v42 : Int32) (e42 : F 42 = .int v42) (c2 : ¬ v42 = 200) : J false mX8_next d 30 [(0, .ref 65)] [] h 76 [(0, .ref 65)] [.ref 65] (hs h 65 (ob 8 (fo 53 (va_up F 42 (.int (v42 + 1)))))) := by
  refine J.tr (s_aload_n (q := 31) dX8_next_30 rfl rfl) ?_
  refine J.tr (s_gf (q := 34) (v := .int v37) dX8_next_31 rfl fX8_213.l (ho) (by decide) (e37)) ?_
  refine J.tr (s_if_gt_f (q := 37) (tg := 48) dX8_next_34 (by decide) rfl c) ?_
  refine J.tr (s_aload_n (q := 38) dX8_next_37 rfl rfl) ?_
  refine J.tr (s_gf (q := 41) (v := .int v41) dX8_next_38 rfl fX8_219.l (ho) (by decide) (e41)) ?_
  refine J.tr (s_aload_n (q := 42) dX8_next_41 rfl rfl) ?_
  refine J.tr (s_gf (q := 45) (v := .int v40) dX8_next_42 rfl fX8_216.l (ho) (by decide) (e40)) ?_
  refine J.tr (s_icmp_ge_f (q := 48) (tg := 114) dX8_next_45 (by decide) rfl c1) ?_
  refine J.tr (s_aload_n (q := 49) dX8_next_48 rfl rfl) ?_
  refine J.tr (s_gf (q := 52) (v := .int v42) dX8_next_49 rfl fX8_222.l (ho) (by decide) (e42)) ?_
  refine J.tr (s_sipush (q := 55) (v := 200) dX8_next_52 rfl (by decide)) ?_
  refine J.tr (s_icmp_ne_t (q := 65) dX8_next_55 (by decide) c2) ?_
  refine J.tr (s_aload_n (q := 66) dX8_next_65 rfl rfl) ?_
  refine J.tr (s_dup (q := 67) dX8_next_66 rfl rfl) ?_
  refine J.tr (s_gf (q := 70) (v := .int v42) dX8_next_67 rfl fX8_222.l (ho) (by decide) (e42)) ?_
  refine J.tr (s_iconst (q := 71) (v := 1) dX8_next_70 rfl (by decide)) ?_
  refine J.tr (s_iadd (q := 72) dX8_next_71 rfl) ?_
  refine J.tr (s_pf (q := 75) dX8_next_72 rfl fX8_222 (ho) (by decide) (fun _ => ⟨rfl, rfl⟩)) ?_
  refine J.tr (s_aload_n (q := 76) dX8_next_75 rfl rfl) ?_
  refine J.tr (s_ls (ls' := [(0, .ref 65)]) [0] rfl) ?_
  exact J.rf

set_option maxRecDepth 20000 in
theorem j_X8_next_b_5 {d : Nat} (hd : 0 ≤ d) (h : AH) (x : Nat) (y : Nat) (F : Nat → Value) (ho : h.1 65 = ob 8 (fo 53 F)) (v37 : Int32) (e37 : F 37 = .int v37) (c : ¬ (0 < v37)) (v41 : Int32) (e41 : F 41 = .int v41) (v40 : Int32) (e40 : F 40 = .int v40) (c1 : ¬ (v40 ≤ v41)) (v42 : Int32) (e42 : F 42 = .int v42) (c2 : v42 = 200) : E false mX8_next d 30 [(0, .ref 65)] [] h (some (.int 2)) (hs h 65 (ob 8 (fo 53 (va_up F 30 (.int 1))))) := by
  refine E.st (s_aload_n (q := 31) dX8_next_30 rfl rfl) ?_
  refine E.st (s_gf (q := 34) (v := .int v37) dX8_next_31 rfl fX8_213.l (ho) (by decide) (e37)) ?_
  refine E.st (s_if_gt_f (q := 37) (tg := 48) dX8_next_34 (by decide) rfl c) ?_
  refine E.st (s_aload_n (q := 38) dX8_next_37 rfl rfl) ?_
  refine E.st (s_gf (q := 41) (v := .int v41) dX8_next_38 rfl fX8_219.l (ho) (by decide) (e41)) ?_
  refine E.st (s_aload_n (q := 42) dX8_next_41 rfl rfl) ?_
  refine E.st (s_gf (q := 45) (v := .int v40) dX8_next_42 rfl fX8_216.l (ho) (by decide) (e40)) ?_
  refine E.st (s_icmp_ge_f (q := 48) (tg := 114) dX8_next_45 (by decide) rfl c1) ?_
  refine E.st (s_aload_n (q := 49) dX8_next_48 rfl rfl) ?_
  refine E.st (s_gf (q := 52) (v := .int v42) dX8_next_49 rfl fX8_222.l (ho) (by decide) (e42)) ?_
  refine E.st (s_sipush (q := 55) (v := 200) dX8_next_52 rfl (by decide)) ?_
  refine E.st (s_icmp_ne_f (q := 58) (tg := 65) dX8_next_55 (by decide) rfl c2) ?_
  refine E.st (s_aload_n (q := 59) dX8_next_58 rfl rfl) ?_
  refine E.st (s_iconst (q := 60) (v := 1) dX8_next_59 rfl (by decide)) ?_
  refine E.st (s_pf (q := 63) dX8_next_60 rfl fX8_207 (ho) (by decide) (fun _ => ⟨rfl, rfl⟩)) ?_
  refine E.st (s_iconst (q := 64) (v := 2) dX8_next_63 rfl (by decide)) ?_
  exact E.i dX8_next_64 rfl rfl rfl rfl

set_option maxRecDepth 20000 in
theorem j_X8_next_c_1 {d : Nat} (hd : 0 ≤ d) (h : AH) (s : Int32) (x : Nat) (y : Nat) : J false mX8_next d 79 [(0, .ref 65)] [.int s] h 82 [(0, .ref 65), (1, .int s)] [.int s, .ref 65] h := by
  refine J.tr (s_istore_n (q := 80) (ls' := [(1, .int s), (0, .ref 65)]) dX8_next_79 rfl (by decide) rfl) ?_
  refine J.tr (s_aload_n (q := 81) dX8_next_80 rfl rfl) ?_
  refine J.tr (s_iload_n (q := 82) dX8_next_81 rfl rfl) ?_
  refine J.tr (s_ls (ls' := [(0, .ref 65), (1, .int s)]) [1, 0] rfl) ?_
  exact J.rf

set_option maxRecDepth 20000 in
theorem j_X8_next_d_1 {d : Nat} (hd : 0 ≤ d) (h : AH) (s : Int32) (x : Nat) (y : Nat) (F : Nat → Value) (ho : h.1 65 = ob 8 (fo 53 F)) (v26 : Int32) (e26 : F 26 = .int v26) (c : ¬ v26 = 3) : J false mX8_next d 85 [(0, .ref 65), (1, .int s)] [] h 103 [(0, .ref 65)] [.int s, .ref 65] h := by
  refine J.tr (s_aload_n (q := 86) dX8_next_85 rfl rfl) ?_
  refine J.tr (s_gf (q := 89) (v := .int v26) dX8_next_86 rfl fX8_126.l (ho) (by decide) (e26)) ?_
  refine J.tr (s_iconst (q := 90) (v := 3) dX8_next_89 rfl (by decide)) ?_
  refine J.tr (s_icmp_ne_t (q := 101) dX8_next_90 (by decide) c) ?_
  refine J.tr (s_aload_n (q := 102) dX8_next_101 rfl rfl) ?_
  refine J.tr (s_iload_n (q := 103) dX8_next_102 rfl rfl) ?_
  refine J.tr (s_ls (ls' := [(0, .ref 65)]) [0] rfl) ?_
  exact J.rf

set_option maxRecDepth 20000 in
theorem j_X8_next_d_2 {d : Nat} (hd : 0 ≤ d) (h : AH) (s : Int32) (x : Nat) (y : Nat) (F : Nat → Value) (ho : h.1 65 = ob 8 (fo 53 F)) (v26 : Int32) (e26 : F 26 = .int v26) (c : v26 = 3) : J false mX8_next d 85 [(0, .ref 65), (1, .int s)] [] h 95 [(0, .ref 65)] [.int s, .ref 65] h := by
  refine J.tr (s_aload_n (q := 86) dX8_next_85 rfl rfl) ?_
  refine J.tr (s_gf (q := 89) (v := .int v26) dX8_next_86 rfl fX8_126.l (ho) (by decide) (e26)) ?_
  refine J.tr (s_iconst (q := 90) (v := 3) dX8_next_89 rfl (by decide)) ?_
  refine J.tr (s_icmp_ne_f (q := 93) (tg := 101) dX8_next_90 (by decide) rfl c) ?_
  refine J.tr (s_aload_n (q := 94) dX8_next_93 rfl rfl) ?_
  refine J.tr (s_iload_n (q := 95) dX8_next_94 rfl rfl) ?_
  refine J.tr (s_ls (ls' := [(0, .ref 65)]) [0] rfl) ?_
  exact J.rf

set_option maxRecDepth 20000 in
theorem j_X8_next_e_1 {d : Nat} (hd : 0 ≤ d) (h : AH) (x : Nat) (y : Nat) : J false mX8_next d 98 [(0, .ref 65)] [] h 30 [(0, .ref 65)] [] h := by
  refine J.tr (s_goto (q := 111) dX8_next_98 (by decide)) ?_
  refine J.tr (s_goto (q := 30) dX8_next_111 (by decide)) ?_
  refine J.tr (s_ls (ls' := [(0, .ref 65)]) [0] rfl) ?_
  exact J.rf

set_option maxRecDepth 20000 in
theorem j_X8_next_f_1 {d : Nat} (hd : 0 ≤ d) (h : AH) (r : Int32) (x : Nat) (y : Nat) (c : r = 0) : J false mX8_next d 106 [(0, .ref 65)] [.int r] h 30 [(0, .ref 65)] [] h := by
  refine J.tr (s_if_eq_t (q := 111) dX8_next_106 (by decide) c) ?_
  refine J.tr (s_goto (q := 30) dX8_next_111 (by decide)) ?_
  refine J.tr (s_ls (ls' := [(0, .ref 65)]) [0] rfl) ?_
  exact J.rf

set_option maxRecDepth 20000 in
theorem j_X8_next_f_2 {d : Nat} (hd : 0 ≤ d) (h : AH) (r : Int32) (x : Nat) (y : Nat) (c : ¬ (r = 0)) : E false mX8_next d 106 [(0, .ref 65)] [.int r] h (some (.int 1)) h := by
  refine E.st (s_if_eq_f (q := 109) (tg := 111) dX8_next_106 (by decide) rfl c) ?_
  refine E.st (s_iconst (q := 110) (v := 1) dX8_next_109 rfl (by decide)) ?_
  exact E.i dX8_next_110 rfl rfl rfl rfl

set_option maxRecDepth 20000 in
theorem j_X8_fetch_a_1 {d : Nat} (hd : 0 ≤ d) (h : AH) (x : Nat) (y : Nat) (F : Nat → Value) (ho : h.1 65 = ob 8 (fo 53 F)) (v37 : Int32) (e37 : F 37 = .int v37) (c : ¬ v37 = 0) : J false mX8_fetch d 0 [(0, .ref 65)] [] h 89 [(0, .ref 65), (1, .int 0)] [] (hs h 65 (ob 8 (fo 53 (va_up F 37 (.int (v37 - 1)))))) := by
  refine J.tr (s_aload_n (q := 1) dX8_fetch_0 rfl rfl) ?_
  refine J.tr (s_gf (q := 4) (v := .int v37) dX8_fetch_1 rfl fX8_213.l (ho) (by decide) (e37)) ?_
  refine J.tr (s_if_ne_t (q := 77) dX8_fetch_4 (by decide) c) ?_
  refine J.tr (s_aload_n (q := 78) dX8_fetch_77 rfl rfl) ?_
  refine J.tr (s_dup (q := 79) dX8_fetch_78 rfl rfl) ?_
  refine J.tr (s_gf (q := 82) (v := .int v37) dX8_fetch_79 rfl fX8_213.l (ho) (by decide) (e37)) ?_
  refine J.tr (s_iconst (q := 83) (v := 1) dX8_fetch_82 rfl (by decide)) ?_
  refine J.tr (s_isub (q := 84) dX8_fetch_83 rfl) ?_
  refine J.tr (s_pf (q := 87) dX8_fetch_84 rfl fX8_213 (ho) (by decide) (fun _ => ⟨rfl, rfl⟩)) ?_
  refine J.tr (s_iconst (q := 88) (v := 0) dX8_fetch_87 rfl (by decide)) ?_
  refine J.tr (s_istore_n (q := 89) (ls' := [(1, .int 0), (0, .ref 65)]) dX8_fetch_88 rfl (by decide) rfl) ?_
  refine J.tr (s_ls (ls' := [(0, .ref 65), (1, .int 0)]) [1, 0] rfl) ?_
  exact J.rf

set_option maxRecDepth 20000 in
theorem j_X8_fetch_a_2 {d : Nat} (hd : 0 ≤ d) (h : AH) (x : Nat) (y : Nat) (F : Nat → Value) (ho : h.1 65 = ob 8 (fo 53 F)) (v37 : Int32) (e37 : F 37 = .int v37) (c : v37 = 0) (e39 : F 39 = .ref 90) (v41 : Int32) (e41 : F 41 = .int v41) (n : Nat) (f : Nat → Int32) (ha : h.1 90 = ia n f) (i : vp_in v41 n) (s : Int32) (en : (f v41.toNatClampNeg) = s) (v33 : Int32) (e33 : F 33 = .int v33) (c1 : ¬ v33 = 0) (w : Int32) (en1 : (s / v33) = w) : J false mX8_fetch d 0 [(0, .ref 65)] [] h 29 [(0, .ref 65), (1, .int s), (2, .int 0)] [] (hs h 65 (ob 8 (fo 53 (va_up F 34 (.int w))))) := by
  refine J.tr (s_aload_n (q := 1) dX8_fetch_0 rfl rfl) ?_
  refine J.tr (s_gf (q := 4) (v := .int v37) dX8_fetch_1 rfl fX8_213.l (ho) (by decide) (e37)) ?_
  refine J.tr (s_if_ne_f (q := 7) (tg := 77) dX8_fetch_4 (by decide) rfl c) ?_
  refine J.tr (s_aload_n (q := 8) dX8_fetch_7 rfl rfl) ?_
  refine J.tr (s_gf (q := 11) (v := .ref 90) dX8_fetch_8 rfl fX8_85.l (ho) (by decide) (e39)) ?_
  refine J.tr (s_aload_n (q := 12) dX8_fetch_11 rfl rfl) ?_
  refine J.tr (s_gf (q := 15) (v := .int v41) dX8_fetch_12 rfl fX8_219.l (ho) (by decide) (e41)) ?_
  refine J.tr (s_iald (q := 16) dX8_fetch_15 rfl (by decide) (ha) i) ?_
  refine J.tr (s_nmi en) ?_
  refine J.tr (s_istore_n (q := 17) (ls' := [(1, .int s), (0, .ref 65)]) dX8_fetch_16 rfl (by decide) rfl) ?_
  refine J.tr (s_aload_n (q := 18) dX8_fetch_17 rfl rfl) ?_
  refine J.tr (s_iload_n (q := 19) dX8_fetch_18 rfl rfl) ?_
  refine J.tr (s_aload_n (q := 20) dX8_fetch_19 rfl rfl) ?_
  refine J.tr (s_gf (q := 23) (v := .int v33) dX8_fetch_20 rfl fX8_252.l (ho) (by decide) (e33)) ?_
  refine J.tr (s_idiv (q := 24) dX8_fetch_23 rfl c1) ?_
  refine J.tr (s_nmi en1) ?_
  refine J.tr (s_pf (q := 27) dX8_fetch_24 rfl fX8_210 (ho) (by decide) (fun _ => ⟨rfl, rfl⟩)) ?_
  refine J.tr (s_iconst (q := 28) (v := 0) dX8_fetch_27 rfl (by decide)) ?_
  refine J.tr (s_istore_n (q := 29) (ls' := [(2, .int 0), (1, .int s), (0, .ref 65)]) dX8_fetch_28 rfl (by decide) rfl) ?_
  refine J.tr (s_ls (ls' := [(0, .ref 65), (1, .int s), (2, .int 0)]) [2, 1, 0] rfl) ?_
  exact J.rf

set_option maxRecDepth 20000 in
theorem j_X8_fetch_b_1 {d : Nat} (hd : 0 ≤ d) (h : AH) (s : Int32) (k : Int32) (x : Nat) (y : Nat) (c : s ≤ k) (F : Nat → Value) (ho : h.1 65 = ob 8 (fo 53 F)) (v41 : Int32) (e41 : F 41 = .int v41) : E false mX8_fetch d 29 [(0, .ref 65), (1, .int s), (2, .int k)] [] h (some (.int s)) (hs h 65 (ob 8 (fo 53 (va_up F 41 (.int (v41 + 1)))))) := by
  refine E.st (s_iload_n (q := 30) dX8_fetch_29 rfl rfl) ?_
  refine E.st (s_iload_n (q := 31) dX8_fetch_30 rfl rfl) ?_
  refine E.st (s_icmp_ge_t (q := 65) dX8_fetch_31 (by decide) c) ?_
  refine E.st (s_aload_n (q := 66) dX8_fetch_65 rfl rfl) ?_
  refine E.st (s_dup (q := 67) dX8_fetch_66 rfl rfl) ?_
  refine E.st (s_gf (q := 70) (v := .int v41) dX8_fetch_67 rfl fX8_219.l (ho) (by decide) (e41)) ?_
  refine E.st (s_iconst (q := 71) (v := 1) dX8_fetch_70 rfl (by decide)) ?_
  refine E.st (s_iadd (q := 72) dX8_fetch_71 rfl) ?_
  refine E.st (s_pf (q := 75) dX8_fetch_72 rfl fX8_219 (ho) (by decide) (fun _ => ⟨rfl, rfl⟩)) ?_
  refine E.st (s_iload_n (q := 76) dX8_fetch_75 rfl rfl) ?_
  exact E.i dX8_fetch_76 rfl rfl rfl rfl

set_option maxRecDepth 20000 in
theorem j_X8_fetch_b_2 {d : Nat} (hd : 0 ≤ d) (h : AH) (s : Int32) (k : Int32) (x : Nat) (y : Nat) (c : ¬ (s ≤ k)) (F : Nat → Value) (ho : h.1 65 = ob 8 (fo 53 F)) (e16 : F 16 = .ref 78) (e38 : F 38 = .ref 89) (v41 : Int32) (e41 : F 41 = .int v41) (p : Int32) (en : ((256 * (v41 - v41 / 512 * 512)) + k) = p) (n : Nat) (f : Nat → Int32) (ha : h.1 89 = ia n f) (i : vp_in p n) (e : Int32) (en1 : (f p.toNatClampNeg) = e) (n1 : Nat) (f1 : Nat → Int32) (ha1 : h.1 78 = ia n1 f1) (i1 : vp_in k n1) : J false mX8_fetch d 29 [(0, .ref 65), (1, .int s), (2, .int k)] [] h 29 [(0, .ref 65), (1, .int s), (2, .int (k + 1))] [] (hs h 78 (ia n1 (upd f1 k.toNatClampNeg e))) := by
  refine J.tr (s_iload_n (q := 30) dX8_fetch_29 rfl rfl) ?_
  refine J.tr (s_iload_n (q := 31) dX8_fetch_30 rfl rfl) ?_
  refine J.tr (s_icmp_ge_f (q := 34) (tg := 65) dX8_fetch_31 (by decide) rfl c) ?_
  refine J.tr (s_aload_n (q := 35) dX8_fetch_34 rfl rfl) ?_
  refine J.tr (s_gf (q := 38) (v := .ref 78) dX8_fetch_35 rfl fX8_47.l (ho) (by decide) (e16)) ?_
  refine J.tr (s_iload_n (q := 39) dX8_fetch_38 rfl rfl) ?_
  refine J.tr (s_aload_n (q := 40) dX8_fetch_39 rfl rfl) ?_
  refine J.tr (s_gf (q := 43) (v := .ref 89) dX8_fetch_40 rfl fX8_82.l (ho) (by decide) (e38)) ?_
  refine J.tr (s_sipush (q := 46) (v := 256) dX8_fetch_43 rfl (by decide)) ?_
  refine J.tr (s_aload_n (q := 47) dX8_fetch_46 rfl rfl) ?_
  refine J.tr (s_gf (q := 50) (v := .int v41) dX8_fetch_47 rfl fX8_219.l (ho) (by decide) (e41)) ?_
  refine J.tr (s_sipush (q := 53) (v := 512) dX8_fetch_50 rfl (by decide)) ?_
  refine J.tr (s_irem (q := 54) dX8_fetch_53 rfl (by decide)) ?_
  refine J.tr (s_imul (q := 55) dX8_fetch_54 rfl) ?_
  refine J.tr (s_iload_n (q := 56) dX8_fetch_55 rfl rfl) ?_
  refine J.tr (s_iadd (q := 57) dX8_fetch_56 rfl) ?_
  refine J.tr (s_nmi en) ?_
  refine J.tr (s_iald (q := 58) dX8_fetch_57 rfl (by decide) (ha) i) ?_
  refine J.tr (s_nmi en1) ?_
  refine J.tr (s_iast (q := 59) dX8_fetch_58 rfl (by decide) (ha1) i1) ?_
  refine J.tr (s_iinc (q := 62) (v := (k + 1)) (ls' := [(2, .int (k + 1)), (0, .ref 65), (1, .int s)]) dX8_fetch_59 rfl (by decide) rfl rfl rfl) ?_
  refine J.tr (s_goto (q := 29) dX8_fetch_62 (by decide)) ?_
  refine J.tr (s_ls (ls' := [(0, .ref 65), (1, .int s), (2, .int (k + 1))]) [1, 2, 0] rfl) ?_
  exact J.rf

set_option maxRecDepth 20000 in
theorem j_X8_fetch_c_1 {d : Nat} (hd : 0 ≤ d) (h : AH) (k : Int32) (x : Nat) (y : Nat) (F : Nat → Value) (ho : h.1 65 = ob 8 (fo 53 F)) (e36 : F 36 = .ref 88) (v37 : Int32) (e37 : F 37 = .int v37) (n : Nat) (f : Nat → Int32) (ha : h.1 88 = ia n f) (i : vp_in v37 n) (z : Int32) (en : (f v37.toNatClampNeg) = z) (c : z ≤ k) (z1 : Int32) (en1 : (f v37.toNatClampNeg) = z1) : E false mX8_fetch d 89 [(0, .ref 65), (1, .int k)] [] h (some (.int z1)) h := by
  refine E.st (s_iload_n (q := 90) dX8_fetch_89 rfl rfl) ?_
  refine E.st (s_aload_n (q := 91) dX8_fetch_90 rfl rfl) ?_
  refine E.st (s_gf (q := 94) (v := .ref 88) dX8_fetch_91 rfl fX8_78.l (ho) (by decide) (e36)) ?_
  refine E.st (s_aload_n (q := 95) dX8_fetch_94 rfl rfl) ?_
  refine E.st (s_gf (q := 98) (v := .int v37) dX8_fetch_95 rfl fX8_213.l (ho) (by decide) (e37)) ?_
  refine E.st (s_iald (q := 99) dX8_fetch_98 rfl (by decide) (ha) i) ?_
  refine E.st (s_nmi en) ?_
  refine E.st (s_icmp_ge_t (q := 129) dX8_fetch_99 (by decide) c) ?_
  refine E.st (s_aload_n (q := 130) dX8_fetch_129 rfl rfl) ?_
  refine E.st (s_gf (q := 133) (v := .ref 88) dX8_fetch_130 rfl fX8_78.l (ho) (by decide) (e36)) ?_
  refine E.st (s_aload_n (q := 134) dX8_fetch_133 rfl rfl) ?_
  refine E.st (s_gf (q := 137) (v := .int v37) dX8_fetch_134 rfl fX8_213.l (ho) (by decide) (e37)) ?_
  refine E.st (s_iald (q := 138) dX8_fetch_137 rfl (by decide) (ha) i) ?_
  refine E.st (s_nmi en1) ?_
  exact E.i dX8_fetch_138 rfl rfl rfl rfl

set_option maxRecDepth 20000 in
theorem j_X8_fetch_c_2 {d : Nat} (hd : 0 ≤ d) (h : AH) (k : Int32) (x : Nat) (y : Nat) (F : Nat → Value) (ho : h.1 65 = ob 8 (fo 53 F)) (e36 : F 36 = .ref 88) (v37 : Int32) (e37 : F 37 = .int v37) (n : Nat) (f : Nat → Int32) (ha : h.1 88 = ia n f) (i : vp_in v37 n) (z : Int32) (en : (f v37.toNatClampNeg) = z) (c : ¬ (z ≤ k)) (e16 : F 16 = .ref 78) (e35 : F 35 = .ref 87) (p : Int32) (en1 : ((256 * v37) + k) = p) (n1 : Nat) (f1 : Nat → Int32) (ha1 : h.1 87 = ia n1 f1) (i1 : vp_in p n1) (e : Int32) (en2 : (f1 p.toNatClampNeg) = e) (n2 : Nat) (f2 : Nat → Int32) (ha2 : h.1 78 = ia n2 f2) (i2 : vp_in k n2) : J false mX8_fetch d 89 [(0, .ref 65), (1, .int k)] [] h 89 [(0, .ref 65), (1, .int (k + 1))] [] (hs h 78 (ia n2 (upd f2 k.toNatClampNeg e))) := by
  refine J.tr (s_iload_n (q := 90) dX8_fetch_89 rfl rfl) ?_
  refine J.tr (s_aload_n (q := 91) dX8_fetch_90 rfl rfl) ?_
  refine J.tr (s_gf (q := 94) (v := .ref 88) dX8_fetch_91 rfl fX8_78.l (ho) (by decide) (e36)) ?_
  refine J.tr (s_aload_n (q := 95) dX8_fetch_94 rfl rfl) ?_
  refine J.tr (s_gf (q := 98) (v := .int v37) dX8_fetch_95 rfl fX8_213.l (ho) (by decide) (e37)) ?_
  refine J.tr (s_iald (q := 99) dX8_fetch_98 rfl (by decide) (ha) i) ?_
  refine J.tr (s_nmi en) ?_
  refine J.tr (s_icmp_ge_f (q := 102) (tg := 129) dX8_fetch_99 (by decide) rfl c) ?_
  refine J.tr (s_aload_n (q := 103) dX8_fetch_102 rfl rfl) ?_
  refine J.tr (s_gf (q := 106) (v := .ref 78) dX8_fetch_103 rfl fX8_47.l (ho) (by decide) (e16)) ?_
  refine J.tr (s_iload_n (q := 107) dX8_fetch_106 rfl rfl) ?_
  refine J.tr (s_aload_n (q := 108) dX8_fetch_107 rfl rfl) ?_
  refine J.tr (s_gf (q := 111) (v := .ref 87) dX8_fetch_108 rfl fX8_75.l (ho) (by decide) (e35)) ?_
  refine J.tr (s_sipush (q := 114) (v := 256) dX8_fetch_111 rfl (by decide)) ?_
  refine J.tr (s_aload_n (q := 115) dX8_fetch_114 rfl rfl) ?_
  refine J.tr (s_gf (q := 118) (v := .int v37) dX8_fetch_115 rfl fX8_213.l (ho) (by decide) (e37)) ?_
  refine J.tr (s_imul (q := 119) dX8_fetch_118 rfl) ?_
  refine J.tr (s_iload_n (q := 120) dX8_fetch_119 rfl rfl) ?_
  refine J.tr (s_iadd (q := 121) dX8_fetch_120 rfl) ?_
  refine J.tr (s_nmi en1) ?_
  refine J.tr (s_iald (q := 122) dX8_fetch_121 rfl (by decide) (ha1) i1) ?_
  refine J.tr (s_nmi en2) ?_
  refine J.tr (s_iast (q := 123) dX8_fetch_122 rfl (by decide) (ha2) i2) ?_
  refine J.tr (s_iinc (q := 126) (v := (k + 1)) (ls' := [(1, .int (k + 1)), (0, .ref 65)]) dX8_fetch_123 rfl (by decide) rfl rfl rfl) ?_
  refine J.tr (s_goto (q := 89) dX8_fetch_126 (by decide)) ?_
  refine J.tr (s_ls (ls' := [(0, .ref 65), (1, .int (k + 1))]) [1, 0] rfl) ?_
  exact J.rf

set_option maxRecDepth 20000 in
theorem j_X8_decide_a_1 {d : Nat} (hd : 0 ≤ d) (h : AH) (s : Int32) (x : Nat) (y : Nat) (F : Nat → Value) (ho : h.1 65 = ob 8 (fo 53 F)) (v32 : Int32) (e32 : F 32 = .int v32) (c : ¬ v32 = 2) (c1 : ¬ v32 = 1) : J false mX8_decide d 0 [(0, .ref 65), (1, .int s)] [] h 58 [(0, .ref 65), (1, .int s), (2, .int 0), (3, .int 1)] [] h := by
  refine J.tr (s_aload_n (q := 1) dX8_decide_0 rfl rfl) ?_
  refine J.tr (s_gf (q := 4) (v := .int v32) dX8_decide_1 rfl fX8_249.l (ho) (by decide) (e32)) ?_
  refine J.tr (s_iconst (q := 5) (v := 2) dX8_decide_4 rfl (by decide)) ?_
  refine J.tr (s_icmp_ne_t (q := 27) dX8_decide_5 (by decide) c) ?_
  refine J.tr (s_aload_n (q := 28) dX8_decide_27 rfl rfl) ?_
  refine J.tr (s_gf (q := 31) (v := .int v32) dX8_decide_28 rfl fX8_249.l (ho) (by decide) (e32)) ?_
  refine J.tr (s_iconst (q := 32) (v := 1) dX8_decide_31 rfl (by decide)) ?_
  refine J.tr (s_icmp_ne_t (q := 54) dX8_decide_32 (by decide) c1) ?_
  refine J.tr (s_iconst (q := 55) (v := 0) dX8_decide_54 rfl (by decide)) ?_
  refine J.tr (s_istore_n (q := 56) (ls' := [(2, .int 0), (0, .ref 65), (1, .int s)]) dX8_decide_55 rfl (by decide) rfl) ?_
  refine J.tr (s_iconst (q := 57) (v := 1) dX8_decide_56 rfl (by decide)) ?_
  refine J.tr (s_istore_n (q := 58) (ls' := [(3, .int 1), (2, .int 0), (0, .ref 65), (1, .int s)]) dX8_decide_57 rfl (by decide) rfl) ?_
  refine J.tr (s_ls (ls' := [(0, .ref 65), (1, .int s), (2, .int 0), (3, .int 1)]) [2, 3, 1, 0] rfl) ?_
  exact J.rf

set_option maxRecDepth 20000 in
theorem j_X8_decide_a_2 {d : Nat} (hd : 0 ≤ d) (h : AH) (s : Int32) (x : Nat) (y : Nat) (F : Nat → Value) (ho : h.1 65 = ob 8 (fo 53 F)) (v32 : Int32) (e32 : F 32 = .int v32) (c : ¬ v32 = 2) (c1 : v32 = 1) (v33 : Int32) (e33 : F 33 = .int v33) (c2 : ¬ v33 = 0) (q : Int32) (en : ((s + 1) / v33) = q) (v34 : Int32) (e34 : F 34 = .int v34) (c3 : q ≤ v34) : J false mX8_decide d 0 [(0, .ref 65), (1, .int s)] [] h 58 [(0, .ref 65), (1, .int s), (2, .int 0), (3, .int 1)] [] h := by
  refine J.tr (s_aload_n (q := 1) dX8_decide_0 rfl rfl) ?_
  refine J.tr (s_gf (q := 4) (v := .int v32) dX8_decide_1 rfl fX8_249.l (ho) (by decide) (e32)) ?_
  refine J.tr (s_iconst (q := 5) (v := 2) dX8_decide_4 rfl (by decide)) ?_
  refine J.tr (s_icmp_ne_t (q := 27) dX8_decide_5 (by decide) c) ?_
  refine J.tr (s_aload_n (q := 28) dX8_decide_27 rfl rfl) ?_
  refine J.tr (s_gf (q := 31) (v := .int v32) dX8_decide_28 rfl fX8_249.l (ho) (by decide) (e32)) ?_
  refine J.tr (s_iconst (q := 32) (v := 1) dX8_decide_31 rfl (by decide)) ?_
  refine J.tr (s_icmp_ne_f (q := 35) (tg := 54) dX8_decide_32 (by decide) rfl c1) ?_
  refine J.tr (s_iload_n (q := 36) dX8_decide_35 rfl rfl) ?_
  refine J.tr (s_iconst (q := 37) (v := 1) dX8_decide_36 rfl (by decide)) ?_
  refine J.tr (s_iadd (q := 38) dX8_decide_37 rfl) ?_
  refine J.tr (s_aload_n (q := 39) dX8_decide_38 rfl rfl) ?_
  refine J.tr (s_gf (q := 42) (v := .int v33) dX8_decide_39 rfl fX8_252.l (ho) (by decide) (e33)) ?_
  refine J.tr (s_idiv (q := 43) dX8_decide_42 rfl c2) ?_
  refine J.tr (s_nmi en) ?_
  refine J.tr (s_aload_n (q := 44) dX8_decide_43 rfl rfl) ?_
  refine J.tr (s_gf (q := 47) (v := .int v34) dX8_decide_44 rfl fX8_210.l (ho) (by decide) (e34)) ?_
  refine J.tr (s_icmp_le_t (q := 54) dX8_decide_47 (by decide) c3) ?_
  refine J.tr (s_iconst (q := 55) (v := 0) dX8_decide_54 rfl (by decide)) ?_
  refine J.tr (s_istore_n (q := 56) (ls' := [(2, .int 0), (0, .ref 65), (1, .int s)]) dX8_decide_55 rfl (by decide) rfl) ?_
  refine J.tr (s_iconst (q := 57) (v := 1) dX8_decide_56 rfl (by decide)) ?_
  refine J.tr (s_istore_n (q := 58) (ls' := [(3, .int 1), (2, .int 0), (0, .ref 65), (1, .int s)]) dX8_decide_57 rfl (by decide) rfl) ?_
  refine J.tr (s_ls (ls' := [(0, .ref 65), (1, .int s), (2, .int 0), (3, .int 1)]) [2, 3, 1, 0] rfl) ?_
  exact J.rf

set_option maxRecDepth 20000 in
theorem j_X8_decide_a_3 {d : Nat} (hd : 0 ≤ d) (h : AH) (s : Int32) (x : Nat) (y : Nat) (F : Nat → Value) (ho : h.1 65 = ob 8 (fo 53 F)) (v32 : Int32) (e32 : F 32 = .int v32) (c : ¬ v32 = 2) (c1 : v32 = 1) (v33 : Int32) (e33 : F 33 = .int v33) (c2 : ¬ v33 = 0) (q : Int32) (en : ((s + 1) / v33) = q) (v34 : Int32) (e34 : F 34 = .int v34) (c3 : ¬ (q ≤ v34)) : J false mX8_decide d 0 [(0, .ref 65), (1, .int s)] [] h 58 [(0, .ref 65), (1, .int s), (2, .int 1), (3, .int 1)] [] h := by
  refine J.tr (s_aload_n (q := 1) dX8_decide_0 rfl rfl) ?_
  refine J.tr (s_gf (q := 4) (v := .int v32) dX8_decide_1 rfl fX8_249.l (ho) (by decide) (e32)) ?_
  refine J.tr (s_iconst (q := 5) (v := 2) dX8_decide_4 rfl (by decide)) ?_
  refine J.tr (s_icmp_ne_t (q := 27) dX8_decide_5 (by decide) c) ?_
  refine J.tr (s_aload_n (q := 28) dX8_decide_27 rfl rfl) ?_
  refine J.tr (s_gf (q := 31) (v := .int v32) dX8_decide_28 rfl fX8_249.l (ho) (by decide) (e32)) ?_
  refine J.tr (s_iconst (q := 32) (v := 1) dX8_decide_31 rfl (by decide)) ?_
  refine J.tr (s_icmp_ne_f (q := 35) (tg := 54) dX8_decide_32 (by decide) rfl c1) ?_
  refine J.tr (s_iload_n (q := 36) dX8_decide_35 rfl rfl) ?_
  refine J.tr (s_iconst (q := 37) (v := 1) dX8_decide_36 rfl (by decide)) ?_
  refine J.tr (s_iadd (q := 38) dX8_decide_37 rfl) ?_
  refine J.tr (s_aload_n (q := 39) dX8_decide_38 rfl rfl) ?_
  refine J.tr (s_gf (q := 42) (v := .int v33) dX8_decide_39 rfl fX8_252.l (ho) (by decide) (e33)) ?_
  refine J.tr (s_idiv (q := 43) dX8_decide_42 rfl c2) ?_
  refine J.tr (s_nmi en) ?_
  refine J.tr (s_aload_n (q := 44) dX8_decide_43 rfl rfl) ?_
  refine J.tr (s_gf (q := 47) (v := .int v34) dX8_decide_44 rfl fX8_210.l (ho) (by decide) (e34)) ?_
  refine J.tr (s_icmp_le_f (q := 50) (tg := 54) dX8_decide_47 (by decide) rfl c3) ?_
  refine J.tr (s_iconst (q := 51) (v := 1) dX8_decide_50 rfl (by decide)) ?_
  refine J.tr (s_goto (q := 55) dX8_decide_51 (by decide)) ?_
  refine J.tr (s_istore_n (q := 56) (ls' := [(2, .int 1), (0, .ref 65), (1, .int s)]) dX8_decide_55 rfl (by decide) rfl) ?_
  refine J.tr (s_iconst (q := 57) (v := 1) dX8_decide_56 rfl (by decide)) ?_
  refine J.tr (s_istore_n (q := 58) (ls' := [(3, .int 1), (2, .int 1), (0, .ref 65), (1, .int s)]) dX8_decide_57 rfl (by decide) rfl) ?_
  refine J.tr (s_ls (ls' := [(0, .ref 65), (1, .int s), (2, .int 1), (3, .int 1)]) [2, 3, 1, 0] rfl) ?_
  exact J.rf

set_option maxRecDepth 20000 in
theorem j_X8_decide_a_4 {d : Nat} (hd : 0 ≤ d) (h : AH) (s : Int32) (x : Nat) (y : Nat) (F : Nat → Value) (ho : h.1 65 = ob 8 (fo 53 F)) (v32 : Int32) (e32 : F 32 = .int v32) (c : v32 = 2) (v33 : Int32) (e33 : F 33 = .int v33) (c1 : ¬ s = v33) (c2 : ¬ v32 = 1) : J false mX8_decide d 0 [(0, .ref 65), (1, .int s)] [] h 58 [(0, .ref 65), (1, .int s), (2, .int 0), (3, .int 1)] [] h := by
  refine J.tr (s_aload_n (q := 1) dX8_decide_0 rfl rfl) ?_
  refine J.tr (s_gf (q := 4) (v := .int v32) dX8_decide_1 rfl fX8_249.l (ho) (by decide) (e32)) ?_
  refine J.tr (s_iconst (q := 5) (v := 2) dX8_decide_4 rfl (by decide)) ?_
  refine J.tr (s_icmp_ne_f (q := 8) (tg := 27) dX8_decide_5 (by decide) rfl c) ?_
  refine J.tr (s_iload_n (q := 9) dX8_decide_8 rfl rfl) ?_
  refine J.tr (s_aload_n (q := 10) dX8_decide_9 rfl rfl) ?_
  refine J.tr (s_gf (q := 13) (v := .int v33) dX8_decide_10 rfl fX8_252.l (ho) (by decide) (e33)) ?_
  refine J.tr (s_icmp_ne_t (q := 27) dX8_decide_13 (by decide) c1) ?_
  refine J.tr (s_aload_n (q := 28) dX8_decide_27 rfl rfl) ?_
  refine J.tr (s_gf (q := 31) (v := .int v32) dX8_decide_28 rfl fX8_249.l (ho) (by decide) (e32)) ?_
  refine J.tr (s_iconst (q := 32) (v := 1) dX8_decide_31 rfl (by decide)) ?_
  refine J.tr (s_icmp_ne_t (q := 54) dX8_decide_32 (by decide) c2) ?_
  refine J.tr (s_iconst (q := 55) (v := 0) dX8_decide_54 rfl (by decide)) ?_
  refine J.tr (s_istore_n (q := 56) (ls' := [(2, .int 0), (0, .ref 65), (1, .int s)]) dX8_decide_55 rfl (by decide) rfl) ?_
  refine J.tr (s_iconst (q := 57) (v := 1) dX8_decide_56 rfl (by decide)) ?_
  refine J.tr (s_istore_n (q := 58) (ls' := [(3, .int 1), (2, .int 0), (0, .ref 65), (1, .int s)]) dX8_decide_57 rfl (by decide) rfl) ?_
  refine J.tr (s_ls (ls' := [(0, .ref 65), (1, .int s), (2, .int 0), (3, .int 1)]) [2, 3, 1, 0] rfl) ?_
  exact J.rf

set_option maxRecDepth 20000 in
theorem j_X8_decide_a_5 {d : Nat} (hd : 0 ≤ d) (h : AH) (s : Int32) (x : Nat) (y : Nat) (F : Nat → Value) (ho : h.1 65 = ob 8 (fo 53 F)) (v32 : Int32) (e32 : F 32 = .int v32) (c : v32 = 2) (v33 : Int32) (e33 : F 33 = .int v33) (c1 : ¬ s = v33) (c2 : v32 = 1) (c3 : ¬ v33 = 0) (q : Int32) (en : ((s + 1) / v33) = q) (v34 : Int32) (e34 : F 34 = .int v34) (c4 : q ≤ v34) : J false mX8_decide d 0 [(0, .ref 65), (1, .int s)] [] h 58 [(0, .ref 65), (1, .int s), (2, .int 0), (3, .int 1)] [] h := by
  refine J.tr (s_aload_n (q := 1) dX8_decide_0 rfl rfl) ?_
  refine J.tr (s_gf (q := 4) (v := .int v32) dX8_decide_1 rfl fX8_249.l (ho) (by decide) (e32)) ?_
  refine J.tr (s_iconst (q := 5) (v := 2) dX8_decide_4 rfl (by decide)) ?_
  refine J.tr (s_icmp_ne_f (q := 8) (tg := 27) dX8_decide_5 (by decide) rfl c) ?_
  refine J.tr (s_iload_n (q := 9) dX8_decide_8 rfl rfl) ?_
  refine J.tr (s_aload_n (q := 10) dX8_decide_9 rfl rfl) ?_
  refine J.tr (s_gf (q := 13) (v := .int v33) dX8_decide_10 rfl fX8_252.l (ho) (by decide) (e33)) ?_
  refine J.tr (s_icmp_ne_t (q := 27) dX8_decide_13 (by decide) c1) ?_
  refine J.tr (s_aload_n (q := 28) dX8_decide_27 rfl rfl) ?_
  refine J.tr (s_gf (q := 31) (v := .int v32) dX8_decide_28 rfl fX8_249.l (ho) (by decide) (e32)) ?_
  refine J.tr (s_iconst (q := 32) (v := 1) dX8_decide_31 rfl (by decide)) ?_
  refine J.tr (s_icmp_ne_f (q := 35) (tg := 54) dX8_decide_32 (by decide) rfl c2) ?_
  refine J.tr (s_iload_n (q := 36) dX8_decide_35 rfl rfl) ?_
  refine J.tr (s_iconst (q := 37) (v := 1) dX8_decide_36 rfl (by decide)) ?_
  refine J.tr (s_iadd (q := 38) dX8_decide_37 rfl) ?_
  refine J.tr (s_aload_n (q := 39) dX8_decide_38 rfl rfl) ?_
  refine J.tr (s_gf (q := 42) (v := .int v33) dX8_decide_39 rfl fX8_252.l (ho) (by decide) (e33)) ?_
  refine J.tr (s_idiv (q := 43) dX8_decide_42 rfl c3) ?_
  refine J.tr (s_nmi en) ?_
  refine J.tr (s_aload_n (q := 44) dX8_decide_43 rfl rfl) ?_
  refine J.tr (s_gf (q := 47) (v := .int v34) dX8_decide_44 rfl fX8_210.l (ho) (by decide) (e34)) ?_
  refine J.tr (s_icmp_le_t (q := 54) dX8_decide_47 (by decide) c4) ?_
  refine J.tr (s_iconst (q := 55) (v := 0) dX8_decide_54 rfl (by decide)) ?_
  refine J.tr (s_istore_n (q := 56) (ls' := [(2, .int 0), (0, .ref 65), (1, .int s)]) dX8_decide_55 rfl (by decide) rfl) ?_
  refine J.tr (s_iconst (q := 57) (v := 1) dX8_decide_56 rfl (by decide)) ?_
  refine J.tr (s_istore_n (q := 58) (ls' := [(3, .int 1), (2, .int 0), (0, .ref 65), (1, .int s)]) dX8_decide_57 rfl (by decide) rfl) ?_
  refine J.tr (s_ls (ls' := [(0, .ref 65), (1, .int s), (2, .int 0), (3, .int 1)]) [2, 3, 1, 0] rfl) ?_
  exact J.rf

set_option maxRecDepth 20000 in
theorem j_X8_decide_a_6 {d : Nat} (hd : 0 ≤ d) (h : AH) (s : Int32) (x : Nat) (y : Nat) (F : Nat → Value) (ho : h.1 65 = ob 8 (fo 53 F)) (v32 : Int32) (e32 : F 32 = .int v32) (c : v32 = 2) (v33 : Int32) (e33 : F 33 = .int v33) (c1 : ¬ s = v33) (c2 : v32 = 1) (c3 : ¬ v33 = 0) (q : Int32) (en : ((s + 1) / v33) = q) (v34 : Int32) (e34 : F 34 = .int v34) (c4 : ¬ (q ≤ v34)) : J false mX8_decide d 0 [(0, .ref 65), (1, .int s)] [] h 58 [(0, .ref 65), (1, .int s), (2, .int 1), (3, .int 1)] [] h := by
  refine J.tr (s_aload_n (q := 1) dX8_decide_0 rfl rfl) ?_
  refine J.tr (s_gf (q := 4) (v := .int v32) dX8_decide_1 rfl fX8_249.l (ho) (by decide) (e32)) ?_
  refine J.tr (s_iconst (q := 5) (v := 2) dX8_decide_4 rfl (by decide)) ?_
  refine J.tr (s_icmp_ne_f (q := 8) (tg := 27) dX8_decide_5 (by decide) rfl c) ?_
  refine J.tr (s_iload_n (q := 9) dX8_decide_8 rfl rfl) ?_
  refine J.tr (s_aload_n (q := 10) dX8_decide_9 rfl rfl) ?_
  refine J.tr (s_gf (q := 13) (v := .int v33) dX8_decide_10 rfl fX8_252.l (ho) (by decide) (e33)) ?_
  refine J.tr (s_icmp_ne_t (q := 27) dX8_decide_13 (by decide) c1) ?_
  refine J.tr (s_aload_n (q := 28) dX8_decide_27 rfl rfl) ?_
  refine J.tr (s_gf (q := 31) (v := .int v32) dX8_decide_28 rfl fX8_249.l (ho) (by decide) (e32)) ?_
  refine J.tr (s_iconst (q := 32) (v := 1) dX8_decide_31 rfl (by decide)) ?_
  refine J.tr (s_icmp_ne_f (q := 35) (tg := 54) dX8_decide_32 (by decide) rfl c2) ?_
  refine J.tr (s_iload_n (q := 36) dX8_decide_35 rfl rfl) ?_
  refine J.tr (s_iconst (q := 37) (v := 1) dX8_decide_36 rfl (by decide)) ?_
  refine J.tr (s_iadd (q := 38) dX8_decide_37 rfl) ?_
  refine J.tr (s_aload_n (q := 39) dX8_decide_38 rfl rfl) ?_
  refine J.tr (s_gf (q := 42) (v := .int v33) dX8_decide_39 rfl fX8_252.l (ho) (by decide) (e33)) ?_
  refine J.tr (s_idiv (q := 43) dX8_decide_42 rfl c3) ?_
  refine J.tr (s_nmi en) ?_
  refine J.tr (s_aload_n (q := 44) dX8_decide_43 rfl rfl) ?_
  refine J.tr (s_gf (q := 47) (v := .int v34) dX8_decide_44 rfl fX8_210.l (ho) (by decide) (e34)) ?_
  refine J.tr (s_icmp_le_f (q := 50) (tg := 54) dX8_decide_47 (by decide) rfl c4) ?_
  refine J.tr (s_iconst (q := 51) (v := 1) dX8_decide_50 rfl (by decide)) ?_
  refine J.tr (s_goto (q := 55) dX8_decide_51 (by decide)) ?_
  refine J.tr (s_istore_n (q := 56) (ls' := [(2, .int 1), (0, .ref 65), (1, .int s)]) dX8_decide_55 rfl (by decide) rfl) ?_
  refine J.tr (s_iconst (q := 57) (v := 1) dX8_decide_56 rfl (by decide)) ?_
  refine J.tr (s_istore_n (q := 58) (ls' := [(3, .int 1), (2, .int 1), (0, .ref 65), (1, .int s)]) dX8_decide_57 rfl (by decide) rfl) ?_
  refine J.tr (s_ls (ls' := [(0, .ref 65), (1, .int s), (2, .int 1), (3, .int 1)]) [2, 3, 1, 0] rfl) ?_
  exact J.rf

set_option maxRecDepth 20000 in
theorem j_X8_decide_a_7 {d : Nat} (hd : 0 ≤ d) (h : AH) (s : Int32) (x : Nat) (y : Nat) (F : Nat → Value) (ho : h.1 65 = ob 8 (fo 53 F)) (v32 : Int32) (e32 : F 32 = .int v32) (c : v32 = 2) (v33 : Int32) (e33 : F 33 = .int v33) (c1 : s = v33) (v46 : Int32) (e46 : F 46 = .int v46) : E false mX8_decide d 0 [(0, .ref 65), (1, .int s)] [] h (none) (hs h 65 (ob 8 (fo 53 (va_up F 46 (.int (v46 + 1)))))) := by
  refine E.st (s_aload_n (q := 1) dX8_decide_0 rfl rfl) ?_
  refine E.st (s_gf (q := 4) (v := .int v32) dX8_decide_1 rfl fX8_249.l (ho) (by decide) (e32)) ?_
  refine E.st (s_iconst (q := 5) (v := 2) dX8_decide_4 rfl (by decide)) ?_
  refine E.st (s_icmp_ne_f (q := 8) (tg := 27) dX8_decide_5 (by decide) rfl c) ?_
  refine E.st (s_iload_n (q := 9) dX8_decide_8 rfl rfl) ?_
  refine E.st (s_aload_n (q := 10) dX8_decide_9 rfl rfl) ?_
  refine E.st (s_gf (q := 13) (v := .int v33) dX8_decide_10 rfl fX8_252.l (ho) (by decide) (e33)) ?_
  refine E.st (s_icmp_ne_f (q := 16) (tg := 27) dX8_decide_13 (by decide) rfl c1) ?_
  refine E.st (s_aload_n (q := 17) dX8_decide_16 rfl rfl) ?_
  refine E.st (s_dup (q := 18) dX8_decide_17 rfl rfl) ?_
  refine E.st (s_gf (q := 21) (v := .int v46) dX8_decide_18 rfl fX8_234.l (ho) (by decide) (e46)) ?_
  refine E.st (s_iconst (q := 22) (v := 1) dX8_decide_21 rfl (by decide)) ?_
  refine E.st (s_iadd (q := 23) dX8_decide_22 rfl) ?_
  refine E.st (s_pf (q := 26) dX8_decide_23 rfl fX8_234 (ho) (by decide) (fun _ => ⟨rfl, rfl⟩)) ?_
  exact E.v dX8_decide_26 rfl rfl rfl

set_option maxRecDepth 20000 in
theorem j_X8_decide_b_1 {d : Nat} (hd : 0 ≤ d) (h : AH) (s : Int32) (l : Int32) (w : Int32) (x : Nat) (y : Nat) (c : w < 0) : E false mX8_decide d 58 [(0, .ref 65), (1, .int s), (2, .int l), (3, .int w)] [] h (none) h := by
  refine E.st (s_iload_n (q := 59) dX8_decide_58 rfl rfl) ?_
  refine E.st (s_if_lt_t (q := 170) dX8_decide_59 (by decide) c) ?_
  exact E.v dX8_decide_170 rfl rfl rfl

set_option maxRecDepth 20000 in
theorem j_X8_decide_b_2 {d : Nat} (hd : 0 ≤ d) (h : AH) (s : Int32) (l : Int32) (w : Int32) (x : Nat) (y : Nat) (c : ¬ (w < 0)) (c1 : l = 0) (F : Nat → Value) (ho : h.1 65 = ob 8 (fo 53 F)) (e35 : F 35 = .ref 87) (v37 : Int32) (e37 : F 37 = .int v37) (p : Int32) (en : (256 * v37) = p) : J false mX8_decide d 58 [(0, .ref 65), (1, .int s), (2, .int l), (3, .int w)] [] h 139 [(0, .ref 65), (1, .int s), (2, .int l), (3, .int w)] [.int w, .int s, .int p, .ref 87, .ref 65] h := by
  refine J.tr (s_iload_n (q := 59) dX8_decide_58 rfl rfl) ?_
  refine J.tr (s_if_lt_f (q := 62) (tg := 170) dX8_decide_59 (by decide) rfl c) ?_
  refine J.tr (s_iload_n (q := 63) dX8_decide_62 rfl rfl) ?_
  refine J.tr (s_if_eq_t (q := 72) dX8_decide_63 (by decide) c1) ?_
  refine J.tr (s_iload_n (q := 73) dX8_decide_72 rfl rfl) ?_
  refine J.tr (s_istore (q := 75) (ls' := [(4, .int w), (0, .ref 65), (1, .int s), (2, .int l), (3, .int w)]) dX8_decide_73 rfl (by decide) rfl) ?_
  refine J.tr (s_iload_n (q := 76) dX8_decide_75 rfl rfl) ?_
  refine J.tr (s_if_eq_t (q := 123) dX8_decide_76 (by decide) c1) ?_
  refine J.tr (s_aload_n (q := 124) dX8_decide_123 rfl rfl) ?_
  refine J.tr (s_aload_n (q := 125) dX8_decide_124 rfl rfl) ?_
  refine J.tr (s_gf (q := 128) (v := .ref 87) dX8_decide_125 rfl fX8_75.l (ho) (by decide) (e35)) ?_
  refine J.tr (s_sipush (q := 131) (v := 256) dX8_decide_128 rfl (by decide)) ?_
  refine J.tr (s_aload_n (q := 132) dX8_decide_131 rfl rfl) ?_
  refine J.tr (s_gf (q := 135) (v := .int v37) dX8_decide_132 rfl fX8_213.l (ho) (by decide) (e37)) ?_
  refine J.tr (s_imul (q := 136) dX8_decide_135 rfl) ?_
  refine J.tr (s_nmi en) ?_
  refine J.tr (s_iload_n (q := 137) dX8_decide_136 rfl rfl) ?_
  refine J.tr (s_iload (q := 139) dX8_decide_137 rfl rfl) ?_
  refine J.tr (s_ls (ls' := [(0, .ref 65), (1, .int s), (2, .int l), (3, .int w)]) [1, 2, 3, 4] rfl) ?_
  exact J.rf

set_option maxRecDepth 20000 in
theorem j_X8_decide_b_3 {d : Nat} (hd : 0 ≤ d) (h : AH) (s : Int32) (l : Int32) (w : Int32) (x : Nat) (y : Nat) (c : ¬ (w < 0)) (c1 : ¬ (l = 0)) (a : Int32) (en : (1 - w) = a) (F : Nat → Value) (ho : h.1 65 = ob 8 (fo 53 F)) (e38 : F 38 = .ref 89) (v40 : Int32) (e40 : F 40 = .int v40) (p : Int32) (en1 : (256 * v40) = p) : J false mX8_decide d 58 [(0, .ref 65), (1, .int s), (2, .int l), (3, .int w)] [] h 95 [(0, .ref 65), (1, .int s), (2, .int l), (3, .int w)] [.int a, .int s, .int p, .ref 89, .ref 65] h := by
  refine J.tr (s_iload_n (q := 59) dX8_decide_58 rfl rfl) ?_
  refine J.tr (s_if_lt_f (q := 62) (tg := 170) dX8_decide_59 (by decide) rfl c) ?_
  refine J.tr (s_iload_n (q := 63) dX8_decide_62 rfl rfl) ?_
  refine J.tr (s_if_eq_f (q := 66) (tg := 72) dX8_decide_63 (by decide) rfl c1) ?_
  refine J.tr (s_iconst (q := 67) (v := 1) dX8_decide_66 rfl (by decide)) ?_
  refine J.tr (s_iload_n (q := 68) dX8_decide_67 rfl rfl) ?_
  refine J.tr (s_isub (q := 69) dX8_decide_68 rfl) ?_
  refine J.tr (s_goto (q := 73) dX8_decide_69 (by decide)) ?_
  refine J.tr (s_nmi en) ?_
  refine J.tr (s_istore (q := 75) (ls' := [(4, .int a), (0, .ref 65), (1, .int s), (2, .int l), (3, .int w)]) dX8_decide_73 rfl (by decide) rfl) ?_
  refine J.tr (s_iload_n (q := 76) dX8_decide_75 rfl rfl) ?_
  refine J.tr (s_if_eq_f (q := 79) (tg := 123) dX8_decide_76 (by decide) rfl c1) ?_
  refine J.tr (s_aload_n (q := 80) dX8_decide_79 rfl rfl) ?_
  refine J.tr (s_aload_n (q := 81) dX8_decide_80 rfl rfl) ?_
  refine J.tr (s_gf (q := 84) (v := .ref 89) dX8_decide_81 rfl fX8_82.l (ho) (by decide) (e38)) ?_
  refine J.tr (s_sipush (q := 87) (v := 256) dX8_decide_84 rfl (by decide)) ?_
  refine J.tr (s_aload_n (q := 88) dX8_decide_87 rfl rfl) ?_
  refine J.tr (s_gf (q := 91) (v := .int v40) dX8_decide_88 rfl fX8_216.l (ho) (by decide) (e40)) ?_
  refine J.tr (s_imul (q := 92) dX8_decide_91 rfl) ?_
  refine J.tr (s_nmi en1) ?_
  refine J.tr (s_iload_n (q := 93) dX8_decide_92 rfl rfl) ?_
  refine J.tr (s_iload (q := 95) dX8_decide_93 rfl rfl) ?_
  refine J.tr (s_ls (ls' := [(0, .ref 65), (1, .int s), (2, .int l), (3, .int w)]) [1, 2, 3, 4] rfl) ?_
  exact J.rf

set_option maxRecDepth 20000 in
theorem j_X8_decide_c_1 {d : Nat} (hd : 0 ≤ d) (h : AH) (s : Int32) (l : Int32) (w : Int32) (x : Nat) (y : Nat) (F : Nat → Value) (ho : h.1 65 = ob 8 (fo 53 F)) (e39 : F 39 = .ref 90) (v40 : Int32) (e40 : F 40 = .int v40) (n : Nat) (f : Nat → Int32) (ha : h.1 90 = ia n f) (i : vp_in v40 n) : J false mX8_decide d 98 [(0, .ref 65), (1, .int s), (2, .int l), (3, .int w)] [] h 58 [(0, .ref 65), (1, .int s), (2, .int l), (3, .int (w + (-1)))] [] (hs (hs h 90 (ia n (upd f v40.toNatClampNeg (s + 1)))) 65 (ob 8 (fo 53 (va_up F 40 (.int (v40 + 1)))))) := by
  refine J.tr (s_aload_n (q := 99) dX8_decide_98 rfl rfl) ?_
  refine J.tr (s_gf (q := 102) (v := .ref 90) dX8_decide_99 rfl fX8_85.l (ho) (by decide) (e39)) ?_
  refine J.tr (s_aload_n (q := 103) dX8_decide_102 rfl rfl) ?_
  refine J.tr (s_gf (q := 106) (v := .int v40) dX8_decide_103 rfl fX8_216.l (ho) (by decide) (e40)) ?_
  refine J.tr (s_iload_n (q := 107) dX8_decide_106 rfl rfl) ?_
  refine J.tr (s_iconst (q := 108) (v := 1) dX8_decide_107 rfl (by decide)) ?_
  refine J.tr (s_iadd (q := 109) dX8_decide_108 rfl) ?_
  refine J.tr (s_iast (q := 110) dX8_decide_109 rfl (by decide) (ha) i) ?_
  refine J.tr (s_aload_n (q := 111) dX8_decide_110 rfl rfl) ?_
  refine J.tr (s_dup (q := 112) dX8_decide_111 rfl rfl) ?_
  refine J.tr (s_gf (q := 115) (v := .int v40) dX8_decide_112 rfl fX8_216.l ((hs_ne (by decide)).trans (ho)) (by decide) (e40)) ?_
  refine J.tr (s_iconst (q := 116) (v := 1) dX8_decide_115 rfl (by decide)) ?_
  refine J.tr (s_iadd (q := 117) dX8_decide_116 rfl) ?_
  refine J.tr (s_pf (q := 120) dX8_decide_117 rfl fX8_216 ((hs_ne (by decide)).trans (ho)) (by decide) (fun _ => ⟨rfl, rfl⟩)) ?_
  refine J.tr (s_goto (q := 164) dX8_decide_120 (by decide)) ?_
  refine J.tr (s_iinc (q := 167) (v := (w + (-1))) (ls' := [(3, .int (w + (-1))), (0, .ref 65), (1, .int s), (2, .int l)]) dX8_decide_164 rfl (by decide) rfl rfl rfl) ?_
  refine J.tr (s_goto (q := 58) dX8_decide_167 (by decide)) ?_
  refine J.tr (s_ls (ls' := [(0, .ref 65), (1, .int s), (2, .int l), (3, .int (w + (-1)))]) [1, 2, 3, 0] rfl) ?_
  exact J.rf

set_option maxRecDepth 20000 in
theorem j_X8_decide_d_1 {d : Nat} (hd : 0 ≤ d) (h : AH) (s : Int32) (l : Int32) (w : Int32) (x : Nat) (y : Nat) (F : Nat → Value) (ho : h.1 65 = ob 8 (fo 53 F)) (e36 : F 36 = .ref 88) (v37 : Int32) (e37 : F 37 = .int v37) (n : Nat) (f : Nat → Int32) (ha : h.1 88 = ia n f) (i : vp_in v37 n) : J false mX8_decide d 142 [(0, .ref 65), (1, .int s), (2, .int l), (3, .int w)] [] h 58 [(0, .ref 65), (1, .int s), (2, .int l), (3, .int (w + (-1)))] [] (hs (hs h 88 (ia n (upd f v37.toNatClampNeg (s + 1)))) 65 (ob 8 (fo 53 (va_up F 37 (.int (v37 + 1)))))) := by
  refine J.tr (s_aload_n (q := 143) dX8_decide_142 rfl rfl) ?_
  refine J.tr (s_gf (q := 146) (v := .ref 88) dX8_decide_143 rfl fX8_78.l (ho) (by decide) (e36)) ?_
  refine J.tr (s_aload_n (q := 147) dX8_decide_146 rfl rfl) ?_
  refine J.tr (s_gf (q := 150) (v := .int v37) dX8_decide_147 rfl fX8_213.l (ho) (by decide) (e37)) ?_
  refine J.tr (s_iload_n (q := 151) dX8_decide_150 rfl rfl) ?_
  refine J.tr (s_iconst (q := 152) (v := 1) dX8_decide_151 rfl (by decide)) ?_
  refine J.tr (s_iadd (q := 153) dX8_decide_152 rfl) ?_
  refine J.tr (s_iast (q := 154) dX8_decide_153 rfl (by decide) (ha) i) ?_
  refine J.tr (s_aload_n (q := 155) dX8_decide_154 rfl rfl) ?_
  refine J.tr (s_dup (q := 156) dX8_decide_155 rfl rfl) ?_
  refine J.tr (s_gf (q := 159) (v := .int v37) dX8_decide_156 rfl fX8_213.l ((hs_ne (by decide)).trans (ho)) (by decide) (e37)) ?_
  refine J.tr (s_iconst (q := 160) (v := 1) dX8_decide_159 rfl (by decide)) ?_
  refine J.tr (s_iadd (q := 161) dX8_decide_160 rfl) ?_
  refine J.tr (s_pf (q := 164) dX8_decide_161 rfl fX8_213 ((hs_ne (by decide)).trans (ho)) (by decide) (fun _ => ⟨rfl, rfl⟩)) ?_
  refine J.tr (s_iinc (q := 167) (v := (w + (-1))) (ls' := [(3, .int (w + (-1))), (0, .ref 65), (1, .int s), (2, .int l)]) dX8_decide_164 rfl (by decide) rfl rfl rfl) ?_
  refine J.tr (s_goto (q := 58) dX8_decide_167 (by decide)) ?_
  refine J.tr (s_ls (ls' := [(0, .ref 65), (1, .int s), (2, .int l), (3, .int (w + (-1)))]) [1, 2, 3, 0] rfl) ?_
  exact J.rf

set_option maxRecDepth 20000 in
theorem j_X8_copy_oa_1 {d : Nat} (hd : 0 ≤ d) (h : AH) (f : Int32) (s : Int32) (a : Int32) (x : Nat) (y : Nat) : J false mX8_copy d 0 [(0, .ref 65), (1, .ref 87), (2, .int f), (3, .int s), (4, .int a)] [] h 3 [(0, .ref 65), (1, .ref 87), (2, .int f), (3, .int s), (4, .int a), (5, .int 0)] [] h := by
  refine J.tr (s_iconst (q := 1) (v := 0) dX8_copy_0 rfl (by decide)) ?_
  refine J.tr (s_istore (q := 3) (ls' := [(5, .int 0), (0, .ref 65), (1, .ref 87), (2, .int f), (3, .int s), (4, .int a)]) dX8_copy_1 rfl (by decide) rfl) ?_
  refine J.tr (s_ls (ls' := [(0, .ref 65), (1, .ref 87), (2, .int f), (3, .int s), (4, .int a), (5, .int 0)]) [1, 2, 3, 4, 5, 0] rfl) ?_
  exact J.rf

set_option maxRecDepth 20000 in
theorem j_X8_copy_ob_1 {d : Nat} (hd : 0 ≤ d) (h : AH) (f : Int32) (s : Int32) (a : Int32) (k : Int32) (x : Nat) (y : Nat) (c : s ≤ k) (n : Nat) (f1 : Nat → Int32) (ha : h.1 87 = ia n f1) (i : vp_in (f + s) n) : E false mX8_copy d 3 [(0, .ref 65), (1, .ref 87), (2, .int f), (3, .int s), (4, .int a), (5, .int k)] [] h (none) (hs h 87 (ia n (upd f1 (f + s).toNatClampNeg a))) := by
  refine E.st (s_iload (q := 5) dX8_copy_3 rfl rfl) ?_
  refine E.st (s_iload_n (q := 6) dX8_copy_5 rfl rfl) ?_
  refine E.st (s_icmp_ge_t (q := 28) dX8_copy_6 (by decide) c) ?_
  refine E.st (s_aload_n (q := 29) dX8_copy_28 rfl rfl) ?_
  refine E.st (s_iload_n (q := 30) dX8_copy_29 rfl rfl) ?_
  refine E.st (s_iload_n (q := 31) dX8_copy_30 rfl rfl) ?_
  refine E.st (s_iadd (q := 32) dX8_copy_31 rfl) ?_
  refine E.st (s_iload (q := 34) dX8_copy_32 rfl rfl) ?_
  refine E.st (s_iast (q := 35) dX8_copy_34 rfl (by decide) (ha) i) ?_
  exact E.v dX8_copy_35 rfl rfl rfl

set_option maxRecDepth 20000 in
theorem j_X8_copy_ob_2 {d : Nat} (hd : 0 ≤ d) (h : AH) (f : Int32) (s : Int32) (a : Int32) (k : Int32) (x : Nat) (y : Nat) (c : ¬ (s ≤ k)) (F : Nat → Value) (ho : h.1 65 = ob 8 (fo 53 F)) (e16 : F 16 = .ref 78) (n : Nat) (f1 : Nat → Int32) (ha : h.1 78 = ia n f1) (i : vp_in k n) (e : Int32) (en : (f1 k.toNatClampNeg) = e) (n1 : Nat) (f2 : Nat → Int32) (ha1 : h.1 87 = ia n1 f2) (i1 : vp_in (f + k) n1) : J false mX8_copy d 3 [(0, .ref 65), (1, .ref 87), (2, .int f), (3, .int s), (4, .int a), (5, .int k)] [] h 3 [(0, .ref 65), (1, .ref 87), (2, .int f), (3, .int s), (4, .int a), (5, .int (k + 1))] [] (hs h 87 (ia n1 (upd f2 (f + k).toNatClampNeg e))) := by
  refine J.tr (s_iload (q := 5) dX8_copy_3 rfl rfl) ?_
  refine J.tr (s_iload_n (q := 6) dX8_copy_5 rfl rfl) ?_
  refine J.tr (s_icmp_ge_f (q := 9) (tg := 28) dX8_copy_6 (by decide) rfl c) ?_
  refine J.tr (s_aload_n (q := 10) dX8_copy_9 rfl rfl) ?_
  refine J.tr (s_iload_n (q := 11) dX8_copy_10 rfl rfl) ?_
  refine J.tr (s_iload (q := 13) dX8_copy_11 rfl rfl) ?_
  refine J.tr (s_iadd (q := 14) dX8_copy_13 rfl) ?_
  refine J.tr (s_aload_n (q := 15) dX8_copy_14 rfl rfl) ?_
  refine J.tr (s_gf (q := 18) (v := .ref 78) dX8_copy_15 rfl fX8_47.l (ho) (by decide) (e16)) ?_
  refine J.tr (s_iload (q := 20) dX8_copy_18 rfl rfl) ?_
  refine J.tr (s_iald (q := 21) dX8_copy_20 rfl (by decide) (ha) i) ?_
  refine J.tr (s_nmi en) ?_
  refine J.tr (s_iast (q := 22) dX8_copy_21 rfl (by decide) (ha1) i1) ?_
  refine J.tr (s_iinc (q := 25) (v := (k + 1)) (ls' := [(5, .int (k + 1)), (0, .ref 65), (1, .ref 87), (2, .int f), (3, .int s), (4, .int a)]) dX8_copy_22 rfl (by decide) rfl rfl rfl) ?_
  refine J.tr (s_goto (q := 3) dX8_copy_25 (by decide)) ?_
  refine J.tr (s_ls (ls' := [(0, .ref 65), (1, .ref 87), (2, .int f), (3, .int s), (4, .int a), (5, .int (k + 1))]) [1, 2, 3, 4, 5, 0] rfl) ?_
  exact J.rf

set_option maxRecDepth 20000 in
theorem j_X8_copy_la_1 {d : Nat} (hd : 0 ≤ d) (h : AH) (f : Int32) (s : Int32) (a : Int32) (x : Nat) (y : Nat) : J false mX8_copy d 0 [(0, .ref 65), (1, .ref 89), (2, .int f), (3, .int s), (4, .int a)] [] h 3 [(0, .ref 65), (1, .ref 89), (2, .int f), (3, .int s), (4, .int a), (5, .int 0)] [] h := by
  refine J.tr (s_iconst (q := 1) (v := 0) dX8_copy_0 rfl (by decide)) ?_
  refine J.tr (s_istore (q := 3) (ls' := [(5, .int 0), (0, .ref 65), (1, .ref 89), (2, .int f), (3, .int s), (4, .int a)]) dX8_copy_1 rfl (by decide) rfl) ?_
  refine J.tr (s_ls (ls' := [(0, .ref 65), (1, .ref 89), (2, .int f), (3, .int s), (4, .int a), (5, .int 0)]) [1, 2, 3, 4, 5, 0] rfl) ?_
  exact J.rf

set_option maxRecDepth 20000 in
theorem j_X8_copy_lb_1 {d : Nat} (hd : 0 ≤ d) (h : AH) (f : Int32) (s : Int32) (a : Int32) (k : Int32) (x : Nat) (y : Nat) (c : s ≤ k) (n : Nat) (f1 : Nat → Int32) (ha : h.1 89 = ia n f1) (i : vp_in (f + s) n) : E false mX8_copy d 3 [(0, .ref 65), (1, .ref 89), (2, .int f), (3, .int s), (4, .int a), (5, .int k)] [] h (none) (hs h 89 (ia n (upd f1 (f + s).toNatClampNeg a))) := by
  refine E.st (s_iload (q := 5) dX8_copy_3 rfl rfl) ?_
  refine E.st (s_iload_n (q := 6) dX8_copy_5 rfl rfl) ?_
  refine E.st (s_icmp_ge_t (q := 28) dX8_copy_6 (by decide) c) ?_
  refine E.st (s_aload_n (q := 29) dX8_copy_28 rfl rfl) ?_
  refine E.st (s_iload_n (q := 30) dX8_copy_29 rfl rfl) ?_
  refine E.st (s_iload_n (q := 31) dX8_copy_30 rfl rfl) ?_
  refine E.st (s_iadd (q := 32) dX8_copy_31 rfl) ?_
  refine E.st (s_iload (q := 34) dX8_copy_32 rfl rfl) ?_
  refine E.st (s_iast (q := 35) dX8_copy_34 rfl (by decide) (ha) i) ?_
  exact E.v dX8_copy_35 rfl rfl rfl

set_option maxRecDepth 20000 in
theorem j_X8_copy_lb_2 {d : Nat} (hd : 0 ≤ d) (h : AH) (f : Int32) (s : Int32) (a : Int32) (k : Int32) (x : Nat) (y : Nat) (c : ¬ (s ≤ k)) (F : Nat → Value) (ho : h.1 65 = ob 8 (fo 53 F)) (e16 : F 16 = .ref 78) (n : Nat) (f1 : Nat → Int32) (ha : h.1 78 = ia n f1) (i : vp_in k n) (e : Int32) (en : (f1 k.toNatClampNeg) = e) (n1 : Nat) (f2 : Nat → Int32) (ha1 : h.1 89 = ia n1 f2) (i1 : vp_in (f + k) n1) : J false mX8_copy d 3 [(0, .ref 65), (1, .ref 89), (2, .int f), (3, .int s), (4, .int a), (5, .int k)] [] h 3 [(0, .ref 65), (1, .ref 89), (2, .int f), (3, .int s), (4, .int a), (5, .int (k + 1))] [] (hs h 89 (ia n1 (upd f2 (f + k).toNatClampNeg e))) := by
  refine J.tr (s_iload (q := 5) dX8_copy_3 rfl rfl) ?_
  refine J.tr (s_iload_n (q := 6) dX8_copy_5 rfl rfl) ?_
  refine J.tr (s_icmp_ge_f (q := 9) (tg := 28) dX8_copy_6 (by decide) rfl c) ?_
  refine J.tr (s_aload_n (q := 10) dX8_copy_9 rfl rfl) ?_
  refine J.tr (s_iload_n (q := 11) dX8_copy_10 rfl rfl) ?_
  refine J.tr (s_iload (q := 13) dX8_copy_11 rfl rfl) ?_
  refine J.tr (s_iadd (q := 14) dX8_copy_13 rfl) ?_
  refine J.tr (s_aload_n (q := 15) dX8_copy_14 rfl rfl) ?_
  refine J.tr (s_gf (q := 18) (v := .ref 78) dX8_copy_15 rfl fX8_47.l (ho) (by decide) (e16)) ?_
  refine J.tr (s_iload (q := 20) dX8_copy_18 rfl rfl) ?_
  refine J.tr (s_iald (q := 21) dX8_copy_20 rfl (by decide) (ha) i) ?_
  refine J.tr (s_nmi en) ?_
  refine J.tr (s_iast (q := 22) dX8_copy_21 rfl (by decide) (ha1) i1) ?_
  refine J.tr (s_iinc (q := 25) (v := (k + 1)) (ls' := [(5, .int (k + 1)), (0, .ref 65), (1, .ref 89), (2, .int f), (3, .int s), (4, .int a)]) dX8_copy_22 rfl (by decide) rfl rfl rfl) ?_
  refine J.tr (s_goto (q := 3) dX8_copy_25 (by decide)) ?_
  refine J.tr (s_ls (ls' := [(0, .ref 65), (1, .ref 89), (2, .int f), (3, .int s), (4, .int a), (5, .int (k + 1))]) [1, 2, 3, 4, 5, 0] rfl) ?_
  exact J.rf

set_option maxRecDepth 20000 in
theorem j_X8_ends_a_1 {d : Nat} (hd : 0 ≤ d) (h : AH) (s : Int32) (x : Nat) (y : Nat) (F : Nat → Value) (ho : h.1 65 = ob 8 (fo 53 F)) (v26 : Int32) (e26 : F 26 = .int v26) (c : ¬ v26 = 1) (c1 : ¬ v26 = 2) (v43 : Int32) (e43 : F 43 = .int v43) (v25 : Int32) (e25 : F 25 = .int v25) : J false mX8_ends d 0 [(0, .ref 65), (1, .int s)] [] h 65 [(0, .ref 65), (1, .int s), (2, .int 0)] [] (hs (hs (hs h 65 (ob 8 (fo 53 (va_up F 43 (.int (v43 + 1)))))) 65 (ob 8 (fo 53 (va_up (va_up F 43 (.int (v43 + 1))) 47 (.int v25))))) 65 (ob 8 (fo 53 (va_up (va_up (va_up F 43 (.int (v43 + 1))) 47 (.int v25)) 48 (.int s))))) := by
  refine J.tr (s_aload_n (q := 1) dX8_ends_0 rfl rfl) ?_
  refine J.tr (s_gf (q := 4) (v := .int v26) dX8_ends_1 rfl fX8_126.l (ho) (by decide) (e26)) ?_
  refine J.tr (s_iconst (q := 5) (v := 1) dX8_ends_4 rfl (by decide)) ?_
  refine J.tr (s_icmp_ne_t (q := 20) dX8_ends_5 (by decide) c) ?_
  refine J.tr (s_aload_n (q := 21) dX8_ends_20 rfl rfl) ?_
  refine J.tr (s_gf (q := 24) (v := .int v26) dX8_ends_21 rfl fX8_126.l (ho) (by decide) (e26)) ?_
  refine J.tr (s_iconst (q := 25) (v := 2) dX8_ends_24 rfl (by decide)) ?_
  refine J.tr (s_icmp_ne_t (q := 40) dX8_ends_25 (by decide) c1) ?_
  refine J.tr (s_aload_n (q := 41) dX8_ends_40 rfl rfl) ?_
  refine J.tr (s_dup (q := 42) dX8_ends_41 rfl rfl) ?_
  refine J.tr (s_gf (q := 45) (v := .int v43) dX8_ends_42 rfl fX8_225.l (ho) (by decide) (e43)) ?_
  refine J.tr (s_iconst (q := 46) (v := 1) dX8_ends_45 rfl (by decide)) ?_
  refine J.tr (s_iadd (q := 47) dX8_ends_46 rfl) ?_
  refine J.tr (s_pf (q := 50) dX8_ends_47 rfl fX8_225 (ho) (by decide) (fun _ => ⟨rfl, rfl⟩)) ?_
  refine J.tr (s_aload_n (q := 51) dX8_ends_50 rfl rfl) ?_
  refine J.tr (s_aload_n (q := 52) dX8_ends_51 rfl rfl) ?_
  refine J.tr (s_gf (q := 55) (v := .int v25) dX8_ends_52 rfl fX8_135.l (hs_eq) (by decide) ((up_ne (by decide)).trans (e25))) ?_
  refine J.tr (s_pf (q := 58) dX8_ends_55 rfl fX8_237 (hs_eq) (by decide) (fun _ => ⟨rfl, rfl⟩)) ?_
  refine J.tr (s_aload_n (q := 59) dX8_ends_58 rfl rfl) ?_
  refine J.tr (s_iload_n (q := 60) dX8_ends_59 rfl rfl) ?_
  refine J.tr (s_pf (q := 63) dX8_ends_60 rfl fX8_240 (hs_eq) (by decide) (fun _ => ⟨rfl, rfl⟩)) ?_
  refine J.tr (s_iconst (q := 64) (v := 0) dX8_ends_63 rfl (by decide)) ?_
  refine J.tr (s_istore_n (q := 65) (ls' := [(2, .int 0), (0, .ref 65), (1, .int s)]) dX8_ends_64 rfl (by decide) rfl) ?_
  refine J.tr (s_ls (ls' := [(0, .ref 65), (1, .int s), (2, .int 0)]) [1, 2, 0] rfl) ?_
  exact J.rf

set_option maxRecDepth 20000 in
theorem j_X8_ends_a_2 {d : Nat} (hd : 0 ≤ d) (h : AH) (s : Int32) (x : Nat) (y : Nat) (F : Nat → Value) (ho : h.1 65 = ob 8 (fo 53 F)) (v26 : Int32) (e26 : F 26 = .int v26) (c : ¬ v26 = 1) (c1 : v26 = 2) (v45 : Int32) (e45 : F 45 = .int v45) : E false mX8_ends d 0 [(0, .ref 65), (1, .int s)] [] h (some (.int 0)) (hs h 65 (ob 8 (fo 53 (va_up F 45 (.int (v45 + 1)))))) := by
  refine E.st (s_aload_n (q := 1) dX8_ends_0 rfl rfl) ?_
  refine E.st (s_gf (q := 4) (v := .int v26) dX8_ends_1 rfl fX8_126.l (ho) (by decide) (e26)) ?_
  refine E.st (s_iconst (q := 5) (v := 1) dX8_ends_4 rfl (by decide)) ?_
  refine E.st (s_icmp_ne_t (q := 20) dX8_ends_5 (by decide) c) ?_
  refine E.st (s_aload_n (q := 21) dX8_ends_20 rfl rfl) ?_
  refine E.st (s_gf (q := 24) (v := .int v26) dX8_ends_21 rfl fX8_126.l (ho) (by decide) (e26)) ?_
  refine E.st (s_iconst (q := 25) (v := 2) dX8_ends_24 rfl (by decide)) ?_
  refine E.st (s_icmp_ne_f (q := 28) (tg := 40) dX8_ends_25 (by decide) rfl c1) ?_
  refine E.st (s_aload_n (q := 29) dX8_ends_28 rfl rfl) ?_
  refine E.st (s_dup (q := 30) dX8_ends_29 rfl rfl) ?_
  refine E.st (s_gf (q := 33) (v := .int v45) dX8_ends_30 rfl fX8_231.l (ho) (by decide) (e45)) ?_
  refine E.st (s_iconst (q := 34) (v := 1) dX8_ends_33 rfl (by decide)) ?_
  refine E.st (s_iadd (q := 35) dX8_ends_34 rfl) ?_
  refine E.st (s_pf (q := 38) dX8_ends_35 rfl fX8_231 (ho) (by decide) (fun _ => ⟨rfl, rfl⟩)) ?_
  refine E.st (s_iconst (q := 39) (v := 0) dX8_ends_38 rfl (by decide)) ?_
  exact E.i dX8_ends_39 rfl rfl rfl rfl

set_option maxRecDepth 20000 in
theorem j_X8_ends_a_3 {d : Nat} (hd : 0 ≤ d) (h : AH) (s : Int32) (x : Nat) (y : Nat) (F : Nat → Value) (ho : h.1 65 = ob 8 (fo 53 F)) (v26 : Int32) (e26 : F 26 = .int v26) (c : v26 = 1) (v44 : Int32) (e44 : F 44 = .int v44) : E false mX8_ends d 0 [(0, .ref 65), (1, .int s)] [] h (some (.int 0)) (hs h 65 (ob 8 (fo 53 (va_up F 44 (.int (v44 + 1)))))) := by
  refine E.st (s_aload_n (q := 1) dX8_ends_0 rfl rfl) ?_
  refine E.st (s_gf (q := 4) (v := .int v26) dX8_ends_1 rfl fX8_126.l (ho) (by decide) (e26)) ?_
  refine E.st (s_iconst (q := 5) (v := 1) dX8_ends_4 rfl (by decide)) ?_
  refine E.st (s_icmp_ne_f (q := 8) (tg := 20) dX8_ends_5 (by decide) rfl c) ?_
  refine E.st (s_aload_n (q := 9) dX8_ends_8 rfl rfl) ?_
  refine E.st (s_dup (q := 10) dX8_ends_9 rfl rfl) ?_
  refine E.st (s_gf (q := 13) (v := .int v44) dX8_ends_10 rfl fX8_228.l (ho) (by decide) (e44)) ?_
  refine E.st (s_iconst (q := 14) (v := 1) dX8_ends_13 rfl (by decide)) ?_
  refine E.st (s_iadd (q := 15) dX8_ends_14 rfl) ?_
  refine E.st (s_pf (q := 18) dX8_ends_15 rfl fX8_228 (ho) (by decide) (fun _ => ⟨rfl, rfl⟩)) ?_
  refine E.st (s_iconst (q := 19) (v := 0) dX8_ends_18 rfl (by decide)) ?_
  exact E.i dX8_ends_19 rfl rfl rfl rfl

set_option maxRecDepth 20000 in
theorem j_X8_ends_b_1 {d : Nat} (hd : 0 ≤ d) (h : AH) (s : Int32) (k : Int32) (x : Nat) (y : Nat) (c : s ≤ k) (F : Nat → Value) (ho : h.1 65 = ob 8 (fo 53 F)) (e21 : F 21 = .ref 83) (n : Nat) (f : Nat → Int32) (ha : h.1 83 = ia n f) (i : vp_in 0 n) : J false mX8_ends d 65 [(0, .ref 65), (1, .int s), (2, .int k)] [] h 100 [(0, .ref 65), (2, .int 0)] [] (hs h 65 (ob 8 (fo 53 (va_up F 50 (.int (f (0 : Int32).toNatClampNeg)))))) := by
  refine J.tr (s_iload_n (q := 66) dX8_ends_65 rfl rfl) ?_
  refine J.tr (s_iload_n (q := 67) dX8_ends_66 rfl rfl) ?_
  refine J.tr (s_icmp_ge_t (q := 88) dX8_ends_67 (by decide) c) ?_
  refine J.tr (s_aload_n (q := 89) dX8_ends_88 rfl rfl) ?_
  refine J.tr (s_aload_n (q := 90) dX8_ends_89 rfl rfl) ?_
  refine J.tr (s_gf (q := 93) (v := .ref 83) dX8_ends_90 rfl fX8_62.l (ho) (by decide) (e21)) ?_
  refine J.tr (s_iconst (q := 94) (v := 0) dX8_ends_93 rfl (by decide)) ?_
  refine J.tr (s_iald (q := 95) dX8_ends_94 rfl (by decide) (ha) i) ?_
  refine J.tr (s_pf (q := 98) dX8_ends_95 rfl fX8_243 (ho) (by decide) (fun _ => ⟨rfl, rfl⟩)) ?_
  refine J.tr (s_iconst (q := 99) (v := 0) dX8_ends_98 rfl (by decide)) ?_
  refine J.tr (s_istore_n (q := 100) (ls' := [(2, .int 0), (0, .ref 65), (1, .int s)]) dX8_ends_99 rfl (by decide) rfl) ?_
  refine J.tr (s_ls (ls' := [(0, .ref 65), (2, .int 0)]) [1, 0] rfl) ?_
  exact J.rf

set_option maxRecDepth 20000 in
theorem j_X8_ends_b_2 {d : Nat} (hd : 0 ≤ d) (h : AH) (s : Int32) (k : Int32) (x : Nat) (y : Nat) (c : ¬ (s ≤ k)) (F : Nat → Value) (ho : h.1 65 = ob 8 (fo 53 F)) (e49 : F 49 = .ref 91) (e16 : F 16 = .ref 78) (n : Nat) (f : Nat → Int32) (ha : h.1 78 = ia n f) (i : vp_in k n) (e : Int32) (en : (f k.toNatClampNeg) = e) (n1 : Nat) (f1 : Nat → Int32) (ha1 : h.1 91 = ia n1 f1) (i1 : vp_in k n1) : J false mX8_ends d 65 [(0, .ref 65), (1, .int s), (2, .int k)] [] h 65 [(0, .ref 65), (1, .int s), (2, .int (k + 1))] [] (hs h 91 (ia n1 (upd f1 k.toNatClampNeg e))) := by
  refine J.tr (s_iload_n (q := 66) dX8_ends_65 rfl rfl) ?_
  refine J.tr (s_iload_n (q := 67) dX8_ends_66 rfl rfl) ?_
  refine J.tr (s_icmp_ge_f (q := 70) (tg := 88) dX8_ends_67 (by decide) rfl c) ?_
  refine J.tr (s_aload_n (q := 71) dX8_ends_70 rfl rfl) ?_
  refine J.tr (s_gf (q := 74) (v := .ref 91) dX8_ends_71 rfl fX8_88.l (ho) (by decide) (e49)) ?_
  refine J.tr (s_iload_n (q := 75) dX8_ends_74 rfl rfl) ?_
  refine J.tr (s_aload_n (q := 76) dX8_ends_75 rfl rfl) ?_
  refine J.tr (s_gf (q := 79) (v := .ref 78) dX8_ends_76 rfl fX8_47.l (ho) (by decide) (e16)) ?_
  refine J.tr (s_iload_n (q := 80) dX8_ends_79 rfl rfl) ?_
  refine J.tr (s_iald (q := 81) dX8_ends_80 rfl (by decide) (ha) i) ?_
  refine J.tr (s_nmi en) ?_
  refine J.tr (s_iast (q := 82) dX8_ends_81 rfl (by decide) (ha1) i1) ?_
  refine J.tr (s_iinc (q := 85) (v := (k + 1)) (ls' := [(2, .int (k + 1)), (0, .ref 65), (1, .int s)]) dX8_ends_82 rfl (by decide) rfl rfl rfl) ?_
  refine J.tr (s_goto (q := 65) dX8_ends_85 (by decide)) ?_
  refine J.tr (s_ls (ls' := [(0, .ref 65), (1, .int s), (2, .int (k + 1))]) [1, 2, 0] rfl) ?_
  exact J.rf

set_option maxRecDepth 20000 in
theorem j_X8_ends_c_1 {d : Nat} (hd : 0 ≤ d) (h : AH) (k : Int32) (x : Nat) (y : Nat) (F : Nat → Value) (ho : h.1 65 = ob 8 (fo 53 F)) (v50 : Int32) (e50 : F 50 = .int v50) (c : v50 ≤ k) : E false mX8_ends d 100 [(0, .ref 65), (2, .int k)] [] h (some (.int 1)) h := by
  refine E.st (s_iload_n (q := 101) dX8_ends_100 rfl rfl) ?_
  refine E.st (s_aload_n (q := 102) dX8_ends_101 rfl rfl) ?_
  refine E.st (s_gf (q := 105) (v := .int v50) dX8_ends_102 rfl fX8_243.l (ho) (by decide) (e50)) ?_
  refine E.st (s_icmp_ge_t (q := 138) dX8_ends_105 (by decide) c) ?_
  refine E.st (s_iconst (q := 139) (v := 1) dX8_ends_138 rfl (by decide)) ?_
  exact E.i dX8_ends_139 rfl rfl rfl rfl

set_option maxRecDepth 20000 in
theorem j_X8_ends_c_2 {d : Nat} (hd : 0 ≤ d) (h : AH) (k : Int32) (x : Nat) (y : Nat) (F : Nat → Value) (ho : h.1 65 = ob 8 (fo 53 F)) (v50 : Int32) (e50 : F 50 = .int v50) (c : ¬ (v50 ≤ k)) (e51 : F 51 = .ref 92) (e19 : F 19 = .ref 81) (n : Nat) (f : Nat → Int32) (ha : h.1 81 = ia n f) (i : vp_in k n) (e : Int32) (en : (f k.toNatClampNeg) = e) (n1 : Nat) (f1 : Nat → Int32) (ha1 : h.1 92 = ia n1 f1) (i1 : vp_in k n1) (e52 : F 52 = .ref 93) (e20 : F 20 = .ref 82) (n2 : Nat) (f2 : Nat → Int64) (ha2 : h.1 82 = la n2 f2) (i2 : vp_in k n2) (u : Int64) (en1 : (f2 k.toNatClampNeg) = u) (n3 : Nat) (f3 : Nat → Int64) (ha3 : h.1 93 = la n3 f3) (i3 : vp_in k n3) : J false mX8_ends d 100 [(0, .ref 65), (2, .int k)] [] h 100 [(0, .ref 65), (2, .int (k + 1))] [] (hs (hs h 92 (ia n1 (upd f1 k.toNatClampNeg e))) 93 (la n3 (vp_updL f3 k.toNatClampNeg u))) := by
  refine J.tr (s_iload_n (q := 101) dX8_ends_100 rfl rfl) ?_
  refine J.tr (s_aload_n (q := 102) dX8_ends_101 rfl rfl) ?_
  refine J.tr (s_gf (q := 105) (v := .int v50) dX8_ends_102 rfl fX8_243.l (ho) (by decide) (e50)) ?_
  refine J.tr (s_icmp_ge_f (q := 108) (tg := 138) dX8_ends_105 (by decide) rfl c) ?_
  refine J.tr (s_aload_n (q := 109) dX8_ends_108 rfl rfl) ?_
  refine J.tr (s_gf (q := 112) (v := .ref 92) dX8_ends_109 rfl fX8_91.l (ho) (by decide) (e51)) ?_
  refine J.tr (s_iload_n (q := 113) dX8_ends_112 rfl rfl) ?_
  refine J.tr (s_aload_n (q := 114) dX8_ends_113 rfl rfl) ?_
  refine J.tr (s_gf (q := 117) (v := .ref 81) dX8_ends_114 rfl fX8_56.l (ho) (by decide) (e19)) ?_
  refine J.tr (s_iload_n (q := 118) dX8_ends_117 rfl rfl) ?_
  refine J.tr (s_iald (q := 119) dX8_ends_118 rfl (by decide) (ha) i) ?_
  refine J.tr (s_nmi en) ?_
  refine J.tr (s_iast (q := 120) dX8_ends_119 rfl (by decide) (ha1) i1) ?_
  refine J.tr (s_aload_n (q := 121) dX8_ends_120 rfl rfl) ?_
  refine J.tr (s_gf (q := 124) (v := .ref 93) dX8_ends_121 rfl fX8_94.l ((hs_ne (by decide)).trans (ho)) (by decide) (e52)) ?_
  refine J.tr (s_iload_n (q := 125) dX8_ends_124 rfl rfl) ?_
  refine J.tr (s_aload_n (q := 126) dX8_ends_125 rfl rfl) ?_
  refine J.tr (s_gf (q := 129) (v := .ref 82) dX8_ends_126 rfl fX8_59.l ((hs_ne (by decide)).trans (ho)) (by decide) (e20)) ?_
  refine J.tr (s_iload_n (q := 130) dX8_ends_129 rfl rfl) ?_
  refine J.tr (s_lald (q := 131) dX8_ends_130 rfl ((hs_ne (by decide)).trans (ha2)) i2) ?_
  refine J.tr (s_nml en1) ?_
  refine J.tr (s_last (q := 132) dX8_ends_131 rfl ((hs_ne (by decide)).trans (ha3)) i3) ?_
  refine J.tr (s_iinc (q := 135) (v := (k + 1)) (ls' := [(2, .int (k + 1)), (0, .ref 65)]) dX8_ends_132 rfl (by decide) rfl rfl rfl) ?_
  refine J.tr (s_goto (q := 100) dX8_ends_135 (by decide)) ?_
  refine J.tr (s_ls (ls' := [(0, .ref 65), (2, .int (k + 1))]) [1, 0] rfl) ?_
  exact J.rf
