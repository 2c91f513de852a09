set_option maxRecDepth 20000 in
theorem j_X3_goOn_a_1 {d : Nat} (hd : 0 ≤ d) (h : AH)  : J false mX3_goOn d 0 [(0, .ref 8)] [] h 2 [(0, .ref 8), (1, .int 0)] [] h := by
  refine J.tr (s_iconst (q := 1) (v := 0) dX3_goOn_0 rfl (by decide)) ?_
  refine J.tr (s_istore_n (q := 2) (ls' := [(1, .int 0), (0, .ref 8)]) dX3_goOn_1 rfl (by decide) rfl) ?_
  refine J.tr (s_ls (ls' := [(0, .ref 8), (1, .int 0)]) [1, 0] rfl) ?_
  exact J.rf

set_option maxRecDepth 20000 in
theorem j_X3_goOn_b_1 {d : Nat} (hd : 0 ≤ d) (h : AH) (g : Int32) (c : 200 < g) : E false mX3_goOn d 2 [(0, .ref 8), (1, .int g)] [] h (some (.int 2)) h := by
  refine E.st (s_iload_n (q := 3) dX3_goOn_2 rfl rfl) ?_
  refine E.st (s_sipush (q := 6) (v := 200) dX3_goOn_3 rfl (by decide)) ?_
  refine E.st (s_icmp_gt_t (q := 75) dX3_goOn_6 (by decide) c) ?_
  refine E.st (s_iconst (q := 76) (v := 2) dX3_goOn_75 rfl (by decide)) ?_
  exact E.i dX3_goOn_76 rfl rfl rfl rfl

set_option maxRecDepth 20000 in
theorem j_X3_goOn_b_2 {d : Nat} (hd : 0 ≤ d) (h : AH) (g : Int32) (c : ¬ (200 < g)) (F : Nat → Value) (ho : h.1 8 = ob 3 (fo 15 F)) (v5 : Int32) (e5 : F 5 = .int v5) (c1 : ¬ v5 = 0) : E false mX3_goOn d 2 [(0, .ref 8), (1, .int g)] [] h (some (.int 2)) h := by
  refine E.st (s_iload_n (q := 3) dX3_goOn_2 rfl rfl) ?_
  refine E.st (s_sipush (q := 6) (v := 200) dX3_goOn_3 rfl (by decide)) ?_
  refine E.st (s_icmp_gt_f (q := 9) (tg := 75) dX3_goOn_6 (by decide) rfl c) ?_
  refine E.st (s_aload_n (q := 10) dX3_goOn_9 rfl rfl) ?_
  refine E.st (s_gf (q := 13) (v := .int v5) dX3_goOn_10 rfl fX3_60.l (ho) (by decide) (e5)) ?_
  refine E.st (s_if_ne_t (q := 75) dX3_goOn_13 (by decide) c1) ?_
  refine E.st (s_iconst (q := 76) (v := 2) dX3_goOn_75 rfl (by decide)) ?_
  exact E.i dX3_goOn_76 rfl rfl rfl rfl

set_option maxRecDepth 20000 in
theorem j_X3_goOn_b_3 {d : Nat} (hd : 1 ≤ d) (h : AH) (g : Int32) (c : ¬ (200 < g)) (F : Nat → Value) (ho : h.1 8 = ob 3 (fo 15 F)) (v5 : Int32) (e5 : F 5 = .int v5) (c1 : v5 = 0) (e2 : F 2 = .ref 13) (F1 : Nat → Value) (ho1 : h.1 13 = ob 0 (fo 3 F1)) (v2 : Int32) (e21 : F1 2 = .int v2) (c2 : ¬ v2 = 0) (v10 : Int32) (e10 : F 10 = .int v10) (c3 : v10 < 200) : J false mX3_goOn d 2 [(0, .ref 8), (1, .int g)] [] h 61 [(0, .ref 8), (1, .int g)] [.ref 8] h := by
  refine J.tr (s_iload_n (q := 3) dX3_goOn_2 rfl rfl) ?_
  refine J.tr (s_sipush (q := 6) (v := 200) dX3_goOn_3 rfl (by decide)) ?_
  refine J.tr (s_icmp_gt_f (q := 9) (tg := 75) dX3_goOn_6 (by decide) rfl c) ?_
  refine J.tr (s_aload_n (q := 10) dX3_goOn_9 rfl rfl) ?_
  refine J.tr (s_gf (q := 13) (v := .int v5) dX3_goOn_10 rfl fX3_60.l (ho) (by decide) (e5)) ?_
  refine J.tr (s_if_ne_f (q := 16) (tg := 75) dX3_goOn_13 (by decide) rfl c1) ?_
  refine J.tr (s_aload_n (q := 17) dX3_goOn_16 rfl rfl) ?_
  refine J.tr (s_gf (q := 20) (v := .ref 13) dX3_goOn_17 rfl fX3_21.l (ho) (by decide) (e2)) ?_
  refine J.tr (p2 := 23) (l2 := [(0, .ref 8), (1, .int g)]) (s2 := [.int 0]) (h2 := h) (s_invv (K := mX0_isEmpty) (o := 13) (as := []) (rest := []) (v := some (.int 0)) dX3_goOn_20 rfl lX3_81 (by omega) rfl (Nat.le_of_ble_eq_true rfl) rfl (Nat.le_of_ble_eq_true rfl) (ho1) (p_X0_isEmpty_1 (d := 0) (Nat.le_refl _) h 13 F1 ho1 v2 e21 c2) (fun h => nomatch h)) ?_
  refine J.tr (s_if_eq_t (q := 30) dX3_goOn_23 (by decide) (by decide)) ?_
  refine J.tr (s_aload_n (q := 31) dX3_goOn_30 rfl rfl) ?_
  refine J.tr (s_gf (q := 34) (v := .ref 13) dX3_goOn_31 rfl fX3_21.l (ho) (by decide) (e2)) ?_
  refine J.tr (p2 := 37) (l2 := [(0, .ref 8), (1, .int g)]) (s2 := [.int 0]) (h2 := h) (s_invv (K := mX0_isEmpty) (o := 13) (as := []) (rest := []) (v := some (.int 0)) dX3_goOn_34 rfl lX3_81 (by omega) rfl (Nat.le_of_ble_eq_true rfl) rfl (Nat.le_of_ble_eq_true rfl) (ho1) (p_X0_isEmpty_1 (d := 0) (Nat.le_refl _) h 13 F1 ho1 v2 e21 c2) (fun h => nomatch h)) ?_
  refine J.tr (s_if_eq_t (q := 42) dX3_goOn_37 (by decide) (by decide)) ?_
  refine J.tr (s_aload_n (q := 43) dX3_goOn_42 rfl rfl) ?_
  refine J.tr (s_gf (q := 46) (v := .int v10) dX3_goOn_43 rfl fX3_45.l (ho) (by decide) (e10)) ?_
  refine J.tr (s_sipush (q := 49) (v := 200) dX3_goOn_46 rfl (by decide)) ?_
  refine J.tr (s_icmp_lt_t (q := 60) dX3_goOn_49 (by decide) c3) ?_
  refine J.tr (s_aload_n (q := 61) dX3_goOn_60 rfl rfl) ?_
  refine J.tr (s_ls (ls' := [(0, .ref 8), (1, .int g)]) [0, 1] rfl) ?_
  exact J.rf

set_option maxRecDepth 20000 in
theorem j_X3_goOn_b_4 {d : Nat} (hd : 1 ≤ d) (h : AH) (g : Int32) (c : ¬ (200 < g)) (F : Nat → Value) (ho : h.1 8 = ob 3 (fo 15 F)) (v5 : Int32) (e5 : F 5 = .int v5) (c1 : v5 = 0) (e2 : F 2 = .ref 13) (F1 : Nat → Value) (ho1 : h.1 13 = ob 0 (fo 3 F1)) (v2 : Int32) (e21 : F1 2 = .int v2) (c2 : ¬ v2 = 0) (v10 : Int32) (e10 : F 10 = .int v10) (c3 : ¬ (v10 < 200)) : J false mX3_goOn d 2 [(0, .ref 8), (1, .int g)] [] h 2 [(0, .ref 8), (1, .int (g + 1))] [] (hs h 8 (ob 3 (fo 15 (va_up F 5 (.int 1))))) := by
  refine J.tr (s_iload_n (q := 3) dX3_goOn_2 rfl rfl) ?_
  refine J.tr (s_sipush (q := 6) (v := 200) dX3_goOn_3 rfl (by decide)) ?_
  refine J.tr (s_icmp_gt_f (q := 9) (tg := 75) dX3_goOn_6 (by decide) rfl c) ?_
  refine J.tr (s_aload_n (q := 10) dX3_goOn_9 rfl rfl) ?_
  refine J.tr (s_gf (q := 13) (v := .int v5) dX3_goOn_10 rfl fX3_60.l (ho) (by decide) (e5)) ?_
  refine J.tr (s_if_ne_f (q := 16) (tg := 75) dX3_goOn_13 (by decide) rfl c1) ?_
  refine J.tr (s_aload_n (q := 17) dX3_goOn_16 rfl rfl) ?_
  refine J.tr (s_gf (q := 20) (v := .ref 13) dX3_goOn_17 rfl fX3_21.l (ho) (by decide) (e2)) ?_
  refine J.tr (p2 := 23) (l2 := [(0, .ref 8), (1, .int g)]) (s2 := [.int 0]) (h2 := h) (s_invv (K := mX0_isEmpty) (o := 13) (as := []) (rest := []) (v := some (.int 0)) dX3_goOn_20 rfl lX3_81 (by omega) rfl (Nat.le_of_ble_eq_true rfl) rfl (Nat.le_of_ble_eq_true rfl) (ho1) (p_X0_isEmpty_1 (d := 0) (Nat.le_refl _) h 13 F1 ho1 v2 e21 c2) (fun h => nomatch h)) ?_
  refine J.tr (s_if_eq_t (q := 30) dX3_goOn_23 (by decide) (by decide)) ?_
  refine J.tr (s_aload_n (q := 31) dX3_goOn_30 rfl rfl) ?_
  refine J.tr (s_gf (q := 34) (v := .ref 13) dX3_goOn_31 rfl fX3_21.l (ho) (by decide) (e2)) ?_
  refine J.tr (p2 := 37) (l2 := [(0, .ref 8), (1, .int g)]) (s2 := [.int 0]) (h2 := h) (s_invv (K := mX0_isEmpty) (o := 13) (as := []) (rest := []) (v := some (.int 0)) dX3_goOn_34 rfl lX3_81 (by omega) rfl (Nat.le_of_ble_eq_true rfl) rfl (Nat.le_of_ble_eq_true rfl) (ho1) (p_X0_isEmpty_1 (d := 0) (Nat.le_refl _) h 13 F1 ho1 v2 e21 c2) (fun h => nomatch h)) ?_
  refine J.tr (s_if_eq_t (q := 42) dX3_goOn_37 (by decide) (by decide)) ?_
  refine J.tr (s_aload_n (q := 43) dX3_goOn_42 rfl rfl) ?_
  refine J.tr (s_gf (q := 46) (v := .int v10) dX3_goOn_43 rfl fX3_45.l (ho) (by decide) (e10)) ?_
  refine J.tr (s_sipush (q := 49) (v := 200) dX3_goOn_46 rfl (by decide)) ?_
  refine J.tr (s_icmp_lt_f (q := 52) (tg := 60) dX3_goOn_49 (by decide) rfl c3) ?_
  refine J.tr (s_aload_n (q := 53) dX3_goOn_52 rfl rfl) ?_
  refine J.tr (s_iconst (q := 54) (v := 1) dX3_goOn_53 rfl (by decide)) ?_
  refine J.tr (s_pf (q := 57) dX3_goOn_54 rfl fX3_60 (ho) (by decide) (fun _ => ⟨rfl, rfl⟩)) ?_
  refine J.tr (s_goto (q := 69) dX3_goOn_57 (by decide)) ?_
  refine J.tr (s_iinc (q := 72) (v := (g + 1)) (ls' := [(1, .int (g + 1)), (0, .ref 8)]) dX3_goOn_69 rfl (by decide) rfl rfl rfl) ?_
  refine J.tr (s_goto (q := 2) dX3_goOn_72 (by decide)) ?_
  refine J.tr (s_ls (ls' := [(0, .ref 8), (1, .int (g + 1))]) [1, 0] rfl) ?_
  exact J.rf

set_option maxRecDepth 20000 in
theorem j_X3_goOn_b_5 {d : Nat} (hd : 1 ≤ d) (h : AH) (g : Int32) (c : ¬ (200 < g)) (F : Nat → Value) (ho : h.1 8 = ob 3 (fo 15 F)) (v5 : Int32) (e5 : F 5 = .int v5) (c1 : v5 = 0) (e2 : F 2 = .ref 13) (F1 : Nat → Value) (ho1 : h.1 13 = ob 0 (fo 3 F1)) (v2 : Int32) (e21 : F1 2 = .int v2) (c2 : v2 = 0) : J false mX3_goOn d 2 [(0, .ref 8), (1, .int g)] [] h 27 [(0, .ref 8), (1, .int g)] [.ref 8] h := by
  refine J.tr (s_iload_n (q := 3) dX3_goOn_2 rfl rfl) ?_
  refine J.tr (s_sipush (q := 6) (v := 200) dX3_goOn_3 rfl (by decide)) ?_
  refine J.tr (s_icmp_gt_f (q := 9) (tg := 75) dX3_goOn_6 (by decide) rfl c) ?_
  refine J.tr (s_aload_n (q := 10) dX3_goOn_9 rfl rfl) ?_
  refine J.tr (s_gf (q := 13) (v := .int v5) dX3_goOn_10 rfl fX3_60.l (ho) (by decide) (e5)) ?_
  refine J.tr (s_if_ne_f (q := 16) (tg := 75) dX3_goOn_13 (by decide) rfl c1) ?_
  refine J.tr (s_aload_n (q := 17) dX3_goOn_16 rfl rfl) ?_
  refine J.tr (s_gf (q := 20) (v := .ref 13) dX3_goOn_17 rfl fX3_21.l (ho) (by decide) (e2)) ?_
  refine J.tr (p2 := 23) (l2 := [(0, .ref 8), (1, .int g)]) (s2 := [.int 1]) (h2 := h) (s_invv (K := mX0_isEmpty) (o := 13) (as := []) (rest := []) (v := some (.int 1)) dX3_goOn_20 rfl lX3_81 (by omega) rfl (Nat.le_of_ble_eq_true rfl) rfl (Nat.le_of_ble_eq_true rfl) (ho1) (p_X0_isEmpty_2 (d := 0) (Nat.le_refl _) h 13 F1 ho1 v2 e21 c2) (fun h => nomatch h)) ?_
  refine J.tr (s_if_eq_f (q := 26) (tg := 30) dX3_goOn_23 (by decide) rfl (by decide)) ?_
  refine J.tr (s_aload_n (q := 27) dX3_goOn_26 rfl rfl) ?_
  refine J.tr (s_ls (ls' := [(0, .ref 8), (1, .int g)]) [0, 1] rfl) ?_
  exact J.rf

set_option maxRecDepth 20000 in
theorem j_X3_goOn_c_1 {d : Nat} (hd : 1 ≤ d) (h : AH) (g : Int32) (F : Nat → Value) (ho : h.1 8 = ob 3 (fo 15 F)) (e2 : F 2 = .ref 13) (F1 : Nat → Value) (ho1 : h.1 13 = ob 0 (fo 3 F1)) (v2 : Int32) (e21 : F1 2 = .int v2) (c : ¬ v2 = 0) (v10 : Int32) (e10 : F 10 = .int v10) (c1 : v10 < 200) : J false mX3_goOn d 30 [(0, .ref 8), (1, .int g)] [] h 61 [(0, .ref 8), (1, .int g)] [.ref 8] h := by
  refine J.tr (s_aload_n (q := 31) dX3_goOn_30 rfl rfl) ?_
  refine J.tr (s_gf (q := 34) (v := .ref 13) dX3_goOn_31 rfl fX3_21.l (ho) (by decide) (e2)) ?_
  refine J.tr (p2 := 37) (l2 := [(0, .ref 8), (1, .int g)]) (s2 := [.int 0]) (h2 := h) (s_invv (K := mX0_isEmpty) (o := 13) (as := []) (rest := []) (v := some (.int 0)) dX3_goOn_34 rfl lX3_81 (by omega) rfl (Nat.le_of_ble_eq_true rfl) rfl (Nat.le_of_ble_eq_true rfl) (ho1) (p_X0_isEmpty_1 (d := 0) (Nat.le_refl _) h 13 F1 ho1 v2 e21 c) (fun h => nomatch h)) ?_
  refine J.tr (s_if_eq_t (q := 42) dX3_goOn_37 (by decide) (by decide)) ?_
  refine J.tr (s_aload_n (q := 43) dX3_goOn_42 rfl rfl) ?_
  refine J.tr (s_gf (q := 46) (v := .int v10) dX3_goOn_43 rfl fX3_45.l (ho) (by decide) (e10)) ?_
  refine J.tr (s_sipush (q := 49) (v := 200) dX3_goOn_46 rfl (by decide)) ?_
  refine J.tr (s_icmp_lt_t (q := 60) dX3_goOn_49 (by decide) c1) ?_
  refine J.tr (s_aload_n (q := 61) dX3_goOn_60 rfl rfl) ?_
  refine J.tr (s_ls (ls' := [(0, .ref 8), (1, .int g)]) [0, 1] rfl) ?_
  exact J.rf

set_option maxRecDepth 20000 in
theorem j_X3_goOn_c_2 {d : Nat} (hd : 1 ≤ d) (h : AH) (g : Int32) (F : Nat → Value) (ho : h.1 8 = ob 3 (fo 15 F)) (e2 : F 2 = .ref 13) (F1 : Nat → Value) (ho1 : h.1 13 = ob 0 (fo 3 F1)) (v2 : Int32) (e21 : F1 2 = .int v2) (c : ¬ v2 = 0) (v10 : Int32) (e10 : F 10 = .int v10) (c1 : ¬ (v10 < 200)) : J false mX3_goOn d 30 [(0, .ref 8), (1, .int g)] [] h 2 [(0, .ref 8), (1, .int (g + 1))] [] (hs h 8 (ob 3 (fo 15 (va_up F 5 (.int 1))))) := by
  refine J.tr (s_aload_n (q := 31) dX3_goOn_30 rfl rfl) ?_
  refine J.tr (s_gf (q := 34) (v := .ref 13) dX3_goOn_31 rfl fX3_21.l (ho) (by decide) (e2)) ?_
  refine J.tr (p2 := 37) (l2 := [(0, .ref 8), (1, .int g)]) (s2 := [.int 0]) (h2 := h) (s_invv (K := mX0_isEmpty) (o := 13) (as := []) (rest := []) (v := some (.int 0)) dX3_goOn_34 rfl lX3_81 (by omega) rfl (Nat.le_of_ble_eq_true rfl) rfl (Nat.le_of_ble_eq_true rfl) (ho1) (p_X0_isEmpty_1 (d := 0) (Nat.le_refl _) h 13 F1 ho1 v2 e21 c) (fun h => nomatch h)) ?_
  refine J.tr (s_if_eq_t (q := 42) dX3_goOn_37 (by decide) (by decide)) ?_
  refine J.tr (s_aload_n (q := 43) dX3_goOn_42 rfl rfl) ?_
  refine J.tr (s_gf (q := 46) (v := .int v10) dX3_goOn_43 rfl fX3_45.l (ho) (by decide) (e10)) ?_
  refine J.tr (s_sipush (q := 49) (v := 200) dX3_goOn_46 rfl (by decide)) ?_
  refine J.tr (s_icmp_lt_f (q := 52) (tg := 60) dX3_goOn_49 (by decide) rfl c1) ?_
  refine J.tr (s_aload_n (q := 53) dX3_goOn_52 rfl rfl) ?_
  refine J.tr (s_iconst (q := 54) (v := 1) dX3_goOn_53 rfl (by decide)) ?_
  refine J.tr (s_pf (q := 57) dX3_goOn_54 rfl fX3_60 (ho) (by decide) (fun _ => ⟨rfl, rfl⟩)) ?_
  refine J.tr (s_goto (q := 69) dX3_goOn_57 (by decide)) ?_
  refine J.tr (s_iinc (q := 72) (v := (g + 1)) (ls' := [(1, .int (g + 1)), (0, .ref 8)]) dX3_goOn_69 rfl (by decide) rfl rfl rfl) ?_
  refine J.tr (s_goto (q := 2) dX3_goOn_72 (by decide)) ?_
  refine J.tr (s_ls (ls' := [(0, .ref 8), (1, .int (g + 1))]) [1, 0] rfl) ?_
  exact J.rf

set_option maxRecDepth 20000 in
theorem j_X3_goOn_c_3 {d : Nat} (hd : 1 ≤ d) (h : AH) (g : Int32) (F : Nat → Value) (ho : h.1 8 = ob 3 (fo 15 F)) (e2 : F 2 = .ref 13) (F1 : Nat → Value) (ho1 : h.1 13 = ob 0 (fo 3 F1)) (v2 : Int32) (e21 : F1 2 = .int v2) (c : v2 = 0) : E false mX3_goOn d 30 [(0, .ref 8), (1, .int g)] [] h (some (.int 0)) h := by
  refine E.st (s_aload_n (q := 31) dX3_goOn_30 rfl rfl) ?_
  refine E.st (s_gf (q := 34) (v := .ref 13) dX3_goOn_31 rfl fX3_21.l (ho) (by decide) (e2)) ?_
  refine E.st (p2 := 37) (l2 := [(0, .ref 8), (1, .int g)]) (s2 := [.int 1]) (h2 := h) (s_invv (K := mX0_isEmpty) (o := 13) (as := []) (rest := []) (v := some (.int 1)) dX3_goOn_34 rfl lX3_81 (by omega) rfl (Nat.le_of_ble_eq_true rfl) rfl (Nat.le_of_ble_eq_true rfl) (ho1) (p_X0_isEmpty_2 (d := 0) (Nat.le_refl _) h 13 F1 ho1 v2 e21 c) (fun h => nomatch h)) ?_
  refine E.st (s_if_eq_f (q := 40) (tg := 42) dX3_goOn_37 (by decide) rfl (by decide)) ?_
  refine E.st (s_iconst (q := 41) (v := 0) dX3_goOn_40 rfl (by decide)) ?_
  exact E.i dX3_goOn_41 rfl rfl rfl rfl

set_option maxRecDepth 20000 in
theorem j_X3_goOn_d_1 {d : Nat} (hd : 0 ≤ d) (h : AH) (g : Int32) (r : Int32) (c : r = 0) : J false mX3_goOn d 64 [(0, .ref 8), (1, .int g)] [.int r] h 2 [(0, .ref 8), (1, .int (g + 1))] [] h := by
  refine J.tr (s_if_eq_t (q := 69) dX3_goOn_64 (by decide) c) ?_
  refine J.tr (s_iinc (q := 72) (v := (g + 1)) (ls' := [(1, .int (g + 1)), (0, .ref 8)]) dX3_goOn_69 rfl (by decide) rfl rfl rfl) ?_
  refine J.tr (s_goto (q := 2) dX3_goOn_72 (by decide)) ?_
  refine J.tr (s_ls (ls' := [(0, .ref 8), (1, .int (g + 1))]) [1, 0] rfl) ?_
  exact J.rf

set_option maxRecDepth 20000 in
theorem j_X3_goOn_d_2 {d : Nat} (hd : 0 ≤ d) (h : AH) (g : Int32) (r : Int32) (c : ¬ (r = 0)) : E false mX3_goOn d 64 [(0, .ref 8), (1, .int g)] [.int r] h (some (.int 1)) h := by
  refine E.st (s_if_eq_f (q := 67) (tg := 69) dX3_goOn_64 (by decide) rfl c) ?_
  refine E.st (s_iconst (q := 68) (v := 1) dX3_goOn_67 rfl (by decide)) ?_
  exact E.i dX3_goOn_68 rfl rfl rfl rfl

set_option maxRecDepth 20000 in
theorem j_X3_openNextWindow_a_1 {d : Nat} (hd : 1 ≤ d) (h : AH) (F : Nat → Value) (ho : h.1 8 = ob 3 (fo 15 F)) (e3 : F 3 = .ref 16) (F1 : Nat → Value) (ho1 : h.1 16 = ob 0 (fo 3 F1)) (v2 : Int32) (e2 : F1 2 = .int v2) (c : ¬ v2 = 0) (v9 : Int32) (e9 : F 9 = .int v9) (v8 : Int32) (e8 : F 8 = .int v8) (e21 : F 2 = .ref 13) : J false mX3_openNextWindow d 0 [(0, .ref 8)] [] h 31 [(0, .ref 8)] [.ref 16, .ref 13] (hs h 8 (ob 3 (fo 15 (va_up F 9 (.int (v9 + v8)))))) := by
  refine J.tr (s_aload_n (q := 1) dX3_openNextWindow_0 rfl rfl) ?_
  refine J.tr (s_gf (q := 4) (v := .ref 16) dX3_openNextWindow_1 rfl fX3_25.l (ho) (by decide) (e3)) ?_
  refine J.tr (p2 := 7) (l2 := [(0, .ref 8)]) (s2 := [.int 0]) (h2 := h) (s_invv (K := mX0_isEmpty) (o := 16) (as := []) (rest := []) (v := some (.int 0)) dX3_openNextWindow_4 rfl lX3_81 (by omega) rfl (Nat.le_of_ble_eq_true rfl) rfl (Nat.le_of_ble_eq_true rfl) (ho1) (p_X0_isEmpty_1 (d := 0) (Nat.le_refl _) h 16 F1 ho1 v2 e2 c) (fun h => nomatch h)) ?_
  refine J.tr (s_if_ne_f (q := 10) (tg := 34) dX3_openNextWindow_7 (by decide) rfl (by decide)) ?_
  refine J.tr (s_aload_n (q := 11) dX3_openNextWindow_10 rfl rfl) ?_
  refine J.tr (s_dup (q := 12) dX3_openNextWindow_11 rfl rfl) ?_
  refine J.tr (s_gf (q := 15) (v := .int v9) dX3_openNextWindow_12 rfl fX3_74.l (ho) (by decide) (e9)) ?_
  refine J.tr (s_aload_n (q := 16) dX3_openNextWindow_15 rfl rfl) ?_
  refine J.tr (s_gf (q := 19) (v := .int v8) dX3_openNextWindow_16 rfl fX3_28.l (ho) (by decide) (e8)) ?_
  refine J.tr (s_iadd (q := 20) dX3_openNextWindow_19 rfl) ?_
  refine J.tr (s_pf (q := 23) dX3_openNextWindow_20 rfl fX3_74 (ho) (by decide) (fun _ => ⟨rfl, rfl⟩)) ?_
  refine J.tr (s_aload_n (q := 24) dX3_openNextWindow_23 rfl rfl) ?_
  refine J.tr (s_gf (q := 27) (v := .ref 13) dX3_openNextWindow_24 rfl fX3_21.l (hs_eq) (by decide) ((up_ne (by decide)).trans (e21))) ?_
  refine J.tr (s_aload_n (q := 28) dX3_openNextWindow_27 rfl rfl) ?_
  refine J.tr (s_gf (q := 31) (v := .ref 16) dX3_openNextWindow_28 rfl fX3_25.l (hs_eq) (by decide) ((up_ne (by decide)).trans (e3))) ?_
  exact J.rf

set_option maxRecDepth 20000 in
theorem j_X3_openNextWindow_a_2 {d : Nat} (hd : 1 ≤ d) (h : AH) (F : Nat → Value) (ho : h.1 8 = ob 3 (fo 15 F)) (e3 : F 3 = .ref 16) (F1 : Nat → Value) (ho1 : h.1 16 = ob 0 (fo 3 F1)) (v2 : Int32) (e2 : F1 2 = .int v2) (c : v2 = 0) : E false mX3_openNextWindow d 0 [(0, .ref 8)] [] h (none) h := by
  refine E.st (s_aload_n (q := 1) dX3_openNextWindow_0 rfl rfl) ?_
  refine E.st (s_gf (q := 4) (v := .ref 16) dX3_openNextWindow_1 rfl fX3_25.l (ho) (by decide) (e3)) ?_
  refine E.st (p2 := 7) (l2 := [(0, .ref 8)]) (s2 := [.int 1]) (h2 := h) (s_invv (K := mX0_isEmpty) (o := 16) (as := []) (rest := []) (v := some (.int 1)) dX3_openNextWindow_4 rfl lX3_81 (by omega) rfl (Nat.le_of_ble_eq_true rfl) rfl (Nat.le_of_ble_eq_true rfl) (ho1) (p_X0_isEmpty_2 (d := 0) (Nat.le_refl _) h 16 F1 ho1 v2 e2 c) (fun h => nomatch h)) ?_
  refine E.st (s_if_ne_t (q := 34) dX3_openNextWindow_7 (by decide) (by decide)) ?_
  exact E.v dX3_openNextWindow_34 rfl rfl rfl

set_option maxRecDepth 20000 in
theorem j_X3_openNextWindow_b_1 {d : Nat} (hd : 0 ≤ d) (h : AH)  : E false mX3_openNextWindow d 34 [(0, .ref 8)] [] h (none) h := by
  exact E.v dX3_openNextWindow_34 rfl rfl rfl

set_option maxRecDepth 20000 in
theorem j_X0_takeAllOf_a_1 {d : Nat} (hd : 0 ≤ d) (h : AH) (F : Nat → Value) (ho : h.1 16 = ob 0 (fo 3 F)) (v2 : Int32) (e2 : F 2 = .int v2) : J false mX0_takeAllOf d 0 [(0, .ref 13), (1, .ref 16)] [] h 5 [(0, .ref 13), (1, .ref 16), (2, .int v2)] [] h := by
  refine J.tr (s_aload_n (q := 1) dX0_takeAllOf_0 rfl rfl) ?_
  refine J.tr (s_gf (q := 4) (v := .int v2) dX0_takeAllOf_1 rfl fX0_19.l (ho) (by decide) (e2)) ?_
  refine J.tr (s_istore_n (q := 5) (ls' := [(2, .int v2), (0, .ref 13), (1, .ref 16)]) dX0_takeAllOf_4 rfl (by decide) rfl) ?_
  refine J.tr (s_ls (ls' := [(0, .ref 13), (1, .ref 16), (2, .int v2)]) [1, 2, 0] rfl) ?_
  exact J.rf

set_option maxRecDepth 20000 in
theorem j_X0_takeAllOf_b_1 {d : Nat} (hd : 0 ≤ d) (h : AH) (n : Int32) (c : n ≤ 0) : E false mX0_takeAllOf d 5 [(0, .ref 13), (1, .ref 16), (2, .int n)] [] h (none) h := by
  refine E.st (s_iload_n (q := 6) dX0_takeAllOf_5 rfl rfl) ?_
  refine E.st (s_if_le_t (q := 31) dX0_takeAllOf_6 (by decide) c) ?_
  exact E.v dX0_takeAllOf_31 rfl rfl rfl

set_option maxRecDepth 20000 in
theorem j_X0_takeAllOf_b_2 {d : Nat} (hd : 1 ≤ d) (h : AH) (n : Int32) (c : ¬ (n ≤ 0)) (F : Nat → Value) (ho : h.1 16 = ob 0 (fo 3 F)) (v2 : Int32) (e2 : F 2 = .int v2) (c1 : ¬ (v2 ≤ 0)) (e0 : F 0 = .ref 17) (n1 : Nat) (f : Nat → Int64) (ha : h.1 17 = la n1 f) (c2 : ¬ ((nI n1) < v2)) (c3 : vp_in (v2 - 1) n1) (e1 : F 1 = .ref 18) (n2 : Nat) (f1 : Nat → Int32) (ha1 : h.1 18 = ia n2 f1) (c4 : ¬ ((nI n2) < v2)) (c5 : vp_in (v2 - 1) n2) (F1 : Nat → Value) (ho1 : h.1 13 = ob 0 (fo 3 F1)) (v21 : Int32) (e21 : F1 2 = .int v21) (e11 : F1 1 = .ref 15) (n3 : Nat) (f2 : Nat → Int32) (ha2 : h.1 15 = ia n3 f2) (c6 : ¬ ((nI n3) ≤ v21)) (e01 : F1 0 = .ref 14) (n4 : Nat) (f3 : Nat → Int64) (ha3 : h.1 14 = la n4 f3) (c7 : vp_in v21 n4) (c8 : vp_in v21 n3) : J false mX0_takeAllOf d 5 [(0, .ref 13), (1, .ref 16), (2, .int n)] [] h 5 [(0, .ref 13), (1, .ref 16), (2, .int (n + (-1)))] [] (hs (hs (hs (hs h 14 (la n4 (vp_updL f3 v21.toNatClampNeg (f (v2 - 1).toNatClampNeg)))) 15 (ia n3 (upd f2 v21.toNatClampNeg (f1 (v2 - 1).toNatClampNeg)))) 13 (ob 0 (fo 3 (va_up F1 2 (.int (v21 + 1)))))) 16 (ob 0 (fo 3 (va_up F 2 (.int (v2 - 1)))))) := by
  refine J.tr (s_iload_n (q := 6) dX0_takeAllOf_5 rfl rfl) ?_
  refine J.tr (s_if_le_f (q := 9) (tg := 31) dX0_takeAllOf_6 (by decide) rfl c) ?_
  refine J.tr (s_aload_n (q := 10) dX0_takeAllOf_9 rfl rfl) ?_
  refine J.tr (s_aload_n (q := 11) dX0_takeAllOf_10 rfl rfl) ?_
  refine J.tr (p2 := 14) (l2 := [(0, .ref 13), (1, .ref 16), (2, .int n)]) (s2 := [.long (f (v2 - 1).toNatClampNeg), .ref 13]) (h2 := h) (s_invv (K := mX0_lastAlternatives) (o := 16) (as := []) (rest := [.ref 13]) (v := some (.long (f (v2 - 1).toNatClampNeg))) dX0_takeAllOf_11 rfl lX0_23 (by omega) rfl (Nat.le_of_ble_eq_true rfl) rfl (Nat.le_of_ble_eq_true rfl) (ho) (p_X0_lastAlternatives_3 (d := 0) (Nat.le_refl _) h 16 F ho v2 e2 c1 17 e0 n1 f ha c2 c3) (fun h => nomatch h)) ?_
  refine J.tr (s_aload_n (q := 15) dX0_takeAllOf_14 rfl rfl) ?_
  refine J.tr (p2 := 18) (l2 := [(0, .ref 13), (1, .ref 16), (2, .int n)]) (s2 := [.int (f1 (v2 - 1).toNatClampNeg), .long (f (v2 - 1).toNatClampNeg), .ref 13]) (h2 := h) (s_invv (K := mX0_lastLength) (o := 16) (as := []) (rest := [.long (f (v2 - 1).toNatClampNeg), .ref 13]) (v := some (.int (f1 (v2 - 1).toNatClampNeg))) dX0_takeAllOf_15 rfl lX0_27 (by omega) rfl (Nat.le_of_ble_eq_true rfl) rfl (Nat.le_of_ble_eq_true rfl) (ho) (p_X0_lastLength_3 (d := 0) (Nat.le_refl _) h 16 F ho v2 e2 c1 18 e1 n2 f1 ha1 (by decide) c4 c5) (fun h => nomatch h)) ?_
  refine J.tr (p2 := 21) (l2 := [(0, .ref 13), (1, .ref 16), (2, .int n)]) (s2 := []) (h2 := (hs (hs (hs h 14 (la n4 (vp_updL f3 v21.toNatClampNeg (f (v2 - 1).toNatClampNeg)))) 15 (ia n3 (upd f2 v21.toNatClampNeg (f1 (v2 - 1).toNatClampNeg)))) 13 (ob 0 (fo 3 (va_up F1 2 (.int (v21 + 1))))))) (s_invv (K := mX0_put) (o := 13) (as := [.long (f (v2 - 1).toNatClampNeg), .int (f1 (v2 - 1).toNatClampNeg)]) (rest := []) (v := none) dX0_takeAllOf_18 rfl lX0_31 (by omega) rfl (Nat.le_of_ble_eq_true rfl) rfl (Nat.le_of_ble_eq_true rfl) (ho1) (p_X0_put_2 (d := 0) (Nat.le_refl _) h 13 (f (v2 - 1).toNatClampNeg) (f1 (v2 - 1).toNatClampNeg) F1 ho1 v21 e21 15 e11 n3 f2 ha2 (by decide) c6 14 e01 n4 f3 ha3 c7 c8) (fun h => nomatch h)) ?_
  refine J.tr (s_aload_n (q := 22) dX0_takeAllOf_21 rfl rfl) ?_
  refine J.tr (p2 := 25) (l2 := [(0, .ref 13), (1, .ref 16), (2, .int n)]) (s2 := []) (h2 := (hs (hs (hs (hs h 14 (la n4 (vp_updL f3 v21.toNatClampNeg (f (v2 - 1).toNatClampNeg)))) 15 (ia n3 (upd f2 v21.toNatClampNeg (f1 (v2 - 1).toNatClampNeg)))) 13 (ob 0 (fo 3 (va_up F1 2 (.int (v21 + 1)))))) 16 (ob 0 (fo 3 (va_up F 2 (.int (v2 - 1))))))) (s_invv (K := mX0_dropLast) (o := 16) (as := []) (rest := []) (v := none) dX0_takeAllOf_22 rfl lX0_35 (by omega) rfl (Nat.le_of_ble_eq_true rfl) rfl (Nat.le_of_ble_eq_true rfl) ((hs_ne (by decide)).trans ((hs_ne (by decide)).trans ((hs_ne (by decide)).trans (ho)))) (p_X0_dropLast_2 (d := 0) (Nat.le_refl _) (hs (hs (hs h 14 (la n4 (vp_updL f3 v21.toNatClampNeg (f (v2 - 1).toNatClampNeg)))) 15 (ia n3 (upd f2 v21.toNatClampNeg (f1 (v2 - 1).toNatClampNeg)))) 13 (ob 0 (fo 3 (va_up F1 2 (.int (v21 + 1)))))) 16 F ((hs_ne (by decide)).trans ((hs_ne (by decide)).trans ((hs_ne (by decide)).trans (ho)))) v2 e2 c1) (fun h => nomatch h)) ?_
  refine J.tr (s_iinc (q := 28) (v := (n + (-1))) (ls' := [(2, .int (n + (-1))), (0, .ref 13), (1, .ref 16)]) dX0_takeAllOf_25 rfl (by decide) rfl rfl rfl) ?_
  refine J.tr (s_goto (q := 5) dX0_takeAllOf_28 (by decide)) ?_
  refine J.tr (s_ls (ls' := [(0, .ref 13), (1, .ref 16), (2, .int (n + (-1)))]) [1, 2, 0] rfl) ?_
  exact J.rf

set_option maxRecDepth 20000 in
theorem j_X3_comesToValue_a_1 {d : Nat} (hd : 1 ≤ d) (h : AH) (F : Nat → Value) (ho : h.1 8 = ob 3 (fo 15 F)) (e2 : F 2 = .ref 13) (F1 : Nat → Value) (ho1 : h.1 13 = ob 0 (fo 3 F1)) (v2 : Int32) (e21 : F1 2 = .int v2) (c : ¬ (v2 ≤ 0)) (e0 : F1 0 = .ref 14) (n : Nat) (f : Nat → Int64) (ha : h.1 14 = la n f) (c1 : ¬ ((nI n) < v2)) (c2 : vp_in (v2 - 1) n) (e1 : F1 1 = .ref 15) (n1 : Nat) (f1 : Nat → Int32) (ha1 : h.1 15 = ia n1 f1) (c3 : ¬ ((nI n1) < v2)) (c4 : vp_in (v2 - 1) n1) (v10 : Int32) (e10 : F 10 = .int v10) (e01 : F 0 = .ref 19) (v6 : Int32) (e6 : F 6 = .int v6) (v7 : Int32) (e7 : F 7 = .int v7) (c5 : v7 = 1) (v9 : Int32) (e9 : F 9 = .int v9) : J false mX3_comesToValue d 0 [(0, .ref 8)] [] h 53 [(0, .ref 8), (1, .long (f (v2 - 1).toNatClampNeg)), (3, .int (f1 (v2 - 1).toNatClampNeg)), (4, .int (200 - v10))] [.int (if ((f1 (v2 - 1).toNatClampNeg) + (200 - v10)) < (v9 - 1) then ((f1 (v2 - 1).toNatClampNeg) + (200 - v10)) else (v9 - 1)), .long (f (v2 - 1).toNatClampNeg), .int v6, .ref 19] (hs h 13 (ob 0 (fo 3 (va_up F1 2 (.int (v2 - 1)))))) := by
  refine J.tr (s_aload_n (q := 1) dX3_comesToValue_0 rfl rfl) ?_
  refine J.tr (s_gf (q := 4) (v := .ref 13) dX3_comesToValue_1 rfl fX3_21.l (ho) (by decide) (e2)) ?_
  refine J.tr (p2 := 7) (l2 := [(0, .ref 8)]) (s2 := [.long (f (v2 - 1).toNatClampNeg)]) (h2 := h) (s_invv (K := mX0_lastAlternatives) (o := 13) (as := []) (rest := []) (v := some (.long (f (v2 - 1).toNatClampNeg))) dX3_comesToValue_4 rfl lX3_95 (by omega) rfl (Nat.le_of_ble_eq_true rfl) rfl (Nat.le_of_ble_eq_true rfl) (ho1) (p_X0_lastAlternatives_3 (d := 0) (Nat.le_refl _) h 13 F1 ho1 v2 e21 c 14 e0 n f ha c1 c2) (fun h => nomatch h)) ?_
  refine J.tr (s_lstore_n (q := 8) (ls' := [(1, .long (f (v2 - 1).toNatClampNeg)), (0, .ref 8)]) dX3_comesToValue_7 rfl (by decide) rfl) ?_
  refine J.tr (s_aload_n (q := 9) dX3_comesToValue_8 rfl rfl) ?_
  refine J.tr (s_gf (q := 12) (v := .ref 13) dX3_comesToValue_9 rfl fX3_21.l (ho) (by decide) (e2)) ?_
  refine J.tr (p2 := 15) (l2 := [(1, .long (f (v2 - 1).toNatClampNeg)), (0, .ref 8)]) (s2 := [.int (f1 (v2 - 1).toNatClampNeg)]) (h2 := h) (s_invv (K := mX0_lastLength) (o := 13) (as := []) (rest := []) (v := some (.int (f1 (v2 - 1).toNatClampNeg))) dX3_comesToValue_12 rfl lX3_99 (by omega) rfl (Nat.le_of_ble_eq_true rfl) rfl (Nat.le_of_ble_eq_true rfl) (ho1) (p_X0_lastLength_3 (d := 0) (Nat.le_refl _) h 13 F1 ho1 v2 e21 c 15 e1 n1 f1 ha1 (by decide) c3 c4) (fun h => nomatch h)) ?_
  refine J.tr (s_istore_n (q := 16) (ls' := [(3, .int (f1 (v2 - 1).toNatClampNeg)), (1, .long (f (v2 - 1).toNatClampNeg)), (0, .ref 8)]) dX3_comesToValue_15 rfl (by decide) rfl) ?_
  refine J.tr (s_aload_n (q := 17) dX3_comesToValue_16 rfl rfl) ?_
  refine J.tr (s_gf (q := 20) (v := .ref 13) dX3_comesToValue_17 rfl fX3_21.l (ho) (by decide) (e2)) ?_
  refine J.tr (p2 := 23) (l2 := [(3, .int (f1 (v2 - 1).toNatClampNeg)), (1, .long (f (v2 - 1).toNatClampNeg)), (0, .ref 8)]) (s2 := []) (h2 := (hs h 13 (ob 0 (fo 3 (va_up F1 2 (.int (v2 - 1))))))) (s_invv (K := mX0_dropLast) (o := 13) (as := []) (rest := []) (v := none) dX3_comesToValue_20 rfl lX3_103 (by omega) rfl (Nat.le_of_ble_eq_true rfl) rfl (Nat.le_of_ble_eq_true rfl) (ho1) (p_X0_dropLast_2 (d := 0) (Nat.le_refl _) h 13 F1 ho1 v2 e21 c) (fun h => nomatch h)) ?_
  refine J.tr (s_sipush (q := 26) (v := 200) dX3_comesToValue_23 rfl (by decide)) ?_
  refine J.tr (s_aload_n (q := 27) dX3_comesToValue_26 rfl rfl) ?_
  refine J.tr (s_gf (q := 30) (v := .int v10) dX3_comesToValue_27 rfl fX3_45.l ((hs_ne (by decide)).trans (ho)) (by decide) (e10)) ?_
  refine J.tr (s_isub (q := 31) dX3_comesToValue_30 rfl) ?_
  refine J.tr (s_istore (q := 33) (ls' := [(4, .int (200 - v10)), (3, .int (f1 (v2 - 1).toNatClampNeg)), (1, .long (f (v2 - 1).toNatClampNeg)), (0, .ref 8)]) dX3_comesToValue_31 rfl (by decide) rfl) ?_
  refine J.tr (s_aload_n (q := 34) dX3_comesToValue_33 rfl rfl) ?_
  refine J.tr (s_gf (q := 37) (v := .ref 19) dX3_comesToValue_34 rfl fX3_37.l ((hs_ne (by decide)).trans (ho)) (by decide) (e01)) ?_
  refine J.tr (s_aload_n (q := 38) dX3_comesToValue_37 rfl rfl) ?_
  refine J.tr (s_gf (q := 41) (v := .int v6) dX3_comesToValue_38 rfl fX3_68.l ((hs_ne (by decide)).trans (ho)) (by decide) (e6)) ?_
  refine J.tr (s_lload_n (q := 42) dX3_comesToValue_41 rfl rfl) ?_
  refine J.tr (s_aload_n (q := 43) dX3_comesToValue_42 rfl rfl) ?_
  refine J.tr (p2 := 46) (l2 := [(4, .int (200 - v10)), (3, .int (f1 (v2 - 1).toNatClampNeg)), (1, .long (f (v2 - 1).toNatClampNeg)), (0, .ref 8)]) (s2 := [.int (v9 - 1), .long (f (v2 - 1).toNatClampNeg), .int v6, .ref 19]) (h2 := (hs h 13 (ob 0 (fo 3 (va_up F1 2 (.int (v2 - 1))))))) (s_invv (K := mX3_mostDecisions) (o := 8) (as := []) (rest := [.long (f (v2 - 1).toNatClampNeg), .int v6, .ref 19]) (v := some (.int (v9 - 1))) dX3_comesToValue_43 rfl lX3_106 (by omega) rfl (Nat.le_of_ble_eq_true rfl) rfl (Nat.le_of_ble_eq_true rfl) ((hs_ne (by decide)).trans (ho)) (p_X3_mostDecisions_1 (d := 0) (Nat.le_refl _) (hs h 13 (ob 0 (fo 3 (va_up F1 2 (.int (v2 - 1)))))) 8 F ((hs_ne (by decide)).trans (ho)) v7 e7 c5 v9 e9) (fun h => nomatch h)) ?_
  refine J.tr (s_iload_n (q := 47) dX3_comesToValue_46 rfl rfl) ?_
  refine J.tr (s_iload (q := 49) dX3_comesToValue_47 rfl rfl) ?_
  refine J.tr (s_iadd (q := 50) dX3_comesToValue_49 rfl) ?_
  refine J.tr (s_mmin (q := 53) dX3_comesToValue_50 rfl (gm gi_wsL_law0_r19 (List.mem_of_getElem? (i := 1) rfl)) (by omega) (Nat.le_of_ble_eq_true rfl)) ?_
  refine J.tr (s_ls (ls' := [(0, .ref 8), (1, .long (f (v2 - 1).toNatClampNeg)), (3, .int (f1 (v2 - 1).toNatClampNeg)), (4, .int (200 - v10))]) [3, 2, 1, 0] rfl) ?_
  exact J.rf

set_option maxRecDepth 20000 in
theorem j_X3_comesToValue_a_2 {d : Nat} (hd : 1 ≤ d) (h : AH) (F : Nat → Value) (ho : h.1 8 = ob 3 (fo 15 F)) (e2 : F 2 = .ref 13) (F1 : Nat → Value) (ho1 : h.1 13 = ob 0 (fo 3 F1)) (v2 : Int32) (e21 : F1 2 = .int v2) (c : ¬ (v2 ≤ 0)) (e0 : F1 0 = .ref 14) (n : Nat) (f : Nat → Int64) (ha : h.1 14 = la n f) (c1 : ¬ ((nI n) < v2)) (c2 : vp_in (v2 - 1) n) (e1 : F1 1 = .ref 15) (n1 : Nat) (f1 : Nat → Int32) (ha1 : h.1 15 = ia n1 f1) (c3 : ¬ ((nI n1) < v2)) (c4 : vp_in (v2 - 1) n1) (v10 : Int32) (e10 : F 10 = .int v10) (e01 : F 0 = .ref 19) (v6 : Int32) (e6 : F 6 = .int v6) (v7 : Int32) (e7 : F 7 = .int v7) (c5 : v7 = 2) (v8 : Int32) (e8 : F 8 = .int v8) : J false mX3_comesToValue d 0 [(0, .ref 8)] [] h 53 [(0, .ref 8), (1, .long (f (v2 - 1).toNatClampNeg)), (3, .int (f1 (v2 - 1).toNatClampNeg)), (4, .int (200 - v10))] [.int (if ((f1 (v2 - 1).toNatClampNeg) + (200 - v10)) < v8 then ((f1 (v2 - 1).toNatClampNeg) + (200 - v10)) else v8), .long (f (v2 - 1).toNatClampNeg), .int v6, .ref 19] (hs h 13 (ob 0 (fo 3 (va_up F1 2 (.int (v2 - 1)))))) := by
  refine J.tr (s_aload_n (q := 1) dX3_comesToValue_0 rfl rfl) ?_
  refine J.tr (s_gf (q := 4) (v := .ref 13) dX3_comesToValue_1 rfl fX3_21.l (ho) (by decide) (e2)) ?_
  refine J.tr (p2 := 7) (l2 := [(0, .ref 8)]) (s2 := [.long (f (v2 - 1).toNatClampNeg)]) (h2 := h) (s_invv (K := mX0_lastAlternatives) (o := 13) (as := []) (rest := []) (v := some (.long (f (v2 - 1).toNatClampNeg))) dX3_comesToValue_4 rfl lX3_95 (by omega) rfl (Nat.le_of_ble_eq_true rfl) rfl (Nat.le_of_ble_eq_true rfl) (ho1) (p_X0_lastAlternatives_3 (d := 0) (Nat.le_refl _) h 13 F1 ho1 v2 e21 c 14 e0 n f ha c1 c2) (fun h => nomatch h)) ?_
  refine J.tr (s_lstore_n (q := 8) (ls' := [(1, .long (f (v2 - 1).toNatClampNeg)), (0, .ref 8)]) dX3_comesToValue_7 rfl (by decide) rfl) ?_
  refine J.tr (s_aload_n (q := 9) dX3_comesToValue_8 rfl rfl) ?_
  refine J.tr (s_gf (q := 12) (v := .ref 13) dX3_comesToValue_9 rfl fX3_21.l (ho) (by decide) (e2)) ?_
  refine J.tr (p2 := 15) (l2 := [(1, .long (f (v2 - 1).toNatClampNeg)), (0, .ref 8)]) (s2 := [.int (f1 (v2 - 1).toNatClampNeg)]) (h2 := h) (s_invv (K := mX0_lastLength) (o := 13) (as := []) (rest := []) (v := some (.int (f1 (v2 - 1).toNatClampNeg))) dX3_comesToValue_12 rfl lX3_99 (by omega) rfl (Nat.le_of_ble_eq_true rfl) rfl (Nat.le_of_ble_eq_true rfl) (ho1) (p_X0_lastLength_3 (d := 0) (Nat.le_refl _) h 13 F1 ho1 v2 e21 c 15 e1 n1 f1 ha1 (by decide) c3 c4) (fun h => nomatch h)) ?_
  refine J.tr (s_istore_n (q := 16) (ls' := [(3, .int (f1 (v2 - 1).toNatClampNeg)), (1, .long (f (v2 - 1).toNatClampNeg)), (0, .ref 8)]) dX3_comesToValue_15 rfl (by decide) rfl) ?_
  refine J.tr (s_aload_n (q := 17) dX3_comesToValue_16 rfl rfl) ?_
  refine J.tr (s_gf (q := 20) (v := .ref 13) dX3_comesToValue_17 rfl fX3_21.l (ho) (by decide) (e2)) ?_
  refine J.tr (p2 := 23) (l2 := [(3, .int (f1 (v2 - 1).toNatClampNeg)), (1, .long (f (v2 - 1).toNatClampNeg)), (0, .ref 8)]) (s2 := []) (h2 := (hs h 13 (ob 0 (fo 3 (va_up F1 2 (.int (v2 - 1))))))) (s_invv (K := mX0_dropLast) (o := 13) (as := []) (rest := []) (v := none) dX3_comesToValue_20 rfl lX3_103 (by omega) rfl (Nat.le_of_ble_eq_true rfl) rfl (Nat.le_of_ble_eq_true rfl) (ho1) (p_X0_dropLast_2 (d := 0) (Nat.le_refl _) h 13 F1 ho1 v2 e21 c) (fun h => nomatch h)) ?_
  refine J.tr (s_sipush (q := 26) (v := 200) dX3_comesToValue_23 rfl (by decide)) ?_
  refine J.tr (s_aload_n (q := 27) dX3_comesToValue_26 rfl rfl) ?_
  refine J.tr (s_gf (q := 30) (v := .int v10) dX3_comesToValue_27 rfl fX3_45.l ((hs_ne (by decide)).trans (ho)) (by decide) (e10)) ?_
  refine J.tr (s_isub (q := 31) dX3_comesToValue_30 rfl) ?_
  refine J.tr (s_istore (q := 33) (ls' := [(4, .int (200 - v10)), (3, .int (f1 (v2 - 1).toNatClampNeg)), (1, .long (f (v2 - 1).toNatClampNeg)), (0, .ref 8)]) dX3_comesToValue_31 rfl (by decide) rfl) ?_
  refine J.tr (s_aload_n (q := 34) dX3_comesToValue_33 rfl rfl) ?_
  refine J.tr (s_gf (q := 37) (v := .ref 19) dX3_comesToValue_34 rfl fX3_37.l ((hs_ne (by decide)).trans (ho)) (by decide) (e01)) ?_
  refine J.tr (s_aload_n (q := 38) dX3_comesToValue_37 rfl rfl) ?_
  refine J.tr (s_gf (q := 41) (v := .int v6) dX3_comesToValue_38 rfl fX3_68.l ((hs_ne (by decide)).trans (ho)) (by decide) (e6)) ?_
  refine J.tr (s_lload_n (q := 42) dX3_comesToValue_41 rfl rfl) ?_
  refine J.tr (s_aload_n (q := 43) dX3_comesToValue_42 rfl rfl) ?_
  refine J.tr (p2 := 46) (l2 := [(4, .int (200 - v10)), (3, .int (f1 (v2 - 1).toNatClampNeg)), (1, .long (f (v2 - 1).toNatClampNeg)), (0, .ref 8)]) (s2 := [.int v8, .long (f (v2 - 1).toNatClampNeg), .int v6, .ref 19]) (h2 := (hs h 13 (ob 0 (fo 3 (va_up F1 2 (.int (v2 - 1))))))) (s_invv (K := mX3_mostDecisions) (o := 8) (as := []) (rest := [.long (f (v2 - 1).toNatClampNeg), .int v6, .ref 19]) (v := some (.int v8)) dX3_comesToValue_43 rfl lX3_106 (by omega) rfl (Nat.le_of_ble_eq_true rfl) rfl (Nat.le_of_ble_eq_true rfl) ((hs_ne (by decide)).trans (ho)) (p_X3_mostDecisions_2 (d := 0) (Nat.le_refl _) (hs h 13 (ob 0 (fo 3 (va_up F1 2 (.int (v2 - 1)))))) 8 F ((hs_ne (by decide)).trans (ho)) v7 e7 c5 v8 e8) (fun h => nomatch h)) ?_
  refine J.tr (s_iload_n (q := 47) dX3_comesToValue_46 rfl rfl) ?_
  refine J.tr (s_iload (q := 49) dX3_comesToValue_47 rfl rfl) ?_
  refine J.tr (s_iadd (q := 50) dX3_comesToValue_49 rfl) ?_
  refine J.tr (s_mmin (q := 53) dX3_comesToValue_50 rfl (gm gi_wsL_law0_r19 (List.mem_of_getElem? (i := 1) rfl)) (by omega) (Nat.le_of_ble_eq_true rfl)) ?_
  refine J.tr (s_ls (ls' := [(0, .ref 8), (1, .long (f (v2 - 1).toNatClampNeg)), (3, .int (f1 (v2 - 1).toNatClampNeg)), (4, .int (200 - v10))]) [3, 2, 1, 0] rfl) ?_
  exact J.rf

set_option maxRecDepth 20000 in
theorem j_X3_comesToValue_a_3 {d : Nat} (hd : 1 ≤ d) (h : AH) (F : Nat → Value) (ho : h.1 8 = ob 3 (fo 15 F)) (e2 : F 2 = .ref 13) (F1 : Nat → Value) (ho1 : h.1 13 = ob 0 (fo 3 F1)) (v2 : Int32) (e21 : F1 2 = .int v2) (c : ¬ (v2 ≤ 0)) (e0 : F1 0 = .ref 14) (n : Nat) (f : Nat → Int64) (ha : h.1 14 = la n f) (c1 : ¬ ((nI n) < v2)) (c2 : vp_in (v2 - 1) n) (e1 : F1 1 = .ref 15) (n1 : Nat) (f1 : Nat → Int32) (ha1 : h.1 15 = ia n1 f1) (c3 : ¬ ((nI n1) < v2)) (c4 : vp_in (v2 - 1) n1) (v10 : Int32) (e10 : F 10 = .int v10) (e01 : F 0 = .ref 19) (v6 : Int32) (e6 : F 6 = .int v6) (v7 : Int32) (e7 : F 7 = .int v7) (c5 : ¬ v7.toInt = 1) (c6 : ¬ v7.toInt = 2) : J false mX3_comesToValue d 0 [(0, .ref 8)] [] h 53 [(0, .ref 8), (1, .long (f (v2 - 1).toNatClampNeg)), (3, .int (f1 (v2 - 1).toNatClampNeg)), (4, .int (200 - v10))] [.int (if ((f1 (v2 - 1).toNatClampNeg) + (200 - v10)) < 60 then ((f1 (v2 - 1).toNatClampNeg) + (200 - v10)) else 60), .long (f (v2 - 1).toNatClampNeg), .int v6, .ref 19] (hs h 13 (ob 0 (fo 3 (va_up F1 2 (.int (v2 - 1)))))) := by
  refine J.tr (s_aload_n (q := 1) dX3_comesToValue_0 rfl rfl) ?_
  refine J.tr (s_gf (q := 4) (v := .ref 13) dX3_comesToValue_1 rfl fX3_21.l (ho) (by decide) (e2)) ?_
  refine J.tr (p2 := 7) (l2 := [(0, .ref 8)]) (s2 := [.long (f (v2 - 1).toNatClampNeg)]) (h2 := h) (s_invv (K := mX0_lastAlternatives) (o := 13) (as := []) (rest := []) (v := some (.long (f (v2 - 1).toNatClampNeg))) dX3_comesToValue_4 rfl lX3_95 (by omega) rfl (Nat.le_of_ble_eq_true rfl) rfl (Nat.le_of_ble_eq_true rfl) (ho1) (p_X0_lastAlternatives_3 (d := 0) (Nat.le_refl _) h 13 F1 ho1 v2 e21 c 14 e0 n f ha c1 c2) (fun h => nomatch h)) ?_
  refine J.tr (s_lstore_n (q := 8) (ls' := [(1, .long (f (v2 - 1).toNatClampNeg)), (0, .ref 8)]) dX3_comesToValue_7 rfl (by decide) rfl) ?_
  refine J.tr (s_aload_n (q := 9) dX3_comesToValue_8 rfl rfl) ?_
  refine J.tr (s_gf (q := 12) (v := .ref 13) dX3_comesToValue_9 rfl fX3_21.l (ho) (by decide) (e2)) ?_
  refine J.tr (p2 := 15) (l2 := [(1, .long (f (v2 - 1).toNatClampNeg)), (0, .ref 8)]) (s2 := [.int (f1 (v2 - 1).toNatClampNeg)]) (h2 := h) (s_invv (K := mX0_lastLength) (o := 13) (as := []) (rest := []) (v := some (.int (f1 (v2 - 1).toNatClampNeg))) dX3_comesToValue_12 rfl lX3_99 (by omega) rfl (Nat.le_of_ble_eq_true rfl) rfl (Nat.le_of_ble_eq_true rfl) (ho1) (p_X0_lastLength_3 (d := 0) (Nat.le_refl _) h 13 F1 ho1 v2 e21 c 15 e1 n1 f1 ha1 (by decide) c3 c4) (fun h => nomatch h)) ?_
  refine J.tr (s_istore_n (q := 16) (ls' := [(3, .int (f1 (v2 - 1).toNatClampNeg)), (1, .long (f (v2 - 1).toNatClampNeg)), (0, .ref 8)]) dX3_comesToValue_15 rfl (by decide) rfl) ?_
  refine J.tr (s_aload_n (q := 17) dX3_comesToValue_16 rfl rfl) ?_
  refine J.tr (s_gf (q := 20) (v := .ref 13) dX3_comesToValue_17 rfl fX3_21.l (ho) (by decide) (e2)) ?_
  refine J.tr (p2 := 23) (l2 := [(3, .int (f1 (v2 - 1).toNatClampNeg)), (1, .long (f (v2 - 1).toNatClampNeg)), (0, .ref 8)]) (s2 := []) (h2 := (hs h 13 (ob 0 (fo 3 (va_up F1 2 (.int (v2 - 1))))))) (s_invv (K := mX0_dropLast) (o := 13) (as := []) (rest := []) (v := none) dX3_comesToValue_20 rfl lX3_103 (by omega) rfl (Nat.le_of_ble_eq_true rfl) rfl (Nat.le_of_ble_eq_true rfl) (ho1) (p_X0_dropLast_2 (d := 0) (Nat.le_refl _) h 13 F1 ho1 v2 e21 c) (fun h => nomatch h)) ?_
  refine J.tr (s_sipush (q := 26) (v := 200) dX3_comesToValue_23 rfl (by decide)) ?_
  refine J.tr (s_aload_n (q := 27) dX3_comesToValue_26 rfl rfl) ?_
  refine J.tr (s_gf (q := 30) (v := .int v10) dX3_comesToValue_27 rfl fX3_45.l ((hs_ne (by decide)).trans (ho)) (by decide) (e10)) ?_
  refine J.tr (s_isub (q := 31) dX3_comesToValue_30 rfl) ?_
  refine J.tr (s_istore (q := 33) (ls' := [(4, .int (200 - v10)), (3, .int (f1 (v2 - 1).toNatClampNeg)), (1, .long (f (v2 - 1).toNatClampNeg)), (0, .ref 8)]) dX3_comesToValue_31 rfl (by decide) rfl) ?_
  refine J.tr (s_aload_n (q := 34) dX3_comesToValue_33 rfl rfl) ?_
  refine J.tr (s_gf (q := 37) (v := .ref 19) dX3_comesToValue_34 rfl fX3_37.l ((hs_ne (by decide)).trans (ho)) (by decide) (e01)) ?_
  refine J.tr (s_aload_n (q := 38) dX3_comesToValue_37 rfl rfl) ?_
  refine J.tr (s_gf (q := 41) (v := .int v6) dX3_comesToValue_38 rfl fX3_68.l ((hs_ne (by decide)).trans (ho)) (by decide) (e6)) ?_
  refine J.tr (s_lload_n (q := 42) dX3_comesToValue_41 rfl rfl) ?_
  refine J.tr (s_aload_n (q := 43) dX3_comesToValue_42 rfl rfl) ?_
  refine J.tr (p2 := 46) (l2 := [(4, .int (200 - v10)), (3, .int (f1 (v2 - 1).toNatClampNeg)), (1, .long (f (v2 - 1).toNatClampNeg)), (0, .ref 8)]) (s2 := [.int 60, .long (f (v2 - 1).toNatClampNeg), .int v6, .ref 19]) (h2 := (hs h 13 (ob 0 (fo 3 (va_up F1 2 (.int (v2 - 1))))))) (s_invv (K := mX3_mostDecisions) (o := 8) (as := []) (rest := [.long (f (v2 - 1).toNatClampNeg), .int v6, .ref 19]) (v := some (.int 60)) dX3_comesToValue_43 rfl lX3_106 (by omega) rfl (Nat.le_of_ble_eq_true rfl) rfl (Nat.le_of_ble_eq_true rfl) ((hs_ne (by decide)).trans (ho)) (p_X3_mostDecisions_3 (d := 0) (Nat.le_refl _) (hs h 13 (ob 0 (fo 3 (va_up F1 2 (.int (v2 - 1)))))) 8 F ((hs_ne (by decide)).trans (ho)) v7 e7 c5 c6) (fun h => nomatch h)) ?_
  refine J.tr (s_iload_n (q := 47) dX3_comesToValue_46 rfl rfl) ?_
  refine J.tr (s_iload (q := 49) dX3_comesToValue_47 rfl rfl) ?_
  refine J.tr (s_iadd (q := 50) dX3_comesToValue_49 rfl) ?_
  refine J.tr (s_mmin (q := 53) dX3_comesToValue_50 rfl (gm gi_wsL_law0_r19 (List.mem_of_getElem? (i := 1) rfl)) (by omega) (Nat.le_of_ble_eq_true rfl)) ?_
  refine J.tr (s_ls (ls' := [(0, .ref 8), (1, .long (f (v2 - 1).toNatClampNeg)), (3, .int (f1 (v2 - 1).toNatClampNeg)), (4, .int (200 - v10))]) [3, 2, 1, 0] rfl) ?_
  exact J.rf

set_option maxRecDepth 20000 in
theorem j_X3_comesToValue_b_1 {d : Nat} (hd : 2 ≤ d) (h : AH) (a : Int64) (l : Int32) (f : Int32) (e : Int32) (F : Nat → Value) (ho : h.1 8 = ob 3 (fo 15 F)) (e0 : F 0 = .ref 19) (F1 : Nat → Value) (ho1 : h.1 19 = ob 6 (fo 10 F1)) (e1 : F1 1 = .ref 20) (F2 : Nat → Value) (ho2 : h.1 20 = ob 5 (fo 12 F2)) (v7 : Int32) (e7 : F2 7 = .int v7) (v10 : Int32) (e10 : F 10 = .int v10) (c : (v7 - l) < f) : J false mX3_comesToValue d 56 [(0, .ref 8), (1, .long a), (3, .int l), (4, .int f)] [.int e] h 97 [(0, .ref 8), (1, .long a), (3, .int l), (5, .int e)] [.int l, .long a, .ref 8] (hs h 8 (ob 3 (fo 15 (va_up F 10 (.int (v10 + (v7 - l))))))) := by
  refine J.tr (s_istore (q := 58) (ls' := [(5, .int e), (0, .ref 8), (1, .long a), (3, .int l), (4, .int f)]) dX3_comesToValue_56 rfl (by decide) rfl) ?_
  refine J.tr (s_aload_n (q := 59) dX3_comesToValue_58 rfl rfl) ?_
  refine J.tr (s_gf (q := 62) (v := .ref 19) dX3_comesToValue_59 rfl fX3_37.l (ho) (by decide) (e0)) ?_
  refine J.tr (p2 := 65) (l2 := [(5, .int e), (0, .ref 8), (1, .long a), (3, .int l), (4, .int f)]) (s2 := [.int v7]) (h2 := h) (s_invv (K := mX6_decisions) (o := 19) (as := []) (rest := []) (v := some (.int v7)) dX3_comesToValue_62 rfl lX3_119 (by omega) rfl (Nat.le_of_ble_eq_true rfl) rfl (Nat.le_of_ble_eq_true rfl) (ho1) (p_X6_decisions_1 (d := 1) (Nat.le_refl _) h 19 F1 ho1 20 e1 F2 ho2 v7 e7) (fun h => nomatch h)) ?_
  refine J.tr (s_iload_n (q := 66) dX3_comesToValue_65 rfl rfl) ?_
  refine J.tr (s_isub (q := 67) dX3_comesToValue_66 rfl) ?_
  refine J.tr (s_istore (q := 69) (ls' := [(6, .int (v7 - l)), (5, .int e), (0, .ref 8), (1, .long a), (3, .int l), (4, .int f)]) dX3_comesToValue_67 rfl (by decide) rfl) ?_
  refine J.tr (s_aload_n (q := 70) dX3_comesToValue_69 rfl rfl) ?_
  refine J.tr (s_dup (q := 71) dX3_comesToValue_70 rfl rfl) ?_
  refine J.tr (s_gf (q := 74) (v := .int v10) dX3_comesToValue_71 rfl fX3_45.l (ho) (by decide) (e10)) ?_
  refine J.tr (s_iload (q := 76) dX3_comesToValue_74 rfl rfl) ?_
  refine J.tr (s_iadd (q := 77) dX3_comesToValue_76 rfl) ?_
  refine J.tr (s_pf (q := 80) dX3_comesToValue_77 rfl fX3_45 (ho) (by decide) (fun _ => ⟨rfl, rfl⟩)) ?_
  refine J.tr (s_iload (q := 82) dX3_comesToValue_80 rfl rfl) ?_
  refine J.tr (s_iload (q := 84) dX3_comesToValue_82 rfl rfl) ?_
  refine J.tr (s_icmp_lt_t (q := 94) dX3_comesToValue_84 (by decide) c) ?_
  refine J.tr (s_aload_n (q := 95) dX3_comesToValue_94 rfl rfl) ?_
  refine J.tr (s_lload_n (q := 96) dX3_comesToValue_95 rfl rfl) ?_
  refine J.tr (s_iload_n (q := 97) dX3_comesToValue_96 rfl rfl) ?_
  refine J.tr (s_ls (ls' := [(0, .ref 8), (1, .long a), (3, .int l), (5, .int e)]) [2, 3, 4, 1] rfl) ?_
  exact J.rf

set_option maxRecDepth 20000 in
theorem j_X3_comesToValue_b_2 {d : Nat} (hd : 2 ≤ d) (h : AH) (a : Int64) (l : Int32) (f : Int32) (e : Int32) (F : Nat → Value) (ho : h.1 8 = ob 3 (fo 15 F)) (e0 : F 0 = .ref 19) (F1 : Nat → Value) (ho1 : h.1 19 = ob 6 (fo 10 F1)) (e1 : F1 1 = .ref 20) (F2 : Nat → Value) (ho2 : h.1 20 = ob 5 (fo 12 F2)) (v7 : Int32) (e7 : F2 7 = .int v7) (v10 : Int32) (e10 : F 10 = .int v10) (c : ¬ ((v7 - l) < f)) : E false mX3_comesToValue d 56 [(0, .ref 8), (1, .long a), (3, .int l), (4, .int f)] [.int e] h (some (.int 0)) (hs (hs h 8 (ob 3 (fo 15 (va_up F 10 (.int (v10 + (v7 - l))))))) 8 (ob 3 (fo 15 (va_up (va_up F 10 (.int (v10 + (v7 - l)))) 5 (.int 1))))) := by
  refine E.st (s_istore (q := 58) (ls' := [(5, .int e), (0, .ref 8), (1, .long a), (3, .int l), (4, .int f)]) dX3_comesToValue_56 rfl (by decide) rfl) ?_
  refine E.st (s_aload_n (q := 59) dX3_comesToValue_58 rfl rfl) ?_
  refine E.st (s_gf (q := 62) (v := .ref 19) dX3_comesToValue_59 rfl fX3_37.l (ho) (by decide) (e0)) ?_
  refine E.st (p2 := 65) (l2 := [(5, .int e), (0, .ref 8), (1, .long a), (3, .int l), (4, .int f)]) (s2 := [.int v7]) (h2 := h) (s_invv (K := mX6_decisions) (o := 19) (as := []) (rest := []) (v := some (.int v7)) dX3_comesToValue_62 rfl lX3_119 (by omega) rfl (Nat.le_of_ble_eq_true rfl) rfl (Nat.le_of_ble_eq_true rfl) (ho1) (p_X6_decisions_1 (d := 1) (Nat.le_refl _) h 19 F1 ho1 20 e1 F2 ho2 v7 e7) (fun h => nomatch h)) ?_
  refine E.st (s_iload_n (q := 66) dX3_comesToValue_65 rfl rfl) ?_
  refine E.st (s_isub (q := 67) dX3_comesToValue_66 rfl) ?_
  refine E.st (s_istore (q := 69) (ls' := [(6, .int (v7 - l)), (5, .int e), (0, .ref 8), (1, .long a), (3, .int l), (4, .int f)]) dX3_comesToValue_67 rfl (by decide) rfl) ?_
  refine E.st (s_aload_n (q := 70) dX3_comesToValue_69 rfl rfl) ?_
  refine E.st (s_dup (q := 71) dX3_comesToValue_70 rfl rfl) ?_
  refine E.st (s_gf (q := 74) (v := .int v10) dX3_comesToValue_71 rfl fX3_45.l (ho) (by decide) (e10)) ?_
  refine E.st (s_iload (q := 76) dX3_comesToValue_74 rfl rfl) ?_
  refine E.st (s_iadd (q := 77) dX3_comesToValue_76 rfl) ?_
  refine E.st (s_pf (q := 80) dX3_comesToValue_77 rfl fX3_45 (ho) (by decide) (fun _ => ⟨rfl, rfl⟩)) ?_
  refine E.st (s_iload (q := 82) dX3_comesToValue_80 rfl rfl) ?_
  refine E.st (s_iload (q := 84) dX3_comesToValue_82 rfl rfl) ?_
  refine E.st (s_icmp_lt_f (q := 87) (tg := 94) dX3_comesToValue_84 (by decide) rfl c) ?_
  refine E.st (s_aload_n (q := 88) dX3_comesToValue_87 rfl rfl) ?_
  refine E.st (s_iconst (q := 89) (v := 1) dX3_comesToValue_88 rfl (by decide)) ?_
  refine E.st (s_pf (q := 92) dX3_comesToValue_89 rfl fX3_60 (hs_eq) (by decide) (fun _ => ⟨rfl, rfl⟩)) ?_
  refine E.st (s_iconst (q := 93) (v := 0) dX3_comesToValue_92 rfl (by decide)) ?_
  exact E.i dX3_comesToValue_93 rfl rfl rfl rfl

set_option maxRecDepth 20000 in
theorem j_X3_comesToValue_c_1 {d : Nat} (hd : 0 ≤ d) (h : AH) (a : Int64) (l : Int32) (e : Int32) (F : Nat → Value) (ho : h.1 8 = ob 3 (fo 15 F)) (v10 : Int32) (e10 : F 10 = .int v10) : J false mX3_comesToValue d 100 [(0, .ref 8), (1, .long a), (3, .int l), (5, .int e)] [] h 114 [(0, .ref 8)] [.long a, .int e, .ref 8] (hs h 8 (ob 3 (fo 15 (va_up F 10 (.int (v10 + 1)))))) := by
  refine J.tr (s_aload_n (q := 101) dX3_comesToValue_100 rfl rfl) ?_
  refine J.tr (s_dup (q := 102) dX3_comesToValue_101 rfl rfl) ?_
  refine J.tr (s_gf (q := 105) (v := .int v10) dX3_comesToValue_102 rfl fX3_45.l (ho) (by decide) (e10)) ?_
  refine J.tr (s_iconst (q := 106) (v := 1) dX3_comesToValue_105 rfl (by decide)) ?_
  refine J.tr (s_iadd (q := 107) dX3_comesToValue_106 rfl) ?_
  refine J.tr (s_pf (q := 110) dX3_comesToValue_107 rfl fX3_45 (ho) (by decide) (fun _ => ⟨rfl, rfl⟩)) ?_
  refine J.tr (s_aload_n (q := 111) dX3_comesToValue_110 rfl rfl) ?_
  refine J.tr (s_iload (q := 113) dX3_comesToValue_111 rfl rfl) ?_
  refine J.tr (s_lload_n (q := 114) dX3_comesToValue_113 rfl rfl) ?_
  refine J.tr (s_ls (ls' := [(0, .ref 8)]) [0] rfl) ?_
  exact J.rf

set_option maxRecDepth 20000 in
theorem j_X3_comesToValue_d_1 {d : Nat} (hd : 0 ≤ d) (h : AH) (r : Int32) (c : narrow .boolean (.int r) = .int r) : E false mX3_comesToValue d 117 [(0, .ref 8)] [.int r] h (some (.int r)) h := by
  exact E.i dX3_comesToValue_117 rfl c rfl rfl

set_option maxRecDepth 20000 in
theorem j_X3_putOtherAlternatives_a_1 {d : Nat} (hd : 0 ≤ d) (h : AH) (a : Int64) (l : Int32) : J false mX3_putOtherAlternatives d 0 [(0, .ref 8), (1, .long a), (3, .int l)] [] h 3 [(0, .ref 8), (1, .long a), (3, .int l), (4, .int l)] [] h := by
  refine J.tr (s_iload_n (q := 1) dX3_putOtherAlternatives_0 rfl rfl) ?_
  refine J.tr (s_istore (q := 3) (ls' := [(4, .int l), (0, .ref 8), (1, .long a), (3, .int l)]) dX3_putOtherAlternatives_1 rfl (by decide) rfl) ?_
  refine J.tr (s_ls (ls' := [(0, .ref 8), (1, .long a), (3, .int l), (4, .int l)]) [1, 2, 3, 0] rfl) ?_
  exact J.rf

set_option maxRecDepth 20000 in
theorem j_X3_putOtherAlternatives_b_1 {d : Nat} (hd : 2 ≤ d) (h : AH) (a : Int64) (l : Int32) (k : Int32) (F : Nat → Value) (ho : h.1 8 = ob 3 (fo 15 F)) (e0 : F 0 = .ref 19) (F1 : Nat → Value) (ho1 : h.1 19 = ob 6 (fo 10 F1)) (e1 : F1 1 = .ref 20) (F2 : Nat → Value) (ho2 : h.1 20 = ob 5 (fo 12 F2)) (v7 : Int32) (e7 : F2 7 = .int v7) (c : v7 ≤ k) : E false mX3_putOtherAlternatives d 3 [(0, .ref 8), (1, .long a), (3, .int l), (4, .int k)] [] h (none) h := by
  refine E.st (s_iload (q := 5) dX3_putOtherAlternatives_3 rfl rfl) ?_
  refine E.st (s_aload_n (q := 6) dX3_putOtherAlternatives_5 rfl rfl) ?_
  refine E.st (s_gf (q := 9) (v := .ref 19) dX3_putOtherAlternatives_6 rfl fX3_37.l (ho) (by decide) (e0)) ?_
  refine E.st (p2 := 12) (l2 := [(0, .ref 8), (1, .long a), (3, .int l), (4, .int k)]) (s2 := [.int v7, .int k]) (h2 := h) (s_invv (K := mX6_decisions) (o := 19) (as := []) (rest := [.int k]) (v := some (.int v7)) dX3_putOtherAlternatives_9 rfl lX3_119 (by omega) rfl (Nat.le_of_ble_eq_true rfl) rfl (Nat.le_of_ble_eq_true rfl) (ho1) (p_X6_decisions_1 (d := 1) (Nat.le_refl _) h 19 F1 ho1 20 e1 F2 ho2 v7 e7) (fun h => nomatch h)) ?_
  refine E.st (s_icmp_ge_t (q := 38) dX3_putOtherAlternatives_12 (by decide) c) ?_
  exact E.v dX3_putOtherAlternatives_38 rfl rfl rfl

set_option maxRecDepth 20000 in
theorem j_X3_putOtherAlternatives_b_2 {d : Nat} (hd : 2 ≤ d) (h : AH) (a : Int64) (l : Int32) (k : Int32) (F : Nat → Value) (ho : h.1 8 = ob 3 (fo 15 F)) (e0 : F 0 = .ref 19) (F1 : Nat → Value) (ho1 : h.1 19 = ob 6 (fo 10 F1)) (e1 : F1 1 = .ref 20) (F2 : Nat → Value) (ho2 : h.1 20 = ob 5 (fo 12 F2)) (v7 : Int32) (e7 : F2 7 = .int v7) (c : ¬ (v7 ≤ k)) (e2 : F 2 = .ref 13) (b : Int64) (en : ((1 : Int64) <<< ((k : Int32).toInt64 &&& 63)) = b) (F3 : Nat → Value) (ho3 : h.1 13 = ob 0 (fo 3 F3)) (v2 : Int32) (e21 : F3 2 = .int v2) (e11 : F3 1 = .ref 15) (n : Nat) (f : Nat → Int32) (ha : h.1 15 = ia n f) (c1 : ¬ ((nI n) ≤ v2)) (e01 : F3 0 = .ref 14) (n1 : Nat) (f1 : Nat → Int64) (ha1 : h.1 14 = la n1 f1) (c2 : vp_in v2 n1) (c3 : vp_in v2 n) : J false mX3_putOtherAlternatives d 3 [(0, .ref 8), (1, .long a), (3, .int l), (4, .int k)] [] h 3 [(0, .ref 8), (1, .long a), (3, .int l), (4, .int (k + 1))] [] (hs (hs (hs h 14 (la n1 (vp_updL f1 v2.toNatClampNeg (a ||| b)))) 15 (ia n (upd f v2.toNatClampNeg (k + 1)))) 13 (ob 0 (fo 3 (va_up F3 2 (.int (v2 + 1)))))) := by
  refine J.tr (s_iload (q := 5) dX3_putOtherAlternatives_3 rfl rfl) ?_
  refine J.tr (s_aload_n (q := 6) dX3_putOtherAlternatives_5 rfl rfl) ?_
  refine J.tr (s_gf (q := 9) (v := .ref 19) dX3_putOtherAlternatives_6 rfl fX3_37.l (ho) (by decide) (e0)) ?_
  refine J.tr (p2 := 12) (l2 := [(0, .ref 8), (1, .long a), (3, .int l), (4, .int k)]) (s2 := [.int v7, .int k]) (h2 := h) (s_invv (K := mX6_decisions) (o := 19) (as := []) (rest := [.int k]) (v := some (.int v7)) dX3_putOtherAlternatives_9 rfl lX3_119 (by omega) rfl (Nat.le_of_ble_eq_true rfl) rfl (Nat.le_of_ble_eq_true rfl) (ho1) (p_X6_decisions_1 (d := 1) (Nat.le_refl _) h 19 F1 ho1 20 e1 F2 ho2 v7 e7) (fun h => nomatch h)) ?_
  refine J.tr (s_icmp_ge_f (q := 15) (tg := 38) dX3_putOtherAlternatives_12 (by decide) rfl c) ?_
  refine J.tr (s_aload_n (q := 16) dX3_putOtherAlternatives_15 rfl rfl) ?_
  refine J.tr (s_gf (q := 19) (v := .ref 13) dX3_putOtherAlternatives_16 rfl fX3_21.l (ho) (by decide) (e2)) ?_
  refine J.tr (s_lload_n (q := 20) dX3_putOtherAlternatives_19 rfl rfl) ?_
  refine J.tr (s_lconst (q := 21) (v := 1) dX3_putOtherAlternatives_20 rfl (by decide)) ?_
  refine J.tr (s_iload (q := 23) dX3_putOtherAlternatives_21 rfl rfl) ?_
  refine J.tr (s_lshl (q := 24) dX3_putOtherAlternatives_23 rfl) ?_
  refine J.tr (s_nml en) ?_
  refine J.tr (s_lor (q := 25) dX3_putOtherAlternatives_24 rfl) ?_
  refine J.tr (s_iload (q := 27) dX3_putOtherAlternatives_25 rfl rfl) ?_
  refine J.tr (s_iconst (q := 28) (v := 1) dX3_putOtherAlternatives_27 rfl (by decide)) ?_
  refine J.tr (s_iadd (q := 29) dX3_putOtherAlternatives_28 rfl) ?_
  refine J.tr (p2 := 32) (l2 := [(0, .ref 8), (1, .long a), (3, .int l), (4, .int k)]) (s2 := []) (h2 := (hs (hs (hs h 14 (la n1 (vp_updL f1 v2.toNatClampNeg (a ||| b)))) 15 (ia n (upd f v2.toNatClampNeg (k + 1)))) 13 (ob 0 (fo 3 (va_up F3 2 (.int (v2 + 1))))))) (s_invv (K := mX0_put) (o := 13) (as := [.long (a ||| b), .int (k + 1)]) (rest := []) (v := none) dX3_putOtherAlternatives_29 rfl lX3_77 (by omega) rfl (Nat.le_of_ble_eq_true rfl) rfl (Nat.le_of_ble_eq_true rfl) (ho3) (p_X0_put_2 (d := 0) (Nat.le_refl _) h 13 (a ||| b) (k + 1) F3 ho3 v2 e21 15 e11 n f ha (by decide) c1 14 e01 n1 f1 ha1 c2 c3) (fun h => nomatch h)) ?_
  refine J.tr (s_iinc (q := 35) (v := (k + 1)) (ls' := [(4, .int (k + 1)), (0, .ref 8), (1, .long a), (3, .int l)]) dX3_putOtherAlternatives_32 rfl (by decide) rfl rfl rfl) ?_
  refine J.tr (s_goto (q := 3) dX3_putOtherAlternatives_35 (by decide)) ?_
  refine J.tr (s_ls (ls' := [(0, .ref 8), (1, .long a), (3, .int l), (4, .int (k + 1))]) [1, 2, 3, 0] rfl) ?_
  exact J.rf

set_option maxRecDepth 20000 in
theorem j_X3_endsAsValue_a_1 {d : Nat} (hd : 0 ≤ d) (h : AH) (e : Int32) (a : Int64) (c : e = 0) (F : Nat → Value) (ho : h.1 8 = ob 3 (fo 15 F)) (v11 : Int32) (e11 : F 11 = .int v11) (e1 : F 1 = .ref 9) (e0 : F 0 = .ref 19) : J false mX3_endsAsValue d 0 [(0, .ref 8), (1, .int e), (2, .long a)] [] h 51 [(0, .ref 8)] [.ref 19, .long a, .ref 9] (hs h 8 (ob 3 (fo 15 (va_up F 11 (.int (v11 + 1)))))) := by
  refine J.tr (s_iload_n (q := 1) dX3_endsAsValue_0 rfl rfl) ?_
  refine J.tr (s_tabIn (q := 32) (off := 31) dX3_endsAsValue_1 (by rw [c]; decide) (by rw [c]; decide) (by rw [c]; rfl) (by decide)) ?_
  refine J.tr (s_aload_n (q := 33) dX3_endsAsValue_32 rfl rfl) ?_
  refine J.tr (s_dup (q := 34) dX3_endsAsValue_33 rfl rfl) ?_
  refine J.tr (s_gf (q := 37) (v := .int v11) dX3_endsAsValue_34 rfl fX3_48.l (ho) (by decide) (e11)) ?_
  refine J.tr (s_iconst (q := 38) (v := 1) dX3_endsAsValue_37 rfl (by decide)) ?_
  refine J.tr (s_iadd (q := 39) dX3_endsAsValue_38 rfl) ?_
  refine J.tr (s_pf (q := 42) dX3_endsAsValue_39 rfl fX3_48 (ho) (by decide) (fun _ => ⟨rfl, rfl⟩)) ?_
  refine J.tr (s_aload_n (q := 43) dX3_endsAsValue_42 rfl rfl) ?_
  refine J.tr (s_gf (q := 46) (v := .ref 9) dX3_endsAsValue_43 rfl fX3_12.l (hs_eq) (by decide) ((up_ne (by decide)).trans (e1))) ?_
  refine J.tr (s_lload_n (q := 47) dX3_endsAsValue_46 rfl rfl) ?_
  refine J.tr (s_aload_n (q := 48) dX3_endsAsValue_47 rfl rfl) ?_
  refine J.tr (s_gf (q := 51) (v := .ref 19) dX3_endsAsValue_48 rfl fX3_37.l (hs_eq) (by decide) ((up_ne (by decide)).trans (e0))) ?_
  refine J.tr (s_ls (ls' := [(0, .ref 8)]) [0] rfl) ?_
  exact J.rf

set_option maxRecDepth 20000 in
theorem j_X3_endsAsValue_a_2 {d : Nat} (hd : 0 ≤ d) (h : AH) (e : Int32) (a : Int64) (c : e = 1) (F : Nat → Value) (ho : h.1 8 = ob 3 (fo 15 F)) (v12 : Int32) (e12 : F 12 = .int v12) : E false mX3_endsAsValue d 0 [(0, .ref 8), (1, .int e), (2, .long a)] [] h (some (.int 0)) (hs h 8 (ob 3 (fo 15 (va_up F 12 (.int (v12 + 1)))))) := by
  refine E.st (s_iload_n (q := 1) dX3_endsAsValue_0 rfl rfl) ?_
  refine E.st (s_tabIn (q := 56) (off := 55) dX3_endsAsValue_1 (by rw [c]; decide) (by rw [c]; decide) (by rw [c]; rfl) (by decide)) ?_
  refine E.st (s_aload_n (q := 57) dX3_endsAsValue_56 rfl rfl) ?_
  refine E.st (s_dup (q := 58) dX3_endsAsValue_57 rfl rfl) ?_
  refine E.st (s_gf (q := 61) (v := .int v12) dX3_endsAsValue_58 rfl fX3_51.l (ho) (by decide) (e12)) ?_
  refine E.st (s_iconst (q := 62) (v := 1) dX3_endsAsValue_61 rfl (by decide)) ?_
  refine E.st (s_iadd (q := 63) dX3_endsAsValue_62 rfl) ?_
  refine E.st (s_pf (q := 66) dX3_endsAsValue_63 rfl fX3_51 (ho) (by decide) (fun _ => ⟨rfl, rfl⟩)) ?_
  refine E.st (s_iconst (q := 67) (v := 0) dX3_endsAsValue_66 rfl (by decide)) ?_
  exact E.i dX3_endsAsValue_67 rfl rfl rfl rfl

set_option maxRecDepth 20000 in
theorem j_X3_endsAsValue_a_3 {d : Nat} (hd : 0 ≤ d) (h : AH) (e : Int32) (a : Int64) (c : e = 2) (F : Nat → Value) (ho : h.1 8 = ob 3 (fo 15 F)) (v13 : Int32) (e13 : F 13 = .int v13) : E false mX3_endsAsValue d 0 [(0, .ref 8), (1, .int e), (2, .long a)] [] h (some (.int 0)) (hs h 8 (ob 3 (fo 15 (va_up F 13 (.int (v13 + 1)))))) := by
  refine E.st (s_iload_n (q := 1) dX3_endsAsValue_0 rfl rfl) ?_
  refine E.st (s_tabIn (q := 82) (off := 81) dX3_endsAsValue_1 (by rw [c]; decide) (by rw [c]; decide) (by rw [c]; rfl) (by decide)) ?_
  refine E.st (s_aload_n (q := 83) dX3_endsAsValue_82 rfl rfl) ?_
  refine E.st (s_dup (q := 84) dX3_endsAsValue_83 rfl rfl) ?_
  refine E.st (s_gf (q := 87) (v := .int v13) dX3_endsAsValue_84 rfl fX3_54.l (ho) (by decide) (e13)) ?_
  refine E.st (s_iconst (q := 88) (v := 1) dX3_endsAsValue_87 rfl (by decide)) ?_
  refine E.st (s_iadd (q := 89) dX3_endsAsValue_88 rfl) ?_
  refine E.st (s_pf (q := 92) dX3_endsAsValue_89 rfl fX3_54 (ho) (by decide) (fun _ => ⟨rfl, rfl⟩)) ?_
  refine E.st (s_iconst (q := 93) (v := 0) dX3_endsAsValue_92 rfl (by decide)) ?_
  exact E.i dX3_endsAsValue_93 rfl rfl rfl rfl

set_option maxRecDepth 20000 in
theorem j_X3_endsAsValue_a_4 {d : Nat} (hd : 2 ≤ d) (h : AH) (e : Int32) (a : Int64) (c : e = 3) (F : Nat → Value) (ho : h.1 8 = ob 3 (fo 15 F)) (e0 : F 0 = .ref 19) (F1 : Nat → Value) (ho1 : h.1 19 = ob 6 (fo 10 F1)) (e1 : F1 1 = .ref 20) (F2 : Nat → Value) (ho2 : h.1 20 = ob 5 (fo 12 F2)) (v7 : Int32) (e7 : F2 7 = .int v7) : J false mX3_endsAsValue d 0 [(0, .ref 8), (1, .int e), (2, .long a)] [] h 77 [(0, .ref 8)] [.int v7, .long a, .ref 8] h := by
  refine J.tr (s_iload_n (q := 1) dX3_endsAsValue_0 rfl rfl) ?_
  refine J.tr (s_tabIn (q := 68) (off := 67) dX3_endsAsValue_1 (by rw [c]; decide) (by rw [c]; decide) (by rw [c]; rfl) (by decide)) ?_
  refine J.tr (s_aload_n (q := 69) dX3_endsAsValue_68 rfl rfl) ?_
  refine J.tr (s_lload_n (q := 70) dX3_endsAsValue_69 rfl rfl) ?_
  refine J.tr (s_aload_n (q := 71) dX3_endsAsValue_70 rfl rfl) ?_
  refine J.tr (s_gf (q := 74) (v := .ref 19) dX3_endsAsValue_71 rfl fX3_37.l (ho) (by decide) (e0)) ?_
  refine J.tr (p2 := 77) (l2 := [(0, .ref 8), (1, .int e), (2, .long a)]) (s2 := [.int v7, .long a, .ref 8]) (h2 := h) (s_invv (K := mX6_decisions) (o := 19) (as := []) (rest := [.long a, .ref 8]) (v := some (.int v7)) dX3_endsAsValue_74 rfl lX3_119 (by omega) rfl (Nat.le_of_ble_eq_true rfl) rfl (Nat.le_of_ble_eq_true rfl) (ho1) (p_X6_decisions_1 (d := 1) (Nat.le_refl _) h 19 F1 ho1 20 e1 F2 ho2 v7 e7) (fun h => nomatch h)) ?_
  refine J.tr (s_ls (ls' := [(0, .ref 8)]) [0] rfl) ?_
  exact J.rf

set_option maxRecDepth 20000 in
theorem j_X3_endsAsValue_a_5 {d : Nat} (hd : 0 ≤ d) (h : AH) (e : Int32) (a : Int64) (c : e.toInt < 0 ∨ 3 < e.toInt) (F : Nat → Value) (ho : h.1 8 = ob 3 (fo 15 F)) (v13 : Int32) (e13 : F 13 = .int v13) : E false mX3_endsAsValue d 0 [(0, .ref 8), (1, .int e), (2, .long a)] [] h (some (.int 0)) (hs h 8 (ob 3 (fo 15 (va_up F 13 (.int (v13 + 1)))))) := by
  refine E.st (s_iload_n (q := 1) dX3_endsAsValue_0 rfl rfl) ?_
  refine E.st (s_tabOut (q := 82) dX3_endsAsValue_1 c (by decide)) ?_
  refine E.st (s_aload_n (q := 83) dX3_endsAsValue_82 rfl rfl) ?_
  refine E.st (s_dup (q := 84) dX3_endsAsValue_83 rfl rfl) ?_
  refine E.st (s_gf (q := 87) (v := .int v13) dX3_endsAsValue_84 rfl fX3_54.l (ho) (by decide) (e13)) ?_
  refine E.st (s_iconst (q := 88) (v := 1) dX3_endsAsValue_87 rfl (by decide)) ?_
  refine E.st (s_iadd (q := 89) dX3_endsAsValue_88 rfl) ?_
  refine E.st (s_pf (q := 92) dX3_endsAsValue_89 rfl fX3_54 (ho) (by decide) (fun _ => ⟨rfl, rfl⟩)) ?_
  refine E.st (s_iconst (q := 93) (v := 0) dX3_endsAsValue_92 rfl (by decide)) ?_
  exact E.i dX3_endsAsValue_93 rfl rfl rfl rfl

set_option maxRecDepth 20000 in
theorem j_X3_endsAsValue_b_1 {d : Nat} (hd : 0 ≤ d) (h : AH)  : E false mX3_endsAsValue d 54 [(0, .ref 8)] [] h (some (.int 1)) h := by
  refine E.st (s_iconst (q := 55) (v := 1) dX3_endsAsValue_54 rfl (by decide)) ?_
  exact E.i dX3_endsAsValue_55 rfl rfl rfl rfl

set_option maxRecDepth 20000 in
theorem j_X3_endsAsValue_c_1 {d : Nat} (hd : 0 ≤ d) (h : AH)  : E false mX3_endsAsValue d 80 [(0, .ref 8)] [] h (some (.int 0)) h := by
  refine E.st (s_iconst (q := 81) (v := 0) dX3_endsAsValue_80 rfl (by decide)) ?_
  exact E.i dX3_endsAsValue_81 rfl rfl rfl rfl

set_option maxRecDepth 20000 in
theorem j_X3_stopAtDecision_a_1 {d : Nat} (hd : 1 ≤ d) (h : AH) (a : Int64) (q : Int32) (F : Nat → Value) (ho : h.1 8 = ob 3 (fo 15 F)) (v7 : Int32) (e7 : F 7 = .int v7) (c : ¬ v7 = 2) (e3 : F 3 = .ref 16) (F1 : Nat → Value) (ho1 : h.1 16 = ob 0 (fo 3 F1)) (v2 : Int32) (e2 : F1 2 = .int v2) (e1 : F1 1 = .ref 18) (n : Nat) (f : Nat → Int32) (ha : h.1 18 = ia n f) (c1 : ¬ ((nI n) ≤ v2)) (e0 : F1 0 = .ref 17) (n1 : Nat) (f1 : Nat → Int64) (ha1 : h.1 17 = la n1 f1) (c2 : vp_in v2 n1) (c3 : vp_in v2 n) : J false mX3_stopAtDecision d 0 [(0, .ref 8), (1, .long a), (3, .int q)] [] h 32 [(0, .ref 8), (1, .long a), (3, .int q)] [] (hs (hs (hs h 17 (la n1 (vp_updL f1 v2.toNatClampNeg a))) 18 (ia n (upd f v2.toNatClampNeg (q + 1)))) 16 (ob 0 (fo 3 (va_up F1 2 (.int (v2 + 1)))))) := by
  refine J.tr (s_aload_n (q := 1) dX3_stopAtDecision_0 rfl rfl) ?_
  refine J.tr (s_gf (q := 4) (v := .int v7) dX3_stopAtDecision_1 rfl fX3_71.l (ho) (by decide) (e7)) ?_
  refine J.tr (s_iconst (q := 5) (v := 2) dX3_stopAtDecision_4 rfl (by decide)) ?_
  refine J.tr (s_icmp_ne_t (q := 21) dX3_stopAtDecision_5 (by decide) c) ?_
  refine J.tr (s_aload_n (q := 22) dX3_stopAtDecision_21 rfl rfl) ?_
  refine J.tr (s_gf (q := 25) (v := .ref 16) dX3_stopAtDecision_22 rfl fX3_25.l (ho) (by decide) (e3)) ?_
  refine J.tr (s_lload_n (q := 26) dX3_stopAtDecision_25 rfl rfl) ?_
  refine J.tr (s_iload_n (q := 27) dX3_stopAtDecision_26 rfl rfl) ?_
  refine J.tr (s_iconst (q := 28) (v := 1) dX3_stopAtDecision_27 rfl (by decide)) ?_
  refine J.tr (s_iadd (q := 29) dX3_stopAtDecision_28 rfl) ?_
  refine J.tr (p2 := 32) (l2 := [(0, .ref 8), (1, .long a), (3, .int q)]) (s2 := []) (h2 := (hs (hs (hs h 17 (la n1 (vp_updL f1 v2.toNatClampNeg a))) 18 (ia n (upd f v2.toNatClampNeg (q + 1)))) 16 (ob 0 (fo 3 (va_up F1 2 (.int (v2 + 1))))))) (s_invv (K := mX0_put) (o := 16) (as := [.long a, .int (q + 1)]) (rest := []) (v := none) dX3_stopAtDecision_29 rfl lX3_77 (by omega) rfl (Nat.le_of_ble_eq_true rfl) rfl (Nat.le_of_ble_eq_true rfl) (ho1) (p_X0_put_2 (d := 0) (Nat.le_refl _) h 16 a (q + 1) F1 ho1 v2 e2 18 e1 n f ha (by decide) c1 17 e0 n1 f1 ha1 c2 c3) (fun h => nomatch h)) ?_
  refine J.tr (s_ls (ls' := [(0, .ref 8), (1, .long a), (3, .int q)]) [0, 1, 2] rfl) ?_
  exact J.rf

set_option maxRecDepth 20000 in
theorem j_X3_stopAtDecision_a_2 {d : Nat} (hd : 0 ≤ d) (h : AH) (a : Int64) (q : Int32) (F : Nat → Value) (ho : h.1 8 = ob 3 (fo 15 F)) (v7 : Int32) (e7 : F 7 = .int v7) (c : v7 = 2) (v14 : Int32) (e14 : F 14 = .int v14) : E false mX3_stopAtDecision d 0 [(0, .ref 8), (1, .long a), (3, .int q)] [] h (none) (hs h 8 (ob 3 (fo 15 (va_up F 14 (.int (v14 + 1)))))) := by
  refine E.st (s_aload_n (q := 1) dX3_stopAtDecision_0 rfl rfl) ?_
  refine E.st (s_gf (q := 4) (v := .int v7) dX3_stopAtDecision_1 rfl fX3_71.l (ho) (by decide) (e7)) ?_
  refine E.st (s_iconst (q := 5) (v := 2) dX3_stopAtDecision_4 rfl (by decide)) ?_
  refine E.st (s_icmp_ne_f (q := 8) (tg := 21) dX3_stopAtDecision_5 (by decide) rfl c) ?_
  refine E.st (s_aload_n (q := 9) dX3_stopAtDecision_8 rfl rfl) ?_
  refine E.st (s_dup (q := 10) dX3_stopAtDecision_9 rfl rfl) ?_
  refine E.st (s_gf (q := 13) (v := .int v14) dX3_stopAtDecision_10 rfl fX3_57.l (ho) (by decide) (e14)) ?_
  refine E.st (s_iconst (q := 14) (v := 1) dX3_stopAtDecision_13 rfl (by decide)) ?_
  refine E.st (s_iadd (q := 15) dX3_stopAtDecision_14 rfl) ?_
  refine E.st (s_pf (q := 18) dX3_stopAtDecision_15 rfl fX3_57 (ho) (by decide) (fun _ => ⟨rfl, rfl⟩)) ?_
  refine E.st (s_goto (q := 47) dX3_stopAtDecision_18 (by decide)) ?_
  exact E.v dX3_stopAtDecision_47 rfl rfl rfl

set_option maxRecDepth 20000 in
theorem j_X3_stopAtDecision_b_1 {d : Nat} (hd : 1 ≤ d) (h : AH) (a : Int64) (q : Int32) (F : Nat → Value) (ho : h.1 8 = ob 3 (fo 15 F)) (e3 : F 3 = .ref 16) (b : Int64) (en : ((1 : Int64) <<< ((q : Int32).toInt64 &&& 63)) = b) (F1 : Nat → Value) (ho1 : h.1 16 = ob 0 (fo 3 F1)) (v2 : Int32) (e2 : F1 2 = .int v2) (e1 : F1 1 = .ref 18) (n : Nat) (f : Nat → Int32) (ha : h.1 18 = ia n f) (c : ¬ ((nI n) ≤ v2)) (e0 : F1 0 = .ref 17) (n1 : Nat) (f1 : Nat → Int64) (ha1 : h.1 17 = la n1 f1) (c1 : vp_in v2 n1) (c2 : vp_in v2 n) : E false mX3_stopAtDecision d 32 [(0, .ref 8), (1, .long a), (3, .int q)] [] h (none) (hs (hs (hs h 17 (la n1 (vp_updL f1 v2.toNatClampNeg (a ||| b)))) 18 (ia n (upd f v2.toNatClampNeg (q + 1)))) 16 (ob 0 (fo 3 (va_up F1 2 (.int (v2 + 1)))))) := by
  refine E.st (s_aload_n (q := 33) dX3_stopAtDecision_32 rfl rfl) ?_
  refine E.st (s_gf (q := 36) (v := .ref 16) dX3_stopAtDecision_33 rfl fX3_25.l (ho) (by decide) (e3)) ?_
  refine E.st (s_lload_n (q := 37) dX3_stopAtDecision_36 rfl rfl) ?_
  refine E.st (s_lconst (q := 38) (v := 1) dX3_stopAtDecision_37 rfl (by decide)) ?_
  refine E.st (s_iload_n (q := 39) dX3_stopAtDecision_38 rfl rfl) ?_
  refine E.st (s_lshl (q := 40) dX3_stopAtDecision_39 rfl) ?_
  refine E.st (s_nml en) ?_
  refine E.st (s_lor (q := 41) dX3_stopAtDecision_40 rfl) ?_
  refine E.st (s_iload_n (q := 42) dX3_stopAtDecision_41 rfl rfl) ?_
  refine E.st (s_iconst (q := 43) (v := 1) dX3_stopAtDecision_42 rfl (by decide)) ?_
  refine E.st (s_iadd (q := 44) dX3_stopAtDecision_43 rfl) ?_
  refine E.st (p2 := 47) (l2 := [(0, .ref 8), (1, .long a), (3, .int q)]) (s2 := []) (h2 := (hs (hs (hs h 17 (la n1 (vp_updL f1 v2.toNatClampNeg (a ||| b)))) 18 (ia n (upd f v2.toNatClampNeg (q + 1)))) 16 (ob 0 (fo 3 (va_up F1 2 (.int (v2 + 1))))))) (s_invv (K := mX0_put) (o := 16) (as := [.long (a ||| b), .int (q + 1)]) (rest := []) (v := none) dX3_stopAtDecision_44 rfl lX3_77 (by omega) rfl (Nat.le_of_ble_eq_true rfl) rfl (Nat.le_of_ble_eq_true rfl) (ho1) (p_X0_put_2 (d := 0) (Nat.le_refl _) h 16 (a ||| b) (q + 1) F1 ho1 v2 e2 18 e1 n f ha (by decide) c 17 e0 n1 f1 ha1 c1 c2) (fun h => nomatch h)) ?_
  exact E.v dX3_stopAtDecision_47 rfl rfl rfl

set_option maxRecDepth 20000 in
theorem j_X1_keep_a_1 {d : Nat} (hd : 2 ≤ d) (h : AH) (a : Int64) (F : Nat → Value) (ho : h.1 19 = ob 6 (fo 10 F)) (e1 : F 1 = .ref 20) (F1 : Nat → Value) (ho1 : h.1 20 = ob 5 (fo 12 F1)) (e9 : F1 9 = .ref 24) (F2 : Nat → Value) (ho2 : h.1 9 = ob 1 (fo 4 F2)) (e0 : F2 0 = .ref 10) : J false mX1_keep d 0 [(0, .ref 9), (1, .long a), (3, .ref 19)] [] h 11 [(0, .ref 9), (1, .long a), (3, .ref 19), (4, .ref 24)] [.int 0, .ref 10] h := by
  refine J.tr (s_aload_n (q := 1) dX1_keep_0 rfl rfl) ?_
  refine J.tr (p2 := 4) (l2 := [(0, .ref 9), (1, .long a), (3, .ref 19)]) (s2 := [.ref 24]) (h2 := h) (s_invv (K := mX6_tokens) (o := 19) (as := []) (rest := []) (v := some (.ref 24)) dX1_keep_1 rfl lX1_34 (by omega) rfl (Nat.le_of_ble_eq_true rfl) rfl (Nat.le_of_ble_eq_true rfl) (ho) (p_X6_tokens_1 (d := 1) (Nat.le_refl _) h 19 F ho 20 e1 F1 ho1 24 e9) (fun h => nomatch h)) ?_
  refine J.tr (s_astore (q := 6) (ls' := [(4, .ref 24), (0, .ref 9), (1, .long a), (3, .ref 19)]) dX1_keep_4 rfl (by decide) rfl) ?_
  refine J.tr (s_aload_n (q := 7) dX1_keep_6 rfl rfl) ?_
  refine J.tr (s_gf (q := 10) (v := .ref 10) dX1_keep_7 rfl fX1_14.l (ho2) (by decide) (e0)) ?_
  refine J.tr (s_iconst (q := 11) (v := 0) dX1_keep_10 rfl (by decide)) ?_
  refine J.tr (s_ls (ls' := [(0, .ref 9), (1, .long a), (3, .ref 19), (4, .ref 24)]) [1, 2, 3, 0] rfl) ?_
  exact J.rf

set_option maxRecDepth 20000 in
theorem j_X1_keep_b_1 {d : Nat} (hd : 1 ≤ d) (h : AH) (a : Int64) (F : Nat → Value) (ho : h.1 9 = ob 1 (fo 4 F)) (e0 : F 0 = .ref 10) (F1 : Nat → Value) (ho1 : h.1 24 = ob 4 (fo 4 F1)) (v3 : Int32) (e3 : F1 3 = .int v3) : J false mX1_keep d 14 [(0, .ref 9), (1, .long a), (3, .ref 19), (4, .ref 24)] [] h 26 [(0, .ref 9), (1, .long a), (3, .ref 19), (4, .ref 24)] [.int v3, .int 0, .ref 24, .ref 10] h := by
  refine J.tr (s_aload_n (q := 15) dX1_keep_14 rfl rfl) ?_
  refine J.tr (s_gf (q := 18) (v := .ref 10) dX1_keep_15 rfl fX1_14.l (ho) (by decide) (e0)) ?_
  refine J.tr (s_aload (q := 20) dX1_keep_18 rfl rfl) ?_
  refine J.tr (s_iconst (q := 21) (v := 0) dX1_keep_20 rfl (by decide)) ?_
  refine J.tr (s_aload (q := 23) dX1_keep_21 rfl rfl) ?_
  refine J.tr (p2 := 26) (l2 := [(0, .ref 9), (1, .long a), (3, .ref 19), (4, .ref 24)]) (s2 := [.int v3, .int 0, .ref 24, .ref 10]) (h2 := h) (s_invv (K := mX4_size) (o := 24) (as := []) (rest := [.int 0, .ref 24, .ref 10]) (v := some (.int v3)) dX1_keep_23 rfl lX1_39 (by omega) rfl (Nat.le_of_ble_eq_true rfl) rfl (Nat.le_of_ble_eq_true rfl) (ho1) (p_X4_size_1 (d := 0) (Nat.le_refl _) h 24 F1 ho1 v3 e3) (fun h => nomatch h)) ?_
  exact J.rf

set_option maxRecDepth 20000 in
theorem j_X1_keep_c_1 {d : Nat} (hd : 2 ≤ d) (h : AH) (a : Int64) (r : Int32) (F : Nat → Value) (ho : h.1 9 = ob 1 (fo 4 F)) (F1 : Nat → Value) (ho1 : h.1 19 = ob 6 (fo 10 F1)) (e1 : F1 1 = .ref 20) (F2 : Nat → Value) (ho2 : h.1 20 = ob 5 (fo 12 F2)) (v7 : Int32) (e7 : F2 7 = .int v7) (v3 : Int32) (e3 : F1 3 = .int v3) : E false mX1_keep d 29 [(0, .ref 9), (1, .long a), (3, .ref 19), (4, .ref 24)] [.int r] h (none) (hs (hs (hs h 9 (ob 1 (fo 4 (va_up F 1 (.long a))))) 9 (ob 1 (fo 4 (va_up (va_up F 1 (.long a)) 2 (.int v7))))) 9 (ob 1 (fo 4 (va_up (va_up (va_up F 1 (.long a)) 2 (.int v7)) 3 (.int v3))))) := by
  refine E.st (s_pop (q := 30) dX1_keep_29 rfl rfl) ?_
  refine E.st (s_aload_n (q := 31) dX1_keep_30 rfl rfl) ?_
  refine E.st (s_lload_n (q := 32) dX1_keep_31 rfl rfl) ?_
  refine E.st (s_pf (q := 35) dX1_keep_32 rfl fX1_27 (ho) (by decide) (fun _ => ⟨rfl, rfl⟩)) ?_
  refine E.st (s_aload_n (q := 36) dX1_keep_35 rfl rfl) ?_
  refine E.st (s_aload_n (q := 37) dX1_keep_36 rfl rfl) ?_
  refine E.st (p2 := 40) (l2 := [(0, .ref 9), (1, .long a), (3, .ref 19), (4, .ref 24)]) (s2 := [.int v7, .ref 9]) (h2 := (hs h 9 (ob 1 (fo 4 (va_up F 1 (.long a)))))) (s_invv (K := mX6_decisions) (o := 19) (as := []) (rest := [.ref 9]) (v := some (.int v7)) dX1_keep_37 rfl lX1_47 (by omega) rfl (Nat.le_of_ble_eq_true rfl) rfl (Nat.le_of_ble_eq_true rfl) ((hs_ne (by decide)).trans (ho1)) (p_X6_decisions_1 (d := 1) (Nat.le_refl _) (hs h 9 (ob 1 (fo 4 (va_up F 1 (.long a))))) 19 F1 ((hs_ne (by decide)).trans (ho1)) 20 e1 F2 ((hs_ne (by decide)).trans (ho2)) v7 e7) (fun h => nomatch h)) ?_
  refine E.st (s_pf (q := 43) dX1_keep_40 rfl fX1_20 (hs_eq) (by decide) (fun _ => ⟨rfl, rfl⟩)) ?_
  refine E.st (s_aload_n (q := 44) dX1_keep_43 rfl rfl) ?_
  refine E.st (s_aload_n (q := 45) dX1_keep_44 rfl rfl) ?_
  refine E.st (p2 := 48) (l2 := [(0, .ref 9), (1, .long a), (3, .ref 19), (4, .ref 24)]) (s2 := [.int v3, .ref 9]) (h2 := (hs (hs h 9 (ob 1 (fo 4 (va_up F 1 (.long a))))) 9 (ob 1 (fo 4 (va_up (va_up F 1 (.long a)) 2 (.int v7)))))) (s_invv (K := mX6_labour) (o := 19) (as := []) (rest := [.ref 9]) (v := some (.int v3)) dX1_keep_45 rfl lX1_49 (by omega) rfl (Nat.le_of_ble_eq_true rfl) rfl (Nat.le_of_ble_eq_true rfl) ((hs_ne (by decide)).trans ((hs_ne (by decide)).trans (ho1))) (p_X6_labour_1 (d := 0) (Nat.le_refl _) (hs (hs h 9 (ob 1 (fo 4 (va_up F 1 (.long a))))) 9 (ob 1 (fo 4 (va_up (va_up F 1 (.long a)) 2 (.int v7))))) 19 F1 ((hs_ne (by decide)).trans ((hs_ne (by decide)).trans (ho1))) v3 e3) (fun h => nomatch h)) ?_
  refine E.st (s_pf (q := 51) dX1_keep_48 rfl fX1_24 (hs_eq) (by decide) (fun _ => ⟨rfl, rfl⟩)) ?_
  exact E.v dX1_keep_51 rfl rfl rfl

set_option maxRecDepth 20000 in
theorem j_X1_forget_a_1 {d : Nat} (hd : 0 ≤ d) (h : AH) (F : Nat → Value) (ho : h.1 9 = ob 1 (fo 4 F)) (e0 : F 0 = .ref 10) : J false mX1_forget d 0 [(0, .ref 9)] [] h 5 [(0, .ref 9)] [.int 0, .ref 10] h := by
  refine J.tr (s_aload_n (q := 1) dX1_forget_0 rfl rfl) ?_
  refine J.tr (s_gf (q := 4) (v := .ref 10) dX1_forget_1 rfl fX1_14.l (ho) (by decide) (e0)) ?_
  refine J.tr (s_iconst (q := 5) (v := 0) dX1_forget_4 rfl (by decide)) ?_
  exact J.rf

set_option maxRecDepth 20000 in
theorem j_X1_forget_b_1 {d : Nat} (hd : 0 ≤ d) (h : AH) (F : Nat → Value) (ho : h.1 9 = ob 1 (fo 4 F)) : E false mX1_forget d 8 [(0, .ref 9)] [] h (none) (hs (hs (hs h 9 (ob 1 (fo 4 (va_up F 1 (.long 0))))) 9 (ob 1 (fo 4 (va_up (va_up F 1 (.long 0)) 2 (.int 0))))) 9 (ob 1 (fo 4 (va_up (va_up (va_up F 1 (.long 0)) 2 (.int 0)) 3 (.int 0))))) := by
  refine E.st (s_aload_n (q := 9) dX1_forget_8 rfl rfl) ?_
  refine E.st (s_lconst (q := 10) (v := 0) dX1_forget_9 rfl (by decide)) ?_
  refine E.st (s_pf (q := 13) dX1_forget_10 rfl fX1_27 (ho) (by decide) (fun _ => ⟨rfl, rfl⟩)) ?_
  refine E.st (s_aload_n (q := 14) dX1_forget_13 rfl rfl) ?_
  refine E.st (s_iconst (q := 15) (v := 0) dX1_forget_14 rfl (by decide)) ?_
  refine E.st (s_pf (q := 18) dX1_forget_15 rfl fX1_20 (hs_eq) (by decide) (fun _ => ⟨rfl, rfl⟩)) ?_
  refine E.st (s_aload_n (q := 19) dX1_forget_18 rfl rfl) ?_
  refine E.st (s_iconst (q := 20) (v := 0) dX1_forget_19 rfl (by decide)) ?_
  refine E.st (s_pf (q := 23) dX1_forget_20 rfl fX1_24 (hs_eq) (by decide) (fun _ => ⟨rfl, rfl⟩)) ?_
  exact E.v dX1_forget_23 rfl rfl rfl

set_option maxRecDepth 20000 in
theorem j_X3_forget_a_1 {d : Nat} (hd : 1 ≤ d) (h : AH) (F : Nat → Value) (ho : h.1 8 = ob 3 (fo 15 F)) (e2 : F 2 = .ref 13) (F1 : Nat → Value) (ho1 : h.1 13 = ob 0 (fo 3 F1)) (e3 : F 3 = .ref 16) (F2 : Nat → Value) (ho2 : h.1 16 = ob 0 (fo 3 F2)) (e1 : F 1 = .ref 9) : J false mX3_forget d 0 [(0, .ref 8)] [] h 53 [(0, .ref 8)] [.ref 9] (hs (hs (hs (hs (hs (hs (hs (hs (hs h 8 (ob 3 (fo 15 (va_up F 4 (.int 0))))) 8 (ob 3 (fo 15 (va_up (va_up F 4 (.int 0)) 5 (.int 0))))) 8 (ob 3 (fo 15 (va_up (va_up (va_up F 4 (.int 0)) 5 (.int 0)) 10 (.int 0))))) 8 (ob 3 (fo 15 (va_up (va_up (va_up (va_up F 4 (.int 0)) 5 (.int 0)) 10 (.int 0)) 11 (.int 0))))) 8 (ob 3 (fo 15 (va_up (va_up (va_up (va_up (va_up F 4 (.int 0)) 5 (.int 0)) 10 (.int 0)) 11 (.int 0)) 12 (.int 0))))) 8 (ob 3 (fo 15 (va_up (va_up (va_up (va_up (va_up (va_up F 4 (.int 0)) 5 (.int 0)) 10 (.int 0)) 11 (.int 0)) 12 (.int 0)) 13 (.int 0))))) 8 (ob 3 (fo 15 (va_up (va_up (va_up (va_up (va_up (va_up (va_up F 4 (.int 0)) 5 (.int 0)) 10 (.int 0)) 11 (.int 0)) 12 (.int 0)) 13 (.int 0)) 14 (.int 0))))) 13 (ob 0 (fo 3 (va_up F1 2 (.int 0))))) 16 (ob 0 (fo 3 (va_up F2 2 (.int 0))))) := by
  refine J.tr (s_aload_n (q := 1) dX3_forget_0 rfl rfl) ?_
  refine J.tr (s_iconst (q := 2) (v := 0) dX3_forget_1 rfl (by decide)) ?_
  refine J.tr (s_pf (q := 5) dX3_forget_2 rfl fX3_41 (ho) (by decide) (fun _ => ⟨rfl, rfl⟩)) ?_
  refine J.tr (s_aload_n (q := 6) dX3_forget_5 rfl rfl) ?_
  refine J.tr (s_iconst (q := 7) (v := 0) dX3_forget_6 rfl (by decide)) ?_
  refine J.tr (s_pf (q := 10) dX3_forget_7 rfl fX3_60 (hs_eq) (by decide) (fun _ => ⟨rfl, rfl⟩)) ?_
  refine J.tr (s_aload_n (q := 11) dX3_forget_10 rfl rfl) ?_
  refine J.tr (s_iconst (q := 12) (v := 0) dX3_forget_11 rfl (by decide)) ?_
  refine J.tr (s_pf (q := 15) dX3_forget_12 rfl fX3_45 (hs_eq) (by decide) (fun _ => ⟨rfl, rfl⟩)) ?_
  refine J.tr (s_aload_n (q := 16) dX3_forget_15 rfl rfl) ?_
  refine J.tr (s_iconst (q := 17) (v := 0) dX3_forget_16 rfl (by decide)) ?_
  refine J.tr (s_pf (q := 20) dX3_forget_17 rfl fX3_48 (hs_eq) (by decide) (fun _ => ⟨rfl, rfl⟩)) ?_
  refine J.tr (s_aload_n (q := 21) dX3_forget_20 rfl rfl) ?_
  refine J.tr (s_iconst (q := 22) (v := 0) dX3_forget_21 rfl (by decide)) ?_
  refine J.tr (s_pf (q := 25) dX3_forget_22 rfl fX3_51 (hs_eq) (by decide) (fun _ => ⟨rfl, rfl⟩)) ?_
  refine J.tr (s_aload_n (q := 26) dX3_forget_25 rfl rfl) ?_
  refine J.tr (s_iconst (q := 27) (v := 0) dX3_forget_26 rfl (by decide)) ?_
  refine J.tr (s_pf (q := 30) dX3_forget_27 rfl fX3_54 (hs_eq) (by decide) (fun _ => ⟨rfl, rfl⟩)) ?_
  refine J.tr (s_aload_n (q := 31) dX3_forget_30 rfl rfl) ?_
  refine J.tr (s_iconst (q := 32) (v := 0) dX3_forget_31 rfl (by decide)) ?_
  refine J.tr (s_pf (q := 35) dX3_forget_32 rfl fX3_57 (hs_eq) (by decide) (fun _ => ⟨rfl, rfl⟩)) ?_
  refine J.tr (s_aload_n (q := 36) dX3_forget_35 rfl rfl) ?_
  refine J.tr (s_gf (q := 39) (v := .ref 13) dX3_forget_36 rfl fX3_21.l (hs_eq) (by decide) ((up_ne (by decide)).trans ((up_ne (by decide)).trans ((up_ne (by decide)).trans ((up_ne (by decide)).trans ((up_ne (by decide)).trans ((up_ne (by decide)).trans ((up_ne (by decide)).trans (e2))))))))) ?_
  refine J.tr (p2 := 42) (l2 := [(0, .ref 8)]) (s2 := []) (h2 := (hs (hs (hs (hs (hs (hs (hs (hs h 8 (ob 3 (fo 15 (va_up F 4 (.int 0))))) 8 (ob 3 (fo 15 (va_up (va_up F 4 (.int 0)) 5 (.int 0))))) 8 (ob 3 (fo 15 (va_up (va_up (va_up F 4 (.int 0)) 5 (.int 0)) 10 (.int 0))))) 8 (ob 3 (fo 15 (va_up (va_up (va_up (va_up F 4 (.int 0)) 5 (.int 0)) 10 (.int 0)) 11 (.int 0))))) 8 (ob 3 (fo 15 (va_up (va_up (va_up (va_up (va_up F 4 (.int 0)) 5 (.int 0)) 10 (.int 0)) 11 (.int 0)) 12 (.int 0))))) 8 (ob 3 (fo 15 (va_up (va_up (va_up (va_up (va_up (va_up F 4 (.int 0)) 5 (.int 0)) 10 (.int 0)) 11 (.int 0)) 12 (.int 0)) 13 (.int 0))))) 8 (ob 3 (fo 15 (va_up (va_up (va_up (va_up (va_up (va_up (va_up F 4 (.int 0)) 5 (.int 0)) 10 (.int 0)) 11 (.int 0)) 12 (.int 0)) 13 (.int 0)) 14 (.int 0))))) 13 (ob 0 (fo 3 (va_up F1 2 (.int 0)))))) (s_invv (K := mX0_forget) (o := 13) (as := []) (rest := []) (v := none) dX3_forget_39 rfl lX3_63 (by omega) rfl (Nat.le_of_ble_eq_true rfl) rfl (Nat.le_of_ble_eq_true rfl) ((hs_ne (by decide)).trans ((hs_ne (by decide)).trans ((hs_ne (by decide)).trans ((hs_ne (by decide)).trans ((hs_ne (by decide)).trans ((hs_ne (by decide)).trans ((hs_ne (by decide)).trans (ho1)))))))) (p_X0_forget_1 (d := 0) (Nat.le_refl _) (hs (hs (hs (hs (hs (hs (hs h 8 (ob 3 (fo 15 (va_up F 4 (.int 0))))) 8 (ob 3 (fo 15 (va_up (va_up F 4 (.int 0)) 5 (.int 0))))) 8 (ob 3 (fo 15 (va_up (va_up (va_up F 4 (.int 0)) 5 (.int 0)) 10 (.int 0))))) 8 (ob 3 (fo 15 (va_up (va_up (va_up (va_up F 4 (.int 0)) 5 (.int 0)) 10 (.int 0)) 11 (.int 0))))) 8 (ob 3 (fo 15 (va_up (va_up (va_up (va_up (va_up F 4 (.int 0)) 5 (.int 0)) 10 (.int 0)) 11 (.int 0)) 12 (.int 0))))) 8 (ob 3 (fo 15 (va_up (va_up (va_up (va_up (va_up (va_up F 4 (.int 0)) 5 (.int 0)) 10 (.int 0)) 11 (.int 0)) 12 (.int 0)) 13 (.int 0))))) 8 (ob 3 (fo 15 (va_up (va_up (va_up (va_up (va_up (va_up (va_up F 4 (.int 0)) 5 (.int 0)) 10 (.int 0)) 11 (.int 0)) 12 (.int 0)) 13 (.int 0)) 14 (.int 0))))) 13 F1 ((hs_ne (by decide)).trans ((hs_ne (by decide)).trans ((hs_ne (by decide)).trans ((hs_ne (by decide)).trans ((hs_ne (by decide)).trans ((hs_ne (by decide)).trans ((hs_ne (by decide)).trans (ho1))))))))) (fun h => nomatch h)) ?_
  refine J.tr (s_aload_n (q := 43) dX3_forget_42 rfl rfl) ?_
  refine J.tr (s_gf (q := 46) (v := .ref 16) dX3_forget_43 rfl fX3_25.l ((hs_ne (by decide)).trans (hs_eq)) (by decide) ((up_ne (by decide)).trans ((up_ne (by decide)).trans ((up_ne (by decide)).trans ((up_ne (by decide)).trans ((up_ne (by decide)).trans ((up_ne (by decide)).trans ((up_ne (by decide)).trans (e3))))))))) ?_
  refine J.tr (p2 := 49) (l2 := [(0, .ref 8)]) (s2 := []) (h2 := (hs (hs (hs (hs (hs (hs (hs (hs (hs h 8 (ob 3 (fo 15 (va_up F 4 (.int 0))))) 8 (ob 3 (fo 15 (va_up (va_up F 4 (.int 0)) 5 (.int 0))))) 8 (ob 3 (fo 15 (va_up (va_up (va_up F 4 (.int 0)) 5 (.int 0)) 10 (.int 0))))) 8 (ob 3 (fo 15 (va_up (va_up (va_up (va_up F 4 (.int 0)) 5 (.int 0)) 10 (.int 0)) 11 (.int 0))))) 8 (ob 3 (fo 15 (va_up (va_up (va_up (va_up (va_up F 4 (.int 0)) 5 (.int 0)) 10 (.int 0)) 11 (.int 0)) 12 (.int 0))))) 8 (ob 3 (fo 15 (va_up (va_up (va_up (va_up (va_up (va_up F 4 (.int 0)) 5 (.int 0)) 10 (.int 0)) 11 (.int 0)) 12 (.int 0)) 13 (.int 0))))) 8 (ob 3 (fo 15 (va_up (va_up (va_up (va_up (va_up (va_up (va_up F 4 (.int 0)) 5 (.int 0)) 10 (.int 0)) 11 (.int 0)) 12 (.int 0)) 13 (.int 0)) 14 (.int 0))))) 13 (ob 0 (fo 3 (va_up F1 2 (.int 0))))) 16 (ob 0 (fo 3 (va_up F2 2 (.int 0)))))) (s_invv (K := mX0_forget) (o := 16) (as := []) (rest := []) (v := none) dX3_forget_46 rfl lX3_63 (by omega) rfl (Nat.le_of_ble_eq_true rfl) rfl (Nat.le_of_ble_eq_true rfl) ((hs_ne (by decide)).trans ((hs_ne (by decide)).trans ((hs_ne (by decide)).trans ((hs_ne (by decide)).trans ((hs_ne (by decide)).trans ((hs_ne (by decide)).trans ((hs_ne (by decide)).trans ((hs_ne (by decide)).trans (ho2))))))))) (p_X0_forget_1 (d := 0) (Nat.le_refl _) (hs (hs (hs (hs (hs (hs (hs (hs h 8 (ob 3 (fo 15 (va_up F 4 (.int 0))))) 8 (ob 3 (fo 15 (va_up (va_up F 4 (.int 0)) 5 (.int 0))))) 8 (ob 3 (fo 15 (va_up (va_up (va_up F 4 (.int 0)) 5 (.int 0)) 10 (.int 0))))) 8 (ob 3 (fo 15 (va_up (va_up (va_up (va_up F 4 (.int 0)) 5 (.int 0)) 10 (.int 0)) 11 (.int 0))))) 8 (ob 3 (fo 15 (va_up (va_up (va_up (va_up (va_up F 4 (.int 0)) 5 (.int 0)) 10 (.int 0)) 11 (.int 0)) 12 (.int 0))))) 8 (ob 3 (fo 15 (va_up (va_up (va_up (va_up (va_up (va_up F 4 (.int 0)) 5 (.int 0)) 10 (.int 0)) 11 (.int 0)) 12 (.int 0)) 13 (.int 0))))) 8 (ob 3 (fo 15 (va_up (va_up (va_up (va_up (va_up (va_up (va_up F 4 (.int 0)) 5 (.int 0)) 10 (.int 0)) 11 (.int 0)) 12 (.int 0)) 13 (.int 0)) 14 (.int 0))))) 13 (ob 0 (fo 3 (va_up F1 2 (.int 0))))) 16 F2 ((hs_ne (by decide)).trans ((hs_ne (by decide)).trans ((hs_ne (by decide)).trans ((hs_ne (by decide)).trans ((hs_ne (by decide)).trans ((hs_ne (by decide)).trans ((hs_ne (by decide)).trans ((hs_ne (by decide)).trans (ho2)))))))))) (fun h => nomatch h)) ?_
  refine J.tr (s_aload_n (q := 50) dX3_forget_49 rfl rfl) ?_
  refine J.tr (s_gf (q := 53) (v := .ref 9) dX3_forget_50 rfl fX3_12.l ((hs_ne (by decide)).trans ((hs_ne (by decide)).trans (hs_eq))) (by decide) ((up_ne (by decide)).trans ((up_ne (by decide)).trans ((up_ne (by decide)).trans ((up_ne (by decide)).trans ((up_ne (by decide)).trans ((up_ne (by decide)).trans ((up_ne (by decide)).trans (e1))))))))) ?_
  exact J.rf

set_option maxRecDepth 20000 in
theorem j_X3_forget_b_1 {d : Nat} (hd : 0 ≤ d) (h : AH)  : E false mX3_forget d 56 [(0, .ref 8)] [] h (none) h := by
  exact E.v dX3_forget_56 rfl rfl rfl

set_option maxRecDepth 20000 in
theorem j_X3_begin_a_1 {d : Nat} (hd : 0 ≤ d) (h : AH) (n : Int32) (m : Int32) (b : Int32) : J false mX3_begin d 0 [(0, .ref 8), (1, .int n), (2, .int m), (3, .int b)] [] h 1 [(0, .ref 8), (1, .int n), (2, .int m), (3, .int b)] [.ref 8] h := by
  refine J.tr (s_aload_n (q := 1) dX3_begin_0 rfl rfl) ?_
  exact J.rf

set_option maxRecDepth 20000 in
theorem j_X3_begin_b_1 {d : Nat} (hd : 1 ≤ d) (h : AH) (n : Int32) (m : Int32) (b : Int32) (F : Nat → Value) (ho : h.1 8 = ob 3 (fo 15 F)) (e2 : F 2 = .ref 13) (F1 : Nat → Value) (ho1 : h.1 13 = ob 0 (fo 3 F1)) (v2 : Int32) (e21 : F1 2 = .int v2) (e1 : F1 1 = .ref 15) (n1 : Nat) (f : Nat → Int32) (ha : h.1 15 = ia n1 f) (c : ¬ ((nI n1) ≤ v2)) (e0 : F1 0 = .ref 14) (n2 : Nat) (f1 : Nat → Int64) (ha1 : h.1 14 = la n2 f1) (c1 : vp_in v2 n2) (c2 : vp_in v2 n1) : E false mX3_begin d 4 [(0, .ref 8), (1, .int n), (2, .int m), (3, .int b)] [] h (none) (hs (hs (hs (hs (hs (hs (hs (hs h 8 (ob 3 (fo 15 (va_up F 4 (.int 1))))) 8 (ob 3 (fo 15 (va_up (va_up F 4 (.int 1)) 6 (.int n))))) 8 (ob 3 (fo 15 (va_up (va_up (va_up F 4 (.int 1)) 6 (.int n)) 7 (.int m))))) 8 (ob 3 (fo 15 (va_up (va_up (va_up (va_up F 4 (.int 1)) 6 (.int n)) 7 (.int m)) 8 (.int b))))) 8 (ob 3 (fo 15 (va_up (va_up (va_up (va_up (va_up F 4 (.int 1)) 6 (.int n)) 7 (.int m)) 8 (.int b)) 9 (.int b))))) 14 (la n2 (vp_updL f1 v2.toNatClampNeg (0 : Int64)))) 15 (ia n1 (upd f v2.toNatClampNeg (0 : Int32)))) 13 (ob 0 (fo 3 (va_up F1 2 (.int (v2 + 1)))))) := by
  refine E.st (s_aload_n (q := 5) dX3_begin_4 rfl rfl) ?_
  refine E.st (s_iconst (q := 6) (v := 1) dX3_begin_5 rfl (by decide)) ?_
  refine E.st (s_pf (q := 9) dX3_begin_6 rfl fX3_41 (ho) (by decide) (fun _ => ⟨rfl, rfl⟩)) ?_
  refine E.st (s_aload_n (q := 10) dX3_begin_9 rfl rfl) ?_
  refine E.st (s_iload_n (q := 11) dX3_begin_10 rfl rfl) ?_
  refine E.st (s_pf (q := 14) dX3_begin_11 rfl fX3_68 (hs_eq) (by decide) (fun _ => ⟨rfl, rfl⟩)) ?_
  refine E.st (s_aload_n (q := 15) dX3_begin_14 rfl rfl) ?_
  refine E.st (s_iload_n (q := 16) dX3_begin_15 rfl rfl) ?_
  refine E.st (s_pf (q := 19) dX3_begin_16 rfl fX3_71 (hs_eq) (by decide) (fun _ => ⟨rfl, rfl⟩)) ?_
  refine E.st (s_aload_n (q := 20) dX3_begin_19 rfl rfl) ?_
  refine E.st (s_iload_n (q := 21) dX3_begin_20 rfl rfl) ?_
  refine E.st (s_pf (q := 24) dX3_begin_21 rfl fX3_28 (hs_eq) (by decide) (fun _ => ⟨rfl, rfl⟩)) ?_
  refine E.st (s_aload_n (q := 25) dX3_begin_24 rfl rfl) ?_
  refine E.st (s_iload_n (q := 26) dX3_begin_25 rfl rfl) ?_
  refine E.st (s_pf (q := 29) dX3_begin_26 rfl fX3_74 (hs_eq) (by decide) (fun _ => ⟨rfl, rfl⟩)) ?_
  refine E.st (s_aload_n (q := 30) dX3_begin_29 rfl rfl) ?_
  refine E.st (s_gf (q := 33) (v := .ref 13) dX3_begin_30 rfl fX3_21.l (hs_eq) (by decide) ((up_ne (by decide)).trans ((up_ne (by decide)).trans ((up_ne (by decide)).trans ((up_ne (by decide)).trans ((up_ne (by decide)).trans (e2))))))) ?_
  refine E.st (s_lconst (q := 34) (v := 0) dX3_begin_33 rfl (by decide)) ?_
  refine E.st (s_iconst (q := 35) (v := 0) dX3_begin_34 rfl (by decide)) ?_
  refine E.st (p2 := 38) (l2 := [(0, .ref 8), (1, .int n), (2, .int m), (3, .int b)]) (s2 := []) (h2 := (hs (hs (hs (hs (hs (hs (hs (hs h 8 (ob 3 (fo 15 (va_up F 4 (.int 1))))) 8 (ob 3 (fo 15 (va_up (va_up F 4 (.int 1)) 6 (.int n))))) 8 (ob 3 (fo 15 (va_up (va_up (va_up F 4 (.int 1)) 6 (.int n)) 7 (.int m))))) 8 (ob 3 (fo 15 (va_up (va_up (va_up (va_up F 4 (.int 1)) 6 (.int n)) 7 (.int m)) 8 (.int b))))) 8 (ob 3 (fo 15 (va_up (va_up (va_up (va_up (va_up F 4 (.int 1)) 6 (.int n)) 7 (.int m)) 8 (.int b)) 9 (.int b))))) 14 (la n2 (vp_updL f1 v2.toNatClampNeg (0 : Int64)))) 15 (ia n1 (upd f v2.toNatClampNeg (0 : Int32)))) 13 (ob 0 (fo 3 (va_up F1 2 (.int (v2 + 1))))))) (s_invv (K := mX0_put) (o := 13) (as := [.long 0, .int 0]) (rest := []) (v := none) dX3_begin_35 rfl lX3_77 (by omega) rfl (Nat.le_of_ble_eq_true rfl) rfl (Nat.le_of_ble_eq_true rfl) ((hs_ne (by decide)).trans ((hs_ne (by decide)).trans ((hs_ne (by decide)).trans ((hs_ne (by decide)).trans ((hs_ne (by decide)).trans (ho1)))))) (p_X0_put_2 (d := 0) (Nat.le_refl _) (hs (hs (hs (hs (hs h 8 (ob 3 (fo 15 (va_up F 4 (.int 1))))) 8 (ob 3 (fo 15 (va_up (va_up F 4 (.int 1)) 6 (.int n))))) 8 (ob 3 (fo 15 (va_up (va_up (va_up F 4 (.int 1)) 6 (.int n)) 7 (.int m))))) 8 (ob 3 (fo 15 (va_up (va_up (va_up (va_up F 4 (.int 1)) 6 (.int n)) 7 (.int m)) 8 (.int b))))) 8 (ob 3 (fo 15 (va_up (va_up (va_up (va_up (va_up F 4 (.int 1)) 6 (.int n)) 7 (.int m)) 8 (.int b)) 9 (.int b))))) 13 (0 : Int64) (0 : Int32) F1 ((hs_ne (by decide)).trans ((hs_ne (by decide)).trans ((hs_ne (by decide)).trans ((hs_ne (by decide)).trans ((hs_ne (by decide)).trans (ho1)))))) v2 e21 15 e1 n1 f ((hs_ne (by decide)).trans ((hs_ne (by decide)).trans ((hs_ne (by decide)).trans ((hs_ne (by decide)).trans ((hs_ne (by decide)).trans (ha)))))) (by decide) c 14 e0 n2 f1 ((hs_ne (by decide)).trans ((hs_ne (by decide)).trans ((hs_ne (by decide)).trans ((hs_ne (by decide)).trans ((hs_ne (by decide)).trans (ha1)))))) c1 c2) (fun h => nomatch h)) ?_
  exact E.v dX3_begin_38 rfl rfl rfl
