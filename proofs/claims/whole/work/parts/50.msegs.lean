set_option maxRecDepth 20000 in
theorem j_X8_levelOf_a_1 {d : Nat} (hd : 0 ≤ d) (h : AH) (n : Int32) (x : Nat) (y : Nat) (F : Nat → Value) (ho : h.1 65 = ob 8 (fo 53 F)) (v7 : Int32) (e7 : F 7 = .int v7) : J false mX8_levelOf d 0 [(0, .ref 65), (1, .int n)] [] h 5 [(0, .ref 65), (1, .int n), (2, .int v7)] [] h := by
  refine J.tr (s_aload_n (q := 1) dX8_levelOf_0 rfl rfl) ?_
  refine J.tr (s_gf (q := 4) (v := .int v7) dX8_levelOf_1 rfl fX8_119.l (ho) (by decide) (e7)) ?_
  refine J.tr (s_istore_n (q := 5) (ls' := [(2, .int v7), (0, .ref 65), (1, .int n)]) dX8_levelOf_4 rfl (by decide) rfl) ?_
  refine J.tr (s_ls (ls' := [(0, .ref 65), (1, .int n), (2, .int v7)]) [1, 2, 0] rfl) ?_
  exact J.rf

set_option maxRecDepth 20000 in
theorem j_X8_levelOf_b_1 {d : Nat} (hd : 0 ≤ d) (h : AH) (n : Int32) (k : Int32) (x : Nat) (y : Nat) (F : Nat → Value) (ho : h.1 65 = ob 8 (fo 53 F)) (e8 : F 8 = .ref 71) (n1 : Nat) (f : Nat → Int32) (ha : h.1 71 = ia n1 f) (i : vp_in k n1) (c : (f k.toNatClampNeg) ≤ n) : E false mX8_levelOf d 5 [(0, .ref 65), (1, .int n), (2, .int k)] [] h (some (.int k)) h := by
  refine E.st (s_iload_n (q := 6) dX8_levelOf_5 rfl rfl) ?_
  refine E.st (s_aload_n (q := 7) dX8_levelOf_6 rfl rfl) ?_
  refine E.st (s_gf (q := 10) (v := .ref 71) dX8_levelOf_7 rfl fX8_26.l (ho) (by decide) (e8)) ?_
  refine E.st (s_iload_n (q := 11) dX8_levelOf_10 rfl rfl) ?_
  refine E.st (s_iald (q := 12) dX8_levelOf_11 rfl (by decide) (ha) i) ?_
  refine E.st (s_icmp_ge_t (q := 21) dX8_levelOf_12 (by decide) c) ?_
  refine E.st (s_iload_n (q := 22) dX8_levelOf_21 rfl rfl) ?_
  exact E.i dX8_levelOf_22 rfl rfl rfl rfl

set_option maxRecDepth 20000 in
theorem j_X8_levelOf_b_2 {d : Nat} (hd : 0 ≤ d) (h : AH) (n : Int32) (k : Int32) (x : Nat) (y : Nat) (F : Nat → Value) (ho : h.1 65 = ob 8 (fo 53 F)) (e8 : F 8 = .ref 71) (n1 : Nat) (f : Nat → Int32) (ha : h.1 71 = ia n1 f) (i : vp_in k n1) (c : ¬ ((f k.toNatClampNeg) ≤ n)) : J false mX8_levelOf d 5 [(0, .ref 65), (1, .int n), (2, .int k)] [] h 5 [(0, .ref 65), (1, .int n), (2, .int (k + (-1)))] [] h := by
  refine J.tr (s_iload_n (q := 6) dX8_levelOf_5 rfl rfl) ?_
  refine J.tr (s_aload_n (q := 7) dX8_levelOf_6 rfl rfl) ?_
  refine J.tr (s_gf (q := 10) (v := .ref 71) dX8_levelOf_7 rfl fX8_26.l (ho) (by decide) (e8)) ?_
  refine J.tr (s_iload_n (q := 11) dX8_levelOf_10 rfl rfl) ?_
  refine J.tr (s_iald (q := 12) dX8_levelOf_11 rfl (by decide) (ha) i) ?_
  refine J.tr (s_icmp_ge_f (q := 15) (tg := 21) dX8_levelOf_12 (by decide) rfl c) ?_
  refine J.tr (s_iinc (q := 18) (v := (k + (-1))) (ls' := [(2, .int (k + (-1))), (0, .ref 65), (1, .int n)]) dX8_levelOf_15 rfl (by decide) rfl rfl rfl) ?_
  refine J.tr (s_goto (q := 5) dX8_levelOf_18 (by decide)) ?_
  refine J.tr (s_ls (ls' := [(0, .ref 65), (1, .int n), (2, .int (k + (-1)))]) [1, 2, 0] rfl) ?_
  exact J.rf

set_option maxRecDepth 20000 in
theorem j_X8_cellOf_a_1 {d : Nat} (hd : 3 ≤ d) (h : AH) (n : Int32) (x : Nat) (y : Nat) (F : Nat → Value) (ho : h.1 65 = ob 8 (fo 53 F)) (q : Int32) (hq : CM mX8_levelOf 2 [.ref 65, .int n] h (some (.int q)) h) : E false mX8_cellOf d 0 [(0, .ref 65), (1, .int n)] [] h (some (.int ((60 * q) + n))) h := by
  refine E.st (s_bipush (q := 2) (v := 60) dX8_cellOf_0 rfl (by decide)) ?_
  refine E.st (s_aload_n (q := 3) dX8_cellOf_2 rfl rfl) ?_
  refine E.st (s_iload_n (q := 4) dX8_cellOf_3 rfl rfl) ?_
  refine E.st (p2 := 7) (l2 := [(0, .ref 65), (1, .int n)]) (s2 := [.int q, .int 60]) (h2 := h) (s_invv (K := mX8_levelOf) (o := 65) (as := [.int n]) (rest := [.int 60]) (v := some (.int q)) dX8_cellOf_4 rfl lX8_122 (by omega) rfl (Nat.le_of_ble_eq_true rfl) rfl (Nat.le_of_ble_eq_true rfl) (ho) hq (fun h => nomatch h)) ?_
  refine E.st (s_imul (q := 8) dX8_cellOf_7 rfl) ?_
  refine E.st (s_iload_n (q := 9) dX8_cellOf_8 rfl rfl) ?_
  refine E.st (s_iadd (q := 10) dX8_cellOf_9 rfl) ?_
  exact E.i dX8_cellOf_10 rfl rfl rfl rfl

set_option maxRecDepth 20000 in
theorem j_X8_beginWay_a_1 {d : Nat} (hd : 0 ≤ d) (h : AH) (x : Nat) (y : Nat) : J false mX8_beginWay d 0 [(0, .ref 65)] [] h 2 [(0, .ref 65), (1, .int 0)] [] h := by
  refine J.tr (s_iconst (q := 1) (v := 0) dX8_beginWay_0 rfl (by decide)) ?_
  refine J.tr (s_istore_n (q := 2) (ls' := [(1, .int 0), (0, .ref 65)]) dX8_beginWay_1 rfl (by decide) rfl) ?_
  refine J.tr (s_ls (ls' := [(0, .ref 65), (1, .int 0)]) [1, 0] rfl) ?_
  exact J.rf

set_option maxRecDepth 20000 in
theorem j_X8_beginWay_b_1 {d : Nat} (hd : 0 ≤ d) (h : AH) (i : Int32) (x : Nat) (y : Nat) (c : 60 ≤ i) (F : Nat → Value) (ho : h.1 65 = ob 8 (fo 53 F)) (e18 : F 18 = .ref 80) (v7 : Int32) (e7 : F 7 = .int v7) (n : Nat) (f : Nat → Int32) (ha : h.1 80 = ia n f) (i1 : vp_in v7 n) (e21 : F 21 = .ref 83) (n1 : Nat) (f1 : Nat → Int32) (ha1 : h.1 83 = ia n1 f1) (i2 : vp_in v7 n1) : E false mX8_beginWay d 2 [(0, .ref 65), (1, .int i)] [] h (none) (hs (hs h 80 (ia n (upd f v7.toNatClampNeg 0))) 83 (ia n1 (upd f1 v7.toNatClampNeg 0))) := by
  refine E.st (s_iload_n (q := 3) dX8_beginWay_2 rfl rfl) ?_
  refine E.st (s_bipush (q := 5) (v := 60) dX8_beginWay_3 rfl (by decide)) ?_
  refine E.st (s_icmp_ge_t (q := 29) dX8_beginWay_5 (by decide) c) ?_
  refine E.st (s_aload_n (q := 30) dX8_beginWay_29 rfl rfl) ?_
  refine E.st (s_gf (q := 33) (v := .ref 80) dX8_beginWay_30 rfl fX8_53.l (ho) (by decide) (e18)) ?_
  refine E.st (s_aload_n (q := 34) dX8_beginWay_33 rfl rfl) ?_
  refine E.st (s_gf (q := 37) (v := .int v7) dX8_beginWay_34 rfl fX8_119.l (ho) (by decide) (e7)) ?_
  refine E.st (s_iconst (q := 38) (v := 0) dX8_beginWay_37 rfl (by decide)) ?_
  refine E.st (s_iast (q := 39) dX8_beginWay_38 rfl (by decide) (ha) i1) ?_
  refine E.st (s_aload_n (q := 40) dX8_beginWay_39 rfl rfl) ?_
  refine E.st (s_gf (q := 43) (v := .ref 83) dX8_beginWay_40 rfl fX8_62.l ((hs_ne (by decide)).trans (ho)) (by decide) (e21)) ?_
  refine E.st (s_aload_n (q := 44) dX8_beginWay_43 rfl rfl) ?_
  refine E.st (s_gf (q := 47) (v := .int v7) dX8_beginWay_44 rfl fX8_119.l ((hs_ne (by decide)).trans (ho)) (by decide) (e7)) ?_
  refine E.st (s_iconst (q := 48) (v := 0) dX8_beginWay_47 rfl (by decide)) ?_
  refine E.st (s_iast (q := 49) dX8_beginWay_48 rfl (by decide) ((hs_ne (by decide)).trans (ha1)) i2) ?_
  exact E.v dX8_beginWay_49 rfl rfl rfl

set_option maxRecDepth 20000 in
theorem j_X8_beginWay_b_2 {d : Nat} (hd : 0 ≤ d) (h : AH) (i : Int32) (x : Nat) (y : Nat) (c : ¬ (60 ≤ i)) (F : Nat → Value) (ho : h.1 65 = ob 8 (fo 53 F)) (e9 : F 9 = .ref 72) (v7 : Int32) (e7 : F 7 = .int v7) (z : Int32) (en : ((60 * v7) + i) = z) (n : Nat) (f : Nat → Int32) (ha : h.1 72 = ia n f) (i1 : vp_in z n) : J false mX8_beginWay d 2 [(0, .ref 65), (1, .int i)] [] h 2 [(0, .ref 65), (1, .int (i + 1))] [] (hs h 72 (ia n (upd f z.toNatClampNeg 0))) := by
  refine J.tr (s_iload_n (q := 3) dX8_beginWay_2 rfl rfl) ?_
  refine J.tr (s_bipush (q := 5) (v := 60) dX8_beginWay_3 rfl (by decide)) ?_
  refine J.tr (s_icmp_ge_f (q := 8) (tg := 29) dX8_beginWay_5 (by decide) rfl c) ?_
  refine J.tr (s_aload_n (q := 9) dX8_beginWay_8 rfl rfl) ?_
  refine J.tr (s_gf (q := 12) (v := .ref 72) dX8_beginWay_9 rfl fX8_29.l (ho) (by decide) (e9)) ?_
  refine J.tr (s_bipush (q := 14) (v := 60) dX8_beginWay_12 rfl (by decide)) ?_
  refine J.tr (s_aload_n (q := 15) dX8_beginWay_14 rfl rfl) ?_
  refine J.tr (s_gf (q := 18) (v := .int v7) dX8_beginWay_15 rfl fX8_119.l (ho) (by decide) (e7)) ?_
  refine J.tr (s_imul (q := 19) dX8_beginWay_18 rfl) ?_
  refine J.tr (s_iload_n (q := 20) dX8_beginWay_19 rfl rfl) ?_
  refine J.tr (s_iadd (q := 21) dX8_beginWay_20 rfl) ?_
  refine J.tr (s_nmi en) ?_
  refine J.tr (s_iconst (q := 22) (v := 0) dX8_beginWay_21 rfl (by decide)) ?_
  refine J.tr (s_iast (q := 23) dX8_beginWay_22 rfl (by decide) (ha) i1) ?_
  refine J.tr (s_iinc (q := 26) (v := (i + 1)) (ls' := [(1, .int (i + 1)), (0, .ref 65)]) dX8_beginWay_23 rfl (by decide) rfl rfl rfl) ?_
  refine J.tr (s_goto (q := 2) dX8_beginWay_26 (by decide)) ?_
  refine J.tr (s_ls (ls' := [(0, .ref 65), (1, .int (i + 1))]) [1, 0] rfl) ?_
  exact J.rf

set_option maxRecDepth 20000 in
theorem j_X8_need_a_1 {d : Nat} (hd : 3 ≤ d) (h : AH) (n : Int32) (x : Nat) (y : Nat) (F : Nat → Value) (ho : h.1 65 = ob 8 (fo 53 F)) (q : Int32) (hq : CM mX8_levelOf 2 [.ref 65, .int n] h (some (.int q)) h) (e9 : F 9 = .ref 72) (z : Int32) (en : ((60 * q) + n) = z) (n1 : Nat) (f : Nat → Int32) (ha : h.1 72 = ia n1 f) (i : vp_in z n1) (c : (f z.toNatClampNeg) ≤ 0) (v7 : Int32) (e7 : F 7 = .int v7) (c1 : v7 ≤ q) (v25 : Int32) (e25 : F 25 = .int v25) (c2 : ¬ v25 = 2000) : J false mX8_need d 0 [(0, .ref 65), (1, .int n)] [] h 73 [(0, .ref 65), (1, .int n)] [.int n, .ref 65] (hs h 65 (ob 8 (fo 53 (va_up F 25 (.int (v25 + 1)))))) := by
  refine J.tr (s_aload_n (q := 1) dX8_need_0 rfl rfl) ?_
  refine J.tr (s_iload_n (q := 2) dX8_need_1 rfl rfl) ?_
  refine J.tr (p2 := 5) (l2 := [(0, .ref 65), (1, .int n)]) (s2 := [.int q]) (h2 := h) (s_invv (K := mX8_levelOf) (o := 65) (as := [.int n]) (rest := []) (v := some (.int q)) dX8_need_2 rfl lX8_122 (by omega) rfl (Nat.le_of_ble_eq_true rfl) rfl (Nat.le_of_ble_eq_true rfl) (ho) hq (fun h => nomatch h)) ?_
  refine J.tr (s_istore_n (q := 6) (ls' := [(2, .int q), (0, .ref 65), (1, .int n)]) dX8_need_5 rfl (by decide) rfl) ?_
  refine J.tr (s_aload_n (q := 7) dX8_need_6 rfl rfl) ?_
  refine J.tr (s_gf (q := 10) (v := .ref 72) dX8_need_7 rfl fX8_29.l (ho) (by decide) (e9)) ?_
  refine J.tr (s_bipush (q := 12) (v := 60) dX8_need_10 rfl (by decide)) ?_
  refine J.tr (s_iload_n (q := 13) dX8_need_12 rfl rfl) ?_
  refine J.tr (s_imul (q := 14) dX8_need_13 rfl) ?_
  refine J.tr (s_iload_n (q := 15) dX8_need_14 rfl rfl) ?_
  refine J.tr (s_iadd (q := 16) dX8_need_15 rfl) ?_
  refine J.tr (s_nmi en) ?_
  refine J.tr (s_iald (q := 17) dX8_need_16 rfl (by decide) (ha) i) ?_
  refine J.tr (s_if_le_t (q := 21) dX8_need_17 (by decide) c) ?_
  refine J.tr (s_iload_n (q := 22) dX8_need_21 rfl rfl) ?_
  refine J.tr (s_aload_n (q := 23) dX8_need_22 rfl rfl) ?_
  refine J.tr (s_gf (q := 26) (v := .int v7) dX8_need_23 rfl fX8_119.l (ho) (by decide) (e7)) ?_
  refine J.tr (s_icmp_ge_t (q := 45) dX8_need_26 (by decide) c1) ?_
  refine J.tr (s_aload_n (q := 46) dX8_need_45 rfl rfl) ?_
  refine J.tr (s_gf (q := 49) (v := .int v25) dX8_need_46 rfl fX8_135.l (ho) (by decide) (e25)) ?_
  refine J.tr (s_sipush (q := 52) (v := 2000) dX8_need_49 rfl (by decide)) ?_
  refine J.tr (s_icmp_ne_t (q := 61) dX8_need_52 (by decide) c2) ?_
  refine J.tr (s_aload_n (q := 62) dX8_need_61 rfl rfl) ?_
  refine J.tr (s_dup (q := 63) dX8_need_62 rfl rfl) ?_
  refine J.tr (s_gf (q := 66) (v := .int v25) dX8_need_63 rfl fX8_135.l (ho) (by decide) (e25)) ?_
  refine J.tr (s_iconst (q := 67) (v := 1) dX8_need_66 rfl (by decide)) ?_
  refine J.tr (s_iadd (q := 68) dX8_need_67 rfl) ?_
  refine J.tr (s_pf (q := 71) dX8_need_68 rfl fX8_135 (ho) (by decide) (fun _ => ⟨rfl, rfl⟩)) ?_
  refine J.tr (s_aload_n (q := 72) dX8_need_71 rfl rfl) ?_
  refine J.tr (s_iload_n (q := 73) dX8_need_72 rfl rfl) ?_
  refine J.tr (s_ls (ls' := [(0, .ref 65), (1, .int n)]) [1, 2] rfl) ?_
  exact J.rf

set_option maxRecDepth 20000 in
theorem j_X8_need_a_2 {d : Nat} (hd : 3 ≤ d) (h : AH) (n : Int32) (x : Nat) (y : Nat) (F : Nat → Value) (ho : h.1 65 = ob 8 (fo 53 F)) (q : Int32) (hq : CM mX8_levelOf 2 [.ref 65, .int n] h (some (.int q)) h) (e9 : F 9 = .ref 72) (z : Int32) (en : ((60 * q) + n) = z) (n1 : Nat) (f : Nat → Int32) (ha : h.1 72 = ia n1 f) (i : vp_in z n1) (c : (f z.toNatClampNeg) ≤ 0) (v7 : Int32) (e7 : F 7 = .int v7) (c1 : v7 ≤ q) (v25 : Int32) (e25 : F 25 = .int v25) (c2 : v25 = 2000) : E false mX8_need d 0 [(0, .ref 65), (1, .int n)] [] h (none) (hs h 65 (ob 8 (fo 53 (va_up F 26 (.int 2))))) := by
  refine E.st (s_aload_n (q := 1) dX8_need_0 rfl rfl) ?_
  refine E.st (s_iload_n (q := 2) dX8_need_1 rfl rfl) ?_
  refine E.st (p2 := 5) (l2 := [(0, .ref 65), (1, .int n)]) (s2 := [.int q]) (h2 := h) (s_invv (K := mX8_levelOf) (o := 65) (as := [.int n]) (rest := []) (v := some (.int q)) dX8_need_2 rfl lX8_122 (by omega) rfl (Nat.le_of_ble_eq_true rfl) rfl (Nat.le_of_ble_eq_true rfl) (ho) hq (fun h => nomatch h)) ?_
  refine E.st (s_istore_n (q := 6) (ls' := [(2, .int q), (0, .ref 65), (1, .int n)]) dX8_need_5 rfl (by decide) rfl) ?_
  refine E.st (s_aload_n (q := 7) dX8_need_6 rfl rfl) ?_
  refine E.st (s_gf (q := 10) (v := .ref 72) dX8_need_7 rfl fX8_29.l (ho) (by decide) (e9)) ?_
  refine E.st (s_bipush (q := 12) (v := 60) dX8_need_10 rfl (by decide)) ?_
  refine E.st (s_iload_n (q := 13) dX8_need_12 rfl rfl) ?_
  refine E.st (s_imul (q := 14) dX8_need_13 rfl) ?_
  refine E.st (s_iload_n (q := 15) dX8_need_14 rfl rfl) ?_
  refine E.st (s_iadd (q := 16) dX8_need_15 rfl) ?_
  refine E.st (s_nmi en) ?_
  refine E.st (s_iald (q := 17) dX8_need_16 rfl (by decide) (ha) i) ?_
  refine E.st (s_if_le_t (q := 21) dX8_need_17 (by decide) c) ?_
  refine E.st (s_iload_n (q := 22) dX8_need_21 rfl rfl) ?_
  refine E.st (s_aload_n (q := 23) dX8_need_22 rfl rfl) ?_
  refine E.st (s_gf (q := 26) (v := .int v7) dX8_need_23 rfl fX8_119.l (ho) (by decide) (e7)) ?_
  refine E.st (s_icmp_ge_t (q := 45) dX8_need_26 (by decide) c1) ?_
  refine E.st (s_aload_n (q := 46) dX8_need_45 rfl rfl) ?_
  refine E.st (s_gf (q := 49) (v := .int v25) dX8_need_46 rfl fX8_135.l (ho) (by decide) (e25)) ?_
  refine E.st (s_sipush (q := 52) (v := 2000) dX8_need_49 rfl (by decide)) ?_
  refine E.st (s_icmp_ne_f (q := 55) (tg := 61) dX8_need_52 (by decide) rfl c2) ?_
  refine E.st (s_aload_n (q := 56) dX8_need_55 rfl rfl) ?_
  refine E.st (s_iconst (q := 57) (v := 2) dX8_need_56 rfl (by decide)) ?_
  refine E.st (s_pf (q := 60) dX8_need_57 rfl fX8_126 (ho) (by decide) (fun _ => ⟨rfl, rfl⟩)) ?_
  exact E.v dX8_need_60 rfl rfl rfl

set_option maxRecDepth 20000 in
theorem j_X8_need_a_3 {d : Nat} (hd : 3 ≤ d) (h : AH) (n : Int32) (x : Nat) (y : Nat) (F : Nat → Value) (ho : h.1 65 = ob 8 (fo 53 F)) (q : Int32) (hq : CM mX8_levelOf 2 [.ref 65, .int n] h (some (.int q)) h) (e9 : F 9 = .ref 72) (z : Int32) (en : ((60 * q) + n) = z) (n1 : Nat) (f : Nat → Int32) (ha : h.1 72 = ia n1 f) (i : vp_in z n1) (c : (f z.toNatClampNeg) ≤ 0) (v7 : Int32) (e7 : F 7 = .int v7) (c1 : ¬ (v7 ≤ q)) : E false mX8_need d 0 [(0, .ref 65), (1, .int n)] [] h (none) (hs (hs (hs h 65 (ob 8 (fo 53 (va_up F 26 (.int 4))))) 65 (ob 8 (fo 53 (va_up (va_up F 26 (.int 4)) 27 (.int n))))) 65 (ob 8 (fo 53 (va_up (va_up (va_up F 26 (.int 4)) 27 (.int n)) 28 (.int q))))) := by
  refine E.st (s_aload_n (q := 1) dX8_need_0 rfl rfl) ?_
  refine E.st (s_iload_n (q := 2) dX8_need_1 rfl rfl) ?_
  refine E.st (p2 := 5) (l2 := [(0, .ref 65), (1, .int n)]) (s2 := [.int q]) (h2 := h) (s_invv (K := mX8_levelOf) (o := 65) (as := [.int n]) (rest := []) (v := some (.int q)) dX8_need_2 rfl lX8_122 (by omega) rfl (Nat.le_of_ble_eq_true rfl) rfl (Nat.le_of_ble_eq_true rfl) (ho) hq (fun h => nomatch h)) ?_
  refine E.st (s_istore_n (q := 6) (ls' := [(2, .int q), (0, .ref 65), (1, .int n)]) dX8_need_5 rfl (by decide) rfl) ?_
  refine E.st (s_aload_n (q := 7) dX8_need_6 rfl rfl) ?_
  refine E.st (s_gf (q := 10) (v := .ref 72) dX8_need_7 rfl fX8_29.l (ho) (by decide) (e9)) ?_
  refine E.st (s_bipush (q := 12) (v := 60) dX8_need_10 rfl (by decide)) ?_
  refine E.st (s_iload_n (q := 13) dX8_need_12 rfl rfl) ?_
  refine E.st (s_imul (q := 14) dX8_need_13 rfl) ?_
  refine E.st (s_iload_n (q := 15) dX8_need_14 rfl rfl) ?_
  refine E.st (s_iadd (q := 16) dX8_need_15 rfl) ?_
  refine E.st (s_nmi en) ?_
  refine E.st (s_iald (q := 17) dX8_need_16 rfl (by decide) (ha) i) ?_
  refine E.st (s_if_le_t (q := 21) dX8_need_17 (by decide) c) ?_
  refine E.st (s_iload_n (q := 22) dX8_need_21 rfl rfl) ?_
  refine E.st (s_aload_n (q := 23) dX8_need_22 rfl rfl) ?_
  refine E.st (s_gf (q := 26) (v := .int v7) dX8_need_23 rfl fX8_119.l (ho) (by decide) (e7)) ?_
  refine E.st (s_icmp_ge_f (q := 29) (tg := 45) dX8_need_26 (by decide) rfl c1) ?_
  refine E.st (s_aload_n (q := 30) dX8_need_29 rfl rfl) ?_
  refine E.st (s_iconst (q := 31) (v := 4) dX8_need_30 rfl (by decide)) ?_
  refine E.st (s_pf (q := 34) dX8_need_31 rfl fX8_126 (ho) (by decide) (fun _ => ⟨rfl, rfl⟩)) ?_
  refine E.st (s_aload_n (q := 35) dX8_need_34 rfl rfl) ?_
  refine E.st (s_iload_n (q := 36) dX8_need_35 rfl rfl) ?_
  refine E.st (s_pf (q := 39) dX8_need_36 rfl fX8_129 (hs_eq) (by decide) (fun _ => ⟨rfl, rfl⟩)) ?_
  refine E.st (s_aload_n (q := 40) dX8_need_39 rfl rfl) ?_
  refine E.st (s_iload_n (q := 41) dX8_need_40 rfl rfl) ?_
  refine E.st (s_pf (q := 44) dX8_need_41 rfl fX8_132 (hs_eq) (by decide) (fun _ => ⟨rfl, rfl⟩)) ?_
  exact E.v dX8_need_44 rfl rfl rfl

set_option maxRecDepth 20000 in
theorem j_X8_need_a_4 {d : Nat} (hd : 3 ≤ d) (h : AH) (n : Int32) (x : Nat) (y : Nat) (F : Nat → Value) (ho : h.1 65 = ob 8 (fo 53 F)) (q : Int32) (hq : CM mX8_levelOf 2 [.ref 65, .int n] h (some (.int q)) h) (e9 : F 9 = .ref 72) (z : Int32) (en : ((60 * q) + n) = z) (n1 : Nat) (f : Nat → Int32) (ha : h.1 72 = ia n1 f) (i : vp_in z n1) (c : ¬ ((f z.toNatClampNeg) ≤ 0)) : E false mX8_need d 0 [(0, .ref 65), (1, .int n)] [] h (none) h := by
  refine E.st (s_aload_n (q := 1) dX8_need_0 rfl rfl) ?_
  refine E.st (s_iload_n (q := 2) dX8_need_1 rfl rfl) ?_
  refine E.st (p2 := 5) (l2 := [(0, .ref 65), (1, .int n)]) (s2 := [.int q]) (h2 := h) (s_invv (K := mX8_levelOf) (o := 65) (as := [.int n]) (rest := []) (v := some (.int q)) dX8_need_2 rfl lX8_122 (by omega) rfl (Nat.le_of_ble_eq_true rfl) rfl (Nat.le_of_ble_eq_true rfl) (ho) hq (fun h => nomatch h)) ?_
  refine E.st (s_istore_n (q := 6) (ls' := [(2, .int q), (0, .ref 65), (1, .int n)]) dX8_need_5 rfl (by decide) rfl) ?_
  refine E.st (s_aload_n (q := 7) dX8_need_6 rfl rfl) ?_
  refine E.st (s_gf (q := 10) (v := .ref 72) dX8_need_7 rfl fX8_29.l (ho) (by decide) (e9)) ?_
  refine E.st (s_bipush (q := 12) (v := 60) dX8_need_10 rfl (by decide)) ?_
  refine E.st (s_iload_n (q := 13) dX8_need_12 rfl rfl) ?_
  refine E.st (s_imul (q := 14) dX8_need_13 rfl) ?_
  refine E.st (s_iload_n (q := 15) dX8_need_14 rfl rfl) ?_
  refine E.st (s_iadd (q := 16) dX8_need_15 rfl) ?_
  refine E.st (s_nmi en) ?_
  refine E.st (s_iald (q := 17) dX8_need_16 rfl (by decide) (ha) i) ?_
  refine E.st (s_if_le_f (q := 20) (tg := 21) dX8_need_17 (by decide) rfl c) ?_
  exact E.v dX8_need_20 rfl rfl rfl

set_option maxRecDepth 20000 in
theorem j_X8_need_b_1 {d : Nat} (hd : 0 ≤ d) (h : AH) (n : Int32) (x : Nat) (y : Nat) : E false mX8_need d 76 [(0, .ref 65), (1, .int n)] [] h (none) h := by
  exact E.v dX8_need_76 rfl rfl rfl

set_option maxRecDepth 20000 in
theorem j_X8_workOut_a_1 {d : Nat} (hd : 1 ≤ d) (h : AH) (n : Int32) (x : Nat) (y : Nat) (F : Nat → Value) (ho : h.1 65 = ob 8 (fo 53 F)) (v7 : Int32) (e7 : F 7 = .int v7) (z : Int32) (en : ((60 * v7) + n) = z) (e2 : F 2 = .ref 66) (n1 : Nat) (f : Nat → Int32) (ha : h.1 66 = ia n1 f) (i : vp_in n n1) (c : (f n.toNatClampNeg) = 0) (e3 : F 3 = .ref 67) (n2 : Nat) (f1 : Nat → Int64) (ha1 : h.1 67 = la n2 f1) (i1 : vp_in n n2) (e9 : F 9 = .ref 72) (n3 : Nat) (f2 : Nat → Int32) (ha2 : h.1 72 = ia n3 f2) (c1 : vp_in z n3) (e10 : F 10 = .ref 73) (n4 : Nat) (f3 : Nat → Int64) (ha3 : h.1 73 = la n4 f3) (c2 : vp_in z n4) : E false mX8_workOut d 0 [(0, .ref 65), (1, .int n)] [] h (none) (hs (hs h 72 (ia n3 (upd f2 z.toNatClampNeg 1))) 73 (la n4 (vp_updL f3 z.toNatClampNeg (f1 n.toNatClampNeg)))) := by
  refine E.st (s_bipush (q := 2) (v := 60) dX8_workOut_0 rfl (by decide)) ?_
  refine E.st (s_aload_n (q := 3) dX8_workOut_2 rfl rfl) ?_
  refine E.st (s_gf (q := 6) (v := .int v7) dX8_workOut_3 rfl fX8_119.l (ho) (by decide) (e7)) ?_
  refine E.st (s_imul (q := 7) dX8_workOut_6 rfl) ?_
  refine E.st (s_iload_n (q := 8) dX8_workOut_7 rfl rfl) ?_
  refine E.st (s_iadd (q := 9) dX8_workOut_8 rfl) ?_
  refine E.st (s_nmi en) ?_
  refine E.st (s_istore_n (q := 10) (ls' := [(2, .int z), (0, .ref 65), (1, .int n)]) dX8_workOut_9 rfl (by decide) rfl) ?_
  refine E.st (s_aload_n (q := 11) dX8_workOut_10 rfl rfl) ?_
  refine E.st (s_gf (q := 14) (v := .ref 66) dX8_workOut_11 rfl fX8_9.l (ho) (by decide) (e2)) ?_
  refine E.st (s_iload_n (q := 15) dX8_workOut_14 rfl rfl) ?_
  refine E.st (s_iald (q := 16) dX8_workOut_15 rfl (by decide) (ha) i) ?_
  refine E.st (s_tabIn (q := 68) (off := 52) dX8_workOut_16 (by rw [c]; decide) (by rw [c]; decide) (by rw [c]; rfl) (by decide)) ?_
  refine E.st (s_aload_n (q := 69) dX8_workOut_68 rfl rfl) ?_
  refine E.st (s_iload_n (q := 70) dX8_workOut_69 rfl rfl) ?_
  refine E.st (s_aload_n (q := 71) dX8_workOut_70 rfl rfl) ?_
  refine E.st (s_gf (q := 74) (v := .ref 67) dX8_workOut_71 rfl fX8_13.l (ho) (by decide) (e3)) ?_
  refine E.st (s_iload_n (q := 75) dX8_workOut_74 rfl rfl) ?_
  refine E.st (s_lald (q := 76) dX8_workOut_75 rfl (ha1) i1) ?_
  refine E.st (p2 := 79) (l2 := [(2, .int z), (0, .ref 65), (1, .int n)]) (s2 := []) (h2 := (hs (hs h 72 (ia n3 (upd f2 z.toNatClampNeg 1))) 73 (la n4 (vp_updL f3 z.toNatClampNeg (f1 n.toNatClampNeg))))) (s_invv (K := mX8_tell) (o := 65) (as := [.int z, .long (f1 n.toNatClampNeg)]) (rest := []) (v := none) dX8_workOut_76 rfl lX8_142 (by omega) rfl (Nat.le_of_ble_eq_true rfl) rfl (Nat.le_of_ble_eq_true rfl) (ho) (p_X8_tell_1 (d := 0) (Nat.le_refl _) h 65 z (f1 n.toNatClampNeg) F ho 72 e9 n3 f2 ha2 c1 (by decide) 73 e10 n4 f3 ha3 c2) (fun h => nomatch h)) ?_
  refine E.st (s_goto (q := 287) dX8_workOut_79 (by decide)) ?_
  exact E.v dX8_workOut_287 rfl rfl rfl

set_option maxRecDepth 20000 in
theorem j_X8_workOut_a_2 {d : Nat} (hd : 0 ≤ d) (h : AH) (n : Int32) (x : Nat) (y : Nat) (F : Nat → Value) (ho : h.1 65 = ob 8 (fo 53 F)) (v7 : Int32) (e7 : F 7 = .int v7) (z : Int32) (en : ((60 * v7) + n) = z) (e2 : F 2 = .ref 66) (n1 : Nat) (f : Nat → Int32) (ha : h.1 66 = ia n1 f) (i : vp_in n n1) (c : (f n.toNatClampNeg) = 1) : J false mX8_workOut d 0 [(0, .ref 65), (1, .int n)] [] h 85 [(0, .ref 65), (1, .int n), (2, .int z)] [.int n, .int z, .ref 65] h := by
  refine J.tr (s_bipush (q := 2) (v := 60) dX8_workOut_0 rfl (by decide)) ?_
  refine J.tr (s_aload_n (q := 3) dX8_workOut_2 rfl rfl) ?_
  refine J.tr (s_gf (q := 6) (v := .int v7) dX8_workOut_3 rfl fX8_119.l (ho) (by decide) (e7)) ?_
  refine J.tr (s_imul (q := 7) dX8_workOut_6 rfl) ?_
  refine J.tr (s_iload_n (q := 8) dX8_workOut_7 rfl rfl) ?_
  refine J.tr (s_iadd (q := 9) dX8_workOut_8 rfl) ?_
  refine J.tr (s_nmi en) ?_
  refine J.tr (s_istore_n (q := 10) (ls' := [(2, .int z), (0, .ref 65), (1, .int n)]) dX8_workOut_9 rfl (by decide) rfl) ?_
  refine J.tr (s_aload_n (q := 11) dX8_workOut_10 rfl rfl) ?_
  refine J.tr (s_gf (q := 14) (v := .ref 66) dX8_workOut_11 rfl fX8_9.l (ho) (by decide) (e2)) ?_
  refine J.tr (s_iload_n (q := 15) dX8_workOut_14 rfl rfl) ?_
  refine J.tr (s_iald (q := 16) dX8_workOut_15 rfl (by decide) (ha) i) ?_
  refine J.tr (s_tabIn (q := 82) (off := 66) dX8_workOut_16 (by rw [c]; decide) (by rw [c]; decide) (by rw [c]; rfl) (by decide)) ?_
  refine J.tr (s_aload_n (q := 83) dX8_workOut_82 rfl rfl) ?_
  refine J.tr (s_iload_n (q := 84) dX8_workOut_83 rfl rfl) ?_
  refine J.tr (s_iload_n (q := 85) dX8_workOut_84 rfl rfl) ?_
  refine J.tr (s_ls (ls' := [(0, .ref 65), (1, .int n), (2, .int z)]) [1, 2, 0] rfl) ?_
  exact J.rf

set_option maxRecDepth 20000 in
theorem j_X8_workOut_a_3 {d : Nat} (hd : 0 ≤ d) (h : AH) (n : Int32) (x : Nat) (y : Nat) (F : Nat → Value) (ho : h.1 65 = ob 8 (fo 53 F)) (v7 : Int32) (e7 : F 7 = .int v7) (z : Int32) (en : ((60 * v7) + n) = z) (e2 : F 2 = .ref 66) (n1 : Nat) (f : Nat → Int32) (ha : h.1 66 = ia n1 f) (i : vp_in n n1) (c : (f n.toNatClampNeg) = 2) : E false mX8_workOut d 0 [(0, .ref 65), (1, .int n)] [] h (none) (hs h 65 (ob 8 (fo 53 (va_up F 26 (.int 1))))) := by
  refine E.st (s_bipush (q := 2) (v := 60) dX8_workOut_0 rfl (by decide)) ?_
  refine E.st (s_aload_n (q := 3) dX8_workOut_2 rfl rfl) ?_
  refine E.st (s_gf (q := 6) (v := .int v7) dX8_workOut_3 rfl fX8_119.l (ho) (by decide) (e7)) ?_
  refine E.st (s_imul (q := 7) dX8_workOut_6 rfl) ?_
  refine E.st (s_iload_n (q := 8) dX8_workOut_7 rfl rfl) ?_
  refine E.st (s_iadd (q := 9) dX8_workOut_8 rfl) ?_
  refine E.st (s_nmi en) ?_
  refine E.st (s_istore_n (q := 10) (ls' := [(2, .int z), (0, .ref 65), (1, .int n)]) dX8_workOut_9 rfl (by decide) rfl) ?_
  refine E.st (s_aload_n (q := 11) dX8_workOut_10 rfl rfl) ?_
  refine E.st (s_gf (q := 14) (v := .ref 66) dX8_workOut_11 rfl fX8_9.l (ho) (by decide) (e2)) ?_
  refine E.st (s_iload_n (q := 15) dX8_workOut_14 rfl rfl) ?_
  refine E.st (s_iald (q := 16) dX8_workOut_15 rfl (by decide) (ha) i) ?_
  refine E.st (s_tabIn (q := 91) (off := 75) dX8_workOut_16 (by rw [c]; decide) (by rw [c]; decide) (by rw [c]; rfl) (by decide)) ?_
  refine E.st (s_aload_n (q := 92) dX8_workOut_91 rfl rfl) ?_
  refine E.st (s_iconst (q := 93) (v := 1) dX8_workOut_92 rfl (by decide)) ?_
  refine E.st (s_pf (q := 96) dX8_workOut_93 rfl fX8_126 (ho) (by decide) (fun _ => ⟨rfl, rfl⟩)) ?_
  refine E.st (s_goto (q := 287) dX8_workOut_96 (by decide)) ?_
  exact E.v dX8_workOut_287 rfl rfl rfl

set_option maxRecDepth 20000 in
theorem j_X8_workOut_a_4 {d : Nat} (hd : 0 ≤ d) (h : AH) (n : Int32) (x : Nat) (y : Nat) (F : Nat → Value) (ho : h.1 65 = ob 8 (fo 53 F)) (v7 : Int32) (e7 : F 7 = .int v7) (z : Int32) (en : ((60 * v7) + n) = z) (e2 : F 2 = .ref 66) (n1 : Nat) (f : Nat → Int32) (ha : h.1 66 = ia n1 f) (i : vp_in n n1) (c : (f n.toNatClampNeg) = 3) (e9 : F 9 = .ref 72) (n2 : Nat) (f1 : Nat → Int32) (ha1 : h.1 72 = ia n2 f1) (i1 : vp_in z n2) (e11 : F 11 = .ref 74) (e4 : F 4 = .ref 68) (n3 : Nat) (f2 : Nat → Int32) (ha2 : h.1 68 = ia n3 f2) (i2 : vp_in n n3) (n4 : Nat) (f3 : Nat → Int32) (ha3 : h.1 74 = ia n4 f3) (i3 : vp_in z n4) (e12 : F 12 = .ref 75) (e5 : F 5 = .ref 69) (n5 : Nat) (f4 : Nat → Int32) (ha4 : h.1 69 = ia n5 f4) (i4 : vp_in n n5) (n6 : Nat) (f5 : Nat → Int32) (ha5 : h.1 75 = ia n6 f5) (i5 : vp_in z n6) : E false mX8_workOut d 0 [(0, .ref 65), (1, .int n)] [] h (none) (hs (hs (hs h 72 (ia n2 (upd f1 z.toNatClampNeg 2))) 74 (ia n4 (upd f3 z.toNatClampNeg (f2 n.toNatClampNeg)))) 75 (ia n6 (upd f5 z.toNatClampNeg (f4 n.toNatClampNeg)))) := by
  refine E.st (s_bipush (q := 2) (v := 60) dX8_workOut_0 rfl (by decide)) ?_
  refine E.st (s_aload_n (q := 3) dX8_workOut_2 rfl rfl) ?_
  refine E.st (s_gf (q := 6) (v := .int v7) dX8_workOut_3 rfl fX8_119.l (ho) (by decide) (e7)) ?_
  refine E.st (s_imul (q := 7) dX8_workOut_6 rfl) ?_
  refine E.st (s_iload_n (q := 8) dX8_workOut_7 rfl rfl) ?_
  refine E.st (s_iadd (q := 9) dX8_workOut_8 rfl) ?_
  refine E.st (s_nmi en) ?_
  refine E.st (s_istore_n (q := 10) (ls' := [(2, .int z), (0, .ref 65), (1, .int n)]) dX8_workOut_9 rfl (by decide) rfl) ?_
  refine E.st (s_aload_n (q := 11) dX8_workOut_10 rfl rfl) ?_
  refine E.st (s_gf (q := 14) (v := .ref 66) dX8_workOut_11 rfl fX8_9.l (ho) (by decide) (e2)) ?_
  refine E.st (s_iload_n (q := 15) dX8_workOut_14 rfl rfl) ?_
  refine E.st (s_iald (q := 16) dX8_workOut_15 rfl (by decide) (ha) i) ?_
  refine E.st (s_tabIn (q := 99) (off := 83) dX8_workOut_16 (by rw [c]; decide) (by rw [c]; decide) (by rw [c]; rfl) (by decide)) ?_
  refine E.st (s_aload_n (q := 100) dX8_workOut_99 rfl rfl) ?_
  refine E.st (s_gf (q := 103) (v := .ref 72) dX8_workOut_100 rfl fX8_29.l (ho) (by decide) (e9)) ?_
  refine E.st (s_iload_n (q := 104) dX8_workOut_103 rfl rfl) ?_
  refine E.st (s_iconst (q := 105) (v := 2) dX8_workOut_104 rfl (by decide)) ?_
  refine E.st (s_iast (q := 106) dX8_workOut_105 rfl (by decide) (ha1) i1) ?_
  refine E.st (s_aload_n (q := 107) dX8_workOut_106 rfl rfl) ?_
  refine E.st (s_gf (q := 110) (v := .ref 74) dX8_workOut_107 rfl fX8_35.l ((hs_ne (by decide)).trans (ho)) (by decide) (e11)) ?_
  refine E.st (s_iload_n (q := 111) dX8_workOut_110 rfl rfl) ?_
  refine E.st (s_aload_n (q := 112) dX8_workOut_111 rfl rfl) ?_
  refine E.st (s_gf (q := 115) (v := .ref 68) dX8_workOut_112 rfl fX8_17.l ((hs_ne (by decide)).trans (ho)) (by decide) (e4)) ?_
  refine E.st (s_iload_n (q := 116) dX8_workOut_115 rfl rfl) ?_
  refine E.st (s_iald (q := 117) dX8_workOut_116 rfl (by decide) ((hs_ne (by decide)).trans (ha2)) i2) ?_
  refine E.st (s_iast (q := 118) dX8_workOut_117 rfl (by decide) ((hs_ne (by decide)).trans (ha3)) i3) ?_
  refine E.st (s_aload_n (q := 119) dX8_workOut_118 rfl rfl) ?_
  refine E.st (s_gf (q := 122) (v := .ref 75) dX8_workOut_119 rfl fX8_38.l ((hs_ne (by decide)).trans ((hs_ne (by decide)).trans (ho))) (by decide) (e12)) ?_
  refine E.st (s_iload_n (q := 123) dX8_workOut_122 rfl rfl) ?_
  refine E.st (s_aload_n (q := 124) dX8_workOut_123 rfl rfl) ?_
  refine E.st (s_gf (q := 127) (v := .ref 69) dX8_workOut_124 rfl fX8_20.l ((hs_ne (by decide)).trans ((hs_ne (by decide)).trans (ho))) (by decide) (e5)) ?_
  refine E.st (s_iload_n (q := 128) dX8_workOut_127 rfl rfl) ?_
  refine E.st (s_iald (q := 129) dX8_workOut_128 rfl (by decide) ((hs_ne (by decide)).trans ((hs_ne (by decide)).trans (ha4))) i4) ?_
  refine E.st (s_iast (q := 130) dX8_workOut_129 rfl (by decide) ((hs_ne (by decide)).trans ((hs_ne (by decide)).trans (ha5))) i5) ?_
  refine E.st (s_goto (q := 287) dX8_workOut_130 (by decide)) ?_
  exact E.v dX8_workOut_287 rfl rfl rfl

set_option maxRecDepth 20000 in
theorem j_X8_workOut_a_5 {d : Nat} (hd : 0 ≤ d) (h : AH) (n : Int32) (x : Nat) (y : Nat) (F : Nat → Value) (ho : h.1 65 = ob 8 (fo 53 F)) (v7 : Int32) (e7 : F 7 = .int v7) (z : Int32) (en : ((60 * v7) + n) = z) (e2 : F 2 = .ref 66) (n1 : Nat) (f : Nat → Int32) (ha : h.1 66 = ia n1 f) (i : vp_in n n1) (c : (f n.toNatClampNeg) = 4) (e4 : F 4 = .ref 68) (n2 : Nat) (f1 : Nat → Int32) (ha1 : h.1 68 = ia n2 f1) (i1 : vp_in n n2) : J false mX8_workOut d 0 [(0, .ref 65), (1, .int n)] [] h 141 [(0, .ref 65), (1, .int n), (2, .int z)] [.int 2, .int (f1 n.toNatClampNeg), .ref 65] h := by
  refine J.tr (s_bipush (q := 2) (v := 60) dX8_workOut_0 rfl (by decide)) ?_
  refine J.tr (s_aload_n (q := 3) dX8_workOut_2 rfl rfl) ?_
  refine J.tr (s_gf (q := 6) (v := .int v7) dX8_workOut_3 rfl fX8_119.l (ho) (by decide) (e7)) ?_
  refine J.tr (s_imul (q := 7) dX8_workOut_6 rfl) ?_
  refine J.tr (s_iload_n (q := 8) dX8_workOut_7 rfl rfl) ?_
  refine J.tr (s_iadd (q := 9) dX8_workOut_8 rfl) ?_
  refine J.tr (s_nmi en) ?_
  refine J.tr (s_istore_n (q := 10) (ls' := [(2, .int z), (0, .ref 65), (1, .int n)]) dX8_workOut_9 rfl (by decide) rfl) ?_
  refine J.tr (s_aload_n (q := 11) dX8_workOut_10 rfl rfl) ?_
  refine J.tr (s_gf (q := 14) (v := .ref 66) dX8_workOut_11 rfl fX8_9.l (ho) (by decide) (e2)) ?_
  refine J.tr (s_iload_n (q := 15) dX8_workOut_14 rfl rfl) ?_
  refine J.tr (s_iald (q := 16) dX8_workOut_15 rfl (by decide) (ha) i) ?_
  refine J.tr (s_tabIn (q := 133) (off := 117) dX8_workOut_16 (by rw [c]; decide) (by rw [c]; decide) (by rw [c]; rfl) (by decide)) ?_
  refine J.tr (s_aload_n (q := 134) dX8_workOut_133 rfl rfl) ?_
  refine J.tr (s_aload_n (q := 135) dX8_workOut_134 rfl rfl) ?_
  refine J.tr (s_gf (q := 138) (v := .ref 68) dX8_workOut_135 rfl fX8_17.l (ho) (by decide) (e4)) ?_
  refine J.tr (s_iload_n (q := 139) dX8_workOut_138 rfl rfl) ?_
  refine J.tr (s_iald (q := 140) dX8_workOut_139 rfl (by decide) (ha1) i1) ?_
  refine J.tr (s_iconst (q := 141) (v := 2) dX8_workOut_140 rfl (by decide)) ?_
  refine J.tr (s_ls (ls' := [(0, .ref 65), (1, .int n), (2, .int z)]) [1, 2, 0] rfl) ?_
  exact J.rf

set_option maxRecDepth 20000 in
theorem j_X8_workOut_a_6 {d : Nat} (hd : 0 ≤ d) (h : AH) (n : Int32) (x : Nat) (y : Nat) (F : Nat → Value) (ho : h.1 65 = ob 8 (fo 53 F)) (v7 : Int32) (e7 : F 7 = .int v7) (z : Int32) (en : ((60 * v7) + n) = z) (e2 : F 2 = .ref 66) (n1 : Nat) (f : Nat → Int32) (ha : h.1 66 = ia n1 f) (i : vp_in n n1) (c : (f n.toNatClampNeg) = 5) (e4 : F 4 = .ref 68) (n2 : Nat) (f1 : Nat → Int32) (ha1 : h.1 68 = ia n2 f1) (i1 : vp_in n n2) : J false mX8_workOut d 0 [(0, .ref 65), (1, .int n)] [] h 141 [(0, .ref 65), (1, .int n), (2, .int z)] [.int 2, .int (f1 n.toNatClampNeg), .ref 65] h := by
  refine J.tr (s_bipush (q := 2) (v := 60) dX8_workOut_0 rfl (by decide)) ?_
  refine J.tr (s_aload_n (q := 3) dX8_workOut_2 rfl rfl) ?_
  refine J.tr (s_gf (q := 6) (v := .int v7) dX8_workOut_3 rfl fX8_119.l (ho) (by decide) (e7)) ?_
  refine J.tr (s_imul (q := 7) dX8_workOut_6 rfl) ?_
  refine J.tr (s_iload_n (q := 8) dX8_workOut_7 rfl rfl) ?_
  refine J.tr (s_iadd (q := 9) dX8_workOut_8 rfl) ?_
  refine J.tr (s_nmi en) ?_
  refine J.tr (s_istore_n (q := 10) (ls' := [(2, .int z), (0, .ref 65), (1, .int n)]) dX8_workOut_9 rfl (by decide) rfl) ?_
  refine J.tr (s_aload_n (q := 11) dX8_workOut_10 rfl rfl) ?_
  refine J.tr (s_gf (q := 14) (v := .ref 66) dX8_workOut_11 rfl fX8_9.l (ho) (by decide) (e2)) ?_
  refine J.tr (s_iload_n (q := 15) dX8_workOut_14 rfl rfl) ?_
  refine J.tr (s_iald (q := 16) dX8_workOut_15 rfl (by decide) (ha) i) ?_
  refine J.tr (s_tabIn (q := 133) (off := 117) dX8_workOut_16 (by rw [c]; decide) (by rw [c]; decide) (by rw [c]; rfl) (by decide)) ?_
  refine J.tr (s_aload_n (q := 134) dX8_workOut_133 rfl rfl) ?_
  refine J.tr (s_aload_n (q := 135) dX8_workOut_134 rfl rfl) ?_
  refine J.tr (s_gf (q := 138) (v := .ref 68) dX8_workOut_135 rfl fX8_17.l (ho) (by decide) (e4)) ?_
  refine J.tr (s_iload_n (q := 139) dX8_workOut_138 rfl rfl) ?_
  refine J.tr (s_iald (q := 140) dX8_workOut_139 rfl (by decide) (ha1) i1) ?_
  refine J.tr (s_iconst (q := 141) (v := 2) dX8_workOut_140 rfl (by decide)) ?_
  refine J.tr (s_ls (ls' := [(0, .ref 65), (1, .int n), (2, .int z)]) [1, 2, 0] rfl) ?_
  exact J.rf

set_option maxRecDepth 20000 in
theorem j_X8_workOut_a_7 {d : Nat} (hd : 0 ≤ d) (h : AH) (n : Int32) (x : Nat) (y : Nat) (F : Nat → Value) (ho : h.1 65 = ob 8 (fo 53 F)) (v7 : Int32) (e7 : F 7 = .int v7) (z : Int32) (en : ((60 * v7) + n) = z) (e2 : F 2 = .ref 66) (n1 : Nat) (f : Nat → Int32) (ha : h.1 66 = ia n1 f) (i : vp_in n n1) (c : (f n.toNatClampNeg) = 6) : J false mX8_workOut d 0 [(0, .ref 65), (1, .int n)] [] h 205 [(0, .ref 65), (1, .int n), (2, .int z)] [.int n, .int z, .ref 65] h := by
  refine J.tr (s_bipush (q := 2) (v := 60) dX8_workOut_0 rfl (by decide)) ?_
  refine J.tr (s_aload_n (q := 3) dX8_workOut_2 rfl rfl) ?_
  refine J.tr (s_gf (q := 6) (v := .int v7) dX8_workOut_3 rfl fX8_119.l (ho) (by decide) (e7)) ?_
  refine J.tr (s_imul (q := 7) dX8_workOut_6 rfl) ?_
  refine J.tr (s_iload_n (q := 8) dX8_workOut_7 rfl rfl) ?_
  refine J.tr (s_iadd (q := 9) dX8_workOut_8 rfl) ?_
  refine J.tr (s_nmi en) ?_
  refine J.tr (s_istore_n (q := 10) (ls' := [(2, .int z), (0, .ref 65), (1, .int n)]) dX8_workOut_9 rfl (by decide) rfl) ?_
  refine J.tr (s_aload_n (q := 11) dX8_workOut_10 rfl rfl) ?_
  refine J.tr (s_gf (q := 14) (v := .ref 66) dX8_workOut_11 rfl fX8_9.l (ho) (by decide) (e2)) ?_
  refine J.tr (s_iload_n (q := 15) dX8_workOut_14 rfl rfl) ?_
  refine J.tr (s_iald (q := 16) dX8_workOut_15 rfl (by decide) (ha) i) ?_
  refine J.tr (s_tabIn (q := 202) (off := 186) dX8_workOut_16 (by rw [c]; decide) (by rw [c]; decide) (by rw [c]; rfl) (by decide)) ?_
  refine J.tr (s_aload_n (q := 203) dX8_workOut_202 rfl rfl) ?_
  refine J.tr (s_iload_n (q := 204) dX8_workOut_203 rfl rfl) ?_
  refine J.tr (s_iload_n (q := 205) dX8_workOut_204 rfl rfl) ?_
  refine J.tr (s_ls (ls' := [(0, .ref 65), (1, .int n), (2, .int z)]) [1, 2, 0] rfl) ?_
  exact J.rf

set_option maxRecDepth 20000 in
theorem j_X8_workOut_a_8 {d : Nat} (hd : 0 ≤ d) (h : AH) (n : Int32) (x : Nat) (y : Nat) (F : Nat → Value) (ho : h.1 65 = ob 8 (fo 53 F)) (v7 : Int32) (e7 : F 7 = .int v7) (z : Int32) (en : ((60 * v7) + n) = z) (e2 : F 2 = .ref 66) (n1 : Nat) (f : Nat → Int32) (ha : h.1 66 = ia n1 f) (i : vp_in n n1) (c : (f n.toNatClampNeg) = 7) (e4 : F 4 = .ref 68) (n2 : Nat) (f1 : Nat → Int32) (ha1 : h.1 68 = ia n2 f1) (i1 : vp_in n n2) : J false mX8_workOut d 0 [(0, .ref 65), (1, .int n)] [] h 219 [(0, .ref 65), (1, .int n), (2, .int z)] [.int 1, .int (f1 n.toNatClampNeg), .ref 65] h := by
  refine J.tr (s_bipush (q := 2) (v := 60) dX8_workOut_0 rfl (by decide)) ?_
  refine J.tr (s_aload_n (q := 3) dX8_workOut_2 rfl rfl) ?_
  refine J.tr (s_gf (q := 6) (v := .int v7) dX8_workOut_3 rfl fX8_119.l (ho) (by decide) (e7)) ?_
  refine J.tr (s_imul (q := 7) dX8_workOut_6 rfl) ?_
  refine J.tr (s_iload_n (q := 8) dX8_workOut_7 rfl rfl) ?_
  refine J.tr (s_iadd (q := 9) dX8_workOut_8 rfl) ?_
  refine J.tr (s_nmi en) ?_
  refine J.tr (s_istore_n (q := 10) (ls' := [(2, .int z), (0, .ref 65), (1, .int n)]) dX8_workOut_9 rfl (by decide) rfl) ?_
  refine J.tr (s_aload_n (q := 11) dX8_workOut_10 rfl rfl) ?_
  refine J.tr (s_gf (q := 14) (v := .ref 66) dX8_workOut_11 rfl fX8_9.l (ho) (by decide) (e2)) ?_
  refine J.tr (s_iload_n (q := 15) dX8_workOut_14 rfl rfl) ?_
  refine J.tr (s_iald (q := 16) dX8_workOut_15 rfl (by decide) (ha) i) ?_
  refine J.tr (s_tabIn (q := 211) (off := 195) dX8_workOut_16 (by rw [c]; decide) (by rw [c]; decide) (by rw [c]; rfl) (by decide)) ?_
  refine J.tr (s_aload_n (q := 212) dX8_workOut_211 rfl rfl) ?_
  refine J.tr (s_aload_n (q := 213) dX8_workOut_212 rfl rfl) ?_
  refine J.tr (s_gf (q := 216) (v := .ref 68) dX8_workOut_213 rfl fX8_17.l (ho) (by decide) (e4)) ?_
  refine J.tr (s_iload_n (q := 217) dX8_workOut_216 rfl rfl) ?_
  refine J.tr (s_iald (q := 218) dX8_workOut_217 rfl (by decide) (ha1) i1) ?_
  refine J.tr (s_iconst (q := 219) (v := 1) dX8_workOut_218 rfl (by decide)) ?_
  refine J.tr (s_ls (ls' := [(0, .ref 65), (1, .int n), (2, .int z)]) [1, 2, 0] rfl) ?_
  exact J.rf

set_option maxRecDepth 20000 in
theorem j_X8_workOut_a_9 {d : Nat} (hd : 0 ≤ d) (h : AH) (n : Int32) (x : Nat) (y : Nat) (F : Nat → Value) (ho : h.1 65 = ob 8 (fo 53 F)) (v7 : Int32) (e7 : F 7 = .int v7) (z : Int32) (en : ((60 * v7) + n) = z) (e2 : F 2 = .ref 66) (n1 : Nat) (f : Nat → Int32) (ha : h.1 66 = ia n1 f) (i : vp_in n n1) (c : (f n.toNatClampNeg) = 8) : J false mX8_workOut d 0 [(0, .ref 65), (1, .int n)] [] h 275 [(0, .ref 65), (1, .int n), (2, .int z)] [.int n, .int z, .ref 65] h := by
  refine J.tr (s_bipush (q := 2) (v := 60) dX8_workOut_0 rfl (by decide)) ?_
  refine J.tr (s_aload_n (q := 3) dX8_workOut_2 rfl rfl) ?_
  refine J.tr (s_gf (q := 6) (v := .int v7) dX8_workOut_3 rfl fX8_119.l (ho) (by decide) (e7)) ?_
  refine J.tr (s_imul (q := 7) dX8_workOut_6 rfl) ?_
  refine J.tr (s_iload_n (q := 8) dX8_workOut_7 rfl rfl) ?_
  refine J.tr (s_iadd (q := 9) dX8_workOut_8 rfl) ?_
  refine J.tr (s_nmi en) ?_
  refine J.tr (s_istore_n (q := 10) (ls' := [(2, .int z), (0, .ref 65), (1, .int n)]) dX8_workOut_9 rfl (by decide) rfl) ?_
  refine J.tr (s_aload_n (q := 11) dX8_workOut_10 rfl rfl) ?_
  refine J.tr (s_gf (q := 14) (v := .ref 66) dX8_workOut_11 rfl fX8_9.l (ho) (by decide) (e2)) ?_
  refine J.tr (s_iload_n (q := 15) dX8_workOut_14 rfl rfl) ?_
  refine J.tr (s_iald (q := 16) dX8_workOut_15 rfl (by decide) (ha) i) ?_
  refine J.tr (s_tabIn (q := 272) (off := 256) dX8_workOut_16 (by rw [c]; decide) (by rw [c]; decide) (by rw [c]; rfl) (by decide)) ?_
  refine J.tr (s_aload_n (q := 273) dX8_workOut_272 rfl rfl) ?_
  refine J.tr (s_iload_n (q := 274) dX8_workOut_273 rfl rfl) ?_
  refine J.tr (s_iload_n (q := 275) dX8_workOut_274 rfl rfl) ?_
  refine J.tr (s_ls (ls' := [(0, .ref 65), (1, .int n), (2, .int z)]) [1, 2, 0] rfl) ?_
  exact J.rf

set_option maxRecDepth 20000 in
theorem j_X8_workOut_a_10 {d : Nat} (hd : 0 ≤ d) (h : AH) (n : Int32) (x : Nat) (y : Nat) (F : Nat → Value) (ho : h.1 65 = ob 8 (fo 53 F)) (v7 : Int32) (e7 : F 7 = .int v7) (z : Int32) (en : ((60 * v7) + n) = z) (e2 : F 2 = .ref 66) (n1 : Nat) (f : Nat → Int32) (ha : h.1 66 = ia n1 f) (i : vp_in n n1) (c : (f n.toNatClampNeg).toInt < 0 ∨ 8 < (f n.toNatClampNeg).toInt) : J false mX8_workOut d 0 [(0, .ref 65), (1, .int n)] [] h 284 [(0, .ref 65), (1, .int n), (2, .int z)] [.int n, .int z, .ref 65] h := by
  refine J.tr (s_bipush (q := 2) (v := 60) dX8_workOut_0 rfl (by decide)) ?_
  refine J.tr (s_aload_n (q := 3) dX8_workOut_2 rfl rfl) ?_
  refine J.tr (s_gf (q := 6) (v := .int v7) dX8_workOut_3 rfl fX8_119.l (ho) (by decide) (e7)) ?_
  refine J.tr (s_imul (q := 7) dX8_workOut_6 rfl) ?_
  refine J.tr (s_iload_n (q := 8) dX8_workOut_7 rfl rfl) ?_
  refine J.tr (s_iadd (q := 9) dX8_workOut_8 rfl) ?_
  refine J.tr (s_nmi en) ?_
  refine J.tr (s_istore_n (q := 10) (ls' := [(2, .int z), (0, .ref 65), (1, .int n)]) dX8_workOut_9 rfl (by decide) rfl) ?_
  refine J.tr (s_aload_n (q := 11) dX8_workOut_10 rfl rfl) ?_
  refine J.tr (s_gf (q := 14) (v := .ref 66) dX8_workOut_11 rfl fX8_9.l (ho) (by decide) (e2)) ?_
  refine J.tr (s_iload_n (q := 15) dX8_workOut_14 rfl rfl) ?_
  refine J.tr (s_iald (q := 16) dX8_workOut_15 rfl (by decide) (ha) i) ?_
  refine J.tr (s_tabOut (q := 281) dX8_workOut_16 c (by decide)) ?_
  refine J.tr (s_aload_n (q := 282) dX8_workOut_281 rfl rfl) ?_
  refine J.tr (s_iload_n (q := 283) dX8_workOut_282 rfl rfl) ?_
  refine J.tr (s_iload_n (q := 284) dX8_workOut_283 rfl rfl) ?_
  refine J.tr (s_ls (ls' := [(0, .ref 65), (1, .int n), (2, .int z)]) [1, 2, 0] rfl) ?_
  exact J.rf

set_option maxRecDepth 20000 in
theorem j_X8_workOut_b88_1 {d : Nat} (hd : 0 ≤ d) (h : AH) (n : Int32) (z : Int32) (x : Nat) (y : Nat) : E false mX8_workOut d 88 [(0, .ref 65), (1, .int n), (2, .int z)] [] h (none) h := by
  refine E.st (s_goto (q := 287) dX8_workOut_88 (by decide)) ?_
  exact E.v dX8_workOut_287 rfl rfl rfl

set_option maxRecDepth 20000 in
theorem j_X8_workOut_b199_1 {d : Nat} (hd : 0 ≤ d) (h : AH) (n : Int32) (z : Int32) (x : Nat) (y : Nat) : E false mX8_workOut d 199 [(0, .ref 65), (1, .int n), (2, .int z)] [] h (none) h := by
  refine E.st (s_goto (q := 287) dX8_workOut_199 (by decide)) ?_
  exact E.v dX8_workOut_287 rfl rfl rfl

set_option maxRecDepth 20000 in
theorem j_X8_workOut_b208_1 {d : Nat} (hd : 0 ≤ d) (h : AH) (n : Int32) (z : Int32) (x : Nat) (y : Nat) : E false mX8_workOut d 208 [(0, .ref 65), (1, .int n), (2, .int z)] [] h (none) h := by
  refine E.st (s_goto (q := 287) dX8_workOut_208 (by decide)) ?_
  exact E.v dX8_workOut_287 rfl rfl rfl

set_option maxRecDepth 20000 in
theorem j_X8_workOut_b269_1 {d : Nat} (hd : 0 ≤ d) (h : AH) (n : Int32) (z : Int32) (x : Nat) (y : Nat) : E false mX8_workOut d 269 [(0, .ref 65), (1, .int n), (2, .int z)] [] h (none) h := by
  refine E.st (s_goto (q := 287) dX8_workOut_269 (by decide)) ?_
  exact E.v dX8_workOut_287 rfl rfl rfl

set_option maxRecDepth 20000 in
theorem j_X8_workOut_b278_1 {d : Nat} (hd : 0 ≤ d) (h : AH) (n : Int32) (z : Int32) (x : Nat) (y : Nat) : E false mX8_workOut d 278 [(0, .ref 65), (1, .int n), (2, .int z)] [] h (none) h := by
  refine E.st (s_goto (q := 287) dX8_workOut_278 (by decide)) ?_
  exact E.v dX8_workOut_287 rfl rfl rfl

set_option maxRecDepth 20000 in
theorem j_X8_workOut_b287_1 {d : Nat} (hd : 0 ≤ d) (h : AH) (n : Int32) (z : Int32) (x : Nat) (y : Nat) : E false mX8_workOut d 287 [(0, .ref 65), (1, .int n), (2, .int z)] [] h (none) h := by
  exact E.v dX8_workOut_287 rfl rfl rfl

set_option maxRecDepth 20000 in
theorem j_X8_workOut_c_1 {d : Nat} (hd : 0 ≤ d) (h : AH) (n : Int32) (z : Int32) (x : Nat) (y : Nat) (F : Nat → Value) (ho : h.1 65 = ob 8 (fo 53 F)) (v26 : Int32) (e26 : F 26 = .int v26) (c : ¬ v26 = 0) : E false mX8_workOut d 144 [(0, .ref 65), (1, .int n), (2, .int z)] [] h (none) h := by
  refine E.st (s_aload_n (q := 145) dX8_workOut_144 rfl rfl) ?_
  refine E.st (s_gf (q := 148) (v := .int v26) dX8_workOut_145 rfl fX8_126.l (ho) (by decide) (e26)) ?_
  refine E.st (s_if_ne_t (q := 287) dX8_workOut_148 (by decide) c) ?_
  exact E.v dX8_workOut_287 rfl rfl rfl

set_option maxRecDepth 20000 in
theorem j_X8_workOut_c_2 {d : Nat} (hd : 4 ≤ d) (h : AH) (n : Int32) (z : Int32) (x : Nat) (y : Nat) (F : Nat → Value) (ho : h.1 65 = ob 8 (fo 53 F)) (v26 : Int32) (e26 : F 26 = .int v26) (c : v26 = 0) (e2 : F 2 = .ref 66) (n1 : Nat) (f : Nat → Int32) (ha : h.1 66 = ia n1 f) (i : vp_in n n1) (c1 : ¬ (f n.toNatClampNeg) = 4) (e12 : F 12 = .ref 75) (e4 : F 4 = .ref 68) (n2 : Nat) (f1 : Nat → Int32) (ha1 : h.1 68 = ia n2 f1) (i1 : vp_in n n2) (q : Int32) (hq : CM mX8_cellOf 3 [.ref 65, .int (f1 n.toNatClampNeg)] h (some (.int q)) h) (n3 : Nat) (f2 : Nat → Int32) (ha2 : h.1 75 = ia n3 f2) (i2 : vp_in q n3) : J false mX8_workOut d 144 [(0, .ref 65), (1, .int n), (2, .int z)] [] h 196 [(0, .ref 65), (1, .int n), (2, .int z)] [.int (f2 q.toNatClampNeg), .int z, .ref 65] h := by
  refine J.tr (s_aload_n (q := 145) dX8_workOut_144 rfl rfl) ?_
  refine J.tr (s_gf (q := 148) (v := .int v26) dX8_workOut_145 rfl fX8_126.l (ho) (by decide) (e26)) ?_
  refine J.tr (s_if_ne_f (q := 151) (tg := 287) dX8_workOut_148 (by decide) rfl c) ?_
  refine J.tr (s_aload_n (q := 152) dX8_workOut_151 rfl rfl) ?_
  refine J.tr (s_iload_n (q := 153) dX8_workOut_152 rfl rfl) ?_
  refine J.tr (s_aload_n (q := 154) dX8_workOut_153 rfl rfl) ?_
  refine J.tr (s_gf (q := 157) (v := .ref 66) dX8_workOut_154 rfl fX8_9.l (ho) (by decide) (e2)) ?_
  refine J.tr (s_iload_n (q := 158) dX8_workOut_157 rfl rfl) ?_
  refine J.tr (s_iald (q := 159) dX8_workOut_158 rfl (by decide) (ha) i) ?_
  refine J.tr (s_iconst (q := 160) (v := 4) dX8_workOut_159 rfl (by decide)) ?_
  refine J.tr (s_icmp_ne_t (q := 181) dX8_workOut_160 (by decide) c1) ?_
  refine J.tr (s_aload_n (q := 182) dX8_workOut_181 rfl rfl) ?_
  refine J.tr (s_gf (q := 185) (v := .ref 75) dX8_workOut_182 rfl fX8_38.l (ho) (by decide) (e12)) ?_
  refine J.tr (s_aload_n (q := 186) dX8_workOut_185 rfl rfl) ?_
  refine J.tr (s_aload_n (q := 187) dX8_workOut_186 rfl rfl) ?_
  refine J.tr (s_gf (q := 190) (v := .ref 68) dX8_workOut_187 rfl fX8_17.l (ho) (by decide) (e4)) ?_
  refine J.tr (s_iload_n (q := 191) dX8_workOut_190 rfl rfl) ?_
  refine J.tr (s_iald (q := 192) dX8_workOut_191 rfl (by decide) (ha1) i1) ?_
  refine J.tr (p2 := 195) (l2 := [(0, .ref 65), (1, .int n), (2, .int z)]) (s2 := [.int q, .ref 75, .int z, .ref 65]) (h2 := h) (s_invv (K := mX8_cellOf) (o := 65) (as := [.int (f1 n.toNatClampNeg)]) (rest := [.ref 75, .int z, .ref 65]) (v := some (.int q)) dX8_workOut_192 rfl lX8_153 (by omega) rfl (Nat.le_of_ble_eq_true rfl) rfl (Nat.le_of_ble_eq_true rfl) (ho) hq (fun h => nomatch h)) ?_
  refine J.tr (s_iald (q := 196) dX8_workOut_195 rfl (by decide) (ha2) i2) ?_
  refine J.tr (s_ls (ls' := [(0, .ref 65), (1, .int n), (2, .int z)]) [0, 1, 2] rfl) ?_
  exact J.rf

set_option maxRecDepth 20000 in
theorem j_X8_workOut_c_3 {d : Nat} (hd : 4 ≤ d) (h : AH) (n : Int32) (z : Int32) (x : Nat) (y : Nat) (F : Nat → Value) (ho : h.1 65 = ob 8 (fo 53 F)) (v26 : Int32) (e26 : F 26 = .int v26) (c : v26 = 0) (e2 : F 2 = .ref 66) (n1 : Nat) (f : Nat → Int32) (ha : h.1 66 = ia n1 f) (i : vp_in n n1) (c1 : (f n.toNatClampNeg) = 4) (e11 : F 11 = .ref 74) (e4 : F 4 = .ref 68) (n2 : Nat) (f1 : Nat → Int32) (ha1 : h.1 68 = ia n2 f1) (i1 : vp_in n n2) (q : Int32) (hq : CM mX8_cellOf 3 [.ref 65, .int (f1 n.toNatClampNeg)] h (some (.int q)) h) (n3 : Nat) (f2 : Nat → Int32) (ha2 : h.1 74 = ia n3 f2) (i2 : vp_in q n3) : J false mX8_workOut d 144 [(0, .ref 65), (1, .int n), (2, .int z)] [] h 196 [(0, .ref 65), (1, .int n), (2, .int z)] [.int (f2 q.toNatClampNeg), .int z, .ref 65] h := by
  refine J.tr (s_aload_n (q := 145) dX8_workOut_144 rfl rfl) ?_
  refine J.tr (s_gf (q := 148) (v := .int v26) dX8_workOut_145 rfl fX8_126.l (ho) (by decide) (e26)) ?_
  refine J.tr (s_if_ne_f (q := 151) (tg := 287) dX8_workOut_148 (by decide) rfl c) ?_
  refine J.tr (s_aload_n (q := 152) dX8_workOut_151 rfl rfl) ?_
  refine J.tr (s_iload_n (q := 153) dX8_workOut_152 rfl rfl) ?_
  refine J.tr (s_aload_n (q := 154) dX8_workOut_153 rfl rfl) ?_
  refine J.tr (s_gf (q := 157) (v := .ref 66) dX8_workOut_154 rfl fX8_9.l (ho) (by decide) (e2)) ?_
  refine J.tr (s_iload_n (q := 158) dX8_workOut_157 rfl rfl) ?_
  refine J.tr (s_iald (q := 159) dX8_workOut_158 rfl (by decide) (ha) i) ?_
  refine J.tr (s_iconst (q := 160) (v := 4) dX8_workOut_159 rfl (by decide)) ?_
  refine J.tr (s_icmp_ne_f (q := 163) (tg := 181) dX8_workOut_160 (by decide) rfl c1) ?_
  refine J.tr (s_aload_n (q := 164) dX8_workOut_163 rfl rfl) ?_
  refine J.tr (s_gf (q := 167) (v := .ref 74) dX8_workOut_164 rfl fX8_35.l (ho) (by decide) (e11)) ?_
  refine J.tr (s_aload_n (q := 168) dX8_workOut_167 rfl rfl) ?_
  refine J.tr (s_aload_n (q := 169) dX8_workOut_168 rfl rfl) ?_
  refine J.tr (s_gf (q := 172) (v := .ref 68) dX8_workOut_169 rfl fX8_17.l (ho) (by decide) (e4)) ?_
  refine J.tr (s_iload_n (q := 173) dX8_workOut_172 rfl rfl) ?_
  refine J.tr (s_iald (q := 174) dX8_workOut_173 rfl (by decide) (ha1) i1) ?_
  refine J.tr (p2 := 177) (l2 := [(0, .ref 65), (1, .int n), (2, .int z)]) (s2 := [.int q, .ref 74, .int z, .ref 65]) (h2 := h) (s_invv (K := mX8_cellOf) (o := 65) (as := [.int (f1 n.toNatClampNeg)]) (rest := [.ref 74, .int z, .ref 65]) (v := some (.int q)) dX8_workOut_174 rfl lX8_153 (by omega) rfl (Nat.le_of_ble_eq_true rfl) rfl (Nat.le_of_ble_eq_true rfl) (ho) hq (fun h => nomatch h)) ?_
  refine J.tr (s_iald (q := 178) dX8_workOut_177 rfl (by decide) (ha2) i2) ?_
  refine J.tr (s_goto (q := 196) dX8_workOut_178 (by decide)) ?_
  refine J.tr (s_ls (ls' := [(0, .ref 65), (1, .int n), (2, .int z)]) [0, 1, 2] rfl) ?_
  exact J.rf

set_option maxRecDepth 20000 in
theorem j_X8_workOut_d_1 {d : Nat} (hd : 0 ≤ d) (h : AH) (n : Int32) (z : Int32) (x : Nat) (y : Nat) (F : Nat → Value) (ho : h.1 65 = ob 8 (fo 53 F)) (v26 : Int32) (e26 : F 26 = .int v26) (c : ¬ v26 = 0) : E false mX8_workOut d 222 [(0, .ref 65), (1, .int n), (2, .int z)] [] h (none) h := by
  refine E.st (s_aload_n (q := 223) dX8_workOut_222 rfl rfl) ?_
  refine E.st (s_gf (q := 226) (v := .int v26) dX8_workOut_223 rfl fX8_126.l (ho) (by decide) (e26)) ?_
  refine E.st (s_if_ne_t (q := 287) dX8_workOut_226 (by decide) c) ?_
  exact E.v dX8_workOut_287 rfl rfl rfl

set_option maxRecDepth 20000 in
theorem j_X8_workOut_d_2 {d : Nat} (hd : 4 ≤ d) (h : AH) (n : Int32) (z : Int32) (x : Nat) (y : Nat) (F : Nat → Value) (ho : h.1 65 = ob 8 (fo 53 F)) (v26 : Int32) (e26 : F 26 = .int v26) (c : v26 = 0) (e10 : F 10 = .ref 73) (e4 : F 4 = .ref 68) (n1 : Nat) (f : Nat → Int32) (ha : h.1 68 = ia n1 f) (i : vp_in n n1) (q : Int32) (hq : CM mX8_cellOf 3 [.ref 65, .int (f n.toNatClampNeg)] h (some (.int q)) h) (n2 : Nat) (f1 : Nat → Int64) (ha1 : h.1 73 = la n2 f1) (i1 : vp_in q n2) (c1 : (f1 q.toNatClampNeg) = 0) (e6 : F 6 = .ref 70) (n3 : Nat) (f2 : Nat → Int32) (ha2 : h.1 70 = ia n3 f2) (i2 : vp_in n n3) : J false mX8_workOut d 222 [(0, .ref 65), (1, .int n), (2, .int z)] [] h 266 [(0, .ref 65), (1, .int n), (2, .int z)] [.int (f2 n.toNatClampNeg), .int z, .ref 65] h := by
  refine J.tr (s_aload_n (q := 223) dX8_workOut_222 rfl rfl) ?_
  refine J.tr (s_gf (q := 226) (v := .int v26) dX8_workOut_223 rfl fX8_126.l (ho) (by decide) (e26)) ?_
  refine J.tr (s_if_ne_f (q := 229) (tg := 287) dX8_workOut_226 (by decide) rfl c) ?_
  refine J.tr (s_aload_n (q := 230) dX8_workOut_229 rfl rfl) ?_
  refine J.tr (s_iload_n (q := 231) dX8_workOut_230 rfl rfl) ?_
  refine J.tr (s_aload_n (q := 232) dX8_workOut_231 rfl rfl) ?_
  refine J.tr (s_gf (q := 235) (v := .ref 73) dX8_workOut_232 rfl fX8_32.l (ho) (by decide) (e10)) ?_
  refine J.tr (s_aload_n (q := 236) dX8_workOut_235 rfl rfl) ?_
  refine J.tr (s_aload_n (q := 237) dX8_workOut_236 rfl rfl) ?_
  refine J.tr (s_gf (q := 240) (v := .ref 68) dX8_workOut_237 rfl fX8_17.l (ho) (by decide) (e4)) ?_
  refine J.tr (s_iload_n (q := 241) dX8_workOut_240 rfl rfl) ?_
  refine J.tr (s_iald (q := 242) dX8_workOut_241 rfl (by decide) (ha) i) ?_
  refine J.tr (p2 := 245) (l2 := [(0, .ref 65), (1, .int n), (2, .int z)]) (s2 := [.int q, .ref 73, .int z, .ref 65]) (h2 := h) (s_invv (K := mX8_cellOf) (o := 65) (as := [.int (f n.toNatClampNeg)]) (rest := [.ref 73, .int z, .ref 65]) (v := some (.int q)) dX8_workOut_242 rfl lX8_153 (by omega) rfl (Nat.le_of_ble_eq_true rfl) rfl (Nat.le_of_ble_eq_true rfl) (ho) hq (fun h => nomatch h)) ?_
  refine J.tr (s_lald (q := 246) dX8_workOut_245 rfl (ha1) i1) ?_
  refine J.tr (s_lconst (q := 247) (v := 0) dX8_workOut_246 rfl (by decide)) ?_
  refine J.tr (s_lcmp (q := 248) dX8_workOut_247 rfl) ?_
  refine J.tr (s_if_eq_t (q := 260) dX8_workOut_248 (by decide) ((lgc_eq _ _).mpr c1)) ?_
  refine J.tr (s_aload_n (q := 261) dX8_workOut_260 rfl rfl) ?_
  refine J.tr (s_gf (q := 264) (v := .ref 70) dX8_workOut_261 rfl fX8_23.l (ho) (by decide) (e6)) ?_
  refine J.tr (s_iload_n (q := 265) dX8_workOut_264 rfl rfl) ?_
  refine J.tr (s_iald (q := 266) dX8_workOut_265 rfl (by decide) (ha2) i2) ?_
  refine J.tr (s_ls (ls' := [(0, .ref 65), (1, .int n), (2, .int z)]) [0, 1, 2] rfl) ?_
  exact J.rf

set_option maxRecDepth 20000 in
theorem j_X8_workOut_d_3 {d : Nat} (hd : 4 ≤ d) (h : AH) (n : Int32) (z : Int32) (x : Nat) (y : Nat) (F : Nat → Value) (ho : h.1 65 = ob 8 (fo 53 F)) (v26 : Int32) (e26 : F 26 = .int v26) (c : v26 = 0) (e10 : F 10 = .ref 73) (e4 : F 4 = .ref 68) (n1 : Nat) (f : Nat → Int32) (ha : h.1 68 = ia n1 f) (i : vp_in n n1) (q : Int32) (hq : CM mX8_cellOf 3 [.ref 65, .int (f n.toNatClampNeg)] h (some (.int q)) h) (n2 : Nat) (f1 : Nat → Int64) (ha1 : h.1 73 = la n2 f1) (i1 : vp_in q n2) (c1 : ¬ ((f1 q.toNatClampNeg) = 0)) (e5 : F 5 = .ref 69) (n3 : Nat) (f2 : Nat → Int32) (ha2 : h.1 69 = ia n3 f2) (i2 : vp_in n n3) : J false mX8_workOut d 222 [(0, .ref 65), (1, .int n), (2, .int z)] [] h 266 [(0, .ref 65), (1, .int n), (2, .int z)] [.int (f2 n.toNatClampNeg), .int z, .ref 65] h := by
  refine J.tr (s_aload_n (q := 223) dX8_workOut_222 rfl rfl) ?_
  refine J.tr (s_gf (q := 226) (v := .int v26) dX8_workOut_223 rfl fX8_126.l (ho) (by decide) (e26)) ?_
  refine J.tr (s_if_ne_f (q := 229) (tg := 287) dX8_workOut_226 (by decide) rfl c) ?_
  refine J.tr (s_aload_n (q := 230) dX8_workOut_229 rfl rfl) ?_
  refine J.tr (s_iload_n (q := 231) dX8_workOut_230 rfl rfl) ?_
  refine J.tr (s_aload_n (q := 232) dX8_workOut_231 rfl rfl) ?_
  refine J.tr (s_gf (q := 235) (v := .ref 73) dX8_workOut_232 rfl fX8_32.l (ho) (by decide) (e10)) ?_
  refine J.tr (s_aload_n (q := 236) dX8_workOut_235 rfl rfl) ?_
  refine J.tr (s_aload_n (q := 237) dX8_workOut_236 rfl rfl) ?_
  refine J.tr (s_gf (q := 240) (v := .ref 68) dX8_workOut_237 rfl fX8_17.l (ho) (by decide) (e4)) ?_
  refine J.tr (s_iload_n (q := 241) dX8_workOut_240 rfl rfl) ?_
  refine J.tr (s_iald (q := 242) dX8_workOut_241 rfl (by decide) (ha) i) ?_
  refine J.tr (p2 := 245) (l2 := [(0, .ref 65), (1, .int n), (2, .int z)]) (s2 := [.int q, .ref 73, .int z, .ref 65]) (h2 := h) (s_invv (K := mX8_cellOf) (o := 65) (as := [.int (f n.toNatClampNeg)]) (rest := [.ref 73, .int z, .ref 65]) (v := some (.int q)) dX8_workOut_242 rfl lX8_153 (by omega) rfl (Nat.le_of_ble_eq_true rfl) rfl (Nat.le_of_ble_eq_true rfl) (ho) hq (fun h => nomatch h)) ?_
  refine J.tr (s_lald (q := 246) dX8_workOut_245 rfl (ha1) i1) ?_
  refine J.tr (s_lconst (q := 247) (v := 0) dX8_workOut_246 rfl (by decide)) ?_
  refine J.tr (s_lcmp (q := 248) dX8_workOut_247 rfl) ?_
  refine J.tr (s_if_eq_f (q := 251) (tg := 260) dX8_workOut_248 (by decide) rfl (fun z => c1 ((lgc_eq _ _).mp z))) ?_
  refine J.tr (s_aload_n (q := 252) dX8_workOut_251 rfl rfl) ?_
  refine J.tr (s_gf (q := 255) (v := .ref 69) dX8_workOut_252 rfl fX8_20.l (ho) (by decide) (e5)) ?_
  refine J.tr (s_iload_n (q := 256) dX8_workOut_255 rfl rfl) ?_
  refine J.tr (s_iald (q := 257) dX8_workOut_256 rfl (by decide) (ha2) i2) ?_
  refine J.tr (s_goto (q := 266) dX8_workOut_257 (by decide)) ?_
  refine J.tr (s_ls (ls' := [(0, .ref 65), (1, .int n), (2, .int z)]) [0, 1, 2] rfl) ?_
  exact J.rf

set_option maxRecDepth 20000 in
theorem j_X8_needAs_a_1 {d : Nat} (hd : 0 ≤ d) (h : AH) (n : Int32) (k : Int32) (x : Nat) (y : Nat) : J false mX8_needAs d 0 [(0, .ref 65), (1, .int n), (2, .int k)] [] h 2 [(0, .ref 65), (1, .int n), (2, .int k)] [.int n, .ref 65] h := by
  refine J.tr (s_aload_n (q := 1) dX8_needAs_0 rfl rfl) ?_
  refine J.tr (s_iload_n (q := 2) dX8_needAs_1 rfl rfl) ?_
  exact J.rf

set_option maxRecDepth 20000 in
theorem j_X8_needAs_b_1 {d : Nat} (hd : 0 ≤ d) (h : AH) (n : Int32) (k : Int32) (x : Nat) (y : Nat) (F : Nat → Value) (ho : h.1 65 = ob 8 (fo 53 F)) (v26 : Int32) (e26 : F 26 = .int v26) (c : ¬ v26 = 0) : E false mX8_needAs d 5 [(0, .ref 65), (1, .int n), (2, .int k)] [] h (none) h := by
  refine E.st (s_aload_n (q := 6) dX8_needAs_5 rfl rfl) ?_
  refine E.st (s_gf (q := 9) (v := .int v26) dX8_needAs_6 rfl fX8_126.l (ho) (by decide) (e26)) ?_
  refine E.st (s_if_ne_t (q := 31) dX8_needAs_9 (by decide) c) ?_
  exact E.v dX8_needAs_31 rfl rfl rfl

set_option maxRecDepth 20000 in
theorem j_X8_needAs_b_2 {d : Nat} (hd : 4 ≤ d) (h : AH) (n : Int32) (k : Int32) (x : Nat) (y : Nat) (F : Nat → Value) (ho : h.1 65 = ob 8 (fo 53 F)) (v26 : Int32) (e26 : F 26 = .int v26) (c : v26 = 0) (e9 : F 9 = .ref 72) (q : Int32) (hq : CM mX8_cellOf 3 [.ref 65, .int n] h (some (.int q)) h) (n1 : Nat) (f : Nat → Int32) (ha : h.1 72 = ia n1 f) (i : vp_in q n1) (c1 : (f q.toNatClampNeg) = k) : E false mX8_needAs d 5 [(0, .ref 65), (1, .int n), (2, .int k)] [] h (none) h := by
  refine E.st (s_aload_n (q := 6) dX8_needAs_5 rfl rfl) ?_
  refine E.st (s_gf (q := 9) (v := .int v26) dX8_needAs_6 rfl fX8_126.l (ho) (by decide) (e26)) ?_
  refine E.st (s_if_ne_f (q := 12) (tg := 31) dX8_needAs_9 (by decide) rfl c) ?_
  refine E.st (s_aload_n (q := 13) dX8_needAs_12 rfl rfl) ?_
  refine E.st (s_gf (q := 16) (v := .ref 72) dX8_needAs_13 rfl fX8_29.l (ho) (by decide) (e9)) ?_
  refine E.st (s_aload_n (q := 17) dX8_needAs_16 rfl rfl) ?_
  refine E.st (s_iload_n (q := 18) dX8_needAs_17 rfl rfl) ?_
  refine E.st (p2 := 21) (l2 := [(0, .ref 65), (1, .int n), (2, .int k)]) (s2 := [.int q, .ref 72]) (h2 := h) (s_invv (K := mX8_cellOf) (o := 65) (as := [.int n]) (rest := [.ref 72]) (v := some (.int q)) dX8_needAs_18 rfl lX8_153 (by omega) rfl (Nat.le_of_ble_eq_true rfl) rfl (Nat.le_of_ble_eq_true rfl) (ho) hq (fun h => nomatch h)) ?_
  refine E.st (s_iald (q := 22) dX8_needAs_21 rfl (by decide) (ha) i) ?_
  refine E.st (s_iload_n (q := 23) dX8_needAs_22 rfl rfl) ?_
  refine E.st (s_icmp_eq_t (q := 31) dX8_needAs_23 (by decide) c1) ?_
  exact E.v dX8_needAs_31 rfl rfl rfl

set_option maxRecDepth 20000 in
theorem j_X8_needAs_b_3 {d : Nat} (hd : 4 ≤ d) (h : AH) (n : Int32) (k : Int32) (x : Nat) (y : Nat) (F : Nat → Value) (ho : h.1 65 = ob 8 (fo 53 F)) (v26 : Int32) (e26 : F 26 = .int v26) (c : v26 = 0) (e9 : F 9 = .ref 72) (q : Int32) (hq : CM mX8_cellOf 3 [.ref 65, .int n] h (some (.int q)) h) (n1 : Nat) (f : Nat → Int32) (ha : h.1 72 = ia n1 f) (i : vp_in q n1) (c1 : ¬ ((f q.toNatClampNeg) = k)) : E false mX8_needAs d 5 [(0, .ref 65), (1, .int n), (2, .int k)] [] h (none) (hs h 65 (ob 8 (fo 53 (va_up F 26 (.int 1))))) := by
  refine E.st (s_aload_n (q := 6) dX8_needAs_5 rfl rfl) ?_
  refine E.st (s_gf (q := 9) (v := .int v26) dX8_needAs_6 rfl fX8_126.l (ho) (by decide) (e26)) ?_
  refine E.st (s_if_ne_f (q := 12) (tg := 31) dX8_needAs_9 (by decide) rfl c) ?_
  refine E.st (s_aload_n (q := 13) dX8_needAs_12 rfl rfl) ?_
  refine E.st (s_gf (q := 16) (v := .ref 72) dX8_needAs_13 rfl fX8_29.l (ho) (by decide) (e9)) ?_
  refine E.st (s_aload_n (q := 17) dX8_needAs_16 rfl rfl) ?_
  refine E.st (s_iload_n (q := 18) dX8_needAs_17 rfl rfl) ?_
  refine E.st (p2 := 21) (l2 := [(0, .ref 65), (1, .int n), (2, .int k)]) (s2 := [.int q, .ref 72]) (h2 := h) (s_invv (K := mX8_cellOf) (o := 65) (as := [.int n]) (rest := [.ref 72]) (v := some (.int q)) dX8_needAs_18 rfl lX8_153 (by omega) rfl (Nat.le_of_ble_eq_true rfl) rfl (Nat.le_of_ble_eq_true rfl) (ho) hq (fun h => nomatch h)) ?_
  refine E.st (s_iald (q := 22) dX8_needAs_21 rfl (by decide) (ha) i) ?_
  refine E.st (s_iload_n (q := 23) dX8_needAs_22 rfl rfl) ?_
  refine E.st (s_icmp_eq_f (q := 26) (tg := 31) dX8_needAs_23 (by decide) rfl c1) ?_
  refine E.st (s_aload_n (q := 27) dX8_needAs_26 rfl rfl) ?_
  refine E.st (s_iconst (q := 28) (v := 1) dX8_needAs_27 rfl (by decide)) ?_
  refine E.st (s_pf (q := 31) dX8_needAs_28 rfl fX8_126 (ho) (by decide) (fun _ => ⟨rfl, rfl⟩)) ?_
  exact E.v dX8_needAs_31 rfl rfl rfl

set_option maxRecDepth 20000 in
theorem j_X8_take_a_1 {d : Nat} (hd : 0 ≤ d) (h : AH) (z : Int32) (n : Int32) (x : Nat) (y : Nat) : J false mX8_take d 0 [(0, .ref 65), (1, .int z), (2, .int n)] [] h 2 [(0, .ref 65), (1, .int z), (2, .int n)] [.int n, .ref 65] h := by
  refine J.tr (s_aload_n (q := 1) dX8_take_0 rfl rfl) ?_
  refine J.tr (s_iload_n (q := 2) dX8_take_1 rfl rfl) ?_
  exact J.rf

set_option maxRecDepth 20000 in
theorem j_X8_take_b_1 {d : Nat} (hd : 4 ≤ d) (h : AH) (z : Int32) (n : Int32) (x : Nat) (y : Nat) (F : Nat → Value) (ho : h.1 65 = ob 8 (fo 53 F)) (v26 : Int32) (e26 : F 26 = .int v26) (c : v26 = 0) (q : Int32) (hq : CM mX8_cellOf 3 [.ref 65, .int n] h (some (.int q)) h) (e9 : F 9 = .ref 72) (n1 : Nat) (f : Nat → Int32) (ha : h.1 72 = ia n1 f) (i : vp_in q n1) (i1 : vp_in z n1) (e10 : F 10 = .ref 73) (n2 : Nat) (f1 : Nat → Int64) (ha1 : h.1 73 = la n2 f1) (i2 : vp_in q n2) (i3 : vp_in z n2) (e11 : F 11 = .ref 74) (n3 : Nat) (f2 : Nat → Int32) (ha2 : h.1 74 = ia n3 f2) (i4 : vp_in q n3) (i5 : vp_in z n3) (e12 : F 12 = .ref 75) (n4 : Nat) (f3 : Nat → Int32) (ha3 : h.1 75 = ia n4 f3) (i6 : vp_in q n4) (i7 : vp_in z n4) : E false mX8_take d 5 [(0, .ref 65), (1, .int z), (2, .int n)] [] h (none) (hs (hs (hs (hs h 72 (ia n1 (upd f z.toNatClampNeg (f q.toNatClampNeg)))) 73 (la n2 (vp_updL f1 z.toNatClampNeg (f1 q.toNatClampNeg)))) 74 (ia n3 (upd f2 z.toNatClampNeg (f2 q.toNatClampNeg)))) 75 (ia n4 (upd f3 z.toNatClampNeg (f3 q.toNatClampNeg)))) := by
  refine E.st (s_aload_n (q := 6) dX8_take_5 rfl rfl) ?_
  refine E.st (s_gf (q := 9) (v := .int v26) dX8_take_6 rfl fX8_126.l (ho) (by decide) (e26)) ?_
  refine E.st (s_if_eq_t (q := 13) dX8_take_9 (by decide) c) ?_
  refine E.st (s_aload_n (q := 14) dX8_take_13 rfl rfl) ?_
  refine E.st (s_iload_n (q := 15) dX8_take_14 rfl rfl) ?_
  refine E.st (p2 := 18) (l2 := [(0, .ref 65), (1, .int z), (2, .int n)]) (s2 := [.int q]) (h2 := h) (s_invv (K := mX8_cellOf) (o := 65) (as := [.int n]) (rest := []) (v := some (.int q)) dX8_take_15 rfl lX8_153 (by omega) rfl (Nat.le_of_ble_eq_true rfl) rfl (Nat.le_of_ble_eq_true rfl) (ho) hq (fun h => nomatch h)) ?_
  refine E.st (s_istore_n (q := 19) (ls' := [(3, .int q), (0, .ref 65), (1, .int z), (2, .int n)]) dX8_take_18 rfl (by decide) rfl) ?_
  refine E.st (s_aload_n (q := 20) dX8_take_19 rfl rfl) ?_
  refine E.st (s_gf (q := 23) (v := .ref 72) dX8_take_20 rfl fX8_29.l (ho) (by decide) (e9)) ?_
  refine E.st (s_iload_n (q := 24) dX8_take_23 rfl rfl) ?_
  refine E.st (s_aload_n (q := 25) dX8_take_24 rfl rfl) ?_
  refine E.st (s_gf (q := 28) (v := .ref 72) dX8_take_25 rfl fX8_29.l (ho) (by decide) (e9)) ?_
  refine E.st (s_iload_n (q := 29) dX8_take_28 rfl rfl) ?_
  refine E.st (s_iald (q := 30) dX8_take_29 rfl (by decide) (ha) i) ?_
  refine E.st (s_iast (q := 31) dX8_take_30 rfl (by decide) (ha) i1) ?_
  refine E.st (s_aload_n (q := 32) dX8_take_31 rfl rfl) ?_
  refine E.st (s_gf (q := 35) (v := .ref 73) dX8_take_32 rfl fX8_32.l ((hs_ne (by decide)).trans (ho)) (by decide) (e10)) ?_
  refine E.st (s_iload_n (q := 36) dX8_take_35 rfl rfl) ?_
  refine E.st (s_aload_n (q := 37) dX8_take_36 rfl rfl) ?_
  refine E.st (s_gf (q := 40) (v := .ref 73) dX8_take_37 rfl fX8_32.l ((hs_ne (by decide)).trans (ho)) (by decide) (e10)) ?_
  refine E.st (s_iload_n (q := 41) dX8_take_40 rfl rfl) ?_
  refine E.st (s_lald (q := 42) dX8_take_41 rfl ((hs_ne (by decide)).trans (ha1)) i2) ?_
  refine E.st (s_last (q := 43) dX8_take_42 rfl ((hs_ne (by decide)).trans (ha1)) i3) ?_
  refine E.st (s_aload_n (q := 44) dX8_take_43 rfl rfl) ?_
  refine E.st (s_gf (q := 47) (v := .ref 74) dX8_take_44 rfl fX8_35.l ((hs_ne (by decide)).trans ((hs_ne (by decide)).trans (ho))) (by decide) (e11)) ?_
  refine E.st (s_iload_n (q := 48) dX8_take_47 rfl rfl) ?_
  refine E.st (s_aload_n (q := 49) dX8_take_48 rfl rfl) ?_
  refine E.st (s_gf (q := 52) (v := .ref 74) dX8_take_49 rfl fX8_35.l ((hs_ne (by decide)).trans ((hs_ne (by decide)).trans (ho))) (by decide) (e11)) ?_
  refine E.st (s_iload_n (q := 53) dX8_take_52 rfl rfl) ?_
  refine E.st (s_iald (q := 54) dX8_take_53 rfl (by decide) ((hs_ne (by decide)).trans ((hs_ne (by decide)).trans (ha2))) i4) ?_
  refine E.st (s_iast (q := 55) dX8_take_54 rfl (by decide) ((hs_ne (by decide)).trans ((hs_ne (by decide)).trans (ha2))) i5) ?_
  refine E.st (s_aload_n (q := 56) dX8_take_55 rfl rfl) ?_
  refine E.st (s_gf (q := 59) (v := .ref 75) dX8_take_56 rfl fX8_38.l ((hs_ne (by decide)).trans ((hs_ne (by decide)).trans ((hs_ne (by decide)).trans (ho)))) (by decide) (e12)) ?_
  refine E.st (s_iload_n (q := 60) dX8_take_59 rfl rfl) ?_
  refine E.st (s_aload_n (q := 61) dX8_take_60 rfl rfl) ?_
  refine E.st (s_gf (q := 64) (v := .ref 75) dX8_take_61 rfl fX8_38.l ((hs_ne (by decide)).trans ((hs_ne (by decide)).trans ((hs_ne (by decide)).trans (ho)))) (by decide) (e12)) ?_
  refine E.st (s_iload_n (q := 65) dX8_take_64 rfl rfl) ?_
  refine E.st (s_iald (q := 66) dX8_take_65 rfl (by decide) ((hs_ne (by decide)).trans ((hs_ne (by decide)).trans ((hs_ne (by decide)).trans (ha3)))) i6) ?_
  refine E.st (s_iast (q := 67) dX8_take_66 rfl (by decide) ((hs_ne (by decide)).trans ((hs_ne (by decide)).trans ((hs_ne (by decide)).trans (ha3)))) i7) ?_
  exact E.v dX8_take_67 rfl rfl rfl

set_option maxRecDepth 20000 in
theorem j_X8_take_b_2 {d : Nat} (hd : 0 ≤ d) (h : AH) (z : Int32) (n : Int32) (x : Nat) (y : Nat) (F : Nat → Value) (ho : h.1 65 = ob 8 (fo 53 F)) (v26 : Int32) (e26 : F 26 = .int v26) (c : ¬ (v26 = 0)) : E false mX8_take d 5 [(0, .ref 65), (1, .int z), (2, .int n)] [] h (none) h := by
  refine E.st (s_aload_n (q := 6) dX8_take_5 rfl rfl) ?_
  refine E.st (s_gf (q := 9) (v := .int v26) dX8_take_6 rfl fX8_126.l (ho) (by decide) (e26)) ?_
  refine E.st (s_if_eq_f (q := 12) (tg := 13) dX8_take_9 (by decide) rfl c) ?_
  exact E.v dX8_take_12 rfl rfl rfl

set_option maxRecDepth 20000 in
theorem j_X8_choose_a_1 {d : Nat} (hd : 0 ≤ d) (h : AH) (z : Int32) (n : Int32) (x : Nat) (y : Nat) (F : Nat → Value) (ho : h.1 65 = ob 8 (fo 53 F)) (v7 : Int32) (e7 : F 7 = .int v7) (e18 : F 18 = .ref 80) (n1 : Nat) (f : Nat → Int32) (ha : h.1 80 = ia n1 f) (i : vp_in v7 n1) (a : Int32) (en : ((2001 * v7) + (f v7.toNatClampNeg)) = a) (e17 : F 17 = .ref 79) (n2 : Nat) (f1 : Nat → Int32) (ha1 : h.1 79 = ia n2 f1) (i1 : vp_in v7 n2) (c : ¬ (f v7.toNatClampNeg) = (f1 v7.toNatClampNeg)) (e16 : F 16 = .ref 78) (n3 : Nat) (f2 : Nat → Int32) (ha2 : h.1 78 = ia n3 f2) (i2 : vp_in a n3) (c1 : ¬ (f2 a.toNatClampNeg) = 0) (e5 : F 5 = .ref 69) (n4 : Nat) (f3 : Nat → Int32) (ha3 : h.1 69 = ia n4 f3) (i3 : vp_in n n4) : J false mX8_choose d 0 [(0, .ref 65), (1, .int z), (2, .int n)] [] h 112 [(0, .ref 65), (1, .int z), (2, .int n)] [.int (f3 n.toNatClampNeg), .int z, .ref 65] (hs h 80 (ia n1 (upd f v7.toNatClampNeg ((f v7.toNatClampNeg) + 1)))) := by
  refine J.tr (s_sipush (q := 3) (v := 2001) dX8_choose_0 rfl (by decide)) ?_
  refine J.tr (s_aload_n (q := 4) dX8_choose_3 rfl rfl) ?_
  refine J.tr (s_gf (q := 7) (v := .int v7) dX8_choose_4 rfl fX8_119.l (ho) (by decide) (e7)) ?_
  refine J.tr (s_imul (q := 8) dX8_choose_7 rfl) ?_
  refine J.tr (s_aload_n (q := 9) dX8_choose_8 rfl rfl) ?_
  refine J.tr (s_gf (q := 12) (v := .ref 80) dX8_choose_9 rfl fX8_53.l (ho) (by decide) (e18)) ?_
  refine J.tr (s_aload_n (q := 13) dX8_choose_12 rfl rfl) ?_
  refine J.tr (s_gf (q := 16) (v := .int v7) dX8_choose_13 rfl fX8_119.l (ho) (by decide) (e7)) ?_
  refine J.tr (s_iald (q := 17) dX8_choose_16 rfl (by decide) (ha) i) ?_
  refine J.tr (s_iadd (q := 18) dX8_choose_17 rfl) ?_
  refine J.tr (s_nmi en) ?_
  refine J.tr (s_istore_n (q := 19) (ls' := [(3, .int a), (0, .ref 65), (1, .int z), (2, .int n)]) dX8_choose_18 rfl (by decide) rfl) ?_
  refine J.tr (s_aload_n (q := 20) dX8_choose_19 rfl rfl) ?_
  refine J.tr (s_gf (q := 23) (v := .ref 80) dX8_choose_20 rfl fX8_53.l (ho) (by decide) (e18)) ?_
  refine J.tr (s_aload_n (q := 24) dX8_choose_23 rfl rfl) ?_
  refine J.tr (s_gf (q := 27) (v := .int v7) dX8_choose_24 rfl fX8_119.l (ho) (by decide) (e7)) ?_
  refine J.tr (s_iald (q := 28) dX8_choose_27 rfl (by decide) (ha) i) ?_
  refine J.tr (s_aload_n (q := 29) dX8_choose_28 rfl rfl) ?_
  refine J.tr (s_gf (q := 32) (v := .ref 79) dX8_choose_29 rfl fX8_50.l (ho) (by decide) (e17)) ?_
  refine J.tr (s_aload_n (q := 33) dX8_choose_32 rfl rfl) ?_
  refine J.tr (s_gf (q := 36) (v := .int v7) dX8_choose_33 rfl fX8_119.l (ho) (by decide) (e7)) ?_
  refine J.tr (s_iald (q := 37) dX8_choose_36 rfl (by decide) (ha1) i1) ?_
  refine J.tr (s_icmp_ne_t (q := 73) dX8_choose_37 (by decide) c) ?_
  refine J.tr (s_aload_n (q := 74) dX8_choose_73 rfl rfl) ?_
  refine J.tr (s_gf (q := 77) (v := .ref 80) dX8_choose_74 rfl fX8_53.l (ho) (by decide) (e18)) ?_
  refine J.tr (s_aload_n (q := 78) dX8_choose_77 rfl rfl) ?_
  refine J.tr (s_gf (q := 81) (v := .int v7) dX8_choose_78 rfl fX8_119.l (ho) (by decide) (e7)) ?_
  refine J.tr (s_dup2 (q := 82) dX8_choose_81 rfl rfl rfl) ?_
  refine J.tr (s_iald (q := 83) dX8_choose_82 rfl (by decide) (ha) i) ?_
  refine J.tr (s_iconst (q := 84) (v := 1) dX8_choose_83 rfl (by decide)) ?_
  refine J.tr (s_iadd (q := 85) dX8_choose_84 rfl) ?_
  refine J.tr (s_iast (q := 86) dX8_choose_85 rfl (by decide) (ha) i) ?_
  refine J.tr (s_aload_n (q := 87) dX8_choose_86 rfl rfl) ?_
  refine J.tr (s_iload_n (q := 88) dX8_choose_87 rfl rfl) ?_
  refine J.tr (s_aload_n (q := 89) dX8_choose_88 rfl rfl) ?_
  refine J.tr (s_gf (q := 92) (v := .ref 78) dX8_choose_89 rfl fX8_47.l ((hs_ne (by decide)).trans (ho)) (by decide) (e16)) ?_
  refine J.tr (s_iload_n (q := 93) dX8_choose_92 rfl rfl) ?_
  refine J.tr (s_iald (q := 94) dX8_choose_93 rfl (by decide) ((hs_ne (by decide)).trans (ha2)) i2) ?_
  refine J.tr (s_if_ne_t (q := 106) dX8_choose_94 (by decide) c1) ?_
  refine J.tr (s_aload_n (q := 107) dX8_choose_106 rfl rfl) ?_
  refine J.tr (s_gf (q := 110) (v := .ref 69) dX8_choose_107 rfl fX8_20.l ((hs_ne (by decide)).trans (ho)) (by decide) (e5)) ?_
  refine J.tr (s_iload_n (q := 111) dX8_choose_110 rfl rfl) ?_
  refine J.tr (s_iald (q := 112) dX8_choose_111 rfl (by decide) ((hs_ne (by decide)).trans (ha3)) i3) ?_
  refine J.tr (s_ls (ls' := [(0, .ref 65), (1, .int z), (2, .int n)]) [1, 2, 3] rfl) ?_
  exact J.rf

set_option maxRecDepth 20000 in
theorem j_X8_choose_a_2 {d : Nat} (hd : 0 ≤ d) (h : AH) (z : Int32) (n : Int32) (x : Nat) (y : Nat) (F : Nat → Value) (ho : h.1 65 = ob 8 (fo 53 F)) (v7 : Int32) (e7 : F 7 = .int v7) (e18 : F 18 = .ref 80) (n1 : Nat) (f : Nat → Int32) (ha : h.1 80 = ia n1 f) (i : vp_in v7 n1) (a : Int32) (en : ((2001 * v7) + (f v7.toNatClampNeg)) = a) (e17 : F 17 = .ref 79) (n2 : Nat) (f1 : Nat → Int32) (ha1 : h.1 79 = ia n2 f1) (i1 : vp_in v7 n2) (c : ¬ (f v7.toNatClampNeg) = (f1 v7.toNatClampNeg)) (e16 : F 16 = .ref 78) (n3 : Nat) (f2 : Nat → Int32) (ha2 : h.1 78 = ia n3 f2) (i2 : vp_in a n3) (c1 : (f2 a.toNatClampNeg) = 0) (e4 : F 4 = .ref 68) (n4 : Nat) (f3 : Nat → Int32) (ha3 : h.1 68 = ia n4 f3) (i3 : vp_in n n4) : J false mX8_choose d 0 [(0, .ref 65), (1, .int z), (2, .int n)] [] h 112 [(0, .ref 65), (1, .int z), (2, .int n)] [.int (f3 n.toNatClampNeg), .int z, .ref 65] (hs h 80 (ia n1 (upd f v7.toNatClampNeg ((f v7.toNatClampNeg) + 1)))) := by
  refine J.tr (s_sipush (q := 3) (v := 2001) dX8_choose_0 rfl (by decide)) ?_
  refine J.tr (s_aload_n (q := 4) dX8_choose_3 rfl rfl) ?_
  refine J.tr (s_gf (q := 7) (v := .int v7) dX8_choose_4 rfl fX8_119.l (ho) (by decide) (e7)) ?_
  refine J.tr (s_imul (q := 8) dX8_choose_7 rfl) ?_
  refine J.tr (s_aload_n (q := 9) dX8_choose_8 rfl rfl) ?_
  refine J.tr (s_gf (q := 12) (v := .ref 80) dX8_choose_9 rfl fX8_53.l (ho) (by decide) (e18)) ?_
  refine J.tr (s_aload_n (q := 13) dX8_choose_12 rfl rfl) ?_
  refine J.tr (s_gf (q := 16) (v := .int v7) dX8_choose_13 rfl fX8_119.l (ho) (by decide) (e7)) ?_
  refine J.tr (s_iald (q := 17) dX8_choose_16 rfl (by decide) (ha) i) ?_
  refine J.tr (s_iadd (q := 18) dX8_choose_17 rfl) ?_
  refine J.tr (s_nmi en) ?_
  refine J.tr (s_istore_n (q := 19) (ls' := [(3, .int a), (0, .ref 65), (1, .int z), (2, .int n)]) dX8_choose_18 rfl (by decide) rfl) ?_
  refine J.tr (s_aload_n (q := 20) dX8_choose_19 rfl rfl) ?_
  refine J.tr (s_gf (q := 23) (v := .ref 80) dX8_choose_20 rfl fX8_53.l (ho) (by decide) (e18)) ?_
  refine J.tr (s_aload_n (q := 24) dX8_choose_23 rfl rfl) ?_
  refine J.tr (s_gf (q := 27) (v := .int v7) dX8_choose_24 rfl fX8_119.l (ho) (by decide) (e7)) ?_
  refine J.tr (s_iald (q := 28) dX8_choose_27 rfl (by decide) (ha) i) ?_
  refine J.tr (s_aload_n (q := 29) dX8_choose_28 rfl rfl) ?_
  refine J.tr (s_gf (q := 32) (v := .ref 79) dX8_choose_29 rfl fX8_50.l (ho) (by decide) (e17)) ?_
  refine J.tr (s_aload_n (q := 33) dX8_choose_32 rfl rfl) ?_
  refine J.tr (s_gf (q := 36) (v := .int v7) dX8_choose_33 rfl fX8_119.l (ho) (by decide) (e7)) ?_
  refine J.tr (s_iald (q := 37) dX8_choose_36 rfl (by decide) (ha1) i1) ?_
  refine J.tr (s_icmp_ne_t (q := 73) dX8_choose_37 (by decide) c) ?_
  refine J.tr (s_aload_n (q := 74) dX8_choose_73 rfl rfl) ?_
  refine J.tr (s_gf (q := 77) (v := .ref 80) dX8_choose_74 rfl fX8_53.l (ho) (by decide) (e18)) ?_
  refine J.tr (s_aload_n (q := 78) dX8_choose_77 rfl rfl) ?_
  refine J.tr (s_gf (q := 81) (v := .int v7) dX8_choose_78 rfl fX8_119.l (ho) (by decide) (e7)) ?_
  refine J.tr (s_dup2 (q := 82) dX8_choose_81 rfl rfl rfl) ?_
  refine J.tr (s_iald (q := 83) dX8_choose_82 rfl (by decide) (ha) i) ?_
  refine J.tr (s_iconst (q := 84) (v := 1) dX8_choose_83 rfl (by decide)) ?_
  refine J.tr (s_iadd (q := 85) dX8_choose_84 rfl) ?_
  refine J.tr (s_iast (q := 86) dX8_choose_85 rfl (by decide) (ha) i) ?_
  refine J.tr (s_aload_n (q := 87) dX8_choose_86 rfl rfl) ?_
  refine J.tr (s_iload_n (q := 88) dX8_choose_87 rfl rfl) ?_
  refine J.tr (s_aload_n (q := 89) dX8_choose_88 rfl rfl) ?_
  refine J.tr (s_gf (q := 92) (v := .ref 78) dX8_choose_89 rfl fX8_47.l ((hs_ne (by decide)).trans (ho)) (by decide) (e16)) ?_
  refine J.tr (s_iload_n (q := 93) dX8_choose_92 rfl rfl) ?_
  refine J.tr (s_iald (q := 94) dX8_choose_93 rfl (by decide) ((hs_ne (by decide)).trans (ha2)) i2) ?_
  refine J.tr (s_if_ne_f (q := 97) (tg := 106) dX8_choose_94 (by decide) rfl c1) ?_
  refine J.tr (s_aload_n (q := 98) dX8_choose_97 rfl rfl) ?_
  refine J.tr (s_gf (q := 101) (v := .ref 68) dX8_choose_98 rfl fX8_17.l ((hs_ne (by decide)).trans (ho)) (by decide) (e4)) ?_
  refine J.tr (s_iload_n (q := 102) dX8_choose_101 rfl rfl) ?_
  refine J.tr (s_iald (q := 103) dX8_choose_102 rfl (by decide) ((hs_ne (by decide)).trans (ha3)) i3) ?_
  refine J.tr (s_goto (q := 112) dX8_choose_103 (by decide)) ?_
  refine J.tr (s_ls (ls' := [(0, .ref 65), (1, .int z), (2, .int n)]) [1, 2, 3] rfl) ?_
  exact J.rf

set_option maxRecDepth 20000 in
theorem j_X8_choose_a_3 {d : Nat} (hd : 0 ≤ d) (h : AH) (z : Int32) (n : Int32) (x : Nat) (y : Nat) (F : Nat → Value) (ho : h.1 65 = ob 8 (fo 53 F)) (v7 : Int32) (e7 : F 7 = .int v7) (e18 : F 18 = .ref 80) (n1 : Nat) (f : Nat → Int32) (ha : h.1 80 = ia n1 f) (i : vp_in v7 n1) (a : Int32) (en : ((2001 * v7) + (f v7.toNatClampNeg)) = a) (e17 : F 17 = .ref 79) (n2 : Nat) (f1 : Nat → Int32) (ha1 : h.1 79 = ia n2 f1) (i1 : vp_in v7 n2) (c : (f v7.toNatClampNeg) = (f1 v7.toNatClampNeg)) (c1 : ¬ v7 = 0) (e16 : F 16 = .ref 78) (n3 : Nat) (f2 : Nat → Int32) (ha2 : h.1 78 = ia n3 f2) (i2 : vp_in a n3) (c2 : ¬ ((upd f2 a.toNatClampNeg 0) a.toNatClampNeg) = 0) (e5 : F 5 = .ref 69) (n4 : Nat) (f3 : Nat → Int32) (ha3 : h.1 69 = ia n4 f3) (i3 : vp_in n n4) : J false mX8_choose d 0 [(0, .ref 65), (1, .int z), (2, .int n)] [] h 112 [(0, .ref 65), (1, .int z), (2, .int n)] [.int (f3 n.toNatClampNeg), .int z, .ref 65] (hs (hs (hs h 78 (ia n3 (upd f2 a.toNatClampNeg 0))) 79 (ia n2 (upd f1 v7.toNatClampNeg ((f1 v7.toNatClampNeg) + 1)))) 80 (ia n1 (upd f v7.toNatClampNeg ((f v7.toNatClampNeg) + 1)))) := by
  refine J.tr (s_sipush (q := 3) (v := 2001) dX8_choose_0 rfl (by decide)) ?_
  refine J.tr (s_aload_n (q := 4) dX8_choose_3 rfl rfl) ?_
  refine J.tr (s_gf (q := 7) (v := .int v7) dX8_choose_4 rfl fX8_119.l (ho) (by decide) (e7)) ?_
  refine J.tr (s_imul (q := 8) dX8_choose_7 rfl) ?_
  refine J.tr (s_aload_n (q := 9) dX8_choose_8 rfl rfl) ?_
  refine J.tr (s_gf (q := 12) (v := .ref 80) dX8_choose_9 rfl fX8_53.l (ho) (by decide) (e18)) ?_
  refine J.tr (s_aload_n (q := 13) dX8_choose_12 rfl rfl) ?_
  refine J.tr (s_gf (q := 16) (v := .int v7) dX8_choose_13 rfl fX8_119.l (ho) (by decide) (e7)) ?_
  refine J.tr (s_iald (q := 17) dX8_choose_16 rfl (by decide) (ha) i) ?_
  refine J.tr (s_iadd (q := 18) dX8_choose_17 rfl) ?_
  refine J.tr (s_nmi en) ?_
  refine J.tr (s_istore_n (q := 19) (ls' := [(3, .int a), (0, .ref 65), (1, .int z), (2, .int n)]) dX8_choose_18 rfl (by decide) rfl) ?_
  refine J.tr (s_aload_n (q := 20) dX8_choose_19 rfl rfl) ?_
  refine J.tr (s_gf (q := 23) (v := .ref 80) dX8_choose_20 rfl fX8_53.l (ho) (by decide) (e18)) ?_
  refine J.tr (s_aload_n (q := 24) dX8_choose_23 rfl rfl) ?_
  refine J.tr (s_gf (q := 27) (v := .int v7) dX8_choose_24 rfl fX8_119.l (ho) (by decide) (e7)) ?_
  refine J.tr (s_iald (q := 28) dX8_choose_27 rfl (by decide) (ha) i) ?_
  refine J.tr (s_aload_n (q := 29) dX8_choose_28 rfl rfl) ?_
  refine J.tr (s_gf (q := 32) (v := .ref 79) dX8_choose_29 rfl fX8_50.l (ho) (by decide) (e17)) ?_
  refine J.tr (s_aload_n (q := 33) dX8_choose_32 rfl rfl) ?_
  refine J.tr (s_gf (q := 36) (v := .int v7) dX8_choose_33 rfl fX8_119.l (ho) (by decide) (e7)) ?_
  refine J.tr (s_iald (q := 37) dX8_choose_36 rfl (by decide) (ha1) i1) ?_
  refine J.tr (s_icmp_ne_f (q := 40) (tg := 73) dX8_choose_37 (by decide) rfl c) ?_
  refine J.tr (s_aload_n (q := 41) dX8_choose_40 rfl rfl) ?_
  refine J.tr (s_gf (q := 44) (v := .int v7) dX8_choose_41 rfl fX8_119.l (ho) (by decide) (e7)) ?_
  refine J.tr (s_if_ne_t (q := 53) dX8_choose_44 (by decide) c1) ?_
  refine J.tr (s_aload_n (q := 54) dX8_choose_53 rfl rfl) ?_
  refine J.tr (s_gf (q := 57) (v := .ref 78) dX8_choose_54 rfl fX8_47.l (ho) (by decide) (e16)) ?_
  refine J.tr (s_iload_n (q := 58) dX8_choose_57 rfl rfl) ?_
  refine J.tr (s_iconst (q := 59) (v := 0) dX8_choose_58 rfl (by decide)) ?_
  refine J.tr (s_iast (q := 60) dX8_choose_59 rfl (by decide) (ha2) i2) ?_
  refine J.tr (s_aload_n (q := 61) dX8_choose_60 rfl rfl) ?_
  refine J.tr (s_gf (q := 64) (v := .ref 79) dX8_choose_61 rfl fX8_50.l ((hs_ne (by decide)).trans (ho)) (by decide) (e17)) ?_
  refine J.tr (s_aload_n (q := 65) dX8_choose_64 rfl rfl) ?_
  refine J.tr (s_gf (q := 68) (v := .int v7) dX8_choose_65 rfl fX8_119.l ((hs_ne (by decide)).trans (ho)) (by decide) (e7)) ?_
  refine J.tr (s_dup2 (q := 69) dX8_choose_68 rfl rfl rfl) ?_
  refine J.tr (s_iald (q := 70) dX8_choose_69 rfl (by decide) ((hs_ne (by decide)).trans (ha1)) i1) ?_
  refine J.tr (s_iconst (q := 71) (v := 1) dX8_choose_70 rfl (by decide)) ?_
  refine J.tr (s_iadd (q := 72) dX8_choose_71 rfl) ?_
  refine J.tr (s_iast (q := 73) dX8_choose_72 rfl (by decide) ((hs_ne (by decide)).trans (ha1)) i1) ?_
  refine J.tr (s_aload_n (q := 74) dX8_choose_73 rfl rfl) ?_
  refine J.tr (s_gf (q := 77) (v := .ref 80) dX8_choose_74 rfl fX8_53.l ((hs_ne (by decide)).trans ((hs_ne (by decide)).trans (ho))) (by decide) (e18)) ?_
  refine J.tr (s_aload_n (q := 78) dX8_choose_77 rfl rfl) ?_
  refine J.tr (s_gf (q := 81) (v := .int v7) dX8_choose_78 rfl fX8_119.l ((hs_ne (by decide)).trans ((hs_ne (by decide)).trans (ho))) (by decide) (e7)) ?_
  refine J.tr (s_dup2 (q := 82) dX8_choose_81 rfl rfl rfl) ?_
  refine J.tr (s_iald (q := 83) dX8_choose_82 rfl (by decide) ((hs_ne (by decide)).trans ((hs_ne (by decide)).trans (ha))) i) ?_
  refine J.tr (s_iconst (q := 84) (v := 1) dX8_choose_83 rfl (by decide)) ?_
  refine J.tr (s_iadd (q := 85) dX8_choose_84 rfl) ?_
  refine J.tr (s_iast (q := 86) dX8_choose_85 rfl (by decide) ((hs_ne (by decide)).trans ((hs_ne (by decide)).trans (ha))) i) ?_
  refine J.tr (s_aload_n (q := 87) dX8_choose_86 rfl rfl) ?_
  refine J.tr (s_iload_n (q := 88) dX8_choose_87 rfl rfl) ?_
  refine J.tr (s_aload_n (q := 89) dX8_choose_88 rfl rfl) ?_
  refine J.tr (s_gf (q := 92) (v := .ref 78) dX8_choose_89 rfl fX8_47.l ((hs_ne (by decide)).trans ((hs_ne (by decide)).trans ((hs_ne (by decide)).trans (ho)))) (by decide) (e16)) ?_
  refine J.tr (s_iload_n (q := 93) dX8_choose_92 rfl rfl) ?_
  refine J.tr (s_iald (q := 94) dX8_choose_93 rfl (by decide) ((hs_ne (by decide)).trans ((hs_ne (by decide)).trans (hs_eq))) i2) ?_
  refine J.tr (s_if_ne_t (q := 106) dX8_choose_94 (by decide) c2) ?_
  refine J.tr (s_aload_n (q := 107) dX8_choose_106 rfl rfl) ?_
  refine J.tr (s_gf (q := 110) (v := .ref 69) dX8_choose_107 rfl fX8_20.l ((hs_ne (by decide)).trans ((hs_ne (by decide)).trans ((hs_ne (by decide)).trans (ho)))) (by decide) (e5)) ?_
  refine J.tr (s_iload_n (q := 111) dX8_choose_110 rfl rfl) ?_
  refine J.tr (s_iald (q := 112) dX8_choose_111 rfl (by decide) ((hs_ne (by decide)).trans ((hs_ne (by decide)).trans ((hs_ne (by decide)).trans (ha3)))) i3) ?_
  refine J.tr (s_ls (ls' := [(0, .ref 65), (1, .int z), (2, .int n)]) [1, 2, 3] rfl) ?_
  exact J.rf

set_option maxRecDepth 20000 in
theorem j_X8_choose_a_4 {d : Nat} (hd : 0 ≤ d) (h : AH) (z : Int32) (n : Int32) (x : Nat) (y : Nat) (F : Nat → Value) (ho : h.1 65 = ob 8 (fo 53 F)) (v7 : Int32) (e7 : F 7 = .int v7) (e18 : F 18 = .ref 80) (n1 : Nat) (f : Nat → Int32) (ha : h.1 80 = ia n1 f) (i : vp_in v7 n1) (a : Int32) (en : ((2001 * v7) + (f v7.toNatClampNeg)) = a) (e17 : F 17 = .ref 79) (n2 : Nat) (f1 : Nat → Int32) (ha1 : h.1 79 = ia n2 f1) (i1 : vp_in v7 n2) (c : (f v7.toNatClampNeg) = (f1 v7.toNatClampNeg)) (c1 : ¬ v7 = 0) (e16 : F 16 = .ref 78) (n3 : Nat) (f2 : Nat → Int32) (ha2 : h.1 78 = ia n3 f2) (i2 : vp_in a n3) (c2 : ((upd f2 a.toNatClampNeg 0) a.toNatClampNeg) = 0) (e4 : F 4 = .ref 68) (n4 : Nat) (f3 : Nat → Int32) (ha3 : h.1 68 = ia n4 f3) (i3 : vp_in n n4) : J false mX8_choose d 0 [(0, .ref 65), (1, .int z), (2, .int n)] [] h 112 [(0, .ref 65), (1, .int z), (2, .int n)] [.int (f3 n.toNatClampNeg), .int z, .ref 65] (hs (hs (hs h 78 (ia n3 (upd f2 a.toNatClampNeg 0))) 79 (ia n2 (upd f1 v7.toNatClampNeg ((f1 v7.toNatClampNeg) + 1)))) 80 (ia n1 (upd f v7.toNatClampNeg ((f v7.toNatClampNeg) + 1)))) := by
  refine J.tr (s_sipush (q := 3) (v := 2001) dX8_choose_0 rfl (by decide)) ?_
  refine J.tr (s_aload_n (q := 4) dX8_choose_3 rfl rfl) ?_
  refine J.tr (s_gf (q := 7) (v := .int v7) dX8_choose_4 rfl fX8_119.l (ho) (by decide) (e7)) ?_
  refine J.tr (s_imul (q := 8) dX8_choose_7 rfl) ?_
  refine J.tr (s_aload_n (q := 9) dX8_choose_8 rfl rfl) ?_
  refine J.tr (s_gf (q := 12) (v := .ref 80) dX8_choose_9 rfl fX8_53.l (ho) (by decide) (e18)) ?_
  refine J.tr (s_aload_n (q := 13) dX8_choose_12 rfl rfl) ?_
  refine J.tr (s_gf (q := 16) (v := .int v7) dX8_choose_13 rfl fX8_119.l (ho) (by decide) (e7)) ?_
  refine J.tr (s_iald (q := 17) dX8_choose_16 rfl (by decide) (ha) i) ?_
  refine J.tr (s_iadd (q := 18) dX8_choose_17 rfl) ?_
  refine J.tr (s_nmi en) ?_
  refine J.tr (s_istore_n (q := 19) (ls' := [(3, .int a), (0, .ref 65), (1, .int z), (2, .int n)]) dX8_choose_18 rfl (by decide) rfl) ?_
  refine J.tr (s_aload_n (q := 20) dX8_choose_19 rfl rfl) ?_
  refine J.tr (s_gf (q := 23) (v := .ref 80) dX8_choose_20 rfl fX8_53.l (ho) (by decide) (e18)) ?_
  refine J.tr (s_aload_n (q := 24) dX8_choose_23 rfl rfl) ?_
  refine J.tr (s_gf (q := 27) (v := .int v7) dX8_choose_24 rfl fX8_119.l (ho) (by decide) (e7)) ?_
  refine J.tr (s_iald (q := 28) dX8_choose_27 rfl (by decide) (ha) i) ?_
  refine J.tr (s_aload_n (q := 29) dX8_choose_28 rfl rfl) ?_
  refine J.tr (s_gf (q := 32) (v := .ref 79) dX8_choose_29 rfl fX8_50.l (ho) (by decide) (e17)) ?_
  refine J.tr (s_aload_n (q := 33) dX8_choose_32 rfl rfl) ?_
  refine J.tr (s_gf (q := 36) (v := .int v7) dX8_choose_33 rfl fX8_119.l (ho) (by decide) (e7)) ?_
  refine J.tr (s_iald (q := 37) dX8_choose_36 rfl (by decide) (ha1) i1) ?_
  refine J.tr (s_icmp_ne_f (q := 40) (tg := 73) dX8_choose_37 (by decide) rfl c) ?_
  refine J.tr (s_aload_n (q := 41) dX8_choose_40 rfl rfl) ?_
  refine J.tr (s_gf (q := 44) (v := .int v7) dX8_choose_41 rfl fX8_119.l (ho) (by decide) (e7)) ?_
  refine J.tr (s_if_ne_t (q := 53) dX8_choose_44 (by decide) c1) ?_
  refine J.tr (s_aload_n (q := 54) dX8_choose_53 rfl rfl) ?_
  refine J.tr (s_gf (q := 57) (v := .ref 78) dX8_choose_54 rfl fX8_47.l (ho) (by decide) (e16)) ?_
  refine J.tr (s_iload_n (q := 58) dX8_choose_57 rfl rfl) ?_
  refine J.tr (s_iconst (q := 59) (v := 0) dX8_choose_58 rfl (by decide)) ?_
  refine J.tr (s_iast (q := 60) dX8_choose_59 rfl (by decide) (ha2) i2) ?_
  refine J.tr (s_aload_n (q := 61) dX8_choose_60 rfl rfl) ?_
  refine J.tr (s_gf (q := 64) (v := .ref 79) dX8_choose_61 rfl fX8_50.l ((hs_ne (by decide)).trans (ho)) (by decide) (e17)) ?_
  refine J.tr (s_aload_n (q := 65) dX8_choose_64 rfl rfl) ?_
  refine J.tr (s_gf (q := 68) (v := .int v7) dX8_choose_65 rfl fX8_119.l ((hs_ne (by decide)).trans (ho)) (by decide) (e7)) ?_
  refine J.tr (s_dup2 (q := 69) dX8_choose_68 rfl rfl rfl) ?_
  refine J.tr (s_iald (q := 70) dX8_choose_69 rfl (by decide) ((hs_ne (by decide)).trans (ha1)) i1) ?_
  refine J.tr (s_iconst (q := 71) (v := 1) dX8_choose_70 rfl (by decide)) ?_
  refine J.tr (s_iadd (q := 72) dX8_choose_71 rfl) ?_
  refine J.tr (s_iast (q := 73) dX8_choose_72 rfl (by decide) ((hs_ne (by decide)).trans (ha1)) i1) ?_
  refine J.tr (s_aload_n (q := 74) dX8_choose_73 rfl rfl) ?_
  refine J.tr (s_gf (q := 77) (v := .ref 80) dX8_choose_74 rfl fX8_53.l ((hs_ne (by decide)).trans ((hs_ne (by decide)).trans (ho))) (by decide) (e18)) ?_
  refine J.tr (s_aload_n (q := 78) dX8_choose_77 rfl rfl) ?_
  refine J.tr (s_gf (q := 81) (v := .int v7) dX8_choose_78 rfl fX8_119.l ((hs_ne (by decide)).trans ((hs_ne (by decide)).trans (ho))) (by decide) (e7)) ?_
  refine J.tr (s_dup2 (q := 82) dX8_choose_81 rfl rfl rfl) ?_
  refine J.tr (s_iald (q := 83) dX8_choose_82 rfl (by decide) ((hs_ne (by decide)).trans ((hs_ne (by decide)).trans (ha))) i) ?_
  refine J.tr (s_iconst (q := 84) (v := 1) dX8_choose_83 rfl (by decide)) ?_
  refine J.tr (s_iadd (q := 85) dX8_choose_84 rfl) ?_
  refine J.tr (s_iast (q := 86) dX8_choose_85 rfl (by decide) ((hs_ne (by decide)).trans ((hs_ne (by decide)).trans (ha))) i) ?_
  refine J.tr (s_aload_n (q := 87) dX8_choose_86 rfl rfl) ?_
  refine J.tr (s_iload_n (q := 88) dX8_choose_87 rfl rfl) ?_
  refine J.tr (s_aload_n (q := 89) dX8_choose_88 rfl rfl) ?_
  refine J.tr (s_gf (q := 92) (v := .ref 78) dX8_choose_89 rfl fX8_47.l ((hs_ne (by decide)).trans ((hs_ne (by decide)).trans ((hs_ne (by decide)).trans (ho)))) (by decide) (e16)) ?_
  refine J.tr (s_iload_n (q := 93) dX8_choose_92 rfl rfl) ?_
  refine J.tr (s_iald (q := 94) dX8_choose_93 rfl (by decide) ((hs_ne (by decide)).trans ((hs_ne (by decide)).trans (hs_eq))) i2) ?_
  refine J.tr (s_if_ne_f (q := 97) (tg := 106) dX8_choose_94 (by decide) rfl c2) ?_
  refine J.tr (s_aload_n (q := 98) dX8_choose_97 rfl rfl) ?_
  refine J.tr (s_gf (q := 101) (v := .ref 68) dX8_choose_98 rfl fX8_17.l ((hs_ne (by decide)).trans ((hs_ne (by decide)).trans ((hs_ne (by decide)).trans (ho)))) (by decide) (e4)) ?_
  refine J.tr (s_iload_n (q := 102) dX8_choose_101 rfl rfl) ?_
  refine J.tr (s_iald (q := 103) dX8_choose_102 rfl (by decide) ((hs_ne (by decide)).trans ((hs_ne (by decide)).trans ((hs_ne (by decide)).trans (ha3)))) i3) ?_
  refine J.tr (s_goto (q := 112) dX8_choose_103 (by decide)) ?_
  refine J.tr (s_ls (ls' := [(0, .ref 65), (1, .int z), (2, .int n)]) [1, 2, 3] rfl) ?_
  exact J.rf

set_option maxRecDepth 20000 in
theorem j_X8_choose_a_5 {d : Nat} (hd : 0 ≤ d) (h : AH) (z : Int32) (n : Int32) (x : Nat) (y : Nat) (F : Nat → Value) (ho : h.1 65 = ob 8 (fo 53 F)) (v7 : Int32) (e7 : F 7 = .int v7) (e18 : F 18 = .ref 80) (n1 : Nat) (f : Nat → Int32) (ha : h.1 80 = ia n1 f) (i : vp_in v7 n1) (a : Int32) (en : ((2001 * v7) + (f v7.toNatClampNeg)) = a) (e17 : F 17 = .ref 79) (n2 : Nat) (f1 : Nat → Int32) (ha1 : h.1 79 = ia n2 f1) (i1 : vp_in v7 n2) (c : (f v7.toNatClampNeg) = (f1 v7.toNatClampNeg)) (c1 : v7 = 0) : E false mX8_choose d 0 [(0, .ref 65), (1, .int z), (2, .int n)] [] h (none) (hs h 65 (ob 8 (fo 53 (va_up F 26 (.int 3))))) := by
  refine E.st (s_sipush (q := 3) (v := 2001) dX8_choose_0 rfl (by decide)) ?_
  refine E.st (s_aload_n (q := 4) dX8_choose_3 rfl rfl) ?_
  refine E.st (s_gf (q := 7) (v := .int v7) dX8_choose_4 rfl fX8_119.l (ho) (by decide) (e7)) ?_
  refine E.st (s_imul (q := 8) dX8_choose_7 rfl) ?_
  refine E.st (s_aload_n (q := 9) dX8_choose_8 rfl rfl) ?_
  refine E.st (s_gf (q := 12) (v := .ref 80) dX8_choose_9 rfl fX8_53.l (ho) (by decide) (e18)) ?_
  refine E.st (s_aload_n (q := 13) dX8_choose_12 rfl rfl) ?_
  refine E.st (s_gf (q := 16) (v := .int v7) dX8_choose_13 rfl fX8_119.l (ho) (by decide) (e7)) ?_
  refine E.st (s_iald (q := 17) dX8_choose_16 rfl (by decide) (ha) i) ?_
  refine E.st (s_iadd (q := 18) dX8_choose_17 rfl) ?_
  refine E.st (s_nmi en) ?_
  refine E.st (s_istore_n (q := 19) (ls' := [(3, .int a), (0, .ref 65), (1, .int z), (2, .int n)]) dX8_choose_18 rfl (by decide) rfl) ?_
  refine E.st (s_aload_n (q := 20) dX8_choose_19 rfl rfl) ?_
  refine E.st (s_gf (q := 23) (v := .ref 80) dX8_choose_20 rfl fX8_53.l (ho) (by decide) (e18)) ?_
  refine E.st (s_aload_n (q := 24) dX8_choose_23 rfl rfl) ?_
  refine E.st (s_gf (q := 27) (v := .int v7) dX8_choose_24 rfl fX8_119.l (ho) (by decide) (e7)) ?_
  refine E.st (s_iald (q := 28) dX8_choose_27 rfl (by decide) (ha) i) ?_
  refine E.st (s_aload_n (q := 29) dX8_choose_28 rfl rfl) ?_
  refine E.st (s_gf (q := 32) (v := .ref 79) dX8_choose_29 rfl fX8_50.l (ho) (by decide) (e17)) ?_
  refine E.st (s_aload_n (q := 33) dX8_choose_32 rfl rfl) ?_
  refine E.st (s_gf (q := 36) (v := .int v7) dX8_choose_33 rfl fX8_119.l (ho) (by decide) (e7)) ?_
  refine E.st (s_iald (q := 37) dX8_choose_36 rfl (by decide) (ha1) i1) ?_
  refine E.st (s_icmp_ne_f (q := 40) (tg := 73) dX8_choose_37 (by decide) rfl c) ?_
  refine E.st (s_aload_n (q := 41) dX8_choose_40 rfl rfl) ?_
  refine E.st (s_gf (q := 44) (v := .int v7) dX8_choose_41 rfl fX8_119.l (ho) (by decide) (e7)) ?_
  refine E.st (s_if_ne_f (q := 47) (tg := 53) dX8_choose_44 (by decide) rfl c1) ?_
  refine E.st (s_aload_n (q := 48) dX8_choose_47 rfl rfl) ?_
  refine E.st (s_iconst (q := 49) (v := 3) dX8_choose_48 rfl (by decide)) ?_
  refine E.st (s_pf (q := 52) dX8_choose_49 rfl fX8_126 (ho) (by decide) (fun _ => ⟨rfl, rfl⟩)) ?_
  exact E.v dX8_choose_52 rfl rfl rfl

set_option maxRecDepth 20000 in
theorem j_X8_choose_b_1 {d : Nat} (hd : 0 ≤ d) (h : AH) (z : Int32) (n : Int32) (x : Nat) (y : Nat) : E false mX8_choose d 115 [(0, .ref 65), (1, .int z), (2, .int n)] [] h (none) h := by
  exact E.v dX8_choose_115 rfl rfl rfl

set_option maxRecDepth 20000 in
theorem j_X8_reckon_a_1 {d : Nat} (hd : 0 ≤ d) (h : AH) (z : Int32) (n : Int32) (x : Nat) (y : Nat) (F : Nat → Value) (ho : h.1 65 = ob 8 (fo 53 F)) (e4 : F 4 = .ref 68) (n1 : Nat) (f : Nat → Int32) (ha : h.1 68 = ia n1 f) (i : vp_in n n1) : J false mX8_reckon d 0 [(0, .ref 65), (1, .int z), (2, .int n)] [] h 8 [(0, .ref 65), (1, .int z), (2, .int n)] [.int 1, .int (f n.toNatClampNeg), .ref 65] h := by
  refine J.tr (s_aload_n (q := 1) dX8_reckon_0 rfl rfl) ?_
  refine J.tr (s_aload_n (q := 2) dX8_reckon_1 rfl rfl) ?_
  refine J.tr (s_gf (q := 5) (v := .ref 68) dX8_reckon_2 rfl fX8_17.l (ho) (by decide) (e4)) ?_
  refine J.tr (s_iload_n (q := 6) dX8_reckon_5 rfl rfl) ?_
  refine J.tr (s_iald (q := 7) dX8_reckon_6 rfl (by decide) (ha) i) ?_
  refine J.tr (s_iconst (q := 8) (v := 1) dX8_reckon_7 rfl (by decide)) ?_
  exact J.rf

set_option maxRecDepth 20000 in
theorem j_X8_reckon_b_1 {d : Nat} (hd : 0 ≤ d) (h : AH) (z : Int32) (n : Int32) (x : Nat) (y : Nat) (F : Nat → Value) (ho : h.1 65 = ob 8 (fo 53 F)) (v26 : Int32) (e26 : F 26 = .int v26) (c : ¬ v26 = 0) : E false mX8_reckon d 11 [(0, .ref 65), (1, .int z), (2, .int n)] [] h (none) h := by
  refine E.st (s_aload_n (q := 12) dX8_reckon_11 rfl rfl) ?_
  refine E.st (s_gf (q := 15) (v := .int v26) dX8_reckon_12 rfl fX8_126.l (ho) (by decide) (e26)) ?_
  refine E.st (s_if_ne_t (q := 29) dX8_reckon_15 (by decide) c) ?_
  refine E.st (s_aload_n (q := 30) dX8_reckon_29 rfl rfl) ?_
  refine E.st (s_gf (q := 33) (v := .int v26) dX8_reckon_30 rfl fX8_126.l (ho) (by decide) (e26)) ?_
  refine E.st (s_if_eq_f (q := 36) (tg := 37) dX8_reckon_33 (by decide) rfl c) ?_
  exact E.v dX8_reckon_36 rfl rfl rfl

set_option maxRecDepth 20000 in
theorem j_X8_reckon_b_2 {d : Nat} (hd : 0 ≤ d) (h : AH) (z : Int32) (n : Int32) (x : Nat) (y : Nat) (F : Nat → Value) (ho : h.1 65 = ob 8 (fo 53 F)) (v26 : Int32) (e26 : F 26 = .int v26) (c : v26 = 0) (e5 : F 5 = .ref 69) (n1 : Nat) (f : Nat → Int32) (ha : h.1 69 = ia n1 f) (i : vp_in n n1) : J false mX8_reckon d 11 [(0, .ref 65), (1, .int z), (2, .int n)] [] h 26 [(0, .ref 65), (1, .int z), (2, .int n)] [.int 1, .int (f n.toNatClampNeg), .ref 65] h := by
  refine J.tr (s_aload_n (q := 12) dX8_reckon_11 rfl rfl) ?_
  refine J.tr (s_gf (q := 15) (v := .int v26) dX8_reckon_12 rfl fX8_126.l (ho) (by decide) (e26)) ?_
  refine J.tr (s_if_ne_f (q := 18) (tg := 29) dX8_reckon_15 (by decide) rfl c) ?_
  refine J.tr (s_aload_n (q := 19) dX8_reckon_18 rfl rfl) ?_
  refine J.tr (s_aload_n (q := 20) dX8_reckon_19 rfl rfl) ?_
  refine J.tr (s_gf (q := 23) (v := .ref 69) dX8_reckon_20 rfl fX8_20.l (ho) (by decide) (e5)) ?_
  refine J.tr (s_iload_n (q := 24) dX8_reckon_23 rfl rfl) ?_
  refine J.tr (s_iald (q := 25) dX8_reckon_24 rfl (by decide) (ha) i) ?_
  refine J.tr (s_iconst (q := 26) (v := 1) dX8_reckon_25 rfl (by decide)) ?_
  exact J.rf

set_option maxRecDepth 20000 in
theorem j_X8_reckon_c_1 {d : Nat} (hd : 4 ≤ d) (h : AH) (z : Int32) (n : Int32) (x : Nat) (y : Nat) (F : Nat → Value) (ho : h.1 65 = ob 8 (fo 53 F)) (v26 : Int32) (e26 : F 26 = .int v26) (c : v26 = 0) (e10 : F 10 = .ref 73) (e4 : F 4 = .ref 68) (n1 : Nat) (f : Nat → Int32) (ha : h.1 68 = ia n1 f) (i : vp_in n n1) (q : Int32) (hq : CM mX8_cellOf 3 [.ref 65, .int (f n.toNatClampNeg)] h (some (.int q)) h) (n2 : Nat) (f1 : Nat → Int64) (ha1 : h.1 73 = la n2 f1) (i1 : vp_in q n2) (e5 : F 5 = .ref 69) (n3 : Nat) (f2 : Nat → Int32) (ha2 : h.1 69 = ia n3 f2) (i2 : vp_in n n3) (q1 : Int32) (hq1 : CM mX8_cellOf 3 [.ref 65, .int (f2 n.toNatClampNeg)] h (some (.int q1)) h) (i3 : vp_in q1 n2) (e6 : F 6 = .ref 70) (n4 : Nat) (f3 : Nat → Int32) (ha3 : h.1 70 = ia n4 f3) (i4 : vp_in n n4) (c1 : (f3 n.toNatClampNeg) = 0) (e9 : F 9 = .ref 72) (n5 : Nat) (f4 : Nat → Int32) (ha4 : h.1 72 = ia n5 f4) (c2 : vp_in z n5) (c3 : vp_in z n2) : E false mX8_reckon d 29 [(0, .ref 65), (1, .int z), (2, .int n)] [] h (none) (hs (hs h 72 (ia n5 (upd f4 z.toNatClampNeg 1))) 73 (la n2 (vp_updL f1 z.toNatClampNeg ((f1 q.toNatClampNeg) + (f1 q1.toNatClampNeg))))) := by
  refine E.st (s_aload_n (q := 30) dX8_reckon_29 rfl rfl) ?_
  refine E.st (s_gf (q := 33) (v := .int v26) dX8_reckon_30 rfl fX8_126.l (ho) (by decide) (e26)) ?_
  refine E.st (s_if_eq_t (q := 37) dX8_reckon_33 (by decide) c) ?_
  refine E.st (s_aload_n (q := 38) dX8_reckon_37 rfl rfl) ?_
  refine E.st (s_gf (q := 41) (v := .ref 73) dX8_reckon_38 rfl fX8_32.l (ho) (by decide) (e10)) ?_
  refine E.st (s_aload_n (q := 42) dX8_reckon_41 rfl rfl) ?_
  refine E.st (s_aload_n (q := 43) dX8_reckon_42 rfl rfl) ?_
  refine E.st (s_gf (q := 46) (v := .ref 68) dX8_reckon_43 rfl fX8_17.l (ho) (by decide) (e4)) ?_
  refine E.st (s_iload_n (q := 47) dX8_reckon_46 rfl rfl) ?_
  refine E.st (s_iald (q := 48) dX8_reckon_47 rfl (by decide) (ha) i) ?_
  refine E.st (p2 := 51) (l2 := [(0, .ref 65), (1, .int z), (2, .int n)]) (s2 := [.int q, .ref 73]) (h2 := h) (s_invv (K := mX8_cellOf) (o := 65) (as := [.int (f n.toNatClampNeg)]) (rest := [.ref 73]) (v := some (.int q)) dX8_reckon_48 rfl lX8_153 (by omega) rfl (Nat.le_of_ble_eq_true rfl) rfl (Nat.le_of_ble_eq_true rfl) (ho) hq (fun h => nomatch h)) ?_
  refine E.st (s_lald (q := 52) dX8_reckon_51 rfl (ha1) i1) ?_
  refine E.st (s_lstore_n (q := 53) (ls' := [(3, .long (f1 q.toNatClampNeg)), (0, .ref 65), (1, .int z), (2, .int n)]) dX8_reckon_52 rfl (by decide) rfl) ?_
  refine E.st (s_aload_n (q := 54) dX8_reckon_53 rfl rfl) ?_
  refine E.st (s_gf (q := 57) (v := .ref 73) dX8_reckon_54 rfl fX8_32.l (ho) (by decide) (e10)) ?_
  refine E.st (s_aload_n (q := 58) dX8_reckon_57 rfl rfl) ?_
  refine E.st (s_aload_n (q := 59) dX8_reckon_58 rfl rfl) ?_
  refine E.st (s_gf (q := 62) (v := .ref 69) dX8_reckon_59 rfl fX8_20.l (ho) (by decide) (e5)) ?_
  refine E.st (s_iload_n (q := 63) dX8_reckon_62 rfl rfl) ?_
  refine E.st (s_iald (q := 64) dX8_reckon_63 rfl (by decide) (ha2) i2) ?_
  refine E.st (p2 := 67) (l2 := [(3, .long (f1 q.toNatClampNeg)), (0, .ref 65), (1, .int z), (2, .int n)]) (s2 := [.int q1, .ref 73]) (h2 := h) (s_invv (K := mX8_cellOf) (o := 65) (as := [.int (f2 n.toNatClampNeg)]) (rest := [.ref 73]) (v := some (.int q1)) dX8_reckon_64 rfl lX8_153 (by omega) rfl (Nat.le_of_ble_eq_true rfl) rfl (Nat.le_of_ble_eq_true rfl) (ho) hq1 (fun h => nomatch h)) ?_
  refine E.st (s_lald (q := 68) dX8_reckon_67 rfl (ha1) i3) ?_
  refine E.st (s_lstore (q := 70) (ls' := [(5, .long (f1 q1.toNatClampNeg)), (3, .long (f1 q.toNatClampNeg)), (0, .ref 65), (1, .int z), (2, .int n)]) dX8_reckon_68 rfl (by decide) rfl) ?_
  refine E.st (s_aload_n (q := 71) dX8_reckon_70 rfl rfl) ?_
  refine E.st (s_gf (q := 74) (v := .ref 70) dX8_reckon_71 rfl fX8_23.l (ho) (by decide) (e6)) ?_
  refine E.st (s_iload_n (q := 75) dX8_reckon_74 rfl rfl) ?_
  refine E.st (s_iald (q := 76) dX8_reckon_75 rfl (by decide) (ha3) i4) ?_
  refine E.st (s_tabIn (q := 112) (off := 36) dX8_reckon_76 (by rw [c1]; decide) (by rw [c1]; decide) (by rw [c1]; rfl) (by decide)) ?_
  refine E.st (s_aload_n (q := 113) dX8_reckon_112 rfl rfl) ?_
  refine E.st (s_iload_n (q := 114) dX8_reckon_113 rfl rfl) ?_
  refine E.st (s_lload_n (q := 115) dX8_reckon_114 rfl rfl) ?_
  refine E.st (s_lload (q := 117) dX8_reckon_115 rfl rfl) ?_
  refine E.st (s_ladd (q := 118) dX8_reckon_117 rfl) ?_
  refine E.st (p2 := 121) (l2 := [(5, .long (f1 q1.toNatClampNeg)), (3, .long (f1 q.toNatClampNeg)), (0, .ref 65), (1, .int z), (2, .int n)]) (s2 := []) (h2 := (hs (hs h 72 (ia n5 (upd f4 z.toNatClampNeg 1))) 73 (la n2 (vp_updL f1 z.toNatClampNeg ((f1 q.toNatClampNeg) + (f1 q1.toNatClampNeg)))))) (s_invv (K := mX8_tell) (o := 65) (as := [.int z, .long ((f1 q.toNatClampNeg) + (f1 q1.toNatClampNeg))]) (rest := []) (v := none) dX8_reckon_118 rfl lX8_142 (by omega) rfl (Nat.le_of_ble_eq_true rfl) rfl (Nat.le_of_ble_eq_true rfl) (ho) (p_X8_tell_1 (d := 0) (Nat.le_refl _) h 65 z ((f1 q.toNatClampNeg) + (f1 q1.toNatClampNeg)) F ho 72 e9 n5 f4 ha4 c2 (by decide) 73 e10 n2 f1 ha1 c3) (fun h => nomatch h)) ?_
  refine E.st (s_goto (q := 212) dX8_reckon_121 (by decide)) ?_
  exact E.v dX8_reckon_212 rfl rfl rfl

set_option maxRecDepth 20000 in
theorem j_X8_reckon_c_2 {d : Nat} (hd : 4 ≤ d) (h : AH) (z : Int32) (n : Int32) (x : Nat) (y : Nat) (F : Nat → Value) (ho : h.1 65 = ob 8 (fo 53 F)) (v26 : Int32) (e26 : F 26 = .int v26) (c : v26 = 0) (e10 : F 10 = .ref 73) (e4 : F 4 = .ref 68) (n1 : Nat) (f : Nat → Int32) (ha : h.1 68 = ia n1 f) (i : vp_in n n1) (q : Int32) (hq : CM mX8_cellOf 3 [.ref 65, .int (f n.toNatClampNeg)] h (some (.int q)) h) (n2 : Nat) (f1 : Nat → Int64) (ha1 : h.1 73 = la n2 f1) (i1 : vp_in q n2) (e5 : F 5 = .ref 69) (n3 : Nat) (f2 : Nat → Int32) (ha2 : h.1 69 = ia n3 f2) (i2 : vp_in n n3) (q1 : Int32) (hq1 : CM mX8_cellOf 3 [.ref 65, .int (f2 n.toNatClampNeg)] h (some (.int q1)) h) (i3 : vp_in q1 n2) (e6 : F 6 = .ref 70) (n4 : Nat) (f3 : Nat → Int32) (ha3 : h.1 70 = ia n4 f3) (i4 : vp_in n n4) (c1 : (f3 n.toNatClampNeg) = 1) (e9 : F 9 = .ref 72) (n5 : Nat) (f4 : Nat → Int32) (ha4 : h.1 72 = ia n5 f4) (c2 : vp_in z n5) (c3 : vp_in z n2) : E false mX8_reckon d 29 [(0, .ref 65), (1, .int z), (2, .int n)] [] h (none) (hs (hs h 72 (ia n5 (upd f4 z.toNatClampNeg 1))) 73 (la n2 (vp_updL f1 z.toNatClampNeg ((f1 q.toNatClampNeg) - (f1 q1.toNatClampNeg))))) := by
  refine E.st (s_aload_n (q := 30) dX8_reckon_29 rfl rfl) ?_
  refine E.st (s_gf (q := 33) (v := .int v26) dX8_reckon_30 rfl fX8_126.l (ho) (by decide) (e26)) ?_
  refine E.st (s_if_eq_t (q := 37) dX8_reckon_33 (by decide) c) ?_
  refine E.st (s_aload_n (q := 38) dX8_reckon_37 rfl rfl) ?_
  refine E.st (s_gf (q := 41) (v := .ref 73) dX8_reckon_38 rfl fX8_32.l (ho) (by decide) (e10)) ?_
  refine E.st (s_aload_n (q := 42) dX8_reckon_41 rfl rfl) ?_
  refine E.st (s_aload_n (q := 43) dX8_reckon_42 rfl rfl) ?_
  refine E.st (s_gf (q := 46) (v := .ref 68) dX8_reckon_43 rfl fX8_17.l (ho) (by decide) (e4)) ?_
  refine E.st (s_iload_n (q := 47) dX8_reckon_46 rfl rfl) ?_
  refine E.st (s_iald (q := 48) dX8_reckon_47 rfl (by decide) (ha) i) ?_
  refine E.st (p2 := 51) (l2 := [(0, .ref 65), (1, .int z), (2, .int n)]) (s2 := [.int q, .ref 73]) (h2 := h) (s_invv (K := mX8_cellOf) (o := 65) (as := [.int (f n.toNatClampNeg)]) (rest := [.ref 73]) (v := some (.int q)) dX8_reckon_48 rfl lX8_153 (by omega) rfl (Nat.le_of_ble_eq_true rfl) rfl (Nat.le_of_ble_eq_true rfl) (ho) hq (fun h => nomatch h)) ?_
  refine E.st (s_lald (q := 52) dX8_reckon_51 rfl (ha1) i1) ?_
  refine E.st (s_lstore_n (q := 53) (ls' := [(3, .long (f1 q.toNatClampNeg)), (0, .ref 65), (1, .int z), (2, .int n)]) dX8_reckon_52 rfl (by decide) rfl) ?_
  refine E.st (s_aload_n (q := 54) dX8_reckon_53 rfl rfl) ?_
  refine E.st (s_gf (q := 57) (v := .ref 73) dX8_reckon_54 rfl fX8_32.l (ho) (by decide) (e10)) ?_
  refine E.st (s_aload_n (q := 58) dX8_reckon_57 rfl rfl) ?_
  refine E.st (s_aload_n (q := 59) dX8_reckon_58 rfl rfl) ?_
  refine E.st (s_gf (q := 62) (v := .ref 69) dX8_reckon_59 rfl fX8_20.l (ho) (by decide) (e5)) ?_
  refine E.st (s_iload_n (q := 63) dX8_reckon_62 rfl rfl) ?_
  refine E.st (s_iald (q := 64) dX8_reckon_63 rfl (by decide) (ha2) i2) ?_
  refine E.st (p2 := 67) (l2 := [(3, .long (f1 q.toNatClampNeg)), (0, .ref 65), (1, .int z), (2, .int n)]) (s2 := [.int q1, .ref 73]) (h2 := h) (s_invv (K := mX8_cellOf) (o := 65) (as := [.int (f2 n.toNatClampNeg)]) (rest := [.ref 73]) (v := some (.int q1)) dX8_reckon_64 rfl lX8_153 (by omega) rfl (Nat.le_of_ble_eq_true rfl) rfl (Nat.le_of_ble_eq_true rfl) (ho) hq1 (fun h => nomatch h)) ?_
  refine E.st (s_lald (q := 68) dX8_reckon_67 rfl (ha1) i3) ?_
  refine E.st (s_lstore (q := 70) (ls' := [(5, .long (f1 q1.toNatClampNeg)), (3, .long (f1 q.toNatClampNeg)), (0, .ref 65), (1, .int z), (2, .int n)]) dX8_reckon_68 rfl (by decide) rfl) ?_
  refine E.st (s_aload_n (q := 71) dX8_reckon_70 rfl rfl) ?_
  refine E.st (s_gf (q := 74) (v := .ref 70) dX8_reckon_71 rfl fX8_23.l (ho) (by decide) (e6)) ?_
  refine E.st (s_iload_n (q := 75) dX8_reckon_74 rfl rfl) ?_
  refine E.st (s_iald (q := 76) dX8_reckon_75 rfl (by decide) (ha3) i4) ?_
  refine E.st (s_tabIn (q := 124) (off := 48) dX8_reckon_76 (by rw [c1]; decide) (by rw [c1]; decide) (by rw [c1]; rfl) (by decide)) ?_
  refine E.st (s_aload_n (q := 125) dX8_reckon_124 rfl rfl) ?_
  refine E.st (s_iload_n (q := 126) dX8_reckon_125 rfl rfl) ?_
  refine E.st (s_lload_n (q := 127) dX8_reckon_126 rfl rfl) ?_
  refine E.st (s_lload (q := 129) dX8_reckon_127 rfl rfl) ?_
  refine E.st (s_lsub (q := 130) dX8_reckon_129 rfl) ?_
  refine E.st (p2 := 133) (l2 := [(5, .long (f1 q1.toNatClampNeg)), (3, .long (f1 q.toNatClampNeg)), (0, .ref 65), (1, .int z), (2, .int n)]) (s2 := []) (h2 := (hs (hs h 72 (ia n5 (upd f4 z.toNatClampNeg 1))) 73 (la n2 (vp_updL f1 z.toNatClampNeg ((f1 q.toNatClampNeg) - (f1 q1.toNatClampNeg)))))) (s_invv (K := mX8_tell) (o := 65) (as := [.int z, .long ((f1 q.toNatClampNeg) - (f1 q1.toNatClampNeg))]) (rest := []) (v := none) dX8_reckon_130 rfl lX8_142 (by omega) rfl (Nat.le_of_ble_eq_true rfl) rfl (Nat.le_of_ble_eq_true rfl) (ho) (p_X8_tell_1 (d := 0) (Nat.le_refl _) h 65 z ((f1 q.toNatClampNeg) - (f1 q1.toNatClampNeg)) F ho 72 e9 n5 f4 ha4 c2 (by decide) 73 e10 n2 f1 ha1 c3) (fun h => nomatch h)) ?_
  refine E.st (s_goto (q := 212) dX8_reckon_133 (by decide)) ?_
  exact E.v dX8_reckon_212 rfl rfl rfl

set_option maxRecDepth 20000 in
theorem j_X8_reckon_c_3 {d : Nat} (hd : 4 ≤ d) (h : AH) (z : Int32) (n : Int32) (x : Nat) (y : Nat) (F : Nat → Value) (ho : h.1 65 = ob 8 (fo 53 F)) (v26 : Int32) (e26 : F 26 = .int v26) (c : v26 = 0) (e10 : F 10 = .ref 73) (e4 : F 4 = .ref 68) (n1 : Nat) (f : Nat → Int32) (ha : h.1 68 = ia n1 f) (i : vp_in n n1) (q : Int32) (hq : CM mX8_cellOf 3 [.ref 65, .int (f n.toNatClampNeg)] h (some (.int q)) h) (n2 : Nat) (f1 : Nat → Int64) (ha1 : h.1 73 = la n2 f1) (i1 : vp_in q n2) (e5 : F 5 = .ref 69) (n3 : Nat) (f2 : Nat → Int32) (ha2 : h.1 69 = ia n3 f2) (i2 : vp_in n n3) (q1 : Int32) (hq1 : CM mX8_cellOf 3 [.ref 65, .int (f2 n.toNatClampNeg)] h (some (.int q1)) h) (i3 : vp_in q1 n2) (e6 : F 6 = .ref 70) (n4 : Nat) (f3 : Nat → Int32) (ha3 : h.1 70 = ia n4 f3) (i4 : vp_in n n4) (c1 : (f3 n.toNatClampNeg) = 2) (e9 : F 9 = .ref 72) (n5 : Nat) (f4 : Nat → Int32) (ha4 : h.1 72 = ia n5 f4) (c2 : vp_in z n5) (c3 : vp_in z n2) : E false mX8_reckon d 29 [(0, .ref 65), (1, .int z), (2, .int n)] [] h (none) (hs (hs h 72 (ia n5 (upd f4 z.toNatClampNeg 1))) 73 (la n2 (vp_updL f1 z.toNatClampNeg ((f1 q.toNatClampNeg) * (f1 q1.toNatClampNeg))))) := by
  refine E.st (s_aload_n (q := 30) dX8_reckon_29 rfl rfl) ?_
  refine E.st (s_gf (q := 33) (v := .int v26) dX8_reckon_30 rfl fX8_126.l (ho) (by decide) (e26)) ?_
  refine E.st (s_if_eq_t (q := 37) dX8_reckon_33 (by decide) c) ?_
  refine E.st (s_aload_n (q := 38) dX8_reckon_37 rfl rfl) ?_
  refine E.st (s_gf (q := 41) (v := .ref 73) dX8_reckon_38 rfl fX8_32.l (ho) (by decide) (e10)) ?_
  refine E.st (s_aload_n (q := 42) dX8_reckon_41 rfl rfl) ?_
  refine E.st (s_aload_n (q := 43) dX8_reckon_42 rfl rfl) ?_
  refine E.st (s_gf (q := 46) (v := .ref 68) dX8_reckon_43 rfl fX8_17.l (ho) (by decide) (e4)) ?_
  refine E.st (s_iload_n (q := 47) dX8_reckon_46 rfl rfl) ?_
  refine E.st (s_iald (q := 48) dX8_reckon_47 rfl (by decide) (ha) i) ?_
  refine E.st (p2 := 51) (l2 := [(0, .ref 65), (1, .int z), (2, .int n)]) (s2 := [.int q, .ref 73]) (h2 := h) (s_invv (K := mX8_cellOf) (o := 65) (as := [.int (f n.toNatClampNeg)]) (rest := [.ref 73]) (v := some (.int q)) dX8_reckon_48 rfl lX8_153 (by omega) rfl (Nat.le_of_ble_eq_true rfl) rfl (Nat.le_of_ble_eq_true rfl) (ho) hq (fun h => nomatch h)) ?_
  refine E.st (s_lald (q := 52) dX8_reckon_51 rfl (ha1) i1) ?_
  refine E.st (s_lstore_n (q := 53) (ls' := [(3, .long (f1 q.toNatClampNeg)), (0, .ref 65), (1, .int z), (2, .int n)]) dX8_reckon_52 rfl (by decide) rfl) ?_
  refine E.st (s_aload_n (q := 54) dX8_reckon_53 rfl rfl) ?_
  refine E.st (s_gf (q := 57) (v := .ref 73) dX8_reckon_54 rfl fX8_32.l (ho) (by decide) (e10)) ?_
  refine E.st (s_aload_n (q := 58) dX8_reckon_57 rfl rfl) ?_
  refine E.st (s_aload_n (q := 59) dX8_reckon_58 rfl rfl) ?_
  refine E.st (s_gf (q := 62) (v := .ref 69) dX8_reckon_59 rfl fX8_20.l (ho) (by decide) (e5)) ?_
  refine E.st (s_iload_n (q := 63) dX8_reckon_62 rfl rfl) ?_
  refine E.st (s_iald (q := 64) dX8_reckon_63 rfl (by decide) (ha2) i2) ?_
  refine E.st (p2 := 67) (l2 := [(3, .long (f1 q.toNatClampNeg)), (0, .ref 65), (1, .int z), (2, .int n)]) (s2 := [.int q1, .ref 73]) (h2 := h) (s_invv (K := mX8_cellOf) (o := 65) (as := [.int (f2 n.toNatClampNeg)]) (rest := [.ref 73]) (v := some (.int q1)) dX8_reckon_64 rfl lX8_153 (by omega) rfl (Nat.le_of_ble_eq_true rfl) rfl (Nat.le_of_ble_eq_true rfl) (ho) hq1 (fun h => nomatch h)) ?_
  refine E.st (s_lald (q := 68) dX8_reckon_67 rfl (ha1) i3) ?_
  refine E.st (s_lstore (q := 70) (ls' := [(5, .long (f1 q1.toNatClampNeg)), (3, .long (f1 q.toNatClampNeg)), (0, .ref 65), (1, .int z), (2, .int n)]) dX8_reckon_68 rfl (by decide) rfl) ?_
  refine E.st (s_aload_n (q := 71) dX8_reckon_70 rfl rfl) ?_
  refine E.st (s_gf (q := 74) (v := .ref 70) dX8_reckon_71 rfl fX8_23.l (ho) (by decide) (e6)) ?_
  refine E.st (s_iload_n (q := 75) dX8_reckon_74 rfl rfl) ?_
  refine E.st (s_iald (q := 76) dX8_reckon_75 rfl (by decide) (ha3) i4) ?_
  refine E.st (s_tabIn (q := 136) (off := 60) dX8_reckon_76 (by rw [c1]; decide) (by rw [c1]; decide) (by rw [c1]; rfl) (by decide)) ?_
  refine E.st (s_aload_n (q := 137) dX8_reckon_136 rfl rfl) ?_
  refine E.st (s_iload_n (q := 138) dX8_reckon_137 rfl rfl) ?_
  refine E.st (s_lload_n (q := 139) dX8_reckon_138 rfl rfl) ?_
  refine E.st (s_lload (q := 141) dX8_reckon_139 rfl rfl) ?_
  refine E.st (s_lmul (q := 142) dX8_reckon_141 rfl) ?_
  refine E.st (p2 := 145) (l2 := [(5, .long (f1 q1.toNatClampNeg)), (3, .long (f1 q.toNatClampNeg)), (0, .ref 65), (1, .int z), (2, .int n)]) (s2 := []) (h2 := (hs (hs h 72 (ia n5 (upd f4 z.toNatClampNeg 1))) 73 (la n2 (vp_updL f1 z.toNatClampNeg ((f1 q.toNatClampNeg) * (f1 q1.toNatClampNeg)))))) (s_invv (K := mX8_tell) (o := 65) (as := [.int z, .long ((f1 q.toNatClampNeg) * (f1 q1.toNatClampNeg))]) (rest := []) (v := none) dX8_reckon_142 rfl lX8_142 (by omega) rfl (Nat.le_of_ble_eq_true rfl) rfl (Nat.le_of_ble_eq_true rfl) (ho) (p_X8_tell_1 (d := 0) (Nat.le_refl _) h 65 z ((f1 q.toNatClampNeg) * (f1 q1.toNatClampNeg)) F ho 72 e9 n5 f4 ha4 c2 (by decide) 73 e10 n2 f1 ha1 c3) (fun h => nomatch h)) ?_
  refine E.st (s_goto (q := 212) dX8_reckon_145 (by decide)) ?_
  exact E.v dX8_reckon_212 rfl rfl rfl

set_option maxRecDepth 20000 in
theorem j_X8_reckon_c_4 {d : Nat} (hd : 4 ≤ d) (h : AH) (z : Int32) (n : Int32) (x : Nat) (y : Nat) (F : Nat → Value) (ho : h.1 65 = ob 8 (fo 53 F)) (v26 : Int32) (e26 : F 26 = .int v26) (c : v26 = 0) (e10 : F 10 = .ref 73) (e4 : F 4 = .ref 68) (n1 : Nat) (f : Nat → Int32) (ha : h.1 68 = ia n1 f) (i : vp_in n n1) (q : Int32) (hq : CM mX8_cellOf 3 [.ref 65, .int (f n.toNatClampNeg)] h (some (.int q)) h) (n2 : Nat) (f1 : Nat → Int64) (ha1 : h.1 73 = la n2 f1) (i1 : vp_in q n2) (e5 : F 5 = .ref 69) (n3 : Nat) (f2 : Nat → Int32) (ha2 : h.1 69 = ia n3 f2) (i2 : vp_in n n3) (q1 : Int32) (hq1 : CM mX8_cellOf 3 [.ref 65, .int (f2 n.toNatClampNeg)] h (some (.int q1)) h) (i3 : vp_in q1 n2) (e6 : F 6 = .ref 70) (n4 : Nat) (f3 : Nat → Int32) (ha3 : h.1 70 = ia n4 f3) (i4 : vp_in n n4) (c1 : (f3 n.toNatClampNeg) = 3) (c2 : ¬ (f1 q1.toNatClampNeg) = 0) (e9 : F 9 = .ref 72) (n5 : Nat) (f4 : Nat → Int32) (ha4 : h.1 72 = ia n5 f4) (c3 : vp_in z n5) (c4 : vp_in z n2) : E false mX8_reckon d 29 [(0, .ref 65), (1, .int z), (2, .int n)] [] h (none) (hs (hs h 72 (ia n5 (upd f4 z.toNatClampNeg 1))) 73 (la n2 (vp_updL f1 z.toNatClampNeg ((f1 q.toNatClampNeg) / (f1 q1.toNatClampNeg))))) := by
  refine E.st (s_aload_n (q := 30) dX8_reckon_29 rfl rfl) ?_
  refine E.st (s_gf (q := 33) (v := .int v26) dX8_reckon_30 rfl fX8_126.l (ho) (by decide) (e26)) ?_
  refine E.st (s_if_eq_t (q := 37) dX8_reckon_33 (by decide) c) ?_
  refine E.st (s_aload_n (q := 38) dX8_reckon_37 rfl rfl) ?_
  refine E.st (s_gf (q := 41) (v := .ref 73) dX8_reckon_38 rfl fX8_32.l (ho) (by decide) (e10)) ?_
  refine E.st (s_aload_n (q := 42) dX8_reckon_41 rfl rfl) ?_
  refine E.st (s_aload_n (q := 43) dX8_reckon_42 rfl rfl) ?_
  refine E.st (s_gf (q := 46) (v := .ref 68) dX8_reckon_43 rfl fX8_17.l (ho) (by decide) (e4)) ?_
  refine E.st (s_iload_n (q := 47) dX8_reckon_46 rfl rfl) ?_
  refine E.st (s_iald (q := 48) dX8_reckon_47 rfl (by decide) (ha) i) ?_
  refine E.st (p2 := 51) (l2 := [(0, .ref 65), (1, .int z), (2, .int n)]) (s2 := [.int q, .ref 73]) (h2 := h) (s_invv (K := mX8_cellOf) (o := 65) (as := [.int (f n.toNatClampNeg)]) (rest := [.ref 73]) (v := some (.int q)) dX8_reckon_48 rfl lX8_153 (by omega) rfl (Nat.le_of_ble_eq_true rfl) rfl (Nat.le_of_ble_eq_true rfl) (ho) hq (fun h => nomatch h)) ?_
  refine E.st (s_lald (q := 52) dX8_reckon_51 rfl (ha1) i1) ?_
  refine E.st (s_lstore_n (q := 53) (ls' := [(3, .long (f1 q.toNatClampNeg)), (0, .ref 65), (1, .int z), (2, .int n)]) dX8_reckon_52 rfl (by decide) rfl) ?_
  refine E.st (s_aload_n (q := 54) dX8_reckon_53 rfl rfl) ?_
  refine E.st (s_gf (q := 57) (v := .ref 73) dX8_reckon_54 rfl fX8_32.l (ho) (by decide) (e10)) ?_
  refine E.st (s_aload_n (q := 58) dX8_reckon_57 rfl rfl) ?_
  refine E.st (s_aload_n (q := 59) dX8_reckon_58 rfl rfl) ?_
  refine E.st (s_gf (q := 62) (v := .ref 69) dX8_reckon_59 rfl fX8_20.l (ho) (by decide) (e5)) ?_
  refine E.st (s_iload_n (q := 63) dX8_reckon_62 rfl rfl) ?_
  refine E.st (s_iald (q := 64) dX8_reckon_63 rfl (by decide) (ha2) i2) ?_
  refine E.st (p2 := 67) (l2 := [(3, .long (f1 q.toNatClampNeg)), (0, .ref 65), (1, .int z), (2, .int n)]) (s2 := [.int q1, .ref 73]) (h2 := h) (s_invv (K := mX8_cellOf) (o := 65) (as := [.int (f2 n.toNatClampNeg)]) (rest := [.ref 73]) (v := some (.int q1)) dX8_reckon_64 rfl lX8_153 (by omega) rfl (Nat.le_of_ble_eq_true rfl) rfl (Nat.le_of_ble_eq_true rfl) (ho) hq1 (fun h => nomatch h)) ?_
  refine E.st (s_lald (q := 68) dX8_reckon_67 rfl (ha1) i3) ?_
  refine E.st (s_lstore (q := 70) (ls' := [(5, .long (f1 q1.toNatClampNeg)), (3, .long (f1 q.toNatClampNeg)), (0, .ref 65), (1, .int z), (2, .int n)]) dX8_reckon_68 rfl (by decide) rfl) ?_
  refine E.st (s_aload_n (q := 71) dX8_reckon_70 rfl rfl) ?_
  refine E.st (s_gf (q := 74) (v := .ref 70) dX8_reckon_71 rfl fX8_23.l (ho) (by decide) (e6)) ?_
  refine E.st (s_iload_n (q := 75) dX8_reckon_74 rfl rfl) ?_
  refine E.st (s_iald (q := 76) dX8_reckon_75 rfl (by decide) (ha3) i4) ?_
  refine E.st (s_tabIn (q := 148) (off := 72) dX8_reckon_76 (by rw [c1]; decide) (by rw [c1]; decide) (by rw [c1]; rfl) (by decide)) ?_
  refine E.st (s_lload (q := 150) dX8_reckon_148 rfl rfl) ?_
  refine E.st (s_lconst (q := 151) (v := 0) dX8_reckon_150 rfl (by decide)) ?_
  refine E.st (s_lcmp (q := 152) dX8_reckon_151 rfl) ?_
  refine E.st (s_if_ne_t (q := 163) dX8_reckon_152 (by decide) (fun z => c2 ((lgc_eq _ _).mp z))) ?_
  refine E.st (s_aload_n (q := 164) dX8_reckon_163 rfl rfl) ?_
  refine E.st (s_iload_n (q := 165) dX8_reckon_164 rfl rfl) ?_
  refine E.st (s_lload_n (q := 166) dX8_reckon_165 rfl rfl) ?_
  refine E.st (s_lload (q := 168) dX8_reckon_166 rfl rfl) ?_
  refine E.st (s_ldiv (q := 169) dX8_reckon_168 rfl c2) ?_
  refine E.st (p2 := 172) (l2 := [(5, .long (f1 q1.toNatClampNeg)), (3, .long (f1 q.toNatClampNeg)), (0, .ref 65), (1, .int z), (2, .int n)]) (s2 := []) (h2 := (hs (hs h 72 (ia n5 (upd f4 z.toNatClampNeg 1))) 73 (la n2 (vp_updL f1 z.toNatClampNeg ((f1 q.toNatClampNeg) / (f1 q1.toNatClampNeg)))))) (s_invv (K := mX8_tell) (o := 65) (as := [.int z, .long ((f1 q.toNatClampNeg) / (f1 q1.toNatClampNeg))]) (rest := []) (v := none) dX8_reckon_169 rfl lX8_142 (by omega) rfl (Nat.le_of_ble_eq_true rfl) rfl (Nat.le_of_ble_eq_true rfl) (ho) (p_X8_tell_1 (d := 0) (Nat.le_refl _) h 65 z ((f1 q.toNatClampNeg) / (f1 q1.toNatClampNeg)) F ho 72 e9 n5 f4 ha4 c3 (by decide) 73 e10 n2 f1 ha1 c4) (fun h => nomatch h)) ?_
  refine E.st (s_goto (q := 212) dX8_reckon_172 (by decide)) ?_
  exact E.v dX8_reckon_212 rfl rfl rfl

set_option maxRecDepth 20000 in
theorem j_X8_reckon_c_5 {d : Nat} (hd : 4 ≤ d) (h : AH) (z : Int32) (n : Int32) (x : Nat) (y : Nat) (F : Nat → Value) (ho : h.1 65 = ob 8 (fo 53 F)) (v26 : Int32) (e26 : F 26 = .int v26) (c : v26 = 0) (e10 : F 10 = .ref 73) (e4 : F 4 = .ref 68) (n1 : Nat) (f : Nat → Int32) (ha : h.1 68 = ia n1 f) (i : vp_in n n1) (q : Int32) (hq : CM mX8_cellOf 3 [.ref 65, .int (f n.toNatClampNeg)] h (some (.int q)) h) (n2 : Nat) (f1 : Nat → Int64) (ha1 : h.1 73 = la n2 f1) (i1 : vp_in q n2) (e5 : F 5 = .ref 69) (n3 : Nat) (f2 : Nat → Int32) (ha2 : h.1 69 = ia n3 f2) (i2 : vp_in n n3) (q1 : Int32) (hq1 : CM mX8_cellOf 3 [.ref 65, .int (f2 n.toNatClampNeg)] h (some (.int q1)) h) (i3 : vp_in q1 n2) (e6 : F 6 = .ref 70) (n4 : Nat) (f3 : Nat → Int32) (ha3 : h.1 70 = ia n4 f3) (i4 : vp_in n n4) (c1 : (f3 n.toNatClampNeg) = 3) (c2 : (f1 q1.toNatClampNeg) = 0) : E false mX8_reckon d 29 [(0, .ref 65), (1, .int z), (2, .int n)] [] h (none) (hs h 65 (ob 8 (fo 53 (va_up F 26 (.int 1))))) := by
  refine E.st (s_aload_n (q := 30) dX8_reckon_29 rfl rfl) ?_
  refine E.st (s_gf (q := 33) (v := .int v26) dX8_reckon_30 rfl fX8_126.l (ho) (by decide) (e26)) ?_
  refine E.st (s_if_eq_t (q := 37) dX8_reckon_33 (by decide) c) ?_
  refine E.st (s_aload_n (q := 38) dX8_reckon_37 rfl rfl) ?_
  refine E.st (s_gf (q := 41) (v := .ref 73) dX8_reckon_38 rfl fX8_32.l (ho) (by decide) (e10)) ?_
  refine E.st (s_aload_n (q := 42) dX8_reckon_41 rfl rfl) ?_
  refine E.st (s_aload_n (q := 43) dX8_reckon_42 rfl rfl) ?_
  refine E.st (s_gf (q := 46) (v := .ref 68) dX8_reckon_43 rfl fX8_17.l (ho) (by decide) (e4)) ?_
  refine E.st (s_iload_n (q := 47) dX8_reckon_46 rfl rfl) ?_
  refine E.st (s_iald (q := 48) dX8_reckon_47 rfl (by decide) (ha) i) ?_
  refine E.st (p2 := 51) (l2 := [(0, .ref 65), (1, .int z), (2, .int n)]) (s2 := [.int q, .ref 73]) (h2 := h) (s_invv (K := mX8_cellOf) (o := 65) (as := [.int (f n.toNatClampNeg)]) (rest := [.ref 73]) (v := some (.int q)) dX8_reckon_48 rfl lX8_153 (by omega) rfl (Nat.le_of_ble_eq_true rfl) rfl (Nat.le_of_ble_eq_true rfl) (ho) hq (fun h => nomatch h)) ?_
  refine E.st (s_lald (q := 52) dX8_reckon_51 rfl (ha1) i1) ?_
  refine E.st (s_lstore_n (q := 53) (ls' := [(3, .long (f1 q.toNatClampNeg)), (0, .ref 65), (1, .int z), (2, .int n)]) dX8_reckon_52 rfl (by decide) rfl) ?_
  refine E.st (s_aload_n (q := 54) dX8_reckon_53 rfl rfl) ?_
  refine E.st (s_gf (q := 57) (v := .ref 73) dX8_reckon_54 rfl fX8_32.l (ho) (by decide) (e10)) ?_
  refine E.st (s_aload_n (q := 58) dX8_reckon_57 rfl rfl) ?_
  refine E.st (s_aload_n (q := 59) dX8_reckon_58 rfl rfl) ?_
  refine E.st (s_gf (q := 62) (v := .ref 69) dX8_reckon_59 rfl fX8_20.l (ho) (by decide) (e5)) ?_
  refine E.st (s_iload_n (q := 63) dX8_reckon_62 rfl rfl) ?_
  refine E.st (s_iald (q := 64) dX8_reckon_63 rfl (by decide) (ha2) i2) ?_
  refine E.st (p2 := 67) (l2 := [(3, .long (f1 q.toNatClampNeg)), (0, .ref 65), (1, .int z), (2, .int n)]) (s2 := [.int q1, .ref 73]) (h2 := h) (s_invv (K := mX8_cellOf) (o := 65) (as := [.int (f2 n.toNatClampNeg)]) (rest := [.ref 73]) (v := some (.int q1)) dX8_reckon_64 rfl lX8_153 (by omega) rfl (Nat.le_of_ble_eq_true rfl) rfl (Nat.le_of_ble_eq_true rfl) (ho) hq1 (fun h => nomatch h)) ?_
  refine E.st (s_lald (q := 68) dX8_reckon_67 rfl (ha1) i3) ?_
  refine E.st (s_lstore (q := 70) (ls' := [(5, .long (f1 q1.toNatClampNeg)), (3, .long (f1 q.toNatClampNeg)), (0, .ref 65), (1, .int z), (2, .int n)]) dX8_reckon_68 rfl (by decide) rfl) ?_
  refine E.st (s_aload_n (q := 71) dX8_reckon_70 rfl rfl) ?_
  refine E.st (s_gf (q := 74) (v := .ref 70) dX8_reckon_71 rfl fX8_23.l (ho) (by decide) (e6)) ?_
  refine E.st (s_iload_n (q := 75) dX8_reckon_74 rfl rfl) ?_
  refine E.st (s_iald (q := 76) dX8_reckon_75 rfl (by decide) (ha3) i4) ?_
  refine E.st (s_tabIn (q := 148) (off := 72) dX8_reckon_76 (by rw [c1]; decide) (by rw [c1]; decide) (by rw [c1]; rfl) (by decide)) ?_
  refine E.st (s_lload (q := 150) dX8_reckon_148 rfl rfl) ?_
  refine E.st (s_lconst (q := 151) (v := 0) dX8_reckon_150 rfl (by decide)) ?_
  refine E.st (s_lcmp (q := 152) dX8_reckon_151 rfl) ?_
  refine E.st (s_if_ne_f (q := 155) (tg := 163) dX8_reckon_152 (by decide) rfl ((lgc_eq _ _).mpr c2)) ?_
  refine E.st (s_aload_n (q := 156) dX8_reckon_155 rfl rfl) ?_
  refine E.st (s_iconst (q := 157) (v := 1) dX8_reckon_156 rfl (by decide)) ?_
  refine E.st (s_pf (q := 160) dX8_reckon_157 rfl fX8_126 (ho) (by decide) (fun _ => ⟨rfl, rfl⟩)) ?_
  refine E.st (s_goto (q := 212) dX8_reckon_160 (by decide)) ?_
  exact E.v dX8_reckon_212 rfl rfl rfl

set_option maxRecDepth 20000 in
theorem j_X8_reckon_c_6 {d : Nat} (hd : 4 ≤ d) (h : AH) (z : Int32) (n : Int32) (x : Nat) (y : Nat) (F : Nat → Value) (ho : h.1 65 = ob 8 (fo 53 F)) (v26 : Int32) (e26 : F 26 = .int v26) (c : v26 = 0) (e10 : F 10 = .ref 73) (e4 : F 4 = .ref 68) (n1 : Nat) (f : Nat → Int32) (ha : h.1 68 = ia n1 f) (i : vp_in n n1) (q : Int32) (hq : CM mX8_cellOf 3 [.ref 65, .int (f n.toNatClampNeg)] h (some (.int q)) h) (n2 : Nat) (f1 : Nat → Int64) (ha1 : h.1 73 = la n2 f1) (i1 : vp_in q n2) (e5 : F 5 = .ref 69) (n3 : Nat) (f2 : Nat → Int32) (ha2 : h.1 69 = ia n3 f2) (i2 : vp_in n n3) (q1 : Int32) (hq1 : CM mX8_cellOf 3 [.ref 65, .int (f2 n.toNatClampNeg)] h (some (.int q1)) h) (i3 : vp_in q1 n2) (e6 : F 6 = .ref 70) (n4 : Nat) (f3 : Nat → Int32) (ha3 : h.1 70 = ia n4 f3) (i4 : vp_in n n4) (c1 : (f3 n.toNatClampNeg) = 4) (c2 : (f1 q1.toNatClampNeg) ≤ (f1 q.toNatClampNeg)) (e9 : F 9 = .ref 72) (n5 : Nat) (f4 : Nat → Int32) (ha4 : h.1 72 = ia n5 f4) (c3 : vp_in z n5) (c4 : vp_in z n2) : E false mX8_reckon d 29 [(0, .ref 65), (1, .int z), (2, .int n)] [] h (none) (hs (hs h 72 (ia n5 (upd f4 z.toNatClampNeg 1))) 73 (la n2 (vp_updL f1 z.toNatClampNeg (0 : Int64)))) := by
  refine E.st (s_aload_n (q := 30) dX8_reckon_29 rfl rfl) ?_
  refine E.st (s_gf (q := 33) (v := .int v26) dX8_reckon_30 rfl fX8_126.l (ho) (by decide) (e26)) ?_
  refine E.st (s_if_eq_t (q := 37) dX8_reckon_33 (by decide) c) ?_
  refine E.st (s_aload_n (q := 38) dX8_reckon_37 rfl rfl) ?_
  refine E.st (s_gf (q := 41) (v := .ref 73) dX8_reckon_38 rfl fX8_32.l (ho) (by decide) (e10)) ?_
  refine E.st (s_aload_n (q := 42) dX8_reckon_41 rfl rfl) ?_
  refine E.st (s_aload_n (q := 43) dX8_reckon_42 rfl rfl) ?_
  refine E.st (s_gf (q := 46) (v := .ref 68) dX8_reckon_43 rfl fX8_17.l (ho) (by decide) (e4)) ?_
  refine E.st (s_iload_n (q := 47) dX8_reckon_46 rfl rfl) ?_
  refine E.st (s_iald (q := 48) dX8_reckon_47 rfl (by decide) (ha) i) ?_
  refine E.st (p2 := 51) (l2 := [(0, .ref 65), (1, .int z), (2, .int n)]) (s2 := [.int q, .ref 73]) (h2 := h) (s_invv (K := mX8_cellOf) (o := 65) (as := [.int (f n.toNatClampNeg)]) (rest := [.ref 73]) (v := some (.int q)) dX8_reckon_48 rfl lX8_153 (by omega) rfl (Nat.le_of_ble_eq_true rfl) rfl (Nat.le_of_ble_eq_true rfl) (ho) hq (fun h => nomatch h)) ?_
  refine E.st (s_lald (q := 52) dX8_reckon_51 rfl (ha1) i1) ?_
  refine E.st (s_lstore_n (q := 53) (ls' := [(3, .long (f1 q.toNatClampNeg)), (0, .ref 65), (1, .int z), (2, .int n)]) dX8_reckon_52 rfl (by decide) rfl) ?_
  refine E.st (s_aload_n (q := 54) dX8_reckon_53 rfl rfl) ?_
  refine E.st (s_gf (q := 57) (v := .ref 73) dX8_reckon_54 rfl fX8_32.l (ho) (by decide) (e10)) ?_
  refine E.st (s_aload_n (q := 58) dX8_reckon_57 rfl rfl) ?_
  refine E.st (s_aload_n (q := 59) dX8_reckon_58 rfl rfl) ?_
  refine E.st (s_gf (q := 62) (v := .ref 69) dX8_reckon_59 rfl fX8_20.l (ho) (by decide) (e5)) ?_
  refine E.st (s_iload_n (q := 63) dX8_reckon_62 rfl rfl) ?_
  refine E.st (s_iald (q := 64) dX8_reckon_63 rfl (by decide) (ha2) i2) ?_
  refine E.st (p2 := 67) (l2 := [(3, .long (f1 q.toNatClampNeg)), (0, .ref 65), (1, .int z), (2, .int n)]) (s2 := [.int q1, .ref 73]) (h2 := h) (s_invv (K := mX8_cellOf) (o := 65) (as := [.int (f2 n.toNatClampNeg)]) (rest := [.ref 73]) (v := some (.int q1)) dX8_reckon_64 rfl lX8_153 (by omega) rfl (Nat.le_of_ble_eq_true rfl) rfl (Nat.le_of_ble_eq_true rfl) (ho) hq1 (fun h => nomatch h)) ?_
  refine E.st (s_lald (q := 68) dX8_reckon_67 rfl (ha1) i3) ?_
  refine E.st (s_lstore (q := 70) (ls' := [(5, .long (f1 q1.toNatClampNeg)), (3, .long (f1 q.toNatClampNeg)), (0, .ref 65), (1, .int z), (2, .int n)]) dX8_reckon_68 rfl (by decide) rfl) ?_
  refine E.st (s_aload_n (q := 71) dX8_reckon_70 rfl rfl) ?_
  refine E.st (s_gf (q := 74) (v := .ref 70) dX8_reckon_71 rfl fX8_23.l (ho) (by decide) (e6)) ?_
  refine E.st (s_iload_n (q := 75) dX8_reckon_74 rfl rfl) ?_
  refine E.st (s_iald (q := 76) dX8_reckon_75 rfl (by decide) (ha3) i4) ?_
  refine E.st (s_tabIn (q := 175) (off := 99) dX8_reckon_76 (by rw [c1]; decide) (by rw [c1]; decide) (by rw [c1]; rfl) (by decide)) ?_
  refine E.st (s_aload_n (q := 176) dX8_reckon_175 rfl rfl) ?_
  refine E.st (s_iload_n (q := 177) dX8_reckon_176 rfl rfl) ?_
  refine E.st (s_lload_n (q := 178) dX8_reckon_177 rfl rfl) ?_
  refine E.st (s_lload (q := 180) dX8_reckon_178 rfl rfl) ?_
  refine E.st (s_lcmp (q := 181) dX8_reckon_180 rfl) ?_
  refine E.st (s_if_ge_t (q := 188) dX8_reckon_181 (by decide) ((lgc_ge _ _).mpr c2)) ?_
  refine E.st (s_lconst (q := 189) (v := 0) dX8_reckon_188 rfl (by decide)) ?_
  refine E.st (p2 := 192) (l2 := [(5, .long (f1 q1.toNatClampNeg)), (3, .long (f1 q.toNatClampNeg)), (0, .ref 65), (1, .int z), (2, .int n)]) (s2 := []) (h2 := (hs (hs h 72 (ia n5 (upd f4 z.toNatClampNeg 1))) 73 (la n2 (vp_updL f1 z.toNatClampNeg (0 : Int64))))) (s_invv (K := mX8_tell) (o := 65) (as := [.int z, .long 0]) (rest := []) (v := none) dX8_reckon_189 rfl lX8_142 (by omega) rfl (Nat.le_of_ble_eq_true rfl) rfl (Nat.le_of_ble_eq_true rfl) (ho) (p_X8_tell_1 (d := 0) (Nat.le_refl _) h 65 z (0 : Int64) F ho 72 e9 n5 f4 ha4 c3 (by decide) 73 e10 n2 f1 ha1 c4) (fun h => nomatch h)) ?_
  refine E.st (s_goto (q := 212) dX8_reckon_192 (by decide)) ?_
  exact E.v dX8_reckon_212 rfl rfl rfl

set_option maxRecDepth 20000 in
theorem j_X8_reckon_c_7 {d : Nat} (hd : 4 ≤ d) (h : AH) (z : Int32) (n : Int32) (x : Nat) (y : Nat) (F : Nat → Value) (ho : h.1 65 = ob 8 (fo 53 F)) (v26 : Int32) (e26 : F 26 = .int v26) (c : v26 = 0) (e10 : F 10 = .ref 73) (e4 : F 4 = .ref 68) (n1 : Nat) (f : Nat → Int32) (ha : h.1 68 = ia n1 f) (i : vp_in n n1) (q : Int32) (hq : CM mX8_cellOf 3 [.ref 65, .int (f n.toNatClampNeg)] h (some (.int q)) h) (n2 : Nat) (f1 : Nat → Int64) (ha1 : h.1 73 = la n2 f1) (i1 : vp_in q n2) (e5 : F 5 = .ref 69) (n3 : Nat) (f2 : Nat → Int32) (ha2 : h.1 69 = ia n3 f2) (i2 : vp_in n n3) (q1 : Int32) (hq1 : CM mX8_cellOf 3 [.ref 65, .int (f2 n.toNatClampNeg)] h (some (.int q1)) h) (i3 : vp_in q1 n2) (e6 : F 6 = .ref 70) (n4 : Nat) (f3 : Nat → Int32) (ha3 : h.1 70 = ia n4 f3) (i4 : vp_in n n4) (c1 : (f3 n.toNatClampNeg) = 4) (c2 : ¬ ((f1 q1.toNatClampNeg) ≤ (f1 q.toNatClampNeg))) (e9 : F 9 = .ref 72) (n5 : Nat) (f4 : Nat → Int32) (ha4 : h.1 72 = ia n5 f4) (c3 : vp_in z n5) (c4 : vp_in z n2) : E false mX8_reckon d 29 [(0, .ref 65), (1, .int z), (2, .int n)] [] h (none) (hs (hs h 72 (ia n5 (upd f4 z.toNatClampNeg 1))) 73 (la n2 (vp_updL f1 z.toNatClampNeg (1 : Int64)))) := by
  refine E.st (s_aload_n (q := 30) dX8_reckon_29 rfl rfl) ?_
  refine E.st (s_gf (q := 33) (v := .int v26) dX8_reckon_30 rfl fX8_126.l (ho) (by decide) (e26)) ?_
  refine E.st (s_if_eq_t (q := 37) dX8_reckon_33 (by decide) c) ?_
  refine E.st (s_aload_n (q := 38) dX8_reckon_37 rfl rfl) ?_
  refine E.st (s_gf (q := 41) (v := .ref 73) dX8_reckon_38 rfl fX8_32.l (ho) (by decide) (e10)) ?_
  refine E.st (s_aload_n (q := 42) dX8_reckon_41 rfl rfl) ?_
  refine E.st (s_aload_n (q := 43) dX8_reckon_42 rfl rfl) ?_
  refine E.st (s_gf (q := 46) (v := .ref 68) dX8_reckon_43 rfl fX8_17.l (ho) (by decide) (e4)) ?_
  refine E.st (s_iload_n (q := 47) dX8_reckon_46 rfl rfl) ?_
  refine E.st (s_iald (q := 48) dX8_reckon_47 rfl (by decide) (ha) i) ?_
  refine E.st (p2 := 51) (l2 := [(0, .ref 65), (1, .int z), (2, .int n)]) (s2 := [.int q, .ref 73]) (h2 := h) (s_invv (K := mX8_cellOf) (o := 65) (as := [.int (f n.toNatClampNeg)]) (rest := [.ref 73]) (v := some (.int q)) dX8_reckon_48 rfl lX8_153 (by omega) rfl (Nat.le_of_ble_eq_true rfl) rfl (Nat.le_of_ble_eq_true rfl) (ho) hq (fun h => nomatch h)) ?_
  refine E.st (s_lald (q := 52) dX8_reckon_51 rfl (ha1) i1) ?_
  refine E.st (s_lstore_n (q := 53) (ls' := [(3, .long (f1 q.toNatClampNeg)), (0, .ref 65), (1, .int z), (2, .int n)]) dX8_reckon_52 rfl (by decide) rfl) ?_
  refine E.st (s_aload_n (q := 54) dX8_reckon_53 rfl rfl) ?_
  refine E.st (s_gf (q := 57) (v := .ref 73) dX8_reckon_54 rfl fX8_32.l (ho) (by decide) (e10)) ?_
  refine E.st (s_aload_n (q := 58) dX8_reckon_57 rfl rfl) ?_
  refine E.st (s_aload_n (q := 59) dX8_reckon_58 rfl rfl) ?_
  refine E.st (s_gf (q := 62) (v := .ref 69) dX8_reckon_59 rfl fX8_20.l (ho) (by decide) (e5)) ?_
  refine E.st (s_iload_n (q := 63) dX8_reckon_62 rfl rfl) ?_
  refine E.st (s_iald (q := 64) dX8_reckon_63 rfl (by decide) (ha2) i2) ?_
  refine E.st (p2 := 67) (l2 := [(3, .long (f1 q.toNatClampNeg)), (0, .ref 65), (1, .int z), (2, .int n)]) (s2 := [.int q1, .ref 73]) (h2 := h) (s_invv (K := mX8_cellOf) (o := 65) (as := [.int (f2 n.toNatClampNeg)]) (rest := [.ref 73]) (v := some (.int q1)) dX8_reckon_64 rfl lX8_153 (by omega) rfl (Nat.le_of_ble_eq_true rfl) rfl (Nat.le_of_ble_eq_true rfl) (ho) hq1 (fun h => nomatch h)) ?_
  refine E.st (s_lald (q := 68) dX8_reckon_67 rfl (ha1) i3) ?_
  refine E.st (s_lstore (q := 70) (ls' := [(5, .long (f1 q1.toNatClampNeg)), (3, .long (f1 q.toNatClampNeg)), (0, .ref 65), (1, .int z), (2, .int n)]) dX8_reckon_68 rfl (by decide) rfl) ?_
  refine E.st (s_aload_n (q := 71) dX8_reckon_70 rfl rfl) ?_
  refine E.st (s_gf (q := 74) (v := .ref 70) dX8_reckon_71 rfl fX8_23.l (ho) (by decide) (e6)) ?_
  refine E.st (s_iload_n (q := 75) dX8_reckon_74 rfl rfl) ?_
  refine E.st (s_iald (q := 76) dX8_reckon_75 rfl (by decide) (ha3) i4) ?_
  refine E.st (s_tabIn (q := 175) (off := 99) dX8_reckon_76 (by rw [c1]; decide) (by rw [c1]; decide) (by rw [c1]; rfl) (by decide)) ?_
  refine E.st (s_aload_n (q := 176) dX8_reckon_175 rfl rfl) ?_
  refine E.st (s_iload_n (q := 177) dX8_reckon_176 rfl rfl) ?_
  refine E.st (s_lload_n (q := 178) dX8_reckon_177 rfl rfl) ?_
  refine E.st (s_lload (q := 180) dX8_reckon_178 rfl rfl) ?_
  refine E.st (s_lcmp (q := 181) dX8_reckon_180 rfl) ?_
  refine E.st (s_if_ge_f (q := 184) (tg := 188) dX8_reckon_181 (by decide) rfl (fun z => c2 ((lgc_ge _ _).mp z))) ?_
  refine E.st (s_lconst (q := 185) (v := 1) dX8_reckon_184 rfl (by decide)) ?_
  refine E.st (s_goto (q := 189) dX8_reckon_185 (by decide)) ?_
  refine E.st (p2 := 192) (l2 := [(5, .long (f1 q1.toNatClampNeg)), (3, .long (f1 q.toNatClampNeg)), (0, .ref 65), (1, .int z), (2, .int n)]) (s2 := []) (h2 := (hs (hs h 72 (ia n5 (upd f4 z.toNatClampNeg 1))) 73 (la n2 (vp_updL f1 z.toNatClampNeg (1 : Int64))))) (s_invv (K := mX8_tell) (o := 65) (as := [.int z, .long 1]) (rest := []) (v := none) dX8_reckon_189 rfl lX8_142 (by omega) rfl (Nat.le_of_ble_eq_true rfl) rfl (Nat.le_of_ble_eq_true rfl) (ho) (p_X8_tell_1 (d := 0) (Nat.le_refl _) h 65 z (1 : Int64) F ho 72 e9 n5 f4 ha4 c3 (by decide) 73 e10 n2 f1 ha1 c4) (fun h => nomatch h)) ?_
  refine E.st (s_goto (q := 212) dX8_reckon_192 (by decide)) ?_
  exact E.v dX8_reckon_212 rfl rfl rfl

set_option maxRecDepth 20000 in
theorem j_X8_reckon_c_8 {d : Nat} (hd : 4 ≤ d) (h : AH) (z : Int32) (n : Int32) (x : Nat) (y : Nat) (F : Nat → Value) (ho : h.1 65 = ob 8 (fo 53 F)) (v26 : Int32) (e26 : F 26 = .int v26) (c : v26 = 0) (e10 : F 10 = .ref 73) (e4 : F 4 = .ref 68) (n1 : Nat) (f : Nat → Int32) (ha : h.1 68 = ia n1 f) (i : vp_in n n1) (q : Int32) (hq : CM mX8_cellOf 3 [.ref 65, .int (f n.toNatClampNeg)] h (some (.int q)) h) (n2 : Nat) (f1 : Nat → Int64) (ha1 : h.1 73 = la n2 f1) (i1 : vp_in q n2) (e5 : F 5 = .ref 69) (n3 : Nat) (f2 : Nat → Int32) (ha2 : h.1 69 = ia n3 f2) (i2 : vp_in n n3) (q1 : Int32) (hq1 : CM mX8_cellOf 3 [.ref 65, .int (f2 n.toNatClampNeg)] h (some (.int q1)) h) (i3 : vp_in q1 n2) (e6 : F 6 = .ref 70) (n4 : Nat) (f3 : Nat → Int32) (ha3 : h.1 70 = ia n4 f3) (i4 : vp_in n n4) (c1 : (f3 n.toNatClampNeg).toInt < 0 ∨ 4 < (f3 n.toNatClampNeg).toInt) (c2 : ¬ (f1 q.toNatClampNeg) = (f1 q1.toNatClampNeg)) (e9 : F 9 = .ref 72) (n5 : Nat) (f4 : Nat → Int32) (ha4 : h.1 72 = ia n5 f4) (c3 : vp_in z n5) (c4 : vp_in z n2) : E false mX8_reckon d 29 [(0, .ref 65), (1, .int z), (2, .int n)] [] h (none) (hs (hs h 72 (ia n5 (upd f4 z.toNatClampNeg 1))) 73 (la n2 (vp_updL f1 z.toNatClampNeg (0 : Int64)))) := by
  refine E.st (s_aload_n (q := 30) dX8_reckon_29 rfl rfl) ?_
  refine E.st (s_gf (q := 33) (v := .int v26) dX8_reckon_30 rfl fX8_126.l (ho) (by decide) (e26)) ?_
  refine E.st (s_if_eq_t (q := 37) dX8_reckon_33 (by decide) c) ?_
  refine E.st (s_aload_n (q := 38) dX8_reckon_37 rfl rfl) ?_
  refine E.st (s_gf (q := 41) (v := .ref 73) dX8_reckon_38 rfl fX8_32.l (ho) (by decide) (e10)) ?_
  refine E.st (s_aload_n (q := 42) dX8_reckon_41 rfl rfl) ?_
  refine E.st (s_aload_n (q := 43) dX8_reckon_42 rfl rfl) ?_
  refine E.st (s_gf (q := 46) (v := .ref 68) dX8_reckon_43 rfl fX8_17.l (ho) (by decide) (e4)) ?_
  refine E.st (s_iload_n (q := 47) dX8_reckon_46 rfl rfl) ?_
  refine E.st (s_iald (q := 48) dX8_reckon_47 rfl (by decide) (ha) i) ?_
  refine E.st (p2 := 51) (l2 := [(0, .ref 65), (1, .int z), (2, .int n)]) (s2 := [.int q, .ref 73]) (h2 := h) (s_invv (K := mX8_cellOf) (o := 65) (as := [.int (f n.toNatClampNeg)]) (rest := [.ref 73]) (v := some (.int q)) dX8_reckon_48 rfl lX8_153 (by omega) rfl (Nat.le_of_ble_eq_true rfl) rfl (Nat.le_of_ble_eq_true rfl) (ho) hq (fun h => nomatch h)) ?_
  refine E.st (s_lald (q := 52) dX8_reckon_51 rfl (ha1) i1) ?_
  refine E.st (s_lstore_n (q := 53) (ls' := [(3, .long (f1 q.toNatClampNeg)), (0, .ref 65), (1, .int z), (2, .int n)]) dX8_reckon_52 rfl (by decide) rfl) ?_
  refine E.st (s_aload_n (q := 54) dX8_reckon_53 rfl rfl) ?_
  refine E.st (s_gf (q := 57) (v := .ref 73) dX8_reckon_54 rfl fX8_32.l (ho) (by decide) (e10)) ?_
  refine E.st (s_aload_n (q := 58) dX8_reckon_57 rfl rfl) ?_
  refine E.st (s_aload_n (q := 59) dX8_reckon_58 rfl rfl) ?_
  refine E.st (s_gf (q := 62) (v := .ref 69) dX8_reckon_59 rfl fX8_20.l (ho) (by decide) (e5)) ?_
  refine E.st (s_iload_n (q := 63) dX8_reckon_62 rfl rfl) ?_
  refine E.st (s_iald (q := 64) dX8_reckon_63 rfl (by decide) (ha2) i2) ?_
  refine E.st (p2 := 67) (l2 := [(3, .long (f1 q.toNatClampNeg)), (0, .ref 65), (1, .int z), (2, .int n)]) (s2 := [.int q1, .ref 73]) (h2 := h) (s_invv (K := mX8_cellOf) (o := 65) (as := [.int (f2 n.toNatClampNeg)]) (rest := [.ref 73]) (v := some (.int q1)) dX8_reckon_64 rfl lX8_153 (by omega) rfl (Nat.le_of_ble_eq_true rfl) rfl (Nat.le_of_ble_eq_true rfl) (ho) hq1 (fun h => nomatch h)) ?_
  refine E.st (s_lald (q := 68) dX8_reckon_67 rfl (ha1) i3) ?_
  refine E.st (s_lstore (q := 70) (ls' := [(5, .long (f1 q1.toNatClampNeg)), (3, .long (f1 q.toNatClampNeg)), (0, .ref 65), (1, .int z), (2, .int n)]) dX8_reckon_68 rfl (by decide) rfl) ?_
  refine E.st (s_aload_n (q := 71) dX8_reckon_70 rfl rfl) ?_
  refine E.st (s_gf (q := 74) (v := .ref 70) dX8_reckon_71 rfl fX8_23.l (ho) (by decide) (e6)) ?_
  refine E.st (s_iload_n (q := 75) dX8_reckon_74 rfl rfl) ?_
  refine E.st (s_iald (q := 76) dX8_reckon_75 rfl (by decide) (ha3) i4) ?_
  refine E.st (s_tabOut (q := 195) dX8_reckon_76 c1 (by decide)) ?_
  refine E.st (s_aload_n (q := 196) dX8_reckon_195 rfl rfl) ?_
  refine E.st (s_iload_n (q := 197) dX8_reckon_196 rfl rfl) ?_
  refine E.st (s_lload_n (q := 198) dX8_reckon_197 rfl rfl) ?_
  refine E.st (s_lload (q := 200) dX8_reckon_198 rfl rfl) ?_
  refine E.st (s_lcmp (q := 201) dX8_reckon_200 rfl) ?_
  refine E.st (s_if_ne_t (q := 208) dX8_reckon_201 (by decide) (fun z => c2 ((lgc_eq _ _).mp z))) ?_
  refine E.st (s_lconst (q := 209) (v := 0) dX8_reckon_208 rfl (by decide)) ?_
  refine E.st (p2 := 212) (l2 := [(5, .long (f1 q1.toNatClampNeg)), (3, .long (f1 q.toNatClampNeg)), (0, .ref 65), (1, .int z), (2, .int n)]) (s2 := []) (h2 := (hs (hs h 72 (ia n5 (upd f4 z.toNatClampNeg 1))) 73 (la n2 (vp_updL f1 z.toNatClampNeg (0 : Int64))))) (s_invv (K := mX8_tell) (o := 65) (as := [.int z, .long 0]) (rest := []) (v := none) dX8_reckon_209 rfl lX8_142 (by omega) rfl (Nat.le_of_ble_eq_true rfl) rfl (Nat.le_of_ble_eq_true rfl) (ho) (p_X8_tell_1 (d := 0) (Nat.le_refl _) h 65 z (0 : Int64) F ho 72 e9 n5 f4 ha4 c3 (by decide) 73 e10 n2 f1 ha1 c4) (fun h => nomatch h)) ?_
  exact E.v dX8_reckon_212 rfl rfl rfl

set_option maxRecDepth 20000 in
theorem j_X8_reckon_c_9 {d : Nat} (hd : 4 ≤ d) (h : AH) (z : Int32) (n : Int32) (x : Nat) (y : Nat) (F : Nat → Value) (ho : h.1 65 = ob 8 (fo 53 F)) (v26 : Int32) (e26 : F 26 = .int v26) (c : v26 = 0) (e10 : F 10 = .ref 73) (e4 : F 4 = .ref 68) (n1 : Nat) (f : Nat → Int32) (ha : h.1 68 = ia n1 f) (i : vp_in n n1) (q : Int32) (hq : CM mX8_cellOf 3 [.ref 65, .int (f n.toNatClampNeg)] h (some (.int q)) h) (n2 : Nat) (f1 : Nat → Int64) (ha1 : h.1 73 = la n2 f1) (i1 : vp_in q n2) (e5 : F 5 = .ref 69) (n3 : Nat) (f2 : Nat → Int32) (ha2 : h.1 69 = ia n3 f2) (i2 : vp_in n n3) (q1 : Int32) (hq1 : CM mX8_cellOf 3 [.ref 65, .int (f2 n.toNatClampNeg)] h (some (.int q1)) h) (i3 : vp_in q1 n2) (e6 : F 6 = .ref 70) (n4 : Nat) (f3 : Nat → Int32) (ha3 : h.1 70 = ia n4 f3) (i4 : vp_in n n4) (c1 : (f3 n.toNatClampNeg).toInt < 0 ∨ 4 < (f3 n.toNatClampNeg).toInt) (c2 : (f1 q.toNatClampNeg) = (f1 q1.toNatClampNeg)) (e9 : F 9 = .ref 72) (n5 : Nat) (f4 : Nat → Int32) (ha4 : h.1 72 = ia n5 f4) (c3 : vp_in z n5) (c4 : vp_in z n2) : E false mX8_reckon d 29 [(0, .ref 65), (1, .int z), (2, .int n)] [] h (none) (hs (hs h 72 (ia n5 (upd f4 z.toNatClampNeg 1))) 73 (la n2 (vp_updL f1 z.toNatClampNeg (1 : Int64)))) := by
  refine E.st (s_aload_n (q := 30) dX8_reckon_29 rfl rfl) ?_
  refine E.st (s_gf (q := 33) (v := .int v26) dX8_reckon_30 rfl fX8_126.l (ho) (by decide) (e26)) ?_
  refine E.st (s_if_eq_t (q := 37) dX8_reckon_33 (by decide) c) ?_
  refine E.st (s_aload_n (q := 38) dX8_reckon_37 rfl rfl) ?_
  refine E.st (s_gf (q := 41) (v := .ref 73) dX8_reckon_38 rfl fX8_32.l (ho) (by decide) (e10)) ?_
  refine E.st (s_aload_n (q := 42) dX8_reckon_41 rfl rfl) ?_
  refine E.st (s_aload_n (q := 43) dX8_reckon_42 rfl rfl) ?_
  refine E.st (s_gf (q := 46) (v := .ref 68) dX8_reckon_43 rfl fX8_17.l (ho) (by decide) (e4)) ?_
  refine E.st (s_iload_n (q := 47) dX8_reckon_46 rfl rfl) ?_
  refine E.st (s_iald (q := 48) dX8_reckon_47 rfl (by decide) (ha) i) ?_
  refine E.st (p2 := 51) (l2 := [(0, .ref 65), (1, .int z), (2, .int n)]) (s2 := [.int q, .ref 73]) (h2 := h) (s_invv (K := mX8_cellOf) (o := 65) (as := [.int (f n.toNatClampNeg)]) (rest := [.ref 73]) (v := some (.int q)) dX8_reckon_48 rfl lX8_153 (by omega) rfl (Nat.le_of_ble_eq_true rfl) rfl (Nat.le_of_ble_eq_true rfl) (ho) hq (fun h => nomatch h)) ?_
  refine E.st (s_lald (q := 52) dX8_reckon_51 rfl (ha1) i1) ?_
  refine E.st (s_lstore_n (q := 53) (ls' := [(3, .long (f1 q.toNatClampNeg)), (0, .ref 65), (1, .int z), (2, .int n)]) dX8_reckon_52 rfl (by decide) rfl) ?_
  refine E.st (s_aload_n (q := 54) dX8_reckon_53 rfl rfl) ?_
  refine E.st (s_gf (q := 57) (v := .ref 73) dX8_reckon_54 rfl fX8_32.l (ho) (by decide) (e10)) ?_
  refine E.st (s_aload_n (q := 58) dX8_reckon_57 rfl rfl) ?_
  refine E.st (s_aload_n (q := 59) dX8_reckon_58 rfl rfl) ?_
  refine E.st (s_gf (q := 62) (v := .ref 69) dX8_reckon_59 rfl fX8_20.l (ho) (by decide) (e5)) ?_
  refine E.st (s_iload_n (q := 63) dX8_reckon_62 rfl rfl) ?_
  refine E.st (s_iald (q := 64) dX8_reckon_63 rfl (by decide) (ha2) i2) ?_
  refine E.st (p2 := 67) (l2 := [(3, .long (f1 q.toNatClampNeg)), (0, .ref 65), (1, .int z), (2, .int n)]) (s2 := [.int q1, .ref 73]) (h2 := h) (s_invv (K := mX8_cellOf) (o := 65) (as := [.int (f2 n.toNatClampNeg)]) (rest := [.ref 73]) (v := some (.int q1)) dX8_reckon_64 rfl lX8_153 (by omega) rfl (Nat.le_of_ble_eq_true rfl) rfl (Nat.le_of_ble_eq_true rfl) (ho) hq1 (fun h => nomatch h)) ?_
  refine E.st (s_lald (q := 68) dX8_reckon_67 rfl (ha1) i3) ?_
  refine E.st (s_lstore (q := 70) (ls' := [(5, .long (f1 q1.toNatClampNeg)), (3, .long (f1 q.toNatClampNeg)), (0, .ref 65), (1, .int z), (2, .int n)]) dX8_reckon_68 rfl (by decide) rfl) ?_
  refine E.st (s_aload_n (q := 71) dX8_reckon_70 rfl rfl) ?_
  refine E.st (s_gf (q := 74) (v := .ref 70) dX8_reckon_71 rfl fX8_23.l (ho) (by decide) (e6)) ?_
  refine E.st (s_iload_n (q := 75) dX8_reckon_74 rfl rfl) ?_
  refine E.st (s_iald (q := 76) dX8_reckon_75 rfl (by decide) (ha3) i4) ?_
  refine E.st (s_tabOut (q := 195) dX8_reckon_76 c1 (by decide)) ?_
  refine E.st (s_aload_n (q := 196) dX8_reckon_195 rfl rfl) ?_
  refine E.st (s_iload_n (q := 197) dX8_reckon_196 rfl rfl) ?_
  refine E.st (s_lload_n (q := 198) dX8_reckon_197 rfl rfl) ?_
  refine E.st (s_lload (q := 200) dX8_reckon_198 rfl rfl) ?_
  refine E.st (s_lcmp (q := 201) dX8_reckon_200 rfl) ?_
  refine E.st (s_if_ne_f (q := 204) (tg := 208) dX8_reckon_201 (by decide) rfl ((lgc_eq _ _).mpr c2)) ?_
  refine E.st (s_lconst (q := 205) (v := 1) dX8_reckon_204 rfl (by decide)) ?_
  refine E.st (s_goto (q := 209) dX8_reckon_205 (by decide)) ?_
  refine E.st (p2 := 212) (l2 := [(5, .long (f1 q1.toNatClampNeg)), (3, .long (f1 q.toNatClampNeg)), (0, .ref 65), (1, .int z), (2, .int n)]) (s2 := []) (h2 := (hs (hs h 72 (ia n5 (upd f4 z.toNatClampNeg 1))) 73 (la n2 (vp_updL f1 z.toNatClampNeg (1 : Int64))))) (s_invv (K := mX8_tell) (o := 65) (as := [.int z, .long 1]) (rest := []) (v := none) dX8_reckon_209 rfl lX8_142 (by omega) rfl (Nat.le_of_ble_eq_true rfl) rfl (Nat.le_of_ble_eq_true rfl) (ho) (p_X8_tell_1 (d := 0) (Nat.le_refl _) h 65 z (1 : Int64) F ho 72 e9 n5 f4 ha4 c3 (by decide) 73 e10 n2 f1 ha1 c4) (fun h => nomatch h)) ?_
  exact E.v dX8_reckon_212 rfl rfl rfl

set_option maxRecDepth 20000 in
theorem j_X8_reckon_c_10 {d : Nat} (hd : 0 ≤ d) (h : AH) (z : Int32) (n : Int32) (x : Nat) (y : Nat) (F : Nat → Value) (ho : h.1 65 = ob 8 (fo 53 F)) (v26 : Int32) (e26 : F 26 = .int v26) (c : ¬ (v26 = 0)) : E false mX8_reckon d 29 [(0, .ref 65), (1, .int z), (2, .int n)] [] h (none) h := by
  refine E.st (s_aload_n (q := 30) dX8_reckon_29 rfl rfl) ?_
  refine E.st (s_gf (q := 33) (v := .int v26) dX8_reckon_30 rfl fX8_126.l (ho) (by decide) (e26)) ?_
  refine E.st (s_if_eq_f (q := 36) (tg := 37) dX8_reckon_33 (by decide) rfl c) ?_
  exact E.v dX8_reckon_36 rfl rfl rfl

set_option maxRecDepth 20000 in
theorem j_X8_foldUp_a_1 {d : Nat} (hd : 0 ≤ d) (h : AH) (z : Int32) (n : Int32) (x : Nat) (y : Nat) (F : Nat → Value) (ho : h.1 65 = ob 8 (fo 53 F)) (e4 : F 4 = .ref 68) (n1 : Nat) (f : Nat → Int32) (ha : h.1 68 = ia n1 f) (i : vp_in n n1) : J false mX8_foldUp d 0 [(0, .ref 65), (1, .int z), (2, .int n)] [] h 8 [(0, .ref 65), (1, .int z), (2, .int n)] [.int 3, .int (f n.toNatClampNeg), .ref 65] h := by
  refine J.tr (s_aload_n (q := 1) dX8_foldUp_0 rfl rfl) ?_
  refine J.tr (s_aload_n (q := 2) dX8_foldUp_1 rfl rfl) ?_
  refine J.tr (s_gf (q := 5) (v := .ref 68) dX8_foldUp_2 rfl fX8_17.l (ho) (by decide) (e4)) ?_
  refine J.tr (s_iload_n (q := 6) dX8_foldUp_5 rfl rfl) ?_
  refine J.tr (s_iald (q := 7) dX8_foldUp_6 rfl (by decide) (ha) i) ?_
  refine J.tr (s_iconst (q := 8) (v := 3) dX8_foldUp_7 rfl (by decide)) ?_
  exact J.rf

set_option maxRecDepth 20000 in
theorem j_X8_foldUp_b_1 {d : Nat} (hd : 4 ≤ d) (h : AH) (z : Int32) (n : Int32) (x : Nat) (y : Nat) (F : Nat → Value) (ho : h.1 65 = ob 8 (fo 53 F)) (v26 : Int32) (e26 : F 26 = .int v26) (c : v26 = 0) (e10 : F 10 = .ref 73) (e4 : F 4 = .ref 68) (n1 : Nat) (f : Nat → Int32) (ha : h.1 68 = ia n1 f) (i : vp_in n n1) (q : Int32) (hq : CM mX8_cellOf 3 [.ref 65, .int (f n.toNatClampNeg)] h (some (.int q)) h) (n2 : Nat) (f1 : Nat → Int64) (ha1 : h.1 73 = la n2 f1) (i1 : vp_in q n2) (f0 : Int32) (en : ((f1 q.toNatClampNeg).toInt32) = f0) (e14 : F 14 = .ref y) (n3 : Nat) (f2 : Nat → Int64) (ha2 : h.1 y = la n3 f2) (i2 : vp_in f0 n3) (e5 : F 5 = .ref 69) (n4 : Nat) (f3 : Nat → Int32) (ha3 : h.1 69 = ia n4 f3) (i3 : vp_in n n4) (c1 : ¬ (f3 n.toNatClampNeg) = 0) (c2 : (f3 n.toNatClampNeg) = 1) : J false mX8_foldUp d 11 [(0, .ref 65), (1, .int z), (2, .int n)] [] h 91 [(0, .ref 65), (1, .int z), (2, .int n), (3, .int f0), (4, .long (f2 f0.toNatClampNeg)), (6, .int 1), (7, .long 0), (9, .int 1)] [] h := by
  refine J.tr (s_aload_n (q := 12) dX8_foldUp_11 rfl rfl) ?_
  refine J.tr (s_gf (q := 15) (v := .int v26) dX8_foldUp_12 rfl fX8_126.l (ho) (by decide) (e26)) ?_
  refine J.tr (s_if_eq_t (q := 19) dX8_foldUp_15 (by decide) c) ?_
  refine J.tr (s_aload_n (q := 20) dX8_foldUp_19 rfl rfl) ?_
  refine J.tr (s_gf (q := 23) (v := .ref 73) dX8_foldUp_20 rfl fX8_32.l (ho) (by decide) (e10)) ?_
  refine J.tr (s_aload_n (q := 24) dX8_foldUp_23 rfl rfl) ?_
  refine J.tr (s_aload_n (q := 25) dX8_foldUp_24 rfl rfl) ?_
  refine J.tr (s_gf (q := 28) (v := .ref 68) dX8_foldUp_25 rfl fX8_17.l (ho) (by decide) (e4)) ?_
  refine J.tr (s_iload_n (q := 29) dX8_foldUp_28 rfl rfl) ?_
  refine J.tr (s_iald (q := 30) dX8_foldUp_29 rfl (by decide) (ha) i) ?_
  refine J.tr (p2 := 33) (l2 := [(0, .ref 65), (1, .int z), (2, .int n)]) (s2 := [.int q, .ref 73]) (h2 := h) (s_invv (K := mX8_cellOf) (o := 65) (as := [.int (f n.toNatClampNeg)]) (rest := [.ref 73]) (v := some (.int q)) dX8_foldUp_30 rfl lX8_153 (by omega) rfl (Nat.le_of_ble_eq_true rfl) rfl (Nat.le_of_ble_eq_true rfl) (ho) hq (fun h => nomatch h)) ?_
  refine J.tr (s_lald (q := 34) dX8_foldUp_33 rfl (ha1) i1) ?_
  refine J.tr (s_l2i (q := 35) dX8_foldUp_34 rfl) ?_
  refine J.tr (s_nmi en) ?_
  refine J.tr (s_istore_n (q := 36) (ls' := [(3, .int f0), (0, .ref 65), (1, .int z), (2, .int n)]) dX8_foldUp_35 rfl (by decide) rfl) ?_
  refine J.tr (s_aload_n (q := 37) dX8_foldUp_36 rfl rfl) ?_
  refine J.tr (s_gf (q := 40) (v := .ref y) dX8_foldUp_37 rfl fX8_44.l (ho) (by decide) (e14)) ?_
  refine J.tr (s_iload_n (q := 41) dX8_foldUp_40 rfl rfl) ?_
  refine J.tr (s_lald (q := 42) dX8_foldUp_41 rfl (ha2) i2) ?_
  refine J.tr (s_lstore (q := 44) (ls' := [(4, .long (f2 f0.toNatClampNeg)), (3, .int f0), (0, .ref 65), (1, .int z), (2, .int n)]) dX8_foldUp_42 rfl (by decide) rfl) ?_
  refine J.tr (s_aload_n (q := 45) dX8_foldUp_44 rfl rfl) ?_
  refine J.tr (s_gf (q := 48) (v := .ref 69) dX8_foldUp_45 rfl fX8_20.l (ho) (by decide) (e5)) ?_
  refine J.tr (s_iload_n (q := 49) dX8_foldUp_48 rfl rfl) ?_
  refine J.tr (s_iald (q := 50) dX8_foldUp_49 rfl (by decide) (ha3) i3) ?_
  refine J.tr (s_if_ne_t (q := 61) dX8_foldUp_50 (by decide) c1) ?_
  refine J.tr (s_aload_n (q := 62) dX8_foldUp_61 rfl rfl) ?_
  refine J.tr (s_gf (q := 65) (v := .ref 69) dX8_foldUp_62 rfl fX8_20.l (ho) (by decide) (e5)) ?_
  refine J.tr (s_iload_n (q := 66) dX8_foldUp_65 rfl rfl) ?_
  refine J.tr (s_iald (q := 67) dX8_foldUp_66 rfl (by decide) (ha3) i3) ?_
  refine J.tr (s_iconst (q := 68) (v := 1) dX8_foldUp_67 rfl (by decide)) ?_
  refine J.tr (s_icmp_eq_t (q := 78) dX8_foldUp_68 (by decide) c2) ?_
  refine J.tr (s_iconst (q := 79) (v := 1) dX8_foldUp_78 rfl (by decide)) ?_
  refine J.tr (s_goto (q := 83) dX8_foldUp_79 (by decide)) ?_
  refine J.tr (s_istore (q := 85) (ls' := [(6, .int 1), (4, .long (f2 f0.toNatClampNeg)), (3, .int f0), (0, .ref 65), (1, .int z), (2, .int n)]) dX8_foldUp_83 rfl (by decide) rfl) ?_
  refine J.tr (s_lconst (q := 86) (v := 0) dX8_foldUp_85 rfl (by decide)) ?_
  refine J.tr (s_lstore (q := 88) (ls' := [(7, .long 0), (6, .int 1), (4, .long (f2 f0.toNatClampNeg)), (3, .int f0), (0, .ref 65), (1, .int z), (2, .int n)]) dX8_foldUp_86 rfl (by decide) rfl) ?_
  refine J.tr (s_iconst (q := 89) (v := 1) dX8_foldUp_88 rfl (by decide)) ?_
  refine J.tr (s_istore (q := 91) (ls' := [(9, .int 1), (7, .long 0), (6, .int 1), (4, .long (f2 f0.toNatClampNeg)), (3, .int f0), (0, .ref 65), (1, .int z), (2, .int n)]) dX8_foldUp_89 rfl (by decide) rfl) ?_
  refine J.tr (s_ls (ls' := [(0, .ref 65), (1, .int z), (2, .int n), (3, .int f0), (4, .long (f2 f0.toNatClampNeg)), (6, .int 1), (7, .long 0), (9, .int 1)]) [5, 6, 7, 4, 3, 2, 1, 0] rfl) ?_
  exact J.rf

set_option maxRecDepth 20000 in
theorem j_X8_foldUp_b_2 {d : Nat} (hd : 4 ≤ d) (h : AH) (z : Int32) (n : Int32) (x : Nat) (y : Nat) (F : Nat → Value) (ho : h.1 65 = ob 8 (fo 53 F)) (v26 : Int32) (e26 : F 26 = .int v26) (c : v26 = 0) (e10 : F 10 = .ref 73) (e4 : F 4 = .ref 68) (n1 : Nat) (f : Nat → Int32) (ha : h.1 68 = ia n1 f) (i : vp_in n n1) (q : Int32) (hq : CM mX8_cellOf 3 [.ref 65, .int (f n.toNatClampNeg)] h (some (.int q)) h) (n2 : Nat) (f1 : Nat → Int64) (ha1 : h.1 73 = la n2 f1) (i1 : vp_in q n2) (f0 : Int32) (en : ((f1 q.toNatClampNeg).toInt32) = f0) (e14 : F 14 = .ref y) (n3 : Nat) (f2 : Nat → Int64) (ha2 : h.1 y = la n3 f2) (i2 : vp_in f0 n3) (e5 : F 5 = .ref 69) (n4 : Nat) (f3 : Nat → Int32) (ha3 : h.1 69 = ia n4 f3) (i3 : vp_in n n4) (c1 : ¬ (f3 n.toNatClampNeg) = 0) (c2 : ¬ ((f3 n.toNatClampNeg) = 1)) (c3 : (f2 f0.toNatClampNeg) ≤ 0) : J false mX8_foldUp d 11 [(0, .ref 65), (1, .int z), (2, .int n)] [] h 91 [(0, .ref 65), (1, .int z), (2, .int n), (3, .int f0), (4, .long (f2 f0.toNatClampNeg)), (6, .int 0), (7, .long 0), (9, .int 1)] [] h := by
  refine J.tr (s_aload_n (q := 12) dX8_foldUp_11 rfl rfl) ?_
  refine J.tr (s_gf (q := 15) (v := .int v26) dX8_foldUp_12 rfl fX8_126.l (ho) (by decide) (e26)) ?_
  refine J.tr (s_if_eq_t (q := 19) dX8_foldUp_15 (by decide) c) ?_
  refine J.tr (s_aload_n (q := 20) dX8_foldUp_19 rfl rfl) ?_
  refine J.tr (s_gf (q := 23) (v := .ref 73) dX8_foldUp_20 rfl fX8_32.l (ho) (by decide) (e10)) ?_
  refine J.tr (s_aload_n (q := 24) dX8_foldUp_23 rfl rfl) ?_
  refine J.tr (s_aload_n (q := 25) dX8_foldUp_24 rfl rfl) ?_
  refine J.tr (s_gf (q := 28) (v := .ref 68) dX8_foldUp_25 rfl fX8_17.l (ho) (by decide) (e4)) ?_
  refine J.tr (s_iload_n (q := 29) dX8_foldUp_28 rfl rfl) ?_
  refine J.tr (s_iald (q := 30) dX8_foldUp_29 rfl (by decide) (ha) i) ?_
  refine J.tr (p2 := 33) (l2 := [(0, .ref 65), (1, .int z), (2, .int n)]) (s2 := [.int q, .ref 73]) (h2 := h) (s_invv (K := mX8_cellOf) (o := 65) (as := [.int (f n.toNatClampNeg)]) (rest := [.ref 73]) (v := some (.int q)) dX8_foldUp_30 rfl lX8_153 (by omega) rfl (Nat.le_of_ble_eq_true rfl) rfl (Nat.le_of_ble_eq_true rfl) (ho) hq (fun h => nomatch h)) ?_
  refine J.tr (s_lald (q := 34) dX8_foldUp_33 rfl (ha1) i1) ?_
  refine J.tr (s_l2i (q := 35) dX8_foldUp_34 rfl) ?_
  refine J.tr (s_nmi en) ?_
  refine J.tr (s_istore_n (q := 36) (ls' := [(3, .int f0), (0, .ref 65), (1, .int z), (2, .int n)]) dX8_foldUp_35 rfl (by decide) rfl) ?_
  refine J.tr (s_aload_n (q := 37) dX8_foldUp_36 rfl rfl) ?_
  refine J.tr (s_gf (q := 40) (v := .ref y) dX8_foldUp_37 rfl fX8_44.l (ho) (by decide) (e14)) ?_
  refine J.tr (s_iload_n (q := 41) dX8_foldUp_40 rfl rfl) ?_
  refine J.tr (s_lald (q := 42) dX8_foldUp_41 rfl (ha2) i2) ?_
  refine J.tr (s_lstore (q := 44) (ls' := [(4, .long (f2 f0.toNatClampNeg)), (3, .int f0), (0, .ref 65), (1, .int z), (2, .int n)]) dX8_foldUp_42 rfl (by decide) rfl) ?_
  refine J.tr (s_aload_n (q := 45) dX8_foldUp_44 rfl rfl) ?_
  refine J.tr (s_gf (q := 48) (v := .ref 69) dX8_foldUp_45 rfl fX8_20.l (ho) (by decide) (e5)) ?_
  refine J.tr (s_iload_n (q := 49) dX8_foldUp_48 rfl rfl) ?_
  refine J.tr (s_iald (q := 50) dX8_foldUp_49 rfl (by decide) (ha3) i3) ?_
  refine J.tr (s_if_ne_t (q := 61) dX8_foldUp_50 (by decide) c1) ?_
  refine J.tr (s_aload_n (q := 62) dX8_foldUp_61 rfl rfl) ?_
  refine J.tr (s_gf (q := 65) (v := .ref 69) dX8_foldUp_62 rfl fX8_20.l (ho) (by decide) (e5)) ?_
  refine J.tr (s_iload_n (q := 66) dX8_foldUp_65 rfl rfl) ?_
  refine J.tr (s_iald (q := 67) dX8_foldUp_66 rfl (by decide) (ha3) i3) ?_
  refine J.tr (s_iconst (q := 68) (v := 1) dX8_foldUp_67 rfl (by decide)) ?_
  refine J.tr (s_icmp_eq_f (q := 71) (tg := 78) dX8_foldUp_68 (by decide) rfl c2) ?_
  refine J.tr (s_lload (q := 73) dX8_foldUp_71 rfl rfl) ?_
  refine J.tr (s_lconst (q := 74) (v := 0) dX8_foldUp_73 rfl (by decide)) ?_
  refine J.tr (s_lcmp (q := 75) dX8_foldUp_74 rfl) ?_
  refine J.tr (s_if_le_t (q := 82) dX8_foldUp_75 (by decide) ((lgc_le _ _).mpr c3)) ?_
  refine J.tr (s_iconst (q := 83) (v := 0) dX8_foldUp_82 rfl (by decide)) ?_
  refine J.tr (s_istore (q := 85) (ls' := [(6, .int 0), (4, .long (f2 f0.toNatClampNeg)), (3, .int f0), (0, .ref 65), (1, .int z), (2, .int n)]) dX8_foldUp_83 rfl (by decide) rfl) ?_
  refine J.tr (s_lconst (q := 86) (v := 0) dX8_foldUp_85 rfl (by decide)) ?_
  refine J.tr (s_lstore (q := 88) (ls' := [(7, .long 0), (6, .int 0), (4, .long (f2 f0.toNatClampNeg)), (3, .int f0), (0, .ref 65), (1, .int z), (2, .int n)]) dX8_foldUp_86 rfl (by decide) rfl) ?_
  refine J.tr (s_iconst (q := 89) (v := 1) dX8_foldUp_88 rfl (by decide)) ?_
  refine J.tr (s_istore (q := 91) (ls' := [(9, .int 1), (7, .long 0), (6, .int 0), (4, .long (f2 f0.toNatClampNeg)), (3, .int f0), (0, .ref 65), (1, .int z), (2, .int n)]) dX8_foldUp_89 rfl (by decide) rfl) ?_
  refine J.tr (s_ls (ls' := [(0, .ref 65), (1, .int z), (2, .int n), (3, .int f0), (4, .long (f2 f0.toNatClampNeg)), (6, .int 0), (7, .long 0), (9, .int 1)]) [5, 6, 7, 4, 3, 2, 1, 0] rfl) ?_
  exact J.rf

set_option maxRecDepth 20000 in
theorem j_X8_foldUp_b_3 {d : Nat} (hd : 4 ≤ d) (h : AH) (z : Int32) (n : Int32) (x : Nat) (y : Nat) (F : Nat → Value) (ho : h.1 65 = ob 8 (fo 53 F)) (v26 : Int32) (e26 : F 26 = .int v26) (c : v26 = 0) (e10 : F 10 = .ref 73) (e4 : F 4 = .ref 68) (n1 : Nat) (f : Nat → Int32) (ha : h.1 68 = ia n1 f) (i : vp_in n n1) (q : Int32) (hq : CM mX8_cellOf 3 [.ref 65, .int (f n.toNatClampNeg)] h (some (.int q)) h) (n2 : Nat) (f1 : Nat → Int64) (ha1 : h.1 73 = la n2 f1) (i1 : vp_in q n2) (f0 : Int32) (en : ((f1 q.toNatClampNeg).toInt32) = f0) (e14 : F 14 = .ref y) (n3 : Nat) (f2 : Nat → Int64) (ha2 : h.1 y = la n3 f2) (i2 : vp_in f0 n3) (e5 : F 5 = .ref 69) (n4 : Nat) (f3 : Nat → Int32) (ha3 : h.1 69 = ia n4 f3) (i3 : vp_in n n4) (c1 : ¬ (f3 n.toNatClampNeg) = 0) (c2 : ¬ ((f3 n.toNatClampNeg) = 1)) (c3 : ¬ ((f2 f0.toNatClampNeg) ≤ 0)) : J false mX8_foldUp d 11 [(0, .ref 65), (1, .int z), (2, .int n)] [] h 91 [(0, .ref 65), (1, .int z), (2, .int n), (3, .int f0), (4, .long (f2 f0.toNatClampNeg)), (6, .int 1), (7, .long 0), (9, .int 1)] [] h := by
  refine J.tr (s_aload_n (q := 12) dX8_foldUp_11 rfl rfl) ?_
  refine J.tr (s_gf (q := 15) (v := .int v26) dX8_foldUp_12 rfl fX8_126.l (ho) (by decide) (e26)) ?_
  refine J.tr (s_if_eq_t (q := 19) dX8_foldUp_15 (by decide) c) ?_
  refine J.tr (s_aload_n (q := 20) dX8_foldUp_19 rfl rfl) ?_
  refine J.tr (s_gf (q := 23) (v := .ref 73) dX8_foldUp_20 rfl fX8_32.l (ho) (by decide) (e10)) ?_
  refine J.tr (s_aload_n (q := 24) dX8_foldUp_23 rfl rfl) ?_
  refine J.tr (s_aload_n (q := 25) dX8_foldUp_24 rfl rfl) ?_
  refine J.tr (s_gf (q := 28) (v := .ref 68) dX8_foldUp_25 rfl fX8_17.l (ho) (by decide) (e4)) ?_
  refine J.tr (s_iload_n (q := 29) dX8_foldUp_28 rfl rfl) ?_
  refine J.tr (s_iald (q := 30) dX8_foldUp_29 rfl (by decide) (ha) i) ?_
  refine J.tr (p2 := 33) (l2 := [(0, .ref 65), (1, .int z), (2, .int n)]) (s2 := [.int q, .ref 73]) (h2 := h) (s_invv (K := mX8_cellOf) (o := 65) (as := [.int (f n.toNatClampNeg)]) (rest := [.ref 73]) (v := some (.int q)) dX8_foldUp_30 rfl lX8_153 (by omega) rfl (Nat.le_of_ble_eq_true rfl) rfl (Nat.le_of_ble_eq_true rfl) (ho) hq (fun h => nomatch h)) ?_
  refine J.tr (s_lald (q := 34) dX8_foldUp_33 rfl (ha1) i1) ?_
  refine J.tr (s_l2i (q := 35) dX8_foldUp_34 rfl) ?_
  refine J.tr (s_nmi en) ?_
  refine J.tr (s_istore_n (q := 36) (ls' := [(3, .int f0), (0, .ref 65), (1, .int z), (2, .int n)]) dX8_foldUp_35 rfl (by decide) rfl) ?_
  refine J.tr (s_aload_n (q := 37) dX8_foldUp_36 rfl rfl) ?_
  refine J.tr (s_gf (q := 40) (v := .ref y) dX8_foldUp_37 rfl fX8_44.l (ho) (by decide) (e14)) ?_
  refine J.tr (s_iload_n (q := 41) dX8_foldUp_40 rfl rfl) ?_
  refine J.tr (s_lald (q := 42) dX8_foldUp_41 rfl (ha2) i2) ?_
  refine J.tr (s_lstore (q := 44) (ls' := [(4, .long (f2 f0.toNatClampNeg)), (3, .int f0), (0, .ref 65), (1, .int z), (2, .int n)]) dX8_foldUp_42 rfl (by decide) rfl) ?_
  refine J.tr (s_aload_n (q := 45) dX8_foldUp_44 rfl rfl) ?_
  refine J.tr (s_gf (q := 48) (v := .ref 69) dX8_foldUp_45 rfl fX8_20.l (ho) (by decide) (e5)) ?_
  refine J.tr (s_iload_n (q := 49) dX8_foldUp_48 rfl rfl) ?_
  refine J.tr (s_iald (q := 50) dX8_foldUp_49 rfl (by decide) (ha3) i3) ?_
  refine J.tr (s_if_ne_t (q := 61) dX8_foldUp_50 (by decide) c1) ?_
  refine J.tr (s_aload_n (q := 62) dX8_foldUp_61 rfl rfl) ?_
  refine J.tr (s_gf (q := 65) (v := .ref 69) dX8_foldUp_62 rfl fX8_20.l (ho) (by decide) (e5)) ?_
  refine J.tr (s_iload_n (q := 66) dX8_foldUp_65 rfl rfl) ?_
  refine J.tr (s_iald (q := 67) dX8_foldUp_66 rfl (by decide) (ha3) i3) ?_
  refine J.tr (s_iconst (q := 68) (v := 1) dX8_foldUp_67 rfl (by decide)) ?_
  refine J.tr (s_icmp_eq_f (q := 71) (tg := 78) dX8_foldUp_68 (by decide) rfl c2) ?_
  refine J.tr (s_lload (q := 73) dX8_foldUp_71 rfl rfl) ?_
  refine J.tr (s_lconst (q := 74) (v := 0) dX8_foldUp_73 rfl (by decide)) ?_
  refine J.tr (s_lcmp (q := 75) dX8_foldUp_74 rfl) ?_
  refine J.tr (s_if_le_f (q := 78) (tg := 82) dX8_foldUp_75 (by decide) rfl (fun z => c3 ((lgc_le _ _).mp z))) ?_
  refine J.tr (s_iconst (q := 79) (v := 1) dX8_foldUp_78 rfl (by decide)) ?_
  refine J.tr (s_goto (q := 83) dX8_foldUp_79 (by decide)) ?_
  refine J.tr (s_istore (q := 85) (ls' := [(6, .int 1), (4, .long (f2 f0.toNatClampNeg)), (3, .int f0), (0, .ref 65), (1, .int z), (2, .int n)]) dX8_foldUp_83 rfl (by decide) rfl) ?_
  refine J.tr (s_lconst (q := 86) (v := 0) dX8_foldUp_85 rfl (by decide)) ?_
  refine J.tr (s_lstore (q := 88) (ls' := [(7, .long 0), (6, .int 1), (4, .long (f2 f0.toNatClampNeg)), (3, .int f0), (0, .ref 65), (1, .int z), (2, .int n)]) dX8_foldUp_86 rfl (by decide) rfl) ?_
  refine J.tr (s_iconst (q := 89) (v := 1) dX8_foldUp_88 rfl (by decide)) ?_
  refine J.tr (s_istore (q := 91) (ls' := [(9, .int 1), (7, .long 0), (6, .int 1), (4, .long (f2 f0.toNatClampNeg)), (3, .int f0), (0, .ref 65), (1, .int z), (2, .int n)]) dX8_foldUp_89 rfl (by decide) rfl) ?_
  refine J.tr (s_ls (ls' := [(0, .ref 65), (1, .int z), (2, .int n), (3, .int f0), (4, .long (f2 f0.toNatClampNeg)), (6, .int 1), (7, .long 0), (9, .int 1)]) [5, 6, 7, 4, 3, 2, 1, 0] rfl) ?_
  exact J.rf

set_option maxRecDepth 20000 in
theorem j_X8_foldUp_b_4 {d : Nat} (hd : 4 ≤ d) (h : AH) (z : Int32) (n : Int32) (x : Nat) (y : Nat) (F : Nat → Value) (ho : h.1 65 = ob 8 (fo 53 F)) (v26 : Int32) (e26 : F 26 = .int v26) (c : v26 = 0) (e10 : F 10 = .ref 73) (e4 : F 4 = .ref 68) (n1 : Nat) (f : Nat → Int32) (ha : h.1 68 = ia n1 f) (i : vp_in n n1) (q : Int32) (hq : CM mX8_cellOf 3 [.ref 65, .int (f n.toNatClampNeg)] h (some (.int q)) h) (n2 : Nat) (f1 : Nat → Int64) (ha1 : h.1 73 = la n2 f1) (i1 : vp_in q n2) (f0 : Int32) (en : ((f1 q.toNatClampNeg).toInt32) = f0) (e14 : F 14 = .ref y) (n3 : Nat) (f2 : Nat → Int64) (ha2 : h.1 y = la n3 f2) (i2 : vp_in f0 n3) (e5 : F 5 = .ref 69) (n4 : Nat) (f3 : Nat → Int32) (ha3 : h.1 69 = ia n4 f3) (i3 : vp_in n n4) (c1 : (f3 n.toNatClampNeg) = 0) (e9 : F 9 = .ref 72) (n5 : Nat) (f4 : Nat → Int32) (ha4 : h.1 72 = ia n5 f4) (c2 : vp_in z n5) (c3 : vp_in z n2) : E false mX8_foldUp d 11 [(0, .ref 65), (1, .int z), (2, .int n)] [] h (none) (hs (hs h 72 (ia n5 (upd f4 z.toNatClampNeg 1))) 73 (la n2 (vp_updL f1 z.toNatClampNeg (f2 f0.toNatClampNeg)))) := by
  refine E.st (s_aload_n (q := 12) dX8_foldUp_11 rfl rfl) ?_
  refine E.st (s_gf (q := 15) (v := .int v26) dX8_foldUp_12 rfl fX8_126.l (ho) (by decide) (e26)) ?_
  refine E.st (s_if_eq_t (q := 19) dX8_foldUp_15 (by decide) c) ?_
  refine E.st (s_aload_n (q := 20) dX8_foldUp_19 rfl rfl) ?_
  refine E.st (s_gf (q := 23) (v := .ref 73) dX8_foldUp_20 rfl fX8_32.l (ho) (by decide) (e10)) ?_
  refine E.st (s_aload_n (q := 24) dX8_foldUp_23 rfl rfl) ?_
  refine E.st (s_aload_n (q := 25) dX8_foldUp_24 rfl rfl) ?_
  refine E.st (s_gf (q := 28) (v := .ref 68) dX8_foldUp_25 rfl fX8_17.l (ho) (by decide) (e4)) ?_
  refine E.st (s_iload_n (q := 29) dX8_foldUp_28 rfl rfl) ?_
  refine E.st (s_iald (q := 30) dX8_foldUp_29 rfl (by decide) (ha) i) ?_
  refine E.st (p2 := 33) (l2 := [(0, .ref 65), (1, .int z), (2, .int n)]) (s2 := [.int q, .ref 73]) (h2 := h) (s_invv (K := mX8_cellOf) (o := 65) (as := [.int (f n.toNatClampNeg)]) (rest := [.ref 73]) (v := some (.int q)) dX8_foldUp_30 rfl lX8_153 (by omega) rfl (Nat.le_of_ble_eq_true rfl) rfl (Nat.le_of_ble_eq_true rfl) (ho) hq (fun h => nomatch h)) ?_
  refine E.st (s_lald (q := 34) dX8_foldUp_33 rfl (ha1) i1) ?_
  refine E.st (s_l2i (q := 35) dX8_foldUp_34 rfl) ?_
  refine E.st (s_nmi en) ?_
  refine E.st (s_istore_n (q := 36) (ls' := [(3, .int f0), (0, .ref 65), (1, .int z), (2, .int n)]) dX8_foldUp_35 rfl (by decide) rfl) ?_
  refine E.st (s_aload_n (q := 37) dX8_foldUp_36 rfl rfl) ?_
  refine E.st (s_gf (q := 40) (v := .ref y) dX8_foldUp_37 rfl fX8_44.l (ho) (by decide) (e14)) ?_
  refine E.st (s_iload_n (q := 41) dX8_foldUp_40 rfl rfl) ?_
  refine E.st (s_lald (q := 42) dX8_foldUp_41 rfl (ha2) i2) ?_
  refine E.st (s_lstore (q := 44) (ls' := [(4, .long (f2 f0.toNatClampNeg)), (3, .int f0), (0, .ref 65), (1, .int z), (2, .int n)]) dX8_foldUp_42 rfl (by decide) rfl) ?_
  refine E.st (s_aload_n (q := 45) dX8_foldUp_44 rfl rfl) ?_
  refine E.st (s_gf (q := 48) (v := .ref 69) dX8_foldUp_45 rfl fX8_20.l (ho) (by decide) (e5)) ?_
  refine E.st (s_iload_n (q := 49) dX8_foldUp_48 rfl rfl) ?_
  refine E.st (s_iald (q := 50) dX8_foldUp_49 rfl (by decide) (ha3) i3) ?_
  refine E.st (s_if_ne_f (q := 53) (tg := 61) dX8_foldUp_50 (by decide) rfl c1) ?_
  refine E.st (s_aload_n (q := 54) dX8_foldUp_53 rfl rfl) ?_
  refine E.st (s_iload_n (q := 55) dX8_foldUp_54 rfl rfl) ?_
  refine E.st (s_lload (q := 57) dX8_foldUp_55 rfl rfl) ?_
  refine E.st (p2 := 60) (l2 := [(4, .long (f2 f0.toNatClampNeg)), (3, .int f0), (0, .ref 65), (1, .int z), (2, .int n)]) (s2 := []) (h2 := (hs (hs h 72 (ia n5 (upd f4 z.toNatClampNeg 1))) 73 (la n2 (vp_updL f1 z.toNatClampNeg (f2 f0.toNatClampNeg))))) (s_invv (K := mX8_tell) (o := 65) (as := [.int z, .long (f2 f0.toNatClampNeg)]) (rest := []) (v := none) dX8_foldUp_57 rfl lX8_142 (by omega) rfl (Nat.le_of_ble_eq_true rfl) rfl (Nat.le_of_ble_eq_true rfl) (ho) (p_X8_tell_1 (d := 0) (Nat.le_refl _) h 65 z (f2 f0.toNatClampNeg) F ho 72 e9 n5 f4 ha4 c2 (by decide) 73 e10 n2 f1 ha1 c3) (fun h => nomatch h)) ?_
  exact E.v dX8_foldUp_60 rfl rfl rfl

set_option maxRecDepth 20000 in
theorem j_X8_foldUp_b_5 {d : Nat} (hd : 0 ≤ d) (h : AH) (z : Int32) (n : Int32) (x : Nat) (y : Nat) (F : Nat → Value) (ho : h.1 65 = ob 8 (fo 53 F)) (v26 : Int32) (e26 : F 26 = .int v26) (c : ¬ (v26 = 0)) : E false mX8_foldUp d 11 [(0, .ref 65), (1, .int z), (2, .int n)] [] h (none) h := by
  refine E.st (s_aload_n (q := 12) dX8_foldUp_11 rfl rfl) ?_
  refine E.st (s_gf (q := 15) (v := .int v26) dX8_foldUp_12 rfl fX8_126.l (ho) (by decide) (e26)) ?_
  refine E.st (s_if_eq_f (q := 18) (tg := 19) dX8_foldUp_15 (by decide) rfl c) ?_
  exact E.v dX8_foldUp_18 rfl rfl rfl

set_option maxRecDepth 20000 in
theorem j_X8_foldUp_c_1 {d : Nat} (hd : 0 ≤ d) (h : AH) (z : Int32) (n : Int32) (f : Int32) (m : Int64) (g : Int32) (v : Int64) (k : Int32) (x : Nat) (y : Nat) (c : m < (k.toInt64)) (c1 : g = 0) (F : Nat → Value) (ho : h.1 65 = ob 8 (fo 53 F)) : E false mX8_foldUp d 91 [(0, .ref 65), (1, .int z), (2, .int n), (3, .int f), (4, .long m), (6, .int g), (7, .long v), (9, .int k)] [] h (none) (hs h 65 (ob 8 (fo 53 (va_up F 26 (.int 1))))) := by
  refine E.st (s_iload (q := 93) dX8_foldUp_91 rfl rfl) ?_
  refine E.st (s_i2l (q := 94) dX8_foldUp_93 rfl) ?_
  refine E.st (s_lload (q := 96) dX8_foldUp_94 rfl rfl) ?_
  refine E.st (s_lcmp (q := 97) dX8_foldUp_96 rfl) ?_
  refine E.st (s_if_gt_t (q := 192) dX8_foldUp_97 (by decide) ((lgc_gt _ _).mpr c)) ?_
  refine E.st (s_iload (q := 194) dX8_foldUp_192 rfl rfl) ?_
  refine E.st (s_if_eq_t (q := 207) dX8_foldUp_194 (by decide) c1) ?_
  refine E.st (s_aload_n (q := 208) dX8_foldUp_207 rfl rfl) ?_
  refine E.st (s_iconst (q := 209) (v := 1) dX8_foldUp_208 rfl (by decide)) ?_
  refine E.st (s_pf (q := 212) dX8_foldUp_209 rfl fX8_126 (ho) (by decide) (fun _ => ⟨rfl, rfl⟩)) ?_
  exact E.v dX8_foldUp_212 rfl rfl rfl

set_option maxRecDepth 20000 in
theorem j_X8_foldUp_c_2 {d : Nat} (hd : 1 ≤ d) (h : AH) (z : Int32) (n : Int32) (f : Int32) (m : Int64) (g : Int32) (v : Int64) (k : Int32) (x : Nat) (y : Nat) (c : m < (k.toInt64)) (c1 : ¬ (g = 0)) (F : Nat → Value) (ho : h.1 65 = ob 8 (fo 53 F)) (e9 : F 9 = .ref 72) (n1 : Nat) (f1 : Nat → Int32) (ha : h.1 72 = ia n1 f1) (c2 : vp_in z n1) (e10 : F 10 = .ref 73) (n2 : Nat) (f2 : Nat → Int64) (ha1 : h.1 73 = la n2 f2) (c3 : vp_in z n2) : E false mX8_foldUp d 91 [(0, .ref 65), (1, .int z), (2, .int n), (3, .int f), (4, .long m), (6, .int g), (7, .long v), (9, .int k)] [] h (none) (hs (hs h 72 (ia n1 (upd f1 z.toNatClampNeg 1))) 73 (la n2 (vp_updL f2 z.toNatClampNeg v))) := by
  refine E.st (s_iload (q := 93) dX8_foldUp_91 rfl rfl) ?_
  refine E.st (s_i2l (q := 94) dX8_foldUp_93 rfl) ?_
  refine E.st (s_lload (q := 96) dX8_foldUp_94 rfl rfl) ?_
  refine E.st (s_lcmp (q := 97) dX8_foldUp_96 rfl) ?_
  refine E.st (s_if_gt_t (q := 192) dX8_foldUp_97 (by decide) ((lgc_gt _ _).mpr c)) ?_
  refine E.st (s_iload (q := 194) dX8_foldUp_192 rfl rfl) ?_
  refine E.st (s_if_eq_f (q := 197) (tg := 207) dX8_foldUp_194 (by decide) rfl c1) ?_
  refine E.st (s_aload_n (q := 198) dX8_foldUp_197 rfl rfl) ?_
  refine E.st (s_iload_n (q := 199) dX8_foldUp_198 rfl rfl) ?_
  refine E.st (s_lload (q := 201) dX8_foldUp_199 rfl rfl) ?_
  refine E.st (p2 := 204) (l2 := [(0, .ref 65), (1, .int z), (2, .int n), (3, .int f), (4, .long m), (6, .int g), (7, .long v), (9, .int k)]) (s2 := []) (h2 := (hs (hs h 72 (ia n1 (upd f1 z.toNatClampNeg 1))) 73 (la n2 (vp_updL f2 z.toNatClampNeg v)))) (s_invv (K := mX8_tell) (o := 65) (as := [.int z, .long v]) (rest := []) (v := none) dX8_foldUp_201 rfl lX8_142 (by omega) rfl (Nat.le_of_ble_eq_true rfl) rfl (Nat.le_of_ble_eq_true rfl) (ho) (p_X8_tell_1 (d := 0) (Nat.le_refl _) h 65 z v F ho 72 e9 n1 f1 ha c2 (by decide) 73 e10 n2 f2 ha1 c3) (fun h => nomatch h)) ?_
  refine E.st (s_goto (q := 212) dX8_foldUp_204 (by decide)) ?_
  exact E.v dX8_foldUp_212 rfl rfl rfl

set_option maxRecDepth 20000 in
theorem j_X8_foldUp_c_3 {d : Nat} (hd : 0 ≤ d) (h : AH) (z : Int32) (n : Int32) (f : Int32) (m : Int64) (g : Int32) (v : Int64) (k : Int32) (x : Nat) (y : Nat) (c : ¬ (m < (k.toInt64))) (c1 : g = 0) (F : Nat → Value) (ho : h.1 65 = ob 8 (fo 53 F)) : E false mX8_foldUp d 91 [(0, .ref 65), (1, .int z), (2, .int n), (3, .int f), (4, .long m), (6, .int g), (7, .long v), (9, .int k)] [] h (none) (hs h 65 (ob 8 (fo 53 (va_up F 26 (.int 1))))) := by
  refine E.st (s_iload (q := 93) dX8_foldUp_91 rfl rfl) ?_
  refine E.st (s_i2l (q := 94) dX8_foldUp_93 rfl) ?_
  refine E.st (s_lload (q := 96) dX8_foldUp_94 rfl rfl) ?_
  refine E.st (s_lcmp (q := 97) dX8_foldUp_96 rfl) ?_
  refine E.st (s_if_gt_f (q := 100) (tg := 192) dX8_foldUp_97 (by decide) rfl (fun z => c ((lgc_gt _ _).mp z))) ?_
  refine E.st (s_iload (q := 102) dX8_foldUp_100 rfl rfl) ?_
  refine E.st (s_if_eq_t (q := 192) dX8_foldUp_102 (by decide) c1) ?_
  refine E.st (s_iload (q := 194) dX8_foldUp_192 rfl rfl) ?_
  refine E.st (s_if_eq_t (q := 207) dX8_foldUp_194 (by decide) c1) ?_
  refine E.st (s_aload_n (q := 208) dX8_foldUp_207 rfl rfl) ?_
  refine E.st (s_iconst (q := 209) (v := 1) dX8_foldUp_208 rfl (by decide)) ?_
  refine E.st (s_pf (q := 212) dX8_foldUp_209 rfl fX8_126 (ho) (by decide) (fun _ => ⟨rfl, rfl⟩)) ?_
  exact E.v dX8_foldUp_212 rfl rfl rfl

set_option maxRecDepth 20000 in
theorem j_X8_foldUp_c_4 {d : Nat} (hd : 0 ≤ d) (h : AH) (z : Int32) (n : Int32) (f : Int32) (m : Int64) (g : Int32) (v : Int64) (k : Int32) (x : Nat) (y : Nat) (c : ¬ (m < (k.toInt64))) (c1 : ¬ (g = 0)) (F : Nat → Value) (ho : h.1 65 = ob 8 (fo 53 F)) (e13 : F 13 = .ref x) (e : Int32) (en : (f + k) = e) (n1 : Nat) (f1 : Nat → Int32) (ha : h.1 x = ia n1 f1) (i : vp_in e n1) (p : 0 < x) (c2 : ¬ (f1 e.toNatClampNeg) = 0) (e5 : F 5 = .ref 69) (n2 : Nat) (f2 : Nat → Int32) (ha1 : h.1 69 = ia n2 f2) (i1 : vp_in n n2) (c3 : ¬ (f2 n.toNatClampNeg) = 1) (c4 : k = 1) (e14 : F 14 = .ref y) (e1 : Int32) (en1 : (f + k) = e1) (n3 : Nat) (f3 : Nat → Int64) (ha2 : h.1 y = la n3 f3) (i2 : vp_in e1 n3) : J false mX8_foldUp d 91 [(0, .ref 65), (1, .int z), (2, .int n), (3, .int f), (4, .long m), (6, .int g), (7, .long v), (9, .int k)] [] h 91 [(0, .ref 65), (1, .int z), (2, .int n), (3, .int f), (4, .long m), (6, .int 0), (7, .long (f3 e1.toNatClampNeg)), (9, .int (k + 1))] [] h := by
  refine J.tr (s_iload (q := 93) dX8_foldUp_91 rfl rfl) ?_
  refine J.tr (s_i2l (q := 94) dX8_foldUp_93 rfl) ?_
  refine J.tr (s_lload (q := 96) dX8_foldUp_94 rfl rfl) ?_
  refine J.tr (s_lcmp (q := 97) dX8_foldUp_96 rfl) ?_
  refine J.tr (s_if_gt_f (q := 100) (tg := 192) dX8_foldUp_97 (by decide) rfl (fun z => c ((lgc_gt _ _).mp z))) ?_
  refine J.tr (s_iload (q := 102) dX8_foldUp_100 rfl rfl) ?_
  refine J.tr (s_if_eq_f (q := 105) (tg := 192) dX8_foldUp_102 (by decide) rfl c1) ?_
  refine J.tr (s_aload_n (q := 106) dX8_foldUp_105 rfl rfl) ?_
  refine J.tr (s_gf (q := 109) (v := .ref x) dX8_foldUp_106 rfl fX8_41.l (ho) (by decide) (e13)) ?_
  refine J.tr (s_iload_n (q := 110) dX8_foldUp_109 rfl rfl) ?_
  refine J.tr (s_iload (q := 112) dX8_foldUp_110 rfl rfl) ?_
  refine J.tr (s_iadd (q := 113) dX8_foldUp_112 rfl) ?_
  refine J.tr (s_nmi en) ?_
  refine J.tr (s_iald (q := 114) dX8_foldUp_113 rfl p (ha) i) ?_
  refine J.tr (s_if_ne_t (q := 121) dX8_foldUp_114 (by decide) c2) ?_
  refine J.tr (s_iconst (q := 122) (v := 0) dX8_foldUp_121 rfl (by decide)) ?_
  refine J.tr (s_istore (q := 124) (ls' := [(6, .int 0), (0, .ref 65), (1, .int z), (2, .int n), (3, .int f), (4, .long m), (7, .long v), (9, .int k)]) dX8_foldUp_122 rfl (by decide) rfl) ?_
  refine J.tr (s_aload_n (q := 125) dX8_foldUp_124 rfl rfl) ?_
  refine J.tr (s_gf (q := 128) (v := .ref 69) dX8_foldUp_125 rfl fX8_20.l (ho) (by decide) (e5)) ?_
  refine J.tr (s_iload_n (q := 129) dX8_foldUp_128 rfl rfl) ?_
  refine J.tr (s_iald (q := 130) dX8_foldUp_129 rfl (by decide) (ha1) i1) ?_
  refine J.tr (s_iconst (q := 131) (v := 1) dX8_foldUp_130 rfl (by decide)) ?_
  refine J.tr (s_icmp_ne_t (q := 149) dX8_foldUp_131 (by decide) c3) ?_
  refine J.tr (s_iload (q := 151) dX8_foldUp_149 rfl rfl) ?_
  refine J.tr (s_iconst (q := 152) (v := 1) dX8_foldUp_151 rfl (by decide)) ?_
  refine J.tr (s_icmp_eq_t (q := 170) dX8_foldUp_152 (by decide) c4) ?_
  refine J.tr (s_aload_n (q := 171) dX8_foldUp_170 rfl rfl) ?_
  refine J.tr (s_gf (q := 174) (v := .ref y) dX8_foldUp_171 rfl fX8_44.l (ho) (by decide) (e14)) ?_
  refine J.tr (s_iload_n (q := 175) dX8_foldUp_174 rfl rfl) ?_
  refine J.tr (s_iload (q := 177) dX8_foldUp_175 rfl rfl) ?_
  refine J.tr (s_iadd (q := 178) dX8_foldUp_177 rfl) ?_
  refine J.tr (s_nmi en1) ?_
  refine J.tr (s_lald (q := 179) dX8_foldUp_178 rfl (ha2) i2) ?_
  refine J.tr (s_goto (q := 184) dX8_foldUp_179 (by decide)) ?_
  refine J.tr (s_lstore (q := 186) (ls' := [(7, .long (f3 e1.toNatClampNeg)), (6, .int 0), (0, .ref 65), (1, .int z), (2, .int n), (3, .int f), (4, .long m), (9, .int k)]) dX8_foldUp_184 rfl (by decide) rfl) ?_
  refine J.tr (s_iinc (q := 189) (v := (k + 1)) (ls' := [(9, .int (k + 1)), (7, .long (f3 e1.toNatClampNeg)), (6, .int 0), (0, .ref 65), (1, .int z), (2, .int n), (3, .int f), (4, .long m)]) dX8_foldUp_186 rfl (by decide) rfl rfl rfl) ?_
  refine J.tr (s_goto (q := 91) dX8_foldUp_189 (by decide)) ?_
  refine J.tr (s_ls (ls' := [(0, .ref 65), (1, .int z), (2, .int n), (3, .int f), (4, .long m), (6, .int 0), (7, .long (f3 e1.toNatClampNeg)), (9, .int (k + 1))]) [3, 4, 5, 6, 7, 2, 1, 0] rfl) ?_
  exact J.rf

set_option maxRecDepth 20000 in
theorem j_X8_foldUp_c_5 {d : Nat} (hd : 0 ≤ d) (h : AH) (z : Int32) (n : Int32) (f : Int32) (m : Int64) (g : Int32) (v : Int64) (k : Int32) (x : Nat) (y : Nat) (c : ¬ (m < (k.toInt64))) (c1 : ¬ (g = 0)) (F : Nat → Value) (ho : h.1 65 = ob 8 (fo 53 F)) (e13 : F 13 = .ref x) (e : Int32) (en : (f + k) = e) (n1 : Nat) (f1 : Nat → Int32) (ha : h.1 x = ia n1 f1) (i : vp_in e n1) (p : 0 < x) (c2 : ¬ (f1 e.toNatClampNeg) = 0) (e5 : F 5 = .ref 69) (n2 : Nat) (f2 : Nat → Int32) (ha1 : h.1 69 = ia n2 f2) (i1 : vp_in n n2) (c3 : ¬ (f2 n.toNatClampNeg) = 1) (c4 : ¬ (k = 1)) (e14 : F 14 = .ref y) (e1 : Int32) (en1 : (f + k) = e1) (n3 : Nat) (f3 : Nat → Int64) (ha2 : h.1 y = la n3 f3) (i2 : vp_in e1 n3) (c5 : v ≤ (f3 e1.toNatClampNeg)) : J false mX8_foldUp d 91 [(0, .ref 65), (1, .int z), (2, .int n), (3, .int f), (4, .long m), (6, .int g), (7, .long v), (9, .int k)] [] h 91 [(0, .ref 65), (1, .int z), (2, .int n), (3, .int f), (4, .long m), (6, .int 0), (7, .long v), (9, .int (k + 1))] [] h := by
  refine J.tr (s_iload (q := 93) dX8_foldUp_91 rfl rfl) ?_
  refine J.tr (s_i2l (q := 94) dX8_foldUp_93 rfl) ?_
  refine J.tr (s_lload (q := 96) dX8_foldUp_94 rfl rfl) ?_
  refine J.tr (s_lcmp (q := 97) dX8_foldUp_96 rfl) ?_
  refine J.tr (s_if_gt_f (q := 100) (tg := 192) dX8_foldUp_97 (by decide) rfl (fun z => c ((lgc_gt _ _).mp z))) ?_
  refine J.tr (s_iload (q := 102) dX8_foldUp_100 rfl rfl) ?_
  refine J.tr (s_if_eq_f (q := 105) (tg := 192) dX8_foldUp_102 (by decide) rfl c1) ?_
  refine J.tr (s_aload_n (q := 106) dX8_foldUp_105 rfl rfl) ?_
  refine J.tr (s_gf (q := 109) (v := .ref x) dX8_foldUp_106 rfl fX8_41.l (ho) (by decide) (e13)) ?_
  refine J.tr (s_iload_n (q := 110) dX8_foldUp_109 rfl rfl) ?_
  refine J.tr (s_iload (q := 112) dX8_foldUp_110 rfl rfl) ?_
  refine J.tr (s_iadd (q := 113) dX8_foldUp_112 rfl) ?_
  refine J.tr (s_nmi en) ?_
  refine J.tr (s_iald (q := 114) dX8_foldUp_113 rfl p (ha) i) ?_
  refine J.tr (s_if_ne_t (q := 121) dX8_foldUp_114 (by decide) c2) ?_
  refine J.tr (s_iconst (q := 122) (v := 0) dX8_foldUp_121 rfl (by decide)) ?_
  refine J.tr (s_istore (q := 124) (ls' := [(6, .int 0), (0, .ref 65), (1, .int z), (2, .int n), (3, .int f), (4, .long m), (7, .long v), (9, .int k)]) dX8_foldUp_122 rfl (by decide) rfl) ?_
  refine J.tr (s_aload_n (q := 125) dX8_foldUp_124 rfl rfl) ?_
  refine J.tr (s_gf (q := 128) (v := .ref 69) dX8_foldUp_125 rfl fX8_20.l (ho) (by decide) (e5)) ?_
  refine J.tr (s_iload_n (q := 129) dX8_foldUp_128 rfl rfl) ?_
  refine J.tr (s_iald (q := 130) dX8_foldUp_129 rfl (by decide) (ha1) i1) ?_
  refine J.tr (s_iconst (q := 131) (v := 1) dX8_foldUp_130 rfl (by decide)) ?_
  refine J.tr (s_icmp_ne_t (q := 149) dX8_foldUp_131 (by decide) c3) ?_
  refine J.tr (s_iload (q := 151) dX8_foldUp_149 rfl rfl) ?_
  refine J.tr (s_iconst (q := 152) (v := 1) dX8_foldUp_151 rfl (by decide)) ?_
  refine J.tr (s_icmp_eq_f (q := 155) (tg := 170) dX8_foldUp_152 (by decide) rfl c4) ?_
  refine J.tr (s_aload_n (q := 156) dX8_foldUp_155 rfl rfl) ?_
  refine J.tr (s_gf (q := 159) (v := .ref y) dX8_foldUp_156 rfl fX8_44.l (ho) (by decide) (e14)) ?_
  refine J.tr (s_iload_n (q := 160) dX8_foldUp_159 rfl rfl) ?_
  refine J.tr (s_iload (q := 162) dX8_foldUp_160 rfl rfl) ?_
  refine J.tr (s_iadd (q := 163) dX8_foldUp_162 rfl) ?_
  refine J.tr (s_nmi en1) ?_
  refine J.tr (s_lald (q := 164) dX8_foldUp_163 rfl (ha2) i2) ?_
  refine J.tr (s_lload (q := 166) dX8_foldUp_164 rfl rfl) ?_
  refine J.tr (s_lcmp (q := 167) dX8_foldUp_166 rfl) ?_
  refine J.tr (s_if_ge_t (q := 182) dX8_foldUp_167 (by decide) ((lgc_ge _ _).mpr c5)) ?_
  refine J.tr (s_lload (q := 184) dX8_foldUp_182 rfl rfl) ?_
  refine J.tr (s_lstore (q := 186) (ls' := [(7, .long v), (6, .int 0), (0, .ref 65), (1, .int z), (2, .int n), (3, .int f), (4, .long m), (9, .int k)]) dX8_foldUp_184 rfl (by decide) rfl) ?_
  refine J.tr (s_iinc (q := 189) (v := (k + 1)) (ls' := [(9, .int (k + 1)), (7, .long v), (6, .int 0), (0, .ref 65), (1, .int z), (2, .int n), (3, .int f), (4, .long m)]) dX8_foldUp_186 rfl (by decide) rfl rfl rfl) ?_
  refine J.tr (s_goto (q := 91) dX8_foldUp_189 (by decide)) ?_
  refine J.tr (s_ls (ls' := [(0, .ref 65), (1, .int z), (2, .int n), (3, .int f), (4, .long m), (6, .int 0), (7, .long v), (9, .int (k + 1))]) [3, 4, 5, 6, 7, 2, 1, 0] rfl) ?_
  exact J.rf

set_option maxRecDepth 20000 in
theorem j_X8_foldUp_c_6 {d : Nat} (hd : 0 ≤ d) (h : AH) (z : Int32) (n : Int32) (f : Int32) (m : Int64) (g : Int32) (v : Int64) (k : Int32) (x : Nat) (y : Nat) (c : ¬ (m < (k.toInt64))) (c1 : ¬ (g = 0)) (F : Nat → Value) (ho : h.1 65 = ob 8 (fo 53 F)) (e13 : F 13 = .ref x) (e : Int32) (en : (f + k) = e) (n1 : Nat) (f1 : Nat → Int32) (ha : h.1 x = ia n1 f1) (i : vp_in e n1) (p : 0 < x) (c2 : ¬ (f1 e.toNatClampNeg) = 0) (e5 : F 5 = .ref 69) (n2 : Nat) (f2 : Nat → Int32) (ha1 : h.1 69 = ia n2 f2) (i1 : vp_in n n2) (c3 : ¬ (f2 n.toNatClampNeg) = 1) (c4 : ¬ (k = 1)) (e14 : F 14 = .ref y) (e1 : Int32) (en1 : (f + k) = e1) (n3 : Nat) (f3 : Nat → Int64) (ha2 : h.1 y = la n3 f3) (i2 : vp_in e1 n3) (c5 : ¬ (v ≤ (f3 e1.toNatClampNeg))) (e2 : Int32) (en2 : (f + k) = e2) (i3 : vp_in e2 n3) : J false mX8_foldUp d 91 [(0, .ref 65), (1, .int z), (2, .int n), (3, .int f), (4, .long m), (6, .int g), (7, .long v), (9, .int k)] [] h 91 [(0, .ref 65), (1, .int z), (2, .int n), (3, .int f), (4, .long m), (6, .int 0), (7, .long (f3 e2.toNatClampNeg)), (9, .int (k + 1))] [] h := by
  refine J.tr (s_iload (q := 93) dX8_foldUp_91 rfl rfl) ?_
  refine J.tr (s_i2l (q := 94) dX8_foldUp_93 rfl) ?_
  refine J.tr (s_lload (q := 96) dX8_foldUp_94 rfl rfl) ?_
  refine J.tr (s_lcmp (q := 97) dX8_foldUp_96 rfl) ?_
  refine J.tr (s_if_gt_f (q := 100) (tg := 192) dX8_foldUp_97 (by decide) rfl (fun z => c ((lgc_gt _ _).mp z))) ?_
  refine J.tr (s_iload (q := 102) dX8_foldUp_100 rfl rfl) ?_
  refine J.tr (s_if_eq_f (q := 105) (tg := 192) dX8_foldUp_102 (by decide) rfl c1) ?_
  refine J.tr (s_aload_n (q := 106) dX8_foldUp_105 rfl rfl) ?_
  refine J.tr (s_gf (q := 109) (v := .ref x) dX8_foldUp_106 rfl fX8_41.l (ho) (by decide) (e13)) ?_
  refine J.tr (s_iload_n (q := 110) dX8_foldUp_109 rfl rfl) ?_
  refine J.tr (s_iload (q := 112) dX8_foldUp_110 rfl rfl) ?_
  refine J.tr (s_iadd (q := 113) dX8_foldUp_112 rfl) ?_
  refine J.tr (s_nmi en) ?_
  refine J.tr (s_iald (q := 114) dX8_foldUp_113 rfl p (ha) i) ?_
  refine J.tr (s_if_ne_t (q := 121) dX8_foldUp_114 (by decide) c2) ?_
  refine J.tr (s_iconst (q := 122) (v := 0) dX8_foldUp_121 rfl (by decide)) ?_
  refine J.tr (s_istore (q := 124) (ls' := [(6, .int 0), (0, .ref 65), (1, .int z), (2, .int n), (3, .int f), (4, .long m), (7, .long v), (9, .int k)]) dX8_foldUp_122 rfl (by decide) rfl) ?_
  refine J.tr (s_aload_n (q := 125) dX8_foldUp_124 rfl rfl) ?_
  refine J.tr (s_gf (q := 128) (v := .ref 69) dX8_foldUp_125 rfl fX8_20.l (ho) (by decide) (e5)) ?_
  refine J.tr (s_iload_n (q := 129) dX8_foldUp_128 rfl rfl) ?_
  refine J.tr (s_iald (q := 130) dX8_foldUp_129 rfl (by decide) (ha1) i1) ?_
  refine J.tr (s_iconst (q := 131) (v := 1) dX8_foldUp_130 rfl (by decide)) ?_
  refine J.tr (s_icmp_ne_t (q := 149) dX8_foldUp_131 (by decide) c3) ?_
  refine J.tr (s_iload (q := 151) dX8_foldUp_149 rfl rfl) ?_
  refine J.tr (s_iconst (q := 152) (v := 1) dX8_foldUp_151 rfl (by decide)) ?_
  refine J.tr (s_icmp_eq_f (q := 155) (tg := 170) dX8_foldUp_152 (by decide) rfl c4) ?_
  refine J.tr (s_aload_n (q := 156) dX8_foldUp_155 rfl rfl) ?_
  refine J.tr (s_gf (q := 159) (v := .ref y) dX8_foldUp_156 rfl fX8_44.l (ho) (by decide) (e14)) ?_
  refine J.tr (s_iload_n (q := 160) dX8_foldUp_159 rfl rfl) ?_
  refine J.tr (s_iload (q := 162) dX8_foldUp_160 rfl rfl) ?_
  refine J.tr (s_iadd (q := 163) dX8_foldUp_162 rfl) ?_
  refine J.tr (s_nmi en1) ?_
  refine J.tr (s_lald (q := 164) dX8_foldUp_163 rfl (ha2) i2) ?_
  refine J.tr (s_lload (q := 166) dX8_foldUp_164 rfl rfl) ?_
  refine J.tr (s_lcmp (q := 167) dX8_foldUp_166 rfl) ?_
  refine J.tr (s_if_ge_f (q := 170) (tg := 182) dX8_foldUp_167 (by decide) rfl (fun z => c5 ((lgc_ge _ _).mp z))) ?_
  refine J.tr (s_aload_n (q := 171) dX8_foldUp_170 rfl rfl) ?_
  refine J.tr (s_gf (q := 174) (v := .ref y) dX8_foldUp_171 rfl fX8_44.l (ho) (by decide) (e14)) ?_
  refine J.tr (s_iload_n (q := 175) dX8_foldUp_174 rfl rfl) ?_
  refine J.tr (s_iload (q := 177) dX8_foldUp_175 rfl rfl) ?_
  refine J.tr (s_iadd (q := 178) dX8_foldUp_177 rfl) ?_
  refine J.tr (s_nmi en2) ?_
  refine J.tr (s_lald (q := 179) dX8_foldUp_178 rfl (ha2) i3) ?_
  refine J.tr (s_goto (q := 184) dX8_foldUp_179 (by decide)) ?_
  refine J.tr (s_lstore (q := 186) (ls' := [(7, .long (f3 e2.toNatClampNeg)), (6, .int 0), (0, .ref 65), (1, .int z), (2, .int n), (3, .int f), (4, .long m), (9, .int k)]) dX8_foldUp_184 rfl (by decide) rfl) ?_
  refine J.tr (s_iinc (q := 189) (v := (k + 1)) (ls' := [(9, .int (k + 1)), (7, .long (f3 e2.toNatClampNeg)), (6, .int 0), (0, .ref 65), (1, .int z), (2, .int n), (3, .int f), (4, .long m)]) dX8_foldUp_186 rfl (by decide) rfl rfl rfl) ?_
  refine J.tr (s_goto (q := 91) dX8_foldUp_189 (by decide)) ?_
  refine J.tr (s_ls (ls' := [(0, .ref 65), (1, .int z), (2, .int n), (3, .int f), (4, .long m), (6, .int 0), (7, .long (f3 e2.toNatClampNeg)), (9, .int (k + 1))]) [3, 4, 5, 6, 7, 2, 1, 0] rfl) ?_
  exact J.rf

set_option maxRecDepth 20000 in
theorem j_X8_foldUp_c_7 {d : Nat} (hd : 0 ≤ d) (h : AH) (z : Int32) (n : Int32) (f : Int32) (m : Int64) (g : Int32) (v : Int64) (k : Int32) (x : Nat) (y : Nat) (c : ¬ (m < (k.toInt64))) (c1 : ¬ (g = 0)) (F : Nat → Value) (ho : h.1 65 = ob 8 (fo 53 F)) (e13 : F 13 = .ref x) (e : Int32) (en : (f + k) = e) (n1 : Nat) (f1 : Nat → Int32) (ha : h.1 x = ia n1 f1) (i : vp_in e n1) (p : 0 < x) (c2 : ¬ (f1 e.toNatClampNeg) = 0) (e5 : F 5 = .ref 69) (n2 : Nat) (f2 : Nat → Int32) (ha1 : h.1 69 = ia n2 f2) (i1 : vp_in n n2) (c3 : (f2 n.toNatClampNeg) = 1) (e14 : F 14 = .ref y) (e1 : Int32) (en1 : (f + k) = e1) (n3 : Nat) (f3 : Nat → Int64) (ha2 : h.1 y = la n3 f3) (i2 : vp_in e1 n3) : J false mX8_foldUp d 91 [(0, .ref 65), (1, .int z), (2, .int n), (3, .int f), (4, .long m), (6, .int g), (7, .long v), (9, .int k)] [] h 91 [(0, .ref 65), (1, .int z), (2, .int n), (3, .int f), (4, .long m), (6, .int 0), (7, .long (v + (f3 e1.toNatClampNeg))), (9, .int (k + 1))] [] h := by
  refine J.tr (s_iload (q := 93) dX8_foldUp_91 rfl rfl) ?_
  refine J.tr (s_i2l (q := 94) dX8_foldUp_93 rfl) ?_
  refine J.tr (s_lload (q := 96) dX8_foldUp_94 rfl rfl) ?_
  refine J.tr (s_lcmp (q := 97) dX8_foldUp_96 rfl) ?_
  refine J.tr (s_if_gt_f (q := 100) (tg := 192) dX8_foldUp_97 (by decide) rfl (fun z => c ((lgc_gt _ _).mp z))) ?_
  refine J.tr (s_iload (q := 102) dX8_foldUp_100 rfl rfl) ?_
  refine J.tr (s_if_eq_f (q := 105) (tg := 192) dX8_foldUp_102 (by decide) rfl c1) ?_
  refine J.tr (s_aload_n (q := 106) dX8_foldUp_105 rfl rfl) ?_
  refine J.tr (s_gf (q := 109) (v := .ref x) dX8_foldUp_106 rfl fX8_41.l (ho) (by decide) (e13)) ?_
  refine J.tr (s_iload_n (q := 110) dX8_foldUp_109 rfl rfl) ?_
  refine J.tr (s_iload (q := 112) dX8_foldUp_110 rfl rfl) ?_
  refine J.tr (s_iadd (q := 113) dX8_foldUp_112 rfl) ?_
  refine J.tr (s_nmi en) ?_
  refine J.tr (s_iald (q := 114) dX8_foldUp_113 rfl p (ha) i) ?_
  refine J.tr (s_if_ne_t (q := 121) dX8_foldUp_114 (by decide) c2) ?_
  refine J.tr (s_iconst (q := 122) (v := 0) dX8_foldUp_121 rfl (by decide)) ?_
  refine J.tr (s_istore (q := 124) (ls' := [(6, .int 0), (0, .ref 65), (1, .int z), (2, .int n), (3, .int f), (4, .long m), (7, .long v), (9, .int k)]) dX8_foldUp_122 rfl (by decide) rfl) ?_
  refine J.tr (s_aload_n (q := 125) dX8_foldUp_124 rfl rfl) ?_
  refine J.tr (s_gf (q := 128) (v := .ref 69) dX8_foldUp_125 rfl fX8_20.l (ho) (by decide) (e5)) ?_
  refine J.tr (s_iload_n (q := 129) dX8_foldUp_128 rfl rfl) ?_
  refine J.tr (s_iald (q := 130) dX8_foldUp_129 rfl (by decide) (ha1) i1) ?_
  refine J.tr (s_iconst (q := 131) (v := 1) dX8_foldUp_130 rfl (by decide)) ?_
  refine J.tr (s_icmp_ne_f (q := 134) (tg := 149) dX8_foldUp_131 (by decide) rfl c3) ?_
  refine J.tr (s_lload (q := 136) dX8_foldUp_134 rfl rfl) ?_
  refine J.tr (s_aload_n (q := 137) dX8_foldUp_136 rfl rfl) ?_
  refine J.tr (s_gf (q := 140) (v := .ref y) dX8_foldUp_137 rfl fX8_44.l (ho) (by decide) (e14)) ?_
  refine J.tr (s_iload_n (q := 141) dX8_foldUp_140 rfl rfl) ?_
  refine J.tr (s_iload (q := 143) dX8_foldUp_141 rfl rfl) ?_
  refine J.tr (s_iadd (q := 144) dX8_foldUp_143 rfl) ?_
  refine J.tr (s_nmi en1) ?_
  refine J.tr (s_lald (q := 145) dX8_foldUp_144 rfl (ha2) i2) ?_
  refine J.tr (s_ladd (q := 146) dX8_foldUp_145 rfl) ?_
  refine J.tr (s_goto (q := 184) dX8_foldUp_146 (by decide)) ?_
  refine J.tr (s_lstore (q := 186) (ls' := [(7, .long (v + (f3 e1.toNatClampNeg))), (6, .int 0), (0, .ref 65), (1, .int z), (2, .int n), (3, .int f), (4, .long m), (9, .int k)]) dX8_foldUp_184 rfl (by decide) rfl) ?_
  refine J.tr (s_iinc (q := 189) (v := (k + 1)) (ls' := [(9, .int (k + 1)), (7, .long (v + (f3 e1.toNatClampNeg))), (6, .int 0), (0, .ref 65), (1, .int z), (2, .int n), (3, .int f), (4, .long m)]) dX8_foldUp_186 rfl (by decide) rfl rfl rfl) ?_
  refine J.tr (s_goto (q := 91) dX8_foldUp_189 (by decide)) ?_
  refine J.tr (s_ls (ls' := [(0, .ref 65), (1, .int z), (2, .int n), (3, .int f), (4, .long m), (6, .int 0), (7, .long (v + (f3 e1.toNatClampNeg))), (9, .int (k + 1))]) [3, 4, 5, 6, 7, 2, 1, 0] rfl) ?_
  exact J.rf

set_option maxRecDepth 20000 in
theorem j_X8_foldUp_c_8 {d : Nat} (hd : 0 ≤ d) (h : AH) (z : Int32) (n : Int32) (f : Int32) (m : Int64) (g : Int32) (v : Int64) (k : Int32) (x : Nat) (y : Nat) (c : ¬ (m < (k.toInt64))) (c1 : ¬ (g = 0)) (F : Nat → Value) (ho : h.1 65 = ob 8 (fo 53 F)) (e13 : F 13 = .ref x) (e : Int32) (en : (f + k) = e) (n1 : Nat) (f1 : Nat → Int32) (ha : h.1 x = ia n1 f1) (i : vp_in e n1) (p : 0 < x) (c2 : (f1 e.toNatClampNeg) = 0) (e5 : F 5 = .ref 69) (n2 : Nat) (f2 : Nat → Int32) (ha1 : h.1 69 = ia n2 f2) (i1 : vp_in n n2) (c3 : ¬ (f2 n.toNatClampNeg) = 1) (c4 : k = 1) (e14 : F 14 = .ref y) (e1 : Int32) (en1 : (f + k) = e1) (n3 : Nat) (f3 : Nat → Int64) (ha2 : h.1 y = la n3 f3) (i2 : vp_in e1 n3) : J false mX8_foldUp d 91 [(0, .ref 65), (1, .int z), (2, .int n), (3, .int f), (4, .long m), (6, .int g), (7, .long v), (9, .int k)] [] h 91 [(0, .ref 65), (1, .int z), (2, .int n), (3, .int f), (4, .long m), (6, .int 1), (7, .long (f3 e1.toNatClampNeg)), (9, .int (k + 1))] [] h := by
  refine J.tr (s_iload (q := 93) dX8_foldUp_91 rfl rfl) ?_
  refine J.tr (s_i2l (q := 94) dX8_foldUp_93 rfl) ?_
  refine J.tr (s_lload (q := 96) dX8_foldUp_94 rfl rfl) ?_
  refine J.tr (s_lcmp (q := 97) dX8_foldUp_96 rfl) ?_
  refine J.tr (s_if_gt_f (q := 100) (tg := 192) dX8_foldUp_97 (by decide) rfl (fun z => c ((lgc_gt _ _).mp z))) ?_
  refine J.tr (s_iload (q := 102) dX8_foldUp_100 rfl rfl) ?_
  refine J.tr (s_if_eq_f (q := 105) (tg := 192) dX8_foldUp_102 (by decide) rfl c1) ?_
  refine J.tr (s_aload_n (q := 106) dX8_foldUp_105 rfl rfl) ?_
  refine J.tr (s_gf (q := 109) (v := .ref x) dX8_foldUp_106 rfl fX8_41.l (ho) (by decide) (e13)) ?_
  refine J.tr (s_iload_n (q := 110) dX8_foldUp_109 rfl rfl) ?_
  refine J.tr (s_iload (q := 112) dX8_foldUp_110 rfl rfl) ?_
  refine J.tr (s_iadd (q := 113) dX8_foldUp_112 rfl) ?_
  refine J.tr (s_nmi en) ?_
  refine J.tr (s_iald (q := 114) dX8_foldUp_113 rfl p (ha) i) ?_
  refine J.tr (s_if_ne_f (q := 117) (tg := 121) dX8_foldUp_114 (by decide) rfl c2) ?_
  refine J.tr (s_iconst (q := 118) (v := 1) dX8_foldUp_117 rfl (by decide)) ?_
  refine J.tr (s_goto (q := 122) dX8_foldUp_118 (by decide)) ?_
  refine J.tr (s_istore (q := 124) (ls' := [(6, .int 1), (0, .ref 65), (1, .int z), (2, .int n), (3, .int f), (4, .long m), (7, .long v), (9, .int k)]) dX8_foldUp_122 rfl (by decide) rfl) ?_
  refine J.tr (s_aload_n (q := 125) dX8_foldUp_124 rfl rfl) ?_
  refine J.tr (s_gf (q := 128) (v := .ref 69) dX8_foldUp_125 rfl fX8_20.l (ho) (by decide) (e5)) ?_
  refine J.tr (s_iload_n (q := 129) dX8_foldUp_128 rfl rfl) ?_
  refine J.tr (s_iald (q := 130) dX8_foldUp_129 rfl (by decide) (ha1) i1) ?_
  refine J.tr (s_iconst (q := 131) (v := 1) dX8_foldUp_130 rfl (by decide)) ?_
  refine J.tr (s_icmp_ne_t (q := 149) dX8_foldUp_131 (by decide) c3) ?_
  refine J.tr (s_iload (q := 151) dX8_foldUp_149 rfl rfl) ?_
  refine J.tr (s_iconst (q := 152) (v := 1) dX8_foldUp_151 rfl (by decide)) ?_
  refine J.tr (s_icmp_eq_t (q := 170) dX8_foldUp_152 (by decide) c4) ?_
  refine J.tr (s_aload_n (q := 171) dX8_foldUp_170 rfl rfl) ?_
  refine J.tr (s_gf (q := 174) (v := .ref y) dX8_foldUp_171 rfl fX8_44.l (ho) (by decide) (e14)) ?_
  refine J.tr (s_iload_n (q := 175) dX8_foldUp_174 rfl rfl) ?_
  refine J.tr (s_iload (q := 177) dX8_foldUp_175 rfl rfl) ?_
  refine J.tr (s_iadd (q := 178) dX8_foldUp_177 rfl) ?_
  refine J.tr (s_nmi en1) ?_
  refine J.tr (s_lald (q := 179) dX8_foldUp_178 rfl (ha2) i2) ?_
  refine J.tr (s_goto (q := 184) dX8_foldUp_179 (by decide)) ?_
  refine J.tr (s_lstore (q := 186) (ls' := [(7, .long (f3 e1.toNatClampNeg)), (6, .int 1), (0, .ref 65), (1, .int z), (2, .int n), (3, .int f), (4, .long m), (9, .int k)]) dX8_foldUp_184 rfl (by decide) rfl) ?_
  refine J.tr (s_iinc (q := 189) (v := (k + 1)) (ls' := [(9, .int (k + 1)), (7, .long (f3 e1.toNatClampNeg)), (6, .int 1), (0, .ref 65), (1, .int z), (2, .int n), (3, .int f), (4, .long m)]) dX8_foldUp_186 rfl (by decide) rfl rfl rfl) ?_
  refine J.tr (s_goto (q := 91) dX8_foldUp_189 (by decide)) ?_
  refine J.tr (s_ls (ls' := [(0, .ref 65), (1, .int z), (2, .int n), (3, .int f), (4, .long m), (6, .int 1), (7, .long (f3 e1.toNatClampNeg)), (9, .int (k + 1))]) [3, 4, 5, 6, 7, 2, 1, 0] rfl) ?_
  exact J.rf

set_option maxRecDepth 20000 in
theorem j_X8_foldUp_c_9 {d : Nat} (hd : 0 ≤ d) (h : AH) (z : Int32) (n : Int32) (f : Int32) (m : Int64) (g : Int32) (v : Int64) (k : Int32) (x : Nat) (y : Nat) (c : ¬ (m < (k.toInt64))) (c1 : ¬ (g = 0)) (F : Nat → Value) (ho : h.1 65 = ob 8 (fo 53 F)) (e13 : F 13 = .ref x) (e : Int32) (en : (f + k) = e) (n1 : Nat) (f1 : Nat → Int32) (ha : h.1 x = ia n1 f1) (i : vp_in e n1) (p : 0 < x) (c2 : (f1 e.toNatClampNeg) = 0) (e5 : F 5 = .ref 69) (n2 : Nat) (f2 : Nat → Int32) (ha1 : h.1 69 = ia n2 f2) (i1 : vp_in n n2) (c3 : ¬ (f2 n.toNatClampNeg) = 1) (c4 : ¬ (k = 1)) (e14 : F 14 = .ref y) (e1 : Int32) (en1 : (f + k) = e1) (n3 : Nat) (f3 : Nat → Int64) (ha2 : h.1 y = la n3 f3) (i2 : vp_in e1 n3) (c5 : v ≤ (f3 e1.toNatClampNeg)) : J false mX8_foldUp d 91 [(0, .ref 65), (1, .int z), (2, .int n), (3, .int f), (4, .long m), (6, .int g), (7, .long v), (9, .int k)] [] h 91 [(0, .ref 65), (1, .int z), (2, .int n), (3, .int f), (4, .long m), (6, .int 1), (7, .long v), (9, .int (k + 1))] [] h := by
  refine J.tr (s_iload (q := 93) dX8_foldUp_91 rfl rfl) ?_
  refine J.tr (s_i2l (q := 94) dX8_foldUp_93 rfl) ?_
  refine J.tr (s_lload (q := 96) dX8_foldUp_94 rfl rfl) ?_
  refine J.tr (s_lcmp (q := 97) dX8_foldUp_96 rfl) ?_
  refine J.tr (s_if_gt_f (q := 100) (tg := 192) dX8_foldUp_97 (by decide) rfl (fun z => c ((lgc_gt _ _).mp z))) ?_
  refine J.tr (s_iload (q := 102) dX8_foldUp_100 rfl rfl) ?_
  refine J.tr (s_if_eq_f (q := 105) (tg := 192) dX8_foldUp_102 (by decide) rfl c1) ?_
  refine J.tr (s_aload_n (q := 106) dX8_foldUp_105 rfl rfl) ?_
  refine J.tr (s_gf (q := 109) (v := .ref x) dX8_foldUp_106 rfl fX8_41.l (ho) (by decide) (e13)) ?_
  refine J.tr (s_iload_n (q := 110) dX8_foldUp_109 rfl rfl) ?_
  refine J.tr (s_iload (q := 112) dX8_foldUp_110 rfl rfl) ?_
  refine J.tr (s_iadd (q := 113) dX8_foldUp_112 rfl) ?_
  refine J.tr (s_nmi en) ?_
  refine J.tr (s_iald (q := 114) dX8_foldUp_113 rfl p (ha) i) ?_
  refine J.tr (s_if_ne_f (q := 117) (tg := 121) dX8_foldUp_114 (by decide) rfl c2) ?_
  refine J.tr (s_iconst (q := 118) (v := 1) dX8_foldUp_117 rfl (by decide)) ?_
  refine J.tr (s_goto (q := 122) dX8_foldUp_118 (by decide)) ?_
  refine J.tr (s_istore (q := 124) (ls' := [(6, .int 1), (0, .ref 65), (1, .int z), (2, .int n), (3, .int f), (4, .long m), (7, .long v), (9, .int k)]) dX8_foldUp_122 rfl (by decide) rfl) ?_
  refine J.tr (s_aload_n (q := 125) dX8_foldUp_124 rfl rfl) ?_
  refine J.tr (s_gf (q := 128) (v := .ref 69) dX8_foldUp_125 rfl fX8_20.l (ho) (by decide) (e5)) ?_
  refine J.tr (s_iload_n (q := 129) dX8_foldUp_128 rfl rfl) ?_
  refine J.tr (s_iald (q := 130) dX8_foldUp_129 rfl (by decide) (ha1) i1) ?_
  refine J.tr (s_iconst (q := 131) (v := 1) dX8_foldUp_130 rfl (by decide)) ?_
  refine J.tr (s_icmp_ne_t (q := 149) dX8_foldUp_131 (by decide) c3) ?_
  refine J.tr (s_iload (q := 151) dX8_foldUp_149 rfl rfl) ?_
  refine J.tr (s_iconst (q := 152) (v := 1) dX8_foldUp_151 rfl (by decide)) ?_
  refine J.tr (s_icmp_eq_f (q := 155) (tg := 170) dX8_foldUp_152 (by decide) rfl c4) ?_
  refine J.tr (s_aload_n (q := 156) dX8_foldUp_155 rfl rfl) ?_
  refine J.tr (s_gf (q := 159) (v := .ref y) dX8_foldUp_156 rfl fX8_44.l (ho) (by decide) (e14)) ?_
  refine J.tr (s_iload_n (q := 160) dX8_foldUp_159 rfl rfl) ?_
  refine J.tr (s_iload (q := 162) dX8_foldUp_160 rfl rfl) ?_
  refine J.tr (s_iadd (q := 163) dX8_foldUp_162 rfl) ?_
  refine J.tr (s_nmi en1) ?_
  refine J.tr (s_lald (q := 164) dX8_foldUp_163 rfl (ha2) i2) ?_
  refine J.tr (s_lload (q := 166) dX8_foldUp_164 rfl rfl) ?_
  refine J.tr (s_lcmp (q := 167) dX8_foldUp_166 rfl) ?_
  refine J.tr (s_if_ge_t (q := 182) dX8_foldUp_167 (by decide) ((lgc_ge _ _).mpr c5)) ?_
  refine J.tr (s_lload (q := 184) dX8_foldUp_182 rfl rfl) ?_
  refine J.tr (s_lstore (q := 186) (ls' := [(7, .long v), (6, .int 1), (0, .ref 65), (1, .int z), (2, .int n), (3, .int f), (4, .long m), (9, .int k)]) dX8_foldUp_184 rfl (by decide) rfl) ?_
  refine J.tr (s_iinc (q := 189) (v := (k + 1)) (ls' := [(9, .int (k + 1)), (7, .long v), (6, .int 1), (0, .ref 65), (1, .int z), (2, .int n), (3, .int f), (4, .long m)]) dX8_foldUp_186 rfl (by decide) rfl rfl rfl) ?_
  refine J.tr (s_goto (q := 91) dX8_foldUp_189 (by decide)) ?_
  refine J.tr (s_ls (ls' := [(0, .ref 65), (1, .int z), (2, .int n), (3, .int f), (4, .long m), (6, .int 1), (7, .long v), (9, .int (k + 1))]) [3, 4, 5, 6, 7, 2, 1, 0] rfl) ?_
  exact J.rf

set_option maxRecDepth 20000 in
theorem j_X8_foldUp_c_10 {d : Nat} (hd : 0 ≤ d) (h : AH) (z : Int32) (n : Int32) (f : Int32) (m : Int64) (g : Int32) (v : Int64) (k : Int32) (x : Nat) (y : Nat) (c : ¬ (m < (k.toInt64))) (c1 : ¬ (g = 0)) (F : Nat → Value) (ho : h.1 65 = ob 8 (fo 53 F)) (e13 : F 13 = .ref x) (e : Int32) (en : (f + k) = e) (n1 : Nat) (f1 : Nat → Int32) (ha : h.1 x = ia n1 f1) (i : vp_in e n1) (p : 0 < x) (c2 : (f1 e.toNatClampNeg) = 0) (e5 : F 5 = .ref 69) (n2 : Nat) (f2 : Nat → Int32) (ha1 : h.1 69 = ia n2 f2) (i1 : vp_in n n2) (c3 : ¬ (f2 n.toNatClampNeg) = 1) (c4 : ¬ (k = 1)) (e14 : F 14 = .ref y) (e1 : Int32) (en1 : (f + k) = e1) (n3 : Nat) (f3 : Nat → Int64) (ha2 : h.1 y = la n3 f3) (i2 : vp_in e1 n3) (c5 : ¬ (v ≤ (f3 e1.toNatClampNeg))) (e2 : Int32) (en2 : (f + k) = e2) (i3 : vp_in e2 n3) : J false mX8_foldUp d 91 [(0, .ref 65), (1, .int z), (2, .int n), (3, .int f), (4, .long m), (6, .int g), (7, .long v), (9, .int k)] [] h 91 [(0, .ref 65), (1, .int z), (2, .int n), (3, .int f), (4, .long m), (6, .int 1), (7, .long (f3 e2.toNatClampNeg)), (9, .int (k + 1))] [] h := by
  refine J.tr (s_iload (q := 93) dX8_foldUp_91 rfl rfl) ?_
  refine J.tr (s_i2l (q := 94) dX8_foldUp_93 rfl) ?_
  refine J.tr (s_lload (q := 96) dX8_foldUp_94 rfl rfl) ?_
  refine J.tr (s_lcmp (q := 97) dX8_foldUp_96 rfl) ?_
  refine J.tr (s_if_gt_f (q := 100) (tg := 192) dX8_foldUp_97 (by decide) rfl (fun z => c ((lgc_gt _ _).mp z))) ?_
  refine J.tr (s_iload (q := 102) dX8_foldUp_100 rfl rfl) ?_
  refine J.tr (s_if_eq_f (q := 105) (tg := 192) dX8_foldUp_102 (by decide) rfl c1) ?_
  refine J.tr (s_aload_n (q := 106) dX8_foldUp_105 rfl rfl) ?_
  refine J.tr (s_gf (q := 109) (v := .ref x) dX8_foldUp_106 rfl fX8_41.l (ho) (by decide) (e13)) ?_
  refine J.tr (s_iload_n (q := 110) dX8_foldUp_109 rfl rfl) ?_
  refine J.tr (s_iload (q := 112) dX8_foldUp_110 rfl rfl) ?_
  refine J.tr (s_iadd (q := 113) dX8_foldUp_112 rfl) ?_
  refine J.tr (s_nmi en) ?_
  refine J.tr (s_iald (q := 114) dX8_foldUp_113 rfl p (ha) i) ?_
  refine J.tr (s_if_ne_f (q := 117) (tg := 121) dX8_foldUp_114 (by decide) rfl c2) ?_
  refine J.tr (s_iconst (q := 118) (v := 1) dX8_foldUp_117 rfl (by decide)) ?_
  refine J.tr (s_goto (q := 122) dX8_foldUp_118 (by decide)) ?_
  refine J.tr (s_istore (q := 124) (ls' := [(6, .int 1), (0, .ref 65), (1, .int z), (2, .int n), (3, .int f), (4, .long m), (7, .long v), (9, .int k)]) dX8_foldUp_122 rfl (by decide) rfl) ?_
  refine J.tr (s_aload_n (q := 125) dX8_foldUp_124 rfl rfl) ?_
  refine J.tr (s_gf (q := 128) (v := .ref 69) dX8_foldUp_125 rfl fX8_20.l (ho) (by decide) (e5)) ?_
  refine J.tr (s_iload_n (q := 129) dX8_foldUp_128 rfl rfl) ?_
  refine J.tr (s_iald (q := 130) dX8_foldUp_129 rfl (by decide) (ha1) i1) ?_
  refine J.tr (s_iconst (q := 131) (v := 1) dX8_foldUp_130 rfl (by decide)) ?_
  refine J.tr (s_icmp_ne_t (q := 149) dX8_foldUp_131 (by decide) c3) ?_
  refine J.tr (s_iload (q := 151) dX8_foldUp_149 rfl rfl) ?_
  refine J.tr (s_iconst (q := 152) (v := 1) dX8_foldUp_151 rfl (by decide)) ?_
  refine J.tr (s_icmp_eq_f (q := 155) (tg := 170) dX8_foldUp_152 (by decide) rfl c4) ?_
  refine J.tr (s_aload_n (q := 156) dX8_foldUp_155 rfl rfl) ?_
  refine J.tr (s_gf (q := 159) (v := .ref y) dX8_foldUp_156 rfl fX8_44.l (ho) (by decide) (e14)) ?_
  refine J.tr (s_iload_n (q := 160) dX8_foldUp_159 rfl rfl) ?_
  refine J.tr (s_iload (q := 162) dX8_foldUp_160 rfl rfl) ?_
  refine J.tr (s_iadd (q := 163) dX8_foldUp_162 rfl) ?_
  refine J.tr (s_nmi en1) ?_
  refine J.tr (s_lald (q := 164) dX8_foldUp_163 rfl (ha2) i2) ?_
  refine J.tr (s_lload (q := 166) dX8_foldUp_164 rfl rfl) ?_
  refine J.tr (s_lcmp (q := 167) dX8_foldUp_166 rfl) ?_
  refine J.tr (s_if_ge_f (q := 170) (tg := 182) dX8_foldUp_167 (by decide) rfl (fun z => c5 ((lgc_ge _ _).mp z))) ?_
  refine J.tr (s_aload_n (q := 171) dX8_foldUp_170 rfl rfl) ?_
  refine J.tr (s_gf (q := 174) (v := .ref y) dX8_foldUp_171 rfl fX8_44.l (ho) (by decide) (e14)) ?_
  refine J.tr (s_iload_n (q := 175) dX8_foldUp_174 rfl rfl) ?_
  refine J.tr (s_iload (q := 177) dX8_foldUp_175 rfl rfl) ?_
  refine J.tr (s_iadd (q := 178) dX8_foldUp_177 rfl) ?_
  refine J.tr (s_nmi en2) ?_
  refine J.tr (s_lald (q := 179) dX8_foldUp_178 rfl (ha2) i3) ?_
  refine J.tr (s_goto (q := 184) dX8_foldUp_179 (by decide)) ?_
  refine J.tr (s_lstore (q := 186) (ls' := [(7, .long (f3 e2.toNatClampNeg)), (6, .int 1), (0, .ref 65), (1, .int z), (2, .int n), (3, .int f), (4, .long m), (9, .int k)]) dX8_foldUp_184 rfl (by decide) rfl) ?_
  refine J.tr (s_iinc (q := 189) (v := (k + 1)) (ls' := [(9, .int (k + 1)), (7, .long (f3 e2.toNatClampNeg)), (6, .int 1), (0, .ref 65), (1, .int z), (2, .int n), (3, .int f), (4, .long m)]) dX8_foldUp_186 rfl (by decide) rfl rfl rfl) ?_
  refine J.tr (s_goto (q := 91) dX8_foldUp_189 (by decide)) ?_
  refine J.tr (s_ls (ls' := [(0, .ref 65), (1, .int z), (2, .int n), (3, .int f), (4, .long m), (6, .int 1), (7, .long (f3 e2.toNatClampNeg)), (9, .int (k + 1))]) [3, 4, 5, 6, 7, 2, 1, 0] rfl) ?_
  exact J.rf

set_option maxRecDepth 20000 in
theorem j_X8_foldUp_c_11 {d : Nat} (hd : 0 ≤ d) (h : AH) (z : Int32) (n : Int32) (f : Int32) (m : Int64) (g : Int32) (v : Int64) (k : Int32) (x : Nat) (y : Nat) (c : ¬ (m < (k.toInt64))) (c1 : ¬ (g = 0)) (F : Nat → Value) (ho : h.1 65 = ob 8 (fo 53 F)) (e13 : F 13 = .ref x) (e : Int32) (en : (f + k) = e) (n1 : Nat) (f1 : Nat → Int32) (ha : h.1 x = ia n1 f1) (i : vp_in e n1) (p : 0 < x) (c2 : (f1 e.toNatClampNeg) = 0) (e5 : F 5 = .ref 69) (n2 : Nat) (f2 : Nat → Int32) (ha1 : h.1 69 = ia n2 f2) (i1 : vp_in n n2) (c3 : (f2 n.toNatClampNeg) = 1) (e14 : F 14 = .ref y) (e1 : Int32) (en1 : (f + k) = e1) (n3 : Nat) (f3 : Nat → Int64) (ha2 : h.1 y = la n3 f3) (i2 : vp_in e1 n3) : J false mX8_foldUp d 91 [(0, .ref 65), (1, .int z), (2, .int n), (3, .int f), (4, .long m), (6, .int g), (7, .long v), (9, .int k)] [] h 91 [(0, .ref 65), (1, .int z), (2, .int n), (3, .int f), (4, .long m), (6, .int 1), (7, .long (v + (f3 e1.toNatClampNeg))), (9, .int (k + 1))] [] h := by
  refine J.tr (s_iload (q := 93) dX8_foldUp_91 rfl rfl) ?_
  refine J.tr (s_i2l (q := 94) dX8_foldUp_93 rfl) ?_
  refine J.tr (s_lload (q := 96) dX8_foldUp_94 rfl rfl) ?_
  refine J.tr (s_lcmp (q := 97) dX8_foldUp_96 rfl) ?_
  refine J.tr (s_if_gt_f (q := 100) (tg := 192) dX8_foldUp_97 (by decide) rfl (fun z => c ((lgc_gt _ _).mp z))) ?_
  refine J.tr (s_iload (q := 102) dX8_foldUp_100 rfl rfl) ?_
  refine J.tr (s_if_eq_f (q := 105) (tg := 192) dX8_foldUp_102 (by decide) rfl c1) ?_
  refine J.tr (s_aload_n (q := 106) dX8_foldUp_105 rfl rfl) ?_
  refine J.tr (s_gf (q := 109) (v := .ref x) dX8_foldUp_106 rfl fX8_41.l (ho) (by decide) (e13)) ?_
  refine J.tr (s_iload_n (q := 110) dX8_foldUp_109 rfl rfl) ?_
  refine J.tr (s_iload (q := 112) dX8_foldUp_110 rfl rfl) ?_
  refine J.tr (s_iadd (q := 113) dX8_foldUp_112 rfl) ?_
  refine J.tr (s_nmi en) ?_
  refine J.tr (s_iald (q := 114) dX8_foldUp_113 rfl p (ha) i) ?_
  refine J.tr (s_if_ne_f (q := 117) (tg := 121) dX8_foldUp_114 (by decide) rfl c2) ?_
  refine J.tr (s_iconst (q := 118) (v := 1) dX8_foldUp_117 rfl (by decide)) ?_
  refine J.tr (s_goto (q := 122) dX8_foldUp_118 (by decide)) ?_
  refine J.tr (s_istore (q := 124) (ls' := [(6, .int 1), (0, .ref 65), (1, .int z), (2, .int n), (3, .int f), (4, .long m), (7, .long v), (9, .int k)]) dX8_foldUp_122 rfl (by decide) rfl) ?_
  refine J.tr (s_aload_n (q := 125) dX8_foldUp_124 rfl rfl) ?_
  refine J.tr (s_gf (q := 128) (v := .ref 69) dX8_foldUp_125 rfl fX8_20.l (ho) (by decide) (e5)) ?_
  refine J.tr (s_iload_n (q := 129) dX8_foldUp_128 rfl rfl) ?_
  refine J.tr (s_iald (q := 130) dX8_foldUp_129 rfl (by decide) (ha1) i1) ?_
  refine J.tr (s_iconst (q := 131) (v := 1) dX8_foldUp_130 rfl (by decide)) ?_
  refine J.tr (s_icmp_ne_f (q := 134) (tg := 149) dX8_foldUp_131 (by decide) rfl c3) ?_
  refine J.tr (s_lload (q := 136) dX8_foldUp_134 rfl rfl) ?_
  refine J.tr (s_aload_n (q := 137) dX8_foldUp_136 rfl rfl) ?_
  refine J.tr (s_gf (q := 140) (v := .ref y) dX8_foldUp_137 rfl fX8_44.l (ho) (by decide) (e14)) ?_
  refine J.tr (s_iload_n (q := 141) dX8_foldUp_140 rfl rfl) ?_
  refine J.tr (s_iload (q := 143) dX8_foldUp_141 rfl rfl) ?_
  refine J.tr (s_iadd (q := 144) dX8_foldUp_143 rfl) ?_
  refine J.tr (s_nmi en1) ?_
  refine J.tr (s_lald (q := 145) dX8_foldUp_144 rfl (ha2) i2) ?_
  refine J.tr (s_ladd (q := 146) dX8_foldUp_145 rfl) ?_
  refine J.tr (s_goto (q := 184) dX8_foldUp_146 (by decide)) ?_
  refine J.tr (s_lstore (q := 186) (ls' := [(7, .long (v + (f3 e1.toNatClampNeg))), (6, .int 1), (0, .ref 65), (1, .int z), (2, .int n), (3, .int f), (4, .long m), (9, .int k)]) dX8_foldUp_184 rfl (by decide) rfl) ?_
  refine J.tr (s_iinc (q := 189) (v := (k + 1)) (ls' := [(9, .int (k + 1)), (7, .long (v + (f3 e1.toNatClampNeg))), (6, .int 1), (0, .ref 65), (1, .int z), (2, .int n), (3, .int f), (4, .long m)]) dX8_foldUp_186 rfl (by decide) rfl rfl rfl) ?_
  refine J.tr (s_goto (q := 91) dX8_foldUp_189 (by decide)) ?_
  refine J.tr (s_ls (ls' := [(0, .ref 65), (1, .int z), (2, .int n), (3, .int f), (4, .long m), (6, .int 1), (7, .long (v + (f3 e1.toNatClampNeg))), (9, .int (k + 1))]) [3, 4, 5, 6, 7, 2, 1, 0] rfl) ?_
  exact J.rf
