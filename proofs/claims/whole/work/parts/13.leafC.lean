set_option maxRecDepth 20000 in
theorem p_X8_thrown_1 {d : Nat} (hd : 0 ≤ d) (h : AH) (o : Nat) (F : Nat → Value) (ho : h.1 o = ob 8 (fo 53 F)) (v0 : Int32) (e0 : F 0 = .int v0) : CM mX8_thrown d [.ref o] h (some (.int v0)) h := by
  show E false mX8_thrown d 0 [(0, .ref o)] [] h _ _
  refine E.st (s_aload_n (q := 1) dX8_thrown_0 rfl rfl) ?_
  refine E.st (s_gf (q := 4) (v := .int v0) dX8_thrown_1 rfl fX8_97.l (ho) (by decide) (e0)) ?_
  exact E.i dX8_thrown_4 rfl rfl rfl rfl

set_option maxRecDepth 20000 in
theorem p_X8_isNode_1 {d : Nat} (hd : 0 ≤ d) (h : AH) (o : Nat) (n : Int32) (c : n < 0) : CM mX8_isNode d [.ref o, .int n] h (some (.int 0)) h := by
  show E false mX8_isNode d 0 [(0, .ref o), (1, .int n)] [] h _ _
  refine E.st (s_iload_n (q := 1) dX8_isNode_0 rfl rfl) ?_
  refine E.st (s_if_lt_t (q := 16) dX8_isNode_1 (by decide) c) ?_
  refine E.st (s_iconst (q := 17) (v := 0) dX8_isNode_16 rfl (by decide)) ?_
  exact E.i dX8_isNode_17 rfl rfl rfl rfl

set_option maxRecDepth 20000 in
theorem p_X8_isNode_2 {d : Nat} (hd : 0 ≤ d) (h : AH) (o : Nat) (n : Int32) (c : ¬ (n < 0)) (F : Nat → Value) (ho : h.1 o = ob 8 (fo 53 F)) (v1 : Int32) (e1 : F 1 = .int v1) (c1 : v1 ≤ n) : CM mX8_isNode d [.ref o, .int n] h (some (.int 0)) h := by
  show E false mX8_isNode d 0 [(0, .ref o), (1, .int n)] [] h _ _
  refine E.st (s_iload_n (q := 1) dX8_isNode_0 rfl rfl) ?_
  refine E.st (s_if_lt_f (q := 4) (tg := 16) dX8_isNode_1 (by decide) rfl c) ?_
  refine E.st (s_iload_n (q := 5) dX8_isNode_4 rfl rfl) ?_
  refine E.st (s_aload_n (q := 6) dX8_isNode_5 rfl rfl) ?_
  refine E.st (s_gf (q := 9) (v := .int v1) dX8_isNode_6 rfl fX8_101.l (ho) (by decide) (e1)) ?_
  refine E.st (s_icmp_ge_t (q := 16) dX8_isNode_9 (by decide) c1) ?_
  refine E.st (s_iconst (q := 17) (v := 0) dX8_isNode_16 rfl (by decide)) ?_
  exact E.i dX8_isNode_17 rfl rfl rfl rfl

set_option maxRecDepth 20000 in
theorem p_X8_isNode_3 {d : Nat} (hd : 0 ≤ d) (h : AH) (o : Nat) (n : Int32) (c : ¬ (n < 0)) (F : Nat → Value) (ho : h.1 o = ob 8 (fo 53 F)) (v1 : Int32) (e1 : F 1 = .int v1) (c1 : ¬ (v1 ≤ n)) : CM mX8_isNode d [.ref o, .int n] h (some (.int 1)) h := by
  show E false mX8_isNode d 0 [(0, .ref o), (1, .int n)] [] h _ _
  refine E.st (s_iload_n (q := 1) dX8_isNode_0 rfl rfl) ?_
  refine E.st (s_if_lt_f (q := 4) (tg := 16) dX8_isNode_1 (by decide) rfl c) ?_
  refine E.st (s_iload_n (q := 5) dX8_isNode_4 rfl rfl) ?_
  refine E.st (s_aload_n (q := 6) dX8_isNode_5 rfl rfl) ?_
  refine E.st (s_gf (q := 9) (v := .int v1) dX8_isNode_6 rfl fX8_101.l (ho) (by decide) (e1)) ?_
  refine E.st (s_icmp_ge_f (q := 12) (tg := 16) dX8_isNode_9 (by decide) rfl c1) ?_
  refine E.st (s_iconst (q := 13) (v := 1) dX8_isNode_12 rfl (by decide)) ?_
  refine E.st (s_goto (q := 17) dX8_isNode_13 (by decide)) ?_
  exact E.i dX8_isNode_17 rfl rfl rfl rfl

theorem q_X8_isNode_n {d : Nat} (hd : 0 ≤ d) (h : AH) (o : Nat) (n : Int32) (F : Nat → Value) (ho : h.1 o = ob 8 (fo 53 F)) (v1 : Int32) (e1 : F 1 = .int v1) (c : n < 0 ∨ v1 ≤ n) : CM mX8_isNode d [.ref o, .int n] h (some (.int 0)) h := by
  by_cases z : n < 0
  · exact p_X8_isNode_1 hd h o n z
  · exact p_X8_isNode_2 hd h o n z F ho v1 e1 (c.resolve_left z)
theorem q_X8_isNode_y {d : Nat} (hd : 0 ≤ d) (h : AH) (o : Nat) (n : Int32) (F : Nat → Value) (ho : h.1 o = ob 8 (fo 53 F)) (v1 : Int32) (e1 : F 1 = .int v1) (c : ¬ (n < 0) ∧ ¬ (v1 ≤ n)) : CM mX8_isNode d [.ref o, .int n] h (some (.int 1)) h := p_X8_isNode_3 hd h o n c.1 F ho v1 e1 c.2

set_option maxRecDepth 20000 in
theorem p_X8_make_1 {d : Nat} (hd : 0 ≤ d) (h : AH) (o : Nat) (s : Int32) (w : Int64) (a : Int32) (b : Int32) (c : Int32) (F : Nat → Value) (ho : h.1 o = ob 8 (fo 53 F)) (v1 : Int32) (e1 : F 1 = .int v1) (c1 : ¬ v1 = 60) (r2 : Nat) (e2 : F 2 = .ref r2) (n : Nat) (f : Nat → Int32) (ha : h.1 r2 = ia n f) (i : vp_in v1 n) (p : 0 < r2) (r3 : Nat) (e3 : F 3 = .ref r3) (n1 : Nat) (f1 : Nat → Int64) (ha1 : h.1 r3 = la n1 f1) (i1 : vp_in v1 n1) (r4 : Nat) (e4 : F 4 = .ref r4) (n2 : Nat) (f2 : Nat → Int32) (ha2 : h.1 r4 = ia n2 f2) (ne : r4 ≠ r2) (i2 : vp_in v1 n2) (p1 : 0 < r4) (r5 : Nat) (e5 : F 5 = .ref r5) (n3 : Nat) (f3 : Nat → Int32) (ha3 : h.1 r5 = ia n3 f3) (ne1 : r5 ≠ r4) (ne2 : r5 ≠ r2) (i3 : vp_in v1 n3) (p2 : 0 < r5) (r6 : Nat) (e6 : F 6 = .ref r6) (n4 : Nat) (f4 : Nat → Int32) (ha4 : h.1 r6 = ia n4 f4) (ne3 : r6 ≠ r5) (ne4 : r6 ≠ r4) (ne5 : r6 ≠ r2) (i4 : vp_in v1 n4) (p3 : 0 < r6) : CM mX8_make d [.ref o, .int s, .long w, .int a, .int b, .int c] h (some (.int ((v1 + 1) - 1))) (hs (hs (hs (hs (hs (hs h r2 (ia n (upd f v1.toNatClampNeg s))) r3 (la n1 (vp_updL f1 v1.toNatClampNeg w))) r4 (ia n2 (upd f2 v1.toNatClampNeg a))) r5 (ia n3 (upd f3 v1.toNatClampNeg b))) r6 (ia n4 (upd f4 v1.toNatClampNeg c))) o (ob 8 (fo 53 (va_up F 1 (.int (v1 + 1)))))) := by
  show E false mX8_make d 0 [(0, .ref o), (1, .int s), (2, .long w), (4, .int a), (5, .int b), (6, .int c)] [] h _ _
  refine E.st (s_aload_n (q := 1) dX8_make_0 rfl rfl) ?_
  refine E.st (s_gf (q := 4) (v := .int v1) dX8_make_1 rfl fX8_101.l (ho) (by decide) (e1)) ?_
  refine E.st (s_bipush (q := 6) (v := 60) dX8_make_4 rfl (by decide)) ?_
  refine E.st (s_icmp_ne_t (q := 11) dX8_make_6 (by decide) c1) ?_
  refine E.st (s_aload_n (q := 12) dX8_make_11 rfl rfl) ?_
  refine E.st (s_gf (q := 15) (v := .ref r2) dX8_make_12 rfl fX8_9.l (ho) (by decide) (e2)) ?_
  refine E.st (s_aload_n (q := 16) dX8_make_15 rfl rfl) ?_
  refine E.st (s_gf (q := 19) (v := .int v1) dX8_make_16 rfl fX8_101.l (ho) (by decide) (e1)) ?_
  refine E.st (s_iload_n (q := 20) dX8_make_19 rfl rfl) ?_
  refine E.st (s_iast (q := 21) dX8_make_20 rfl p (ha) i) ?_
  refine E.st (s_aload_n (q := 22) dX8_make_21 rfl rfl) ?_
  refine E.st (s_gf (q := 25) (v := .ref r3) dX8_make_22 rfl fX8_13.l ((hs_ne (ne_oi ho ha)).trans (ho)) (by decide) (e3)) ?_
  refine E.st (s_aload_n (q := 26) dX8_make_25 rfl rfl) ?_
  refine E.st (s_gf (q := 29) (v := .int v1) dX8_make_26 rfl fX8_101.l ((hs_ne (ne_oi ho ha)).trans (ho)) (by decide) (e1)) ?_
  refine E.st (s_lload_n (q := 30) dX8_make_29 rfl rfl) ?_
  refine E.st (s_last (q := 31) dX8_make_30 rfl ((hs_ne (Ne.symm (ne_il ha ha1))).trans (ha1)) i1) ?_
  refine E.st (s_aload_n (q := 32) dX8_make_31 rfl rfl) ?_
  refine E.st (s_gf (q := 35) (v := .ref r4) dX8_make_32 rfl fX8_17.l ((hs_ne (ne_ol ho ha1)).trans ((hs_ne (ne_oi ho ha)).trans (ho))) (by decide) (e4)) ?_
  refine E.st (s_aload_n (q := 36) dX8_make_35 rfl rfl) ?_
  refine E.st (s_gf (q := 39) (v := .int v1) dX8_make_36 rfl fX8_101.l ((hs_ne (ne_ol ho ha1)).trans ((hs_ne (ne_oi ho ha)).trans (ho))) (by decide) (e1)) ?_
  refine E.st (s_iload (q := 41) dX8_make_39 rfl rfl) ?_
  refine E.st (s_iast (q := 42) dX8_make_41 rfl p1 ((hs_ne (ne_il ha2 ha1)).trans ((hs_ne ne).trans (ha2))) i2) ?_
  refine E.st (s_aload_n (q := 43) dX8_make_42 rfl rfl) ?_
  refine E.st (s_gf (q := 46) (v := .ref r5) dX8_make_43 rfl fX8_20.l ((hs_ne (ne_oi ho ha2)).trans ((hs_ne (ne_ol ho ha1)).trans ((hs_ne (ne_oi ho ha)).trans (ho)))) (by decide) (e5)) ?_
  refine E.st (s_aload_n (q := 47) dX8_make_46 rfl rfl) ?_
  refine E.st (s_gf (q := 50) (v := .int v1) dX8_make_47 rfl fX8_101.l ((hs_ne (ne_oi ho ha2)).trans ((hs_ne (ne_ol ho ha1)).trans ((hs_ne (ne_oi ho ha)).trans (ho)))) (by decide) (e1)) ?_
  refine E.st (s_iload (q := 52) dX8_make_50 rfl rfl) ?_
  refine E.st (s_iast (q := 53) dX8_make_52 rfl p2 ((hs_ne ne1).trans ((hs_ne (ne_il ha3 ha1)).trans ((hs_ne ne2).trans (ha3)))) i3) ?_
  refine E.st (s_aload_n (q := 54) dX8_make_53 rfl rfl) ?_
  refine E.st (s_gf (q := 57) (v := .ref r6) dX8_make_54 rfl fX8_23.l ((hs_ne (ne_oi ho ha3)).trans ((hs_ne (ne_oi ho ha2)).trans ((hs_ne (ne_ol ho ha1)).trans ((hs_ne (ne_oi ho ha)).trans (ho))))) (by decide) (e6)) ?_
  refine E.st (s_aload_n (q := 58) dX8_make_57 rfl rfl) ?_
  refine E.st (s_gf (q := 61) (v := .int v1) dX8_make_58 rfl fX8_101.l ((hs_ne (ne_oi ho ha3)).trans ((hs_ne (ne_oi ho ha2)).trans ((hs_ne (ne_ol ho ha1)).trans ((hs_ne (ne_oi ho ha)).trans (ho))))) (by decide) (e1)) ?_
  refine E.st (s_iload (q := 63) dX8_make_61 rfl rfl) ?_
  refine E.st (s_iast (q := 64) dX8_make_63 rfl p3 ((hs_ne ne3).trans ((hs_ne ne4).trans ((hs_ne (ne_il ha4 ha1)).trans ((hs_ne ne5).trans (ha4))))) i4) ?_
  refine E.st (s_aload_n (q := 65) dX8_make_64 rfl rfl) ?_
  refine E.st (s_dup (q := 66) dX8_make_65 rfl rfl) ?_
  refine E.st (s_gf (q := 69) (v := .int v1) dX8_make_66 rfl fX8_101.l ((hs_ne (ne_oi ho ha4)).trans ((hs_ne (ne_oi ho ha3)).trans ((hs_ne (ne_oi ho ha2)).trans ((hs_ne (ne_ol ho ha1)).trans ((hs_ne (ne_oi ho ha)).trans (ho)))))) (by decide) (e1)) ?_
  refine E.st (s_iconst (q := 70) (v := 1) dX8_make_69 rfl (by decide)) ?_
  refine E.st (s_iadd (q := 71) dX8_make_70 rfl) ?_
  refine E.st (s_pf (q := 74) dX8_make_71 rfl fX8_101 ((hs_ne (ne_oi ho ha4)).trans ((hs_ne (ne_oi ho ha3)).trans ((hs_ne (ne_oi ho ha2)).trans ((hs_ne (ne_ol ho ha1)).trans ((hs_ne (ne_oi ho ha)).trans (ho)))))) (by decide) (fun _ => ⟨rfl, rfl⟩)) ?_
  refine E.st (s_aload_n (q := 75) dX8_make_74 rfl rfl) ?_
  refine E.st (s_gf (q := 78) (v := .int (v1 + 1)) dX8_make_75 rfl fX8_101.l (hs_eq) (by decide) (up_eq)) ?_
  refine E.st (s_iconst (q := 79) (v := 1) dX8_make_78 rfl (by decide)) ?_
  refine E.st (s_isub (q := 80) dX8_make_79 rfl) ?_
  exact E.i dX8_make_80 rfl rfl rfl rfl

set_option maxRecDepth 20000 in
theorem p_X8_make_2 {d : Nat} (hd : 0 ≤ d) (h : AH) (o : Nat) (s : Int32) (w : Int64) (a : Int32) (b : Int32) (c : Int32) (F : Nat → Value) (ho : h.1 o = ob 8 (fo 53 F)) (v1 : Int32) (e1 : F 1 = .int v1) (c1 : v1 = 60) : CM mX8_make d [.ref o, .int s, .long w, .int a, .int b, .int c] h (some (.int (-1))) h := by
  show E false mX8_make d 0 [(0, .ref o), (1, .int s), (2, .long w), (4, .int a), (5, .int b), (6, .int c)] [] h _ _
  refine E.st (s_aload_n (q := 1) dX8_make_0 rfl rfl) ?_
  refine E.st (s_gf (q := 4) (v := .int v1) dX8_make_1 rfl fX8_101.l (ho) (by decide) (e1)) ?_
  refine E.st (s_bipush (q := 6) (v := 60) dX8_make_4 rfl (by decide)) ?_
  refine E.st (s_icmp_ne_f (q := 9) (tg := 11) dX8_make_6 (by decide) rfl c1) ?_
  refine E.st (s_iconst (q := 10) (v := (-1)) dX8_make_9 rfl (by decide)) ?_
  exact E.i dX8_make_10 rfl rfl rfl rfl

set_option maxRecDepth 20000 in
theorem p_X8_refused_1 {d : Nat} (hd : 0 ≤ d) (h : AH) (o : Nat) (b : Int32) (c : b = 0) (F : Nat → Value) (ho : h.1 o = ob 8 (fo 53 F)) (c1 : narrow .boolean (.int b) = .int b) : CM mX8_refused d [.ref o, .int b] h (some (.int b)) (hs h o (ob 8 (fo 53 (va_up F 0 (.int 0))))) := by
  show E false mX8_refused d 0 [(0, .ref o), (1, .int b)] [] h _ _
  refine E.st (s_aload_n (q := 1) dX8_refused_0 rfl rfl) ?_
  refine E.st (s_iload_n (q := 2) dX8_refused_1 rfl rfl) ?_
  refine E.st (s_if_eq_t (q := 9) dX8_refused_2 (by decide) c) ?_
  refine E.st (s_iconst (q := 10) (v := 0) dX8_refused_9 rfl (by decide)) ?_
  refine E.st (s_pf (q := 13) dX8_refused_10 rfl fX8_97 (ho) (by decide) (fun _ => ⟨rfl, rfl⟩)) ?_
  refine E.st (s_iload_n (q := 14) dX8_refused_13 rfl rfl) ?_
  exact E.i dX8_refused_14 rfl c1 rfl rfl

set_option maxRecDepth 20000 in
theorem p_X8_refused_2 {d : Nat} (hd : 0 ≤ d) (h : AH) (o : Nat) (b : Int32) (c : ¬ (b = 0)) (F : Nat → Value) (ho : h.1 o = ob 8 (fo 53 F)) (c1 : narrow .boolean (.int b) = .int b) : CM mX8_refused d [.ref o, .int b] h (some (.int b)) (hs h o (ob 8 (fo 53 (va_up F 0 (.int 1))))) := by
  show E false mX8_refused d 0 [(0, .ref o), (1, .int b)] [] h _ _
  refine E.st (s_aload_n (q := 1) dX8_refused_0 rfl rfl) ?_
  refine E.st (s_iload_n (q := 2) dX8_refused_1 rfl rfl) ?_
  refine E.st (s_if_eq_f (q := 5) (tg := 9) dX8_refused_2 (by decide) rfl c) ?_
  refine E.st (s_iconst (q := 6) (v := 1) dX8_refused_5 rfl (by decide)) ?_
  refine E.st (s_goto (q := 10) dX8_refused_6 (by decide)) ?_
  refine E.st (s_pf (q := 13) dX8_refused_10 rfl fX8_97 (ho) (by decide) (fun _ => ⟨rfl, rfl⟩)) ?_
  refine E.st (s_iload_n (q := 14) dX8_refused_13 rfl rfl) ?_
  exact E.i dX8_refused_14 rfl c1 rfl rfl

set_option maxRecDepth 20000 in
theorem p_X8_number_1 {d : Nat} (hd : 1 ≤ d) (h : AH) (o : Nat) (v : Int64) (F : Nat → Value) (ho : h.1 o = ob 8 (fo 53 F)) (v1 : Int32) (e1 : F 1 = .int v1) (c : ¬ v1 = 60) (r2 : Nat) (e2 : F 2 = .ref r2) (n : Nat) (f : Nat → Int32) (ha : h.1 r2 = ia n f) (c1 : vp_in v1 n) (p : 0 < r2) (r3 : Nat) (e3 : F 3 = .ref r3) (n1 : Nat) (f1 : Nat → Int64) (ha1 : h.1 r3 = la n1 f1) (c2 : vp_in v1 n1) (r4 : Nat) (e4 : F 4 = .ref r4) (n2 : Nat) (f2 : Nat → Int32) (ha2 : h.1 r4 = ia n2 f2) (ne : r4 ≠ r2) (c3 : vp_in v1 n2) (p1 : 0 < r4) (r5 : Nat) (e5 : F 5 = .ref r5) (n3 : Nat) (f3 : Nat → Int32) (ha3 : h.1 r5 = ia n3 f3) (ne1 : r5 ≠ r4) (ne2 : r5 ≠ r2) (c4 : vp_in v1 n3) (p2 : 0 < r5) (r6 : Nat) (e6 : F 6 = .ref r6) (n4 : Nat) (f4 : Nat → Int32) (ha4 : h.1 r6 = ia n4 f4) (ne3 : r6 ≠ r5) (ne4 : r6 ≠ r4) (ne5 : r6 ≠ r2) (c5 : vp_in v1 n4) (p3 : 0 < r6) : CM mX8_number d [.ref o, .long v] h (some (.int ((v1 + 1) - 1))) (hs (hs (hs (hs (hs (hs (hs h o (ob 8 (fo 53 (va_up F 0 (.int 0))))) r2 (ia n (upd f v1.toNatClampNeg (0 : Int32)))) r3 (la n1 (vp_updL f1 v1.toNatClampNeg v))) r4 (ia n2 (upd f2 v1.toNatClampNeg (-1 : Int32)))) r5 (ia n3 (upd f3 v1.toNatClampNeg (-1 : Int32)))) r6 (ia n4 (upd f4 v1.toNatClampNeg (-1 : Int32)))) o (ob 8 (fo 53 (va_up (va_up F 0 (.int 0)) 1 (.int (v1 + 1)))))) := by
  show E false mX8_number d 0 [(0, .ref o), (1, .long v)] [] h _ _
  refine E.st (s_aload_n (q := 1) dX8_number_0 rfl rfl) ?_
  refine E.st (s_iconst (q := 2) (v := 0) dX8_number_1 rfl (by decide)) ?_
  refine E.st (s_pf (q := 5) dX8_number_2 rfl fX8_97 (ho) (by decide) (fun _ => ⟨rfl, rfl⟩)) ?_
  refine E.st (s_aload_n (q := 6) dX8_number_5 rfl rfl) ?_
  refine E.st (s_iconst (q := 7) (v := 0) dX8_number_6 rfl (by decide)) ?_
  refine E.st (s_lload_n (q := 8) dX8_number_7 rfl rfl) ?_
  refine E.st (s_iconst (q := 9) (v := (-1)) dX8_number_8 rfl (by decide)) ?_
  refine E.st (s_iconst (q := 10) (v := (-1)) dX8_number_9 rfl (by decide)) ?_
  refine E.st (s_iconst (q := 11) (v := (-1)) dX8_number_10 rfl (by decide)) ?_
  refine E.st (p2 := 14) (l2 := [(0, .ref o), (1, .long v)]) (s2 := [.int ((v1 + 1) - 1)]) (h2 := (hs (hs (hs (hs (hs (hs (hs h o (ob 8 (fo 53 (va_up F 0 (.int 0))))) r2 (ia n (upd f v1.toNatClampNeg (0 : Int32)))) r3 (la n1 (vp_updL f1 v1.toNatClampNeg v))) r4 (ia n2 (upd f2 v1.toNatClampNeg (-1 : Int32)))) r5 (ia n3 (upd f3 v1.toNatClampNeg (-1 : Int32)))) r6 (ia n4 (upd f4 v1.toNatClampNeg (-1 : Int32)))) o (ob 8 (fo 53 (va_up (va_up F 0 (.int 0)) 1 (.int (v1 + 1))))))) (s_invv (K := mX8_make) (o := o) (as := [.int 0, .long v, .int (-1), .int (-1), .int (-1)]) (rest := []) (v := some (.int ((v1 + 1) - 1))) dX8_number_11 rfl lX8_104 (by omega) rfl (Nat.le_of_ble_eq_true rfl) rfl (Nat.le_of_ble_eq_true rfl) (hs_eq) (p_X8_make_1 (d := 0) (Nat.le_refl _) (hs h o (ob 8 (fo 53 (va_up F 0 (.int 0))))) o (0 : Int32) v (-1 : Int32) (-1 : Int32) (-1 : Int32) (va_up F 0 (.int 0)) hs_eq v1 ((up_ne (by decide)).trans (e1)) c r2 ((up_ne (by decide)).trans (e2)) n f ((hs_ne (Ne.symm (ne_oi ho ha))).trans (ha)) c1 p r3 ((up_ne (by decide)).trans (e3)) n1 f1 ((hs_ne (Ne.symm (ne_ol ho ha1))).trans (ha1)) c2 r4 ((up_ne (by decide)).trans (e4)) n2 f2 ((hs_ne (Ne.symm (ne_oi ho ha2))).trans (ha2)) ne c3 p1 r5 ((up_ne (by decide)).trans (e5)) n3 f3 ((hs_ne (Ne.symm (ne_oi ho ha3))).trans (ha3)) ne1 ne2 c4 p2 r6 ((up_ne (by decide)).trans (e6)) n4 f4 ((hs_ne (Ne.symm (ne_oi ho ha4))).trans (ha4)) ne3 ne4 ne5 c5 p3) (fun h => nomatch h)) ?_
  exact E.i dX8_number_14 rfl rfl rfl rfl

set_option maxRecDepth 20000 in
theorem p_X8_number_2 {d : Nat} (hd : 1 ≤ d) (h : AH) (o : Nat) (v : Int64) (F : Nat → Value) (ho : h.1 o = ob 8 (fo 53 F)) (v1 : Int32) (e1 : F 1 = .int v1) (c : v1 = 60) : CM mX8_number d [.ref o, .long v] h (some (.int (-1))) (hs h o (ob 8 (fo 53 (va_up F 0 (.int 0))))) := by
  show E false mX8_number d 0 [(0, .ref o), (1, .long v)] [] h _ _
  refine E.st (s_aload_n (q := 1) dX8_number_0 rfl rfl) ?_
  refine E.st (s_iconst (q := 2) (v := 0) dX8_number_1 rfl (by decide)) ?_
  refine E.st (s_pf (q := 5) dX8_number_2 rfl fX8_97 (ho) (by decide) (fun _ => ⟨rfl, rfl⟩)) ?_
  refine E.st (s_aload_n (q := 6) dX8_number_5 rfl rfl) ?_
  refine E.st (s_iconst (q := 7) (v := 0) dX8_number_6 rfl (by decide)) ?_
  refine E.st (s_lload_n (q := 8) dX8_number_7 rfl rfl) ?_
  refine E.st (s_iconst (q := 9) (v := (-1)) dX8_number_8 rfl (by decide)) ?_
  refine E.st (s_iconst (q := 10) (v := (-1)) dX8_number_9 rfl (by decide)) ?_
  refine E.st (s_iconst (q := 11) (v := (-1)) dX8_number_10 rfl (by decide)) ?_
  refine E.st (p2 := 14) (l2 := [(0, .ref o), (1, .long v)]) (s2 := [.int (-1)]) (h2 := (hs h o (ob 8 (fo 53 (va_up F 0 (.int 0)))))) (s_invv (K := mX8_make) (o := o) (as := [.int 0, .long v, .int (-1), .int (-1), .int (-1)]) (rest := []) (v := some (.int (-1))) dX8_number_11 rfl lX8_104 (by omega) rfl (Nat.le_of_ble_eq_true rfl) rfl (Nat.le_of_ble_eq_true rfl) (hs_eq) (p_X8_make_2 (d := 0) (Nat.le_refl _) (hs h o (ob 8 (fo 53 (va_up F 0 (.int 0))))) o (0 : Int32) v (-1 : Int32) (-1 : Int32) (-1 : Int32) (va_up F 0 (.int 0)) hs_eq v1 ((up_ne (by decide)).trans (e1)) c) (fun h => nomatch h)) ?_
  exact E.i dX8_number_14 rfl rfl rfl rfl

set_option maxRecDepth 20000 in
theorem p_X8_fail_1 {d : Nat} (hd : 1 ≤ d) (h : AH) (o : Nat) (F : Nat → Value) (ho : h.1 o = ob 8 (fo 53 F)) (v1 : Int32) (e1 : F 1 = .int v1) (c : ¬ v1 = 60) (r2 : Nat) (e2 : F 2 = .ref r2) (n : Nat) (f : Nat → Int32) (ha : h.1 r2 = ia n f) (c1 : vp_in v1 n) (p : 0 < r2) (r3 : Nat) (e3 : F 3 = .ref r3) (n1 : Nat) (f1 : Nat → Int64) (ha1 : h.1 r3 = la n1 f1) (c2 : vp_in v1 n1) (r4 : Nat) (e4 : F 4 = .ref r4) (n2 : Nat) (f2 : Nat → Int32) (ha2 : h.1 r4 = ia n2 f2) (ne : r4 ≠ r2) (c3 : vp_in v1 n2) (p1 : 0 < r4) (r5 : Nat) (e5 : F 5 = .ref r5) (n3 : Nat) (f3 : Nat → Int32) (ha3 : h.1 r5 = ia n3 f3) (ne1 : r5 ≠ r4) (ne2 : r5 ≠ r2) (c4 : vp_in v1 n3) (p2 : 0 < r5) (r6 : Nat) (e6 : F 6 = .ref r6) (n4 : Nat) (f4 : Nat → Int32) (ha4 : h.1 r6 = ia n4 f4) (ne3 : r6 ≠ r5) (ne4 : r6 ≠ r4) (ne5 : r6 ≠ r2) (c5 : vp_in v1 n4) (p3 : 0 < r6) : CM mX8_fail d [.ref o] h (some (.int ((v1 + 1) - 1))) (hs (hs (hs (hs (hs (hs (hs h o (ob 8 (fo 53 (va_up F 0 (.int 0))))) r2 (ia n (upd f v1.toNatClampNeg (2 : Int32)))) r3 (la n1 (vp_updL f1 v1.toNatClampNeg (0 : Int64)))) r4 (ia n2 (upd f2 v1.toNatClampNeg (-1 : Int32)))) r5 (ia n3 (upd f3 v1.toNatClampNeg (-1 : Int32)))) r6 (ia n4 (upd f4 v1.toNatClampNeg (-1 : Int32)))) o (ob 8 (fo 53 (va_up (va_up F 0 (.int 0)) 1 (.int (v1 + 1)))))) := by
  show E false mX8_fail d 0 [(0, .ref o)] [] h _ _
  refine E.st (s_aload_n (q := 1) dX8_fail_0 rfl rfl) ?_
  refine E.st (s_iconst (q := 2) (v := 0) dX8_fail_1 rfl (by decide)) ?_
  refine E.st (s_pf (q := 5) dX8_fail_2 rfl fX8_97 (ho) (by decide) (fun _ => ⟨rfl, rfl⟩)) ?_
  refine E.st (s_aload_n (q := 6) dX8_fail_5 rfl rfl) ?_
  refine E.st (s_iconst (q := 7) (v := 2) dX8_fail_6 rfl (by decide)) ?_
  refine E.st (s_lconst (q := 8) (v := 0) dX8_fail_7 rfl (by decide)) ?_
  refine E.st (s_iconst (q := 9) (v := (-1)) dX8_fail_8 rfl (by decide)) ?_
  refine E.st (s_iconst (q := 10) (v := (-1)) dX8_fail_9 rfl (by decide)) ?_
  refine E.st (s_iconst (q := 11) (v := (-1)) dX8_fail_10 rfl (by decide)) ?_
  refine E.st (p2 := 14) (l2 := [(0, .ref o)]) (s2 := [.int ((v1 + 1) - 1)]) (h2 := (hs (hs (hs (hs (hs (hs (hs h o (ob 8 (fo 53 (va_up F 0 (.int 0))))) r2 (ia n (upd f v1.toNatClampNeg (2 : Int32)))) r3 (la n1 (vp_updL f1 v1.toNatClampNeg (0 : Int64)))) r4 (ia n2 (upd f2 v1.toNatClampNeg (-1 : Int32)))) r5 (ia n3 (upd f3 v1.toNatClampNeg (-1 : Int32)))) r6 (ia n4 (upd f4 v1.toNatClampNeg (-1 : Int32)))) o (ob 8 (fo 53 (va_up (va_up F 0 (.int 0)) 1 (.int (v1 + 1))))))) (s_invv (K := mX8_make) (o := o) (as := [.int 2, .long 0, .int (-1), .int (-1), .int (-1)]) (rest := []) (v := some (.int ((v1 + 1) - 1))) dX8_fail_11 rfl lX8_104 (by omega) rfl (Nat.le_of_ble_eq_true rfl) rfl (Nat.le_of_ble_eq_true rfl) (hs_eq) (p_X8_make_1 (d := 0) (Nat.le_refl _) (hs h o (ob 8 (fo 53 (va_up F 0 (.int 0))))) o (2 : Int32) (0 : Int64) (-1 : Int32) (-1 : Int32) (-1 : Int32) (va_up F 0 (.int 0)) hs_eq v1 ((up_ne (by decide)).trans (e1)) c r2 ((up_ne (by decide)).trans (e2)) n f ((hs_ne (Ne.symm (ne_oi ho ha))).trans (ha)) c1 p r3 ((up_ne (by decide)).trans (e3)) n1 f1 ((hs_ne (Ne.symm (ne_ol ho ha1))).trans (ha1)) c2 r4 ((up_ne (by decide)).trans (e4)) n2 f2 ((hs_ne (Ne.symm (ne_oi ho ha2))).trans (ha2)) ne c3 p1 r5 ((up_ne (by decide)).trans (e5)) n3 f3 ((hs_ne (Ne.symm (ne_oi ho ha3))).trans (ha3)) ne1 ne2 c4 p2 r6 ((up_ne (by decide)).trans (e6)) n4 f4 ((hs_ne (Ne.symm (ne_oi ho ha4))).trans (ha4)) ne3 ne4 ne5 c5 p3) (fun h => nomatch h)) ?_
  exact E.i dX8_fail_14 rfl rfl rfl rfl

set_option maxRecDepth 20000 in
theorem p_X8_fail_2 {d : Nat} (hd : 1 ≤ d) (h : AH) (o : Nat) (F : Nat → Value) (ho : h.1 o = ob 8 (fo 53 F)) (v1 : Int32) (e1 : F 1 = .int v1) (c : v1 = 60) : CM mX8_fail d [.ref o] h (some (.int (-1))) (hs h o (ob 8 (fo 53 (va_up F 0 (.int 0))))) := by
  show E false mX8_fail d 0 [(0, .ref o)] [] h _ _
  refine E.st (s_aload_n (q := 1) dX8_fail_0 rfl rfl) ?_
  refine E.st (s_iconst (q := 2) (v := 0) dX8_fail_1 rfl (by decide)) ?_
  refine E.st (s_pf (q := 5) dX8_fail_2 rfl fX8_97 (ho) (by decide) (fun _ => ⟨rfl, rfl⟩)) ?_
  refine E.st (s_aload_n (q := 6) dX8_fail_5 rfl rfl) ?_
  refine E.st (s_iconst (q := 7) (v := 2) dX8_fail_6 rfl (by decide)) ?_
  refine E.st (s_lconst (q := 8) (v := 0) dX8_fail_7 rfl (by decide)) ?_
  refine E.st (s_iconst (q := 9) (v := (-1)) dX8_fail_8 rfl (by decide)) ?_
  refine E.st (s_iconst (q := 10) (v := (-1)) dX8_fail_9 rfl (by decide)) ?_
  refine E.st (s_iconst (q := 11) (v := (-1)) dX8_fail_10 rfl (by decide)) ?_
  refine E.st (p2 := 14) (l2 := [(0, .ref o)]) (s2 := [.int (-1)]) (h2 := (hs h o (ob 8 (fo 53 (va_up F 0 (.int 0)))))) (s_invv (K := mX8_make) (o := o) (as := [.int 2, .long 0, .int (-1), .int (-1), .int (-1)]) (rest := []) (v := some (.int (-1))) dX8_fail_11 rfl lX8_104 (by omega) rfl (Nat.le_of_ble_eq_true rfl) rfl (Nat.le_of_ble_eq_true rfl) (hs_eq) (p_X8_make_2 (d := 0) (Nat.le_refl _) (hs h o (ob 8 (fo 53 (va_up F 0 (.int 0))))) o (2 : Int32) (0 : Int64) (-1 : Int32) (-1 : Int32) (-1 : Int32) (va_up F 0 (.int 0)) hs_eq v1 ((up_ne (by decide)).trans (e1)) c) (fun h => nomatch h)) ?_
  exact E.i dX8_fail_14 rfl rfl rfl rfl

set_option maxRecDepth 20000 in
theorem p_X8_choice_1 {d : Nat} (hd : 1 ≤ d) (h : AH) (o : Nat) (a : Int32) (b : Int32) (F : Nat → Value) (ho : h.1 o = ob 8 (fo 53 F)) (v1 : Int32) (e1 : F 1 = .int v1) (c : a < 0 ∨ v1 ≤ a) : CM mX8_choice d [.ref o, .int a, .int b] h (some (.int 0)) (hs h o (ob 8 (fo 53 (va_up F 0 (.int 1))))) := by
  show E false mX8_choice d 0 [(0, .ref o), (1, .int a), (2, .int b)] [] h _ _
  refine E.st (s_aload_n (q := 1) dX8_choice_0 rfl rfl) ?_
  refine E.st (s_aload_n (q := 2) dX8_choice_1 rfl rfl) ?_
  refine E.st (s_iload_n (q := 3) dX8_choice_2 rfl rfl) ?_
  refine E.st (p2 := 6) (l2 := [(0, .ref o), (1, .int a), (2, .int b)]) (s2 := [.int 0, .ref o]) (h2 := h) (s_invv (K := mX8_isNode) (o := o) (as := [.int a]) (rest := [.ref o]) (v := some (.int 0)) dX8_choice_3 rfl lX8_108 (by omega) rfl (Nat.le_of_ble_eq_true rfl) rfl (Nat.le_of_ble_eq_true rfl) (ho) (q_X8_isNode_n (d := 0) (Nat.le_refl _) h o a F ho v1 e1 c) (fun h => nomatch h)) ?_
  refine E.st (s_if_eq_t (q := 17) dX8_choice_6 (by decide) (by decide)) ?_
  refine E.st (s_iconst (q := 18) (v := 1) dX8_choice_17 rfl (by decide)) ?_
  refine E.st (s_goto (q := 22) dX8_choice_18 (by decide)) ?_
  refine E.st (p2 := 25) (l2 := [(0, .ref o), (1, .int a), (2, .int b)]) (s2 := [.int (1 : Int32)]) (h2 := (hs h o (ob 8 (fo 53 (va_up F 0 (.int 1)))))) (s_invv (K := mX8_refused) (o := o) (as := [.int 1]) (rest := []) (v := some (.int (1 : Int32))) dX8_choice_22 rfl lX8_112 (by omega) rfl (Nat.le_of_ble_eq_true rfl) rfl (Nat.le_of_ble_eq_true rfl) (ho) (p_X8_refused_2 (d := 0) (Nat.le_refl _) h o (1 : Int32) (by decide) F ho rfl) (fun h => nomatch h)) ?_
  refine E.st (s_if_eq_f (q := 28) (tg := 32) dX8_choice_25 (by decide) rfl (by decide)) ?_
  refine E.st (s_iconst (q := 29) (v := 0) dX8_choice_28 rfl (by decide)) ?_
  refine E.st (s_goto (q := 41) dX8_choice_29 (by decide)) ?_
  exact E.i dX8_choice_41 rfl rfl rfl rfl

set_option maxRecDepth 20000 in
theorem p_X8_choice_2 {d : Nat} (hd : 1 ≤ d) (h : AH) (o : Nat) (a : Int32) (b : Int32) (F : Nat → Value) (ho : h.1 o = ob 8 (fo 53 F)) (v1 : Int32) (e1 : F 1 = .int v1) (c : ¬ (a < 0) ∧ ¬ (v1 ≤ a)) (c1 : b < 0 ∨ v1 ≤ b) : CM mX8_choice d [.ref o, .int a, .int b] h (some (.int 0)) (hs h o (ob 8 (fo 53 (va_up F 0 (.int 1))))) := by
  show E false mX8_choice d 0 [(0, .ref o), (1, .int a), (2, .int b)] [] h _ _
  refine E.st (s_aload_n (q := 1) dX8_choice_0 rfl rfl) ?_
  refine E.st (s_aload_n (q := 2) dX8_choice_1 rfl rfl) ?_
  refine E.st (s_iload_n (q := 3) dX8_choice_2 rfl rfl) ?_
  refine E.st (p2 := 6) (l2 := [(0, .ref o), (1, .int a), (2, .int b)]) (s2 := [.int 1, .ref o]) (h2 := h) (s_invv (K := mX8_isNode) (o := o) (as := [.int a]) (rest := [.ref o]) (v := some (.int 1)) dX8_choice_3 rfl lX8_108 (by omega) rfl (Nat.le_of_ble_eq_true rfl) rfl (Nat.le_of_ble_eq_true rfl) (ho) (q_X8_isNode_y (d := 0) (Nat.le_refl _) h o a F ho v1 e1 c) (fun h => nomatch h)) ?_
  refine E.st (s_if_eq_f (q := 9) (tg := 17) dX8_choice_6 (by decide) rfl (by decide)) ?_
  refine E.st (s_aload_n (q := 10) dX8_choice_9 rfl rfl) ?_
  refine E.st (s_iload_n (q := 11) dX8_choice_10 rfl rfl) ?_
  refine E.st (p2 := 14) (l2 := [(0, .ref o), (1, .int a), (2, .int b)]) (s2 := [.int 0, .ref o]) (h2 := h) (s_invv (K := mX8_isNode) (o := o) (as := [.int b]) (rest := [.ref o]) (v := some (.int 0)) dX8_choice_11 rfl lX8_108 (by omega) rfl (Nat.le_of_ble_eq_true rfl) rfl (Nat.le_of_ble_eq_true rfl) (ho) (q_X8_isNode_n (d := 0) (Nat.le_refl _) h o b F ho v1 e1 c1) (fun h => nomatch h)) ?_
  refine E.st (s_if_ne_f (q := 17) (tg := 21) dX8_choice_14 (by decide) rfl (by decide)) ?_
  refine E.st (s_iconst (q := 18) (v := 1) dX8_choice_17 rfl (by decide)) ?_
  refine E.st (s_goto (q := 22) dX8_choice_18 (by decide)) ?_
  refine E.st (p2 := 25) (l2 := [(0, .ref o), (1, .int a), (2, .int b)]) (s2 := [.int (1 : Int32)]) (h2 := (hs h o (ob 8 (fo 53 (va_up F 0 (.int 1)))))) (s_invv (K := mX8_refused) (o := o) (as := [.int 1]) (rest := []) (v := some (.int (1 : Int32))) dX8_choice_22 rfl lX8_112 (by omega) rfl (Nat.le_of_ble_eq_true rfl) rfl (Nat.le_of_ble_eq_true rfl) (ho) (p_X8_refused_2 (d := 0) (Nat.le_refl _) h o (1 : Int32) (by decide) F ho rfl) (fun h => nomatch h)) ?_
  refine E.st (s_if_eq_f (q := 28) (tg := 32) dX8_choice_25 (by decide) rfl (by decide)) ?_
  refine E.st (s_iconst (q := 29) (v := 0) dX8_choice_28 rfl (by decide)) ?_
  refine E.st (s_goto (q := 41) dX8_choice_29 (by decide)) ?_
  exact E.i dX8_choice_41 rfl rfl rfl rfl

set_option maxRecDepth 20000 in
theorem p_X8_choice_3 {d : Nat} (hd : 1 ≤ d) (h : AH) (o : Nat) (a : Int32) (b : Int32) (F : Nat → Value) (ho : h.1 o = ob 8 (fo 53 F)) (v1 : Int32) (e1 : F 1 = .int v1) (c : ¬ (a < 0) ∧ ¬ (v1 ≤ a)) (c1 : ¬ (b < 0) ∧ ¬ (v1 ≤ b)) (c2 : ¬ v1 = 60) (r2 : Nat) (e2 : F 2 = .ref r2) (n : Nat) (f : Nat → Int32) (ha : h.1 r2 = ia n f) (c3 : vp_in v1 n) (p : 0 < r2) (r3 : Nat) (e3 : F 3 = .ref r3) (n1 : Nat) (f1 : Nat → Int64) (ha1 : h.1 r3 = la n1 f1) (c4 : vp_in v1 n1) (r4 : Nat) (e4 : F 4 = .ref r4) (n2 : Nat) (f2 : Nat → Int32) (ha2 : h.1 r4 = ia n2 f2) (ne : r4 ≠ r2) (c5 : vp_in v1 n2) (p1 : 0 < r4) (r5 : Nat) (e5 : F 5 = .ref r5) (n3 : Nat) (f3 : Nat → Int32) (ha3 : h.1 r5 = ia n3 f3) (ne1 : r5 ≠ r4) (ne2 : r5 ≠ r2) (c6 : vp_in v1 n3) (p2 : 0 < r5) (r6 : Nat) (e6 : F 6 = .ref r6) (n4 : Nat) (f4 : Nat → Int32) (ha4 : h.1 r6 = ia n4 f4) (ne3 : r6 ≠ r5) (ne4 : r6 ≠ r4) (ne5 : r6 ≠ r2) (c7 : vp_in v1 n4) (p3 : 0 < r6) : CM mX8_choice d [.ref o, .int a, .int b] h (some (.int ((v1 + 1) - 1))) (hs (hs (hs (hs (hs (hs (hs h o (ob 8 (fo 53 (va_up F 0 (.int 0))))) r2 (ia n (upd f v1.toNatClampNeg (1 : Int32)))) r3 (la n1 (vp_updL f1 v1.toNatClampNeg (0 : Int64)))) r4 (ia n2 (upd f2 v1.toNatClampNeg a))) r5 (ia n3 (upd f3 v1.toNatClampNeg b))) r6 (ia n4 (upd f4 v1.toNatClampNeg (-1 : Int32)))) o (ob 8 (fo 53 (va_up (va_up F 0 (.int 0)) 1 (.int (v1 + 1)))))) := by
  show E false mX8_choice d 0 [(0, .ref o), (1, .int a), (2, .int b)] [] h _ _
  refine E.st (s_aload_n (q := 1) dX8_choice_0 rfl rfl) ?_
  refine E.st (s_aload_n (q := 2) dX8_choice_1 rfl rfl) ?_
  refine E.st (s_iload_n (q := 3) dX8_choice_2 rfl rfl) ?_
  refine E.st (p2 := 6) (l2 := [(0, .ref o), (1, .int a), (2, .int b)]) (s2 := [.int 1, .ref o]) (h2 := h) (s_invv (K := mX8_isNode) (o := o) (as := [.int a]) (rest := [.ref o]) (v := some (.int 1)) dX8_choice_3 rfl lX8_108 (by omega) rfl (Nat.le_of_ble_eq_true rfl) rfl (Nat.le_of_ble_eq_true rfl) (ho) (q_X8_isNode_y (d := 0) (Nat.le_refl _) h o a F ho v1 e1 c) (fun h => nomatch h)) ?_
  refine E.st (s_if_eq_f (q := 9) (tg := 17) dX8_choice_6 (by decide) rfl (by decide)) ?_
  refine E.st (s_aload_n (q := 10) dX8_choice_9 rfl rfl) ?_
  refine E.st (s_iload_n (q := 11) dX8_choice_10 rfl rfl) ?_
  refine E.st (p2 := 14) (l2 := [(0, .ref o), (1, .int a), (2, .int b)]) (s2 := [.int 1, .ref o]) (h2 := h) (s_invv (K := mX8_isNode) (o := o) (as := [.int b]) (rest := [.ref o]) (v := some (.int 1)) dX8_choice_11 rfl lX8_108 (by omega) rfl (Nat.le_of_ble_eq_true rfl) rfl (Nat.le_of_ble_eq_true rfl) (ho) (q_X8_isNode_y (d := 0) (Nat.le_refl _) h o b F ho v1 e1 c1) (fun h => nomatch h)) ?_
  refine E.st (s_if_ne_t (q := 21) dX8_choice_14 (by decide) (by decide)) ?_
  refine E.st (s_iconst (q := 22) (v := 0) dX8_choice_21 rfl (by decide)) ?_
  refine E.st (p2 := 25) (l2 := [(0, .ref o), (1, .int a), (2, .int b)]) (s2 := [.int (0 : Int32)]) (h2 := (hs h o (ob 8 (fo 53 (va_up F 0 (.int 0)))))) (s_invv (K := mX8_refused) (o := o) (as := [.int 0]) (rest := []) (v := some (.int (0 : Int32))) dX8_choice_22 rfl lX8_112 (by omega) rfl (Nat.le_of_ble_eq_true rfl) rfl (Nat.le_of_ble_eq_true rfl) (ho) (p_X8_refused_1 (d := 0) (Nat.le_refl _) h o (0 : Int32) (by decide) F ho rfl) (fun h => nomatch h)) ?_
  refine E.st (s_if_eq_t (q := 32) dX8_choice_25 (by decide) (by decide)) ?_
  refine E.st (s_aload_n (q := 33) dX8_choice_32 rfl rfl) ?_
  refine E.st (s_iconst (q := 34) (v := 1) dX8_choice_33 rfl (by decide)) ?_
  refine E.st (s_lconst (q := 35) (v := 0) dX8_choice_34 rfl (by decide)) ?_
  refine E.st (s_iload_n (q := 36) dX8_choice_35 rfl rfl) ?_
  refine E.st (s_iload_n (q := 37) dX8_choice_36 rfl rfl) ?_
  refine E.st (s_iconst (q := 38) (v := (-1)) dX8_choice_37 rfl (by decide)) ?_
  refine E.st (p2 := 41) (l2 := [(0, .ref o), (1, .int a), (2, .int b)]) (s2 := [.int ((v1 + 1) - 1)]) (h2 := (hs (hs (hs (hs (hs (hs (hs h o (ob 8 (fo 53 (va_up F 0 (.int 0))))) r2 (ia n (upd f v1.toNatClampNeg (1 : Int32)))) r3 (la n1 (vp_updL f1 v1.toNatClampNeg (0 : Int64)))) r4 (ia n2 (upd f2 v1.toNatClampNeg a))) r5 (ia n3 (upd f3 v1.toNatClampNeg b))) r6 (ia n4 (upd f4 v1.toNatClampNeg (-1 : Int32)))) o (ob 8 (fo 53 (va_up (va_up F 0 (.int 0)) 1 (.int (v1 + 1))))))) (s_invv (K := mX8_make) (o := o) (as := [.int 1, .long 0, .int a, .int b, .int (-1)]) (rest := []) (v := some (.int ((v1 + 1) - 1))) dX8_choice_38 rfl lX8_104 (by omega) rfl (Nat.le_of_ble_eq_true rfl) rfl (Nat.le_of_ble_eq_true rfl) (hs_eq) (p_X8_make_1 (d := 0) (Nat.le_refl _) (hs h o (ob 8 (fo 53 (va_up F 0 (.int 0))))) o (1 : Int32) (0 : Int64) a b (-1 : Int32) (va_up F 0 (.int 0)) hs_eq v1 ((up_ne (by decide)).trans (e1)) c2 r2 ((up_ne (by decide)).trans (e2)) n f ((hs_ne (Ne.symm (ne_oi ho ha))).trans (ha)) c3 p r3 ((up_ne (by decide)).trans (e3)) n1 f1 ((hs_ne (Ne.symm (ne_ol ho ha1))).trans (ha1)) c4 r4 ((up_ne (by decide)).trans (e4)) n2 f2 ((hs_ne (Ne.symm (ne_oi ho ha2))).trans (ha2)) ne c5 p1 r5 ((up_ne (by decide)).trans (e5)) n3 f3 ((hs_ne (Ne.symm (ne_oi ho ha3))).trans (ha3)) ne1 ne2 c6 p2 r6 ((up_ne (by decide)).trans (e6)) n4 f4 ((hs_ne (Ne.symm (ne_oi ho ha4))).trans (ha4)) ne3 ne4 ne5 c7 p3) (fun h => nomatch h)) ?_
  exact E.i dX8_choice_41 rfl rfl rfl rfl

set_option maxRecDepth 20000 in
theorem p_X8_choice_4 {d : Nat} (hd : 1 ≤ d) (h : AH) (o : Nat) (a : Int32) (b : Int32) (F : Nat → Value) (ho : h.1 o = ob 8 (fo 53 F)) (v1 : Int32) (e1 : F 1 = .int v1) (c : ¬ (a < 0) ∧ ¬ (v1 ≤ a)) (c1 : ¬ (b < 0) ∧ ¬ (v1 ≤ b)) (c2 : v1 = 60) : CM mX8_choice d [.ref o, .int a, .int b] h (some (.int (-1))) (hs h o (ob 8 (fo 53 (va_up F 0 (.int 0))))) := by
  show E false mX8_choice d 0 [(0, .ref o), (1, .int a), (2, .int b)] [] h _ _
  refine E.st (s_aload_n (q := 1) dX8_choice_0 rfl rfl) ?_
  refine E.st (s_aload_n (q := 2) dX8_choice_1 rfl rfl) ?_
  refine E.st (s_iload_n (q := 3) dX8_choice_2 rfl rfl) ?_
  refine E.st (p2 := 6) (l2 := [(0, .ref o), (1, .int a), (2, .int b)]) (s2 := [.int 1, .ref o]) (h2 := h) (s_invv (K := mX8_isNode) (o := o) (as := [.int a]) (rest := [.ref o]) (v := some (.int 1)) dX8_choice_3 rfl lX8_108 (by omega) rfl (Nat.le_of_ble_eq_true rfl) rfl (Nat.le_of_ble_eq_true rfl) (ho) (q_X8_isNode_y (d := 0) (Nat.le_refl _) h o a F ho v1 e1 c) (fun h => nomatch h)) ?_
  refine E.st (s_if_eq_f (q := 9) (tg := 17) dX8_choice_6 (by decide) rfl (by decide)) ?_
  refine E.st (s_aload_n (q := 10) dX8_choice_9 rfl rfl) ?_
  refine E.st (s_iload_n (q := 11) dX8_choice_10 rfl rfl) ?_
  refine E.st (p2 := 14) (l2 := [(0, .ref o), (1, .int a), (2, .int b)]) (s2 := [.int 1, .ref o]) (h2 := h) (s_invv (K := mX8_isNode) (o := o) (as := [.int b]) (rest := [.ref o]) (v := some (.int 1)) dX8_choice_11 rfl lX8_108 (by omega) rfl (Nat.le_of_ble_eq_true rfl) rfl (Nat.le_of_ble_eq_true rfl) (ho) (q_X8_isNode_y (d := 0) (Nat.le_refl _) h o b F ho v1 e1 c1) (fun h => nomatch h)) ?_
  refine E.st (s_if_ne_t (q := 21) dX8_choice_14 (by decide) (by decide)) ?_
  refine E.st (s_iconst (q := 22) (v := 0) dX8_choice_21 rfl (by decide)) ?_
  refine E.st (p2 := 25) (l2 := [(0, .ref o), (1, .int a), (2, .int b)]) (s2 := [.int (0 : Int32)]) (h2 := (hs h o (ob 8 (fo 53 (va_up F 0 (.int 0)))))) (s_invv (K := mX8_refused) (o := o) (as := [.int 0]) (rest := []) (v := some (.int (0 : Int32))) dX8_choice_22 rfl lX8_112 (by omega) rfl (Nat.le_of_ble_eq_true rfl) rfl (Nat.le_of_ble_eq_true rfl) (ho) (p_X8_refused_1 (d := 0) (Nat.le_refl _) h o (0 : Int32) (by decide) F ho rfl) (fun h => nomatch h)) ?_
  refine E.st (s_if_eq_t (q := 32) dX8_choice_25 (by decide) (by decide)) ?_
  refine E.st (s_aload_n (q := 33) dX8_choice_32 rfl rfl) ?_
  refine E.st (s_iconst (q := 34) (v := 1) dX8_choice_33 rfl (by decide)) ?_
  refine E.st (s_lconst (q := 35) (v := 0) dX8_choice_34 rfl (by decide)) ?_
  refine E.st (s_iload_n (q := 36) dX8_choice_35 rfl rfl) ?_
  refine E.st (s_iload_n (q := 37) dX8_choice_36 rfl rfl) ?_
  refine E.st (s_iconst (q := 38) (v := (-1)) dX8_choice_37 rfl (by decide)) ?_
  refine E.st (p2 := 41) (l2 := [(0, .ref o), (1, .int a), (2, .int b)]) (s2 := [.int (-1)]) (h2 := (hs h o (ob 8 (fo 53 (va_up F 0 (.int 0)))))) (s_invv (K := mX8_make) (o := o) (as := [.int 1, .long 0, .int a, .int b, .int (-1)]) (rest := []) (v := some (.int (-1))) dX8_choice_38 rfl lX8_104 (by omega) rfl (Nat.le_of_ble_eq_true rfl) rfl (Nat.le_of_ble_eq_true rfl) (hs_eq) (p_X8_make_2 (d := 0) (Nat.le_refl _) (hs h o (ob 8 (fo 53 (va_up F 0 (.int 0))))) o (1 : Int32) (0 : Int64) a b (-1 : Int32) (va_up F 0 (.int 0)) hs_eq v1 ((up_ne (by decide)).trans (e1)) c2) (fun h => nomatch h)) ?_
  exact E.i dX8_choice_41 rfl rfl rfl rfl

set_option maxRecDepth 20000 in
theorem p_X8_pair_1 {d : Nat} (hd : 1 ≤ d) (h : AH) (o : Nat) (a : Int32) (b : Int32) (F : Nat → Value) (ho : h.1 o = ob 8 (fo 53 F)) (v1 : Int32) (e1 : F 1 = .int v1) (c : a < 0 ∨ v1 ≤ a) : CM mX8_pair d [.ref o, .int a, .int b] h (some (.int 0)) (hs h o (ob 8 (fo 53 (va_up F 0 (.int 1))))) := by
  show E false mX8_pair d 0 [(0, .ref o), (1, .int a), (2, .int b)] [] h _ _
  refine E.st (s_aload_n (q := 1) dX8_pair_0 rfl rfl) ?_
  refine E.st (s_aload_n (q := 2) dX8_pair_1 rfl rfl) ?_
  refine E.st (s_iload_n (q := 3) dX8_pair_2 rfl rfl) ?_
  refine E.st (p2 := 6) (l2 := [(0, .ref o), (1, .int a), (2, .int b)]) (s2 := [.int 0, .ref o]) (h2 := h) (s_invv (K := mX8_isNode) (o := o) (as := [.int a]) (rest := [.ref o]) (v := some (.int 0)) dX8_pair_3 rfl lX8_108 (by omega) rfl (Nat.le_of_ble_eq_true rfl) rfl (Nat.le_of_ble_eq_true rfl) (ho) (q_X8_isNode_n (d := 0) (Nat.le_refl _) h o a F ho v1 e1 c) (fun h => nomatch h)) ?_
  refine E.st (s_if_eq_t (q := 17) dX8_pair_6 (by decide) (by decide)) ?_
  refine E.st (s_iconst (q := 18) (v := 1) dX8_pair_17 rfl (by decide)) ?_
  refine E.st (s_goto (q := 22) dX8_pair_18 (by decide)) ?_
  refine E.st (p2 := 25) (l2 := [(0, .ref o), (1, .int a), (2, .int b)]) (s2 := [.int (1 : Int32)]) (h2 := (hs h o (ob 8 (fo 53 (va_up F 0 (.int 1)))))) (s_invv (K := mX8_refused) (o := o) (as := [.int 1]) (rest := []) (v := some (.int (1 : Int32))) dX8_pair_22 rfl lX8_112 (by omega) rfl (Nat.le_of_ble_eq_true rfl) rfl (Nat.le_of_ble_eq_true rfl) (ho) (p_X8_refused_2 (d := 0) (Nat.le_refl _) h o (1 : Int32) (by decide) F ho rfl) (fun h => nomatch h)) ?_
  refine E.st (s_if_eq_f (q := 28) (tg := 32) dX8_pair_25 (by decide) rfl (by decide)) ?_
  refine E.st (s_iconst (q := 29) (v := 0) dX8_pair_28 rfl (by decide)) ?_
  refine E.st (s_goto (q := 41) dX8_pair_29 (by decide)) ?_
  exact E.i dX8_pair_41 rfl rfl rfl rfl

set_option maxRecDepth 20000 in
theorem p_X8_pair_2 {d : Nat} (hd : 1 ≤ d) (h : AH) (o : Nat) (a : Int32) (b : Int32) (F : Nat → Value) (ho : h.1 o = ob 8 (fo 53 F)) (v1 : Int32) (e1 : F 1 = .int v1) (c : ¬ (a < 0) ∧ ¬ (v1 ≤ a)) (c1 : b < 0 ∨ v1 ≤ b) : CM mX8_pair d [.ref o, .int a, .int b] h (some (.int 0)) (hs h o (ob 8 (fo 53 (va_up F 0 (.int 1))))) := by
  show E false mX8_pair d 0 [(0, .ref o), (1, .int a), (2, .int b)] [] h _ _
  refine E.st (s_aload_n (q := 1) dX8_pair_0 rfl rfl) ?_
  refine E.st (s_aload_n (q := 2) dX8_pair_1 rfl rfl) ?_
  refine E.st (s_iload_n (q := 3) dX8_pair_2 rfl rfl) ?_
  refine E.st (p2 := 6) (l2 := [(0, .ref o), (1, .int a), (2, .int b)]) (s2 := [.int 1, .ref o]) (h2 := h) (s_invv (K := mX8_isNode) (o := o) (as := [.int a]) (rest := [.ref o]) (v := some (.int 1)) dX8_pair_3 rfl lX8_108 (by omega) rfl (Nat.le_of_ble_eq_true rfl) rfl (Nat.le_of_ble_eq_true rfl) (ho) (q_X8_isNode_y (d := 0) (Nat.le_refl _) h o a F ho v1 e1 c) (fun h => nomatch h)) ?_
  refine E.st (s_if_eq_f (q := 9) (tg := 17) dX8_pair_6 (by decide) rfl (by decide)) ?_
  refine E.st (s_aload_n (q := 10) dX8_pair_9 rfl rfl) ?_
  refine E.st (s_iload_n (q := 11) dX8_pair_10 rfl rfl) ?_
  refine E.st (p2 := 14) (l2 := [(0, .ref o), (1, .int a), (2, .int b)]) (s2 := [.int 0, .ref o]) (h2 := h) (s_invv (K := mX8_isNode) (o := o) (as := [.int b]) (rest := [.ref o]) (v := some (.int 0)) dX8_pair_11 rfl lX8_108 (by omega) rfl (Nat.le_of_ble_eq_true rfl) rfl (Nat.le_of_ble_eq_true rfl) (ho) (q_X8_isNode_n (d := 0) (Nat.le_refl _) h o b F ho v1 e1 c1) (fun h => nomatch h)) ?_
  refine E.st (s_if_ne_f (q := 17) (tg := 21) dX8_pair_14 (by decide) rfl (by decide)) ?_
  refine E.st (s_iconst (q := 18) (v := 1) dX8_pair_17 rfl (by decide)) ?_
  refine E.st (s_goto (q := 22) dX8_pair_18 (by decide)) ?_
  refine E.st (p2 := 25) (l2 := [(0, .ref o), (1, .int a), (2, .int b)]) (s2 := [.int (1 : Int32)]) (h2 := (hs h o (ob 8 (fo 53 (va_up F 0 (.int 1)))))) (s_invv (K := mX8_refused) (o := o) (as := [.int 1]) (rest := []) (v := some (.int (1 : Int32))) dX8_pair_22 rfl lX8_112 (by omega) rfl (Nat.le_of_ble_eq_true rfl) rfl (Nat.le_of_ble_eq_true rfl) (ho) (p_X8_refused_2 (d := 0) (Nat.le_refl _) h o (1 : Int32) (by decide) F ho rfl) (fun h => nomatch h)) ?_
  refine E.st (s_if_eq_f (q := 28) (tg := 32) dX8_pair_25 (by decide) rfl (by decide)) ?_
  refine E.st (s_iconst (q := 29) (v := 0) dX8_pair_28 rfl (by decide)) ?_
  refine E.st (s_goto (q := 41) dX8_pair_29 (by decide)) ?_
  exact E.i dX8_pair_41 rfl rfl rfl rfl

set_option maxRecDepth 20000 in
theorem p_X8_pair_3 {d : Nat} (hd : 1 ≤ d) (h : AH) (o : Nat) (a : Int32) (b : Int32) (F : Nat → Value) (ho : h.1 o = ob 8 (fo 53 F)) (v1 : Int32) (e1 : F 1 = .int v1) (c : ¬ (a < 0) ∧ ¬ (v1 ≤ a)) (c1 : ¬ (b < 0) ∧ ¬ (v1 ≤ b)) (c2 : ¬ v1 = 60) (r2 : Nat) (e2 : F 2 = .ref r2) (n : Nat) (f : Nat → Int32) (ha : h.1 r2 = ia n f) (c3 : vp_in v1 n) (p : 0 < r2) (r3 : Nat) (e3 : F 3 = .ref r3) (n1 : Nat) (f1 : Nat → Int64) (ha1 : h.1 r3 = la n1 f1) (c4 : vp_in v1 n1) (r4 : Nat) (e4 : F 4 = .ref r4) (n2 : Nat) (f2 : Nat → Int32) (ha2 : h.1 r4 = ia n2 f2) (ne : r4 ≠ r2) (c5 : vp_in v1 n2) (p1 : 0 < r4) (r5 : Nat) (e5 : F 5 = .ref r5) (n3 : Nat) (f3 : Nat → Int32) (ha3 : h.1 r5 = ia n3 f3) (ne1 : r5 ≠ r4) (ne2 : r5 ≠ r2) (c6 : vp_in v1 n3) (p2 : 0 < r5) (r6 : Nat) (e6 : F 6 = .ref r6) (n4 : Nat) (f4 : Nat → Int32) (ha4 : h.1 r6 = ia n4 f4) (ne3 : r6 ≠ r5) (ne4 : r6 ≠ r4) (ne5 : r6 ≠ r2) (c7 : vp_in v1 n4) (p3 : 0 < r6) : CM mX8_pair d [.ref o, .int a, .int b] h (some (.int ((v1 + 1) - 1))) (hs (hs (hs (hs (hs (hs (hs h o (ob 8 (fo 53 (va_up F 0 (.int 0))))) r2 (ia n (upd f v1.toNatClampNeg (3 : Int32)))) r3 (la n1 (vp_updL f1 v1.toNatClampNeg (0 : Int64)))) r4 (ia n2 (upd f2 v1.toNatClampNeg a))) r5 (ia n3 (upd f3 v1.toNatClampNeg b))) r6 (ia n4 (upd f4 v1.toNatClampNeg (-1 : Int32)))) o (ob 8 (fo 53 (va_up (va_up F 0 (.int 0)) 1 (.int (v1 + 1)))))) := by
  show E false mX8_pair d 0 [(0, .ref o), (1, .int a), (2, .int b)] [] h _ _
  refine E.st (s_aload_n (q := 1) dX8_pair_0 rfl rfl) ?_
  refine E.st (s_aload_n (q := 2) dX8_pair_1 rfl rfl) ?_
  refine E.st (s_iload_n (q := 3) dX8_pair_2 rfl rfl) ?_
  refine E.st (p2 := 6) (l2 := [(0, .ref o), (1, .int a), (2, .int b)]) (s2 := [.int 1, .ref o]) (h2 := h) (s_invv (K := mX8_isNode) (o := o) (as := [.int a]) (rest := [.ref o]) (v := some (.int 1)) dX8_pair_3 rfl lX8_108 (by omega) rfl (Nat.le_of_ble_eq_true rfl) rfl (Nat.le_of_ble_eq_true rfl) (ho) (q_X8_isNode_y (d := 0) (Nat.le_refl _) h o a F ho v1 e1 c) (fun h => nomatch h)) ?_
  refine E.st (s_if_eq_f (q := 9) (tg := 17) dX8_pair_6 (by decide) rfl (by decide)) ?_
  refine E.st (s_aload_n (q := 10) dX8_pair_9 rfl rfl) ?_
  refine E.st (s_iload_n (q := 11) dX8_pair_10 rfl rfl) ?_
  refine E.st (p2 := 14) (l2 := [(0, .ref o), (1, .int a), (2, .int b)]) (s2 := [.int 1, .ref o]) (h2 := h) (s_invv (K := mX8_isNode) (o := o) (as := [.int b]) (rest := [.ref o]) (v := some (.int 1)) dX8_pair_11 rfl lX8_108 (by omega) rfl (Nat.le_of_ble_eq_true rfl) rfl (Nat.le_of_ble_eq_true rfl) (ho) (q_X8_isNode_y (d := 0) (Nat.le_refl _) h o b F ho v1 e1 c1) (fun h => nomatch h)) ?_
  refine E.st (s_if_ne_t (q := 21) dX8_pair_14 (by decide) (by decide)) ?_
  refine E.st (s_iconst (q := 22) (v := 0) dX8_pair_21 rfl (by decide)) ?_
  refine E.st (p2 := 25) (l2 := [(0, .ref o), (1, .int a), (2, .int b)]) (s2 := [.int (0 : Int32)]) (h2 := (hs h o (ob 8 (fo 53 (va_up F 0 (.int 0)))))) (s_invv (K := mX8_refused) (o := o) (as := [.int 0]) (rest := []) (v := some (.int (0 : Int32))) dX8_pair_22 rfl lX8_112 (by omega) rfl (Nat.le_of_ble_eq_true rfl) rfl (Nat.le_of_ble_eq_true rfl) (ho) (p_X8_refused_1 (d := 0) (Nat.le_refl _) h o (0 : Int32) (by decide) F ho rfl) (fun h => nomatch h)) ?_
  refine E.st (s_if_eq_t (q := 32) dX8_pair_25 (by decide) (by decide)) ?_
  refine E.st (s_aload_n (q := 33) dX8_pair_32 rfl rfl) ?_
  refine E.st (s_iconst (q := 34) (v := 3) dX8_pair_33 rfl (by decide)) ?_
  refine E.st (s_lconst (q := 35) (v := 0) dX8_pair_34 rfl (by decide)) ?_
  refine E.st (s_iload_n (q := 36) dX8_pair_35 rfl rfl) ?_
  refine E.st (s_iload_n (q := 37) dX8_pair_36 rfl rfl) ?_
  refine E.st (s_iconst (q := 38) (v := (-1)) dX8_pair_37 rfl (by decide)) ?_
  refine E.st (p2 := 41) (l2 := [(0, .ref o), (1, .int a), (2, .int b)]) (s2 := [.int ((v1 + 1) - 1)]) (h2 := (hs (hs (hs (hs (hs (hs (hs h o (ob 8 (fo 53 (va_up F 0 (.int 0))))) r2 (ia n (upd f v1.toNatClampNeg (3 : Int32)))) r3 (la n1 (vp_updL f1 v1.toNatClampNeg (0 : Int64)))) r4 (ia n2 (upd f2 v1.toNatClampNeg a))) r5 (ia n3 (upd f3 v1.toNatClampNeg b))) r6 (ia n4 (upd f4 v1.toNatClampNeg (-1 : Int32)))) o (ob 8 (fo 53 (va_up (va_up F 0 (.int 0)) 1 (.int (v1 + 1))))))) (s_invv (K := mX8_make) (o := o) (as := [.int 3, .long 0, .int a, .int b, .int (-1)]) (rest := []) (v := some (.int ((v1 + 1) - 1))) dX8_pair_38 rfl lX8_104 (by omega) rfl (Nat.le_of_ble_eq_true rfl) rfl (Nat.le_of_ble_eq_true rfl) (hs_eq) (p_X8_make_1 (d := 0) (Nat.le_refl _) (hs h o (ob 8 (fo 53 (va_up F 0 (.int 0))))) o (3 : Int32) (0 : Int64) a b (-1 : Int32) (va_up F 0 (.int 0)) hs_eq v1 ((up_ne (by decide)).trans (e1)) c2 r2 ((up_ne (by decide)).trans (e2)) n f ((hs_ne (Ne.symm (ne_oi ho ha))).trans (ha)) c3 p r3 ((up_ne (by decide)).trans (e3)) n1 f1 ((hs_ne (Ne.symm (ne_ol ho ha1))).trans (ha1)) c4 r4 ((up_ne (by decide)).trans (e4)) n2 f2 ((hs_ne (Ne.symm (ne_oi ho ha2))).trans (ha2)) ne c5 p1 r5 ((up_ne (by decide)).trans (e5)) n3 f3 ((hs_ne (Ne.symm (ne_oi ho ha3))).trans (ha3)) ne1 ne2 c6 p2 r6 ((up_ne (by decide)).trans (e6)) n4 f4 ((hs_ne (Ne.symm (ne_oi ho ha4))).trans (ha4)) ne3 ne4 ne5 c7 p3) (fun h => nomatch h)) ?_
  exact E.i dX8_pair_41 rfl rfl rfl rfl

set_option maxRecDepth 20000 in
theorem p_X8_pair_4 {d : Nat} (hd : 1 ≤ d) (h : AH) (o : Nat) (a : Int32) (b : Int32) (F : Nat → Value) (ho : h.1 o = ob 8 (fo 53 F)) (v1 : Int32) (e1 : F 1 = .int v1) (c : ¬ (a < 0) ∧ ¬ (v1 ≤ a)) (c1 : ¬ (b < 0) ∧ ¬ (v1 ≤ b)) (c2 : v1 = 60) : CM mX8_pair d [.ref o, .int a, .int b] h (some (.int (-1))) (hs h o (ob 8 (fo 53 (va_up F 0 (.int 0))))) := by
  show E false mX8_pair d 0 [(0, .ref o), (1, .int a), (2, .int b)] [] h _ _
  refine E.st (s_aload_n (q := 1) dX8_pair_0 rfl rfl) ?_
  refine E.st (s_aload_n (q := 2) dX8_pair_1 rfl rfl) ?_
  refine E.st (s_iload_n (q := 3) dX8_pair_2 rfl rfl) ?_
  refine E.st (p2 := 6) (l2 := [(0, .ref o), (1, .int a), (2, .int b)]) (s2 := [.int 1, .ref o]) (h2 := h) (s_invv (K := mX8_isNode) (o := o) (as := [.int a]) (rest := [.ref o]) (v := some (.int 1)) dX8_pair_3 rfl lX8_108 (by omega) rfl (Nat.le_of_ble_eq_true rfl) rfl (Nat.le_of_ble_eq_true rfl) (ho) (q_X8_isNode_y (d := 0) (Nat.le_refl _) h o a F ho v1 e1 c) (fun h => nomatch h)) ?_
  refine E.st (s_if_eq_f (q := 9) (tg := 17) dX8_pair_6 (by decide) rfl (by decide)) ?_
  refine E.st (s_aload_n (q := 10) dX8_pair_9 rfl rfl) ?_
  refine E.st (s_iload_n (q := 11) dX8_pair_10 rfl rfl) ?_
  refine E.st (p2 := 14) (l2 := [(0, .ref o), (1, .int a), (2, .int b)]) (s2 := [.int 1, .ref o]) (h2 := h) (s_invv (K := mX8_isNode) (o := o) (as := [.int b]) (rest := [.ref o]) (v := some (.int 1)) dX8_pair_11 rfl lX8_108 (by omega) rfl (Nat.le_of_ble_eq_true rfl) rfl (Nat.le_of_ble_eq_true rfl) (ho) (q_X8_isNode_y (d := 0) (Nat.le_refl _) h o b F ho v1 e1 c1) (fun h => nomatch h)) ?_
  refine E.st (s_if_ne_t (q := 21) dX8_pair_14 (by decide) (by decide)) ?_
  refine E.st (s_iconst (q := 22) (v := 0) dX8_pair_21 rfl (by decide)) ?_
  refine E.st (p2 := 25) (l2 := [(0, .ref o), (1, .int a), (2, .int b)]) (s2 := [.int (0 : Int32)]) (h2 := (hs h o (ob 8 (fo 53 (va_up F 0 (.int 0)))))) (s_invv (K := mX8_refused) (o := o) (as := [.int 0]) (rest := []) (v := some (.int (0 : Int32))) dX8_pair_22 rfl lX8_112 (by omega) rfl (Nat.le_of_ble_eq_true rfl) rfl (Nat.le_of_ble_eq_true rfl) (ho) (p_X8_refused_1 (d := 0) (Nat.le_refl _) h o (0 : Int32) (by decide) F ho rfl) (fun h => nomatch h)) ?_
  refine E.st (s_if_eq_t (q := 32) dX8_pair_25 (by decide) (by decide)) ?_
  refine E.st (s_aload_n (q := 33) dX8_pair_32 rfl rfl) ?_
  refine E.st (s_iconst (q := 34) (v := 3) dX8_pair_33 rfl (by decide)) ?_
  refine E.st (s_lconst (q := 35) (v := 0) dX8_pair_34 rfl (by decide)) ?_
  refine E.st (s_iload_n (q := 36) dX8_pair_35 rfl rfl) ?_
  refine E.st (s_iload_n (q := 37) dX8_pair_36 rfl rfl) ?_
  refine E.st (s_iconst (q := 38) (v := (-1)) dX8_pair_37 rfl (by decide)) ?_
  refine E.st (p2 := 41) (l2 := [(0, .ref o), (1, .int a), (2, .int b)]) (s2 := [.int (-1)]) (h2 := (hs h o (ob 8 (fo 53 (va_up F 0 (.int 0)))))) (s_invv (K := mX8_make) (o := o) (as := [.int 3, .long 0, .int a, .int b, .int (-1)]) (rest := []) (v := some (.int (-1))) dX8_pair_38 rfl lX8_104 (by omega) rfl (Nat.le_of_ble_eq_true rfl) rfl (Nat.le_of_ble_eq_true rfl) (hs_eq) (p_X8_make_2 (d := 0) (Nat.le_refl _) (hs h o (ob 8 (fo 53 (va_up F 0 (.int 0))))) o (3 : Int32) (0 : Int64) a b (-1 : Int32) (va_up F 0 (.int 0)) hs_eq v1 ((up_ne (by decide)).trans (e1)) c2) (fun h => nomatch h)) ?_
  exact E.i dX8_pair_41 rfl rfl rfl rfl

set_option maxRecDepth 20000 in
theorem p_X8_part_1 {d : Nat} (hd : 1 ≤ d) (h : AH) (o : Nat) (a : Int32) (b : Int32) (F : Nat → Value) (ho : h.1 o = ob 8 (fo 53 F)) (v1 : Int32) (e1 : F 1 = .int v1) (c : a < 0 ∨ v1 ≤ a) : CM mX8_part d [.ref o, .int a, .int b] h (some (.int 0)) (hs h o (ob 8 (fo 53 (va_up F 0 (.int 1))))) := by
  show E false mX8_part d 0 [(0, .ref o), (1, .int a), (2, .int b)] [] h _ _
  refine E.st (s_aload_n (q := 1) dX8_part_0 rfl rfl) ?_
  refine E.st (s_aload_n (q := 2) dX8_part_1 rfl rfl) ?_
  refine E.st (s_iload_n (q := 3) dX8_part_2 rfl rfl) ?_
  refine E.st (p2 := 6) (l2 := [(0, .ref o), (1, .int a), (2, .int b)]) (s2 := [.int 0, .ref o]) (h2 := h) (s_invv (K := mX8_isNode) (o := o) (as := [.int a]) (rest := [.ref o]) (v := some (.int 0)) dX8_part_3 rfl lX8_108 (by omega) rfl (Nat.le_of_ble_eq_true rfl) rfl (Nat.le_of_ble_eq_true rfl) (ho) (q_X8_isNode_n (d := 0) (Nat.le_refl _) h o a F ho v1 e1 c) (fun h => nomatch h)) ?_
  refine E.st (s_if_ne_f (q := 9) (tg := 13) dX8_part_6 (by decide) rfl (by decide)) ?_
  refine E.st (s_iconst (q := 10) (v := 1) dX8_part_9 rfl (by decide)) ?_
  refine E.st (s_goto (q := 14) dX8_part_10 (by decide)) ?_
  refine E.st (p2 := 17) (l2 := [(0, .ref o), (1, .int a), (2, .int b)]) (s2 := [.int (1 : Int32)]) (h2 := (hs h o (ob 8 (fo 53 (va_up F 0 (.int 1)))))) (s_invv (K := mX8_refused) (o := o) (as := [.int 1]) (rest := []) (v := some (.int (1 : Int32))) dX8_part_14 rfl lX8_112 (by omega) rfl (Nat.le_of_ble_eq_true rfl) rfl (Nat.le_of_ble_eq_true rfl) (ho) (p_X8_refused_2 (d := 0) (Nat.le_refl _) h o (1 : Int32) (by decide) F ho rfl) (fun h => nomatch h)) ?_
  refine E.st (s_if_eq_f (q := 20) (tg := 24) dX8_part_17 (by decide) rfl (by decide)) ?_
  refine E.st (s_iconst (q := 21) (v := 0) dX8_part_20 rfl (by decide)) ?_
  refine E.st (s_goto (q := 41) dX8_part_21 (by decide)) ?_
  exact E.i dX8_part_41 rfl rfl rfl rfl

set_option maxRecDepth 20000 in
theorem p_X8_part_2 {d : Nat} (hd : 1 ≤ d) (h : AH) (o : Nat) (a : Int32) (b : Int32) (F : Nat → Value) (ho : h.1 o = ob 8 (fo 53 F)) (v1 : Int32) (e1 : F 1 = .int v1) (c : ¬ (a < 0) ∧ ¬ (v1 ≤ a)) (c1 : b = 0) (c2 : ¬ v1 = 60) (r2 : Nat) (e2 : F 2 = .ref r2) (n : Nat) (f : Nat → Int32) (ha : h.1 r2 = ia n f) (c3 : vp_in v1 n) (p : 0 < r2) (r3 : Nat) (e3 : F 3 = .ref r3) (n1 : Nat) (f1 : Nat → Int64) (ha1 : h.1 r3 = la n1 f1) (c4 : vp_in v1 n1) (r4 : Nat) (e4 : F 4 = .ref r4) (n2 : Nat) (f2 : Nat → Int32) (ha2 : h.1 r4 = ia n2 f2) (ne : r4 ≠ r2) (c5 : vp_in v1 n2) (p1 : 0 < r4) (r5 : Nat) (e5 : F 5 = .ref r5) (n3 : Nat) (f3 : Nat → Int32) (ha3 : h.1 r5 = ia n3 f3) (ne1 : r5 ≠ r4) (ne2 : r5 ≠ r2) (c6 : vp_in v1 n3) (p2 : 0 < r5) (r6 : Nat) (e6 : F 6 = .ref r6) (n4 : Nat) (f4 : Nat → Int32) (ha4 : h.1 r6 = ia n4 f4) (ne3 : r6 ≠ r5) (ne4 : r6 ≠ r4) (ne5 : r6 ≠ r2) (c7 : vp_in v1 n4) (p3 : 0 < r6) : CM mX8_part d [.ref o, .int a, .int b] h (some (.int ((v1 + 1) - 1))) (hs (hs (hs (hs (hs (hs (hs h o (ob 8 (fo 53 (va_up F 0 (.int 0))))) r2 (ia n (upd f v1.toNatClampNeg (4 : Int32)))) r3 (la n1 (vp_updL f1 v1.toNatClampNeg (0 : Int64)))) r4 (ia n2 (upd f2 v1.toNatClampNeg a))) r5 (ia n3 (upd f3 v1.toNatClampNeg (-1 : Int32)))) r6 (ia n4 (upd f4 v1.toNatClampNeg (-1 : Int32)))) o (ob 8 (fo 53 (va_up (va_up F 0 (.int 0)) 1 (.int (v1 + 1)))))) := by
  show E false mX8_part d 0 [(0, .ref o), (1, .int a), (2, .int b)] [] h _ _
  refine E.st (s_aload_n (q := 1) dX8_part_0 rfl rfl) ?_
  refine E.st (s_aload_n (q := 2) dX8_part_1 rfl rfl) ?_
  refine E.st (s_iload_n (q := 3) dX8_part_2 rfl rfl) ?_
  refine E.st (p2 := 6) (l2 := [(0, .ref o), (1, .int a), (2, .int b)]) (s2 := [.int 1, .ref o]) (h2 := h) (s_invv (K := mX8_isNode) (o := o) (as := [.int a]) (rest := [.ref o]) (v := some (.int 1)) dX8_part_3 rfl lX8_108 (by omega) rfl (Nat.le_of_ble_eq_true rfl) rfl (Nat.le_of_ble_eq_true rfl) (ho) (q_X8_isNode_y (d := 0) (Nat.le_refl _) h o a F ho v1 e1 c) (fun h => nomatch h)) ?_
  refine E.st (s_if_ne_t (q := 13) dX8_part_6 (by decide) (by decide)) ?_
  refine E.st (s_iconst (q := 14) (v := 0) dX8_part_13 rfl (by decide)) ?_
  refine E.st (p2 := 17) (l2 := [(0, .ref o), (1, .int a), (2, .int b)]) (s2 := [.int (0 : Int32)]) (h2 := (hs h o (ob 8 (fo 53 (va_up F 0 (.int 0)))))) (s_invv (K := mX8_refused) (o := o) (as := [.int 0]) (rest := []) (v := some (.int (0 : Int32))) dX8_part_14 rfl lX8_112 (by omega) rfl (Nat.le_of_ble_eq_true rfl) rfl (Nat.le_of_ble_eq_true rfl) (ho) (p_X8_refused_1 (d := 0) (Nat.le_refl _) h o (0 : Int32) (by decide) F ho rfl) (fun h => nomatch h)) ?_
  refine E.st (s_if_eq_t (q := 24) dX8_part_17 (by decide) (by decide)) ?_
  refine E.st (s_aload_n (q := 25) dX8_part_24 rfl rfl) ?_
  refine E.st (s_iload_n (q := 26) dX8_part_25 rfl rfl) ?_
  refine E.st (s_if_eq_t (q := 33) dX8_part_26 (by decide) c1) ?_
  refine E.st (s_iconst (q := 34) (v := 4) dX8_part_33 rfl (by decide)) ?_
  refine E.st (s_lconst (q := 35) (v := 0) dX8_part_34 rfl (by decide)) ?_
  refine E.st (s_iload_n (q := 36) dX8_part_35 rfl rfl) ?_
  refine E.st (s_iconst (q := 37) (v := (-1)) dX8_part_36 rfl (by decide)) ?_
  refine E.st (s_iconst (q := 38) (v := (-1)) dX8_part_37 rfl (by decide)) ?_
  refine E.st (p2 := 41) (l2 := [(0, .ref o), (1, .int a), (2, .int b)]) (s2 := [.int ((v1 + 1) - 1)]) (h2 := (hs (hs (hs (hs (hs (hs (hs h o (ob 8 (fo 53 (va_up F 0 (.int 0))))) r2 (ia n (upd f v1.toNatClampNeg (4 : Int32)))) r3 (la n1 (vp_updL f1 v1.toNatClampNeg (0 : Int64)))) r4 (ia n2 (upd f2 v1.toNatClampNeg a))) r5 (ia n3 (upd f3 v1.toNatClampNeg (-1 : Int32)))) r6 (ia n4 (upd f4 v1.toNatClampNeg (-1 : Int32)))) o (ob 8 (fo 53 (va_up (va_up F 0 (.int 0)) 1 (.int (v1 + 1))))))) (s_invv (K := mX8_make) (o := o) (as := [.int 4, .long 0, .int a, .int (-1), .int (-1)]) (rest := []) (v := some (.int ((v1 + 1) - 1))) dX8_part_38 rfl lX8_104 (by omega) rfl (Nat.le_of_ble_eq_true rfl) rfl (Nat.le_of_ble_eq_true rfl) (hs_eq) (p_X8_make_1 (d := 0) (Nat.le_refl _) (hs h o (ob 8 (fo 53 (va_up F 0 (.int 0))))) o (4 : Int32) (0 : Int64) a (-1 : Int32) (-1 : Int32) (va_up F 0 (.int 0)) hs_eq v1 ((up_ne (by decide)).trans (e1)) c2 r2 ((up_ne (by decide)).trans (e2)) n f ((hs_ne (Ne.symm (ne_oi ho ha))).trans (ha)) c3 p r3 ((up_ne (by decide)).trans (e3)) n1 f1 ((hs_ne (Ne.symm (ne_ol ho ha1))).trans (ha1)) c4 r4 ((up_ne (by decide)).trans (e4)) n2 f2 ((hs_ne (Ne.symm (ne_oi ho ha2))).trans (ha2)) ne c5 p1 r5 ((up_ne (by decide)).trans (e5)) n3 f3 ((hs_ne (Ne.symm (ne_oi ho ha3))).trans (ha3)) ne1 ne2 c6 p2 r6 ((up_ne (by decide)).trans (e6)) n4 f4 ((hs_ne (Ne.symm (ne_oi ho ha4))).trans (ha4)) ne3 ne4 ne5 c7 p3) (fun h => nomatch h)) ?_
  exact E.i dX8_part_41 rfl rfl rfl rfl

set_option maxRecDepth 20000 in
theorem p_X8_part_3 {d : Nat} (hd : 1 ≤ d) (h : AH) (o : Nat) (a : Int32) (b : Int32) (F : Nat → Value) (ho : h.1 o = ob 8 (fo 53 F)) (v1 : Int32) (e1 : F 1 = .int v1) (c : ¬ (a < 0) ∧ ¬ (v1 ≤ a)) (c1 : b = 0) (c2 : v1 = 60) : CM mX8_part d [.ref o, .int a, .int b] h (some (.int (-1))) (hs h o (ob 8 (fo 53 (va_up F 0 (.int 0))))) := by
  show E false mX8_part d 0 [(0, .ref o), (1, .int a), (2, .int b)] [] h _ _
  refine E.st (s_aload_n (q := 1) dX8_part_0 rfl rfl) ?_
  refine E.st (s_aload_n (q := 2) dX8_part_1 rfl rfl) ?_
  refine E.st (s_iload_n (q := 3) dX8_part_2 rfl rfl) ?_
  refine E.st (p2 := 6) (l2 := [(0, .ref o), (1, .int a), (2, .int b)]) (s2 := [.int 1, .ref o]) (h2 := h) (s_invv (K := mX8_isNode) (o := o) (as := [.int a]) (rest := [.ref o]) (v := some (.int 1)) dX8_part_3 rfl lX8_108 (by omega) rfl (Nat.le_of_ble_eq_true rfl) rfl (Nat.le_of_ble_eq_true rfl) (ho) (q_X8_isNode_y (d := 0) (Nat.le_refl _) h o a F ho v1 e1 c) (fun h => nomatch h)) ?_
  refine E.st (s_if_ne_t (q := 13) dX8_part_6 (by decide) (by decide)) ?_
  refine E.st (s_iconst (q := 14) (v := 0) dX8_part_13 rfl (by decide)) ?_
  refine E.st (p2 := 17) (l2 := [(0, .ref o), (1, .int a), (2, .int b)]) (s2 := [.int (0 : Int32)]) (h2 := (hs h o (ob 8 (fo 53 (va_up F 0 (.int 0)))))) (s_invv (K := mX8_refused) (o := o) (as := [.int 0]) (rest := []) (v := some (.int (0 : Int32))) dX8_part_14 rfl lX8_112 (by omega) rfl (Nat.le_of_ble_eq_true rfl) rfl (Nat.le_of_ble_eq_true rfl) (ho) (p_X8_refused_1 (d := 0) (Nat.le_refl _) h o (0 : Int32) (by decide) F ho rfl) (fun h => nomatch h)) ?_
  refine E.st (s_if_eq_t (q := 24) dX8_part_17 (by decide) (by decide)) ?_
  refine E.st (s_aload_n (q := 25) dX8_part_24 rfl rfl) ?_
  refine E.st (s_iload_n (q := 26) dX8_part_25 rfl rfl) ?_
  refine E.st (s_if_eq_t (q := 33) dX8_part_26 (by decide) c1) ?_
  refine E.st (s_iconst (q := 34) (v := 4) dX8_part_33 rfl (by decide)) ?_
  refine E.st (s_lconst (q := 35) (v := 0) dX8_part_34 rfl (by decide)) ?_
  refine E.st (s_iload_n (q := 36) dX8_part_35 rfl rfl) ?_
  refine E.st (s_iconst (q := 37) (v := (-1)) dX8_part_36 rfl (by decide)) ?_
  refine E.st (s_iconst (q := 38) (v := (-1)) dX8_part_37 rfl (by decide)) ?_
  refine E.st (p2 := 41) (l2 := [(0, .ref o), (1, .int a), (2, .int b)]) (s2 := [.int (-1)]) (h2 := (hs h o (ob 8 (fo 53 (va_up F 0 (.int 0)))))) (s_invv (K := mX8_make) (o := o) (as := [.int 4, .long 0, .int a, .int (-1), .int (-1)]) (rest := []) (v := some (.int (-1))) dX8_part_38 rfl lX8_104 (by omega) rfl (Nat.le_of_ble_eq_true rfl) rfl (Nat.le_of_ble_eq_true rfl) (hs_eq) (p_X8_make_2 (d := 0) (Nat.le_refl _) (hs h o (ob 8 (fo 53 (va_up F 0 (.int 0))))) o (4 : Int32) (0 : Int64) a (-1 : Int32) (-1 : Int32) (va_up F 0 (.int 0)) hs_eq v1 ((up_ne (by decide)).trans (e1)) c2) (fun h => nomatch h)) ?_
  exact E.i dX8_part_41 rfl rfl rfl rfl

set_option maxRecDepth 20000 in
theorem p_X8_part_4 {d : Nat} (hd : 1 ≤ d) (h : AH) (o : Nat) (a : Int32) (b : Int32) (F : Nat → Value) (ho : h.1 o = ob 8 (fo 53 F)) (v1 : Int32) (e1 : F 1 = .int v1) (c : ¬ (a < 0) ∧ ¬ (v1 ≤ a)) (c1 : ¬ (b = 0)) (c2 : ¬ v1 = 60) (r2 : Nat) (e2 : F 2 = .ref r2) (n : Nat) (f : Nat → Int32) (ha : h.1 r2 = ia n f) (c3 : vp_in v1 n) (p : 0 < r2) (r3 : Nat) (e3 : F 3 = .ref r3) (n1 : Nat) (f1 : Nat → Int64) (ha1 : h.1 r3 = la n1 f1) (c4 : vp_in v1 n1) (r4 : Nat) (e4 : F 4 = .ref r4) (n2 : Nat) (f2 : Nat → Int32) (ha2 : h.1 r4 = ia n2 f2) (ne : r4 ≠ r2) (c5 : vp_in v1 n2) (p1 : 0 < r4) (r5 : Nat) (e5 : F 5 = .ref r5) (n3 : Nat) (f3 : Nat → Int32) (ha3 : h.1 r5 = ia n3 f3) (ne1 : r5 ≠ r4) (ne2 : r5 ≠ r2) (c6 : vp_in v1 n3) (p2 : 0 < r5) (r6 : Nat) (e6 : F 6 = .ref r6) (n4 : Nat) (f4 : Nat → Int32) (ha4 : h.1 r6 = ia n4 f4) (ne3 : r6 ≠ r5) (ne4 : r6 ≠ r4) (ne5 : r6 ≠ r2) (c7 : vp_in v1 n4) (p3 : 0 < r6) : CM mX8_part d [.ref o, .int a, .int b] h (some (.int ((v1 + 1) - 1))) (hs (hs (hs (hs (hs (hs (hs h o (ob 8 (fo 53 (va_up F 0 (.int 0))))) r2 (ia n (upd f v1.toNatClampNeg (5 : Int32)))) r3 (la n1 (vp_updL f1 v1.toNatClampNeg (0 : Int64)))) r4 (ia n2 (upd f2 v1.toNatClampNeg a))) r5 (ia n3 (upd f3 v1.toNatClampNeg (-1 : Int32)))) r6 (ia n4 (upd f4 v1.toNatClampNeg (-1 : Int32)))) o (ob 8 (fo 53 (va_up (va_up F 0 (.int 0)) 1 (.int (v1 + 1)))))) := by
  show E false mX8_part d 0 [(0, .ref o), (1, .int a), (2, .int b)] [] h _ _
  refine E.st (s_aload_n (q := 1) dX8_part_0 rfl rfl) ?_
  refine E.st (s_aload_n (q := 2) dX8_part_1 rfl rfl) ?_
  refine E.st (s_iload_n (q := 3) dX8_part_2 rfl rfl) ?_
  refine E.st (p2 := 6) (l2 := [(0, .ref o), (1, .int a), (2, .int b)]) (s2 := [.int 1, .ref o]) (h2 := h) (s_invv (K := mX8_isNode) (o := o) (as := [.int a]) (rest := [.ref o]) (v := some (.int 1)) dX8_part_3 rfl lX8_108 (by omega) rfl (Nat.le_of_ble_eq_true rfl) rfl (Nat.le_of_ble_eq_true rfl) (ho) (q_X8_isNode_y (d := 0) (Nat.le_refl _) h o a F ho v1 e1 c) (fun h => nomatch h)) ?_
  refine E.st (s_if_ne_t (q := 13) dX8_part_6 (by decide) (by decide)) ?_
  refine E.st (s_iconst (q := 14) (v := 0) dX8_part_13 rfl (by decide)) ?_
  refine E.st (p2 := 17) (l2 := [(0, .ref o), (1, .int a), (2, .int b)]) (s2 := [.int (0 : Int32)]) (h2 := (hs h o (ob 8 (fo 53 (va_up F 0 (.int 0)))))) (s_invv (K := mX8_refused) (o := o) (as := [.int 0]) (rest := []) (v := some (.int (0 : Int32))) dX8_part_14 rfl lX8_112 (by omega) rfl (Nat.le_of_ble_eq_true rfl) rfl (Nat.le_of_ble_eq_true rfl) (ho) (p_X8_refused_1 (d := 0) (Nat.le_refl _) h o (0 : Int32) (by decide) F ho rfl) (fun h => nomatch h)) ?_
  refine E.st (s_if_eq_t (q := 24) dX8_part_17 (by decide) (by decide)) ?_
  refine E.st (s_aload_n (q := 25) dX8_part_24 rfl rfl) ?_
  refine E.st (s_iload_n (q := 26) dX8_part_25 rfl rfl) ?_
  refine E.st (s_if_eq_f (q := 29) (tg := 33) dX8_part_26 (by decide) rfl c1) ?_
  refine E.st (s_iconst (q := 30) (v := 5) dX8_part_29 rfl (by decide)) ?_
  refine E.st (s_goto (q := 34) dX8_part_30 (by decide)) ?_
  refine E.st (s_lconst (q := 35) (v := 0) dX8_part_34 rfl (by decide)) ?_
  refine E.st (s_iload_n (q := 36) dX8_part_35 rfl rfl) ?_
  refine E.st (s_iconst (q := 37) (v := (-1)) dX8_part_36 rfl (by decide)) ?_
  refine E.st (s_iconst (q := 38) (v := (-1)) dX8_part_37 rfl (by decide)) ?_
  refine E.st (p2 := 41) (l2 := [(0, .ref o), (1, .int a), (2, .int b)]) (s2 := [.int ((v1 + 1) - 1)]) (h2 := (hs (hs (hs (hs (hs (hs (hs h o (ob 8 (fo 53 (va_up F 0 (.int 0))))) r2 (ia n (upd f v1.toNatClampNeg (5 : Int32)))) r3 (la n1 (vp_updL f1 v1.toNatClampNeg (0 : Int64)))) r4 (ia n2 (upd f2 v1.toNatClampNeg a))) r5 (ia n3 (upd f3 v1.toNatClampNeg (-1 : Int32)))) r6 (ia n4 (upd f4 v1.toNatClampNeg (-1 : Int32)))) o (ob 8 (fo 53 (va_up (va_up F 0 (.int 0)) 1 (.int (v1 + 1))))))) (s_invv (K := mX8_make) (o := o) (as := [.int 5, .long 0, .int a, .int (-1), .int (-1)]) (rest := []) (v := some (.int ((v1 + 1) - 1))) dX8_part_38 rfl lX8_104 (by omega) rfl (Nat.le_of_ble_eq_true rfl) rfl (Nat.le_of_ble_eq_true rfl) (hs_eq) (p_X8_make_1 (d := 0) (Nat.le_refl _) (hs h o (ob 8 (fo 53 (va_up F 0 (.int 0))))) o (5 : Int32) (0 : Int64) a (-1 : Int32) (-1 : Int32) (va_up F 0 (.int 0)) hs_eq v1 ((up_ne (by decide)).trans (e1)) c2 r2 ((up_ne (by decide)).trans (e2)) n f ((hs_ne (Ne.symm (ne_oi ho ha))).trans (ha)) c3 p r3 ((up_ne (by decide)).trans (e3)) n1 f1 ((hs_ne (Ne.symm (ne_ol ho ha1))).trans (ha1)) c4 r4 ((up_ne (by decide)).trans (e4)) n2 f2 ((hs_ne (Ne.symm (ne_oi ho ha2))).trans (ha2)) ne c5 p1 r5 ((up_ne (by decide)).trans (e5)) n3 f3 ((hs_ne (Ne.symm (ne_oi ho ha3))).trans (ha3)) ne1 ne2 c6 p2 r6 ((up_ne (by decide)).trans (e6)) n4 f4 ((hs_ne (Ne.symm (ne_oi ho ha4))).trans (ha4)) ne3 ne4 ne5 c7 p3) (fun h => nomatch h)) ?_
  exact E.i dX8_part_41 rfl rfl rfl rfl

set_option maxRecDepth 20000 in
theorem p_X8_part_5 {d : Nat} (hd : 1 ≤ d) (h : AH) (o : Nat) (a : Int32) (b : Int32) (F : Nat → Value) (ho : h.1 o = ob 8 (fo 53 F)) (v1 : Int32) (e1 : F 1 = .int v1) (c : ¬ (a < 0) ∧ ¬ (v1 ≤ a)) (c1 : ¬ (b = 0)) (c2 : v1 = 60) : CM mX8_part d [.ref o, .int a, .int b] h (some (.int (-1))) (hs h o (ob 8 (fo 53 (va_up F 0 (.int 0))))) := by
  show E false mX8_part d 0 [(0, .ref o), (1, .int a), (2, .int b)] [] h _ _
  refine E.st (s_aload_n (q := 1) dX8_part_0 rfl rfl) ?_
  refine E.st (s_aload_n (q := 2) dX8_part_1 rfl rfl) ?_
  refine E.st (s_iload_n (q := 3) dX8_part_2 rfl rfl) ?_
  refine E.st (p2 := 6) (l2 := [(0, .ref o), (1, .int a), (2, .int b)]) (s2 := [.int 1, .ref o]) (h2 := h) (s_invv (K := mX8_isNode) (o := o) (as := [.int a]) (rest := [.ref o]) (v := some (.int 1)) dX8_part_3 rfl lX8_108 (by omega) rfl (Nat.le_of_ble_eq_true rfl) rfl (Nat.le_of_ble_eq_true rfl) (ho) (q_X8_isNode_y (d := 0) (Nat.le_refl _) h o a F ho v1 e1 c) (fun h => nomatch h)) ?_
  refine E.st (s_if_ne_t (q := 13) dX8_part_6 (by decide) (by decide)) ?_
  refine E.st (s_iconst (q := 14) (v := 0) dX8_part_13 rfl (by decide)) ?_
  refine E.st (p2 := 17) (l2 := [(0, .ref o), (1, .int a), (2, .int b)]) (s2 := [.int (0 : Int32)]) (h2 := (hs h o (ob 8 (fo 53 (va_up F 0 (.int 0)))))) (s_invv (K := mX8_refused) (o := o) (as := [.int 0]) (rest := []) (v := some (.int (0 : Int32))) dX8_part_14 rfl lX8_112 (by omega) rfl (Nat.le_of_ble_eq_true rfl) rfl (Nat.le_of_ble_eq_true rfl) (ho) (p_X8_refused_1 (d := 0) (Nat.le_refl _) h o (0 : Int32) (by decide) F ho rfl) (fun h => nomatch h)) ?_
  refine E.st (s_if_eq_t (q := 24) dX8_part_17 (by decide) (by decide)) ?_
  refine E.st (s_aload_n (q := 25) dX8_part_24 rfl rfl) ?_
  refine E.st (s_iload_n (q := 26) dX8_part_25 rfl rfl) ?_
  refine E.st (s_if_eq_f (q := 29) (tg := 33) dX8_part_26 (by decide) rfl c1) ?_
  refine E.st (s_iconst (q := 30) (v := 5) dX8_part_29 rfl (by decide)) ?_
  refine E.st (s_goto (q := 34) dX8_part_30 (by decide)) ?_
  refine E.st (s_lconst (q := 35) (v := 0) dX8_part_34 rfl (by decide)) ?_
  refine E.st (s_iload_n (q := 36) dX8_part_35 rfl rfl) ?_
  refine E.st (s_iconst (q := 37) (v := (-1)) dX8_part_36 rfl (by decide)) ?_
  refine E.st (s_iconst (q := 38) (v := (-1)) dX8_part_37 rfl (by decide)) ?_
  refine E.st (p2 := 41) (l2 := [(0, .ref o), (1, .int a), (2, .int b)]) (s2 := [.int (-1)]) (h2 := (hs h o (ob 8 (fo 53 (va_up F 0 (.int 0)))))) (s_invv (K := mX8_make) (o := o) (as := [.int 5, .long 0, .int a, .int (-1), .int (-1)]) (rest := []) (v := some (.int (-1))) dX8_part_38 rfl lX8_104 (by omega) rfl (Nat.le_of_ble_eq_true rfl) rfl (Nat.le_of_ble_eq_true rfl) (hs_eq) (p_X8_make_2 (d := 0) (Nat.le_refl _) (hs h o (ob 8 (fo 53 (va_up F 0 (.int 0))))) o (5 : Int32) (0 : Int64) a (-1 : Int32) (-1 : Int32) (va_up F 0 (.int 0)) hs_eq v1 ((up_ne (by decide)).trans (e1)) c2) (fun h => nomatch h)) ?_
  exact E.i dX8_part_41 rfl rfl rfl rfl

set_option maxRecDepth 20000 in
theorem p_X8_op_1 {d : Nat} (hd : 1 ≤ d) (h : AH) (o : Nat) (t : Int32) (a : Int32) (b : Int32) (F : Nat → Value) (ho : h.1 o = ob 8 (fo 53 F)) (v1 : Int32) (e1 : F 1 = .int v1) (c : a < 0 ∨ v1 ≤ a) : CM mX8_op d [.ref o, .int t, .int a, .int b] h (some (.int 0)) (hs h o (ob 8 (fo 53 (va_up F 0 (.int 1))))) := by
  show E false mX8_op d 0 [(0, .ref o), (1, .int t), (2, .int a), (3, .int b)] [] h _ _
  refine E.st (s_aload_n (q := 1) dX8_op_0 rfl rfl) ?_
  refine E.st (s_aload_n (q := 2) dX8_op_1 rfl rfl) ?_
  refine E.st (s_iload_n (q := 3) dX8_op_2 rfl rfl) ?_
  refine E.st (p2 := 6) (l2 := [(0, .ref o), (1, .int t), (2, .int a), (3, .int b)]) (s2 := [.int 0, .ref o]) (h2 := h) (s_invv (K := mX8_isNode) (o := o) (as := [.int a]) (rest := [.ref o]) (v := some (.int 0)) dX8_op_3 rfl lX8_108 (by omega) rfl (Nat.le_of_ble_eq_true rfl) rfl (Nat.le_of_ble_eq_true rfl) (ho) (q_X8_isNode_n (d := 0) (Nat.le_refl _) h o a F ho v1 e1 c) (fun h => nomatch h)) ?_
  refine E.st (s_if_eq_t (q := 26) dX8_op_6 (by decide) (by decide)) ?_
  refine E.st (s_iconst (q := 27) (v := 1) dX8_op_26 rfl (by decide)) ?_
  refine E.st (s_goto (q := 31) dX8_op_27 (by decide)) ?_
  refine E.st (p2 := 34) (l2 := [(0, .ref o), (1, .int t), (2, .int a), (3, .int b)]) (s2 := [.int (1 : Int32)]) (h2 := (hs h o (ob 8 (fo 53 (va_up F 0 (.int 1)))))) (s_invv (K := mX8_refused) (o := o) (as := [.int 1]) (rest := []) (v := some (.int (1 : Int32))) dX8_op_31 rfl lX8_112 (by omega) rfl (Nat.le_of_ble_eq_true rfl) rfl (Nat.le_of_ble_eq_true rfl) (ho) (p_X8_refused_2 (d := 0) (Nat.le_refl _) h o (1 : Int32) (by decide) F ho rfl) (fun h => nomatch h)) ?_
  refine E.st (s_if_eq_f (q := 37) (tg := 41) dX8_op_34 (by decide) rfl (by decide)) ?_
  refine E.st (s_iconst (q := 38) (v := 0) dX8_op_37 rfl (by decide)) ?_
  refine E.st (s_goto (q := 51) dX8_op_38 (by decide)) ?_
  exact E.i dX8_op_51 rfl rfl rfl rfl

set_option maxRecDepth 20000 in
theorem p_X8_op_2 {d : Nat} (hd : 1 ≤ d) (h : AH) (o : Nat) (t : Int32) (a : Int32) (b : Int32) (F : Nat → Value) (ho : h.1 o = ob 8 (fo 53 F)) (v1 : Int32) (e1 : F 1 = .int v1) (c : ¬ (a < 0) ∧ ¬ (v1 ≤ a)) (c1 : b < 0 ∨ v1 ≤ b) : CM mX8_op d [.ref o, .int t, .int a, .int b] h (some (.int 0)) (hs h o (ob 8 (fo 53 (va_up F 0 (.int 1))))) := by
  show E false mX8_op d 0 [(0, .ref o), (1, .int t), (2, .int a), (3, .int b)] [] h _ _
  refine E.st (s_aload_n (q := 1) dX8_op_0 rfl rfl) ?_
  refine E.st (s_aload_n (q := 2) dX8_op_1 rfl rfl) ?_
  refine E.st (s_iload_n (q := 3) dX8_op_2 rfl rfl) ?_
  refine E.st (p2 := 6) (l2 := [(0, .ref o), (1, .int t), (2, .int a), (3, .int b)]) (s2 := [.int 1, .ref o]) (h2 := h) (s_invv (K := mX8_isNode) (o := o) (as := [.int a]) (rest := [.ref o]) (v := some (.int 1)) dX8_op_3 rfl lX8_108 (by omega) rfl (Nat.le_of_ble_eq_true rfl) rfl (Nat.le_of_ble_eq_true rfl) (ho) (q_X8_isNode_y (d := 0) (Nat.le_refl _) h o a F ho v1 e1 c) (fun h => nomatch h)) ?_
  refine E.st (s_if_eq_f (q := 9) (tg := 26) dX8_op_6 (by decide) rfl (by decide)) ?_
  refine E.st (s_aload_n (q := 10) dX8_op_9 rfl rfl) ?_
  refine E.st (s_iload_n (q := 11) dX8_op_10 rfl rfl) ?_
  refine E.st (p2 := 14) (l2 := [(0, .ref o), (1, .int t), (2, .int a), (3, .int b)]) (s2 := [.int 0, .ref o]) (h2 := h) (s_invv (K := mX8_isNode) (o := o) (as := [.int b]) (rest := [.ref o]) (v := some (.int 0)) dX8_op_11 rfl lX8_108 (by omega) rfl (Nat.le_of_ble_eq_true rfl) rfl (Nat.le_of_ble_eq_true rfl) (ho) (q_X8_isNode_n (d := 0) (Nat.le_refl _) h o b F ho v1 e1 c1) (fun h => nomatch h)) ?_
  refine E.st (s_if_eq_t (q := 26) dX8_op_14 (by decide) (by decide)) ?_
  refine E.st (s_iconst (q := 27) (v := 1) dX8_op_26 rfl (by decide)) ?_
  refine E.st (s_goto (q := 31) dX8_op_27 (by decide)) ?_
  refine E.st (p2 := 34) (l2 := [(0, .ref o), (1, .int t), (2, .int a), (3, .int b)]) (s2 := [.int (1 : Int32)]) (h2 := (hs h o (ob 8 (fo 53 (va_up F 0 (.int 1)))))) (s_invv (K := mX8_refused) (o := o) (as := [.int 1]) (rest := []) (v := some (.int (1 : Int32))) dX8_op_31 rfl lX8_112 (by omega) rfl (Nat.le_of_ble_eq_true rfl) rfl (Nat.le_of_ble_eq_true rfl) (ho) (p_X8_refused_2 (d := 0) (Nat.le_refl _) h o (1 : Int32) (by decide) F ho rfl) (fun h => nomatch h)) ?_
  refine E.st (s_if_eq_f (q := 37) (tg := 41) dX8_op_34 (by decide) rfl (by decide)) ?_
  refine E.st (s_iconst (q := 38) (v := 0) dX8_op_37 rfl (by decide)) ?_
  refine E.st (s_goto (q := 51) dX8_op_38 (by decide)) ?_
  exact E.i dX8_op_51 rfl rfl rfl rfl

set_option maxRecDepth 20000 in
theorem p_X8_op_3 {d : Nat} (hd : 1 ≤ d) (h : AH) (o : Nat) (t : Int32) (a : Int32) (b : Int32) (F : Nat → Value) (ho : h.1 o = ob 8 (fo 53 F)) (v1 : Int32) (e1 : F 1 = .int v1) (c : ¬ (a < 0) ∧ ¬ (v1 ≤ a)) (c1 : ¬ (b < 0) ∧ ¬ (v1 ≤ b)) (c2 : t < 0) : CM mX8_op d [.ref o, .int t, .int a, .int b] h (some (.int 0)) (hs h o (ob 8 (fo 53 (va_up F 0 (.int 1))))) := by
  show E false mX8_op d 0 [(0, .ref o), (1, .int t), (2, .int a), (3, .int b)] [] h _ _
  refine E.st (s_aload_n (q := 1) dX8_op_0 rfl rfl) ?_
  refine E.st (s_aload_n (q := 2) dX8_op_1 rfl rfl) ?_
  refine E.st (s_iload_n (q := 3) dX8_op_2 rfl rfl) ?_
  refine E.st (p2 := 6) (l2 := [(0, .ref o), (1, .int t), (2, .int a), (3, .int b)]) (s2 := [.int 1, .ref o]) (h2 := h) (s_invv (K := mX8_isNode) (o := o) (as := [.int a]) (rest := [.ref o]) (v := some (.int 1)) dX8_op_3 rfl lX8_108 (by omega) rfl (Nat.le_of_ble_eq_true rfl) rfl (Nat.le_of_ble_eq_true rfl) (ho) (q_X8_isNode_y (d := 0) (Nat.le_refl _) h o a F ho v1 e1 c) (fun h => nomatch h)) ?_
  refine E.st (s_if_eq_f (q := 9) (tg := 26) dX8_op_6 (by decide) rfl (by decide)) ?_
  refine E.st (s_aload_n (q := 10) dX8_op_9 rfl rfl) ?_
  refine E.st (s_iload_n (q := 11) dX8_op_10 rfl rfl) ?_
  refine E.st (p2 := 14) (l2 := [(0, .ref o), (1, .int t), (2, .int a), (3, .int b)]) (s2 := [.int 1, .ref o]) (h2 := h) (s_invv (K := mX8_isNode) (o := o) (as := [.int b]) (rest := [.ref o]) (v := some (.int 1)) dX8_op_11 rfl lX8_108 (by omega) rfl (Nat.le_of_ble_eq_true rfl) rfl (Nat.le_of_ble_eq_true rfl) (ho) (q_X8_isNode_y (d := 0) (Nat.le_refl _) h o b F ho v1 e1 c1) (fun h => nomatch h)) ?_
  refine E.st (s_if_eq_f (q := 17) (tg := 26) dX8_op_14 (by decide) rfl (by decide)) ?_
  refine E.st (s_iload_n (q := 18) dX8_op_17 rfl rfl) ?_
  refine E.st (s_if_lt_t (q := 26) dX8_op_18 (by decide) c2) ?_
  refine E.st (s_iconst (q := 27) (v := 1) dX8_op_26 rfl (by decide)) ?_
  refine E.st (s_goto (q := 31) dX8_op_27 (by decide)) ?_
  refine E.st (p2 := 34) (l2 := [(0, .ref o), (1, .int t), (2, .int a), (3, .int b)]) (s2 := [.int (1 : Int32)]) (h2 := (hs h o (ob 8 (fo 53 (va_up F 0 (.int 1)))))) (s_invv (K := mX8_refused) (o := o) (as := [.int 1]) (rest := []) (v := some (.int (1 : Int32))) dX8_op_31 rfl lX8_112 (by omega) rfl (Nat.le_of_ble_eq_true rfl) rfl (Nat.le_of_ble_eq_true rfl) (ho) (p_X8_refused_2 (d := 0) (Nat.le_refl _) h o (1 : Int32) (by decide) F ho rfl) (fun h => nomatch h)) ?_
  refine E.st (s_if_eq_f (q := 37) (tg := 41) dX8_op_34 (by decide) rfl (by decide)) ?_
  refine E.st (s_iconst (q := 38) (v := 0) dX8_op_37 rfl (by decide)) ?_
  refine E.st (s_goto (q := 51) dX8_op_38 (by decide)) ?_
  exact E.i dX8_op_51 rfl rfl rfl rfl

set_option maxRecDepth 20000 in
theorem p_X8_op_4 {d : Nat} (hd : 1 ≤ d) (h : AH) (o : Nat) (t : Int32) (a : Int32) (b : Int32) (F : Nat → Value) (ho : h.1 o = ob 8 (fo 53 F)) (v1 : Int32) (e1 : F 1 = .int v1) (c : ¬ (a < 0) ∧ ¬ (v1 ≤ a)) (c1 : ¬ (b < 0) ∧ ¬ (v1 ≤ b)) (c2 : ¬ (t < 0)) (c3 : t ≤ 5) (c4 : ¬ v1 = 60) (r2 : Nat) (e2 : F 2 = .ref r2) (n : Nat) (f : Nat → Int32) (ha : h.1 r2 = ia n f) (c5 : vp_in v1 n) (p : 0 < r2) (r3 : Nat) (e3 : F 3 = .ref r3) (n1 : Nat) (f1 : Nat → Int64) (ha1 : h.1 r3 = la n1 f1) (c6 : vp_in v1 n1) (r4 : Nat) (e4 : F 4 = .ref r4) (n2 : Nat) (f2 : Nat → Int32) (ha2 : h.1 r4 = ia n2 f2) (ne : r4 ≠ r2) (c7 : vp_in v1 n2) (p1 : 0 < r4) (r5 : Nat) (e5 : F 5 = .ref r5) (n3 : Nat) (f3 : Nat → Int32) (ha3 : h.1 r5 = ia n3 f3) (ne1 : r5 ≠ r4) (ne2 : r5 ≠ r2) (c8 : vp_in v1 n3) (p2 : 0 < r5) (r6 : Nat) (e6 : F 6 = .ref r6) (n4 : Nat) (f4 : Nat → Int32) (ha4 : h.1 r6 = ia n4 f4) (ne3 : r6 ≠ r5) (ne4 : r6 ≠ r4) (ne5 : r6 ≠ r2) (c9 : vp_in v1 n4) (p3 : 0 < r6) : CM mX8_op d [.ref o, .int t, .int a, .int b] h (some (.int ((v1 + 1) - 1))) (hs (hs (hs (hs (hs (hs (hs h o (ob 8 (fo 53 (va_up F 0 (.int 0))))) r2 (ia n (upd f v1.toNatClampNeg (6 : Int32)))) r3 (la n1 (vp_updL f1 v1.toNatClampNeg (0 : Int64)))) r4 (ia n2 (upd f2 v1.toNatClampNeg a))) r5 (ia n3 (upd f3 v1.toNatClampNeg b))) r6 (ia n4 (upd f4 v1.toNatClampNeg t))) o (ob 8 (fo 53 (va_up (va_up F 0 (.int 0)) 1 (.int (v1 + 1)))))) := by
  show E false mX8_op d 0 [(0, .ref o), (1, .int t), (2, .int a), (3, .int b)] [] h _ _
  refine E.st (s_aload_n (q := 1) dX8_op_0 rfl rfl) ?_
  refine E.st (s_aload_n (q := 2) dX8_op_1 rfl rfl) ?_
  refine E.st (s_iload_n (q := 3) dX8_op_2 rfl rfl) ?_
  refine E.st (p2 := 6) (l2 := [(0, .ref o), (1, .int t), (2, .int a), (3, .int b)]) (s2 := [.int 1, .ref o]) (h2 := h) (s_invv (K := mX8_isNode) (o := o) (as := [.int a]) (rest := [.ref o]) (v := some (.int 1)) dX8_op_3 rfl lX8_108 (by omega) rfl (Nat.le_of_ble_eq_true rfl) rfl (Nat.le_of_ble_eq_true rfl) (ho) (q_X8_isNode_y (d := 0) (Nat.le_refl _) h o a F ho v1 e1 c) (fun h => nomatch h)) ?_
  refine E.st (s_if_eq_f (q := 9) (tg := 26) dX8_op_6 (by decide) rfl (by decide)) ?_
  refine E.st (s_aload_n (q := 10) dX8_op_9 rfl rfl) ?_
  refine E.st (s_iload_n (q := 11) dX8_op_10 rfl rfl) ?_
  refine E.st (p2 := 14) (l2 := [(0, .ref o), (1, .int t), (2, .int a), (3, .int b)]) (s2 := [.int 1, .ref o]) (h2 := h) (s_invv (K := mX8_isNode) (o := o) (as := [.int b]) (rest := [.ref o]) (v := some (.int 1)) dX8_op_11 rfl lX8_108 (by omega) rfl (Nat.le_of_ble_eq_true rfl) rfl (Nat.le_of_ble_eq_true rfl) (ho) (q_X8_isNode_y (d := 0) (Nat.le_refl _) h o b F ho v1 e1 c1) (fun h => nomatch h)) ?_
  refine E.st (s_if_eq_f (q := 17) (tg := 26) dX8_op_14 (by decide) rfl (by decide)) ?_
  refine E.st (s_iload_n (q := 18) dX8_op_17 rfl rfl) ?_
  refine E.st (s_if_lt_f (q := 21) (tg := 26) dX8_op_18 (by decide) rfl c2) ?_
  refine E.st (s_iload_n (q := 22) dX8_op_21 rfl rfl) ?_
  refine E.st (s_iconst (q := 23) (v := 5) dX8_op_22 rfl (by decide)) ?_
  refine E.st (s_icmp_le_t (q := 30) dX8_op_23 (by decide) c3) ?_
  refine E.st (s_iconst (q := 31) (v := 0) dX8_op_30 rfl (by decide)) ?_
  refine E.st (p2 := 34) (l2 := [(0, .ref o), (1, .int t), (2, .int a), (3, .int b)]) (s2 := [.int (0 : Int32)]) (h2 := (hs h o (ob 8 (fo 53 (va_up F 0 (.int 0)))))) (s_invv (K := mX8_refused) (o := o) (as := [.int 0]) (rest := []) (v := some (.int (0 : Int32))) dX8_op_31 rfl lX8_112 (by omega) rfl (Nat.le_of_ble_eq_true rfl) rfl (Nat.le_of_ble_eq_true rfl) (ho) (p_X8_refused_1 (d := 0) (Nat.le_refl _) h o (0 : Int32) (by decide) F ho rfl) (fun h => nomatch h)) ?_
  refine E.st (s_if_eq_t (q := 41) dX8_op_34 (by decide) (by decide)) ?_
  refine E.st (s_aload_n (q := 42) dX8_op_41 rfl rfl) ?_
  refine E.st (s_bipush (q := 44) (v := 6) dX8_op_42 rfl (by decide)) ?_
  refine E.st (s_lconst (q := 45) (v := 0) dX8_op_44 rfl (by decide)) ?_
  refine E.st (s_iload_n (q := 46) dX8_op_45 rfl rfl) ?_
  refine E.st (s_iload_n (q := 47) dX8_op_46 rfl rfl) ?_
  refine E.st (s_iload_n (q := 48) dX8_op_47 rfl rfl) ?_
  refine E.st (p2 := 51) (l2 := [(0, .ref o), (1, .int t), (2, .int a), (3, .int b)]) (s2 := [.int ((v1 + 1) - 1)]) (h2 := (hs (hs (hs (hs (hs (hs (hs h o (ob 8 (fo 53 (va_up F 0 (.int 0))))) r2 (ia n (upd f v1.toNatClampNeg (6 : Int32)))) r3 (la n1 (vp_updL f1 v1.toNatClampNeg (0 : Int64)))) r4 (ia n2 (upd f2 v1.toNatClampNeg a))) r5 (ia n3 (upd f3 v1.toNatClampNeg b))) r6 (ia n4 (upd f4 v1.toNatClampNeg t))) o (ob 8 (fo 53 (va_up (va_up F 0 (.int 0)) 1 (.int (v1 + 1))))))) (s_invv (K := mX8_make) (o := o) (as := [.int 6, .long 0, .int a, .int b, .int t]) (rest := []) (v := some (.int ((v1 + 1) - 1))) dX8_op_48 rfl lX8_104 (by omega) rfl (Nat.le_of_ble_eq_true rfl) rfl (Nat.le_of_ble_eq_true rfl) (hs_eq) (p_X8_make_1 (d := 0) (Nat.le_refl _) (hs h o (ob 8 (fo 53 (va_up F 0 (.int 0))))) o (6 : Int32) (0 : Int64) a b t (va_up F 0 (.int 0)) hs_eq v1 ((up_ne (by decide)).trans (e1)) c4 r2 ((up_ne (by decide)).trans (e2)) n f ((hs_ne (Ne.symm (ne_oi ho ha))).trans (ha)) c5 p r3 ((up_ne (by decide)).trans (e3)) n1 f1 ((hs_ne (Ne.symm (ne_ol ho ha1))).trans (ha1)) c6 r4 ((up_ne (by decide)).trans (e4)) n2 f2 ((hs_ne (Ne.symm (ne_oi ho ha2))).trans (ha2)) ne c7 p1 r5 ((up_ne (by decide)).trans (e5)) n3 f3 ((hs_ne (Ne.symm (ne_oi ho ha3))).trans (ha3)) ne1 ne2 c8 p2 r6 ((up_ne (by decide)).trans (e6)) n4 f4 ((hs_ne (Ne.symm (ne_oi ho ha4))).trans (ha4)) ne3 ne4 ne5 c9 p3) (fun h => nomatch h)) ?_
  exact E.i dX8_op_51 rfl rfl rfl rfl

set_option maxRecDepth 20000 in
theorem p_X8_op_5 {d : Nat} (hd : 1 ≤ d) (h : AH) (o : Nat) (t : Int32) (a : Int32) (b : Int32) (F : Nat → Value) (ho : h.1 o = ob 8 (fo 53 F)) (v1 : Int32) (e1 : F 1 = .int v1) (c : ¬ (a < 0) ∧ ¬ (v1 ≤ a)) (c1 : ¬ (b < 0) ∧ ¬ (v1 ≤ b)) (c2 : ¬ (t < 0)) (c3 : t ≤ 5) (c4 : v1 = 60) : CM mX8_op d [.ref o, .int t, .int a, .int b] h (some (.int (-1))) (hs h o (ob 8 (fo 53 (va_up F 0 (.int 0))))) := by
  show E false mX8_op d 0 [(0, .ref o), (1, .int t), (2, .int a), (3, .int b)] [] h _ _
  refine E.st (s_aload_n (q := 1) dX8_op_0 rfl rfl) ?_
  refine E.st (s_aload_n (q := 2) dX8_op_1 rfl rfl) ?_
  refine E.st (s_iload_n (q := 3) dX8_op_2 rfl rfl) ?_
  refine E.st (p2 := 6) (l2 := [(0, .ref o), (1, .int t), (2, .int a), (3, .int b)]) (s2 := [.int 1, .ref o]) (h2 := h) (s_invv (K := mX8_isNode) (o := o) (as := [.int a]) (rest := [.ref o]) (v := some (.int 1)) dX8_op_3 rfl lX8_108 (by omega) rfl (Nat.le_of_ble_eq_true rfl) rfl (Nat.le_of_ble_eq_true rfl) (ho) (q_X8_isNode_y (d := 0) (Nat.le_refl _) h o a F ho v1 e1 c) (fun h => nomatch h)) ?_
  refine E.st (s_if_eq_f (q := 9) (tg := 26) dX8_op_6 (by decide) rfl (by decide)) ?_
  refine E.st (s_aload_n (q := 10) dX8_op_9 rfl rfl) ?_
  refine E.st (s_iload_n (q := 11) dX8_op_10 rfl rfl) ?_
  refine E.st (p2 := 14) (l2 := [(0, .ref o), (1, .int t), (2, .int a), (3, .int b)]) (s2 := [.int 1, .ref o]) (h2 := h) (s_invv (K := mX8_isNode) (o := o) (as := [.int b]) (rest := [.ref o]) (v := some (.int 1)) dX8_op_11 rfl lX8_108 (by omega) rfl (Nat.le_of_ble_eq_true rfl) rfl (Nat.le_of_ble_eq_true rfl) (ho) (q_X8_isNode_y (d := 0) (Nat.le_refl _) h o b F ho v1 e1 c1) (fun h => nomatch h)) ?_
  refine E.st (s_if_eq_f (q := 17) (tg := 26) dX8_op_14 (by decide) rfl (by decide)) ?_
  refine E.st (s_iload_n (q := 18) dX8_op_17 rfl rfl) ?_
  refine E.st (s_if_lt_f (q := 21) (tg := 26) dX8_op_18 (by decide) rfl c2) ?_
  refine E.st (s_iload_n (q := 22) dX8_op_21 rfl rfl) ?_
  refine E.st (s_iconst (q := 23) (v := 5) dX8_op_22 rfl (by decide)) ?_
  refine E.st (s_icmp_le_t (q := 30) dX8_op_23 (by decide) c3) ?_
  refine E.st (s_iconst (q := 31) (v := 0) dX8_op_30 rfl (by decide)) ?_
  refine E.st (p2 := 34) (l2 := [(0, .ref o), (1, .int t), (2, .int a), (3, .int b)]) (s2 := [.int (0 : Int32)]) (h2 := (hs h o (ob 8 (fo 53 (va_up F 0 (.int 0)))))) (s_invv (K := mX8_refused) (o := o) (as := [.int 0]) (rest := []) (v := some (.int (0 : Int32))) dX8_op_31 rfl lX8_112 (by omega) rfl (Nat.le_of_ble_eq_true rfl) rfl (Nat.le_of_ble_eq_true rfl) (ho) (p_X8_refused_1 (d := 0) (Nat.le_refl _) h o (0 : Int32) (by decide) F ho rfl) (fun h => nomatch h)) ?_
  refine E.st (s_if_eq_t (q := 41) dX8_op_34 (by decide) (by decide)) ?_
  refine E.st (s_aload_n (q := 42) dX8_op_41 rfl rfl) ?_
  refine E.st (s_bipush (q := 44) (v := 6) dX8_op_42 rfl (by decide)) ?_
  refine E.st (s_lconst (q := 45) (v := 0) dX8_op_44 rfl (by decide)) ?_
  refine E.st (s_iload_n (q := 46) dX8_op_45 rfl rfl) ?_
  refine E.st (s_iload_n (q := 47) dX8_op_46 rfl rfl) ?_
  refine E.st (s_iload_n (q := 48) dX8_op_47 rfl rfl) ?_
  refine E.st (p2 := 51) (l2 := [(0, .ref o), (1, .int t), (2, .int a), (3, .int b)]) (s2 := [.int (-1)]) (h2 := (hs h o (ob 8 (fo 53 (va_up F 0 (.int 0)))))) (s_invv (K := mX8_make) (o := o) (as := [.int 6, .long 0, .int a, .int b, .int t]) (rest := []) (v := some (.int (-1))) dX8_op_48 rfl lX8_104 (by omega) rfl (Nat.le_of_ble_eq_true rfl) rfl (Nat.le_of_ble_eq_true rfl) (hs_eq) (p_X8_make_2 (d := 0) (Nat.le_refl _) (hs h o (ob 8 (fo 53 (va_up F 0 (.int 0))))) o (6 : Int32) (0 : Int64) a b t (va_up F 0 (.int 0)) hs_eq v1 ((up_ne (by decide)).trans (e1)) c4) (fun h => nomatch h)) ?_
  exact E.i dX8_op_51 rfl rfl rfl rfl

set_option maxRecDepth 20000 in
theorem p_X8_op_6 {d : Nat} (hd : 1 ≤ d) (h : AH) (o : Nat) (t : Int32) (a : Int32) (b : Int32) (F : Nat → Value) (ho : h.1 o = ob 8 (fo 53 F)) (v1 : Int32) (e1 : F 1 = .int v1) (c : ¬ (a < 0) ∧ ¬ (v1 ≤ a)) (c1 : ¬ (b < 0) ∧ ¬ (v1 ≤ b)) (c2 : ¬ (t < 0)) (c3 : ¬ (t ≤ 5)) : CM mX8_op d [.ref o, .int t, .int a, .int b] h (some (.int 0)) (hs h o (ob 8 (fo 53 (va_up F 0 (.int 1))))) := by
  show E false mX8_op d 0 [(0, .ref o), (1, .int t), (2, .int a), (3, .int b)] [] h _ _
  refine E.st (s_aload_n (q := 1) dX8_op_0 rfl rfl) ?_
  refine E.st (s_aload_n (q := 2) dX8_op_1 rfl rfl) ?_
  refine E.st (s_iload_n (q := 3) dX8_op_2 rfl rfl) ?_
  refine E.st (p2 := 6) (l2 := [(0, .ref o), (1, .int t), (2, .int a), (3, .int b)]) (s2 := [.int 1, .ref o]) (h2 := h) (s_invv (K := mX8_isNode) (o := o) (as := [.int a]) (rest := [.ref o]) (v := some (.int 1)) dX8_op_3 rfl lX8_108 (by omega) rfl (Nat.le_of_ble_eq_true rfl) rfl (Nat.le_of_ble_eq_true rfl) (ho) (q_X8_isNode_y (d := 0) (Nat.le_refl _) h o a F ho v1 e1 c) (fun h => nomatch h)) ?_
  refine E.st (s_if_eq_f (q := 9) (tg := 26) dX8_op_6 (by decide) rfl (by decide)) ?_
  refine E.st (s_aload_n (q := 10) dX8_op_9 rfl rfl) ?_
  refine E.st (s_iload_n (q := 11) dX8_op_10 rfl rfl) ?_
  refine E.st (p2 := 14) (l2 := [(0, .ref o), (1, .int t), (2, .int a), (3, .int b)]) (s2 := [.int 1, .ref o]) (h2 := h) (s_invv (K := mX8_isNode) (o := o) (as := [.int b]) (rest := [.ref o]) (v := some (.int 1)) dX8_op_11 rfl lX8_108 (by omega) rfl (Nat.le_of_ble_eq_true rfl) rfl (Nat.le_of_ble_eq_true rfl) (ho) (q_X8_isNode_y (d := 0) (Nat.le_refl _) h o b F ho v1 e1 c1) (fun h => nomatch h)) ?_
  refine E.st (s_if_eq_f (q := 17) (tg := 26) dX8_op_14 (by decide) rfl (by decide)) ?_
  refine E.st (s_iload_n (q := 18) dX8_op_17 rfl rfl) ?_
  refine E.st (s_if_lt_f (q := 21) (tg := 26) dX8_op_18 (by decide) rfl c2) ?_
  refine E.st (s_iload_n (q := 22) dX8_op_21 rfl rfl) ?_
  refine E.st (s_iconst (q := 23) (v := 5) dX8_op_22 rfl (by decide)) ?_
  refine E.st (s_icmp_le_f (q := 26) (tg := 30) dX8_op_23 (by decide) rfl c3) ?_
  refine E.st (s_iconst (q := 27) (v := 1) dX8_op_26 rfl (by decide)) ?_
  refine E.st (s_goto (q := 31) dX8_op_27 (by decide)) ?_
  refine E.st (p2 := 34) (l2 := [(0, .ref o), (1, .int t), (2, .int a), (3, .int b)]) (s2 := [.int (1 : Int32)]) (h2 := (hs h o (ob 8 (fo 53 (va_up F 0 (.int 1)))))) (s_invv (K := mX8_refused) (o := o) (as := [.int 1]) (rest := []) (v := some (.int (1 : Int32))) dX8_op_31 rfl lX8_112 (by omega) rfl (Nat.le_of_ble_eq_true rfl) rfl (Nat.le_of_ble_eq_true rfl) (ho) (p_X8_refused_2 (d := 0) (Nat.le_refl _) h o (1 : Int32) (by decide) F ho rfl) (fun h => nomatch h)) ?_
  refine E.st (s_if_eq_f (q := 37) (tg := 41) dX8_op_34 (by decide) rfl (by decide)) ?_
  refine E.st (s_iconst (q := 38) (v := 0) dX8_op_37 rfl (by decide)) ?_
  refine E.st (s_goto (q := 51) dX8_op_38 (by decide)) ?_
  exact E.i dX8_op_51 rfl rfl rfl rfl

set_option maxRecDepth 20000 in
theorem p_X8_when_1 {d : Nat} (hd : 1 ≤ d) (h : AH) (o : Nat) (a : Int32) (b : Int32) (c : Int32) (F : Nat → Value) (ho : h.1 o = ob 8 (fo 53 F)) (v1 : Int32) (e1 : F 1 = .int v1) (c1 : a < 0 ∨ v1 ≤ a) : CM mX8_when d [.ref o, .int a, .int b, .int c] h (some (.int 0)) (hs h o (ob 8 (fo 53 (va_up F 0 (.int 1))))) := by
  show E false mX8_when d 0 [(0, .ref o), (1, .int a), (2, .int b), (3, .int c)] [] h _ _
  refine E.st (s_aload_n (q := 1) dX8_when_0 rfl rfl) ?_
  refine E.st (s_aload_n (q := 2) dX8_when_1 rfl rfl) ?_
  refine E.st (s_iload_n (q := 3) dX8_when_2 rfl rfl) ?_
  refine E.st (p2 := 6) (l2 := [(0, .ref o), (1, .int a), (2, .int b), (3, .int c)]) (s2 := [.int 0, .ref o]) (h2 := h) (s_invv (K := mX8_isNode) (o := o) (as := [.int a]) (rest := [.ref o]) (v := some (.int 0)) dX8_when_3 rfl lX8_108 (by omega) rfl (Nat.le_of_ble_eq_true rfl) rfl (Nat.le_of_ble_eq_true rfl) (ho) (q_X8_isNode_n (d := 0) (Nat.le_refl _) h o a F ho v1 e1 c1) (fun h => nomatch h)) ?_
  refine E.st (s_if_eq_t (q := 25) dX8_when_6 (by decide) (by decide)) ?_
  refine E.st (s_iconst (q := 26) (v := 1) dX8_when_25 rfl (by decide)) ?_
  refine E.st (s_goto (q := 30) dX8_when_26 (by decide)) ?_
  refine E.st (p2 := 33) (l2 := [(0, .ref o), (1, .int a), (2, .int b), (3, .int c)]) (s2 := [.int (1 : Int32)]) (h2 := (hs h o (ob 8 (fo 53 (va_up F 0 (.int 1)))))) (s_invv (K := mX8_refused) (o := o) (as := [.int 1]) (rest := []) (v := some (.int (1 : Int32))) dX8_when_30 rfl lX8_112 (by omega) rfl (Nat.le_of_ble_eq_true rfl) rfl (Nat.le_of_ble_eq_true rfl) (ho) (p_X8_refused_2 (d := 0) (Nat.le_refl _) h o (1 : Int32) (by decide) F ho rfl) (fun h => nomatch h)) ?_
  refine E.st (s_if_eq_f (q := 36) (tg := 40) dX8_when_33 (by decide) rfl (by decide)) ?_
  refine E.st (s_iconst (q := 37) (v := 0) dX8_when_36 rfl (by decide)) ?_
  refine E.st (s_goto (q := 50) dX8_when_37 (by decide)) ?_
  exact E.i dX8_when_50 rfl rfl rfl rfl

set_option maxRecDepth 20000 in
theorem p_X8_when_2 {d : Nat} (hd : 1 ≤ d) (h : AH) (o : Nat) (a : Int32) (b : Int32) (c : Int32) (F : Nat → Value) (ho : h.1 o = ob 8 (fo 53 F)) (v1 : Int32) (e1 : F 1 = .int v1) (c1 : ¬ (a < 0) ∧ ¬ (v1 ≤ a)) (c2 : b < 0 ∨ v1 ≤ b) : CM mX8_when d [.ref o, .int a, .int b, .int c] h (some (.int 0)) (hs h o (ob 8 (fo 53 (va_up F 0 (.int 1))))) := by
  show E false mX8_when d 0 [(0, .ref o), (1, .int a), (2, .int b), (3, .int c)] [] h _ _
  refine E.st (s_aload_n (q := 1) dX8_when_0 rfl rfl) ?_
  refine E.st (s_aload_n (q := 2) dX8_when_1 rfl rfl) ?_
  refine E.st (s_iload_n (q := 3) dX8_when_2 rfl rfl) ?_
  refine E.st (p2 := 6) (l2 := [(0, .ref o), (1, .int a), (2, .int b), (3, .int c)]) (s2 := [.int 1, .ref o]) (h2 := h) (s_invv (K := mX8_isNode) (o := o) (as := [.int a]) (rest := [.ref o]) (v := some (.int 1)) dX8_when_3 rfl lX8_108 (by omega) rfl (Nat.le_of_ble_eq_true rfl) rfl (Nat.le_of_ble_eq_true rfl) (ho) (q_X8_isNode_y (d := 0) (Nat.le_refl _) h o a F ho v1 e1 c1) (fun h => nomatch h)) ?_
  refine E.st (s_if_eq_f (q := 9) (tg := 25) dX8_when_6 (by decide) rfl (by decide)) ?_
  refine E.st (s_aload_n (q := 10) dX8_when_9 rfl rfl) ?_
  refine E.st (s_iload_n (q := 11) dX8_when_10 rfl rfl) ?_
  refine E.st (p2 := 14) (l2 := [(0, .ref o), (1, .int a), (2, .int b), (3, .int c)]) (s2 := [.int 0, .ref o]) (h2 := h) (s_invv (K := mX8_isNode) (o := o) (as := [.int b]) (rest := [.ref o]) (v := some (.int 0)) dX8_when_11 rfl lX8_108 (by omega) rfl (Nat.le_of_ble_eq_true rfl) rfl (Nat.le_of_ble_eq_true rfl) (ho) (q_X8_isNode_n (d := 0) (Nat.le_refl _) h o b F ho v1 e1 c2) (fun h => nomatch h)) ?_
  refine E.st (s_if_eq_t (q := 25) dX8_when_14 (by decide) (by decide)) ?_
  refine E.st (s_iconst (q := 26) (v := 1) dX8_when_25 rfl (by decide)) ?_
  refine E.st (s_goto (q := 30) dX8_when_26 (by decide)) ?_
  refine E.st (p2 := 33) (l2 := [(0, .ref o), (1, .int a), (2, .int b), (3, .int c)]) (s2 := [.int (1 : Int32)]) (h2 := (hs h o (ob 8 (fo 53 (va_up F 0 (.int 1)))))) (s_invv (K := mX8_refused) (o := o) (as := [.int 1]) (rest := []) (v := some (.int (1 : Int32))) dX8_when_30 rfl lX8_112 (by omega) rfl (Nat.le_of_ble_eq_true rfl) rfl (Nat.le_of_ble_eq_true rfl) (ho) (p_X8_refused_2 (d := 0) (Nat.le_refl _) h o (1 : Int32) (by decide) F ho rfl) (fun h => nomatch h)) ?_
  refine E.st (s_if_eq_f (q := 36) (tg := 40) dX8_when_33 (by decide) rfl (by decide)) ?_
  refine E.st (s_iconst (q := 37) (v := 0) dX8_when_36 rfl (by decide)) ?_
  refine E.st (s_goto (q := 50) dX8_when_37 (by decide)) ?_
  exact E.i dX8_when_50 rfl rfl rfl rfl

set_option maxRecDepth 20000 in
theorem p_X8_when_3 {d : Nat} (hd : 1 ≤ d) (h : AH) (o : Nat) (a : Int32) (b : Int32) (c : Int32) (F : Nat → Value) (ho : h.1 o = ob 8 (fo 53 F)) (v1 : Int32) (e1 : F 1 = .int v1) (c1 : ¬ (a < 0) ∧ ¬ (v1 ≤ a)) (c2 : ¬ (b < 0) ∧ ¬ (v1 ≤ b)) (c3 : c < 0 ∨ v1 ≤ c) : CM mX8_when d [.ref o, .int a, .int b, .int c] h (some (.int 0)) (hs h o (ob 8 (fo 53 (va_up F 0 (.int 1))))) := by
  show E false mX8_when d 0 [(0, .ref o), (1, .int a), (2, .int b), (3, .int c)] [] h _ _
  refine E.st (s_aload_n (q := 1) dX8_when_0 rfl rfl) ?_
  refine E.st (s_aload_n (q := 2) dX8_when_1 rfl rfl) ?_
  refine E.st (s_iload_n (q := 3) dX8_when_2 rfl rfl) ?_
  refine E.st (p2 := 6) (l2 := [(0, .ref o), (1, .int a), (2, .int b), (3, .int c)]) (s2 := [.int 1, .ref o]) (h2 := h) (s_invv (K := mX8_isNode) (o := o) (as := [.int a]) (rest := [.ref o]) (v := some (.int 1)) dX8_when_3 rfl lX8_108 (by omega) rfl (Nat.le_of_ble_eq_true rfl) rfl (Nat.le_of_ble_eq_true rfl) (ho) (q_X8_isNode_y (d := 0) (Nat.le_refl _) h o a F ho v1 e1 c1) (fun h => nomatch h)) ?_
  refine E.st (s_if_eq_f (q := 9) (tg := 25) dX8_when_6 (by decide) rfl (by decide)) ?_
  refine E.st (s_aload_n (q := 10) dX8_when_9 rfl rfl) ?_
  refine E.st (s_iload_n (q := 11) dX8_when_10 rfl rfl) ?_
  refine E.st (p2 := 14) (l2 := [(0, .ref o), (1, .int a), (2, .int b), (3, .int c)]) (s2 := [.int 1, .ref o]) (h2 := h) (s_invv (K := mX8_isNode) (o := o) (as := [.int b]) (rest := [.ref o]) (v := some (.int 1)) dX8_when_11 rfl lX8_108 (by omega) rfl (Nat.le_of_ble_eq_true rfl) rfl (Nat.le_of_ble_eq_true rfl) (ho) (q_X8_isNode_y (d := 0) (Nat.le_refl _) h o b F ho v1 e1 c2) (fun h => nomatch h)) ?_
  refine E.st (s_if_eq_f (q := 17) (tg := 25) dX8_when_14 (by decide) rfl (by decide)) ?_
  refine E.st (s_aload_n (q := 18) dX8_when_17 rfl rfl) ?_
  refine E.st (s_iload_n (q := 19) dX8_when_18 rfl rfl) ?_
  refine E.st (p2 := 22) (l2 := [(0, .ref o), (1, .int a), (2, .int b), (3, .int c)]) (s2 := [.int 0, .ref o]) (h2 := h) (s_invv (K := mX8_isNode) (o := o) (as := [.int c]) (rest := [.ref o]) (v := some (.int 0)) dX8_when_19 rfl lX8_108 (by omega) rfl (Nat.le_of_ble_eq_true rfl) rfl (Nat.le_of_ble_eq_true rfl) (ho) (q_X8_isNode_n (d := 0) (Nat.le_refl _) h o c F ho v1 e1 c3) (fun h => nomatch h)) ?_
  refine E.st (s_if_ne_f (q := 25) (tg := 29) dX8_when_22 (by decide) rfl (by decide)) ?_
  refine E.st (s_iconst (q := 26) (v := 1) dX8_when_25 rfl (by decide)) ?_
  refine E.st (s_goto (q := 30) dX8_when_26 (by decide)) ?_
  refine E.st (p2 := 33) (l2 := [(0, .ref o), (1, .int a), (2, .int b), (3, .int c)]) (s2 := [.int (1 : Int32)]) (h2 := (hs h o (ob 8 (fo 53 (va_up F 0 (.int 1)))))) (s_invv (K := mX8_refused) (o := o) (as := [.int 1]) (rest := []) (v := some (.int (1 : Int32))) dX8_when_30 rfl lX8_112 (by omega) rfl (Nat.le_of_ble_eq_true rfl) rfl (Nat.le_of_ble_eq_true rfl) (ho) (p_X8_refused_2 (d := 0) (Nat.le_refl _) h o (1 : Int32) (by decide) F ho rfl) (fun h => nomatch h)) ?_
  refine E.st (s_if_eq_f (q := 36) (tg := 40) dX8_when_33 (by decide) rfl (by decide)) ?_
  refine E.st (s_iconst (q := 37) (v := 0) dX8_when_36 rfl (by decide)) ?_
  refine E.st (s_goto (q := 50) dX8_when_37 (by decide)) ?_
  exact E.i dX8_when_50 rfl rfl rfl rfl

set_option maxRecDepth 20000 in
theorem p_X8_when_4 {d : Nat} (hd : 1 ≤ d) (h : AH) (o : Nat) (a : Int32) (b : Int32) (c : Int32) (F : Nat → Value) (ho : h.1 o = ob 8 (fo 53 F)) (v1 : Int32) (e1 : F 1 = .int v1) (c1 : ¬ (a < 0) ∧ ¬ (v1 ≤ a)) (c2 : ¬ (b < 0) ∧ ¬ (v1 ≤ b)) (c3 : ¬ (c < 0) ∧ ¬ (v1 ≤ c)) (c4 : ¬ v1 = 60) (r2 : Nat) (e2 : F 2 = .ref r2) (n : Nat) (f : Nat → Int32) (ha : h.1 r2 = ia n f) (c5 : vp_in v1 n) (p : 0 < r2) (r3 : Nat) (e3 : F 3 = .ref r3) (n1 : Nat) (f1 : Nat → Int64) (ha1 : h.1 r3 = la n1 f1) (c6 : vp_in v1 n1) (r4 : Nat) (e4 : F 4 = .ref r4) (n2 : Nat) (f2 : Nat → Int32) (ha2 : h.1 r4 = ia n2 f2) (ne : r4 ≠ r2) (c7 : vp_in v1 n2) (p1 : 0 < r4) (r5 : Nat) (e5 : F 5 = .ref r5) (n3 : Nat) (f3 : Nat → Int32) (ha3 : h.1 r5 = ia n3 f3) (ne1 : r5 ≠ r4) (ne2 : r5 ≠ r2) (c8 : vp_in v1 n3) (p2 : 0 < r5) (r6 : Nat) (e6 : F 6 = .ref r6) (n4 : Nat) (f4 : Nat → Int32) (ha4 : h.1 r6 = ia n4 f4) (ne3 : r6 ≠ r5) (ne4 : r6 ≠ r4) (ne5 : r6 ≠ r2) (c9 : vp_in v1 n4) (p3 : 0 < r6) : CM mX8_when d [.ref o, .int a, .int b, .int c] h (some (.int ((v1 + 1) - 1))) (hs (hs (hs (hs (hs (hs (hs h o (ob 8 (fo 53 (va_up F 0 (.int 0))))) r2 (ia n (upd f v1.toNatClampNeg (7 : Int32)))) r3 (la n1 (vp_updL f1 v1.toNatClampNeg (0 : Int64)))) r4 (ia n2 (upd f2 v1.toNatClampNeg a))) r5 (ia n3 (upd f3 v1.toNatClampNeg b))) r6 (ia n4 (upd f4 v1.toNatClampNeg c))) o (ob 8 (fo 53 (va_up (va_up F 0 (.int 0)) 1 (.int (v1 + 1)))))) := by
  show E false mX8_when d 0 [(0, .ref o), (1, .int a), (2, .int b), (3, .int c)] [] h _ _
  refine E.st (s_aload_n (q := 1) dX8_when_0 rfl rfl) ?_
  refine E.st (s_aload_n (q := 2) dX8_when_1 rfl rfl) ?_
  refine E.st (s_iload_n (q := 3) dX8_when_2 rfl rfl) ?_
  refine E.st (p2 := 6) (l2 := [(0, .ref o), (1, .int a), (2, .int b), (3, .int c)]) (s2 := [.int 1, .ref o]) (h2 := h) (s_invv (K := mX8_isNode) (o := o) (as := [.int a]) (rest := [.ref o]) (v := some (.int 1)) dX8_when_3 rfl lX8_108 (by omega) rfl (Nat.le_of_ble_eq_true rfl) rfl (Nat.le_of_ble_eq_true rfl) (ho) (q_X8_isNode_y (d := 0) (Nat.le_refl _) h o a F ho v1 e1 c1) (fun h => nomatch h)) ?_
  refine E.st (s_if_eq_f (q := 9) (tg := 25) dX8_when_6 (by decide) rfl (by decide)) ?_
  refine E.st (s_aload_n (q := 10) dX8_when_9 rfl rfl) ?_
  refine E.st (s_iload_n (q := 11) dX8_when_10 rfl rfl) ?_
  refine E.st (p2 := 14) (l2 := [(0, .ref o), (1, .int a), (2, .int b), (3, .int c)]) (s2 := [.int 1, .ref o]) (h2 := h) (s_invv (K := mX8_isNode) (o := o) (as := [.int b]) (rest := [.ref o]) (v := some (.int 1)) dX8_when_11 rfl lX8_108 (by omega) rfl (Nat.le_of_ble_eq_true rfl) rfl (Nat.le_of_ble_eq_true rfl) (ho) (q_X8_isNode_y (d := 0) (Nat.le_refl _) h o b F ho v1 e1 c2) (fun h => nomatch h)) ?_
  refine E.st (s_if_eq_f (q := 17) (tg := 25) dX8_when_14 (by decide) rfl (by decide)) ?_
  refine E.st (s_aload_n (q := 18) dX8_when_17 rfl rfl) ?_
  refine E.st (s_iload_n (q := 19) dX8_when_18 rfl rfl) ?_
  refine E.st (p2 := 22) (l2 := [(0, .ref o), (1, .int a), (2, .int b), (3, .int c)]) (s2 := [.int 1, .ref o]) (h2 := h) (s_invv (K := mX8_isNode) (o := o) (as := [.int c]) (rest := [.ref o]) (v := some (.int 1)) dX8_when_19 rfl lX8_108 (by omega) rfl (Nat.le_of_ble_eq_true rfl) rfl (Nat.le_of_ble_eq_true rfl) (ho) (q_X8_isNode_y (d := 0) (Nat.le_refl _) h o c F ho v1 e1 c3) (fun h => nomatch h)) ?_
  refine E.st (s_if_ne_t (q := 29) dX8_when_22 (by decide) (by decide)) ?_
  refine E.st (s_iconst (q := 30) (v := 0) dX8_when_29 rfl (by decide)) ?_
  refine E.st (p2 := 33) (l2 := [(0, .ref o), (1, .int a), (2, .int b), (3, .int c)]) (s2 := [.int (0 : Int32)]) (h2 := (hs h o (ob 8 (fo 53 (va_up F 0 (.int 0)))))) (s_invv (K := mX8_refused) (o := o) (as := [.int 0]) (rest := []) (v := some (.int (0 : Int32))) dX8_when_30 rfl lX8_112 (by omega) rfl (Nat.le_of_ble_eq_true rfl) rfl (Nat.le_of_ble_eq_true rfl) (ho) (p_X8_refused_1 (d := 0) (Nat.le_refl _) h o (0 : Int32) (by decide) F ho rfl) (fun h => nomatch h)) ?_
  refine E.st (s_if_eq_t (q := 40) dX8_when_33 (by decide) (by decide)) ?_
  refine E.st (s_aload_n (q := 41) dX8_when_40 rfl rfl) ?_
  refine E.st (s_bipush (q := 43) (v := 7) dX8_when_41 rfl (by decide)) ?_
  refine E.st (s_lconst (q := 44) (v := 0) dX8_when_43 rfl (by decide)) ?_
  refine E.st (s_iload_n (q := 45) dX8_when_44 rfl rfl) ?_
  refine E.st (s_iload_n (q := 46) dX8_when_45 rfl rfl) ?_
  refine E.st (s_iload_n (q := 47) dX8_when_46 rfl rfl) ?_
  refine E.st (p2 := 50) (l2 := [(0, .ref o), (1, .int a), (2, .int b), (3, .int c)]) (s2 := [.int ((v1 + 1) - 1)]) (h2 := (hs (hs (hs (hs (hs (hs (hs h o (ob 8 (fo 53 (va_up F 0 (.int 0))))) r2 (ia n (upd f v1.toNatClampNeg (7 : Int32)))) r3 (la n1 (vp_updL f1 v1.toNatClampNeg (0 : Int64)))) r4 (ia n2 (upd f2 v1.toNatClampNeg a))) r5 (ia n3 (upd f3 v1.toNatClampNeg b))) r6 (ia n4 (upd f4 v1.toNatClampNeg c))) o (ob 8 (fo 53 (va_up (va_up F 0 (.int 0)) 1 (.int (v1 + 1))))))) (s_invv (K := mX8_make) (o := o) (as := [.int 7, .long 0, .int a, .int b, .int c]) (rest := []) (v := some (.int ((v1 + 1) - 1))) dX8_when_47 rfl lX8_104 (by omega) rfl (Nat.le_of_ble_eq_true rfl) rfl (Nat.le_of_ble_eq_true rfl) (hs_eq) (p_X8_make_1 (d := 0) (Nat.le_refl _) (hs h o (ob 8 (fo 53 (va_up F 0 (.int 0))))) o (7 : Int32) (0 : Int64) a b c (va_up F 0 (.int 0)) hs_eq v1 ((up_ne (by decide)).trans (e1)) c4 r2 ((up_ne (by decide)).trans (e2)) n f ((hs_ne (Ne.symm (ne_oi ho ha))).trans (ha)) c5 p r3 ((up_ne (by decide)).trans (e3)) n1 f1 ((hs_ne (Ne.symm (ne_ol ho ha1))).trans (ha1)) c6 r4 ((up_ne (by decide)).trans (e4)) n2 f2 ((hs_ne (Ne.symm (ne_oi ho ha2))).trans (ha2)) ne c7 p1 r5 ((up_ne (by decide)).trans (e5)) n3 f3 ((hs_ne (Ne.symm (ne_oi ho ha3))).trans (ha3)) ne1 ne2 c8 p2 r6 ((up_ne (by decide)).trans (e6)) n4 f4 ((hs_ne (Ne.symm (ne_oi ho ha4))).trans (ha4)) ne3 ne4 ne5 c9 p3) (fun h => nomatch h)) ?_
  exact E.i dX8_when_50 rfl rfl rfl rfl

set_option maxRecDepth 20000 in
theorem p_X8_when_5 {d : Nat} (hd : 1 ≤ d) (h : AH) (o : Nat) (a : Int32) (b : Int32) (c : Int32) (F : Nat → Value) (ho : h.1 o = ob 8 (fo 53 F)) (v1 : Int32) (e1 : F 1 = .int v1) (c1 : ¬ (a < 0) ∧ ¬ (v1 ≤ a)) (c2 : ¬ (b < 0) ∧ ¬ (v1 ≤ b)) (c3 : ¬ (c < 0) ∧ ¬ (v1 ≤ c)) (c4 : v1 = 60) : CM mX8_when d [.ref o, .int a, .int b, .int c] h (some (.int (-1))) (hs h o (ob 8 (fo 53 (va_up F 0 (.int 0))))) := by
  show E false mX8_when d 0 [(0, .ref o), (1, .int a), (2, .int b), (3, .int c)] [] h _ _
  refine E.st (s_aload_n (q := 1) dX8_when_0 rfl rfl) ?_
  refine E.st (s_aload_n (q := 2) dX8_when_1 rfl rfl) ?_
  refine E.st (s_iload_n (q := 3) dX8_when_2 rfl rfl) ?_
  refine E.st (p2 := 6) (l2 := [(0, .ref o), (1, .int a), (2, .int b), (3, .int c)]) (s2 := [.int 1, .ref o]) (h2 := h) (s_invv (K := mX8_isNode) (o := o) (as := [.int a]) (rest := [.ref o]) (v := some (.int 1)) dX8_when_3 rfl lX8_108 (by omega) rfl (Nat.le_of_ble_eq_true rfl) rfl (Nat.le_of_ble_eq_true rfl) (ho) (q_X8_isNode_y (d := 0) (Nat.le_refl _) h o a F ho v1 e1 c1) (fun h => nomatch h)) ?_
  refine E.st (s_if_eq_f (q := 9) (tg := 25) dX8_when_6 (by decide) rfl (by decide)) ?_
  refine E.st (s_aload_n (q := 10) dX8_when_9 rfl rfl) ?_
  refine E.st (s_iload_n (q := 11) dX8_when_10 rfl rfl) ?_
  refine E.st (p2 := 14) (l2 := [(0, .ref o), (1, .int a), (2, .int b), (3, .int c)]) (s2 := [.int 1, .ref o]) (h2 := h) (s_invv (K := mX8_isNode) (o := o) (as := [.int b]) (rest := [.ref o]) (v := some (.int 1)) dX8_when_11 rfl lX8_108 (by omega) rfl (Nat.le_of_ble_eq_true rfl) rfl (Nat.le_of_ble_eq_true rfl) (ho) (q_X8_isNode_y (d := 0) (Nat.le_refl _) h o b F ho v1 e1 c2) (fun h => nomatch h)) ?_
  refine E.st (s_if_eq_f (q := 17) (tg := 25) dX8_when_14 (by decide) rfl (by decide)) ?_
  refine E.st (s_aload_n (q := 18) dX8_when_17 rfl rfl) ?_
  refine E.st (s_iload_n (q := 19) dX8_when_18 rfl rfl) ?_
  refine E.st (p2 := 22) (l2 := [(0, .ref o), (1, .int a), (2, .int b), (3, .int c)]) (s2 := [.int 1, .ref o]) (h2 := h) (s_invv (K := mX8_isNode) (o := o) (as := [.int c]) (rest := [.ref o]) (v := some (.int 1)) dX8_when_19 rfl lX8_108 (by omega) rfl (Nat.le_of_ble_eq_true rfl) rfl (Nat.le_of_ble_eq_true rfl) (ho) (q_X8_isNode_y (d := 0) (Nat.le_refl _) h o c F ho v1 e1 c3) (fun h => nomatch h)) ?_
  refine E.st (s_if_ne_t (q := 29) dX8_when_22 (by decide) (by decide)) ?_
  refine E.st (s_iconst (q := 30) (v := 0) dX8_when_29 rfl (by decide)) ?_
  refine E.st (p2 := 33) (l2 := [(0, .ref o), (1, .int a), (2, .int b), (3, .int c)]) (s2 := [.int (0 : Int32)]) (h2 := (hs h o (ob 8 (fo 53 (va_up F 0 (.int 0)))))) (s_invv (K := mX8_refused) (o := o) (as := [.int 0]) (rest := []) (v := some (.int (0 : Int32))) dX8_when_30 rfl lX8_112 (by omega) rfl (Nat.le_of_ble_eq_true rfl) rfl (Nat.le_of_ble_eq_true rfl) (ho) (p_X8_refused_1 (d := 0) (Nat.le_refl _) h o (0 : Int32) (by decide) F ho rfl) (fun h => nomatch h)) ?_
  refine E.st (s_if_eq_t (q := 40) dX8_when_33 (by decide) (by decide)) ?_
  refine E.st (s_aload_n (q := 41) dX8_when_40 rfl rfl) ?_
  refine E.st (s_bipush (q := 43) (v := 7) dX8_when_41 rfl (by decide)) ?_
  refine E.st (s_lconst (q := 44) (v := 0) dX8_when_43 rfl (by decide)) ?_
  refine E.st (s_iload_n (q := 45) dX8_when_44 rfl rfl) ?_
  refine E.st (s_iload_n (q := 46) dX8_when_45 rfl rfl) ?_
  refine E.st (s_iload_n (q := 47) dX8_when_46 rfl rfl) ?_
  refine E.st (p2 := 50) (l2 := [(0, .ref o), (1, .int a), (2, .int b), (3, .int c)]) (s2 := [.int (-1)]) (h2 := (hs h o (ob 8 (fo 53 (va_up F 0 (.int 0)))))) (s_invv (K := mX8_make) (o := o) (as := [.int 7, .long 0, .int a, .int b, .int c]) (rest := []) (v := some (.int (-1))) dX8_when_47 rfl lX8_104 (by omega) rfl (Nat.le_of_ble_eq_true rfl) rfl (Nat.le_of_ble_eq_true rfl) (hs_eq) (p_X8_make_2 (d := 0) (Nat.le_refl _) (hs h o (ob 8 (fo 53 (va_up F 0 (.int 0))))) o (7 : Int32) (0 : Int64) a b c (va_up F 0 (.int 0)) hs_eq v1 ((up_ne (by decide)).trans (e1)) c4) (fun h => nomatch h)) ?_
  exact E.i dX8_when_50 rfl rfl rfl rfl

set_option maxRecDepth 20000 in
theorem p_X8_set_1 {d : Nat} (hd : 1 ≤ d) (h : AH) (o : Nat) (a : Int32) (m : Int32) (F : Nat → Value) (ho : h.1 o = ob 8 (fo 53 F)) (v1 : Int32) (e1 : F 1 = .int v1) (c : a < 0 ∨ v1 ≤ a) : CM mX8_set d [.ref o, .int a, .int m] h (some (.int 0)) (hs h o (ob 8 (fo 53 (va_up F 0 (.int 1))))) := by
  show E false mX8_set d 0 [(0, .ref o), (1, .int a), (2, .int m)] [] h _ _
  refine E.st (s_aload_n (q := 1) dX8_set_0 rfl rfl) ?_
  refine E.st (s_aload_n (q := 2) dX8_set_1 rfl rfl) ?_
  refine E.st (s_iload_n (q := 3) dX8_set_2 rfl rfl) ?_
  refine E.st (p2 := 6) (l2 := [(0, .ref o), (1, .int a), (2, .int m)]) (s2 := [.int 0, .ref o]) (h2 := h) (s_invv (K := mX8_isNode) (o := o) (as := [.int a]) (rest := [.ref o]) (v := some (.int 0)) dX8_set_3 rfl lX8_108 (by omega) rfl (Nat.le_of_ble_eq_true rfl) rfl (Nat.le_of_ble_eq_true rfl) (ho) (q_X8_isNode_n (d := 0) (Nat.le_refl _) h o a F ho v1 e1 c) (fun h => nomatch h)) ?_
  refine E.st (s_if_eq_t (q := 21) dX8_set_6 (by decide) (by decide)) ?_
  refine E.st (s_iconst (q := 22) (v := 1) dX8_set_21 rfl (by decide)) ?_
  refine E.st (s_goto (q := 26) dX8_set_22 (by decide)) ?_
  refine E.st (p2 := 29) (l2 := [(0, .ref o), (1, .int a), (2, .int m)]) (s2 := [.int (1 : Int32)]) (h2 := (hs h o (ob 8 (fo 53 (va_up F 0 (.int 1)))))) (s_invv (K := mX8_refused) (o := o) (as := [.int 1]) (rest := []) (v := some (.int (1 : Int32))) dX8_set_26 rfl lX8_112 (by omega) rfl (Nat.le_of_ble_eq_true rfl) rfl (Nat.le_of_ble_eq_true rfl) (ho) (p_X8_refused_2 (d := 0) (Nat.le_refl _) h o (1 : Int32) (by decide) F ho rfl) (fun h => nomatch h)) ?_
  refine E.st (s_if_eq_f (q := 32) (tg := 36) dX8_set_29 (by decide) rfl (by decide)) ?_
  refine E.st (s_iconst (q := 33) (v := 0) dX8_set_32 rfl (by decide)) ?_
  refine E.st (s_goto (q := 46) dX8_set_33 (by decide)) ?_
  exact E.i dX8_set_46 rfl rfl rfl rfl

set_option maxRecDepth 20000 in
theorem p_X8_set_2 {d : Nat} (hd : 1 ≤ d) (h : AH) (o : Nat) (a : Int32) (m : Int32) (F : Nat → Value) (ho : h.1 o = ob 8 (fo 53 F)) (v1 : Int32) (e1 : F 1 = .int v1) (c : ¬ (a < 0) ∧ ¬ (v1 ≤ a)) (c1 : m < 0) : CM mX8_set d [.ref o, .int a, .int m] h (some (.int 0)) (hs h o (ob 8 (fo 53 (va_up F 0 (.int 1))))) := by
  show E false mX8_set d 0 [(0, .ref o), (1, .int a), (2, .int m)] [] h _ _
  refine E.st (s_aload_n (q := 1) dX8_set_0 rfl rfl) ?_
  refine E.st (s_aload_n (q := 2) dX8_set_1 rfl rfl) ?_
  refine E.st (s_iload_n (q := 3) dX8_set_2 rfl rfl) ?_
  refine E.st (p2 := 6) (l2 := [(0, .ref o), (1, .int a), (2, .int m)]) (s2 := [.int 1, .ref o]) (h2 := h) (s_invv (K := mX8_isNode) (o := o) (as := [.int a]) (rest := [.ref o]) (v := some (.int 1)) dX8_set_3 rfl lX8_108 (by omega) rfl (Nat.le_of_ble_eq_true rfl) rfl (Nat.le_of_ble_eq_true rfl) (ho) (q_X8_isNode_y (d := 0) (Nat.le_refl _) h o a F ho v1 e1 c) (fun h => nomatch h)) ?_
  refine E.st (s_if_eq_f (q := 9) (tg := 21) dX8_set_6 (by decide) rfl (by decide)) ?_
  refine E.st (s_iload_n (q := 10) dX8_set_9 rfl rfl) ?_
  refine E.st (s_if_lt_t (q := 21) dX8_set_10 (by decide) c1) ?_
  refine E.st (s_iconst (q := 22) (v := 1) dX8_set_21 rfl (by decide)) ?_
  refine E.st (s_goto (q := 26) dX8_set_22 (by decide)) ?_
  refine E.st (p2 := 29) (l2 := [(0, .ref o), (1, .int a), (2, .int m)]) (s2 := [.int (1 : Int32)]) (h2 := (hs h o (ob 8 (fo 53 (va_up F 0 (.int 1)))))) (s_invv (K := mX8_refused) (o := o) (as := [.int 1]) (rest := []) (v := some (.int (1 : Int32))) dX8_set_26 rfl lX8_112 (by omega) rfl (Nat.le_of_ble_eq_true rfl) rfl (Nat.le_of_ble_eq_true rfl) (ho) (p_X8_refused_2 (d := 0) (Nat.le_refl _) h o (1 : Int32) (by decide) F ho rfl) (fun h => nomatch h)) ?_
  refine E.st (s_if_eq_f (q := 32) (tg := 36) dX8_set_29 (by decide) rfl (by decide)) ?_
  refine E.st (s_iconst (q := 33) (v := 0) dX8_set_32 rfl (by decide)) ?_
  refine E.st (s_goto (q := 46) dX8_set_33 (by decide)) ?_
  exact E.i dX8_set_46 rfl rfl rfl rfl

set_option maxRecDepth 20000 in
theorem p_X8_set_3 {d : Nat} (hd : 1 ≤ d) (h : AH) (o : Nat) (a : Int32) (m : Int32) (F : Nat → Value) (ho : h.1 o = ob 8 (fo 53 F)) (v1 : Int32) (e1 : F 1 = .int v1) (c : ¬ (a < 0) ∧ ¬ (v1 ≤ a)) (c1 : ¬ (m < 0)) (c2 : m ≤ v1) (c3 : ¬ v1 = 60) (r2 : Nat) (e2 : F 2 = .ref r2) (n : Nat) (f : Nat → Int32) (ha : h.1 r2 = ia n f) (c4 : vp_in v1 n) (p : 0 < r2) (r3 : Nat) (e3 : F 3 = .ref r3) (n1 : Nat) (f1 : Nat → Int64) (ha1 : h.1 r3 = la n1 f1) (c5 : vp_in v1 n1) (r4 : Nat) (e4 : F 4 = .ref r4) (n2 : Nat) (f2 : Nat → Int32) (ha2 : h.1 r4 = ia n2 f2) (ne : r4 ≠ r2) (c6 : vp_in v1 n2) (p1 : 0 < r4) (r5 : Nat) (e5 : F 5 = .ref r5) (n3 : Nat) (f3 : Nat → Int32) (ha3 : h.1 r5 = ia n3 f3) (ne1 : r5 ≠ r4) (ne2 : r5 ≠ r2) (c7 : vp_in v1 n3) (p2 : 0 < r5) (r6 : Nat) (e6 : F 6 = .ref r6) (n4 : Nat) (f4 : Nat → Int32) (ha4 : h.1 r6 = ia n4 f4) (ne3 : r6 ≠ r5) (ne4 : r6 ≠ r4) (ne5 : r6 ≠ r2) (c8 : vp_in v1 n4) (p3 : 0 < r6) : CM mX8_set d [.ref o, .int a, .int m] h (some (.int ((v1 + 1) - 1))) (hs (hs (hs (hs (hs (hs (hs h o (ob 8 (fo 53 (va_up F 0 (.int 0))))) r2 (ia n (upd f v1.toNatClampNeg (8 : Int32)))) r3 (la n1 (vp_updL f1 v1.toNatClampNeg (0 : Int64)))) r4 (ia n2 (upd f2 v1.toNatClampNeg a))) r5 (ia n3 (upd f3 v1.toNatClampNeg m))) r6 (ia n4 (upd f4 v1.toNatClampNeg (-1 : Int32)))) o (ob 8 (fo 53 (va_up (va_up F 0 (.int 0)) 1 (.int (v1 + 1)))))) := by
  show E false mX8_set d 0 [(0, .ref o), (1, .int a), (2, .int m)] [] h _ _
  refine E.st (s_aload_n (q := 1) dX8_set_0 rfl rfl) ?_
  refine E.st (s_aload_n (q := 2) dX8_set_1 rfl rfl) ?_
  refine E.st (s_iload_n (q := 3) dX8_set_2 rfl rfl) ?_
  refine E.st (p2 := 6) (l2 := [(0, .ref o), (1, .int a), (2, .int m)]) (s2 := [.int 1, .ref o]) (h2 := h) (s_invv (K := mX8_isNode) (o := o) (as := [.int a]) (rest := [.ref o]) (v := some (.int 1)) dX8_set_3 rfl lX8_108 (by omega) rfl (Nat.le_of_ble_eq_true rfl) rfl (Nat.le_of_ble_eq_true rfl) (ho) (q_X8_isNode_y (d := 0) (Nat.le_refl _) h o a F ho v1 e1 c) (fun h => nomatch h)) ?_
  refine E.st (s_if_eq_f (q := 9) (tg := 21) dX8_set_6 (by decide) rfl (by decide)) ?_
  refine E.st (s_iload_n (q := 10) dX8_set_9 rfl rfl) ?_
  refine E.st (s_if_lt_f (q := 13) (tg := 21) dX8_set_10 (by decide) rfl c1) ?_
  refine E.st (s_iload_n (q := 14) dX8_set_13 rfl rfl) ?_
  refine E.st (s_aload_n (q := 15) dX8_set_14 rfl rfl) ?_
  refine E.st (s_gf (q := 18) (v := .int v1) dX8_set_15 rfl fX8_101.l (ho) (by decide) (e1)) ?_
  refine E.st (s_icmp_le_t (q := 25) dX8_set_18 (by decide) c2) ?_
  refine E.st (s_iconst (q := 26) (v := 0) dX8_set_25 rfl (by decide)) ?_
  refine E.st (p2 := 29) (l2 := [(0, .ref o), (1, .int a), (2, .int m)]) (s2 := [.int (0 : Int32)]) (h2 := (hs h o (ob 8 (fo 53 (va_up F 0 (.int 0)))))) (s_invv (K := mX8_refused) (o := o) (as := [.int 0]) (rest := []) (v := some (.int (0 : Int32))) dX8_set_26 rfl lX8_112 (by omega) rfl (Nat.le_of_ble_eq_true rfl) rfl (Nat.le_of_ble_eq_true rfl) (ho) (p_X8_refused_1 (d := 0) (Nat.le_refl _) h o (0 : Int32) (by decide) F ho rfl) (fun h => nomatch h)) ?_
  refine E.st (s_if_eq_t (q := 36) dX8_set_29 (by decide) (by decide)) ?_
  refine E.st (s_aload_n (q := 37) dX8_set_36 rfl rfl) ?_
  refine E.st (s_bipush (q := 39) (v := 8) dX8_set_37 rfl (by decide)) ?_
  refine E.st (s_lconst (q := 40) (v := 0) dX8_set_39 rfl (by decide)) ?_
  refine E.st (s_iload_n (q := 41) dX8_set_40 rfl rfl) ?_
  refine E.st (s_iload_n (q := 42) dX8_set_41 rfl rfl) ?_
  refine E.st (s_iconst (q := 43) (v := (-1)) dX8_set_42 rfl (by decide)) ?_
  refine E.st (p2 := 46) (l2 := [(0, .ref o), (1, .int a), (2, .int m)]) (s2 := [.int ((v1 + 1) - 1)]) (h2 := (hs (hs (hs (hs (hs (hs (hs h o (ob 8 (fo 53 (va_up F 0 (.int 0))))) r2 (ia n (upd f v1.toNatClampNeg (8 : Int32)))) r3 (la n1 (vp_updL f1 v1.toNatClampNeg (0 : Int64)))) r4 (ia n2 (upd f2 v1.toNatClampNeg a))) r5 (ia n3 (upd f3 v1.toNatClampNeg m))) r6 (ia n4 (upd f4 v1.toNatClampNeg (-1 : Int32)))) o (ob 8 (fo 53 (va_up (va_up F 0 (.int 0)) 1 (.int (v1 + 1))))))) (s_invv (K := mX8_make) (o := o) (as := [.int 8, .long 0, .int a, .int m, .int (-1)]) (rest := []) (v := some (.int ((v1 + 1) - 1))) dX8_set_43 rfl lX8_104 (by omega) rfl (Nat.le_of_ble_eq_true rfl) rfl (Nat.le_of_ble_eq_true rfl) (hs_eq) (p_X8_make_1 (d := 0) (Nat.le_refl _) (hs h o (ob 8 (fo 53 (va_up F 0 (.int 0))))) o (8 : Int32) (0 : Int64) a m (-1 : Int32) (va_up F 0 (.int 0)) hs_eq v1 ((up_ne (by decide)).trans (e1)) c3 r2 ((up_ne (by decide)).trans (e2)) n f ((hs_ne (Ne.symm (ne_oi ho ha))).trans (ha)) c4 p r3 ((up_ne (by decide)).trans (e3)) n1 f1 ((hs_ne (Ne.symm (ne_ol ho ha1))).trans (ha1)) c5 r4 ((up_ne (by decide)).trans (e4)) n2 f2 ((hs_ne (Ne.symm (ne_oi ho ha2))).trans (ha2)) ne c6 p1 r5 ((up_ne (by decide)).trans (e5)) n3 f3 ((hs_ne (Ne.symm (ne_oi ho ha3))).trans (ha3)) ne1 ne2 c7 p2 r6 ((up_ne (by decide)).trans (e6)) n4 f4 ((hs_ne (Ne.symm (ne_oi ho ha4))).trans (ha4)) ne3 ne4 ne5 c8 p3) (fun h => nomatch h)) ?_
  exact E.i dX8_set_46 rfl rfl rfl rfl

set_option maxRecDepth 20000 in
theorem p_X8_set_4 {d : Nat} (hd : 1 ≤ d) (h : AH) (o : Nat) (a : Int32) (m : Int32) (F : Nat → Value) (ho : h.1 o = ob 8 (fo 53 F)) (v1 : Int32) (e1 : F 1 = .int v1) (c : ¬ (a < 0) ∧ ¬ (v1 ≤ a)) (c1 : ¬ (m < 0)) (c2 : m ≤ v1) (c3 : v1 = 60) : CM mX8_set d [.ref o, .int a, .int m] h (some (.int (-1))) (hs h o (ob 8 (fo 53 (va_up F 0 (.int 0))))) := by
  show E false mX8_set d 0 [(0, .ref o), (1, .int a), (2, .int m)] [] h _ _
  refine E.st (s_aload_n (q := 1) dX8_set_0 rfl rfl) ?_
  refine E.st (s_aload_n (q := 2) dX8_set_1 rfl rfl) ?_
  refine E.st (s_iload_n (q := 3) dX8_set_2 rfl rfl) ?_
  refine E.st (p2 := 6) (l2 := [(0, .ref o), (1, .int a), (2, .int m)]) (s2 := [.int 1, .ref o]) (h2 := h) (s_invv (K := mX8_isNode) (o := o) (as := [.int a]) (rest := [.ref o]) (v := some (.int 1)) dX8_set_3 rfl lX8_108 (by omega) rfl (Nat.le_of_ble_eq_true rfl) rfl (Nat.le_of_ble_eq_true rfl) (ho) (q_X8_isNode_y (d := 0) (Nat.le_refl _) h o a F ho v1 e1 c) (fun h => nomatch h)) ?_
  refine E.st (s_if_eq_f (q := 9) (tg := 21) dX8_set_6 (by decide) rfl (by decide)) ?_
  refine E.st (s_iload_n (q := 10) dX8_set_9 rfl rfl) ?_
  refine E.st (s_if_lt_f (q := 13) (tg := 21) dX8_set_10 (by decide) rfl c1) ?_
  refine E.st (s_iload_n (q := 14) dX8_set_13 rfl rfl) ?_
  refine E.st (s_aload_n (q := 15) dX8_set_14 rfl rfl) ?_
  refine E.st (s_gf (q := 18) (v := .int v1) dX8_set_15 rfl fX8_101.l (ho) (by decide) (e1)) ?_
  refine E.st (s_icmp_le_t (q := 25) dX8_set_18 (by decide) c2) ?_
  refine E.st (s_iconst (q := 26) (v := 0) dX8_set_25 rfl (by decide)) ?_
  refine E.st (p2 := 29) (l2 := [(0, .ref o), (1, .int a), (2, .int m)]) (s2 := [.int (0 : Int32)]) (h2 := (hs h o (ob 8 (fo 53 (va_up F 0 (.int 0)))))) (s_invv (K := mX8_refused) (o := o) (as := [.int 0]) (rest := []) (v := some (.int (0 : Int32))) dX8_set_26 rfl lX8_112 (by omega) rfl (Nat.le_of_ble_eq_true rfl) rfl (Nat.le_of_ble_eq_true rfl) (ho) (p_X8_refused_1 (d := 0) (Nat.le_refl _) h o (0 : Int32) (by decide) F ho rfl) (fun h => nomatch h)) ?_
  refine E.st (s_if_eq_t (q := 36) dX8_set_29 (by decide) (by decide)) ?_
  refine E.st (s_aload_n (q := 37) dX8_set_36 rfl rfl) ?_
  refine E.st (s_bipush (q := 39) (v := 8) dX8_set_37 rfl (by decide)) ?_
  refine E.st (s_lconst (q := 40) (v := 0) dX8_set_39 rfl (by decide)) ?_
  refine E.st (s_iload_n (q := 41) dX8_set_40 rfl rfl) ?_
  refine E.st (s_iload_n (q := 42) dX8_set_41 rfl rfl) ?_
  refine E.st (s_iconst (q := 43) (v := (-1)) dX8_set_42 rfl (by decide)) ?_
  refine E.st (p2 := 46) (l2 := [(0, .ref o), (1, .int a), (2, .int m)]) (s2 := [.int (-1)]) (h2 := (hs h o (ob 8 (fo 53 (va_up F 0 (.int 0)))))) (s_invv (K := mX8_make) (o := o) (as := [.int 8, .long 0, .int a, .int m, .int (-1)]) (rest := []) (v := some (.int (-1))) dX8_set_43 rfl lX8_104 (by omega) rfl (Nat.le_of_ble_eq_true rfl) rfl (Nat.le_of_ble_eq_true rfl) (hs_eq) (p_X8_make_2 (d := 0) (Nat.le_refl _) (hs h o (ob 8 (fo 53 (va_up F 0 (.int 0))))) o (8 : Int32) (0 : Int64) a m (-1 : Int32) (va_up F 0 (.int 0)) hs_eq v1 ((up_ne (by decide)).trans (e1)) c3) (fun h => nomatch h)) ?_
  exact E.i dX8_set_46 rfl rfl rfl rfl

set_option maxRecDepth 20000 in
theorem p_X8_set_5 {d : Nat} (hd : 1 ≤ d) (h : AH) (o : Nat) (a : Int32) (m : Int32) (F : Nat → Value) (ho : h.1 o = ob 8 (fo 53 F)) (v1 : Int32) (e1 : F 1 = .int v1) (c : ¬ (a < 0) ∧ ¬ (v1 ≤ a)) (c1 : ¬ (m < 0)) (c2 : ¬ (m ≤ v1)) : CM mX8_set d [.ref o, .int a, .int m] h (some (.int 0)) (hs h o (ob 8 (fo 53 (va_up F 0 (.int 1))))) := by
  show E false mX8_set d 0 [(0, .ref o), (1, .int a), (2, .int m)] [] h _ _
  refine E.st (s_aload_n (q := 1) dX8_set_0 rfl rfl) ?_
  refine E.st (s_aload_n (q := 2) dX8_set_1 rfl rfl) ?_
  refine E.st (s_iload_n (q := 3) dX8_set_2 rfl rfl) ?_
  refine E.st (p2 := 6) (l2 := [(0, .ref o), (1, .int a), (2, .int m)]) (s2 := [.int 1, .ref o]) (h2 := h) (s_invv (K := mX8_isNode) (o := o) (as := [.int a]) (rest := [.ref o]) (v := some (.int 1)) dX8_set_3 rfl lX8_108 (by omega) rfl (Nat.le_of_ble_eq_true rfl) rfl (Nat.le_of_ble_eq_true rfl) (ho) (q_X8_isNode_y (d := 0) (Nat.le_refl _) h o a F ho v1 e1 c) (fun h => nomatch h)) ?_
  refine E.st (s_if_eq_f (q := 9) (tg := 21) dX8_set_6 (by decide) rfl (by decide)) ?_
  refine E.st (s_iload_n (q := 10) dX8_set_9 rfl rfl) ?_
  refine E.st (s_if_lt_f (q := 13) (tg := 21) dX8_set_10 (by decide) rfl c1) ?_
  refine E.st (s_iload_n (q := 14) dX8_set_13 rfl rfl) ?_
  refine E.st (s_aload_n (q := 15) dX8_set_14 rfl rfl) ?_
  refine E.st (s_gf (q := 18) (v := .int v1) dX8_set_15 rfl fX8_101.l (ho) (by decide) (e1)) ?_
  refine E.st (s_icmp_le_f (q := 21) (tg := 25) dX8_set_18 (by decide) rfl c2) ?_
  refine E.st (s_iconst (q := 22) (v := 1) dX8_set_21 rfl (by decide)) ?_
  refine E.st (s_goto (q := 26) dX8_set_22 (by decide)) ?_
  refine E.st (p2 := 29) (l2 := [(0, .ref o), (1, .int a), (2, .int m)]) (s2 := [.int (1 : Int32)]) (h2 := (hs h o (ob 8 (fo 53 (va_up F 0 (.int 1)))))) (s_invv (K := mX8_refused) (o := o) (as := [.int 1]) (rest := []) (v := some (.int (1 : Int32))) dX8_set_26 rfl lX8_112 (by omega) rfl (Nat.le_of_ble_eq_true rfl) rfl (Nat.le_of_ble_eq_true rfl) (ho) (p_X8_refused_2 (d := 0) (Nat.le_refl _) h o (1 : Int32) (by decide) F ho rfl) (fun h => nomatch h)) ?_
  refine E.st (s_if_eq_f (q := 32) (tg := 36) dX8_set_29 (by decide) rfl (by decide)) ?_
  refine E.st (s_iconst (q := 33) (v := 0) dX8_set_32 rfl (by decide)) ?_
  refine E.st (s_goto (q := 46) dX8_set_33 (by decide)) ?_
  exact E.i dX8_set_46 rfl rfl rfl rfl

set_option maxRecDepth 20000 in
theorem p_X8_fold_1 {d : Nat} (hd : 1 ≤ d) (h : AH) (o : Nat) (t : Int32) (a : Int32) (F : Nat → Value) (ho : h.1 o = ob 8 (fo 53 F)) (v1 : Int32) (e1 : F 1 = .int v1) (c : a < 0 ∨ v1 ≤ a) : CM mX8_fold d [.ref o, .int t, .int a] h (some (.int 0)) (hs h o (ob 8 (fo 53 (va_up F 0 (.int 1))))) := by
  show E false mX8_fold d 0 [(0, .ref o), (1, .int t), (2, .int a)] [] h _ _
  refine E.st (s_aload_n (q := 1) dX8_fold_0 rfl rfl) ?_
  refine E.st (s_aload_n (q := 2) dX8_fold_1 rfl rfl) ?_
  refine E.st (s_iload_n (q := 3) dX8_fold_2 rfl rfl) ?_
  refine E.st (p2 := 6) (l2 := [(0, .ref o), (1, .int t), (2, .int a)]) (s2 := [.int 0, .ref o]) (h2 := h) (s_invv (K := mX8_isNode) (o := o) (as := [.int a]) (rest := [.ref o]) (v := some (.int 0)) dX8_fold_3 rfl lX8_108 (by omega) rfl (Nat.le_of_ble_eq_true rfl) rfl (Nat.le_of_ble_eq_true rfl) (ho) (q_X8_isNode_n (d := 0) (Nat.le_refl _) h o a F ho v1 e1 c) (fun h => nomatch h)) ?_
  refine E.st (s_if_eq_t (q := 18) dX8_fold_6 (by decide) (by decide)) ?_
  refine E.st (s_iconst (q := 19) (v := 1) dX8_fold_18 rfl (by decide)) ?_
  refine E.st (s_goto (q := 23) dX8_fold_19 (by decide)) ?_
  refine E.st (p2 := 26) (l2 := [(0, .ref o), (1, .int t), (2, .int a)]) (s2 := [.int (1 : Int32)]) (h2 := (hs h o (ob 8 (fo 53 (va_up F 0 (.int 1)))))) (s_invv (K := mX8_refused) (o := o) (as := [.int 1]) (rest := []) (v := some (.int (1 : Int32))) dX8_fold_23 rfl lX8_112 (by omega) rfl (Nat.le_of_ble_eq_true rfl) rfl (Nat.le_of_ble_eq_true rfl) (ho) (p_X8_refused_2 (d := 0) (Nat.le_refl _) h o (1 : Int32) (by decide) F ho rfl) (fun h => nomatch h)) ?_
  refine E.st (s_if_eq_f (q := 29) (tg := 33) dX8_fold_26 (by decide) rfl (by decide)) ?_
  refine E.st (s_iconst (q := 30) (v := 0) dX8_fold_29 rfl (by decide)) ?_
  refine E.st (s_goto (q := 43) dX8_fold_30 (by decide)) ?_
  exact E.i dX8_fold_43 rfl rfl rfl rfl

set_option maxRecDepth 20000 in
theorem p_X8_fold_2 {d : Nat} (hd : 1 ≤ d) (h : AH) (o : Nat) (t : Int32) (a : Int32) (F : Nat → Value) (ho : h.1 o = ob 8 (fo 53 F)) (v1 : Int32) (e1 : F 1 = .int v1) (c : ¬ (a < 0) ∧ ¬ (v1 ≤ a)) (c1 : t < 0) : CM mX8_fold d [.ref o, .int t, .int a] h (some (.int 0)) (hs h o (ob 8 (fo 53 (va_up F 0 (.int 1))))) := by
  show E false mX8_fold d 0 [(0, .ref o), (1, .int t), (2, .int a)] [] h _ _
  refine E.st (s_aload_n (q := 1) dX8_fold_0 rfl rfl) ?_
  refine E.st (s_aload_n (q := 2) dX8_fold_1 rfl rfl) ?_
  refine E.st (s_iload_n (q := 3) dX8_fold_2 rfl rfl) ?_
  refine E.st (p2 := 6) (l2 := [(0, .ref o), (1, .int t), (2, .int a)]) (s2 := [.int 1, .ref o]) (h2 := h) (s_invv (K := mX8_isNode) (o := o) (as := [.int a]) (rest := [.ref o]) (v := some (.int 1)) dX8_fold_3 rfl lX8_108 (by omega) rfl (Nat.le_of_ble_eq_true rfl) rfl (Nat.le_of_ble_eq_true rfl) (ho) (q_X8_isNode_y (d := 0) (Nat.le_refl _) h o a F ho v1 e1 c) (fun h => nomatch h)) ?_
  refine E.st (s_if_eq_f (q := 9) (tg := 18) dX8_fold_6 (by decide) rfl (by decide)) ?_
  refine E.st (s_iload_n (q := 10) dX8_fold_9 rfl rfl) ?_
  refine E.st (s_if_lt_t (q := 18) dX8_fold_10 (by decide) c1) ?_
  refine E.st (s_iconst (q := 19) (v := 1) dX8_fold_18 rfl (by decide)) ?_
  refine E.st (s_goto (q := 23) dX8_fold_19 (by decide)) ?_
  refine E.st (p2 := 26) (l2 := [(0, .ref o), (1, .int t), (2, .int a)]) (s2 := [.int (1 : Int32)]) (h2 := (hs h o (ob 8 (fo 53 (va_up F 0 (.int 1)))))) (s_invv (K := mX8_refused) (o := o) (as := [.int 1]) (rest := []) (v := some (.int (1 : Int32))) dX8_fold_23 rfl lX8_112 (by omega) rfl (Nat.le_of_ble_eq_true rfl) rfl (Nat.le_of_ble_eq_true rfl) (ho) (p_X8_refused_2 (d := 0) (Nat.le_refl _) h o (1 : Int32) (by decide) F ho rfl) (fun h => nomatch h)) ?_
  refine E.st (s_if_eq_f (q := 29) (tg := 33) dX8_fold_26 (by decide) rfl (by decide)) ?_
  refine E.st (s_iconst (q := 30) (v := 0) dX8_fold_29 rfl (by decide)) ?_
  refine E.st (s_goto (q := 43) dX8_fold_30 (by decide)) ?_
  exact E.i dX8_fold_43 rfl rfl rfl rfl

set_option maxRecDepth 20000 in
theorem p_X8_fold_3 {d : Nat} (hd : 1 ≤ d) (h : AH) (o : Nat) (t : Int32) (a : Int32) (F : Nat → Value) (ho : h.1 o = ob 8 (fo 53 F)) (v1 : Int32) (e1 : F 1 = .int v1) (c : ¬ (a < 0) ∧ ¬ (v1 ≤ a)) (c1 : ¬ (t < 0)) (c2 : t ≤ 2) (c3 : ¬ v1 = 60) (r2 : Nat) (e2 : F 2 = .ref r2) (n : Nat) (f : Nat → Int32) (ha : h.1 r2 = ia n f) (c4 : vp_in v1 n) (p : 0 < r2) (r3 : Nat) (e3 : F 3 = .ref r3) (n1 : Nat) (f1 : Nat → Int64) (ha1 : h.1 r3 = la n1 f1) (c5 : vp_in v1 n1) (r4 : Nat) (e4 : F 4 = .ref r4) (n2 : Nat) (f2 : Nat → Int32) (ha2 : h.1 r4 = ia n2 f2) (ne : r4 ≠ r2) (c6 : vp_in v1 n2) (p1 : 0 < r4) (r5 : Nat) (e5 : F 5 = .ref r5) (n3 : Nat) (f3 : Nat → Int32) (ha3 : h.1 r5 = ia n3 f3) (ne1 : r5 ≠ r4) (ne2 : r5 ≠ r2) (c7 : vp_in v1 n3) (p2 : 0 < r5) (r6 : Nat) (e6 : F 6 = .ref r6) (n4 : Nat) (f4 : Nat → Int32) (ha4 : h.1 r6 = ia n4 f4) (ne3 : r6 ≠ r5) (ne4 : r6 ≠ r4) (ne5 : r6 ≠ r2) (c8 : vp_in v1 n4) (p3 : 0 < r6) : CM mX8_fold d [.ref o, .int t, .int a] h (some (.int ((v1 + 1) - 1))) (hs (hs (hs (hs (hs (hs (hs h o (ob 8 (fo 53 (va_up F 0 (.int 0))))) r2 (ia n (upd f v1.toNatClampNeg (9 : Int32)))) r3 (la n1 (vp_updL f1 v1.toNatClampNeg (0 : Int64)))) r4 (ia n2 (upd f2 v1.toNatClampNeg a))) r5 (ia n3 (upd f3 v1.toNatClampNeg t))) r6 (ia n4 (upd f4 v1.toNatClampNeg (-1 : Int32)))) o (ob 8 (fo 53 (va_up (va_up F 0 (.int 0)) 1 (.int (v1 + 1)))))) := by
  show E false mX8_fold d 0 [(0, .ref o), (1, .int t), (2, .int a)] [] h _ _
  refine E.st (s_aload_n (q := 1) dX8_fold_0 rfl rfl) ?_
  refine E.st (s_aload_n (q := 2) dX8_fold_1 rfl rfl) ?_
  refine E.st (s_iload_n (q := 3) dX8_fold_2 rfl rfl) ?_
  refine E.st (p2 := 6) (l2 := [(0, .ref o), (1, .int t), (2, .int a)]) (s2 := [.int 1, .ref o]) (h2 := h) (s_invv (K := mX8_isNode) (o := o) (as := [.int a]) (rest := [.ref o]) (v := some (.int 1)) dX8_fold_3 rfl lX8_108 (by omega) rfl (Nat.le_of_ble_eq_true rfl) rfl (Nat.le_of_ble_eq_true rfl) (ho) (q_X8_isNode_y (d := 0) (Nat.le_refl _) h o a F ho v1 e1 c) (fun h => nomatch h)) ?_
  refine E.st (s_if_eq_f (q := 9) (tg := 18) dX8_fold_6 (by decide) rfl (by decide)) ?_
  refine E.st (s_iload_n (q := 10) dX8_fold_9 rfl rfl) ?_
  refine E.st (s_if_lt_f (q := 13) (tg := 18) dX8_fold_10 (by decide) rfl c1) ?_
  refine E.st (s_iload_n (q := 14) dX8_fold_13 rfl rfl) ?_
  refine E.st (s_iconst (q := 15) (v := 2) dX8_fold_14 rfl (by decide)) ?_
  refine E.st (s_icmp_le_t (q := 22) dX8_fold_15 (by decide) c2) ?_
  refine E.st (s_iconst (q := 23) (v := 0) dX8_fold_22 rfl (by decide)) ?_
  refine E.st (p2 := 26) (l2 := [(0, .ref o), (1, .int t), (2, .int a)]) (s2 := [.int (0 : Int32)]) (h2 := (hs h o (ob 8 (fo 53 (va_up F 0 (.int 0)))))) (s_invv (K := mX8_refused) (o := o) (as := [.int 0]) (rest := []) (v := some (.int (0 : Int32))) dX8_fold_23 rfl lX8_112 (by omega) rfl (Nat.le_of_ble_eq_true rfl) rfl (Nat.le_of_ble_eq_true rfl) (ho) (p_X8_refused_1 (d := 0) (Nat.le_refl _) h o (0 : Int32) (by decide) F ho rfl) (fun h => nomatch h)) ?_
  refine E.st (s_if_eq_t (q := 33) dX8_fold_26 (by decide) (by decide)) ?_
  refine E.st (s_aload_n (q := 34) dX8_fold_33 rfl rfl) ?_
  refine E.st (s_bipush (q := 36) (v := 9) dX8_fold_34 rfl (by decide)) ?_
  refine E.st (s_lconst (q := 37) (v := 0) dX8_fold_36 rfl (by decide)) ?_
  refine E.st (s_iload_n (q := 38) dX8_fold_37 rfl rfl) ?_
  refine E.st (s_iload_n (q := 39) dX8_fold_38 rfl rfl) ?_
  refine E.st (s_iconst (q := 40) (v := (-1)) dX8_fold_39 rfl (by decide)) ?_
  refine E.st (p2 := 43) (l2 := [(0, .ref o), (1, .int t), (2, .int a)]) (s2 := [.int ((v1 + 1) - 1)]) (h2 := (hs (hs (hs (hs (hs (hs (hs h o (ob 8 (fo 53 (va_up F 0 (.int 0))))) r2 (ia n (upd f v1.toNatClampNeg (9 : Int32)))) r3 (la n1 (vp_updL f1 v1.toNatClampNeg (0 : Int64)))) r4 (ia n2 (upd f2 v1.toNatClampNeg a))) r5 (ia n3 (upd f3 v1.toNatClampNeg t))) r6 (ia n4 (upd f4 v1.toNatClampNeg (-1 : Int32)))) o (ob 8 (fo 53 (va_up (va_up F 0 (.int 0)) 1 (.int (v1 + 1))))))) (s_invv (K := mX8_make) (o := o) (as := [.int 9, .long 0, .int a, .int t, .int (-1)]) (rest := []) (v := some (.int ((v1 + 1) - 1))) dX8_fold_40 rfl lX8_104 (by omega) rfl (Nat.le_of_ble_eq_true rfl) rfl (Nat.le_of_ble_eq_true rfl) (hs_eq) (p_X8_make_1 (d := 0) (Nat.le_refl _) (hs h o (ob 8 (fo 53 (va_up F 0 (.int 0))))) o (9 : Int32) (0 : Int64) a t (-1 : Int32) (va_up F 0 (.int 0)) hs_eq v1 ((up_ne (by decide)).trans (e1)) c3 r2 ((up_ne (by decide)).trans (e2)) n f ((hs_ne (Ne.symm (ne_oi ho ha))).trans (ha)) c4 p r3 ((up_ne (by decide)).trans (e3)) n1 f1 ((hs_ne (Ne.symm (ne_ol ho ha1))).trans (ha1)) c5 r4 ((up_ne (by decide)).trans (e4)) n2 f2 ((hs_ne (Ne.symm (ne_oi ho ha2))).trans (ha2)) ne c6 p1 r5 ((up_ne (by decide)).trans (e5)) n3 f3 ((hs_ne (Ne.symm (ne_oi ho ha3))).trans (ha3)) ne1 ne2 c7 p2 r6 ((up_ne (by decide)).trans (e6)) n4 f4 ((hs_ne (Ne.symm (ne_oi ho ha4))).trans (ha4)) ne3 ne4 ne5 c8 p3) (fun h => nomatch h)) ?_
  exact E.i dX8_fold_43 rfl rfl rfl rfl

set_option maxRecDepth 20000 in
theorem p_X8_fold_4 {d : Nat} (hd : 1 ≤ d) (h : AH) (o : Nat) (t : Int32) (a : Int32) (F : Nat → Value) (ho : h.1 o = ob 8 (fo 53 F)) (v1 : Int32) (e1 : F 1 = .int v1) (c : ¬ (a < 0) ∧ ¬ (v1 ≤ a)) (c1 : ¬ (t < 0)) (c2 : t ≤ 2) (c3 : v1 = 60) : CM mX8_fold d [.ref o, .int t, .int a] h (some (.int (-1))) (hs h o (ob 8 (fo 53 (va_up F 0 (.int 0))))) := by
  show E false mX8_fold d 0 [(0, .ref o), (1, .int t), (2, .int a)] [] h _ _
  refine E.st (s_aload_n (q := 1) dX8_fold_0 rfl rfl) ?_
  refine E.st (s_aload_n (q := 2) dX8_fold_1 rfl rfl) ?_
  refine E.st (s_iload_n (q := 3) dX8_fold_2 rfl rfl) ?_
  refine E.st (p2 := 6) (l2 := [(0, .ref o), (1, .int t), (2, .int a)]) (s2 := [.int 1, .ref o]) (h2 := h) (s_invv (K := mX8_isNode) (o := o) (as := [.int a]) (rest := [.ref o]) (v := some (.int 1)) dX8_fold_3 rfl lX8_108 (by omega) rfl (Nat.le_of_ble_eq_true rfl) rfl (Nat.le_of_ble_eq_true rfl) (ho) (q_X8_isNode_y (d := 0) (Nat.le_refl _) h o a F ho v1 e1 c) (fun h => nomatch h)) ?_
  refine E.st (s_if_eq_f (q := 9) (tg := 18) dX8_fold_6 (by decide) rfl (by decide)) ?_
  refine E.st (s_iload_n (q := 10) dX8_fold_9 rfl rfl) ?_
  refine E.st (s_if_lt_f (q := 13) (tg := 18) dX8_fold_10 (by decide) rfl c1) ?_
  refine E.st (s_iload_n (q := 14) dX8_fold_13 rfl rfl) ?_
  refine E.st (s_iconst (q := 15) (v := 2) dX8_fold_14 rfl (by decide)) ?_
  refine E.st (s_icmp_le_t (q := 22) dX8_fold_15 (by decide) c2) ?_
  refine E.st (s_iconst (q := 23) (v := 0) dX8_fold_22 rfl (by decide)) ?_
  refine E.st (p2 := 26) (l2 := [(0, .ref o), (1, .int t), (2, .int a)]) (s2 := [.int (0 : Int32)]) (h2 := (hs h o (ob 8 (fo 53 (va_up F 0 (.int 0)))))) (s_invv (K := mX8_refused) (o := o) (as := [.int 0]) (rest := []) (v := some (.int (0 : Int32))) dX8_fold_23 rfl lX8_112 (by omega) rfl (Nat.le_of_ble_eq_true rfl) rfl (Nat.le_of_ble_eq_true rfl) (ho) (p_X8_refused_1 (d := 0) (Nat.le_refl _) h o (0 : Int32) (by decide) F ho rfl) (fun h => nomatch h)) ?_
  refine E.st (s_if_eq_t (q := 33) dX8_fold_26 (by decide) (by decide)) ?_
  refine E.st (s_aload_n (q := 34) dX8_fold_33 rfl rfl) ?_
  refine E.st (s_bipush (q := 36) (v := 9) dX8_fold_34 rfl (by decide)) ?_
  refine E.st (s_lconst (q := 37) (v := 0) dX8_fold_36 rfl (by decide)) ?_
  refine E.st (s_iload_n (q := 38) dX8_fold_37 rfl rfl) ?_
  refine E.st (s_iload_n (q := 39) dX8_fold_38 rfl rfl) ?_
  refine E.st (s_iconst (q := 40) (v := (-1)) dX8_fold_39 rfl (by decide)) ?_
  refine E.st (p2 := 43) (l2 := [(0, .ref o), (1, .int t), (2, .int a)]) (s2 := [.int (-1)]) (h2 := (hs h o (ob 8 (fo 53 (va_up F 0 (.int 0)))))) (s_invv (K := mX8_make) (o := o) (as := [.int 9, .long 0, .int a, .int t, .int (-1)]) (rest := []) (v := some (.int (-1))) dX8_fold_40 rfl lX8_104 (by omega) rfl (Nat.le_of_ble_eq_true rfl) rfl (Nat.le_of_ble_eq_true rfl) (hs_eq) (p_X8_make_2 (d := 0) (Nat.le_refl _) (hs h o (ob 8 (fo 53 (va_up F 0 (.int 0))))) o (9 : Int32) (0 : Int64) a t (-1 : Int32) (va_up F 0 (.int 0)) hs_eq v1 ((up_ne (by decide)).trans (e1)) c3) (fun h => nomatch h)) ?_
  exact E.i dX8_fold_43 rfl rfl rfl rfl

set_option maxRecDepth 20000 in
theorem p_X8_fold_5 {d : Nat} (hd : 1 ≤ d) (h : AH) (o : Nat) (t : Int32) (a : Int32) (F : Nat → Value) (ho : h.1 o = ob 8 (fo 53 F)) (v1 : Int32) (e1 : F 1 = .int v1) (c : ¬ (a < 0) ∧ ¬ (v1 ≤ a)) (c1 : ¬ (t < 0)) (c2 : ¬ (t ≤ 2)) : CM mX8_fold d [.ref o, .int t, .int a] h (some (.int 0)) (hs h o (ob 8 (fo 53 (va_up F 0 (.int 1))))) := by
  show E false mX8_fold d 0 [(0, .ref o), (1, .int t), (2, .int a)] [] h _ _
  refine E.st (s_aload_n (q := 1) dX8_fold_0 rfl rfl) ?_
  refine E.st (s_aload_n (q := 2) dX8_fold_1 rfl rfl) ?_
  refine E.st (s_iload_n (q := 3) dX8_fold_2 rfl rfl) ?_
  refine E.st (p2 := 6) (l2 := [(0, .ref o), (1, .int t), (2, .int a)]) (s2 := [.int 1, .ref o]) (h2 := h) (s_invv (K := mX8_isNode) (o := o) (as := [.int a]) (rest := [.ref o]) (v := some (.int 1)) dX8_fold_3 rfl lX8_108 (by omega) rfl (Nat.le_of_ble_eq_true rfl) rfl (Nat.le_of_ble_eq_true rfl) (ho) (q_X8_isNode_y (d := 0) (Nat.le_refl _) h o a F ho v1 e1 c) (fun h => nomatch h)) ?_
  refine E.st (s_if_eq_f (q := 9) (tg := 18) dX8_fold_6 (by decide) rfl (by decide)) ?_
  refine E.st (s_iload_n (q := 10) dX8_fold_9 rfl rfl) ?_
  refine E.st (s_if_lt_f (q := 13) (tg := 18) dX8_fold_10 (by decide) rfl c1) ?_
  refine E.st (s_iload_n (q := 14) dX8_fold_13 rfl rfl) ?_
  refine E.st (s_iconst (q := 15) (v := 2) dX8_fold_14 rfl (by decide)) ?_
  refine E.st (s_icmp_le_f (q := 18) (tg := 22) dX8_fold_15 (by decide) rfl c2) ?_
  refine E.st (s_iconst (q := 19) (v := 1) dX8_fold_18 rfl (by decide)) ?_
  refine E.st (s_goto (q := 23) dX8_fold_19 (by decide)) ?_
  refine E.st (p2 := 26) (l2 := [(0, .ref o), (1, .int t), (2, .int a)]) (s2 := [.int (1 : Int32)]) (h2 := (hs h o (ob 8 (fo 53 (va_up F 0 (.int 1)))))) (s_invv (K := mX8_refused) (o := o) (as := [.int 1]) (rest := []) (v := some (.int (1 : Int32))) dX8_fold_23 rfl lX8_112 (by omega) rfl (Nat.le_of_ble_eq_true rfl) rfl (Nat.le_of_ble_eq_true rfl) (ho) (p_X8_refused_2 (d := 0) (Nat.le_refl _) h o (1 : Int32) (by decide) F ho rfl) (fun h => nomatch h)) ?_
  refine E.st (s_if_eq_f (q := 29) (tg := 33) dX8_fold_26 (by decide) rfl (by decide)) ?_
  refine E.st (s_iconst (q := 30) (v := 0) dX8_fold_29 rfl (by decide)) ?_
  refine E.st (s_goto (q := 43) dX8_fold_30 (by decide)) ?_
  exact E.i dX8_fold_43 rfl rfl rfl rfl

set_option maxRecDepth 20000 in
theorem p_X8_forget_1 {d : Nat} (hd : 0 ≤ d) (h : AH) (o : Nat) (F : Nat → Value) (ho : h.1 o = ob 8 (fo 53 F)) : CM mX8_forget d [.ref o] h (none) (hs (hs (hs (hs (hs (hs (hs (hs (hs (hs (hs (hs (hs (hs h o (ob 8 (fo 53 (va_up F 29 (.int 0))))) o (ob 8 (fo 53 (va_up (va_up F 29 (.int 0)) 30 (.int 0))))) o (ob 8 (fo 53 (va_up (va_up (va_up F 29 (.int 0)) 30 (.int 0)) 34 (.int 0))))) o (ob 8 (fo 53 (va_up (va_up (va_up (va_up F 29 (.int 0)) 30 (.int 0)) 34 (.int 0)) 37 (.int 0))))) o (ob 8 (fo 53 (va_up (va_up (va_up (va_up (va_up F 29 (.int 0)) 30 (.int 0)) 34 (.int 0)) 37 (.int 0)) 40 (.int 0))))) o (ob 8 (fo 53 (va_up (va_up (va_up (va_up (va_up (va_up F 29 (.int 0)) 30 (.int 0)) 34 (.int 0)) 37 (.int 0)) 40 (.int 0)) 41 (.int 0))))) o (ob 8 (fo 53 (va_up (va_up (va_up (va_up (va_up (va_up (va_up F 29 (.int 0)) 30 (.int 0)) 34 (.int 0)) 37 (.int 0)) 40 (.int 0)) 41 (.int 0)) 42 (.int 0))))) o (ob 8 (fo 53 (va_up (va_up (va_up (va_up (va_up (va_up (va_up (va_up F 29 (.int 0)) 30 (.int 0)) 34 (.int 0)) 37 (.int 0)) 40 (.int 0)) 41 (.int 0)) 42 (.int 0)) 43 (.int 0))))) o (ob 8 (fo 53 (va_up (va_up (va_up (va_up (va_up (va_up (va_up (va_up (va_up F 29 (.int 0)) 30 (.int 0)) 34 (.int 0)) 37 (.int 0)) 40 (.int 0)) 41 (.int 0)) 42 (.int 0)) 43 (.int 0)) 44 (.int 0))))) o (ob 8 (fo 53 (va_up (va_up (va_up (va_up (va_up (va_up (va_up (va_up (va_up (va_up F 29 (.int 0)) 30 (.int 0)) 34 (.int 0)) 37 (.int 0)) 40 (.int 0)) 41 (.int 0)) 42 (.int 0)) 43 (.int 0)) 44 (.int 0)) 45 (.int 0))))) o (ob 8 (fo 53 (va_up (va_up (va_up (va_up (va_up (va_up (va_up (va_up (va_up (va_up (va_up F 29 (.int 0)) 30 (.int 0)) 34 (.int 0)) 37 (.int 0)) 40 (.int 0)) 41 (.int 0)) 42 (.int 0)) 43 (.int 0)) 44 (.int 0)) 45 (.int 0)) 46 (.int 0))))) o (ob 8 (fo 53 (va_up (va_up (va_up (va_up (va_up (va_up (va_up (va_up (va_up (va_up (va_up (va_up F 29 (.int 0)) 30 (.int 0)) 34 (.int 0)) 37 (.int 0)) 40 (.int 0)) 41 (.int 0)) 42 (.int 0)) 43 (.int 0)) 44 (.int 0)) 45 (.int 0)) 46 (.int 0)) 47 (.int 0))))) o (ob 8 (fo 53 (va_up (va_up (va_up (va_up (va_up (va_up (va_up (va_up (va_up (va_up (va_up (va_up (va_up F 29 (.int 0)) 30 (.int 0)) 34 (.int 0)) 37 (.int 0)) 40 (.int 0)) 41 (.int 0)) 42 (.int 0)) 43 (.int 0)) 44 (.int 0)) 45 (.int 0)) 46 (.int 0)) 47 (.int 0)) 48 (.int 0))))) o (ob 8 (fo 53 (va_up (va_up (va_up (va_up (va_up (va_up (va_up (va_up (va_up (va_up (va_up (va_up (va_up (va_up F 29 (.int 0)) 30 (.int 0)) 34 (.int 0)) 37 (.int 0)) 40 (.int 0)) 41 (.int 0)) 42 (.int 0)) 43 (.int 0)) 44 (.int 0)) 45 (.int 0)) 46 (.int 0)) 47 (.int 0)) 48 (.int 0)) 50 (.int 0))))) := by
  show E false mX8_forget d 0 [(0, .ref o)] [] h _ _
  refine E.st (s_aload_n (q := 1) dX8_forget_0 rfl rfl) ?_
  refine E.st (s_iconst (q := 2) (v := 0) dX8_forget_1 rfl (by decide)) ?_
  refine E.st (s_pf (q := 5) dX8_forget_2 rfl fX8_203 (ho) (by decide) (fun _ => ⟨rfl, rfl⟩)) ?_
  refine E.st (s_aload_n (q := 6) dX8_forget_5 rfl rfl) ?_
  refine E.st (s_iconst (q := 7) (v := 0) dX8_forget_6 rfl (by decide)) ?_
  refine E.st (s_pf (q := 10) dX8_forget_7 rfl fX8_207 (hs_eq) (by decide) (fun _ => ⟨rfl, rfl⟩)) ?_
  refine E.st (s_aload_n (q := 11) dX8_forget_10 rfl rfl) ?_
  refine E.st (s_iconst (q := 12) (v := 0) dX8_forget_11 rfl (by decide)) ?_
  refine E.st (s_pf (q := 15) dX8_forget_12 rfl fX8_210 (hs_eq) (by decide) (fun _ => ⟨rfl, rfl⟩)) ?_
  refine E.st (s_aload_n (q := 16) dX8_forget_15 rfl rfl) ?_
  refine E.st (s_iconst (q := 17) (v := 0) dX8_forget_16 rfl (by decide)) ?_
  refine E.st (s_pf (q := 20) dX8_forget_17 rfl fX8_213 (hs_eq) (by decide) (fun _ => ⟨rfl, rfl⟩)) ?_
  refine E.st (s_aload_n (q := 21) dX8_forget_20 rfl rfl) ?_
  refine E.st (s_iconst (q := 22) (v := 0) dX8_forget_21 rfl (by decide)) ?_
  refine E.st (s_pf (q := 25) dX8_forget_22 rfl fX8_216 (hs_eq) (by decide) (fun _ => ⟨rfl, rfl⟩)) ?_
  refine E.st (s_aload_n (q := 26) dX8_forget_25 rfl rfl) ?_
  refine E.st (s_iconst (q := 27) (v := 0) dX8_forget_26 rfl (by decide)) ?_
  refine E.st (s_pf (q := 30) dX8_forget_27 rfl fX8_219 (hs_eq) (by decide) (fun _ => ⟨rfl, rfl⟩)) ?_
  refine E.st (s_aload_n (q := 31) dX8_forget_30 rfl rfl) ?_
  refine E.st (s_iconst (q := 32) (v := 0) dX8_forget_31 rfl (by decide)) ?_
  refine E.st (s_pf (q := 35) dX8_forget_32 rfl fX8_222 (hs_eq) (by decide) (fun _ => ⟨rfl, rfl⟩)) ?_
  refine E.st (s_aload_n (q := 36) dX8_forget_35 rfl rfl) ?_
  refine E.st (s_iconst (q := 37) (v := 0) dX8_forget_36 rfl (by decide)) ?_
  refine E.st (s_pf (q := 40) dX8_forget_37 rfl fX8_225 (hs_eq) (by decide) (fun _ => ⟨rfl, rfl⟩)) ?_
  refine E.st (s_aload_n (q := 41) dX8_forget_40 rfl rfl) ?_
  refine E.st (s_iconst (q := 42) (v := 0) dX8_forget_41 rfl (by decide)) ?_
  refine E.st (s_pf (q := 45) dX8_forget_42 rfl fX8_228 (hs_eq) (by decide) (fun _ => ⟨rfl, rfl⟩)) ?_
  refine E.st (s_aload_n (q := 46) dX8_forget_45 rfl rfl) ?_
  refine E.st (s_iconst (q := 47) (v := 0) dX8_forget_46 rfl (by decide)) ?_
  refine E.st (s_pf (q := 50) dX8_forget_47 rfl fX8_231 (hs_eq) (by decide) (fun _ => ⟨rfl, rfl⟩)) ?_
  refine E.st (s_aload_n (q := 51) dX8_forget_50 rfl rfl) ?_
  refine E.st (s_iconst (q := 52) (v := 0) dX8_forget_51 rfl (by decide)) ?_
  refine E.st (s_pf (q := 55) dX8_forget_52 rfl fX8_234 (hs_eq) (by decide) (fun _ => ⟨rfl, rfl⟩)) ?_
  refine E.st (s_aload_n (q := 56) dX8_forget_55 rfl rfl) ?_
  refine E.st (s_iconst (q := 57) (v := 0) dX8_forget_56 rfl (by decide)) ?_
  refine E.st (s_pf (q := 60) dX8_forget_57 rfl fX8_237 (hs_eq) (by decide) (fun _ => ⟨rfl, rfl⟩)) ?_
  refine E.st (s_aload_n (q := 61) dX8_forget_60 rfl rfl) ?_
  refine E.st (s_iconst (q := 62) (v := 0) dX8_forget_61 rfl (by decide)) ?_
  refine E.st (s_pf (q := 65) dX8_forget_62 rfl fX8_240 (hs_eq) (by decide) (fun _ => ⟨rfl, rfl⟩)) ?_
  refine E.st (s_aload_n (q := 66) dX8_forget_65 rfl rfl) ?_
  refine E.st (s_iconst (q := 67) (v := 0) dX8_forget_66 rfl (by decide)) ?_
  refine E.st (s_pf (q := 70) dX8_forget_67 rfl fX8_243 (hs_eq) (by decide) (fun _ => ⟨rfl, rfl⟩)) ?_
  exact E.v dX8_forget_70 rfl rfl rfl

set_option maxRecDepth 20000 in
theorem p_X8_clear_1 {d : Nat} (hd : 1 ≤ d) (h : AH) (o : Nat) (F : Nat → Value) (ho : h.1 o = ob 8 (fo 53 F)) (v1 : Int32) (e1 : F 1 = .int v1) : CM mX8_clear d [.ref o] h (some (.int v1)) (hs (hs (hs (hs (hs (hs (hs (hs (hs (hs (hs (hs (hs (hs (hs (hs h o (ob 8 (fo 53 (va_up F 0 (.int 0))))) o (ob 8 (fo 53 (va_up (va_up F 0 (.int 0)) 1 (.int 0))))) o (ob 8 (fo 53 (va_up (va_up (va_up F 0 (.int 0)) 1 (.int 0)) 29 (.int 0))))) o (ob 8 (fo 53 (va_up (va_up (va_up (va_up F 0 (.int 0)) 1 (.int 0)) 29 (.int 0)) 30 (.int 0))))) o (ob 8 (fo 53 (va_up (va_up (va_up (va_up (va_up F 0 (.int 0)) 1 (.int 0)) 29 (.int 0)) 30 (.int 0)) 34 (.int 0))))) o (ob 8 (fo 53 (va_up (va_up (va_up (va_up (va_up (va_up F 0 (.int 0)) 1 (.int 0)) 29 (.int 0)) 30 (.int 0)) 34 (.int 0)) 37 (.int 0))))) o (ob 8 (fo 53 (va_up (va_up (va_up (va_up (va_up (va_up (va_up F 0 (.int 0)) 1 (.int 0)) 29 (.int 0)) 30 (.int 0)) 34 (.int 0)) 37 (.int 0)) 40 (.int 0))))) o (ob 8 (fo 53 (va_up (va_up (va_up (va_up (va_up (va_up (va_up (va_up F 0 (.int 0)) 1 (.int 0)) 29 (.int 0)) 30 (.int 0)) 34 (.int 0)) 37 (.int 0)) 40 (.int 0)) 41 (.int 0))))) o (ob 8 (fo 53 (va_up (va_up (va_up (va_up (va_up (va_up (va_up (va_up (va_up F 0 (.int 0)) 1 (.int 0)) 29 (.int 0)) 30 (.int 0)) 34 (.int 0)) 37 (.int 0)) 40 (.int 0)) 41 (.int 0)) 42 (.int 0))))) o (ob 8 (fo 53 (va_up (va_up (va_up (va_up (va_up (va_up (va_up (va_up (va_up (va_up F 0 (.int 0)) 1 (.int 0)) 29 (.int 0)) 30 (.int 0)) 34 (.int 0)) 37 (.int 0)) 40 (.int 0)) 41 (.int 0)) 42 (.int 0)) 43 (.int 0))))) o (ob 8 (fo 53 (va_up (va_up (va_up (va_up (va_up (va_up (va_up (va_up (va_up (va_up (va_up F 0 (.int 0)) 1 (.int 0)) 29 (.int 0)) 30 (.int 0)) 34 (.int 0)) 37 (.int 0)) 40 (.int 0)) 41 (.int 0)) 42 (.int 0)) 43 (.int 0)) 44 (.int 0))))) o (ob 8 (fo 53 (va_up (va_up (va_up (va_up (va_up (va_up (va_up (va_up (va_up (va_up (va_up (va_up F 0 (.int 0)) 1 (.int 0)) 29 (.int 0)) 30 (.int 0)) 34 (.int 0)) 37 (.int 0)) 40 (.int 0)) 41 (.int 0)) 42 (.int 0)) 43 (.int 0)) 44 (.int 0)) 45 (.int 0))))) o (ob 8 (fo 53 (va_up (va_up (va_up (va_up (va_up (va_up (va_up (va_up (va_up (va_up (va_up (va_up (va_up F 0 (.int 0)) 1 (.int 0)) 29 (.int 0)) 30 (.int 0)) 34 (.int 0)) 37 (.int 0)) 40 (.int 0)) 41 (.int 0)) 42 (.int 0)) 43 (.int 0)) 44 (.int 0)) 45 (.int 0)) 46 (.int 0))))) o (ob 8 (fo 53 (va_up (va_up (va_up (va_up (va_up (va_up (va_up (va_up (va_up (va_up (va_up (va_up (va_up (va_up F 0 (.int 0)) 1 (.int 0)) 29 (.int 0)) 30 (.int 0)) 34 (.int 0)) 37 (.int 0)) 40 (.int 0)) 41 (.int 0)) 42 (.int 0)) 43 (.int 0)) 44 (.int 0)) 45 (.int 0)) 46 (.int 0)) 47 (.int 0))))) o (ob 8 (fo 53 (va_up (va_up (va_up (va_up (va_up (va_up (va_up (va_up (va_up (va_up (va_up (va_up (va_up (va_up (va_up F 0 (.int 0)) 1 (.int 0)) 29 (.int 0)) 30 (.int 0)) 34 (.int 0)) 37 (.int 0)) 40 (.int 0)) 41 (.int 0)) 42 (.int 0)) 43 (.int 0)) 44 (.int 0)) 45 (.int 0)) 46 (.int 0)) 47 (.int 0)) 48 (.int 0))))) o (ob 8 (fo 53 (va_up (va_up (va_up (va_up (va_up (va_up (va_up (va_up (va_up (va_up (va_up (va_up (va_up (va_up (va_up (va_up F 0 (.int 0)) 1 (.int 0)) 29 (.int 0)) 30 (.int 0)) 34 (.int 0)) 37 (.int 0)) 40 (.int 0)) 41 (.int 0)) 42 (.int 0)) 43 (.int 0)) 44 (.int 0)) 45 (.int 0)) 46 (.int 0)) 47 (.int 0)) 48 (.int 0)) 50 (.int 0))))) := by
  show E false mX8_clear d 0 [(0, .ref o)] [] h _ _
  refine E.st (s_aload_n (q := 1) dX8_clear_0 rfl rfl) ?_
  refine E.st (s_iconst (q := 2) (v := 0) dX8_clear_1 rfl (by decide)) ?_
  refine E.st (s_pf (q := 5) dX8_clear_2 rfl fX8_97 (ho) (by decide) (fun _ => ⟨rfl, rfl⟩)) ?_
  refine E.st (s_aload_n (q := 6) dX8_clear_5 rfl rfl) ?_
  refine E.st (s_gf (q := 9) (v := .int v1) dX8_clear_6 rfl fX8_101.l (hs_eq) (by decide) ((up_ne (by decide)).trans (e1))) ?_
  refine E.st (s_istore_n (q := 10) (ls' := [(1, .int v1), (0, .ref o)]) dX8_clear_9 rfl (by decide) rfl) ?_
  refine E.st (s_aload_n (q := 11) dX8_clear_10 rfl rfl) ?_
  refine E.st (s_iconst (q := 12) (v := 0) dX8_clear_11 rfl (by decide)) ?_
  refine E.st (s_pf (q := 15) dX8_clear_12 rfl fX8_101 (hs_eq) (by decide) (fun _ => ⟨rfl, rfl⟩)) ?_
  refine E.st (s_aload_n (q := 16) dX8_clear_15 rfl rfl) ?_
  refine E.st (p2 := 19) (l2 := [(1, .int v1), (0, .ref o)]) (s2 := []) (h2 := (hs (hs (hs (hs (hs (hs (hs (hs (hs (hs (hs (hs (hs (hs (hs (hs h o (ob 8 (fo 53 (va_up F 0 (.int 0))))) o (ob 8 (fo 53 (va_up (va_up F 0 (.int 0)) 1 (.int 0))))) o (ob 8 (fo 53 (va_up (va_up (va_up F 0 (.int 0)) 1 (.int 0)) 29 (.int 0))))) o (ob 8 (fo 53 (va_up (va_up (va_up (va_up F 0 (.int 0)) 1 (.int 0)) 29 (.int 0)) 30 (.int 0))))) o (ob 8 (fo 53 (va_up (va_up (va_up (va_up (va_up F 0 (.int 0)) 1 (.int 0)) 29 (.int 0)) 30 (.int 0)) 34 (.int 0))))) o (ob 8 (fo 53 (va_up (va_up (va_up (va_up (va_up (va_up F 0 (.int 0)) 1 (.int 0)) 29 (.int 0)) 30 (.int 0)) 34 (.int 0)) 37 (.int 0))))) o (ob 8 (fo 53 (va_up (va_up (va_up (va_up (va_up (va_up (va_up F 0 (.int 0)) 1 (.int 0)) 29 (.int 0)) 30 (.int 0)) 34 (.int 0)) 37 (.int 0)) 40 (.int 0))))) o (ob 8 (fo 53 (va_up (va_up (va_up (va_up (va_up (va_up (va_up (va_up F 0 (.int 0)) 1 (.int 0)) 29 (.int 0)) 30 (.int 0)) 34 (.int 0)) 37 (.int 0)) 40 (.int 0)) 41 (.int 0))))) o (ob 8 (fo 53 (va_up (va_up (va_up (va_up (va_up (va_up (va_up (va_up (va_up F 0 (.int 0)) 1 (.int 0)) 29 (.int 0)) 30 (.int 0)) 34 (.int 0)) 37 (.int 0)) 40 (.int 0)) 41 (.int 0)) 42 (.int 0))))) o (ob 8 (fo 53 (va_up (va_up (va_up (va_up (va_up (va_up (va_up (va_up (va_up (va_up F 0 (.int 0)) 1 (.int 0)) 29 (.int 0)) 30 (.int 0)) 34 (.int 0)) 37 (.int 0)) 40 (.int 0)) 41 (.int 0)) 42 (.int 0)) 43 (.int 0))))) o (ob 8 (fo 53 (va_up (va_up (va_up (va_up (va_up (va_up (va_up (va_up (va_up (va_up (va_up F 0 (.int 0)) 1 (.int 0)) 29 (.int 0)) 30 (.int 0)) 34 (.int 0)) 37 (.int 0)) 40 (.int 0)) 41 (.int 0)) 42 (.int 0)) 43 (.int 0)) 44 (.int 0))))) o (ob 8 (fo 53 (va_up (va_up (va_up (va_up (va_up (va_up (va_up (va_up (va_up (va_up (va_up (va_up F 0 (.int 0)) 1 (.int 0)) 29 (.int 0)) 30 (.int 0)) 34 (.int 0)) 37 (.int 0)) 40 (.int 0)) 41 (.int 0)) 42 (.int 0)) 43 (.int 0)) 44 (.int 0)) 45 (.int 0))))) o (ob 8 (fo 53 (va_up (va_up (va_up (va_up (va_up (va_up (va_up (va_up (va_up (va_up (va_up (va_up (va_up F 0 (.int 0)) 1 (.int 0)) 29 (.int 0)) 30 (.int 0)) 34 (.int 0)) 37 (.int 0)) 40 (.int 0)) 41 (.int 0)) 42 (.int 0)) 43 (.int 0)) 44 (.int 0)) 45 (.int 0)) 46 (.int 0))))) o (ob 8 (fo 53 (va_up (va_up (va_up (va_up (va_up (va_up (va_up (va_up (va_up (va_up (va_up (va_up (va_up (va_up F 0 (.int 0)) 1 (.int 0)) 29 (.int 0)) 30 (.int 0)) 34 (.int 0)) 37 (.int 0)) 40 (.int 0)) 41 (.int 0)) 42 (.int 0)) 43 (.int 0)) 44 (.int 0)) 45 (.int 0)) 46 (.int 0)) 47 (.int 0))))) o (ob 8 (fo 53 (va_up (va_up (va_up (va_up (va_up (va_up (va_up (va_up (va_up (va_up (va_up (va_up (va_up (va_up (va_up F 0 (.int 0)) 1 (.int 0)) 29 (.int 0)) 30 (.int 0)) 34 (.int 0)) 37 (.int 0)) 40 (.int 0)) 41 (.int 0)) 42 (.int 0)) 43 (.int 0)) 44 (.int 0)) 45 (.int 0)) 46 (.int 0)) 47 (.int 0)) 48 (.int 0))))) o (ob 8 (fo 53 (va_up (va_up (va_up (va_up (va_up (va_up (va_up (va_up (va_up (va_up (va_up (va_up (va_up (va_up (va_up (va_up F 0 (.int 0)) 1 (.int 0)) 29 (.int 0)) 30 (.int 0)) 34 (.int 0)) 37 (.int 0)) 40 (.int 0)) 41 (.int 0)) 42 (.int 0)) 43 (.int 0)) 44 (.int 0)) 45 (.int 0)) 46 (.int 0)) 47 (.int 0)) 48 (.int 0)) 50 (.int 0)))))) (s_invv (K := mX8_forget) (o := o) (as := []) (rest := []) (v := none) dX8_clear_16 rfl lX8_116 (by omega) rfl (Nat.le_of_ble_eq_true rfl) rfl (Nat.le_of_ble_eq_true rfl) (hs_eq) (p_X8_forget_1 (d := 0) (Nat.le_refl _) (hs (hs h o (ob 8 (fo 53 (va_up F 0 (.int 0))))) o (ob 8 (fo 53 (va_up (va_up F 0 (.int 0)) 1 (.int 0))))) o (va_up (va_up F 0 (.int 0)) 1 (.int 0)) hs_eq) (fun h => nomatch h)) ?_
  refine E.st (s_iload_n (q := 20) dX8_clear_19 rfl rfl) ?_
  exact E.i dX8_clear_20 rfl rfl rfl rfl

set_option maxRecDepth 20000 in
theorem p_X8_node_1 {d : Nat} (hd : 1 ≤ d) (h : AH) (o : Nat) (n : Int32) (w : Int32) (F : Nat → Value) (ho : h.1 o = ob 8 (fo 53 F)) (v1 : Int32) (e1 : F 1 = .int v1) (c : n < 0 ∨ v1 ≤ n) : CM mX8_node d [.ref o, .int n, .int w] h (some (.int 0)) (hs h o (ob 8 (fo 53 (va_up F 0 (.int 1))))) := by
  show E false mX8_node d 0 [(0, .ref o), (1, .int n), (2, .int w)] [] h _ _
  refine E.st (s_aload_n (q := 1) dX8_node_0 rfl rfl) ?_
  refine E.st (s_aload_n (q := 2) dX8_node_1 rfl rfl) ?_
  refine E.st (s_iload_n (q := 3) dX8_node_2 rfl rfl) ?_
  refine E.st (p2 := 6) (l2 := [(0, .ref o), (1, .int n), (2, .int w)]) (s2 := [.int 0, .ref o]) (h2 := h) (s_invv (K := mX8_isNode) (o := o) (as := [.int n]) (rest := [.ref o]) (v := some (.int 0)) dX8_node_3 rfl lX8_108 (by omega) rfl (Nat.le_of_ble_eq_true rfl) rfl (Nat.le_of_ble_eq_true rfl) (ho) (q_X8_isNode_n (d := 0) (Nat.le_refl _) h o n F ho v1 e1 c) (fun h => nomatch h)) ?_
  refine E.st (s_if_eq_t (q := 18) dX8_node_6 (by decide) (by decide)) ?_
  refine E.st (s_iconst (q := 19) (v := 1) dX8_node_18 rfl (by decide)) ?_
  refine E.st (s_goto (q := 23) dX8_node_19 (by decide)) ?_
  refine E.st (p2 := 26) (l2 := [(0, .ref o), (1, .int n), (2, .int w)]) (s2 := [.int (1 : Int32)]) (h2 := (hs h o (ob 8 (fo 53 (va_up F 0 (.int 1)))))) (s_invv (K := mX8_refused) (o := o) (as := [.int 1]) (rest := []) (v := some (.int (1 : Int32))) dX8_node_23 rfl lX8_112 (by omega) rfl (Nat.le_of_ble_eq_true rfl) rfl (Nat.le_of_ble_eq_true rfl) (ho) (p_X8_refused_2 (d := 0) (Nat.le_refl _) h o (1 : Int32) (by decide) F ho rfl) (fun h => nomatch h)) ?_
  refine E.st (s_if_eq_f (q := 29) (tg := 31) dX8_node_26 (by decide) rfl (by decide)) ?_
  refine E.st (s_iconst (q := 30) (v := 0) dX8_node_29 rfl (by decide)) ?_
  exact E.i dX8_node_30 rfl rfl rfl rfl

set_option maxRecDepth 20000 in
theorem p_X8_node_2 {d : Nat} (hd : 1 ≤ d) (h : AH) (o : Nat) (n : Int32) (w : Int32) (F : Nat → Value) (ho : h.1 o = ob 8 (fo 53 F)) (v1 : Int32) (e1 : F 1 = .int v1) (c : ¬ (n < 0) ∧ ¬ (v1 ≤ n)) (c1 : w < 0) : CM mX8_node d [.ref o, .int n, .int w] h (some (.int 0)) (hs h o (ob 8 (fo 53 (va_up F 0 (.int 1))))) := by
  show E false mX8_node d 0 [(0, .ref o), (1, .int n), (2, .int w)] [] h _ _
  refine E.st (s_aload_n (q := 1) dX8_node_0 rfl rfl) ?_
  refine E.st (s_aload_n (q := 2) dX8_node_1 rfl rfl) ?_
  refine E.st (s_iload_n (q := 3) dX8_node_2 rfl rfl) ?_
  refine E.st (p2 := 6) (l2 := [(0, .ref o), (1, .int n), (2, .int w)]) (s2 := [.int 1, .ref o]) (h2 := h) (s_invv (K := mX8_isNode) (o := o) (as := [.int n]) (rest := [.ref o]) (v := some (.int 1)) dX8_node_3 rfl lX8_108 (by omega) rfl (Nat.le_of_ble_eq_true rfl) rfl (Nat.le_of_ble_eq_true rfl) (ho) (q_X8_isNode_y (d := 0) (Nat.le_refl _) h o n F ho v1 e1 c) (fun h => nomatch h)) ?_
  refine E.st (s_if_eq_f (q := 9) (tg := 18) dX8_node_6 (by decide) rfl (by decide)) ?_
  refine E.st (s_iload_n (q := 10) dX8_node_9 rfl rfl) ?_
  refine E.st (s_if_lt_t (q := 18) dX8_node_10 (by decide) c1) ?_
  refine E.st (s_iconst (q := 19) (v := 1) dX8_node_18 rfl (by decide)) ?_
  refine E.st (s_goto (q := 23) dX8_node_19 (by decide)) ?_
  refine E.st (p2 := 26) (l2 := [(0, .ref o), (1, .int n), (2, .int w)]) (s2 := [.int (1 : Int32)]) (h2 := (hs h o (ob 8 (fo 53 (va_up F 0 (.int 1)))))) (s_invv (K := mX8_refused) (o := o) (as := [.int 1]) (rest := []) (v := some (.int (1 : Int32))) dX8_node_23 rfl lX8_112 (by omega) rfl (Nat.le_of_ble_eq_true rfl) rfl (Nat.le_of_ble_eq_true rfl) (ho) (p_X8_refused_2 (d := 0) (Nat.le_refl _) h o (1 : Int32) (by decide) F ho rfl) (fun h => nomatch h)) ?_
  refine E.st (s_if_eq_f (q := 29) (tg := 31) dX8_node_26 (by decide) rfl (by decide)) ?_
  refine E.st (s_iconst (q := 30) (v := 0) dX8_node_29 rfl (by decide)) ?_
  exact E.i dX8_node_30 rfl rfl rfl rfl

set_option maxRecDepth 20000 in
theorem p_X8_node_3 {d : Nat} (hd : 1 ≤ d) (h : AH) (o : Nat) (n : Int32) (w : Int32) (F : Nat → Value) (ho : h.1 o = ob 8 (fo 53 F)) (v1 : Int32) (e1 : F 1 = .int v1) (c : ¬ (n < 0) ∧ ¬ (v1 ≤ n)) (c1 : ¬ (w < 0)) (c2 : w ≤ 3) (c3 : ¬ w = 0) (c4 : ¬ w = 1) (c5 : ¬ w = 2) (r6 : Nat) (e6 : F 6 = .ref r6) (n1 : Nat) (f : Nat → Int32) (ha : h.1 r6 = ia n1 f) (i : vp_in n n1) (p : 0 < r6) : CM mX8_node d [.ref o, .int n, .int w] h (some (.int (f n.toNatClampNeg))) (hs h o (ob 8 (fo 53 (va_up F 0 (.int 0))))) := by
  show E false mX8_node d 0 [(0, .ref o), (1, .int n), (2, .int w)] [] h _ _
  refine E.st (s_aload_n (q := 1) dX8_node_0 rfl rfl) ?_
  refine E.st (s_aload_n (q := 2) dX8_node_1 rfl rfl) ?_
  refine E.st (s_iload_n (q := 3) dX8_node_2 rfl rfl) ?_
  refine E.st (p2 := 6) (l2 := [(0, .ref o), (1, .int n), (2, .int w)]) (s2 := [.int 1, .ref o]) (h2 := h) (s_invv (K := mX8_isNode) (o := o) (as := [.int n]) (rest := [.ref o]) (v := some (.int 1)) dX8_node_3 rfl lX8_108 (by omega) rfl (Nat.le_of_ble_eq_true rfl) rfl (Nat.le_of_ble_eq_true rfl) (ho) (q_X8_isNode_y (d := 0) (Nat.le_refl _) h o n F ho v1 e1 c) (fun h => nomatch h)) ?_
  refine E.st (s_if_eq_f (q := 9) (tg := 18) dX8_node_6 (by decide) rfl (by decide)) ?_
  refine E.st (s_iload_n (q := 10) dX8_node_9 rfl rfl) ?_
  refine E.st (s_if_lt_f (q := 13) (tg := 18) dX8_node_10 (by decide) rfl c1) ?_
  refine E.st (s_iload_n (q := 14) dX8_node_13 rfl rfl) ?_
  refine E.st (s_iconst (q := 15) (v := 3) dX8_node_14 rfl (by decide)) ?_
  refine E.st (s_icmp_le_t (q := 22) dX8_node_15 (by decide) c2) ?_
  refine E.st (s_iconst (q := 23) (v := 0) dX8_node_22 rfl (by decide)) ?_
  refine E.st (p2 := 26) (l2 := [(0, .ref o), (1, .int n), (2, .int w)]) (s2 := [.int (0 : Int32)]) (h2 := (hs h o (ob 8 (fo 53 (va_up F 0 (.int 0)))))) (s_invv (K := mX8_refused) (o := o) (as := [.int 0]) (rest := []) (v := some (.int (0 : Int32))) dX8_node_23 rfl lX8_112 (by omega) rfl (Nat.le_of_ble_eq_true rfl) rfl (Nat.le_of_ble_eq_true rfl) (ho) (p_X8_refused_1 (d := 0) (Nat.le_refl _) h o (0 : Int32) (by decide) F ho rfl) (fun h => nomatch h)) ?_
  refine E.st (s_if_eq_t (q := 31) dX8_node_26 (by decide) (by decide)) ?_
  refine E.st (s_iload_n (q := 32) dX8_node_31 rfl rfl) ?_
  refine E.st (s_if_ne_t (q := 44) dX8_node_32 (by decide) c3) ?_
  refine E.st (s_iload_n (q := 45) dX8_node_44 rfl rfl) ?_
  refine E.st (s_iconst (q := 46) (v := 1) dX8_node_45 rfl (by decide)) ?_
  refine E.st (s_icmp_ne_t (q := 58) dX8_node_46 (by decide) c4) ?_
  refine E.st (s_iload_n (q := 59) dX8_node_58 rfl rfl) ?_
  refine E.st (s_iconst (q := 60) (v := 2) dX8_node_59 rfl (by decide)) ?_
  refine E.st (s_icmp_ne_t (q := 72) dX8_node_60 (by decide) c5) ?_
  refine E.st (s_aload_n (q := 73) dX8_node_72 rfl rfl) ?_
  refine E.st (s_gf (q := 76) (v := .ref r6) dX8_node_73 rfl fX8_23.l (hs_eq) (by decide) ((up_ne (by decide)).trans (e6))) ?_
  refine E.st (s_iload_n (q := 77) dX8_node_76 rfl rfl) ?_
  refine E.st (s_iald (q := 78) dX8_node_77 rfl p ((hs_ne (Ne.symm (ne_oi ho ha))).trans (ha)) i) ?_
  exact E.i dX8_node_78 rfl rfl rfl rfl

set_option maxRecDepth 20000 in
theorem p_X8_node_4 {d : Nat} (hd : 1 ≤ d) (h : AH) (o : Nat) (n : Int32) (w : Int32) (F : Nat → Value) (ho : h.1 o = ob 8 (fo 53 F)) (v1 : Int32) (e1 : F 1 = .int v1) (c : ¬ (n < 0) ∧ ¬ (v1 ≤ n)) (c1 : ¬ (w < 0)) (c2 : w ≤ 3) (c3 : ¬ w = 0) (c4 : ¬ w = 1) (c5 : w = 2) (r5 : Nat) (e5 : F 5 = .ref r5) (n1 : Nat) (f : Nat → Int32) (ha : h.1 r5 = ia n1 f) (i : vp_in n n1) (p : 0 < r5) : CM mX8_node d [.ref o, .int n, .int w] h (some (.int (f n.toNatClampNeg))) (hs h o (ob 8 (fo 53 (va_up F 0 (.int 0))))) := by
  show E false mX8_node d 0 [(0, .ref o), (1, .int n), (2, .int w)] [] h _ _
  refine E.st (s_aload_n (q := 1) dX8_node_0 rfl rfl) ?_
  refine E.st (s_aload_n (q := 2) dX8_node_1 rfl rfl) ?_
  refine E.st (s_iload_n (q := 3) dX8_node_2 rfl rfl) ?_
  refine E.st (p2 := 6) (l2 := [(0, .ref o), (1, .int n), (2, .int w)]) (s2 := [.int 1, .ref o]) (h2 := h) (s_invv (K := mX8_isNode) (o := o) (as := [.int n]) (rest := [.ref o]) (v := some (.int 1)) dX8_node_3 rfl lX8_108 (by omega) rfl (Nat.le_of_ble_eq_true rfl) rfl (Nat.le_of_ble_eq_true rfl) (ho) (q_X8_isNode_y (d := 0) (Nat.le_refl _) h o n F ho v1 e1 c) (fun h => nomatch h)) ?_
  refine E.st (s_if_eq_f (q := 9) (tg := 18) dX8_node_6 (by decide) rfl (by decide)) ?_
  refine E.st (s_iload_n (q := 10) dX8_node_9 rfl rfl) ?_
  refine E.st (s_if_lt_f (q := 13) (tg := 18) dX8_node_10 (by decide) rfl c1) ?_
  refine E.st (s_iload_n (q := 14) dX8_node_13 rfl rfl) ?_
  refine E.st (s_iconst (q := 15) (v := 3) dX8_node_14 rfl (by decide)) ?_
  refine E.st (s_icmp_le_t (q := 22) dX8_node_15 (by decide) c2) ?_
  refine E.st (s_iconst (q := 23) (v := 0) dX8_node_22 rfl (by decide)) ?_
  refine E.st (p2 := 26) (l2 := [(0, .ref o), (1, .int n), (2, .int w)]) (s2 := [.int (0 : Int32)]) (h2 := (hs h o (ob 8 (fo 53 (va_up F 0 (.int 0)))))) (s_invv (K := mX8_refused) (o := o) (as := [.int 0]) (rest := []) (v := some (.int (0 : Int32))) dX8_node_23 rfl lX8_112 (by omega) rfl (Nat.le_of_ble_eq_true rfl) rfl (Nat.le_of_ble_eq_true rfl) (ho) (p_X8_refused_1 (d := 0) (Nat.le_refl _) h o (0 : Int32) (by decide) F ho rfl) (fun h => nomatch h)) ?_
  refine E.st (s_if_eq_t (q := 31) dX8_node_26 (by decide) (by decide)) ?_
  refine E.st (s_iload_n (q := 32) dX8_node_31 rfl rfl) ?_
  refine E.st (s_if_ne_t (q := 44) dX8_node_32 (by decide) c3) ?_
  refine E.st (s_iload_n (q := 45) dX8_node_44 rfl rfl) ?_
  refine E.st (s_iconst (q := 46) (v := 1) dX8_node_45 rfl (by decide)) ?_
  refine E.st (s_icmp_ne_t (q := 58) dX8_node_46 (by decide) c4) ?_
  refine E.st (s_iload_n (q := 59) dX8_node_58 rfl rfl) ?_
  refine E.st (s_iconst (q := 60) (v := 2) dX8_node_59 rfl (by decide)) ?_
  refine E.st (s_icmp_ne_f (q := 63) (tg := 72) dX8_node_60 (by decide) rfl c5) ?_
  refine E.st (s_aload_n (q := 64) dX8_node_63 rfl rfl) ?_
  refine E.st (s_gf (q := 67) (v := .ref r5) dX8_node_64 rfl fX8_20.l (hs_eq) (by decide) ((up_ne (by decide)).trans (e5))) ?_
  refine E.st (s_iload_n (q := 68) dX8_node_67 rfl rfl) ?_
  refine E.st (s_iald (q := 69) dX8_node_68 rfl p ((hs_ne (Ne.symm (ne_oi ho ha))).trans (ha)) i) ?_
  refine E.st (s_goto (q := 78) dX8_node_69 (by decide)) ?_
  exact E.i dX8_node_78 rfl rfl rfl rfl

set_option maxRecDepth 20000 in
theorem p_X8_node_5 {d : Nat} (hd : 1 ≤ d) (h : AH) (o : Nat) (n : Int32) (w : Int32) (F : Nat → Value) (ho : h.1 o = ob 8 (fo 53 F)) (v1 : Int32) (e1 : F 1 = .int v1) (c : ¬ (n < 0) ∧ ¬ (v1 ≤ n)) (c1 : ¬ (w < 0)) (c2 : w ≤ 3) (c3 : ¬ w = 0) (c4 : w = 1) (r4 : Nat) (e4 : F 4 = .ref r4) (n1 : Nat) (f : Nat → Int32) (ha : h.1 r4 = ia n1 f) (i : vp_in n n1) (p : 0 < r4) : CM mX8_node d [.ref o, .int n, .int w] h (some (.int (f n.toNatClampNeg))) (hs h o (ob 8 (fo 53 (va_up F 0 (.int 0))))) := by
  show E false mX8_node d 0 [(0, .ref o), (1, .int n), (2, .int w)] [] h _ _
  refine E.st (s_aload_n (q := 1) dX8_node_0 rfl rfl) ?_
  refine E.st (s_aload_n (q := 2) dX8_node_1 rfl rfl) ?_
  refine E.st (s_iload_n (q := 3) dX8_node_2 rfl rfl) ?_
  refine E.st (p2 := 6) (l2 := [(0, .ref o), (1, .int n), (2, .int w)]) (s2 := [.int 1, .ref o]) (h2 := h) (s_invv (K := mX8_isNode) (o := o) (as := [.int n]) (rest := [.ref o]) (v := some (.int 1)) dX8_node_3 rfl lX8_108 (by omega) rfl (Nat.le_of_ble_eq_true rfl) rfl (Nat.le_of_ble_eq_true rfl) (ho) (q_X8_isNode_y (d := 0) (Nat.le_refl _) h o n F ho v1 e1 c) (fun h => nomatch h)) ?_
  refine E.st (s_if_eq_f (q := 9) (tg := 18) dX8_node_6 (by decide) rfl (by decide)) ?_
  refine E.st (s_iload_n (q := 10) dX8_node_9 rfl rfl) ?_
  refine E.st (s_if_lt_f (q := 13) (tg := 18) dX8_node_10 (by decide) rfl c1) ?_
  refine E.st (s_iload_n (q := 14) dX8_node_13 rfl rfl) ?_
  refine E.st (s_iconst (q := 15) (v := 3) dX8_node_14 rfl (by decide)) ?_
  refine E.st (s_icmp_le_t (q := 22) dX8_node_15 (by decide) c2) ?_
  refine E.st (s_iconst (q := 23) (v := 0) dX8_node_22 rfl (by decide)) ?_
  refine E.st (p2 := 26) (l2 := [(0, .ref o), (1, .int n), (2, .int w)]) (s2 := [.int (0 : Int32)]) (h2 := (hs h o (ob 8 (fo 53 (va_up F 0 (.int 0)))))) (s_invv (K := mX8_refused) (o := o) (as := [.int 0]) (rest := []) (v := some (.int (0 : Int32))) dX8_node_23 rfl lX8_112 (by omega) rfl (Nat.le_of_ble_eq_true rfl) rfl (Nat.le_of_ble_eq_true rfl) (ho) (p_X8_refused_1 (d := 0) (Nat.le_refl _) h o (0 : Int32) (by decide) F ho rfl) (fun h => nomatch h)) ?_
  refine E.st (s_if_eq_t (q := 31) dX8_node_26 (by decide) (by decide)) ?_
  refine E.st (s_iload_n (q := 32) dX8_node_31 rfl rfl) ?_
  refine E.st (s_if_ne_t (q := 44) dX8_node_32 (by decide) c3) ?_
  refine E.st (s_iload_n (q := 45) dX8_node_44 rfl rfl) ?_
  refine E.st (s_iconst (q := 46) (v := 1) dX8_node_45 rfl (by decide)) ?_
  refine E.st (s_icmp_ne_f (q := 49) (tg := 58) dX8_node_46 (by decide) rfl c4) ?_
  refine E.st (s_aload_n (q := 50) dX8_node_49 rfl rfl) ?_
  refine E.st (s_gf (q := 53) (v := .ref r4) dX8_node_50 rfl fX8_17.l (hs_eq) (by decide) ((up_ne (by decide)).trans (e4))) ?_
  refine E.st (s_iload_n (q := 54) dX8_node_53 rfl rfl) ?_
  refine E.st (s_iald (q := 55) dX8_node_54 rfl p ((hs_ne (Ne.symm (ne_oi ho ha))).trans (ha)) i) ?_
  refine E.st (s_goto (q := 78) dX8_node_55 (by decide)) ?_
  exact E.i dX8_node_78 rfl rfl rfl rfl

set_option maxRecDepth 20000 in
theorem p_X8_node_6 {d : Nat} (hd : 1 ≤ d) (h : AH) (o : Nat) (n : Int32) (w : Int32) (F : Nat → Value) (ho : h.1 o = ob 8 (fo 53 F)) (v1 : Int32) (e1 : F 1 = .int v1) (c : ¬ (n < 0) ∧ ¬ (v1 ≤ n)) (c1 : ¬ (w < 0)) (c2 : w ≤ 3) (c3 : w = 0) (r2 : Nat) (e2 : F 2 = .ref r2) (n1 : Nat) (f : Nat → Int32) (ha : h.1 r2 = ia n1 f) (i : vp_in n n1) (p : 0 < r2) : CM mX8_node d [.ref o, .int n, .int w] h (some (.int (f n.toNatClampNeg))) (hs h o (ob 8 (fo 53 (va_up F 0 (.int 0))))) := by
  show E false mX8_node d 0 [(0, .ref o), (1, .int n), (2, .int w)] [] h _ _
  refine E.st (s_aload_n (q := 1) dX8_node_0 rfl rfl) ?_
  refine E.st (s_aload_n (q := 2) dX8_node_1 rfl rfl) ?_
  refine E.st (s_iload_n (q := 3) dX8_node_2 rfl rfl) ?_
  refine E.st (p2 := 6) (l2 := [(0, .ref o), (1, .int n), (2, .int w)]) (s2 := [.int 1, .ref o]) (h2 := h) (s_invv (K := mX8_isNode) (o := o) (as := [.int n]) (rest := [.ref o]) (v := some (.int 1)) dX8_node_3 rfl lX8_108 (by omega) rfl (Nat.le_of_ble_eq_true rfl) rfl (Nat.le_of_ble_eq_true rfl) (ho) (q_X8_isNode_y (d := 0) (Nat.le_refl _) h o n F ho v1 e1 c) (fun h => nomatch h)) ?_
  refine E.st (s_if_eq_f (q := 9) (tg := 18) dX8_node_6 (by decide) rfl (by decide)) ?_
  refine E.st (s_iload_n (q := 10) dX8_node_9 rfl rfl) ?_
  refine E.st (s_if_lt_f (q := 13) (tg := 18) dX8_node_10 (by decide) rfl c1) ?_
  refine E.st (s_iload_n (q := 14) dX8_node_13 rfl rfl) ?_
  refine E.st (s_iconst (q := 15) (v := 3) dX8_node_14 rfl (by decide)) ?_
  refine E.st (s_icmp_le_t (q := 22) dX8_node_15 (by decide) c2) ?_
  refine E.st (s_iconst (q := 23) (v := 0) dX8_node_22 rfl (by decide)) ?_
  refine E.st (p2 := 26) (l2 := [(0, .ref o), (1, .int n), (2, .int w)]) (s2 := [.int (0 : Int32)]) (h2 := (hs h o (ob 8 (fo 53 (va_up F 0 (.int 0)))))) (s_invv (K := mX8_refused) (o := o) (as := [.int 0]) (rest := []) (v := some (.int (0 : Int32))) dX8_node_23 rfl lX8_112 (by omega) rfl (Nat.le_of_ble_eq_true rfl) rfl (Nat.le_of_ble_eq_true rfl) (ho) (p_X8_refused_1 (d := 0) (Nat.le_refl _) h o (0 : Int32) (by decide) F ho rfl) (fun h => nomatch h)) ?_
  refine E.st (s_if_eq_t (q := 31) dX8_node_26 (by decide) (by decide)) ?_
  refine E.st (s_iload_n (q := 32) dX8_node_31 rfl rfl) ?_
  refine E.st (s_if_ne_f (q := 35) (tg := 44) dX8_node_32 (by decide) rfl c3) ?_
  refine E.st (s_aload_n (q := 36) dX8_node_35 rfl rfl) ?_
  refine E.st (s_gf (q := 39) (v := .ref r2) dX8_node_36 rfl fX8_9.l (hs_eq) (by decide) ((up_ne (by decide)).trans (e2))) ?_
  refine E.st (s_iload_n (q := 40) dX8_node_39 rfl rfl) ?_
  refine E.st (s_iald (q := 41) dX8_node_40 rfl p ((hs_ne (Ne.symm (ne_oi ho ha))).trans (ha)) i) ?_
  refine E.st (s_goto (q := 78) dX8_node_41 (by decide)) ?_
  exact E.i dX8_node_78 rfl rfl rfl rfl

set_option maxRecDepth 20000 in
theorem p_X8_node_7 {d : Nat} (hd : 1 ≤ d) (h : AH) (o : Nat) (n : Int32) (w : Int32) (F : Nat → Value) (ho : h.1 o = ob 8 (fo 53 F)) (v1 : Int32) (e1 : F 1 = .int v1) (c : ¬ (n < 0) ∧ ¬ (v1 ≤ n)) (c1 : ¬ (w < 0)) (c2 : ¬ (w ≤ 3)) : CM mX8_node d [.ref o, .int n, .int w] h (some (.int 0)) (hs h o (ob 8 (fo 53 (va_up F 0 (.int 1))))) := by
  show E false mX8_node d 0 [(0, .ref o), (1, .int n), (2, .int w)] [] h _ _
  refine E.st (s_aload_n (q := 1) dX8_node_0 rfl rfl) ?_
  refine E.st (s_aload_n (q := 2) dX8_node_1 rfl rfl) ?_
  refine E.st (s_iload_n (q := 3) dX8_node_2 rfl rfl) ?_
  refine E.st (p2 := 6) (l2 := [(0, .ref o), (1, .int n), (2, .int w)]) (s2 := [.int 1, .ref o]) (h2 := h) (s_invv (K := mX8_isNode) (o := o) (as := [.int n]) (rest := [.ref o]) (v := some (.int 1)) dX8_node_3 rfl lX8_108 (by omega) rfl (Nat.le_of_ble_eq_true rfl) rfl (Nat.le_of_ble_eq_true rfl) (ho) (q_X8_isNode_y (d := 0) (Nat.le_refl _) h o n F ho v1 e1 c) (fun h => nomatch h)) ?_
  refine E.st (s_if_eq_f (q := 9) (tg := 18) dX8_node_6 (by decide) rfl (by decide)) ?_
  refine E.st (s_iload_n (q := 10) dX8_node_9 rfl rfl) ?_
  refine E.st (s_if_lt_f (q := 13) (tg := 18) dX8_node_10 (by decide) rfl c1) ?_
  refine E.st (s_iload_n (q := 14) dX8_node_13 rfl rfl) ?_
  refine E.st (s_iconst (q := 15) (v := 3) dX8_node_14 rfl (by decide)) ?_
  refine E.st (s_icmp_le_f (q := 18) (tg := 22) dX8_node_15 (by decide) rfl c2) ?_
  refine E.st (s_iconst (q := 19) (v := 1) dX8_node_18 rfl (by decide)) ?_
  refine E.st (s_goto (q := 23) dX8_node_19 (by decide)) ?_
  refine E.st (p2 := 26) (l2 := [(0, .ref o), (1, .int n), (2, .int w)]) (s2 := [.int (1 : Int32)]) (h2 := (hs h o (ob 8 (fo 53 (va_up F 0 (.int 1)))))) (s_invv (K := mX8_refused) (o := o) (as := [.int 1]) (rest := []) (v := some (.int (1 : Int32))) dX8_node_23 rfl lX8_112 (by omega) rfl (Nat.le_of_ble_eq_true rfl) rfl (Nat.le_of_ble_eq_true rfl) (ho) (p_X8_refused_2 (d := 0) (Nat.le_refl _) h o (1 : Int32) (by decide) F ho rfl) (fun h => nomatch h)) ?_
  refine E.st (s_if_eq_f (q := 29) (tg := 31) dX8_node_26 (by decide) rfl (by decide)) ?_
  refine E.st (s_iconst (q := 30) (v := 0) dX8_node_29 rfl (by decide)) ?_
  exact E.i dX8_node_30 rfl rfl rfl rfl

set_option maxRecDepth 20000 in
theorem p_X8_tell_1 {d : Nat} (hd : 0 ≤ d) (h : AH) (o : Nat) (c : Int32) (v : Int64) (F : Nat → Value) (ho : h.1 o = ob 8 (fo 53 F)) (r9 : Nat) (e9 : F 9 = .ref r9) (n : Nat) (f : Nat → Int32) (ha : h.1 r9 = ia n f) (i : vp_in c n) (p : 0 < r9) (r10 : Nat) (e10 : F 10 = .ref r10) (n1 : Nat) (f1 : Nat → Int64) (ha1 : h.1 r10 = la n1 f1) (i1 : vp_in c n1) : CM mX8_tell d [.ref o, .int c, .long v] h (none) (hs (hs h r9 (ia n (upd f c.toNatClampNeg 1))) r10 (la n1 (vp_updL f1 c.toNatClampNeg v))) := by
  show E false mX8_tell d 0 [(0, .ref o), (1, .int c), (2, .long v)] [] h _ _
  refine E.st (s_aload_n (q := 1) dX8_tell_0 rfl rfl) ?_
  refine E.st (s_gf (q := 4) (v := .ref r9) dX8_tell_1 rfl fX8_29.l (ho) (by decide) (e9)) ?_
  refine E.st (s_iload_n (q := 5) dX8_tell_4 rfl rfl) ?_
  refine E.st (s_iconst (q := 6) (v := 1) dX8_tell_5 rfl (by decide)) ?_
  refine E.st (s_iast (q := 7) dX8_tell_6 rfl p (ha) i) ?_
  refine E.st (s_aload_n (q := 8) dX8_tell_7 rfl rfl) ?_
  refine E.st (s_gf (q := 11) (v := .ref r10) dX8_tell_8 rfl fX8_32.l ((hs_ne (ne_oi ho ha)).trans (ho)) (by decide) (e10)) ?_
  refine E.st (s_iload_n (q := 12) dX8_tell_11 rfl rfl) ?_
  refine E.st (s_lload_n (q := 13) dX8_tell_12 rfl rfl) ?_
  refine E.st (s_last (q := 14) dX8_tell_13 rfl ((hs_ne (Ne.symm (ne_il ha ha1))).trans (ha1)) i1) ?_
  exact E.v dX8_tell_14 rfl rfl rfl

set_option maxRecDepth 20000 in
theorem p_X8_token_1 {d : Nat} (hd : 0 ≤ d) (h : AH) (o : Nat) (c : Int32) (v : Int64) (F : Nat → Value) (ho : h.1 o = ob 8 (fo 53 F)) (r21 : Nat) (e21 : F 21 = .ref r21) (v7 : Int32) (e7 : F 7 = .int v7) (n : Nat) (f : Nat → Int32) (ha : h.1 r21 = ia n f) (i : vp_in v7 n) (p : 0 < r21) (c1 : ¬ (f v7.toNatClampNeg) = 100) (r19 : Nat) (e19 : F 19 = .ref r19) (n1 : Nat) (f1 : Nat → Int32) (ha1 : h.1 r19 = ia n1 f1) (i1 : vp_in ((100 * v7) + (f v7.toNatClampNeg)) n1) (p1 : 0 < r19) (r20 : Nat) (e20 : F 20 = .ref r20) (n2 : Nat) (f2 : Nat → Int64) (ha2 : h.1 r20 = la n2 f2) (i2 : vp_in ((100 * v7) + (f v7.toNatClampNeg)) n2) (ne : r21 ≠ r19) : CM mX8_token d [.ref o, .int c, .long v] h (none) (hs (hs (hs h r19 (ia n1 (upd f1 ((100 * v7) + (f v7.toNatClampNeg)).toNatClampNeg c))) r20 (la n2 (vp_updL f2 ((100 * v7) + (f v7.toNatClampNeg)).toNatClampNeg v))) r21 (ia n (upd f v7.toNatClampNeg ((f v7.toNatClampNeg) + 1)))) := by
  show E false mX8_token d 0 [(0, .ref o), (1, .int c), (2, .long v)] [] h _ _
  refine E.st (s_aload_n (q := 1) dX8_token_0 rfl rfl) ?_
  refine E.st (s_gf (q := 4) (v := .ref r21) dX8_token_1 rfl fX8_62.l (ho) (by decide) (e21)) ?_
  refine E.st (s_aload_n (q := 5) dX8_token_4 rfl rfl) ?_
  refine E.st (s_gf (q := 8) (v := .int v7) dX8_token_5 rfl fX8_119.l (ho) (by decide) (e7)) ?_
  refine E.st (s_iald (q := 9) dX8_token_8 rfl p (ha) i) ?_
  refine E.st (s_bipush (q := 11) (v := 100) dX8_token_9 rfl (by decide)) ?_
  refine E.st (s_icmp_ne_t (q := 20) dX8_token_11 (by decide) c1) ?_
  refine E.st (s_bipush (q := 22) (v := 100) dX8_token_20 rfl (by decide)) ?_
  refine E.st (s_aload_n (q := 23) dX8_token_22 rfl rfl) ?_
  refine E.st (s_gf (q := 26) (v := .int v7) dX8_token_23 rfl fX8_119.l (ho) (by decide) (e7)) ?_
  refine E.st (s_imul (q := 27) dX8_token_26 rfl) ?_
  refine E.st (s_aload_n (q := 28) dX8_token_27 rfl rfl) ?_
  refine E.st (s_gf (q := 31) (v := .ref r21) dX8_token_28 rfl fX8_62.l (ho) (by decide) (e21)) ?_
  refine E.st (s_aload_n (q := 32) dX8_token_31 rfl rfl) ?_
  refine E.st (s_gf (q := 35) (v := .int v7) dX8_token_32 rfl fX8_119.l (ho) (by decide) (e7)) ?_
  refine E.st (s_iald (q := 36) dX8_token_35 rfl p (ha) i) ?_
  refine E.st (s_iadd (q := 37) dX8_token_36 rfl) ?_
  refine E.st (s_istore (q := 39) (ls' := [(4, .int ((100 * v7) + (f v7.toNatClampNeg))), (0, .ref o), (1, .int c), (2, .long v)]) dX8_token_37 rfl (by decide) rfl) ?_
  refine E.st (s_aload_n (q := 40) dX8_token_39 rfl rfl) ?_
  refine E.st (s_gf (q := 43) (v := .ref r19) dX8_token_40 rfl fX8_56.l (ho) (by decide) (e19)) ?_
  refine E.st (s_iload (q := 45) dX8_token_43 rfl rfl) ?_
  refine E.st (s_iload_n (q := 46) dX8_token_45 rfl rfl) ?_
  refine E.st (s_iast (q := 47) dX8_token_46 rfl p1 (ha1) i1) ?_
  refine E.st (s_aload_n (q := 48) dX8_token_47 rfl rfl) ?_
  refine E.st (s_gf (q := 51) (v := .ref r20) dX8_token_48 rfl fX8_59.l ((hs_ne (ne_oi ho ha1)).trans (ho)) (by decide) (e20)) ?_
  refine E.st (s_iload (q := 53) dX8_token_51 rfl rfl) ?_
  refine E.st (s_lload_n (q := 54) dX8_token_53 rfl rfl) ?_
  refine E.st (s_last (q := 55) dX8_token_54 rfl ((hs_ne (Ne.symm (ne_il ha1 ha2))).trans (ha2)) i2) ?_
  refine E.st (s_aload_n (q := 56) dX8_token_55 rfl rfl) ?_
  refine E.st (s_gf (q := 59) (v := .ref r21) dX8_token_56 rfl fX8_62.l ((hs_ne (ne_ol ho ha2)).trans ((hs_ne (ne_oi ho ha1)).trans (ho))) (by decide) (e21)) ?_
  refine E.st (s_aload_n (q := 60) dX8_token_59 rfl rfl) ?_
  refine E.st (s_gf (q := 63) (v := .int v7) dX8_token_60 rfl fX8_119.l ((hs_ne (ne_ol ho ha2)).trans ((hs_ne (ne_oi ho ha1)).trans (ho))) (by decide) (e7)) ?_
  refine E.st (s_dup2 (q := 64) dX8_token_63 rfl rfl rfl) ?_
  refine E.st (s_iald (q := 65) dX8_token_64 rfl p ((hs_ne (ne_il ha ha2)).trans ((hs_ne ne).trans (ha))) i) ?_
  refine E.st (s_iconst (q := 66) (v := 1) dX8_token_65 rfl (by decide)) ?_
  refine E.st (s_iadd (q := 67) dX8_token_66 rfl) ?_
  refine E.st (s_iast (q := 68) dX8_token_67 rfl p ((hs_ne (ne_il ha ha2)).trans ((hs_ne ne).trans (ha))) i) ?_
  exact E.v dX8_token_68 rfl rfl rfl

set_option maxRecDepth 20000 in
theorem p_X8_token_2 {d : Nat} (hd : 0 ≤ d) (h : AH) (o : Nat) (c : Int32) (v : Int64) (F : Nat → Value) (ho : h.1 o = ob 8 (fo 53 F)) (r21 : Nat) (e21 : F 21 = .ref r21) (v7 : Int32) (e7 : F 7 = .int v7) (n : Nat) (f : Nat → Int32) (ha : h.1 r21 = ia n f) (i : vp_in v7 n) (p : 0 < r21) (c1 : (f v7.toNatClampNeg) = 100) : CM mX8_token d [.ref o, .int c, .long v] h (none) (hs h o (ob 8 (fo 53 (va_up F 26 (.int 2))))) := by
  show E false mX8_token d 0 [(0, .ref o), (1, .int c), (2, .long v)] [] h _ _
  refine E.st (s_aload_n (q := 1) dX8_token_0 rfl rfl) ?_
  refine E.st (s_gf (q := 4) (v := .ref r21) dX8_token_1 rfl fX8_62.l (ho) (by decide) (e21)) ?_
  refine E.st (s_aload_n (q := 5) dX8_token_4 rfl rfl) ?_
  refine E.st (s_gf (q := 8) (v := .int v7) dX8_token_5 rfl fX8_119.l (ho) (by decide) (e7)) ?_
  refine E.st (s_iald (q := 9) dX8_token_8 rfl p (ha) i) ?_
  refine E.st (s_bipush (q := 11) (v := 100) dX8_token_9 rfl (by decide)) ?_
  refine E.st (s_icmp_ne_f (q := 14) (tg := 20) dX8_token_11 (by decide) rfl c1) ?_
  refine E.st (s_aload_n (q := 15) dX8_token_14 rfl rfl) ?_
  refine E.st (s_iconst (q := 16) (v := 2) dX8_token_15 rfl (by decide)) ?_
  refine E.st (s_pf (q := 19) dX8_token_16 rfl fX8_126 (ho) (by decide) (fun _ => ⟨rfl, rfl⟩)) ?_
  exact E.v dX8_token_19 rfl rfl rfl

set_option maxRecDepth 20000 in
theorem p_X8_decision_1 {d : Nat} (hd : 0 ≤ d) (h : AH) (o : Nat) (n : Int32) (F : Nat → Value) (ho : h.1 o = ob 8 (fo 53 F)) (c : n < 0) : CM mX8_decision d [.ref o, .int n] h (some (.int (-1))) (hs h o (ob 8 (fo 53 (va_up F 0 (.int 0))))) := by
  show E false mX8_decision d 0 [(0, .ref o), (1, .int n)] [] h _ _
  refine E.st (s_aload_n (q := 1) dX8_decision_0 rfl rfl) ?_
  refine E.st (s_iconst (q := 2) (v := 0) dX8_decision_1 rfl (by decide)) ?_
  refine E.st (s_pf (q := 5) dX8_decision_2 rfl fX8_97 (ho) (by decide) (fun _ => ⟨rfl, rfl⟩)) ?_
  refine E.st (s_iload_n (q := 6) dX8_decision_5 rfl rfl) ?_
  refine E.st (s_if_lt_t (q := 26) dX8_decision_6 (by decide) c) ?_
  refine E.st (s_iconst (q := 27) (v := (-1)) dX8_decision_26 rfl (by decide)) ?_
  exact E.i dX8_decision_27 rfl rfl rfl rfl

set_option maxRecDepth 20000 in
theorem p_X8_decision_2 {d : Nat} (hd : 0 ≤ d) (h : AH) (o : Nat) (n : Int32) (F : Nat → Value) (ho : h.1 o = ob 8 (fo 53 F)) (c : ¬ (n < 0)) (v48 : Int32) (e48 : F 48 = .int v48) (c1 : v48 ≤ n) : CM mX8_decision d [.ref o, .int n] h (some (.int (-1))) (hs h o (ob 8 (fo 53 (va_up F 0 (.int 0))))) := by
  show E false mX8_decision d 0 [(0, .ref o), (1, .int n)] [] h _ _
  refine E.st (s_aload_n (q := 1) dX8_decision_0 rfl rfl) ?_
  refine E.st (s_iconst (q := 2) (v := 0) dX8_decision_1 rfl (by decide)) ?_
  refine E.st (s_pf (q := 5) dX8_decision_2 rfl fX8_97 (ho) (by decide) (fun _ => ⟨rfl, rfl⟩)) ?_
  refine E.st (s_iload_n (q := 6) dX8_decision_5 rfl rfl) ?_
  refine E.st (s_if_lt_f (q := 9) (tg := 26) dX8_decision_6 (by decide) rfl c) ?_
  refine E.st (s_iload_n (q := 10) dX8_decision_9 rfl rfl) ?_
  refine E.st (s_aload_n (q := 11) dX8_decision_10 rfl rfl) ?_
  refine E.st (s_gf (q := 14) (v := .int v48) dX8_decision_11 rfl fX8_240.l (hs_eq) (by decide) ((up_ne (by decide)).trans (e48))) ?_
  refine E.st (s_icmp_ge_t (q := 26) dX8_decision_14 (by decide) c1) ?_
  refine E.st (s_iconst (q := 27) (v := (-1)) dX8_decision_26 rfl (by decide)) ?_
  exact E.i dX8_decision_27 rfl rfl rfl rfl

set_option maxRecDepth 20000 in
theorem p_X8_decision_3 {d : Nat} (hd : 0 ≤ d) (h : AH) (o : Nat) (n : Int32) (F : Nat → Value) (ho : h.1 o = ob 8 (fo 53 F)) (c : ¬ (n < 0)) (v48 : Int32) (e48 : F 48 = .int v48) (c1 : ¬ (v48 ≤ n)) (r49 : Nat) (e49 : F 49 = .ref r49) (n1 : Nat) (f : Nat → Int32) (ha : h.1 r49 = ia n1 f) (i : vp_in n n1) (p : 0 < r49) : CM mX8_decision d [.ref o, .int n] h (some (.int (f n.toNatClampNeg))) (hs h o (ob 8 (fo 53 (va_up F 0 (.int 0))))) := by
  show E false mX8_decision d 0 [(0, .ref o), (1, .int n)] [] h _ _
  refine E.st (s_aload_n (q := 1) dX8_decision_0 rfl rfl) ?_
  refine E.st (s_iconst (q := 2) (v := 0) dX8_decision_1 rfl (by decide)) ?_
  refine E.st (s_pf (q := 5) dX8_decision_2 rfl fX8_97 (ho) (by decide) (fun _ => ⟨rfl, rfl⟩)) ?_
  refine E.st (s_iload_n (q := 6) dX8_decision_5 rfl rfl) ?_
  refine E.st (s_if_lt_f (q := 9) (tg := 26) dX8_decision_6 (by decide) rfl c) ?_
  refine E.st (s_iload_n (q := 10) dX8_decision_9 rfl rfl) ?_
  refine E.st (s_aload_n (q := 11) dX8_decision_10 rfl rfl) ?_
  refine E.st (s_gf (q := 14) (v := .int v48) dX8_decision_11 rfl fX8_240.l (hs_eq) (by decide) ((up_ne (by decide)).trans (e48))) ?_
  refine E.st (s_icmp_ge_f (q := 17) (tg := 26) dX8_decision_14 (by decide) rfl c1) ?_
  refine E.st (s_aload_n (q := 18) dX8_decision_17 rfl rfl) ?_
  refine E.st (s_gf (q := 21) (v := .ref r49) dX8_decision_18 rfl fX8_88.l (hs_eq) (by decide) ((up_ne (by decide)).trans (e49))) ?_
  refine E.st (s_iload_n (q := 22) dX8_decision_21 rfl rfl) ?_
  refine E.st (s_iald (q := 23) dX8_decision_22 rfl p ((hs_ne (Ne.symm (ne_oi ho ha))).trans (ha)) i) ?_
  refine E.st (s_goto (q := 27) dX8_decision_23 (by decide)) ?_
  exact E.i dX8_decision_27 rfl rfl rfl rfl

set_option maxRecDepth 20000 in
theorem p_X8_token__1 {d : Nat} (hd : 0 ≤ d) (h : AH) (o : Nat) (n : Int32) (w : Int32) (c : n < 0) (F : Nat → Value) (ho : h.1 o = ob 8 (fo 53 F)) : CM mX8_token_ d [.ref o, .int n, .int w] h (some (.long 0)) (hs h o (ob 8 (fo 53 (va_up F 0 (.int 1))))) := by
  show E false mX8_token_ d 0 [(0, .ref o), (1, .int n), (2, .int w)] [] h _ _
  refine E.st (s_aload_n (q := 1) dX8_token__0 rfl rfl) ?_
  refine E.st (s_iload_n (q := 2) dX8_token__1 rfl rfl) ?_
  refine E.st (s_if_lt_t (q := 22) dX8_token__2 (by decide) c) ?_
  refine E.st (s_iconst (q := 23) (v := 1) dX8_token__22 rfl (by decide)) ?_
  refine E.st (s_goto (q := 27) dX8_token__23 (by decide)) ?_
  refine E.st (s_pf (q := 30) dX8_token__27 rfl fX8_97 (ho) (by decide) (fun _ => ⟨rfl, rfl⟩)) ?_
  refine E.st (s_aload_n (q := 31) dX8_token__30 rfl rfl) ?_
  refine E.st (s_gf (q := 34) (v := .int 1) dX8_token__31 rfl fX8_97.l (hs_eq) (by decide) (up_eq)) ?_
  refine E.st (s_if_le_f (q := 37) (tg := 41) dX8_token__34 (by decide) rfl (by decide)) ?_
  refine E.st (s_lconst (q := 38) (v := 0) dX8_token__37 rfl (by decide)) ?_
  refine E.st (s_goto (q := 61) dX8_token__38 (by decide)) ?_
  exact E.l dX8_token__61 rfl rfl rfl

set_option maxRecDepth 20000 in
theorem p_X8_token__2 {d : Nat} (hd : 0 ≤ d) (h : AH) (o : Nat) (n : Int32) (w : Int32) (c : ¬ (n < 0)) (F : Nat → Value) (ho : h.1 o = ob 8 (fo 53 F)) (v50 : Int32) (e50 : F 50 = .int v50) (c1 : v50 ≤ n) : CM mX8_token_ d [.ref o, .int n, .int w] h (some (.long 0)) (hs h o (ob 8 (fo 53 (va_up F 0 (.int 1))))) := by
  show E false mX8_token_ d 0 [(0, .ref o), (1, .int n), (2, .int w)] [] h _ _
  refine E.st (s_aload_n (q := 1) dX8_token__0 rfl rfl) ?_
  refine E.st (s_iload_n (q := 2) dX8_token__1 rfl rfl) ?_
  refine E.st (s_if_lt_f (q := 5) (tg := 22) dX8_token__2 (by decide) rfl c) ?_
  refine E.st (s_iload_n (q := 6) dX8_token__5 rfl rfl) ?_
  refine E.st (s_aload_n (q := 7) dX8_token__6 rfl rfl) ?_
  refine E.st (s_gf (q := 10) (v := .int v50) dX8_token__7 rfl fX8_243.l (ho) (by decide) (e50)) ?_
  refine E.st (s_icmp_ge_t (q := 22) dX8_token__10 (by decide) c1) ?_
  refine E.st (s_iconst (q := 23) (v := 1) dX8_token__22 rfl (by decide)) ?_
  refine E.st (s_goto (q := 27) dX8_token__23 (by decide)) ?_
  refine E.st (s_pf (q := 30) dX8_token__27 rfl fX8_97 (ho) (by decide) (fun _ => ⟨rfl, rfl⟩)) ?_
  refine E.st (s_aload_n (q := 31) dX8_token__30 rfl rfl) ?_
  refine E.st (s_gf (q := 34) (v := .int 1) dX8_token__31 rfl fX8_97.l (hs_eq) (by decide) (up_eq)) ?_
  refine E.st (s_if_le_f (q := 37) (tg := 41) dX8_token__34 (by decide) rfl (by decide)) ?_
  refine E.st (s_lconst (q := 38) (v := 0) dX8_token__37 rfl (by decide)) ?_
  refine E.st (s_goto (q := 61) dX8_token__38 (by decide)) ?_
  exact E.l dX8_token__61 rfl rfl rfl

set_option maxRecDepth 20000 in
theorem p_X8_token__3 {d : Nat} (hd : 0 ≤ d) (h : AH) (o : Nat) (n : Int32) (w : Int32) (c : ¬ (n < 0)) (F : Nat → Value) (ho : h.1 o = ob 8 (fo 53 F)) (v50 : Int32) (e50 : F 50 = .int v50) (c1 : ¬ (v50 ≤ n)) (c2 : w < 0) : CM mX8_token_ d [.ref o, .int n, .int w] h (some (.long 0)) (hs h o (ob 8 (fo 53 (va_up F 0 (.int 1))))) := by
  show E false mX8_token_ d 0 [(0, .ref o), (1, .int n), (2, .int w)] [] h _ _
  refine E.st (s_aload_n (q := 1) dX8_token__0 rfl rfl) ?_
  refine E.st (s_iload_n (q := 2) dX8_token__1 rfl rfl) ?_
  refine E.st (s_if_lt_f (q := 5) (tg := 22) dX8_token__2 (by decide) rfl c) ?_
  refine E.st (s_iload_n (q := 6) dX8_token__5 rfl rfl) ?_
  refine E.st (s_aload_n (q := 7) dX8_token__6 rfl rfl) ?_
  refine E.st (s_gf (q := 10) (v := .int v50) dX8_token__7 rfl fX8_243.l (ho) (by decide) (e50)) ?_
  refine E.st (s_icmp_ge_f (q := 13) (tg := 22) dX8_token__10 (by decide) rfl c1) ?_
  refine E.st (s_iload_n (q := 14) dX8_token__13 rfl rfl) ?_
  refine E.st (s_if_lt_t (q := 22) dX8_token__14 (by decide) c2) ?_
  refine E.st (s_iconst (q := 23) (v := 1) dX8_token__22 rfl (by decide)) ?_
  refine E.st (s_goto (q := 27) dX8_token__23 (by decide)) ?_
  refine E.st (s_pf (q := 30) dX8_token__27 rfl fX8_97 (ho) (by decide) (fun _ => ⟨rfl, rfl⟩)) ?_
  refine E.st (s_aload_n (q := 31) dX8_token__30 rfl rfl) ?_
  refine E.st (s_gf (q := 34) (v := .int 1) dX8_token__31 rfl fX8_97.l (hs_eq) (by decide) (up_eq)) ?_
  refine E.st (s_if_le_f (q := 37) (tg := 41) dX8_token__34 (by decide) rfl (by decide)) ?_
  refine E.st (s_lconst (q := 38) (v := 0) dX8_token__37 rfl (by decide)) ?_
  refine E.st (s_goto (q := 61) dX8_token__38 (by decide)) ?_
  exact E.l dX8_token__61 rfl rfl rfl

set_option maxRecDepth 20000 in
theorem p_X8_token__4 {d : Nat} (hd : 0 ≤ d) (h : AH) (o : Nat) (n : Int32) (w : Int32) (c : ¬ (n < 0)) (F : Nat → Value) (ho : h.1 o = ob 8 (fo 53 F)) (v50 : Int32) (e50 : F 50 = .int v50) (c1 : ¬ (v50 ≤ n)) (c2 : ¬ (w < 0)) (c3 : w ≤ 1) (c4 : ¬ w = 0) (r52 : Nat) (e52 : F 52 = .ref r52) (n1 : Nat) (f : Nat → Int64) (ha : h.1 r52 = la n1 f) (i : vp_in n n1) : CM mX8_token_ d [.ref o, .int n, .int w] h (some (.long (f n.toNatClampNeg))) (hs h o (ob 8 (fo 53 (va_up F 0 (.int 0))))) := by
  show E false mX8_token_ d 0 [(0, .ref o), (1, .int n), (2, .int w)] [] h _ _
  refine E.st (s_aload_n (q := 1) dX8_token__0 rfl rfl) ?_
  refine E.st (s_iload_n (q := 2) dX8_token__1 rfl rfl) ?_
  refine E.st (s_if_lt_f (q := 5) (tg := 22) dX8_token__2 (by decide) rfl c) ?_
  refine E.st (s_iload_n (q := 6) dX8_token__5 rfl rfl) ?_
  refine E.st (s_aload_n (q := 7) dX8_token__6 rfl rfl) ?_
  refine E.st (s_gf (q := 10) (v := .int v50) dX8_token__7 rfl fX8_243.l (ho) (by decide) (e50)) ?_
  refine E.st (s_icmp_ge_f (q := 13) (tg := 22) dX8_token__10 (by decide) rfl c1) ?_
  refine E.st (s_iload_n (q := 14) dX8_token__13 rfl rfl) ?_
  refine E.st (s_if_lt_f (q := 17) (tg := 22) dX8_token__14 (by decide) rfl c2) ?_
  refine E.st (s_iload_n (q := 18) dX8_token__17 rfl rfl) ?_
  refine E.st (s_iconst (q := 19) (v := 1) dX8_token__18 rfl (by decide)) ?_
  refine E.st (s_icmp_le_t (q := 26) dX8_token__19 (by decide) c3) ?_
  refine E.st (s_iconst (q := 27) (v := 0) dX8_token__26 rfl (by decide)) ?_
  refine E.st (s_pf (q := 30) dX8_token__27 rfl fX8_97 (ho) (by decide) (fun _ => ⟨rfl, rfl⟩)) ?_
  refine E.st (s_aload_n (q := 31) dX8_token__30 rfl rfl) ?_
  refine E.st (s_gf (q := 34) (v := .int 0) dX8_token__31 rfl fX8_97.l (hs_eq) (by decide) (up_eq)) ?_
  refine E.st (s_if_le_t (q := 41) dX8_token__34 (by decide) (by decide)) ?_
  refine E.st (s_iload_n (q := 42) dX8_token__41 rfl rfl) ?_
  refine E.st (s_if_ne_t (q := 55) dX8_token__42 (by decide) c4) ?_
  refine E.st (s_aload_n (q := 56) dX8_token__55 rfl rfl) ?_
  refine E.st (s_gf (q := 59) (v := .ref r52) dX8_token__56 rfl fX8_94.l (hs_eq) (by decide) ((up_ne (by decide)).trans (e52))) ?_
  refine E.st (s_iload_n (q := 60) dX8_token__59 rfl rfl) ?_
  refine E.st (s_lald (q := 61) dX8_token__60 rfl ((hs_ne (Ne.symm (ne_ol ho ha))).trans (ha)) i) ?_
  exact E.l dX8_token__61 rfl rfl rfl

set_option maxRecDepth 20000 in
theorem p_X8_token__5 {d : Nat} (hd : 0 ≤ d) (h : AH) (o : Nat) (n : Int32) (w : Int32) (c : ¬ (n < 0)) (F : Nat → Value) (ho : h.1 o = ob 8 (fo 53 F)) (v50 : Int32) (e50 : F 50 = .int v50) (c1 : ¬ (v50 ≤ n)) (c2 : ¬ (w < 0)) (c3 : w ≤ 1) (c4 : w = 0) (r51 : Nat) (e51 : F 51 = .ref r51) (n1 : Nat) (f : Nat → Int32) (ha : h.1 r51 = ia n1 f) (i : vp_in n n1) (p : 0 < r51) : CM mX8_token_ d [.ref o, .int n, .int w] h (some (.long ((f n.toNatClampNeg).toInt64))) (hs h o (ob 8 (fo 53 (va_up F 0 (.int 0))))) := by
  show E false mX8_token_ d 0 [(0, .ref o), (1, .int n), (2, .int w)] [] h _ _
  refine E.st (s_aload_n (q := 1) dX8_token__0 rfl rfl) ?_
  refine E.st (s_iload_n (q := 2) dX8_token__1 rfl rfl) ?_
  refine E.st (s_if_lt_f (q := 5) (tg := 22) dX8_token__2 (by decide) rfl c) ?_
  refine E.st (s_iload_n (q := 6) dX8_token__5 rfl rfl) ?_
  refine E.st (s_aload_n (q := 7) dX8_token__6 rfl rfl) ?_
  refine E.st (s_gf (q := 10) (v := .int v50) dX8_token__7 rfl fX8_243.l (ho) (by decide) (e50)) ?_
  refine E.st (s_icmp_ge_f (q := 13) (tg := 22) dX8_token__10 (by decide) rfl c1) ?_
  refine E.st (s_iload_n (q := 14) dX8_token__13 rfl rfl) ?_
  refine E.st (s_if_lt_f (q := 17) (tg := 22) dX8_token__14 (by decide) rfl c2) ?_
  refine E.st (s_iload_n (q := 18) dX8_token__17 rfl rfl) ?_
  refine E.st (s_iconst (q := 19) (v := 1) dX8_token__18 rfl (by decide)) ?_
  refine E.st (s_icmp_le_t (q := 26) dX8_token__19 (by decide) c3) ?_
  refine E.st (s_iconst (q := 27) (v := 0) dX8_token__26 rfl (by decide)) ?_
  refine E.st (s_pf (q := 30) dX8_token__27 rfl fX8_97 (ho) (by decide) (fun _ => ⟨rfl, rfl⟩)) ?_
  refine E.st (s_aload_n (q := 31) dX8_token__30 rfl rfl) ?_
  refine E.st (s_gf (q := 34) (v := .int 0) dX8_token__31 rfl fX8_97.l (hs_eq) (by decide) (up_eq)) ?_
  refine E.st (s_if_le_t (q := 41) dX8_token__34 (by decide) (by decide)) ?_
  refine E.st (s_iload_n (q := 42) dX8_token__41 rfl rfl) ?_
  refine E.st (s_if_ne_f (q := 45) (tg := 55) dX8_token__42 (by decide) rfl c4) ?_
  refine E.st (s_aload_n (q := 46) dX8_token__45 rfl rfl) ?_
  refine E.st (s_gf (q := 49) (v := .ref r51) dX8_token__46 rfl fX8_91.l (hs_eq) (by decide) ((up_ne (by decide)).trans (e51))) ?_
  refine E.st (s_iload_n (q := 50) dX8_token__49 rfl rfl) ?_
  refine E.st (s_iald (q := 51) dX8_token__50 rfl p ((hs_ne (Ne.symm (ne_oi ho ha))).trans (ha)) i) ?_
  refine E.st (s_i2l (q := 52) dX8_token__51 rfl) ?_
  refine E.st (s_goto (q := 61) dX8_token__52 (by decide)) ?_
  exact E.l dX8_token__61 rfl rfl rfl

set_option maxRecDepth 20000 in
theorem p_X8_token__6 {d : Nat} (hd : 0 ≤ d) (h : AH) (o : Nat) (n : Int32) (w : Int32) (c : ¬ (n < 0)) (F : Nat → Value) (ho : h.1 o = ob 8 (fo 53 F)) (v50 : Int32) (e50 : F 50 = .int v50) (c1 : ¬ (v50 ≤ n)) (c2 : ¬ (w < 0)) (c3 : ¬ (w ≤ 1)) : CM mX8_token_ d [.ref o, .int n, .int w] h (some (.long 0)) (hs h o (ob 8 (fo 53 (va_up F 0 (.int 1))))) := by
  show E false mX8_token_ d 0 [(0, .ref o), (1, .int n), (2, .int w)] [] h _ _
  refine E.st (s_aload_n (q := 1) dX8_token__0 rfl rfl) ?_
  refine E.st (s_iload_n (q := 2) dX8_token__1 rfl rfl) ?_
  refine E.st (s_if_lt_f (q := 5) (tg := 22) dX8_token__2 (by decide) rfl c) ?_
  refine E.st (s_iload_n (q := 6) dX8_token__5 rfl rfl) ?_
  refine E.st (s_aload_n (q := 7) dX8_token__6 rfl rfl) ?_
  refine E.st (s_gf (q := 10) (v := .int v50) dX8_token__7 rfl fX8_243.l (ho) (by decide) (e50)) ?_
  refine E.st (s_icmp_ge_f (q := 13) (tg := 22) dX8_token__10 (by decide) rfl c1) ?_
  refine E.st (s_iload_n (q := 14) dX8_token__13 rfl rfl) ?_
  refine E.st (s_if_lt_f (q := 17) (tg := 22) dX8_token__14 (by decide) rfl c2) ?_
  refine E.st (s_iload_n (q := 18) dX8_token__17 rfl rfl) ?_
  refine E.st (s_iconst (q := 19) (v := 1) dX8_token__18 rfl (by decide)) ?_
  refine E.st (s_icmp_le_f (q := 22) (tg := 26) dX8_token__19 (by decide) rfl c3) ?_
  refine E.st (s_iconst (q := 23) (v := 1) dX8_token__22 rfl (by decide)) ?_
  refine E.st (s_goto (q := 27) dX8_token__23 (by decide)) ?_
  refine E.st (s_pf (q := 30) dX8_token__27 rfl fX8_97 (ho) (by decide) (fun _ => ⟨rfl, rfl⟩)) ?_
  refine E.st (s_aload_n (q := 31) dX8_token__30 rfl rfl) ?_
  refine E.st (s_gf (q := 34) (v := .int 1) dX8_token__31 rfl fX8_97.l (hs_eq) (by decide) (up_eq)) ?_
  refine E.st (s_if_le_f (q := 37) (tg := 41) dX8_token__34 (by decide) rfl (by decide)) ?_
  refine E.st (s_lconst (q := 38) (v := 0) dX8_token__37 rfl (by decide)) ?_
  refine E.st (s_goto (q := 61) dX8_token__38 (by decide)) ?_
  exact E.l dX8_token__61 rfl rfl rfl

set_option maxRecDepth 20000 in
theorem p_X8_count_1 {d : Nat} (hd : 0 ≤ d) (h : AH) (o : Nat) (w : Int32) (F : Nat → Value) (ho : h.1 o = ob 8 (fo 53 F)) (c : w = 0) (v1 : Int32) (e1 : F 1 = .int v1) : CM mX8_count d [.ref o, .int w] h (some (.int v1)) (hs h o (ob 8 (fo 53 (va_up F 0 (.int 0))))) := by
  show E false mX8_count d 0 [(0, .ref o), (1, .int w)] [] h _ _
  refine E.st (s_aload_n (q := 1) dX8_count_0 rfl rfl) ?_
  refine E.st (s_iconst (q := 2) (v := 0) dX8_count_1 rfl (by decide)) ?_
  refine E.st (s_pf (q := 5) dX8_count_2 rfl fX8_97 (ho) (by decide) (fun _ => ⟨rfl, rfl⟩)) ?_
  refine E.st (s_iload_n (q := 6) dX8_count_5 rfl rfl) ?_
  refine E.st (s_tabIn (q := 56) (off := 50) dX8_count_6 (by rw [c]; decide) (by rw [c]; decide) (by rw [c]; rfl) (by decide)) ?_
  refine E.st (s_aload_n (q := 57) dX8_count_56 rfl rfl) ?_
  refine E.st (s_gf (q := 60) (v := .int v1) dX8_count_57 rfl fX8_101.l (hs_eq) (by decide) ((up_ne (by decide)).trans (e1))) ?_
  exact E.i dX8_count_60 rfl rfl rfl rfl

set_option maxRecDepth 20000 in
theorem p_X8_count_2 {d : Nat} (hd : 0 ≤ d) (h : AH) (o : Nat) (w : Int32) (F : Nat → Value) (ho : h.1 o = ob 8 (fo 53 F)) (c : w = 1) (v42 : Int32) (e42 : F 42 = .int v42) : CM mX8_count d [.ref o, .int w] h (some (.int v42)) (hs h o (ob 8 (fo 53 (va_up F 0 (.int 0))))) := by
  show E false mX8_count d 0 [(0, .ref o), (1, .int w)] [] h _ _
  refine E.st (s_aload_n (q := 1) dX8_count_0 rfl rfl) ?_
  refine E.st (s_iconst (q := 2) (v := 0) dX8_count_1 rfl (by decide)) ?_
  refine E.st (s_pf (q := 5) dX8_count_2 rfl fX8_97 (ho) (by decide) (fun _ => ⟨rfl, rfl⟩)) ?_
  refine E.st (s_iload_n (q := 6) dX8_count_5 rfl rfl) ?_
  refine E.st (s_tabIn (q := 61) (off := 55) dX8_count_6 (by rw [c]; decide) (by rw [c]; decide) (by rw [c]; rfl) (by decide)) ?_
  refine E.st (s_aload_n (q := 62) dX8_count_61 rfl rfl) ?_
  refine E.st (s_gf (q := 65) (v := .int v42) dX8_count_62 rfl fX8_222.l (hs_eq) (by decide) ((up_ne (by decide)).trans (e42))) ?_
  exact E.i dX8_count_65 rfl rfl rfl rfl

set_option maxRecDepth 20000 in
theorem p_X8_count_3 {d : Nat} (hd : 0 ≤ d) (h : AH) (o : Nat) (w : Int32) (F : Nat → Value) (ho : h.1 o = ob 8 (fo 53 F)) (c : w = 2) (v43 : Int32) (e43 : F 43 = .int v43) : CM mX8_count d [.ref o, .int w] h (some (.int v43)) (hs h o (ob 8 (fo 53 (va_up F 0 (.int 0))))) := by
  show E false mX8_count d 0 [(0, .ref o), (1, .int w)] [] h _ _
  refine E.st (s_aload_n (q := 1) dX8_count_0 rfl rfl) ?_
  refine E.st (s_iconst (q := 2) (v := 0) dX8_count_1 rfl (by decide)) ?_
  refine E.st (s_pf (q := 5) dX8_count_2 rfl fX8_97 (ho) (by decide) (fun _ => ⟨rfl, rfl⟩)) ?_
  refine E.st (s_iload_n (q := 6) dX8_count_5 rfl rfl) ?_
  refine E.st (s_tabIn (q := 66) (off := 60) dX8_count_6 (by rw [c]; decide) (by rw [c]; decide) (by rw [c]; rfl) (by decide)) ?_
  refine E.st (s_aload_n (q := 67) dX8_count_66 rfl rfl) ?_
  refine E.st (s_gf (q := 70) (v := .int v43) dX8_count_67 rfl fX8_225.l (hs_eq) (by decide) ((up_ne (by decide)).trans (e43))) ?_
  exact E.i dX8_count_70 rfl rfl rfl rfl

set_option maxRecDepth 20000 in
theorem p_X8_count_4 {d : Nat} (hd : 0 ≤ d) (h : AH) (o : Nat) (w : Int32) (F : Nat → Value) (ho : h.1 o = ob 8 (fo 53 F)) (c : w = 3) (v44 : Int32) (e44 : F 44 = .int v44) : CM mX8_count d [.ref o, .int w] h (some (.int v44)) (hs h o (ob 8 (fo 53 (va_up F 0 (.int 0))))) := by
  show E false mX8_count d 0 [(0, .ref o), (1, .int w)] [] h _ _
  refine E.st (s_aload_n (q := 1) dX8_count_0 rfl rfl) ?_
  refine E.st (s_iconst (q := 2) (v := 0) dX8_count_1 rfl (by decide)) ?_
  refine E.st (s_pf (q := 5) dX8_count_2 rfl fX8_97 (ho) (by decide) (fun _ => ⟨rfl, rfl⟩)) ?_
  refine E.st (s_iload_n (q := 6) dX8_count_5 rfl rfl) ?_
  refine E.st (s_tabIn (q := 71) (off := 65) dX8_count_6 (by rw [c]; decide) (by rw [c]; decide) (by rw [c]; rfl) (by decide)) ?_
  refine E.st (s_aload_n (q := 72) dX8_count_71 rfl rfl) ?_
  refine E.st (s_gf (q := 75) (v := .int v44) dX8_count_72 rfl fX8_228.l (hs_eq) (by decide) ((up_ne (by decide)).trans (e44))) ?_
  exact E.i dX8_count_75 rfl rfl rfl rfl

set_option maxRecDepth 20000 in
theorem p_X8_count_5 {d : Nat} (hd : 0 ≤ d) (h : AH) (o : Nat) (w : Int32) (F : Nat → Value) (ho : h.1 o = ob 8 (fo 53 F)) (c : w = 4) (v45 : Int32) (e45 : F 45 = .int v45) : CM mX8_count d [.ref o, .int w] h (some (.int v45)) (hs h o (ob 8 (fo 53 (va_up F 0 (.int 0))))) := by
  show E false mX8_count d 0 [(0, .ref o), (1, .int w)] [] h _ _
  refine E.st (s_aload_n (q := 1) dX8_count_0 rfl rfl) ?_
  refine E.st (s_iconst (q := 2) (v := 0) dX8_count_1 rfl (by decide)) ?_
  refine E.st (s_pf (q := 5) dX8_count_2 rfl fX8_97 (ho) (by decide) (fun _ => ⟨rfl, rfl⟩)) ?_
  refine E.st (s_iload_n (q := 6) dX8_count_5 rfl rfl) ?_
  refine E.st (s_tabIn (q := 76) (off := 70) dX8_count_6 (by rw [c]; decide) (by rw [c]; decide) (by rw [c]; rfl) (by decide)) ?_
  refine E.st (s_aload_n (q := 77) dX8_count_76 rfl rfl) ?_
  refine E.st (s_gf (q := 80) (v := .int v45) dX8_count_77 rfl fX8_231.l (hs_eq) (by decide) ((up_ne (by decide)).trans (e45))) ?_
  exact E.i dX8_count_80 rfl rfl rfl rfl

set_option maxRecDepth 20000 in
theorem p_X8_count_6 {d : Nat} (hd : 0 ≤ d) (h : AH) (o : Nat) (w : Int32) (F : Nat → Value) (ho : h.1 o = ob 8 (fo 53 F)) (c : w = 5) (v46 : Int32) (e46 : F 46 = .int v46) : CM mX8_count d [.ref o, .int w] h (some (.int v46)) (hs h o (ob 8 (fo 53 (va_up F 0 (.int 0))))) := by
  show E false mX8_count d 0 [(0, .ref o), (1, .int w)] [] h _ _
  refine E.st (s_aload_n (q := 1) dX8_count_0 rfl rfl) ?_
  refine E.st (s_iconst (q := 2) (v := 0) dX8_count_1 rfl (by decide)) ?_
  refine E.st (s_pf (q := 5) dX8_count_2 rfl fX8_97 (ho) (by decide) (fun _ => ⟨rfl, rfl⟩)) ?_
  refine E.st (s_iload_n (q := 6) dX8_count_5 rfl rfl) ?_
  refine E.st (s_tabIn (q := 81) (off := 75) dX8_count_6 (by rw [c]; decide) (by rw [c]; decide) (by rw [c]; rfl) (by decide)) ?_
  refine E.st (s_aload_n (q := 82) dX8_count_81 rfl rfl) ?_
  refine E.st (s_gf (q := 85) (v := .int v46) dX8_count_82 rfl fX8_234.l (hs_eq) (by decide) ((up_ne (by decide)).trans (e46))) ?_
  exact E.i dX8_count_85 rfl rfl rfl rfl

set_option maxRecDepth 20000 in
theorem p_X8_count_7 {d : Nat} (hd : 0 ≤ d) (h : AH) (o : Nat) (w : Int32) (F : Nat → Value) (ho : h.1 o = ob 8 (fo 53 F)) (c : w = 6) (v47 : Int32) (e47 : F 47 = .int v47) : CM mX8_count d [.ref o, .int w] h (some (.int v47)) (hs h o (ob 8 (fo 53 (va_up F 0 (.int 0))))) := by
  show E false mX8_count d 0 [(0, .ref o), (1, .int w)] [] h _ _
  refine E.st (s_aload_n (q := 1) dX8_count_0 rfl rfl) ?_
  refine E.st (s_iconst (q := 2) (v := 0) dX8_count_1 rfl (by decide)) ?_
  refine E.st (s_pf (q := 5) dX8_count_2 rfl fX8_97 (ho) (by decide) (fun _ => ⟨rfl, rfl⟩)) ?_
  refine E.st (s_iload_n (q := 6) dX8_count_5 rfl rfl) ?_
  refine E.st (s_tabIn (q := 86) (off := 80) dX8_count_6 (by rw [c]; decide) (by rw [c]; decide) (by rw [c]; rfl) (by decide)) ?_
  refine E.st (s_aload_n (q := 87) dX8_count_86 rfl rfl) ?_
  refine E.st (s_gf (q := 90) (v := .int v47) dX8_count_87 rfl fX8_237.l (hs_eq) (by decide) ((up_ne (by decide)).trans (e47))) ?_
  exact E.i dX8_count_90 rfl rfl rfl rfl

set_option maxRecDepth 20000 in
theorem p_X8_count_8 {d : Nat} (hd : 0 ≤ d) (h : AH) (o : Nat) (w : Int32) (F : Nat → Value) (ho : h.1 o = ob 8 (fo 53 F)) (c : w = 7) (v48 : Int32) (e48 : F 48 = .int v48) : CM mX8_count d [.ref o, .int w] h (some (.int v48)) (hs h o (ob 8 (fo 53 (va_up F 0 (.int 0))))) := by
  show E false mX8_count d 0 [(0, .ref o), (1, .int w)] [] h _ _
  refine E.st (s_aload_n (q := 1) dX8_count_0 rfl rfl) ?_
  refine E.st (s_iconst (q := 2) (v := 0) dX8_count_1 rfl (by decide)) ?_
  refine E.st (s_pf (q := 5) dX8_count_2 rfl fX8_97 (ho) (by decide) (fun _ => ⟨rfl, rfl⟩)) ?_
  refine E.st (s_iload_n (q := 6) dX8_count_5 rfl rfl) ?_
  refine E.st (s_tabIn (q := 91) (off := 85) dX8_count_6 (by rw [c]; decide) (by rw [c]; decide) (by rw [c]; rfl) (by decide)) ?_
  refine E.st (s_aload_n (q := 92) dX8_count_91 rfl rfl) ?_
  refine E.st (s_gf (q := 95) (v := .int v48) dX8_count_92 rfl fX8_240.l (hs_eq) (by decide) ((up_ne (by decide)).trans (e48))) ?_
  exact E.i dX8_count_95 rfl rfl rfl rfl

set_option maxRecDepth 20000 in
theorem p_X8_count_9 {d : Nat} (hd : 0 ≤ d) (h : AH) (o : Nat) (w : Int32) (F : Nat → Value) (ho : h.1 o = ob 8 (fo 53 F)) (c : w = 8) (v50 : Int32) (e50 : F 50 = .int v50) : CM mX8_count d [.ref o, .int w] h (some (.int v50)) (hs h o (ob 8 (fo 53 (va_up F 0 (.int 0))))) := by
  show E false mX8_count d 0 [(0, .ref o), (1, .int w)] [] h _ _
  refine E.st (s_aload_n (q := 1) dX8_count_0 rfl rfl) ?_
  refine E.st (s_iconst (q := 2) (v := 0) dX8_count_1 rfl (by decide)) ?_
  refine E.st (s_pf (q := 5) dX8_count_2 rfl fX8_97 (ho) (by decide) (fun _ => ⟨rfl, rfl⟩)) ?_
  refine E.st (s_iload_n (q := 6) dX8_count_5 rfl rfl) ?_
  refine E.st (s_tabIn (q := 96) (off := 90) dX8_count_6 (by rw [c]; decide) (by rw [c]; decide) (by rw [c]; rfl) (by decide)) ?_
  refine E.st (s_aload_n (q := 97) dX8_count_96 rfl rfl) ?_
  refine E.st (s_gf (q := 100) (v := .int v50) dX8_count_97 rfl fX8_243.l (hs_eq) (by decide) ((up_ne (by decide)).trans (e50))) ?_
  exact E.i dX8_count_100 rfl rfl rfl rfl

set_option maxRecDepth 20000 in
theorem p_X8_count_10 {d : Nat} (hd : 0 ≤ d) (h : AH) (o : Nat) (w : Int32) (F : Nat → Value) (ho : h.1 o = ob 8 (fo 53 F)) (c : w.toInt < 0 ∨ 8 < w.toInt) : CM mX8_count d [.ref o, .int w] h (some (.int (-1))) (hs h o (ob 8 (fo 53 (va_up F 0 (.int 0))))) := by
  show E false mX8_count d 0 [(0, .ref o), (1, .int w)] [] h _ _
  refine E.st (s_aload_n (q := 1) dX8_count_0 rfl rfl) ?_
  refine E.st (s_iconst (q := 2) (v := 0) dX8_count_1 rfl (by decide)) ?_
  refine E.st (s_pf (q := 5) dX8_count_2 rfl fX8_97 (ho) (by decide) (fun _ => ⟨rfl, rfl⟩)) ?_
  refine E.st (s_iload_n (q := 6) dX8_count_5 rfl rfl) ?_
  refine E.st (s_tabOut (q := 101) dX8_count_6 c (by decide)) ?_
  refine E.st (s_iconst (q := 102) (v := (-1)) dX8_count_101 rfl (by decide)) ?_
  exact E.i dX8_count_102 rfl rfl rfl rfl

set_option maxRecDepth 20000 in
theorem p_X8_ask_1 {d : Nat} (hd : 1 ≤ d) (h : AH) (o : Nat) (n : Int32) (w : Int32) (m : Int32) (F : Nat → Value) (ho : h.1 o = ob 8 (fo 53 F)) (v1 : Int32) (e1 : F 1 = .int v1) (c : n < 0 ∨ v1 ≤ n) : CM mX8_ask d [.ref o, .int n, .int w, .int m] h (none) (hs h o (ob 8 (fo 53 (va_up F 0 (.int 1))))) := by
  show E false mX8_ask d 0 [(0, .ref o), (1, .int n), (2, .int w), (3, .int m)] [] h _ _
  refine E.st (s_aload_n (q := 1) dX8_ask_0 rfl rfl) ?_
  refine E.st (s_aload_n (q := 2) dX8_ask_1 rfl rfl) ?_
  refine E.st (s_iload_n (q := 3) dX8_ask_2 rfl rfl) ?_
  refine E.st (p2 := 6) (l2 := [(0, .ref o), (1, .int n), (2, .int w), (3, .int m)]) (s2 := [.int 0, .ref o]) (h2 := h) (s_invv (K := mX8_isNode) (o := o) (as := [.int n]) (rest := [.ref o]) (v := some (.int 0)) dX8_ask_3 rfl lX8_108 (by omega) rfl (Nat.le_of_ble_eq_true rfl) rfl (Nat.le_of_ble_eq_true rfl) (ho) (q_X8_isNode_n (d := 0) (Nat.le_refl _) h o n F ho v1 e1 c) (fun h => nomatch h)) ?_
  refine E.st (s_if_eq_t (q := 29) dX8_ask_6 (by decide) (by decide)) ?_
  refine E.st (s_iconst (q := 30) (v := 1) dX8_ask_29 rfl (by decide)) ?_
  refine E.st (s_goto (q := 34) dX8_ask_30 (by decide)) ?_
  refine E.st (p2 := 37) (l2 := [(0, .ref o), (1, .int n), (2, .int w), (3, .int m)]) (s2 := [.int (1 : Int32)]) (h2 := (hs h o (ob 8 (fo 53 (va_up F 0 (.int 1)))))) (s_invv (K := mX8_refused) (o := o) (as := [.int 1]) (rest := []) (v := some (.int (1 : Int32))) dX8_ask_34 rfl lX8_112 (by omega) rfl (Nat.le_of_ble_eq_true rfl) rfl (Nat.le_of_ble_eq_true rfl) (ho) (p_X8_refused_2 (d := 0) (Nat.le_refl _) h o (1 : Int32) (by decide) F ho rfl) (fun h => nomatch h)) ?_
  refine E.st (s_if_eq_f (q := 40) (tg := 41) dX8_ask_37 (by decide) rfl (by decide)) ?_
  exact E.v dX8_ask_40 rfl rfl rfl

set_option maxRecDepth 20000 in
theorem p_X8_ask_2 {d : Nat} (hd : 1 ≤ d) (h : AH) (o : Nat) (n : Int32) (w : Int32) (m : Int32) (F : Nat → Value) (ho : h.1 o = ob 8 (fo 53 F)) (v1 : Int32) (e1 : F 1 = .int v1) (c : ¬ (n < 0) ∧ ¬ (v1 ≤ n)) (c1 : w < 0) : CM mX8_ask d [.ref o, .int n, .int w, .int m] h (none) (hs h o (ob 8 (fo 53 (va_up F 0 (.int 1))))) := by
  show E false mX8_ask d 0 [(0, .ref o), (1, .int n), (2, .int w), (3, .int m)] [] h _ _
  refine E.st (s_aload_n (q := 1) dX8_ask_0 rfl rfl) ?_
  refine E.st (s_aload_n (q := 2) dX8_ask_1 rfl rfl) ?_
  refine E.st (s_iload_n (q := 3) dX8_ask_2 rfl rfl) ?_
  refine E.st (p2 := 6) (l2 := [(0, .ref o), (1, .int n), (2, .int w), (3, .int m)]) (s2 := [.int 1, .ref o]) (h2 := h) (s_invv (K := mX8_isNode) (o := o) (as := [.int n]) (rest := [.ref o]) (v := some (.int 1)) dX8_ask_3 rfl lX8_108 (by omega) rfl (Nat.le_of_ble_eq_true rfl) rfl (Nat.le_of_ble_eq_true rfl) (ho) (q_X8_isNode_y (d := 0) (Nat.le_refl _) h o n F ho v1 e1 c) (fun h => nomatch h)) ?_
  refine E.st (s_if_eq_f (q := 9) (tg := 29) dX8_ask_6 (by decide) rfl (by decide)) ?_
  refine E.st (s_iload_n (q := 10) dX8_ask_9 rfl rfl) ?_
  refine E.st (s_if_lt_t (q := 29) dX8_ask_10 (by decide) c1) ?_
  refine E.st (s_iconst (q := 30) (v := 1) dX8_ask_29 rfl (by decide)) ?_
  refine E.st (s_goto (q := 34) dX8_ask_30 (by decide)) ?_
  refine E.st (p2 := 37) (l2 := [(0, .ref o), (1, .int n), (2, .int w), (3, .int m)]) (s2 := [.int (1 : Int32)]) (h2 := (hs h o (ob 8 (fo 53 (va_up F 0 (.int 1)))))) (s_invv (K := mX8_refused) (o := o) (as := [.int 1]) (rest := []) (v := some (.int (1 : Int32))) dX8_ask_34 rfl lX8_112 (by omega) rfl (Nat.le_of_ble_eq_true rfl) rfl (Nat.le_of_ble_eq_true rfl) (ho) (p_X8_refused_2 (d := 0) (Nat.le_refl _) h o (1 : Int32) (by decide) F ho rfl) (fun h => nomatch h)) ?_
  refine E.st (s_if_eq_f (q := 40) (tg := 41) dX8_ask_37 (by decide) rfl (by decide)) ?_
  exact E.v dX8_ask_40 rfl rfl rfl

set_option maxRecDepth 20000 in
theorem p_X8_ask_3 {d : Nat} (hd : 1 ≤ d) (h : AH) (o : Nat) (n : Int32) (w : Int32) (m : Int32) (F : Nat → Value) (ho : h.1 o = ob 8 (fo 53 F)) (v1 : Int32) (e1 : F 1 = .int v1) (c : ¬ (n < 0) ∧ ¬ (v1 ≤ n)) (c1 : ¬ (w < 0)) (c2 : 2 < w) : CM mX8_ask d [.ref o, .int n, .int w, .int m] h (none) (hs h o (ob 8 (fo 53 (va_up F 0 (.int 1))))) := by
  show E false mX8_ask d 0 [(0, .ref o), (1, .int n), (2, .int w), (3, .int m)] [] h _ _
  refine E.st (s_aload_n (q := 1) dX8_ask_0 rfl rfl) ?_
  refine E.st (s_aload_n (q := 2) dX8_ask_1 rfl rfl) ?_
  refine E.st (s_iload_n (q := 3) dX8_ask_2 rfl rfl) ?_
  refine E.st (p2 := 6) (l2 := [(0, .ref o), (1, .int n), (2, .int w), (3, .int m)]) (s2 := [.int 1, .ref o]) (h2 := h) (s_invv (K := mX8_isNode) (o := o) (as := [.int n]) (rest := [.ref o]) (v := some (.int 1)) dX8_ask_3 rfl lX8_108 (by omega) rfl (Nat.le_of_ble_eq_true rfl) rfl (Nat.le_of_ble_eq_true rfl) (ho) (q_X8_isNode_y (d := 0) (Nat.le_refl _) h o n F ho v1 e1 c) (fun h => nomatch h)) ?_
  refine E.st (s_if_eq_f (q := 9) (tg := 29) dX8_ask_6 (by decide) rfl (by decide)) ?_
  refine E.st (s_iload_n (q := 10) dX8_ask_9 rfl rfl) ?_
  refine E.st (s_if_lt_f (q := 13) (tg := 29) dX8_ask_10 (by decide) rfl c1) ?_
  refine E.st (s_iload_n (q := 14) dX8_ask_13 rfl rfl) ?_
  refine E.st (s_iconst (q := 15) (v := 2) dX8_ask_14 rfl (by decide)) ?_
  refine E.st (s_icmp_gt_t (q := 29) dX8_ask_15 (by decide) c2) ?_
  refine E.st (s_iconst (q := 30) (v := 1) dX8_ask_29 rfl (by decide)) ?_
  refine E.st (s_goto (q := 34) dX8_ask_30 (by decide)) ?_
  refine E.st (p2 := 37) (l2 := [(0, .ref o), (1, .int n), (2, .int w), (3, .int m)]) (s2 := [.int (1 : Int32)]) (h2 := (hs h o (ob 8 (fo 53 (va_up F 0 (.int 1)))))) (s_invv (K := mX8_refused) (o := o) (as := [.int 1]) (rest := []) (v := some (.int (1 : Int32))) dX8_ask_34 rfl lX8_112 (by omega) rfl (Nat.le_of_ble_eq_true rfl) rfl (Nat.le_of_ble_eq_true rfl) (ho) (p_X8_refused_2 (d := 0) (Nat.le_refl _) h o (1 : Int32) (by decide) F ho rfl) (fun h => nomatch h)) ?_
  refine E.st (s_if_eq_f (q := 40) (tg := 41) dX8_ask_37 (by decide) rfl (by decide)) ?_
  exact E.v dX8_ask_40 rfl rfl rfl

set_option maxRecDepth 20000 in
theorem p_X8_ask_4 {d : Nat} (hd : 1 ≤ d) (h : AH) (o : Nat) (n : Int32) (w : Int32) (m : Int32) (F : Nat → Value) (ho : h.1 o = ob 8 (fo 53 F)) (v1 : Int32) (e1 : F 1 = .int v1) (c : ¬ (n < 0) ∧ ¬ (v1 ≤ n)) (c1 : ¬ (w < 0)) (c2 : ¬ (2 < w)) (c3 : m < 1) : CM mX8_ask d [.ref o, .int n, .int w, .int m] h (none) (hs h o (ob 8 (fo 53 (va_up F 0 (.int 1))))) := by
  show E false mX8_ask d 0 [(0, .ref o), (1, .int n), (2, .int w), (3, .int m)] [] h _ _
  refine E.st (s_aload_n (q := 1) dX8_ask_0 rfl rfl) ?_
  refine E.st (s_aload_n (q := 2) dX8_ask_1 rfl rfl) ?_
  refine E.st (s_iload_n (q := 3) dX8_ask_2 rfl rfl) ?_
  refine E.st (p2 := 6) (l2 := [(0, .ref o), (1, .int n), (2, .int w), (3, .int m)]) (s2 := [.int 1, .ref o]) (h2 := h) (s_invv (K := mX8_isNode) (o := o) (as := [.int n]) (rest := [.ref o]) (v := some (.int 1)) dX8_ask_3 rfl lX8_108 (by omega) rfl (Nat.le_of_ble_eq_true rfl) rfl (Nat.le_of_ble_eq_true rfl) (ho) (q_X8_isNode_y (d := 0) (Nat.le_refl _) h o n F ho v1 e1 c) (fun h => nomatch h)) ?_
  refine E.st (s_if_eq_f (q := 9) (tg := 29) dX8_ask_6 (by decide) rfl (by decide)) ?_
  refine E.st (s_iload_n (q := 10) dX8_ask_9 rfl rfl) ?_
  refine E.st (s_if_lt_f (q := 13) (tg := 29) dX8_ask_10 (by decide) rfl c1) ?_
  refine E.st (s_iload_n (q := 14) dX8_ask_13 rfl rfl) ?_
  refine E.st (s_iconst (q := 15) (v := 2) dX8_ask_14 rfl (by decide)) ?_
  refine E.st (s_icmp_gt_f (q := 18) (tg := 29) dX8_ask_15 (by decide) rfl c2) ?_
  refine E.st (s_iload_n (q := 19) dX8_ask_18 rfl rfl) ?_
  refine E.st (s_iconst (q := 20) (v := 1) dX8_ask_19 rfl (by decide)) ?_
  refine E.st (s_icmp_lt_t (q := 29) dX8_ask_20 (by decide) c3) ?_
  refine E.st (s_iconst (q := 30) (v := 1) dX8_ask_29 rfl (by decide)) ?_
  refine E.st (s_goto (q := 34) dX8_ask_30 (by decide)) ?_
  refine E.st (p2 := 37) (l2 := [(0, .ref o), (1, .int n), (2, .int w), (3, .int m)]) (s2 := [.int (1 : Int32)]) (h2 := (hs h o (ob 8 (fo 53 (va_up F 0 (.int 1)))))) (s_invv (K := mX8_refused) (o := o) (as := [.int 1]) (rest := []) (v := some (.int (1 : Int32))) dX8_ask_34 rfl lX8_112 (by omega) rfl (Nat.le_of_ble_eq_true rfl) rfl (Nat.le_of_ble_eq_true rfl) (ho) (p_X8_refused_2 (d := 0) (Nat.le_refl _) h o (1 : Int32) (by decide) F ho rfl) (fun h => nomatch h)) ?_
  refine E.st (s_if_eq_f (q := 40) (tg := 41) dX8_ask_37 (by decide) rfl (by decide)) ?_
  exact E.v dX8_ask_40 rfl rfl rfl

set_option maxRecDepth 20000 in
theorem p_X8_ask_5 {d : Nat} (hd : 1 ≤ d) (h : AH) (o : Nat) (n : Int32) (w : Int32) (m : Int32) (F : Nat → Value) (ho : h.1 o = ob 8 (fo 53 F)) (v1 : Int32) (e1 : F 1 = .int v1) (c : ¬ (n < 0) ∧ ¬ (v1 ≤ n)) (c1 : ¬ (w < 0)) (c2 : ¬ (2 < w)) (c3 : ¬ (m < 1)) (c4 : m ≤ 60) (r36 : Nat) (e36 : F 36 = .ref r36) (n1 : Nat) (f : Nat → Int32) (ha : h.1 r36 = ia n1 f) (i : vp_in 0 n1) (p : 0 < r36) : CM mX8_ask d [.ref o, .int n, .int w, .int m] h (none) (hs (hs (hs (hs (hs (hs (hs (hs (hs (hs (hs (hs (hs (hs (hs (hs (hs (hs (hs (hs (hs h o (ob 8 (fo 53 (va_up F 0 (.int 0))))) o (ob 8 (fo 53 (va_up (va_up F 0 (.int 0)) 29 (.int 0))))) o (ob 8 (fo 53 (va_up (va_up (va_up F 0 (.int 0)) 29 (.int 0)) 30 (.int 0))))) o (ob 8 (fo 53 (va_up (va_up (va_up (va_up F 0 (.int 0)) 29 (.int 0)) 30 (.int 0)) 34 (.int 0))))) o (ob 8 (fo 53 (va_up (va_up (va_up (va_up (va_up F 0 (.int 0)) 29 (.int 0)) 30 (.int 0)) 34 (.int 0)) 37 (.int 0))))) o (ob 8 (fo 53 (va_up (va_up (va_up (va_up (va_up (va_up F 0 (.int 0)) 29 (.int 0)) 30 (.int 0)) 34 (.int 0)) 37 (.int 0)) 40 (.int 0))))) o (ob 8 (fo 53 (va_up (va_up (va_up (va_up (va_up (va_up (va_up F 0 (.int 0)) 29 (.int 0)) 30 (.int 0)) 34 (.int 0)) 37 (.int 0)) 40 (.int 0)) 41 (.int 0))))) o (ob 8 (fo 53 (va_up (va_up (va_up (va_up (va_up (va_up (va_up (va_up F 0 (.int 0)) 29 (.int 0)) 30 (.int 0)) 34 (.int 0)) 37 (.int 0)) 40 (.int 0)) 41 (.int 0)) 42 (.int 0))))) o (ob 8 (fo 53 (va_up (va_up (va_up (va_up (va_up (va_up (va_up (va_up (va_up F 0 (.int 0)) 29 (.int 0)) 30 (.int 0)) 34 (.int 0)) 37 (.int 0)) 40 (.int 0)) 41 (.int 0)) 42 (.int 0)) 43 (.int 0))))) o (ob 8 (fo 53 (va_up (va_up (va_up (va_up (va_up (va_up (va_up (va_up (va_up (va_up F 0 (.int 0)) 29 (.int 0)) 30 (.int 0)) 34 (.int 0)) 37 (.int 0)) 40 (.int 0)) 41 (.int 0)) 42 (.int 0)) 43 (.int 0)) 44 (.int 0))))) o (ob 8 (fo 53 (va_up (va_up (va_up (va_up (va_up (va_up (va_up (va_up (va_up (va_up (va_up F 0 (.int 0)) 29 (.int 0)) 30 (.int 0)) 34 (.int 0)) 37 (.int 0)) 40 (.int 0)) 41 (.int 0)) 42 (.int 0)) 43 (.int 0)) 44 (.int 0)) 45 (.int 0))))) o (ob 8 (fo 53 (va_up (va_up (va_up (va_up (va_up (va_up (va_up (va_up (va_up (va_up (va_up (va_up F 0 (.int 0)) 29 (.int 0)) 30 (.int 0)) 34 (.int 0)) 37 (.int 0)) 40 (.int 0)) 41 (.int 0)) 42 (.int 0)) 43 (.int 0)) 44 (.int 0)) 45 (.int 0)) 46 (.int 0))))) o (ob 8 (fo 53 (va_up (va_up (va_up (va_up (va_up (va_up (va_up (va_up (va_up (va_up (va_up (va_up (va_up F 0 (.int 0)) 29 (.int 0)) 30 (.int 0)) 34 (.int 0)) 37 (.int 0)) 40 (.int 0)) 41 (.int 0)) 42 (.int 0)) 43 (.int 0)) 44 (.int 0)) 45 (.int 0)) 46 (.int 0)) 47 (.int 0))))) o (ob 8 (fo 53 (va_up (va_up (va_up (va_up (va_up (va_up (va_up (va_up (va_up (va_up (va_up (va_up (va_up (va_up F 0 (.int 0)) 29 (.int 0)) 30 (.int 0)) 34 (.int 0)) 37 (.int 0)) 40 (.int 0)) 41 (.int 0)) 42 (.int 0)) 43 (.int 0)) 44 (.int 0)) 45 (.int 0)) 46 (.int 0)) 47 (.int 0)) 48 (.int 0))))) o (ob 8 (fo 53 (va_up (va_up (va_up (va_up (va_up (va_up (va_up (va_up (va_up (va_up (va_up (va_up (va_up (va_up (va_up F 0 (.int 0)) 29 (.int 0)) 30 (.int 0)) 34 (.int 0)) 37 (.int 0)) 40 (.int 0)) 41 (.int 0)) 42 (.int 0)) 43 (.int 0)) 44 (.int 0)) 45 (.int 0)) 46 (.int 0)) 47 (.int 0)) 48 (.int 0)) 50 (.int 0))))) o (ob 8 (fo 53 (va_up (va_up (va_up (va_up (va_up (va_up (va_up (va_up (va_up (va_up (va_up (va_up (va_up (va_up (va_up (va_up F 0 (.int 0)) 29 (.int 0)) 30 (.int 0)) 34 (.int 0)) 37 (.int 0)) 40 (.int 0)) 41 (.int 0)) 42 (.int 0)) 43 (.int 0)) 44 (.int 0)) 45 (.int 0)) 46 (.int 0)) 47 (.int 0)) 48 (.int 0)) 50 (.int 0)) 29 (.int 1))))) o (ob 8 (fo 53 (va_up (va_up (va_up (va_up (va_up (va_up (va_up (va_up (va_up (va_up (va_up (va_up (va_up (va_up (va_up (va_up (va_up F 0 (.int 0)) 29 (.int 0)) 30 (.int 0)) 34 (.int 0)) 37 (.int 0)) 40 (.int 0)) 41 (.int 0)) 42 (.int 0)) 43 (.int 0)) 44 (.int 0)) 45 (.int 0)) 46 (.int 0)) 47 (.int 0)) 48 (.int 0)) 50 (.int 0)) 29 (.int 1)) 31 (.int n))))) o (ob 8 (fo 53 (va_up (va_up (va_up (va_up (va_up (va_up (va_up (va_up (va_up (va_up (va_up (va_up (va_up (va_up (va_up (va_up (va_up (va_up F 0 (.int 0)) 29 (.int 0)) 30 (.int 0)) 34 (.int 0)) 37 (.int 0)) 40 (.int 0)) 41 (.int 0)) 42 (.int 0)) 43 (.int 0)) 44 (.int 0)) 45 (.int 0)) 46 (.int 0)) 47 (.int 0)) 48 (.int 0)) 50 (.int 0)) 29 (.int 1)) 31 (.int n)) 32 (.int w))))) o (ob 8 (fo 53 (va_up (va_up (va_up (va_up (va_up (va_up (va_up (va_up (va_up (va_up (va_up (va_up (va_up (va_up (va_up (va_up (va_up (va_up (va_up F 0 (.int 0)) 29 (.int 0)) 30 (.int 0)) 34 (.int 0)) 37 (.int 0)) 40 (.int 0)) 41 (.int 0)) 42 (.int 0)) 43 (.int 0)) 44 (.int 0)) 45 (.int 0)) 46 (.int 0)) 47 (.int 0)) 48 (.int 0)) 50 (.int 0)) 29 (.int 1)) 31 (.int n)) 32 (.int w)) 33 (.int m))))) r36 (ia n1 (upd f (0 : Int32).toNatClampNeg 0))) o (ob 8 (fo 53 (va_up (va_up (va_up (va_up (va_up (va_up (va_up (va_up (va_up (va_up (va_up (va_up (va_up (va_up (va_up (va_up (va_up (va_up (va_up (va_up F 0 (.int 0)) 29 (.int 0)) 30 (.int 0)) 34 (.int 0)) 37 (.int 0)) 40 (.int 0)) 41 (.int 0)) 42 (.int 0)) 43 (.int 0)) 44 (.int 0)) 45 (.int 0)) 46 (.int 0)) 47 (.int 0)) 48 (.int 0)) 50 (.int 0)) 29 (.int 1)) 31 (.int n)) 32 (.int w)) 33 (.int m)) 37 (.int 1))))) := by
  show E false mX8_ask d 0 [(0, .ref o), (1, .int n), (2, .int w), (3, .int m)] [] h _ _
  refine E.st (s_aload_n (q := 1) dX8_ask_0 rfl rfl) ?_
  refine E.st (s_aload_n (q := 2) dX8_ask_1 rfl rfl) ?_
  refine E.st (s_iload_n (q := 3) dX8_ask_2 rfl rfl) ?_
  refine E.st (p2 := 6) (l2 := [(0, .ref o), (1, .int n), (2, .int w), (3, .int m)]) (s2 := [.int 1, .ref o]) (h2 := h) (s_invv (K := mX8_isNode) (o := o) (as := [.int n]) (rest := [.ref o]) (v := some (.int 1)) dX8_ask_3 rfl lX8_108 (by omega) rfl (Nat.le_of_ble_eq_true rfl) rfl (Nat.le_of_ble_eq_true rfl) (ho) (q_X8_isNode_y (d := 0) (Nat.le_refl _) h o n F ho v1 e1 c) (fun h => nomatch h)) ?_
  refine E.st (s_if_eq_f (q := 9) (tg := 29) dX8_ask_6 (by decide) rfl (by decide)) ?_
  refine E.st (s_iload_n (q := 10) dX8_ask_9 rfl rfl) ?_
  refine E.st (s_if_lt_f (q := 13) (tg := 29) dX8_ask_10 (by decide) rfl c1) ?_
  refine E.st (s_iload_n (q := 14) dX8_ask_13 rfl rfl) ?_
  refine E.st (s_iconst (q := 15) (v := 2) dX8_ask_14 rfl (by decide)) ?_
  refine E.st (s_icmp_gt_f (q := 18) (tg := 29) dX8_ask_15 (by decide) rfl c2) ?_
  refine E.st (s_iload_n (q := 19) dX8_ask_18 rfl rfl) ?_
  refine E.st (s_iconst (q := 20) (v := 1) dX8_ask_19 rfl (by decide)) ?_
  refine E.st (s_icmp_lt_f (q := 23) (tg := 29) dX8_ask_20 (by decide) rfl c3) ?_
  refine E.st (s_iload_n (q := 24) dX8_ask_23 rfl rfl) ?_
  refine E.st (s_bipush (q := 26) (v := 60) dX8_ask_24 rfl (by decide)) ?_
  refine E.st (s_icmp_le_t (q := 33) dX8_ask_26 (by decide) c4) ?_
  refine E.st (s_iconst (q := 34) (v := 0) dX8_ask_33 rfl (by decide)) ?_
  refine E.st (p2 := 37) (l2 := [(0, .ref o), (1, .int n), (2, .int w), (3, .int m)]) (s2 := [.int (0 : Int32)]) (h2 := (hs h o (ob 8 (fo 53 (va_up F 0 (.int 0)))))) (s_invv (K := mX8_refused) (o := o) (as := [.int 0]) (rest := []) (v := some (.int (0 : Int32))) dX8_ask_34 rfl lX8_112 (by omega) rfl (Nat.le_of_ble_eq_true rfl) rfl (Nat.le_of_ble_eq_true rfl) (ho) (p_X8_refused_1 (d := 0) (Nat.le_refl _) h o (0 : Int32) (by decide) F ho rfl) (fun h => nomatch h)) ?_
  refine E.st (s_if_eq_t (q := 41) dX8_ask_37 (by decide) (by decide)) ?_
  refine E.st (s_aload_n (q := 42) dX8_ask_41 rfl rfl) ?_
  refine E.st (p2 := 45) (l2 := [(0, .ref o), (1, .int n), (2, .int w), (3, .int m)]) (s2 := []) (h2 := (hs (hs (hs (hs (hs (hs (hs (hs (hs (hs (hs (hs (hs (hs (hs h o (ob 8 (fo 53 (va_up F 0 (.int 0))))) o (ob 8 (fo 53 (va_up (va_up F 0 (.int 0)) 29 (.int 0))))) o (ob 8 (fo 53 (va_up (va_up (va_up F 0 (.int 0)) 29 (.int 0)) 30 (.int 0))))) o (ob 8 (fo 53 (va_up (va_up (va_up (va_up F 0 (.int 0)) 29 (.int 0)) 30 (.int 0)) 34 (.int 0))))) o (ob 8 (fo 53 (va_up (va_up (va_up (va_up (va_up F 0 (.int 0)) 29 (.int 0)) 30 (.int 0)) 34 (.int 0)) 37 (.int 0))))) o (ob 8 (fo 53 (va_up (va_up (va_up (va_up (va_up (va_up F 0 (.int 0)) 29 (.int 0)) 30 (.int 0)) 34 (.int 0)) 37 (.int 0)) 40 (.int 0))))) o (ob 8 (fo 53 (va_up (va_up (va_up (va_up (va_up (va_up (va_up F 0 (.int 0)) 29 (.int 0)) 30 (.int 0)) 34 (.int 0)) 37 (.int 0)) 40 (.int 0)) 41 (.int 0))))) o (ob 8 (fo 53 (va_up (va_up (va_up (va_up (va_up (va_up (va_up (va_up F 0 (.int 0)) 29 (.int 0)) 30 (.int 0)) 34 (.int 0)) 37 (.int 0)) 40 (.int 0)) 41 (.int 0)) 42 (.int 0))))) o (ob 8 (fo 53 (va_up (va_up (va_up (va_up (va_up (va_up (va_up (va_up (va_up F 0 (.int 0)) 29 (.int 0)) 30 (.int 0)) 34 (.int 0)) 37 (.int 0)) 40 (.int 0)) 41 (.int 0)) 42 (.int 0)) 43 (.int 0))))) o (ob 8 (fo 53 (va_up (va_up (va_up (va_up (va_up (va_up (va_up (va_up (va_up (va_up F 0 (.int 0)) 29 (.int 0)) 30 (.int 0)) 34 (.int 0)) 37 (.int 0)) 40 (.int 0)) 41 (.int 0)) 42 (.int 0)) 43 (.int 0)) 44 (.int 0))))) o (ob 8 (fo 53 (va_up (va_up (va_up (va_up (va_up (va_up (va_up (va_up (va_up (va_up (va_up F 0 (.int 0)) 29 (.int 0)) 30 (.int 0)) 34 (.int 0)) 37 (.int 0)) 40 (.int 0)) 41 (.int 0)) 42 (.int 0)) 43 (.int 0)) 44 (.int 0)) 45 (.int 0))))) o (ob 8 (fo 53 (va_up (va_up (va_up (va_up (va_up (va_up (va_up (va_up (va_up (va_up (va_up (va_up F 0 (.int 0)) 29 (.int 0)) 30 (.int 0)) 34 (.int 0)) 37 (.int 0)) 40 (.int 0)) 41 (.int 0)) 42 (.int 0)) 43 (.int 0)) 44 (.int 0)) 45 (.int 0)) 46 (.int 0))))) o (ob 8 (fo 53 (va_up (va_up (va_up (va_up (va_up (va_up (va_up (va_up (va_up (va_up (va_up (va_up (va_up F 0 (.int 0)) 29 (.int 0)) 30 (.int 0)) 34 (.int 0)) 37 (.int 0)) 40 (.int 0)) 41 (.int 0)) 42 (.int 0)) 43 (.int 0)) 44 (.int 0)) 45 (.int 0)) 46 (.int 0)) 47 (.int 0))))) o (ob 8 (fo 53 (va_up (va_up (va_up (va_up (va_up (va_up (va_up (va_up (va_up (va_up (va_up (va_up (va_up (va_up F 0 (.int 0)) 29 (.int 0)) 30 (.int 0)) 34 (.int 0)) 37 (.int 0)) 40 (.int 0)) 41 (.int 0)) 42 (.int 0)) 43 (.int 0)) 44 (.int 0)) 45 (.int 0)) 46 (.int 0)) 47 (.int 0)) 48 (.int 0))))) o (ob 8 (fo 53 (va_up (va_up (va_up (va_up (va_up (va_up (va_up (va_up (va_up (va_up (va_up (va_up (va_up (va_up (va_up F 0 (.int 0)) 29 (.int 0)) 30 (.int 0)) 34 (.int 0)) 37 (.int 0)) 40 (.int 0)) 41 (.int 0)) 42 (.int 0)) 43 (.int 0)) 44 (.int 0)) 45 (.int 0)) 46 (.int 0)) 47 (.int 0)) 48 (.int 0)) 50 (.int 0)))))) (s_invv (K := mX8_forget) (o := o) (as := []) (rest := []) (v := none) dX8_ask_42 rfl lX8_116 (by omega) rfl (Nat.le_of_ble_eq_true rfl) rfl (Nat.le_of_ble_eq_true rfl) (hs_eq) (p_X8_forget_1 (d := 0) (Nat.le_refl _) (hs h o (ob 8 (fo 53 (va_up F 0 (.int 0))))) o (va_up F 0 (.int 0)) hs_eq) (fun h => nomatch h)) ?_
  refine E.st (s_aload_n (q := 46) dX8_ask_45 rfl rfl) ?_
  refine E.st (s_iconst (q := 47) (v := 1) dX8_ask_46 rfl (by decide)) ?_
  refine E.st (s_pf (q := 50) dX8_ask_47 rfl fX8_203 (hs_eq) (by decide) (fun _ => ⟨rfl, rfl⟩)) ?_
  refine E.st (s_aload_n (q := 51) dX8_ask_50 rfl rfl) ?_
  refine E.st (s_iload_n (q := 52) dX8_ask_51 rfl rfl) ?_
  refine E.st (s_pf (q := 55) dX8_ask_52 rfl fX8_246 (hs_eq) (by decide) (fun _ => ⟨rfl, rfl⟩)) ?_
  refine E.st (s_aload_n (q := 56) dX8_ask_55 rfl rfl) ?_
  refine E.st (s_iload_n (q := 57) dX8_ask_56 rfl rfl) ?_
  refine E.st (s_pf (q := 60) dX8_ask_57 rfl fX8_249 (hs_eq) (by decide) (fun _ => ⟨rfl, rfl⟩)) ?_
  refine E.st (s_aload_n (q := 61) dX8_ask_60 rfl rfl) ?_
  refine E.st (s_iload_n (q := 62) dX8_ask_61 rfl rfl) ?_
  refine E.st (s_pf (q := 65) dX8_ask_62 rfl fX8_252 (hs_eq) (by decide) (fun _ => ⟨rfl, rfl⟩)) ?_
  refine E.st (s_aload_n (q := 66) dX8_ask_65 rfl rfl) ?_
  refine E.st (s_gf (q := 69) (v := .ref r36) dX8_ask_66 rfl fX8_78.l (hs_eq) (by decide) ((up_ne (by decide)).trans ((up_ne (by decide)).trans ((up_ne (by decide)).trans ((up_ne (by decide)).trans ((up_ne (by decide)).trans ((up_ne (by decide)).trans ((up_ne (by decide)).trans ((up_ne (by decide)).trans ((up_ne (by decide)).trans ((up_ne (by decide)).trans ((up_ne (by decide)).trans ((up_ne (by decide)).trans ((up_ne (by decide)).trans ((up_ne (by decide)).trans ((up_ne (by decide)).trans ((up_ne (by decide)).trans ((up_ne (by decide)).trans ((up_ne (by decide)).trans (e36)))))))))))))))))))) ?_
  refine E.st (s_iconst (q := 70) (v := 0) dX8_ask_69 rfl (by decide)) ?_
  refine E.st (s_iconst (q := 71) (v := 0) dX8_ask_70 rfl (by decide)) ?_
  refine E.st (s_iast (q := 72) dX8_ask_71 rfl p ((hs_ne (Ne.symm (ne_oi ho ha))).trans ((hs_ne (Ne.symm (ne_oi ho ha))).trans ((hs_ne (Ne.symm (ne_oi ho ha))).trans ((hs_ne (Ne.symm (ne_oi ho ha))).trans ((hs_ne (Ne.symm (ne_oi ho ha))).trans ((hs_ne (Ne.symm (ne_oi ho ha))).trans ((hs_ne (Ne.symm (ne_oi ho ha))).trans ((hs_ne (Ne.symm (ne_oi ho ha))).trans ((hs_ne (Ne.symm (ne_oi ho ha))).trans ((hs_ne (Ne.symm (ne_oi ho ha))).trans ((hs_ne (Ne.symm (ne_oi ho ha))).trans ((hs_ne (Ne.symm (ne_oi ho ha))).trans ((hs_ne (Ne.symm (ne_oi ho ha))).trans ((hs_ne (Ne.symm (ne_oi ho ha))).trans ((hs_ne (Ne.symm (ne_oi ho ha))).trans ((hs_ne (Ne.symm (ne_oi ho ha))).trans ((hs_ne (Ne.symm (ne_oi ho ha))).trans ((hs_ne (Ne.symm (ne_oi ho ha))).trans ((hs_ne (Ne.symm (ne_oi ho ha))).trans (ha)))))))))))))))))))) i) ?_
  refine E.st (s_aload_n (q := 73) dX8_ask_72 rfl rfl) ?_
  refine E.st (s_iconst (q := 74) (v := 1) dX8_ask_73 rfl (by decide)) ?_
  refine E.st (s_pf (q := 77) dX8_ask_74 rfl fX8_213 ((hs_ne (ne_oi ho ha)).trans (hs_eq)) (by decide) (fun _ => ⟨rfl, rfl⟩)) ?_
  exact E.v dX8_ask_77 rfl rfl rfl

set_option maxRecDepth 20000 in
theorem p_X8_ask_6 {d : Nat} (hd : 1 ≤ d) (h : AH) (o : Nat) (n : Int32) (w : Int32) (m : Int32) (F : Nat → Value) (ho : h.1 o = ob 8 (fo 53 F)) (v1 : Int32) (e1 : F 1 = .int v1) (c : ¬ (n < 0) ∧ ¬ (v1 ≤ n)) (c1 : ¬ (w < 0)) (c2 : ¬ (2 < w)) (c3 : ¬ (m < 1)) (c4 : ¬ (m ≤ 60)) : CM mX8_ask d [.ref o, .int n, .int w, .int m] h (none) (hs h o (ob 8 (fo 53 (va_up F 0 (.int 1))))) := by
  show E false mX8_ask d 0 [(0, .ref o), (1, .int n), (2, .int w), (3, .int m)] [] h _ _
  refine E.st (s_aload_n (q := 1) dX8_ask_0 rfl rfl) ?_
  refine E.st (s_aload_n (q := 2) dX8_ask_1 rfl rfl) ?_
  refine E.st (s_iload_n (q := 3) dX8_ask_2 rfl rfl) ?_
  refine E.st (p2 := 6) (l2 := [(0, .ref o), (1, .int n), (2, .int w), (3, .int m)]) (s2 := [.int 1, .ref o]) (h2 := h) (s_invv (K := mX8_isNode) (o := o) (as := [.int n]) (rest := [.ref o]) (v := some (.int 1)) dX8_ask_3 rfl lX8_108 (by omega) rfl (Nat.le_of_ble_eq_true rfl) rfl (Nat.le_of_ble_eq_true rfl) (ho) (q_X8_isNode_y (d := 0) (Nat.le_refl _) h o n F ho v1 e1 c) (fun h => nomatch h)) ?_
  refine E.st (s_if_eq_f (q := 9) (tg := 29) dX8_ask_6 (by decide) rfl (by decide)) ?_
  refine E.st (s_iload_n (q := 10) dX8_ask_9 rfl rfl) ?_
  refine E.st (s_if_lt_f (q := 13) (tg := 29) dX8_ask_10 (by decide) rfl c1) ?_
  refine E.st (s_iload_n (q := 14) dX8_ask_13 rfl rfl) ?_
  refine E.st (s_iconst (q := 15) (v := 2) dX8_ask_14 rfl (by decide)) ?_
  refine E.st (s_icmp_gt_f (q := 18) (tg := 29) dX8_ask_15 (by decide) rfl c2) ?_
  refine E.st (s_iload_n (q := 19) dX8_ask_18 rfl rfl) ?_
  refine E.st (s_iconst (q := 20) (v := 1) dX8_ask_19 rfl (by decide)) ?_
  refine E.st (s_icmp_lt_f (q := 23) (tg := 29) dX8_ask_20 (by decide) rfl c3) ?_
  refine E.st (s_iload_n (q := 24) dX8_ask_23 rfl rfl) ?_
  refine E.st (s_bipush (q := 26) (v := 60) dX8_ask_24 rfl (by decide)) ?_
  refine E.st (s_icmp_le_f (q := 29) (tg := 33) dX8_ask_26 (by decide) rfl c4) ?_
  refine E.st (s_iconst (q := 30) (v := 1) dX8_ask_29 rfl (by decide)) ?_
  refine E.st (s_goto (q := 34) dX8_ask_30 (by decide)) ?_
  refine E.st (p2 := 37) (l2 := [(0, .ref o), (1, .int n), (2, .int w), (3, .int m)]) (s2 := [.int (1 : Int32)]) (h2 := (hs h o (ob 8 (fo 53 (va_up F 0 (.int 1)))))) (s_invv (K := mX8_refused) (o := o) (as := [.int 1]) (rest := []) (v := some (.int (1 : Int32))) dX8_ask_34 rfl lX8_112 (by omega) rfl (Nat.le_of_ble_eq_true rfl) rfl (Nat.le_of_ble_eq_true rfl) (ho) (p_X8_refused_2 (d := 0) (Nat.le_refl _) h o (1 : Int32) (by decide) F ho rfl) (fun h => nomatch h)) ?_
  refine E.st (s_if_eq_f (q := 40) (tg := 41) dX8_ask_37 (by decide) rfl (by decide)) ?_
  exact E.v dX8_ask_40 rfl rfl rfl
