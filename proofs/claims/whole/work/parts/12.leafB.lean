set_option maxRecDepth 20000 in
theorem p_X5_around_1 {d : Nat} (hd : 0 ≤ d) (h : AH) (o : Nat) (F : Nat → Value) (ho : h.1 o = ob 5 (fo 12 F)) (r0 : Nat) (e0 : F 0 = .ref r0) : CM mX5_around d [.ref o] h (some (.ref r0)) h := by
  show E false mX5_around d 0 [(0, .ref o)] [] h _ _
  refine E.st (s_aload_n (q := 1) dX5_around_0 rfl rfl) ?_
  refine E.st (s_gf (q := 4) (v := .ref r0) dX5_around_1 rfl fX5_31.l (ho) (by decide) (e0)) ?_
  exact E.a dX5_around_4 rfl (Or.inl ⟨_, rfl⟩) rfl rfl

set_option maxRecDepth 20000 in
theorem p_X5_around_2 {d : Nat} (hd : 0 ≤ d) (h : AH) (o : Nat) (F : Nat → Value) (ho : h.1 o = ob 5 (fo 12 F)) (e0 : F 0 = .null) : CM mX5_around d [.ref o] h (some (.null)) h := by
  show E false mX5_around d 0 [(0, .ref o)] [] h _ _
  refine E.st (s_aload_n (q := 1) dX5_around_0 rfl rfl) ?_
  refine E.st (s_gf (q := 4) (v := .null) dX5_around_1 rfl fX5_31.l (ho) (by decide) (e0)) ?_
  exact E.n dX5_around_4 rfl (Or.inl ⟨_, rfl⟩) rfl rfl

set_option maxRecDepth 20000 in
theorem p_X5_inner_1 {d : Nat} (hd : 0 ≤ d) (h : AH) (o : Nat) (F : Nat → Value) (ho : h.1 o = ob 5 (fo 12 F)) (r1 : Nat) (e1 : F 1 = .ref r1) : CM mX5_inner d [.ref o] h (some (.ref r1)) h := by
  show E false mX5_inner d 0 [(0, .ref o)] [] h _ _
  refine E.st (s_aload_n (q := 1) dX5_inner_0 rfl rfl) ?_
  refine E.st (s_gf (q := 4) (v := .ref r1) dX5_inner_1 rfl fX5_35.l (ho) (by decide) (e1)) ?_
  exact E.a dX5_inner_4 rfl (Or.inl ⟨_, rfl⟩) rfl rfl

set_option maxRecDepth 20000 in
theorem p_X5_inner_2 {d : Nat} (hd : 0 ≤ d) (h : AH) (o : Nat) (F : Nat → Value) (ho : h.1 o = ob 5 (fo 12 F)) (e1 : F 1 = .null) : CM mX5_inner d [.ref o] h (some (.null)) h := by
  show E false mX5_inner d 0 [(0, .ref o)] [] h _ _
  refine E.st (s_aload_n (q := 1) dX5_inner_0 rfl rfl) ?_
  refine E.st (s_gf (q := 4) (v := .null) dX5_inner_1 rfl fX5_35.l (ho) (by decide) (e1)) ?_
  exact E.n dX5_inner_4 rfl (Or.inl ⟨_, rfl⟩) rfl rfl

set_option maxRecDepth 20000 in
theorem p_X5_tokens_1 {d : Nat} (hd : 0 ≤ d) (h : AH) (o : Nat) (F : Nat → Value) (ho : h.1 o = ob 5 (fo 12 F)) (r9 : Nat) (e9 : F 9 = .ref r9) : CM mX5_tokens d [.ref o] h (some (.ref r9)) h := by
  show E false mX5_tokens d 0 [(0, .ref o)] [] h _ _
  refine E.st (s_aload_n (q := 1) dX5_tokens_0 rfl rfl) ?_
  refine E.st (s_gf (q := 4) (v := .ref r9) dX5_tokens_1 rfl fX5_27.l (ho) (by decide) (e9)) ?_
  exact E.a dX5_tokens_4 rfl (Or.inl ⟨_, rfl⟩) rfl rfl

set_option maxRecDepth 20000 in
theorem p_X5_decisions_1 {d : Nat} (hd : 0 ≤ d) (h : AH) (o : Nat) (F : Nat → Value) (ho : h.1 o = ob 5 (fo 12 F)) (v7 : Int32) (e7 : F 7 = .int v7) : CM mX5_decisions d [.ref o] h (some (.int v7)) h := by
  show E false mX5_decisions d 0 [(0, .ref o)] [] h _ _
  refine E.st (s_aload_n (q := 1) dX5_decisions_0 rfl rfl) ?_
  refine E.st (s_gf (q := 4) (v := .int v7) dX5_decisions_1 rfl fX5_41.l (ho) (by decide) (e7)) ?_
  exact E.i dX5_decisions_4 rfl rfl rfl rfl

set_option maxRecDepth 20000 in
theorem p_X5_isInside_1 {d : Nat} (hd : 0 ≤ d) (h : AH) (o : Nat) (n : Int32) (F : Nat → Value) (ho : h.1 o = ob 5 (fo 12 F)) (v2 : Int32) (e2 : F 2 = .int v2) (c : n < v2) : CM mX5_isInside d [.ref o, .int n] h (some (.int 0)) h := by
  show E false mX5_isInside d 0 [(0, .ref o), (1, .int n)] [] h _ _
  refine E.st (s_iload_n (q := 1) dX5_isInside_0 rfl rfl) ?_
  refine E.st (s_aload_n (q := 2) dX5_isInside_1 rfl rfl) ?_
  refine E.st (s_gf (q := 5) (v := .int v2) dX5_isInside_2 rfl fX5_48.l (ho) (by decide) (e2)) ?_
  refine E.st (s_icmp_lt_t (q := 12) dX5_isInside_5 (by decide) c) ?_
  refine E.st (s_iconst (q := 13) (v := 0) dX5_isInside_12 rfl (by decide)) ?_
  exact E.i dX5_isInside_13 rfl rfl rfl rfl

set_option maxRecDepth 20000 in
theorem p_X5_isInside_2 {d : Nat} (hd : 0 ≤ d) (h : AH) (o : Nat) (n : Int32) (F : Nat → Value) (ho : h.1 o = ob 5 (fo 12 F)) (v2 : Int32) (e2 : F 2 = .int v2) (c : ¬ (n < v2)) : CM mX5_isInside d [.ref o, .int n] h (some (.int 1)) h := by
  show E false mX5_isInside d 0 [(0, .ref o), (1, .int n)] [] h _ _
  refine E.st (s_iload_n (q := 1) dX5_isInside_0 rfl rfl) ?_
  refine E.st (s_aload_n (q := 2) dX5_isInside_1 rfl rfl) ?_
  refine E.st (s_gf (q := 5) (v := .int v2) dX5_isInside_2 rfl fX5_48.l (ho) (by decide) (e2)) ?_
  refine E.st (s_icmp_lt_f (q := 8) (tg := 12) dX5_isInside_5 (by decide) rfl c) ?_
  refine E.st (s_iconst (q := 9) (v := 1) dX5_isInside_8 rfl (by decide)) ?_
  refine E.st (s_goto (q := 13) dX5_isInside_9 (by decide)) ?_
  exact E.i dX5_isInside_13 rfl rfl rfl rfl

set_option maxRecDepth 20000 in
theorem p_X5_dropValue_1 {d : Nat} (hd : 1 ≤ d) (h : AH) (o : Nat) (F : Nat → Value) (ho : h.1 o = ob 5 (fo 12 F)) (r9 : Nat) (e9 : F 9 = .ref r9) (v10 : Int32) (e10 : F 10 = .int v10) (F1 : Nat → Value) (ho1 : h.1 r9 = ob 4 (fo 4 F1)) (c : v10 < 0) : CM mX5_dropValue d [.ref o] h (none) h := by
  show E false mX5_dropValue d 0 [(0, .ref o)] [] h _ _
  refine E.st (s_aload_n (q := 1) dX5_dropValue_0 rfl rfl) ?_
  refine E.st (s_gf (q := 4) (v := .ref r9) dX5_dropValue_1 rfl fX5_27.l (ho) (by decide) (e9)) ?_
  refine E.st (s_aload_n (q := 5) dX5_dropValue_4 rfl rfl) ?_
  refine E.st (s_gf (q := 8) (v := .int v10) dX5_dropValue_5 rfl fX5_72.l (ho) (by decide) (e10)) ?_
  refine E.st (p2 := 11) (l2 := [(0, .ref o)]) (s2 := []) (h2 := h) (s_invv (K := mX4_cutTo) (o := r9) (as := [.int v10]) (rest := []) (v := none) dX5_dropValue_8 rfl lX5_58 (by omega) rfl (Nat.le_of_ble_eq_true rfl) rfl (Nat.le_of_ble_eq_true rfl) (ho1) (p_X4_cutTo_1 (d := 0) (Nat.le_refl _) h r9 v10 c) (fun h => nomatch h)) ?_
  exact E.v dX5_dropValue_11 rfl rfl rfl

set_option maxRecDepth 20000 in
theorem p_X5_dropValue_2 {d : Nat} (hd : 1 ≤ d) (h : AH) (o : Nat) (F : Nat → Value) (ho : h.1 o = ob 5 (fo 12 F)) (r9 : Nat) (e9 : F 9 = .ref r9) (v10 : Int32) (e10 : F 10 = .int v10) (F1 : Nat → Value) (ho1 : h.1 r9 = ob 4 (fo 4 F1)) (c : ¬ (v10 < 0)) (v3 : Int32) (e3 : F1 3 = .int v3) (c1 : v3 ≤ v10) : CM mX5_dropValue d [.ref o] h (none) h := by
  show E false mX5_dropValue d 0 [(0, .ref o)] [] h _ _
  refine E.st (s_aload_n (q := 1) dX5_dropValue_0 rfl rfl) ?_
  refine E.st (s_gf (q := 4) (v := .ref r9) dX5_dropValue_1 rfl fX5_27.l (ho) (by decide) (e9)) ?_
  refine E.st (s_aload_n (q := 5) dX5_dropValue_4 rfl rfl) ?_
  refine E.st (s_gf (q := 8) (v := .int v10) dX5_dropValue_5 rfl fX5_72.l (ho) (by decide) (e10)) ?_
  refine E.st (p2 := 11) (l2 := [(0, .ref o)]) (s2 := []) (h2 := h) (s_invv (K := mX4_cutTo) (o := r9) (as := [.int v10]) (rest := []) (v := none) dX5_dropValue_8 rfl lX5_58 (by omega) rfl (Nat.le_of_ble_eq_true rfl) rfl (Nat.le_of_ble_eq_true rfl) (ho1) (p_X4_cutTo_2 (d := 0) (Nat.le_refl _) h r9 v10 c F1 ho1 v3 e3 c1) (fun h => nomatch h)) ?_
  exact E.v dX5_dropValue_11 rfl rfl rfl

set_option maxRecDepth 20000 in
theorem p_X5_dropValue_3 {d : Nat} (hd : 1 ≤ d) (h : AH) (o : Nat) (F : Nat → Value) (ho : h.1 o = ob 5 (fo 12 F)) (r9 : Nat) (e9 : F 9 = .ref r9) (v10 : Int32) (e10 : F 10 = .int v10) (F1 : Nat → Value) (ho1 : h.1 r9 = ob 4 (fo 4 F1)) (c : ¬ (v10 < 0)) (v3 : Int32) (e3 : F1 3 = .int v3) (c1 : ¬ (v3 ≤ v10)) : CM mX5_dropValue d [.ref o] h (none) (hs h r9 (ob 4 (fo 4 (va_up F1 3 (.int v10))))) := by
  show E false mX5_dropValue d 0 [(0, .ref o)] [] h _ _
  refine E.st (s_aload_n (q := 1) dX5_dropValue_0 rfl rfl) ?_
  refine E.st (s_gf (q := 4) (v := .ref r9) dX5_dropValue_1 rfl fX5_27.l (ho) (by decide) (e9)) ?_
  refine E.st (s_aload_n (q := 5) dX5_dropValue_4 rfl rfl) ?_
  refine E.st (s_gf (q := 8) (v := .int v10) dX5_dropValue_5 rfl fX5_72.l (ho) (by decide) (e10)) ?_
  refine E.st (p2 := 11) (l2 := [(0, .ref o)]) (s2 := []) (h2 := (hs h r9 (ob 4 (fo 4 (va_up F1 3 (.int v10)))))) (s_invv (K := mX4_cutTo) (o := r9) (as := [.int v10]) (rest := []) (v := none) dX5_dropValue_8 rfl lX5_58 (by omega) rfl (Nat.le_of_ble_eq_true rfl) rfl (Nat.le_of_ble_eq_true rfl) (ho1) (p_X4_cutTo_3 (d := 0) (Nat.le_refl _) h r9 v10 c F1 ho1 v3 e3 c1) (fun h => nomatch h)) ?_
  exact E.v dX5_dropValue_11 rfl rfl rfl

set_option maxRecDepth 20000 in
theorem p_X5_decide_1 {d : Nat} (hd : 0 ≤ d) (h : AH) (o : Nat) (F : Nat → Value) (ho : h.1 o = ob 5 (fo 12 F)) (v7 : Int32) (e7 : F 7 = .int v7) (v8 : Int32) (e8 : F 8 = .int v8) (c : v7 < v8) (v6 : Int64) (e6 : F 6 = .long v6) : CM mX5_decide d [.ref o] h (some (.int (((((v6).toUInt64 >>> ((v7 : Int32).toInt64.toUInt64 &&& Int64.toUInt64 63)).toInt64) &&& 1).toInt32))) (hs h o (ob 5 (fo 12 (va_up F 7 (.int (v7 + 1)))))) := by
  show E false mX5_decide d 0 [(0, .ref o)] [] h _ _
  refine E.st (s_aload_n (q := 1) dX5_decide_0 rfl rfl) ?_
  refine E.st (s_gf (q := 4) (v := .int v7) dX5_decide_1 rfl fX5_41.l (ho) (by decide) (e7)) ?_
  refine E.st (s_aload_n (q := 5) dX5_decide_4 rfl rfl) ?_
  refine E.st (s_gf (q := 8) (v := .int v8) dX5_decide_5 rfl fX5_55.l (ho) (by decide) (e8)) ?_
  refine E.st (s_icmp_lt_t (q := 13) dX5_decide_8 (by decide) c) ?_
  refine E.st (s_aload_n (q := 14) dX5_decide_13 rfl rfl) ?_
  refine E.st (s_gf (q := 17) (v := .long v6) dX5_decide_14 rfl fX5_51.l (ho) (by decide) (e6)) ?_
  refine E.st (s_aload_n (q := 18) dX5_decide_17 rfl rfl) ?_
  refine E.st (s_gf (q := 21) (v := .int v7) dX5_decide_18 rfl fX5_41.l (ho) (by decide) (e7)) ?_
  refine E.st (s_lushr (q := 22) dX5_decide_21 rfl) ?_
  refine E.st (s_lconst (q := 23) (v := 1) dX5_decide_22 rfl (by decide)) ?_
  refine E.st (s_land (q := 24) dX5_decide_23 rfl) ?_
  refine E.st (s_l2i (q := 25) dX5_decide_24 rfl) ?_
  refine E.st (s_istore_n (q := 26) (ls' := [(1, .int (((((v6).toUInt64 >>> ((v7 : Int32).toInt64.toUInt64 &&& Int64.toUInt64 63)).toInt64) &&& 1).toInt32)), (0, .ref o)]) dX5_decide_25 rfl (by decide) rfl) ?_
  refine E.st (s_aload_n (q := 27) dX5_decide_26 rfl rfl) ?_
  refine E.st (s_dup (q := 28) dX5_decide_27 rfl rfl) ?_
  refine E.st (s_gf (q := 31) (v := .int v7) dX5_decide_28 rfl fX5_41.l (ho) (by decide) (e7)) ?_
  refine E.st (s_iconst (q := 32) (v := 1) dX5_decide_31 rfl (by decide)) ?_
  refine E.st (s_iadd (q := 33) dX5_decide_32 rfl) ?_
  refine E.st (s_pf (q := 36) dX5_decide_33 rfl fX5_41 (ho) (by decide) (fun _ => ⟨rfl, rfl⟩)) ?_
  refine E.st (s_iload_n (q := 37) dX5_decide_36 rfl rfl) ?_
  exact E.i dX5_decide_37 rfl rfl rfl rfl

set_option maxRecDepth 20000 in
theorem p_X5_decide_2 {d : Nat} (hd : 0 ≤ d) (h : AH) (o : Nat) (F : Nat → Value) (ho : h.1 o = ob 5 (fo 12 F)) (v7 : Int32) (e7 : F 7 = .int v7) (v8 : Int32) (e8 : F 8 = .int v8) (c : ¬ (v7 < v8)) : CM mX5_decide d [.ref o] h (some (.int (-1))) h := by
  show E false mX5_decide d 0 [(0, .ref o)] [] h _ _
  refine E.st (s_aload_n (q := 1) dX5_decide_0 rfl rfl) ?_
  refine E.st (s_gf (q := 4) (v := .int v7) dX5_decide_1 rfl fX5_41.l (ho) (by decide) (e7)) ?_
  refine E.st (s_aload_n (q := 5) dX5_decide_4 rfl rfl) ?_
  refine E.st (s_gf (q := 8) (v := .int v8) dX5_decide_5 rfl fX5_55.l (ho) (by decide) (e8)) ?_
  refine E.st (s_icmp_lt_f (q := 11) (tg := 13) dX5_decide_8 (by decide) rfl c) ?_
  refine E.st (s_iconst (q := 12) (v := (-1)) dX5_decide_11 rfl (by decide)) ?_
  exact E.i dX5_decide_12 rfl rfl rfl rfl

set_option maxRecDepth 20000 in
theorem p_X5_hasValue_1 {d : Nat} (hd : 0 ≤ d) (h : AH) (o : Nat) (n : Int32) (c : n < 0) : CM mX5_hasValue d [.ref o, .int n] h (some (.int 0)) h := by
  show E false mX5_hasValue d 0 [(0, .ref o), (1, .int n)] [] h _ _
  refine E.st (s_iload_n (q := 1) dX5_hasValue_0 rfl rfl) ?_
  refine E.st (s_if_lt_t (q := 24) dX5_hasValue_1 (by decide) c) ?_
  refine E.st (s_iconst (q := 25) (v := 0) dX5_hasValue_24 rfl (by decide)) ?_
  exact E.i dX5_hasValue_25 rfl rfl rfl rfl

set_option maxRecDepth 20000 in
theorem p_X5_hasValue_2 {d : Nat} (hd : 0 ≤ d) (h : AH) (o : Nat) (n : Int32) (c : ¬ (n < 0)) (c1 : 60 ≤ n) : CM mX5_hasValue d [.ref o, .int n] h (some (.int 0)) h := by
  show E false mX5_hasValue d 0 [(0, .ref o), (1, .int n)] [] h _ _
  refine E.st (s_iload_n (q := 1) dX5_hasValue_0 rfl rfl) ?_
  refine E.st (s_if_lt_f (q := 4) (tg := 24) dX5_hasValue_1 (by decide) rfl c) ?_
  refine E.st (s_iload_n (q := 5) dX5_hasValue_4 rfl rfl) ?_
  refine E.st (s_bipush (q := 7) (v := 60) dX5_hasValue_5 rfl (by decide)) ?_
  refine E.st (s_icmp_ge_t (q := 24) dX5_hasValue_7 (by decide) c1) ?_
  refine E.st (s_iconst (q := 25) (v := 0) dX5_hasValue_24 rfl (by decide)) ?_
  exact E.i dX5_hasValue_25 rfl rfl rfl rfl

set_option maxRecDepth 20000 in
theorem p_X5_hasValue_3 {d : Nat} (hd : 0 ≤ d) (h : AH) (o : Nat) (n : Int32) (c : ¬ (n < 0)) (c1 : ¬ (60 ≤ n)) (F : Nat → Value) (ho : h.1 o = ob 5 (fo 12 F)) (r3 : Nat) (e3 : F 3 = .ref r3) (n1 : Nat) (f : Nat → Int32) (ha : h.1 r3 = ia n1 f) (i : vp_in n n1) (p : 0 < r3) (c2 : (f n.toNatClampNeg) = (-1)) : CM mX5_hasValue d [.ref o, .int n] h (some (.int 0)) h := by
  show E false mX5_hasValue d 0 [(0, .ref o), (1, .int n)] [] h _ _
  refine E.st (s_iload_n (q := 1) dX5_hasValue_0 rfl rfl) ?_
  refine E.st (s_if_lt_f (q := 4) (tg := 24) dX5_hasValue_1 (by decide) rfl c) ?_
  refine E.st (s_iload_n (q := 5) dX5_hasValue_4 rfl rfl) ?_
  refine E.st (s_bipush (q := 7) (v := 60) dX5_hasValue_5 rfl (by decide)) ?_
  refine E.st (s_icmp_ge_f (q := 10) (tg := 24) dX5_hasValue_7 (by decide) rfl c1) ?_
  refine E.st (s_aload_n (q := 11) dX5_hasValue_10 rfl rfl) ?_
  refine E.st (s_gf (q := 14) (v := .ref r3) dX5_hasValue_11 rfl fX5_9.l (ho) (by decide) (e3)) ?_
  refine E.st (s_iload_n (q := 15) dX5_hasValue_14 rfl rfl) ?_
  refine E.st (s_iald (q := 16) dX5_hasValue_15 rfl p (ha) i) ?_
  refine E.st (s_iconst (q := 17) (v := (-1)) dX5_hasValue_16 rfl (by decide)) ?_
  refine E.st (s_icmp_eq_t (q := 24) dX5_hasValue_17 (by decide) c2) ?_
  refine E.st (s_iconst (q := 25) (v := 0) dX5_hasValue_24 rfl (by decide)) ?_
  exact E.i dX5_hasValue_25 rfl rfl rfl rfl

set_option maxRecDepth 20000 in
theorem p_X5_hasValue_4 {d : Nat} (hd : 0 ≤ d) (h : AH) (o : Nat) (n : Int32) (c : ¬ (n < 0)) (c1 : ¬ (60 ≤ n)) (F : Nat → Value) (ho : h.1 o = ob 5 (fo 12 F)) (r3 : Nat) (e3 : F 3 = .ref r3) (n1 : Nat) (f : Nat → Int32) (ha : h.1 r3 = ia n1 f) (i : vp_in n n1) (p : 0 < r3) (c2 : ¬ ((f n.toNatClampNeg) = (-1))) : CM mX5_hasValue d [.ref o, .int n] h (some (.int 1)) h := by
  show E false mX5_hasValue d 0 [(0, .ref o), (1, .int n)] [] h _ _
  refine E.st (s_iload_n (q := 1) dX5_hasValue_0 rfl rfl) ?_
  refine E.st (s_if_lt_f (q := 4) (tg := 24) dX5_hasValue_1 (by decide) rfl c) ?_
  refine E.st (s_iload_n (q := 5) dX5_hasValue_4 rfl rfl) ?_
  refine E.st (s_bipush (q := 7) (v := 60) dX5_hasValue_5 rfl (by decide)) ?_
  refine E.st (s_icmp_ge_f (q := 10) (tg := 24) dX5_hasValue_7 (by decide) rfl c1) ?_
  refine E.st (s_aload_n (q := 11) dX5_hasValue_10 rfl rfl) ?_
  refine E.st (s_gf (q := 14) (v := .ref r3) dX5_hasValue_11 rfl fX5_9.l (ho) (by decide) (e3)) ?_
  refine E.st (s_iload_n (q := 15) dX5_hasValue_14 rfl rfl) ?_
  refine E.st (s_iald (q := 16) dX5_hasValue_15 rfl p (ha) i) ?_
  refine E.st (s_iconst (q := 17) (v := (-1)) dX5_hasValue_16 rfl (by decide)) ?_
  refine E.st (s_icmp_eq_f (q := 20) (tg := 24) dX5_hasValue_17 (by decide) rfl c2) ?_
  refine E.st (s_iconst (q := 21) (v := 1) dX5_hasValue_20 rfl (by decide)) ?_
  refine E.st (s_goto (q := 25) dX5_hasValue_21 (by decide)) ?_
  exact E.i dX5_hasValue_25 rfl rfl rfl rfl

set_option maxRecDepth 20000 in
theorem p_X5_listValue_1 {d : Nat} (hd : 2 ≤ d) (h : AH) (o : Nat) (F : Nat → Value) (ho : h.1 o = ob 5 (fo 12 F)) (v11 : Int32) (e11 : F 11 = .int v11) (r9 : Nat) (e9 : F 9 = .ref r9) (F1 : Nat → Value) (ho1 : h.1 r9 = ob 4 (fo 4 F1)) (v3 : Int32) (e3 : F1 3 = .int v3) (c : (0 : Int32) < 0 ∨ v3 ≤ (0 : Int32)) : CM mX5_listValue d [.ref o] h (none) (hs h o (ob 5 (fo 12 (va_up F 11 (.int (v11 + 1)))))) := by
  show E false mX5_listValue d 0 [(0, .ref o)] [] h _ _
  refine E.st (s_aload_n (q := 1) dX5_listValue_0 rfl rfl) ?_
  refine E.st (s_dup (q := 2) dX5_listValue_1 rfl rfl) ?_
  refine E.st (s_gf (q := 5) (v := .int v11) dX5_listValue_2 rfl fX5_45.l (ho) (by decide) (e11)) ?_
  refine E.st (s_iconst (q := 6) (v := 1) dX5_listValue_5 rfl (by decide)) ?_
  refine E.st (s_iadd (q := 7) dX5_listValue_6 rfl) ?_
  refine E.st (s_pf (q := 10) dX5_listValue_7 rfl fX5_45 (ho) (by decide) (fun _ => ⟨rfl, rfl⟩)) ?_
  refine E.st (s_aload_n (q := 11) dX5_listValue_10 rfl rfl) ?_
  refine E.st (s_gf (q := 14) (v := .ref r9) dX5_listValue_11 rfl fX5_27.l (hs_eq) (by decide) ((up_ne (by decide)).trans (e9))) ?_
  refine E.st (s_iconst (q := 15) (v := 0) dX5_listValue_14 rfl (by decide)) ?_
  refine E.st (s_aload_n (q := 16) dX5_listValue_15 rfl rfl) ?_
  refine E.st (s_gf (q := 19) (v := .int (v11 + 1)) dX5_listValue_16 rfl fX5_45.l (hs_eq) (by decide) (up_eq)) ?_
  refine E.st (s_i2l (q := 20) dX5_listValue_19 rfl) ?_
  refine E.st (p2 := 23) (l2 := [(0, .ref o)]) (s2 := []) (h2 := (hs h o (ob 5 (fo 12 (va_up F 11 (.int (v11 + 1))))))) (s_invv (K := mX4_putNumber) (o := r9) (as := [.int 0, .long ((v11 + 1).toInt64)]) (rest := []) (v := none) dX5_listValue_20 rfl lX5_81 (by omega) rfl (Nat.le_of_ble_eq_true rfl) rfl (Nat.le_of_ble_eq_true rfl) ((hs_ne (ne_oo ho1 ho (by decide))).trans (ho1)) (p_X4_putNumber_1 (d := 1) (Nat.le_refl _) (hs h o (ob 5 (fo 12 (va_up F 11 (.int (v11 + 1)))))) r9 (0 : Int32) ((v11 + 1).toInt64) F1 ((hs_ne (ne_oo ho1 ho (by decide))).trans (ho1)) v3 e3 c) (fun h => nomatch h)) ?_
  exact E.v dX5_listValue_23 rfl rfl rfl

set_option maxRecDepth 20000 in
theorem p_X5_listValue_2 {d : Nat} (hd : 2 ≤ d) (h : AH) (o : Nat) (F : Nat → Value) (ho : h.1 o = ob 5 (fo 12 F)) (v11 : Int32) (e11 : F 11 = .int v11) (r9 : Nat) (e9 : F 9 = .ref r9) (F1 : Nat → Value) (ho1 : h.1 r9 = ob 4 (fo 4 F1)) (v3 : Int32) (e3 : F1 3 = .int v3) (c : ¬ ((0 : Int32) < 0) ∧ ¬ (v3 ≤ (0 : Int32))) (r2 : Nat) (e2 : F1 2 = .ref r2) (n : Nat) (f : Nat → Int64) (ha : h.1 r2 = la n f) (c1 : vp_in (0 : Int32) n) : CM mX5_listValue d [.ref o] h (none) (hs (hs h o (ob 5 (fo 12 (va_up F 11 (.int (v11 + 1)))))) r2 (la n (vp_updL f (0 : Int32).toNatClampNeg ((v11 + 1).toInt64)))) := by
  show E false mX5_listValue d 0 [(0, .ref o)] [] h _ _
  refine E.st (s_aload_n (q := 1) dX5_listValue_0 rfl rfl) ?_
  refine E.st (s_dup (q := 2) dX5_listValue_1 rfl rfl) ?_
  refine E.st (s_gf (q := 5) (v := .int v11) dX5_listValue_2 rfl fX5_45.l (ho) (by decide) (e11)) ?_
  refine E.st (s_iconst (q := 6) (v := 1) dX5_listValue_5 rfl (by decide)) ?_
  refine E.st (s_iadd (q := 7) dX5_listValue_6 rfl) ?_
  refine E.st (s_pf (q := 10) dX5_listValue_7 rfl fX5_45 (ho) (by decide) (fun _ => ⟨rfl, rfl⟩)) ?_
  refine E.st (s_aload_n (q := 11) dX5_listValue_10 rfl rfl) ?_
  refine E.st (s_gf (q := 14) (v := .ref r9) dX5_listValue_11 rfl fX5_27.l (hs_eq) (by decide) ((up_ne (by decide)).trans (e9))) ?_
  refine E.st (s_iconst (q := 15) (v := 0) dX5_listValue_14 rfl (by decide)) ?_
  refine E.st (s_aload_n (q := 16) dX5_listValue_15 rfl rfl) ?_
  refine E.st (s_gf (q := 19) (v := .int (v11 + 1)) dX5_listValue_16 rfl fX5_45.l (hs_eq) (by decide) (up_eq)) ?_
  refine E.st (s_i2l (q := 20) dX5_listValue_19 rfl) ?_
  refine E.st (p2 := 23) (l2 := [(0, .ref o)]) (s2 := []) (h2 := (hs (hs h o (ob 5 (fo 12 (va_up F 11 (.int (v11 + 1)))))) r2 (la n (vp_updL f (0 : Int32).toNatClampNeg ((v11 + 1).toInt64))))) (s_invv (K := mX4_putNumber) (o := r9) (as := [.int 0, .long ((v11 + 1).toInt64)]) (rest := []) (v := none) dX5_listValue_20 rfl lX5_81 (by omega) rfl (Nat.le_of_ble_eq_true rfl) rfl (Nat.le_of_ble_eq_true rfl) ((hs_ne (ne_oo ho1 ho (by decide))).trans (ho1)) (p_X4_putNumber_2 (d := 1) (Nat.le_refl _) (hs h o (ob 5 (fo 12 (va_up F 11 (.int (v11 + 1)))))) r9 (0 : Int32) ((v11 + 1).toInt64) F1 ((hs_ne (ne_oo ho1 ho (by decide))).trans (ho1)) v3 e3 c r2 e2 n f ((hs_ne (Ne.symm (ne_ol ho ha))).trans (ha)) c1) (fun h => nomatch h)) ?_
  exact E.v dX5_listValue_23 rfl rfl rfl

set_option maxRecDepth 20000 in
theorem p_X5_kindOf_1 {d : Nat} (hd : 1 ≤ d) (h : AH) (o : Nat) (n : Int32) (F : Nat → Value) (ho : h.1 o = ob 5 (fo 12 F)) (c : ¬ (n < 0)) (c1 : ¬ (60 ≤ n)) (r3 : Nat) (e3 : F 3 = .ref r3) (n1 : Nat) (f : Nat → Int32) (ha : h.1 r3 = ia n1 f) (c2 : vp_in n n1) (p : 0 < r3) (c3 : (f n.toNatClampNeg) = (-1)) : CM mX5_kindOf d [.ref o, .int n] h (some (.int (-1))) h := by
  show E false mX5_kindOf d 0 [(0, .ref o), (1, .int n)] [] h _ _
  refine E.st (s_aload_n (q := 1) dX5_kindOf_0 rfl rfl) ?_
  refine E.st (s_iload_n (q := 2) dX5_kindOf_1 rfl rfl) ?_
  refine E.st (p2 := 5) (l2 := [(0, .ref o), (1, .int n)]) (s2 := [.int 0]) (h2 := h) (s_invv (K := mX5_hasValue) (o := o) (as := [.int n]) (rest := []) (v := some (.int 0)) dX5_kindOf_2 rfl lX5_85 (by omega) rfl (Nat.le_of_ble_eq_true rfl) rfl (Nat.le_of_ble_eq_true rfl) (ho) (p_X5_hasValue_3 (d := 0) (Nat.le_refl _) h o n c c1 F ho r3 e3 n1 f ha c2 p c3) (fun h => nomatch h)) ?_
  refine E.st (s_if_eq_t (q := 17) dX5_kindOf_5 (by decide) (by decide)) ?_
  refine E.st (s_iconst (q := 18) (v := (-1)) dX5_kindOf_17 rfl (by decide)) ?_
  exact E.i dX5_kindOf_18 rfl rfl rfl rfl

set_option maxRecDepth 20000 in
theorem p_X5_kindOf_2 {d : Nat} (hd : 1 ≤ d) (h : AH) (o : Nat) (n : Int32) (F : Nat → Value) (ho : h.1 o = ob 5 (fo 12 F)) (c : ¬ (n < 0)) (c1 : ¬ (60 ≤ n)) (r3 : Nat) (e3 : F 3 = .ref r3) (n1 : Nat) (f : Nat → Int32) (ha : h.1 r3 = ia n1 f) (c2 : vp_in n n1) (p : 0 < r3) (c3 : ¬ ((f n.toNatClampNeg) = (-1))) : CM mX5_kindOf d [.ref o, .int n] h (some (.int (f n.toNatClampNeg))) h := by
  show E false mX5_kindOf d 0 [(0, .ref o), (1, .int n)] [] h _ _
  refine E.st (s_aload_n (q := 1) dX5_kindOf_0 rfl rfl) ?_
  refine E.st (s_iload_n (q := 2) dX5_kindOf_1 rfl rfl) ?_
  refine E.st (p2 := 5) (l2 := [(0, .ref o), (1, .int n)]) (s2 := [.int 1]) (h2 := h) (s_invv (K := mX5_hasValue) (o := o) (as := [.int n]) (rest := []) (v := some (.int 1)) dX5_kindOf_2 rfl lX5_85 (by omega) rfl (Nat.le_of_ble_eq_true rfl) rfl (Nat.le_of_ble_eq_true rfl) (ho) (p_X5_hasValue_4 (d := 0) (Nat.le_refl _) h o n c c1 F ho r3 e3 n1 f ha c2 p c3) (fun h => nomatch h)) ?_
  refine E.st (s_if_eq_f (q := 8) (tg := 17) dX5_kindOf_5 (by decide) rfl (by decide)) ?_
  refine E.st (s_aload_n (q := 9) dX5_kindOf_8 rfl rfl) ?_
  refine E.st (s_gf (q := 12) (v := .ref r3) dX5_kindOf_9 rfl fX5_9.l (ho) (by decide) (e3)) ?_
  refine E.st (s_iload_n (q := 13) dX5_kindOf_12 rfl rfl) ?_
  refine E.st (s_iald (q := 14) dX5_kindOf_13 rfl p (ha) c2) ?_
  refine E.st (s_goto (q := 18) dX5_kindOf_14 (by decide)) ?_
  exact E.i dX5_kindOf_18 rfl rfl rfl rfl

set_option maxRecDepth 20000 in
theorem p_X5_numberOf_1 {d : Nat} (hd : 1 ≤ d) (h : AH) (o : Nat) (n : Int32) (F : Nat → Value) (ho : h.1 o = ob 5 (fo 12 F)) (c : ¬ (n < 0)) (c1 : ¬ (60 ≤ n)) (r3 : Nat) (e3 : F 3 = .ref r3) (n1 : Nat) (f : Nat → Int32) (ha : h.1 r3 = ia n1 f) (c2 : vp_in n n1) (p : 0 < r3) (c3 : (f n.toNatClampNeg) = (-1)) : CM mX5_numberOf d [.ref o, .int n] h (some (.long 0)) h := by
  show E false mX5_numberOf d 0 [(0, .ref o), (1, .int n)] [] h _ _
  refine E.st (s_aload_n (q := 1) dX5_numberOf_0 rfl rfl) ?_
  refine E.st (s_iload_n (q := 2) dX5_numberOf_1 rfl rfl) ?_
  refine E.st (p2 := 5) (l2 := [(0, .ref o), (1, .int n)]) (s2 := [.int 0]) (h2 := h) (s_invv (K := mX5_hasValue) (o := o) (as := [.int n]) (rest := []) (v := some (.int 0)) dX5_numberOf_2 rfl lX5_85 (by omega) rfl (Nat.le_of_ble_eq_true rfl) rfl (Nat.le_of_ble_eq_true rfl) (ho) (p_X5_hasValue_3 (d := 0) (Nat.le_refl _) h o n c c1 F ho r3 e3 n1 f ha c2 p c3) (fun h => nomatch h)) ?_
  refine E.st (s_if_eq_t (q := 17) dX5_numberOf_5 (by decide) (by decide)) ?_
  refine E.st (s_lconst (q := 18) (v := 0) dX5_numberOf_17 rfl (by decide)) ?_
  exact E.l dX5_numberOf_18 rfl rfl rfl

set_option maxRecDepth 20000 in
theorem p_X5_numberOf_2 {d : Nat} (hd : 1 ≤ d) (h : AH) (o : Nat) (n : Int32) (F : Nat → Value) (ho : h.1 o = ob 5 (fo 12 F)) (c : ¬ (n < 0)) (c1 : ¬ (60 ≤ n)) (r3 : Nat) (e3 : F 3 = .ref r3) (n1 : Nat) (f : Nat → Int32) (ha : h.1 r3 = ia n1 f) (c2 : vp_in n n1) (p : 0 < r3) (c3 : ¬ ((f n.toNatClampNeg) = (-1))) (r4 : Nat) (e4 : F 4 = .ref r4) (n2 : Nat) (f1 : Nat → Int64) (ha1 : h.1 r4 = la n2 f1) (i : vp_in n n2) : CM mX5_numberOf d [.ref o, .int n] h (some (.long (f1 n.toNatClampNeg))) h := by
  show E false mX5_numberOf d 0 [(0, .ref o), (1, .int n)] [] h _ _
  refine E.st (s_aload_n (q := 1) dX5_numberOf_0 rfl rfl) ?_
  refine E.st (s_iload_n (q := 2) dX5_numberOf_1 rfl rfl) ?_
  refine E.st (p2 := 5) (l2 := [(0, .ref o), (1, .int n)]) (s2 := [.int 1]) (h2 := h) (s_invv (K := mX5_hasValue) (o := o) (as := [.int n]) (rest := []) (v := some (.int 1)) dX5_numberOf_2 rfl lX5_85 (by omega) rfl (Nat.le_of_ble_eq_true rfl) rfl (Nat.le_of_ble_eq_true rfl) (ho) (p_X5_hasValue_4 (d := 0) (Nat.le_refl _) h o n c c1 F ho r3 e3 n1 f ha c2 p c3) (fun h => nomatch h)) ?_
  refine E.st (s_if_eq_f (q := 8) (tg := 17) dX5_numberOf_5 (by decide) rfl (by decide)) ?_
  refine E.st (s_aload_n (q := 9) dX5_numberOf_8 rfl rfl) ?_
  refine E.st (s_gf (q := 12) (v := .ref r4) dX5_numberOf_9 rfl fX5_15.l (ho) (by decide) (e4)) ?_
  refine E.st (s_iload_n (q := 13) dX5_numberOf_12 rfl rfl) ?_
  refine E.st (s_lald (q := 14) dX5_numberOf_13 rfl (ha1) i) ?_
  refine E.st (s_goto (q := 18) dX5_numberOf_14 (by decide)) ?_
  exact E.l dX5_numberOf_18 rfl rfl rfl

set_option maxRecDepth 20000 in
theorem p_X5_lengthOf_1 {d : Nat} (hd : 1 ≤ d) (h : AH) (o : Nat) (n : Int32) (F : Nat → Value) (ho : h.1 o = ob 5 (fo 12 F)) (c : ¬ (n < 0)) (c1 : ¬ (60 ≤ n)) (r3 : Nat) (e3 : F 3 = .ref r3) (n1 : Nat) (f : Nat → Int32) (ha : h.1 r3 = ia n1 f) (c2 : vp_in n n1) (p : 0 < r3) (c3 : (f n.toNatClampNeg) = (-1)) : CM mX5_lengthOf d [.ref o, .int n] h (some (.int 0)) h := by
  show E false mX5_lengthOf d 0 [(0, .ref o), (1, .int n)] [] h _ _
  refine E.st (s_aload_n (q := 1) dX5_lengthOf_0 rfl rfl) ?_
  refine E.st (s_iload_n (q := 2) dX5_lengthOf_1 rfl rfl) ?_
  refine E.st (p2 := 5) (l2 := [(0, .ref o), (1, .int n)]) (s2 := [.int 0]) (h2 := h) (s_invv (K := mX5_hasValue) (o := o) (as := [.int n]) (rest := []) (v := some (.int 0)) dX5_lengthOf_2 rfl lX5_85 (by omega) rfl (Nat.le_of_ble_eq_true rfl) rfl (Nat.le_of_ble_eq_true rfl) (ho) (p_X5_hasValue_3 (d := 0) (Nat.le_refl _) h o n c c1 F ho r3 e3 n1 f ha c2 p c3) (fun h => nomatch h)) ?_
  refine E.st (s_if_eq_t (q := 17) dX5_lengthOf_5 (by decide) (by decide)) ?_
  refine E.st (s_iconst (q := 18) (v := 0) dX5_lengthOf_17 rfl (by decide)) ?_
  exact E.i dX5_lengthOf_18 rfl rfl rfl rfl

set_option maxRecDepth 20000 in
theorem p_X5_lengthOf_2 {d : Nat} (hd : 1 ≤ d) (h : AH) (o : Nat) (n : Int32) (F : Nat → Value) (ho : h.1 o = ob 5 (fo 12 F)) (c : ¬ (n < 0)) (c1 : ¬ (60 ≤ n)) (r3 : Nat) (e3 : F 3 = .ref r3) (n1 : Nat) (f : Nat → Int32) (ha : h.1 r3 = ia n1 f) (c2 : vp_in n n1) (p : 0 < r3) (c3 : ¬ ((f n.toNatClampNeg) = (-1))) (r5 : Nat) (e5 : F 5 = .ref r5) (n2 : Nat) (f1 : Nat → Int32) (ha1 : h.1 r5 = ia n2 f1) (i : vp_in n n2) (p1 : 0 < r5) : CM mX5_lengthOf d [.ref o, .int n] h (some (.int (f1 n.toNatClampNeg))) h := by
  show E false mX5_lengthOf d 0 [(0, .ref o), (1, .int n)] [] h _ _
  refine E.st (s_aload_n (q := 1) dX5_lengthOf_0 rfl rfl) ?_
  refine E.st (s_iload_n (q := 2) dX5_lengthOf_1 rfl rfl) ?_
  refine E.st (p2 := 5) (l2 := [(0, .ref o), (1, .int n)]) (s2 := [.int 1]) (h2 := h) (s_invv (K := mX5_hasValue) (o := o) (as := [.int n]) (rest := []) (v := some (.int 1)) dX5_lengthOf_2 rfl lX5_85 (by omega) rfl (Nat.le_of_ble_eq_true rfl) rfl (Nat.le_of_ble_eq_true rfl) (ho) (p_X5_hasValue_4 (d := 0) (Nat.le_refl _) h o n c c1 F ho r3 e3 n1 f ha c2 p c3) (fun h => nomatch h)) ?_
  refine E.st (s_if_eq_f (q := 8) (tg := 17) dX5_lengthOf_5 (by decide) rfl (by decide)) ?_
  refine E.st (s_aload_n (q := 9) dX5_lengthOf_8 rfl rfl) ?_
  refine E.st (s_gf (q := 12) (v := .ref r5) dX5_lengthOf_9 rfl fX5_19.l (ho) (by decide) (e5)) ?_
  refine E.st (s_iload_n (q := 13) dX5_lengthOf_12 rfl rfl) ?_
  refine E.st (s_iald (q := 14) dX5_lengthOf_13 rfl p1 (ha1) i) ?_
  refine E.st (s_goto (q := 18) dX5_lengthOf_14 (by decide)) ?_
  exact E.i dX5_lengthOf_18 rfl rfl rfl rfl

set_option maxRecDepth 20000 in
theorem p_X5_keep_1 {d : Nat} (hd : 0 ≤ d) (h : AH) (o : Nat) (n : Int32) (a : Int32) (b : Int64) (c : Int32) (c1 : n < 0) : CM mX5_keep d [.ref o, .int n, .int a, .long b, .int c] h (none) h := by
  show E false mX5_keep d 0 [(0, .ref o), (1, .int n), (2, .int a), (3, .long b), (5, .int c)] [] h _ _
  refine E.st (s_iload_n (q := 1) dX5_keep_0 rfl rfl) ?_
  refine E.st (s_if_lt_t (q := 32) dX5_keep_1 (by decide) c1) ?_
  exact E.v dX5_keep_32 rfl rfl rfl

set_option maxRecDepth 20000 in
theorem p_X5_keep_2 {d : Nat} (hd : 0 ≤ d) (h : AH) (o : Nat) (n : Int32) (a : Int32) (b : Int64) (c : Int32) (c1 : ¬ (n < 0)) (c2 : 60 ≤ n) : CM mX5_keep d [.ref o, .int n, .int a, .long b, .int c] h (none) h := by
  show E false mX5_keep d 0 [(0, .ref o), (1, .int n), (2, .int a), (3, .long b), (5, .int c)] [] h _ _
  refine E.st (s_iload_n (q := 1) dX5_keep_0 rfl rfl) ?_
  refine E.st (s_if_lt_f (q := 4) (tg := 32) dX5_keep_1 (by decide) rfl c1) ?_
  refine E.st (s_iload_n (q := 5) dX5_keep_4 rfl rfl) ?_
  refine E.st (s_bipush (q := 7) (v := 60) dX5_keep_5 rfl (by decide)) ?_
  refine E.st (s_icmp_ge_t (q := 32) dX5_keep_7 (by decide) c2) ?_
  exact E.v dX5_keep_32 rfl rfl rfl

set_option maxRecDepth 20000 in
theorem p_X5_keep_3 {d : Nat} (hd : 0 ≤ d) (h : AH) (o : Nat) (n : Int32) (a : Int32) (b : Int64) (c : Int32) (c1 : ¬ (n < 0)) (c2 : ¬ (60 ≤ n)) (F : Nat → Value) (ho : h.1 o = ob 5 (fo 12 F)) (r3 : Nat) (e3 : F 3 = .ref r3) (n1 : Nat) (f : Nat → Int32) (ha : h.1 r3 = ia n1 f) (i : vp_in n n1) (p : 0 < r3) (r4 : Nat) (e4 : F 4 = .ref r4) (n2 : Nat) (f1 : Nat → Int64) (ha1 : h.1 r4 = la n2 f1) (i1 : vp_in n n2) (r5 : Nat) (e5 : F 5 = .ref r5) (n3 : Nat) (f2 : Nat → Int32) (ha2 : h.1 r5 = ia n3 f2) (ne : r5 ≠ r3) (i2 : vp_in n n3) (p1 : 0 < r5) : CM mX5_keep d [.ref o, .int n, .int a, .long b, .int c] h (none) (hs (hs (hs h r3 (ia n1 (upd f n.toNatClampNeg a))) r4 (la n2 (vp_updL f1 n.toNatClampNeg b))) r5 (ia n3 (upd f2 n.toNatClampNeg c))) := by
  show E false mX5_keep d 0 [(0, .ref o), (1, .int n), (2, .int a), (3, .long b), (5, .int c)] [] h _ _
  refine E.st (s_iload_n (q := 1) dX5_keep_0 rfl rfl) ?_
  refine E.st (s_if_lt_f (q := 4) (tg := 32) dX5_keep_1 (by decide) rfl c1) ?_
  refine E.st (s_iload_n (q := 5) dX5_keep_4 rfl rfl) ?_
  refine E.st (s_bipush (q := 7) (v := 60) dX5_keep_5 rfl (by decide)) ?_
  refine E.st (s_icmp_ge_f (q := 10) (tg := 32) dX5_keep_7 (by decide) rfl c2) ?_
  refine E.st (s_aload_n (q := 11) dX5_keep_10 rfl rfl) ?_
  refine E.st (s_gf (q := 14) (v := .ref r3) dX5_keep_11 rfl fX5_9.l (ho) (by decide) (e3)) ?_
  refine E.st (s_iload_n (q := 15) dX5_keep_14 rfl rfl) ?_
  refine E.st (s_iload_n (q := 16) dX5_keep_15 rfl rfl) ?_
  refine E.st (s_iast (q := 17) dX5_keep_16 rfl p (ha) i) ?_
  refine E.st (s_aload_n (q := 18) dX5_keep_17 rfl rfl) ?_
  refine E.st (s_gf (q := 21) (v := .ref r4) dX5_keep_18 rfl fX5_15.l ((hs_ne (ne_oi ho ha)).trans (ho)) (by decide) (e4)) ?_
  refine E.st (s_iload_n (q := 22) dX5_keep_21 rfl rfl) ?_
  refine E.st (s_lload_n (q := 23) dX5_keep_22 rfl rfl) ?_
  refine E.st (s_last (q := 24) dX5_keep_23 rfl ((hs_ne (Ne.symm (ne_il ha ha1))).trans (ha1)) i1) ?_
  refine E.st (s_aload_n (q := 25) dX5_keep_24 rfl rfl) ?_
  refine E.st (s_gf (q := 28) (v := .ref r5) dX5_keep_25 rfl fX5_19.l ((hs_ne (ne_ol ho ha1)).trans ((hs_ne (ne_oi ho ha)).trans (ho))) (by decide) (e5)) ?_
  refine E.st (s_iload_n (q := 29) dX5_keep_28 rfl rfl) ?_
  refine E.st (s_iload (q := 31) dX5_keep_29 rfl rfl) ?_
  refine E.st (s_iast (q := 32) dX5_keep_31 rfl p1 ((hs_ne (ne_il ha2 ha1)).trans ((hs_ne ne).trans (ha2))) i2) ?_
  exact E.v dX5_keep_32 rfl rfl rfl

set_option maxRecDepth 20000 in
theorem p_X1_tokens_1 {d : Nat} (hd : 0 ≤ d) (h : AH) (o : Nat) (F : Nat → Value) (ho : h.1 o = ob 1 (fo 4 F)) (r0 : Nat) (e0 : F 0 = .ref r0) : CM mX1_tokens d [.ref o] h (some (.ref r0)) h := by
  show E false mX1_tokens d 0 [(0, .ref o)] [] h _ _
  refine E.st (s_aload_n (q := 1) dX1_tokens_0 rfl rfl) ?_
  refine E.st (s_gf (q := 4) (v := .ref r0) dX1_tokens_1 rfl fX1_14.l (ho) (by decide) (e0)) ?_
  exact E.a dX1_tokens_4 rfl (Or.inl ⟨_, rfl⟩) rfl rfl

set_option maxRecDepth 20000 in
theorem p_X1_decisions_1 {d : Nat} (hd : 0 ≤ d) (h : AH) (o : Nat) (F : Nat → Value) (ho : h.1 o = ob 1 (fo 4 F)) (v2 : Int32) (e2 : F 2 = .int v2) : CM mX1_decisions d [.ref o] h (some (.int v2)) h := by
  show E false mX1_decisions d 0 [(0, .ref o)] [] h _ _
  refine E.st (s_aload_n (q := 1) dX1_decisions_0 rfl rfl) ?_
  refine E.st (s_gf (q := 4) (v := .int v2) dX1_decisions_1 rfl fX1_20.l (ho) (by decide) (e2)) ?_
  exact E.i dX1_decisions_4 rfl rfl rfl rfl

set_option maxRecDepth 20000 in
theorem p_X1_labour_1 {d : Nat} (hd : 0 ≤ d) (h : AH) (o : Nat) (F : Nat → Value) (ho : h.1 o = ob 1 (fo 4 F)) (v3 : Int32) (e3 : F 3 = .int v3) : CM mX1_labour d [.ref o] h (some (.int v3)) h := by
  show E false mX1_labour d 0 [(0, .ref o)] [] h _ _
  refine E.st (s_aload_n (q := 1) dX1_labour_0 rfl rfl) ?_
  refine E.st (s_gf (q := 4) (v := .int v3) dX1_labour_1 rfl fX1_24.l (ho) (by decide) (e3)) ?_
  exact E.i dX1_labour_4 rfl rfl rfl rfl

set_option maxRecDepth 20000 in
theorem p_X1_alternativeAt_1 {d : Nat} (hd : 0 ≤ d) (h : AH) (o : Nat) (n : Int32) (c : n < 0) : CM mX1_alternativeAt d [.ref o, .int n] h (some (.int (-1))) h := by
  show E false mX1_alternativeAt d 0 [(0, .ref o), (1, .int n)] [] h _ _
  refine E.st (s_iload_n (q := 1) dX1_alternativeAt_0 rfl rfl) ?_
  refine E.st (s_if_lt_t (q := 24) dX1_alternativeAt_1 (by decide) c) ?_
  refine E.st (s_iconst (q := 25) (v := (-1)) dX1_alternativeAt_24 rfl (by decide)) ?_
  exact E.i dX1_alternativeAt_25 rfl rfl rfl rfl

set_option maxRecDepth 20000 in
theorem p_X1_alternativeAt_2 {d : Nat} (hd : 0 ≤ d) (h : AH) (o : Nat) (n : Int32) (c : ¬ (n < 0)) (F : Nat → Value) (ho : h.1 o = ob 1 (fo 4 F)) (v2 : Int32) (e2 : F 2 = .int v2) (c1 : v2 ≤ n) : CM mX1_alternativeAt d [.ref o, .int n] h (some (.int (-1))) h := by
  show E false mX1_alternativeAt d 0 [(0, .ref o), (1, .int n)] [] h _ _
  refine E.st (s_iload_n (q := 1) dX1_alternativeAt_0 rfl rfl) ?_
  refine E.st (s_if_lt_f (q := 4) (tg := 24) dX1_alternativeAt_1 (by decide) rfl c) ?_
  refine E.st (s_iload_n (q := 5) dX1_alternativeAt_4 rfl rfl) ?_
  refine E.st (s_aload_n (q := 6) dX1_alternativeAt_5 rfl rfl) ?_
  refine E.st (s_gf (q := 9) (v := .int v2) dX1_alternativeAt_6 rfl fX1_20.l (ho) (by decide) (e2)) ?_
  refine E.st (s_icmp_ge_t (q := 24) dX1_alternativeAt_9 (by decide) c1) ?_
  refine E.st (s_iconst (q := 25) (v := (-1)) dX1_alternativeAt_24 rfl (by decide)) ?_
  exact E.i dX1_alternativeAt_25 rfl rfl rfl rfl

set_option maxRecDepth 20000 in
theorem p_X1_alternativeAt_3 {d : Nat} (hd : 0 ≤ d) (h : AH) (o : Nat) (n : Int32) (c : ¬ (n < 0)) (F : Nat → Value) (ho : h.1 o = ob 1 (fo 4 F)) (v2 : Int32) (e2 : F 2 = .int v2) (c1 : ¬ (v2 ≤ n)) (v1 : Int64) (e1 : F 1 = .long v1) : CM mX1_alternativeAt d [.ref o, .int n] h (some (.int (((((v1).toUInt64 >>> ((n : Int32).toInt64.toUInt64 &&& Int64.toUInt64 63)).toInt64) &&& 1).toInt32))) h := by
  show E false mX1_alternativeAt d 0 [(0, .ref o), (1, .int n)] [] h _ _
  refine E.st (s_iload_n (q := 1) dX1_alternativeAt_0 rfl rfl) ?_
  refine E.st (s_if_lt_f (q := 4) (tg := 24) dX1_alternativeAt_1 (by decide) rfl c) ?_
  refine E.st (s_iload_n (q := 5) dX1_alternativeAt_4 rfl rfl) ?_
  refine E.st (s_aload_n (q := 6) dX1_alternativeAt_5 rfl rfl) ?_
  refine E.st (s_gf (q := 9) (v := .int v2) dX1_alternativeAt_6 rfl fX1_20.l (ho) (by decide) (e2)) ?_
  refine E.st (s_icmp_ge_f (q := 12) (tg := 24) dX1_alternativeAt_9 (by decide) rfl c1) ?_
  refine E.st (s_aload_n (q := 13) dX1_alternativeAt_12 rfl rfl) ?_
  refine E.st (s_gf (q := 16) (v := .long v1) dX1_alternativeAt_13 rfl fX1_27.l (ho) (by decide) (e1)) ?_
  refine E.st (s_iload_n (q := 17) dX1_alternativeAt_16 rfl rfl) ?_
  refine E.st (s_lushr (q := 18) dX1_alternativeAt_17 rfl) ?_
  refine E.st (s_lconst (q := 19) (v := 1) dX1_alternativeAt_18 rfl (by decide)) ?_
  refine E.st (s_land (q := 20) dX1_alternativeAt_19 rfl) ?_
  refine E.st (s_l2i (q := 21) dX1_alternativeAt_20 rfl) ?_
  refine E.st (s_goto (q := 25) dX1_alternativeAt_21 (by decide)) ?_
  exact E.i dX1_alternativeAt_25 rfl rfl rfl rfl

set_option maxRecDepth 20000 in
theorem p_X1_forget_1 {d : Nat} (hd : 1 ≤ d) (h : AH) (o : Nat) (F : Nat → Value) (ho : h.1 o = ob 1 (fo 4 F)) (r0 : Nat) (e0 : F 0 = .ref r0) (F1 : Nat → Value) (ho1 : h.1 r0 = ob 4 (fo 4 F1)) (v3 : Int32) (e3 : F1 3 = .int v3) (c : v3 ≤ (0 : Int32)) : CM mX1_forget d [.ref o] h (none) (hs (hs (hs h o (ob 1 (fo 4 (va_up F 1 (.long 0))))) o (ob 1 (fo 4 (va_up (va_up F 1 (.long 0)) 2 (.int 0))))) o (ob 1 (fo 4 (va_up (va_up (va_up F 1 (.long 0)) 2 (.int 0)) 3 (.int 0))))) := by
  show E false mX1_forget d 0 [(0, .ref o)] [] h _ _
  refine E.st (s_aload_n (q := 1) dX1_forget_0 rfl rfl) ?_
  refine E.st (s_gf (q := 4) (v := .ref r0) dX1_forget_1 rfl fX1_14.l (ho) (by decide) (e0)) ?_
  refine E.st (s_iconst (q := 5) (v := 0) dX1_forget_4 rfl (by decide)) ?_
  refine E.st (p2 := 8) (l2 := [(0, .ref o)]) (s2 := []) (h2 := h) (s_invv (K := mX4_cutTo) (o := r0) (as := [.int 0]) (rest := []) (v := none) dX1_forget_5 rfl lX1_31 (by omega) rfl (Nat.le_of_ble_eq_true rfl) rfl (Nat.le_of_ble_eq_true rfl) (ho1) (p_X4_cutTo_2 (d := 0) (Nat.le_refl _) h r0 (0 : Int32) (by decide) F1 ho1 v3 e3 c) (fun h => nomatch h)) ?_
  refine E.st (s_aload_n (q := 9) dX1_forget_8 rfl rfl) ?_
  refine E.st (s_lconst (q := 10) (v := 0) dX1_forget_9 rfl (by decide)) ?_
  refine E.st (s_pf (q := 13) dX1_forget_10 rfl fX1_27 (ho) (by decide) (fun _ => ⟨rfl, rfl⟩)) ?_
  refine E.st (s_aload_n (q := 14) dX1_forget_13 rfl rfl) ?_
  refine E.st (s_iconst (q := 15) (v := 0) dX1_forget_14 rfl (by decide)) ?_
  refine E.st (s_pf (q := 18) dX1_forget_15 rfl fX1_20 (hs_eq) (by decide) (fun _ => ⟨rfl, rfl⟩)) ?_
  refine E.st (s_aload_n (q := 19) dX1_forget_18 rfl rfl) ?_
  refine E.st (s_iconst (q := 20) (v := 0) dX1_forget_19 rfl (by decide)) ?_
  refine E.st (s_pf (q := 23) dX1_forget_20 rfl fX1_24 (hs_eq) (by decide) (fun _ => ⟨rfl, rfl⟩)) ?_
  exact E.v dX1_forget_23 rfl rfl rfl

set_option maxRecDepth 20000 in
theorem p_X1_forget_2 {d : Nat} (hd : 1 ≤ d) (h : AH) (o : Nat) (F : Nat → Value) (ho : h.1 o = ob 1 (fo 4 F)) (r0 : Nat) (e0 : F 0 = .ref r0) (F1 : Nat → Value) (ho1 : h.1 r0 = ob 4 (fo 4 F1)) (v3 : Int32) (e3 : F1 3 = .int v3) (c : ¬ (v3 ≤ (0 : Int32))) : CM mX1_forget d [.ref o] h (none) (hs (hs (hs (hs h r0 (ob 4 (fo 4 (va_up F1 3 (.int (0 : Int32)))))) o (ob 1 (fo 4 (va_up F 1 (.long 0))))) o (ob 1 (fo 4 (va_up (va_up F 1 (.long 0)) 2 (.int 0))))) o (ob 1 (fo 4 (va_up (va_up (va_up F 1 (.long 0)) 2 (.int 0)) 3 (.int 0))))) := by
  show E false mX1_forget d 0 [(0, .ref o)] [] h _ _
  refine E.st (s_aload_n (q := 1) dX1_forget_0 rfl rfl) ?_
  refine E.st (s_gf (q := 4) (v := .ref r0) dX1_forget_1 rfl fX1_14.l (ho) (by decide) (e0)) ?_
  refine E.st (s_iconst (q := 5) (v := 0) dX1_forget_4 rfl (by decide)) ?_
  refine E.st (p2 := 8) (l2 := [(0, .ref o)]) (s2 := []) (h2 := (hs h r0 (ob 4 (fo 4 (va_up F1 3 (.int (0 : Int32))))))) (s_invv (K := mX4_cutTo) (o := r0) (as := [.int 0]) (rest := []) (v := none) dX1_forget_5 rfl lX1_31 (by omega) rfl (Nat.le_of_ble_eq_true rfl) rfl (Nat.le_of_ble_eq_true rfl) (ho1) (p_X4_cutTo_3 (d := 0) (Nat.le_refl _) h r0 (0 : Int32) (by decide) F1 ho1 v3 e3 c) (fun h => nomatch h)) ?_
  refine E.st (s_aload_n (q := 9) dX1_forget_8 rfl rfl) ?_
  refine E.st (s_lconst (q := 10) (v := 0) dX1_forget_9 rfl (by decide)) ?_
  refine E.st (s_pf (q := 13) dX1_forget_10 rfl fX1_27 ((hs_ne (ne_oo ho ho1 (by decide))).trans (ho)) (by decide) (fun _ => ⟨rfl, rfl⟩)) ?_
  refine E.st (s_aload_n (q := 14) dX1_forget_13 rfl rfl) ?_
  refine E.st (s_iconst (q := 15) (v := 0) dX1_forget_14 rfl (by decide)) ?_
  refine E.st (s_pf (q := 18) dX1_forget_15 rfl fX1_20 (hs_eq) (by decide) (fun _ => ⟨rfl, rfl⟩)) ?_
  refine E.st (s_aload_n (q := 19) dX1_forget_18 rfl rfl) ?_
  refine E.st (s_iconst (q := 20) (v := 0) dX1_forget_19 rfl (by decide)) ?_
  refine E.st (s_pf (q := 23) dX1_forget_20 rfl fX1_24 (hs_eq) (by decide) (fun _ => ⟨rfl, rfl⟩)) ?_
  exact E.v dX1_forget_23 rfl rfl rfl

set_option maxRecDepth 20000 in
theorem p_X3_isThere_1 {d : Nat} (hd : 0 ≤ d) (h : AH) (o : Nat) (F : Nat → Value) (ho : h.1 o = ob 3 (fo 15 F)) (v4 : Int32) (e4 : F 4 = .int v4) (c : narrow .boolean (.int v4) = .int v4) : CM mX3_isThere d [.ref o] h (some (.int v4)) h := by
  show E false mX3_isThere d 0 [(0, .ref o)] [] h _ _
  refine E.st (s_aload_n (q := 1) dX3_isThere_0 rfl rfl) ?_
  refine E.st (s_gf (q := 4) (v := .int v4) dX3_isThere_1 rfl fX3_41.l (ho) (by decide) (e4)) ?_
  exact E.i dX3_isThere_4 rfl c rfl rfl

set_option maxRecDepth 20000 in
theorem p_X3_latest_1 {d : Nat} (hd : 0 ≤ d) (h : AH) (o : Nat) (F : Nat → Value) (ho : h.1 o = ob 3 (fo 15 F)) (r1 : Nat) (e1 : F 1 = .ref r1) : CM mX3_latest d [.ref o] h (some (.ref r1)) h := by
  show E false mX3_latest d 0 [(0, .ref o)] [] h _ _
  refine E.st (s_aload_n (q := 1) dX3_latest_0 rfl rfl) ?_
  refine E.st (s_gf (q := 4) (v := .ref r1) dX3_latest_1 rfl fX3_12.l (ho) (by decide) (e1)) ?_
  exact E.a dX3_latest_4 rfl (Or.inl ⟨_, rfl⟩) rfl rfl

set_option maxRecDepth 20000 in
theorem p_X3_places_1 {d : Nat} (hd : 0 ≤ d) (h : AH) (o : Nat) (F : Nat → Value) (ho : h.1 o = ob 3 (fo 15 F)) (v10 : Int32) (e10 : F 10 = .int v10) : CM mX3_places d [.ref o] h (some (.int v10)) h := by
  show E false mX3_places d 0 [(0, .ref o)] [] h _ _
  refine E.st (s_aload_n (q := 1) dX3_places_0 rfl rfl) ?_
  refine E.st (s_gf (q := 4) (v := .int v10) dX3_places_1 rfl fX3_45.l (ho) (by decide) (e10)) ?_
  exact E.i dX3_places_4 rfl rfl rfl rfl

set_option maxRecDepth 20000 in
theorem p_X3_values_1 {d : Nat} (hd : 0 ≤ d) (h : AH) (o : Nat) (F : Nat → Value) (ho : h.1 o = ob 3 (fo 15 F)) (v11 : Int32) (e11 : F 11 = .int v11) : CM mX3_values d [.ref o] h (some (.int v11)) h := by
  show E false mX3_values d 0 [(0, .ref o)] [] h _ _
  refine E.st (s_aload_n (q := 1) dX3_values_0 rfl rfl) ?_
  refine E.st (s_gf (q := 4) (v := .int v11) dX3_values_1 rfl fX3_48.l (ho) (by decide) (e11)) ?_
  exact E.i dX3_values_4 rfl rfl rfl rfl

set_option maxRecDepth 20000 in
theorem p_X3_failed_1 {d : Nat} (hd : 0 ≤ d) (h : AH) (o : Nat) (F : Nat → Value) (ho : h.1 o = ob 3 (fo 15 F)) (v12 : Int32) (e12 : F 12 = .int v12) : CM mX3_failed d [.ref o] h (some (.int v12)) h := by
  show E false mX3_failed d 0 [(0, .ref o)] [] h _ _
  refine E.st (s_aload_n (q := 1) dX3_failed_0 rfl rfl) ?_
  refine E.st (s_gf (q := 4) (v := .int v12) dX3_failed_1 rfl fX3_51.l (ho) (by decide) (e12)) ?_
  exact E.i dX3_failed_4 rfl rfl rfl rfl

set_option maxRecDepth 20000 in
theorem p_X3_givenUp_1 {d : Nat} (hd : 0 ≤ d) (h : AH) (o : Nat) (F : Nat → Value) (ho : h.1 o = ob 3 (fo 15 F)) (v13 : Int32) (e13 : F 13 = .int v13) : CM mX3_givenUp d [.ref o] h (some (.int v13)) h := by
  show E false mX3_givenUp d 0 [(0, .ref o)] [] h _ _
  refine E.st (s_aload_n (q := 1) dX3_givenUp_0 rfl rfl) ?_
  refine E.st (s_gf (q := 4) (v := .int v13) dX3_givenUp_1 rfl fX3_54.l (ho) (by decide) (e13)) ?_
  exact E.i dX3_givenUp_4 rfl rfl rfl rfl

set_option maxRecDepth 20000 in
theorem p_X3_cut_1 {d : Nat} (hd : 0 ≤ d) (h : AH) (o : Nat) (F : Nat → Value) (ho : h.1 o = ob 3 (fo 15 F)) (v14 : Int32) (e14 : F 14 = .int v14) : CM mX3_cut d [.ref o] h (some (.int v14)) h := by
  show E false mX3_cut d 0 [(0, .ref o)] [] h _ _
  refine E.st (s_aload_n (q := 1) dX3_cut_0 rfl rfl) ?_
  refine E.st (s_gf (q := 4) (v := .int v14) dX3_cut_1 rfl fX3_57.l (ho) (by decide) (e14)) ?_
  exact E.i dX3_cut_4 rfl rfl rfl rfl

set_option maxRecDepth 20000 in
theorem p_X3_mostDecisions_1 {d : Nat} (hd : 0 ≤ d) (h : AH) (o : Nat) (F : Nat → Value) (ho : h.1 o = ob 3 (fo 15 F)) (v7 : Int32) (e7 : F 7 = .int v7) (c : v7 = 1) (v9 : Int32) (e9 : F 9 = .int v9) : CM mX3_mostDecisions d [.ref o] h (some (.int (v9 - 1))) h := by
  show E false mX3_mostDecisions d 0 [(0, .ref o)] [] h _ _
  refine E.st (s_aload_n (q := 1) dX3_mostDecisions_0 rfl rfl) ?_
  refine E.st (s_gf (q := 4) (v := .int v7) dX3_mostDecisions_1 rfl fX3_71.l (ho) (by decide) (e7)) ?_
  refine E.st (s_lookup (q := 32) (off := 28) dX3_mostDecisions_4 (by decide) (by rw [c]; decide) (by decide)) ?_
  refine E.st (s_aload_n (q := 33) dX3_mostDecisions_32 rfl rfl) ?_
  refine E.st (s_gf (q := 36) (v := .int v9) dX3_mostDecisions_33 rfl fX3_74.l (ho) (by decide) (e9)) ?_
  refine E.st (s_iconst (q := 37) (v := 1) dX3_mostDecisions_36 rfl (by decide)) ?_
  refine E.st (s_isub (q := 38) dX3_mostDecisions_37 rfl) ?_
  exact E.i dX3_mostDecisions_38 rfl rfl rfl rfl

set_option maxRecDepth 20000 in
theorem p_X3_mostDecisions_2 {d : Nat} (hd : 0 ≤ d) (h : AH) (o : Nat) (F : Nat → Value) (ho : h.1 o = ob 3 (fo 15 F)) (v7 : Int32) (e7 : F 7 = .int v7) (c : v7 = 2) (v8 : Int32) (e8 : F 8 = .int v8) : CM mX3_mostDecisions d [.ref o] h (some (.int v8)) h := by
  show E false mX3_mostDecisions d 0 [(0, .ref o)] [] h _ _
  refine E.st (s_aload_n (q := 1) dX3_mostDecisions_0 rfl rfl) ?_
  refine E.st (s_gf (q := 4) (v := .int v7) dX3_mostDecisions_1 rfl fX3_71.l (ho) (by decide) (e7)) ?_
  refine E.st (s_lookup (q := 39) (off := 35) dX3_mostDecisions_4 (by decide) (by rw [c]; decide) (by decide)) ?_
  refine E.st (s_aload_n (q := 40) dX3_mostDecisions_39 rfl rfl) ?_
  refine E.st (s_gf (q := 43) (v := .int v8) dX3_mostDecisions_40 rfl fX3_28.l (ho) (by decide) (e8)) ?_
  exact E.i dX3_mostDecisions_43 rfl rfl rfl rfl

set_option maxRecDepth 20000 in
theorem p_X3_mostDecisions_3 {d : Nat} (hd : 0 ≤ d) (h : AH) (o : Nat) (F : Nat → Value) (ho : h.1 o = ob 3 (fo 15 F)) (v7 : Int32) (e7 : F 7 = .int v7) (c : ¬ v7.toInt = 1) (c1 : ¬ v7.toInt = 2) : CM mX3_mostDecisions d [.ref o] h (some (.int 60)) h := by
  show E false mX3_mostDecisions d 0 [(0, .ref o)] [] h _ _
  refine E.st (s_aload_n (q := 1) dX3_mostDecisions_0 rfl rfl) ?_
  refine E.st (s_gf (q := 4) (v := .int v7) dX3_mostDecisions_1 rfl fX3_71.l (ho) (by decide) (e7)) ?_
  refine E.st (s_lookup (q := 44) (off := 40) dX3_mostDecisions_4 (by decide) (by simp [Op.lookupswitch.offset, Ne.symm c, Ne.symm c1]) (by decide)) ?_
  refine E.st (s_bipush (q := 46) (v := 60) dX3_mostDecisions_44 rfl (by decide)) ?_
  exact E.i dX3_mostDecisions_46 rfl rfl rfl rfl

set_option maxRecDepth 20000 in
theorem p_X6_labour_1 {d : Nat} (hd : 0 ≤ d) (h : AH) (o : Nat) (F : Nat → Value) (ho : h.1 o = ob 6 (fo 10 F)) (v3 : Int32) (e3 : F 3 = .int v3) : CM mX6_labour d [.ref o] h (some (.int v3)) h := by
  show E false mX6_labour d 0 [(0, .ref o)] [] h _ _
  refine E.st (s_aload_n (q := 1) dX6_labour_0 rfl rfl) ?_
  refine E.st (s_gf (q := 4) (v := .int v3) dX6_labour_1 rfl fX6_43.l (ho) (by decide) (e3)) ?_
  exact E.i dX6_labour_4 rfl rfl rfl rfl

set_option maxRecDepth 20000 in
theorem p_X6_decisions_1 {d : Nat} (hd : 1 ≤ d) (h : AH) (o : Nat) (F : Nat → Value) (ho : h.1 o = ob 6 (fo 10 F)) (r1 : Nat) (e1 : F 1 = .ref r1) (F1 : Nat → Value) (ho1 : h.1 r1 = ob 5 (fo 12 F1)) (v7 : Int32) (e7 : F1 7 = .int v7) : CM mX6_decisions d [.ref o] h (some (.int v7)) h := by
  show E false mX6_decisions d 0 [(0, .ref o)] [] h _ _
  refine E.st (s_aload_n (q := 1) dX6_decisions_0 rfl rfl) ?_
  refine E.st (s_gf (q := 4) (v := .ref r1) dX6_decisions_1 rfl fX6_14.l (ho) (by decide) (e1)) ?_
  refine E.st (p2 := 7) (l2 := [(0, .ref o)]) (s2 := [.int v7]) (h2 := h) (s_invv (K := mX5_decisions) (o := r1) (as := []) (rest := []) (v := some (.int v7)) dX6_decisions_4 rfl lX6_47 (by omega) rfl (Nat.le_of_ble_eq_true rfl) rfl (Nat.le_of_ble_eq_true rfl) (ho1) (p_X5_decisions_1 (d := 0) (Nat.le_refl _) h r1 F1 ho1 v7 e7) (fun h => nomatch h)) ?_
  exact E.i dX6_decisions_7 rfl rfl rfl rfl

set_option maxRecDepth 20000 in
theorem p_X6_tokens_1 {d : Nat} (hd : 1 ≤ d) (h : AH) (o : Nat) (F : Nat → Value) (ho : h.1 o = ob 6 (fo 10 F)) (r1 : Nat) (e1 : F 1 = .ref r1) (F1 : Nat → Value) (ho1 : h.1 r1 = ob 5 (fo 12 F1)) (r9 : Nat) (e9 : F1 9 = .ref r9) : CM mX6_tokens d [.ref o] h (some (.ref r9)) h := by
  show E false mX6_tokens d 0 [(0, .ref o)] [] h _ _
  refine E.st (s_aload_n (q := 1) dX6_tokens_0 rfl rfl) ?_
  refine E.st (s_gf (q := 4) (v := .ref r1) dX6_tokens_1 rfl fX6_14.l (ho) (by decide) (e1)) ?_
  refine E.st (p2 := 7) (l2 := [(0, .ref o)]) (s2 := [.ref r9]) (h2 := h) (s_invv (K := mX5_tokens) (o := r1) (as := []) (rest := []) (v := some (.ref r9)) dX6_tokens_4 rfl lX6_51 (by omega) rfl (Nat.le_of_ble_eq_true rfl) rfl (Nat.le_of_ble_eq_true rfl) (ho1) (p_X5_tokens_1 (d := 0) (Nat.le_refl _) h r1 F1 ho1 r9 e9) (fun h => nomatch h)) ?_
  exact E.a dX6_tokens_7 rfl (Or.inl ⟨_, rfl⟩) rfl rfl

set_option maxRecDepth 20000 in
theorem p_X6_take_1 {d : Nat} (hd : 0 ≤ d) (h : AH) (o : Nat) (a : Int32) (b : Int64) (c : Int32) (F : Nat → Value) (ho : h.1 o = ob 6 (fo 10 F)) : CM mX6_take d [.ref o, .int a, .long b, .int c] h (some (.int 0)) (hs (hs (hs h o (ob 6 (fo 10 (va_up F 5 (.int a))))) o (ob 6 (fo 10 (va_up (va_up F 5 (.int a)) 6 (.long b))))) o (ob 6 (fo 10 (va_up (va_up (va_up F 5 (.int a)) 6 (.long b)) 7 (.int c))))) := by
  show E false mX6_take d 0 [(0, .ref o), (1, .int a), (2, .long b), (4, .int c)] [] h _ _
  refine E.st (s_aload_n (q := 1) dX6_take_0 rfl rfl) ?_
  refine E.st (s_iload_n (q := 2) dX6_take_1 rfl rfl) ?_
  refine E.st (s_pf (q := 5) dX6_take_2 rfl fX6_69 (ho) (by decide) (fun _ => ⟨rfl, rfl⟩)) ?_
  refine E.st (s_aload_n (q := 6) dX6_take_5 rfl rfl) ?_
  refine E.st (s_lload_n (q := 7) dX6_take_6 rfl rfl) ?_
  refine E.st (s_pf (q := 10) dX6_take_7 rfl fX6_72 (hs_eq) (by decide) (fun _ => ⟨rfl, rfl⟩)) ?_
  refine E.st (s_aload_n (q := 11) dX6_take_10 rfl rfl) ?_
  refine E.st (s_iload (q := 13) dX6_take_11 rfl rfl) ?_
  refine E.st (s_pf (q := 16) dX6_take_13 rfl fX6_80 (hs_eq) (by decide) (fun _ => ⟨rfl, rfl⟩)) ?_
  refine E.st (s_iconst (q := 17) (v := 0) dX6_take_16 rfl (by decide)) ?_
  exact E.i dX6_take_17 rfl rfl rfl rfl

set_option maxRecDepth 20000 in
theorem p_X6_takeNumber_1 {d : Nat} (hd : 1 ≤ d) (h : AH) (o : Nat) (b : Int64) (F : Nat → Value) (ho : h.1 o = ob 6 (fo 10 F)) : CM mX6_takeNumber d [.ref o, .long b] h (some (.int 0)) (hs (hs (hs h o (ob 6 (fo 10 (va_up F 5 (.int (0 : Int32)))))) o (ob 6 (fo 10 (va_up (va_up F 5 (.int (0 : Int32))) 6 (.long b))))) o (ob 6 (fo 10 (va_up (va_up (va_up F 5 (.int (0 : Int32))) 6 (.long b)) 7 (.int (1 : Int32)))))) := by
  show E false mX6_takeNumber d 0 [(0, .ref o), (1, .long b)] [] h _ _
  refine E.st (s_aload_n (q := 1) dX6_takeNumber_0 rfl rfl) ?_
  refine E.st (s_iconst (q := 2) (v := 0) dX6_takeNumber_1 rfl (by decide)) ?_
  refine E.st (s_lload_n (q := 3) dX6_takeNumber_2 rfl rfl) ?_
  refine E.st (s_iconst (q := 4) (v := 1) dX6_takeNumber_3 rfl (by decide)) ?_
  refine E.st (p2 := 7) (l2 := [(0, .ref o), (1, .long b)]) (s2 := [.int 0]) (h2 := (hs (hs (hs h o (ob 6 (fo 10 (va_up F 5 (.int (0 : Int32)))))) o (ob 6 (fo 10 (va_up (va_up F 5 (.int (0 : Int32))) 6 (.long b))))) o (ob 6 (fo 10 (va_up (va_up (va_up F 5 (.int (0 : Int32))) 6 (.long b)) 7 (.int (1 : Int32))))))) (s_invv (K := mX6_take) (o := o) (as := [.int 0, .long b, .int 1]) (rest := []) (v := some (.int 0)) dX6_takeNumber_4 rfl lX6_116 (by omega) rfl (Nat.le_of_ble_eq_true rfl) rfl (Nat.le_of_ble_eq_true rfl) (ho) (p_X6_take_1 (d := 0) (Nat.le_refl _) h o (0 : Int32) b (1 : Int32) F ho) (fun h => nomatch h)) ?_
  exact E.i dX6_takeNumber_7 rfl rfl rfl rfl

set_option maxRecDepth 20000 in
theorem p_X6_reckon_1 {d : Nat} (hd : 2 ≤ d) (h : AH) (o : Nat) (t : Int32) (a : Int64) (b : Int64) (c : t = 0) (F : Nat → Value) (ho : h.1 o = ob 6 (fo 10 F)) : CM mX6_reckon d [.ref o, .int t, .long a, .long b] h (some (.int 0)) (hs (hs (hs h o (ob 6 (fo 10 (va_up F 5 (.int (0 : Int32)))))) o (ob 6 (fo 10 (va_up (va_up F 5 (.int (0 : Int32))) 6 (.long (a + b)))))) o (ob 6 (fo 10 (va_up (va_up (va_up F 5 (.int (0 : Int32))) 6 (.long (a + b))) 7 (.int (1 : Int32)))))) := by
  show E false mX6_reckon d 0 [(0, .ref o), (1, .int t), (2, .long a), (4, .long b)] [] h _ _
  refine E.st (s_iload_n (q := 1) dX6_reckon_0 rfl rfl) ?_
  refine E.st (s_tabIn (q := 40) (off := 39) dX6_reckon_1 (by rw [c]; decide) (by rw [c]; decide) (by rw [c]; rfl) (by decide)) ?_
  refine E.st (s_aload_n (q := 41) dX6_reckon_40 rfl rfl) ?_
  refine E.st (s_lload_n (q := 42) dX6_reckon_41 rfl rfl) ?_
  refine E.st (s_lload (q := 44) dX6_reckon_42 rfl rfl) ?_
  refine E.st (s_ladd (q := 45) dX6_reckon_44 rfl) ?_
  refine E.st (p2 := 48) (l2 := [(0, .ref o), (1, .int t), (2, .long a), (4, .long b)]) (s2 := [.int 0]) (h2 := (hs (hs (hs h o (ob 6 (fo 10 (va_up F 5 (.int (0 : Int32)))))) o (ob 6 (fo 10 (va_up (va_up F 5 (.int (0 : Int32))) 6 (.long (a + b)))))) o (ob 6 (fo 10 (va_up (va_up (va_up F 5 (.int (0 : Int32))) 6 (.long (a + b))) 7 (.int (1 : Int32))))))) (s_invv (K := mX6_takeNumber) (o := o) (as := [.long (a + b)]) (rest := []) (v := some (.int 0)) dX6_reckon_45 rfl lX6_137 (by omega) rfl (Nat.le_of_ble_eq_true rfl) rfl (Nat.le_of_ble_eq_true rfl) (ho) (p_X6_takeNumber_1 (d := 1) (Nat.le_refl _) h o (a + b) F ho) (fun h => nomatch h)) ?_
  exact E.i dX6_reckon_48 rfl rfl rfl rfl

set_option maxRecDepth 20000 in
theorem p_X6_reckon_2 {d : Nat} (hd : 2 ≤ d) (h : AH) (o : Nat) (t : Int32) (a : Int64) (b : Int64) (c : t = 1) (F : Nat → Value) (ho : h.1 o = ob 6 (fo 10 F)) : CM mX6_reckon d [.ref o, .int t, .long a, .long b] h (some (.int 0)) (hs (hs (hs h o (ob 6 (fo 10 (va_up F 5 (.int (0 : Int32)))))) o (ob 6 (fo 10 (va_up (va_up F 5 (.int (0 : Int32))) 6 (.long (a - b)))))) o (ob 6 (fo 10 (va_up (va_up (va_up F 5 (.int (0 : Int32))) 6 (.long (a - b))) 7 (.int (1 : Int32)))))) := by
  show E false mX6_reckon d 0 [(0, .ref o), (1, .int t), (2, .long a), (4, .long b)] [] h _ _
  refine E.st (s_iload_n (q := 1) dX6_reckon_0 rfl rfl) ?_
  refine E.st (s_tabIn (q := 49) (off := 48) dX6_reckon_1 (by rw [c]; decide) (by rw [c]; decide) (by rw [c]; rfl) (by decide)) ?_
  refine E.st (s_aload_n (q := 50) dX6_reckon_49 rfl rfl) ?_
  refine E.st (s_lload_n (q := 51) dX6_reckon_50 rfl rfl) ?_
  refine E.st (s_lload (q := 53) dX6_reckon_51 rfl rfl) ?_
  refine E.st (s_lsub (q := 54) dX6_reckon_53 rfl) ?_
  refine E.st (p2 := 57) (l2 := [(0, .ref o), (1, .int t), (2, .long a), (4, .long b)]) (s2 := [.int 0]) (h2 := (hs (hs (hs h o (ob 6 (fo 10 (va_up F 5 (.int (0 : Int32)))))) o (ob 6 (fo 10 (va_up (va_up F 5 (.int (0 : Int32))) 6 (.long (a - b)))))) o (ob 6 (fo 10 (va_up (va_up (va_up F 5 (.int (0 : Int32))) 6 (.long (a - b))) 7 (.int (1 : Int32))))))) (s_invv (K := mX6_takeNumber) (o := o) (as := [.long (a - b)]) (rest := []) (v := some (.int 0)) dX6_reckon_54 rfl lX6_137 (by omega) rfl (Nat.le_of_ble_eq_true rfl) rfl (Nat.le_of_ble_eq_true rfl) (ho) (p_X6_takeNumber_1 (d := 1) (Nat.le_refl _) h o (a - b) F ho) (fun h => nomatch h)) ?_
  exact E.i dX6_reckon_57 rfl rfl rfl rfl

set_option maxRecDepth 20000 in
theorem p_X6_reckon_3 {d : Nat} (hd : 2 ≤ d) (h : AH) (o : Nat) (t : Int32) (a : Int64) (b : Int64) (c : t = 2) (F : Nat → Value) (ho : h.1 o = ob 6 (fo 10 F)) : CM mX6_reckon d [.ref o, .int t, .long a, .long b] h (some (.int 0)) (hs (hs (hs h o (ob 6 (fo 10 (va_up F 5 (.int (0 : Int32)))))) o (ob 6 (fo 10 (va_up (va_up F 5 (.int (0 : Int32))) 6 (.long (a * b)))))) o (ob 6 (fo 10 (va_up (va_up (va_up F 5 (.int (0 : Int32))) 6 (.long (a * b))) 7 (.int (1 : Int32)))))) := by
  show E false mX6_reckon d 0 [(0, .ref o), (1, .int t), (2, .long a), (4, .long b)] [] h _ _
  refine E.st (s_iload_n (q := 1) dX6_reckon_0 rfl rfl) ?_
  refine E.st (s_tabIn (q := 58) (off := 57) dX6_reckon_1 (by rw [c]; decide) (by rw [c]; decide) (by rw [c]; rfl) (by decide)) ?_
  refine E.st (s_aload_n (q := 59) dX6_reckon_58 rfl rfl) ?_
  refine E.st (s_lload_n (q := 60) dX6_reckon_59 rfl rfl) ?_
  refine E.st (s_lload (q := 62) dX6_reckon_60 rfl rfl) ?_
  refine E.st (s_lmul (q := 63) dX6_reckon_62 rfl) ?_
  refine E.st (p2 := 66) (l2 := [(0, .ref o), (1, .int t), (2, .long a), (4, .long b)]) (s2 := [.int 0]) (h2 := (hs (hs (hs h o (ob 6 (fo 10 (va_up F 5 (.int (0 : Int32)))))) o (ob 6 (fo 10 (va_up (va_up F 5 (.int (0 : Int32))) 6 (.long (a * b)))))) o (ob 6 (fo 10 (va_up (va_up (va_up F 5 (.int (0 : Int32))) 6 (.long (a * b))) 7 (.int (1 : Int32))))))) (s_invv (K := mX6_takeNumber) (o := o) (as := [.long (a * b)]) (rest := []) (v := some (.int 0)) dX6_reckon_63 rfl lX6_137 (by omega) rfl (Nat.le_of_ble_eq_true rfl) rfl (Nat.le_of_ble_eq_true rfl) (ho) (p_X6_takeNumber_1 (d := 1) (Nat.le_refl _) h o (a * b) F ho) (fun h => nomatch h)) ?_
  exact E.i dX6_reckon_66 rfl rfl rfl rfl

set_option maxRecDepth 20000 in
theorem p_X6_reckon_4 {d : Nat} (hd : 2 ≤ d) (h : AH) (o : Nat) (t : Int32) (a : Int64) (b : Int64) (c : t = 3) (c1 : ¬ b = 0) (F : Nat → Value) (ho : h.1 o = ob 6 (fo 10 F)) : CM mX6_reckon d [.ref o, .int t, .long a, .long b] h (some (.int 0)) (hs (hs (hs h o (ob 6 (fo 10 (va_up F 5 (.int (0 : Int32)))))) o (ob 6 (fo 10 (va_up (va_up F 5 (.int (0 : Int32))) 6 (.long (a / b)))))) o (ob 6 (fo 10 (va_up (va_up (va_up F 5 (.int (0 : Int32))) 6 (.long (a / b))) 7 (.int (1 : Int32)))))) := by
  show E false mX6_reckon d 0 [(0, .ref o), (1, .int t), (2, .long a), (4, .long b)] [] h _ _
  refine E.st (s_iload_n (q := 1) dX6_reckon_0 rfl rfl) ?_
  refine E.st (s_tabIn (q := 67) (off := 66) dX6_reckon_1 (by rw [c]; decide) (by rw [c]; decide) (by rw [c]; rfl) (by decide)) ?_
  refine E.st (s_lload (q := 69) dX6_reckon_67 rfl rfl) ?_
  refine E.st (s_lconst (q := 70) (v := 0) dX6_reckon_69 rfl (by decide)) ?_
  refine E.st (s_lcmp (q := 71) dX6_reckon_70 rfl) ?_
  refine E.st (s_if_ne_t (q := 78) dX6_reckon_71 (by decide) (fun z => c1 ((lgc_eq _ _).mp z))) ?_
  refine E.st (s_aload_n (q := 79) dX6_reckon_78 rfl rfl) ?_
  refine E.st (s_lload_n (q := 80) dX6_reckon_79 rfl rfl) ?_
  refine E.st (s_lload (q := 82) dX6_reckon_80 rfl rfl) ?_
  refine E.st (s_ldiv (q := 83) dX6_reckon_82 rfl c1) ?_
  refine E.st (p2 := 86) (l2 := [(0, .ref o), (1, .int t), (2, .long a), (4, .long b)]) (s2 := [.int 0]) (h2 := (hs (hs (hs h o (ob 6 (fo 10 (va_up F 5 (.int (0 : Int32)))))) o (ob 6 (fo 10 (va_up (va_up F 5 (.int (0 : Int32))) 6 (.long (a / b)))))) o (ob 6 (fo 10 (va_up (va_up (va_up F 5 (.int (0 : Int32))) 6 (.long (a / b))) 7 (.int (1 : Int32))))))) (s_invv (K := mX6_takeNumber) (o := o) (as := [.long (a / b)]) (rest := []) (v := some (.int 0)) dX6_reckon_83 rfl lX6_137 (by omega) rfl (Nat.le_of_ble_eq_true rfl) rfl (Nat.le_of_ble_eq_true rfl) (ho) (p_X6_takeNumber_1 (d := 1) (Nat.le_refl _) h o (a / b) F ho) (fun h => nomatch h)) ?_
  exact E.i dX6_reckon_86 rfl rfl rfl rfl

set_option maxRecDepth 20000 in
theorem p_X6_reckon_5 {d : Nat} (hd : 0 ≤ d) (h : AH) (o : Nat) (t : Int32) (a : Int64) (b : Int64) (c : t = 3) (c1 : b = 0) : CM mX6_reckon d [.ref o, .int t, .long a, .long b] h (some (.int 1)) h := by
  show E false mX6_reckon d 0 [(0, .ref o), (1, .int t), (2, .long a), (4, .long b)] [] h _ _
  refine E.st (s_iload_n (q := 1) dX6_reckon_0 rfl rfl) ?_
  refine E.st (s_tabIn (q := 67) (off := 66) dX6_reckon_1 (by rw [c]; decide) (by rw [c]; decide) (by rw [c]; rfl) (by decide)) ?_
  refine E.st (s_lload (q := 69) dX6_reckon_67 rfl rfl) ?_
  refine E.st (s_lconst (q := 70) (v := 0) dX6_reckon_69 rfl (by decide)) ?_
  refine E.st (s_lcmp (q := 71) dX6_reckon_70 rfl) ?_
  refine E.st (s_if_ne_f (q := 74) (tg := 78) dX6_reckon_71 (by decide) rfl ((lgc_eq _ _).mpr c1)) ?_
  refine E.st (s_iconst (q := 75) (v := 1) dX6_reckon_74 rfl (by decide)) ?_
  refine E.st (s_goto (q := 86) dX6_reckon_75 (by decide)) ?_
  exact E.i dX6_reckon_86 rfl rfl rfl rfl

set_option maxRecDepth 20000 in
theorem p_X6_reckon_6 {d : Nat} (hd : 2 ≤ d) (h : AH) (o : Nat) (t : Int32) (a : Int64) (b : Int64) (c : t = 4) (c1 : b ≤ a) (F : Nat → Value) (ho : h.1 o = ob 6 (fo 10 F)) : CM mX6_reckon d [.ref o, .int t, .long a, .long b] h (some (.int 0)) (hs (hs (hs h o (ob 6 (fo 10 (va_up F 5 (.int (0 : Int32)))))) o (ob 6 (fo 10 (va_up (va_up F 5 (.int (0 : Int32))) 6 (.long (0 : Int64)))))) o (ob 6 (fo 10 (va_up (va_up (va_up F 5 (.int (0 : Int32))) 6 (.long (0 : Int64))) 7 (.int (1 : Int32)))))) := by
  show E false mX6_reckon d 0 [(0, .ref o), (1, .int t), (2, .long a), (4, .long b)] [] h _ _
  refine E.st (s_iload_n (q := 1) dX6_reckon_0 rfl rfl) ?_
  refine E.st (s_tabIn (q := 87) (off := 86) dX6_reckon_1 (by rw [c]; decide) (by rw [c]; decide) (by rw [c]; rfl) (by decide)) ?_
  refine E.st (s_aload_n (q := 88) dX6_reckon_87 rfl rfl) ?_
  refine E.st (s_lload_n (q := 89) dX6_reckon_88 rfl rfl) ?_
  refine E.st (s_lload (q := 91) dX6_reckon_89 rfl rfl) ?_
  refine E.st (s_lcmp (q := 92) dX6_reckon_91 rfl) ?_
  refine E.st (s_if_ge_t (q := 99) dX6_reckon_92 (by decide) ((lgc_ge _ _).mpr c1)) ?_
  refine E.st (s_lconst (q := 100) (v := 0) dX6_reckon_99 rfl (by decide)) ?_
  refine E.st (p2 := 103) (l2 := [(0, .ref o), (1, .int t), (2, .long a), (4, .long b)]) (s2 := [.int 0]) (h2 := (hs (hs (hs h o (ob 6 (fo 10 (va_up F 5 (.int (0 : Int32)))))) o (ob 6 (fo 10 (va_up (va_up F 5 (.int (0 : Int32))) 6 (.long (0 : Int64)))))) o (ob 6 (fo 10 (va_up (va_up (va_up F 5 (.int (0 : Int32))) 6 (.long (0 : Int64))) 7 (.int (1 : Int32))))))) (s_invv (K := mX6_takeNumber) (o := o) (as := [.long 0]) (rest := []) (v := some (.int 0)) dX6_reckon_100 rfl lX6_137 (by omega) rfl (Nat.le_of_ble_eq_true rfl) rfl (Nat.le_of_ble_eq_true rfl) (ho) (p_X6_takeNumber_1 (d := 1) (Nat.le_refl _) h o (0 : Int64) F ho) (fun h => nomatch h)) ?_
  exact E.i dX6_reckon_103 rfl rfl rfl rfl

set_option maxRecDepth 20000 in
theorem p_X6_reckon_7 {d : Nat} (hd : 2 ≤ d) (h : AH) (o : Nat) (t : Int32) (a : Int64) (b : Int64) (c : t = 4) (c1 : ¬ (b ≤ a)) (F : Nat → Value) (ho : h.1 o = ob 6 (fo 10 F)) : CM mX6_reckon d [.ref o, .int t, .long a, .long b] h (some (.int 0)) (hs (hs (hs h o (ob 6 (fo 10 (va_up F 5 (.int (0 : Int32)))))) o (ob 6 (fo 10 (va_up (va_up F 5 (.int (0 : Int32))) 6 (.long (1 : Int64)))))) o (ob 6 (fo 10 (va_up (va_up (va_up F 5 (.int (0 : Int32))) 6 (.long (1 : Int64))) 7 (.int (1 : Int32)))))) := by
  show E false mX6_reckon d 0 [(0, .ref o), (1, .int t), (2, .long a), (4, .long b)] [] h _ _
  refine E.st (s_iload_n (q := 1) dX6_reckon_0 rfl rfl) ?_
  refine E.st (s_tabIn (q := 87) (off := 86) dX6_reckon_1 (by rw [c]; decide) (by rw [c]; decide) (by rw [c]; rfl) (by decide)) ?_
  refine E.st (s_aload_n (q := 88) dX6_reckon_87 rfl rfl) ?_
  refine E.st (s_lload_n (q := 89) dX6_reckon_88 rfl rfl) ?_
  refine E.st (s_lload (q := 91) dX6_reckon_89 rfl rfl) ?_
  refine E.st (s_lcmp (q := 92) dX6_reckon_91 rfl) ?_
  refine E.st (s_if_ge_f (q := 95) (tg := 99) dX6_reckon_92 (by decide) rfl (fun z => c1 ((lgc_ge _ _).mp z))) ?_
  refine E.st (s_lconst (q := 96) (v := 1) dX6_reckon_95 rfl (by decide)) ?_
  refine E.st (s_goto (q := 100) dX6_reckon_96 (by decide)) ?_
  refine E.st (p2 := 103) (l2 := [(0, .ref o), (1, .int t), (2, .long a), (4, .long b)]) (s2 := [.int 0]) (h2 := (hs (hs (hs h o (ob 6 (fo 10 (va_up F 5 (.int (0 : Int32)))))) o (ob 6 (fo 10 (va_up (va_up F 5 (.int (0 : Int32))) 6 (.long (1 : Int64)))))) o (ob 6 (fo 10 (va_up (va_up (va_up F 5 (.int (0 : Int32))) 6 (.long (1 : Int64))) 7 (.int (1 : Int32))))))) (s_invv (K := mX6_takeNumber) (o := o) (as := [.long 1]) (rest := []) (v := some (.int 0)) dX6_reckon_100 rfl lX6_137 (by omega) rfl (Nat.le_of_ble_eq_true rfl) rfl (Nat.le_of_ble_eq_true rfl) (ho) (p_X6_takeNumber_1 (d := 1) (Nat.le_refl _) h o (1 : Int64) F ho) (fun h => nomatch h)) ?_
  exact E.i dX6_reckon_103 rfl rfl rfl rfl

set_option maxRecDepth 20000 in
theorem p_X6_reckon_8 {d : Nat} (hd : 2 ≤ d) (h : AH) (o : Nat) (t : Int32) (a : Int64) (b : Int64) (c : t = 5) (c1 : ¬ a = b) (F : Nat → Value) (ho : h.1 o = ob 6 (fo 10 F)) : CM mX6_reckon d [.ref o, .int t, .long a, .long b] h (some (.int 0)) (hs (hs (hs h o (ob 6 (fo 10 (va_up F 5 (.int (0 : Int32)))))) o (ob 6 (fo 10 (va_up (va_up F 5 (.int (0 : Int32))) 6 (.long (0 : Int64)))))) o (ob 6 (fo 10 (va_up (va_up (va_up F 5 (.int (0 : Int32))) 6 (.long (0 : Int64))) 7 (.int (1 : Int32)))))) := by
  show E false mX6_reckon d 0 [(0, .ref o), (1, .int t), (2, .long a), (4, .long b)] [] h _ _
  refine E.st (s_iload_n (q := 1) dX6_reckon_0 rfl rfl) ?_
  refine E.st (s_tabIn (q := 104) (off := 103) dX6_reckon_1 (by rw [c]; decide) (by rw [c]; decide) (by rw [c]; rfl) (by decide)) ?_
  refine E.st (s_aload_n (q := 105) dX6_reckon_104 rfl rfl) ?_
  refine E.st (s_lload_n (q := 106) dX6_reckon_105 rfl rfl) ?_
  refine E.st (s_lload (q := 108) dX6_reckon_106 rfl rfl) ?_
  refine E.st (s_lcmp (q := 109) dX6_reckon_108 rfl) ?_
  refine E.st (s_if_ne_t (q := 116) dX6_reckon_109 (by decide) (fun z => c1 ((lgc_eq _ _).mp z))) ?_
  refine E.st (s_lconst (q := 117) (v := 0) dX6_reckon_116 rfl (by decide)) ?_
  refine E.st (p2 := 120) (l2 := [(0, .ref o), (1, .int t), (2, .long a), (4, .long b)]) (s2 := [.int 0]) (h2 := (hs (hs (hs h o (ob 6 (fo 10 (va_up F 5 (.int (0 : Int32)))))) o (ob 6 (fo 10 (va_up (va_up F 5 (.int (0 : Int32))) 6 (.long (0 : Int64)))))) o (ob 6 (fo 10 (va_up (va_up (va_up F 5 (.int (0 : Int32))) 6 (.long (0 : Int64))) 7 (.int (1 : Int32))))))) (s_invv (K := mX6_takeNumber) (o := o) (as := [.long 0]) (rest := []) (v := some (.int 0)) dX6_reckon_117 rfl lX6_137 (by omega) rfl (Nat.le_of_ble_eq_true rfl) rfl (Nat.le_of_ble_eq_true rfl) (ho) (p_X6_takeNumber_1 (d := 1) (Nat.le_refl _) h o (0 : Int64) F ho) (fun h => nomatch h)) ?_
  exact E.i dX6_reckon_120 rfl rfl rfl rfl

set_option maxRecDepth 20000 in
theorem p_X6_reckon_9 {d : Nat} (hd : 2 ≤ d) (h : AH) (o : Nat) (t : Int32) (a : Int64) (b : Int64) (c : t = 5) (c1 : a = b) (F : Nat → Value) (ho : h.1 o = ob 6 (fo 10 F)) : CM mX6_reckon d [.ref o, .int t, .long a, .long b] h (some (.int 0)) (hs (hs (hs h o (ob 6 (fo 10 (va_up F 5 (.int (0 : Int32)))))) o (ob 6 (fo 10 (va_up (va_up F 5 (.int (0 : Int32))) 6 (.long (1 : Int64)))))) o (ob 6 (fo 10 (va_up (va_up (va_up F 5 (.int (0 : Int32))) 6 (.long (1 : Int64))) 7 (.int (1 : Int32)))))) := by
  show E false mX6_reckon d 0 [(0, .ref o), (1, .int t), (2, .long a), (4, .long b)] [] h _ _
  refine E.st (s_iload_n (q := 1) dX6_reckon_0 rfl rfl) ?_
  refine E.st (s_tabIn (q := 104) (off := 103) dX6_reckon_1 (by rw [c]; decide) (by rw [c]; decide) (by rw [c]; rfl) (by decide)) ?_
  refine E.st (s_aload_n (q := 105) dX6_reckon_104 rfl rfl) ?_
  refine E.st (s_lload_n (q := 106) dX6_reckon_105 rfl rfl) ?_
  refine E.st (s_lload (q := 108) dX6_reckon_106 rfl rfl) ?_
  refine E.st (s_lcmp (q := 109) dX6_reckon_108 rfl) ?_
  refine E.st (s_if_ne_f (q := 112) (tg := 116) dX6_reckon_109 (by decide) rfl ((lgc_eq _ _).mpr c1)) ?_
  refine E.st (s_lconst (q := 113) (v := 1) dX6_reckon_112 rfl (by decide)) ?_
  refine E.st (s_goto (q := 117) dX6_reckon_113 (by decide)) ?_
  refine E.st (p2 := 120) (l2 := [(0, .ref o), (1, .int t), (2, .long a), (4, .long b)]) (s2 := [.int 0]) (h2 := (hs (hs (hs h o (ob 6 (fo 10 (va_up F 5 (.int (0 : Int32)))))) o (ob 6 (fo 10 (va_up (va_up F 5 (.int (0 : Int32))) 6 (.long (1 : Int64)))))) o (ob 6 (fo 10 (va_up (va_up (va_up F 5 (.int (0 : Int32))) 6 (.long (1 : Int64))) 7 (.int (1 : Int32))))))) (s_invv (K := mX6_takeNumber) (o := o) (as := [.long 1]) (rest := []) (v := some (.int 0)) dX6_reckon_117 rfl lX6_137 (by omega) rfl (Nat.le_of_ble_eq_true rfl) rfl (Nat.le_of_ble_eq_true rfl) (ho) (p_X6_takeNumber_1 (d := 1) (Nat.le_refl _) h o (1 : Int64) F ho) (fun h => nomatch h)) ?_
  exact E.i dX6_reckon_120 rfl rfl rfl rfl

set_option maxRecDepth 20000 in
theorem p_X6_reckon_10 {d : Nat} (hd : 0 ≤ d) (h : AH) (o : Nat) (t : Int32) (a : Int64) (b : Int64) (c : t.toInt < 0 ∨ 5 < t.toInt) : CM mX6_reckon d [.ref o, .int t, .long a, .long b] h (some (.int 1)) h := by
  show E false mX6_reckon d 0 [(0, .ref o), (1, .int t), (2, .long a), (4, .long b)] [] h _ _
  refine E.st (s_iload_n (q := 1) dX6_reckon_0 rfl rfl) ?_
  refine E.st (s_tabOut (q := 121) dX6_reckon_1 c (by decide)) ?_
  refine E.st (s_iconst (q := 122) (v := 1) dX6_reckon_121 rfl (by decide)) ?_
  exact E.i dX6_reckon_122 rfl rfl rfl rfl
