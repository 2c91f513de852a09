set_option maxRecDepth 20000 in
theorem p_X0_isEmpty_1 {d : Nat} (hd : 0 ≤ d) (h : AH) (o : Nat) (F : Nat → Value) (ho : h.1 o = ob 0 (fo 3 F)) (v2 : Int32) (e2 : F 2 = .int v2) (c : ¬ v2 = 0) : CM mX0_isEmpty d [.ref o] h (some (.int 0)) h := by
  show E false mX0_isEmpty d 0 [(0, .ref o)] [] h _ _
  refine E.st (s_aload_n (q := 1) dX0_isEmpty_0 rfl rfl) ?_
  refine E.st (s_gf (q := 4) (v := .int v2) dX0_isEmpty_1 rfl fX0_19.l (ho) (by decide) (e2)) ?_
  refine E.st (s_if_ne_t (q := 11) dX0_isEmpty_4 (by decide) c) ?_
  refine E.st (s_iconst (q := 12) (v := 0) dX0_isEmpty_11 rfl (by decide)) ?_
  exact E.i dX0_isEmpty_12 rfl rfl rfl rfl

set_option maxRecDepth 20000 in
theorem p_X0_isEmpty_2 {d : Nat} (hd : 0 ≤ d) (h : AH) (o : Nat) (F : Nat → Value) (ho : h.1 o = ob 0 (fo 3 F)) (v2 : Int32) (e2 : F 2 = .int v2) (c : v2 = 0) : CM mX0_isEmpty d [.ref o] h (some (.int 1)) h := by
  show E false mX0_isEmpty d 0 [(0, .ref o)] [] h _ _
  refine E.st (s_aload_n (q := 1) dX0_isEmpty_0 rfl rfl) ?_
  refine E.st (s_gf (q := 4) (v := .int v2) dX0_isEmpty_1 rfl fX0_19.l (ho) (by decide) (e2)) ?_
  refine E.st (s_if_ne_f (q := 7) (tg := 11) dX0_isEmpty_4 (by decide) rfl c) ?_
  refine E.st (s_iconst (q := 8) (v := 1) dX0_isEmpty_7 rfl (by decide)) ?_
  refine E.st (s_goto (q := 12) dX0_isEmpty_8 (by decide)) ?_
  exact E.i dX0_isEmpty_12 rfl rfl rfl rfl

set_option maxRecDepth 20000 in
theorem p_X0_forget_1 {d : Nat} (hd : 0 ≤ d) (h : AH) (o : Nat) (F : Nat → Value) (ho : h.1 o = ob 0 (fo 3 F)) : CM mX0_forget d [.ref o] h (none) (hs h o (ob 0 (fo 3 (va_up F 2 (.int 0))))) := by
  show E false mX0_forget d 0 [(0, .ref o)] [] h _ _
  refine E.st (s_aload_n (q := 1) dX0_forget_0 rfl rfl) ?_
  refine E.st (s_iconst (q := 2) (v := 0) dX0_forget_1 rfl (by decide)) ?_
  refine E.st (s_pf (q := 5) dX0_forget_2 rfl fX0_19 (ho) (by decide) (fun _ => ⟨rfl, rfl⟩)) ?_
  exact E.v dX0_forget_5 rfl rfl rfl

set_option maxRecDepth 20000 in
theorem p_X0_put_1 {d : Nat} (hd : 0 ≤ d) (h : AH) (o : Nat) (a : Int64) (n : Int32) (F : Nat → Value) (ho : h.1 o = ob 0 (fo 3 F)) (v2 : Int32) (e2 : F 2 = .int v2) (r1 : Nat) (e1 : F 1 = .ref r1) (n1 : Nat) (f : Nat → Int32) (ha : h.1 r1 = ia n1 f) (p : 0 < r1) (c : (nI n1) ≤ v2) : CM mX0_put d [.ref o, .long a, .int n] h (none) h := by
  show E false mX0_put d 0 [(0, .ref o), (1, .long a), (3, .int n)] [] h _ _
  refine E.st (s_aload_n (q := 1) dX0_put_0 rfl rfl) ?_
  refine E.st (s_gf (q := 4) (v := .int v2) dX0_put_1 rfl fX0_19.l (ho) (by decide) (e2)) ?_
  refine E.st (s_aload_n (q := 5) dX0_put_4 rfl rfl) ?_
  refine E.st (s_gf (q := 8) (v := .ref r1) dX0_put_5 rfl fX0_15.l (ho) (by decide) (e1)) ?_
  refine E.st (s_alenI (q := 9) dX0_put_8 rfl p (ha) rfl) ?_
  refine E.st (s_icmp_ge_t (q := 42) dX0_put_9 (by decide) c) ?_
  exact E.v dX0_put_42 rfl rfl rfl

set_option maxRecDepth 20000 in
theorem p_X0_put_2 {d : Nat} (hd : 0 ≤ d) (h : AH) (o : Nat) (a : Int64) (n : Int32) (F : Nat → Value) (ho : h.1 o = ob 0 (fo 3 F)) (v2 : Int32) (e2 : F 2 = .int v2) (r1 : Nat) (e1 : F 1 = .ref r1) (n1 : Nat) (f : Nat → Int32) (ha : h.1 r1 = ia n1 f) (p : 0 < r1) (c : ¬ ((nI n1) ≤ v2)) (r0 : Nat) (e0 : F 0 = .ref r0) (n2 : Nat) (f1 : Nat → Int64) (ha1 : h.1 r0 = la n2 f1) (i : vp_in v2 n2) (i1 : vp_in v2 n1) : CM mX0_put d [.ref o, .long a, .int n] h (none) (hs (hs (hs h r0 (la n2 (vp_updL f1 v2.toNatClampNeg a))) r1 (ia n1 (upd f v2.toNatClampNeg n))) o (ob 0 (fo 3 (va_up F 2 (.int (v2 + 1)))))) := by
  show E false mX0_put d 0 [(0, .ref o), (1, .long a), (3, .int n)] [] h _ _
  refine E.st (s_aload_n (q := 1) dX0_put_0 rfl rfl) ?_
  refine E.st (s_gf (q := 4) (v := .int v2) dX0_put_1 rfl fX0_19.l (ho) (by decide) (e2)) ?_
  refine E.st (s_aload_n (q := 5) dX0_put_4 rfl rfl) ?_
  refine E.st (s_gf (q := 8) (v := .ref r1) dX0_put_5 rfl fX0_15.l (ho) (by decide) (e1)) ?_
  refine E.st (s_alenI (q := 9) dX0_put_8 rfl p (ha) rfl) ?_
  refine E.st (s_icmp_ge_f (q := 12) (tg := 42) dX0_put_9 (by decide) rfl c) ?_
  refine E.st (s_aload_n (q := 13) dX0_put_12 rfl rfl) ?_
  refine E.st (s_gf (q := 16) (v := .ref r0) dX0_put_13 rfl fX0_9.l (ho) (by decide) (e0)) ?_
  refine E.st (s_aload_n (q := 17) dX0_put_16 rfl rfl) ?_
  refine E.st (s_gf (q := 20) (v := .int v2) dX0_put_17 rfl fX0_19.l (ho) (by decide) (e2)) ?_
  refine E.st (s_lload_n (q := 21) dX0_put_20 rfl rfl) ?_
  refine E.st (s_last (q := 22) dX0_put_21 rfl (ha1) i) ?_
  refine E.st (s_aload_n (q := 23) dX0_put_22 rfl rfl) ?_
  refine E.st (s_gf (q := 26) (v := .ref r1) dX0_put_23 rfl fX0_15.l ((hs_ne (ne_ol ho ha1)).trans (ho)) (by decide) (e1)) ?_
  refine E.st (s_aload_n (q := 27) dX0_put_26 rfl rfl) ?_
  refine E.st (s_gf (q := 30) (v := .int v2) dX0_put_27 rfl fX0_19.l ((hs_ne (ne_ol ho ha1)).trans (ho)) (by decide) (e2)) ?_
  refine E.st (s_iload_n (q := 31) dX0_put_30 rfl rfl) ?_
  refine E.st (s_iast (q := 32) dX0_put_31 rfl p ((hs_ne (ne_il ha ha1)).trans (ha)) i1) ?_
  refine E.st (s_aload_n (q := 33) dX0_put_32 rfl rfl) ?_
  refine E.st (s_dup (q := 34) dX0_put_33 rfl rfl) ?_
  refine E.st (s_gf (q := 37) (v := .int v2) dX0_put_34 rfl fX0_19.l ((hs_ne (ne_oi ho ha)).trans ((hs_ne (ne_ol ho ha1)).trans (ho))) (by decide) (e2)) ?_
  refine E.st (s_iconst (q := 38) (v := 1) dX0_put_37 rfl (by decide)) ?_
  refine E.st (s_iadd (q := 39) dX0_put_38 rfl) ?_
  refine E.st (s_pf (q := 42) dX0_put_39 rfl fX0_19 ((hs_ne (ne_oi ho ha)).trans ((hs_ne (ne_ol ho ha1)).trans (ho))) (by decide) (fun _ => ⟨rfl, rfl⟩)) ?_
  exact E.v dX0_put_42 rfl rfl rfl

set_option maxRecDepth 20000 in
theorem p_X0_lastAlternatives_1 {d : Nat} (hd : 0 ≤ d) (h : AH) (o : Nat) (F : Nat → Value) (ho : h.1 o = ob 0 (fo 3 F)) (v2 : Int32) (e2 : F 2 = .int v2) (c : v2 ≤ 0) : CM mX0_lastAlternatives d [.ref o] h (some (.long 0)) h := by
  show E false mX0_lastAlternatives d 0 [(0, .ref o)] [] h _ _
  refine E.st (s_aload_n (q := 1) dX0_lastAlternatives_0 rfl rfl) ?_
  refine E.st (s_gf (q := 4) (v := .int v2) dX0_lastAlternatives_1 rfl fX0_19.l (ho) (by decide) (e2)) ?_
  refine E.st (s_if_le_t (q := 33) dX0_lastAlternatives_4 (by decide) c) ?_
  refine E.st (s_lconst (q := 34) (v := 0) dX0_lastAlternatives_33 rfl (by decide)) ?_
  exact E.l dX0_lastAlternatives_34 rfl rfl rfl

set_option maxRecDepth 20000 in
theorem p_X0_lastAlternatives_2 {d : Nat} (hd : 0 ≤ d) (h : AH) (o : Nat) (F : Nat → Value) (ho : h.1 o = ob 0 (fo 3 F)) (v2 : Int32) (e2 : F 2 = .int v2) (c : ¬ (v2 ≤ 0)) (r0 : Nat) (e0 : F 0 = .ref r0) (n : Nat) (f : Nat → Int64) (ha : h.1 r0 = la n f) (c1 : (nI n) < v2) : CM mX0_lastAlternatives d [.ref o] h (some (.long 0)) h := by
  show E false mX0_lastAlternatives d 0 [(0, .ref o)] [] h _ _
  refine E.st (s_aload_n (q := 1) dX0_lastAlternatives_0 rfl rfl) ?_
  refine E.st (s_gf (q := 4) (v := .int v2) dX0_lastAlternatives_1 rfl fX0_19.l (ho) (by decide) (e2)) ?_
  refine E.st (s_if_le_f (q := 7) (tg := 33) dX0_lastAlternatives_4 (by decide) rfl c) ?_
  refine E.st (s_aload_n (q := 8) dX0_lastAlternatives_7 rfl rfl) ?_
  refine E.st (s_gf (q := 11) (v := .int v2) dX0_lastAlternatives_8 rfl fX0_19.l (ho) (by decide) (e2)) ?_
  refine E.st (s_aload_n (q := 12) dX0_lastAlternatives_11 rfl rfl) ?_
  refine E.st (s_gf (q := 15) (v := .ref r0) dX0_lastAlternatives_12 rfl fX0_9.l (ho) (by decide) (e0)) ?_
  refine E.st (s_alenL (q := 16) dX0_lastAlternatives_15 rfl (ha) rfl) ?_
  refine E.st (s_icmp_gt_t (q := 33) dX0_lastAlternatives_16 (by decide) c1) ?_
  refine E.st (s_lconst (q := 34) (v := 0) dX0_lastAlternatives_33 rfl (by decide)) ?_
  exact E.l dX0_lastAlternatives_34 rfl rfl rfl

set_option maxRecDepth 20000 in
theorem p_X0_lastAlternatives_3 {d : Nat} (hd : 0 ≤ d) (h : AH) (o : Nat) (F : Nat → Value) (ho : h.1 o = ob 0 (fo 3 F)) (v2 : Int32) (e2 : F 2 = .int v2) (c : ¬ (v2 ≤ 0)) (r0 : Nat) (e0 : F 0 = .ref r0) (n : Nat) (f : Nat → Int64) (ha : h.1 r0 = la n f) (c1 : ¬ ((nI n) < v2)) (i : vp_in (v2 - 1) n) : CM mX0_lastAlternatives d [.ref o] h (some (.long (f (v2 - 1).toNatClampNeg))) h := by
  show E false mX0_lastAlternatives d 0 [(0, .ref o)] [] h _ _
  refine E.st (s_aload_n (q := 1) dX0_lastAlternatives_0 rfl rfl) ?_
  refine E.st (s_gf (q := 4) (v := .int v2) dX0_lastAlternatives_1 rfl fX0_19.l (ho) (by decide) (e2)) ?_
  refine E.st (s_if_le_f (q := 7) (tg := 33) dX0_lastAlternatives_4 (by decide) rfl c) ?_
  refine E.st (s_aload_n (q := 8) dX0_lastAlternatives_7 rfl rfl) ?_
  refine E.st (s_gf (q := 11) (v := .int v2) dX0_lastAlternatives_8 rfl fX0_19.l (ho) (by decide) (e2)) ?_
  refine E.st (s_aload_n (q := 12) dX0_lastAlternatives_11 rfl rfl) ?_
  refine E.st (s_gf (q := 15) (v := .ref r0) dX0_lastAlternatives_12 rfl fX0_9.l (ho) (by decide) (e0)) ?_
  refine E.st (s_alenL (q := 16) dX0_lastAlternatives_15 rfl (ha) rfl) ?_
  refine E.st (s_icmp_gt_f (q := 19) (tg := 33) dX0_lastAlternatives_16 (by decide) rfl c1) ?_
  refine E.st (s_aload_n (q := 20) dX0_lastAlternatives_19 rfl rfl) ?_
  refine E.st (s_gf (q := 23) (v := .ref r0) dX0_lastAlternatives_20 rfl fX0_9.l (ho) (by decide) (e0)) ?_
  refine E.st (s_aload_n (q := 24) dX0_lastAlternatives_23 rfl rfl) ?_
  refine E.st (s_gf (q := 27) (v := .int v2) dX0_lastAlternatives_24 rfl fX0_19.l (ho) (by decide) (e2)) ?_
  refine E.st (s_iconst (q := 28) (v := 1) dX0_lastAlternatives_27 rfl (by decide)) ?_
  refine E.st (s_isub (q := 29) dX0_lastAlternatives_28 rfl) ?_
  refine E.st (s_lald (q := 30) dX0_lastAlternatives_29 rfl (ha) i) ?_
  refine E.st (s_goto (q := 34) dX0_lastAlternatives_30 (by decide)) ?_
  exact E.l dX0_lastAlternatives_34 rfl rfl rfl

set_option maxRecDepth 20000 in
theorem p_X0_lastLength_1 {d : Nat} (hd : 0 ≤ d) (h : AH) (o : Nat) (F : Nat → Value) (ho : h.1 o = ob 0 (fo 3 F)) (v2 : Int32) (e2 : F 2 = .int v2) (c : v2 ≤ 0) : CM mX0_lastLength d [.ref o] h (some (.int 0)) h := by
  show E false mX0_lastLength d 0 [(0, .ref o)] [] h _ _
  refine E.st (s_aload_n (q := 1) dX0_lastLength_0 rfl rfl) ?_
  refine E.st (s_gf (q := 4) (v := .int v2) dX0_lastLength_1 rfl fX0_19.l (ho) (by decide) (e2)) ?_
  refine E.st (s_if_le_t (q := 33) dX0_lastLength_4 (by decide) c) ?_
  refine E.st (s_iconst (q := 34) (v := 0) dX0_lastLength_33 rfl (by decide)) ?_
  exact E.i dX0_lastLength_34 rfl rfl rfl rfl

set_option maxRecDepth 20000 in
theorem p_X0_lastLength_2 {d : Nat} (hd : 0 ≤ d) (h : AH) (o : Nat) (F : Nat → Value) (ho : h.1 o = ob 0 (fo 3 F)) (v2 : Int32) (e2 : F 2 = .int v2) (c : ¬ (v2 ≤ 0)) (r1 : Nat) (e1 : F 1 = .ref r1) (n : Nat) (f : Nat → Int32) (ha : h.1 r1 = ia n f) (p : 0 < r1) (c1 : (nI n) < v2) : CM mX0_lastLength d [.ref o] h (some (.int 0)) h := by
  show E false mX0_lastLength d 0 [(0, .ref o)] [] h _ _
  refine E.st (s_aload_n (q := 1) dX0_lastLength_0 rfl rfl) ?_
  refine E.st (s_gf (q := 4) (v := .int v2) dX0_lastLength_1 rfl fX0_19.l (ho) (by decide) (e2)) ?_
  refine E.st (s_if_le_f (q := 7) (tg := 33) dX0_lastLength_4 (by decide) rfl c) ?_
  refine E.st (s_aload_n (q := 8) dX0_lastLength_7 rfl rfl) ?_
  refine E.st (s_gf (q := 11) (v := .int v2) dX0_lastLength_8 rfl fX0_19.l (ho) (by decide) (e2)) ?_
  refine E.st (s_aload_n (q := 12) dX0_lastLength_11 rfl rfl) ?_
  refine E.st (s_gf (q := 15) (v := .ref r1) dX0_lastLength_12 rfl fX0_15.l (ho) (by decide) (e1)) ?_
  refine E.st (s_alenI (q := 16) dX0_lastLength_15 rfl p (ha) rfl) ?_
  refine E.st (s_icmp_gt_t (q := 33) dX0_lastLength_16 (by decide) c1) ?_
  refine E.st (s_iconst (q := 34) (v := 0) dX0_lastLength_33 rfl (by decide)) ?_
  exact E.i dX0_lastLength_34 rfl rfl rfl rfl

set_option maxRecDepth 20000 in
theorem p_X0_lastLength_3 {d : Nat} (hd : 0 ≤ d) (h : AH) (o : Nat) (F : Nat → Value) (ho : h.1 o = ob 0 (fo 3 F)) (v2 : Int32) (e2 : F 2 = .int v2) (c : ¬ (v2 ≤ 0)) (r1 : Nat) (e1 : F 1 = .ref r1) (n : Nat) (f : Nat → Int32) (ha : h.1 r1 = ia n f) (p : 0 < r1) (c1 : ¬ ((nI n) < v2)) (i : vp_in (v2 - 1) n) : CM mX0_lastLength d [.ref o] h (some (.int (f (v2 - 1).toNatClampNeg))) h := by
  show E false mX0_lastLength d 0 [(0, .ref o)] [] h _ _
  refine E.st (s_aload_n (q := 1) dX0_lastLength_0 rfl rfl) ?_
  refine E.st (s_gf (q := 4) (v := .int v2) dX0_lastLength_1 rfl fX0_19.l (ho) (by decide) (e2)) ?_
  refine E.st (s_if_le_f (q := 7) (tg := 33) dX0_lastLength_4 (by decide) rfl c) ?_
  refine E.st (s_aload_n (q := 8) dX0_lastLength_7 rfl rfl) ?_
  refine E.st (s_gf (q := 11) (v := .int v2) dX0_lastLength_8 rfl fX0_19.l (ho) (by decide) (e2)) ?_
  refine E.st (s_aload_n (q := 12) dX0_lastLength_11 rfl rfl) ?_
  refine E.st (s_gf (q := 15) (v := .ref r1) dX0_lastLength_12 rfl fX0_15.l (ho) (by decide) (e1)) ?_
  refine E.st (s_alenI (q := 16) dX0_lastLength_15 rfl p (ha) rfl) ?_
  refine E.st (s_icmp_gt_f (q := 19) (tg := 33) dX0_lastLength_16 (by decide) rfl c1) ?_
  refine E.st (s_aload_n (q := 20) dX0_lastLength_19 rfl rfl) ?_
  refine E.st (s_gf (q := 23) (v := .ref r1) dX0_lastLength_20 rfl fX0_15.l (ho) (by decide) (e1)) ?_
  refine E.st (s_aload_n (q := 24) dX0_lastLength_23 rfl rfl) ?_
  refine E.st (s_gf (q := 27) (v := .int v2) dX0_lastLength_24 rfl fX0_19.l (ho) (by decide) (e2)) ?_
  refine E.st (s_iconst (q := 28) (v := 1) dX0_lastLength_27 rfl (by decide)) ?_
  refine E.st (s_isub (q := 29) dX0_lastLength_28 rfl) ?_
  refine E.st (s_iald (q := 30) dX0_lastLength_29 rfl p (ha) i) ?_
  refine E.st (s_goto (q := 34) dX0_lastLength_30 (by decide)) ?_
  exact E.i dX0_lastLength_34 rfl rfl rfl rfl

set_option maxRecDepth 20000 in
theorem p_X0_dropLast_1 {d : Nat} (hd : 0 ≤ d) (h : AH) (o : Nat) (F : Nat → Value) (ho : h.1 o = ob 0 (fo 3 F)) (v2 : Int32) (e2 : F 2 = .int v2) (c : v2 ≤ 0) : CM mX0_dropLast d [.ref o] h (none) h := by
  show E false mX0_dropLast d 0 [(0, .ref o)] [] h _ _
  refine E.st (s_aload_n (q := 1) dX0_dropLast_0 rfl rfl) ?_
  refine E.st (s_gf (q := 4) (v := .int v2) dX0_dropLast_1 rfl fX0_19.l (ho) (by decide) (e2)) ?_
  refine E.st (s_if_le_t (q := 17) dX0_dropLast_4 (by decide) c) ?_
  exact E.v dX0_dropLast_17 rfl rfl rfl

set_option maxRecDepth 20000 in
theorem p_X0_dropLast_2 {d : Nat} (hd : 0 ≤ d) (h : AH) (o : Nat) (F : Nat → Value) (ho : h.1 o = ob 0 (fo 3 F)) (v2 : Int32) (e2 : F 2 = .int v2) (c : ¬ (v2 ≤ 0)) : CM mX0_dropLast d [.ref o] h (none) (hs h o (ob 0 (fo 3 (va_up F 2 (.int (v2 - 1)))))) := by
  show E false mX0_dropLast d 0 [(0, .ref o)] [] h _ _
  refine E.st (s_aload_n (q := 1) dX0_dropLast_0 rfl rfl) ?_
  refine E.st (s_gf (q := 4) (v := .int v2) dX0_dropLast_1 rfl fX0_19.l (ho) (by decide) (e2)) ?_
  refine E.st (s_if_le_f (q := 7) (tg := 17) dX0_dropLast_4 (by decide) rfl c) ?_
  refine E.st (s_aload_n (q := 8) dX0_dropLast_7 rfl rfl) ?_
  refine E.st (s_dup (q := 9) dX0_dropLast_8 rfl rfl) ?_
  refine E.st (s_gf (q := 12) (v := .int v2) dX0_dropLast_9 rfl fX0_19.l (ho) (by decide) (e2)) ?_
  refine E.st (s_iconst (q := 13) (v := 1) dX0_dropLast_12 rfl (by decide)) ?_
  refine E.st (s_isub (q := 14) dX0_dropLast_13 rfl) ?_
  refine E.st (s_pf (q := 17) dX0_dropLast_14 rfl fX0_19 (ho) (by decide) (fun _ => ⟨rfl, rfl⟩)) ?_
  exact E.v dX0_dropLast_17 rfl rfl rfl

set_option maxRecDepth 20000 in
theorem p_X2_size_1 {d : Nat} (hd : 0 ≤ d) (h : AH) (o : Nat) (F : Nat → Value) (ho : h.1 o = ob 2 (fo 6 F)) (v5 : Int32) (e5 : F 5 = .int v5) : CM mX2_size d [.ref o] h (some (.int v5)) h := by
  show E false mX2_size d 0 [(0, .ref o)] [] h _ _
  refine E.st (s_aload_n (q := 1) dX2_size_0 rfl rfl) ?_
  refine E.st (s_gf (q := 4) (v := .int v5) dX2_size_1 rfl fX2_28.l (ho) (by decide) (e5)) ?_
  exact E.i dX2_size_4 rfl rfl rfl rfl

set_option maxRecDepth 20000 in
theorem p_X2_forget_1 {d : Nat} (hd : 0 ≤ d) (h : AH) (o : Nat) (F : Nat → Value) (ho : h.1 o = ob 2 (fo 6 F)) : CM mX2_forget d [.ref o] h (none) (hs h o (ob 2 (fo 6 (va_up F 5 (.int 0))))) := by
  show E false mX2_forget d 0 [(0, .ref o)] [] h _ _
  refine E.st (s_aload_n (q := 1) dX2_forget_0 rfl rfl) ?_
  refine E.st (s_iconst (q := 2) (v := 0) dX2_forget_1 rfl (by decide)) ?_
  refine E.st (s_pf (q := 5) dX2_forget_2 rfl fX2_28 (ho) (by decide) (fun _ => ⟨rfl, rfl⟩)) ?_
  exact E.v dX2_forget_5 rfl rfl rfl

set_option maxRecDepth 20000 in
theorem p_X2_has_1 {d : Nat} (hd : 0 ≤ d) (h : AH) (o : Nat) (n : Int32) (c : n < 0) : CM mX2_has d [.ref o, .int n] h (some (.int 0)) h := by
  show E false mX2_has d 0 [(0, .ref o), (1, .int n)] [] h _ _
  refine E.st (s_iload_n (q := 1) dX2_has_0 rfl rfl) ?_
  refine E.st (s_if_lt_t (q := 16) dX2_has_1 (by decide) c) ?_
  refine E.st (s_iconst (q := 17) (v := 0) dX2_has_16 rfl (by decide)) ?_
  exact E.i dX2_has_17 rfl rfl rfl rfl

set_option maxRecDepth 20000 in
theorem p_X2_has_2 {d : Nat} (hd : 0 ≤ d) (h : AH) (o : Nat) (n : Int32) (c : ¬ (n < 0)) (F : Nat → Value) (ho : h.1 o = ob 2 (fo 6 F)) (v5 : Int32) (e5 : F 5 = .int v5) (c1 : v5 ≤ n) : CM mX2_has d [.ref o, .int n] h (some (.int 0)) h := by
  show E false mX2_has d 0 [(0, .ref o), (1, .int n)] [] h _ _
  refine E.st (s_iload_n (q := 1) dX2_has_0 rfl rfl) ?_
  refine E.st (s_if_lt_f (q := 4) (tg := 16) dX2_has_1 (by decide) rfl c) ?_
  refine E.st (s_iload_n (q := 5) dX2_has_4 rfl rfl) ?_
  refine E.st (s_aload_n (q := 6) dX2_has_5 rfl rfl) ?_
  refine E.st (s_gf (q := 9) (v := .int v5) dX2_has_6 rfl fX2_28.l (ho) (by decide) (e5)) ?_
  refine E.st (s_icmp_ge_t (q := 16) dX2_has_9 (by decide) c1) ?_
  refine E.st (s_iconst (q := 17) (v := 0) dX2_has_16 rfl (by decide)) ?_
  exact E.i dX2_has_17 rfl rfl rfl rfl

set_option maxRecDepth 20000 in
theorem p_X2_has_3 {d : Nat} (hd : 0 ≤ d) (h : AH) (o : Nat) (n : Int32) (c : ¬ (n < 0)) (F : Nat → Value) (ho : h.1 o = ob 2 (fo 6 F)) (v5 : Int32) (e5 : F 5 = .int v5) (c1 : ¬ (v5 ≤ n)) : CM mX2_has d [.ref o, .int n] h (some (.int 1)) h := by
  show E false mX2_has d 0 [(0, .ref o), (1, .int n)] [] h _ _
  refine E.st (s_iload_n (q := 1) dX2_has_0 rfl rfl) ?_
  refine E.st (s_if_lt_f (q := 4) (tg := 16) dX2_has_1 (by decide) rfl c) ?_
  refine E.st (s_iload_n (q := 5) dX2_has_4 rfl rfl) ?_
  refine E.st (s_aload_n (q := 6) dX2_has_5 rfl rfl) ?_
  refine E.st (s_gf (q := 9) (v := .int v5) dX2_has_6 rfl fX2_28.l (ho) (by decide) (e5)) ?_
  refine E.st (s_icmp_ge_f (q := 12) (tg := 16) dX2_has_9 (by decide) rfl c1) ?_
  refine E.st (s_iconst (q := 13) (v := 1) dX2_has_12 rfl (by decide)) ?_
  refine E.st (s_goto (q := 17) dX2_has_13 (by decide)) ?_
  exact E.i dX2_has_17 rfl rfl rfl rfl

theorem q_X2_has_n {d : Nat} (hd : 0 ≤ d) (h : AH) (o : Nat) (n : Int32) (F : Nat → Value) (ho : h.1 o = ob 2 (fo 6 F)) (v5 : Int32) (e5 : F 5 = .int v5) (c : n < 0 ∨ v5 ≤ n) : CM mX2_has d [.ref o, .int n] h (some (.int 0)) h := by
  by_cases z : n < 0
  · exact p_X2_has_1 hd h o n z
  · exact p_X2_has_2 hd h o n z F ho v5 e5 (c.resolve_left z)
theorem q_X2_has_y {d : Nat} (hd : 0 ≤ d) (h : AH) (o : Nat) (n : Int32) (F : Nat → Value) (ho : h.1 o = ob 2 (fo 6 F)) (v5 : Int32) (e5 : F 5 = .int v5) (c : ¬ (n < 0) ∧ ¬ (v5 ≤ n)) : CM mX2_has d [.ref o, .int n] h (some (.int 1)) h := p_X2_has_3 hd h o n c.1 F ho v5 e5 c.2

set_option maxRecDepth 20000 in
theorem p_X2_add_1 {d : Nat} (hd : 0 ≤ d) (h : AH) (o : Nat) (a : Int32) (b : Int32) (c : Int32) (e : Int32) (F : Nat → Value) (ho : h.1 o = ob 2 (fo 6 F)) (v5 : Int32) (e5 : F 5 = .int v5) (c1 : v5 < 60) (r0 : Nat) (e0 : F 0 = .ref r0) (n : Nat) (f : Nat → Int32) (ha : h.1 r0 = ia n f) (i : vp_in v5 n) (p : 0 < r0) (r1 : Nat) (e1 : F 1 = .ref r1) (n1 : Nat) (f1 : Nat → Int32) (ha1 : h.1 r1 = ia n1 f1) (ne : r1 ≠ r0) (i1 : vp_in v5 n1) (p1 : 0 < r1) (r2 : Nat) (e2 : F 2 = .ref r2) (n2 : Nat) (f2 : Nat → Int32) (ha2 : h.1 r2 = ia n2 f2) (ne1 : r2 ≠ r1) (ne2 : r2 ≠ r0) (i2 : vp_in v5 n2) (p2 : 0 < r2) (r3 : Nat) (e3 : F 3 = .ref r3) (n3 : Nat) (f3 : Nat → Int32) (ha3 : h.1 r3 = ia n3 f3) (ne3 : r3 ≠ r2) (ne4 : r3 ≠ r1) (ne5 : r3 ≠ r0) (i3 : vp_in v5 n3) (p3 : 0 < r3) : CM mX2_add d [.ref o, .int a, .int b, .int c, .int e] h (some (.int v5)) (hs (hs (hs (hs (hs h r0 (ia n (upd f v5.toNatClampNeg a))) r1 (ia n1 (upd f1 v5.toNatClampNeg b))) r2 (ia n2 (upd f2 v5.toNatClampNeg c))) r3 (ia n3 (upd f3 v5.toNatClampNeg e))) o (ob 2 (fo 6 (va_up F 5 (.int (v5 + 1)))))) := by
  show E false mX2_add d 0 [(0, .ref o), (1, .int a), (2, .int b), (3, .int c), (4, .int e)] [] h _ _
  refine E.st (s_aload_n (q := 1) dX2_add_0 rfl rfl) ?_
  refine E.st (s_gf (q := 4) (v := .int v5) dX2_add_1 rfl fX2_28.l (ho) (by decide) (e5)) ?_
  refine E.st (s_bipush (q := 6) (v := 60) dX2_add_4 rfl (by decide)) ?_
  refine E.st (s_icmp_lt_t (q := 11) dX2_add_6 (by decide) c1) ?_
  refine E.st (s_aload_n (q := 12) dX2_add_11 rfl rfl) ?_
  refine E.st (s_gf (q := 15) (v := .int v5) dX2_add_12 rfl fX2_28.l (ho) (by decide) (e5)) ?_
  refine E.st (s_istore (q := 17) (ls' := [(5, .int v5), (0, .ref o), (1, .int a), (2, .int b), (3, .int c), (4, .int e)]) dX2_add_15 rfl (by decide) rfl) ?_
  refine E.st (s_aload_n (q := 18) dX2_add_17 rfl rfl) ?_
  refine E.st (s_gf (q := 21) (v := .ref r0) dX2_add_18 rfl fX2_9.l (ho) (by decide) (e0)) ?_
  refine E.st (s_iload (q := 23) dX2_add_21 rfl rfl) ?_
  refine E.st (s_iload_n (q := 24) dX2_add_23 rfl rfl) ?_
  refine E.st (s_iast (q := 25) dX2_add_24 rfl p (ha) i) ?_
  refine E.st (s_aload_n (q := 26) dX2_add_25 rfl rfl) ?_
  refine E.st (s_gf (q := 29) (v := .ref r1) dX2_add_26 rfl fX2_15.l ((hs_ne (ne_oi ho ha)).trans (ho)) (by decide) (e1)) ?_
  refine E.st (s_iload (q := 31) dX2_add_29 rfl rfl) ?_
  refine E.st (s_iload_n (q := 32) dX2_add_31 rfl rfl) ?_
  refine E.st (s_iast (q := 33) dX2_add_32 rfl p1 ((hs_ne ne).trans (ha1)) i1) ?_
  refine E.st (s_aload_n (q := 34) dX2_add_33 rfl rfl) ?_
  refine E.st (s_gf (q := 37) (v := .ref r2) dX2_add_34 rfl fX2_18.l ((hs_ne (ne_oi ho ha1)).trans ((hs_ne (ne_oi ho ha)).trans (ho))) (by decide) (e2)) ?_
  refine E.st (s_iload (q := 39) dX2_add_37 rfl rfl) ?_
  refine E.st (s_iload_n (q := 40) dX2_add_39 rfl rfl) ?_
  refine E.st (s_iast (q := 41) dX2_add_40 rfl p2 ((hs_ne ne1).trans ((hs_ne ne2).trans (ha2))) i2) ?_
  refine E.st (s_aload_n (q := 42) dX2_add_41 rfl rfl) ?_
  refine E.st (s_gf (q := 45) (v := .ref r3) dX2_add_42 rfl fX2_21.l ((hs_ne (ne_oi ho ha2)).trans ((hs_ne (ne_oi ho ha1)).trans ((hs_ne (ne_oi ho ha)).trans (ho)))) (by decide) (e3)) ?_
  refine E.st (s_iload (q := 47) dX2_add_45 rfl rfl) ?_
  refine E.st (s_iload (q := 49) dX2_add_47 rfl rfl) ?_
  refine E.st (s_iast (q := 50) dX2_add_49 rfl p3 ((hs_ne ne3).trans ((hs_ne ne4).trans ((hs_ne ne5).trans (ha3)))) i3) ?_
  refine E.st (s_aload_n (q := 51) dX2_add_50 rfl rfl) ?_
  refine E.st (s_iload (q := 53) dX2_add_51 rfl rfl) ?_
  refine E.st (s_iconst (q := 54) (v := 1) dX2_add_53 rfl (by decide)) ?_
  refine E.st (s_iadd (q := 55) dX2_add_54 rfl) ?_
  refine E.st (s_pf (q := 58) dX2_add_55 rfl fX2_28 ((hs_ne (ne_oi ho ha3)).trans ((hs_ne (ne_oi ho ha2)).trans ((hs_ne (ne_oi ho ha1)).trans ((hs_ne (ne_oi ho ha)).trans (ho))))) (by decide) (fun _ => ⟨rfl, rfl⟩)) ?_
  refine E.st (s_iload (q := 60) dX2_add_58 rfl rfl) ?_
  exact E.i dX2_add_60 rfl rfl rfl rfl

set_option maxRecDepth 20000 in
theorem p_X2_add_2 {d : Nat} (hd : 0 ≤ d) (h : AH) (o : Nat) (a : Int32) (b : Int32) (c : Int32) (e : Int32) (F : Nat → Value) (ho : h.1 o = ob 2 (fo 6 F)) (v5 : Int32) (e5 : F 5 = .int v5) (c1 : ¬ (v5 < 60)) : CM mX2_add d [.ref o, .int a, .int b, .int c, .int e] h (some (.int (-1))) h := by
  show E false mX2_add d 0 [(0, .ref o), (1, .int a), (2, .int b), (3, .int c), (4, .int e)] [] h _ _
  refine E.st (s_aload_n (q := 1) dX2_add_0 rfl rfl) ?_
  refine E.st (s_gf (q := 4) (v := .int v5) dX2_add_1 rfl fX2_28.l (ho) (by decide) (e5)) ?_
  refine E.st (s_bipush (q := 6) (v := 60) dX2_add_4 rfl (by decide)) ?_
  refine E.st (s_icmp_lt_f (q := 9) (tg := 11) dX2_add_6 (by decide) rfl c1) ?_
  refine E.st (s_iconst (q := 10) (v := (-1)) dX2_add_9 rfl (by decide)) ?_
  exact E.i dX2_add_10 rfl rfl rfl rfl

set_option maxRecDepth 20000 in
theorem p_X2_addNumber_1 {d : Nat} (hd : 1 ≤ d) (h : AH) (o : Nat) (v : Int64) (F : Nat → Value) (ho : h.1 o = ob 2 (fo 6 F)) (v5 : Int32) (e5 : F 5 = .int v5) (c : v5 < 60) (r0 : Nat) (e0 : F 0 = .ref r0) (n : Nat) (f : Nat → Int32) (ha : h.1 r0 = ia n f) (c1 : vp_in v5 n) (p : 0 < r0) (r1 : Nat) (e1 : F 1 = .ref r1) (n1 : Nat) (f1 : Nat → Int32) (ha1 : h.1 r1 = ia n1 f1) (ne : r1 ≠ r0) (c2 : vp_in v5 n1) (p1 : 0 < r1) (r2 : Nat) (e2 : F 2 = .ref r2) (n2 : Nat) (f2 : Nat → Int32) (ha2 : h.1 r2 = ia n2 f2) (ne1 : r2 ≠ r1) (ne2 : r2 ≠ r0) (c3 : vp_in v5 n2) (p2 : 0 < r2) (r3 : Nat) (e3 : F 3 = .ref r3) (n3 : Nat) (f3 : Nat → Int32) (ha3 : h.1 r3 = ia n3 f3) (ne3 : r3 ≠ r2) (ne4 : r3 ≠ r1) (ne5 : r3 ≠ r0) (c4 : vp_in v5 n3) (p3 : 0 < r3) (c5 : v5 < 0) : CM mX2_addNumber d [.ref o, .long v] h (some (.int v5)) (hs (hs (hs (hs (hs h r0 (ia n (upd f v5.toNatClampNeg (0 : Int32)))) r1 (ia n1 (upd f1 v5.toNatClampNeg (-1 : Int32)))) r2 (ia n2 (upd f2 v5.toNatClampNeg (-1 : Int32)))) r3 (ia n3 (upd f3 v5.toNatClampNeg (-1 : Int32)))) o (ob 2 (fo 6 (va_up F 5 (.int (v5 + 1)))))) := by
  show E false mX2_addNumber d 0 [(0, .ref o), (1, .long v)] [] h _ _
  refine E.st (s_aload_n (q := 1) dX2_addNumber_0 rfl rfl) ?_
  refine E.st (s_iconst (q := 2) (v := 0) dX2_addNumber_1 rfl (by decide)) ?_
  refine E.st (s_iconst (q := 3) (v := (-1)) dX2_addNumber_2 rfl (by decide)) ?_
  refine E.st (s_iconst (q := 4) (v := (-1)) dX2_addNumber_3 rfl (by decide)) ?_
  refine E.st (s_iconst (q := 5) (v := (-1)) dX2_addNumber_4 rfl (by decide)) ?_
  refine E.st (p2 := 8) (l2 := [(0, .ref o), (1, .long v)]) (s2 := [.int v5]) (h2 := (hs (hs (hs (hs (hs h r0 (ia n (upd f v5.toNatClampNeg (0 : Int32)))) r1 (ia n1 (upd f1 v5.toNatClampNeg (-1 : Int32)))) r2 (ia n2 (upd f2 v5.toNatClampNeg (-1 : Int32)))) r3 (ia n3 (upd f3 v5.toNatClampNeg (-1 : Int32)))) o (ob 2 (fo 6 (va_up F 5 (.int (v5 + 1))))))) (s_invv (K := mX2_add) (o := o) (as := [.int 0, .int (-1), .int (-1), .int (-1)]) (rest := []) (v := some (.int v5)) dX2_addNumber_5 rfl lX2_32 (by omega) rfl (Nat.le_of_ble_eq_true rfl) rfl (Nat.le_of_ble_eq_true rfl) (ho) (p_X2_add_1 (d := 0) (Nat.le_refl _) h o (0 : Int32) (-1 : Int32) (-1 : Int32) (-1 : Int32) F ho v5 e5 c r0 e0 n f ha c1 p r1 e1 n1 f1 ha1 ne c2 p1 r2 e2 n2 f2 ha2 ne1 ne2 c3 p2 r3 e3 n3 f3 ha3 ne3 ne4 ne5 c4 p3) (fun h => nomatch h)) ?_
  refine E.st (s_istore_n (q := 9) (ls' := [(3, .int v5), (0, .ref o), (1, .long v)]) dX2_addNumber_8 rfl (by decide) rfl) ?_
  refine E.st (s_iload_n (q := 10) dX2_addNumber_9 rfl rfl) ?_
  refine E.st (s_if_lt_t (q := 20) dX2_addNumber_10 (by decide) c5) ?_
  refine E.st (s_iload_n (q := 21) dX2_addNumber_20 rfl rfl) ?_
  exact E.i dX2_addNumber_21 rfl rfl rfl rfl

set_option maxRecDepth 20000 in
theorem p_X2_addNumber_2 {d : Nat} (hd : 1 ≤ d) (h : AH) (o : Nat) (v : Int64) (F : Nat → Value) (ho : h.1 o = ob 2 (fo 6 F)) (v5 : Int32) (e5 : F 5 = .int v5) (c : v5 < 60) (r0 : Nat) (e0 : F 0 = .ref r0) (n : Nat) (f : Nat → Int32) (ha : h.1 r0 = ia n f) (c1 : vp_in v5 n) (p : 0 < r0) (r1 : Nat) (e1 : F 1 = .ref r1) (n1 : Nat) (f1 : Nat → Int32) (ha1 : h.1 r1 = ia n1 f1) (ne : r1 ≠ r0) (c2 : vp_in v5 n1) (p1 : 0 < r1) (r2 : Nat) (e2 : F 2 = .ref r2) (n2 : Nat) (f2 : Nat → Int32) (ha2 : h.1 r2 = ia n2 f2) (ne1 : r2 ≠ r1) (ne2 : r2 ≠ r0) (c3 : vp_in v5 n2) (p2 : 0 < r2) (r3 : Nat) (e3 : F 3 = .ref r3) (n3 : Nat) (f3 : Nat → Int32) (ha3 : h.1 r3 = ia n3 f3) (ne3 : r3 ≠ r2) (ne4 : r3 ≠ r1) (ne5 : r3 ≠ r0) (c4 : vp_in v5 n3) (p3 : 0 < r3) (c5 : ¬ (v5 < 0)) (r4 : Nat) (e4 : F 4 = .ref r4) (n4 : Nat) (f4 : Nat → Int64) (ha4 : h.1 r4 = la n4 f4) (i : vp_in v5 n4) : CM mX2_addNumber d [.ref o, .long v] h (some (.int v5)) (hs (hs (hs (hs (hs (hs h r0 (ia n (upd f v5.toNatClampNeg (0 : Int32)))) r1 (ia n1 (upd f1 v5.toNatClampNeg (-1 : Int32)))) r2 (ia n2 (upd f2 v5.toNatClampNeg (-1 : Int32)))) r3 (ia n3 (upd f3 v5.toNatClampNeg (-1 : Int32)))) o (ob 2 (fo 6 (va_up F 5 (.int (v5 + 1)))))) r4 (la n4 (vp_updL f4 v5.toNatClampNeg v))) := by
  show E false mX2_addNumber d 0 [(0, .ref o), (1, .long v)] [] h _ _
  refine E.st (s_aload_n (q := 1) dX2_addNumber_0 rfl rfl) ?_
  refine E.st (s_iconst (q := 2) (v := 0) dX2_addNumber_1 rfl (by decide)) ?_
  refine E.st (s_iconst (q := 3) (v := (-1)) dX2_addNumber_2 rfl (by decide)) ?_
  refine E.st (s_iconst (q := 4) (v := (-1)) dX2_addNumber_3 rfl (by decide)) ?_
  refine E.st (s_iconst (q := 5) (v := (-1)) dX2_addNumber_4 rfl (by decide)) ?_
  refine E.st (p2 := 8) (l2 := [(0, .ref o), (1, .long v)]) (s2 := [.int v5]) (h2 := (hs (hs (hs (hs (hs h r0 (ia n (upd f v5.toNatClampNeg (0 : Int32)))) r1 (ia n1 (upd f1 v5.toNatClampNeg (-1 : Int32)))) r2 (ia n2 (upd f2 v5.toNatClampNeg (-1 : Int32)))) r3 (ia n3 (upd f3 v5.toNatClampNeg (-1 : Int32)))) o (ob 2 (fo 6 (va_up F 5 (.int (v5 + 1))))))) (s_invv (K := mX2_add) (o := o) (as := [.int 0, .int (-1), .int (-1), .int (-1)]) (rest := []) (v := some (.int v5)) dX2_addNumber_5 rfl lX2_32 (by omega) rfl (Nat.le_of_ble_eq_true rfl) rfl (Nat.le_of_ble_eq_true rfl) (ho) (p_X2_add_1 (d := 0) (Nat.le_refl _) h o (0 : Int32) (-1 : Int32) (-1 : Int32) (-1 : Int32) F ho v5 e5 c r0 e0 n f ha c1 p r1 e1 n1 f1 ha1 ne c2 p1 r2 e2 n2 f2 ha2 ne1 ne2 c3 p2 r3 e3 n3 f3 ha3 ne3 ne4 ne5 c4 p3) (fun h => nomatch h)) ?_
  refine E.st (s_istore_n (q := 9) (ls' := [(3, .int v5), (0, .ref o), (1, .long v)]) dX2_addNumber_8 rfl (by decide) rfl) ?_
  refine E.st (s_iload_n (q := 10) dX2_addNumber_9 rfl rfl) ?_
  refine E.st (s_if_lt_f (q := 13) (tg := 20) dX2_addNumber_10 (by decide) rfl c5) ?_
  refine E.st (s_aload_n (q := 14) dX2_addNumber_13 rfl rfl) ?_
  refine E.st (s_gf (q := 17) (v := .ref r4) dX2_addNumber_14 rfl fX2_24.l (hs_eq) (by decide) ((up_ne (by decide)).trans (e4))) ?_
  refine E.st (s_iload_n (q := 18) dX2_addNumber_17 rfl rfl) ?_
  refine E.st (s_lload_n (q := 19) dX2_addNumber_18 rfl rfl) ?_
  refine E.st (s_last (q := 20) dX2_addNumber_19 rfl ((hs_ne (Ne.symm (ne_ol ho ha4))).trans ((hs_ne (Ne.symm (ne_il ha3 ha4))).trans ((hs_ne (Ne.symm (ne_il ha2 ha4))).trans ((hs_ne (Ne.symm (ne_il ha1 ha4))).trans ((hs_ne (Ne.symm (ne_il ha ha4))).trans (ha4)))))) i) ?_
  refine E.st (s_iload_n (q := 21) dX2_addNumber_20 rfl rfl) ?_
  exact E.i dX2_addNumber_21 rfl rfl rfl rfl

set_option maxRecDepth 20000 in
theorem p_X2_addNumber_3 {d : Nat} (hd : 1 ≤ d) (h : AH) (o : Nat) (v : Int64) (F : Nat → Value) (ho : h.1 o = ob 2 (fo 6 F)) (v5 : Int32) (e5 : F 5 = .int v5) (c : ¬ (v5 < 60)) : CM mX2_addNumber d [.ref o, .long v] h (some (.int (-1))) h := by
  show E false mX2_addNumber d 0 [(0, .ref o), (1, .long v)] [] h _ _
  refine E.st (s_aload_n (q := 1) dX2_addNumber_0 rfl rfl) ?_
  refine E.st (s_iconst (q := 2) (v := 0) dX2_addNumber_1 rfl (by decide)) ?_
  refine E.st (s_iconst (q := 3) (v := (-1)) dX2_addNumber_2 rfl (by decide)) ?_
  refine E.st (s_iconst (q := 4) (v := (-1)) dX2_addNumber_3 rfl (by decide)) ?_
  refine E.st (s_iconst (q := 5) (v := (-1)) dX2_addNumber_4 rfl (by decide)) ?_
  refine E.st (p2 := 8) (l2 := [(0, .ref o), (1, .long v)]) (s2 := [.int (-1)]) (h2 := h) (s_invv (K := mX2_add) (o := o) (as := [.int 0, .int (-1), .int (-1), .int (-1)]) (rest := []) (v := some (.int (-1))) dX2_addNumber_5 rfl lX2_32 (by omega) rfl (Nat.le_of_ble_eq_true rfl) rfl (Nat.le_of_ble_eq_true rfl) (ho) (p_X2_add_2 (d := 0) (Nat.le_refl _) h o (0 : Int32) (-1 : Int32) (-1 : Int32) (-1 : Int32) F ho v5 e5 c) (fun h => nomatch h)) ?_
  refine E.st (s_istore_n (q := 9) (ls' := [(3, .int (-1)), (0, .ref o), (1, .long v)]) dX2_addNumber_8 rfl (by decide) rfl) ?_
  refine E.st (s_iload_n (q := 10) dX2_addNumber_9 rfl rfl) ?_
  refine E.st (s_if_lt_t (q := 20) dX2_addNumber_10 (by decide) (by decide)) ?_
  refine E.st (s_iload_n (q := 21) dX2_addNumber_20 rfl rfl) ?_
  exact E.i dX2_addNumber_21 rfl rfl rfl rfl

set_option maxRecDepth 20000 in
theorem p_X2_sortOf_y {d : Nat} (hd : 1 ≤ d) (h : AH) (o : Nat) (n : Int32) (F : Nat → Value) (ho : h.1 o = ob 2 (fo 6 F)) (v5 : Int32) (e5 : F 5 = .int v5) (c : n < 0 ∨ v5 ≤ n) : CM mX2_sortOf d [.ref o, .int n] h (some (.int (-1))) h := by
  show E false mX2_sortOf d 0 [(0, .ref o), (1, .int n)] [] h _ _
  refine E.st (s_aload_n (q := 1) dX2_sortOf_0 rfl rfl) ?_
  refine E.st (s_iload_n (q := 2) dX2_sortOf_1 rfl rfl) ?_
  refine E.st (p2 := 5) (l2 := [(0, .ref o), (1, .int n)]) (s2 := [.int 0]) (h2 := h) (s_invv (K := mX2_has) (o := o) (as := [.int n]) (rest := []) (v := some (.int 0)) dX2_sortOf_2 rfl lX2_36 (by omega) rfl (Nat.le_of_ble_eq_true rfl) rfl (Nat.le_of_ble_eq_true rfl) (ho) (q_X2_has_n (d := 0) (Nat.le_refl _) h o n F ho v5 e5 c) (fun h => nomatch h)) ?_
  refine E.st (s_if_eq_t (q := 17) dX2_sortOf_5 (by decide) (by decide)) ?_
  refine E.st (s_iconst (q := 18) (v := (-1)) dX2_sortOf_17 rfl (by decide)) ?_
  exact E.i dX2_sortOf_18 rfl rfl rfl rfl

set_option maxRecDepth 20000 in
theorem p_X2_sortOf_n {d : Nat} (hd : 1 ≤ d) (h : AH) (o : Nat) (n : Int32) (F : Nat → Value) (ho : h.1 o = ob 2 (fo 6 F)) (v5 : Int32) (e5 : F 5 = .int v5) (c : ¬ (n < 0) ∧ ¬ (v5 ≤ n)) (r0 : Nat) (e0 : F 0 = .ref r0) (n1 : Nat) (f : Nat → Int32) (ha : h.1 r0 = ia n1 f) (i : vp_in n n1) (p : 0 < r0) : CM mX2_sortOf d [.ref o, .int n] h (some (.int (f n.toNatClampNeg))) h := by
  show E false mX2_sortOf d 0 [(0, .ref o), (1, .int n)] [] h _ _
  refine E.st (s_aload_n (q := 1) dX2_sortOf_0 rfl rfl) ?_
  refine E.st (s_iload_n (q := 2) dX2_sortOf_1 rfl rfl) ?_
  refine E.st (p2 := 5) (l2 := [(0, .ref o), (1, .int n)]) (s2 := [.int 1]) (h2 := h) (s_invv (K := mX2_has) (o := o) (as := [.int n]) (rest := []) (v := some (.int 1)) dX2_sortOf_2 rfl lX2_36 (by omega) rfl (Nat.le_of_ble_eq_true rfl) rfl (Nat.le_of_ble_eq_true rfl) (ho) (q_X2_has_y (d := 0) (Nat.le_refl _) h o n F ho v5 e5 c) (fun h => nomatch h)) ?_
  refine E.st (s_if_eq_f (q := 8) (tg := 17) dX2_sortOf_5 (by decide) rfl (by decide)) ?_
  refine E.st (s_aload_n (q := 9) dX2_sortOf_8 rfl rfl) ?_
  refine E.st (s_gf (q := 12) (v := .ref r0) dX2_sortOf_9 rfl fX2_9.l (ho) (by decide) (e0)) ?_
  refine E.st (s_iload_n (q := 13) dX2_sortOf_12 rfl rfl) ?_
  refine E.st (s_iald (q := 14) dX2_sortOf_13 rfl p (ha) i) ?_
  refine E.st (s_goto (q := 18) dX2_sortOf_14 (by decide)) ?_
  exact E.i dX2_sortOf_18 rfl rfl rfl rfl

set_option maxRecDepth 20000 in
theorem p_X2_firstOf_y {d : Nat} (hd : 1 ≤ d) (h : AH) (o : Nat) (n : Int32) (F : Nat → Value) (ho : h.1 o = ob 2 (fo 6 F)) (v5 : Int32) (e5 : F 5 = .int v5) (c : n < 0 ∨ v5 ≤ n) : CM mX2_firstOf d [.ref o, .int n] h (some (.int (-1))) h := by
  show E false mX2_firstOf d 0 [(0, .ref o), (1, .int n)] [] h _ _
  refine E.st (s_aload_n (q := 1) dX2_firstOf_0 rfl rfl) ?_
  refine E.st (s_iload_n (q := 2) dX2_firstOf_1 rfl rfl) ?_
  refine E.st (p2 := 5) (l2 := [(0, .ref o), (1, .int n)]) (s2 := [.int 0]) (h2 := h) (s_invv (K := mX2_has) (o := o) (as := [.int n]) (rest := []) (v := some (.int 0)) dX2_firstOf_2 rfl lX2_36 (by omega) rfl (Nat.le_of_ble_eq_true rfl) rfl (Nat.le_of_ble_eq_true rfl) (ho) (q_X2_has_n (d := 0) (Nat.le_refl _) h o n F ho v5 e5 c) (fun h => nomatch h)) ?_
  refine E.st (s_if_eq_t (q := 17) dX2_firstOf_5 (by decide) (by decide)) ?_
  refine E.st (s_iconst (q := 18) (v := (-1)) dX2_firstOf_17 rfl (by decide)) ?_
  exact E.i dX2_firstOf_18 rfl rfl rfl rfl

set_option maxRecDepth 20000 in
theorem p_X2_firstOf_n {d : Nat} (hd : 1 ≤ d) (h : AH) (o : Nat) (n : Int32) (F : Nat → Value) (ho : h.1 o = ob 2 (fo 6 F)) (v5 : Int32) (e5 : F 5 = .int v5) (c : ¬ (n < 0) ∧ ¬ (v5 ≤ n)) (r1 : Nat) (e1 : F 1 = .ref r1) (n1 : Nat) (f : Nat → Int32) (ha : h.1 r1 = ia n1 f) (i : vp_in n n1) (p : 0 < r1) : CM mX2_firstOf d [.ref o, .int n] h (some (.int (f n.toNatClampNeg))) h := by
  show E false mX2_firstOf d 0 [(0, .ref o), (1, .int n)] [] h _ _
  refine E.st (s_aload_n (q := 1) dX2_firstOf_0 rfl rfl) ?_
  refine E.st (s_iload_n (q := 2) dX2_firstOf_1 rfl rfl) ?_
  refine E.st (p2 := 5) (l2 := [(0, .ref o), (1, .int n)]) (s2 := [.int 1]) (h2 := h) (s_invv (K := mX2_has) (o := o) (as := [.int n]) (rest := []) (v := some (.int 1)) dX2_firstOf_2 rfl lX2_36 (by omega) rfl (Nat.le_of_ble_eq_true rfl) rfl (Nat.le_of_ble_eq_true rfl) (ho) (q_X2_has_y (d := 0) (Nat.le_refl _) h o n F ho v5 e5 c) (fun h => nomatch h)) ?_
  refine E.st (s_if_eq_f (q := 8) (tg := 17) dX2_firstOf_5 (by decide) rfl (by decide)) ?_
  refine E.st (s_aload_n (q := 9) dX2_firstOf_8 rfl rfl) ?_
  refine E.st (s_gf (q := 12) (v := .ref r1) dX2_firstOf_9 rfl fX2_15.l (ho) (by decide) (e1)) ?_
  refine E.st (s_iload_n (q := 13) dX2_firstOf_12 rfl rfl) ?_
  refine E.st (s_iald (q := 14) dX2_firstOf_13 rfl p (ha) i) ?_
  refine E.st (s_goto (q := 18) dX2_firstOf_14 (by decide)) ?_
  exact E.i dX2_firstOf_18 rfl rfl rfl rfl

set_option maxRecDepth 20000 in
theorem p_X2_secondOf_y {d : Nat} (hd : 1 ≤ d) (h : AH) (o : Nat) (n : Int32) (F : Nat → Value) (ho : h.1 o = ob 2 (fo 6 F)) (v5 : Int32) (e5 : F 5 = .int v5) (c : n < 0 ∨ v5 ≤ n) : CM mX2_secondOf d [.ref o, .int n] h (some (.int (-1))) h := by
  show E false mX2_secondOf d 0 [(0, .ref o), (1, .int n)] [] h _ _
  refine E.st (s_aload_n (q := 1) dX2_secondOf_0 rfl rfl) ?_
  refine E.st (s_iload_n (q := 2) dX2_secondOf_1 rfl rfl) ?_
  refine E.st (p2 := 5) (l2 := [(0, .ref o), (1, .int n)]) (s2 := [.int 0]) (h2 := h) (s_invv (K := mX2_has) (o := o) (as := [.int n]) (rest := []) (v := some (.int 0)) dX2_secondOf_2 rfl lX2_36 (by omega) rfl (Nat.le_of_ble_eq_true rfl) rfl (Nat.le_of_ble_eq_true rfl) (ho) (q_X2_has_n (d := 0) (Nat.le_refl _) h o n F ho v5 e5 c) (fun h => nomatch h)) ?_
  refine E.st (s_if_eq_t (q := 17) dX2_secondOf_5 (by decide) (by decide)) ?_
  refine E.st (s_iconst (q := 18) (v := (-1)) dX2_secondOf_17 rfl (by decide)) ?_
  exact E.i dX2_secondOf_18 rfl rfl rfl rfl

set_option maxRecDepth 20000 in
theorem p_X2_secondOf_n {d : Nat} (hd : 1 ≤ d) (h : AH) (o : Nat) (n : Int32) (F : Nat → Value) (ho : h.1 o = ob 2 (fo 6 F)) (v5 : Int32) (e5 : F 5 = .int v5) (c : ¬ (n < 0) ∧ ¬ (v5 ≤ n)) (r2 : Nat) (e2 : F 2 = .ref r2) (n1 : Nat) (f : Nat → Int32) (ha : h.1 r2 = ia n1 f) (i : vp_in n n1) (p : 0 < r2) : CM mX2_secondOf d [.ref o, .int n] h (some (.int (f n.toNatClampNeg))) h := by
  show E false mX2_secondOf d 0 [(0, .ref o), (1, .int n)] [] h _ _
  refine E.st (s_aload_n (q := 1) dX2_secondOf_0 rfl rfl) ?_
  refine E.st (s_iload_n (q := 2) dX2_secondOf_1 rfl rfl) ?_
  refine E.st (p2 := 5) (l2 := [(0, .ref o), (1, .int n)]) (s2 := [.int 1]) (h2 := h) (s_invv (K := mX2_has) (o := o) (as := [.int n]) (rest := []) (v := some (.int 1)) dX2_secondOf_2 rfl lX2_36 (by omega) rfl (Nat.le_of_ble_eq_true rfl) rfl (Nat.le_of_ble_eq_true rfl) (ho) (q_X2_has_y (d := 0) (Nat.le_refl _) h o n F ho v5 e5 c) (fun h => nomatch h)) ?_
  refine E.st (s_if_eq_f (q := 8) (tg := 17) dX2_secondOf_5 (by decide) rfl (by decide)) ?_
  refine E.st (s_aload_n (q := 9) dX2_secondOf_8 rfl rfl) ?_
  refine E.st (s_gf (q := 12) (v := .ref r2) dX2_secondOf_9 rfl fX2_18.l (ho) (by decide) (e2)) ?_
  refine E.st (s_iload_n (q := 13) dX2_secondOf_12 rfl rfl) ?_
  refine E.st (s_iald (q := 14) dX2_secondOf_13 rfl p (ha) i) ?_
  refine E.st (s_goto (q := 18) dX2_secondOf_14 (by decide)) ?_
  exact E.i dX2_secondOf_18 rfl rfl rfl rfl

set_option maxRecDepth 20000 in
theorem p_X2_thirdOf_y {d : Nat} (hd : 1 ≤ d) (h : AH) (o : Nat) (n : Int32) (F : Nat → Value) (ho : h.1 o = ob 2 (fo 6 F)) (v5 : Int32) (e5 : F 5 = .int v5) (c : n < 0 ∨ v5 ≤ n) : CM mX2_thirdOf d [.ref o, .int n] h (some (.int (-1))) h := by
  show E false mX2_thirdOf d 0 [(0, .ref o), (1, .int n)] [] h _ _
  refine E.st (s_aload_n (q := 1) dX2_thirdOf_0 rfl rfl) ?_
  refine E.st (s_iload_n (q := 2) dX2_thirdOf_1 rfl rfl) ?_
  refine E.st (p2 := 5) (l2 := [(0, .ref o), (1, .int n)]) (s2 := [.int 0]) (h2 := h) (s_invv (K := mX2_has) (o := o) (as := [.int n]) (rest := []) (v := some (.int 0)) dX2_thirdOf_2 rfl lX2_36 (by omega) rfl (Nat.le_of_ble_eq_true rfl) rfl (Nat.le_of_ble_eq_true rfl) (ho) (q_X2_has_n (d := 0) (Nat.le_refl _) h o n F ho v5 e5 c) (fun h => nomatch h)) ?_
  refine E.st (s_if_eq_t (q := 17) dX2_thirdOf_5 (by decide) (by decide)) ?_
  refine E.st (s_iconst (q := 18) (v := (-1)) dX2_thirdOf_17 rfl (by decide)) ?_
  exact E.i dX2_thirdOf_18 rfl rfl rfl rfl

set_option maxRecDepth 20000 in
theorem p_X2_thirdOf_n {d : Nat} (hd : 1 ≤ d) (h : AH) (o : Nat) (n : Int32) (F : Nat → Value) (ho : h.1 o = ob 2 (fo 6 F)) (v5 : Int32) (e5 : F 5 = .int v5) (c : ¬ (n < 0) ∧ ¬ (v5 ≤ n)) (r3 : Nat) (e3 : F 3 = .ref r3) (n1 : Nat) (f : Nat → Int32) (ha : h.1 r3 = ia n1 f) (i : vp_in n n1) (p : 0 < r3) : CM mX2_thirdOf d [.ref o, .int n] h (some (.int (f n.toNatClampNeg))) h := by
  show E false mX2_thirdOf d 0 [(0, .ref o), (1, .int n)] [] h _ _
  refine E.st (s_aload_n (q := 1) dX2_thirdOf_0 rfl rfl) ?_
  refine E.st (s_iload_n (q := 2) dX2_thirdOf_1 rfl rfl) ?_
  refine E.st (p2 := 5) (l2 := [(0, .ref o), (1, .int n)]) (s2 := [.int 1]) (h2 := h) (s_invv (K := mX2_has) (o := o) (as := [.int n]) (rest := []) (v := some (.int 1)) dX2_thirdOf_2 rfl lX2_36 (by omega) rfl (Nat.le_of_ble_eq_true rfl) rfl (Nat.le_of_ble_eq_true rfl) (ho) (q_X2_has_y (d := 0) (Nat.le_refl _) h o n F ho v5 e5 c) (fun h => nomatch h)) ?_
  refine E.st (s_if_eq_f (q := 8) (tg := 17) dX2_thirdOf_5 (by decide) rfl (by decide)) ?_
  refine E.st (s_aload_n (q := 9) dX2_thirdOf_8 rfl rfl) ?_
  refine E.st (s_gf (q := 12) (v := .ref r3) dX2_thirdOf_9 rfl fX2_21.l (ho) (by decide) (e3)) ?_
  refine E.st (s_iload_n (q := 13) dX2_thirdOf_12 rfl rfl) ?_
  refine E.st (s_iald (q := 14) dX2_thirdOf_13 rfl p (ha) i) ?_
  refine E.st (s_goto (q := 18) dX2_thirdOf_14 (by decide)) ?_
  exact E.i dX2_thirdOf_18 rfl rfl rfl rfl

set_option maxRecDepth 20000 in
theorem p_X2_numberOf_y {d : Nat} (hd : 1 ≤ d) (h : AH) (o : Nat) (n : Int32) (F : Nat → Value) (ho : h.1 o = ob 2 (fo 6 F)) (v5 : Int32) (e5 : F 5 = .int v5) (c : n < 0 ∨ v5 ≤ n) : CM mX2_numberOf d [.ref o, .int n] h (some (.long 0)) h := by
  show E false mX2_numberOf d 0 [(0, .ref o), (1, .int n)] [] h _ _
  refine E.st (s_aload_n (q := 1) dX2_numberOf_0 rfl rfl) ?_
  refine E.st (s_iload_n (q := 2) dX2_numberOf_1 rfl rfl) ?_
  refine E.st (p2 := 5) (l2 := [(0, .ref o), (1, .int n)]) (s2 := [.int 0]) (h2 := h) (s_invv (K := mX2_has) (o := o) (as := [.int n]) (rest := []) (v := some (.int 0)) dX2_numberOf_2 rfl lX2_36 (by omega) rfl (Nat.le_of_ble_eq_true rfl) rfl (Nat.le_of_ble_eq_true rfl) (ho) (q_X2_has_n (d := 0) (Nat.le_refl _) h o n F ho v5 e5 c) (fun h => nomatch h)) ?_
  refine E.st (s_if_eq_t (q := 17) dX2_numberOf_5 (by decide) (by decide)) ?_
  refine E.st (s_lconst (q := 18) (v := 0) dX2_numberOf_17 rfl (by decide)) ?_
  exact E.l dX2_numberOf_18 rfl rfl rfl

set_option maxRecDepth 20000 in
theorem p_X2_numberOf_n {d : Nat} (hd : 1 ≤ d) (h : AH) (o : Nat) (n : Int32) (F : Nat → Value) (ho : h.1 o = ob 2 (fo 6 F)) (v5 : Int32) (e5 : F 5 = .int v5) (c : ¬ (n < 0) ∧ ¬ (v5 ≤ n)) (r4 : Nat) (e4 : F 4 = .ref r4) (n1 : Nat) (f : Nat → Int64) (ha : h.1 r4 = la n1 f) (i : vp_in n n1) : CM mX2_numberOf d [.ref o, .int n] h (some (.long (f n.toNatClampNeg))) h := by
  show E false mX2_numberOf d 0 [(0, .ref o), (1, .int n)] [] h _ _
  refine E.st (s_aload_n (q := 1) dX2_numberOf_0 rfl rfl) ?_
  refine E.st (s_iload_n (q := 2) dX2_numberOf_1 rfl rfl) ?_
  refine E.st (p2 := 5) (l2 := [(0, .ref o), (1, .int n)]) (s2 := [.int 1]) (h2 := h) (s_invv (K := mX2_has) (o := o) (as := [.int n]) (rest := []) (v := some (.int 1)) dX2_numberOf_2 rfl lX2_36 (by omega) rfl (Nat.le_of_ble_eq_true rfl) rfl (Nat.le_of_ble_eq_true rfl) (ho) (q_X2_has_y (d := 0) (Nat.le_refl _) h o n F ho v5 e5 c) (fun h => nomatch h)) ?_
  refine E.st (s_if_eq_f (q := 8) (tg := 17) dX2_numberOf_5 (by decide) rfl (by decide)) ?_
  refine E.st (s_aload_n (q := 9) dX2_numberOf_8 rfl rfl) ?_
  refine E.st (s_gf (q := 12) (v := .ref r4) dX2_numberOf_9 rfl fX2_24.l (ho) (by decide) (e4)) ?_
  refine E.st (s_iload_n (q := 13) dX2_numberOf_12 rfl rfl) ?_
  refine E.st (s_lald (q := 14) dX2_numberOf_13 rfl (ha) i) ?_
  refine E.st (s_goto (q := 18) dX2_numberOf_14 (by decide)) ?_
  exact E.l dX2_numberOf_18 rfl rfl rfl

set_option maxRecDepth 20000 in
theorem p_X4_size_1 {d : Nat} (hd : 0 ≤ d) (h : AH) (o : Nat) (F : Nat → Value) (ho : h.1 o = ob 4 (fo 4 F)) (v3 : Int32) (e3 : F 3 = .int v3) : CM mX4_size d [.ref o] h (some (.int v3)) h := by
  show E false mX4_size d 0 [(0, .ref o)] [] h _ _
  refine E.st (s_aload_n (q := 1) dX4_size_0 rfl rfl) ?_
  refine E.st (s_gf (q := 4) (v := .int v3) dX4_size_1 rfl fX4_23.l (ho) (by decide) (e3)) ?_
  exact E.i dX4_size_4 rfl rfl rfl rfl

set_option maxRecDepth 20000 in
theorem p_X4_cutTo_1 {d : Nat} (hd : 0 ≤ d) (h : AH) (o : Nat) (n : Int32) (c : n < 0) : CM mX4_cutTo d [.ref o, .int n] h (none) h := by
  show E false mX4_cutTo d 0 [(0, .ref o), (1, .int n)] [] h _ _
  refine E.st (s_iload_n (q := 1) dX4_cutTo_0 rfl rfl) ?_
  refine E.st (s_if_lt_t (q := 17) dX4_cutTo_1 (by decide) c) ?_
  exact E.v dX4_cutTo_17 rfl rfl rfl

set_option maxRecDepth 20000 in
theorem p_X4_cutTo_2 {d : Nat} (hd : 0 ≤ d) (h : AH) (o : Nat) (n : Int32) (c : ¬ (n < 0)) (F : Nat → Value) (ho : h.1 o = ob 4 (fo 4 F)) (v3 : Int32) (e3 : F 3 = .int v3) (c1 : v3 ≤ n) : CM mX4_cutTo d [.ref o, .int n] h (none) h := by
  show E false mX4_cutTo d 0 [(0, .ref o), (1, .int n)] [] h _ _
  refine E.st (s_iload_n (q := 1) dX4_cutTo_0 rfl rfl) ?_
  refine E.st (s_if_lt_f (q := 4) (tg := 17) dX4_cutTo_1 (by decide) rfl c) ?_
  refine E.st (s_iload_n (q := 5) dX4_cutTo_4 rfl rfl) ?_
  refine E.st (s_aload_n (q := 6) dX4_cutTo_5 rfl rfl) ?_
  refine E.st (s_gf (q := 9) (v := .int v3) dX4_cutTo_6 rfl fX4_23.l (ho) (by decide) (e3)) ?_
  refine E.st (s_icmp_ge_t (q := 17) dX4_cutTo_9 (by decide) c1) ?_
  exact E.v dX4_cutTo_17 rfl rfl rfl

set_option maxRecDepth 20000 in
theorem p_X4_cutTo_3 {d : Nat} (hd : 0 ≤ d) (h : AH) (o : Nat) (n : Int32) (c : ¬ (n < 0)) (F : Nat → Value) (ho : h.1 o = ob 4 (fo 4 F)) (v3 : Int32) (e3 : F 3 = .int v3) (c1 : ¬ (v3 ≤ n)) : CM mX4_cutTo d [.ref o, .int n] h (none) (hs h o (ob 4 (fo 4 (va_up F 3 (.int n))))) := by
  show E false mX4_cutTo d 0 [(0, .ref o), (1, .int n)] [] h _ _
  refine E.st (s_iload_n (q := 1) dX4_cutTo_0 rfl rfl) ?_
  refine E.st (s_if_lt_f (q := 4) (tg := 17) dX4_cutTo_1 (by decide) rfl c) ?_
  refine E.st (s_iload_n (q := 5) dX4_cutTo_4 rfl rfl) ?_
  refine E.st (s_aload_n (q := 6) dX4_cutTo_5 rfl rfl) ?_
  refine E.st (s_gf (q := 9) (v := .int v3) dX4_cutTo_6 rfl fX4_23.l (ho) (by decide) (e3)) ?_
  refine E.st (s_icmp_ge_f (q := 12) (tg := 17) dX4_cutTo_9 (by decide) rfl c1) ?_
  refine E.st (s_aload_n (q := 13) dX4_cutTo_12 rfl rfl) ?_
  refine E.st (s_iload_n (q := 14) dX4_cutTo_13 rfl rfl) ?_
  refine E.st (s_pf (q := 17) dX4_cutTo_14 rfl fX4_23 (ho) (by decide) (fun _ => ⟨rfl, rfl⟩)) ?_
  exact E.v dX4_cutTo_17 rfl rfl rfl

set_option maxRecDepth 20000 in
theorem p_X4_has_1 {d : Nat} (hd : 0 ≤ d) (h : AH) (o : Nat) (n : Int32) (c : n < 0) : CM mX4_has d [.ref o, .int n] h (some (.int 0)) h := by
  show E false mX4_has d 0 [(0, .ref o), (1, .int n)] [] h _ _
  refine E.st (s_iload_n (q := 1) dX4_has_0 rfl rfl) ?_
  refine E.st (s_if_lt_t (q := 16) dX4_has_1 (by decide) c) ?_
  refine E.st (s_iconst (q := 17) (v := 0) dX4_has_16 rfl (by decide)) ?_
  exact E.i dX4_has_17 rfl rfl rfl rfl

set_option maxRecDepth 20000 in
theorem p_X4_has_2 {d : Nat} (hd : 0 ≤ d) (h : AH) (o : Nat) (n : Int32) (c : ¬ (n < 0)) (F : Nat → Value) (ho : h.1 o = ob 4 (fo 4 F)) (v3 : Int32) (e3 : F 3 = .int v3) (c1 : v3 ≤ n) : CM mX4_has d [.ref o, .int n] h (some (.int 0)) h := by
  show E false mX4_has d 0 [(0, .ref o), (1, .int n)] [] h _ _
  refine E.st (s_iload_n (q := 1) dX4_has_0 rfl rfl) ?_
  refine E.st (s_if_lt_f (q := 4) (tg := 16) dX4_has_1 (by decide) rfl c) ?_
  refine E.st (s_iload_n (q := 5) dX4_has_4 rfl rfl) ?_
  refine E.st (s_aload_n (q := 6) dX4_has_5 rfl rfl) ?_
  refine E.st (s_gf (q := 9) (v := .int v3) dX4_has_6 rfl fX4_23.l (ho) (by decide) (e3)) ?_
  refine E.st (s_icmp_ge_t (q := 16) dX4_has_9 (by decide) c1) ?_
  refine E.st (s_iconst (q := 17) (v := 0) dX4_has_16 rfl (by decide)) ?_
  exact E.i dX4_has_17 rfl rfl rfl rfl

set_option maxRecDepth 20000 in
theorem p_X4_has_3 {d : Nat} (hd : 0 ≤ d) (h : AH) (o : Nat) (n : Int32) (c : ¬ (n < 0)) (F : Nat → Value) (ho : h.1 o = ob 4 (fo 4 F)) (v3 : Int32) (e3 : F 3 = .int v3) (c1 : ¬ (v3 ≤ n)) : CM mX4_has d [.ref o, .int n] h (some (.int 1)) h := by
  show E false mX4_has d 0 [(0, .ref o), (1, .int n)] [] h _ _
  refine E.st (s_iload_n (q := 1) dX4_has_0 rfl rfl) ?_
  refine E.st (s_if_lt_f (q := 4) (tg := 16) dX4_has_1 (by decide) rfl c) ?_
  refine E.st (s_iload_n (q := 5) dX4_has_4 rfl rfl) ?_
  refine E.st (s_aload_n (q := 6) dX4_has_5 rfl rfl) ?_
  refine E.st (s_gf (q := 9) (v := .int v3) dX4_has_6 rfl fX4_23.l (ho) (by decide) (e3)) ?_
  refine E.st (s_icmp_ge_f (q := 12) (tg := 16) dX4_has_9 (by decide) rfl c1) ?_
  refine E.st (s_iconst (q := 13) (v := 1) dX4_has_12 rfl (by decide)) ?_
  refine E.st (s_goto (q := 17) dX4_has_13 (by decide)) ?_
  exact E.i dX4_has_17 rfl rfl rfl rfl

theorem q_X4_has_n {d : Nat} (hd : 0 ≤ d) (h : AH) (o : Nat) (n : Int32) (F : Nat → Value) (ho : h.1 o = ob 4 (fo 4 F)) (v3 : Int32) (e3 : F 3 = .int v3) (c : n < 0 ∨ v3 ≤ n) : CM mX4_has d [.ref o, .int n] h (some (.int 0)) h := by
  by_cases z : n < 0
  · exact p_X4_has_1 hd h o n z
  · exact p_X4_has_2 hd h o n z F ho v3 e3 (c.resolve_left z)
theorem q_X4_has_y {d : Nat} (hd : 0 ≤ d) (h : AH) (o : Nat) (n : Int32) (F : Nat → Value) (ho : h.1 o = ob 4 (fo 4 F)) (v3 : Int32) (e3 : F 3 = .int v3) (c : ¬ (n < 0) ∧ ¬ (v3 ≤ n)) : CM mX4_has d [.ref o, .int n] h (some (.int 1)) h := p_X4_has_3 hd h o n c.1 F ho v3 e3 c.2

set_option maxRecDepth 20000 in
theorem p_X4_kindAt_1 {d : Nat} (hd : 1 ≤ d) (h : AH) (o : Nat) (n : Int32) (F : Nat → Value) (ho : h.1 o = ob 4 (fo 4 F)) (v3 : Int32) (e3 : F 3 = .int v3) (c : n < 0 ∨ v3 ≤ n) : CM mX4_kindAt d [.ref o, .int n] h (some (.int (-1))) h := by
  show E false mX4_kindAt d 0 [(0, .ref o), (1, .int n)] [] h _ _
  refine E.st (s_aload_n (q := 1) dX4_kindAt_0 rfl rfl) ?_
  refine E.st (s_iload_n (q := 2) dX4_kindAt_1 rfl rfl) ?_
  refine E.st (p2 := 5) (l2 := [(0, .ref o), (1, .int n)]) (s2 := [.int 0]) (h2 := h) (s_invv (K := mX4_has) (o := o) (as := [.int n]) (rest := []) (v := some (.int 0)) dX4_kindAt_2 rfl lX4_26 (by omega) rfl (Nat.le_of_ble_eq_true rfl) rfl (Nat.le_of_ble_eq_true rfl) (ho) (q_X4_has_n (d := 0) (Nat.le_refl _) h o n F ho v3 e3 c) (fun h => nomatch h)) ?_
  refine E.st (s_if_eq_t (q := 17) dX4_kindAt_5 (by decide) (by decide)) ?_
  refine E.st (s_iconst (q := 18) (v := (-1)) dX4_kindAt_17 rfl (by decide)) ?_
  exact E.i dX4_kindAt_18 rfl rfl rfl rfl

set_option maxRecDepth 20000 in
theorem p_X4_kindAt_2 {d : Nat} (hd : 1 ≤ d) (h : AH) (o : Nat) (n : Int32) (F : Nat → Value) (ho : h.1 o = ob 4 (fo 4 F)) (v3 : Int32) (e3 : F 3 = .int v3) (c : ¬ (n < 0) ∧ ¬ (v3 ≤ n)) (r1 : Nat) (e1 : F 1 = .ref r1) (n1 : Nat) (f : Nat → Int32) (ha : h.1 r1 = ia n1 f) (i : vp_in n n1) (p : 0 < r1) : CM mX4_kindAt d [.ref o, .int n] h (some (.int (f n.toNatClampNeg))) h := by
  show E false mX4_kindAt d 0 [(0, .ref o), (1, .int n)] [] h _ _
  refine E.st (s_aload_n (q := 1) dX4_kindAt_0 rfl rfl) ?_
  refine E.st (s_iload_n (q := 2) dX4_kindAt_1 rfl rfl) ?_
  refine E.st (p2 := 5) (l2 := [(0, .ref o), (1, .int n)]) (s2 := [.int 1]) (h2 := h) (s_invv (K := mX4_has) (o := o) (as := [.int n]) (rest := []) (v := some (.int 1)) dX4_kindAt_2 rfl lX4_26 (by omega) rfl (Nat.le_of_ble_eq_true rfl) rfl (Nat.le_of_ble_eq_true rfl) (ho) (q_X4_has_y (d := 0) (Nat.le_refl _) h o n F ho v3 e3 c) (fun h => nomatch h)) ?_
  refine E.st (s_if_eq_f (q := 8) (tg := 17) dX4_kindAt_5 (by decide) rfl (by decide)) ?_
  refine E.st (s_aload_n (q := 9) dX4_kindAt_8 rfl rfl) ?_
  refine E.st (s_gf (q := 12) (v := .ref r1) dX4_kindAt_9 rfl fX4_11.l (ho) (by decide) (e1)) ?_
  refine E.st (s_iload_n (q := 13) dX4_kindAt_12 rfl rfl) ?_
  refine E.st (s_iald (q := 14) dX4_kindAt_13 rfl p (ha) i) ?_
  refine E.st (s_goto (q := 18) dX4_kindAt_14 (by decide)) ?_
  exact E.i dX4_kindAt_18 rfl rfl rfl rfl

set_option maxRecDepth 20000 in
theorem p_X4_numberAt_1 {d : Nat} (hd : 1 ≤ d) (h : AH) (o : Nat) (n : Int32) (F : Nat → Value) (ho : h.1 o = ob 4 (fo 4 F)) (v3 : Int32) (e3 : F 3 = .int v3) (c : n < 0 ∨ v3 ≤ n) : CM mX4_numberAt d [.ref o, .int n] h (some (.long 0)) h := by
  show E false mX4_numberAt d 0 [(0, .ref o), (1, .int n)] [] h _ _
  refine E.st (s_aload_n (q := 1) dX4_numberAt_0 rfl rfl) ?_
  refine E.st (s_iload_n (q := 2) dX4_numberAt_1 rfl rfl) ?_
  refine E.st (p2 := 5) (l2 := [(0, .ref o), (1, .int n)]) (s2 := [.int 0]) (h2 := h) (s_invv (K := mX4_has) (o := o) (as := [.int n]) (rest := []) (v := some (.int 0)) dX4_numberAt_2 rfl lX4_26 (by omega) rfl (Nat.le_of_ble_eq_true rfl) rfl (Nat.le_of_ble_eq_true rfl) (ho) (q_X4_has_n (d := 0) (Nat.le_refl _) h o n F ho v3 e3 c) (fun h => nomatch h)) ?_
  refine E.st (s_if_eq_t (q := 17) dX4_numberAt_5 (by decide) (by decide)) ?_
  refine E.st (s_lconst (q := 18) (v := 0) dX4_numberAt_17 rfl (by decide)) ?_
  exact E.l dX4_numberAt_18 rfl rfl rfl

set_option maxRecDepth 20000 in
theorem p_X4_numberAt_2 {d : Nat} (hd : 1 ≤ d) (h : AH) (o : Nat) (n : Int32) (F : Nat → Value) (ho : h.1 o = ob 4 (fo 4 F)) (v3 : Int32) (e3 : F 3 = .int v3) (c : ¬ (n < 0) ∧ ¬ (v3 ≤ n)) (r2 : Nat) (e2 : F 2 = .ref r2) (n1 : Nat) (f : Nat → Int64) (ha : h.1 r2 = la n1 f) (i : vp_in n n1) : CM mX4_numberAt d [.ref o, .int n] h (some (.long (f n.toNatClampNeg))) h := by
  show E false mX4_numberAt d 0 [(0, .ref o), (1, .int n)] [] h _ _
  refine E.st (s_aload_n (q := 1) dX4_numberAt_0 rfl rfl) ?_
  refine E.st (s_iload_n (q := 2) dX4_numberAt_1 rfl rfl) ?_
  refine E.st (p2 := 5) (l2 := [(0, .ref o), (1, .int n)]) (s2 := [.int 1]) (h2 := h) (s_invv (K := mX4_has) (o := o) (as := [.int n]) (rest := []) (v := some (.int 1)) dX4_numberAt_2 rfl lX4_26 (by omega) rfl (Nat.le_of_ble_eq_true rfl) rfl (Nat.le_of_ble_eq_true rfl) (ho) (q_X4_has_y (d := 0) (Nat.le_refl _) h o n F ho v3 e3 c) (fun h => nomatch h)) ?_
  refine E.st (s_if_eq_f (q := 8) (tg := 17) dX4_numberAt_5 (by decide) rfl (by decide)) ?_
  refine E.st (s_aload_n (q := 9) dX4_numberAt_8 rfl rfl) ?_
  refine E.st (s_gf (q := 12) (v := .ref r2) dX4_numberAt_9 rfl fX4_15.l (ho) (by decide) (e2)) ?_
  refine E.st (s_iload_n (q := 13) dX4_numberAt_12 rfl rfl) ?_
  refine E.st (s_lald (q := 14) dX4_numberAt_13 rfl (ha) i) ?_
  refine E.st (s_goto (q := 18) dX4_numberAt_14 (by decide)) ?_
  exact E.l dX4_numberAt_18 rfl rfl rfl

set_option maxRecDepth 20000 in
theorem p_X4_putNumber_1 {d : Nat} (hd : 1 ≤ d) (h : AH) (o : Nat) (n : Int32) (v : Int64) (F : Nat → Value) (ho : h.1 o = ob 4 (fo 4 F)) (v3 : Int32) (e3 : F 3 = .int v3) (c : n < 0 ∨ v3 ≤ n) : CM mX4_putNumber d [.ref o, .int n, .long v] h (none) h := by
  show E false mX4_putNumber d 0 [(0, .ref o), (1, .int n), (2, .long v)] [] h _ _
  refine E.st (s_aload_n (q := 1) dX4_putNumber_0 rfl rfl) ?_
  refine E.st (s_iload_n (q := 2) dX4_putNumber_1 rfl rfl) ?_
  refine E.st (p2 := 5) (l2 := [(0, .ref o), (1, .int n), (2, .long v)]) (s2 := [.int 0]) (h2 := h) (s_invv (K := mX4_has) (o := o) (as := [.int n]) (rest := []) (v := some (.int 0)) dX4_putNumber_2 rfl lX4_26 (by omega) rfl (Nat.le_of_ble_eq_true rfl) rfl (Nat.le_of_ble_eq_true rfl) (ho) (q_X4_has_n (d := 0) (Nat.le_refl _) h o n F ho v3 e3 c) (fun h => nomatch h)) ?_
  refine E.st (s_if_eq_t (q := 15) dX4_putNumber_5 (by decide) (by decide)) ?_
  exact E.v dX4_putNumber_15 rfl rfl rfl

set_option maxRecDepth 20000 in
theorem p_X4_putNumber_2 {d : Nat} (hd : 1 ≤ d) (h : AH) (o : Nat) (n : Int32) (v : Int64) (F : Nat → Value) (ho : h.1 o = ob 4 (fo 4 F)) (v3 : Int32) (e3 : F 3 = .int v3) (c : ¬ (n < 0) ∧ ¬ (v3 ≤ n)) (r2 : Nat) (e2 : F 2 = .ref r2) (n1 : Nat) (f : Nat → Int64) (ha : h.1 r2 = la n1 f) (i : vp_in n n1) : CM mX4_putNumber d [.ref o, .int n, .long v] h (none) (hs h r2 (la n1 (vp_updL f n.toNatClampNeg v))) := by
  show E false mX4_putNumber d 0 [(0, .ref o), (1, .int n), (2, .long v)] [] h _ _
  refine E.st (s_aload_n (q := 1) dX4_putNumber_0 rfl rfl) ?_
  refine E.st (s_iload_n (q := 2) dX4_putNumber_1 rfl rfl) ?_
  refine E.st (p2 := 5) (l2 := [(0, .ref o), (1, .int n), (2, .long v)]) (s2 := [.int 1]) (h2 := h) (s_invv (K := mX4_has) (o := o) (as := [.int n]) (rest := []) (v := some (.int 1)) dX4_putNumber_2 rfl lX4_26 (by omega) rfl (Nat.le_of_ble_eq_true rfl) rfl (Nat.le_of_ble_eq_true rfl) (ho) (q_X4_has_y (d := 0) (Nat.le_refl _) h o n F ho v3 e3 c) (fun h => nomatch h)) ?_
  refine E.st (s_if_eq_f (q := 8) (tg := 15) dX4_putNumber_5 (by decide) rfl (by decide)) ?_
  refine E.st (s_aload_n (q := 9) dX4_putNumber_8 rfl rfl) ?_
  refine E.st (s_gf (q := 12) (v := .ref r2) dX4_putNumber_9 rfl fX4_15.l (ho) (by decide) (e2)) ?_
  refine E.st (s_iload_n (q := 13) dX4_putNumber_12 rfl rfl) ?_
  refine E.st (s_lload_n (q := 14) dX4_putNumber_13 rfl rfl) ?_
  refine E.st (s_last (q := 15) dX4_putNumber_14 rfl (ha) i) ?_
  exact E.v dX4_putNumber_15 rfl rfl rfl

set_option maxRecDepth 20000 in
theorem p_J7_copyOf_59c91_1 {d : Nat} (hd : 2 ≤ d) (h : AH) (o : Nat) (n : Int32) (n1 : Nat) (f : Nat → Int32) (ha : h.1 o = ia n1 f) (p : 0 < o) (c : ¬ n = (nI n1)) (c1 : ¬ n < 0) (c2 : (n.toNatClampNeg) ≤ 1000000) (le : o ≤ h.2.1) (w : Int32) (en : (if n < (nI n1) then n else (nI n1)) = w) (c3 : ¬ w < 0) (c4 : (0 : Int32).toNatClampNeg + w.toNatClampNeg ≤ n1) (c5 : (0 : Int32).toNatClampNeg + w.toNatClampNeg ≤ (n.toNatClampNeg)) : CM mJ7_copyOf_59c91 d [.ref o, .int n] h (some (.ref (h.2.1 + 1))) (hs (hw h (ia (n.toNatClampNeg) (fun _ => 0)) (n.toNatClampNeg)) (h.2.1 + 1) (ia (n.toNatClampNeg) (va_cpy f (fun _ => 0) (0 : Int32).toNatClampNeg (0 : Int32).toNatClampNeg w.toNatClampNeg))) := by
  show E false mJ7_copyOf_59c91 d 0 [(0, .ref o), (1, .int n)] [] h _ _
  refine E.st (s_iload_n (q := 1) dJ7_copyOf_59c91_0 rfl rfl) ?_
  refine E.st (s_aload_n (q := 2) dJ7_copyOf_59c91_1 rfl rfl) ?_
  refine E.st (s_alenI (q := 3) dJ7_copyOf_59c91_2 rfl p (ha) rfl) ?_
  refine E.st (s_icmp_ne_t (q := 14) dJ7_copyOf_59c91_3 (by decide) c) ?_
  refine E.st (s_iload_n (q := 15) dJ7_copyOf_59c91_14 rfl rfl) ?_
  refine E.st (s_newI (q := 17) (N := (n.toNatClampNeg)) dJ7_copyOf_59c91_15 rfl c1 rfl c2) ?_
  refine E.st (s_astore_n (q := 18) (ls' := [(2, .ref (h.2.1 + 1)), (0, .ref o), (1, .int n)]) dJ7_copyOf_59c91_17 rfl (by decide) rfl) ?_
  refine E.st (s_aload_n (q := 19) dJ7_copyOf_59c91_18 rfl rfl) ?_
  refine E.st (s_iconst (q := 20) (v := 0) dJ7_copyOf_59c91_19 rfl (by decide)) ?_
  refine E.st (s_aload_n (q := 21) dJ7_copyOf_59c91_20 rfl rfl) ?_
  refine E.st (s_iconst (q := 22) (v := 0) dJ7_copyOf_59c91_21 rfl (by decide)) ?_
  refine E.st (s_aload_n (q := 23) dJ7_copyOf_59c91_22 rfl rfl) ?_
  refine E.st (s_alenI (q := 24) dJ7_copyOf_59c91_23 rfl p ((hw_ne (by show o ≤ h.2.1 + 0; have := le; omega)).trans (ha)) rfl) ?_
  refine E.st (s_iload_n (q := 25) dJ7_copyOf_59c91_24 rfl rfl) ?_
  refine E.st (s_mmin (q := 28) dJ7_copyOf_59c91_25 rfl (gm gi_wsL_law0_r22 (List.mem_of_getElem? (i := 4) rfl)) (by omega) (Nat.le_of_ble_eq_true rfl)) ?_
  refine E.st (s_nmi en) ?_
  refine E.st (s_copyI (q := 31) dJ7_copyOf_59c91_28 rfl (gm gi_wsL_law0_r22 (List.mem_of_getElem? (i := 5) rfl)) (by omega) (Nat.le_of_ble_eq_true rfl) p (Nat.succ_pos _) ((hw_ne (by show o ≤ h.2.1 + 0; have := le; omega)).trans (ha)) (hw_eq) (by decide) (by decide) c3 c4 c5) ?_
  refine E.st (s_aload_n (q := 32) dJ7_copyOf_59c91_31 rfl rfl) ?_
  exact E.a dJ7_copyOf_59c91_32 rfl (Or.inr ⟨_, rfl⟩) rfl rfl

set_option maxRecDepth 20000 in
theorem p_J7_copyOf_c38d5_1 {d : Nat} (hd : 2 ≤ d) (h : AH) (o : Nat) (n : Int32) (n1 : Nat) (f : Nat → Int64) (ha : h.1 o = la n1 f) (c : ¬ n = (nI n1)) (c1 : ¬ n < 0) (c2 : (n.toNatClampNeg) ≤ 1000000) (le : o ≤ h.2.1) (w : Int32) (en : (if n < (nI n1) then n else (nI n1)) = w) (c3 : ¬ w < 0) (c4 : (0 : Int32).toNatClampNeg + w.toNatClampNeg ≤ n1) (c5 : (0 : Int32).toNatClampNeg + w.toNatClampNeg ≤ (n.toNatClampNeg)) : CM mJ7_copyOf_c38d5 d [.ref o, .int n] h (some (.ref (h.2.1 + 1))) (hs (hw h (la (n.toNatClampNeg) (fun _ => 0)) (n.toNatClampNeg)) (h.2.1 + 1) (la (n.toNatClampNeg) (va_cpy f (fun _ => 0) (0 : Int32).toNatClampNeg (0 : Int32).toNatClampNeg w.toNatClampNeg))) := by
  show E false mJ7_copyOf_c38d5 d 0 [(0, .ref o), (1, .int n)] [] h _ _
  refine E.st (s_iload_n (q := 1) dJ7_copyOf_c38d5_0 rfl rfl) ?_
  refine E.st (s_aload_n (q := 2) dJ7_copyOf_c38d5_1 rfl rfl) ?_
  refine E.st (s_alenL (q := 3) dJ7_copyOf_c38d5_2 rfl (ha) rfl) ?_
  refine E.st (s_icmp_ne_t (q := 14) dJ7_copyOf_c38d5_3 (by decide) c) ?_
  refine E.st (s_iload_n (q := 15) dJ7_copyOf_c38d5_14 rfl rfl) ?_
  refine E.st (s_newL (q := 17) (N := (n.toNatClampNeg)) dJ7_copyOf_c38d5_15 rfl c1 rfl c2) ?_
  refine E.st (s_astore_n (q := 18) (ls' := [(2, .ref (h.2.1 + 1)), (0, .ref o), (1, .int n)]) dJ7_copyOf_c38d5_17 rfl (by decide) rfl) ?_
  refine E.st (s_aload_n (q := 19) dJ7_copyOf_c38d5_18 rfl rfl) ?_
  refine E.st (s_iconst (q := 20) (v := 0) dJ7_copyOf_c38d5_19 rfl (by decide)) ?_
  refine E.st (s_aload_n (q := 21) dJ7_copyOf_c38d5_20 rfl rfl) ?_
  refine E.st (s_iconst (q := 22) (v := 0) dJ7_copyOf_c38d5_21 rfl (by decide)) ?_
  refine E.st (s_aload_n (q := 23) dJ7_copyOf_c38d5_22 rfl rfl) ?_
  refine E.st (s_alenL (q := 24) dJ7_copyOf_c38d5_23 rfl ((hw_ne (by show o ≤ h.2.1 + 0; have := le; omega)).trans (ha)) rfl) ?_
  refine E.st (s_iload_n (q := 25) dJ7_copyOf_c38d5_24 rfl rfl) ?_
  refine E.st (s_mmin (q := 28) dJ7_copyOf_c38d5_25 rfl (gm gi_wsL_law0_r22 (List.mem_of_getElem? (i := 4) rfl)) (by omega) (Nat.le_of_ble_eq_true rfl)) ?_
  refine E.st (s_nmi en) ?_
  refine E.st (s_copyL (q := 31) dJ7_copyOf_c38d5_28 rfl (gm gi_wsL_law0_r22 (List.mem_of_getElem? (i := 5) rfl)) (by omega) (Nat.le_of_ble_eq_true rfl) ((hw_ne (by show o ≤ h.2.1 + 0; have := le; omega)).trans (ha)) (hw_eq) (by decide) (by decide) c3 c4 c5) ?_
  refine E.st (s_aload_n (q := 32) dJ7_copyOf_c38d5_31 rfl rfl) ?_
  exact E.a dJ7_copyOf_c38d5_32 rfl (Or.inr ⟨_, rfl⟩) rfl rfl

set_option maxRecDepth 20000 in
theorem p_X4_makeRoom_1 {d : Nat} (hd : 0 ≤ d) (h : AH) (o : Nat) (m : Int32) (F : Nat → Value) (ho : h.1 o = ob 4 (fo 4 F)) (v0 : Int32) (e0 : F 0 = .int v0) (v3 : Int32) (e3 : F 3 = .int v3) (c : m ≤ (v0 - v3)) (r1 : Nat) (e1 : F 1 = .ref r1) (n : Nat) (f : Nat → Int32) (ha : h.1 r1 = ia n f) (p : 0 < r1) (c1 : (v3 + m) ≤ (nI n)) : CM mX4_makeRoom d [.ref o, .int m] h (some (.int 1)) h := by
  show E false mX4_makeRoom d 0 [(0, .ref o), (1, .int m)] [] h _ _
  refine E.st (s_iload_n (q := 1) dX4_makeRoom_0 rfl rfl) ?_
  refine E.st (s_aload_n (q := 2) dX4_makeRoom_1 rfl rfl) ?_
  refine E.st (s_gf (q := 5) (v := .int v0) dX4_makeRoom_2 rfl fX4_19.l (ho) (by decide) (e0)) ?_
  refine E.st (s_aload_n (q := 6) dX4_makeRoom_5 rfl rfl) ?_
  refine E.st (s_gf (q := 9) (v := .int v3) dX4_makeRoom_6 rfl fX4_23.l (ho) (by decide) (e3)) ?_
  refine E.st (s_isub (q := 10) dX4_makeRoom_9 rfl) ?_
  refine E.st (s_icmp_le_t (q := 15) dX4_makeRoom_10 (by decide) c) ?_
  refine E.st (s_aload_n (q := 16) dX4_makeRoom_15 rfl rfl) ?_
  refine E.st (s_gf (q := 19) (v := .int v3) dX4_makeRoom_16 rfl fX4_23.l (ho) (by decide) (e3)) ?_
  refine E.st (s_iload_n (q := 20) dX4_makeRoom_19 rfl rfl) ?_
  refine E.st (s_iadd (q := 21) dX4_makeRoom_20 rfl) ?_
  refine E.st (s_istore_n (q := 22) (ls' := [(2, .int (v3 + m)), (0, .ref o), (1, .int m)]) dX4_makeRoom_21 rfl (by decide) rfl) ?_
  refine E.st (s_iload_n (q := 23) dX4_makeRoom_22 rfl rfl) ?_
  refine E.st (s_aload_n (q := 24) dX4_makeRoom_23 rfl rfl) ?_
  refine E.st (s_gf (q := 27) (v := .ref r1) dX4_makeRoom_24 rfl fX4_11.l (ho) (by decide) (e1)) ?_
  refine E.st (s_alenI (q := 28) dX4_makeRoom_27 rfl p (ha) rfl) ?_
  refine E.st (s_icmp_le_t (q := 74) dX4_makeRoom_28 (by decide) c1) ?_
  refine E.st (s_iconst (q := 75) (v := 1) dX4_makeRoom_74 rfl (by decide)) ?_
  exact E.i dX4_makeRoom_75 rfl rfl rfl rfl

set_option maxRecDepth 20000 in
theorem p_X4_makeRoom_2 {d : Nat} (hd : 3 ≤ d) (h : AH) (o : Nat) (m : Int32) (F : Nat → Value) (ho : h.1 o = ob 4 (fo 4 F)) (v0 : Int32) (e0 : F 0 = .int v0) (v3 : Int32) (e3 : F 3 = .int v3) (c : m ≤ (v0 - v3)) (r1 : Nat) (e1 : F 1 = .ref r1) (n : Nat) (f : Nat → Int32) (ha : h.1 r1 = ia n f) (p : 0 < r1) (c1 : ¬ ((v3 + m) ≤ (nI n))) (g : Int32) (en : (if (v3 + m) < (if (2 * (nI n)) < v0 then (2 * (nI n)) else v0) then (if (2 * (nI n)) < v0 then (2 * (nI n)) else v0) else (v3 + m)) = g) (c2 : ¬ g = (nI n)) (c3 : ¬ g < 0) (c4 : (g.toNatClampNeg) ≤ 1000000) (le : r1 ≤ h.2.1) (w : Int32) (en1 : (if g < (nI n) then g else (nI n)) = w) (c5 : ¬ w < 0) (c6 : (0 : Int32).toNatClampNeg + w.toNatClampNeg ≤ n) (c7 : (0 : Int32).toNatClampNeg + w.toNatClampNeg ≤ (g.toNatClampNeg)) (le1 : o ≤ h.2.1) (r2 : Nat) (e2 : F 2 = .ref r2) (n1 : Nat) (f1 : Nat → Int64) (ha1 : h.1 r2 = la n1 f1) (le2 : r2 ≤ h.2.1) (c8 : ¬ g = (nI n1)) (w1 : Int32) (en2 : (if g < (nI n1) then g else (nI n1)) = w1) (c9 : ¬ w1 < 0) (c10 : (0 : Int32).toNatClampNeg + w1.toNatClampNeg ≤ n1) (c11 : (0 : Int32).toNatClampNeg + w1.toNatClampNeg ≤ (g.toNatClampNeg)) : CM mX4_makeRoom d [.ref o, .int m] h (some (.int 1)) (hs (hs (hw (hs (hs (hw h (ia (g.toNatClampNeg) (fun _ => 0)) (g.toNatClampNeg)) (h.2.1 + 1) (ia (g.toNatClampNeg) (va_cpy f (fun _ => 0) (0 : Int32).toNatClampNeg (0 : Int32).toNatClampNeg w.toNatClampNeg))) o (ob 4 (fo 4 (va_up F 1 (.ref (h.2.1 + 1)))))) (la (g.toNatClampNeg) (fun _ => 0)) (g.toNatClampNeg)) (h.2.1 + 2) (la (g.toNatClampNeg) (va_cpy f1 (fun _ => 0) (0 : Int32).toNatClampNeg (0 : Int32).toNatClampNeg w1.toNatClampNeg))) o (ob 4 (fo 4 (va_up (va_up F 1 (.ref (h.2.1 + 1))) 2 (.ref (h.2.1 + 2)))))) := by
  show E false mX4_makeRoom d 0 [(0, .ref o), (1, .int m)] [] h _ _
  refine E.st (s_iload_n (q := 1) dX4_makeRoom_0 rfl rfl) ?_
  refine E.st (s_aload_n (q := 2) dX4_makeRoom_1 rfl rfl) ?_
  refine E.st (s_gf (q := 5) (v := .int v0) dX4_makeRoom_2 rfl fX4_19.l (ho) (by decide) (e0)) ?_
  refine E.st (s_aload_n (q := 6) dX4_makeRoom_5 rfl rfl) ?_
  refine E.st (s_gf (q := 9) (v := .int v3) dX4_makeRoom_6 rfl fX4_23.l (ho) (by decide) (e3)) ?_
  refine E.st (s_isub (q := 10) dX4_makeRoom_9 rfl) ?_
  refine E.st (s_icmp_le_t (q := 15) dX4_makeRoom_10 (by decide) c) ?_
  refine E.st (s_aload_n (q := 16) dX4_makeRoom_15 rfl rfl) ?_
  refine E.st (s_gf (q := 19) (v := .int v3) dX4_makeRoom_16 rfl fX4_23.l (ho) (by decide) (e3)) ?_
  refine E.st (s_iload_n (q := 20) dX4_makeRoom_19 rfl rfl) ?_
  refine E.st (s_iadd (q := 21) dX4_makeRoom_20 rfl) ?_
  refine E.st (s_istore_n (q := 22) (ls' := [(2, .int (v3 + m)), (0, .ref o), (1, .int m)]) dX4_makeRoom_21 rfl (by decide) rfl) ?_
  refine E.st (s_iload_n (q := 23) dX4_makeRoom_22 rfl rfl) ?_
  refine E.st (s_aload_n (q := 24) dX4_makeRoom_23 rfl rfl) ?_
  refine E.st (s_gf (q := 27) (v := .ref r1) dX4_makeRoom_24 rfl fX4_11.l (ho) (by decide) (e1)) ?_
  refine E.st (s_alenI (q := 28) dX4_makeRoom_27 rfl p (ha) rfl) ?_
  refine E.st (s_icmp_le_f (q := 31) (tg := 74) dX4_makeRoom_28 (by decide) rfl c1) ?_
  refine E.st (s_iload_n (q := 32) dX4_makeRoom_31 rfl rfl) ?_
  refine E.st (s_aload_n (q := 33) dX4_makeRoom_32 rfl rfl) ?_
  refine E.st (s_gf (q := 36) (v := .int v0) dX4_makeRoom_33 rfl fX4_19.l (ho) (by decide) (e0)) ?_
  refine E.st (s_iconst (q := 37) (v := 2) dX4_makeRoom_36 rfl (by decide)) ?_
  refine E.st (s_aload_n (q := 38) dX4_makeRoom_37 rfl rfl) ?_
  refine E.st (s_gf (q := 41) (v := .ref r1) dX4_makeRoom_38 rfl fX4_11.l (ho) (by decide) (e1)) ?_
  refine E.st (s_alenI (q := 42) dX4_makeRoom_41 rfl p (ha) rfl) ?_
  refine E.st (s_imul (q := 43) dX4_makeRoom_42 rfl) ?_
  refine E.st (s_mmin (q := 46) dX4_makeRoom_43 rfl (gm gi_wsL_law0_r21 (List.mem_of_getElem? (i := 15) rfl)) (by omega) (Nat.le_of_ble_eq_true rfl)) ?_
  refine E.st (s_mmax (q := 49) dX4_makeRoom_46 rfl (gm gi_wsL_law0_r21 (List.mem_of_getElem? (i := 16) rfl)) (by omega) (Nat.le_of_ble_eq_true rfl)) ?_
  refine E.st (s_nmi en) ?_
  refine E.st (s_istore_n (q := 50) (ls' := [(3, .int g), (2, .int (v3 + m)), (0, .ref o), (1, .int m)]) dX4_makeRoom_49 rfl (by decide) rfl) ?_
  refine E.st (s_aload_n (q := 51) dX4_makeRoom_50 rfl rfl) ?_
  refine E.st (s_aload_n (q := 52) dX4_makeRoom_51 rfl rfl) ?_
  refine E.st (s_gf (q := 55) (v := .ref r1) dX4_makeRoom_52 rfl fX4_11.l (ho) (by decide) (e1)) ?_
  refine E.st (s_iload_n (q := 56) dX4_makeRoom_55 rfl rfl) ?_
  refine E.st (p2 := 59) (l2 := [(3, .int g), (2, .int (v3 + m)), (0, .ref o), (1, .int m)]) (s2 := [.ref (h.2.1 + 1), .ref o]) (h2 := (hs (hw h (ia (g.toNatClampNeg) (fun _ => 0)) (g.toNatClampNeg)) (h.2.1 + 1) (ia (g.toNatClampNeg) (va_cpy f (fun _ => 0) (0 : Int32).toNatClampNeg (0 : Int32).toNatClampNeg w.toNatClampNeg)))) (s_invs (K := mJ7_copyOf_59c91) (as := [.ref r1, .int g]) (rest := [.ref o]) (v := some (.ref (h.2.1 + 1))) dX4_makeRoom_56 rfl lX4_48 (by omega) rfl (Nat.le_of_ble_eq_true rfl) rfl (Nat.le_of_ble_eq_true rfl) (p_J7_copyOf_59c91_1 (d := 2) (Nat.le_refl _) h r1 g n f ha p c2 c3 c4 (by show r1 ≤ h.2.1 + 0; have := le; omega) w en1 c5 c6 c7) (fun h => nomatch h)) ?_
  refine E.st (s_pf (q := 62) dX4_makeRoom_59 rfl fX4_11 ((hs_ne (by have := le1;  omega)).trans ((hw_ne (by show o ≤ h.2.1 + 0; have := le1; omega)).trans (ho))) (by decide) (fun _ => ⟨rfl, rfl⟩)) ?_
  refine E.st (s_aload_n (q := 63) dX4_makeRoom_62 rfl rfl) ?_
  refine E.st (s_aload_n (q := 64) dX4_makeRoom_63 rfl rfl) ?_
  refine E.st (s_gf (q := 67) (v := .ref r2) dX4_makeRoom_64 rfl fX4_15.l (hs_eq) (by decide) ((up_ne (by decide)).trans (e2))) ?_
  refine E.st (s_iload_n (q := 68) dX4_makeRoom_67 rfl rfl) ?_
  refine E.st (p2 := 71) (l2 := [(3, .int g), (2, .int (v3 + m)), (0, .ref o), (1, .int m)]) (s2 := [.ref (h.2.1 + 2), .ref o]) (h2 := (hs (hw (hs (hs (hw h (ia (g.toNatClampNeg) (fun _ => 0)) (g.toNatClampNeg)) (h.2.1 + 1) (ia (g.toNatClampNeg) (va_cpy f (fun _ => 0) (0 : Int32).toNatClampNeg (0 : Int32).toNatClampNeg w.toNatClampNeg))) o (ob 4 (fo 4 (va_up F 1 (.ref (h.2.1 + 1)))))) (la (g.toNatClampNeg) (fun _ => 0)) (g.toNatClampNeg)) (h.2.1 + 2) (la (g.toNatClampNeg) (va_cpy f1 (fun _ => 0) (0 : Int32).toNatClampNeg (0 : Int32).toNatClampNeg w1.toNatClampNeg)))) (s_invs (K := mJ7_copyOf_c38d5) (as := [.ref r2, .int g]) (rest := [.ref o]) (v := some (.ref (h.2.1 + 2))) dX4_makeRoom_68 rfl lX4_54 (by omega) rfl (Nat.le_of_ble_eq_true rfl) rfl (Nat.le_of_ble_eq_true rfl) (p_J7_copyOf_c38d5_1 (d := 2) (Nat.le_refl _) (hs (hs (hw h (ia (g.toNatClampNeg) (fun _ => 0)) (g.toNatClampNeg)) (h.2.1 + 1) (ia (g.toNatClampNeg) (va_cpy f (fun _ => 0) (0 : Int32).toNatClampNeg (0 : Int32).toNatClampNeg w.toNatClampNeg))) o (ob 4 (fo 4 (va_up F 1 (.ref (h.2.1 + 1)))))) r2 g n1 f1 ((hs_ne (Ne.symm (ne_ol ho ha1))).trans ((hs_ne (by have := le2;  omega)).trans ((hw_ne (by show r2 ≤ h.2.1 + 0; have := le2; omega)).trans (ha1)))) c8 c3 c4 (by show r2 ≤ h.2.1 + 1; have := le2; omega) w1 en2 c9 c10 c11) (fun h => nomatch h)) ?_
  refine E.st (s_pf (q := 74) dX4_makeRoom_71 rfl fX4_15 ((hs_ne (by have := le1;  omega)).trans ((hw_ne (by show o ≤ h.2.1 + 1; have := le1; omega)).trans (hs_eq))) (by decide) (fun _ => ⟨rfl, rfl⟩)) ?_
  refine E.st (s_iconst (q := 75) (v := 1) dX4_makeRoom_74 rfl (by decide)) ?_
  exact E.i dX4_makeRoom_75 rfl rfl rfl rfl

set_option maxRecDepth 20000 in
theorem p_X4_makeRoom_3 {d : Nat} (hd : 0 ≤ d) (h : AH) (o : Nat) (m : Int32) (F : Nat → Value) (ho : h.1 o = ob 4 (fo 4 F)) (v0 : Int32) (e0 : F 0 = .int v0) (v3 : Int32) (e3 : F 3 = .int v3) (c : ¬ (m ≤ (v0 - v3))) : CM mX4_makeRoom d [.ref o, .int m] h (some (.int 0)) h := by
  show E false mX4_makeRoom d 0 [(0, .ref o), (1, .int m)] [] h _ _
  refine E.st (s_iload_n (q := 1) dX4_makeRoom_0 rfl rfl) ?_
  refine E.st (s_aload_n (q := 2) dX4_makeRoom_1 rfl rfl) ?_
  refine E.st (s_gf (q := 5) (v := .int v0) dX4_makeRoom_2 rfl fX4_19.l (ho) (by decide) (e0)) ?_
  refine E.st (s_aload_n (q := 6) dX4_makeRoom_5 rfl rfl) ?_
  refine E.st (s_gf (q := 9) (v := .int v3) dX4_makeRoom_6 rfl fX4_23.l (ho) (by decide) (e3)) ?_
  refine E.st (s_isub (q := 10) dX4_makeRoom_9 rfl) ?_
  refine E.st (s_icmp_le_f (q := 13) (tg := 15) dX4_makeRoom_10 (by decide) rfl c) ?_
  refine E.st (s_iconst (q := 14) (v := 0) dX4_makeRoom_13 rfl (by decide)) ?_
  exact E.i dX4_makeRoom_14 rfl rfl rfl rfl

set_option maxRecDepth 20000 in
theorem p_X4_add_1 {d : Nat} (hd : 1 ≤ d) (h : AH) (o : Nat) (a : Int32) (v : Int64) (F : Nat → Value) (ho : h.1 o = ob 4 (fo 4 F)) (v0 : Int32) (e0 : F 0 = .int v0) (v3 : Int32) (e3 : F 3 = .int v3) (c : (1 : Int32) ≤ (v0 - v3)) (r1 : Nat) (e1 : F 1 = .ref r1) (n : Nat) (f : Nat → Int32) (ha : h.1 r1 = ia n f) (p : 0 < r1) (c1 : (v3 + (1 : Int32)) ≤ (nI n)) (i : vp_in v3 n) (r2 : Nat) (e2 : F 2 = .ref r2) (n1 : Nat) (f1 : Nat → Int64) (ha1 : h.1 r2 = la n1 f1) (i1 : vp_in v3 n1) : CM mX4_add d [.ref o, .int a, .long v] h (some (.int 1)) (hs (hs (hs h r1 (ia n (upd f v3.toNatClampNeg a))) r2 (la n1 (vp_updL f1 v3.toNatClampNeg v))) o (ob 4 (fo 4 (va_up F 3 (.int (v3 + 1)))))) := by
  show E false mX4_add d 0 [(0, .ref o), (1, .int a), (2, .long v)] [] h _ _
  refine E.st (s_aload_n (q := 1) dX4_add_0 rfl rfl) ?_
  refine E.st (s_iconst (q := 2) (v := 1) dX4_add_1 rfl (by decide)) ?_
  refine E.st (p2 := 5) (l2 := [(0, .ref o), (1, .int a), (2, .long v)]) (s2 := [.int 1]) (h2 := h) (s_invv (K := mX4_makeRoom) (o := o) (as := [.int 1]) (rest := []) (v := some (.int 1)) dX4_add_2 rfl lX4_30 (by omega) rfl (Nat.le_of_ble_eq_true rfl) rfl (Nat.le_of_ble_eq_true rfl) (ho) (p_X4_makeRoom_1 (d := 0) (Nat.le_refl _) h o (1 : Int32) F ho v0 e0 v3 e3 c r1 e1 n f ha p c1) (fun h => nomatch h)) ?_
  refine E.st (s_if_ne_t (q := 10) dX4_add_5 (by decide) (by decide)) ?_
  refine E.st (s_aload_n (q := 11) dX4_add_10 rfl rfl) ?_
  refine E.st (s_gf (q := 14) (v := .ref r1) dX4_add_11 rfl fX4_11.l (ho) (by decide) (e1)) ?_
  refine E.st (s_aload_n (q := 15) dX4_add_14 rfl rfl) ?_
  refine E.st (s_gf (q := 18) (v := .int v3) dX4_add_15 rfl fX4_23.l (ho) (by decide) (e3)) ?_
  refine E.st (s_iload_n (q := 19) dX4_add_18 rfl rfl) ?_
  refine E.st (s_iast (q := 20) dX4_add_19 rfl p (ha) i) ?_
  refine E.st (s_aload_n (q := 21) dX4_add_20 rfl rfl) ?_
  refine E.st (s_gf (q := 24) (v := .ref r2) dX4_add_21 rfl fX4_15.l ((hs_ne (ne_oi ho ha)).trans (ho)) (by decide) (e2)) ?_
  refine E.st (s_aload_n (q := 25) dX4_add_24 rfl rfl) ?_
  refine E.st (s_gf (q := 28) (v := .int v3) dX4_add_25 rfl fX4_23.l ((hs_ne (ne_oi ho ha)).trans (ho)) (by decide) (e3)) ?_
  refine E.st (s_lload_n (q := 29) dX4_add_28 rfl rfl) ?_
  refine E.st (s_last (q := 30) dX4_add_29 rfl ((hs_ne (Ne.symm (ne_il ha ha1))).trans (ha1)) i1) ?_
  refine E.st (s_aload_n (q := 31) dX4_add_30 rfl rfl) ?_
  refine E.st (s_dup (q := 32) dX4_add_31 rfl rfl) ?_
  refine E.st (s_gf (q := 35) (v := .int v3) dX4_add_32 rfl fX4_23.l ((hs_ne (ne_ol ho ha1)).trans ((hs_ne (ne_oi ho ha)).trans (ho))) (by decide) (e3)) ?_
  refine E.st (s_iconst (q := 36) (v := 1) dX4_add_35 rfl (by decide)) ?_
  refine E.st (s_iadd (q := 37) dX4_add_36 rfl) ?_
  refine E.st (s_pf (q := 40) dX4_add_37 rfl fX4_23 ((hs_ne (ne_ol ho ha1)).trans ((hs_ne (ne_oi ho ha)).trans (ho))) (by decide) (fun _ => ⟨rfl, rfl⟩)) ?_
  refine E.st (s_iconst (q := 41) (v := 1) dX4_add_40 rfl (by decide)) ?_
  exact E.i dX4_add_41 rfl rfl rfl rfl

set_option maxRecDepth 20000 in
theorem p_X4_add_2 {d : Nat} (hd : 4 ≤ d) (h : AH) (o : Nat) (a : Int32) (v : Int64) (F : Nat → Value) (ho : h.1 o = ob 4 (fo 4 F)) (v0 : Int32) (e0 : F 0 = .int v0) (v3 : Int32) (e3 : F 3 = .int v3) (c : (1 : Int32) ≤ (v0 - v3)) (r1 : Nat) (e1 : F 1 = .ref r1) (n : Nat) (f : Nat → Int32) (ha : h.1 r1 = ia n f) (p : 0 < r1) (c1 : ¬ ((v3 + (1 : Int32)) ≤ (nI n))) (g : Int32) (en : (if (v3 + (1 : Int32)) < (if (2 * (nI n)) < v0 then (2 * (nI n)) else v0) then (if (2 * (nI n)) < v0 then (2 * (nI n)) else v0) else (v3 + (1 : Int32))) = g) (c2 : ¬ g = (nI n)) (c3 : ¬ g < 0) (c4 : (g.toNatClampNeg) ≤ 1000000) (le : r1 ≤ h.2.1) (w : Int32) (en1 : (if g < (nI n) then g else (nI n)) = w) (c5 : ¬ w < 0) (c6 : (0 : Int32).toNatClampNeg + w.toNatClampNeg ≤ n) (c7 : (0 : Int32).toNatClampNeg + w.toNatClampNeg ≤ (g.toNatClampNeg)) (le1 : o ≤ h.2.1) (r2 : Nat) (e2 : F 2 = .ref r2) (n1 : Nat) (f1 : Nat → Int64) (ha1 : h.1 r2 = la n1 f1) (le2 : r2 ≤ h.2.1) (c8 : ¬ g = (nI n1)) (w1 : Int32) (en2 : (if g < (nI n1) then g else (nI n1)) = w1) (c9 : ¬ w1 < 0) (c10 : (0 : Int32).toNatClampNeg + w1.toNatClampNeg ≤ n1) (c11 : (0 : Int32).toNatClampNeg + w1.toNatClampNeg ≤ (g.toNatClampNeg)) (i : vp_in v3 (g.toNatClampNeg)) : CM mX4_add d [.ref o, .int a, .long v] h (some (.int 1)) (hs (hs (hs (hs (hs (hw (hs (hs (hw h (ia (g.toNatClampNeg) (fun _ => 0)) (g.toNatClampNeg)) (h.2.1 + 1) (ia (g.toNatClampNeg) (va_cpy f (fun _ => 0) (0 : Int32).toNatClampNeg (0 : Int32).toNatClampNeg w.toNatClampNeg))) o (ob 4 (fo 4 (va_up F 1 (.ref (h.2.1 + 1)))))) (la (g.toNatClampNeg) (fun _ => 0)) (g.toNatClampNeg)) (h.2.1 + 2) (la (g.toNatClampNeg) (va_cpy f1 (fun _ => 0) (0 : Int32).toNatClampNeg (0 : Int32).toNatClampNeg w1.toNatClampNeg))) o (ob 4 (fo 4 (va_up (va_up F 1 (.ref (h.2.1 + 1))) 2 (.ref (h.2.1 + 2)))))) (h.2.1 + 1) (ia (g.toNatClampNeg) (upd (va_cpy f (fun _ => 0) (0 : Int32).toNatClampNeg (0 : Int32).toNatClampNeg w.toNatClampNeg) v3.toNatClampNeg a))) (h.2.1 + 2) (la (g.toNatClampNeg) (vp_updL (va_cpy f1 (fun _ => 0) (0 : Int32).toNatClampNeg (0 : Int32).toNatClampNeg w1.toNatClampNeg) v3.toNatClampNeg v))) o (ob 4 (fo 4 (va_up (va_up (va_up F 1 (.ref (h.2.1 + 1))) 2 (.ref (h.2.1 + 2))) 3 (.int (v3 + 1)))))) := by
  show E false mX4_add d 0 [(0, .ref o), (1, .int a), (2, .long v)] [] h _ _
  refine E.st (s_aload_n (q := 1) dX4_add_0 rfl rfl) ?_
  refine E.st (s_iconst (q := 2) (v := 1) dX4_add_1 rfl (by decide)) ?_
  refine E.st (p2 := 5) (l2 := [(0, .ref o), (1, .int a), (2, .long v)]) (s2 := [.int 1]) (h2 := (hs (hs (hw (hs (hs (hw h (ia (g.toNatClampNeg) (fun _ => 0)) (g.toNatClampNeg)) (h.2.1 + 1) (ia (g.toNatClampNeg) (va_cpy f (fun _ => 0) (0 : Int32).toNatClampNeg (0 : Int32).toNatClampNeg w.toNatClampNeg))) o (ob 4 (fo 4 (va_up F 1 (.ref (h.2.1 + 1)))))) (la (g.toNatClampNeg) (fun _ => 0)) (g.toNatClampNeg)) (h.2.1 + 2) (la (g.toNatClampNeg) (va_cpy f1 (fun _ => 0) (0 : Int32).toNatClampNeg (0 : Int32).toNatClampNeg w1.toNatClampNeg))) o (ob 4 (fo 4 (va_up (va_up F 1 (.ref (h.2.1 + 1))) 2 (.ref (h.2.1 + 2))))))) (s_invv (K := mX4_makeRoom) (o := o) (as := [.int 1]) (rest := []) (v := some (.int 1)) dX4_add_2 rfl lX4_30 (by omega) rfl (Nat.le_of_ble_eq_true rfl) rfl (Nat.le_of_ble_eq_true rfl) (ho) (p_X4_makeRoom_2 (d := 3) (Nat.le_refl _) h o (1 : Int32) F ho v0 e0 v3 e3 c r1 e1 n f ha p c1 g en c2 c3 c4 (by show r1 ≤ h.2.1 + 0; have := le; omega) w en1 c5 c6 c7 (by show o ≤ h.2.1 + 0; have := le1; omega) r2 e2 n1 f1 ha1 (by show r2 ≤ h.2.1 + 0; have := le2; omega) c8 w1 en2 c9 c10 c11) (fun h => nomatch h)) ?_
  refine E.st (s_if_ne_t (q := 10) dX4_add_5 (by decide) (by decide)) ?_
  refine E.st (s_aload_n (q := 11) dX4_add_10 rfl rfl) ?_
  refine E.st (s_gf (q := 14) (v := .ref (h.2.1 + 1)) dX4_add_11 rfl fX4_11.l (hs_eq) (by decide) ((up_ne (by decide)).trans (up_eq))) ?_
  refine E.st (s_aload_n (q := 15) dX4_add_14 rfl rfl) ?_
  refine E.st (s_gf (q := 18) (v := .int v3) dX4_add_15 rfl fX4_23.l (hs_eq) (by decide) ((up_ne (by decide)).trans ((up_ne (by decide)).trans (e3)))) ?_
  refine E.st (s_iload_n (q := 19) dX4_add_18 rfl rfl) ?_
  refine E.st (s_iast (q := 20) dX4_add_19 rfl (Nat.succ_pos _) ((hs_ne (by have := le1;  omega)).trans ((hs_ne (by  omega)).trans ((hw_ne (by show (h.2.1 + 1) ≤ h.2.1 + 1; omega)).trans ((hs_ne (by have := le1;  omega)).trans (hs_eq))))) i) ?_
  refine E.st (s_aload_n (q := 21) dX4_add_20 rfl rfl) ?_
  refine E.st (s_gf (q := 24) (v := .ref (h.2.1 + 2)) dX4_add_21 rfl fX4_15.l ((hs_ne (by have := le1;  omega)).trans (hs_eq)) (by decide) (up_eq)) ?_
  refine E.st (s_aload_n (q := 25) dX4_add_24 rfl rfl) ?_
  refine E.st (s_gf (q := 28) (v := .int v3) dX4_add_25 rfl fX4_23.l ((hs_ne (by have := le1;  omega)).trans (hs_eq)) (by decide) ((up_ne (by decide)).trans ((up_ne (by decide)).trans (e3)))) ?_
  refine E.st (s_lload_n (q := 29) dX4_add_28 rfl rfl) ?_
  refine E.st (s_last (q := 30) dX4_add_29 rfl ((hs_ne (by  omega)).trans ((hs_ne (by have := le1;  omega)).trans (hs_eq))) i) ?_
  refine E.st (s_aload_n (q := 31) dX4_add_30 rfl rfl) ?_
  refine E.st (s_dup (q := 32) dX4_add_31 rfl rfl) ?_
  refine E.st (s_gf (q := 35) (v := .int v3) dX4_add_32 rfl fX4_23.l ((hs_ne (by have := le1;  omega)).trans ((hs_ne (by have := le1;  omega)).trans (hs_eq))) (by decide) ((up_ne (by decide)).trans ((up_ne (by decide)).trans (e3)))) ?_
  refine E.st (s_iconst (q := 36) (v := 1) dX4_add_35 rfl (by decide)) ?_
  refine E.st (s_iadd (q := 37) dX4_add_36 rfl) ?_
  refine E.st (s_pf (q := 40) dX4_add_37 rfl fX4_23 ((hs_ne (by have := le1;  omega)).trans ((hs_ne (by have := le1;  omega)).trans (hs_eq))) (by decide) (fun _ => ⟨rfl, rfl⟩)) ?_
  refine E.st (s_iconst (q := 41) (v := 1) dX4_add_40 rfl (by decide)) ?_
  exact E.i dX4_add_41 rfl rfl rfl rfl

set_option maxRecDepth 20000 in
theorem p_X4_add_3 {d : Nat} (hd : 1 ≤ d) (h : AH) (o : Nat) (a : Int32) (v : Int64) (F : Nat → Value) (ho : h.1 o = ob 4 (fo 4 F)) (v0 : Int32) (e0 : F 0 = .int v0) (v3 : Int32) (e3 : F 3 = .int v3) (c : ¬ ((1 : Int32) ≤ (v0 - v3))) : CM mX4_add d [.ref o, .int a, .long v] h (some (.int 0)) h := by
  show E false mX4_add d 0 [(0, .ref o), (1, .int a), (2, .long v)] [] h _ _
  refine E.st (s_aload_n (q := 1) dX4_add_0 rfl rfl) ?_
  refine E.st (s_iconst (q := 2) (v := 1) dX4_add_1 rfl (by decide)) ?_
  refine E.st (p2 := 5) (l2 := [(0, .ref o), (1, .int a), (2, .long v)]) (s2 := [.int 0]) (h2 := h) (s_invv (K := mX4_makeRoom) (o := o) (as := [.int 1]) (rest := []) (v := some (.int 0)) dX4_add_2 rfl lX4_30 (by omega) rfl (Nat.le_of_ble_eq_true rfl) rfl (Nat.le_of_ble_eq_true rfl) (ho) (p_X4_makeRoom_3 (d := 0) (Nat.le_refl _) h o (1 : Int32) F ho v0 e0 v3 e3 c) (fun h => nomatch h)) ?_
  refine E.st (s_if_ne_f (q := 8) (tg := 10) dX4_add_5 (by decide) rfl (by decide)) ?_
  refine E.st (s_iconst (q := 9) (v := 0) dX4_add_8 rfl (by decide)) ?_
  exact E.i dX4_add_9 rfl rfl rfl rfl

set_option maxRecDepth 20000 in
theorem p_X4_addFrom_1 {d : Nat} (hd : 0 ≤ d) (h : AH) (o : Nat) (b : Nat) (s : Int32) (n : Int32) (c : s < 0) : CM mX4_addFrom d [.ref o, .ref b, .int s, .int n] h (some (.int 0)) h := by
  show E false mX4_addFrom d 0 [(0, .ref o), (1, .ref b), (2, .int s), (3, .int n)] [] h _ _
  refine E.st (s_iload_n (q := 1) dX4_addFrom_0 rfl rfl) ?_
  refine E.st (s_if_lt_t (q := 26) dX4_addFrom_1 (by decide) c) ?_
  refine E.st (s_iconst (q := 27) (v := 0) dX4_addFrom_26 rfl (by decide)) ?_
  exact E.i dX4_addFrom_27 rfl rfl rfl rfl

set_option maxRecDepth 20000 in
theorem p_X4_addFrom_2 {d : Nat} (hd : 0 ≤ d) (h : AH) (o : Nat) (b : Nat) (s : Int32) (n : Int32) (c : ¬ (s < 0)) (c1 : n < 0) : CM mX4_addFrom d [.ref o, .ref b, .int s, .int n] h (some (.int 0)) h := by
  show E false mX4_addFrom d 0 [(0, .ref o), (1, .ref b), (2, .int s), (3, .int n)] [] h _ _
  refine E.st (s_iload_n (q := 1) dX4_addFrom_0 rfl rfl) ?_
  refine E.st (s_if_lt_f (q := 4) (tg := 26) dX4_addFrom_1 (by decide) rfl c) ?_
  refine E.st (s_iload_n (q := 5) dX4_addFrom_4 rfl rfl) ?_
  refine E.st (s_if_lt_t (q := 26) dX4_addFrom_5 (by decide) c1) ?_
  refine E.st (s_iconst (q := 27) (v := 0) dX4_addFrom_26 rfl (by decide)) ?_
  exact E.i dX4_addFrom_27 rfl rfl rfl rfl

set_option maxRecDepth 20000 in
theorem p_X4_addFrom_3 {d : Nat} (hd : 0 ≤ d) (h : AH) (o : Nat) (b : Nat) (s : Int32) (n : Int32) (c : ¬ (s < 0)) (c1 : ¬ (n < 0)) (F : Nat → Value) (ho : h.1 b = ob 4 (fo 4 F)) (v3 : Int32) (e3 : F 3 = .int v3) (c2 : (v3 - s) < n) : CM mX4_addFrom d [.ref o, .ref b, .int s, .int n] h (some (.int 0)) h := by
  show E false mX4_addFrom d 0 [(0, .ref o), (1, .ref b), (2, .int s), (3, .int n)] [] h _ _
  refine E.st (s_iload_n (q := 1) dX4_addFrom_0 rfl rfl) ?_
  refine E.st (s_if_lt_f (q := 4) (tg := 26) dX4_addFrom_1 (by decide) rfl c) ?_
  refine E.st (s_iload_n (q := 5) dX4_addFrom_4 rfl rfl) ?_
  refine E.st (s_if_lt_f (q := 8) (tg := 26) dX4_addFrom_5 (by decide) rfl c1) ?_
  refine E.st (s_iload_n (q := 9) dX4_addFrom_8 rfl rfl) ?_
  refine E.st (s_aload_n (q := 10) dX4_addFrom_9 rfl rfl) ?_
  refine E.st (s_gf (q := 13) (v := .int v3) dX4_addFrom_10 rfl fX4_23.l (ho) (by decide) (e3)) ?_
  refine E.st (s_iload_n (q := 14) dX4_addFrom_13 rfl rfl) ?_
  refine E.st (s_isub (q := 15) dX4_addFrom_14 rfl) ?_
  refine E.st (s_icmp_gt_t (q := 26) dX4_addFrom_15 (by decide) c2) ?_
  refine E.st (s_iconst (q := 27) (v := 0) dX4_addFrom_26 rfl (by decide)) ?_
  exact E.i dX4_addFrom_27 rfl rfl rfl rfl

set_option maxRecDepth 20000 in
theorem p_X4_addFrom_4 {d : Nat} (hd : 2 ≤ d) (h : AH) (o : Nat) (b : Nat) (s : Int32) (n : Int32) (c : ¬ (s < 0)) (c1 : ¬ (n < 0)) (F : Nat → Value) (ho : h.1 b = ob 4 (fo 4 F)) (v3 : Int32) (e3 : F 3 = .int v3) (c2 : ¬ ((v3 - s) < n)) (F1 : Nat → Value) (ho1 : h.1 o = ob 4 (fo 4 F1)) (v0 : Int32) (e0 : F1 0 = .int v0) (v31 : Int32) (e31 : F1 3 = .int v31) (c3 : n ≤ (v0 - v31)) (r1 : Nat) (e1 : F1 1 = .ref r1) (n1 : Nat) (f : Nat → Int32) (ha : h.1 r1 = ia n1 f) (p : 0 < r1) (c4 : (v31 + n) ≤ (nI n1)) (r11 : Nat) (e11 : F 1 = .ref r11) (n2 : Nat) (f1 : Nat → Int32) (ha1 : h.1 r11 = ia n2 f1) (c5 : ¬ s < 0) (c6 : ¬ v31 < 0) (c7 : ¬ n < 0) (c8 : s.toNatClampNeg + n.toNatClampNeg ≤ n2) (c9 : v31.toNatClampNeg + n.toNatClampNeg ≤ n1) (p1 : 0 < r11) (r2 : Nat) (e2 : F 2 = .ref r2) (r21 : Nat) (e21 : F1 2 = .ref r21) (n3 : Nat) (f2 : Nat → Int64) (ha2 : h.1 r2 = la n3 f2) (n4 : Nat) (f3 : Nat → Int64) (ha3 : h.1 r21 = la n4 f3) (c10 : s.toNatClampNeg + n.toNatClampNeg ≤ n3) (c11 : v31.toNatClampNeg + n.toNatClampNeg ≤ n4) : CM mX4_addFrom d [.ref o, .ref b, .int s, .int n] h (some (.int 1)) (hs (hs (hs h r1 (ia n1 (va_cpy f1 f s.toNatClampNeg v31.toNatClampNeg n.toNatClampNeg))) r21 (la n4 (va_cpy f2 f3 s.toNatClampNeg v31.toNatClampNeg n.toNatClampNeg))) o (ob 4 (fo 4 (va_up F1 3 (.int (v31 + n)))))) := by
  show E false mX4_addFrom d 0 [(0, .ref o), (1, .ref b), (2, .int s), (3, .int n)] [] h _ _
  refine E.st (s_iload_n (q := 1) dX4_addFrom_0 rfl rfl) ?_
  refine E.st (s_if_lt_f (q := 4) (tg := 26) dX4_addFrom_1 (by decide) rfl c) ?_
  refine E.st (s_iload_n (q := 5) dX4_addFrom_4 rfl rfl) ?_
  refine E.st (s_if_lt_f (q := 8) (tg := 26) dX4_addFrom_5 (by decide) rfl c1) ?_
  refine E.st (s_iload_n (q := 9) dX4_addFrom_8 rfl rfl) ?_
  refine E.st (s_aload_n (q := 10) dX4_addFrom_9 rfl rfl) ?_
  refine E.st (s_gf (q := 13) (v := .int v3) dX4_addFrom_10 rfl fX4_23.l (ho) (by decide) (e3)) ?_
  refine E.st (s_iload_n (q := 14) dX4_addFrom_13 rfl rfl) ?_
  refine E.st (s_isub (q := 15) dX4_addFrom_14 rfl) ?_
  refine E.st (s_icmp_gt_f (q := 18) (tg := 26) dX4_addFrom_15 (by decide) rfl c2) ?_
  refine E.st (s_aload_n (q := 19) dX4_addFrom_18 rfl rfl) ?_
  refine E.st (s_iload_n (q := 20) dX4_addFrom_19 rfl rfl) ?_
  refine E.st (p2 := 23) (l2 := [(0, .ref o), (1, .ref b), (2, .int s), (3, .int n)]) (s2 := [.int 1]) (h2 := h) (s_invv (K := mX4_makeRoom) (o := o) (as := [.int n]) (rest := []) (v := some (.int 1)) dX4_addFrom_20 rfl lX4_30 (by omega) rfl (Nat.le_of_ble_eq_true rfl) rfl (Nat.le_of_ble_eq_true rfl) (ho1) (p_X4_makeRoom_1 (d := 0) (Nat.le_refl _) h o n F1 ho1 v0 e0 v31 e31 c3 r1 e1 n1 f ha p c4) (fun h => nomatch h)) ?_
  refine E.st (s_if_ne_t (q := 28) dX4_addFrom_23 (by decide) (by decide)) ?_
  refine E.st (s_aload_n (q := 29) dX4_addFrom_28 rfl rfl) ?_
  refine E.st (s_gf (q := 32) (v := .ref r11) dX4_addFrom_29 rfl fX4_11.l (ho) (by decide) (e11)) ?_
  refine E.st (s_iload_n (q := 33) dX4_addFrom_32 rfl rfl) ?_
  refine E.st (s_aload_n (q := 34) dX4_addFrom_33 rfl rfl) ?_
  refine E.st (s_gf (q := 37) (v := .ref r1) dX4_addFrom_34 rfl fX4_11.l (ho1) (by decide) (e1)) ?_
  refine E.st (s_aload_n (q := 38) dX4_addFrom_37 rfl rfl) ?_
  refine E.st (s_gf (q := 41) (v := .int v31) dX4_addFrom_38 rfl fX4_23.l (ho1) (by decide) (e31)) ?_
  refine E.st (s_iload_n (q := 42) dX4_addFrom_41 rfl rfl) ?_
  refine E.st (s_copyI (q := 45) dX4_addFrom_42 rfl (gm gi_wsL_law0_r23 (List.mem_of_getElem? (i := 0) rfl)) (by omega) (Nat.le_of_ble_eq_true rfl) p1 p (ha1) (ha) c5 c6 c7 c8 c9) ?_
  refine E.st (s_aload_n (q := 46) dX4_addFrom_45 rfl rfl) ?_
  refine E.st (s_gf (q := 49) (v := .ref r2) dX4_addFrom_46 rfl fX4_15.l ((hs_ne (ne_oi ho ha)).trans (ho)) (by decide) (e2)) ?_
  refine E.st (s_iload_n (q := 50) dX4_addFrom_49 rfl rfl) ?_
  refine E.st (s_aload_n (q := 51) dX4_addFrom_50 rfl rfl) ?_
  refine E.st (s_gf (q := 54) (v := .ref r21) dX4_addFrom_51 rfl fX4_15.l ((hs_ne (ne_oi ho1 ha)).trans (ho1)) (by decide) (e21)) ?_
  refine E.st (s_aload_n (q := 55) dX4_addFrom_54 rfl rfl) ?_
  refine E.st (s_gf (q := 58) (v := .int v31) dX4_addFrom_55 rfl fX4_23.l ((hs_ne (ne_oi ho1 ha)).trans (ho1)) (by decide) (e31)) ?_
  refine E.st (s_iload_n (q := 59) dX4_addFrom_58 rfl rfl) ?_
  refine E.st (s_copyL (q := 62) dX4_addFrom_59 rfl (gm gi_wsL_law0_r23 (List.mem_of_getElem? (i := 0) rfl)) (by omega) (Nat.le_of_ble_eq_true rfl) ((hs_ne (Ne.symm (ne_il ha ha2))).trans (ha2)) ((hs_ne (Ne.symm (ne_il ha ha3))).trans (ha3)) c5 c6 c7 c10 c11) ?_
  refine E.st (s_aload_n (q := 63) dX4_addFrom_62 rfl rfl) ?_
  refine E.st (s_dup (q := 64) dX4_addFrom_63 rfl rfl) ?_
  refine E.st (s_gf (q := 67) (v := .int v31) dX4_addFrom_64 rfl fX4_23.l ((hs_ne (ne_ol ho1 ha3)).trans ((hs_ne (ne_oi ho1 ha)).trans (ho1))) (by decide) (e31)) ?_
  refine E.st (s_iload_n (q := 68) dX4_addFrom_67 rfl rfl) ?_
  refine E.st (s_iadd (q := 69) dX4_addFrom_68 rfl) ?_
  refine E.st (s_pf (q := 72) dX4_addFrom_69 rfl fX4_23 ((hs_ne (ne_ol ho1 ha3)).trans ((hs_ne (ne_oi ho1 ha)).trans (ho1))) (by decide) (fun _ => ⟨rfl, rfl⟩)) ?_
  refine E.st (s_iconst (q := 73) (v := 1) dX4_addFrom_72 rfl (by decide)) ?_
  exact E.i dX4_addFrom_73 rfl rfl rfl rfl

set_option maxRecDepth 20000 in
theorem p_X4_addFrom_5 {d : Nat} (hd : 4 ≤ d) (h : AH) (o : Nat) (b : Nat) (s : Int32) (n : Int32) (c : ¬ (s < 0)) (c1 : ¬ (n < 0)) (F : Nat → Value) (ho : h.1 b = ob 4 (fo 4 F)) (v3 : Int32) (e3 : F 3 = .int v3) (c2 : ¬ ((v3 - s) < n)) (F1 : Nat → Value) (ho1 : h.1 o = ob 4 (fo 4 F1)) (v0 : Int32) (e0 : F1 0 = .int v0) (v31 : Int32) (e31 : F1 3 = .int v31) (c3 : n ≤ (v0 - v31)) (r1 : Nat) (e1 : F1 1 = .ref r1) (n1 : Nat) (f : Nat → Int32) (ha : h.1 r1 = ia n1 f) (p : 0 < r1) (c4 : ¬ ((v31 + n) ≤ (nI n1))) (g : Int32) (en : (if (v31 + n) < (if (2 * (nI n1)) < v0 then (2 * (nI n1)) else v0) then (if (2 * (nI n1)) < v0 then (2 * (nI n1)) else v0) else (v31 + n)) = g) (c5 : ¬ g = (nI n1)) (c6 : ¬ g < 0) (c7 : (g.toNatClampNeg) ≤ 1000000) (le : r1 ≤ h.2.1) (w : Int32) (en1 : (if g < (nI n1) then g else (nI n1)) = w) (c8 : ¬ w < 0) (c9 : (0 : Int32).toNatClampNeg + w.toNatClampNeg ≤ n1) (c10 : (0 : Int32).toNatClampNeg + w.toNatClampNeg ≤ (g.toNatClampNeg)) (le1 : o ≤ h.2.1) (r2 : Nat) (e2 : F1 2 = .ref r2) (n2 : Nat) (f1 : Nat → Int64) (ha1 : h.1 r2 = la n2 f1) (le2 : r2 ≤ h.2.1) (c11 : ¬ g = (nI n2)) (w1 : Int32) (en2 : (if g < (nI n2) then g else (nI n2)) = w1) (c12 : ¬ w1 < 0) (c13 : (0 : Int32).toNatClampNeg + w1.toNatClampNeg ≤ n2) (c14 : (0 : Int32).toNatClampNeg + w1.toNatClampNeg ≤ (g.toNatClampNeg)) (r11 : Nat) (e11 : F 1 = .ref r11) (ne : b ≠ o) (le3 : b ≤ h.2.1) (n3 : Nat) (f2 : Nat → Int32) (ha2 : h.1 r11 = ia n3 f2) (c15 : ¬ s < 0) (c16 : ¬ v31 < 0) (c17 : ¬ n < 0) (c18 : s.toNatClampNeg + n.toNatClampNeg ≤ n3) (c19 : v31.toNatClampNeg + n.toNatClampNeg ≤ (g.toNatClampNeg)) (p1 : 0 < r11) (le4 : r11 ≤ h.2.1) (r21 : Nat) (e21 : F 2 = .ref r21) (n4 : Nat) (f3 : Nat → Int64) (ha3 : h.1 r21 = la n4 f3) (c20 : s.toNatClampNeg + n.toNatClampNeg ≤ n4) (le5 : r21 ≤ h.2.1) : CM mX4_addFrom d [.ref o, .ref b, .int s, .int n] h (some (.int 1)) (hs (hs (hs (hs (hs (hw (hs (hs (hw h (ia (g.toNatClampNeg) (fun _ => 0)) (g.toNatClampNeg)) (h.2.1 + 1) (ia (g.toNatClampNeg) (va_cpy f (fun _ => 0) (0 : Int32).toNatClampNeg (0 : Int32).toNatClampNeg w.toNatClampNeg))) o (ob 4 (fo 4 (va_up F1 1 (.ref (h.2.1 + 1)))))) (la (g.toNatClampNeg) (fun _ => 0)) (g.toNatClampNeg)) (h.2.1 + 2) (la (g.toNatClampNeg) (va_cpy f1 (fun _ => 0) (0 : Int32).toNatClampNeg (0 : Int32).toNatClampNeg w1.toNatClampNeg))) o (ob 4 (fo 4 (va_up (va_up F1 1 (.ref (h.2.1 + 1))) 2 (.ref (h.2.1 + 2)))))) (h.2.1 + 1) (ia (g.toNatClampNeg) (va_cpy f2 (va_cpy f (fun _ => 0) (0 : Int32).toNatClampNeg (0 : Int32).toNatClampNeg w.toNatClampNeg) s.toNatClampNeg v31.toNatClampNeg n.toNatClampNeg))) (h.2.1 + 2) (la (g.toNatClampNeg) (va_cpy f3 (va_cpy f1 (fun _ => 0) (0 : Int32).toNatClampNeg (0 : Int32).toNatClampNeg w1.toNatClampNeg) s.toNatClampNeg v31.toNatClampNeg n.toNatClampNeg))) o (ob 4 (fo 4 (va_up (va_up (va_up F1 1 (.ref (h.2.1 + 1))) 2 (.ref (h.2.1 + 2))) 3 (.int (v31 + n)))))) := by
  show E false mX4_addFrom d 0 [(0, .ref o), (1, .ref b), (2, .int s), (3, .int n)] [] h _ _
  refine E.st (s_iload_n (q := 1) dX4_addFrom_0 rfl rfl) ?_
  refine E.st (s_if_lt_f (q := 4) (tg := 26) dX4_addFrom_1 (by decide) rfl c) ?_
  refine E.st (s_iload_n (q := 5) dX4_addFrom_4 rfl rfl) ?_
  refine E.st (s_if_lt_f (q := 8) (tg := 26) dX4_addFrom_5 (by decide) rfl c1) ?_
  refine E.st (s_iload_n (q := 9) dX4_addFrom_8 rfl rfl) ?_
  refine E.st (s_aload_n (q := 10) dX4_addFrom_9 rfl rfl) ?_
  refine E.st (s_gf (q := 13) (v := .int v3) dX4_addFrom_10 rfl fX4_23.l (ho) (by decide) (e3)) ?_
  refine E.st (s_iload_n (q := 14) dX4_addFrom_13 rfl rfl) ?_
  refine E.st (s_isub (q := 15) dX4_addFrom_14 rfl) ?_
  refine E.st (s_icmp_gt_f (q := 18) (tg := 26) dX4_addFrom_15 (by decide) rfl c2) ?_
  refine E.st (s_aload_n (q := 19) dX4_addFrom_18 rfl rfl) ?_
  refine E.st (s_iload_n (q := 20) dX4_addFrom_19 rfl rfl) ?_
  refine E.st (p2 := 23) (l2 := [(0, .ref o), (1, .ref b), (2, .int s), (3, .int n)]) (s2 := [.int 1]) (h2 := (hs (hs (hw (hs (hs (hw h (ia (g.toNatClampNeg) (fun _ => 0)) (g.toNatClampNeg)) (h.2.1 + 1) (ia (g.toNatClampNeg) (va_cpy f (fun _ => 0) (0 : Int32).toNatClampNeg (0 : Int32).toNatClampNeg w.toNatClampNeg))) o (ob 4 (fo 4 (va_up F1 1 (.ref (h.2.1 + 1)))))) (la (g.toNatClampNeg) (fun _ => 0)) (g.toNatClampNeg)) (h.2.1 + 2) (la (g.toNatClampNeg) (va_cpy f1 (fun _ => 0) (0 : Int32).toNatClampNeg (0 : Int32).toNatClampNeg w1.toNatClampNeg))) o (ob 4 (fo 4 (va_up (va_up F1 1 (.ref (h.2.1 + 1))) 2 (.ref (h.2.1 + 2))))))) (s_invv (K := mX4_makeRoom) (o := o) (as := [.int n]) (rest := []) (v := some (.int 1)) dX4_addFrom_20 rfl lX4_30 (by omega) rfl (Nat.le_of_ble_eq_true rfl) rfl (Nat.le_of_ble_eq_true rfl) (ho1) (p_X4_makeRoom_2 (d := 3) (Nat.le_refl _) h o n F1 ho1 v0 e0 v31 e31 c3 r1 e1 n1 f ha p c4 g en c5 c6 c7 (by show r1 ≤ h.2.1 + 0; have := le; omega) w en1 c8 c9 c10 (by show o ≤ h.2.1 + 0; have := le1; omega) r2 e2 n2 f1 ha1 (by show r2 ≤ h.2.1 + 0; have := le2; omega) c11 w1 en2 c12 c13 c14) (fun h => nomatch h)) ?_
  refine E.st (s_if_ne_t (q := 28) dX4_addFrom_23 (by decide) (by decide)) ?_
  refine E.st (s_aload_n (q := 29) dX4_addFrom_28 rfl rfl) ?_
  refine E.st (s_gf (q := 32) (v := .ref r11) dX4_addFrom_29 rfl fX4_11.l ((hs_ne ne).trans ((hs_ne (by have := le3;  omega)).trans ((hw_ne (by show b ≤ h.2.1 + 1; have := le3; omega)).trans ((hs_ne ne).trans ((hs_ne (by have := le3;  omega)).trans ((hw_ne (by show b ≤ h.2.1 + 0; have := le3; omega)).trans (ho))))))) (by decide) (e11)) ?_
  refine E.st (s_iload_n (q := 33) dX4_addFrom_32 rfl rfl) ?_
  refine E.st (s_aload_n (q := 34) dX4_addFrom_33 rfl rfl) ?_
  refine E.st (s_gf (q := 37) (v := .ref (h.2.1 + 1)) dX4_addFrom_34 rfl fX4_11.l (hs_eq) (by decide) ((up_ne (by decide)).trans (up_eq))) ?_
  refine E.st (s_aload_n (q := 38) dX4_addFrom_37 rfl rfl) ?_
  refine E.st (s_gf (q := 41) (v := .int v31) dX4_addFrom_38 rfl fX4_23.l (hs_eq) (by decide) ((up_ne (by decide)).trans ((up_ne (by decide)).trans (e31)))) ?_
  refine E.st (s_iload_n (q := 42) dX4_addFrom_41 rfl rfl) ?_
  refine E.st (s_copyI (q := 45) dX4_addFrom_42 rfl (gm gi_wsL_law0_r23 (List.mem_of_getElem? (i := 0) rfl)) (by omega) (Nat.le_of_ble_eq_true rfl) p1 (Nat.succ_pos _) ((hs_ne (Ne.symm (ne_oi ho1 ha2))).trans ((hs_ne (by have := le4;  omega)).trans ((hw_ne (by show r11 ≤ h.2.1 + 1; have := le4; omega)).trans ((hs_ne (Ne.symm (ne_oi ho1 ha2))).trans ((hs_ne (by have := le4;  omega)).trans ((hw_ne (by show r11 ≤ h.2.1 + 0; have := le4; omega)).trans (ha2))))))) ((hs_ne (by have := le1;  omega)).trans ((hs_ne (by  omega)).trans ((hw_ne (by show (h.2.1 + 1) ≤ h.2.1 + 1; omega)).trans ((hs_ne (by have := le1;  omega)).trans (hs_eq))))) c15 c16 c17 c18 c19) ?_
  refine E.st (s_aload_n (q := 46) dX4_addFrom_45 rfl rfl) ?_
  refine E.st (s_gf (q := 49) (v := .ref r21) dX4_addFrom_46 rfl fX4_15.l ((hs_ne (by have := le3;  omega)).trans ((hs_ne ne).trans ((hs_ne (by have := le3;  omega)).trans ((hw_ne (by show b ≤ h.2.1 + 1; have := le3; omega)).trans ((hs_ne ne).trans ((hs_ne (by have := le3;  omega)).trans ((hw_ne (by show b ≤ h.2.1 + 0; have := le3; omega)).trans (ho)))))))) (by decide) (e21)) ?_
  refine E.st (s_iload_n (q := 50) dX4_addFrom_49 rfl rfl) ?_
  refine E.st (s_aload_n (q := 51) dX4_addFrom_50 rfl rfl) ?_
  refine E.st (s_gf (q := 54) (v := .ref (h.2.1 + 2)) dX4_addFrom_51 rfl fX4_15.l ((hs_ne (by have := le1;  omega)).trans (hs_eq)) (by decide) (up_eq)) ?_
  refine E.st (s_aload_n (q := 55) dX4_addFrom_54 rfl rfl) ?_
  refine E.st (s_gf (q := 58) (v := .int v31) dX4_addFrom_55 rfl fX4_23.l ((hs_ne (by have := le1;  omega)).trans (hs_eq)) (by decide) ((up_ne (by decide)).trans ((up_ne (by decide)).trans (e31)))) ?_
  refine E.st (s_iload_n (q := 59) dX4_addFrom_58 rfl rfl) ?_
  refine E.st (s_copyL (q := 62) dX4_addFrom_59 rfl (gm gi_wsL_law0_r23 (List.mem_of_getElem? (i := 0) rfl)) (by omega) (Nat.le_of_ble_eq_true rfl) ((hs_ne (by have := le5;  omega)).trans ((hs_ne (Ne.symm (ne_ol ho1 ha3))).trans ((hs_ne (by have := le5;  omega)).trans ((hw_ne (by show r21 ≤ h.2.1 + 1; have := le5; omega)).trans ((hs_ne (Ne.symm (ne_ol ho1 ha3))).trans ((hs_ne (by have := le5;  omega)).trans ((hw_ne (by show r21 ≤ h.2.1 + 0; have := le5; omega)).trans (ha3)))))))) ((hs_ne (by  omega)).trans ((hs_ne (by have := le1;  omega)).trans (hs_eq))) c15 c16 c17 c20 c19) ?_
  refine E.st (s_aload_n (q := 63) dX4_addFrom_62 rfl rfl) ?_
  refine E.st (s_dup (q := 64) dX4_addFrom_63 rfl rfl) ?_
  refine E.st (s_gf (q := 67) (v := .int v31) dX4_addFrom_64 rfl fX4_23.l ((hs_ne (by have := le1;  omega)).trans ((hs_ne (by have := le1;  omega)).trans (hs_eq))) (by decide) ((up_ne (by decide)).trans ((up_ne (by decide)).trans (e31)))) ?_
  refine E.st (s_iload_n (q := 68) dX4_addFrom_67 rfl rfl) ?_
  refine E.st (s_iadd (q := 69) dX4_addFrom_68 rfl) ?_
  refine E.st (s_pf (q := 72) dX4_addFrom_69 rfl fX4_23 ((hs_ne (by have := le1;  omega)).trans ((hs_ne (by have := le1;  omega)).trans (hs_eq))) (by decide) (fun _ => ⟨rfl, rfl⟩)) ?_
  refine E.st (s_iconst (q := 73) (v := 1) dX4_addFrom_72 rfl (by decide)) ?_
  exact E.i dX4_addFrom_73 rfl rfl rfl rfl

set_option maxRecDepth 20000 in
theorem p_X4_addFrom_6 {d : Nat} (hd : 1 ≤ d) (h : AH) (o : Nat) (b : Nat) (s : Int32) (n : Int32) (c : ¬ (s < 0)) (c1 : ¬ (n < 0)) (F : Nat → Value) (ho : h.1 b = ob 4 (fo 4 F)) (v3 : Int32) (e3 : F 3 = .int v3) (c2 : ¬ ((v3 - s) < n)) (F1 : Nat → Value) (ho1 : h.1 o = ob 4 (fo 4 F1)) (v0 : Int32) (e0 : F1 0 = .int v0) (v31 : Int32) (e31 : F1 3 = .int v31) (c3 : ¬ (n ≤ (v0 - v31))) : CM mX4_addFrom d [.ref o, .ref b, .int s, .int n] h (some (.int 0)) h := by
  show E false mX4_addFrom d 0 [(0, .ref o), (1, .ref b), (2, .int s), (3, .int n)] [] h _ _
  refine E.st (s_iload_n (q := 1) dX4_addFrom_0 rfl rfl) ?_
  refine E.st (s_if_lt_f (q := 4) (tg := 26) dX4_addFrom_1 (by decide) rfl c) ?_
  refine E.st (s_iload_n (q := 5) dX4_addFrom_4 rfl rfl) ?_
  refine E.st (s_if_lt_f (q := 8) (tg := 26) dX4_addFrom_5 (by decide) rfl c1) ?_
  refine E.st (s_iload_n (q := 9) dX4_addFrom_8 rfl rfl) ?_
  refine E.st (s_aload_n (q := 10) dX4_addFrom_9 rfl rfl) ?_
  refine E.st (s_gf (q := 13) (v := .int v3) dX4_addFrom_10 rfl fX4_23.l (ho) (by decide) (e3)) ?_
  refine E.st (s_iload_n (q := 14) dX4_addFrom_13 rfl rfl) ?_
  refine E.st (s_isub (q := 15) dX4_addFrom_14 rfl) ?_
  refine E.st (s_icmp_gt_f (q := 18) (tg := 26) dX4_addFrom_15 (by decide) rfl c2) ?_
  refine E.st (s_aload_n (q := 19) dX4_addFrom_18 rfl rfl) ?_
  refine E.st (s_iload_n (q := 20) dX4_addFrom_19 rfl rfl) ?_
  refine E.st (p2 := 23) (l2 := [(0, .ref o), (1, .ref b), (2, .int s), (3, .int n)]) (s2 := [.int 0]) (h2 := h) (s_invv (K := mX4_makeRoom) (o := o) (as := [.int n]) (rest := []) (v := some (.int 0)) dX4_addFrom_20 rfl lX4_30 (by omega) rfl (Nat.le_of_ble_eq_true rfl) rfl (Nat.le_of_ble_eq_true rfl) (ho1) (p_X4_makeRoom_3 (d := 0) (Nat.le_refl _) h o n F1 ho1 v0 e0 v31 e31 c3) (fun h => nomatch h)) ?_
  refine E.st (s_if_ne_f (q := 26) (tg := 28) dX4_addFrom_23 (by decide) rfl (by decide)) ?_
  refine E.st (s_iconst (q := 27) (v := 0) dX4_addFrom_26 rfl (by decide)) ?_
  exact E.i dX4_addFrom_27 rfl rfl rfl rfl
