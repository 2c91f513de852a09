set_option maxRecDepth 20000 in
theorem j_X5_begin_a_1 {d : Nat} (hd : 0 ≤ d) (h : AH) (c : Nat) (F : Nat → Value) (ho : h.1 c = ob 5 (fo 12 F)) (e9 : F 9 = .ref (c + 4)) : J false mX5_begin d 0 [(0, .ref c)] [] h 10 [(0, .ref c)] [.ref (c + 4), .ref c] (hs h c (ob 5 (fo 12 (va_up F 7 (.int 0))))) := by
  refine J.tr (s_aload_n (q := 1) dX5_begin_0 rfl rfl) ?_
  refine J.tr (s_iconst (q := 2) (v := 0) dX5_begin_1 rfl (by decide)) ?_
  refine J.tr (s_pf (q := 5) dX5_begin_2 rfl fX5_41 (ho) (by decide) (fun _ => ⟨rfl, rfl⟩)) ?_
  refine J.tr (s_aload_n (q := 6) dX5_begin_5 rfl rfl) ?_
  refine J.tr (s_aload_n (q := 7) dX5_begin_6 rfl rfl) ?_
  refine J.tr (s_gf (q := 10) (v := .ref (c + 4)) dX5_begin_7 rfl fX5_27.l (hs_eq) (by decide) ((up_ne (by decide)).trans (e9))) ?_
  exact J.rf

set_option maxRecDepth 20000 in
theorem j_X5_begin_b_1 {d : Nat} (hd : 0 ≤ d) (h : AH) (c : Nat) (s : Int32) (F : Nat → Value) (ho : h.1 c = ob 5 (fo 12 F)) (e3 : F 3 = .ref (c + 1)) : J false mX5_begin d 13 [(0, .ref c)] [.int s, .ref c] h 21 [(0, .ref c)] [.int (-1), .ref (c + 1)] (hs h c (ob 5 (fo 12 (va_up F 10 (.int s))))) := by
  refine J.tr (s_pf (q := 16) dX5_begin_13 rfl fX5_72 (ho) (by decide) (fun _ => ⟨rfl, rfl⟩)) ?_
  refine J.tr (s_aload_n (q := 17) dX5_begin_16 rfl rfl) ?_
  refine J.tr (s_gf (q := 20) (v := .ref (c + 1)) dX5_begin_17 rfl fX5_9.l (hs_eq) (by decide) ((up_ne (by decide)).trans (e3))) ?_
  refine J.tr (s_iconst (q := 21) (v := (-1)) dX5_begin_20 rfl (by decide)) ?_
  exact J.rf

set_option maxRecDepth 20000 in
theorem j_X5_begin_c_1 {d : Nat} (hd : 0 ≤ d) (h : AH) (c : Nat) : E false mX5_begin d 24 [(0, .ref c)] [] h (none) h := by
  exact E.v dX5_begin_24 rfl rfl rfl

set_option maxRecDepth 20000 in
theorem j_X5_beginOfSearch_a_1 {d : Nat} (hd : 0 ≤ d) (h : AH) (c : Nat) (a : Int64) (m : Int32) (F : Nat → Value) (ho : h.1 c = ob 5 (fo 12 F)) (e9 : F 9 = .ref (c + 4)) : J false mX5_beginOfSearch d 0 [(0, .ref c), (1, .long a), (3, .int m)] [] h 20 [(0, .ref c), (1, .long a), (3, .int m)] [.int 0, .ref (c + 4)] (hs (hs (hs h c (ob 5 (fo 12 (va_up F 2 (.int 0))))) c (ob 5 (fo 12 (va_up (va_up F 2 (.int 0)) 6 (.long a))))) c (ob 5 (fo 12 (va_up (va_up (va_up F 2 (.int 0)) 6 (.long a)) 8 (.int m))))) := by
  refine J.tr (s_aload_n (q := 1) dX5_beginOfSearch_0 rfl rfl) ?_
  refine J.tr (s_iconst (q := 2) (v := 0) dX5_beginOfSearch_1 rfl (by decide)) ?_
  refine J.tr (s_pf (q := 5) dX5_beginOfSearch_2 rfl fX5_48 (ho) (by decide) (fun _ => ⟨rfl, rfl⟩)) ?_
  refine J.tr (s_aload_n (q := 6) dX5_beginOfSearch_5 rfl rfl) ?_
  refine J.tr (s_lload_n (q := 7) dX5_beginOfSearch_6 rfl rfl) ?_
  refine J.tr (s_pf (q := 10) dX5_beginOfSearch_7 rfl fX5_51 (hs_eq) (by decide) (fun _ => ⟨rfl, rfl⟩)) ?_
  refine J.tr (s_aload_n (q := 11) dX5_beginOfSearch_10 rfl rfl) ?_
  refine J.tr (s_iload_n (q := 12) dX5_beginOfSearch_11 rfl rfl) ?_
  refine J.tr (s_pf (q := 15) dX5_beginOfSearch_12 rfl fX5_55 (hs_eq) (by decide) (fun _ => ⟨rfl, rfl⟩)) ?_
  refine J.tr (s_aload_n (q := 16) dX5_beginOfSearch_15 rfl rfl) ?_
  refine J.tr (s_gf (q := 19) (v := .ref (c + 4)) dX5_beginOfSearch_16 rfl fX5_27.l (hs_eq) (by decide) ((up_ne (by decide)).trans ((up_ne (by decide)).trans ((up_ne (by decide)).trans (e9))))) ?_
  refine J.tr (s_iconst (q := 20) (v := 0) dX5_beginOfSearch_19 rfl (by decide)) ?_
  exact J.rf

set_option maxRecDepth 20000 in
theorem j_X5_beginOfSearch_b_1 {d : Nat} (hd : 0 ≤ d) (h : AH) (c : Nat) (a : Int64) (m : Int32) : J false mX5_beginOfSearch d 23 [(0, .ref c), (1, .long a), (3, .int m)] [] h 24 [(0, .ref c), (1, .long a), (3, .int m)] [.ref c] h := by
  refine J.tr (s_aload_n (q := 24) dX5_beginOfSearch_23 rfl rfl) ?_
  exact J.rf

set_option maxRecDepth 20000 in
theorem j_X5_beginOfSearch_c_1 {d : Nat} (hd : 0 ≤ d) (h : AH) (c : Nat) (a : Int64) (m : Int32) : E false mX5_beginOfSearch d 27 [(0, .ref c), (1, .long a), (3, .int m)] [] h (none) h := by
  exact E.v dX5_beginOfSearch_27 rfl rfl rfl

set_option maxRecDepth 20000 in
theorem j_X5_beginOfSet_a_1 {d : Nat} (hd : 0 ≤ d) (h : AH) (c : Nat) (m : Int32) (F : Nat → Value) (ho : h.1 c = ob 5 (fo 12 F)) (e9 : F 9 = .ref (c + 4)) : J false mX5_beginOfSet d 0 [(0, .ref c), (1, .int m)] [] h 26 [(0, .ref c), (1, .int m)] [.int 0, .ref (c + 4)] (hs (hs (hs (hs h c (ob 5 (fo 12 (va_up F 2 (.int m))))) c (ob 5 (fo 12 (va_up (va_up F 2 (.int m)) 6 (.long 0))))) c (ob 5 (fo 12 (va_up (va_up (va_up F 2 (.int m)) 6 (.long 0)) 8 (.int 60))))) c (ob 5 (fo 12 (va_up (va_up (va_up (va_up F 2 (.int m)) 6 (.long 0)) 8 (.int 60)) 11 (.int 0))))) := by
  refine J.tr (s_aload_n (q := 1) dX5_beginOfSet_0 rfl rfl) ?_
  refine J.tr (s_iload_n (q := 2) dX5_beginOfSet_1 rfl rfl) ?_
  refine J.tr (s_pf (q := 5) dX5_beginOfSet_2 rfl fX5_48 (ho) (by decide) (fun _ => ⟨rfl, rfl⟩)) ?_
  refine J.tr (s_aload_n (q := 6) dX5_beginOfSet_5 rfl rfl) ?_
  refine J.tr (s_lconst (q := 7) (v := 0) dX5_beginOfSet_6 rfl (by decide)) ?_
  refine J.tr (s_pf (q := 10) dX5_beginOfSet_7 rfl fX5_51 (hs_eq) (by decide) (fun _ => ⟨rfl, rfl⟩)) ?_
  refine J.tr (s_aload_n (q := 11) dX5_beginOfSet_10 rfl rfl) ?_
  refine J.tr (s_bipush (q := 13) (v := 60) dX5_beginOfSet_11 rfl (by decide)) ?_
  refine J.tr (s_pf (q := 16) dX5_beginOfSet_13 rfl fX5_55 (hs_eq) (by decide) (fun _ => ⟨rfl, rfl⟩)) ?_
  refine J.tr (s_aload_n (q := 17) dX5_beginOfSet_16 rfl rfl) ?_
  refine J.tr (s_iconst (q := 18) (v := 0) dX5_beginOfSet_17 rfl (by decide)) ?_
  refine J.tr (s_pf (q := 21) dX5_beginOfSet_18 rfl fX5_45 (hs_eq) (by decide) (fun _ => ⟨rfl, rfl⟩)) ?_
  refine J.tr (s_aload_n (q := 22) dX5_beginOfSet_21 rfl rfl) ?_
  refine J.tr (s_gf (q := 25) (v := .ref (c + 4)) dX5_beginOfSet_22 rfl fX5_27.l (hs_eq) (by decide) ((up_ne (by decide)).trans ((up_ne (by decide)).trans ((up_ne (by decide)).trans ((up_ne (by decide)).trans (e9)))))) ?_
  refine J.tr (s_iconst (q := 26) (v := 0) dX5_beginOfSet_25 rfl (by decide)) ?_
  exact J.rf

set_option maxRecDepth 20000 in
theorem j_X5_beginOfSet_b_1 {d : Nat} (hd : 0 ≤ d) (h : AH) (c : Nat) (m : Int32) (F : Nat → Value) (ho : h.1 c = ob 5 (fo 12 F)) (e9 : F 9 = .ref (c + 4)) : J false mX5_beginOfSet d 29 [(0, .ref c), (1, .int m)] [] h 35 [(0, .ref c), (1, .int m)] [.long 0, .int 2, .ref (c + 4)] h := by
  refine J.tr (s_aload_n (q := 30) dX5_beginOfSet_29 rfl rfl) ?_
  refine J.tr (s_gf (q := 33) (v := .ref (c + 4)) dX5_beginOfSet_30 rfl fX5_27.l (ho) (by decide) (e9)) ?_
  refine J.tr (s_iconst (q := 34) (v := 2) dX5_beginOfSet_33 rfl (by decide)) ?_
  refine J.tr (s_lconst (q := 35) (v := 0) dX5_beginOfSet_34 rfl (by decide)) ?_
  exact J.rf

set_option maxRecDepth 20000 in
theorem j_X5_beginOfSet_c_1 {d : Nat} (hd : 0 ≤ d) (h : AH) (c : Nat) (m : Int32) (r : Int32) : J false mX5_beginOfSet d 38 [(0, .ref c), (1, .int m)] [.int r] h 40 [(0, .ref c), (1, .int m)] [.ref c] h := by
  refine J.tr (s_pop (q := 39) dX5_beginOfSet_38 rfl rfl) ?_
  refine J.tr (s_aload_n (q := 40) dX5_beginOfSet_39 rfl rfl) ?_
  exact J.rf

set_option maxRecDepth 20000 in
theorem j_X5_beginOfSet_d_1 {d : Nat} (hd : 0 ≤ d) (h : AH) (c : Nat) (m : Int32) : E false mX5_beginOfSet d 43 [(0, .ref c), (1, .int m)] [] h (none) h := by
  exact E.v dX5_beginOfSet_43 rfl rfl rfl

set_option maxRecDepth 20000 in
theorem j_X5_tell_a_1 {d : Nat} (hd : 1 ≤ d) (h : AH) (c : Nat) (k : Int32) (v : Int64) (F : Nat → Value) (ho : h.1 c = ob 5 (fo 12 F)) (e9 : F 9 = .ref (c + 4)) (F1 : Nat → Value) (ho1 : h.1 (c + 4) = ob 4 (fo 4 F1)) (v3 : Int32) (e3 : F1 3 = .int v3) (v10 : Int32) (e10 : F 10 = .int v10) (c1 : 100 ≤ (v3 - v10)) : E false mX5_tell d 0 [(0, .ref c), (1, .int k), (2, .long v)] [] h (some (.int 0)) h := by
  refine E.st (s_aload_n (q := 1) dX5_tell_0 rfl rfl) ?_
  refine E.st (s_gf (q := 4) (v := .ref (c + 4)) dX5_tell_1 rfl fX5_27.l (ho) (by decide) (e9)) ?_
  refine E.st (p2 := 7) (l2 := [(0, .ref c), (1, .int k), (2, .long v)]) (s2 := [.int v3]) (h2 := h) (s_invv (K := mX4_size) (o := (c + 4)) (as := []) (rest := []) (v := some (.int v3)) dX5_tell_4 rfl lX5_68 (by omega) rfl (Nat.le_of_ble_eq_true rfl) rfl (Nat.le_of_ble_eq_true rfl) (ho1) (p_X4_size_1 (d := 0) (Nat.le_refl _) h (c + 4) F1 ho1 v3 e3) (fun h => nomatch h)) ?_
  refine E.st (s_aload_n (q := 8) dX5_tell_7 rfl rfl) ?_
  refine E.st (s_gf (q := 11) (v := .int v10) dX5_tell_8 rfl fX5_72.l (ho) (by decide) (e10)) ?_
  refine E.st (s_isub (q := 12) dX5_tell_11 rfl) ?_
  refine E.st (s_bipush (q := 14) (v := 100) dX5_tell_12 rfl (by decide)) ?_
  refine E.st (s_icmp_ge_t (q := 33) dX5_tell_14 (by decide) c1) ?_
  refine E.st (s_iconst (q := 34) (v := 0) dX5_tell_33 rfl (by decide)) ?_
  exact E.i dX5_tell_34 rfl rfl rfl rfl

set_option maxRecDepth 20000 in
theorem j_X5_tell_a_2 {d : Nat} (hd : 1 ≤ d) (h : AH) (c : Nat) (k : Int32) (v : Int64) (F : Nat → Value) (ho : h.1 c = ob 5 (fo 12 F)) (e9 : F 9 = .ref (c + 4)) (F1 : Nat → Value) (ho1 : h.1 (c + 4) = ob 4 (fo 4 F1)) (v3 : Int32) (e3 : F1 3 = .int v3) (v10 : Int32) (e10 : F 10 = .int v10) (c1 : ¬ (100 ≤ (v3 - v10))) : J false mX5_tell d 0 [(0, .ref c), (1, .int k), (2, .long v)] [] h 23 [(0, .ref c), (1, .int k), (2, .long v)] [.long v, .int k, .ref (c + 4)] h := by
  refine J.tr (s_aload_n (q := 1) dX5_tell_0 rfl rfl) ?_
  refine J.tr (s_gf (q := 4) (v := .ref (c + 4)) dX5_tell_1 rfl fX5_27.l (ho) (by decide) (e9)) ?_
  refine J.tr (p2 := 7) (l2 := [(0, .ref c), (1, .int k), (2, .long v)]) (s2 := [.int v3]) (h2 := h) (s_invv (K := mX4_size) (o := (c + 4)) (as := []) (rest := []) (v := some (.int v3)) dX5_tell_4 rfl lX5_68 (by omega) rfl (Nat.le_of_ble_eq_true rfl) rfl (Nat.le_of_ble_eq_true rfl) (ho1) (p_X4_size_1 (d := 0) (Nat.le_refl _) h (c + 4) F1 ho1 v3 e3) (fun h => nomatch h)) ?_
  refine J.tr (s_aload_n (q := 8) dX5_tell_7 rfl rfl) ?_
  refine J.tr (s_gf (q := 11) (v := .int v10) dX5_tell_8 rfl fX5_72.l (ho) (by decide) (e10)) ?_
  refine J.tr (s_isub (q := 12) dX5_tell_11 rfl) ?_
  refine J.tr (s_bipush (q := 14) (v := 100) dX5_tell_12 rfl (by decide)) ?_
  refine J.tr (s_icmp_ge_f (q := 17) (tg := 33) dX5_tell_14 (by decide) rfl c1) ?_
  refine J.tr (s_aload_n (q := 18) dX5_tell_17 rfl rfl) ?_
  refine J.tr (s_gf (q := 21) (v := .ref (c + 4)) dX5_tell_18 rfl fX5_27.l (ho) (by decide) (e9)) ?_
  refine J.tr (s_iload_n (q := 22) dX5_tell_21 rfl rfl) ?_
  refine J.tr (s_lload_n (q := 23) dX5_tell_22 rfl rfl) ?_
  exact J.rf

set_option maxRecDepth 20000 in
theorem j_X5_tell_b_1 {d : Nat} (hd : 0 ≤ d) (h : AH) (c : Nat) (k : Int32) (v : Int64) (r : Int32) (c1 : r = 0) : E false mX5_tell d 26 [(0, .ref c), (1, .int k), (2, .long v)] [.int r] h (some (.int 0)) h := by
  refine E.st (s_if_eq_t (q := 33) dX5_tell_26 (by decide) c1) ?_
  refine E.st (s_iconst (q := 34) (v := 0) dX5_tell_33 rfl (by decide)) ?_
  exact E.i dX5_tell_34 rfl rfl rfl rfl

set_option maxRecDepth 20000 in
theorem j_X5_tell_b_2 {d : Nat} (hd : 0 ≤ d) (h : AH) (c : Nat) (k : Int32) (v : Int64) (r : Int32) (c1 : ¬ (r = 0)) : E false mX5_tell d 26 [(0, .ref c), (1, .int k), (2, .long v)] [.int r] h (some (.int 1)) h := by
  refine E.st (s_if_eq_f (q := 29) (tg := 33) dX5_tell_26 (by decide) rfl c1) ?_
  refine E.st (s_iconst (q := 30) (v := 1) dX5_tell_29 rfl (by decide)) ?_
  refine E.st (s_goto (q := 34) dX5_tell_30 (by decide)) ?_
  exact E.i dX5_tell_34 rfl rfl rfl rfl

set_option maxRecDepth 20000 in
theorem j_X5_tellAll_a_1 {d : Nat} (hd : 1 ≤ d) (h : AH) (c : Nat) (t : Nat) (s : Int32) (l : Int32) (F : Nat → Value) (ho : h.1 c = ob 5 (fo 12 F)) (e9 : F 9 = .ref (c + 4)) (F1 : Nat → Value) (ho1 : h.1 (c + 4) = ob 4 (fo 4 F1)) (v3 : Int32) (e3 : F1 3 = .int v3) (v10 : Int32) (e10 : F 10 = .int v10) (c1 : 100 < ((v3 - v10) + l)) : E false mX5_tellAll d 0 [(0, .ref c), (1, .ref t), (2, .int s), (3, .int l)] [] h (some (.int 0)) h := by
  refine E.st (s_aload_n (q := 1) dX5_tellAll_0 rfl rfl) ?_
  refine E.st (s_gf (q := 4) (v := .ref (c + 4)) dX5_tellAll_1 rfl fX5_27.l (ho) (by decide) (e9)) ?_
  refine E.st (p2 := 7) (l2 := [(0, .ref c), (1, .ref t), (2, .int s), (3, .int l)]) (s2 := [.int v3]) (h2 := h) (s_invv (K := mX4_size) (o := (c + 4)) (as := []) (rest := []) (v := some (.int v3)) dX5_tellAll_4 rfl lX5_68 (by omega) rfl (Nat.le_of_ble_eq_true rfl) rfl (Nat.le_of_ble_eq_true rfl) (ho1) (p_X4_size_1 (d := 0) (Nat.le_refl _) h (c + 4) F1 ho1 v3 e3) (fun h => nomatch h)) ?_
  refine E.st (s_aload_n (q := 8) dX5_tellAll_7 rfl rfl) ?_
  refine E.st (s_gf (q := 11) (v := .int v10) dX5_tellAll_8 rfl fX5_72.l (ho) (by decide) (e10)) ?_
  refine E.st (s_isub (q := 12) dX5_tellAll_11 rfl) ?_
  refine E.st (s_iload_n (q := 13) dX5_tellAll_12 rfl rfl) ?_
  refine E.st (s_iadd (q := 14) dX5_tellAll_13 rfl) ?_
  refine E.st (s_bipush (q := 16) (v := 100) dX5_tellAll_14 rfl (by decide)) ?_
  refine E.st (s_icmp_gt_t (q := 36) dX5_tellAll_16 (by decide) c1) ?_
  refine E.st (s_iconst (q := 37) (v := 0) dX5_tellAll_36 rfl (by decide)) ?_
  exact E.i dX5_tellAll_37 rfl rfl rfl rfl

set_option maxRecDepth 20000 in
theorem j_X5_tellAll_a_2 {d : Nat} (hd : 1 ≤ d) (h : AH) (c : Nat) (t : Nat) (s : Int32) (l : Int32) (F : Nat → Value) (ho : h.1 c = ob 5 (fo 12 F)) (e9 : F 9 = .ref (c + 4)) (F1 : Nat → Value) (ho1 : h.1 (c + 4) = ob 4 (fo 4 F1)) (v3 : Int32) (e3 : F1 3 = .int v3) (v10 : Int32) (e10 : F 10 = .int v10) (c1 : ¬ (100 < ((v3 - v10) + l))) : J false mX5_tellAll d 0 [(0, .ref c), (1, .ref t), (2, .int s), (3, .int l)] [] h 26 [(0, .ref c), (1, .ref t), (2, .int s), (3, .int l)] [.int l, .int s, .ref t, .ref (c + 4)] h := by
  refine J.tr (s_aload_n (q := 1) dX5_tellAll_0 rfl rfl) ?_
  refine J.tr (s_gf (q := 4) (v := .ref (c + 4)) dX5_tellAll_1 rfl fX5_27.l (ho) (by decide) (e9)) ?_
  refine J.tr (p2 := 7) (l2 := [(0, .ref c), (1, .ref t), (2, .int s), (3, .int l)]) (s2 := [.int v3]) (h2 := h) (s_invv (K := mX4_size) (o := (c + 4)) (as := []) (rest := []) (v := some (.int v3)) dX5_tellAll_4 rfl lX5_68 (by omega) rfl (Nat.le_of_ble_eq_true rfl) rfl (Nat.le_of_ble_eq_true rfl) (ho1) (p_X4_size_1 (d := 0) (Nat.le_refl _) h (c + 4) F1 ho1 v3 e3) (fun h => nomatch h)) ?_
  refine J.tr (s_aload_n (q := 8) dX5_tellAll_7 rfl rfl) ?_
  refine J.tr (s_gf (q := 11) (v := .int v10) dX5_tellAll_8 rfl fX5_72.l (ho) (by decide) (e10)) ?_
  refine J.tr (s_isub (q := 12) dX5_tellAll_11 rfl) ?_
  refine J.tr (s_iload_n (q := 13) dX5_tellAll_12 rfl rfl) ?_
  refine J.tr (s_iadd (q := 14) dX5_tellAll_13 rfl) ?_
  refine J.tr (s_bipush (q := 16) (v := 100) dX5_tellAll_14 rfl (by decide)) ?_
  refine J.tr (s_icmp_gt_f (q := 19) (tg := 36) dX5_tellAll_16 (by decide) rfl c1) ?_
  refine J.tr (s_aload_n (q := 20) dX5_tellAll_19 rfl rfl) ?_
  refine J.tr (s_gf (q := 23) (v := .ref (c + 4)) dX5_tellAll_20 rfl fX5_27.l (ho) (by decide) (e9)) ?_
  refine J.tr (s_aload_n (q := 24) dX5_tellAll_23 rfl rfl) ?_
  refine J.tr (s_iload_n (q := 25) dX5_tellAll_24 rfl rfl) ?_
  refine J.tr (s_iload_n (q := 26) dX5_tellAll_25 rfl rfl) ?_
  exact J.rf

set_option maxRecDepth 20000 in
theorem j_X5_tellAll_b_1 {d : Nat} (hd : 0 ≤ d) (h : AH) (c : Nat) (t : Nat) (s : Int32) (l : Int32) (r : Int32) (c1 : r = 0) : E false mX5_tellAll d 29 [(0, .ref c), (1, .ref t), (2, .int s), (3, .int l)] [.int r] h (some (.int 0)) h := by
  refine E.st (s_if_eq_t (q := 36) dX5_tellAll_29 (by decide) c1) ?_
  refine E.st (s_iconst (q := 37) (v := 0) dX5_tellAll_36 rfl (by decide)) ?_
  exact E.i dX5_tellAll_37 rfl rfl rfl rfl

set_option maxRecDepth 20000 in
theorem j_X5_tellAll_b_2 {d : Nat} (hd : 0 ≤ d) (h : AH) (c : Nat) (t : Nat) (s : Int32) (l : Int32) (r : Int32) (c1 : ¬ (r = 0)) : E false mX5_tellAll d 29 [(0, .ref c), (1, .ref t), (2, .int s), (3, .int l)] [.int r] h (some (.int 1)) h := by
  refine E.st (s_if_eq_f (q := 32) (tg := 36) dX5_tellAll_29 (by decide) rfl c1) ?_
  refine E.st (s_iconst (q := 33) (v := 1) dX5_tellAll_32 rfl (by decide)) ?_
  refine E.st (s_goto (q := 37) dX5_tellAll_33 (by decide)) ?_
  exact E.i dX5_tellAll_37 rfl rfl rfl rfl

set_option maxRecDepth 20000 in
theorem j_X5_turn_a_1 {d : Nat} (hd : 0 ≤ d) (h : AH) (c : Nat) (F : Nat → Value) (ho : h.1 c = ob 5 (fo 12 F)) (v7 : Int32) (e7 : F 7 = .int v7) : J false mX5_turn d 0 [(0, .ref c)] [] h 7 [(0, .ref c), (1, .int (v7 - 1))] [] h := by
  refine J.tr (s_aload_n (q := 1) dX5_turn_0 rfl rfl) ?_
  refine J.tr (s_gf (q := 4) (v := .int v7) dX5_turn_1 rfl fX5_41.l (ho) (by decide) (e7)) ?_
  refine J.tr (s_iconst (q := 5) (v := 1) dX5_turn_4 rfl (by decide)) ?_
  refine J.tr (s_isub (q := 6) dX5_turn_5 rfl) ?_
  refine J.tr (s_istore_n (q := 7) (ls' := [(1, .int (v7 - 1)), (0, .ref c)]) dX5_turn_6 rfl (by decide) rfl) ?_
  refine J.tr (s_ls (ls' := [(0, .ref c), (1, .int (v7 - 1))]) [1, 0] rfl) ?_
  exact J.rf

set_option maxRecDepth 20000 in
theorem j_X5_turn_b_1 {d : Nat} (hd : 0 ≤ d) (h : AH) (c : Nat) (k : Int32) (c1 : k < 0) : E false mX5_turn d 7 [(0, .ref c), (1, .int k)] [] h (some (.int 0)) h := by
  refine E.st (s_iload_n (q := 8) dX5_turn_7 rfl rfl) ?_
  refine E.st (s_if_lt_t (q := 52) dX5_turn_8 (by decide) c1) ?_
  refine E.st (s_iconst (q := 53) (v := 0) dX5_turn_52 rfl (by decide)) ?_
  exact E.i dX5_turn_53 rfl rfl rfl rfl

set_option maxRecDepth 20000 in
theorem j_X5_turn_b_2 {d : Nat} (hd : 0 ≤ d) (h : AH) (c : Nat) (k : Int32) (c1 : ¬ (k < 0)) (b : Int64) (en : ((1 : Int64) <<< ((k : Int32).toInt64 &&& 63)) = b) (F : Nat → Value) (ho : h.1 c = ob 5 (fo 12 F)) (v6 : Int64) (e6 : F 6 = .long v6) (c2 : ¬ (v6 &&& b) = 0) : J false mX5_turn d 7 [(0, .ref c), (1, .int k)] [] h 7 [(0, .ref c), (1, .int (k + (-1)))] [] h := by
  refine J.tr (s_iload_n (q := 8) dX5_turn_7 rfl rfl) ?_
  refine J.tr (s_if_lt_f (q := 11) (tg := 52) dX5_turn_8 (by decide) rfl c1) ?_
  refine J.tr (s_lconst (q := 12) (v := 1) dX5_turn_11 rfl (by decide)) ?_
  refine J.tr (s_iload_n (q := 13) dX5_turn_12 rfl rfl) ?_
  refine J.tr (s_lshl (q := 14) dX5_turn_13 rfl) ?_
  refine J.tr (s_nml en) ?_
  refine J.tr (s_lstore_n (q := 15) (ls' := [(2, .long b), (0, .ref c), (1, .int k)]) dX5_turn_14 rfl (by decide) rfl) ?_
  refine J.tr (s_aload_n (q := 16) dX5_turn_15 rfl rfl) ?_
  refine J.tr (s_gf (q := 19) (v := .long v6) dX5_turn_16 rfl fX5_51.l (ho) (by decide) (e6)) ?_
  refine J.tr (s_lload_n (q := 20) dX5_turn_19 rfl rfl) ?_
  refine J.tr (s_land (q := 21) dX5_turn_20 rfl) ?_
  refine J.tr (s_lconst (q := 22) (v := 0) dX5_turn_21 rfl (by decide)) ?_
  refine J.tr (s_lcmp (q := 23) dX5_turn_22 rfl) ?_
  refine J.tr (s_if_ne_t (q := 46) dX5_turn_23 (by decide) (fun z => c2 ((lgc_eq _ _).mp z))) ?_
  refine J.tr (s_iinc (q := 49) (v := (k + (-1))) (ls' := [(1, .int (k + (-1))), (2, .long b), (0, .ref c)]) dX5_turn_46 rfl (by decide) rfl rfl rfl) ?_
  refine J.tr (s_goto (q := 7) dX5_turn_49 (by decide)) ?_
  refine J.tr (s_ls (ls' := [(0, .ref c), (1, .int (k + (-1)))]) [2, 0] rfl) ?_
  exact J.rf

set_option maxRecDepth 20000 in
theorem j_X5_turn_b_3 {d : Nat} (hd : 0 ≤ d) (h : AH) (c : Nat) (k : Int32) (c1 : ¬ (k < 0)) (b : Int64) (en : ((1 : Int64) <<< ((k : Int32).toInt64 &&& 63)) = b) (F : Nat → Value) (ho : h.1 c = ob 5 (fo 12 F)) (v6 : Int64) (e6 : F 6 = .long v6) (c2 : (v6 &&& b) = 0) : J false mX5_turn d 7 [(0, .ref c), (1, .int k)] [] h 41 [(0, .ref c)] [.ref c] (hs h c (ob 5 (fo 12 (va_up F 6 (.long ((v6 &&& (b - 1)) ||| b)))))) := by
  refine J.tr (s_iload_n (q := 8) dX5_turn_7 rfl rfl) ?_
  refine J.tr (s_if_lt_f (q := 11) (tg := 52) dX5_turn_8 (by decide) rfl c1) ?_
  refine J.tr (s_lconst (q := 12) (v := 1) dX5_turn_11 rfl (by decide)) ?_
  refine J.tr (s_iload_n (q := 13) dX5_turn_12 rfl rfl) ?_
  refine J.tr (s_lshl (q := 14) dX5_turn_13 rfl) ?_
  refine J.tr (s_nml en) ?_
  refine J.tr (s_lstore_n (q := 15) (ls' := [(2, .long b), (0, .ref c), (1, .int k)]) dX5_turn_14 rfl (by decide) rfl) ?_
  refine J.tr (s_aload_n (q := 16) dX5_turn_15 rfl rfl) ?_
  refine J.tr (s_gf (q := 19) (v := .long v6) dX5_turn_16 rfl fX5_51.l (ho) (by decide) (e6)) ?_
  refine J.tr (s_lload_n (q := 20) dX5_turn_19 rfl rfl) ?_
  refine J.tr (s_land (q := 21) dX5_turn_20 rfl) ?_
  refine J.tr (s_lconst (q := 22) (v := 0) dX5_turn_21 rfl (by decide)) ?_
  refine J.tr (s_lcmp (q := 23) dX5_turn_22 rfl) ?_
  refine J.tr (s_if_ne_f (q := 26) (tg := 46) dX5_turn_23 (by decide) rfl ((lgc_eq _ _).mpr c2)) ?_
  refine J.tr (s_aload_n (q := 27) dX5_turn_26 rfl rfl) ?_
  refine J.tr (s_aload_n (q := 28) dX5_turn_27 rfl rfl) ?_
  refine J.tr (s_gf (q := 31) (v := .long v6) dX5_turn_28 rfl fX5_51.l (ho) (by decide) (e6)) ?_
  refine J.tr (s_lload_n (q := 32) dX5_turn_31 rfl rfl) ?_
  refine J.tr (s_lconst (q := 33) (v := 1) dX5_turn_32 rfl (by decide)) ?_
  refine J.tr (s_lsub (q := 34) dX5_turn_33 rfl) ?_
  refine J.tr (s_land (q := 35) dX5_turn_34 rfl) ?_
  refine J.tr (s_lload_n (q := 36) dX5_turn_35 rfl rfl) ?_
  refine J.tr (s_lor (q := 37) dX5_turn_36 rfl) ?_
  refine J.tr (s_pf (q := 40) dX5_turn_37 rfl fX5_51 (ho) (by decide) (fun _ => ⟨rfl, rfl⟩)) ?_
  refine J.tr (s_aload_n (q := 41) dX5_turn_40 rfl rfl) ?_
  refine J.tr (s_ls (ls' := [(0, .ref c)]) [1] rfl) ?_
  exact J.rf

set_option maxRecDepth 20000 in
theorem j_X5_turn_c_1 {d : Nat} (hd : 0 ≤ d) (h : AH) (c : Nat) : E false mX5_turn d 44 [(0, .ref c)] [] h (some (.int 1)) h := by
  refine E.st (s_iconst (q := 45) (v := 1) dX5_turn_44 rfl (by decide)) ?_
  exact E.i dX5_turn_45 rfl rfl rfl rfl

set_option maxRecDepth 20000 in
theorem j_X6_workSet_a_1 {d : Nat} (hd : 1 ≤ d) (h : AH) (n : Int32) (c : Nat) (F : Nat → Value) (ho : h.1 19 = ob 6 (fo 10 F)) (e2 : F 2 = .ref c) (F1 : Nat → Value) (ho1 : h.1 c = ob 5 (fo 12 F1)) (r1 : Nat) (e1 : F1 1 = .ref r1) : J false mX6_workSet d 0 [(0, .ref 19), (1, .int n)] [] h 19 [(0, .ref 19), (1, .int n), (2, .ref c), (3, .ref r1), (4, .int 0)] [] h := by
  refine J.tr (s_aload_n (q := 1) dX6_workSet_0 rfl rfl) ?_
  refine J.tr (s_gf (q := 4) (v := .ref c) dX6_workSet_1 rfl fX6_20.l (ho) (by decide) (e2)) ?_
  refine J.tr (s_astore_n (q := 5) (ls' := [(2, .ref c), (0, .ref 19), (1, .int n)]) dX6_workSet_4 rfl (by decide) rfl) ?_
  refine J.tr (s_aload_n (q := 6) dX6_workSet_5 rfl rfl) ?_
  refine J.tr (p2 := 9) (l2 := [(2, .ref c), (0, .ref 19), (1, .int n)]) (s2 := [.ref r1]) (h2 := h) (s_invv (K := mX5_inner) (o := c) (as := []) (rest := []) (v := some (.ref r1)) dX6_workSet_6 rfl lX6_194 (by omega) rfl (Nat.le_of_ble_eq_true rfl) rfl (Nat.le_of_ble_eq_true rfl) (ho1) (p_X5_inner_1 (d := 0) (Nat.le_refl _) h c F1 ho1 r1 e1) (fun h => nomatch h)) ?_
  refine J.tr (s_astore_n (q := 10) (ls' := [(3, .ref r1), (2, .ref c), (0, .ref 19), (1, .int n)]) dX6_workSet_9 rfl (by decide) rfl) ?_
  refine J.tr (s_aload_n (q := 11) dX6_workSet_10 rfl rfl) ?_
  refine J.tr (s_ifnonnull_r (q := 16) dX6_workSet_11 (by decide)) ?_
  refine J.tr (s_iconst (q := 17) (v := 0) dX6_workSet_16 rfl (by decide)) ?_
  refine J.tr (s_istore (q := 19) (ls' := [(4, .int 0), (3, .ref r1), (2, .ref c), (0, .ref 19), (1, .int n)]) dX6_workSet_17 rfl (by decide) rfl) ?_
  refine J.tr (s_ls (ls' := [(0, .ref 19), (1, .int n), (2, .ref c), (3, .ref r1), (4, .int 0)]) [3, 4, 2, 1, 0] rfl) ?_
  exact J.rf

set_option maxRecDepth 20000 in
theorem j_X6_workSet_a_2 {d : Nat} (hd : 1 ≤ d) (h : AH) (n : Int32) (c : Nat) (F : Nat → Value) (ho : h.1 19 = ob 6 (fo 10 F)) (e2 : F 2 = .ref c) (F1 : Nat → Value) (ho1 : h.1 c = ob 5 (fo 12 F1)) (e1 : F1 1 = .null) : E false mX6_workSet d 0 [(0, .ref 19), (1, .int n)] [] h (some (.int 2)) h := by
  refine E.st (s_aload_n (q := 1) dX6_workSet_0 rfl rfl) ?_
  refine E.st (s_gf (q := 4) (v := .ref c) dX6_workSet_1 rfl fX6_20.l (ho) (by decide) (e2)) ?_
  refine E.st (s_astore_n (q := 5) (ls' := [(2, .ref c), (0, .ref 19), (1, .int n)]) dX6_workSet_4 rfl (by decide) rfl) ?_
  refine E.st (s_aload_n (q := 6) dX6_workSet_5 rfl rfl) ?_
  refine E.st (p2 := 9) (l2 := [(2, .ref c), (0, .ref 19), (1, .int n)]) (s2 := [.null]) (h2 := h) (s_invv (K := mX5_inner) (o := c) (as := []) (rest := []) (v := some (.null)) dX6_workSet_6 rfl lX6_194 (by omega) rfl (Nat.le_of_ble_eq_true rfl) rfl (Nat.le_of_ble_eq_true rfl) (ho1) (p_X5_inner_2 (d := 0) (Nat.le_refl _) h c F1 ho1 e1) (fun h => nomatch h)) ?_
  refine E.st (s_astore_nN (q := 10) (ls' := [(3, .null), (2, .ref c), (0, .ref 19), (1, .int n)]) dX6_workSet_9 rfl (by decide) rfl) ?_
  refine E.st (s_aload_nN (q := 11) dX6_workSet_10 rfl rfl) ?_
  refine E.st (s_ifnonnull_n (q := 14) dX6_workSet_11 rfl) ?_
  refine E.st (s_iconst (q := 15) (v := 2) dX6_workSet_14 rfl (by decide)) ?_
  exact E.i dX6_workSet_15 rfl rfl rfl rfl

set_option maxRecDepth 20000 in
theorem j_X6_workSet_b_1 {d : Nat} (hd : 0 ≤ d) (h : AH) (n : Int32) (c : Nat) (o : Nat) (b : Int32) (c1 : 60 < b) : E false mX6_workSet d 19 [(0, .ref 19), (1, .int n), (2, .ref c), (3, .ref o), (4, .int b)] [] h (some (.int 2)) h := by
  refine E.st (s_iload (q := 21) dX6_workSet_19 rfl rfl) ?_
  refine E.st (s_bipush (q := 23) (v := 60) dX6_workSet_21 rfl (by decide)) ?_
  refine E.st (s_icmp_gt_t (q := 120) dX6_workSet_23 (by decide) c1) ?_
  refine E.st (s_iconst (q := 121) (v := 2) dX6_workSet_120 rfl (by decide)) ?_
  exact E.i dX6_workSet_121 rfl rfl rfl rfl

set_option maxRecDepth 20000 in
theorem j_X6_workSet_b_2 {d : Nat} (hd : 1 ≤ d) (h : AH) (n : Int32) (c : Nat) (o : Nat) (b : Int32) (c1 : ¬ (60 < b)) (F : Nat → Value) (ho : h.1 19 = ob 6 (fo 10 F)) (e4 : F 4 = .ref 27) (F1 : Nat → Value) (ho1 : h.1 27 = ob 4 (fo 4 F1)) (v3 : Int32) (e3 : F1 3 = .int v3) : J false mX6_workSet d 19 [(0, .ref 19), (1, .int n), (2, .ref c), (3, .ref o), (4, .int b)] [] h 45 [(0, .ref 19), (1, .int n), (2, .ref c), (3, .ref o), (4, .int b), (5, .int v3)] [.int v3, .ref o, .int n, .ref 19] (hs h 19 (ob 6 (fo 10 (va_up F 2 (.ref o))))) := by
  refine J.tr (s_iload (q := 21) dX6_workSet_19 rfl rfl) ?_
  refine J.tr (s_bipush (q := 23) (v := 60) dX6_workSet_21 rfl (by decide)) ?_
  refine J.tr (s_icmp_gt_f (q := 26) (tg := 120) dX6_workSet_23 (by decide) rfl c1) ?_
  refine J.tr (s_aload_n (q := 27) dX6_workSet_26 rfl rfl) ?_
  refine J.tr (s_gf (q := 30) (v := .ref 27) dX6_workSet_27 rfl fX6_29.l (ho) (by decide) (e4)) ?_
  refine J.tr (p2 := 33) (l2 := [(0, .ref 19), (1, .int n), (2, .ref c), (3, .ref o), (4, .int b)]) (s2 := [.int v3]) (h2 := h) (s_invv (K := mX4_size) (o := 27) (as := []) (rest := []) (v := some (.int v3)) dX6_workSet_30 rfl lX6_197 (by omega) rfl (Nat.le_of_ble_eq_true rfl) rfl (Nat.le_of_ble_eq_true rfl) (ho1) (p_X4_size_1 (d := 0) (Nat.le_refl _) h 27 F1 ho1 v3 e3) (fun h => nomatch h)) ?_
  refine J.tr (s_istore (q := 35) (ls' := [(5, .int v3), (0, .ref 19), (1, .int n), (2, .ref c), (3, .ref o), (4, .int b)]) dX6_workSet_33 rfl (by decide) rfl) ?_
  refine J.tr (s_aload_n (q := 36) dX6_workSet_35 rfl rfl) ?_
  refine J.tr (s_aload_n (q := 37) dX6_workSet_36 rfl rfl) ?_
  refine J.tr (s_pf (q := 40) dX6_workSet_37 rfl fX6_20 (ho) (by decide) (fun _ => ⟨rfl, rfl⟩)) ?_
  refine J.tr (s_aload_n (q := 41) dX6_workSet_40 rfl rfl) ?_
  refine J.tr (s_iload_n (q := 42) dX6_workSet_41 rfl rfl) ?_
  refine J.tr (s_aload_n (q := 43) dX6_workSet_42 rfl rfl) ?_
  refine J.tr (s_iload (q := 45) dX6_workSet_43 rfl rfl) ?_
  refine J.tr (s_ls (ls' := [(0, .ref 19), (1, .int n), (2, .ref c), (3, .ref o), (4, .int b), (5, .int v3)]) [1, 2, 3, 4, 5, 0] rfl) ?_
  exact J.rf

set_option maxRecDepth 20000 in
theorem j_X6_workSet_c_1 {d : Nat} (hd : 0 ≤ d) (h : AH) (n : Int32) (c : Nat) (o : Nat) (b : Int32) (m : Int32) (r : Int32) (F : Nat → Value) (ho : h.1 19 = ob 6 (fo 10 F)) (e4 : F 4 = .ref 27) : J false mX6_workSet d 48 [(0, .ref 19), (1, .int n), (2, .ref c), (3, .ref o), (4, .int b), (5, .int m)] [.int r] h 61 [(0, .ref 19), (1, .int n), (2, .ref c), (3, .ref o), (4, .int b), (5, .int m), (6, .int r)] [.int m, .ref 27] (hs h 19 (ob 6 (fo 10 (va_up F 2 (.ref c))))) := by
  refine J.tr (s_istore (q := 50) (ls' := [(6, .int r), (0, .ref 19), (1, .int n), (2, .ref c), (3, .ref o), (4, .int b), (5, .int m)]) dX6_workSet_48 rfl (by decide) rfl) ?_
  refine J.tr (s_aload_n (q := 51) dX6_workSet_50 rfl rfl) ?_
  refine J.tr (s_aload_n (q := 52) dX6_workSet_51 rfl rfl) ?_
  refine J.tr (s_pf (q := 55) dX6_workSet_52 rfl fX6_20 (ho) (by decide) (fun _ => ⟨rfl, rfl⟩)) ?_
  refine J.tr (s_aload_n (q := 56) dX6_workSet_55 rfl rfl) ?_
  refine J.tr (s_gf (q := 59) (v := .ref 27) dX6_workSet_56 rfl fX6_29.l (hs_eq) (by decide) ((up_ne (by decide)).trans (e4))) ?_
  refine J.tr (s_iload (q := 61) dX6_workSet_59 rfl rfl) ?_
  refine J.tr (s_ls (ls' := [(0, .ref 19), (1, .int n), (2, .ref c), (3, .ref o), (4, .int b), (5, .int m), (6, .int r)]) [1, 2, 3, 4, 5, 6, 0] rfl) ?_
  exact J.rf

set_option maxRecDepth 20000 in
theorem j_X6_workSet_d_1 {d : Nat} (hd : 0 ≤ d) (h : AH) (n : Int32) (c : Nat) (o : Nat) (b : Int32) (m : Int32) (r : Int32) (c1 : ¬ r = 0) (c2 : ¬ r = 4) : E false mX6_workSet d 64 [(0, .ref 19), (1, .int n), (2, .ref c), (3, .ref o), (4, .int b), (5, .int m), (6, .int r)] [] h (some (.int r)) h := by
  refine E.st (s_iload (q := 66) dX6_workSet_64 rfl rfl) ?_
  refine E.st (s_if_ne_t (q := 78) dX6_workSet_66 (by decide) c1) ?_
  refine E.st (s_iload (q := 80) dX6_workSet_78 rfl rfl) ?_
  refine E.st (s_iconst (q := 81) (v := 4) dX6_workSet_80 rfl (by decide)) ?_
  refine E.st (s_icmp_ne_t (q := 92) dX6_workSet_81 (by decide) c2) ?_
  refine E.st (s_iload (q := 94) dX6_workSet_92 rfl rfl) ?_
  exact E.i dX6_workSet_94 rfl rfl rfl rfl

set_option maxRecDepth 20000 in
theorem j_X6_workSet_d_2 {d : Nat} (hd : 0 ≤ d) (h : AH) (n : Int32) (c : Nat) (o : Nat) (b : Int32) (m : Int32) (r : Int32) (c1 : ¬ r = 0) (c2 : r = 4) (F : Nat → Value) (ho : h.1 19 = ob 6 (fo 10 F)) (r9 : Nat) (e9 : F 9 = .ref r9) (p : 0 < r9) (p1 : 0 < c) (ne : r9 ≠ c) : E false mX6_workSet d 64 [(0, .ref 19), (1, .int n), (2, .ref c), (3, .ref o), (4, .int b), (5, .int m), (6, .int r)] [] h (some (.int r)) h := by
  refine E.st (s_iload (q := 66) dX6_workSet_64 rfl rfl) ?_
  refine E.st (s_if_ne_t (q := 78) dX6_workSet_66 (by decide) c1) ?_
  refine E.st (s_iload (q := 80) dX6_workSet_78 rfl rfl) ?_
  refine E.st (s_iconst (q := 81) (v := 4) dX6_workSet_80 rfl (by decide)) ?_
  refine E.st (s_icmp_ne_f (q := 84) (tg := 92) dX6_workSet_81 (by decide) rfl c2) ?_
  refine E.st (s_aload_n (q := 85) dX6_workSet_84 rfl rfl) ?_
  refine E.st (s_gf (q := 88) (v := .ref r9) dX6_workSet_85 rfl fX6_33.l (ho) (by decide) (e9)) ?_
  refine E.st (s_aload_n (q := 89) dX6_workSet_88 rfl rfl) ?_
  refine E.st (s_acmpeq_f (q := 92) (tg := 95) dX6_workSet_89 (by decide) rfl p p1 ne) ?_
  refine E.st (s_iload (q := 94) dX6_workSet_92 rfl rfl) ?_
  exact E.i dX6_workSet_94 rfl rfl rfl rfl

set_option maxRecDepth 20000 in
theorem j_X6_workSet_d_3 {d : Nat} (hd : 1 ≤ d) (h : AH) (n : Int32) (c : Nat) (o : Nat) (b : Int32) (m : Int32) (r : Int32) (c1 : r = 0) (F : Nat → Value) (ho : h.1 o = ob 5 (fo 12 F)) (e9 : F 9 = .ref (o + 4)) : J false mX6_workSet d 64 [(0, .ref 19), (1, .int n), (2, .ref c), (3, .ref o), (4, .int b), (5, .int m), (6, .int r)] [] h 74 [(0, .ref 19)] [.ref (o + 4), .ref 19] h := by
  refine J.tr (s_iload (q := 66) dX6_workSet_64 rfl rfl) ?_
  refine J.tr (s_if_ne_f (q := 69) (tg := 78) dX6_workSet_66 (by decide) rfl c1) ?_
  refine J.tr (s_aload_n (q := 70) dX6_workSet_69 rfl rfl) ?_
  refine J.tr (s_aload_n (q := 71) dX6_workSet_70 rfl rfl) ?_
  refine J.tr (p2 := 74) (l2 := [(0, .ref 19), (1, .int n), (2, .ref c), (3, .ref o), (4, .int b), (5, .int m), (6, .int r)]) (s2 := [.ref (o + 4), .ref 19]) (h2 := h) (s_invv (K := mX5_tokens) (o := o) (as := []) (rest := [.ref 19]) (v := some (.ref (o + 4))) dX6_workSet_71 rfl lX6_51 (by omega) rfl (Nat.le_of_ble_eq_true rfl) rfl (Nat.le_of_ble_eq_true rfl) (ho) (p_X5_tokens_1 (d := 0) (Nat.le_refl _) h o F ho (o + 4) e9) (fun h => nomatch h)) ?_
  refine J.tr (s_ls (ls' := [(0, .ref 19)]) [0] rfl) ?_
  exact J.rf

set_option maxRecDepth 20000 in
theorem j_X6_workSet_k_1 {d : Nat} (hd : 0 ≤ d) (h : AH) (n : Int32) (c : Nat) (o : Nat) (b : Int32) (m : Int32) (r : Int32) (c1 : ¬ r = 0) (c2 : ¬ r = 4) : E false mX6_workSet d 64 [(0, .ref 19), (1, .int n), (2, .ref c), (3, .ref o), (4, .int b), (5, .int m), (6, .int r)] [] h (some (.int r)) h := by
  refine E.st (s_iload (q := 66) dX6_workSet_64 rfl rfl) ?_
  refine E.st (s_if_ne_t (q := 78) dX6_workSet_66 (by decide) c1) ?_
  refine E.st (s_iload (q := 80) dX6_workSet_78 rfl rfl) ?_
  refine E.st (s_iconst (q := 81) (v := 4) dX6_workSet_80 rfl (by decide)) ?_
  refine E.st (s_icmp_ne_t (q := 92) dX6_workSet_81 (by decide) c2) ?_
  refine E.st (s_iload (q := 94) dX6_workSet_92 rfl rfl) ?_
  exact E.i dX6_workSet_94 rfl rfl rfl rfl

set_option maxRecDepth 20000 in
theorem j_X6_workSet_k_2 {d : Nat} (hd : 0 ≤ d) (h : AH) (n : Int32) (c : Nat) (o : Nat) (b : Int32) (m : Int32) (r : Int32) (c1 : ¬ r = 0) (c2 : r = 4) (F : Nat → Value) (ho : h.1 19 = ob 6 (fo 10 F)) (e9 : F 9 = .ref c) (v8 : Int32) (e8 : F 8 = .int v8) : J false mX6_workSet d 64 [(0, .ref 19), (1, .int n), (2, .ref c), (3, .ref o), (4, .int b), (5, .int m), (6, .int r)] [] h 101 [(0, .ref 19), (1, .int n), (2, .ref c), (3, .ref o), (4, .int b)] [.int n, .int v8, .ref 19] h := by
  refine J.tr (s_iload (q := 66) dX6_workSet_64 rfl rfl) ?_
  refine J.tr (s_if_ne_t (q := 78) dX6_workSet_66 (by decide) c1) ?_
  refine J.tr (s_iload (q := 80) dX6_workSet_78 rfl rfl) ?_
  refine J.tr (s_iconst (q := 81) (v := 4) dX6_workSet_80 rfl (by decide)) ?_
  refine J.tr (s_icmp_ne_f (q := 84) (tg := 92) dX6_workSet_81 (by decide) rfl c2) ?_
  refine J.tr (s_aload_n (q := 85) dX6_workSet_84 rfl rfl) ?_
  refine J.tr (s_gf (q := 88) (v := .ref c) dX6_workSet_85 rfl fX6_33.l (ho) (by decide) (e9)) ?_
  refine J.tr (s_aload_n (q := 89) dX6_workSet_88 rfl rfl) ?_
  refine J.tr (s_acmpeq_t (q := 95) dX6_workSet_89 (by decide)) ?_
  refine J.tr (s_aload_n (q := 96) dX6_workSet_95 rfl rfl) ?_
  refine J.tr (s_aload_n (q := 97) dX6_workSet_96 rfl rfl) ?_
  refine J.tr (s_gf (q := 100) (v := .int v8) dX6_workSet_97 rfl fX6_120.l (ho) (by decide) (e8)) ?_
  refine J.tr (s_iload_n (q := 101) dX6_workSet_100 rfl rfl) ?_
  refine J.tr (s_ls (ls' := [(0, .ref 19), (1, .int n), (2, .ref c), (3, .ref o), (4, .int b)]) [0, 1, 2, 3, 4] rfl) ?_
  exact J.rf

set_option maxRecDepth 20000 in
theorem j_X6_workSet_k_3 {d : Nat} (hd : 1 ≤ d) (h : AH) (n : Int32) (c : Nat) (o : Nat) (b : Int32) (m : Int32) (r : Int32) (c1 : r = 0) (F : Nat → Value) (ho : h.1 o = ob 5 (fo 12 F)) (e9 : F 9 = .ref (o + 4)) : J false mX6_workSet d 64 [(0, .ref 19), (1, .int n), (2, .ref c), (3, .ref o), (4, .int b), (5, .int m), (6, .int r)] [] h 74 [(0, .ref 19)] [.ref (o + 4), .ref 19] h := by
  refine J.tr (s_iload (q := 66) dX6_workSet_64 rfl rfl) ?_
  refine J.tr (s_if_ne_f (q := 69) (tg := 78) dX6_workSet_66 (by decide) rfl c1) ?_
  refine J.tr (s_aload_n (q := 70) dX6_workSet_69 rfl rfl) ?_
  refine J.tr (s_aload_n (q := 71) dX6_workSet_70 rfl rfl) ?_
  refine J.tr (p2 := 74) (l2 := [(0, .ref 19), (1, .int n), (2, .ref c), (3, .ref o), (4, .int b), (5, .int m), (6, .int r)]) (s2 := [.ref (o + 4), .ref 19]) (h2 := h) (s_invv (K := mX5_tokens) (o := o) (as := []) (rest := [.ref 19]) (v := some (.ref (o + 4))) dX6_workSet_71 rfl lX6_51 (by omega) rfl (Nat.le_of_ble_eq_true rfl) rfl (Nat.le_of_ble_eq_true rfl) (ho) (p_X5_tokens_1 (d := 0) (Nat.le_refl _) h o F ho (o + 4) e9) (fun h => nomatch h)) ?_
  refine J.tr (s_ls (ls' := [(0, .ref 19)]) [0] rfl) ?_
  exact J.rf

set_option maxRecDepth 20000 in
theorem j_X6_workSet_e_1 {d : Nat} (hd : 0 ≤ d) (h : AH) (r : Int32) (c : Nat) : E false mX6_workSet d 77 [(0, .ref 19)] [.int r] h (some (.int r)) h := by
  exact E.i dX6_workSet_77 rfl rfl rfl rfl

set_option maxRecDepth 20000 in
theorem j_X6_workSet_f_1 {d : Nat} (hd : 0 ≤ d) (h : AH) (n : Int32) (c : Nat) (o : Nat) (b : Int32) (r : Int32) (c1 : r = 0) : J false mX6_workSet d 104 [(0, .ref 19), (1, .int n), (2, .ref c), (3, .ref o), (4, .int b)] [.int r] h 19 [(0, .ref 19), (1, .int n), (2, .ref c), (3, .ref o), (4, .int (b + 1))] [] h := by
  refine J.tr (s_istore (q := 106) (ls' := [(6, .int r), (0, .ref 19), (1, .int n), (2, .ref c), (3, .ref o), (4, .int b)]) dX6_workSet_104 rfl (by decide) rfl) ?_
  refine J.tr (s_iload (q := 108) dX6_workSet_106 rfl rfl) ?_
  refine J.tr (s_if_eq_t (q := 114) dX6_workSet_108 (by decide) c1) ?_
  refine J.tr (s_iinc (q := 117) (v := (b + 1)) (ls' := [(4, .int (b + 1)), (6, .int r), (0, .ref 19), (1, .int n), (2, .ref c), (3, .ref o)]) dX6_workSet_114 rfl (by decide) rfl rfl rfl) ?_
  refine J.tr (s_goto (q := 19) dX6_workSet_117 (by decide)) ?_
  refine J.tr (s_ls (ls' := [(0, .ref 19), (1, .int n), (2, .ref c), (3, .ref o), (4, .int (b + 1))]) [2, 3, 4, 5, 0] rfl) ?_
  exact J.rf

set_option maxRecDepth 20000 in
theorem j_X6_workSet_f_2 {d : Nat} (hd : 0 ≤ d) (h : AH) (n : Int32) (c : Nat) (o : Nat) (b : Int32) (r : Int32) (c1 : ¬ (r = 0)) : E false mX6_workSet d 104 [(0, .ref 19), (1, .int n), (2, .ref c), (3, .ref o), (4, .int b)] [.int r] h (some (.int r)) h := by
  refine E.st (s_istore (q := 106) (ls' := [(6, .int r), (0, .ref 19), (1, .int n), (2, .ref c), (3, .ref o), (4, .int b)]) dX6_workSet_104 rfl (by decide) rfl) ?_
  refine E.st (s_iload (q := 108) dX6_workSet_106 rfl rfl) ?_
  refine E.st (s_if_eq_f (q := 111) (tg := 114) dX6_workSet_108 (by decide) rfl c1) ?_
  refine E.st (s_iload (q := 113) dX6_workSet_111 rfl rfl) ?_
  exact E.i dX6_workSet_113 rfl rfl rfl rfl

set_option maxRecDepth 20000 in
theorem j_X6_goWaysOfSet_a_1 {d : Nat} (hd : 2 ≤ d) (h : AH) (n : Int32) (c : Nat) (m : Int32) (F : Nat → Value) (ho : h.1 19 = ob 6 (fo 10 F)) (e0 : F 0 = .ref 2) (F1 : Nat → Value) (ho1 : h.1 2 = ob 2 (fo 6 F1)) (v5 : Int32) (e5 : F1 5 = .int v5) (c1 : ¬ (n < 0) ∧ ¬ (v5 ≤ n)) (e2 : F1 2 = .ref 5) (n1 : Nat) (f : Nat → Int32) (ha : h.1 5 = ia n1 f) (c2 : vp_in n n1) : J false mX6_goWaysOfSet d 0 [(0, .ref 19), (1, .int n), (2, .ref c), (3, .int m)] [] h 9 [(0, .ref 19), (1, .int n), (2, .ref c), (3, .int m)] [.int (f n.toNatClampNeg), .ref c] h := by
  refine J.tr (s_aload_n (q := 1) dX6_goWaysOfSet_0 rfl rfl) ?_
  refine J.tr (s_aload_n (q := 2) dX6_goWaysOfSet_1 rfl rfl) ?_
  refine J.tr (s_gf (q := 5) (v := .ref 2) dX6_goWaysOfSet_2 rfl fX6_36.l (ho) (by decide) (e0)) ?_
  refine J.tr (s_iload_n (q := 6) dX6_goWaysOfSet_5 rfl rfl) ?_
  refine J.tr (p2 := 9) (l2 := [(0, .ref 19), (1, .int n), (2, .ref c), (3, .int m)]) (s2 := [.int (f n.toNatClampNeg), .ref c]) (h2 := h) (s_invv (K := mX2_secondOf) (o := 2) (as := [.int n]) (rest := [.ref c]) (v := some (.int (f n.toNatClampNeg))) dX6_goWaysOfSet_6 rfl lX6_95 (by omega) rfl (Nat.le_of_ble_eq_true rfl) rfl (Nat.le_of_ble_eq_true rfl) (ho1) (p_X2_secondOf_n (d := 1) (Nat.le_refl _) h 2 n F1 ho1 v5 e5 c1 5 e2 n1 f ha c2 (by decide)) (fun h => nomatch h)) ?_
  exact J.rf

set_option maxRecDepth 20000 in
theorem j_X6_goWaysOfSet_b_1 {d : Nat} (hd : 0 ≤ d) (h : AH) (n : Int32) (c : Nat) (m : Int32) : J false mX6_goWaysOfSet d 12 [(0, .ref 19), (1, .int n), (2, .ref c), (3, .int m)] [] h 15 [(0, .ref 19), (1, .int n), (2, .ref c), (3, .int m), (4, .int 0)] [] h := by
  refine J.tr (s_iconst (q := 13) (v := 0) dX6_goWaysOfSet_12 rfl (by decide)) ?_
  refine J.tr (s_istore (q := 15) (ls' := [(4, .int 0), (0, .ref 19), (1, .int n), (2, .ref c), (3, .int m)]) dX6_goWaysOfSet_13 rfl (by decide) rfl) ?_
  refine J.tr (s_ls (ls' := [(0, .ref 19), (1, .int n), (2, .ref c), (3, .int m), (4, .int 0)]) [1, 2, 3, 4, 0] rfl) ?_
  exact J.rf

set_option maxRecDepth 20000 in
theorem j_X6_goWaysOfSet_c_1 {d : Nat} (hd : 0 ≤ d) (h : AH) (n : Int32) (c : Nat) (m : Int32) (g : Int32) (c1 : 2000 < g) : E false mX6_goWaysOfSet d 15 [(0, .ref 19), (1, .int n), (2, .ref c), (3, .int m), (4, .int g)] [] h (some (.int 2)) h := by
  refine E.st (s_iload (q := 17) dX6_goWaysOfSet_15 rfl rfl) ?_
  refine E.st (s_sipush (q := 20) (v := 2000) dX6_goWaysOfSet_17 rfl (by decide)) ?_
  refine E.st (s_icmp_gt_t (q := 103) dX6_goWaysOfSet_20 (by decide) c1) ?_
  refine E.st (s_iconst (q := 104) (v := 2) dX6_goWaysOfSet_103 rfl (by decide)) ?_
  exact E.i dX6_goWaysOfSet_104 rfl rfl rfl rfl

set_option maxRecDepth 20000 in
theorem j_X6_goWaysOfSet_c_2 {d : Nat} (hd : 2 ≤ d) (h : AH) (n : Int32) (c : Nat) (m : Int32) (g : Int32) (c1 : ¬ (2000 < g)) (F : Nat → Value) (ho : h.1 19 = ob 6 (fo 10 F)) (e0 : F 0 = .ref 2) (F1 : Nat → Value) (ho1 : h.1 2 = ob 2 (fo 6 F1)) (v5 : Int32) (e5 : F1 5 = .int v5) (c2 : ¬ (n < 0) ∧ ¬ (v5 ≤ n)) (e1 : F1 1 = .ref 4) (n1 : Nat) (f : Nat → Int32) (ha : h.1 4 = ia n1 f) (c3 : vp_in n n1) : J false mX6_goWaysOfSet d 15 [(0, .ref 19), (1, .int n), (2, .ref c), (3, .int m), (4, .int g)] [] h 33 [(0, .ref 19), (1, .int n), (2, .ref c), (3, .int m), (4, .int g)] [.int n, .int (f n.toNatClampNeg), .ref 19] h := by
  refine J.tr (s_iload (q := 17) dX6_goWaysOfSet_15 rfl rfl) ?_
  refine J.tr (s_sipush (q := 20) (v := 2000) dX6_goWaysOfSet_17 rfl (by decide)) ?_
  refine J.tr (s_icmp_gt_f (q := 23) (tg := 103) dX6_goWaysOfSet_20 (by decide) rfl c1) ?_
  refine J.tr (s_aload_n (q := 24) dX6_goWaysOfSet_23 rfl rfl) ?_
  refine J.tr (s_aload_n (q := 25) dX6_goWaysOfSet_24 rfl rfl) ?_
  refine J.tr (s_gf (q := 28) (v := .ref 2) dX6_goWaysOfSet_25 rfl fX6_36.l (ho) (by decide) (e0)) ?_
  refine J.tr (s_iload_n (q := 29) dX6_goWaysOfSet_28 rfl rfl) ?_
  refine J.tr (p2 := 32) (l2 := [(0, .ref 19), (1, .int n), (2, .ref c), (3, .int m), (4, .int g)]) (s2 := [.int (f n.toNatClampNeg), .ref 19]) (h2 := h) (s_invv (K := mX2_firstOf) (o := 2) (as := [.int n]) (rest := [.ref 19]) (v := some (.int (f n.toNatClampNeg))) dX6_goWaysOfSet_29 rfl lX6_89 (by omega) rfl (Nat.le_of_ble_eq_true rfl) rfl (Nat.le_of_ble_eq_true rfl) (ho1) (p_X2_firstOf_n (d := 1) (Nat.le_refl _) h 2 n F1 ho1 v5 e5 c2 4 e1 n1 f ha c3 (by decide)) (fun h => nomatch h)) ?_
  refine J.tr (s_iload_n (q := 33) dX6_goWaysOfSet_32 rfl rfl) ?_
  exact J.rf

set_option maxRecDepth 20000 in
theorem j_X6_goWaysOfSet_d_1 {d : Nat} (hd : 0 ≤ d) (h : AH) (n : Int32) (c : Nat) (m : Int32) (g : Int32) (r : Int32) (c1 : ¬ r = 0) (c2 : ¬ r = 1) : E false mX6_goWaysOfSet d 36 [(0, .ref 19), (1, .int n), (2, .ref c), (3, .int m), (4, .int g)] [.int r] h (some (.int r)) h := by
  refine E.st (s_istore (q := 38) (ls' := [(5, .int r), (0, .ref 19), (1, .int n), (2, .ref c), (3, .int m), (4, .int g)]) dX6_goWaysOfSet_36 rfl (by decide) rfl) ?_
  refine E.st (s_iload (q := 40) dX6_goWaysOfSet_38 rfl rfl) ?_
  refine E.st (s_if_ne_t (q := 64) dX6_goWaysOfSet_40 (by decide) c1) ?_
  refine E.st (s_iload (q := 66) dX6_goWaysOfSet_64 rfl rfl) ?_
  refine E.st (s_iconst (q := 67) (v := 1) dX6_goWaysOfSet_66 rfl (by decide)) ?_
  refine E.st (s_icmp_ne_t (q := 77) dX6_goWaysOfSet_67 (by decide) c2) ?_
  refine E.st (s_iload (q := 79) dX6_goWaysOfSet_77 rfl rfl) ?_
  exact E.i dX6_goWaysOfSet_79 rfl rfl rfl rfl

set_option maxRecDepth 20000 in
theorem j_X6_goWaysOfSet_d_2 {d : Nat} (hd : 0 ≤ d) (h : AH) (n : Int32) (c : Nat) (m : Int32) (g : Int32) (r : Int32) (c1 : ¬ r = 0) (c2 : r = 1) : J false mX6_goWaysOfSet d 36 [(0, .ref 19), (1, .int n), (2, .ref c), (3, .int m), (4, .int g)] [.int r] h 71 [(0, .ref 19), (1, .int n), (2, .ref c), (3, .int m), (4, .int g)] [.ref c] h := by
  refine J.tr (s_istore (q := 38) (ls' := [(5, .int r), (0, .ref 19), (1, .int n), (2, .ref c), (3, .int m), (4, .int g)]) dX6_goWaysOfSet_36 rfl (by decide) rfl) ?_
  refine J.tr (s_iload (q := 40) dX6_goWaysOfSet_38 rfl rfl) ?_
  refine J.tr (s_if_ne_t (q := 64) dX6_goWaysOfSet_40 (by decide) c1) ?_
  refine J.tr (s_iload (q := 66) dX6_goWaysOfSet_64 rfl rfl) ?_
  refine J.tr (s_iconst (q := 67) (v := 1) dX6_goWaysOfSet_66 rfl (by decide)) ?_
  refine J.tr (s_icmp_ne_f (q := 70) (tg := 77) dX6_goWaysOfSet_67 (by decide) rfl c2) ?_
  refine J.tr (s_aload_n (q := 71) dX6_goWaysOfSet_70 rfl rfl) ?_
  refine J.tr (s_ls (ls' := [(0, .ref 19), (1, .int n), (2, .ref c), (3, .int m), (4, .int g)]) [1, 2, 3, 4, 5] rfl) ?_
  exact J.rf

set_option maxRecDepth 20000 in
theorem j_X6_goWaysOfSet_d_3 {d : Nat} (hd : 1 ≤ d) (h : AH) (n : Int32) (c : Nat) (m : Int32) (g : Int32) (r : Int32) (c1 : r = 0) (F : Nat → Value) (ho : h.1 c = ob 5 (fo 12 F)) (e9 : F 9 = .ref (c + 4)) (F1 : Nat → Value) (ho1 : h.1 (c + 4) = ob 4 (fo 4 F1)) (v3 : Int32) (e3 : F1 3 = .int v3) (c2 : v3 ≤ 100) : J false mX6_goWaysOfSet d 36 [(0, .ref 19), (1, .int n), (2, .ref c), (3, .int m), (4, .int g)] [.int r] h 58 [(0, .ref 19), (1, .int n), (2, .ref c), (3, .int m), (4, .int g)] [.ref c] h := by
  refine J.tr (s_istore (q := 38) (ls' := [(5, .int r), (0, .ref 19), (1, .int n), (2, .ref c), (3, .int m), (4, .int g)]) dX6_goWaysOfSet_36 rfl (by decide) rfl) ?_
  refine J.tr (s_iload (q := 40) dX6_goWaysOfSet_38 rfl rfl) ?_
  refine J.tr (s_if_ne_f (q := 43) (tg := 64) dX6_goWaysOfSet_40 (by decide) rfl c1) ?_
  refine J.tr (s_aload_n (q := 44) dX6_goWaysOfSet_43 rfl rfl) ?_
  refine J.tr (p2 := 47) (l2 := [(5, .int r), (0, .ref 19), (1, .int n), (2, .ref c), (3, .int m), (4, .int g)]) (s2 := [.ref (c + 4)]) (h2 := h) (s_invv (K := mX5_tokens) (o := c) (as := []) (rest := []) (v := some (.ref (c + 4))) dX6_goWaysOfSet_44 rfl lX6_51 (by omega) rfl (Nat.le_of_ble_eq_true rfl) rfl (Nat.le_of_ble_eq_true rfl) (ho) (p_X5_tokens_1 (d := 0) (Nat.le_refl _) h c F ho (c + 4) e9) (fun h => nomatch h)) ?_
  refine J.tr (p2 := 50) (l2 := [(5, .int r), (0, .ref 19), (1, .int n), (2, .ref c), (3, .int m), (4, .int g)]) (s2 := [.int v3]) (h2 := h) (s_invv (K := mX4_size) (o := (c + 4)) (as := []) (rest := []) (v := some (.int v3)) dX6_goWaysOfSet_47 rfl lX6_197 (by omega) rfl (Nat.le_of_ble_eq_true rfl) rfl (Nat.le_of_ble_eq_true rfl) (ho1) (p_X4_size_1 (d := 0) (Nat.le_refl _) h (c + 4) F1 ho1 v3 e3) (fun h => nomatch h)) ?_
  refine J.tr (s_bipush (q := 52) (v := 100) dX6_goWaysOfSet_50 rfl (by decide)) ?_
  refine J.tr (s_icmp_le_t (q := 57) dX6_goWaysOfSet_52 (by decide) c2) ?_
  refine J.tr (s_aload_n (q := 58) dX6_goWaysOfSet_57 rfl rfl) ?_
  refine J.tr (s_ls (ls' := [(0, .ref 19), (1, .int n), (2, .ref c), (3, .int m), (4, .int g)]) [1, 2, 3, 4, 5] rfl) ?_
  exact J.rf

set_option maxRecDepth 20000 in
theorem j_X6_goWaysOfSet_d_4 {d : Nat} (hd : 1 ≤ d) (h : AH) (n : Int32) (c : Nat) (m : Int32) (g : Int32) (r : Int32) (c1 : r = 0) (F : Nat → Value) (ho : h.1 c = ob 5 (fo 12 F)) (e9 : F 9 = .ref (c + 4)) (F1 : Nat → Value) (ho1 : h.1 (c + 4) = ob 4 (fo 4 F1)) (v3 : Int32) (e3 : F1 3 = .int v3) (c2 : ¬ (v3 ≤ 100)) : E false mX6_goWaysOfSet d 36 [(0, .ref 19), (1, .int n), (2, .ref c), (3, .int m), (4, .int g)] [.int r] h (some (.int 2)) h := by
  refine E.st (s_istore (q := 38) (ls' := [(5, .int r), (0, .ref 19), (1, .int n), (2, .ref c), (3, .int m), (4, .int g)]) dX6_goWaysOfSet_36 rfl (by decide) rfl) ?_
  refine E.st (s_iload (q := 40) dX6_goWaysOfSet_38 rfl rfl) ?_
  refine E.st (s_if_ne_f (q := 43) (tg := 64) dX6_goWaysOfSet_40 (by decide) rfl c1) ?_
  refine E.st (s_aload_n (q := 44) dX6_goWaysOfSet_43 rfl rfl) ?_
  refine E.st (p2 := 47) (l2 := [(5, .int r), (0, .ref 19), (1, .int n), (2, .ref c), (3, .int m), (4, .int g)]) (s2 := [.ref (c + 4)]) (h2 := h) (s_invv (K := mX5_tokens) (o := c) (as := []) (rest := []) (v := some (.ref (c + 4))) dX6_goWaysOfSet_44 rfl lX6_51 (by omega) rfl (Nat.le_of_ble_eq_true rfl) rfl (Nat.le_of_ble_eq_true rfl) (ho) (p_X5_tokens_1 (d := 0) (Nat.le_refl _) h c F ho (c + 4) e9) (fun h => nomatch h)) ?_
  refine E.st (p2 := 50) (l2 := [(5, .int r), (0, .ref 19), (1, .int n), (2, .ref c), (3, .int m), (4, .int g)]) (s2 := [.int v3]) (h2 := h) (s_invv (K := mX4_size) (o := (c + 4)) (as := []) (rest := []) (v := some (.int v3)) dX6_goWaysOfSet_47 rfl lX6_197 (by omega) rfl (Nat.le_of_ble_eq_true rfl) rfl (Nat.le_of_ble_eq_true rfl) (ho1) (p_X4_size_1 (d := 0) (Nat.le_refl _) h (c + 4) F1 ho1 v3 e3) (fun h => nomatch h)) ?_
  refine E.st (s_bipush (q := 52) (v := 100) dX6_goWaysOfSet_50 rfl (by decide)) ?_
  refine E.st (s_icmp_le_f (q := 55) (tg := 57) dX6_goWaysOfSet_52 (by decide) rfl c2) ?_
  refine E.st (s_iconst (q := 56) (v := 2) dX6_goWaysOfSet_55 rfl (by decide)) ?_
  exact E.i dX6_goWaysOfSet_56 rfl rfl rfl rfl

set_option maxRecDepth 20000 in
theorem j_X6_goWaysOfSet_e_1 {d : Nat} (hd : 0 ≤ d) (h : AH) (n : Int32) (c : Nat) (m : Int32) (g : Int32) (F : Nat → Value) (ho : h.1 19 = ob 6 (fo 10 F)) (e4 : F 4 = .ref 27) : J false mX6_goWaysOfSet d 61 [(0, .ref 19), (1, .int n), (2, .ref c), (3, .int m), (4, .int g)] [] h 85 [(0, .ref 19), (1, .int n), (2, .ref c), (3, .int m), (4, .int g)] [.int m, .ref 27] h := by
  refine J.tr (s_goto (q := 80) dX6_goWaysOfSet_61 (by decide)) ?_
  refine J.tr (s_aload_n (q := 81) dX6_goWaysOfSet_80 rfl rfl) ?_
  refine J.tr (s_gf (q := 84) (v := .ref 27) dX6_goWaysOfSet_81 rfl fX6_29.l (ho) (by decide) (e4)) ?_
  refine J.tr (s_iload_n (q := 85) dX6_goWaysOfSet_84 rfl rfl) ?_
  exact J.rf

set_option maxRecDepth 20000 in
theorem j_X6_goWaysOfSet_f_1 {d : Nat} (hd : 0 ≤ d) (h : AH) (n : Int32) (c : Nat) (m : Int32) (g : Int32) (F : Nat → Value) (ho : h.1 19 = ob 6 (fo 10 F)) (e4 : F 4 = .ref 27) : J false mX6_goWaysOfSet d 74 [(0, .ref 19), (1, .int n), (2, .ref c), (3, .int m), (4, .int g)] [] h 85 [(0, .ref 19), (1, .int n), (2, .ref c), (3, .int m), (4, .int g)] [.int m, .ref 27] h := by
  refine J.tr (s_goto (q := 80) dX6_goWaysOfSet_74 (by decide)) ?_
  refine J.tr (s_aload_n (q := 81) dX6_goWaysOfSet_80 rfl rfl) ?_
  refine J.tr (s_gf (q := 84) (v := .ref 27) dX6_goWaysOfSet_81 rfl fX6_29.l (ho) (by decide) (e4)) ?_
  refine J.tr (s_iload_n (q := 85) dX6_goWaysOfSet_84 rfl rfl) ?_
  exact J.rf

set_option maxRecDepth 20000 in
theorem j_X6_goWaysOfSet_g_1 {d : Nat} (hd : 0 ≤ d) (h : AH) (n : Int32) (c : Nat) (m : Int32) (g : Int32) : J false mX6_goWaysOfSet d 88 [(0, .ref 19), (1, .int n), (2, .ref c), (3, .int m), (4, .int g)] [] h 89 [(0, .ref 19), (1, .int n), (2, .ref c), (3, .int m), (4, .int g)] [.ref c] h := by
  refine J.tr (s_aload_n (q := 89) dX6_goWaysOfSet_88 rfl rfl) ?_
  exact J.rf

set_option maxRecDepth 20000 in
theorem j_X6_goWaysOfSet_h_1 {d : Nat} (hd : 0 ≤ d) (h : AH) (n : Int32) (c : Nat) (m : Int32) (g : Int32) (r : Int32) (c1 : ¬ r = 0) : J false mX6_goWaysOfSet d 92 [(0, .ref 19), (1, .int n), (2, .ref c), (3, .int m), (4, .int g)] [.int r] h 15 [(0, .ref 19), (1, .int n), (2, .ref c), (3, .int m), (4, .int (g + 1))] [] h := by
  refine J.tr (s_if_ne_t (q := 97) dX6_goWaysOfSet_92 (by decide) c1) ?_
  refine J.tr (s_iinc (q := 100) (v := (g + 1)) (ls' := [(4, .int (g + 1)), (0, .ref 19), (1, .int n), (2, .ref c), (3, .int m)]) dX6_goWaysOfSet_97 rfl (by decide) rfl rfl rfl) ?_
  refine J.tr (s_goto (q := 15) dX6_goWaysOfSet_100 (by decide)) ?_
  refine J.tr (s_ls (ls' := [(0, .ref 19), (1, .int n), (2, .ref c), (3, .int m), (4, .int (g + 1))]) [1, 2, 3, 4, 0] rfl) ?_
  exact J.rf

set_option maxRecDepth 20000 in
theorem j_X6_goWaysOfSet_h_2 {d : Nat} (hd : 0 ≤ d) (h : AH) (n : Int32) (c : Nat) (m : Int32) (g : Int32) (r : Int32) (c1 : r = 0) : E false mX6_goWaysOfSet d 92 [(0, .ref 19), (1, .int n), (2, .ref c), (3, .int m), (4, .int g)] [.int r] h (some (.int 0)) h := by
  refine E.st (s_if_ne_f (q := 95) (tg := 97) dX6_goWaysOfSet_92 (by decide) rfl c1) ?_
  refine E.st (s_iconst (q := 96) (v := 0) dX6_goWaysOfSet_95 rfl (by decide)) ?_
  exact E.i dX6_goWaysOfSet_96 rfl rfl rfl rfl

set_option maxRecDepth 20000 in
theorem j_X6_takeList_b_1 {d : Nat} (hd : 1 ≤ d) (h : AH) (t : Nat) (c : Nat) (F : Nat → Value) (ho : h.1 19 = ob 6 (fo 10 F)) (e4 : F 4 = .ref 27) (F1 : Nat → Value) (ho1 : h.1 27 = ob 4 (fo 4 F1)) (v3 : Int32) (e3 : F1 3 = .int v3) (F2 : Nat → Value) (ho2 : h.1 t = ob 4 (fo 4 F2)) (v31 : Int32) (e31 : F2 3 = .int v31) : J false mX6_takeList d 0 [(0, .ref 19), (1, .ref t)] [] h 20 [(0, .ref 19), (1, .ref t), (2, .int v3), (3, .int v31)] [.int v31, .int 0, .ref t, .ref 27] h := by
  refine J.tr (s_aload_n (q := 1) dX6_takeList_0 rfl rfl) ?_
  refine J.tr (s_gf (q := 4) (v := .ref 27) dX6_takeList_1 rfl fX6_29.l (ho) (by decide) (e4)) ?_
  refine J.tr (p2 := 7) (l2 := [(0, .ref 19), (1, .ref t)]) (s2 := [.int v3]) (h2 := h) (s_invv (K := mX4_size) (o := 27) (as := []) (rest := []) (v := some (.int v3)) dX6_takeList_4 rfl lX6_197 (by omega) rfl (Nat.le_of_ble_eq_true rfl) rfl (Nat.le_of_ble_eq_true rfl) (ho1) (p_X4_size_1 (d := 0) (Nat.le_refl _) h 27 F1 ho1 v3 e3) (fun h => nomatch h)) ?_
  refine J.tr (s_istore_n (q := 8) (ls' := [(2, .int v3), (0, .ref 19), (1, .ref t)]) dX6_takeList_7 rfl (by decide) rfl) ?_
  refine J.tr (s_aload_n (q := 9) dX6_takeList_8 rfl rfl) ?_
  refine J.tr (p2 := 12) (l2 := [(2, .int v3), (0, .ref 19), (1, .ref t)]) (s2 := [.int v31]) (h2 := h) (s_invv (K := mX4_size) (o := t) (as := []) (rest := []) (v := some (.int v31)) dX6_takeList_9 rfl lX6_197 (by omega) rfl (Nat.le_of_ble_eq_true rfl) rfl (Nat.le_of_ble_eq_true rfl) (ho2) (p_X4_size_1 (d := 0) (Nat.le_refl _) h t F2 ho2 v31 e31) (fun h => nomatch h)) ?_
  refine J.tr (s_istore_n (q := 13) (ls' := [(3, .int v31), (2, .int v3), (0, .ref 19), (1, .ref t)]) dX6_takeList_12 rfl (by decide) rfl) ?_
  refine J.tr (s_aload_n (q := 14) dX6_takeList_13 rfl rfl) ?_
  refine J.tr (s_gf (q := 17) (v := .ref 27) dX6_takeList_14 rfl fX6_29.l (ho) (by decide) (e4)) ?_
  refine J.tr (s_aload_n (q := 18) dX6_takeList_17 rfl rfl) ?_
  refine J.tr (s_iconst (q := 19) (v := 0) dX6_takeList_18 rfl (by decide)) ?_
  refine J.tr (s_iload_n (q := 20) dX6_takeList_19 rfl rfl) ?_
  refine J.tr (s_ls (ls' := [(0, .ref 19), (1, .ref t), (2, .int v3), (3, .int v31)]) [2, 3, 1, 0] rfl) ?_
  exact J.rf

set_option maxRecDepth 20000 in
theorem j_X6_takeList_c_1 {d : Nat} (hd : 0 ≤ d) (h : AH) (t : Nat) (s : Int32) (l : Int32) (r : Int32) (c : Nat) (c1 : r = 0) : E false mX6_takeList d 23 [(0, .ref 19), (1, .ref t), (2, .int s), (3, .int l)] [.int r] h (some (.int 2)) h := by
  refine E.st (s_if_eq_t (q := 37) dX6_takeList_23 (by decide) c1) ?_
  refine E.st (s_iconst (q := 38) (v := 2) dX6_takeList_37 rfl (by decide)) ?_
  exact E.i dX6_takeList_38 rfl rfl rfl rfl

set_option maxRecDepth 20000 in
theorem j_X6_takeList_c_2 {d : Nat} (hd : 1 ≤ d) (h : AH) (t : Nat) (s : Int32) (l : Int32) (r : Int32) (c : Nat) (c1 : ¬ (r = 0)) (F : Nat → Value) (ho : h.1 19 = ob 6 (fo 10 F)) : E false mX6_takeList d 23 [(0, .ref 19), (1, .ref t), (2, .int s), (3, .int l)] [.int r] h (some (.int 0)) (hs (hs (hs h 19 (ob 6 (fo 10 (va_up F 5 (.int (2 : Int32)))))) 19 (ob 6 (fo 10 (va_up (va_up F 5 (.int (2 : Int32))) 6 (.long (s.toInt64)))))) 19 (ob 6 (fo 10 (va_up (va_up (va_up F 5 (.int (2 : Int32))) 6 (.long (s.toInt64))) 7 (.int l))))) := by
  refine E.st (s_if_eq_f (q := 26) (tg := 37) dX6_takeList_23 (by decide) rfl c1) ?_
  refine E.st (s_aload_n (q := 27) dX6_takeList_26 rfl rfl) ?_
  refine E.st (s_iconst (q := 28) (v := 2) dX6_takeList_27 rfl (by decide)) ?_
  refine E.st (s_iload_n (q := 29) dX6_takeList_28 rfl rfl) ?_
  refine E.st (s_i2l (q := 30) dX6_takeList_29 rfl) ?_
  refine E.st (s_iload_n (q := 31) dX6_takeList_30 rfl rfl) ?_
  refine E.st (p2 := 34) (l2 := [(0, .ref 19), (1, .ref t), (2, .int s), (3, .int l)]) (s2 := [.int 0]) (h2 := (hs (hs (hs h 19 (ob 6 (fo 10 (va_up F 5 (.int (2 : Int32)))))) 19 (ob 6 (fo 10 (va_up (va_up F 5 (.int (2 : Int32))) 6 (.long (s.toInt64)))))) 19 (ob 6 (fo 10 (va_up (va_up (va_up F 5 (.int (2 : Int32))) 6 (.long (s.toInt64))) 7 (.int l)))))) (s_invv (K := mX6_take) (o := 19) (as := [.int 2, .long (s.toInt64), .int l]) (rest := []) (v := some (.int 0)) dX6_takeList_31 rfl lX6_116 (by omega) rfl (Nat.le_of_ble_eq_true rfl) rfl (Nat.le_of_ble_eq_true rfl) (ho) (p_X6_take_1 (d := 0) (Nat.le_refl _) h 19 (2 : Int32) (s.toInt64) l F ho) (fun h => nomatch h)) ?_
  refine E.st (s_goto (q := 38) dX6_takeList_34 (by decide)) ?_
  exact E.i dX6_takeList_38 rfl rfl rfl rfl

set_option maxRecDepth 20000 in
theorem j_X6_goWay_a_1 {d : Nat} (hd : 0 ≤ d) (h : AH) (n : Int32) (a : Int64) (m : Int32) (c : Nat) (F : Nat → Value) (ho : h.1 19 = ob 6 (fo 10 F)) (e1 : F 1 = .ref 20) (e4 : F 4 = .ref 27) : J false mX6_goWay d 0 [(0, .ref 19), (1, .int n), (2, .long a), (4, .int m)] [] h 18 [(0, .ref 19), (1, .int n), (2, .long a), (4, .int m)] [.int 0, .ref 27] (hs (hs h 19 (ob 6 (fo 10 (va_up F 2 (.ref 20))))) 19 (ob 6 (fo 10 (va_up (va_up F 2 (.ref 20)) 3 (.int 0))))) := by
  refine J.tr (s_aload_n (q := 1) dX6_goWay_0 rfl rfl) ?_
  refine J.tr (s_aload_n (q := 2) dX6_goWay_1 rfl rfl) ?_
  refine J.tr (s_gf (q := 5) (v := .ref 20) dX6_goWay_2 rfl fX6_14.l (ho) (by decide) (e1)) ?_
  refine J.tr (s_pf (q := 8) dX6_goWay_5 rfl fX6_20 (ho) (by decide) (fun _ => ⟨rfl, rfl⟩)) ?_
  refine J.tr (s_aload_n (q := 9) dX6_goWay_8 rfl rfl) ?_
  refine J.tr (s_iconst (q := 10) (v := 0) dX6_goWay_9 rfl (by decide)) ?_
  refine J.tr (s_pf (q := 13) dX6_goWay_10 rfl fX6_43 (hs_eq) (by decide) (fun _ => ⟨rfl, rfl⟩)) ?_
  refine J.tr (s_aload_n (q := 14) dX6_goWay_13 rfl rfl) ?_
  refine J.tr (s_gf (q := 17) (v := .ref 27) dX6_goWay_14 rfl fX6_29.l (hs_eq) (by decide) ((up_ne (by decide)).trans ((up_ne (by decide)).trans (e4)))) ?_
  refine J.tr (s_iconst (q := 18) (v := 0) dX6_goWay_17 rfl (by decide)) ?_
  exact J.rf

set_option maxRecDepth 20000 in
theorem j_X6_goWay_b_1 {d : Nat} (hd : 0 ≤ d) (h : AH) (n : Int32) (a : Int64) (m : Int32) (c : Nat) (F : Nat → Value) (ho : h.1 19 = ob 6 (fo 10 F)) (e1 : F 1 = .ref 20) : J false mX6_goWay d 21 [(0, .ref 19), (1, .int n), (2, .long a), (4, .int m)] [] h 28 [(0, .ref 19), (1, .int n), (2, .long a), (4, .int m)] [.int m, .long a, .ref 20] h := by
  refine J.tr (s_aload_n (q := 22) dX6_goWay_21 rfl rfl) ?_
  refine J.tr (s_gf (q := 25) (v := .ref 20) dX6_goWay_22 rfl fX6_14.l (ho) (by decide) (e1)) ?_
  refine J.tr (s_lload_n (q := 26) dX6_goWay_25 rfl rfl) ?_
  refine J.tr (s_iload (q := 28) dX6_goWay_26 rfl rfl) ?_
  exact J.rf

set_option maxRecDepth 20000 in
theorem j_X6_goWay_c_1 {d : Nat} (hd : 0 ≤ d) (h : AH) (n : Int32) (a : Int64) (m : Int32) (c : Nat) : J false mX6_goWay d 31 [(0, .ref 19), (1, .int n), (2, .long a), (4, .int m)] [] h 36 [(0, .ref 19), (1, .int n), (2, .long a), (4, .int m)] [.int (n + 1), .int n, .ref 19] h := by
  refine J.tr (s_aload_n (q := 32) dX6_goWay_31 rfl rfl) ?_
  refine J.tr (s_iload_n (q := 33) dX6_goWay_32 rfl rfl) ?_
  refine J.tr (s_iload_n (q := 34) dX6_goWay_33 rfl rfl) ?_
  refine J.tr (s_iconst (q := 35) (v := 1) dX6_goWay_34 rfl (by decide)) ?_
  refine J.tr (s_iadd (q := 36) dX6_goWay_35 rfl) ?_
  exact J.rf

set_option maxRecDepth 20000 in
theorem j_X6_goWay_d_1 {d : Nat} (hd : 0 ≤ d) (h : AH) (n : Int32) (a : Int64) (m : Int32) (r : Int32) (c : Nat) : E false mX6_goWay d 39 [(0, .ref 19), (1, .int n), (2, .long a), (4, .int m)] [.int r] h (some (.int r)) h := by
  exact E.i dX6_goWay_39 rfl rfl rfl rfl

set_option maxRecDepth 20000 in
theorem j_X6_workFold_a_1 {d : Nat} (hd : 2 ≤ d) (h : AH) (n : Int32) (c : Nat) (F : Nat → Value) (ho : h.1 19 = ob 6 (fo 10 F)) (e0 : F 0 = .ref 2) (F1 : Nat → Value) (ho1 : h.1 2 = ob 2 (fo 6 F1)) (v5 : Int32) (e5 : F1 5 = .int v5) (c1 : ¬ (n < 0) ∧ ¬ (v5 ≤ n)) (e1 : F1 1 = .ref 4) (n1 : Nat) (f : Nat → Int32) (ha : h.1 4 = ia n1 f) (c2 : vp_in n n1) : J false mX6_workFold d 0 [(0, .ref 19), (1, .int n)] [] h 10 [(0, .ref 19), (1, .int n)] [.int n, .int (f n.toNatClampNeg), .ref 19] h := by
  refine J.tr (s_aload_n (q := 1) dX6_workFold_0 rfl rfl) ?_
  refine J.tr (s_aload_n (q := 2) dX6_workFold_1 rfl rfl) ?_
  refine J.tr (s_gf (q := 5) (v := .ref 2) dX6_workFold_2 rfl fX6_36.l (ho) (by decide) (e0)) ?_
  refine J.tr (s_iload_n (q := 6) dX6_workFold_5 rfl rfl) ?_
  refine J.tr (p2 := 9) (l2 := [(0, .ref 19), (1, .int n)]) (s2 := [.int (f n.toNatClampNeg), .ref 19]) (h2 := h) (s_invv (K := mX2_firstOf) (o := 2) (as := [.int n]) (rest := [.ref 19]) (v := some (.int (f n.toNatClampNeg))) dX6_workFold_6 rfl lX6_89 (by omega) rfl (Nat.le_of_ble_eq_true rfl) rfl (Nat.le_of_ble_eq_true rfl) (ho1) (p_X2_firstOf_n (d := 1) (Nat.le_refl _) h 2 n F1 ho1 v5 e5 c1 4 e1 n1 f ha c2 (by decide)) (fun h => nomatch h)) ?_
  refine J.tr (s_iload_n (q := 10) dX6_workFold_9 rfl rfl) ?_
  exact J.rf

set_option maxRecDepth 20000 in
theorem j_X6_workFold_b_1 {d : Nat} (hd : 2 ≤ d) (h : AH) (n : Int32) (r : Int32) (c : Nat) (c1 : r = 0) (F : Nat → Value) (ho : h.1 19 = ob 6 (fo 10 F)) (v5 : Int32) (e5 : F 5 = .int v5) (c2 : v5 = 2) (v6 : Int64) (e6 : F 6 = .long v6) (s : Int32) (en : (v6.toInt32) = s) (e0 : F 0 = .ref 2) (F1 : Nat → Value) (ho1 : h.1 2 = ob 2 (fo 6 F1)) (v51 : Int32) (e51 : F1 5 = .int v51) (c3 : ¬ (n < 0) ∧ ¬ (v51 ≤ n)) (e2 : F1 2 = .ref 5) (n1 : Nat) (f : Nat → Int32) (ha : h.1 5 = ia n1 f) (c4 : vp_in n n1) (c5 : ¬ (f n.toNatClampNeg) = 0) (v7 : Int32) (e7 : F 7 = .int v7) : J false mX6_workFold d 13 [(0, .ref 19), (1, .int n)] [.int r] h 76 [(0, .ref 19)] [.int (s + v7), .int (s + 1), .int (f n.toNatClampNeg), .ref 19] h := by
  refine J.tr (s_istore_n (q := 14) (ls' := [(2, .int r), (0, .ref 19), (1, .int n)]) dX6_workFold_13 rfl (by decide) rfl) ?_
  refine J.tr (s_iload_n (q := 15) dX6_workFold_14 rfl rfl) ?_
  refine J.tr (s_if_eq_t (q := 20) dX6_workFold_15 (by decide) c1) ?_
  refine J.tr (s_aload_n (q := 21) dX6_workFold_20 rfl rfl) ?_
  refine J.tr (s_gf (q := 24) (v := .int v5) dX6_workFold_21 rfl fX6_69.l (ho) (by decide) (e5)) ?_
  refine J.tr (s_iconst (q := 25) (v := 2) dX6_workFold_24 rfl (by decide)) ?_
  refine J.tr (s_icmp_eq_t (q := 30) dX6_workFold_25 (by decide) c2) ?_
  refine J.tr (s_aload_n (q := 31) dX6_workFold_30 rfl rfl) ?_
  refine J.tr (s_gf (q := 34) (v := .long v6) dX6_workFold_31 rfl fX6_72.l (ho) (by decide) (e6)) ?_
  refine J.tr (s_l2i (q := 35) dX6_workFold_34 rfl) ?_
  refine J.tr (s_nmi en) ?_
  refine J.tr (s_istore_n (q := 36) (ls' := [(3, .int s), (2, .int r), (0, .ref 19), (1, .int n)]) dX6_workFold_35 rfl (by decide) rfl) ?_
  refine J.tr (s_aload_n (q := 37) dX6_workFold_36 rfl rfl) ?_
  refine J.tr (s_gf (q := 40) (v := .ref 2) dX6_workFold_37 rfl fX6_36.l (ho) (by decide) (e0)) ?_
  refine J.tr (s_iload_n (q := 41) dX6_workFold_40 rfl rfl) ?_
  refine J.tr (p2 := 44) (l2 := [(3, .int s), (2, .int r), (0, .ref 19), (1, .int n)]) (s2 := [.int (f n.toNatClampNeg)]) (h2 := h) (s_invv (K := mX2_secondOf) (o := 2) (as := [.int n]) (rest := []) (v := some (.int (f n.toNatClampNeg))) dX6_workFold_41 rfl lX6_95 (by omega) rfl (Nat.le_of_ble_eq_true rfl) rfl (Nat.le_of_ble_eq_true rfl) (ho1) (p_X2_secondOf_n (d := 1) (Nat.le_refl _) h 2 n F1 ho1 v51 e51 c3 5 e2 n1 f ha c4 (by decide)) (fun h => nomatch h)) ?_
  refine J.tr (s_istore (q := 46) (ls' := [(4, .int (f n.toNatClampNeg)), (3, .int s), (2, .int r), (0, .ref 19), (1, .int n)]) dX6_workFold_44 rfl (by decide) rfl) ?_
  refine J.tr (s_iload (q := 48) dX6_workFold_46 rfl rfl) ?_
  refine J.tr (s_if_ne_t (q := 64) dX6_workFold_48 (by decide) c5) ?_
  refine J.tr (s_aload_n (q := 65) dX6_workFold_64 rfl rfl) ?_
  refine J.tr (s_iload (q := 67) dX6_workFold_65 rfl rfl) ?_
  refine J.tr (s_iload_n (q := 68) dX6_workFold_67 rfl rfl) ?_
  refine J.tr (s_iconst (q := 69) (v := 1) dX6_workFold_68 rfl (by decide)) ?_
  refine J.tr (s_iadd (q := 70) dX6_workFold_69 rfl) ?_
  refine J.tr (s_iload_n (q := 71) dX6_workFold_70 rfl rfl) ?_
  refine J.tr (s_aload_n (q := 72) dX6_workFold_71 rfl rfl) ?_
  refine J.tr (s_gf (q := 75) (v := .int v7) dX6_workFold_72 rfl fX6_80.l (ho) (by decide) (e7)) ?_
  refine J.tr (s_iadd (q := 76) dX6_workFold_75 rfl) ?_
  refine J.tr (s_ls (ls' := [(0, .ref 19)]) [3] rfl) ?_
  exact J.rf

set_option maxRecDepth 20000 in
theorem j_X6_workFold_b_2 {d : Nat} (hd : 2 ≤ d) (h : AH) (n : Int32) (r : Int32) (c : Nat) (c1 : r = 0) (F : Nat → Value) (ho : h.1 19 = ob 6 (fo 10 F)) (v5 : Int32) (e5 : F 5 = .int v5) (c2 : v5 = 2) (v6 : Int64) (e6 : F 6 = .long v6) (s : Int32) (en : (v6.toInt32) = s) (e0 : F 0 = .ref 2) (F1 : Nat → Value) (ho1 : h.1 2 = ob 2 (fo 6 F1)) (v51 : Int32) (e51 : F1 5 = .int v51) (c3 : ¬ (n < 0) ∧ ¬ (v51 ≤ n)) (e2 : F1 2 = .ref 5) (n1 : Nat) (f : Nat → Int32) (ha : h.1 5 = ia n1 f) (c4 : vp_in n n1) (c5 : (f n.toNatClampNeg) = 0) (e4 : F 4 = .ref 27) : J false mX6_workFold d 13 [(0, .ref 19), (1, .int n)] [.int r] h 57 [(0, .ref 19)] [.int s, .ref 27, .ref 19] h := by
  refine J.tr (s_istore_n (q := 14) (ls' := [(2, .int r), (0, .ref 19), (1, .int n)]) dX6_workFold_13 rfl (by decide) rfl) ?_
  refine J.tr (s_iload_n (q := 15) dX6_workFold_14 rfl rfl) ?_
  refine J.tr (s_if_eq_t (q := 20) dX6_workFold_15 (by decide) c1) ?_
  refine J.tr (s_aload_n (q := 21) dX6_workFold_20 rfl rfl) ?_
  refine J.tr (s_gf (q := 24) (v := .int v5) dX6_workFold_21 rfl fX6_69.l (ho) (by decide) (e5)) ?_
  refine J.tr (s_iconst (q := 25) (v := 2) dX6_workFold_24 rfl (by decide)) ?_
  refine J.tr (s_icmp_eq_t (q := 30) dX6_workFold_25 (by decide) c2) ?_
  refine J.tr (s_aload_n (q := 31) dX6_workFold_30 rfl rfl) ?_
  refine J.tr (s_gf (q := 34) (v := .long v6) dX6_workFold_31 rfl fX6_72.l (ho) (by decide) (e6)) ?_
  refine J.tr (s_l2i (q := 35) dX6_workFold_34 rfl) ?_
  refine J.tr (s_nmi en) ?_
  refine J.tr (s_istore_n (q := 36) (ls' := [(3, .int s), (2, .int r), (0, .ref 19), (1, .int n)]) dX6_workFold_35 rfl (by decide) rfl) ?_
  refine J.tr (s_aload_n (q := 37) dX6_workFold_36 rfl rfl) ?_
  refine J.tr (s_gf (q := 40) (v := .ref 2) dX6_workFold_37 rfl fX6_36.l (ho) (by decide) (e0)) ?_
  refine J.tr (s_iload_n (q := 41) dX6_workFold_40 rfl rfl) ?_
  refine J.tr (p2 := 44) (l2 := [(3, .int s), (2, .int r), (0, .ref 19), (1, .int n)]) (s2 := [.int (f n.toNatClampNeg)]) (h2 := h) (s_invv (K := mX2_secondOf) (o := 2) (as := [.int n]) (rest := []) (v := some (.int (f n.toNatClampNeg))) dX6_workFold_41 rfl lX6_95 (by omega) rfl (Nat.le_of_ble_eq_true rfl) rfl (Nat.le_of_ble_eq_true rfl) (ho1) (p_X2_secondOf_n (d := 1) (Nat.le_refl _) h 2 n F1 ho1 v51 e51 c3 5 e2 n1 f ha c4 (by decide)) (fun h => nomatch h)) ?_
  refine J.tr (s_istore (q := 46) (ls' := [(4, .int (f n.toNatClampNeg)), (3, .int s), (2, .int r), (0, .ref 19), (1, .int n)]) dX6_workFold_44 rfl (by decide) rfl) ?_
  refine J.tr (s_iload (q := 48) dX6_workFold_46 rfl rfl) ?_
  refine J.tr (s_if_ne_f (q := 51) (tg := 64) dX6_workFold_48 (by decide) rfl c5) ?_
  refine J.tr (s_aload_n (q := 52) dX6_workFold_51 rfl rfl) ?_
  refine J.tr (s_aload_n (q := 53) dX6_workFold_52 rfl rfl) ?_
  refine J.tr (s_gf (q := 56) (v := .ref 27) dX6_workFold_53 rfl fX6_29.l (ho) (by decide) (e4)) ?_
  refine J.tr (s_iload_n (q := 57) dX6_workFold_56 rfl rfl) ?_
  refine J.tr (s_ls (ls' := [(0, .ref 19)]) [3] rfl) ?_
  exact J.rf

set_option maxRecDepth 20000 in
theorem j_X6_workFold_b_3 {d : Nat} (hd : 0 ≤ d) (h : AH) (n : Int32) (r : Int32) (c : Nat) (c1 : r = 0) (F : Nat → Value) (ho : h.1 19 = ob 6 (fo 10 F)) (v5 : Int32) (e5 : F 5 = .int v5) (c2 : ¬ (v5 = 2)) : E false mX6_workFold d 13 [(0, .ref 19), (1, .int n)] [.int r] h (some (.int 1)) h := by
  refine E.st (s_istore_n (q := 14) (ls' := [(2, .int r), (0, .ref 19), (1, .int n)]) dX6_workFold_13 rfl (by decide) rfl) ?_
  refine E.st (s_iload_n (q := 15) dX6_workFold_14 rfl rfl) ?_
  refine E.st (s_if_eq_t (q := 20) dX6_workFold_15 (by decide) c1) ?_
  refine E.st (s_aload_n (q := 21) dX6_workFold_20 rfl rfl) ?_
  refine E.st (s_gf (q := 24) (v := .int v5) dX6_workFold_21 rfl fX6_69.l (ho) (by decide) (e5)) ?_
  refine E.st (s_iconst (q := 25) (v := 2) dX6_workFold_24 rfl (by decide)) ?_
  refine E.st (s_icmp_eq_f (q := 28) (tg := 30) dX6_workFold_25 (by decide) rfl c2) ?_
  refine E.st (s_iconst (q := 29) (v := 1) dX6_workFold_28 rfl (by decide)) ?_
  exact E.i dX6_workFold_29 rfl rfl rfl rfl

set_option maxRecDepth 20000 in
theorem j_X6_workFold_b_4 {d : Nat} (hd : 0 ≤ d) (h : AH) (n : Int32) (r : Int32) (c : Nat) (c1 : ¬ (r = 0)) : E false mX6_workFold d 13 [(0, .ref 19), (1, .int n)] [.int r] h (some (.int r)) h := by
  refine E.st (s_istore_n (q := 14) (ls' := [(2, .int r), (0, .ref 19), (1, .int n)]) dX6_workFold_13 rfl (by decide) rfl) ?_
  refine E.st (s_iload_n (q := 15) dX6_workFold_14 rfl rfl) ?_
  refine E.st (s_if_eq_f (q := 18) (tg := 20) dX6_workFold_15 (by decide) rfl c1) ?_
  refine E.st (s_iload_n (q := 19) dX6_workFold_18 rfl rfl) ?_
  exact E.i dX6_workFold_19 rfl rfl rfl rfl

set_option maxRecDepth 20000 in
theorem j_X6_workFold_c_1 {d : Nat} (hd : 2 ≤ d) (h : AH) (v : Int64) (c : Nat) (F : Nat → Value) (ho : h.1 19 = ob 6 (fo 10 F)) : E false mX6_workFold d 60 [(0, .ref 19)] [.long v, .ref 19] h (some (.int 0)) (hs (hs (hs h 19 (ob 6 (fo 10 (va_up F 5 (.int (0 : Int32)))))) 19 (ob 6 (fo 10 (va_up (va_up F 5 (.int (0 : Int32))) 6 (.long v))))) 19 (ob 6 (fo 10 (va_up (va_up (va_up F 5 (.int (0 : Int32))) 6 (.long v)) 7 (.int (1 : Int32)))))) := by
  refine E.st (p2 := 63) (l2 := [(0, .ref 19)]) (s2 := [.int 0]) (h2 := (hs (hs (hs h 19 (ob 6 (fo 10 (va_up F 5 (.int (0 : Int32)))))) 19 (ob 6 (fo 10 (va_up (va_up F 5 (.int (0 : Int32))) 6 (.long v))))) 19 (ob 6 (fo 10 (va_up (va_up (va_up F 5 (.int (0 : Int32))) 6 (.long v)) 7 (.int (1 : Int32))))))) (s_invv (K := mX6_takeNumber) (o := 19) (as := [.long v]) (rest := []) (v := some (.int 0)) dX6_workFold_60 rfl lX6_137 (by omega) rfl (Nat.le_of_ble_eq_true rfl) rfl (Nat.le_of_ble_eq_true rfl) (ho) (p_X6_takeNumber_1 (d := 1) (Nat.le_refl _) h 19 v F ho) (fun h => nomatch h)) ?_
  exact E.i dX6_workFold_63 rfl rfl rfl rfl

set_option maxRecDepth 20000 in
theorem j_X6_workFold_d_1 {d : Nat} (hd : 0 ≤ d) (h : AH) (r : Int32) (c : Nat) : E false mX6_workFold d 79 [(0, .ref 19)] [.int r] h (some (.int r)) h := by
  exact E.i dX6_workFold_79 rfl rfl rfl rfl

set_option maxRecDepth 20000 in
theorem j_X6_foldNumbers_a_1 {d : Nat} (hd : 0 ≤ d) (h : AH) (k : Int32) (a : Int32) (b : Int32) (c : Nat) : J false mX6_foldNumbers d 0 [(0, .ref 19), (1, .int k), (2, .int a), (3, .int b)] [] h 11 [(0, .ref 19), (1, .int k), (2, .int a), (3, .int b), (4, .long 0), (6, .long 9223372036854775807), (8, .int a)] [] h := by
  refine J.tr (s_lconst (q := 1) (v := 0) dX6_foldNumbers_0 rfl (by decide)) ?_
  refine J.tr (s_lstore (q := 3) (ls' := [(4, .long 0), (0, .ref 19), (1, .int k), (2, .int a), (3, .int b)]) dX6_foldNumbers_1 rfl (by decide) rfl) ?_
  refine J.tr (s_ldc2 (q := 6) dX6_foldNumbers_3 rfl kX6_183) ?_
  refine J.tr (s_lstore (q := 8) (ls' := [(6, .long 9223372036854775807), (4, .long 0), (0, .ref 19), (1, .int k), (2, .int a), (3, .int b)]) dX6_foldNumbers_6 rfl (by decide) rfl) ?_
  refine J.tr (s_iload_n (q := 9) dX6_foldNumbers_8 rfl rfl) ?_
  refine J.tr (s_istore (q := 11) (ls' := [(8, .int a), (6, .long 9223372036854775807), (4, .long 0), (0, .ref 19), (1, .int k), (2, .int a), (3, .int b)]) dX6_foldNumbers_9 rfl (by decide) rfl) ?_
  refine J.tr (s_ls (ls' := [(0, .ref 19), (1, .int k), (2, .int a), (3, .int b), (4, .long 0), (6, .long 9223372036854775807), (8, .int a)]) [3, 4, 5, 6, 2, 1, 0] rfl) ?_
  exact J.rf

set_option maxRecDepth 20000 in
theorem j_X6_foldNumbers_b_1 {d : Nat} (hd : 0 ≤ d) (h : AH) (k : Int32) (a : Int32) (b : Int32) (s : Int64) (l : Int64) (i : Int32) (c : Nat) (c1 : b ≤ i) (c2 : ¬ k = 1) (c3 : b ≤ a) : E false mX6_foldNumbers d 11 [(0, .ref 19), (1, .int k), (2, .int a), (3, .int b), (4, .long s), (6, .long l), (8, .int i)] [] h (some (.int 1)) h := by
  refine E.st (s_iload (q := 13) dX6_foldNumbers_11 rfl rfl) ?_
  refine E.st (s_iload_n (q := 14) dX6_foldNumbers_13 rfl rfl) ?_
  refine E.st (s_icmp_ge_t (q := 67) dX6_foldNumbers_14 (by decide) c1) ?_
  refine E.st (s_iload_n (q := 68) dX6_foldNumbers_67 rfl rfl) ?_
  refine E.st (s_iconst (q := 69) (v := 1) dX6_foldNumbers_68 rfl (by decide)) ?_
  refine E.st (s_icmp_ne_t (q := 79) dX6_foldNumbers_69 (by decide) c2) ?_
  refine E.st (s_iload_n (q := 80) dX6_foldNumbers_79 rfl rfl) ?_
  refine E.st (s_iload_n (q := 81) dX6_foldNumbers_80 rfl rfl) ?_
  refine E.st (s_icmp_ge_t (q := 93) dX6_foldNumbers_81 (by decide) c3) ?_
  refine E.st (s_iconst (q := 94) (v := 1) dX6_foldNumbers_93 rfl (by decide)) ?_
  exact E.i dX6_foldNumbers_94 rfl rfl rfl rfl

set_option maxRecDepth 20000 in
theorem j_X6_foldNumbers_b_2 {d : Nat} (hd : 2 ≤ d) (h : AH) (k : Int32) (a : Int32) (b : Int32) (s : Int64) (l : Int64) (i : Int32) (c : Nat) (c1 : b ≤ i) (c2 : ¬ k = 1) (c3 : ¬ (b ≤ a)) (F : Nat → Value) (ho : h.1 19 = ob 6 (fo 10 F)) : E false mX6_foldNumbers d 11 [(0, .ref 19), (1, .int k), (2, .int a), (3, .int b), (4, .long s), (6, .long l), (8, .int i)] [] h (some (.int 0)) (hs (hs (hs h 19 (ob 6 (fo 10 (va_up F 5 (.int (0 : Int32)))))) 19 (ob 6 (fo 10 (va_up (va_up F 5 (.int (0 : Int32))) 6 (.long l))))) 19 (ob 6 (fo 10 (va_up (va_up (va_up F 5 (.int (0 : Int32))) 6 (.long l)) 7 (.int (1 : Int32)))))) := by
  refine E.st (s_iload (q := 13) dX6_foldNumbers_11 rfl rfl) ?_
  refine E.st (s_iload_n (q := 14) dX6_foldNumbers_13 rfl rfl) ?_
  refine E.st (s_icmp_ge_t (q := 67) dX6_foldNumbers_14 (by decide) c1) ?_
  refine E.st (s_iload_n (q := 68) dX6_foldNumbers_67 rfl rfl) ?_
  refine E.st (s_iconst (q := 69) (v := 1) dX6_foldNumbers_68 rfl (by decide)) ?_
  refine E.st (s_icmp_ne_t (q := 79) dX6_foldNumbers_69 (by decide) c2) ?_
  refine E.st (s_iload_n (q := 80) dX6_foldNumbers_79 rfl rfl) ?_
  refine E.st (s_iload_n (q := 81) dX6_foldNumbers_80 rfl rfl) ?_
  refine E.st (s_icmp_ge_f (q := 84) (tg := 93) dX6_foldNumbers_81 (by decide) rfl c3) ?_
  refine E.st (s_aload_n (q := 85) dX6_foldNumbers_84 rfl rfl) ?_
  refine E.st (s_lload (q := 87) dX6_foldNumbers_85 rfl rfl) ?_
  refine E.st (p2 := 90) (l2 := [(0, .ref 19), (1, .int k), (2, .int a), (3, .int b), (4, .long s), (6, .long l), (8, .int i)]) (s2 := [.int 0]) (h2 := (hs (hs (hs h 19 (ob 6 (fo 10 (va_up F 5 (.int (0 : Int32)))))) 19 (ob 6 (fo 10 (va_up (va_up F 5 (.int (0 : Int32))) 6 (.long l))))) 19 (ob 6 (fo 10 (va_up (va_up (va_up F 5 (.int (0 : Int32))) 6 (.long l)) 7 (.int (1 : Int32))))))) (s_invv (K := mX6_takeNumber) (o := 19) (as := [.long l]) (rest := []) (v := some (.int 0)) dX6_foldNumbers_87 rfl lX6_137 (by omega) rfl (Nat.le_of_ble_eq_true rfl) rfl (Nat.le_of_ble_eq_true rfl) (ho) (p_X6_takeNumber_1 (d := 1) (Nat.le_refl _) h 19 l F ho) (fun h => nomatch h)) ?_
  refine E.st (s_goto (q := 94) dX6_foldNumbers_90 (by decide)) ?_
  exact E.i dX6_foldNumbers_94 rfl rfl rfl rfl

set_option maxRecDepth 20000 in
theorem j_X6_foldNumbers_b_3 {d : Nat} (hd : 2 ≤ d) (h : AH) (k : Int32) (a : Int32) (b : Int32) (s : Int64) (l : Int64) (i : Int32) (c : Nat) (c1 : b ≤ i) (c2 : k = 1) (F : Nat → Value) (ho : h.1 19 = ob 6 (fo 10 F)) : E false mX6_foldNumbers d 11 [(0, .ref 19), (1, .int k), (2, .int a), (3, .int b), (4, .long s), (6, .long l), (8, .int i)] [] h (some (.int 0)) (hs (hs (hs h 19 (ob 6 (fo 10 (va_up F 5 (.int (0 : Int32)))))) 19 (ob 6 (fo 10 (va_up (va_up F 5 (.int (0 : Int32))) 6 (.long s))))) 19 (ob 6 (fo 10 (va_up (va_up (va_up F 5 (.int (0 : Int32))) 6 (.long s)) 7 (.int (1 : Int32)))))) := by
  refine E.st (s_iload (q := 13) dX6_foldNumbers_11 rfl rfl) ?_
  refine E.st (s_iload_n (q := 14) dX6_foldNumbers_13 rfl rfl) ?_
  refine E.st (s_icmp_ge_t (q := 67) dX6_foldNumbers_14 (by decide) c1) ?_
  refine E.st (s_iload_n (q := 68) dX6_foldNumbers_67 rfl rfl) ?_
  refine E.st (s_iconst (q := 69) (v := 1) dX6_foldNumbers_68 rfl (by decide)) ?_
  refine E.st (s_icmp_ne_f (q := 72) (tg := 79) dX6_foldNumbers_69 (by decide) rfl c2) ?_
  refine E.st (s_aload_n (q := 73) dX6_foldNumbers_72 rfl rfl) ?_
  refine E.st (s_lload (q := 75) dX6_foldNumbers_73 rfl rfl) ?_
  refine E.st (p2 := 78) (l2 := [(0, .ref 19), (1, .int k), (2, .int a), (3, .int b), (4, .long s), (6, .long l), (8, .int i)]) (s2 := [.int 0]) (h2 := (hs (hs (hs h 19 (ob 6 (fo 10 (va_up F 5 (.int (0 : Int32)))))) 19 (ob 6 (fo 10 (va_up (va_up F 5 (.int (0 : Int32))) 6 (.long s))))) 19 (ob 6 (fo 10 (va_up (va_up (va_up F 5 (.int (0 : Int32))) 6 (.long s)) 7 (.int (1 : Int32))))))) (s_invv (K := mX6_takeNumber) (o := 19) (as := [.long s]) (rest := []) (v := some (.int 0)) dX6_foldNumbers_75 rfl lX6_137 (by omega) rfl (Nat.le_of_ble_eq_true rfl) rfl (Nat.le_of_ble_eq_true rfl) (ho) (p_X6_takeNumber_1 (d := 1) (Nat.le_refl _) h 19 s F ho) (fun h => nomatch h)) ?_
  exact E.i dX6_foldNumbers_78 rfl rfl rfl rfl

set_option maxRecDepth 20000 in
theorem j_X6_foldNumbers_b_8 {d : Nat} (hd : 2 ≤ d) (h : AH) (k : Int32) (a : Int32) (b : Int32) (s : Int64) (l : Int64) (i : Int32) (c : Nat) (c1 : ¬ (b ≤ i)) (F : Nat → Value) (ho : h.1 19 = ob 6 (fo 10 F)) (e4 : F 4 = .ref 27) (F1 : Nat → Value) (ho1 : h.1 27 = ob 4 (fo 4 F1)) (v3 : Int32) (e3 : F1 3 = .int v3) (c2 : ¬ (i < 0) ∧ ¬ (v3 ≤ i)) (r1 : Nat) (e1 : F1 1 = .ref r1) (n : Nat) (f : Nat → Int32) (ha : h.1 r1 = ia n f) (c3 : vp_in i n) (p : 0 < r1) (c4 : (f i.toNatClampNeg) = 0) (r2 : Nat) (e2 : F1 2 = .ref r2) (n1 : Nat) (f1 : Nat → Int64) (ha1 : h.1 r2 = la n1 f1) (c5 : vp_in i n1) : J false mX6_foldNumbers d 11 [(0, .ref 19), (1, .int k), (2, .int a), (3, .int b), (4, .long s), (6, .long l), (8, .int i)] [] h 11 [(0, .ref 19), (1, .int k), (2, .int a), (3, .int b), (4, .long (s + (f1 i.toNatClampNeg))), (6, .long (if (f1 i.toNatClampNeg) < l then (f1 i.toNatClampNeg) else l)), (8, .int (i + 1))] [] h := by
  refine J.tr (s_iload (q := 13) dX6_foldNumbers_11 rfl rfl) ?_
  refine J.tr (s_iload_n (q := 14) dX6_foldNumbers_13 rfl rfl) ?_
  refine J.tr (s_icmp_ge_f (q := 17) (tg := 67) dX6_foldNumbers_14 (by decide) rfl c1) ?_
  refine J.tr (s_aload_n (q := 18) dX6_foldNumbers_17 rfl rfl) ?_
  refine J.tr (s_gf (q := 21) (v := .ref 27) dX6_foldNumbers_18 rfl fX6_29.l (ho) (by decide) (e4)) ?_
  refine J.tr (s_iload (q := 23) dX6_foldNumbers_21 rfl rfl) ?_
  refine J.tr (p2 := 26) (l2 := [(0, .ref 19), (1, .int k), (2, .int a), (3, .int b), (4, .long s), (6, .long l), (8, .int i)]) (s2 := [.int (f i.toNatClampNeg)]) (h2 := h) (s_invv (K := mX4_kindAt) (o := 27) (as := [.int i]) (rest := []) (v := some (.int (f i.toNatClampNeg))) dX6_foldNumbers_23 rfl lX6_185 (by omega) rfl (Nat.le_of_ble_eq_true rfl) rfl (Nat.le_of_ble_eq_true rfl) (ho1) (p_X4_kindAt_2 (d := 1) (Nat.le_refl _) h 27 i F1 ho1 v3 e3 c2 r1 e1 n f ha c3 p) (fun h => nomatch h)) ?_
  refine J.tr (s_if_eq_t (q := 31) dX6_foldNumbers_26 (by decide) c4) ?_
  refine J.tr (s_lload (q := 33) dX6_foldNumbers_31 rfl rfl) ?_
  refine J.tr (s_aload_n (q := 34) dX6_foldNumbers_33 rfl rfl) ?_
  refine J.tr (s_gf (q := 37) (v := .ref 27) dX6_foldNumbers_34 rfl fX6_29.l (ho) (by decide) (e4)) ?_
  refine J.tr (s_iload (q := 39) dX6_foldNumbers_37 rfl rfl) ?_
  refine J.tr (p2 := 42) (l2 := [(0, .ref 19), (1, .int k), (2, .int a), (3, .int b), (4, .long s), (6, .long l), (8, .int i)]) (s2 := [.long (f1 i.toNatClampNeg), .long s]) (h2 := h) (s_invv (K := mX4_numberAt) (o := 27) (as := [.int i]) (rest := [.long s]) (v := some (.long (f1 i.toNatClampNeg))) dX6_foldNumbers_39 rfl lX6_174 (by omega) rfl (Nat.le_of_ble_eq_true rfl) rfl (Nat.le_of_ble_eq_true rfl) (ho1) (p_X4_numberAt_2 (d := 1) (Nat.le_refl _) h 27 i F1 ho1 v3 e3 c2 r2 e2 n1 f1 ha1 c5) (fun h => nomatch h)) ?_
  refine J.tr (s_ladd (q := 43) dX6_foldNumbers_42 rfl) ?_
  refine J.tr (s_lstore (q := 45) (ls' := [(4, .long (s + (f1 i.toNatClampNeg))), (0, .ref 19), (1, .int k), (2, .int a), (3, .int b), (6, .long l), (8, .int i)]) dX6_foldNumbers_43 rfl (by decide) rfl) ?_
  refine J.tr (s_lload (q := 47) dX6_foldNumbers_45 rfl rfl) ?_
  refine J.tr (s_aload_n (q := 48) dX6_foldNumbers_47 rfl rfl) ?_
  refine J.tr (s_gf (q := 51) (v := .ref 27) dX6_foldNumbers_48 rfl fX6_29.l (ho) (by decide) (e4)) ?_
  refine J.tr (s_iload (q := 53) dX6_foldNumbers_51 rfl rfl) ?_
  refine J.tr (p2 := 56) (l2 := [(4, .long (s + (f1 i.toNatClampNeg))), (0, .ref 19), (1, .int k), (2, .int a), (3, .int b), (6, .long l), (8, .int i)]) (s2 := [.long (f1 i.toNatClampNeg), .long l]) (h2 := h) (s_invv (K := mX4_numberAt) (o := 27) (as := [.int i]) (rest := [.long l]) (v := some (.long (f1 i.toNatClampNeg))) dX6_foldNumbers_53 rfl lX6_174 (by omega) rfl (Nat.le_of_ble_eq_true rfl) rfl (Nat.le_of_ble_eq_true rfl) (ho1) (p_X4_numberAt_2 (d := 1) (Nat.le_refl _) h 27 i F1 ho1 v3 e3 c2 r2 e2 n1 f1 ha1 c5) (fun h => nomatch h)) ?_
  refine J.tr (s_mminL (q := 59) dX6_foldNumbers_56 rfl (gm gi_wsL_law0_r26 (List.mem_of_getElem? (i := 19) rfl)) (by omega) (Nat.le_of_ble_eq_true rfl)) ?_
  refine J.tr (s_lstore (q := 61) (ls' := [(6, .long (if (f1 i.toNatClampNeg) < l then (f1 i.toNatClampNeg) else l)), (4, .long (s + (f1 i.toNatClampNeg))), (0, .ref 19), (1, .int k), (2, .int a), (3, .int b), (8, .int i)]) dX6_foldNumbers_59 rfl (by decide) rfl) ?_
  refine J.tr (s_iinc (q := 64) (v := (i + 1)) (ls' := [(8, .int (i + 1)), (6, .long (if (f1 i.toNatClampNeg) < l then (f1 i.toNatClampNeg) else l)), (4, .long (s + (f1 i.toNatClampNeg))), (0, .ref 19), (1, .int k), (2, .int a), (3, .int b)]) dX6_foldNumbers_61 rfl (by decide) rfl rfl rfl) ?_
  refine J.tr (s_goto (q := 11) dX6_foldNumbers_64 (by decide)) ?_
  refine J.tr (s_ls (ls' := [(0, .ref 19), (1, .int k), (2, .int a), (3, .int b), (4, .long (s + (f1 i.toNatClampNeg))), (6, .long (if (f1 i.toNatClampNeg) < l then (f1 i.toNatClampNeg) else l)), (8, .int (i + 1))]) [3, 4, 5, 6, 2, 1, 0] rfl) ?_
  exact J.rf

set_option maxRecDepth 20000 in
theorem j_X6_foldNumbers_b_9 {d : Nat} (hd : 2 ≤ d) (h : AH) (k : Int32) (a : Int32) (b : Int32) (s : Int64) (l : Int64) (i : Int32) (c : Nat) (c1 : ¬ (b ≤ i)) (F : Nat → Value) (ho : h.1 19 = ob 6 (fo 10 F)) (e4 : F 4 = .ref 27) (F1 : Nat → Value) (ho1 : h.1 27 = ob 4 (fo 4 F1)) (v3 : Int32) (e3 : F1 3 = .int v3) (c2 : ¬ (i < 0) ∧ ¬ (v3 ≤ i)) (r1 : Nat) (e1 : F1 1 = .ref r1) (n : Nat) (f : Nat → Int32) (ha : h.1 r1 = ia n f) (c3 : vp_in i n) (p : 0 < r1) (c4 : ¬ ((f i.toNatClampNeg) = 0)) : E false mX6_foldNumbers d 11 [(0, .ref 19), (1, .int k), (2, .int a), (3, .int b), (4, .long s), (6, .long l), (8, .int i)] [] h (some (.int 1)) h := by
  refine E.st (s_iload (q := 13) dX6_foldNumbers_11 rfl rfl) ?_
  refine E.st (s_iload_n (q := 14) dX6_foldNumbers_13 rfl rfl) ?_
  refine E.st (s_icmp_ge_f (q := 17) (tg := 67) dX6_foldNumbers_14 (by decide) rfl c1) ?_
  refine E.st (s_aload_n (q := 18) dX6_foldNumbers_17 rfl rfl) ?_
  refine E.st (s_gf (q := 21) (v := .ref 27) dX6_foldNumbers_18 rfl fX6_29.l (ho) (by decide) (e4)) ?_
  refine E.st (s_iload (q := 23) dX6_foldNumbers_21 rfl rfl) ?_
  refine E.st (p2 := 26) (l2 := [(0, .ref 19), (1, .int k), (2, .int a), (3, .int b), (4, .long s), (6, .long l), (8, .int i)]) (s2 := [.int (f i.toNatClampNeg)]) (h2 := h) (s_invv (K := mX4_kindAt) (o := 27) (as := [.int i]) (rest := []) (v := some (.int (f i.toNatClampNeg))) dX6_foldNumbers_23 rfl lX6_185 (by omega) rfl (Nat.le_of_ble_eq_true rfl) rfl (Nat.le_of_ble_eq_true rfl) (ho1) (p_X4_kindAt_2 (d := 1) (Nat.le_refl _) h 27 i F1 ho1 v3 e3 c2 r1 e1 n f ha c3 p) (fun h => nomatch h)) ?_
  refine E.st (s_if_eq_f (q := 29) (tg := 31) dX6_foldNumbers_26 (by decide) rfl c4) ?_
  refine E.st (s_iconst (q := 30) (v := 1) dX6_foldNumbers_29 rfl (by decide)) ?_
  exact E.i dX6_foldNumbers_30 rfl rfl rfl rfl

set_option maxRecDepth 20000 in
theorem j_X5_dropValue_a_1 {d : Nat} (hd : 0 ≤ d) (h : AH) (c : Nat) (F : Nat → Value) (ho : h.1 c = ob 5 (fo 12 F)) (e9 : F 9 = .ref (c + 4)) (v10 : Int32) (e10 : F 10 = .int v10) : J false mX5_dropValue d 0 [(0, .ref c)] [] h 8 [(0, .ref c)] [.int v10, .ref (c + 4)] h := by
  refine J.tr (s_aload_n (q := 1) dX5_dropValue_0 rfl rfl) ?_
  refine J.tr (s_gf (q := 4) (v := .ref (c + 4)) dX5_dropValue_1 rfl fX5_27.l (ho) (by decide) (e9)) ?_
  refine J.tr (s_aload_n (q := 5) dX5_dropValue_4 rfl rfl) ?_
  refine J.tr (s_gf (q := 8) (v := .int v10) dX5_dropValue_5 rfl fX5_72.l (ho) (by decide) (e10)) ?_
  exact J.rf

set_option maxRecDepth 20000 in
theorem j_X5_dropValue_b_1 {d : Nat} (hd : 0 ≤ d) (h : AH) (c : Nat) : E false mX5_dropValue d 11 [(0, .ref c)] [] h (none) h := by
  exact E.v dX5_dropValue_11 rfl rfl rfl

set_option maxRecDepth 20000 in
theorem j_X5_listValue_a_1 {d : Nat} (hd : 0 ≤ d) (h : AH) (c : Nat) (F : Nat → Value) (ho : h.1 c = ob 5 (fo 12 F)) (v11 : Int32) (e11 : F 11 = .int v11) (e9 : F 9 = .ref (c + 4)) : J false mX5_listValue d 0 [(0, .ref c)] [] h 20 [(0, .ref c)] [.long ((v11 + 1).toInt64), .int 0, .ref (c + 4)] (hs h c (ob 5 (fo 12 (va_up F 11 (.int (v11 + 1)))))) := by
  refine J.tr (s_aload_n (q := 1) dX5_listValue_0 rfl rfl) ?_
  refine J.tr (s_dup (q := 2) dX5_listValue_1 rfl rfl) ?_
  refine J.tr (s_gf (q := 5) (v := .int v11) dX5_listValue_2 rfl fX5_45.l (ho) (by decide) (e11)) ?_
  refine J.tr (s_iconst (q := 6) (v := 1) dX5_listValue_5 rfl (by decide)) ?_
  refine J.tr (s_iadd (q := 7) dX5_listValue_6 rfl) ?_
  refine J.tr (s_pf (q := 10) dX5_listValue_7 rfl fX5_45 (ho) (by decide) (fun _ => ⟨rfl, rfl⟩)) ?_
  refine J.tr (s_aload_n (q := 11) dX5_listValue_10 rfl rfl) ?_
  refine J.tr (s_gf (q := 14) (v := .ref (c + 4)) dX5_listValue_11 rfl fX5_27.l (hs_eq) (by decide) ((up_ne (by decide)).trans (e9))) ?_
  refine J.tr (s_iconst (q := 15) (v := 0) dX5_listValue_14 rfl (by decide)) ?_
  refine J.tr (s_aload_n (q := 16) dX5_listValue_15 rfl rfl) ?_
  refine J.tr (s_gf (q := 19) (v := .int (v11 + 1)) dX5_listValue_16 rfl fX5_45.l (hs_eq) (by decide) (up_eq)) ?_
  refine J.tr (s_i2l (q := 20) dX5_listValue_19 rfl) ?_
  exact J.rf

set_option maxRecDepth 20000 in
theorem j_X5_listValue_b_1 {d : Nat} (hd : 0 ≤ d) (h : AH) (c : Nat) : E false mX5_listValue d 23 [(0, .ref c)] [] h (none) h := by
  exact E.v dX5_listValue_23 rfl rfl rfl
