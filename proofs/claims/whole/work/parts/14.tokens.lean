set_option maxRecDepth 20000 in
theorem j_J7_fill_53178_a_1 {d : Nat} (hd : 0 ≤ d) (h : AH) (r : Nat) (v : Int32) (n : Nat) (f : Nat → Int32) (ha : h.1 r = ia n f) (p : 0 < r) : J false mJ7_fill_53178 d 0 [(0, .ref r), (1, .int v)] [] h 5 [(0, .ref r), (1, .int v), (2, .int 0), (3, .int (nI n))] [] h := by
  refine J.tr (s_iconst (q := 1) (v := 0) dJ7_fill_53178_0 rfl (by decide)) ?_
  refine J.tr (s_istore_n (q := 2) (ls' := [(2, .int 0), (0, .ref r), (1, .int v)]) dJ7_fill_53178_1 rfl (by decide) rfl) ?_
  refine J.tr (s_aload_n (q := 3) dJ7_fill_53178_2 rfl rfl) ?_
  refine J.tr (s_alenI (q := 4) dJ7_fill_53178_3 rfl p (ha) rfl) ?_
  refine J.tr (s_istore_n (q := 5) (ls' := [(3, .int (nI n)), (2, .int 0), (0, .ref r), (1, .int v)]) dJ7_fill_53178_4 rfl (by decide) rfl) ?_
  refine J.tr (s_ls (ls' := [(0, .ref r), (1, .int v), (2, .int 0), (3, .int (nI n))]) [2, 3, 1, 0] rfl) ?_
  exact J.rf

set_option maxRecDepth 20000 in
theorem j_J7_fill_53178_b_1 {d : Nat} (hd : 0 ≤ d) (h : AH) (r : Nat) (v : Int32) (i : Int32) (m : Int32) (c : m ≤ i) : E false mJ7_fill_53178 d 5 [(0, .ref r), (1, .int v), (2, .int i), (3, .int m)] [] h (none) h := by
  refine E.st (s_iload_n (q := 6) dJ7_fill_53178_5 rfl rfl) ?_
  refine E.st (s_iload_n (q := 7) dJ7_fill_53178_6 rfl rfl) ?_
  refine E.st (s_icmp_ge_t (q := 20) dJ7_fill_53178_7 (by decide) c) ?_
  exact E.v dJ7_fill_53178_20 rfl rfl rfl

set_option maxRecDepth 20000 in
theorem j_J7_fill_53178_b_2 {d : Nat} (hd : 0 ≤ d) (h : AH) (r : Nat) (v : Int32) (i : Int32) (m : Int32) (c : ¬ (m ≤ i)) (n : Nat) (f : Nat → Int32) (ha : h.1 r = ia n f) (i1 : vp_in i n) (p : 0 < r) : J false mJ7_fill_53178 d 5 [(0, .ref r), (1, .int v), (2, .int i), (3, .int m)] [] h 5 [(0, .ref r), (1, .int v), (2, .int (i + 1)), (3, .int m)] [] (hs h r (ia n (upd f i.toNatClampNeg v))) := by
  refine J.tr (s_iload_n (q := 6) dJ7_fill_53178_5 rfl rfl) ?_
  refine J.tr (s_iload_n (q := 7) dJ7_fill_53178_6 rfl rfl) ?_
  refine J.tr (s_icmp_ge_f (q := 10) (tg := 20) dJ7_fill_53178_7 (by decide) rfl c) ?_
  refine J.tr (s_aload_n (q := 11) dJ7_fill_53178_10 rfl rfl) ?_
  refine J.tr (s_iload_n (q := 12) dJ7_fill_53178_11 rfl rfl) ?_
  refine J.tr (s_iload_n (q := 13) dJ7_fill_53178_12 rfl rfl) ?_
  refine J.tr (s_iast (q := 14) dJ7_fill_53178_13 rfl p (ha) i1) ?_
  refine J.tr (s_iinc (q := 17) (v := (i + 1)) (ls' := [(2, .int (i + 1)), (0, .ref r), (1, .int v), (3, .int m)]) dJ7_fill_53178_14 rfl (by decide) rfl rfl rfl) ?_
  refine J.tr (s_goto (q := 5) dJ7_fill_53178_17 (by decide)) ?_
  refine J.tr (s_ls (ls' := [(0, .ref r), (1, .int v), (2, .int (i + 1)), (3, .int m)]) [1, 2, 0, 3] rfl) ?_
  exact J.rf

set_option maxRecDepth 20000 in
theorem j_X4_add_a_1 {d : Nat} (hd : 0 ≤ d) (h : AH) (o : Nat) (a : Int32) (v : Int64) : J false mX4_add d 0 [(0, .ref o), (1, .int a), (2, .long v)] [] h 2 [(0, .ref o), (1, .int a), (2, .long v)] [.int 1, .ref o] h := by
  refine J.tr (s_aload_n (q := 1) dX4_add_0 rfl rfl) ?_
  refine J.tr (s_iconst (q := 2) (v := 1) dX4_add_1 rfl (by decide)) ?_
  exact J.rf

set_option maxRecDepth 20000 in
theorem j_X4_add_b_1 {d : Nat} (hd : 0 ≤ d) (h : AH) (o : Nat) (a : Int32) (v : Int64) (F : Nat → Value) (ho : h.1 o = ob 4 (fo 4 F)) (r1 : Nat) (e1 : F 1 = .ref r1) (v3 : Int32) (e3 : F 3 = .int v3) (n : Nat) (f : Nat → Int32) (ha : h.1 r1 = ia n f) (i : vp_in v3 n) (p : 0 < r1) (r2 : Nat) (e2 : F 2 = .ref r2) (n1 : Nat) (f1 : Nat → Int64) (ha1 : h.1 r2 = la n1 f1) (i1 : vp_in v3 n1) : E false mX4_add d 5 [(0, .ref o), (1, .int a), (2, .long v)] [.int 1] h (some (.int 1)) (hs (hs (hs h r1 (ia n (upd f v3.toNatClampNeg a))) r2 (la n1 (vp_updL f1 v3.toNatClampNeg v))) o (ob 4 (fo 4 (va_up F 3 (.int (v3 + 1)))))) := by
  refine E.st (s_if_ne_t (q := 10) dX4_add_5 (by decide) (by decide)) ?_
  refine E.st (s_aload_n (q := 11) dX4_add_10 rfl rfl) ?_
  refine E.st (s_gf (q := 14) (v := .ref r1) dX4_add_11 rfl fX4_11.l (ho) (by decide) (e1)) ?_
  refine E.st (s_aload_n (q := 15) dX4_add_14 rfl rfl) ?_
  refine E.st (s_gf (q := 18) (v := .int v3) dX4_add_15 rfl fX4_23.l (ho) (by decide) (e3)) ?_
  refine E.st (s_iload_n (q := 19) dX4_add_18 rfl rfl) ?_
  refine E.st (s_iast (q := 20) dX4_add_19 rfl p (ha) i) ?_
  refine E.st (s_aload_n (q := 21) dX4_add_20 rfl rfl) ?_
  refine E.st (s_gf (q := 24) (v := .ref r2) dX4_add_21 rfl fX4_15.l ((hs_ne (ne_oi ho ha)).trans (ho)) (by decide) (e2)) ?_
  refine E.st (s_aload_n (q := 25) dX4_add_24 rfl rfl) ?_
  refine E.st (s_gf (q := 28) (v := .int v3) dX4_add_25 rfl fX4_23.l ((hs_ne (ne_oi ho ha)).trans (ho)) (by decide) (e3)) ?_
  refine E.st (s_lload_n (q := 29) dX4_add_28 rfl rfl) ?_
  refine E.st (s_last (q := 30) dX4_add_29 rfl ((hs_ne (Ne.symm (ne_il ha ha1))).trans (ha1)) i1) ?_
  refine E.st (s_aload_n (q := 31) dX4_add_30 rfl rfl) ?_
  refine E.st (s_dup (q := 32) dX4_add_31 rfl rfl) ?_
  refine E.st (s_gf (q := 35) (v := .int v3) dX4_add_32 rfl fX4_23.l ((hs_ne (ne_ol ho ha1)).trans ((hs_ne (ne_oi ho ha)).trans (ho))) (by decide) (e3)) ?_
  refine E.st (s_iconst (q := 36) (v := 1) dX4_add_35 rfl (by decide)) ?_
  refine E.st (s_iadd (q := 37) dX4_add_36 rfl) ?_
  refine E.st (s_pf (q := 40) dX4_add_37 rfl fX4_23 ((hs_ne (ne_ol ho ha1)).trans ((hs_ne (ne_oi ho ha)).trans (ho))) (by decide) (fun _ => ⟨rfl, rfl⟩)) ?_
  refine E.st (s_iconst (q := 41) (v := 1) dX4_add_40 rfl (by decide)) ?_
  exact E.i dX4_add_41 rfl rfl rfl rfl

set_option maxRecDepth 20000 in
theorem j_X4_addFrom_a_1 {d : Nat} (hd : 0 ≤ d) (h : AH) (o : Nat) (b : Nat) (s : Int32) (n : Int32) (c : s < 0) : E false mX4_addFrom d 0 [(0, .ref o), (1, .ref b), (2, .int s), (3, .int n)] [] h (some (.int 0)) h := by
  refine E.st (s_iload_n (q := 1) dX4_addFrom_0 rfl rfl) ?_
  refine E.st (s_if_lt_t (q := 26) dX4_addFrom_1 (by decide) c) ?_
  refine E.st (s_iconst (q := 27) (v := 0) dX4_addFrom_26 rfl (by decide)) ?_
  exact E.i dX4_addFrom_27 rfl rfl rfl rfl

set_option maxRecDepth 20000 in
theorem j_X4_addFrom_a_2 {d : Nat} (hd : 0 ≤ d) (h : AH) (o : Nat) (b : Nat) (s : Int32) (n : Int32) (c : ¬ (s < 0)) (c1 : n < 0) : E false mX4_addFrom d 0 [(0, .ref o), (1, .ref b), (2, .int s), (3, .int n)] [] h (some (.int 0)) h := by
  refine E.st (s_iload_n (q := 1) dX4_addFrom_0 rfl rfl) ?_
  refine E.st (s_if_lt_f (q := 4) (tg := 26) dX4_addFrom_1 (by decide) rfl c) ?_
  refine E.st (s_iload_n (q := 5) dX4_addFrom_4 rfl rfl) ?_
  refine E.st (s_if_lt_t (q := 26) dX4_addFrom_5 (by decide) c1) ?_
  refine E.st (s_iconst (q := 27) (v := 0) dX4_addFrom_26 rfl (by decide)) ?_
  exact E.i dX4_addFrom_27 rfl rfl rfl rfl

set_option maxRecDepth 20000 in
theorem j_X4_addFrom_a_3 {d : Nat} (hd : 0 ≤ d) (h : AH) (o : Nat) (b : Nat) (s : Int32) (n : Int32) (c : ¬ (s < 0)) (c1 : ¬ (n < 0)) (F : Nat → Value) (ho : h.1 b = ob 4 (fo 4 F)) (v3 : Int32) (e3 : F 3 = .int v3) (c2 : (v3 - s) < n) : E false mX4_addFrom d 0 [(0, .ref o), (1, .ref b), (2, .int s), (3, .int n)] [] h (some (.int 0)) h := by
  refine E.st (s_iload_n (q := 1) dX4_addFrom_0 rfl rfl) ?_
  refine E.st (s_if_lt_f (q := 4) (tg := 26) dX4_addFrom_1 (by decide) rfl c) ?_
  refine E.st (s_iload_n (q := 5) dX4_addFrom_4 rfl rfl) ?_
  refine E.st (s_if_lt_f (q := 8) (tg := 26) dX4_addFrom_5 (by decide) rfl c1) ?_
  refine E.st (s_iload_n (q := 9) dX4_addFrom_8 rfl rfl) ?_
  refine E.st (s_aload_n (q := 10) dX4_addFrom_9 rfl rfl) ?_
  refine E.st (s_gf (q := 13) (v := .int v3) dX4_addFrom_10 rfl fX4_23.l (ho) (by decide) (e3)) ?_
  refine E.st (s_iload_n (q := 14) dX4_addFrom_13 rfl rfl) ?_
  refine E.st (s_isub (q := 15) dX4_addFrom_14 rfl) ?_
  refine E.st (s_icmp_gt_t (q := 26) dX4_addFrom_15 (by decide) c2) ?_
  refine E.st (s_iconst (q := 27) (v := 0) dX4_addFrom_26 rfl (by decide)) ?_
  exact E.i dX4_addFrom_27 rfl rfl rfl rfl

set_option maxRecDepth 20000 in
theorem j_X4_addFrom_a_4 {d : Nat} (hd : 0 ≤ d) (h : AH) (o : Nat) (b : Nat) (s : Int32) (n : Int32) (c : ¬ (s < 0)) (c1 : ¬ (n < 0)) (F : Nat → Value) (ho : h.1 b = ob 4 (fo 4 F)) (v3 : Int32) (e3 : F 3 = .int v3) (c2 : ¬ ((v3 - s) < n)) : J false mX4_addFrom d 0 [(0, .ref o), (1, .ref b), (2, .int s), (3, .int n)] [] h 20 [(0, .ref o), (1, .ref b), (2, .int s), (3, .int n)] [.int n, .ref o] h := by
  refine J.tr (s_iload_n (q := 1) dX4_addFrom_0 rfl rfl) ?_
  refine J.tr (s_if_lt_f (q := 4) (tg := 26) dX4_addFrom_1 (by decide) rfl c) ?_
  refine J.tr (s_iload_n (q := 5) dX4_addFrom_4 rfl rfl) ?_
  refine J.tr (s_if_lt_f (q := 8) (tg := 26) dX4_addFrom_5 (by decide) rfl c1) ?_
  refine J.tr (s_iload_n (q := 9) dX4_addFrom_8 rfl rfl) ?_
  refine J.tr (s_aload_n (q := 10) dX4_addFrom_9 rfl rfl) ?_
  refine J.tr (s_gf (q := 13) (v := .int v3) dX4_addFrom_10 rfl fX4_23.l (ho) (by decide) (e3)) ?_
  refine J.tr (s_iload_n (q := 14) dX4_addFrom_13 rfl rfl) ?_
  refine J.tr (s_isub (q := 15) dX4_addFrom_14 rfl) ?_
  refine J.tr (s_icmp_gt_f (q := 18) (tg := 26) dX4_addFrom_15 (by decide) rfl c2) ?_
  refine J.tr (s_aload_n (q := 19) dX4_addFrom_18 rfl rfl) ?_
  refine J.tr (s_iload_n (q := 20) dX4_addFrom_19 rfl rfl) ?_
  exact J.rf

set_option maxRecDepth 20000 in
theorem j_X4_addFrom_b_1 {d : Nat} (hd : 2 ≤ d) (h : AH) (o : Nat) (b : Nat) (s : Int32) (n : Int32) (F : Nat → Value) (ho : h.1 b = ob 4 (fo 4 F)) (r1 : Nat) (e1 : F 1 = .ref r1) (F1 : Nat → Value) (ho1 : h.1 o = ob 4 (fo 4 F1)) (r11 : Nat) (e11 : F1 1 = .ref r11) (v3 : Int32) (e3 : F1 3 = .int v3) (n1 : Nat) (f : Nat → Int32) (ha : h.1 r1 = ia n1 f) (n2 : Nat) (f1 : Nat → Int32) (ha1 : h.1 r11 = ia n2 f1) (c : ¬ s < 0) (c1 : ¬ v3 < 0) (c2 : ¬ n < 0) (c3 : s.toNatClampNeg + n.toNatClampNeg ≤ n1) (c4 : v3.toNatClampNeg + n.toNatClampNeg ≤ n2) (p : 0 < r1) (p1 : 0 < r11) (r2 : Nat) (e2 : F 2 = .ref r2) (r21 : Nat) (e21 : F1 2 = .ref r21) (n3 : Nat) (f2 : Nat → Int64) (ha2 : h.1 r2 = la n3 f2) (n4 : Nat) (f3 : Nat → Int64) (ha3 : h.1 r21 = la n4 f3) (c5 : s.toNatClampNeg + n.toNatClampNeg ≤ n3) (c6 : v3.toNatClampNeg + n.toNatClampNeg ≤ n4) : E false mX4_addFrom d 23 [(0, .ref o), (1, .ref b), (2, .int s), (3, .int n)] [.int 1] h (some (.int 1)) (hs (hs (hs h r11 (ia n2 (va_cpy f f1 s.toNatClampNeg v3.toNatClampNeg n.toNatClampNeg))) r21 (la n4 (va_cpy f2 f3 s.toNatClampNeg v3.toNatClampNeg n.toNatClampNeg))) o (ob 4 (fo 4 (va_up F1 3 (.int (v3 + n)))))) := by
  refine E.st (s_if_ne_t (q := 28) dX4_addFrom_23 (by decide) (by decide)) ?_
  refine E.st (s_aload_n (q := 29) dX4_addFrom_28 rfl rfl) ?_
  refine E.st (s_gf (q := 32) (v := .ref r1) dX4_addFrom_29 rfl fX4_11.l (ho) (by decide) (e1)) ?_
  refine E.st (s_iload_n (q := 33) dX4_addFrom_32 rfl rfl) ?_
  refine E.st (s_aload_n (q := 34) dX4_addFrom_33 rfl rfl) ?_
  refine E.st (s_gf (q := 37) (v := .ref r11) dX4_addFrom_34 rfl fX4_11.l (ho1) (by decide) (e11)) ?_
  refine E.st (s_aload_n (q := 38) dX4_addFrom_37 rfl rfl) ?_
  refine E.st (s_gf (q := 41) (v := .int v3) dX4_addFrom_38 rfl fX4_23.l (ho1) (by decide) (e3)) ?_
  refine E.st (s_iload_n (q := 42) dX4_addFrom_41 rfl rfl) ?_
  refine E.st (s_copyI (q := 45) dX4_addFrom_42 rfl (gm gi_wsL_law0_r23 (List.mem_of_getElem? (i := 0) rfl)) (by omega) (Nat.le_of_ble_eq_true rfl) p p1 (ha) (ha1) c c1 c2 c3 c4) ?_
  refine E.st (s_aload_n (q := 46) dX4_addFrom_45 rfl rfl) ?_
  refine E.st (s_gf (q := 49) (v := .ref r2) dX4_addFrom_46 rfl fX4_15.l ((hs_ne (ne_oi ho ha1)).trans (ho)) (by decide) (e2)) ?_
  refine E.st (s_iload_n (q := 50) dX4_addFrom_49 rfl rfl) ?_
  refine E.st (s_aload_n (q := 51) dX4_addFrom_50 rfl rfl) ?_
  refine E.st (s_gf (q := 54) (v := .ref r21) dX4_addFrom_51 rfl fX4_15.l ((hs_ne (ne_oi ho1 ha1)).trans (ho1)) (by decide) (e21)) ?_
  refine E.st (s_aload_n (q := 55) dX4_addFrom_54 rfl rfl) ?_
  refine E.st (s_gf (q := 58) (v := .int v3) dX4_addFrom_55 rfl fX4_23.l ((hs_ne (ne_oi ho1 ha1)).trans (ho1)) (by decide) (e3)) ?_
  refine E.st (s_iload_n (q := 59) dX4_addFrom_58 rfl rfl) ?_
  refine E.st (s_copyL (q := 62) dX4_addFrom_59 rfl (gm gi_wsL_law0_r23 (List.mem_of_getElem? (i := 0) rfl)) (by omega) (Nat.le_of_ble_eq_true rfl) ((hs_ne (Ne.symm (ne_il ha1 ha2))).trans (ha2)) ((hs_ne (Ne.symm (ne_il ha1 ha3))).trans (ha3)) c c1 c2 c5 c6) ?_
  refine E.st (s_aload_n (q := 63) dX4_addFrom_62 rfl rfl) ?_
  refine E.st (s_dup (q := 64) dX4_addFrom_63 rfl rfl) ?_
  refine E.st (s_gf (q := 67) (v := .int v3) dX4_addFrom_64 rfl fX4_23.l ((hs_ne (ne_ol ho1 ha3)).trans ((hs_ne (ne_oi ho1 ha1)).trans (ho1))) (by decide) (e3)) ?_
  refine E.st (s_iload_n (q := 68) dX4_addFrom_67 rfl rfl) ?_
  refine E.st (s_iadd (q := 69) dX4_addFrom_68 rfl) ?_
  refine E.st (s_pf (q := 72) dX4_addFrom_69 rfl fX4_23 ((hs_ne (ne_ol ho1 ha3)).trans ((hs_ne (ne_oi ho1 ha1)).trans (ho1))) (by decide) (fun _ => ⟨rfl, rfl⟩)) ?_
  refine E.st (s_iconst (q := 73) (v := 1) dX4_addFrom_72 rfl (by decide)) ?_
  exact E.i dX4_addFrom_73 rfl rfl rfl rfl
/-! rows of tokens -/
abbrev Tok : Type := Int32 × Int64
theorem hs_hs {h : AH} {o : Nat} {a b : AC} : hs (hs h o a) o b = hs h o b := by
  unfold hs
  congr 1
  funext x
  simp only [va_up]
  split <;> rfl
theorem hs_id {h : AH} {o : Nat} {a : AC} (e : h.1 o = a) : hs h o a = h := by
  obtain ⟨f, r⟩ := h
  unfold hs
  congr 1
  funext x
  show va_up f o a x = f x
  unfold va_up
  split
  · rename_i q; rw [q]; exact e.symm
  · rfl
theorem nI_ite {a b : Nat} (x y : Nat) (ha : a < 2 ^ 31) (hb : b < 2 ^ 31) : (if nI a < nI b then nI x else nI y) = nI (if a < b then x else y) := by
  by_cases z : a < b
  · rw [if_pos ((nI_ltI ha hb).mpr z), if_pos z]
  · rw [if_neg (fun q => z ((nI_ltI ha hb).mp q)), if_neg z]
theorem c_fill {d : Nat} (h : AH) (r : Nat) (v : Int32) (n : Nat) (f : Nat → Int32) (ha : h.1 r = ia n f) (p : 0 < r) (hn : n < 2 ^ 31) : CM mJ7_fill_53178 d [.ref r, .int v] h none (hs h r (ia n (fun j => if j < n then v else f j))) := by
  have key : ∀ t i, i + t = n → E false mJ7_fill_53178 d 5 [(0, .ref r), (1, .int v), (2, .int (nI i)), (3, .int (nI n))] [] (hs h r (ia n (fun j => if j < i then v else f j))) none (hs h r (ia n (fun j => if j < n then v else f j))) := by
    intro t
    induction t with
    | zero =>
      intro i hi
      have : i = n := by omega
      subst this
      exact j_J7_fill_53178_b_1 (Nat.zero_le _) _ r v _ _ ((nI_leI hn hn).mpr (Nat.le_refl _))
    | succ t ih =>
      intro i hi
      have hlt : i < n := by omega
      have st := j_J7_fill_53178_b_2 (d := d) (Nat.zero_le _) (hs h r (ia n (fun j => if j < i then v else f j))) r v (nI i) (nI n) (fun q => by have := (nI_leI hn (by omega)).mp q; omega) n _ hs_eq (vp_in_nI hlt hn) p
      rw [hs_hs, nI_clamp (by omega), nI_1] at st
      have e : (upd (fun j => if j < i then v else f j) i v) = (fun j => if j < i + 1 then v else f j) := by
        funext j
        unfold upd
        by_cases q : j = i
        · simp [q]
        · have : (j < i + 1) = (j < i) := by apply propext; omega
          simp [q, this]
      rw [e] at st
      exact E.st st (ih (i + 1) (by omega))
  have s0 := j_J7_fill_53178_a_1 (d := d) (Nat.zero_le _) h r v n f ha p
  have k0 := key n 0 (Nat.zero_add n)
  have e0 : hs h r (ia n (fun j => if j < 0 then v else f j)) = h := hs_id (by rw [ha]; simp)
  rw [e0] at k0
  exact E.st s0 k0
def TK (h : AH) (o ra rb lim cap : Nat) (ts : List Tok) : Prop :=
  ∃ (F : Nat → Value) (f : Nat → Int32) (g : Nat → Int64), h.1 o = ob 4 (fo 4 F) ∧ F 0 = .int (nI lim) ∧ F 1 = .ref ra ∧ F 2 = .ref rb ∧ F 3 = .int (nI ts.length) ∧ h.1 ra = ia cap f ∧ h.1 rb = la cap g ∧ (∀ i, i < ts.length → f i = (ts.getD i (0, 0)).1 ∧ g i = (ts.getD i (0, 0)).2) ∧ ts.length ≤ cap ∧ cap ≤ lim ∧ lim ≤ 40000 ∧ 0 < cap ∧ 0 < ra ∧ o ≤ h.2.1 ∧ ra ≤ h.2.1 ∧ rb ≤ h.2.1
/-- what growth may still cost -/
def ph (lim cap : Nat) : Nat := if cap < lim then 8 * lim - 4 * cap else 0
/-- a step at the row of tokens o: all else is as it was; what it cost -/
def TFr (h h' : AH) (o ra rb ra' rb' lim cap cap' : Nat) : Prop :=
  h.2.1 ≤ h'.2.1 ∧ h.2.2.1 ≤ h'.2.2.1 ∧ h.2.2.2 ≤ h'.2.2.2 ∧ (∀ x, x ≤ h.2.1 → x ≠ o → x ≠ ra → x ≠ rb → h'.1 x = h.1 x) ∧ ((ra' = ra ∧ rb' = rb) ∨ (h.2.1 < ra' ∧ h.2.1 < rb' ∧ ra' ≤ h'.2.1 ∧ rb' ≤ h'.2.1)) ∧ h'.2.2.1 + 2 * (lim - cap') ≤ h.2.2.1 + 2 * (lim - cap) ∧ h'.2.2.2 + ph lim cap' ≤ h.2.2.2 + ph lim cap
theorem TFr.same {h h' : AH} {o ra rb lim cap : Nat} (e : h'.2 = h.2) (hx : ∀ x, x ≠ o → x ≠ ra → x ≠ rb → h'.1 x = h.1 x) : TFr h h' o ra rb ra rb lim cap cap := by
  refine ⟨by rw [e]; exact Nat.le_refl _, by rw [e]; exact Nat.le_refl _, by rw [e]; exact Nat.le_refl _, fun x _ => hx x, Or.inl ⟨rfl, rfl⟩, by rw [e]; exact Nat.le_refl _, by rw [e]; exact Nat.le_refl _⟩
theorem TK_size {h : AH} {o ra rb lim cap : Nat} {ts : List Tok} (t : TK h o ra rb lim cap ts) {d : Nat} : CM mX4_size d [.ref o] h (some (.int (nI ts.length))) h := by
  obtain ⟨F, f, g, h1, h2, h3, h4, h5, -⟩ := t
  exact p_X4_size_1 (Nat.zero_le _) h o F h1 _ h5
theorem TK_kindAt {h : AH} {o ra rb lim cap : Nat} {ts : List Tok} (t : TK h o ra rb lim cap ts) {d : Nat} (hd : 1 ≤ d) {i : Nat} (hi : i < ts.length) : CM mX4_kindAt d [.ref o, .int (nI i)] h (some (.int (ts.getD i (0, 0)).1)) h := by
  obtain ⟨F, f, g, h1, h2, h3, h4, h5, h6, h7, h8, h9, h10, h11, h12, h13, -⟩ := t
  have := p_X4_kindAt_2 hd h o (nI i) F h1 _ h5 ⟨nI_pos (by omega), fun q => by have := (nI_leI (by omega) (by omega)).mp q; omega⟩ ra h3 cap f h6 (vp_in_nI (by omega) (by omega)) h13
  rw [nI_clamp (by omega), (h8 i hi).1] at this
  exact this
theorem TK_numberAt {h : AH} {o ra rb lim cap : Nat} {ts : List Tok} (t : TK h o ra rb lim cap ts) {d : Nat} (hd : 1 ≤ d) {i : Nat} (hi : i < ts.length) : CM mX4_numberAt d [.ref o, .int (nI i)] h (some (.long (ts.getD i (0, 0)).2)) h := by
  obtain ⟨F, f, g, h1, h2, h3, h4, h5, h6, h7, h8, h9, h10, h11, h12, h13, -⟩ := t
  have := p_X4_numberAt_2 hd h o (nI i) F h1 _ h5 ⟨nI_pos (by omega), fun q => by have := (nI_leI (by omega) (by omega)).mp q; omega⟩ rb h4 cap g h7 (vp_in_nI (by omega) (by omega))
  rw [nI_clamp (by omega), (h8 i hi).2] at this
  exact this
theorem getD_take {α : Type} {l : List α} {n i : Nat} {x : α} (h : i < n) : (l.take n).getD i x = l.getD i x := by
  simp [List.getD_eq_getElem?_getD, List.getElem?_take, h]
theorem TK_cutTo {h : AH} {o ra rb lim cap : Nat} {ts : List Tok} (t : TK h o ra rb lim cap ts) {d : Nat} {n : Nat} (hn : n < 2 ^ 31) : ∃ h', CM mX4_cutTo d [.ref o, .int (nI n)] h none h' ∧ TK h' o ra rb lim cap (ts.take n) ∧ TFr h h' o ra rb ra rb lim cap cap ∧ h'.2 = h.2 ∧ ∀ x, x ≠ o → h'.1 x = h.1 x := by
  obtain ⟨F, f, g, h1, h2, h3, h4, h5, h6, h7, h8, h9, h10, h11, h12, h13, h14, h15, h16⟩ := id t
  by_cases q : ts.length ≤ n
  · refine ⟨h, p_X4_cutTo_2 (Nat.zero_le _) h o (nI n) (nI_pos hn) F h1 _ h5 ((nI_leI (by omega) hn).mpr q), ?_, TFr.same rfl (fun _ _ _ _ => rfl), rfl, fun _ _ => rfl⟩
    rw [List.take_of_length_le q]
    exact t
  · refine ⟨_, p_X4_cutTo_3 (Nat.zero_le _) h o (nI n) (nI_pos hn) F h1 _ h5 (fun z => q ((nI_leI (by omega) hn).mp z)), ?_, TFr.same rfl (fun x hx _ _ => hs_ne hx), rfl, fun x hx => hs_ne hx⟩
    have hl : (ts.take n).length = n := by rw [List.length_take]; omega
    refine ⟨va_up F 3 (.int (nI n)), f, g, hs_eq, (up_ne (by decide)).trans h2, (up_ne (by decide)).trans h3, (up_ne (by decide)).trans h4, by rw [hl]; exact up_eq, (hs_ne (Ne.symm (ne_oi h1 h6))).trans h6, (hs_ne (Ne.symm (ne_ol h1 h7))).trans h7, fun i hi => ?_, by omega, h10, h11, h12, h13, h14, h15, h16⟩
    rw [hl] at hi
    rw [getD_take hi]
    exact h8 i (by omega)
theorem ph_grow {lim cap G : Nat} (h1 : cap < G) (h2 : G ≤ lim) (h3 : 2 * cap ≤ G ∨ G = lim) : G + G + ph lim G ≤ ph lim cap := by
  have e : ph lim cap = 8 * lim - 4 * cap := if_pos (by omega)
  rw [e]
  unfold ph
  split <;> omega
theorem cpy_lo {α : Type} {f g : Nat → α} {n j : Nat} (h : j < n) : va_cpy f g 0 0 n j = f j := by
  rw [pk_cpy_in (Nat.zero_le _) (by omega)]
  congr 1
  omega
theorem TK_makeRoom {h : AH} {o ra rb lim cap : Nat} {ts : List Tok} (t : TK h o ra rb lim cap ts) {d : Nat} (hd : 3 ≤ d) {m : Nat} (hm : ts.length + m ≤ lim) : ∃ h' ra' rb' cap', CM mX4_makeRoom d [.ref o, .int (nI m)] h (some (.int 1)) h' ∧ TK h' o ra' rb' lim cap' ts ∧ ts.length + m ≤ cap' ∧ TFr h h' o ra rb ra' rb' lim cap cap' := by
  obtain ⟨F, f, g, h1, h2, h3, h4, h5, h6, h7, h8, h9, h10, h11, h12, h13, h14, h15, h16⟩ := id t
  have c0 : nI m ≤ nI lim - nI ts.length := by rw [pk_sub (by omega)]; exact (nI_leI (by omega) (by omega)).mpr (by omega)
  by_cases q : ts.length + m ≤ cap
  · exact ⟨h, ra, rb, cap, p_X4_makeRoom_1 (Nat.zero_le _) h o (nI m) F h1 _ h2 _ h5 c0 ra h3 cap f h6 h13 (by rw [nI_add]; exact (nI_leI (by omega) (by omega)).mpr q), t, q, TFr.same rfl (fun _ _ _ _ => rfl)⟩
  · obtain ⟨G, hG⟩ : ∃ G : Nat, G = if ts.length + m < (if 2 * cap < lim then 2 * cap else lim) then (if 2 * cap < lim then 2 * cap else lim) else ts.length + m := ⟨_, rfl⟩
    have g1 : cap < G := by rw [hG]; split <;> split <;> omega
    have g2 : G ≤ lim := by rw [hG]; split <;> split <;> omega
    have g3 : 2 * cap ≤ G ∨ G = lim := by rw [hG]; split <;> split <;> omega
    have g4 : ts.length + m ≤ G := by rw [hG]; split <;> split <;> omega
    have e2 : (2 : Int32) * nI cap = nI (2 * cap) := by rw [show (2 : Int32) = nI 2 from rfl, pk_mul]
    have en : (if (nI ts.length + nI m) < (if (2 * (nI cap)) < nI lim then (2 * (nI cap)) else nI lim) then (if (2 * (nI cap)) < nI lim then (2 * (nI cap)) else nI lim) else (nI ts.length + nI m)) = nI G := by
      rw [e2, nI_add, nI_ite _ _ (by omega) (by omega), nI_ite _ _ (by omega) (by split <;> omega), ← hG]
    have ew : (if nI G < nI cap then nI G else nI cap) = nI cap := by rw [nI_ite _ _ (by omega) (by omega), if_neg (by omega)]
    have gc : (nI G).toNatClampNeg = G := nI_clamp (by omega)
    have cc : (nI cap).toNatClampNeg = cap := nI_clamp (by omega)
    have z0 : (0 : Int32).toNatClampNeg = 0 := rfl
    have key := p_X4_makeRoom_2 hd h o (nI m) F h1 _ h2 _ h5 c0 ra h3 cap f h6 h13 (by rw [nI_add]; exact fun z => q ((nI_leI (by omega) (by omega)).mp z)) (nI G) en (fun z => by have := (nI_eq (by omega) (by omega)).mp z; omega) (nI_pos (by omega)) (by rw [gc]; omega) h15 (nI cap) ew (nI_pos (by omega)) (by rw [z0, cc]; omega) (by rw [z0, cc, gc]; omega) h14 rb h4 cap g h7 h16 (fun z => by have := (nI_eq (by omega) (by omega)).mp z; omega) (nI cap) ew (nI_pos (by omega)) (by rw [z0, cc]; omega) (by rw [z0, cc, gc]; omega)
    rw [gc, cc, z0] at key
    refine ⟨_, h.2.1 + 1, h.2.1 + 2, G, key, ?_, g4, ?_⟩
    · refine ⟨_, _, _, hs_eq, (up_ne (by decide)).trans ((up_ne (by decide)).trans h2), (up_ne (by decide)).trans up_eq, up_eq, (up_ne (by decide)).trans ((up_ne (by decide)).trans h5), (hs_ne (by omega)).trans ((hs_ne (by omega)).trans ((hw_ne (by show h.2.1 + 1 ≤ h.2.1 + 1; omega)).trans ((hs_ne (by omega)).trans hs_eq))), (hs_ne (by omega)).trans hs_eq, fun i hi => ?_, by omega, g2, h11, by omega, by omega, ?_, ?_, ?_⟩
      · rw [cpy_lo (by omega), cpy_lo (by omega)]
        exact h8 i hi
      · show o ≤ h.2.1 + 1 + 1; omega
      · show h.2.1 + 1 ≤ h.2.1 + 1 + 1; omega
      · show h.2.1 + 2 ≤ h.2.1 + 1 + 1; omega
    · refine ⟨by show h.2.1 ≤ h.2.1 + 1 + 1; omega, by show h.2.2.1 ≤ h.2.2.1 + 1 + 1; omega, by show h.2.2.2 ≤ h.2.2.2 + G + G; omega, fun x hx n1 n2 n3 => ?_, Or.inr ⟨by omega, by omega, by show h.2.1 + 1 ≤ h.2.1 + 1 + 1; omega, by show h.2.1 + 2 ≤ h.2.1 + 1 + 1; omega⟩, by show h.2.2.1 + 1 + 1 + _ ≤ _; omega, by show h.2.2.2 + G + G + _ ≤ _; have := ph_grow g1 g2 g3; omega⟩
      exact (hs_ne n1).trans ((hs_ne (by omega)).trans ((hw_ne (by show x ≤ h.2.1 + 1; omega)).trans ((hs_ne n1).trans ((hs_ne (by omega)).trans (hw_ne hx)))))
theorem getD_app_lo {α : Type} {l m : List α} {i : Nat} {x : α} (h : i < l.length) : (l ++ m).getD i x = l.getD i x := by
  simp [List.getD_eq_getElem?_getD, List.getElem?_append_left h]
theorem getD_app_hi {α : Type} {l m : List α} {i : Nat} {x : α} (h : l.length ≤ i) : (l ++ m).getD i x = m.getD (i - l.length) x := by
  simp [List.getD_eq_getElem?_getD, List.getElem?_append_right h]
theorem TFr.then {h h1 h2 : AH} {o ra rb ra' rb' lim cap cap' : Nat} (a : TFr h h1 o ra rb ra' rb' lim cap cap') (e : h2.2 = h1.2) (hx : ∀ x, x ≠ o → x ≠ ra' → x ≠ rb' → h2.1 x = h1.1 x) : TFr h h2 o ra rb ra' rb' lim cap cap' := by
  obtain ⟨a1, a2, a3, a4, a5, a6, a7⟩ := a
  refine ⟨by rw [e]; exact a1, by rw [e]; exact a2, by rw [e]; exact a3, fun x l n1 n2 n3 => ?_, by rw [e]; exact a5, by rw [e]; exact a6, by rw [e]; exact a7⟩
  rw [hx x n1 ?_ ?_]
  · exact a4 x l n1 n2 n3
  · rcases a5 with ⟨q, -⟩ | ⟨q, -⟩
    · rw [q]; exact n2
    · omega
  · rcases a5 with ⟨-, q⟩ | ⟨-, q, -⟩
    · rw [q]; exact n3
    · omega
theorem TK_add {h : AH} {o ra rb lim cap : Nat} {ts : List Tok} (t : TK h o ra rb lim cap ts) {d : Nat} (hd : 4 ≤ d) (k : Int32) (v : Int64) (hm : ts.length < lim) : ∃ h' ra' rb' cap', CM mX4_add d [.ref o, .int k, .long v] h (some (.int 1)) h' ∧ TK h' o ra' rb' lim cap' (ts ++ [(k, v)]) ∧ TFr h h' o ra rb ra' rb' lim cap cap' := by
  obtain ⟨h1, ra1, rb1, cap1, c1, t1, q1, f1⟩ := TK_makeRoom t (d := 3) (Nat.le_refl _) (m := 1) (by omega)
  obtain ⟨F0, _, _, ho0, -⟩ := t
  obtain ⟨F, f, g, x1, x2, x3, x4, x5, x6, x7, x8, x9, x10, x11, x12, x13, x14, x15, x16⟩ := id t1
  have b := j_X4_add_b_1 (d := d) (Nat.zero_le _) h1 o k v F x1 ra1 x3 _ x5 cap1 f x6 (vp_in_nI (by omega) (by omega)) x13 rb1 x4 cap1 g x7 (vp_in_nI (by omega) (by omega))
  rw [nI_clamp (by omega), nI_1] at b
  refine ⟨_, ra1, rb1, cap1, E.st (j_X4_add_a_1 (Nat.zero_le _) h o k v) (E.st (s_invv dX4_add_2 rfl lX4_30 (by omega) rfl (Nat.le_of_ble_eq_true rfl) rfl (Nat.le_of_ble_eq_true rfl) ho0 c1 (fun h => nomatch h)) b), ?_, f1.then rfl (fun x n1 n2 n3 => (hs_ne n1).trans ((hs_ne n3).trans (hs_ne n2)))⟩
  have no1 := ne_oi x1 x6
  have no2 := ne_ol x1 x7
  have n12 := ne_il x6 x7
  refine ⟨_, _, _, hs_eq, (up_ne (by decide)).trans x2, (up_ne (by decide)).trans x3, (up_ne (by decide)).trans x4, by rw [List.length_append]; exact up_eq, (hs_ne (Ne.symm no1)).trans ((hs_ne n12).trans hs_eq), (hs_ne (Ne.symm no2)).trans hs_eq, fun i hi => ?_, by rw [List.length_append]; exact q1, x10, x11, x12, x13, x14, x15, x16⟩
  rw [List.length_append] at hi
  have hi : i < ts.length + 1 := hi
  by_cases e : i = ts.length
  · subst e
    rw [getD_app_hi (Nat.le_refl _), Nat.sub_self]
    exact ⟨pk_us, pk_uLs⟩
  · rw [getD_app_lo (by omega), pk_un e, pk_uLn e]
    exact x8 i (by omega)
theorem TK.fr {h h' : AH} {o ra rb lim cap : Nat} {ts : List Tok} (t : TK h o ra rb lim cap ts) (hn : h.2.1 ≤ h'.2.1) (e1 : h'.1 o = h.1 o) (e2 : h'.1 ra = h.1 ra) (e3 : h'.1 rb = h.1 rb) : TK h' o ra rb lim cap ts := by
  obtain ⟨F, f, g, x1, x2, x3, x4, x5, x6, x7, x8, x9, x10, x11, x12, x13, x14, x15, x16⟩ := t
  exact ⟨F, f, g, e1.trans x1, x2, x3, x4, x5, e2.trans x6, e3.trans x7, x8, x9, x10, x11, x12, x13, Nat.le_trans x14 hn, Nat.le_trans x15 hn, Nat.le_trans x16 hn⟩
theorem TK_addFrom {h : AH} {o ra rb lim cap o2 sa sb lim2 cap2 : Nat} {ts us : List Tok} (t : TK h o ra rb lim cap ts) (u : TK h o2 sa sb lim2 cap2 us) (no : o2 ≠ o) (na : sa ≠ ra) (nb : sb ≠ rb) {d : Nat} (hd : 4 ≤ d) {s l : Nat} (hs : s + l ≤ us.length) (hm : ts.length + l ≤ lim) : ∃ h' ra' rb' cap', CM mX4_addFrom d [.ref o, .ref o2, .int (nI s), .int (nI l)] h (some (.int 1)) h' ∧ TK h' o ra' rb' lim cap' (ts ++ (us.drop s).take l) ∧ TFr h h' o ra rb ra' rb' lim cap cap' := by
  obtain ⟨h1, ra1, rb1, cap1, c1, t1, q1, f1⟩ := TK_makeRoom t (d := 3) (Nat.le_refl _) (m := l) (by omega)
  obtain ⟨F0, fz, gz, ho0, -, -, -, -, za, zb, -⟩ := t
  obtain ⟨G0, y, w, y1, y2, y3, y4, y5, y6, y7, y8, y9, y10, y11, y12, y13, y14, y15, y16⟩ := id u
  have u1 : TK h1 o2 sa sb lim2 cap2 us := u.fr f1.1 (f1.2.2.2.1 o2 y14 no (ne_oi y1 za) (ne_ol y1 zb)) (f1.2.2.2.1 sa y15 (Ne.symm (ne_oi ho0 y6)) na (ne_il y6 zb)) (f1.2.2.2.1 sb y16 (Ne.symm (ne_ol ho0 y7)) (Ne.symm (ne_il za y7)) nb)
  obtain ⟨F, f, g, x1, x2, x3, x4, x5, x6, x7, x8, x9, x10, x11, x12, x13, x14, x15, x16⟩ := id t1
  obtain ⟨G, y, w, z1, z2, z3, z4, z5, z6, z7, z8, z9, z10, z11, z12, z13, z14, z15, z16⟩ := id u1
  have cs : (nI s).toNatClampNeg = s := nI_clamp (by omega)
  have cl : (nI l).toNatClampNeg = l := nI_clamp (by omega)
  have ct : (nI ts.length).toNatClampNeg = ts.length := nI_clamp (by omega)
  have b := j_X4_addFrom_b_1 (d := d) (by omega) h1 o o2 (nI s) (nI l) G z1 sa z3 F x1 ra1 x3 _ x5 cap2 y z6 cap1 f x6 (nI_pos (by omega)) (nI_pos (by omega)) (nI_pos (by omega)) (by rw [cs, cl]; omega) (by rw [ct, cl]; omega) z13 x13 sb z4 rb1 x4 cap2 w z7 cap1 g x7 (by rw [cs, cl]; omega) (by rw [ct, cl]; omega)
  rw [cs, cl, ct, nI_add] at b
  have a := j_X4_addFrom_a_4 (d := d) (Nat.zero_le _) h o o2 (nI s) (nI l) (nI_pos (by omega)) (nI_pos (by omega)) G0 y1 _ y5 (by rw [pk_sub (by omega)]; exact nI_nlt (by omega) (by omega))
  refine ⟨_, ra1, rb1, cap1, E.st a (E.st (s_invv dX4_addFrom_20 rfl lX4_30 (by omega) rfl (Nat.le_of_ble_eq_true rfl) rfl (Nat.le_of_ble_eq_true rfl) ho0 c1 (fun h => nomatch h)) b), ?_, f1.then rfl (fun x n1 n2 n3 => (hs_ne n1).trans ((hs_ne n3).trans (hs_ne n2)))⟩
  have no1 := ne_oi x1 x6
  have no2 := ne_ol x1 x7
  have n12 := ne_il x6 x7
  have lt : ((us.drop s).take l).length = l := by rw [List.length_take, List.length_drop]; omega
  refine ⟨_, _, _, hs_eq, (up_ne (by decide)).trans x2, (up_ne (by decide)).trans x3, (up_ne (by decide)).trans x4, by rw [List.length_append, lt]; exact up_eq, (hs_ne (Ne.symm no1)).trans ((hs_ne n12).trans hs_eq), (hs_ne (Ne.symm no2)).trans hs_eq, fun i hi => ?_, by rw [List.length_append, lt]; exact q1, x10, x11, x12, x13, x14, x15, x16⟩
  rw [List.length_append, lt] at hi
  by_cases e : i < ts.length
  · rw [getD_app_lo e, pk_cpy_out (Or.inl e), pk_cpy_out (Or.inl e)]
    exact x8 i e
  · rw [getD_app_hi (by omega), getD_take (by omega), pk_cpy_in (by omega) (by omega), pk_cpy_in (by omega) (by omega)]
    have : (us.drop s).getD (i - ts.length) (0, 0) = us.getD (s + (i - ts.length)) (0, 0) := by
      simp [List.getD_eq_getElem?_getD, List.getElem?_drop]
    rw [this]
    exact z8 _ (by omega)
theorem TK_put0 {h : AH} {o ra rb lim cap : Nat} {a : Int32} {b : Int64} {ts : List Tok} (t : TK h o ra rb lim cap ((a, b) :: ts)) {d : Nat} (hd : 1 ≤ d) (v : Int64) : ∃ h', CM mX4_putNumber d [.ref o, .int 0, .long v] h none h' ∧ TK h' o ra rb lim cap ((a, v) :: ts) ∧ TFr h h' o ra rb ra rb lim cap cap ∧ h'.2 = h.2 ∧ ∀ x, x ≠ rb → h'.1 x = h.1 x := by
  obtain ⟨F, f, g, h1, h2, h3, h4, h5, h6, h7, h8, h9, h10, h11, h12, h13, h14, h15, h16⟩ := id t
  have hl : ((a, b) :: ts).length = ts.length + 1 := rfl
  rw [hl] at h5 h8 h9
  have key := p_X4_putNumber_2 hd h o 0 v F h1 _ h5 ⟨by decide, fun q => by have := (nI_leI (a := ts.length + 1) (b := 0) (by omega) (by omega)).mp q; omega⟩ rb h4 cap g h7 (vp_in_nI (n := 0) h12 (by omega))
  refine ⟨_, key, ⟨F, f, _, (hs_ne (ne_ol h1 h7)).trans h1, h2, h3, h4, h5, (hs_ne (ne_il h6 h7)).trans h6, hs_eq, fun i hi => ?_, h9, h10, h11, h12, h13, h14, h15, h16⟩, TFr.same rfl (fun x _ _ n3 => hs_ne n3), rfl, fun x hx => hs_ne hx⟩
  have z0 : (0 : Int32).toNatClampNeg = 0 := rfl
  rw [z0]
  cases i with
  | zero => exact ⟨(h8 0 (by omega)).1, pk_uLs⟩
  | succ i =>
    rw [pk_uLn (by omega)]
    exact h8 (i + 1) hi
