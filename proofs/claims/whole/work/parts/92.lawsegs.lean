abbrev mL_law : MD := (yL_law, (cL_law, (8, ((some .boolean), []))))

theorem kL_58 : Cond.constantLong RL 58 4294967295 ∈ gw := gm gi_wsL_law0_r1 (List.mem_of_getElem? (i := 7) rfl)

set_option maxRecDepth 20000 in
theorem j_L_law_h_1 {d : Nat} (hd : 0 ≤ d) (h : AH) (i : Int32) (n : Nat) (f : Nat → Int32) (ha : h.1 0 = ia n f) (c : ((nI n) - 4) < i) : E true mL_law d 23 [(0, .ref 0), (1, .ref 1), (2, .ref 65), (3, .ref 94), (4, .int i)] [] h (some (.int 1)) h := by
  refine E.st (s_iload (q := 25) dL_law_23 rfl rfl) ?_
  refine E.st (s_aload_n (q := 26) dL_law_25 rfl rfl) ?_
  refine E.st (s_slen (q := 27) dL_law_26 rfl (ha) rfl) ?_
  refine E.st (s_iconst (q := 28) (v := 4) dL_law_27 rfl (by decide)) ?_
  refine E.st (s_isub (q := 29) dL_law_28 rfl) ?_
  refine E.st (s_icmp_gt_t (q := 1010) dL_law_29 (by decide) c) ?_
  refine E.st (s_iconst (q := 1011) (v := 1) dL_law_1010 rfl (by decide)) ?_
  exact E.i dL_law_1011 rfl rfl rfl rfl

set_option maxRecDepth 20000 in
theorem j_L_law_h_2 {d : Nat} (hd : 0 ≤ d) (h : AH) (i : Int32) (n : Nat) (f : Nat → Int32) (ha : h.1 0 = ia n f) (c : ¬ (((nI n) - 4) < i)) (i1 : vp_in i n) (q : Int32) (en : ((f i.toNatClampNeg) &&& 15) = q) (c1 : q = 0) : J true mL_law d 23 [(0, .ref 0), (1, .ref 1), (2, .ref 65), (3, .ref 94), (4, .int i)] [] h 116 [(0, .ref 0), (1, .ref 1), (2, .ref 65), (3, .ref 94), (4, .int i)] [] h := by
  refine J.tr (s_iload (q := 25) dL_law_23 rfl rfl) ?_
  refine J.tr (s_aload_n (q := 26) dL_law_25 rfl rfl) ?_
  refine J.tr (s_slen (q := 27) dL_law_26 rfl (ha) rfl) ?_
  refine J.tr (s_iconst (q := 28) (v := 4) dL_law_27 rfl (by decide)) ?_
  refine J.tr (s_isub (q := 29) dL_law_28 rfl) ?_
  refine J.tr (s_icmp_gt_f (q := 32) (tg := 1010) dL_law_29 (by decide) rfl c) ?_
  refine J.tr (s_aload_n (q := 33) dL_law_32 rfl rfl) ?_
  refine J.tr (s_iload (q := 35) dL_law_33 rfl rfl) ?_
  refine J.tr (s_sld (q := 36) dL_law_35 rfl (ha) i1) ?_
  refine J.tr (s_bipush (q := 38) (v := 15) dL_law_36 rfl (by decide)) ?_
  refine J.tr (s_iand (q := 39) dL_law_38 rfl) ?_
  refine J.tr (s_nmi en) ?_
  refine J.tr (s_tabIn (q := 116) (off := 77) dL_law_39 (by rw [c1]; decide) (by rw [c1]; decide) (by rw [c1]; rfl) (by decide)) ?_
  refine J.tr (s_ls (ls' := [(0, .ref 0), (1, .ref 1), (2, .ref 65), (3, .ref 94), (4, .int i)]) [0, 1, 2, 3, 4] rfl) ?_
  exact J.rf

set_option maxRecDepth 20000 in
theorem j_L_law_h_3 {d : Nat} (hd : 0 ≤ d) (h : AH) (i : Int32) (n : Nat) (f : Nat → Int32) (ha : h.1 0 = ia n f) (c : ¬ (((nI n) - 4) < i)) (i1 : vp_in i n) (q : Int32) (en : ((f i.toNatClampNeg) &&& 15) = q) (c1 : q = 1) : J true mL_law d 23 [(0, .ref 0), (1, .ref 1), (2, .ref 65), (3, .ref 94), (4, .int i)] [] h 173 [(0, .ref 0), (1, .ref 1), (2, .ref 65), (3, .ref 94), (4, .int i)] [] h := by
  refine J.tr (s_iload (q := 25) dL_law_23 rfl rfl) ?_
  refine J.tr (s_aload_n (q := 26) dL_law_25 rfl rfl) ?_
  refine J.tr (s_slen (q := 27) dL_law_26 rfl (ha) rfl) ?_
  refine J.tr (s_iconst (q := 28) (v := 4) dL_law_27 rfl (by decide)) ?_
  refine J.tr (s_isub (q := 29) dL_law_28 rfl) ?_
  refine J.tr (s_icmp_gt_f (q := 32) (tg := 1010) dL_law_29 (by decide) rfl c) ?_
  refine J.tr (s_aload_n (q := 33) dL_law_32 rfl rfl) ?_
  refine J.tr (s_iload (q := 35) dL_law_33 rfl rfl) ?_
  refine J.tr (s_sld (q := 36) dL_law_35 rfl (ha) i1) ?_
  refine J.tr (s_bipush (q := 38) (v := 15) dL_law_36 rfl (by decide)) ?_
  refine J.tr (s_iand (q := 39) dL_law_38 rfl) ?_
  refine J.tr (s_nmi en) ?_
  refine J.tr (s_tabIn (q := 173) (off := 134) dL_law_39 (by rw [c1]; decide) (by rw [c1]; decide) (by rw [c1]; rfl) (by decide)) ?_
  refine J.tr (s_ls (ls' := [(0, .ref 0), (1, .ref 1), (2, .ref 65), (3, .ref 94), (4, .int i)]) [0, 1, 2, 3, 4] rfl) ?_
  exact J.rf

set_option maxRecDepth 20000 in
theorem j_L_law_h_4 {d : Nat} (hd : 0 ≤ d) (h : AH) (i : Int32) (n : Nat) (f : Nat → Int32) (ha : h.1 0 = ia n f) (c : ¬ (((nI n) - 4) < i)) (i1 : vp_in i n) (q : Int32) (en : ((f i.toNatClampNeg) &&& 15) = q) (c1 : q = 2) : J true mL_law d 23 [(0, .ref 0), (1, .ref 1), (2, .ref 65), (3, .ref 94), (4, .int i)] [] h 241 [(0, .ref 0), (1, .ref 1), (2, .ref 65), (3, .ref 94), (4, .int i)] [] h := by
  refine J.tr (s_iload (q := 25) dL_law_23 rfl rfl) ?_
  refine J.tr (s_aload_n (q := 26) dL_law_25 rfl rfl) ?_
  refine J.tr (s_slen (q := 27) dL_law_26 rfl (ha) rfl) ?_
  refine J.tr (s_iconst (q := 28) (v := 4) dL_law_27 rfl (by decide)) ?_
  refine J.tr (s_isub (q := 29) dL_law_28 rfl) ?_
  refine J.tr (s_icmp_gt_f (q := 32) (tg := 1010) dL_law_29 (by decide) rfl c) ?_
  refine J.tr (s_aload_n (q := 33) dL_law_32 rfl rfl) ?_
  refine J.tr (s_iload (q := 35) dL_law_33 rfl rfl) ?_
  refine J.tr (s_sld (q := 36) dL_law_35 rfl (ha) i1) ?_
  refine J.tr (s_bipush (q := 38) (v := 15) dL_law_36 rfl (by decide)) ?_
  refine J.tr (s_iand (q := 39) dL_law_38 rfl) ?_
  refine J.tr (s_nmi en) ?_
  refine J.tr (s_tabIn (q := 241) (off := 202) dL_law_39 (by rw [c1]; decide) (by rw [c1]; decide) (by rw [c1]; rfl) (by decide)) ?_
  refine J.tr (s_ls (ls' := [(0, .ref 0), (1, .ref 1), (2, .ref 65), (3, .ref 94), (4, .int i)]) [0, 1, 2, 3, 4] rfl) ?_
  exact J.rf

set_option maxRecDepth 20000 in
theorem j_L_law_h_5 {d : Nat} (hd : 0 ≤ d) (h : AH) (i : Int32) (n : Nat) (f : Nat → Int32) (ha : h.1 0 = ia n f) (c : ¬ (((nI n) - 4) < i)) (i1 : vp_in i n) (q : Int32) (en : ((f i.toNatClampNeg) &&& 15) = q) (c1 : q = 3) : J true mL_law d 23 [(0, .ref 0), (1, .ref 1), (2, .ref 65), (3, .ref 94), (4, .int i)] [] h 254 [(0, .ref 0), (1, .ref 1), (2, .ref 65), (3, .ref 94), (4, .int i)] [] h := by
  refine J.tr (s_iload (q := 25) dL_law_23 rfl rfl) ?_
  refine J.tr (s_aload_n (q := 26) dL_law_25 rfl rfl) ?_
  refine J.tr (s_slen (q := 27) dL_law_26 rfl (ha) rfl) ?_
  refine J.tr (s_iconst (q := 28) (v := 4) dL_law_27 rfl (by decide)) ?_
  refine J.tr (s_isub (q := 29) dL_law_28 rfl) ?_
  refine J.tr (s_icmp_gt_f (q := 32) (tg := 1010) dL_law_29 (by decide) rfl c) ?_
  refine J.tr (s_aload_n (q := 33) dL_law_32 rfl rfl) ?_
  refine J.tr (s_iload (q := 35) dL_law_33 rfl rfl) ?_
  refine J.tr (s_sld (q := 36) dL_law_35 rfl (ha) i1) ?_
  refine J.tr (s_bipush (q := 38) (v := 15) dL_law_36 rfl (by decide)) ?_
  refine J.tr (s_iand (q := 39) dL_law_38 rfl) ?_
  refine J.tr (s_nmi en) ?_
  refine J.tr (s_tabIn (q := 254) (off := 215) dL_law_39 (by rw [c1]; decide) (by rw [c1]; decide) (by rw [c1]; rfl) (by decide)) ?_
  refine J.tr (s_ls (ls' := [(0, .ref 0), (1, .ref 1), (2, .ref 65), (3, .ref 94), (4, .int i)]) [0, 1, 2, 3, 4] rfl) ?_
  exact J.rf

set_option maxRecDepth 20000 in
theorem j_L_law_h_6 {d : Nat} (hd : 0 ≤ d) (h : AH) (i : Int32) (n : Nat) (f : Nat → Int32) (ha : h.1 0 = ia n f) (c : ¬ (((nI n) - 4) < i)) (i1 : vp_in i n) (q : Int32) (en : ((f i.toNatClampNeg) &&& 15) = q) (c1 : q = 4) : J true mL_law d 23 [(0, .ref 0), (1, .ref 1), (2, .ref 65), (3, .ref 94), (4, .int i)] [] h 322 [(0, .ref 0), (1, .ref 1), (2, .ref 65), (3, .ref 94), (4, .int i)] [] h := by
  refine J.tr (s_iload (q := 25) dL_law_23 rfl rfl) ?_
  refine J.tr (s_aload_n (q := 26) dL_law_25 rfl rfl) ?_
  refine J.tr (s_slen (q := 27) dL_law_26 rfl (ha) rfl) ?_
  refine J.tr (s_iconst (q := 28) (v := 4) dL_law_27 rfl (by decide)) ?_
  refine J.tr (s_isub (q := 29) dL_law_28 rfl) ?_
  refine J.tr (s_icmp_gt_f (q := 32) (tg := 1010) dL_law_29 (by decide) rfl c) ?_
  refine J.tr (s_aload_n (q := 33) dL_law_32 rfl rfl) ?_
  refine J.tr (s_iload (q := 35) dL_law_33 rfl rfl) ?_
  refine J.tr (s_sld (q := 36) dL_law_35 rfl (ha) i1) ?_
  refine J.tr (s_bipush (q := 38) (v := 15) dL_law_36 rfl (by decide)) ?_
  refine J.tr (s_iand (q := 39) dL_law_38 rfl) ?_
  refine J.tr (s_nmi en) ?_
  refine J.tr (s_tabIn (q := 322) (off := 283) dL_law_39 (by rw [c1]; decide) (by rw [c1]; decide) (by rw [c1]; rfl) (by decide)) ?_
  refine J.tr (s_ls (ls' := [(0, .ref 0), (1, .ref 1), (2, .ref 65), (3, .ref 94), (4, .int i)]) [0, 1, 2, 3, 4] rfl) ?_
  exact J.rf

set_option maxRecDepth 20000 in
theorem j_L_law_h_7 {d : Nat} (hd : 0 ≤ d) (h : AH) (i : Int32) (n : Nat) (f : Nat → Int32) (ha : h.1 0 = ia n f) (c : ¬ (((nI n) - 4) < i)) (i1 : vp_in i n) (q : Int32) (en : ((f i.toNatClampNeg) &&& 15) = q) (c1 : q = 5) : J true mL_law d 23 [(0, .ref 0), (1, .ref 1), (2, .ref 65), (3, .ref 94), (4, .int i)] [] h 406 [(0, .ref 0), (1, .ref 1), (2, .ref 65), (3, .ref 94), (4, .int i)] [] h := by
  refine J.tr (s_iload (q := 25) dL_law_23 rfl rfl) ?_
  refine J.tr (s_aload_n (q := 26) dL_law_25 rfl rfl) ?_
  refine J.tr (s_slen (q := 27) dL_law_26 rfl (ha) rfl) ?_
  refine J.tr (s_iconst (q := 28) (v := 4) dL_law_27 rfl (by decide)) ?_
  refine J.tr (s_isub (q := 29) dL_law_28 rfl) ?_
  refine J.tr (s_icmp_gt_f (q := 32) (tg := 1010) dL_law_29 (by decide) rfl c) ?_
  refine J.tr (s_aload_n (q := 33) dL_law_32 rfl rfl) ?_
  refine J.tr (s_iload (q := 35) dL_law_33 rfl rfl) ?_
  refine J.tr (s_sld (q := 36) dL_law_35 rfl (ha) i1) ?_
  refine J.tr (s_bipush (q := 38) (v := 15) dL_law_36 rfl (by decide)) ?_
  refine J.tr (s_iand (q := 39) dL_law_38 rfl) ?_
  refine J.tr (s_nmi en) ?_
  refine J.tr (s_tabIn (q := 406) (off := 367) dL_law_39 (by rw [c1]; decide) (by rw [c1]; decide) (by rw [c1]; rfl) (by decide)) ?_
  refine J.tr (s_ls (ls' := [(0, .ref 0), (1, .ref 1), (2, .ref 65), (3, .ref 94), (4, .int i)]) [0, 1, 2, 3, 4] rfl) ?_
  exact J.rf

set_option maxRecDepth 20000 in
theorem j_L_law_h_8 {d : Nat} (hd : 0 ≤ d) (h : AH) (i : Int32) (n : Nat) (f : Nat → Int32) (ha : h.1 0 = ia n f) (c : ¬ (((nI n) - 4) < i)) (i1 : vp_in i n) (q : Int32) (en : ((f i.toNatClampNeg) &&& 15) = q) (c1 : q = 6) : J true mL_law d 23 [(0, .ref 0), (1, .ref 1), (2, .ref 65), (3, .ref 94), (4, .int i)] [] h 486 [(0, .ref 0), (1, .ref 1), (2, .ref 65), (3, .ref 94), (4, .int i)] [] h := by
  refine J.tr (s_iload (q := 25) dL_law_23 rfl rfl) ?_
  refine J.tr (s_aload_n (q := 26) dL_law_25 rfl rfl) ?_
  refine J.tr (s_slen (q := 27) dL_law_26 rfl (ha) rfl) ?_
  refine J.tr (s_iconst (q := 28) (v := 4) dL_law_27 rfl (by decide)) ?_
  refine J.tr (s_isub (q := 29) dL_law_28 rfl) ?_
  refine J.tr (s_icmp_gt_f (q := 32) (tg := 1010) dL_law_29 (by decide) rfl c) ?_
  refine J.tr (s_aload_n (q := 33) dL_law_32 rfl rfl) ?_
  refine J.tr (s_iload (q := 35) dL_law_33 rfl rfl) ?_
  refine J.tr (s_sld (q := 36) dL_law_35 rfl (ha) i1) ?_
  refine J.tr (s_bipush (q := 38) (v := 15) dL_law_36 rfl (by decide)) ?_
  refine J.tr (s_iand (q := 39) dL_law_38 rfl) ?_
  refine J.tr (s_nmi en) ?_
  refine J.tr (s_tabIn (q := 486) (off := 447) dL_law_39 (by rw [c1]; decide) (by rw [c1]; decide) (by rw [c1]; rfl) (by decide)) ?_
  refine J.tr (s_ls (ls' := [(0, .ref 0), (1, .ref 1), (2, .ref 65), (3, .ref 94), (4, .int i)]) [0, 1, 2, 3, 4] rfl) ?_
  exact J.rf

set_option maxRecDepth 20000 in
theorem j_L_law_h_9 {d : Nat} (hd : 0 ≤ d) (h : AH) (i : Int32) (n : Nat) (f : Nat → Int32) (ha : h.1 0 = ia n f) (c : ¬ (((nI n) - 4) < i)) (i1 : vp_in i n) (q : Int32) (en : ((f i.toNatClampNeg) &&& 15) = q) (c1 : q = 7) : J true mL_law d 23 [(0, .ref 0), (1, .ref 1), (2, .ref 65), (3, .ref 94), (4, .int i)] [] h 566 [(0, .ref 0), (1, .ref 1), (2, .ref 65), (3, .ref 94), (4, .int i)] [] h := by
  refine J.tr (s_iload (q := 25) dL_law_23 rfl rfl) ?_
  refine J.tr (s_aload_n (q := 26) dL_law_25 rfl rfl) ?_
  refine J.tr (s_slen (q := 27) dL_law_26 rfl (ha) rfl) ?_
  refine J.tr (s_iconst (q := 28) (v := 4) dL_law_27 rfl (by decide)) ?_
  refine J.tr (s_isub (q := 29) dL_law_28 rfl) ?_
  refine J.tr (s_icmp_gt_f (q := 32) (tg := 1010) dL_law_29 (by decide) rfl c) ?_
  refine J.tr (s_aload_n (q := 33) dL_law_32 rfl rfl) ?_
  refine J.tr (s_iload (q := 35) dL_law_33 rfl rfl) ?_
  refine J.tr (s_sld (q := 36) dL_law_35 rfl (ha) i1) ?_
  refine J.tr (s_bipush (q := 38) (v := 15) dL_law_36 rfl (by decide)) ?_
  refine J.tr (s_iand (q := 39) dL_law_38 rfl) ?_
  refine J.tr (s_nmi en) ?_
  refine J.tr (s_tabIn (q := 566) (off := 527) dL_law_39 (by rw [c1]; decide) (by rw [c1]; decide) (by rw [c1]; rfl) (by decide)) ?_
  refine J.tr (s_ls (ls' := [(0, .ref 0), (1, .ref 1), (2, .ref 65), (3, .ref 94), (4, .int i)]) [0, 1, 2, 3, 4] rfl) ?_
  exact J.rf

set_option maxRecDepth 20000 in
theorem j_L_law_h_10 {d : Nat} (hd : 0 ≤ d) (h : AH) (i : Int32) (n : Nat) (f : Nat → Int32) (ha : h.1 0 = ia n f) (c : ¬ (((nI n) - 4) < i)) (i1 : vp_in i n) (q : Int32) (en : ((f i.toNatClampNeg) &&& 15) = q) (c1 : q = 8) : J true mL_law d 23 [(0, .ref 0), (1, .ref 1), (2, .ref 65), (3, .ref 94), (4, .int i)] [] h 634 [(0, .ref 0), (1, .ref 1), (2, .ref 65), (3, .ref 94), (4, .int i)] [] h := by
  refine J.tr (s_iload (q := 25) dL_law_23 rfl rfl) ?_
  refine J.tr (s_aload_n (q := 26) dL_law_25 rfl rfl) ?_
  refine J.tr (s_slen (q := 27) dL_law_26 rfl (ha) rfl) ?_
  refine J.tr (s_iconst (q := 28) (v := 4) dL_law_27 rfl (by decide)) ?_
  refine J.tr (s_isub (q := 29) dL_law_28 rfl) ?_
  refine J.tr (s_icmp_gt_f (q := 32) (tg := 1010) dL_law_29 (by decide) rfl c) ?_
  refine J.tr (s_aload_n (q := 33) dL_law_32 rfl rfl) ?_
  refine J.tr (s_iload (q := 35) dL_law_33 rfl rfl) ?_
  refine J.tr (s_sld (q := 36) dL_law_35 rfl (ha) i1) ?_
  refine J.tr (s_bipush (q := 38) (v := 15) dL_law_36 rfl (by decide)) ?_
  refine J.tr (s_iand (q := 39) dL_law_38 rfl) ?_
  refine J.tr (s_nmi en) ?_
  refine J.tr (s_tabIn (q := 634) (off := 595) dL_law_39 (by rw [c1]; decide) (by rw [c1]; decide) (by rw [c1]; rfl) (by decide)) ?_
  refine J.tr (s_ls (ls' := [(0, .ref 0), (1, .ref 1), (2, .ref 65), (3, .ref 94), (4, .int i)]) [0, 1, 2, 3, 4] rfl) ?_
  exact J.rf

set_option maxRecDepth 20000 in
theorem j_L_law_h_11 {d : Nat} (hd : 0 ≤ d) (h : AH) (i : Int32) (n : Nat) (f : Nat → Int32) (ha : h.1 0 = ia n f) (c : ¬ (((nI n) - 4) < i)) (i1 : vp_in i n) (q : Int32) (en : ((f i.toNatClampNeg) &&& 15) = q) (c1 : q = 9) : J true mL_law d 23 [(0, .ref 0), (1, .ref 1), (2, .ref 65), (3, .ref 94), (4, .int i)] [] h 702 [(0, .ref 0), (1, .ref 1), (2, .ref 65), (3, .ref 94), (4, .int i)] [] h := by
  refine J.tr (s_iload (q := 25) dL_law_23 rfl rfl) ?_
  refine J.tr (s_aload_n (q := 26) dL_law_25 rfl rfl) ?_
  refine J.tr (s_slen (q := 27) dL_law_26 rfl (ha) rfl) ?_
  refine J.tr (s_iconst (q := 28) (v := 4) dL_law_27 rfl (by decide)) ?_
  refine J.tr (s_isub (q := 29) dL_law_28 rfl) ?_
  refine J.tr (s_icmp_gt_f (q := 32) (tg := 1010) dL_law_29 (by decide) rfl c) ?_
  refine J.tr (s_aload_n (q := 33) dL_law_32 rfl rfl) ?_
  refine J.tr (s_iload (q := 35) dL_law_33 rfl rfl) ?_
  refine J.tr (s_sld (q := 36) dL_law_35 rfl (ha) i1) ?_
  refine J.tr (s_bipush (q := 38) (v := 15) dL_law_36 rfl (by decide)) ?_
  refine J.tr (s_iand (q := 39) dL_law_38 rfl) ?_
  refine J.tr (s_nmi en) ?_
  refine J.tr (s_tabIn (q := 702) (off := 663) dL_law_39 (by rw [c1]; decide) (by rw [c1]; decide) (by rw [c1]; rfl) (by decide)) ?_
  refine J.tr (s_ls (ls' := [(0, .ref 0), (1, .ref 1), (2, .ref 65), (3, .ref 94), (4, .int i)]) [0, 1, 2, 3, 4] rfl) ?_
  exact J.rf

set_option maxRecDepth 20000 in
theorem j_L_law_h_12 {d : Nat} (hd : 0 ≤ d) (h : AH) (i : Int32) (n : Nat) (f : Nat → Int32) (ha : h.1 0 = ia n f) (c : ¬ (((nI n) - 4) < i)) (i1 : vp_in i n) (q : Int32) (en : ((f i.toNatClampNeg) &&& 15) = q) (c1 : q = 10) : J true mL_law d 23 [(0, .ref 0), (1, .ref 1), (2, .ref 65), (3, .ref 94), (4, .int i)] [] h 715 [(0, .ref 0), (1, .ref 1), (2, .ref 65), (3, .ref 94), (4, .int i)] [] h := by
  refine J.tr (s_iload (q := 25) dL_law_23 rfl rfl) ?_
  refine J.tr (s_aload_n (q := 26) dL_law_25 rfl rfl) ?_
  refine J.tr (s_slen (q := 27) dL_law_26 rfl (ha) rfl) ?_
  refine J.tr (s_iconst (q := 28) (v := 4) dL_law_27 rfl (by decide)) ?_
  refine J.tr (s_isub (q := 29) dL_law_28 rfl) ?_
  refine J.tr (s_icmp_gt_f (q := 32) (tg := 1010) dL_law_29 (by decide) rfl c) ?_
  refine J.tr (s_aload_n (q := 33) dL_law_32 rfl rfl) ?_
  refine J.tr (s_iload (q := 35) dL_law_33 rfl rfl) ?_
  refine J.tr (s_sld (q := 36) dL_law_35 rfl (ha) i1) ?_
  refine J.tr (s_bipush (q := 38) (v := 15) dL_law_36 rfl (by decide)) ?_
  refine J.tr (s_iand (q := 39) dL_law_38 rfl) ?_
  refine J.tr (s_nmi en) ?_
  refine J.tr (s_tabIn (q := 715) (off := 676) dL_law_39 (by rw [c1]; decide) (by rw [c1]; decide) (by rw [c1]; rfl) (by decide)) ?_
  refine J.tr (s_ls (ls' := [(0, .ref 0), (1, .ref 1), (2, .ref 65), (3, .ref 94), (4, .int i)]) [0, 1, 2, 3, 4] rfl) ?_
  exact J.rf

set_option maxRecDepth 20000 in
theorem j_L_law_h_13 {d : Nat} (hd : 0 ≤ d) (h : AH) (i : Int32) (n : Nat) (f : Nat → Int32) (ha : h.1 0 = ia n f) (c : ¬ (((nI n) - 4) < i)) (i1 : vp_in i n) (q : Int32) (en : ((f i.toNatClampNeg) &&& 15) = q) (c1 : q = 11) : J true mL_law d 23 [(0, .ref 0), (1, .ref 1), (2, .ref 65), (3, .ref 94), (4, .int i)] [] h 783 [(0, .ref 0), (1, .ref 1), (2, .ref 65), (3, .ref 94), (4, .int i)] [] h := by
  refine J.tr (s_iload (q := 25) dL_law_23 rfl rfl) ?_
  refine J.tr (s_aload_n (q := 26) dL_law_25 rfl rfl) ?_
  refine J.tr (s_slen (q := 27) dL_law_26 rfl (ha) rfl) ?_
  refine J.tr (s_iconst (q := 28) (v := 4) dL_law_27 rfl (by decide)) ?_
  refine J.tr (s_isub (q := 29) dL_law_28 rfl) ?_
  refine J.tr (s_icmp_gt_f (q := 32) (tg := 1010) dL_law_29 (by decide) rfl c) ?_
  refine J.tr (s_aload_n (q := 33) dL_law_32 rfl rfl) ?_
  refine J.tr (s_iload (q := 35) dL_law_33 rfl rfl) ?_
  refine J.tr (s_sld (q := 36) dL_law_35 rfl (ha) i1) ?_
  refine J.tr (s_bipush (q := 38) (v := 15) dL_law_36 rfl (by decide)) ?_
  refine J.tr (s_iand (q := 39) dL_law_38 rfl) ?_
  refine J.tr (s_nmi en) ?_
  refine J.tr (s_tabIn (q := 783) (off := 744) dL_law_39 (by rw [c1]; decide) (by rw [c1]; decide) (by rw [c1]; rfl) (by decide)) ?_
  refine J.tr (s_ls (ls' := [(0, .ref 0), (1, .ref 1), (2, .ref 65), (3, .ref 94), (4, .int i)]) [0, 1, 2, 3, 4] rfl) ?_
  exact J.rf

set_option maxRecDepth 20000 in
theorem j_L_law_h_14 {d : Nat} (hd : 0 ≤ d) (h : AH) (i : Int32) (n : Nat) (f : Nat → Int32) (ha : h.1 0 = ia n f) (c : ¬ (((nI n) - 4) < i)) (i1 : vp_in i n) (q : Int32) (en : ((f i.toNatClampNeg) &&& 15) = q) (c1 : q = 12) : J true mL_law d 23 [(0, .ref 0), (1, .ref 1), (2, .ref 65), (3, .ref 94), (4, .int i)] [] h 843 [(0, .ref 0), (1, .ref 1), (2, .ref 65), (3, .ref 94), (4, .int i)] [] h := by
  refine J.tr (s_iload (q := 25) dL_law_23 rfl rfl) ?_
  refine J.tr (s_aload_n (q := 26) dL_law_25 rfl rfl) ?_
  refine J.tr (s_slen (q := 27) dL_law_26 rfl (ha) rfl) ?_
  refine J.tr (s_iconst (q := 28) (v := 4) dL_law_27 rfl (by decide)) ?_
  refine J.tr (s_isub (q := 29) dL_law_28 rfl) ?_
  refine J.tr (s_icmp_gt_f (q := 32) (tg := 1010) dL_law_29 (by decide) rfl c) ?_
  refine J.tr (s_aload_n (q := 33) dL_law_32 rfl rfl) ?_
  refine J.tr (s_iload (q := 35) dL_law_33 rfl rfl) ?_
  refine J.tr (s_sld (q := 36) dL_law_35 rfl (ha) i1) ?_
  refine J.tr (s_bipush (q := 38) (v := 15) dL_law_36 rfl (by decide)) ?_
  refine J.tr (s_iand (q := 39) dL_law_38 rfl) ?_
  refine J.tr (s_nmi en) ?_
  refine J.tr (s_tabIn (q := 843) (off := 804) dL_law_39 (by rw [c1]; decide) (by rw [c1]; decide) (by rw [c1]; rfl) (by decide)) ?_
  refine J.tr (s_ls (ls' := [(0, .ref 0), (1, .ref 1), (2, .ref 65), (3, .ref 94), (4, .int i)]) [0, 1, 2, 3, 4] rfl) ?_
  exact J.rf

set_option maxRecDepth 20000 in
theorem j_L_law_h_15 {d : Nat} (hd : 0 ≤ d) (h : AH) (i : Int32) (n : Nat) (f : Nat → Int32) (ha : h.1 0 = ia n f) (c : ¬ (((nI n) - 4) < i)) (i1 : vp_in i n) (q : Int32) (en : ((f i.toNatClampNeg) &&& 15) = q) (c1 : q = 13) : J true mL_law d 23 [(0, .ref 0), (1, .ref 1), (2, .ref 65), (3, .ref 94), (4, .int i)] [] h 887 [(0, .ref 0), (1, .ref 1), (2, .ref 65), (3, .ref 94), (4, .int i)] [] h := by
  refine J.tr (s_iload (q := 25) dL_law_23 rfl rfl) ?_
  refine J.tr (s_aload_n (q := 26) dL_law_25 rfl rfl) ?_
  refine J.tr (s_slen (q := 27) dL_law_26 rfl (ha) rfl) ?_
  refine J.tr (s_iconst (q := 28) (v := 4) dL_law_27 rfl (by decide)) ?_
  refine J.tr (s_isub (q := 29) dL_law_28 rfl) ?_
  refine J.tr (s_icmp_gt_f (q := 32) (tg := 1010) dL_law_29 (by decide) rfl c) ?_
  refine J.tr (s_aload_n (q := 33) dL_law_32 rfl rfl) ?_
  refine J.tr (s_iload (q := 35) dL_law_33 rfl rfl) ?_
  refine J.tr (s_sld (q := 36) dL_law_35 rfl (ha) i1) ?_
  refine J.tr (s_bipush (q := 38) (v := 15) dL_law_36 rfl (by decide)) ?_
  refine J.tr (s_iand (q := 39) dL_law_38 rfl) ?_
  refine J.tr (s_nmi en) ?_
  refine J.tr (s_tabIn (q := 887) (off := 848) dL_law_39 (by rw [c1]; decide) (by rw [c1]; decide) (by rw [c1]; rfl) (by decide)) ?_
  refine J.tr (s_ls (ls' := [(0, .ref 0), (1, .ref 1), (2, .ref 65), (3, .ref 94), (4, .int i)]) [0, 1, 2, 3, 4] rfl) ?_
  exact J.rf

set_option maxRecDepth 20000 in
theorem j_L_law_h_16 {d : Nat} (hd : 0 ≤ d) (h : AH) (i : Int32) (n : Nat) (f : Nat → Int32) (ha : h.1 0 = ia n f) (c : ¬ (((nI n) - 4) < i)) (i1 : vp_in i n) (q : Int32) (en : ((f i.toNatClampNeg) &&& 15) = q) (c1 : q = 14) : J true mL_law d 23 [(0, .ref 0), (1, .ref 1), (2, .ref 65), (3, .ref 94), (4, .int i)] [] h 912 [(0, .ref 0), (1, .ref 1), (2, .ref 65), (3, .ref 94), (4, .int i)] [] h := by
  refine J.tr (s_iload (q := 25) dL_law_23 rfl rfl) ?_
  refine J.tr (s_aload_n (q := 26) dL_law_25 rfl rfl) ?_
  refine J.tr (s_slen (q := 27) dL_law_26 rfl (ha) rfl) ?_
  refine J.tr (s_iconst (q := 28) (v := 4) dL_law_27 rfl (by decide)) ?_
  refine J.tr (s_isub (q := 29) dL_law_28 rfl) ?_
  refine J.tr (s_icmp_gt_f (q := 32) (tg := 1010) dL_law_29 (by decide) rfl c) ?_
  refine J.tr (s_aload_n (q := 33) dL_law_32 rfl rfl) ?_
  refine J.tr (s_iload (q := 35) dL_law_33 rfl rfl) ?_
  refine J.tr (s_sld (q := 36) dL_law_35 rfl (ha) i1) ?_
  refine J.tr (s_bipush (q := 38) (v := 15) dL_law_36 rfl (by decide)) ?_
  refine J.tr (s_iand (q := 39) dL_law_38 rfl) ?_
  refine J.tr (s_nmi en) ?_
  refine J.tr (s_tabIn (q := 912) (off := 873) dL_law_39 (by rw [c1]; decide) (by rw [c1]; decide) (by rw [c1]; rfl) (by decide)) ?_
  refine J.tr (s_ls (ls' := [(0, .ref 0), (1, .ref 1), (2, .ref 65), (3, .ref 94), (4, .int i)]) [0, 1, 2, 3, 4] rfl) ?_
  exact J.rf

set_option maxRecDepth 20000 in
theorem j_L_law_h_17 {d : Nat} (hd : 0 ≤ d) (h : AH) (i : Int32) (n : Nat) (f : Nat → Int32) (ha : h.1 0 = ia n f) (c : ¬ (((nI n) - 4) < i)) (i1 : vp_in i n) (q : Int32) (en : ((f i.toNatClampNeg) &&& 15) = q) (c1 : q = 15) : J true mL_law d 23 [(0, .ref 0), (1, .ref 1), (2, .ref 65), (3, .ref 94), (4, .int i)] [] h 979 [(0, .ref 0), (1, .ref 1), (2, .ref 65), (3, .ref 94), (4, .int i)] [] h := by
  refine J.tr (s_iload (q := 25) dL_law_23 rfl rfl) ?_
  refine J.tr (s_aload_n (q := 26) dL_law_25 rfl rfl) ?_
  refine J.tr (s_slen (q := 27) dL_law_26 rfl (ha) rfl) ?_
  refine J.tr (s_iconst (q := 28) (v := 4) dL_law_27 rfl (by decide)) ?_
  refine J.tr (s_isub (q := 29) dL_law_28 rfl) ?_
  refine J.tr (s_icmp_gt_f (q := 32) (tg := 1010) dL_law_29 (by decide) rfl c) ?_
  refine J.tr (s_aload_n (q := 33) dL_law_32 rfl rfl) ?_
  refine J.tr (s_iload (q := 35) dL_law_33 rfl rfl) ?_
  refine J.tr (s_sld (q := 36) dL_law_35 rfl (ha) i1) ?_
  refine J.tr (s_bipush (q := 38) (v := 15) dL_law_36 rfl (by decide)) ?_
  refine J.tr (s_iand (q := 39) dL_law_38 rfl) ?_
  refine J.tr (s_nmi en) ?_
  refine J.tr (s_tabIn (q := 979) (off := 940) dL_law_39 (by rw [c1]; decide) (by rw [c1]; decide) (by rw [c1]; rfl) (by decide)) ?_
  refine J.tr (s_ls (ls' := [(0, .ref 0), (1, .ref 1), (2, .ref 65), (3, .ref 94), (4, .int i)]) [0, 1, 2, 3, 4] rfl) ?_
  exact J.rf

set_option maxRecDepth 20000 in
theorem j_L_law_h_18 {d : Nat} (hd : 0 ≤ d) (h : AH) (i : Int32) (n : Nat) (f : Nat → Int32) (ha : h.1 0 = ia n f) (c : ¬ (((nI n) - 4) < i)) (i1 : vp_in i n) (q : Int32) (en : ((f i.toNatClampNeg) &&& 15) = q) (c1 : q.toInt < 0 ∨ 15 < q.toInt) : J true mL_law d 23 [(0, .ref 0), (1, .ref 1), (2, .ref 65), (3, .ref 94), (4, .int i)] [] h 1004 [(0, .ref 0), (1, .ref 1), (2, .ref 65), (3, .ref 94), (4, .int i)] [] h := by
  refine J.tr (s_iload (q := 25) dL_law_23 rfl rfl) ?_
  refine J.tr (s_aload_n (q := 26) dL_law_25 rfl rfl) ?_
  refine J.tr (s_slen (q := 27) dL_law_26 rfl (ha) rfl) ?_
  refine J.tr (s_iconst (q := 28) (v := 4) dL_law_27 rfl (by decide)) ?_
  refine J.tr (s_isub (q := 29) dL_law_28 rfl) ?_
  refine J.tr (s_icmp_gt_f (q := 32) (tg := 1010) dL_law_29 (by decide) rfl c) ?_
  refine J.tr (s_aload_n (q := 33) dL_law_32 rfl rfl) ?_
  refine J.tr (s_iload (q := 35) dL_law_33 rfl rfl) ?_
  refine J.tr (s_sld (q := 36) dL_law_35 rfl (ha) i1) ?_
  refine J.tr (s_bipush (q := 38) (v := 15) dL_law_36 rfl (by decide)) ?_
  refine J.tr (s_iand (q := 39) dL_law_38 rfl) ?_
  refine J.tr (s_nmi en) ?_
  refine J.tr (s_tabOut (q := 1004) dL_law_39 c1 (by decide)) ?_
  refine J.tr (s_ls (ls' := [(0, .ref 0), (1, .ref 1), (2, .ref 65), (3, .ref 94), (4, .int i)]) [0, 1, 2, 3, 4] rfl) ?_
  exact J.rf

set_option maxRecDepth 20000 in
theorem j_L_law_z_1 {d : Nat} (hd : 0 ≤ d) (h : AH) (i : Int32) : J true mL_law d 1004 [(0, .ref 0), (1, .ref 1), (2, .ref 65), (3, .ref 94), (4, .int i)] [] h 23 [(0, .ref 0), (1, .ref 1), (2, .ref 65), (3, .ref 94), (4, .int (i + 4))] [] h := by
  refine J.tr (s_iinc (q := 1007) (v := (i + 4)) (ls' := [(4, .int (i + 4)), (0, .ref 0), (1, .ref 1), (2, .ref 65), (3, .ref 94)]) dL_law_1004 rfl (by decide) rfl rfl rfl) ?_
  refine J.tr (s_goto (q := 23) dL_law_1007 (by decide)) ?_
  refine J.tr (s_ls (ls' := [(0, .ref 0), (1, .ref 1), (2, .ref 65), (3, .ref 94), (4, .int (i + 4))]) [1, 2, 3, 4, 0] rfl) ?_
  exact J.rf

set_option maxRecDepth 20000 in
theorem j_L_law_a0_1 {d : Nat} (hd : 0 ≤ d) (h : AH) (i : Int32) (n : Nat) (f : Nat → Int32) (ha : h.1 0 = ia n f) (i1 : vp_in (i + 1) n) (i2 : vp_in (i + 2) n) : J true mL_law d 116 [(0, .ref 0), (1, .ref 1), (2, .ref 65), (3, .ref 94), (4, .int i)] [] h 139 [(0, .ref 0), (1, .ref 1), (2, .ref 65), (3, .ref 94), (4, .int i)] [.long ((((f (i + 1).toNatClampNeg).toInt64) <<< ((32 : Int32).toInt64 &&& 63)) ||| (((f (i + 2).toNatClampNeg).toInt64) &&& 4294967295)), .ref 1] h := by
  refine J.tr (s_aload_n (q := 117) dL_law_116 rfl rfl) ?_
  refine J.tr (s_aload_n (q := 118) dL_law_117 rfl rfl) ?_
  refine J.tr (s_iload (q := 120) dL_law_118 rfl rfl) ?_
  refine J.tr (s_iconst (q := 121) (v := 1) dL_law_120 rfl (by decide)) ?_
  refine J.tr (s_iadd (q := 122) dL_law_121 rfl) ?_
  refine J.tr (s_sld (q := 123) dL_law_122 rfl (ha) i1) ?_
  refine J.tr (s_i2l (q := 124) dL_law_123 rfl) ?_
  refine J.tr (s_bipush (q := 126) (v := 32) dL_law_124 rfl (by decide)) ?_
  refine J.tr (s_lshl (q := 127) dL_law_126 rfl) ?_
  refine J.tr (s_aload_n (q := 128) dL_law_127 rfl rfl) ?_
  refine J.tr (s_iload (q := 130) dL_law_128 rfl rfl) ?_
  refine J.tr (s_iconst (q := 131) (v := 2) dL_law_130 rfl (by decide)) ?_
  refine J.tr (s_iadd (q := 132) dL_law_131 rfl) ?_
  refine J.tr (s_sld (q := 133) dL_law_132 rfl (ha) i2) ?_
  refine J.tr (s_i2l (q := 134) dL_law_133 rfl) ?_
  refine J.tr (s_ldc2 (q := 137) dL_law_134 rfl kL_58) ?_
  refine J.tr (s_land (q := 138) dL_law_137 rfl) ?_
  refine J.tr (s_lor (q := 139) dL_law_138 rfl) ?_
  refine J.tr (s_ls (ls' := [(0, .ref 0), (1, .ref 1), (2, .ref 65), (3, .ref 94), (4, .int i)]) [0, 1, 2, 3, 4] rfl) ?_
  exact J.rf

set_option maxRecDepth 20000 in
theorem j_L_law_b0_1 {d : Nat} (hd : 0 ≤ d) (h : AH) (i : Int32) (r : Int32) (n : Nat) (f : Nat → Int32) (ha : h.1 0 = ia n f) (i1 : vp_in (i + 1) n) (i2 : vp_in (i + 2) n) : J true mL_law d 142 [(0, .ref 0), (1, .ref 1), (2, .ref 65), (3, .ref 94), (4, .int i)] [.int r] h 165 [(0, .ref 0), (1, .ref 1), (2, .ref 65), (3, .ref 94), (4, .int i)] [.long ((((f (i + 1).toNatClampNeg).toInt64) <<< ((32 : Int32).toInt64 &&& 63)) ||| (((f (i + 2).toNatClampNeg).toInt64) &&& 4294967295)), .ref 65, .int r] h := by
  refine J.tr (s_aload_n (q := 143) dL_law_142 rfl rfl) ?_
  refine J.tr (s_aload_n (q := 144) dL_law_143 rfl rfl) ?_
  refine J.tr (s_iload (q := 146) dL_law_144 rfl rfl) ?_
  refine J.tr (s_iconst (q := 147) (v := 1) dL_law_146 rfl (by decide)) ?_
  refine J.tr (s_iadd (q := 148) dL_law_147 rfl) ?_
  refine J.tr (s_sld (q := 149) dL_law_148 rfl (ha) i1) ?_
  refine J.tr (s_i2l (q := 150) dL_law_149 rfl) ?_
  refine J.tr (s_bipush (q := 152) (v := 32) dL_law_150 rfl (by decide)) ?_
  refine J.tr (s_lshl (q := 153) dL_law_152 rfl) ?_
  refine J.tr (s_aload_n (q := 154) dL_law_153 rfl rfl) ?_
  refine J.tr (s_iload (q := 156) dL_law_154 rfl rfl) ?_
  refine J.tr (s_iconst (q := 157) (v := 2) dL_law_156 rfl (by decide)) ?_
  refine J.tr (s_iadd (q := 158) dL_law_157 rfl) ?_
  refine J.tr (s_sld (q := 159) dL_law_158 rfl (ha) i2) ?_
  refine J.tr (s_i2l (q := 160) dL_law_159 rfl) ?_
  refine J.tr (s_ldc2 (q := 163) dL_law_160 rfl kL_58) ?_
  refine J.tr (s_land (q := 164) dL_law_163 rfl) ?_
  refine J.tr (s_lor (q := 165) dL_law_164 rfl) ?_
  refine J.tr (s_ls (ls' := [(0, .ref 0), (1, .ref 1), (2, .ref 65), (3, .ref 94), (4, .int i)]) [0, 1, 2, 3, 4] rfl) ?_
  exact J.rf

set_option maxRecDepth 20000 in
theorem j_L_law_c0_1 {d : Nat} (hd : 0 ≤ d) (h : AH) (i : Int32) (s : Int32) (r : Int32) (c : r = s) : J true mL_law d 168 [(0, .ref 0), (1, .ref 1), (2, .ref 65), (3, .ref 94), (4, .int i)] [.int s, .int r] h 23 [(0, .ref 0), (1, .ref 1), (2, .ref 65), (3, .ref 94), (4, .int (i + 4))] [] h := by
  refine J.tr (s_icmp_eq_t (q := 1004) dL_law_168 (by decide) c) ?_
  refine J.tr (s_iinc (q := 1007) (v := (i + 4)) (ls' := [(4, .int (i + 4)), (0, .ref 0), (1, .ref 1), (2, .ref 65), (3, .ref 94)]) dL_law_1004 rfl (by decide) rfl rfl rfl) ?_
  refine J.tr (s_goto (q := 23) dL_law_1007 (by decide)) ?_
  refine J.tr (s_ls (ls' := [(0, .ref 0), (1, .ref 1), (2, .ref 65), (3, .ref 94), (4, .int (i + 4))]) [1, 2, 3, 4, 0] rfl) ?_
  exact J.rf

set_option maxRecDepth 20000 in
theorem j_L_law_c0_2 {d : Nat} (hd : 0 ≤ d) (h : AH) (i : Int32) (s : Int32) (r : Int32) (c : ¬ (r = s)) : E true mL_law d 168 [(0, .ref 0), (1, .ref 1), (2, .ref 65), (3, .ref 94), (4, .int i)] [.int s, .int r] h (some (.int 0)) h := by
  refine E.st (s_icmp_eq_f (q := 171) (tg := 1004) dL_law_168 (by decide) rfl c) ?_
  refine E.st (s_iconst (q := 172) (v := 0) dL_law_171 rfl (by decide)) ?_
  exact E.i dL_law_172 rfl rfl rfl rfl

set_option maxRecDepth 20000 in
theorem j_L_law_a1_1 {d : Nat} (hd : 0 ≤ d) (h : AH) (i : Int32) (n : Nat) (f : Nat → Int32) (ha : h.1 0 = ia n f) (i1 : vp_in (i + 1) n) (i2 : vp_in (i + 2) n) : J true mL_law d 173 [(0, .ref 0), (1, .ref 1), (2, .ref 65), (3, .ref 94), (4, .int i)] [] h 187 [(0, .ref 0), (1, .ref 1), (2, .ref 65), (3, .ref 94), (4, .int i)] [.ref 94, .int (f (i + 2).toNatClampNeg), .int (f (i + 1).toNatClampNeg), .ref 1] h := by
  refine J.tr (s_aload_n (q := 174) dL_law_173 rfl rfl) ?_
  refine J.tr (s_aload_n (q := 175) dL_law_174 rfl rfl) ?_
  refine J.tr (s_iload (q := 177) dL_law_175 rfl rfl) ?_
  refine J.tr (s_iconst (q := 178) (v := 1) dL_law_177 rfl (by decide)) ?_
  refine J.tr (s_iadd (q := 179) dL_law_178 rfl) ?_
  refine J.tr (s_sld (q := 180) dL_law_179 rfl (ha) i1) ?_
  refine J.tr (s_aload_n (q := 181) dL_law_180 rfl rfl) ?_
  refine J.tr (s_iload (q := 183) dL_law_181 rfl rfl) ?_
  refine J.tr (s_iconst (q := 184) (v := 2) dL_law_183 rfl (by decide)) ?_
  refine J.tr (s_iadd (q := 185) dL_law_184 rfl) ?_
  refine J.tr (s_sld (q := 186) dL_law_185 rfl (ha) i2) ?_
  refine J.tr (s_aload_n (q := 187) dL_law_186 rfl rfl) ?_
  refine J.tr (s_ls (ls' := [(0, .ref 0), (1, .ref 1), (2, .ref 65), (3, .ref 94), (4, .int i)]) [0, 1, 2, 3, 4] rfl) ?_
  exact J.rf

set_option maxRecDepth 20000 in
theorem j_L_law_b1_1 {d : Nat} (hd : 0 ≤ d) (h : AH) (i : Int32) (k : Int32) (n : Nat) (f : Nat → Int32) (ha : h.1 0 = ia n f) (i1 : vp_in (i + 1) n) (i2 : vp_in (i + 2) n) : J true mL_law d 190 [(0, .ref 0), (1, .ref 1), (2, .ref 65), (3, .ref 94), (4, .int i)] [.int k] h 205 [(0, .ref 0), (1, .ref 1), (2, .ref 65), (3, .ref 94), (4, .int i), (5, .int k)] [.int (f (i + 2).toNatClampNeg), .int (f (i + 1).toNatClampNeg), .ref 65] h := by
  refine J.tr (s_istore (q := 192) (ls' := [(5, .int k), (0, .ref 0), (1, .ref 1), (2, .ref 65), (3, .ref 94), (4, .int i)]) dL_law_190 rfl (by decide) rfl) ?_
  refine J.tr (s_aload_n (q := 193) dL_law_192 rfl rfl) ?_
  refine J.tr (s_aload_n (q := 194) dL_law_193 rfl rfl) ?_
  refine J.tr (s_iload (q := 196) dL_law_194 rfl rfl) ?_
  refine J.tr (s_iconst (q := 197) (v := 1) dL_law_196 rfl (by decide)) ?_
  refine J.tr (s_iadd (q := 198) dL_law_197 rfl) ?_
  refine J.tr (s_sld (q := 199) dL_law_198 rfl (ha) i1) ?_
  refine J.tr (s_aload_n (q := 200) dL_law_199 rfl rfl) ?_
  refine J.tr (s_iload (q := 202) dL_law_200 rfl rfl) ?_
  refine J.tr (s_iconst (q := 203) (v := 2) dL_law_202 rfl (by decide)) ?_
  refine J.tr (s_iadd (q := 204) dL_law_203 rfl) ?_
  refine J.tr (s_sld (q := 205) dL_law_204 rfl (ha) i2) ?_
  refine J.tr (s_ls (ls' := [(0, .ref 0), (1, .ref 1), (2, .ref 65), (3, .ref 94), (4, .int i), (5, .int k)]) [1, 2, 3, 4, 5, 0] rfl) ?_
  exact J.rf

set_option maxRecDepth 20000 in
theorem j_L_law_c1_1 {d : Nat} (hd : 1 ≤ d) (h : AH) (i : Int32) (k : Int32) (r : Int32) (F : Nat → Value) (ho : h.1 65 = ob 8 (fo 53 F)) (v0 : Int32) (e0 : F 0 = .int v0) (c : v0 = k) (c1 : ¬ k = 0) : J true mL_law d 208 [(0, .ref 0), (1, .ref 1), (2, .ref 65), (3, .ref 94), (4, .int i), (5, .int k)] [.int r] h 23 [(0, .ref 0), (1, .ref 1), (2, .ref 65), (3, .ref 94), (4, .int (i + 4))] [] h := by
  refine J.tr (s_istore (q := 210) (ls' := [(6, .int r), (0, .ref 0), (1, .ref 1), (2, .ref 65), (3, .ref 94), (4, .int i), (5, .int k)]) dL_law_208 rfl (by decide) rfl) ?_
  refine J.tr (s_aload_n (q := 211) dL_law_210 rfl rfl) ?_
  refine J.tr (p2 := 214) (l2 := [(6, .int r), (0, .ref 0), (1, .ref 1), (2, .ref 65), (3, .ref 94), (4, .int i), (5, .int k)]) (s2 := [.int v0]) (h2 := h) (s_invv (K := mX8_thrown) (o := 65) (as := []) (rest := []) (v := some (.int v0)) dL_law_211 rfl lL_71 (by omega) rfl (Nat.le_of_ble_eq_true rfl) rfl (Nat.le_of_ble_eq_true rfl) (ho) (p_X8_thrown_1 (d := 0) (Nat.le_refl _) h 65 F ho v0 e0) (fun _ => rfl)) ?_
  refine J.tr (s_iload (q := 216) dL_law_214 rfl rfl) ?_
  refine J.tr (s_icmp_eq_t (q := 221) dL_law_216 (by decide) c) ?_
  refine J.tr (s_iload (q := 223) dL_law_221 rfl rfl) ?_
  refine J.tr (s_if_ne_t (q := 238) dL_law_223 (by decide) c1) ?_
  refine J.tr (s_goto (q := 1004) dL_law_238 (by decide)) ?_
  refine J.tr (s_iinc (q := 1007) (v := (i + 4)) (ls' := [(4, .int (i + 4)), (6, .int r), (0, .ref 0), (1, .ref 1), (2, .ref 65), (3, .ref 94), (5, .int k)]) dL_law_1004 rfl (by decide) rfl rfl rfl) ?_
  refine J.tr (s_goto (q := 23) dL_law_1007 (by decide)) ?_
  refine J.tr (s_ls (ls' := [(0, .ref 0), (1, .ref 1), (2, .ref 65), (3, .ref 94), (4, .int (i + 4))]) [2, 3, 4, 5, 0] rfl) ?_
  exact J.rf

set_option maxRecDepth 20000 in
theorem j_L_law_c1_2 {d : Nat} (hd : 1 ≤ d) (h : AH) (i : Int32) (k : Int32) (r : Int32) (F : Nat → Value) (ho : h.1 65 = ob 8 (fo 53 F)) (v0 : Int32) (e0 : F 0 = .int v0) (c : v0 = k) (c1 : k = 0) (n : Nat) (f : Nat → Int64) (ha : h.1 94 = la n f) (i1 : vp_in 0 n) (c2 : (f (0 : Int32).toNatClampNeg) = (r.toInt64)) : J true mL_law d 208 [(0, .ref 0), (1, .ref 1), (2, .ref 65), (3, .ref 94), (4, .int i), (5, .int k)] [.int r] h 23 [(0, .ref 0), (1, .ref 1), (2, .ref 65), (3, .ref 94), (4, .int (i + 4))] [] h := by
  refine J.tr (s_istore (q := 210) (ls' := [(6, .int r), (0, .ref 0), (1, .ref 1), (2, .ref 65), (3, .ref 94), (4, .int i), (5, .int k)]) dL_law_208 rfl (by decide) rfl) ?_
  refine J.tr (s_aload_n (q := 211) dL_law_210 rfl rfl) ?_
  refine J.tr (p2 := 214) (l2 := [(6, .int r), (0, .ref 0), (1, .ref 1), (2, .ref 65), (3, .ref 94), (4, .int i), (5, .int k)]) (s2 := [.int v0]) (h2 := h) (s_invv (K := mX8_thrown) (o := 65) (as := []) (rest := []) (v := some (.int v0)) dL_law_211 rfl lL_71 (by omega) rfl (Nat.le_of_ble_eq_true rfl) rfl (Nat.le_of_ble_eq_true rfl) (ho) (p_X8_thrown_1 (d := 0) (Nat.le_refl _) h 65 F ho v0 e0) (fun _ => rfl)) ?_
  refine J.tr (s_iload (q := 216) dL_law_214 rfl rfl) ?_
  refine J.tr (s_icmp_eq_t (q := 221) dL_law_216 (by decide) c) ?_
  refine J.tr (s_iload (q := 223) dL_law_221 rfl rfl) ?_
  refine J.tr (s_if_ne_f (q := 226) (tg := 238) dL_law_223 (by decide) rfl c1) ?_
  refine J.tr (s_aload_n (q := 227) dL_law_226 rfl rfl) ?_
  refine J.tr (s_iconst (q := 228) (v := 0) dL_law_227 rfl (by decide)) ?_
  refine J.tr (s_lald (q := 229) dL_law_228 rfl (ha) i1) ?_
  refine J.tr (s_iload (q := 231) dL_law_229 rfl rfl) ?_
  refine J.tr (s_i2l (q := 232) dL_law_231 rfl) ?_
  refine J.tr (s_lcmp (q := 233) dL_law_232 rfl) ?_
  refine J.tr (s_if_eq_t (q := 238) dL_law_233 (by decide) ((lgc_eq _ _).mpr c2)) ?_
  refine J.tr (s_goto (q := 1004) dL_law_238 (by decide)) ?_
  refine J.tr (s_iinc (q := 1007) (v := (i + 4)) (ls' := [(4, .int (i + 4)), (6, .int r), (0, .ref 0), (1, .ref 1), (2, .ref 65), (3, .ref 94), (5, .int k)]) dL_law_1004 rfl (by decide) rfl rfl rfl) ?_
  refine J.tr (s_goto (q := 23) dL_law_1007 (by decide)) ?_
  refine J.tr (s_ls (ls' := [(0, .ref 0), (1, .ref 1), (2, .ref 65), (3, .ref 94), (4, .int (i + 4))]) [2, 3, 4, 5, 0] rfl) ?_
  exact J.rf

set_option maxRecDepth 20000 in
theorem j_L_law_c1_3 {d : Nat} (hd : 1 ≤ d) (h : AH) (i : Int32) (k : Int32) (r : Int32) (F : Nat → Value) (ho : h.1 65 = ob 8 (fo 53 F)) (v0 : Int32) (e0 : F 0 = .int v0) (c : v0 = k) (c1 : k = 0) (n : Nat) (f : Nat → Int64) (ha : h.1 94 = la n f) (i1 : vp_in 0 n) (c2 : ¬ ((f (0 : Int32).toNatClampNeg) = (r.toInt64))) : E true mL_law d 208 [(0, .ref 0), (1, .ref 1), (2, .ref 65), (3, .ref 94), (4, .int i), (5, .int k)] [.int r] h (some (.int 0)) h := by
  refine E.st (s_istore (q := 210) (ls' := [(6, .int r), (0, .ref 0), (1, .ref 1), (2, .ref 65), (3, .ref 94), (4, .int i), (5, .int k)]) dL_law_208 rfl (by decide) rfl) ?_
  refine E.st (s_aload_n (q := 211) dL_law_210 rfl rfl) ?_
  refine E.st (p2 := 214) (l2 := [(6, .int r), (0, .ref 0), (1, .ref 1), (2, .ref 65), (3, .ref 94), (4, .int i), (5, .int k)]) (s2 := [.int v0]) (h2 := h) (s_invv (K := mX8_thrown) (o := 65) (as := []) (rest := []) (v := some (.int v0)) dL_law_211 rfl lL_71 (by omega) rfl (Nat.le_of_ble_eq_true rfl) rfl (Nat.le_of_ble_eq_true rfl) (ho) (p_X8_thrown_1 (d := 0) (Nat.le_refl _) h 65 F ho v0 e0) (fun _ => rfl)) ?_
  refine E.st (s_iload (q := 216) dL_law_214 rfl rfl) ?_
  refine E.st (s_icmp_eq_t (q := 221) dL_law_216 (by decide) c) ?_
  refine E.st (s_iload (q := 223) dL_law_221 rfl rfl) ?_
  refine E.st (s_if_ne_f (q := 226) (tg := 238) dL_law_223 (by decide) rfl c1) ?_
  refine E.st (s_aload_n (q := 227) dL_law_226 rfl rfl) ?_
  refine E.st (s_iconst (q := 228) (v := 0) dL_law_227 rfl (by decide)) ?_
  refine E.st (s_lald (q := 229) dL_law_228 rfl (ha) i1) ?_
  refine E.st (s_iload (q := 231) dL_law_229 rfl rfl) ?_
  refine E.st (s_i2l (q := 232) dL_law_231 rfl) ?_
  refine E.st (s_lcmp (q := 233) dL_law_232 rfl) ?_
  refine E.st (s_if_eq_f (q := 236) (tg := 238) dL_law_233 (by decide) rfl (fun z => c2 ((lgc_eq _ _).mp z))) ?_
  refine E.st (s_iconst (q := 237) (v := 0) dL_law_236 rfl (by decide)) ?_
  exact E.i dL_law_237 rfl rfl rfl rfl

set_option maxRecDepth 20000 in
theorem j_L_law_c1_4 {d : Nat} (hd : 1 ≤ d) (h : AH) (i : Int32) (k : Int32) (r : Int32) (F : Nat → Value) (ho : h.1 65 = ob 8 (fo 53 F)) (v0 : Int32) (e0 : F 0 = .int v0) (c : ¬ (v0 = k)) : E true mL_law d 208 [(0, .ref 0), (1, .ref 1), (2, .ref 65), (3, .ref 94), (4, .int i), (5, .int k)] [.int r] h (some (.int 0)) h := by
  refine E.st (s_istore (q := 210) (ls' := [(6, .int r), (0, .ref 0), (1, .ref 1), (2, .ref 65), (3, .ref 94), (4, .int i), (5, .int k)]) dL_law_208 rfl (by decide) rfl) ?_
  refine E.st (s_aload_n (q := 211) dL_law_210 rfl rfl) ?_
  refine E.st (p2 := 214) (l2 := [(6, .int r), (0, .ref 0), (1, .ref 1), (2, .ref 65), (3, .ref 94), (4, .int i), (5, .int k)]) (s2 := [.int v0]) (h2 := h) (s_invv (K := mX8_thrown) (o := 65) (as := []) (rest := []) (v := some (.int v0)) dL_law_211 rfl lL_71 (by omega) rfl (Nat.le_of_ble_eq_true rfl) rfl (Nat.le_of_ble_eq_true rfl) (ho) (p_X8_thrown_1 (d := 0) (Nat.le_refl _) h 65 F ho v0 e0) (fun _ => rfl)) ?_
  refine E.st (s_iload (q := 216) dL_law_214 rfl rfl) ?_
  refine E.st (s_icmp_eq_f (q := 219) (tg := 221) dL_law_216 (by decide) rfl c) ?_
  refine E.st (s_iconst (q := 220) (v := 0) dL_law_219 rfl (by decide)) ?_
  exact E.i dL_law_220 rfl rfl rfl rfl

set_option maxRecDepth 20000 in
theorem j_L_law_a2_1 {d : Nat} (hd : 0 ≤ d) (h : AH) (i : Int32) : J true mL_law d 241 [(0, .ref 0), (1, .ref 1), (2, .ref 65), (3, .ref 94), (4, .int i)] [] h 242 [(0, .ref 0), (1, .ref 1), (2, .ref 65), (3, .ref 94), (4, .int i)] [.ref 1] h := by
  refine J.tr (s_aload_n (q := 242) dL_law_241 rfl rfl) ?_
  refine J.tr (s_ls (ls' := [(0, .ref 0), (1, .ref 1), (2, .ref 65), (3, .ref 94), (4, .int i)]) [0, 1, 2, 3, 4] rfl) ?_
  exact J.rf

set_option maxRecDepth 20000 in
theorem j_L_law_b2_1 {d : Nat} (hd : 0 ≤ d) (h : AH) (i : Int32) (r : Int32) : J true mL_law d 245 [(0, .ref 0), (1, .ref 1), (2, .ref 65), (3, .ref 94), (4, .int i)] [.int r] h 246 [(0, .ref 0), (1, .ref 1), (2, .ref 65), (3, .ref 94), (4, .int i)] [.ref 65, .int r] h := by
  refine J.tr (s_aload_n (q := 246) dL_law_245 rfl rfl) ?_
  refine J.tr (s_ls (ls' := [(0, .ref 0), (1, .ref 1), (2, .ref 65), (3, .ref 94), (4, .int i)]) [0, 1, 2, 3, 4] rfl) ?_
  exact J.rf

set_option maxRecDepth 20000 in
theorem j_L_law_c2_1 {d : Nat} (hd : 0 ≤ d) (h : AH) (i : Int32) (s : Int32) (r : Int32) (c : r = s) : J true mL_law d 249 [(0, .ref 0), (1, .ref 1), (2, .ref 65), (3, .ref 94), (4, .int i)] [.int s, .int r] h 23 [(0, .ref 0), (1, .ref 1), (2, .ref 65), (3, .ref 94), (4, .int (i + 4))] [] h := by
  refine J.tr (s_icmp_eq_t (q := 1004) dL_law_249 (by decide) c) ?_
  refine J.tr (s_iinc (q := 1007) (v := (i + 4)) (ls' := [(4, .int (i + 4)), (0, .ref 0), (1, .ref 1), (2, .ref 65), (3, .ref 94)]) dL_law_1004 rfl (by decide) rfl rfl rfl) ?_
  refine J.tr (s_goto (q := 23) dL_law_1007 (by decide)) ?_
  refine J.tr (s_ls (ls' := [(0, .ref 0), (1, .ref 1), (2, .ref 65), (3, .ref 94), (4, .int (i + 4))]) [1, 2, 3, 4, 0] rfl) ?_
  exact J.rf

set_option maxRecDepth 20000 in
theorem j_L_law_c2_2 {d : Nat} (hd : 0 ≤ d) (h : AH) (i : Int32) (s : Int32) (r : Int32) (c : ¬ (r = s)) : E true mL_law d 249 [(0, .ref 0), (1, .ref 1), (2, .ref 65), (3, .ref 94), (4, .int i)] [.int s, .int r] h (some (.int 0)) h := by
  refine E.st (s_icmp_eq_f (q := 252) (tg := 1004) dL_law_249 (by decide) rfl c) ?_
  refine E.st (s_iconst (q := 253) (v := 0) dL_law_252 rfl (by decide)) ?_
  exact E.i dL_law_253 rfl rfl rfl rfl

set_option maxRecDepth 20000 in
theorem j_L_law_a3_1 {d : Nat} (hd : 0 ≤ d) (h : AH) (i : Int32) (n : Nat) (f : Nat → Int32) (ha : h.1 0 = ia n f) (i1 : vp_in (i + 1) n) (i2 : vp_in (i + 2) n) : J true mL_law d 254 [(0, .ref 0), (1, .ref 1), (2, .ref 65), (3, .ref 94), (4, .int i)] [] h 268 [(0, .ref 0), (1, .ref 1), (2, .ref 65), (3, .ref 94), (4, .int i)] [.ref 94, .int (f (i + 2).toNatClampNeg), .int (f (i + 1).toNatClampNeg), .ref 1] h := by
  refine J.tr (s_aload_n (q := 255) dL_law_254 rfl rfl) ?_
  refine J.tr (s_aload_n (q := 256) dL_law_255 rfl rfl) ?_
  refine J.tr (s_iload (q := 258) dL_law_256 rfl rfl) ?_
  refine J.tr (s_iconst (q := 259) (v := 1) dL_law_258 rfl (by decide)) ?_
  refine J.tr (s_iadd (q := 260) dL_law_259 rfl) ?_
  refine J.tr (s_sld (q := 261) dL_law_260 rfl (ha) i1) ?_
  refine J.tr (s_aload_n (q := 262) dL_law_261 rfl rfl) ?_
  refine J.tr (s_iload (q := 264) dL_law_262 rfl rfl) ?_
  refine J.tr (s_iconst (q := 265) (v := 2) dL_law_264 rfl (by decide)) ?_
  refine J.tr (s_iadd (q := 266) dL_law_265 rfl) ?_
  refine J.tr (s_sld (q := 267) dL_law_266 rfl (ha) i2) ?_
  refine J.tr (s_aload_n (q := 268) dL_law_267 rfl rfl) ?_
  refine J.tr (s_ls (ls' := [(0, .ref 0), (1, .ref 1), (2, .ref 65), (3, .ref 94), (4, .int i)]) [0, 1, 2, 3, 4] rfl) ?_
  exact J.rf

set_option maxRecDepth 20000 in
theorem j_L_law_b3_1 {d : Nat} (hd : 0 ≤ d) (h : AH) (i : Int32) (k : Int32) (n : Nat) (f : Nat → Int32) (ha : h.1 0 = ia n f) (i1 : vp_in (i + 1) n) (i2 : vp_in (i + 2) n) : J true mL_law d 271 [(0, .ref 0), (1, .ref 1), (2, .ref 65), (3, .ref 94), (4, .int i)] [.int k] h 286 [(0, .ref 0), (1, .ref 1), (2, .ref 65), (3, .ref 94), (4, .int i), (5, .int k)] [.int (f (i + 2).toNatClampNeg), .int (f (i + 1).toNatClampNeg), .ref 65] h := by
  refine J.tr (s_istore (q := 273) (ls' := [(5, .int k), (0, .ref 0), (1, .ref 1), (2, .ref 65), (3, .ref 94), (4, .int i)]) dL_law_271 rfl (by decide) rfl) ?_
  refine J.tr (s_aload_n (q := 274) dL_law_273 rfl rfl) ?_
  refine J.tr (s_aload_n (q := 275) dL_law_274 rfl rfl) ?_
  refine J.tr (s_iload (q := 277) dL_law_275 rfl rfl) ?_
  refine J.tr (s_iconst (q := 278) (v := 1) dL_law_277 rfl (by decide)) ?_
  refine J.tr (s_iadd (q := 279) dL_law_278 rfl) ?_
  refine J.tr (s_sld (q := 280) dL_law_279 rfl (ha) i1) ?_
  refine J.tr (s_aload_n (q := 281) dL_law_280 rfl rfl) ?_
  refine J.tr (s_iload (q := 283) dL_law_281 rfl rfl) ?_
  refine J.tr (s_iconst (q := 284) (v := 2) dL_law_283 rfl (by decide)) ?_
  refine J.tr (s_iadd (q := 285) dL_law_284 rfl) ?_
  refine J.tr (s_sld (q := 286) dL_law_285 rfl (ha) i2) ?_
  refine J.tr (s_ls (ls' := [(0, .ref 0), (1, .ref 1), (2, .ref 65), (3, .ref 94), (4, .int i), (5, .int k)]) [1, 2, 3, 4, 5, 0] rfl) ?_
  exact J.rf

set_option maxRecDepth 20000 in
theorem j_L_law_c3_1 {d : Nat} (hd : 1 ≤ d) (h : AH) (i : Int32) (k : Int32) (r : Int32) (F : Nat → Value) (ho : h.1 65 = ob 8 (fo 53 F)) (v0 : Int32) (e0 : F 0 = .int v0) (c : v0 = k) (c1 : ¬ k = 0) : J true mL_law d 289 [(0, .ref 0), (1, .ref 1), (2, .ref 65), (3, .ref 94), (4, .int i), (5, .int k)] [.int r] h 23 [(0, .ref 0), (1, .ref 1), (2, .ref 65), (3, .ref 94), (4, .int (i + 4))] [] h := by
  refine J.tr (s_istore (q := 291) (ls' := [(6, .int r), (0, .ref 0), (1, .ref 1), (2, .ref 65), (3, .ref 94), (4, .int i), (5, .int k)]) dL_law_289 rfl (by decide) rfl) ?_
  refine J.tr (s_aload_n (q := 292) dL_law_291 rfl rfl) ?_
  refine J.tr (p2 := 295) (l2 := [(6, .int r), (0, .ref 0), (1, .ref 1), (2, .ref 65), (3, .ref 94), (4, .int i), (5, .int k)]) (s2 := [.int v0]) (h2 := h) (s_invv (K := mX8_thrown) (o := 65) (as := []) (rest := []) (v := some (.int v0)) dL_law_292 rfl lL_71 (by omega) rfl (Nat.le_of_ble_eq_true rfl) rfl (Nat.le_of_ble_eq_true rfl) (ho) (p_X8_thrown_1 (d := 0) (Nat.le_refl _) h 65 F ho v0 e0) (fun _ => rfl)) ?_
  refine J.tr (s_iload (q := 297) dL_law_295 rfl rfl) ?_
  refine J.tr (s_icmp_eq_t (q := 302) dL_law_297 (by decide) c) ?_
  refine J.tr (s_iload (q := 304) dL_law_302 rfl rfl) ?_
  refine J.tr (s_if_ne_t (q := 319) dL_law_304 (by decide) c1) ?_
  refine J.tr (s_goto (q := 1004) dL_law_319 (by decide)) ?_
  refine J.tr (s_iinc (q := 1007) (v := (i + 4)) (ls' := [(4, .int (i + 4)), (6, .int r), (0, .ref 0), (1, .ref 1), (2, .ref 65), (3, .ref 94), (5, .int k)]) dL_law_1004 rfl (by decide) rfl rfl rfl) ?_
  refine J.tr (s_goto (q := 23) dL_law_1007 (by decide)) ?_
  refine J.tr (s_ls (ls' := [(0, .ref 0), (1, .ref 1), (2, .ref 65), (3, .ref 94), (4, .int (i + 4))]) [2, 3, 4, 5, 0] rfl) ?_
  exact J.rf

set_option maxRecDepth 20000 in
theorem j_L_law_c3_2 {d : Nat} (hd : 1 ≤ d) (h : AH) (i : Int32) (k : Int32) (r : Int32) (F : Nat → Value) (ho : h.1 65 = ob 8 (fo 53 F)) (v0 : Int32) (e0 : F 0 = .int v0) (c : v0 = k) (c1 : k = 0) (n : Nat) (f : Nat → Int64) (ha : h.1 94 = la n f) (i1 : vp_in 0 n) (c2 : (f (0 : Int32).toNatClampNeg) = (r.toInt64)) : J true mL_law d 289 [(0, .ref 0), (1, .ref 1), (2, .ref 65), (3, .ref 94), (4, .int i), (5, .int k)] [.int r] h 23 [(0, .ref 0), (1, .ref 1), (2, .ref 65), (3, .ref 94), (4, .int (i + 4))] [] h := by
  refine J.tr (s_istore (q := 291) (ls' := [(6, .int r), (0, .ref 0), (1, .ref 1), (2, .ref 65), (3, .ref 94), (4, .int i), (5, .int k)]) dL_law_289 rfl (by decide) rfl) ?_
  refine J.tr (s_aload_n (q := 292) dL_law_291 rfl rfl) ?_
  refine J.tr (p2 := 295) (l2 := [(6, .int r), (0, .ref 0), (1, .ref 1), (2, .ref 65), (3, .ref 94), (4, .int i), (5, .int k)]) (s2 := [.int v0]) (h2 := h) (s_invv (K := mX8_thrown) (o := 65) (as := []) (rest := []) (v := some (.int v0)) dL_law_292 rfl lL_71 (by omega) rfl (Nat.le_of_ble_eq_true rfl) rfl (Nat.le_of_ble_eq_true rfl) (ho) (p_X8_thrown_1 (d := 0) (Nat.le_refl _) h 65 F ho v0 e0) (fun _ => rfl)) ?_
  refine J.tr (s_iload (q := 297) dL_law_295 rfl rfl) ?_
  refine J.tr (s_icmp_eq_t (q := 302) dL_law_297 (by decide) c) ?_
  refine J.tr (s_iload (q := 304) dL_law_302 rfl rfl) ?_
  refine J.tr (s_if_ne_f (q := 307) (tg := 319) dL_law_304 (by decide) rfl c1) ?_
  refine J.tr (s_aload_n (q := 308) dL_law_307 rfl rfl) ?_
  refine J.tr (s_iconst (q := 309) (v := 0) dL_law_308 rfl (by decide)) ?_
  refine J.tr (s_lald (q := 310) dL_law_309 rfl (ha) i1) ?_
  refine J.tr (s_iload (q := 312) dL_law_310 rfl rfl) ?_
  refine J.tr (s_i2l (q := 313) dL_law_312 rfl) ?_
  refine J.tr (s_lcmp (q := 314) dL_law_313 rfl) ?_
  refine J.tr (s_if_eq_t (q := 319) dL_law_314 (by decide) ((lgc_eq _ _).mpr c2)) ?_
  refine J.tr (s_goto (q := 1004) dL_law_319 (by decide)) ?_
  refine J.tr (s_iinc (q := 1007) (v := (i + 4)) (ls' := [(4, .int (i + 4)), (6, .int r), (0, .ref 0), (1, .ref 1), (2, .ref 65), (3, .ref 94), (5, .int k)]) dL_law_1004 rfl (by decide) rfl rfl rfl) ?_
  refine J.tr (s_goto (q := 23) dL_law_1007 (by decide)) ?_
  refine J.tr (s_ls (ls' := [(0, .ref 0), (1, .ref 1), (2, .ref 65), (3, .ref 94), (4, .int (i + 4))]) [2, 3, 4, 5, 0] rfl) ?_
  exact J.rf

set_option maxRecDepth 20000 in
theorem j_L_law_c3_3 {d : Nat} (hd : 1 ≤ d) (h : AH) (i : Int32) (k : Int32) (r : Int32) (F : Nat → Value) (ho : h.1 65 = ob 8 (fo 53 F)) (v0 : Int32) (e0 : F 0 = .int v0) (c : v0 = k) (c1 : k = 0) (n : Nat) (f : Nat → Int64) (ha : h.1 94 = la n f) (i1 : vp_in 0 n) (c2 : ¬ ((f (0 : Int32).toNatClampNeg) = (r.toInt64))) : E true mL_law d 289 [(0, .ref 0), (1, .ref 1), (2, .ref 65), (3, .ref 94), (4, .int i), (5, .int k)] [.int r] h (some (.int 0)) h := by
  refine E.st (s_istore (q := 291) (ls' := [(6, .int r), (0, .ref 0), (1, .ref 1), (2, .ref 65), (3, .ref 94), (4, .int i), (5, .int k)]) dL_law_289 rfl (by decide) rfl) ?_
  refine E.st (s_aload_n (q := 292) dL_law_291 rfl rfl) ?_
  refine E.st (p2 := 295) (l2 := [(6, .int r), (0, .ref 0), (1, .ref 1), (2, .ref 65), (3, .ref 94), (4, .int i), (5, .int k)]) (s2 := [.int v0]) (h2 := h) (s_invv (K := mX8_thrown) (o := 65) (as := []) (rest := []) (v := some (.int v0)) dL_law_292 rfl lL_71 (by omega) rfl (Nat.le_of_ble_eq_true rfl) rfl (Nat.le_of_ble_eq_true rfl) (ho) (p_X8_thrown_1 (d := 0) (Nat.le_refl _) h 65 F ho v0 e0) (fun _ => rfl)) ?_
  refine E.st (s_iload (q := 297) dL_law_295 rfl rfl) ?_
  refine E.st (s_icmp_eq_t (q := 302) dL_law_297 (by decide) c) ?_
  refine E.st (s_iload (q := 304) dL_law_302 rfl rfl) ?_
  refine E.st (s_if_ne_f (q := 307) (tg := 319) dL_law_304 (by decide) rfl c1) ?_
  refine E.st (s_aload_n (q := 308) dL_law_307 rfl rfl) ?_
  refine E.st (s_iconst (q := 309) (v := 0) dL_law_308 rfl (by decide)) ?_
  refine E.st (s_lald (q := 310) dL_law_309 rfl (ha) i1) ?_
  refine E.st (s_iload (q := 312) dL_law_310 rfl rfl) ?_
  refine E.st (s_i2l (q := 313) dL_law_312 rfl) ?_
  refine E.st (s_lcmp (q := 314) dL_law_313 rfl) ?_
  refine E.st (s_if_eq_f (q := 317) (tg := 319) dL_law_314 (by decide) rfl (fun z => c2 ((lgc_eq _ _).mp z))) ?_
  refine E.st (s_iconst (q := 318) (v := 0) dL_law_317 rfl (by decide)) ?_
  exact E.i dL_law_318 rfl rfl rfl rfl

set_option maxRecDepth 20000 in
theorem j_L_law_c3_4 {d : Nat} (hd : 1 ≤ d) (h : AH) (i : Int32) (k : Int32) (r : Int32) (F : Nat → Value) (ho : h.1 65 = ob 8 (fo 53 F)) (v0 : Int32) (e0 : F 0 = .int v0) (c : ¬ (v0 = k)) : E true mL_law d 289 [(0, .ref 0), (1, .ref 1), (2, .ref 65), (3, .ref 94), (4, .int i), (5, .int k)] [.int r] h (some (.int 0)) h := by
  refine E.st (s_istore (q := 291) (ls' := [(6, .int r), (0, .ref 0), (1, .ref 1), (2, .ref 65), (3, .ref 94), (4, .int i), (5, .int k)]) dL_law_289 rfl (by decide) rfl) ?_
  refine E.st (s_aload_n (q := 292) dL_law_291 rfl rfl) ?_
  refine E.st (p2 := 295) (l2 := [(6, .int r), (0, .ref 0), (1, .ref 1), (2, .ref 65), (3, .ref 94), (4, .int i), (5, .int k)]) (s2 := [.int v0]) (h2 := h) (s_invv (K := mX8_thrown) (o := 65) (as := []) (rest := []) (v := some (.int v0)) dL_law_292 rfl lL_71 (by omega) rfl (Nat.le_of_ble_eq_true rfl) rfl (Nat.le_of_ble_eq_true rfl) (ho) (p_X8_thrown_1 (d := 0) (Nat.le_refl _) h 65 F ho v0 e0) (fun _ => rfl)) ?_
  refine E.st (s_iload (q := 297) dL_law_295 rfl rfl) ?_
  refine E.st (s_icmp_eq_f (q := 300) (tg := 302) dL_law_297 (by decide) rfl c) ?_
  refine E.st (s_iconst (q := 301) (v := 0) dL_law_300 rfl (by decide)) ?_
  exact E.i dL_law_301 rfl rfl rfl rfl

set_option maxRecDepth 20000 in
theorem j_L_law_a4_1 {d : Nat} (hd : 0 ≤ d) (h : AH) (i : Int32) (n : Nat) (f : Nat → Int32) (ha : h.1 0 = ia n f) (i1 : vp_in (i + 1) n) (i2 : vp_in (i + 2) n) (c : (f (i + 2).toNatClampNeg) = 0) : J true mL_law d 322 [(0, .ref 0), (1, .ref 1), (2, .ref 65), (3, .ref 94), (4, .int i)] [] h 344 [(0, .ref 0), (1, .ref 1), (2, .ref 65), (3, .ref 94), (4, .int i)] [.ref 94, .int 0, .int (f (i + 1).toNatClampNeg), .ref 1] h := by
  refine J.tr (s_aload_n (q := 323) dL_law_322 rfl rfl) ?_
  refine J.tr (s_aload_n (q := 324) dL_law_323 rfl rfl) ?_
  refine J.tr (s_iload (q := 326) dL_law_324 rfl rfl) ?_
  refine J.tr (s_iconst (q := 327) (v := 1) dL_law_326 rfl (by decide)) ?_
  refine J.tr (s_iadd (q := 328) dL_law_327 rfl) ?_
  refine J.tr (s_sld (q := 329) dL_law_328 rfl (ha) i1) ?_
  refine J.tr (s_aload_n (q := 330) dL_law_329 rfl rfl) ?_
  refine J.tr (s_iload (q := 332) dL_law_330 rfl rfl) ?_
  refine J.tr (s_iconst (q := 333) (v := 2) dL_law_332 rfl (by decide)) ?_
  refine J.tr (s_iadd (q := 334) dL_law_333 rfl) ?_
  refine J.tr (s_sld (q := 335) dL_law_334 rfl (ha) i2) ?_
  refine J.tr (s_if_eq_t (q := 342) dL_law_335 (by decide) c) ?_
  refine J.tr (s_iconst (q := 343) (v := 0) dL_law_342 rfl (by decide)) ?_
  refine J.tr (s_aload_n (q := 344) dL_law_343 rfl rfl) ?_
  refine J.tr (s_ls (ls' := [(0, .ref 0), (1, .ref 1), (2, .ref 65), (3, .ref 94), (4, .int i)]) [0, 1, 2, 3, 4] rfl) ?_
  exact J.rf

set_option maxRecDepth 20000 in
theorem j_L_law_a4_2 {d : Nat} (hd : 0 ≤ d) (h : AH) (i : Int32) (n : Nat) (f : Nat → Int32) (ha : h.1 0 = ia n f) (i1 : vp_in (i + 1) n) (i2 : vp_in (i + 2) n) (c : ¬ ((f (i + 2).toNatClampNeg) = 0)) : J true mL_law d 322 [(0, .ref 0), (1, .ref 1), (2, .ref 65), (3, .ref 94), (4, .int i)] [] h 344 [(0, .ref 0), (1, .ref 1), (2, .ref 65), (3, .ref 94), (4, .int i)] [.ref 94, .int 1, .int (f (i + 1).toNatClampNeg), .ref 1] h := by
  refine J.tr (s_aload_n (q := 323) dL_law_322 rfl rfl) ?_
  refine J.tr (s_aload_n (q := 324) dL_law_323 rfl rfl) ?_
  refine J.tr (s_iload (q := 326) dL_law_324 rfl rfl) ?_
  refine J.tr (s_iconst (q := 327) (v := 1) dL_law_326 rfl (by decide)) ?_
  refine J.tr (s_iadd (q := 328) dL_law_327 rfl) ?_
  refine J.tr (s_sld (q := 329) dL_law_328 rfl (ha) i1) ?_
  refine J.tr (s_aload_n (q := 330) dL_law_329 rfl rfl) ?_
  refine J.tr (s_iload (q := 332) dL_law_330 rfl rfl) ?_
  refine J.tr (s_iconst (q := 333) (v := 2) dL_law_332 rfl (by decide)) ?_
  refine J.tr (s_iadd (q := 334) dL_law_333 rfl) ?_
  refine J.tr (s_sld (q := 335) dL_law_334 rfl (ha) i2) ?_
  refine J.tr (s_if_eq_f (q := 338) (tg := 342) dL_law_335 (by decide) rfl c) ?_
  refine J.tr (s_iconst (q := 339) (v := 1) dL_law_338 rfl (by decide)) ?_
  refine J.tr (s_goto (q := 343) dL_law_339 (by decide)) ?_
  refine J.tr (s_aload_n (q := 344) dL_law_343 rfl rfl) ?_
  refine J.tr (s_ls (ls' := [(0, .ref 0), (1, .ref 1), (2, .ref 65), (3, .ref 94), (4, .int i)]) [0, 1, 2, 3, 4] rfl) ?_
  exact J.rf

set_option maxRecDepth 20000 in
theorem j_L_law_b4_1 {d : Nat} (hd : 0 ≤ d) (h : AH) (i : Int32) (k : Int32) (n : Nat) (f : Nat → Int32) (ha : h.1 0 = ia n f) (i1 : vp_in (i + 1) n) (i2 : vp_in (i + 2) n) (c : (f (i + 2).toNatClampNeg) = 0) : J true mL_law d 347 [(0, .ref 0), (1, .ref 1), (2, .ref 65), (3, .ref 94), (4, .int i)] [.int k] h 370 [(0, .ref 0), (1, .ref 1), (2, .ref 65), (3, .ref 94), (4, .int i), (5, .int k)] [.int 0, .int (f (i + 1).toNatClampNeg), .ref 65] h := by
  refine J.tr (s_istore (q := 349) (ls' := [(5, .int k), (0, .ref 0), (1, .ref 1), (2, .ref 65), (3, .ref 94), (4, .int i)]) dL_law_347 rfl (by decide) rfl) ?_
  refine J.tr (s_aload_n (q := 350) dL_law_349 rfl rfl) ?_
  refine J.tr (s_aload_n (q := 351) dL_law_350 rfl rfl) ?_
  refine J.tr (s_iload (q := 353) dL_law_351 rfl rfl) ?_
  refine J.tr (s_iconst (q := 354) (v := 1) dL_law_353 rfl (by decide)) ?_
  refine J.tr (s_iadd (q := 355) dL_law_354 rfl) ?_
  refine J.tr (s_sld (q := 356) dL_law_355 rfl (ha) i1) ?_
  refine J.tr (s_aload_n (q := 357) dL_law_356 rfl rfl) ?_
  refine J.tr (s_iload (q := 359) dL_law_357 rfl rfl) ?_
  refine J.tr (s_iconst (q := 360) (v := 2) dL_law_359 rfl (by decide)) ?_
  refine J.tr (s_iadd (q := 361) dL_law_360 rfl) ?_
  refine J.tr (s_sld (q := 362) dL_law_361 rfl (ha) i2) ?_
  refine J.tr (s_if_eq_t (q := 369) dL_law_362 (by decide) c) ?_
  refine J.tr (s_iconst (q := 370) (v := 0) dL_law_369 rfl (by decide)) ?_
  refine J.tr (s_ls (ls' := [(0, .ref 0), (1, .ref 1), (2, .ref 65), (3, .ref 94), (4, .int i), (5, .int k)]) [1, 2, 3, 4, 5, 0] rfl) ?_
  exact J.rf

set_option maxRecDepth 20000 in
theorem j_L_law_b4_2 {d : Nat} (hd : 0 ≤ d) (h : AH) (i : Int32) (k : Int32) (n : Nat) (f : Nat → Int32) (ha : h.1 0 = ia n f) (i1 : vp_in (i + 1) n) (i2 : vp_in (i + 2) n) (c : ¬ ((f (i + 2).toNatClampNeg) = 0)) : J true mL_law d 347 [(0, .ref 0), (1, .ref 1), (2, .ref 65), (3, .ref 94), (4, .int i)] [.int k] h 370 [(0, .ref 0), (1, .ref 1), (2, .ref 65), (3, .ref 94), (4, .int i), (5, .int k)] [.int 1, .int (f (i + 1).toNatClampNeg), .ref 65] h := by
  refine J.tr (s_istore (q := 349) (ls' := [(5, .int k), (0, .ref 0), (1, .ref 1), (2, .ref 65), (3, .ref 94), (4, .int i)]) dL_law_347 rfl (by decide) rfl) ?_
  refine J.tr (s_aload_n (q := 350) dL_law_349 rfl rfl) ?_
  refine J.tr (s_aload_n (q := 351) dL_law_350 rfl rfl) ?_
  refine J.tr (s_iload (q := 353) dL_law_351 rfl rfl) ?_
  refine J.tr (s_iconst (q := 354) (v := 1) dL_law_353 rfl (by decide)) ?_
  refine J.tr (s_iadd (q := 355) dL_law_354 rfl) ?_
  refine J.tr (s_sld (q := 356) dL_law_355 rfl (ha) i1) ?_
  refine J.tr (s_aload_n (q := 357) dL_law_356 rfl rfl) ?_
  refine J.tr (s_iload (q := 359) dL_law_357 rfl rfl) ?_
  refine J.tr (s_iconst (q := 360) (v := 2) dL_law_359 rfl (by decide)) ?_
  refine J.tr (s_iadd (q := 361) dL_law_360 rfl) ?_
  refine J.tr (s_sld (q := 362) dL_law_361 rfl (ha) i2) ?_
  refine J.tr (s_if_eq_f (q := 365) (tg := 369) dL_law_362 (by decide) rfl c) ?_
  refine J.tr (s_iconst (q := 366) (v := 1) dL_law_365 rfl (by decide)) ?_
  refine J.tr (s_goto (q := 370) dL_law_366 (by decide)) ?_
  refine J.tr (s_ls (ls' := [(0, .ref 0), (1, .ref 1), (2, .ref 65), (3, .ref 94), (4, .int i), (5, .int k)]) [1, 2, 3, 4, 5, 0] rfl) ?_
  exact J.rf

set_option maxRecDepth 20000 in
theorem j_L_law_c4_1 {d : Nat} (hd : 1 ≤ d) (h : AH) (i : Int32) (k : Int32) (r : Int32) (F : Nat → Value) (ho : h.1 65 = ob 8 (fo 53 F)) (v0 : Int32) (e0 : F 0 = .int v0) (c : v0 = k) (c1 : ¬ k = 0) : J true mL_law d 373 [(0, .ref 0), (1, .ref 1), (2, .ref 65), (3, .ref 94), (4, .int i), (5, .int k)] [.int r] h 23 [(0, .ref 0), (1, .ref 1), (2, .ref 65), (3, .ref 94), (4, .int (i + 4))] [] h := by
  refine J.tr (s_istore (q := 375) (ls' := [(6, .int r), (0, .ref 0), (1, .ref 1), (2, .ref 65), (3, .ref 94), (4, .int i), (5, .int k)]) dL_law_373 rfl (by decide) rfl) ?_
  refine J.tr (s_aload_n (q := 376) dL_law_375 rfl rfl) ?_
  refine J.tr (p2 := 379) (l2 := [(6, .int r), (0, .ref 0), (1, .ref 1), (2, .ref 65), (3, .ref 94), (4, .int i), (5, .int k)]) (s2 := [.int v0]) (h2 := h) (s_invv (K := mX8_thrown) (o := 65) (as := []) (rest := []) (v := some (.int v0)) dL_law_376 rfl lL_71 (by omega) rfl (Nat.le_of_ble_eq_true rfl) rfl (Nat.le_of_ble_eq_true rfl) (ho) (p_X8_thrown_1 (d := 0) (Nat.le_refl _) h 65 F ho v0 e0) (fun _ => rfl)) ?_
  refine J.tr (s_iload (q := 381) dL_law_379 rfl rfl) ?_
  refine J.tr (s_icmp_eq_t (q := 386) dL_law_381 (by decide) c) ?_
  refine J.tr (s_iload (q := 388) dL_law_386 rfl rfl) ?_
  refine J.tr (s_if_ne_t (q := 403) dL_law_388 (by decide) c1) ?_
  refine J.tr (s_goto (q := 1004) dL_law_403 (by decide)) ?_
  refine J.tr (s_iinc (q := 1007) (v := (i + 4)) (ls' := [(4, .int (i + 4)), (6, .int r), (0, .ref 0), (1, .ref 1), (2, .ref 65), (3, .ref 94), (5, .int k)]) dL_law_1004 rfl (by decide) rfl rfl rfl) ?_
  refine J.tr (s_goto (q := 23) dL_law_1007 (by decide)) ?_
  refine J.tr (s_ls (ls' := [(0, .ref 0), (1, .ref 1), (2, .ref 65), (3, .ref 94), (4, .int (i + 4))]) [2, 3, 4, 5, 0] rfl) ?_
  exact J.rf

set_option maxRecDepth 20000 in
theorem j_L_law_c4_2 {d : Nat} (hd : 1 ≤ d) (h : AH) (i : Int32) (k : Int32) (r : Int32) (F : Nat → Value) (ho : h.1 65 = ob 8 (fo 53 F)) (v0 : Int32) (e0 : F 0 = .int v0) (c : v0 = k) (c1 : k = 0) (n : Nat) (f : Nat → Int64) (ha : h.1 94 = la n f) (i1 : vp_in 0 n) (c2 : (f (0 : Int32).toNatClampNeg) = (r.toInt64)) : J true mL_law d 373 [(0, .ref 0), (1, .ref 1), (2, .ref 65), (3, .ref 94), (4, .int i), (5, .int k)] [.int r] h 23 [(0, .ref 0), (1, .ref 1), (2, .ref 65), (3, .ref 94), (4, .int (i + 4))] [] h := by
  refine J.tr (s_istore (q := 375) (ls' := [(6, .int r), (0, .ref 0), (1, .ref 1), (2, .ref 65), (3, .ref 94), (4, .int i), (5, .int k)]) dL_law_373 rfl (by decide) rfl) ?_
  refine J.tr (s_aload_n (q := 376) dL_law_375 rfl rfl) ?_
  refine J.tr (p2 := 379) (l2 := [(6, .int r), (0, .ref 0), (1, .ref 1), (2, .ref 65), (3, .ref 94), (4, .int i), (5, .int k)]) (s2 := [.int v0]) (h2 := h) (s_invv (K := mX8_thrown) (o := 65) (as := []) (rest := []) (v := some (.int v0)) dL_law_376 rfl lL_71 (by omega) rfl (Nat.le_of_ble_eq_true rfl) rfl (Nat.le_of_ble_eq_true rfl) (ho) (p_X8_thrown_1 (d := 0) (Nat.le_refl _) h 65 F ho v0 e0) (fun _ => rfl)) ?_
  refine J.tr (s_iload (q := 381) dL_law_379 rfl rfl) ?_
  refine J.tr (s_icmp_eq_t (q := 386) dL_law_381 (by decide) c) ?_
  refine J.tr (s_iload (q := 388) dL_law_386 rfl rfl) ?_
  refine J.tr (s_if_ne_f (q := 391) (tg := 403) dL_law_388 (by decide) rfl c1) ?_
  refine J.tr (s_aload_n (q := 392) dL_law_391 rfl rfl) ?_
  refine J.tr (s_iconst (q := 393) (v := 0) dL_law_392 rfl (by decide)) ?_
  refine J.tr (s_lald (q := 394) dL_law_393 rfl (ha) i1) ?_
  refine J.tr (s_iload (q := 396) dL_law_394 rfl rfl) ?_
  refine J.tr (s_i2l (q := 397) dL_law_396 rfl) ?_
  refine J.tr (s_lcmp (q := 398) dL_law_397 rfl) ?_
  refine J.tr (s_if_eq_t (q := 403) dL_law_398 (by decide) ((lgc_eq _ _).mpr c2)) ?_
  refine J.tr (s_goto (q := 1004) dL_law_403 (by decide)) ?_
  refine J.tr (s_iinc (q := 1007) (v := (i + 4)) (ls' := [(4, .int (i + 4)), (6, .int r), (0, .ref 0), (1, .ref 1), (2, .ref 65), (3, .ref 94), (5, .int k)]) dL_law_1004 rfl (by decide) rfl rfl rfl) ?_
  refine J.tr (s_goto (q := 23) dL_law_1007 (by decide)) ?_
  refine J.tr (s_ls (ls' := [(0, .ref 0), (1, .ref 1), (2, .ref 65), (3, .ref 94), (4, .int (i + 4))]) [2, 3, 4, 5, 0] rfl) ?_
  exact J.rf

set_option maxRecDepth 20000 in
theorem j_L_law_c4_3 {d : Nat} (hd : 1 ≤ d) (h : AH) (i : Int32) (k : Int32) (r : Int32) (F : Nat → Value) (ho : h.1 65 = ob 8 (fo 53 F)) (v0 : Int32) (e0 : F 0 = .int v0) (c : v0 = k) (c1 : k = 0) (n : Nat) (f : Nat → Int64) (ha : h.1 94 = la n f) (i1 : vp_in 0 n) (c2 : ¬ ((f (0 : Int32).toNatClampNeg) = (r.toInt64))) : E true mL_law d 373 [(0, .ref 0), (1, .ref 1), (2, .ref 65), (3, .ref 94), (4, .int i), (5, .int k)] [.int r] h (some (.int 0)) h := by
  refine E.st (s_istore (q := 375) (ls' := [(6, .int r), (0, .ref 0), (1, .ref 1), (2, .ref 65), (3, .ref 94), (4, .int i), (5, .int k)]) dL_law_373 rfl (by decide) rfl) ?_
  refine E.st (s_aload_n (q := 376) dL_law_375 rfl rfl) ?_
  refine E.st (p2 := 379) (l2 := [(6, .int r), (0, .ref 0), (1, .ref 1), (2, .ref 65), (3, .ref 94), (4, .int i), (5, .int k)]) (s2 := [.int v0]) (h2 := h) (s_invv (K := mX8_thrown) (o := 65) (as := []) (rest := []) (v := some (.int v0)) dL_law_376 rfl lL_71 (by omega) rfl (Nat.le_of_ble_eq_true rfl) rfl (Nat.le_of_ble_eq_true rfl) (ho) (p_X8_thrown_1 (d := 0) (Nat.le_refl _) h 65 F ho v0 e0) (fun _ => rfl)) ?_
  refine E.st (s_iload (q := 381) dL_law_379 rfl rfl) ?_
  refine E.st (s_icmp_eq_t (q := 386) dL_law_381 (by decide) c) ?_
  refine E.st (s_iload (q := 388) dL_law_386 rfl rfl) ?_
  refine E.st (s_if_ne_f (q := 391) (tg := 403) dL_law_388 (by decide) rfl c1) ?_
  refine E.st (s_aload_n (q := 392) dL_law_391 rfl rfl) ?_
  refine E.st (s_iconst (q := 393) (v := 0) dL_law_392 rfl (by decide)) ?_
  refine E.st (s_lald (q := 394) dL_law_393 rfl (ha) i1) ?_
  refine E.st (s_iload (q := 396) dL_law_394 rfl rfl) ?_
  refine E.st (s_i2l (q := 397) dL_law_396 rfl) ?_
  refine E.st (s_lcmp (q := 398) dL_law_397 rfl) ?_
  refine E.st (s_if_eq_f (q := 401) (tg := 403) dL_law_398 (by decide) rfl (fun z => c2 ((lgc_eq _ _).mp z))) ?_
  refine E.st (s_iconst (q := 402) (v := 0) dL_law_401 rfl (by decide)) ?_
  exact E.i dL_law_402 rfl rfl rfl rfl

set_option maxRecDepth 20000 in
theorem j_L_law_c4_4 {d : Nat} (hd : 1 ≤ d) (h : AH) (i : Int32) (k : Int32) (r : Int32) (F : Nat → Value) (ho : h.1 65 = ob 8 (fo 53 F)) (v0 : Int32) (e0 : F 0 = .int v0) (c : ¬ (v0 = k)) : E true mL_law d 373 [(0, .ref 0), (1, .ref 1), (2, .ref 65), (3, .ref 94), (4, .int i), (5, .int k)] [.int r] h (some (.int 0)) h := by
  refine E.st (s_istore (q := 375) (ls' := [(6, .int r), (0, .ref 0), (1, .ref 1), (2, .ref 65), (3, .ref 94), (4, .int i), (5, .int k)]) dL_law_373 rfl (by decide) rfl) ?_
  refine E.st (s_aload_n (q := 376) dL_law_375 rfl rfl) ?_
  refine E.st (p2 := 379) (l2 := [(6, .int r), (0, .ref 0), (1, .ref 1), (2, .ref 65), (3, .ref 94), (4, .int i), (5, .int k)]) (s2 := [.int v0]) (h2 := h) (s_invv (K := mX8_thrown) (o := 65) (as := []) (rest := []) (v := some (.int v0)) dL_law_376 rfl lL_71 (by omega) rfl (Nat.le_of_ble_eq_true rfl) rfl (Nat.le_of_ble_eq_true rfl) (ho) (p_X8_thrown_1 (d := 0) (Nat.le_refl _) h 65 F ho v0 e0) (fun _ => rfl)) ?_
  refine E.st (s_iload (q := 381) dL_law_379 rfl rfl) ?_
  refine E.st (s_icmp_eq_f (q := 384) (tg := 386) dL_law_381 (by decide) rfl c) ?_
  refine E.st (s_iconst (q := 385) (v := 0) dL_law_384 rfl (by decide)) ?_
  exact E.i dL_law_385 rfl rfl rfl rfl

set_option maxRecDepth 20000 in
theorem j_L_law_a5_1 {d : Nat} (hd : 0 ≤ d) (h : AH) (i : Int32) (n : Nat) (f : Nat → Int32) (ha : h.1 0 = ia n f) (i1 : vp_in (i + 1) n) (i2 : vp_in (i + 2) n) (i3 : vp_in (i + 3) n) : J true mL_law d 406 [(0, .ref 0), (1, .ref 1), (2, .ref 65), (3, .ref 94), (4, .int i)] [] h 426 [(0, .ref 0), (1, .ref 1), (2, .ref 65), (3, .ref 94), (4, .int i)] [.ref 94, .int (f (i + 3).toNatClampNeg), .int (f (i + 2).toNatClampNeg), .int (f (i + 1).toNatClampNeg), .ref 1] h := by
  refine J.tr (s_aload_n (q := 407) dL_law_406 rfl rfl) ?_
  refine J.tr (s_aload_n (q := 408) dL_law_407 rfl rfl) ?_
  refine J.tr (s_iload (q := 410) dL_law_408 rfl rfl) ?_
  refine J.tr (s_iconst (q := 411) (v := 1) dL_law_410 rfl (by decide)) ?_
  refine J.tr (s_iadd (q := 412) dL_law_411 rfl) ?_
  refine J.tr (s_sld (q := 413) dL_law_412 rfl (ha) i1) ?_
  refine J.tr (s_aload_n (q := 414) dL_law_413 rfl rfl) ?_
  refine J.tr (s_iload (q := 416) dL_law_414 rfl rfl) ?_
  refine J.tr (s_iconst (q := 417) (v := 2) dL_law_416 rfl (by decide)) ?_
  refine J.tr (s_iadd (q := 418) dL_law_417 rfl) ?_
  refine J.tr (s_sld (q := 419) dL_law_418 rfl (ha) i2) ?_
  refine J.tr (s_aload_n (q := 420) dL_law_419 rfl rfl) ?_
  refine J.tr (s_iload (q := 422) dL_law_420 rfl rfl) ?_
  refine J.tr (s_iconst (q := 423) (v := 3) dL_law_422 rfl (by decide)) ?_
  refine J.tr (s_iadd (q := 424) dL_law_423 rfl) ?_
  refine J.tr (s_sld (q := 425) dL_law_424 rfl (ha) i3) ?_
  refine J.tr (s_aload_n (q := 426) dL_law_425 rfl rfl) ?_
  refine J.tr (s_ls (ls' := [(0, .ref 0), (1, .ref 1), (2, .ref 65), (3, .ref 94), (4, .int i)]) [0, 1, 2, 3, 4] rfl) ?_
  exact J.rf

set_option maxRecDepth 20000 in
theorem j_L_law_b5_1 {d : Nat} (hd : 0 ≤ d) (h : AH) (i : Int32) (k : Int32) (n : Nat) (f : Nat → Int32) (ha : h.1 0 = ia n f) (i1 : vp_in (i + 1) n) (i2 : vp_in (i + 2) n) (i3 : vp_in (i + 3) n) : J true mL_law d 429 [(0, .ref 0), (1, .ref 1), (2, .ref 65), (3, .ref 94), (4, .int i)] [.int k] h 450 [(0, .ref 0), (1, .ref 1), (2, .ref 65), (3, .ref 94), (4, .int i), (5, .int k)] [.int (f (i + 3).toNatClampNeg), .int (f (i + 2).toNatClampNeg), .int (f (i + 1).toNatClampNeg), .ref 65] h := by
  refine J.tr (s_istore (q := 431) (ls' := [(5, .int k), (0, .ref 0), (1, .ref 1), (2, .ref 65), (3, .ref 94), (4, .int i)]) dL_law_429 rfl (by decide) rfl) ?_
  refine J.tr (s_aload_n (q := 432) dL_law_431 rfl rfl) ?_
  refine J.tr (s_aload_n (q := 433) dL_law_432 rfl rfl) ?_
  refine J.tr (s_iload (q := 435) dL_law_433 rfl rfl) ?_
  refine J.tr (s_iconst (q := 436) (v := 1) dL_law_435 rfl (by decide)) ?_
  refine J.tr (s_iadd (q := 437) dL_law_436 rfl) ?_
  refine J.tr (s_sld (q := 438) dL_law_437 rfl (ha) i1) ?_
  refine J.tr (s_aload_n (q := 439) dL_law_438 rfl rfl) ?_
  refine J.tr (s_iload (q := 441) dL_law_439 rfl rfl) ?_
  refine J.tr (s_iconst (q := 442) (v := 2) dL_law_441 rfl (by decide)) ?_
  refine J.tr (s_iadd (q := 443) dL_law_442 rfl) ?_
  refine J.tr (s_sld (q := 444) dL_law_443 rfl (ha) i2) ?_
  refine J.tr (s_aload_n (q := 445) dL_law_444 rfl rfl) ?_
  refine J.tr (s_iload (q := 447) dL_law_445 rfl rfl) ?_
  refine J.tr (s_iconst (q := 448) (v := 3) dL_law_447 rfl (by decide)) ?_
  refine J.tr (s_iadd (q := 449) dL_law_448 rfl) ?_
  refine J.tr (s_sld (q := 450) dL_law_449 rfl (ha) i3) ?_
  refine J.tr (s_ls (ls' := [(0, .ref 0), (1, .ref 1), (2, .ref 65), (3, .ref 94), (4, .int i), (5, .int k)]) [1, 2, 3, 4, 5, 0] rfl) ?_
  exact J.rf

set_option maxRecDepth 20000 in
theorem j_L_law_c5_1 {d : Nat} (hd : 1 ≤ d) (h : AH) (i : Int32) (k : Int32) (r : Int32) (F : Nat → Value) (ho : h.1 65 = ob 8 (fo 53 F)) (v0 : Int32) (e0 : F 0 = .int v0) (c : v0 = k) (c1 : ¬ k = 0) : J true mL_law d 453 [(0, .ref 0), (1, .ref 1), (2, .ref 65), (3, .ref 94), (4, .int i), (5, .int k)] [.int r] h 23 [(0, .ref 0), (1, .ref 1), (2, .ref 65), (3, .ref 94), (4, .int (i + 4))] [] h := by
  refine J.tr (s_istore (q := 455) (ls' := [(6, .int r), (0, .ref 0), (1, .ref 1), (2, .ref 65), (3, .ref 94), (4, .int i), (5, .int k)]) dL_law_453 rfl (by decide) rfl) ?_
  refine J.tr (s_aload_n (q := 456) dL_law_455 rfl rfl) ?_
  refine J.tr (p2 := 459) (l2 := [(6, .int r), (0, .ref 0), (1, .ref 1), (2, .ref 65), (3, .ref 94), (4, .int i), (5, .int k)]) (s2 := [.int v0]) (h2 := h) (s_invv (K := mX8_thrown) (o := 65) (as := []) (rest := []) (v := some (.int v0)) dL_law_456 rfl lL_71 (by omega) rfl (Nat.le_of_ble_eq_true rfl) rfl (Nat.le_of_ble_eq_true rfl) (ho) (p_X8_thrown_1 (d := 0) (Nat.le_refl _) h 65 F ho v0 e0) (fun _ => rfl)) ?_
  refine J.tr (s_iload (q := 461) dL_law_459 rfl rfl) ?_
  refine J.tr (s_icmp_eq_t (q := 466) dL_law_461 (by decide) c) ?_
  refine J.tr (s_iload (q := 468) dL_law_466 rfl rfl) ?_
  refine J.tr (s_if_ne_t (q := 483) dL_law_468 (by decide) c1) ?_
  refine J.tr (s_goto (q := 1004) dL_law_483 (by decide)) ?_
  refine J.tr (s_iinc (q := 1007) (v := (i + 4)) (ls' := [(4, .int (i + 4)), (6, .int r), (0, .ref 0), (1, .ref 1), (2, .ref 65), (3, .ref 94), (5, .int k)]) dL_law_1004 rfl (by decide) rfl rfl rfl) ?_
  refine J.tr (s_goto (q := 23) dL_law_1007 (by decide)) ?_
  refine J.tr (s_ls (ls' := [(0, .ref 0), (1, .ref 1), (2, .ref 65), (3, .ref 94), (4, .int (i + 4))]) [2, 3, 4, 5, 0] rfl) ?_
  exact J.rf

set_option maxRecDepth 20000 in
theorem j_L_law_c5_2 {d : Nat} (hd : 1 ≤ d) (h : AH) (i : Int32) (k : Int32) (r : Int32) (F : Nat → Value) (ho : h.1 65 = ob 8 (fo 53 F)) (v0 : Int32) (e0 : F 0 = .int v0) (c : v0 = k) (c1 : k = 0) (n : Nat) (f : Nat → Int64) (ha : h.1 94 = la n f) (i1 : vp_in 0 n) (c2 : (f (0 : Int32).toNatClampNeg) = (r.toInt64)) : J true mL_law d 453 [(0, .ref 0), (1, .ref 1), (2, .ref 65), (3, .ref 94), (4, .int i), (5, .int k)] [.int r] h 23 [(0, .ref 0), (1, .ref 1), (2, .ref 65), (3, .ref 94), (4, .int (i + 4))] [] h := by
  refine J.tr (s_istore (q := 455) (ls' := [(6, .int r), (0, .ref 0), (1, .ref 1), (2, .ref 65), (3, .ref 94), (4, .int i), (5, .int k)]) dL_law_453 rfl (by decide) rfl) ?_
  refine J.tr (s_aload_n (q := 456) dL_law_455 rfl rfl) ?_
  refine J.tr (p2 := 459) (l2 := [(6, .int r), (0, .ref 0), (1, .ref 1), (2, .ref 65), (3, .ref 94), (4, .int i), (5, .int k)]) (s2 := [.int v0]) (h2 := h) (s_invv (K := mX8_thrown) (o := 65) (as := []) (rest := []) (v := some (.int v0)) dL_law_456 rfl lL_71 (by omega) rfl (Nat.le_of_ble_eq_true rfl) rfl (Nat.le_of_ble_eq_true rfl) (ho) (p_X8_thrown_1 (d := 0) (Nat.le_refl _) h 65 F ho v0 e0) (fun _ => rfl)) ?_
  refine J.tr (s_iload (q := 461) dL_law_459 rfl rfl) ?_
  refine J.tr (s_icmp_eq_t (q := 466) dL_law_461 (by decide) c) ?_
  refine J.tr (s_iload (q := 468) dL_law_466 rfl rfl) ?_
  refine J.tr (s_if_ne_f (q := 471) (tg := 483) dL_law_468 (by decide) rfl c1) ?_
  refine J.tr (s_aload_n (q := 472) dL_law_471 rfl rfl) ?_
  refine J.tr (s_iconst (q := 473) (v := 0) dL_law_472 rfl (by decide)) ?_
  refine J.tr (s_lald (q := 474) dL_law_473 rfl (ha) i1) ?_
  refine J.tr (s_iload (q := 476) dL_law_474 rfl rfl) ?_
  refine J.tr (s_i2l (q := 477) dL_law_476 rfl) ?_
  refine J.tr (s_lcmp (q := 478) dL_law_477 rfl) ?_
  refine J.tr (s_if_eq_t (q := 483) dL_law_478 (by decide) ((lgc_eq _ _).mpr c2)) ?_
  refine J.tr (s_goto (q := 1004) dL_law_483 (by decide)) ?_
  refine J.tr (s_iinc (q := 1007) (v := (i + 4)) (ls' := [(4, .int (i + 4)), (6, .int r), (0, .ref 0), (1, .ref 1), (2, .ref 65), (3, .ref 94), (5, .int k)]) dL_law_1004 rfl (by decide) rfl rfl rfl) ?_
  refine J.tr (s_goto (q := 23) dL_law_1007 (by decide)) ?_
  refine J.tr (s_ls (ls' := [(0, .ref 0), (1, .ref 1), (2, .ref 65), (3, .ref 94), (4, .int (i + 4))]) [2, 3, 4, 5, 0] rfl) ?_
  exact J.rf

set_option maxRecDepth 20000 in
theorem j_L_law_c5_3 {d : Nat} (hd : 1 ≤ d) (h : AH) (i : Int32) (k : Int32) (r : Int32) (F : Nat → Value) (ho : h.1 65 = ob 8 (fo 53 F)) (v0 : Int32) (e0 : F 0 = .int v0) (c : v0 = k) (c1 : k = 0) (n : Nat) (f : Nat → Int64) (ha : h.1 94 = la n f) (i1 : vp_in 0 n) (c2 : ¬ ((f (0 : Int32).toNatClampNeg) = (r.toInt64))) : E true mL_law d 453 [(0, .ref 0), (1, .ref 1), (2, .ref 65), (3, .ref 94), (4, .int i), (5, .int k)] [.int r] h (some (.int 0)) h := by
  refine E.st (s_istore (q := 455) (ls' := [(6, .int r), (0, .ref 0), (1, .ref 1), (2, .ref 65), (3, .ref 94), (4, .int i), (5, .int k)]) dL_law_453 rfl (by decide) rfl) ?_
  refine E.st (s_aload_n (q := 456) dL_law_455 rfl rfl) ?_
  refine E.st (p2 := 459) (l2 := [(6, .int r), (0, .ref 0), (1, .ref 1), (2, .ref 65), (3, .ref 94), (4, .int i), (5, .int k)]) (s2 := [.int v0]) (h2 := h) (s_invv (K := mX8_thrown) (o := 65) (as := []) (rest := []) (v := some (.int v0)) dL_law_456 rfl lL_71 (by omega) rfl (Nat.le_of_ble_eq_true rfl) rfl (Nat.le_of_ble_eq_true rfl) (ho) (p_X8_thrown_1 (d := 0) (Nat.le_refl _) h 65 F ho v0 e0) (fun _ => rfl)) ?_
  refine E.st (s_iload (q := 461) dL_law_459 rfl rfl) ?_
  refine E.st (s_icmp_eq_t (q := 466) dL_law_461 (by decide) c) ?_
  refine E.st (s_iload (q := 468) dL_law_466 rfl rfl) ?_
  refine E.st (s_if_ne_f (q := 471) (tg := 483) dL_law_468 (by decide) rfl c1) ?_
  refine E.st (s_aload_n (q := 472) dL_law_471 rfl rfl) ?_
  refine E.st (s_iconst (q := 473) (v := 0) dL_law_472 rfl (by decide)) ?_
  refine E.st (s_lald (q := 474) dL_law_473 rfl (ha) i1) ?_
  refine E.st (s_iload (q := 476) dL_law_474 rfl rfl) ?_
  refine E.st (s_i2l (q := 477) dL_law_476 rfl) ?_
  refine E.st (s_lcmp (q := 478) dL_law_477 rfl) ?_
  refine E.st (s_if_eq_f (q := 481) (tg := 483) dL_law_478 (by decide) rfl (fun z => c2 ((lgc_eq _ _).mp z))) ?_
  refine E.st (s_iconst (q := 482) (v := 0) dL_law_481 rfl (by decide)) ?_
  exact E.i dL_law_482 rfl rfl rfl rfl

set_option maxRecDepth 20000 in
theorem j_L_law_c5_4 {d : Nat} (hd : 1 ≤ d) (h : AH) (i : Int32) (k : Int32) (r : Int32) (F : Nat → Value) (ho : h.1 65 = ob 8 (fo 53 F)) (v0 : Int32) (e0 : F 0 = .int v0) (c : ¬ (v0 = k)) : E true mL_law d 453 [(0, .ref 0), (1, .ref 1), (2, .ref 65), (3, .ref 94), (4, .int i), (5, .int k)] [.int r] h (some (.int 0)) h := by
  refine E.st (s_istore (q := 455) (ls' := [(6, .int r), (0, .ref 0), (1, .ref 1), (2, .ref 65), (3, .ref 94), (4, .int i), (5, .int k)]) dL_law_453 rfl (by decide) rfl) ?_
  refine E.st (s_aload_n (q := 456) dL_law_455 rfl rfl) ?_
  refine E.st (p2 := 459) (l2 := [(6, .int r), (0, .ref 0), (1, .ref 1), (2, .ref 65), (3, .ref 94), (4, .int i), (5, .int k)]) (s2 := [.int v0]) (h2 := h) (s_invv (K := mX8_thrown) (o := 65) (as := []) (rest := []) (v := some (.int v0)) dL_law_456 rfl lL_71 (by omega) rfl (Nat.le_of_ble_eq_true rfl) rfl (Nat.le_of_ble_eq_true rfl) (ho) (p_X8_thrown_1 (d := 0) (Nat.le_refl _) h 65 F ho v0 e0) (fun _ => rfl)) ?_
  refine E.st (s_iload (q := 461) dL_law_459 rfl rfl) ?_
  refine E.st (s_icmp_eq_f (q := 464) (tg := 466) dL_law_461 (by decide) rfl c) ?_
  refine E.st (s_iconst (q := 465) (v := 0) dL_law_464 rfl (by decide)) ?_
  exact E.i dL_law_465 rfl rfl rfl rfl

set_option maxRecDepth 20000 in
theorem j_L_law_a6_1 {d : Nat} (hd : 0 ≤ d) (h : AH) (i : Int32) (n : Nat) (f : Nat → Int32) (ha : h.1 0 = ia n f) (i1 : vp_in (i + 1) n) (i2 : vp_in (i + 2) n) (i3 : vp_in (i + 3) n) : J true mL_law d 486 [(0, .ref 0), (1, .ref 1), (2, .ref 65), (3, .ref 94), (4, .int i)] [] h 506 [(0, .ref 0), (1, .ref 1), (2, .ref 65), (3, .ref 94), (4, .int i)] [.ref 94, .int (f (i + 3).toNatClampNeg), .int (f (i + 2).toNatClampNeg), .int (f (i + 1).toNatClampNeg), .ref 1] h := by
  refine J.tr (s_aload_n (q := 487) dL_law_486 rfl rfl) ?_
  refine J.tr (s_aload_n (q := 488) dL_law_487 rfl rfl) ?_
  refine J.tr (s_iload (q := 490) dL_law_488 rfl rfl) ?_
  refine J.tr (s_iconst (q := 491) (v := 1) dL_law_490 rfl (by decide)) ?_
  refine J.tr (s_iadd (q := 492) dL_law_491 rfl) ?_
  refine J.tr (s_sld (q := 493) dL_law_492 rfl (ha) i1) ?_
  refine J.tr (s_aload_n (q := 494) dL_law_493 rfl rfl) ?_
  refine J.tr (s_iload (q := 496) dL_law_494 rfl rfl) ?_
  refine J.tr (s_iconst (q := 497) (v := 2) dL_law_496 rfl (by decide)) ?_
  refine J.tr (s_iadd (q := 498) dL_law_497 rfl) ?_
  refine J.tr (s_sld (q := 499) dL_law_498 rfl (ha) i2) ?_
  refine J.tr (s_aload_n (q := 500) dL_law_499 rfl rfl) ?_
  refine J.tr (s_iload (q := 502) dL_law_500 rfl rfl) ?_
  refine J.tr (s_iconst (q := 503) (v := 3) dL_law_502 rfl (by decide)) ?_
  refine J.tr (s_iadd (q := 504) dL_law_503 rfl) ?_
  refine J.tr (s_sld (q := 505) dL_law_504 rfl (ha) i3) ?_
  refine J.tr (s_aload_n (q := 506) dL_law_505 rfl rfl) ?_
  refine J.tr (s_ls (ls' := [(0, .ref 0), (1, .ref 1), (2, .ref 65), (3, .ref 94), (4, .int i)]) [0, 1, 2, 3, 4] rfl) ?_
  exact J.rf

set_option maxRecDepth 20000 in
theorem j_L_law_b6_1 {d : Nat} (hd : 0 ≤ d) (h : AH) (i : Int32) (k : Int32) (n : Nat) (f : Nat → Int32) (ha : h.1 0 = ia n f) (i1 : vp_in (i + 1) n) (i2 : vp_in (i + 2) n) (i3 : vp_in (i + 3) n) : J true mL_law d 509 [(0, .ref 0), (1, .ref 1), (2, .ref 65), (3, .ref 94), (4, .int i)] [.int k] h 530 [(0, .ref 0), (1, .ref 1), (2, .ref 65), (3, .ref 94), (4, .int i), (5, .int k)] [.int (f (i + 3).toNatClampNeg), .int (f (i + 2).toNatClampNeg), .int (f (i + 1).toNatClampNeg), .ref 65] h := by
  refine J.tr (s_istore (q := 511) (ls' := [(5, .int k), (0, .ref 0), (1, .ref 1), (2, .ref 65), (3, .ref 94), (4, .int i)]) dL_law_509 rfl (by decide) rfl) ?_
  refine J.tr (s_aload_n (q := 512) dL_law_511 rfl rfl) ?_
  refine J.tr (s_aload_n (q := 513) dL_law_512 rfl rfl) ?_
  refine J.tr (s_iload (q := 515) dL_law_513 rfl rfl) ?_
  refine J.tr (s_iconst (q := 516) (v := 1) dL_law_515 rfl (by decide)) ?_
  refine J.tr (s_iadd (q := 517) dL_law_516 rfl) ?_
  refine J.tr (s_sld (q := 518) dL_law_517 rfl (ha) i1) ?_
  refine J.tr (s_aload_n (q := 519) dL_law_518 rfl rfl) ?_
  refine J.tr (s_iload (q := 521) dL_law_519 rfl rfl) ?_
  refine J.tr (s_iconst (q := 522) (v := 2) dL_law_521 rfl (by decide)) ?_
  refine J.tr (s_iadd (q := 523) dL_law_522 rfl) ?_
  refine J.tr (s_sld (q := 524) dL_law_523 rfl (ha) i2) ?_
  refine J.tr (s_aload_n (q := 525) dL_law_524 rfl rfl) ?_
  refine J.tr (s_iload (q := 527) dL_law_525 rfl rfl) ?_
  refine J.tr (s_iconst (q := 528) (v := 3) dL_law_527 rfl (by decide)) ?_
  refine J.tr (s_iadd (q := 529) dL_law_528 rfl) ?_
  refine J.tr (s_sld (q := 530) dL_law_529 rfl (ha) i3) ?_
  refine J.tr (s_ls (ls' := [(0, .ref 0), (1, .ref 1), (2, .ref 65), (3, .ref 94), (4, .int i), (5, .int k)]) [1, 2, 3, 4, 5, 0] rfl) ?_
  exact J.rf

set_option maxRecDepth 20000 in
theorem j_L_law_c6_1 {d : Nat} (hd : 1 ≤ d) (h : AH) (i : Int32) (k : Int32) (r : Int32) (F : Nat → Value) (ho : h.1 65 = ob 8 (fo 53 F)) (v0 : Int32) (e0 : F 0 = .int v0) (c : v0 = k) (c1 : ¬ k = 0) : J true mL_law d 533 [(0, .ref 0), (1, .ref 1), (2, .ref 65), (3, .ref 94), (4, .int i), (5, .int k)] [.int r] h 23 [(0, .ref 0), (1, .ref 1), (2, .ref 65), (3, .ref 94), (4, .int (i + 4))] [] h := by
  refine J.tr (s_istore (q := 535) (ls' := [(6, .int r), (0, .ref 0), (1, .ref 1), (2, .ref 65), (3, .ref 94), (4, .int i), (5, .int k)]) dL_law_533 rfl (by decide) rfl) ?_
  refine J.tr (s_aload_n (q := 536) dL_law_535 rfl rfl) ?_
  refine J.tr (p2 := 539) (l2 := [(6, .int r), (0, .ref 0), (1, .ref 1), (2, .ref 65), (3, .ref 94), (4, .int i), (5, .int k)]) (s2 := [.int v0]) (h2 := h) (s_invv (K := mX8_thrown) (o := 65) (as := []) (rest := []) (v := some (.int v0)) dL_law_536 rfl lL_71 (by omega) rfl (Nat.le_of_ble_eq_true rfl) rfl (Nat.le_of_ble_eq_true rfl) (ho) (p_X8_thrown_1 (d := 0) (Nat.le_refl _) h 65 F ho v0 e0) (fun _ => rfl)) ?_
  refine J.tr (s_iload (q := 541) dL_law_539 rfl rfl) ?_
  refine J.tr (s_icmp_eq_t (q := 546) dL_law_541 (by decide) c) ?_
  refine J.tr (s_iload (q := 548) dL_law_546 rfl rfl) ?_
  refine J.tr (s_if_ne_t (q := 563) dL_law_548 (by decide) c1) ?_
  refine J.tr (s_goto (q := 1004) dL_law_563 (by decide)) ?_
  refine J.tr (s_iinc (q := 1007) (v := (i + 4)) (ls' := [(4, .int (i + 4)), (6, .int r), (0, .ref 0), (1, .ref 1), (2, .ref 65), (3, .ref 94), (5, .int k)]) dL_law_1004 rfl (by decide) rfl rfl rfl) ?_
  refine J.tr (s_goto (q := 23) dL_law_1007 (by decide)) ?_
  refine J.tr (s_ls (ls' := [(0, .ref 0), (1, .ref 1), (2, .ref 65), (3, .ref 94), (4, .int (i + 4))]) [2, 3, 4, 5, 0] rfl) ?_
  exact J.rf

set_option maxRecDepth 20000 in
theorem j_L_law_c6_2 {d : Nat} (hd : 1 ≤ d) (h : AH) (i : Int32) (k : Int32) (r : Int32) (F : Nat → Value) (ho : h.1 65 = ob 8 (fo 53 F)) (v0 : Int32) (e0 : F 0 = .int v0) (c : v0 = k) (c1 : k = 0) (n : Nat) (f : Nat → Int64) (ha : h.1 94 = la n f) (i1 : vp_in 0 n) (c2 : (f (0 : Int32).toNatClampNeg) = (r.toInt64)) : J true mL_law d 533 [(0, .ref 0), (1, .ref 1), (2, .ref 65), (3, .ref 94), (4, .int i), (5, .int k)] [.int r] h 23 [(0, .ref 0), (1, .ref 1), (2, .ref 65), (3, .ref 94), (4, .int (i + 4))] [] h := by
  refine J.tr (s_istore (q := 535) (ls' := [(6, .int r), (0, .ref 0), (1, .ref 1), (2, .ref 65), (3, .ref 94), (4, .int i), (5, .int k)]) dL_law_533 rfl (by decide) rfl) ?_
  refine J.tr (s_aload_n (q := 536) dL_law_535 rfl rfl) ?_
  refine J.tr (p2 := 539) (l2 := [(6, .int r), (0, .ref 0), (1, .ref 1), (2, .ref 65), (3, .ref 94), (4, .int i), (5, .int k)]) (s2 := [.int v0]) (h2 := h) (s_invv (K := mX8_thrown) (o := 65) (as := []) (rest := []) (v := some (.int v0)) dL_law_536 rfl lL_71 (by omega) rfl (Nat.le_of_ble_eq_true rfl) rfl (Nat.le_of_ble_eq_true rfl) (ho) (p_X8_thrown_1 (d := 0) (Nat.le_refl _) h 65 F ho v0 e0) (fun _ => rfl)) ?_
  refine J.tr (s_iload (q := 541) dL_law_539 rfl rfl) ?_
  refine J.tr (s_icmp_eq_t (q := 546) dL_law_541 (by decide) c) ?_
  refine J.tr (s_iload (q := 548) dL_law_546 rfl rfl) ?_
  refine J.tr (s_if_ne_f (q := 551) (tg := 563) dL_law_548 (by decide) rfl c1) ?_
  refine J.tr (s_aload_n (q := 552) dL_law_551 rfl rfl) ?_
  refine J.tr (s_iconst (q := 553) (v := 0) dL_law_552 rfl (by decide)) ?_
  refine J.tr (s_lald (q := 554) dL_law_553 rfl (ha) i1) ?_
  refine J.tr (s_iload (q := 556) dL_law_554 rfl rfl) ?_
  refine J.tr (s_i2l (q := 557) dL_law_556 rfl) ?_
  refine J.tr (s_lcmp (q := 558) dL_law_557 rfl) ?_
  refine J.tr (s_if_eq_t (q := 563) dL_law_558 (by decide) ((lgc_eq _ _).mpr c2)) ?_
  refine J.tr (s_goto (q := 1004) dL_law_563 (by decide)) ?_
  refine J.tr (s_iinc (q := 1007) (v := (i + 4)) (ls' := [(4, .int (i + 4)), (6, .int r), (0, .ref 0), (1, .ref 1), (2, .ref 65), (3, .ref 94), (5, .int k)]) dL_law_1004 rfl (by decide) rfl rfl rfl) ?_
  refine J.tr (s_goto (q := 23) dL_law_1007 (by decide)) ?_
  refine J.tr (s_ls (ls' := [(0, .ref 0), (1, .ref 1), (2, .ref 65), (3, .ref 94), (4, .int (i + 4))]) [2, 3, 4, 5, 0] rfl) ?_
  exact J.rf

set_option maxRecDepth 20000 in
theorem j_L_law_c6_3 {d : Nat} (hd : 1 ≤ d) (h : AH) (i : Int32) (k : Int32) (r : Int32) (F : Nat → Value) (ho : h.1 65 = ob 8 (fo 53 F)) (v0 : Int32) (e0 : F 0 = .int v0) (c : v0 = k) (c1 : k = 0) (n : Nat) (f : Nat → Int64) (ha : h.1 94 = la n f) (i1 : vp_in 0 n) (c2 : ¬ ((f (0 : Int32).toNatClampNeg) = (r.toInt64))) : E true mL_law d 533 [(0, .ref 0), (1, .ref 1), (2, .ref 65), (3, .ref 94), (4, .int i), (5, .int k)] [.int r] h (some (.int 0)) h := by
  refine E.st (s_istore (q := 535) (ls' := [(6, .int r), (0, .ref 0), (1, .ref 1), (2, .ref 65), (3, .ref 94), (4, .int i), (5, .int k)]) dL_law_533 rfl (by decide) rfl) ?_
  refine E.st (s_aload_n (q := 536) dL_law_535 rfl rfl) ?_
  refine E.st (p2 := 539) (l2 := [(6, .int r), (0, .ref 0), (1, .ref 1), (2, .ref 65), (3, .ref 94), (4, .int i), (5, .int k)]) (s2 := [.int v0]) (h2 := h) (s_invv (K := mX8_thrown) (o := 65) (as := []) (rest := []) (v := some (.int v0)) dL_law_536 rfl lL_71 (by omega) rfl (Nat.le_of_ble_eq_true rfl) rfl (Nat.le_of_ble_eq_true rfl) (ho) (p_X8_thrown_1 (d := 0) (Nat.le_refl _) h 65 F ho v0 e0) (fun _ => rfl)) ?_
  refine E.st (s_iload (q := 541) dL_law_539 rfl rfl) ?_
  refine E.st (s_icmp_eq_t (q := 546) dL_law_541 (by decide) c) ?_
  refine E.st (s_iload (q := 548) dL_law_546 rfl rfl) ?_
  refine E.st (s_if_ne_f (q := 551) (tg := 563) dL_law_548 (by decide) rfl c1) ?_
  refine E.st (s_aload_n (q := 552) dL_law_551 rfl rfl) ?_
  refine E.st (s_iconst (q := 553) (v := 0) dL_law_552 rfl (by decide)) ?_
  refine E.st (s_lald (q := 554) dL_law_553 rfl (ha) i1) ?_
  refine E.st (s_iload (q := 556) dL_law_554 rfl rfl) ?_
  refine E.st (s_i2l (q := 557) dL_law_556 rfl) ?_
  refine E.st (s_lcmp (q := 558) dL_law_557 rfl) ?_
  refine E.st (s_if_eq_f (q := 561) (tg := 563) dL_law_558 (by decide) rfl (fun z => c2 ((lgc_eq _ _).mp z))) ?_
  refine E.st (s_iconst (q := 562) (v := 0) dL_law_561 rfl (by decide)) ?_
  exact E.i dL_law_562 rfl rfl rfl rfl

set_option maxRecDepth 20000 in
theorem j_L_law_c6_4 {d : Nat} (hd : 1 ≤ d) (h : AH) (i : Int32) (k : Int32) (r : Int32) (F : Nat → Value) (ho : h.1 65 = ob 8 (fo 53 F)) (v0 : Int32) (e0 : F 0 = .int v0) (c : ¬ (v0 = k)) : E true mL_law d 533 [(0, .ref 0), (1, .ref 1), (2, .ref 65), (3, .ref 94), (4, .int i), (5, .int k)] [.int r] h (some (.int 0)) h := by
  refine E.st (s_istore (q := 535) (ls' := [(6, .int r), (0, .ref 0), (1, .ref 1), (2, .ref 65), (3, .ref 94), (4, .int i), (5, .int k)]) dL_law_533 rfl (by decide) rfl) ?_
  refine E.st (s_aload_n (q := 536) dL_law_535 rfl rfl) ?_
  refine E.st (p2 := 539) (l2 := [(6, .int r), (0, .ref 0), (1, .ref 1), (2, .ref 65), (3, .ref 94), (4, .int i), (5, .int k)]) (s2 := [.int v0]) (h2 := h) (s_invv (K := mX8_thrown) (o := 65) (as := []) (rest := []) (v := some (.int v0)) dL_law_536 rfl lL_71 (by omega) rfl (Nat.le_of_ble_eq_true rfl) rfl (Nat.le_of_ble_eq_true rfl) (ho) (p_X8_thrown_1 (d := 0) (Nat.le_refl _) h 65 F ho v0 e0) (fun _ => rfl)) ?_
  refine E.st (s_iload (q := 541) dL_law_539 rfl rfl) ?_
  refine E.st (s_icmp_eq_f (q := 544) (tg := 546) dL_law_541 (by decide) rfl c) ?_
  refine E.st (s_iconst (q := 545) (v := 0) dL_law_544 rfl (by decide)) ?_
  exact E.i dL_law_545 rfl rfl rfl rfl

set_option maxRecDepth 20000 in
theorem j_L_law_a7_1 {d : Nat} (hd : 0 ≤ d) (h : AH) (i : Int32) (n : Nat) (f : Nat → Int32) (ha : h.1 0 = ia n f) (i1 : vp_in (i + 1) n) (i2 : vp_in (i + 2) n) : J true mL_law d 566 [(0, .ref 0), (1, .ref 1), (2, .ref 65), (3, .ref 94), (4, .int i)] [] h 580 [(0, .ref 0), (1, .ref 1), (2, .ref 65), (3, .ref 94), (4, .int i)] [.ref 94, .int (f (i + 2).toNatClampNeg), .int (f (i + 1).toNatClampNeg), .ref 1] h := by
  refine J.tr (s_aload_n (q := 567) dL_law_566 rfl rfl) ?_
  refine J.tr (s_aload_n (q := 568) dL_law_567 rfl rfl) ?_
  refine J.tr (s_iload (q := 570) dL_law_568 rfl rfl) ?_
  refine J.tr (s_iconst (q := 571) (v := 1) dL_law_570 rfl (by decide)) ?_
  refine J.tr (s_iadd (q := 572) dL_law_571 rfl) ?_
  refine J.tr (s_sld (q := 573) dL_law_572 rfl (ha) i1) ?_
  refine J.tr (s_aload_n (q := 574) dL_law_573 rfl rfl) ?_
  refine J.tr (s_iload (q := 576) dL_law_574 rfl rfl) ?_
  refine J.tr (s_iconst (q := 577) (v := 2) dL_law_576 rfl (by decide)) ?_
  refine J.tr (s_iadd (q := 578) dL_law_577 rfl) ?_
  refine J.tr (s_sld (q := 579) dL_law_578 rfl (ha) i2) ?_
  refine J.tr (s_aload_n (q := 580) dL_law_579 rfl rfl) ?_
  refine J.tr (s_ls (ls' := [(0, .ref 0), (1, .ref 1), (2, .ref 65), (3, .ref 94), (4, .int i)]) [0, 1, 2, 3, 4] rfl) ?_
  exact J.rf

set_option maxRecDepth 20000 in
theorem j_L_law_b7_1 {d : Nat} (hd : 0 ≤ d) (h : AH) (i : Int32) (k : Int32) (n : Nat) (f : Nat → Int32) (ha : h.1 0 = ia n f) (i1 : vp_in (i + 1) n) (i2 : vp_in (i + 2) n) : J true mL_law d 583 [(0, .ref 0), (1, .ref 1), (2, .ref 65), (3, .ref 94), (4, .int i)] [.int k] h 598 [(0, .ref 0), (1, .ref 1), (2, .ref 65), (3, .ref 94), (4, .int i), (5, .int k)] [.int (f (i + 2).toNatClampNeg), .int (f (i + 1).toNatClampNeg), .ref 65] h := by
  refine J.tr (s_istore (q := 585) (ls' := [(5, .int k), (0, .ref 0), (1, .ref 1), (2, .ref 65), (3, .ref 94), (4, .int i)]) dL_law_583 rfl (by decide) rfl) ?_
  refine J.tr (s_aload_n (q := 586) dL_law_585 rfl rfl) ?_
  refine J.tr (s_aload_n (q := 587) dL_law_586 rfl rfl) ?_
  refine J.tr (s_iload (q := 589) dL_law_587 rfl rfl) ?_
  refine J.tr (s_iconst (q := 590) (v := 1) dL_law_589 rfl (by decide)) ?_
  refine J.tr (s_iadd (q := 591) dL_law_590 rfl) ?_
  refine J.tr (s_sld (q := 592) dL_law_591 rfl (ha) i1) ?_
  refine J.tr (s_aload_n (q := 593) dL_law_592 rfl rfl) ?_
  refine J.tr (s_iload (q := 595) dL_law_593 rfl rfl) ?_
  refine J.tr (s_iconst (q := 596) (v := 2) dL_law_595 rfl (by decide)) ?_
  refine J.tr (s_iadd (q := 597) dL_law_596 rfl) ?_
  refine J.tr (s_sld (q := 598) dL_law_597 rfl (ha) i2) ?_
  refine J.tr (s_ls (ls' := [(0, .ref 0), (1, .ref 1), (2, .ref 65), (3, .ref 94), (4, .int i), (5, .int k)]) [1, 2, 3, 4, 5, 0] rfl) ?_
  exact J.rf

set_option maxRecDepth 20000 in
theorem j_L_law_c7_1 {d : Nat} (hd : 1 ≤ d) (h : AH) (i : Int32) (k : Int32) (r : Int32) (F : Nat → Value) (ho : h.1 65 = ob 8 (fo 53 F)) (v0 : Int32) (e0 : F 0 = .int v0) (c : v0 = k) (c1 : ¬ k = 0) : J true mL_law d 601 [(0, .ref 0), (1, .ref 1), (2, .ref 65), (3, .ref 94), (4, .int i), (5, .int k)] [.int r] h 23 [(0, .ref 0), (1, .ref 1), (2, .ref 65), (3, .ref 94), (4, .int (i + 4))] [] h := by
  refine J.tr (s_istore (q := 603) (ls' := [(6, .int r), (0, .ref 0), (1, .ref 1), (2, .ref 65), (3, .ref 94), (4, .int i), (5, .int k)]) dL_law_601 rfl (by decide) rfl) ?_
  refine J.tr (s_aload_n (q := 604) dL_law_603 rfl rfl) ?_
  refine J.tr (p2 := 607) (l2 := [(6, .int r), (0, .ref 0), (1, .ref 1), (2, .ref 65), (3, .ref 94), (4, .int i), (5, .int k)]) (s2 := [.int v0]) (h2 := h) (s_invv (K := mX8_thrown) (o := 65) (as := []) (rest := []) (v := some (.int v0)) dL_law_604 rfl lL_71 (by omega) rfl (Nat.le_of_ble_eq_true rfl) rfl (Nat.le_of_ble_eq_true rfl) (ho) (p_X8_thrown_1 (d := 0) (Nat.le_refl _) h 65 F ho v0 e0) (fun _ => rfl)) ?_
  refine J.tr (s_iload (q := 609) dL_law_607 rfl rfl) ?_
  refine J.tr (s_icmp_eq_t (q := 614) dL_law_609 (by decide) c) ?_
  refine J.tr (s_iload (q := 616) dL_law_614 rfl rfl) ?_
  refine J.tr (s_if_ne_t (q := 631) dL_law_616 (by decide) c1) ?_
  refine J.tr (s_goto (q := 1004) dL_law_631 (by decide)) ?_
  refine J.tr (s_iinc (q := 1007) (v := (i + 4)) (ls' := [(4, .int (i + 4)), (6, .int r), (0, .ref 0), (1, .ref 1), (2, .ref 65), (3, .ref 94), (5, .int k)]) dL_law_1004 rfl (by decide) rfl rfl rfl) ?_
  refine J.tr (s_goto (q := 23) dL_law_1007 (by decide)) ?_
  refine J.tr (s_ls (ls' := [(0, .ref 0), (1, .ref 1), (2, .ref 65), (3, .ref 94), (4, .int (i + 4))]) [2, 3, 4, 5, 0] rfl) ?_
  exact J.rf

set_option maxRecDepth 20000 in
theorem j_L_law_c7_2 {d : Nat} (hd : 1 ≤ d) (h : AH) (i : Int32) (k : Int32) (r : Int32) (F : Nat → Value) (ho : h.1 65 = ob 8 (fo 53 F)) (v0 : Int32) (e0 : F 0 = .int v0) (c : v0 = k) (c1 : k = 0) (n : Nat) (f : Nat → Int64) (ha : h.1 94 = la n f) (i1 : vp_in 0 n) (c2 : (f (0 : Int32).toNatClampNeg) = (r.toInt64)) : J true mL_law d 601 [(0, .ref 0), (1, .ref 1), (2, .ref 65), (3, .ref 94), (4, .int i), (5, .int k)] [.int r] h 23 [(0, .ref 0), (1, .ref 1), (2, .ref 65), (3, .ref 94), (4, .int (i + 4))] [] h := by
  refine J.tr (s_istore (q := 603) (ls' := [(6, .int r), (0, .ref 0), (1, .ref 1), (2, .ref 65), (3, .ref 94), (4, .int i), (5, .int k)]) dL_law_601 rfl (by decide) rfl) ?_
  refine J.tr (s_aload_n (q := 604) dL_law_603 rfl rfl) ?_
  refine J.tr (p2 := 607) (l2 := [(6, .int r), (0, .ref 0), (1, .ref 1), (2, .ref 65), (3, .ref 94), (4, .int i), (5, .int k)]) (s2 := [.int v0]) (h2 := h) (s_invv (K := mX8_thrown) (o := 65) (as := []) (rest := []) (v := some (.int v0)) dL_law_604 rfl lL_71 (by omega) rfl (Nat.le_of_ble_eq_true rfl) rfl (Nat.le_of_ble_eq_true rfl) (ho) (p_X8_thrown_1 (d := 0) (Nat.le_refl _) h 65 F ho v0 e0) (fun _ => rfl)) ?_
  refine J.tr (s_iload (q := 609) dL_law_607 rfl rfl) ?_
  refine J.tr (s_icmp_eq_t (q := 614) dL_law_609 (by decide) c) ?_
  refine J.tr (s_iload (q := 616) dL_law_614 rfl rfl) ?_
  refine J.tr (s_if_ne_f (q := 619) (tg := 631) dL_law_616 (by decide) rfl c1) ?_
  refine J.tr (s_aload_n (q := 620) dL_law_619 rfl rfl) ?_
  refine J.tr (s_iconst (q := 621) (v := 0) dL_law_620 rfl (by decide)) ?_
  refine J.tr (s_lald (q := 622) dL_law_621 rfl (ha) i1) ?_
  refine J.tr (s_iload (q := 624) dL_law_622 rfl rfl) ?_
  refine J.tr (s_i2l (q := 625) dL_law_624 rfl) ?_
  refine J.tr (s_lcmp (q := 626) dL_law_625 rfl) ?_
  refine J.tr (s_if_eq_t (q := 631) dL_law_626 (by decide) ((lgc_eq _ _).mpr c2)) ?_
  refine J.tr (s_goto (q := 1004) dL_law_631 (by decide)) ?_
  refine J.tr (s_iinc (q := 1007) (v := (i + 4)) (ls' := [(4, .int (i + 4)), (6, .int r), (0, .ref 0), (1, .ref 1), (2, .ref 65), (3, .ref 94), (5, .int k)]) dL_law_1004 rfl (by decide) rfl rfl rfl) ?_
  refine J.tr (s_goto (q := 23) dL_law_1007 (by decide)) ?_
  refine J.tr (s_ls (ls' := [(0, .ref 0), (1, .ref 1), (2, .ref 65), (3, .ref 94), (4, .int (i + 4))]) [2, 3, 4, 5, 0] rfl) ?_
  exact J.rf

set_option maxRecDepth 20000 in
theorem j_L_law_c7_3 {d : Nat} (hd : 1 ≤ d) (h : AH) (i : Int32) (k : Int32) (r : Int32) (F : Nat → Value) (ho : h.1 65 = ob 8 (fo 53 F)) (v0 : Int32) (e0 : F 0 = .int v0) (c : v0 = k) (c1 : k = 0) (n : Nat) (f : Nat → Int64) (ha : h.1 94 = la n f) (i1 : vp_in 0 n) (c2 : ¬ ((f (0 : Int32).toNatClampNeg) = (r.toInt64))) : E true mL_law d 601 [(0, .ref 0), (1, .ref 1), (2, .ref 65), (3, .ref 94), (4, .int i), (5, .int k)] [.int r] h (some (.int 0)) h := by
  refine E.st (s_istore (q := 603) (ls' := [(6, .int r), (0, .ref 0), (1, .ref 1), (2, .ref 65), (3, .ref 94), (4, .int i), (5, .int k)]) dL_law_601 rfl (by decide) rfl) ?_
  refine E.st (s_aload_n (q := 604) dL_law_603 rfl rfl) ?_
  refine E.st (p2 := 607) (l2 := [(6, .int r), (0, .ref 0), (1, .ref 1), (2, .ref 65), (3, .ref 94), (4, .int i), (5, .int k)]) (s2 := [.int v0]) (h2 := h) (s_invv (K := mX8_thrown) (o := 65) (as := []) (rest := []) (v := some (.int v0)) dL_law_604 rfl lL_71 (by omega) rfl (Nat.le_of_ble_eq_true rfl) rfl (Nat.le_of_ble_eq_true rfl) (ho) (p_X8_thrown_1 (d := 0) (Nat.le_refl _) h 65 F ho v0 e0) (fun _ => rfl)) ?_
  refine E.st (s_iload (q := 609) dL_law_607 rfl rfl) ?_
  refine E.st (s_icmp_eq_t (q := 614) dL_law_609 (by decide) c) ?_
  refine E.st (s_iload (q := 616) dL_law_614 rfl rfl) ?_
  refine E.st (s_if_ne_f (q := 619) (tg := 631) dL_law_616 (by decide) rfl c1) ?_
  refine E.st (s_aload_n (q := 620) dL_law_619 rfl rfl) ?_
  refine E.st (s_iconst (q := 621) (v := 0) dL_law_620 rfl (by decide)) ?_
  refine E.st (s_lald (q := 622) dL_law_621 rfl (ha) i1) ?_
  refine E.st (s_iload (q := 624) dL_law_622 rfl rfl) ?_
  refine E.st (s_i2l (q := 625) dL_law_624 rfl) ?_
  refine E.st (s_lcmp (q := 626) dL_law_625 rfl) ?_
  refine E.st (s_if_eq_f (q := 629) (tg := 631) dL_law_626 (by decide) rfl (fun z => c2 ((lgc_eq _ _).mp z))) ?_
  refine E.st (s_iconst (q := 630) (v := 0) dL_law_629 rfl (by decide)) ?_
  exact E.i dL_law_630 rfl rfl rfl rfl

set_option maxRecDepth 20000 in
theorem j_L_law_c7_4 {d : Nat} (hd : 1 ≤ d) (h : AH) (i : Int32) (k : Int32) (r : Int32) (F : Nat → Value) (ho : h.1 65 = ob 8 (fo 53 F)) (v0 : Int32) (e0 : F 0 = .int v0) (c : ¬ (v0 = k)) : E true mL_law d 601 [(0, .ref 0), (1, .ref 1), (2, .ref 65), (3, .ref 94), (4, .int i), (5, .int k)] [.int r] h (some (.int 0)) h := by
  refine E.st (s_istore (q := 603) (ls' := [(6, .int r), (0, .ref 0), (1, .ref 1), (2, .ref 65), (3, .ref 94), (4, .int i), (5, .int k)]) dL_law_601 rfl (by decide) rfl) ?_
  refine E.st (s_aload_n (q := 604) dL_law_603 rfl rfl) ?_
  refine E.st (p2 := 607) (l2 := [(6, .int r), (0, .ref 0), (1, .ref 1), (2, .ref 65), (3, .ref 94), (4, .int i), (5, .int k)]) (s2 := [.int v0]) (h2 := h) (s_invv (K := mX8_thrown) (o := 65) (as := []) (rest := []) (v := some (.int v0)) dL_law_604 rfl lL_71 (by omega) rfl (Nat.le_of_ble_eq_true rfl) rfl (Nat.le_of_ble_eq_true rfl) (ho) (p_X8_thrown_1 (d := 0) (Nat.le_refl _) h 65 F ho v0 e0) (fun _ => rfl)) ?_
  refine E.st (s_iload (q := 609) dL_law_607 rfl rfl) ?_
  refine E.st (s_icmp_eq_f (q := 612) (tg := 614) dL_law_609 (by decide) rfl c) ?_
  refine E.st (s_iconst (q := 613) (v := 0) dL_law_612 rfl (by decide)) ?_
  exact E.i dL_law_613 rfl rfl rfl rfl

set_option maxRecDepth 20000 in
theorem j_L_law_a8_1 {d : Nat} (hd : 0 ≤ d) (h : AH) (i : Int32) (n : Nat) (f : Nat → Int32) (ha : h.1 0 = ia n f) (i1 : vp_in (i + 1) n) (i2 : vp_in (i + 2) n) : J true mL_law d 634 [(0, .ref 0), (1, .ref 1), (2, .ref 65), (3, .ref 94), (4, .int i)] [] h 648 [(0, .ref 0), (1, .ref 1), (2, .ref 65), (3, .ref 94), (4, .int i)] [.ref 94, .int (f (i + 2).toNatClampNeg), .int (f (i + 1).toNatClampNeg), .ref 1] h := by
  refine J.tr (s_aload_n (q := 635) dL_law_634 rfl rfl) ?_
  refine J.tr (s_aload_n (q := 636) dL_law_635 rfl rfl) ?_
  refine J.tr (s_iload (q := 638) dL_law_636 rfl rfl) ?_
  refine J.tr (s_iconst (q := 639) (v := 1) dL_law_638 rfl (by decide)) ?_
  refine J.tr (s_iadd (q := 640) dL_law_639 rfl) ?_
  refine J.tr (s_sld (q := 641) dL_law_640 rfl (ha) i1) ?_
  refine J.tr (s_aload_n (q := 642) dL_law_641 rfl rfl) ?_
  refine J.tr (s_iload (q := 644) dL_law_642 rfl rfl) ?_
  refine J.tr (s_iconst (q := 645) (v := 2) dL_law_644 rfl (by decide)) ?_
  refine J.tr (s_iadd (q := 646) dL_law_645 rfl) ?_
  refine J.tr (s_sld (q := 647) dL_law_646 rfl (ha) i2) ?_
  refine J.tr (s_aload_n (q := 648) dL_law_647 rfl rfl) ?_
  refine J.tr (s_ls (ls' := [(0, .ref 0), (1, .ref 1), (2, .ref 65), (3, .ref 94), (4, .int i)]) [0, 1, 2, 3, 4] rfl) ?_
  exact J.rf

set_option maxRecDepth 20000 in
theorem j_L_law_b8_1 {d : Nat} (hd : 0 ≤ d) (h : AH) (i : Int32) (k : Int32) (n : Nat) (f : Nat → Int32) (ha : h.1 0 = ia n f) (i1 : vp_in (i + 1) n) (i2 : vp_in (i + 2) n) : J true mL_law d 651 [(0, .ref 0), (1, .ref 1), (2, .ref 65), (3, .ref 94), (4, .int i)] [.int k] h 666 [(0, .ref 0), (1, .ref 1), (2, .ref 65), (3, .ref 94), (4, .int i), (5, .int k)] [.int (f (i + 2).toNatClampNeg), .int (f (i + 1).toNatClampNeg), .ref 65] h := by
  refine J.tr (s_istore (q := 653) (ls' := [(5, .int k), (0, .ref 0), (1, .ref 1), (2, .ref 65), (3, .ref 94), (4, .int i)]) dL_law_651 rfl (by decide) rfl) ?_
  refine J.tr (s_aload_n (q := 654) dL_law_653 rfl rfl) ?_
  refine J.tr (s_aload_n (q := 655) dL_law_654 rfl rfl) ?_
  refine J.tr (s_iload (q := 657) dL_law_655 rfl rfl) ?_
  refine J.tr (s_iconst (q := 658) (v := 1) dL_law_657 rfl (by decide)) ?_
  refine J.tr (s_iadd (q := 659) dL_law_658 rfl) ?_
  refine J.tr (s_sld (q := 660) dL_law_659 rfl (ha) i1) ?_
  refine J.tr (s_aload_n (q := 661) dL_law_660 rfl rfl) ?_
  refine J.tr (s_iload (q := 663) dL_law_661 rfl rfl) ?_
  refine J.tr (s_iconst (q := 664) (v := 2) dL_law_663 rfl (by decide)) ?_
  refine J.tr (s_iadd (q := 665) dL_law_664 rfl) ?_
  refine J.tr (s_sld (q := 666) dL_law_665 rfl (ha) i2) ?_
  refine J.tr (s_ls (ls' := [(0, .ref 0), (1, .ref 1), (2, .ref 65), (3, .ref 94), (4, .int i), (5, .int k)]) [1, 2, 3, 4, 5, 0] rfl) ?_
  exact J.rf

set_option maxRecDepth 20000 in
theorem j_L_law_c8_1 {d : Nat} (hd : 1 ≤ d) (h : AH) (i : Int32) (k : Int32) (r : Int32) (F : Nat → Value) (ho : h.1 65 = ob 8 (fo 53 F)) (v0 : Int32) (e0 : F 0 = .int v0) (c : v0 = k) (c1 : ¬ k = 0) : J true mL_law d 669 [(0, .ref 0), (1, .ref 1), (2, .ref 65), (3, .ref 94), (4, .int i), (5, .int k)] [.int r] h 23 [(0, .ref 0), (1, .ref 1), (2, .ref 65), (3, .ref 94), (4, .int (i + 4))] [] h := by
  refine J.tr (s_istore (q := 671) (ls' := [(6, .int r), (0, .ref 0), (1, .ref 1), (2, .ref 65), (3, .ref 94), (4, .int i), (5, .int k)]) dL_law_669 rfl (by decide) rfl) ?_
  refine J.tr (s_aload_n (q := 672) dL_law_671 rfl rfl) ?_
  refine J.tr (p2 := 675) (l2 := [(6, .int r), (0, .ref 0), (1, .ref 1), (2, .ref 65), (3, .ref 94), (4, .int i), (5, .int k)]) (s2 := [.int v0]) (h2 := h) (s_invv (K := mX8_thrown) (o := 65) (as := []) (rest := []) (v := some (.int v0)) dL_law_672 rfl lL_71 (by omega) rfl (Nat.le_of_ble_eq_true rfl) rfl (Nat.le_of_ble_eq_true rfl) (ho) (p_X8_thrown_1 (d := 0) (Nat.le_refl _) h 65 F ho v0 e0) (fun _ => rfl)) ?_
  refine J.tr (s_iload (q := 677) dL_law_675 rfl rfl) ?_
  refine J.tr (s_icmp_eq_t (q := 682) dL_law_677 (by decide) c) ?_
  refine J.tr (s_iload (q := 684) dL_law_682 rfl rfl) ?_
  refine J.tr (s_if_ne_t (q := 699) dL_law_684 (by decide) c1) ?_
  refine J.tr (s_goto (q := 1004) dL_law_699 (by decide)) ?_
  refine J.tr (s_iinc (q := 1007) (v := (i + 4)) (ls' := [(4, .int (i + 4)), (6, .int r), (0, .ref 0), (1, .ref 1), (2, .ref 65), (3, .ref 94), (5, .int k)]) dL_law_1004 rfl (by decide) rfl rfl rfl) ?_
  refine J.tr (s_goto (q := 23) dL_law_1007 (by decide)) ?_
  refine J.tr (s_ls (ls' := [(0, .ref 0), (1, .ref 1), (2, .ref 65), (3, .ref 94), (4, .int (i + 4))]) [2, 3, 4, 5, 0] rfl) ?_
  exact J.rf

set_option maxRecDepth 20000 in
theorem j_L_law_c8_2 {d : Nat} (hd : 1 ≤ d) (h : AH) (i : Int32) (k : Int32) (r : Int32) (F : Nat → Value) (ho : h.1 65 = ob 8 (fo 53 F)) (v0 : Int32) (e0 : F 0 = .int v0) (c : v0 = k) (c1 : k = 0) (n : Nat) (f : Nat → Int64) (ha : h.1 94 = la n f) (i1 : vp_in 0 n) (c2 : (f (0 : Int32).toNatClampNeg) = (r.toInt64)) : J true mL_law d 669 [(0, .ref 0), (1, .ref 1), (2, .ref 65), (3, .ref 94), (4, .int i), (5, .int k)] [.int r] h 23 [(0, .ref 0), (1, .ref 1), (2, .ref 65), (3, .ref 94), (4, .int (i + 4))] [] h := by
  refine J.tr (s_istore (q := 671) (ls' := [(6, .int r), (0, .ref 0), (1, .ref 1), (2, .ref 65), (3, .ref 94), (4, .int i), (5, .int k)]) dL_law_669 rfl (by decide) rfl) ?_
  refine J.tr (s_aload_n (q := 672) dL_law_671 rfl rfl) ?_
  refine J.tr (p2 := 675) (l2 := [(6, .int r), (0, .ref 0), (1, .ref 1), (2, .ref 65), (3, .ref 94), (4, .int i), (5, .int k)]) (s2 := [.int v0]) (h2 := h) (s_invv (K := mX8_thrown) (o := 65) (as := []) (rest := []) (v := some (.int v0)) dL_law_672 rfl lL_71 (by omega) rfl (Nat.le_of_ble_eq_true rfl) rfl (Nat.le_of_ble_eq_true rfl) (ho) (p_X8_thrown_1 (d := 0) (Nat.le_refl _) h 65 F ho v0 e0) (fun _ => rfl)) ?_
  refine J.tr (s_iload (q := 677) dL_law_675 rfl rfl) ?_
  refine J.tr (s_icmp_eq_t (q := 682) dL_law_677 (by decide) c) ?_
  refine J.tr (s_iload (q := 684) dL_law_682 rfl rfl) ?_
  refine J.tr (s_if_ne_f (q := 687) (tg := 699) dL_law_684 (by decide) rfl c1) ?_
  refine J.tr (s_aload_n (q := 688) dL_law_687 rfl rfl) ?_
  refine J.tr (s_iconst (q := 689) (v := 0) dL_law_688 rfl (by decide)) ?_
  refine J.tr (s_lald (q := 690) dL_law_689 rfl (ha) i1) ?_
  refine J.tr (s_iload (q := 692) dL_law_690 rfl rfl) ?_
  refine J.tr (s_i2l (q := 693) dL_law_692 rfl) ?_
  refine J.tr (s_lcmp (q := 694) dL_law_693 rfl) ?_
  refine J.tr (s_if_eq_t (q := 699) dL_law_694 (by decide) ((lgc_eq _ _).mpr c2)) ?_
  refine J.tr (s_goto (q := 1004) dL_law_699 (by decide)) ?_
  refine J.tr (s_iinc (q := 1007) (v := (i + 4)) (ls' := [(4, .int (i + 4)), (6, .int r), (0, .ref 0), (1, .ref 1), (2, .ref 65), (3, .ref 94), (5, .int k)]) dL_law_1004 rfl (by decide) rfl rfl rfl) ?_
  refine J.tr (s_goto (q := 23) dL_law_1007 (by decide)) ?_
  refine J.tr (s_ls (ls' := [(0, .ref 0), (1, .ref 1), (2, .ref 65), (3, .ref 94), (4, .int (i + 4))]) [2, 3, 4, 5, 0] rfl) ?_
  exact J.rf

set_option maxRecDepth 20000 in
theorem j_L_law_c8_3 {d : Nat} (hd : 1 ≤ d) (h : AH) (i : Int32) (k : Int32) (r : Int32) (F : Nat → Value) (ho : h.1 65 = ob 8 (fo 53 F)) (v0 : Int32) (e0 : F 0 = .int v0) (c : v0 = k) (c1 : k = 0) (n : Nat) (f : Nat → Int64) (ha : h.1 94 = la n f) (i1 : vp_in 0 n) (c2 : ¬ ((f (0 : Int32).toNatClampNeg) = (r.toInt64))) : E true mL_law d 669 [(0, .ref 0), (1, .ref 1), (2, .ref 65), (3, .ref 94), (4, .int i), (5, .int k)] [.int r] h (some (.int 0)) h := by
  refine E.st (s_istore (q := 671) (ls' := [(6, .int r), (0, .ref 0), (1, .ref 1), (2, .ref 65), (3, .ref 94), (4, .int i), (5, .int k)]) dL_law_669 rfl (by decide) rfl) ?_
  refine E.st (s_aload_n (q := 672) dL_law_671 rfl rfl) ?_
  refine E.st (p2 := 675) (l2 := [(6, .int r), (0, .ref 0), (1, .ref 1), (2, .ref 65), (3, .ref 94), (4, .int i), (5, .int k)]) (s2 := [.int v0]) (h2 := h) (s_invv (K := mX8_thrown) (o := 65) (as := []) (rest := []) (v := some (.int v0)) dL_law_672 rfl lL_71 (by omega) rfl (Nat.le_of_ble_eq_true rfl) rfl (Nat.le_of_ble_eq_true rfl) (ho) (p_X8_thrown_1 (d := 0) (Nat.le_refl _) h 65 F ho v0 e0) (fun _ => rfl)) ?_
  refine E.st (s_iload (q := 677) dL_law_675 rfl rfl) ?_
  refine E.st (s_icmp_eq_t (q := 682) dL_law_677 (by decide) c) ?_
  refine E.st (s_iload (q := 684) dL_law_682 rfl rfl) ?_
  refine E.st (s_if_ne_f (q := 687) (tg := 699) dL_law_684 (by decide) rfl c1) ?_
  refine E.st (s_aload_n (q := 688) dL_law_687 rfl rfl) ?_
  refine E.st (s_iconst (q := 689) (v := 0) dL_law_688 rfl (by decide)) ?_
  refine E.st (s_lald (q := 690) dL_law_689 rfl (ha) i1) ?_
  refine E.st (s_iload (q := 692) dL_law_690 rfl rfl) ?_
  refine E.st (s_i2l (q := 693) dL_law_692 rfl) ?_
  refine E.st (s_lcmp (q := 694) dL_law_693 rfl) ?_
  refine E.st (s_if_eq_f (q := 697) (tg := 699) dL_law_694 (by decide) rfl (fun z => c2 ((lgc_eq _ _).mp z))) ?_
  refine E.st (s_iconst (q := 698) (v := 0) dL_law_697 rfl (by decide)) ?_
  exact E.i dL_law_698 rfl rfl rfl rfl

set_option maxRecDepth 20000 in
theorem j_L_law_c8_4 {d : Nat} (hd : 1 ≤ d) (h : AH) (i : Int32) (k : Int32) (r : Int32) (F : Nat → Value) (ho : h.1 65 = ob 8 (fo 53 F)) (v0 : Int32) (e0 : F 0 = .int v0) (c : ¬ (v0 = k)) : E true mL_law d 669 [(0, .ref 0), (1, .ref 1), (2, .ref 65), (3, .ref 94), (4, .int i), (5, .int k)] [.int r] h (some (.int 0)) h := by
  refine E.st (s_istore (q := 671) (ls' := [(6, .int r), (0, .ref 0), (1, .ref 1), (2, .ref 65), (3, .ref 94), (4, .int i), (5, .int k)]) dL_law_669 rfl (by decide) rfl) ?_
  refine E.st (s_aload_n (q := 672) dL_law_671 rfl rfl) ?_
  refine E.st (p2 := 675) (l2 := [(6, .int r), (0, .ref 0), (1, .ref 1), (2, .ref 65), (3, .ref 94), (4, .int i), (5, .int k)]) (s2 := [.int v0]) (h2 := h) (s_invv (K := mX8_thrown) (o := 65) (as := []) (rest := []) (v := some (.int v0)) dL_law_672 rfl lL_71 (by omega) rfl (Nat.le_of_ble_eq_true rfl) rfl (Nat.le_of_ble_eq_true rfl) (ho) (p_X8_thrown_1 (d := 0) (Nat.le_refl _) h 65 F ho v0 e0) (fun _ => rfl)) ?_
  refine E.st (s_iload (q := 677) dL_law_675 rfl rfl) ?_
  refine E.st (s_icmp_eq_f (q := 680) (tg := 682) dL_law_677 (by decide) rfl c) ?_
  refine E.st (s_iconst (q := 681) (v := 0) dL_law_680 rfl (by decide)) ?_
  exact E.i dL_law_681 rfl rfl rfl rfl

set_option maxRecDepth 20000 in
theorem j_L_law_a9_1 {d : Nat} (hd : 0 ≤ d) (h : AH) (i : Int32) : J true mL_law d 702 [(0, .ref 0), (1, .ref 1), (2, .ref 65), (3, .ref 94), (4, .int i)] [] h 703 [(0, .ref 0), (1, .ref 1), (2, .ref 65), (3, .ref 94), (4, .int i)] [.ref 1] h := by
  refine J.tr (s_aload_n (q := 703) dL_law_702 rfl rfl) ?_
  refine J.tr (s_ls (ls' := [(0, .ref 0), (1, .ref 1), (2, .ref 65), (3, .ref 94), (4, .int i)]) [0, 1, 2, 3, 4] rfl) ?_
  exact J.rf

set_option maxRecDepth 20000 in
theorem j_L_law_b9_1 {d : Nat} (hd : 0 ≤ d) (h : AH) (i : Int32) (r : Int32) : J true mL_law d 706 [(0, .ref 0), (1, .ref 1), (2, .ref 65), (3, .ref 94), (4, .int i)] [.int r] h 707 [(0, .ref 0), (1, .ref 1), (2, .ref 65), (3, .ref 94), (4, .int i)] [.ref 65, .int r] h := by
  refine J.tr (s_aload_n (q := 707) dL_law_706 rfl rfl) ?_
  refine J.tr (s_ls (ls' := [(0, .ref 0), (1, .ref 1), (2, .ref 65), (3, .ref 94), (4, .int i)]) [0, 1, 2, 3, 4] rfl) ?_
  exact J.rf

set_option maxRecDepth 20000 in
theorem j_L_law_c9_1 {d : Nat} (hd : 0 ≤ d) (h : AH) (i : Int32) (s : Int32) (r : Int32) (c : r = s) : J true mL_law d 710 [(0, .ref 0), (1, .ref 1), (2, .ref 65), (3, .ref 94), (4, .int i)] [.int s, .int r] h 23 [(0, .ref 0), (1, .ref 1), (2, .ref 65), (3, .ref 94), (4, .int (i + 4))] [] h := by
  refine J.tr (s_icmp_eq_t (q := 1004) dL_law_710 (by decide) c) ?_
  refine J.tr (s_iinc (q := 1007) (v := (i + 4)) (ls' := [(4, .int (i + 4)), (0, .ref 0), (1, .ref 1), (2, .ref 65), (3, .ref 94)]) dL_law_1004 rfl (by decide) rfl rfl rfl) ?_
  refine J.tr (s_goto (q := 23) dL_law_1007 (by decide)) ?_
  refine J.tr (s_ls (ls' := [(0, .ref 0), (1, .ref 1), (2, .ref 65), (3, .ref 94), (4, .int (i + 4))]) [1, 2, 3, 4, 0] rfl) ?_
  exact J.rf

set_option maxRecDepth 20000 in
theorem j_L_law_c9_2 {d : Nat} (hd : 0 ≤ d) (h : AH) (i : Int32) (s : Int32) (r : Int32) (c : ¬ (r = s)) : E true mL_law d 710 [(0, .ref 0), (1, .ref 1), (2, .ref 65), (3, .ref 94), (4, .int i)] [.int s, .int r] h (some (.int 0)) h := by
  refine E.st (s_icmp_eq_f (q := 713) (tg := 1004) dL_law_710 (by decide) rfl c) ?_
  refine E.st (s_iconst (q := 714) (v := 0) dL_law_713 rfl (by decide)) ?_
  exact E.i dL_law_714 rfl rfl rfl rfl

set_option maxRecDepth 20000 in
theorem j_L_law_a10_1 {d : Nat} (hd : 0 ≤ d) (h : AH) (i : Int32) (n : Nat) (f : Nat → Int32) (ha : h.1 0 = ia n f) (i1 : vp_in (i + 1) n) (i2 : vp_in (i + 2) n) : J true mL_law d 715 [(0, .ref 0), (1, .ref 1), (2, .ref 65), (3, .ref 94), (4, .int i)] [] h 729 [(0, .ref 0), (1, .ref 1), (2, .ref 65), (3, .ref 94), (4, .int i)] [.ref 94, .int (f (i + 2).toNatClampNeg), .int (f (i + 1).toNatClampNeg), .ref 1] h := by
  refine J.tr (s_aload_n (q := 716) dL_law_715 rfl rfl) ?_
  refine J.tr (s_aload_n (q := 717) dL_law_716 rfl rfl) ?_
  refine J.tr (s_iload (q := 719) dL_law_717 rfl rfl) ?_
  refine J.tr (s_iconst (q := 720) (v := 1) dL_law_719 rfl (by decide)) ?_
  refine J.tr (s_iadd (q := 721) dL_law_720 rfl) ?_
  refine J.tr (s_sld (q := 722) dL_law_721 rfl (ha) i1) ?_
  refine J.tr (s_aload_n (q := 723) dL_law_722 rfl rfl) ?_
  refine J.tr (s_iload (q := 725) dL_law_723 rfl rfl) ?_
  refine J.tr (s_iconst (q := 726) (v := 2) dL_law_725 rfl (by decide)) ?_
  refine J.tr (s_iadd (q := 727) dL_law_726 rfl) ?_
  refine J.tr (s_sld (q := 728) dL_law_727 rfl (ha) i2) ?_
  refine J.tr (s_aload_n (q := 729) dL_law_728 rfl rfl) ?_
  refine J.tr (s_ls (ls' := [(0, .ref 0), (1, .ref 1), (2, .ref 65), (3, .ref 94), (4, .int i)]) [0, 1, 2, 3, 4] rfl) ?_
  exact J.rf

set_option maxRecDepth 20000 in
theorem j_L_law_b10_1 {d : Nat} (hd : 0 ≤ d) (h : AH) (i : Int32) (k : Int32) (n : Nat) (f : Nat → Int32) (ha : h.1 0 = ia n f) (i1 : vp_in (i + 1) n) (i2 : vp_in (i + 2) n) : J true mL_law d 732 [(0, .ref 0), (1, .ref 1), (2, .ref 65), (3, .ref 94), (4, .int i)] [.int k] h 747 [(0, .ref 0), (1, .ref 1), (2, .ref 65), (3, .ref 94), (4, .int i), (5, .int k)] [.int (f (i + 2).toNatClampNeg), .int (f (i + 1).toNatClampNeg), .ref 65] h := by
  refine J.tr (s_istore (q := 734) (ls' := [(5, .int k), (0, .ref 0), (1, .ref 1), (2, .ref 65), (3, .ref 94), (4, .int i)]) dL_law_732 rfl (by decide) rfl) ?_
  refine J.tr (s_aload_n (q := 735) dL_law_734 rfl rfl) ?_
  refine J.tr (s_aload_n (q := 736) dL_law_735 rfl rfl) ?_
  refine J.tr (s_iload (q := 738) dL_law_736 rfl rfl) ?_
  refine J.tr (s_iconst (q := 739) (v := 1) dL_law_738 rfl (by decide)) ?_
  refine J.tr (s_iadd (q := 740) dL_law_739 rfl) ?_
  refine J.tr (s_sld (q := 741) dL_law_740 rfl (ha) i1) ?_
  refine J.tr (s_aload_n (q := 742) dL_law_741 rfl rfl) ?_
  refine J.tr (s_iload (q := 744) dL_law_742 rfl rfl) ?_
  refine J.tr (s_iconst (q := 745) (v := 2) dL_law_744 rfl (by decide)) ?_
  refine J.tr (s_iadd (q := 746) dL_law_745 rfl) ?_
  refine J.tr (s_sld (q := 747) dL_law_746 rfl (ha) i2) ?_
  refine J.tr (s_ls (ls' := [(0, .ref 0), (1, .ref 1), (2, .ref 65), (3, .ref 94), (4, .int i), (5, .int k)]) [1, 2, 3, 4, 5, 0] rfl) ?_
  exact J.rf

set_option maxRecDepth 20000 in
theorem j_L_law_c10_1 {d : Nat} (hd : 1 ≤ d) (h : AH) (i : Int32) (k : Int32) (r : Int32) (F : Nat → Value) (ho : h.1 65 = ob 8 (fo 53 F)) (v0 : Int32) (e0 : F 0 = .int v0) (c : v0 = k) (c1 : ¬ k = 0) : J true mL_law d 750 [(0, .ref 0), (1, .ref 1), (2, .ref 65), (3, .ref 94), (4, .int i), (5, .int k)] [.int r] h 23 [(0, .ref 0), (1, .ref 1), (2, .ref 65), (3, .ref 94), (4, .int (i + 4))] [] h := by
  refine J.tr (s_istore (q := 752) (ls' := [(6, .int r), (0, .ref 0), (1, .ref 1), (2, .ref 65), (3, .ref 94), (4, .int i), (5, .int k)]) dL_law_750 rfl (by decide) rfl) ?_
  refine J.tr (s_aload_n (q := 753) dL_law_752 rfl rfl) ?_
  refine J.tr (p2 := 756) (l2 := [(6, .int r), (0, .ref 0), (1, .ref 1), (2, .ref 65), (3, .ref 94), (4, .int i), (5, .int k)]) (s2 := [.int v0]) (h2 := h) (s_invv (K := mX8_thrown) (o := 65) (as := []) (rest := []) (v := some (.int v0)) dL_law_753 rfl lL_71 (by omega) rfl (Nat.le_of_ble_eq_true rfl) rfl (Nat.le_of_ble_eq_true rfl) (ho) (p_X8_thrown_1 (d := 0) (Nat.le_refl _) h 65 F ho v0 e0) (fun _ => rfl)) ?_
  refine J.tr (s_iload (q := 758) dL_law_756 rfl rfl) ?_
  refine J.tr (s_icmp_eq_t (q := 763) dL_law_758 (by decide) c) ?_
  refine J.tr (s_iload (q := 765) dL_law_763 rfl rfl) ?_
  refine J.tr (s_if_ne_t (q := 780) dL_law_765 (by decide) c1) ?_
  refine J.tr (s_goto (q := 1004) dL_law_780 (by decide)) ?_
  refine J.tr (s_iinc (q := 1007) (v := (i + 4)) (ls' := [(4, .int (i + 4)), (6, .int r), (0, .ref 0), (1, .ref 1), (2, .ref 65), (3, .ref 94), (5, .int k)]) dL_law_1004 rfl (by decide) rfl rfl rfl) ?_
  refine J.tr (s_goto (q := 23) dL_law_1007 (by decide)) ?_
  refine J.tr (s_ls (ls' := [(0, .ref 0), (1, .ref 1), (2, .ref 65), (3, .ref 94), (4, .int (i + 4))]) [2, 3, 4, 5, 0] rfl) ?_
  exact J.rf

set_option maxRecDepth 20000 in
theorem j_L_law_c10_2 {d : Nat} (hd : 1 ≤ d) (h : AH) (i : Int32) (k : Int32) (r : Int32) (F : Nat → Value) (ho : h.1 65 = ob 8 (fo 53 F)) (v0 : Int32) (e0 : F 0 = .int v0) (c : v0 = k) (c1 : k = 0) (n : Nat) (f : Nat → Int64) (ha : h.1 94 = la n f) (i1 : vp_in 0 n) (c2 : (f (0 : Int32).toNatClampNeg) = (r.toInt64)) : J true mL_law d 750 [(0, .ref 0), (1, .ref 1), (2, .ref 65), (3, .ref 94), (4, .int i), (5, .int k)] [.int r] h 23 [(0, .ref 0), (1, .ref 1), (2, .ref 65), (3, .ref 94), (4, .int (i + 4))] [] h := by
  refine J.tr (s_istore (q := 752) (ls' := [(6, .int r), (0, .ref 0), (1, .ref 1), (2, .ref 65), (3, .ref 94), (4, .int i), (5, .int k)]) dL_law_750 rfl (by decide) rfl) ?_
  refine J.tr (s_aload_n (q := 753) dL_law_752 rfl rfl) ?_
  refine J.tr (p2 := 756) (l2 := [(6, .int r), (0, .ref 0), (1, .ref 1), (2, .ref 65), (3, .ref 94), (4, .int i), (5, .int k)]) (s2 := [.int v0]) (h2 := h) (s_invv (K := mX8_thrown) (o := 65) (as := []) (rest := []) (v := some (.int v0)) dL_law_753 rfl lL_71 (by omega) rfl (Nat.le_of_ble_eq_true rfl) rfl (Nat.le_of_ble_eq_true rfl) (ho) (p_X8_thrown_1 (d := 0) (Nat.le_refl _) h 65 F ho v0 e0) (fun _ => rfl)) ?_
  refine J.tr (s_iload (q := 758) dL_law_756 rfl rfl) ?_
  refine J.tr (s_icmp_eq_t (q := 763) dL_law_758 (by decide) c) ?_
  refine J.tr (s_iload (q := 765) dL_law_763 rfl rfl) ?_
  refine J.tr (s_if_ne_f (q := 768) (tg := 780) dL_law_765 (by decide) rfl c1) ?_
  refine J.tr (s_aload_n (q := 769) dL_law_768 rfl rfl) ?_
  refine J.tr (s_iconst (q := 770) (v := 0) dL_law_769 rfl (by decide)) ?_
  refine J.tr (s_lald (q := 771) dL_law_770 rfl (ha) i1) ?_
  refine J.tr (s_iload (q := 773) dL_law_771 rfl rfl) ?_
  refine J.tr (s_i2l (q := 774) dL_law_773 rfl) ?_
  refine J.tr (s_lcmp (q := 775) dL_law_774 rfl) ?_
  refine J.tr (s_if_eq_t (q := 780) dL_law_775 (by decide) ((lgc_eq _ _).mpr c2)) ?_
  refine J.tr (s_goto (q := 1004) dL_law_780 (by decide)) ?_
  refine J.tr (s_iinc (q := 1007) (v := (i + 4)) (ls' := [(4, .int (i + 4)), (6, .int r), (0, .ref 0), (1, .ref 1), (2, .ref 65), (3, .ref 94), (5, .int k)]) dL_law_1004 rfl (by decide) rfl rfl rfl) ?_
  refine J.tr (s_goto (q := 23) dL_law_1007 (by decide)) ?_
  refine J.tr (s_ls (ls' := [(0, .ref 0), (1, .ref 1), (2, .ref 65), (3, .ref 94), (4, .int (i + 4))]) [2, 3, 4, 5, 0] rfl) ?_
  exact J.rf

set_option maxRecDepth 20000 in
theorem j_L_law_c10_3 {d : Nat} (hd : 1 ≤ d) (h : AH) (i : Int32) (k : Int32) (r : Int32) (F : Nat → Value) (ho : h.1 65 = ob 8 (fo 53 F)) (v0 : Int32) (e0 : F 0 = .int v0) (c : v0 = k) (c1 : k = 0) (n : Nat) (f : Nat → Int64) (ha : h.1 94 = la n f) (i1 : vp_in 0 n) (c2 : ¬ ((f (0 : Int32).toNatClampNeg) = (r.toInt64))) : E true mL_law d 750 [(0, .ref 0), (1, .ref 1), (2, .ref 65), (3, .ref 94), (4, .int i), (5, .int k)] [.int r] h (some (.int 0)) h := by
  refine E.st (s_istore (q := 752) (ls' := [(6, .int r), (0, .ref 0), (1, .ref 1), (2, .ref 65), (3, .ref 94), (4, .int i), (5, .int k)]) dL_law_750 rfl (by decide) rfl) ?_
  refine E.st (s_aload_n (q := 753) dL_law_752 rfl rfl) ?_
  refine E.st (p2 := 756) (l2 := [(6, .int r), (0, .ref 0), (1, .ref 1), (2, .ref 65), (3, .ref 94), (4, .int i), (5, .int k)]) (s2 := [.int v0]) (h2 := h) (s_invv (K := mX8_thrown) (o := 65) (as := []) (rest := []) (v := some (.int v0)) dL_law_753 rfl lL_71 (by omega) rfl (Nat.le_of_ble_eq_true rfl) rfl (Nat.le_of_ble_eq_true rfl) (ho) (p_X8_thrown_1 (d := 0) (Nat.le_refl _) h 65 F ho v0 e0) (fun _ => rfl)) ?_
  refine E.st (s_iload (q := 758) dL_law_756 rfl rfl) ?_
  refine E.st (s_icmp_eq_t (q := 763) dL_law_758 (by decide) c) ?_
  refine E.st (s_iload (q := 765) dL_law_763 rfl rfl) ?_
  refine E.st (s_if_ne_f (q := 768) (tg := 780) dL_law_765 (by decide) rfl c1) ?_
  refine E.st (s_aload_n (q := 769) dL_law_768 rfl rfl) ?_
  refine E.st (s_iconst (q := 770) (v := 0) dL_law_769 rfl (by decide)) ?_
  refine E.st (s_lald (q := 771) dL_law_770 rfl (ha) i1) ?_
  refine E.st (s_iload (q := 773) dL_law_771 rfl rfl) ?_
  refine E.st (s_i2l (q := 774) dL_law_773 rfl) ?_
  refine E.st (s_lcmp (q := 775) dL_law_774 rfl) ?_
  refine E.st (s_if_eq_f (q := 778) (tg := 780) dL_law_775 (by decide) rfl (fun z => c2 ((lgc_eq _ _).mp z))) ?_
  refine E.st (s_iconst (q := 779) (v := 0) dL_law_778 rfl (by decide)) ?_
  exact E.i dL_law_779 rfl rfl rfl rfl

set_option maxRecDepth 20000 in
theorem j_L_law_c10_4 {d : Nat} (hd : 1 ≤ d) (h : AH) (i : Int32) (k : Int32) (r : Int32) (F : Nat → Value) (ho : h.1 65 = ob 8 (fo 53 F)) (v0 : Int32) (e0 : F 0 = .int v0) (c : ¬ (v0 = k)) : E true mL_law d 750 [(0, .ref 0), (1, .ref 1), (2, .ref 65), (3, .ref 94), (4, .int i), (5, .int k)] [.int r] h (some (.int 0)) h := by
  refine E.st (s_istore (q := 752) (ls' := [(6, .int r), (0, .ref 0), (1, .ref 1), (2, .ref 65), (3, .ref 94), (4, .int i), (5, .int k)]) dL_law_750 rfl (by decide) rfl) ?_
  refine E.st (s_aload_n (q := 753) dL_law_752 rfl rfl) ?_
  refine E.st (p2 := 756) (l2 := [(6, .int r), (0, .ref 0), (1, .ref 1), (2, .ref 65), (3, .ref 94), (4, .int i), (5, .int k)]) (s2 := [.int v0]) (h2 := h) (s_invv (K := mX8_thrown) (o := 65) (as := []) (rest := []) (v := some (.int v0)) dL_law_753 rfl lL_71 (by omega) rfl (Nat.le_of_ble_eq_true rfl) rfl (Nat.le_of_ble_eq_true rfl) (ho) (p_X8_thrown_1 (d := 0) (Nat.le_refl _) h 65 F ho v0 e0) (fun _ => rfl)) ?_
  refine E.st (s_iload (q := 758) dL_law_756 rfl rfl) ?_
  refine E.st (s_icmp_eq_f (q := 761) (tg := 763) dL_law_758 (by decide) rfl c) ?_
  refine E.st (s_iconst (q := 762) (v := 0) dL_law_761 rfl (by decide)) ?_
  exact E.i dL_law_762 rfl rfl rfl rfl

set_option maxRecDepth 20000 in
theorem j_L_law_a11_1 {d : Nat} (hd : 0 ≤ d) (h : AH) (i : Int32) (n : Nat) (f : Nat → Int32) (ha : h.1 0 = ia n f) (i1 : vp_in (i + 1) n) (i2 : vp_in (i + 2) n) (i3 : vp_in (i + 3) n) : J true mL_law d 783 [(0, .ref 0), (1, .ref 1), (2, .ref 65), (3, .ref 94), (4, .int i)] [] h 802 [(0, .ref 0), (1, .ref 1), (2, .ref 65), (3, .ref 94), (4, .int i)] [.int (f (i + 3).toNatClampNeg), .int (f (i + 2).toNatClampNeg), .int (f (i + 1).toNatClampNeg), .ref 1] h := by
  refine J.tr (s_aload_n (q := 784) dL_law_783 rfl rfl) ?_
  refine J.tr (s_aload_n (q := 785) dL_law_784 rfl rfl) ?_
  refine J.tr (s_iload (q := 787) dL_law_785 rfl rfl) ?_
  refine J.tr (s_iconst (q := 788) (v := 1) dL_law_787 rfl (by decide)) ?_
  refine J.tr (s_iadd (q := 789) dL_law_788 rfl) ?_
  refine J.tr (s_sld (q := 790) dL_law_789 rfl (ha) i1) ?_
  refine J.tr (s_aload_n (q := 791) dL_law_790 rfl rfl) ?_
  refine J.tr (s_iload (q := 793) dL_law_791 rfl rfl) ?_
  refine J.tr (s_iconst (q := 794) (v := 2) dL_law_793 rfl (by decide)) ?_
  refine J.tr (s_iadd (q := 795) dL_law_794 rfl) ?_
  refine J.tr (s_sld (q := 796) dL_law_795 rfl (ha) i2) ?_
  refine J.tr (s_aload_n (q := 797) dL_law_796 rfl rfl) ?_
  refine J.tr (s_iload (q := 799) dL_law_797 rfl rfl) ?_
  refine J.tr (s_iconst (q := 800) (v := 3) dL_law_799 rfl (by decide)) ?_
  refine J.tr (s_iadd (q := 801) dL_law_800 rfl) ?_
  refine J.tr (s_sld (q := 802) dL_law_801 rfl (ha) i3) ?_
  refine J.tr (s_ls (ls' := [(0, .ref 0), (1, .ref 1), (2, .ref 65), (3, .ref 94), (4, .int i)]) [0, 1, 2, 3, 4] rfl) ?_
  exact J.rf

set_option maxRecDepth 20000 in
theorem j_L_law_b11_1 {d : Nat} (hd : 0 ≤ d) (h : AH) (i : Int32) (k : Int32) (n : Nat) (f : Nat → Int32) (ha : h.1 0 = ia n f) (i1 : vp_in (i + 1) n) (i2 : vp_in (i + 2) n) (i3 : vp_in (i + 3) n) : J true mL_law d 805 [(0, .ref 0), (1, .ref 1), (2, .ref 65), (3, .ref 94), (4, .int i)] [.int k] h 826 [(0, .ref 0), (1, .ref 1), (2, .ref 65), (3, .ref 94), (4, .int i), (5, .int k)] [.int (f (i + 3).toNatClampNeg), .int (f (i + 2).toNatClampNeg), .int (f (i + 1).toNatClampNeg), .ref 65] h := by
  refine J.tr (s_istore (q := 807) (ls' := [(5, .int k), (0, .ref 0), (1, .ref 1), (2, .ref 65), (3, .ref 94), (4, .int i)]) dL_law_805 rfl (by decide) rfl) ?_
  refine J.tr (s_aload_n (q := 808) dL_law_807 rfl rfl) ?_
  refine J.tr (s_aload_n (q := 809) dL_law_808 rfl rfl) ?_
  refine J.tr (s_iload (q := 811) dL_law_809 rfl rfl) ?_
  refine J.tr (s_iconst (q := 812) (v := 1) dL_law_811 rfl (by decide)) ?_
  refine J.tr (s_iadd (q := 813) dL_law_812 rfl) ?_
  refine J.tr (s_sld (q := 814) dL_law_813 rfl (ha) i1) ?_
  refine J.tr (s_aload_n (q := 815) dL_law_814 rfl rfl) ?_
  refine J.tr (s_iload (q := 817) dL_law_815 rfl rfl) ?_
  refine J.tr (s_iconst (q := 818) (v := 2) dL_law_817 rfl (by decide)) ?_
  refine J.tr (s_iadd (q := 819) dL_law_818 rfl) ?_
  refine J.tr (s_sld (q := 820) dL_law_819 rfl (ha) i2) ?_
  refine J.tr (s_aload_n (q := 821) dL_law_820 rfl rfl) ?_
  refine J.tr (s_iload (q := 823) dL_law_821 rfl rfl) ?_
  refine J.tr (s_iconst (q := 824) (v := 3) dL_law_823 rfl (by decide)) ?_
  refine J.tr (s_iadd (q := 825) dL_law_824 rfl) ?_
  refine J.tr (s_sld (q := 826) dL_law_825 rfl (ha) i3) ?_
  refine J.tr (s_ls (ls' := [(0, .ref 0), (1, .ref 1), (2, .ref 65), (3, .ref 94), (4, .int i), (5, .int k)]) [1, 2, 3, 4, 5, 0] rfl) ?_
  exact J.rf

set_option maxRecDepth 20000 in
theorem j_L_law_c11_1 {d : Nat} (hd : 1 ≤ d) (h : AH) (i : Int32) (k : Int32) (F : Nat → Value) (ho : h.1 65 = ob 8 (fo 53 F)) (v0 : Int32) (e0 : F 0 = .int v0) (c : v0 = k) : J true mL_law d 829 [(0, .ref 0), (1, .ref 1), (2, .ref 65), (3, .ref 94), (4, .int i), (5, .int k)] [] h 23 [(0, .ref 0), (1, .ref 1), (2, .ref 65), (3, .ref 94), (4, .int (i + 4))] [] h := by
  refine J.tr (s_aload_n (q := 830) dL_law_829 rfl rfl) ?_
  refine J.tr (p2 := 833) (l2 := [(0, .ref 0), (1, .ref 1), (2, .ref 65), (3, .ref 94), (4, .int i), (5, .int k)]) (s2 := [.int v0]) (h2 := h) (s_invv (K := mX8_thrown) (o := 65) (as := []) (rest := []) (v := some (.int v0)) dL_law_830 rfl lL_71 (by omega) rfl (Nat.le_of_ble_eq_true rfl) rfl (Nat.le_of_ble_eq_true rfl) (ho) (p_X8_thrown_1 (d := 0) (Nat.le_refl _) h 65 F ho v0 e0) (fun _ => rfl)) ?_
  refine J.tr (s_iload (q := 835) dL_law_833 rfl rfl) ?_
  refine J.tr (s_icmp_eq_t (q := 840) dL_law_835 (by decide) c) ?_
  refine J.tr (s_goto (q := 1004) dL_law_840 (by decide)) ?_
  refine J.tr (s_iinc (q := 1007) (v := (i + 4)) (ls' := [(4, .int (i + 4)), (0, .ref 0), (1, .ref 1), (2, .ref 65), (3, .ref 94), (5, .int k)]) dL_law_1004 rfl (by decide) rfl rfl rfl) ?_
  refine J.tr (s_goto (q := 23) dL_law_1007 (by decide)) ?_
  refine J.tr (s_ls (ls' := [(0, .ref 0), (1, .ref 1), (2, .ref 65), (3, .ref 94), (4, .int (i + 4))]) [1, 2, 3, 4, 0] rfl) ?_
  exact J.rf

set_option maxRecDepth 20000 in
theorem j_L_law_c11_2 {d : Nat} (hd : 1 ≤ d) (h : AH) (i : Int32) (k : Int32) (F : Nat → Value) (ho : h.1 65 = ob 8 (fo 53 F)) (v0 : Int32) (e0 : F 0 = .int v0) (c : ¬ (v0 = k)) : E true mL_law d 829 [(0, .ref 0), (1, .ref 1), (2, .ref 65), (3, .ref 94), (4, .int i), (5, .int k)] [] h (some (.int 0)) h := by
  refine E.st (s_aload_n (q := 830) dL_law_829 rfl rfl) ?_
  refine E.st (p2 := 833) (l2 := [(0, .ref 0), (1, .ref 1), (2, .ref 65), (3, .ref 94), (4, .int i), (5, .int k)]) (s2 := [.int v0]) (h2 := h) (s_invv (K := mX8_thrown) (o := 65) (as := []) (rest := []) (v := some (.int v0)) dL_law_830 rfl lL_71 (by omega) rfl (Nat.le_of_ble_eq_true rfl) rfl (Nat.le_of_ble_eq_true rfl) (ho) (p_X8_thrown_1 (d := 0) (Nat.le_refl _) h 65 F ho v0 e0) (fun _ => rfl)) ?_
  refine E.st (s_iload (q := 835) dL_law_833 rfl rfl) ?_
  refine E.st (s_icmp_eq_f (q := 838) (tg := 840) dL_law_835 (by decide) rfl c) ?_
  refine E.st (s_iconst (q := 839) (v := 0) dL_law_838 rfl (by decide)) ?_
  exact E.i dL_law_839 rfl rfl rfl rfl

set_option maxRecDepth 20000 in
theorem j_L_law_a12_1 {d : Nat} (hd : 0 ≤ d) (h : AH) (i : Int32) : J true mL_law d 843 [(0, .ref 0), (1, .ref 1), (2, .ref 65), (3, .ref 94), (4, .int i)] [] h 845 [(0, .ref 0), (1, .ref 1), (2, .ref 65), (3, .ref 94), (4, .int i)] [.ref 94, .ref 1] h := by
  refine J.tr (s_aload_n (q := 844) dL_law_843 rfl rfl) ?_
  refine J.tr (s_aload_n (q := 845) dL_law_844 rfl rfl) ?_
  refine J.tr (s_ls (ls' := [(0, .ref 0), (1, .ref 1), (2, .ref 65), (3, .ref 94), (4, .int i)]) [0, 1, 2, 3, 4] rfl) ?_
  exact J.rf

set_option maxRecDepth 20000 in
theorem j_L_law_b12_1 {d : Nat} (hd : 0 ≤ d) (h : AH) (i : Int32) (k : Int32) : J true mL_law d 848 [(0, .ref 0), (1, .ref 1), (2, .ref 65), (3, .ref 94), (4, .int i)] [.int k] h 851 [(0, .ref 0), (1, .ref 1), (2, .ref 65), (3, .ref 94), (4, .int i), (5, .int k)] [.ref 65] h := by
  refine J.tr (s_istore (q := 850) (ls' := [(5, .int k), (0, .ref 0), (1, .ref 1), (2, .ref 65), (3, .ref 94), (4, .int i)]) dL_law_848 rfl (by decide) rfl) ?_
  refine J.tr (s_aload_n (q := 851) dL_law_850 rfl rfl) ?_
  refine J.tr (s_ls (ls' := [(0, .ref 0), (1, .ref 1), (2, .ref 65), (3, .ref 94), (4, .int i), (5, .int k)]) [1, 2, 3, 4, 5, 0] rfl) ?_
  exact J.rf

set_option maxRecDepth 20000 in
theorem j_L_law_c12_1 {d : Nat} (hd : 1 ≤ d) (h : AH) (i : Int32) (k : Int32) (r : Int32) (F : Nat → Value) (ho : h.1 65 = ob 8 (fo 53 F)) (v0 : Int32) (e0 : F 0 = .int v0) (c : v0 = k) (c1 : ¬ k = 0) : J true mL_law d 854 [(0, .ref 0), (1, .ref 1), (2, .ref 65), (3, .ref 94), (4, .int i), (5, .int k)] [.int r] h 23 [(0, .ref 0), (1, .ref 1), (2, .ref 65), (3, .ref 94), (4, .int (i + 4))] [] h := by
  refine J.tr (s_istore (q := 856) (ls' := [(6, .int r), (0, .ref 0), (1, .ref 1), (2, .ref 65), (3, .ref 94), (4, .int i), (5, .int k)]) dL_law_854 rfl (by decide) rfl) ?_
  refine J.tr (s_aload_n (q := 857) dL_law_856 rfl rfl) ?_
  refine J.tr (p2 := 860) (l2 := [(6, .int r), (0, .ref 0), (1, .ref 1), (2, .ref 65), (3, .ref 94), (4, .int i), (5, .int k)]) (s2 := [.int v0]) (h2 := h) (s_invv (K := mX8_thrown) (o := 65) (as := []) (rest := []) (v := some (.int v0)) dL_law_857 rfl lL_71 (by omega) rfl (Nat.le_of_ble_eq_true rfl) rfl (Nat.le_of_ble_eq_true rfl) (ho) (p_X8_thrown_1 (d := 0) (Nat.le_refl _) h 65 F ho v0 e0) (fun _ => rfl)) ?_
  refine J.tr (s_iload (q := 862) dL_law_860 rfl rfl) ?_
  refine J.tr (s_icmp_eq_t (q := 867) dL_law_862 (by decide) c) ?_
  refine J.tr (s_iload (q := 869) dL_law_867 rfl rfl) ?_
  refine J.tr (s_if_ne_t (q := 884) dL_law_869 (by decide) c1) ?_
  refine J.tr (s_goto (q := 1004) dL_law_884 (by decide)) ?_
  refine J.tr (s_iinc (q := 1007) (v := (i + 4)) (ls' := [(4, .int (i + 4)), (6, .int r), (0, .ref 0), (1, .ref 1), (2, .ref 65), (3, .ref 94), (5, .int k)]) dL_law_1004 rfl (by decide) rfl rfl rfl) ?_
  refine J.tr (s_goto (q := 23) dL_law_1007 (by decide)) ?_
  refine J.tr (s_ls (ls' := [(0, .ref 0), (1, .ref 1), (2, .ref 65), (3, .ref 94), (4, .int (i + 4))]) [2, 3, 4, 5, 0] rfl) ?_
  exact J.rf

set_option maxRecDepth 20000 in
theorem j_L_law_c12_2 {d : Nat} (hd : 1 ≤ d) (h : AH) (i : Int32) (k : Int32) (r : Int32) (F : Nat → Value) (ho : h.1 65 = ob 8 (fo 53 F)) (v0 : Int32) (e0 : F 0 = .int v0) (c : v0 = k) (c1 : k = 0) (n : Nat) (f : Nat → Int64) (ha : h.1 94 = la n f) (i1 : vp_in 0 n) (c2 : (f (0 : Int32).toNatClampNeg) = (r.toInt64)) : J true mL_law d 854 [(0, .ref 0), (1, .ref 1), (2, .ref 65), (3, .ref 94), (4, .int i), (5, .int k)] [.int r] h 23 [(0, .ref 0), (1, .ref 1), (2, .ref 65), (3, .ref 94), (4, .int (i + 4))] [] h := by
  refine J.tr (s_istore (q := 856) (ls' := [(6, .int r), (0, .ref 0), (1, .ref 1), (2, .ref 65), (3, .ref 94), (4, .int i), (5, .int k)]) dL_law_854 rfl (by decide) rfl) ?_
  refine J.tr (s_aload_n (q := 857) dL_law_856 rfl rfl) ?_
  refine J.tr (p2 := 860) (l2 := [(6, .int r), (0, .ref 0), (1, .ref 1), (2, .ref 65), (3, .ref 94), (4, .int i), (5, .int k)]) (s2 := [.int v0]) (h2 := h) (s_invv (K := mX8_thrown) (o := 65) (as := []) (rest := []) (v := some (.int v0)) dL_law_857 rfl lL_71 (by omega) rfl (Nat.le_of_ble_eq_true rfl) rfl (Nat.le_of_ble_eq_true rfl) (ho) (p_X8_thrown_1 (d := 0) (Nat.le_refl _) h 65 F ho v0 e0) (fun _ => rfl)) ?_
  refine J.tr (s_iload (q := 862) dL_law_860 rfl rfl) ?_
  refine J.tr (s_icmp_eq_t (q := 867) dL_law_862 (by decide) c) ?_
  refine J.tr (s_iload (q := 869) dL_law_867 rfl rfl) ?_
  refine J.tr (s_if_ne_f (q := 872) (tg := 884) dL_law_869 (by decide) rfl c1) ?_
  refine J.tr (s_aload_n (q := 873) dL_law_872 rfl rfl) ?_
  refine J.tr (s_iconst (q := 874) (v := 0) dL_law_873 rfl (by decide)) ?_
  refine J.tr (s_lald (q := 875) dL_law_874 rfl (ha) i1) ?_
  refine J.tr (s_iload (q := 877) dL_law_875 rfl rfl) ?_
  refine J.tr (s_i2l (q := 878) dL_law_877 rfl) ?_
  refine J.tr (s_lcmp (q := 879) dL_law_878 rfl) ?_
  refine J.tr (s_if_eq_t (q := 884) dL_law_879 (by decide) ((lgc_eq _ _).mpr c2)) ?_
  refine J.tr (s_goto (q := 1004) dL_law_884 (by decide)) ?_
  refine J.tr (s_iinc (q := 1007) (v := (i + 4)) (ls' := [(4, .int (i + 4)), (6, .int r), (0, .ref 0), (1, .ref 1), (2, .ref 65), (3, .ref 94), (5, .int k)]) dL_law_1004 rfl (by decide) rfl rfl rfl) ?_
  refine J.tr (s_goto (q := 23) dL_law_1007 (by decide)) ?_
  refine J.tr (s_ls (ls' := [(0, .ref 0), (1, .ref 1), (2, .ref 65), (3, .ref 94), (4, .int (i + 4))]) [2, 3, 4, 5, 0] rfl) ?_
  exact J.rf

set_option maxRecDepth 20000 in
theorem j_L_law_c12_3 {d : Nat} (hd : 1 ≤ d) (h : AH) (i : Int32) (k : Int32) (r : Int32) (F : Nat → Value) (ho : h.1 65 = ob 8 (fo 53 F)) (v0 : Int32) (e0 : F 0 = .int v0) (c : v0 = k) (c1 : k = 0) (n : Nat) (f : Nat → Int64) (ha : h.1 94 = la n f) (i1 : vp_in 0 n) (c2 : ¬ ((f (0 : Int32).toNatClampNeg) = (r.toInt64))) : E true mL_law d 854 [(0, .ref 0), (1, .ref 1), (2, .ref 65), (3, .ref 94), (4, .int i), (5, .int k)] [.int r] h (some (.int 0)) h := by
  refine E.st (s_istore (q := 856) (ls' := [(6, .int r), (0, .ref 0), (1, .ref 1), (2, .ref 65), (3, .ref 94), (4, .int i), (5, .int k)]) dL_law_854 rfl (by decide) rfl) ?_
  refine E.st (s_aload_n (q := 857) dL_law_856 rfl rfl) ?_
  refine E.st (p2 := 860) (l2 := [(6, .int r), (0, .ref 0), (1, .ref 1), (2, .ref 65), (3, .ref 94), (4, .int i), (5, .int k)]) (s2 := [.int v0]) (h2 := h) (s_invv (K := mX8_thrown) (o := 65) (as := []) (rest := []) (v := some (.int v0)) dL_law_857 rfl lL_71 (by omega) rfl (Nat.le_of_ble_eq_true rfl) rfl (Nat.le_of_ble_eq_true rfl) (ho) (p_X8_thrown_1 (d := 0) (Nat.le_refl _) h 65 F ho v0 e0) (fun _ => rfl)) ?_
  refine E.st (s_iload (q := 862) dL_law_860 rfl rfl) ?_
  refine E.st (s_icmp_eq_t (q := 867) dL_law_862 (by decide) c) ?_
  refine E.st (s_iload (q := 869) dL_law_867 rfl rfl) ?_
  refine E.st (s_if_ne_f (q := 872) (tg := 884) dL_law_869 (by decide) rfl c1) ?_
  refine E.st (s_aload_n (q := 873) dL_law_872 rfl rfl) ?_
  refine E.st (s_iconst (q := 874) (v := 0) dL_law_873 rfl (by decide)) ?_
  refine E.st (s_lald (q := 875) dL_law_874 rfl (ha) i1) ?_
  refine E.st (s_iload (q := 877) dL_law_875 rfl rfl) ?_
  refine E.st (s_i2l (q := 878) dL_law_877 rfl) ?_
  refine E.st (s_lcmp (q := 879) dL_law_878 rfl) ?_
  refine E.st (s_if_eq_f (q := 882) (tg := 884) dL_law_879 (by decide) rfl (fun z => c2 ((lgc_eq _ _).mp z))) ?_
  refine E.st (s_iconst (q := 883) (v := 0) dL_law_882 rfl (by decide)) ?_
  exact E.i dL_law_883 rfl rfl rfl rfl

set_option maxRecDepth 20000 in
theorem j_L_law_c12_4 {d : Nat} (hd : 1 ≤ d) (h : AH) (i : Int32) (k : Int32) (r : Int32) (F : Nat → Value) (ho : h.1 65 = ob 8 (fo 53 F)) (v0 : Int32) (e0 : F 0 = .int v0) (c : ¬ (v0 = k)) : E true mL_law d 854 [(0, .ref 0), (1, .ref 1), (2, .ref 65), (3, .ref 94), (4, .int i), (5, .int k)] [.int r] h (some (.int 0)) h := by
  refine E.st (s_istore (q := 856) (ls' := [(6, .int r), (0, .ref 0), (1, .ref 1), (2, .ref 65), (3, .ref 94), (4, .int i), (5, .int k)]) dL_law_854 rfl (by decide) rfl) ?_
  refine E.st (s_aload_n (q := 857) dL_law_856 rfl rfl) ?_
  refine E.st (p2 := 860) (l2 := [(6, .int r), (0, .ref 0), (1, .ref 1), (2, .ref 65), (3, .ref 94), (4, .int i), (5, .int k)]) (s2 := [.int v0]) (h2 := h) (s_invv (K := mX8_thrown) (o := 65) (as := []) (rest := []) (v := some (.int v0)) dL_law_857 rfl lL_71 (by omega) rfl (Nat.le_of_ble_eq_true rfl) rfl (Nat.le_of_ble_eq_true rfl) (ho) (p_X8_thrown_1 (d := 0) (Nat.le_refl _) h 65 F ho v0 e0) (fun _ => rfl)) ?_
  refine E.st (s_iload (q := 862) dL_law_860 rfl rfl) ?_
  refine E.st (s_icmp_eq_f (q := 865) (tg := 867) dL_law_862 (by decide) rfl c) ?_
  refine E.st (s_iconst (q := 866) (v := 0) dL_law_865 rfl (by decide)) ?_
  exact E.i dL_law_866 rfl rfl rfl rfl

set_option maxRecDepth 20000 in
theorem j_L_law_a13_1 {d : Nat} (hd : 0 ≤ d) (h : AH) (i : Int32) (n : Nat) (f : Nat → Int32) (ha : h.1 0 = ia n f) (i1 : vp_in (i + 1) n) : J true mL_law d 887 [(0, .ref 0), (1, .ref 1), (2, .ref 65), (3, .ref 94), (4, .int i)] [] h 894 [(0, .ref 0), (1, .ref 1), (2, .ref 65), (3, .ref 94), (4, .int i)] [.int (f (i + 1).toNatClampNeg), .ref 1] h := by
  refine J.tr (s_aload_n (q := 888) dL_law_887 rfl rfl) ?_
  refine J.tr (s_aload_n (q := 889) dL_law_888 rfl rfl) ?_
  refine J.tr (s_iload (q := 891) dL_law_889 rfl rfl) ?_
  refine J.tr (s_iconst (q := 892) (v := 1) dL_law_891 rfl (by decide)) ?_
  refine J.tr (s_iadd (q := 893) dL_law_892 rfl) ?_
  refine J.tr (s_sld (q := 894) dL_law_893 rfl (ha) i1) ?_
  refine J.tr (s_ls (ls' := [(0, .ref 0), (1, .ref 1), (2, .ref 65), (3, .ref 94), (4, .int i)]) [0, 1, 2, 3, 4] rfl) ?_
  exact J.rf

set_option maxRecDepth 20000 in
theorem j_L_law_b13_1 {d : Nat} (hd : 0 ≤ d) (h : AH) (i : Int32) (r : Int32) (n : Nat) (f : Nat → Int32) (ha : h.1 0 = ia n f) (i1 : vp_in (i + 1) n) : J true mL_law d 897 [(0, .ref 0), (1, .ref 1), (2, .ref 65), (3, .ref 94), (4, .int i)] [.int r] h 904 [(0, .ref 0), (1, .ref 1), (2, .ref 65), (3, .ref 94), (4, .int i)] [.int (f (i + 1).toNatClampNeg), .ref 65, .int r] h := by
  refine J.tr (s_aload_n (q := 898) dL_law_897 rfl rfl) ?_
  refine J.tr (s_aload_n (q := 899) dL_law_898 rfl rfl) ?_
  refine J.tr (s_iload (q := 901) dL_law_899 rfl rfl) ?_
  refine J.tr (s_iconst (q := 902) (v := 1) dL_law_901 rfl (by decide)) ?_
  refine J.tr (s_iadd (q := 903) dL_law_902 rfl) ?_
  refine J.tr (s_sld (q := 904) dL_law_903 rfl (ha) i1) ?_
  refine J.tr (s_ls (ls' := [(0, .ref 0), (1, .ref 1), (2, .ref 65), (3, .ref 94), (4, .int i)]) [0, 1, 2, 3, 4] rfl) ?_
  exact J.rf

set_option maxRecDepth 20000 in
theorem j_L_law_c13_1 {d : Nat} (hd : 0 ≤ d) (h : AH) (i : Int32) (s : Int32) (r : Int32) (c : r = s) : J true mL_law d 907 [(0, .ref 0), (1, .ref 1), (2, .ref 65), (3, .ref 94), (4, .int i)] [.int s, .int r] h 23 [(0, .ref 0), (1, .ref 1), (2, .ref 65), (3, .ref 94), (4, .int (i + 4))] [] h := by
  refine J.tr (s_icmp_eq_t (q := 1004) dL_law_907 (by decide) c) ?_
  refine J.tr (s_iinc (q := 1007) (v := (i + 4)) (ls' := [(4, .int (i + 4)), (0, .ref 0), (1, .ref 1), (2, .ref 65), (3, .ref 94)]) dL_law_1004 rfl (by decide) rfl rfl rfl) ?_
  refine J.tr (s_goto (q := 23) dL_law_1007 (by decide)) ?_
  refine J.tr (s_ls (ls' := [(0, .ref 0), (1, .ref 1), (2, .ref 65), (3, .ref 94), (4, .int (i + 4))]) [1, 2, 3, 4, 0] rfl) ?_
  exact J.rf

set_option maxRecDepth 20000 in
theorem j_L_law_c13_2 {d : Nat} (hd : 0 ≤ d) (h : AH) (i : Int32) (s : Int32) (r : Int32) (c : ¬ (r = s)) : E true mL_law d 907 [(0, .ref 0), (1, .ref 1), (2, .ref 65), (3, .ref 94), (4, .int i)] [.int s, .int r] h (some (.int 0)) h := by
  refine E.st (s_icmp_eq_f (q := 910) (tg := 1004) dL_law_907 (by decide) rfl c) ?_
  refine E.st (s_iconst (q := 911) (v := 0) dL_law_910 rfl (by decide)) ?_
  exact E.i dL_law_911 rfl rfl rfl rfl

set_option maxRecDepth 20000 in
theorem j_L_law_a14_1 {d : Nat} (hd : 0 ≤ d) (h : AH) (i : Int32) (n : Nat) (f : Nat → Int32) (ha : h.1 0 = ia n f) (i1 : vp_in (i + 1) n) (i2 : vp_in (i + 2) n) : J true mL_law d 912 [(0, .ref 0), (1, .ref 1), (2, .ref 65), (3, .ref 94), (4, .int i)] [] h 926 [(0, .ref 0), (1, .ref 1), (2, .ref 65), (3, .ref 94), (4, .int i)] [.ref 94, .int (f (i + 2).toNatClampNeg), .int (f (i + 1).toNatClampNeg), .ref 1] h := by
  refine J.tr (s_aload_n (q := 913) dL_law_912 rfl rfl) ?_
  refine J.tr (s_aload_n (q := 914) dL_law_913 rfl rfl) ?_
  refine J.tr (s_iload (q := 916) dL_law_914 rfl rfl) ?_
  refine J.tr (s_iconst (q := 917) (v := 1) dL_law_916 rfl (by decide)) ?_
  refine J.tr (s_iadd (q := 918) dL_law_917 rfl) ?_
  refine J.tr (s_sld (q := 919) dL_law_918 rfl (ha) i1) ?_
  refine J.tr (s_aload_n (q := 920) dL_law_919 rfl rfl) ?_
  refine J.tr (s_iload (q := 922) dL_law_920 rfl rfl) ?_
  refine J.tr (s_iconst (q := 923) (v := 2) dL_law_922 rfl (by decide)) ?_
  refine J.tr (s_iadd (q := 924) dL_law_923 rfl) ?_
  refine J.tr (s_sld (q := 925) dL_law_924 rfl (ha) i2) ?_
  refine J.tr (s_aload_n (q := 926) dL_law_925 rfl rfl) ?_
  refine J.tr (s_ls (ls' := [(0, .ref 0), (1, .ref 1), (2, .ref 65), (3, .ref 94), (4, .int i)]) [0, 1, 2, 3, 4] rfl) ?_
  exact J.rf

set_option maxRecDepth 20000 in
theorem j_L_law_b14_1 {d : Nat} (hd : 0 ≤ d) (h : AH) (i : Int32) (k : Int32) (n : Nat) (f : Nat → Int32) (ha : h.1 0 = ia n f) (i1 : vp_in (i + 1) n) (i2 : vp_in (i + 2) n) : J true mL_law d 929 [(0, .ref 0), (1, .ref 1), (2, .ref 65), (3, .ref 94), (4, .int i)] [.int k] h 944 [(0, .ref 0), (1, .ref 1), (2, .ref 65), (3, .ref 94), (4, .int i), (5, .int k)] [.int (f (i + 2).toNatClampNeg), .int (f (i + 1).toNatClampNeg), .ref 65] h := by
  refine J.tr (s_istore (q := 931) (ls' := [(5, .int k), (0, .ref 0), (1, .ref 1), (2, .ref 65), (3, .ref 94), (4, .int i)]) dL_law_929 rfl (by decide) rfl) ?_
  refine J.tr (s_aload_n (q := 932) dL_law_931 rfl rfl) ?_
  refine J.tr (s_aload_n (q := 933) dL_law_932 rfl rfl) ?_
  refine J.tr (s_iload (q := 935) dL_law_933 rfl rfl) ?_
  refine J.tr (s_iconst (q := 936) (v := 1) dL_law_935 rfl (by decide)) ?_
  refine J.tr (s_iadd (q := 937) dL_law_936 rfl) ?_
  refine J.tr (s_sld (q := 938) dL_law_937 rfl (ha) i1) ?_
  refine J.tr (s_aload_n (q := 939) dL_law_938 rfl rfl) ?_
  refine J.tr (s_iload (q := 941) dL_law_939 rfl rfl) ?_
  refine J.tr (s_iconst (q := 942) (v := 2) dL_law_941 rfl (by decide)) ?_
  refine J.tr (s_iadd (q := 943) dL_law_942 rfl) ?_
  refine J.tr (s_sld (q := 944) dL_law_943 rfl (ha) i2) ?_
  refine J.tr (s_ls (ls' := [(0, .ref 0), (1, .ref 1), (2, .ref 65), (3, .ref 94), (4, .int i), (5, .int k)]) [1, 2, 3, 4, 5, 0] rfl) ?_
  exact J.rf

set_option maxRecDepth 20000 in
theorem j_L_law_c14_1 {d : Nat} (hd : 1 ≤ d) (h : AH) (i : Int32) (k : Int32) (r : Int64) (F : Nat → Value) (ho : h.1 65 = ob 8 (fo 53 F)) (v0 : Int32) (e0 : F 0 = .int v0) (c : v0 = k) (c1 : ¬ k = 0) : J true mL_law d 947 [(0, .ref 0), (1, .ref 1), (2, .ref 65), (3, .ref 94), (4, .int i), (5, .int k)] [.long r] h 23 [(0, .ref 0), (1, .ref 1), (2, .ref 65), (3, .ref 94), (4, .int (i + 4))] [] h := by
  refine J.tr (s_lstore (q := 949) (ls' := [(6, .long r), (0, .ref 0), (1, .ref 1), (2, .ref 65), (3, .ref 94), (4, .int i), (5, .int k)]) dL_law_947 rfl (by decide) rfl) ?_
  refine J.tr (s_aload_n (q := 950) dL_law_949 rfl rfl) ?_
  refine J.tr (p2 := 953) (l2 := [(6, .long r), (0, .ref 0), (1, .ref 1), (2, .ref 65), (3, .ref 94), (4, .int i), (5, .int k)]) (s2 := [.int v0]) (h2 := h) (s_invv (K := mX8_thrown) (o := 65) (as := []) (rest := []) (v := some (.int v0)) dL_law_950 rfl lL_71 (by omega) rfl (Nat.le_of_ble_eq_true rfl) rfl (Nat.le_of_ble_eq_true rfl) (ho) (p_X8_thrown_1 (d := 0) (Nat.le_refl _) h 65 F ho v0 e0) (fun _ => rfl)) ?_
  refine J.tr (s_iload (q := 955) dL_law_953 rfl rfl) ?_
  refine J.tr (s_icmp_eq_t (q := 960) dL_law_955 (by decide) c) ?_
  refine J.tr (s_iload (q := 962) dL_law_960 rfl rfl) ?_
  refine J.tr (s_if_ne_t (q := 976) dL_law_962 (by decide) c1) ?_
  refine J.tr (s_goto (q := 1004) dL_law_976 (by decide)) ?_
  refine J.tr (s_iinc (q := 1007) (v := (i + 4)) (ls' := [(4, .int (i + 4)), (6, .long r), (0, .ref 0), (1, .ref 1), (2, .ref 65), (3, .ref 94), (5, .int k)]) dL_law_1004 rfl (by decide) rfl rfl rfl) ?_
  refine J.tr (s_goto (q := 23) dL_law_1007 (by decide)) ?_
  refine J.tr (s_ls (ls' := [(0, .ref 0), (1, .ref 1), (2, .ref 65), (3, .ref 94), (4, .int (i + 4))]) [2, 3, 4, 5, 0] rfl) ?_
  exact J.rf

set_option maxRecDepth 20000 in
theorem j_L_law_c14_2 {d : Nat} (hd : 1 ≤ d) (h : AH) (i : Int32) (k : Int32) (r : Int64) (F : Nat → Value) (ho : h.1 65 = ob 8 (fo 53 F)) (v0 : Int32) (e0 : F 0 = .int v0) (c : v0 = k) (c1 : k = 0) (n : Nat) (f : Nat → Int64) (ha : h.1 94 = la n f) (i1 : vp_in 0 n) (c2 : (f (0 : Int32).toNatClampNeg) = r) : J true mL_law d 947 [(0, .ref 0), (1, .ref 1), (2, .ref 65), (3, .ref 94), (4, .int i), (5, .int k)] [.long r] h 23 [(0, .ref 0), (1, .ref 1), (2, .ref 65), (3, .ref 94), (4, .int (i + 4))] [] h := by
  refine J.tr (s_lstore (q := 949) (ls' := [(6, .long r), (0, .ref 0), (1, .ref 1), (2, .ref 65), (3, .ref 94), (4, .int i), (5, .int k)]) dL_law_947 rfl (by decide) rfl) ?_
  refine J.tr (s_aload_n (q := 950) dL_law_949 rfl rfl) ?_
  refine J.tr (p2 := 953) (l2 := [(6, .long r), (0, .ref 0), (1, .ref 1), (2, .ref 65), (3, .ref 94), (4, .int i), (5, .int k)]) (s2 := [.int v0]) (h2 := h) (s_invv (K := mX8_thrown) (o := 65) (as := []) (rest := []) (v := some (.int v0)) dL_law_950 rfl lL_71 (by omega) rfl (Nat.le_of_ble_eq_true rfl) rfl (Nat.le_of_ble_eq_true rfl) (ho) (p_X8_thrown_1 (d := 0) (Nat.le_refl _) h 65 F ho v0 e0) (fun _ => rfl)) ?_
  refine J.tr (s_iload (q := 955) dL_law_953 rfl rfl) ?_
  refine J.tr (s_icmp_eq_t (q := 960) dL_law_955 (by decide) c) ?_
  refine J.tr (s_iload (q := 962) dL_law_960 rfl rfl) ?_
  refine J.tr (s_if_ne_f (q := 965) (tg := 976) dL_law_962 (by decide) rfl c1) ?_
  refine J.tr (s_aload_n (q := 966) dL_law_965 rfl rfl) ?_
  refine J.tr (s_iconst (q := 967) (v := 0) dL_law_966 rfl (by decide)) ?_
  refine J.tr (s_lald (q := 968) dL_law_967 rfl (ha) i1) ?_
  refine J.tr (s_lload (q := 970) dL_law_968 rfl rfl) ?_
  refine J.tr (s_lcmp (q := 971) dL_law_970 rfl) ?_
  refine J.tr (s_if_eq_t (q := 976) dL_law_971 (by decide) ((lgc_eq _ _).mpr c2)) ?_
  refine J.tr (s_goto (q := 1004) dL_law_976 (by decide)) ?_
  refine J.tr (s_iinc (q := 1007) (v := (i + 4)) (ls' := [(4, .int (i + 4)), (6, .long r), (0, .ref 0), (1, .ref 1), (2, .ref 65), (3, .ref 94), (5, .int k)]) dL_law_1004 rfl (by decide) rfl rfl rfl) ?_
  refine J.tr (s_goto (q := 23) dL_law_1007 (by decide)) ?_
  refine J.tr (s_ls (ls' := [(0, .ref 0), (1, .ref 1), (2, .ref 65), (3, .ref 94), (4, .int (i + 4))]) [2, 3, 4, 5, 0] rfl) ?_
  exact J.rf

set_option maxRecDepth 20000 in
theorem j_L_law_c14_3 {d : Nat} (hd : 1 ≤ d) (h : AH) (i : Int32) (k : Int32) (r : Int64) (F : Nat → Value) (ho : h.1 65 = ob 8 (fo 53 F)) (v0 : Int32) (e0 : F 0 = .int v0) (c : v0 = k) (c1 : k = 0) (n : Nat) (f : Nat → Int64) (ha : h.1 94 = la n f) (i1 : vp_in 0 n) (c2 : ¬ ((f (0 : Int32).toNatClampNeg) = r)) : E true mL_law d 947 [(0, .ref 0), (1, .ref 1), (2, .ref 65), (3, .ref 94), (4, .int i), (5, .int k)] [.long r] h (some (.int 0)) h := by
  refine E.st (s_lstore (q := 949) (ls' := [(6, .long r), (0, .ref 0), (1, .ref 1), (2, .ref 65), (3, .ref 94), (4, .int i), (5, .int k)]) dL_law_947 rfl (by decide) rfl) ?_
  refine E.st (s_aload_n (q := 950) dL_law_949 rfl rfl) ?_
  refine E.st (p2 := 953) (l2 := [(6, .long r), (0, .ref 0), (1, .ref 1), (2, .ref 65), (3, .ref 94), (4, .int i), (5, .int k)]) (s2 := [.int v0]) (h2 := h) (s_invv (K := mX8_thrown) (o := 65) (as := []) (rest := []) (v := some (.int v0)) dL_law_950 rfl lL_71 (by omega) rfl (Nat.le_of_ble_eq_true rfl) rfl (Nat.le_of_ble_eq_true rfl) (ho) (p_X8_thrown_1 (d := 0) (Nat.le_refl _) h 65 F ho v0 e0) (fun _ => rfl)) ?_
  refine E.st (s_iload (q := 955) dL_law_953 rfl rfl) ?_
  refine E.st (s_icmp_eq_t (q := 960) dL_law_955 (by decide) c) ?_
  refine E.st (s_iload (q := 962) dL_law_960 rfl rfl) ?_
  refine E.st (s_if_ne_f (q := 965) (tg := 976) dL_law_962 (by decide) rfl c1) ?_
  refine E.st (s_aload_n (q := 966) dL_law_965 rfl rfl) ?_
  refine E.st (s_iconst (q := 967) (v := 0) dL_law_966 rfl (by decide)) ?_
  refine E.st (s_lald (q := 968) dL_law_967 rfl (ha) i1) ?_
  refine E.st (s_lload (q := 970) dL_law_968 rfl rfl) ?_
  refine E.st (s_lcmp (q := 971) dL_law_970 rfl) ?_
  refine E.st (s_if_eq_f (q := 974) (tg := 976) dL_law_971 (by decide) rfl (fun z => c2 ((lgc_eq _ _).mp z))) ?_
  refine E.st (s_iconst (q := 975) (v := 0) dL_law_974 rfl (by decide)) ?_
  exact E.i dL_law_975 rfl rfl rfl rfl

set_option maxRecDepth 20000 in
theorem j_L_law_c14_4 {d : Nat} (hd : 1 ≤ d) (h : AH) (i : Int32) (k : Int32) (r : Int64) (F : Nat → Value) (ho : h.1 65 = ob 8 (fo 53 F)) (v0 : Int32) (e0 : F 0 = .int v0) (c : ¬ (v0 = k)) : E true mL_law d 947 [(0, .ref 0), (1, .ref 1), (2, .ref 65), (3, .ref 94), (4, .int i), (5, .int k)] [.long r] h (some (.int 0)) h := by
  refine E.st (s_lstore (q := 949) (ls' := [(6, .long r), (0, .ref 0), (1, .ref 1), (2, .ref 65), (3, .ref 94), (4, .int i), (5, .int k)]) dL_law_947 rfl (by decide) rfl) ?_
  refine E.st (s_aload_n (q := 950) dL_law_949 rfl rfl) ?_
  refine E.st (p2 := 953) (l2 := [(6, .long r), (0, .ref 0), (1, .ref 1), (2, .ref 65), (3, .ref 94), (4, .int i), (5, .int k)]) (s2 := [.int v0]) (h2 := h) (s_invv (K := mX8_thrown) (o := 65) (as := []) (rest := []) (v := some (.int v0)) dL_law_950 rfl lL_71 (by omega) rfl (Nat.le_of_ble_eq_true rfl) rfl (Nat.le_of_ble_eq_true rfl) (ho) (p_X8_thrown_1 (d := 0) (Nat.le_refl _) h 65 F ho v0 e0) (fun _ => rfl)) ?_
  refine E.st (s_iload (q := 955) dL_law_953 rfl rfl) ?_
  refine E.st (s_icmp_eq_f (q := 958) (tg := 960) dL_law_955 (by decide) rfl c) ?_
  refine E.st (s_iconst (q := 959) (v := 0) dL_law_958 rfl (by decide)) ?_
  exact E.i dL_law_959 rfl rfl rfl rfl

set_option maxRecDepth 20000 in
theorem j_L_law_a15_1 {d : Nat} (hd : 0 ≤ d) (h : AH) (i : Int32) (n : Nat) (f : Nat → Int32) (ha : h.1 0 = ia n f) (i1 : vp_in (i + 1) n) : J true mL_law d 979 [(0, .ref 0), (1, .ref 1), (2, .ref 65), (3, .ref 94), (4, .int i)] [] h 986 [(0, .ref 0), (1, .ref 1), (2, .ref 65), (3, .ref 94), (4, .int i)] [.int (f (i + 1).toNatClampNeg), .ref 1] h := by
  refine J.tr (s_aload_n (q := 980) dL_law_979 rfl rfl) ?_
  refine J.tr (s_aload_n (q := 981) dL_law_980 rfl rfl) ?_
  refine J.tr (s_iload (q := 983) dL_law_981 rfl rfl) ?_
  refine J.tr (s_iconst (q := 984) (v := 1) dL_law_983 rfl (by decide)) ?_
  refine J.tr (s_iadd (q := 985) dL_law_984 rfl) ?_
  refine J.tr (s_sld (q := 986) dL_law_985 rfl (ha) i1) ?_
  refine J.tr (s_ls (ls' := [(0, .ref 0), (1, .ref 1), (2, .ref 65), (3, .ref 94), (4, .int i)]) [0, 1, 2, 3, 4] rfl) ?_
  exact J.rf

set_option maxRecDepth 20000 in
theorem j_L_law_b15_1 {d : Nat} (hd : 0 ≤ d) (h : AH) (i : Int32) (r : Int32) (n : Nat) (f : Nat → Int32) (ha : h.1 0 = ia n f) (i1 : vp_in (i + 1) n) : J true mL_law d 989 [(0, .ref 0), (1, .ref 1), (2, .ref 65), (3, .ref 94), (4, .int i)] [.int r] h 996 [(0, .ref 0), (1, .ref 1), (2, .ref 65), (3, .ref 94), (4, .int i)] [.int (f (i + 1).toNatClampNeg), .ref 65, .int r] h := by
  refine J.tr (s_aload_n (q := 990) dL_law_989 rfl rfl) ?_
  refine J.tr (s_aload_n (q := 991) dL_law_990 rfl rfl) ?_
  refine J.tr (s_iload (q := 993) dL_law_991 rfl rfl) ?_
  refine J.tr (s_iconst (q := 994) (v := 1) dL_law_993 rfl (by decide)) ?_
  refine J.tr (s_iadd (q := 995) dL_law_994 rfl) ?_
  refine J.tr (s_sld (q := 996) dL_law_995 rfl (ha) i1) ?_
  refine J.tr (s_ls (ls' := [(0, .ref 0), (1, .ref 1), (2, .ref 65), (3, .ref 94), (4, .int i)]) [0, 1, 2, 3, 4] rfl) ?_
  exact J.rf

set_option maxRecDepth 20000 in
theorem j_L_law_c15_1 {d : Nat} (hd : 0 ≤ d) (h : AH) (i : Int32) (s : Int32) (r : Int32) (c : r = s) : J true mL_law d 999 [(0, .ref 0), (1, .ref 1), (2, .ref 65), (3, .ref 94), (4, .int i)] [.int s, .int r] h 23 [(0, .ref 0), (1, .ref 1), (2, .ref 65), (3, .ref 94), (4, .int (i + 4))] [] h := by
  refine J.tr (s_icmp_eq_t (q := 1004) dL_law_999 (by decide) c) ?_
  refine J.tr (s_iinc (q := 1007) (v := (i + 4)) (ls' := [(4, .int (i + 4)), (0, .ref 0), (1, .ref 1), (2, .ref 65), (3, .ref 94)]) dL_law_1004 rfl (by decide) rfl rfl rfl) ?_
  refine J.tr (s_goto (q := 23) dL_law_1007 (by decide)) ?_
  refine J.tr (s_ls (ls' := [(0, .ref 0), (1, .ref 1), (2, .ref 65), (3, .ref 94), (4, .int (i + 4))]) [1, 2, 3, 4, 0] rfl) ?_
  exact J.rf

set_option maxRecDepth 20000 in
theorem j_L_law_c15_2 {d : Nat} (hd : 0 ≤ d) (h : AH) (i : Int32) (s : Int32) (r : Int32) (c : ¬ (r = s)) : E true mL_law d 999 [(0, .ref 0), (1, .ref 1), (2, .ref 65), (3, .ref 94), (4, .int i)] [.int s, .int r] h (some (.int 0)) h := by
  refine E.st (s_icmp_eq_f (q := 1002) (tg := 1004) dL_law_999 (by decide) rfl c) ?_
  refine E.st (s_iconst (q := 1003) (v := 0) dL_law_1002 rfl (by decide)) ?_
  exact E.i dL_law_1003 rfl rfl rfl rfl
