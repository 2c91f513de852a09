set_option maxRecDepth 20000 in
theorem j_L_choice_a_1 {d : Nat} (hd : 0 ≤ d) (h : AH) (a : Int32) (b : Int32) : J false mL_choice d 0 [(0, .ref 1), (1, .int a), (2, .int b), (3, .ref 94)] [] h 5 [(0, .ref 1), (1, .int a), (2, .int b), (3, .ref 94)] [.int b, .int a, .ref 1, .int 0, .ref 94] h := by
  refine J.tr (s_aload_n (q := 1) dL_choice_0 rfl rfl) ?_
  refine J.tr (s_iconst (q := 2) (v := 0) dL_choice_1 rfl (by decide)) ?_
  refine J.tr (s_aload_n (q := 3) dL_choice_2 rfl rfl) ?_
  refine J.tr (s_iload_n (q := 4) dL_choice_3 rfl rfl) ?_
  refine J.tr (s_iload_n (q := 5) dL_choice_4 rfl rfl) ?_
  refine J.tr (s_ls (ls' := [(0, .ref 1), (1, .int a), (2, .int b), (3, .ref 94)]) [0, 1, 2, 3] rfl) ?_
  exact J.rf

set_option maxRecDepth 20000 in
theorem j_L_choice_b_1 {d : Nat} (hd : 0 ≤ d) (h : AH) (a : Int32) (b : Int32) (r : Int32) (z : Int32) (n : Nat) (f : Nat → Int64) (ha : h.1 94 = la n f) (i : vp_in z n) : E false mL_choice d 8 [(0, .ref 1), (1, .int a), (2, .int b), (3, .ref 94)] [.int r, .int z, .ref 94] h (some (.int 0)) (hs h 94 (la n (vp_updL f z.toNatClampNeg (r.toInt64)))) := by
  refine E.st (s_i2l (q := 9) dL_choice_8 rfl) ?_
  refine E.st (s_last (q := 10) dL_choice_9 rfl (ha) i) ?_
  refine E.st (s_goto (q := 17) dL_choice_10 (by decide)) ?_
  refine E.st (s_iconst (q := 18) (v := 0) dL_choice_17 rfl (by decide)) ?_
  exact E.i dL_choice_18 rfl rfl rfl rfl

set_option maxRecDepth 20000 in
theorem j_L_choice_c_1 {d : Nat} (hd : 0 ≤ d) (h : AH)  : E false mL_choice d 15 [] [] h (some (.int 1)) h := by
  refine E.st (s_iconst (q := 16) (v := 1) dL_choice_15 rfl (by decide)) ?_
  exact E.i dL_choice_16 rfl rfl rfl rfl

set_option maxRecDepth 20000 in
theorem j_L_pair_a_1 {d : Nat} (hd : 0 ≤ d) (h : AH) (a : Int32) (b : Int32) : J false mL_pair d 0 [(0, .ref 1), (1, .int a), (2, .int b), (3, .ref 94)] [] h 5 [(0, .ref 1), (1, .int a), (2, .int b), (3, .ref 94)] [.int b, .int a, .ref 1, .int 0, .ref 94] h := by
  refine J.tr (s_aload_n (q := 1) dL_pair_0 rfl rfl) ?_
  refine J.tr (s_iconst (q := 2) (v := 0) dL_pair_1 rfl (by decide)) ?_
  refine J.tr (s_aload_n (q := 3) dL_pair_2 rfl rfl) ?_
  refine J.tr (s_iload_n (q := 4) dL_pair_3 rfl rfl) ?_
  refine J.tr (s_iload_n (q := 5) dL_pair_4 rfl rfl) ?_
  refine J.tr (s_ls (ls' := [(0, .ref 1), (1, .int a), (2, .int b), (3, .ref 94)]) [0, 1, 2, 3] rfl) ?_
  exact J.rf

set_option maxRecDepth 20000 in
theorem j_L_pair_b_1 {d : Nat} (hd : 0 ≤ d) (h : AH) (a : Int32) (b : Int32) (r : Int32) (z : Int32) (n : Nat) (f : Nat → Int64) (ha : h.1 94 = la n f) (i : vp_in z n) : E false mL_pair d 8 [(0, .ref 1), (1, .int a), (2, .int b), (3, .ref 94)] [.int r, .int z, .ref 94] h (some (.int 0)) (hs h 94 (la n (vp_updL f z.toNatClampNeg (r.toInt64)))) := by
  refine E.st (s_i2l (q := 9) dL_pair_8 rfl) ?_
  refine E.st (s_last (q := 10) dL_pair_9 rfl (ha) i) ?_
  refine E.st (s_goto (q := 17) dL_pair_10 (by decide)) ?_
  refine E.st (s_iconst (q := 18) (v := 0) dL_pair_17 rfl (by decide)) ?_
  exact E.i dL_pair_18 rfl rfl rfl rfl

set_option maxRecDepth 20000 in
theorem j_L_pair_c_1 {d : Nat} (hd : 0 ≤ d) (h : AH)  : E false mL_pair d 15 [] [] h (some (.int 1)) h := by
  refine E.st (s_iconst (q := 16) (v := 1) dL_pair_15 rfl (by decide)) ?_
  exact E.i dL_pair_16 rfl rfl rfl rfl

set_option maxRecDepth 20000 in
theorem j_L_part_a_1 {d : Nat} (hd : 0 ≤ d) (h : AH) (a : Int32) (b : Int32) : J false mL_part d 0 [(0, .ref 1), (1, .int a), (2, .int b), (3, .ref 94)] [] h 5 [(0, .ref 1), (1, .int a), (2, .int b), (3, .ref 94)] [.int b, .int a, .ref 1, .int 0, .ref 94] h := by
  refine J.tr (s_aload_n (q := 1) dL_part_0 rfl rfl) ?_
  refine J.tr (s_iconst (q := 2) (v := 0) dL_part_1 rfl (by decide)) ?_
  refine J.tr (s_aload_n (q := 3) dL_part_2 rfl rfl) ?_
  refine J.tr (s_iload_n (q := 4) dL_part_3 rfl rfl) ?_
  refine J.tr (s_iload_n (q := 5) dL_part_4 rfl rfl) ?_
  refine J.tr (s_ls (ls' := [(0, .ref 1), (1, .int a), (2, .int b), (3, .ref 94)]) [0, 1, 2, 3] rfl) ?_
  exact J.rf

set_option maxRecDepth 20000 in
theorem j_L_part_b_1 {d : Nat} (hd : 0 ≤ d) (h : AH) (a : Int32) (b : Int32) (r : Int32) (z : Int32) (n : Nat) (f : Nat → Int64) (ha : h.1 94 = la n f) (i : vp_in z n) : E false mL_part d 8 [(0, .ref 1), (1, .int a), (2, .int b), (3, .ref 94)] [.int r, .int z, .ref 94] h (some (.int 0)) (hs h 94 (la n (vp_updL f z.toNatClampNeg (r.toInt64)))) := by
  refine E.st (s_i2l (q := 9) dL_part_8 rfl) ?_
  refine E.st (s_last (q := 10) dL_part_9 rfl (ha) i) ?_
  refine E.st (s_goto (q := 17) dL_part_10 (by decide)) ?_
  refine E.st (s_iconst (q := 18) (v := 0) dL_part_17 rfl (by decide)) ?_
  exact E.i dL_part_18 rfl rfl rfl rfl

set_option maxRecDepth 20000 in
theorem j_L_part_c_1 {d : Nat} (hd : 0 ≤ d) (h : AH)  : E false mL_part d 15 [] [] h (some (.int 1)) h := by
  refine E.st (s_iconst (q := 16) (v := 1) dL_part_15 rfl (by decide)) ?_
  exact E.i dL_part_16 rfl rfl rfl rfl

set_option maxRecDepth 20000 in
theorem j_L_op_a_1 {d : Nat} (hd : 0 ≤ d) (h : AH) (a : Int32) (b : Int32) (c : Int32) : J false mL_op d 0 [(0, .ref 1), (1, .int a), (2, .int b), (3, .int c), (4, .ref 94)] [] h 7 [(0, .ref 1), (1, .int a), (2, .int b), (3, .int c), (4, .ref 94)] [.int c, .int b, .int a, .ref 1, .int 0, .ref 94] h := by
  refine J.tr (s_aload (q := 2) dL_op_0 rfl rfl) ?_
  refine J.tr (s_iconst (q := 3) (v := 0) dL_op_2 rfl (by decide)) ?_
  refine J.tr (s_aload_n (q := 4) dL_op_3 rfl rfl) ?_
  refine J.tr (s_iload_n (q := 5) dL_op_4 rfl rfl) ?_
  refine J.tr (s_iload_n (q := 6) dL_op_5 rfl rfl) ?_
  refine J.tr (s_iload_n (q := 7) dL_op_6 rfl rfl) ?_
  refine J.tr (s_ls (ls' := [(0, .ref 1), (1, .int a), (2, .int b), (3, .int c), (4, .ref 94)]) [0, 1, 2, 3, 4] rfl) ?_
  exact J.rf

set_option maxRecDepth 20000 in
theorem j_L_op_b_1 {d : Nat} (hd : 0 ≤ d) (h : AH) (a : Int32) (b : Int32) (c : Int32) (r : Int32) (z : Int32) (n : Nat) (f : Nat → Int64) (ha : h.1 94 = la n f) (i : vp_in z n) : E false mL_op d 10 [(0, .ref 1), (1, .int a), (2, .int b), (3, .int c), (4, .ref 94)] [.int r, .int z, .ref 94] h (some (.int 0)) (hs h 94 (la n (vp_updL f z.toNatClampNeg (r.toInt64)))) := by
  refine E.st (s_i2l (q := 11) dL_op_10 rfl) ?_
  refine E.st (s_last (q := 12) dL_op_11 rfl (ha) i) ?_
  refine E.st (s_goto (q := 19) dL_op_12 (by decide)) ?_
  refine E.st (s_iconst (q := 20) (v := 0) dL_op_19 rfl (by decide)) ?_
  exact E.i dL_op_20 rfl rfl rfl rfl

set_option maxRecDepth 20000 in
theorem j_L_op_c_1 {d : Nat} (hd : 0 ≤ d) (h : AH)  : E false mL_op d 17 [] [] h (some (.int 1)) h := by
  refine E.st (s_iconst (q := 18) (v := 1) dL_op_17 rfl (by decide)) ?_
  exact E.i dL_op_18 rfl rfl rfl rfl

set_option maxRecDepth 20000 in
theorem j_L_when_a_1 {d : Nat} (hd : 0 ≤ d) (h : AH) (a : Int32) (b : Int32) (c : Int32) : J false mL_when d 0 [(0, .ref 1), (1, .int a), (2, .int b), (3, .int c), (4, .ref 94)] [] h 7 [(0, .ref 1), (1, .int a), (2, .int b), (3, .int c), (4, .ref 94)] [.int c, .int b, .int a, .ref 1, .int 0, .ref 94] h := by
  refine J.tr (s_aload (q := 2) dL_when_0 rfl rfl) ?_
  refine J.tr (s_iconst (q := 3) (v := 0) dL_when_2 rfl (by decide)) ?_
  refine J.tr (s_aload_n (q := 4) dL_when_3 rfl rfl) ?_
  refine J.tr (s_iload_n (q := 5) dL_when_4 rfl rfl) ?_
  refine J.tr (s_iload_n (q := 6) dL_when_5 rfl rfl) ?_
  refine J.tr (s_iload_n (q := 7) dL_when_6 rfl rfl) ?_
  refine J.tr (s_ls (ls' := [(0, .ref 1), (1, .int a), (2, .int b), (3, .int c), (4, .ref 94)]) [0, 1, 2, 3, 4] rfl) ?_
  exact J.rf

set_option maxRecDepth 20000 in
theorem j_L_when_b_1 {d : Nat} (hd : 0 ≤ d) (h : AH) (a : Int32) (b : Int32) (c : Int32) (r : Int32) (z : Int32) (n : Nat) (f : Nat → Int64) (ha : h.1 94 = la n f) (i : vp_in z n) : E false mL_when d 10 [(0, .ref 1), (1, .int a), (2, .int b), (3, .int c), (4, .ref 94)] [.int r, .int z, .ref 94] h (some (.int 0)) (hs h 94 (la n (vp_updL f z.toNatClampNeg (r.toInt64)))) := by
  refine E.st (s_i2l (q := 11) dL_when_10 rfl) ?_
  refine E.st (s_last (q := 12) dL_when_11 rfl (ha) i) ?_
  refine E.st (s_goto (q := 19) dL_when_12 (by decide)) ?_
  refine E.st (s_iconst (q := 20) (v := 0) dL_when_19 rfl (by decide)) ?_
  exact E.i dL_when_20 rfl rfl rfl rfl

set_option maxRecDepth 20000 in
theorem j_L_when_c_1 {d : Nat} (hd : 0 ≤ d) (h : AH)  : E false mL_when d 17 [] [] h (some (.int 1)) h := by
  refine E.st (s_iconst (q := 18) (v := 1) dL_when_17 rfl (by decide)) ?_
  exact E.i dL_when_18 rfl rfl rfl rfl

set_option maxRecDepth 20000 in
theorem j_L_set_a_1 {d : Nat} (hd : 0 ≤ d) (h : AH) (a : Int32) (b : Int32) : J false mL_set d 0 [(0, .ref 1), (1, .int a), (2, .int b), (3, .ref 94)] [] h 5 [(0, .ref 1), (1, .int a), (2, .int b), (3, .ref 94)] [.int b, .int a, .ref 1, .int 0, .ref 94] h := by
  refine J.tr (s_aload_n (q := 1) dL_set_0 rfl rfl) ?_
  refine J.tr (s_iconst (q := 2) (v := 0) dL_set_1 rfl (by decide)) ?_
  refine J.tr (s_aload_n (q := 3) dL_set_2 rfl rfl) ?_
  refine J.tr (s_iload_n (q := 4) dL_set_3 rfl rfl) ?_
  refine J.tr (s_iload_n (q := 5) dL_set_4 rfl rfl) ?_
  refine J.tr (s_ls (ls' := [(0, .ref 1), (1, .int a), (2, .int b), (3, .ref 94)]) [0, 1, 2, 3] rfl) ?_
  exact J.rf

set_option maxRecDepth 20000 in
theorem j_L_set_b_1 {d : Nat} (hd : 0 ≤ d) (h : AH) (a : Int32) (b : Int32) (r : Int32) (z : Int32) (n : Nat) (f : Nat → Int64) (ha : h.1 94 = la n f) (i : vp_in z n) : E false mL_set d 8 [(0, .ref 1), (1, .int a), (2, .int b), (3, .ref 94)] [.int r, .int z, .ref 94] h (some (.int 0)) (hs h 94 (la n (vp_updL f z.toNatClampNeg (r.toInt64)))) := by
  refine E.st (s_i2l (q := 9) dL_set_8 rfl) ?_
  refine E.st (s_last (q := 10) dL_set_9 rfl (ha) i) ?_
  refine E.st (s_goto (q := 17) dL_set_10 (by decide)) ?_
  refine E.st (s_iconst (q := 18) (v := 0) dL_set_17 rfl (by decide)) ?_
  exact E.i dL_set_18 rfl rfl rfl rfl

set_option maxRecDepth 20000 in
theorem j_L_set_c_1 {d : Nat} (hd : 0 ≤ d) (h : AH)  : E false mL_set d 15 [] [] h (some (.int 1)) h := by
  refine E.st (s_iconst (q := 16) (v := 1) dL_set_15 rfl (by decide)) ?_
  exact E.i dL_set_16 rfl rfl rfl rfl

set_option maxRecDepth 20000 in
theorem j_L_fold_a_1 {d : Nat} (hd : 0 ≤ d) (h : AH) (a : Int32) (b : Int32) : J false mL_fold d 0 [(0, .ref 1), (1, .int a), (2, .int b), (3, .ref 94)] [] h 5 [(0, .ref 1), (1, .int a), (2, .int b), (3, .ref 94)] [.int b, .int a, .ref 1, .int 0, .ref 94] h := by
  refine J.tr (s_aload_n (q := 1) dL_fold_0 rfl rfl) ?_
  refine J.tr (s_iconst (q := 2) (v := 0) dL_fold_1 rfl (by decide)) ?_
  refine J.tr (s_aload_n (q := 3) dL_fold_2 rfl rfl) ?_
  refine J.tr (s_iload_n (q := 4) dL_fold_3 rfl rfl) ?_
  refine J.tr (s_iload_n (q := 5) dL_fold_4 rfl rfl) ?_
  refine J.tr (s_ls (ls' := [(0, .ref 1), (1, .int a), (2, .int b), (3, .ref 94)]) [0, 1, 2, 3] rfl) ?_
  exact J.rf

set_option maxRecDepth 20000 in
theorem j_L_fold_b_1 {d : Nat} (hd : 0 ≤ d) (h : AH) (a : Int32) (b : Int32) (r : Int32) (z : Int32) (n : Nat) (f : Nat → Int64) (ha : h.1 94 = la n f) (i : vp_in z n) : E false mL_fold d 8 [(0, .ref 1), (1, .int a), (2, .int b), (3, .ref 94)] [.int r, .int z, .ref 94] h (some (.int 0)) (hs h 94 (la n (vp_updL f z.toNatClampNeg (r.toInt64)))) := by
  refine E.st (s_i2l (q := 9) dL_fold_8 rfl) ?_
  refine E.st (s_last (q := 10) dL_fold_9 rfl (ha) i) ?_
  refine E.st (s_goto (q := 17) dL_fold_10 (by decide)) ?_
  refine E.st (s_iconst (q := 18) (v := 0) dL_fold_17 rfl (by decide)) ?_
  exact E.i dL_fold_18 rfl rfl rfl rfl

set_option maxRecDepth 20000 in
theorem j_L_fold_c_1 {d : Nat} (hd : 0 ≤ d) (h : AH)  : E false mL_fold d 15 [] [] h (some (.int 1)) h := by
  refine E.st (s_iconst (q := 16) (v := 1) dL_fold_15 rfl (by decide)) ?_
  exact E.i dL_fold_16 rfl rfl rfl rfl

set_option maxRecDepth 20000 in
theorem j_L_node_a_1 {d : Nat} (hd : 0 ≤ d) (h : AH) (a : Int32) (b : Int32) : J false mL_node d 0 [(0, .ref 1), (1, .int a), (2, .int b), (3, .ref 94)] [] h 5 [(0, .ref 1), (1, .int a), (2, .int b), (3, .ref 94)] [.int b, .int a, .ref 1, .int 0, .ref 94] h := by
  refine J.tr (s_aload_n (q := 1) dL_node_0 rfl rfl) ?_
  refine J.tr (s_iconst (q := 2) (v := 0) dL_node_1 rfl (by decide)) ?_
  refine J.tr (s_aload_n (q := 3) dL_node_2 rfl rfl) ?_
  refine J.tr (s_iload_n (q := 4) dL_node_3 rfl rfl) ?_
  refine J.tr (s_iload_n (q := 5) dL_node_4 rfl rfl) ?_
  refine J.tr (s_ls (ls' := [(0, .ref 1), (1, .int a), (2, .int b), (3, .ref 94)]) [0, 1, 2, 3] rfl) ?_
  exact J.rf

set_option maxRecDepth 20000 in
theorem j_L_node_b_1 {d : Nat} (hd : 0 ≤ d) (h : AH) (a : Int32) (b : Int32) (r : Int32) (z : Int32) (n : Nat) (f : Nat → Int64) (ha : h.1 94 = la n f) (i : vp_in z n) : E false mL_node d 8 [(0, .ref 1), (1, .int a), (2, .int b), (3, .ref 94)] [.int r, .int z, .ref 94] h (some (.int 0)) (hs h 94 (la n (vp_updL f z.toNatClampNeg (r.toInt64)))) := by
  refine E.st (s_i2l (q := 9) dL_node_8 rfl) ?_
  refine E.st (s_last (q := 10) dL_node_9 rfl (ha) i) ?_
  refine E.st (s_goto (q := 17) dL_node_10 (by decide)) ?_
  refine E.st (s_iconst (q := 18) (v := 0) dL_node_17 rfl (by decide)) ?_
  exact E.i dL_node_18 rfl rfl rfl rfl

set_option maxRecDepth 20000 in
theorem j_L_node_c_1 {d : Nat} (hd : 0 ≤ d) (h : AH)  : E false mL_node d 15 [] [] h (some (.int 1)) h := by
  refine E.st (s_iconst (q := 16) (v := 1) dL_node_15 rfl (by decide)) ?_
  exact E.i dL_node_16 rfl rfl rfl rfl

set_option maxRecDepth 20000 in
theorem j_L_next_a_1 {d : Nat} (hd : 0 ≤ d) (h : AH)  : J false mL_next d 0 [(0, .ref 1), (1, .ref 94)] [] h 3 [(0, .ref 1), (1, .ref 94)] [.ref 1, .int 0, .ref 94] h := by
  refine J.tr (s_aload_n (q := 1) dL_next_0 rfl rfl) ?_
  refine J.tr (s_iconst (q := 2) (v := 0) dL_next_1 rfl (by decide)) ?_
  refine J.tr (s_aload_n (q := 3) dL_next_2 rfl rfl) ?_
  refine J.tr (s_ls (ls' := [(0, .ref 1), (1, .ref 94)]) [0, 1] rfl) ?_
  exact J.rf

set_option maxRecDepth 20000 in
theorem j_L_next_b_1 {d : Nat} (hd : 0 ≤ d) (h : AH) (r : Int32) (z : Int32) (n : Nat) (f : Nat → Int64) (ha : h.1 94 = la n f) (i : vp_in z n) : E false mL_next d 6 [(0, .ref 1), (1, .ref 94)] [.int r, .int z, .ref 94] h (some (.int 0)) (hs h 94 (la n (vp_updL f z.toNatClampNeg (r.toInt64)))) := by
  refine E.st (s_i2l (q := 7) dL_next_6 rfl) ?_
  refine E.st (s_last (q := 8) dL_next_7 rfl (ha) i) ?_
  refine E.st (s_goto (q := 14) dL_next_8 (by decide)) ?_
  refine E.st (s_iconst (q := 15) (v := 0) dL_next_14 rfl (by decide)) ?_
  exact E.i dL_next_15 rfl rfl rfl rfl

set_option maxRecDepth 20000 in
theorem j_L_next_c_1 {d : Nat} (hd : 0 ≤ d) (h : AH)  : E false mL_next d 12 [] [] h (some (.int 1)) h := by
  refine E.st (s_iconst (q := 13) (v := 1) dL_next_12 rfl (by decide)) ?_
  exact E.i dL_next_13 rfl rfl rfl rfl

set_option maxRecDepth 20000 in
theorem j_L_token_a_1 {d : Nat} (hd : 0 ≤ d) (h : AH) (a : Int32) (b : Int32) : J false mL_token d 0 [(0, .ref 1), (1, .int a), (2, .int b), (3, .ref 94)] [] h 5 [(0, .ref 1), (1, .int a), (2, .int b), (3, .ref 94)] [.int b, .int a, .ref 1, .int 0, .ref 94] h := by
  refine J.tr (s_aload_n (q := 1) dL_token_0 rfl rfl) ?_
  refine J.tr (s_iconst (q := 2) (v := 0) dL_token_1 rfl (by decide)) ?_
  refine J.tr (s_aload_n (q := 3) dL_token_2 rfl rfl) ?_
  refine J.tr (s_iload_n (q := 4) dL_token_3 rfl rfl) ?_
  refine J.tr (s_iload_n (q := 5) dL_token_4 rfl rfl) ?_
  refine J.tr (s_ls (ls' := [(0, .ref 1), (1, .int a), (2, .int b), (3, .ref 94)]) [0, 1, 2, 3] rfl) ?_
  exact J.rf

set_option maxRecDepth 20000 in
theorem j_L_token_b_1 {d : Nat} (hd : 0 ≤ d) (h : AH) (a : Int32) (b : Int32) (r : Int64) (z : Int32) (n : Nat) (f : Nat → Int64) (ha : h.1 94 = la n f) (i : vp_in z n) : E false mL_token d 8 [(0, .ref 1), (1, .int a), (2, .int b), (3, .ref 94)] [.long r, .int z, .ref 94] h (some (.int 0)) (hs h 94 (la n (vp_updL f z.toNatClampNeg r))) := by
  refine E.st (s_last (q := 9) dL_token_8 rfl (ha) i) ?_
  refine E.st (s_goto (q := 16) dL_token_9 (by decide)) ?_
  refine E.st (s_iconst (q := 17) (v := 0) dL_token_16 rfl (by decide)) ?_
  exact E.i dL_token_17 rfl rfl rfl rfl

set_option maxRecDepth 20000 in
theorem j_L_token_c_1 {d : Nat} (hd : 0 ≤ d) (h : AH)  : E false mL_token d 14 [] [] h (some (.int 1)) h := by
  refine E.st (s_iconst (q := 15) (v := 1) dL_token_14 rfl (by decide)) ?_
  exact E.i dL_token_15 rfl rfl rfl rfl

set_option maxRecDepth 20000 in
theorem j_L_ask_a_1 {d : Nat} (hd : 0 ≤ d) (h : AH) (a : Int32) (b : Int32) (c : Int32) : J false mL_ask d 0 [(0, .ref 1), (1, .int a), (2, .int b), (3, .int c)] [] h 4 [(0, .ref 1), (1, .int a), (2, .int b), (3, .int c)] [.int c, .int b, .int a, .ref 1] h := by
  refine J.tr (s_aload_n (q := 1) dL_ask_0 rfl rfl) ?_
  refine J.tr (s_iload_n (q := 2) dL_ask_1 rfl rfl) ?_
  refine J.tr (s_iload_n (q := 3) dL_ask_2 rfl rfl) ?_
  refine J.tr (s_iload_n (q := 4) dL_ask_3 rfl rfl) ?_
  refine J.tr (s_ls (ls' := [(0, .ref 1), (1, .int a), (2, .int b), (3, .int c)]) [0, 1, 2, 3] rfl) ?_
  exact J.rf

set_option maxRecDepth 20000 in
theorem j_L_ask_b_1 {d : Nat} (hd : 0 ≤ d) (h : AH) (a : Int32) (b : Int32) (c : Int32) : E false mL_ask d 7 [(0, .ref 1), (1, .int a), (2, .int b), (3, .int c)] [] h (some (.int 0)) h := by
  refine E.st (s_goto (q := 14) dL_ask_7 (by decide)) ?_
  refine E.st (s_iconst (q := 15) (v := 0) dL_ask_14 rfl (by decide)) ?_
  exact E.i dL_ask_15 rfl rfl rfl rfl

set_option maxRecDepth 20000 in
theorem j_L_ask_c_1 {d : Nat} (hd : 0 ≤ d) (h : AH)  : E false mL_ask d 12 [] [] h (some (.int 1)) h := by
  refine E.st (s_iconst (q := 13) (v := 1) dL_ask_12 rfl (by decide)) ?_
  exact E.i dL_ask_13 rfl rfl rfl rfl
