set_option maxRecDepth 20000 in
theorem j_X2_init_e0_1 {d : Nat} (hd : 0 ≤ d) (h : AH) (o : Nat) (F : Nat → Value) (ho : h.1 o = ob 2 (fo 6 F)) (le : o ≤ h.2.1) : J false mX2_init d 4 [(0, .ref o)] [] h 12 [(0, .ref o)] [] (hs (hw h (ia 60 (fun _ => 0)) 60) o (ob 2 (fo 6 (va_up F 0 (.ref (h.2.1 + 1)))))) := by
  refine J.tr (s_aload_n (q := 5) dX2_init_4 rfl rfl) ?_
  refine J.tr (s_bipush (q := 7) (v := 60) dX2_init_5 rfl (by decide)) ?_
  refine J.tr (s_newI (q := 9) (N := 60) dX2_init_7 rfl (by decide) (by decide) (by decide)) ?_
  refine J.tr (s_pff (q := 12) dX2_init_9 rfl fX2_9 rfl ((hw_ne (by show o ≤ h.2.1 + 0; have := le; omega)).trans (ho)) (by decide) (fun _ => ⟨rfl, rfl⟩)) ?_
  refine J.tr (s_ls (ls' := [(0, .ref o)]) [0] rfl) ?_
  exact J.rf

set_option maxRecDepth 20000 in
theorem j_X2_init_e1_1 {d : Nat} (hd : 0 ≤ d) (h : AH) (o : Nat) (F : Nat → Value) (ho : h.1 o = ob 2 (fo 6 F)) (le : o ≤ h.2.1) : J false mX2_init d 12 [(0, .ref o)] [] h 20 [(0, .ref o)] [] (hs (hw h (ia 60 (fun _ => 0)) 60) o (ob 2 (fo 6 (va_up F 1 (.ref (h.2.1 + 1)))))) := by
  refine J.tr (s_aload_n (q := 13) dX2_init_12 rfl rfl) ?_
  refine J.tr (s_bipush (q := 15) (v := 60) dX2_init_13 rfl (by decide)) ?_
  refine J.tr (s_newI (q := 17) (N := 60) dX2_init_15 rfl (by decide) (by decide) (by decide)) ?_
  refine J.tr (s_pff (q := 20) dX2_init_17 rfl fX2_15 rfl ((hw_ne (by show o ≤ h.2.1 + 0; have := le; omega)).trans (ho)) (by decide) (fun _ => ⟨rfl, rfl⟩)) ?_
  refine J.tr (s_ls (ls' := [(0, .ref o)]) [0] rfl) ?_
  exact J.rf

set_option maxRecDepth 20000 in
theorem j_X2_init_e2_1 {d : Nat} (hd : 0 ≤ d) (h : AH) (o : Nat) (F : Nat → Value) (ho : h.1 o = ob 2 (fo 6 F)) (le : o ≤ h.2.1) : J false mX2_init d 20 [(0, .ref o)] [] h 28 [(0, .ref o)] [] (hs (hw h (ia 60 (fun _ => 0)) 60) o (ob 2 (fo 6 (va_up F 2 (.ref (h.2.1 + 1)))))) := by
  refine J.tr (s_aload_n (q := 21) dX2_init_20 rfl rfl) ?_
  refine J.tr (s_bipush (q := 23) (v := 60) dX2_init_21 rfl (by decide)) ?_
  refine J.tr (s_newI (q := 25) (N := 60) dX2_init_23 rfl (by decide) (by decide) (by decide)) ?_
  refine J.tr (s_pff (q := 28) dX2_init_25 rfl fX2_18 rfl ((hw_ne (by show o ≤ h.2.1 + 0; have := le; omega)).trans (ho)) (by decide) (fun _ => ⟨rfl, rfl⟩)) ?_
  refine J.tr (s_ls (ls' := [(0, .ref o)]) [0] rfl) ?_
  exact J.rf

set_option maxRecDepth 20000 in
theorem j_X2_init_e3_1 {d : Nat} (hd : 0 ≤ d) (h : AH) (o : Nat) (F : Nat → Value) (ho : h.1 o = ob 2 (fo 6 F)) (le : o ≤ h.2.1) : J false mX2_init d 28 [(0, .ref o)] [] h 36 [(0, .ref o)] [] (hs (hw h (ia 60 (fun _ => 0)) 60) o (ob 2 (fo 6 (va_up F 3 (.ref (h.2.1 + 1)))))) := by
  refine J.tr (s_aload_n (q := 29) dX2_init_28 rfl rfl) ?_
  refine J.tr (s_bipush (q := 31) (v := 60) dX2_init_29 rfl (by decide)) ?_
  refine J.tr (s_newI (q := 33) (N := 60) dX2_init_31 rfl (by decide) (by decide) (by decide)) ?_
  refine J.tr (s_pff (q := 36) dX2_init_33 rfl fX2_21 rfl ((hw_ne (by show o ≤ h.2.1 + 0; have := le; omega)).trans (ho)) (by decide) (fun _ => ⟨rfl, rfl⟩)) ?_
  refine J.tr (s_ls (ls' := [(0, .ref o)]) [0] rfl) ?_
  exact J.rf

set_option maxRecDepth 20000 in
theorem j_X2_init_e4_1 {d : Nat} (hd : 0 ≤ d) (h : AH) (o : Nat) (F : Nat → Value) (ho : h.1 o = ob 2 (fo 6 F)) (le : o ≤ h.2.1) : J false mX2_init d 36 [(0, .ref o)] [] h 44 [(0, .ref o)] [] (hs (hw h (la 60 (fun _ => 0)) 60) o (ob 2 (fo 6 (va_up F 4 (.ref (h.2.1 + 1)))))) := by
  refine J.tr (s_aload_n (q := 37) dX2_init_36 rfl rfl) ?_
  refine J.tr (s_bipush (q := 39) (v := 60) dX2_init_37 rfl (by decide)) ?_
  refine J.tr (s_newL (q := 41) (N := 60) dX2_init_39 rfl (by decide) (by decide) (by decide)) ?_
  refine J.tr (s_pff (q := 44) dX2_init_41 rfl fX2_24 rfl ((hw_ne (by show o ≤ h.2.1 + 0; have := le; omega)).trans (ho)) (by decide) (fun _ => ⟨rfl, rfl⟩)) ?_
  refine J.tr (s_ls (ls' := [(0, .ref o)]) [0] rfl) ?_
  exact J.rf

set_option maxRecDepth 20000 in
theorem j_X4_init_e0_1 {d : Nat} (hd : 0 ≤ d) (h : AH) (o : Nat) (m : Int32) (F : Nat → Value) (ho : h.1 o = ob 4 (fo 4 F)) (le : o ≤ h.2.1) : J false mX4_init d 4 [(0, .ref o), (1, .int m)] [] h 12 [(0, .ref o), (1, .int m)] [] (hs (hw h (ia 16 (fun _ => 0)) 16) o (ob 4 (fo 4 (va_up F 1 (.ref (h.2.1 + 1)))))) := by
  refine J.tr (s_aload_n (q := 5) dX4_init_4 rfl rfl) ?_
  refine J.tr (s_bipush (q := 7) (v := 16) dX4_init_5 rfl (by decide)) ?_
  refine J.tr (s_newI (q := 9) (N := 16) dX4_init_7 rfl (by decide) (by decide) (by decide)) ?_
  refine J.tr (s_pf (q := 12) dX4_init_9 rfl fX4_11 ((hw_ne (by show o ≤ h.2.1 + 0; have := le; omega)).trans (ho)) (by decide) (fun _ => ⟨rfl, rfl⟩)) ?_
  refine J.tr (s_ls (ls' := [(0, .ref o), (1, .int m)]) [0, 1] rfl) ?_
  exact J.rf

set_option maxRecDepth 20000 in
theorem j_X4_init_e1_1 {d : Nat} (hd : 0 ≤ d) (h : AH) (o : Nat) (m : Int32) (F : Nat → Value) (ho : h.1 o = ob 4 (fo 4 F)) (le : o ≤ h.2.1) : J false mX4_init d 12 [(0, .ref o), (1, .int m)] [] h 20 [(0, .ref o), (1, .int m)] [] (hs (hw h (la 16 (fun _ => 0)) 16) o (ob 4 (fo 4 (va_up F 2 (.ref (h.2.1 + 1)))))) := by
  refine J.tr (s_aload_n (q := 13) dX4_init_12 rfl rfl) ?_
  refine J.tr (s_bipush (q := 15) (v := 16) dX4_init_13 rfl (by decide)) ?_
  refine J.tr (s_newL (q := 17) (N := 16) dX4_init_15 rfl (by decide) (by decide) (by decide)) ?_
  refine J.tr (s_pf (q := 20) dX4_init_17 rfl fX4_15 ((hw_ne (by show o ≤ h.2.1 + 0; have := le; omega)).trans (ho)) (by decide) (fun _ => ⟨rfl, rfl⟩)) ?_
  refine J.tr (s_ls (ls' := [(0, .ref o), (1, .int m)]) [0, 1] rfl) ?_
  exact J.rf

set_option maxRecDepth 20000 in
theorem j_X0_init_e0_1 {d : Nat} (hd : 0 ≤ d) (h : AH) (o : Nat) (F : Nat → Value) (ho : h.1 o = ob 0 (fo 3 F)) (le : o ≤ h.2.1) : J false mX0_init d 4 [(0, .ref o)] [] h 13 [(0, .ref o)] [] (hs (hw h (la 202 (fun _ => 0)) 202) o (ob 0 (fo 3 (va_up F 0 (.ref (h.2.1 + 1)))))) := by
  refine J.tr (s_aload_n (q := 5) dX0_init_4 rfl rfl) ?_
  refine J.tr (s_sipush (q := 8) (v := 202) dX0_init_5 rfl (by decide)) ?_
  refine J.tr (s_newL (q := 10) (N := 202) dX0_init_8 rfl (by decide) (by decide) (by decide)) ?_
  refine J.tr (s_pff (q := 13) dX0_init_10 rfl fX0_9 rfl ((hw_ne (by show o ≤ h.2.1 + 0; have := le; omega)).trans (ho)) (by decide) (fun _ => ⟨rfl, rfl⟩)) ?_
  refine J.tr (s_ls (ls' := [(0, .ref o)]) [0] rfl) ?_
  exact J.rf

set_option maxRecDepth 20000 in
theorem j_X0_init_e1_1 {d : Nat} (hd : 0 ≤ d) (h : AH) (o : Nat) (F : Nat → Value) (ho : h.1 o = ob 0 (fo 3 F)) (le : o ≤ h.2.1) : J false mX0_init d 13 [(0, .ref o)] [] h 22 [(0, .ref o)] [] (hs (hw h (ia 202 (fun _ => 0)) 202) o (ob 0 (fo 3 (va_up F 1 (.ref (h.2.1 + 1)))))) := by
  refine J.tr (s_aload_n (q := 14) dX0_init_13 rfl rfl) ?_
  refine J.tr (s_sipush (q := 17) (v := 202) dX0_init_14 rfl (by decide)) ?_
  refine J.tr (s_newI (q := 19) (N := 202) dX0_init_17 rfl (by decide) (by decide) (by decide)) ?_
  refine J.tr (s_pff (q := 22) dX0_init_19 rfl fX0_15 rfl ((hw_ne (by show o ≤ h.2.1 + 0; have := le; omega)).trans (ho)) (by decide) (fun _ => ⟨rfl, rfl⟩)) ?_
  refine J.tr (s_ls (ls' := [(0, .ref o)]) [0] rfl) ?_
  exact J.rf

set_option maxRecDepth 20000 in
theorem j_X5_init_er0_1 {d : Nat} (hd : 0 ≤ d) (h : AH) (o : Nat) (b : Nat) (F : Nat → Value) (ho : h.1 o = ob 5 (fo 12 F)) (le : o ≤ h.2.1) : J false mX5_init d 4 [(0, .ref o), (1, .ref b)] [] h 12 [(0, .ref o), (1, .ref b)] [] (hs (hw h (ia 60 (fun _ => 0)) 60) o (ob 5 (fo 12 (va_up F 3 (.ref (h.2.1 + 1)))))) := by
  refine J.tr (s_aload_n (q := 5) dX5_init_4 rfl rfl) ?_
  refine J.tr (s_bipush (q := 7) (v := 60) dX5_init_5 rfl (by decide)) ?_
  refine J.tr (s_newI (q := 9) (N := 60) dX5_init_7 rfl (by decide) (by decide) (by decide)) ?_
  refine J.tr (s_pff (q := 12) dX5_init_9 rfl fX5_9 rfl ((hw_ne (by show o ≤ h.2.1 + 0; have := le; omega)).trans (ho)) (by decide) (fun _ => ⟨rfl, rfl⟩)) ?_
  refine J.tr (s_ls (ls' := [(0, .ref o), (1, .ref b)]) [0, 1] rfl) ?_
  exact J.rf

set_option maxRecDepth 20000 in
theorem j_X5_init_en0_1 {d : Nat} (hd : 0 ≤ d) (h : AH) (o : Nat) (F : Nat → Value) (ho : h.1 o = ob 5 (fo 12 F)) (le : o ≤ h.2.1) : J false mX5_init d 4 [(0, .ref o), (1, .null)] [] h 12 [(0, .ref o), (1, .null)] [] (hs (hw h (ia 60 (fun _ => 0)) 60) o (ob 5 (fo 12 (va_up F 3 (.ref (h.2.1 + 1)))))) := by
  refine J.tr (s_aload_n (q := 5) dX5_init_4 rfl rfl) ?_
  refine J.tr (s_bipush (q := 7) (v := 60) dX5_init_5 rfl (by decide)) ?_
  refine J.tr (s_newI (q := 9) (N := 60) dX5_init_7 rfl (by decide) (by decide) (by decide)) ?_
  refine J.tr (s_pff (q := 12) dX5_init_9 rfl fX5_9 rfl ((hw_ne (by show o ≤ h.2.1 + 0; have := le; omega)).trans (ho)) (by decide) (fun _ => ⟨rfl, rfl⟩)) ?_
  refine J.tr (s_ls (ls' := [(0, .ref o), (1, .null)]) [0, 1] rfl) ?_
  exact J.rf

set_option maxRecDepth 20000 in
theorem j_X5_init_er1_1 {d : Nat} (hd : 0 ≤ d) (h : AH) (o : Nat) (b : Nat) (F : Nat → Value) (ho : h.1 o = ob 5 (fo 12 F)) (le : o ≤ h.2.1) : J false mX5_init d 12 [(0, .ref o), (1, .ref b)] [] h 20 [(0, .ref o), (1, .ref b)] [] (hs (hw h (la 60 (fun _ => 0)) 60) o (ob 5 (fo 12 (va_up F 4 (.ref (h.2.1 + 1)))))) := by
  refine J.tr (s_aload_n (q := 13) dX5_init_12 rfl rfl) ?_
  refine J.tr (s_bipush (q := 15) (v := 60) dX5_init_13 rfl (by decide)) ?_
  refine J.tr (s_newL (q := 17) (N := 60) dX5_init_15 rfl (by decide) (by decide) (by decide)) ?_
  refine J.tr (s_pff (q := 20) dX5_init_17 rfl fX5_15 rfl ((hw_ne (by show o ≤ h.2.1 + 0; have := le; omega)).trans (ho)) (by decide) (fun _ => ⟨rfl, rfl⟩)) ?_
  refine J.tr (s_ls (ls' := [(0, .ref o), (1, .ref b)]) [0, 1] rfl) ?_
  exact J.rf

set_option maxRecDepth 20000 in
theorem j_X5_init_en1_1 {d : Nat} (hd : 0 ≤ d) (h : AH) (o : Nat) (F : Nat → Value) (ho : h.1 o = ob 5 (fo 12 F)) (le : o ≤ h.2.1) : J false mX5_init d 12 [(0, .ref o), (1, .null)] [] h 20 [(0, .ref o), (1, .null)] [] (hs (hw h (la 60 (fun _ => 0)) 60) o (ob 5 (fo 12 (va_up F 4 (.ref (h.2.1 + 1)))))) := by
  refine J.tr (s_aload_n (q := 13) dX5_init_12 rfl rfl) ?_
  refine J.tr (s_bipush (q := 15) (v := 60) dX5_init_13 rfl (by decide)) ?_
  refine J.tr (s_newL (q := 17) (N := 60) dX5_init_15 rfl (by decide) (by decide) (by decide)) ?_
  refine J.tr (s_pff (q := 20) dX5_init_17 rfl fX5_15 rfl ((hw_ne (by show o ≤ h.2.1 + 0; have := le; omega)).trans (ho)) (by decide) (fun _ => ⟨rfl, rfl⟩)) ?_
  refine J.tr (s_ls (ls' := [(0, .ref o), (1, .null)]) [0, 1] rfl) ?_
  exact J.rf

set_option maxRecDepth 20000 in
theorem j_X5_init_er2_1 {d : Nat} (hd : 0 ≤ d) (h : AH) (o : Nat) (b : Nat) (F : Nat → Value) (ho : h.1 o = ob 5 (fo 12 F)) (le : o ≤ h.2.1) : J false mX5_init d 20 [(0, .ref o), (1, .ref b)] [] h 28 [(0, .ref o), (1, .ref b)] [] (hs (hw h (ia 60 (fun _ => 0)) 60) o (ob 5 (fo 12 (va_up F 5 (.ref (h.2.1 + 1)))))) := by
  refine J.tr (s_aload_n (q := 21) dX5_init_20 rfl rfl) ?_
  refine J.tr (s_bipush (q := 23) (v := 60) dX5_init_21 rfl (by decide)) ?_
  refine J.tr (s_newI (q := 25) (N := 60) dX5_init_23 rfl (by decide) (by decide) (by decide)) ?_
  refine J.tr (s_pff (q := 28) dX5_init_25 rfl fX5_19 rfl ((hw_ne (by show o ≤ h.2.1 + 0; have := le; omega)).trans (ho)) (by decide) (fun _ => ⟨rfl, rfl⟩)) ?_
  refine J.tr (s_ls (ls' := [(0, .ref o), (1, .ref b)]) [0, 1] rfl) ?_
  exact J.rf

set_option maxRecDepth 20000 in
theorem j_X5_init_en2_1 {d : Nat} (hd : 0 ≤ d) (h : AH) (o : Nat) (F : Nat → Value) (ho : h.1 o = ob 5 (fo 12 F)) (le : o ≤ h.2.1) : J false mX5_init d 20 [(0, .ref o), (1, .null)] [] h 28 [(0, .ref o), (1, .null)] [] (hs (hw h (ia 60 (fun _ => 0)) 60) o (ob 5 (fo 12 (va_up F 5 (.ref (h.2.1 + 1)))))) := by
  refine J.tr (s_aload_n (q := 21) dX5_init_20 rfl rfl) ?_
  refine J.tr (s_bipush (q := 23) (v := 60) dX5_init_21 rfl (by decide)) ?_
  refine J.tr (s_newI (q := 25) (N := 60) dX5_init_23 rfl (by decide) (by decide) (by decide)) ?_
  refine J.tr (s_pff (q := 28) dX5_init_25 rfl fX5_19 rfl ((hw_ne (by show o ≤ h.2.1 + 0; have := le; omega)).trans (ho)) (by decide) (fun _ => ⟨rfl, rfl⟩)) ?_
  refine J.tr (s_ls (ls' := [(0, .ref o), (1, .null)]) [0, 1] rfl) ?_
  exact J.rf

set_option maxRecDepth 20000 in
theorem j_X8_init_e0_1 {d : Nat} (hd : 0 ≤ d) (h : AH) (o : Nat) (F : Nat → Value) (ho : h.1 o = ob 8 (fo 53 F)) (le : o ≤ h.2.1) : J false mX8_init d 4 [(0, .ref o)] [] h 12 [(0, .ref o)] [] (hs (hw h (ia 60 (fun _ => 0)) 60) o (ob 8 (fo 53 (va_up F 2 (.ref (h.2.1 + 1)))))) := by
  refine J.tr (s_aload_n (q := 5) dX8_init_4 rfl rfl) ?_
  refine J.tr (s_bipush (q := 7) (v := 60) dX8_init_5 rfl (by decide)) ?_
  refine J.tr (s_newI (q := 9) (N := 60) dX8_init_7 rfl (by decide) (by decide) (by decide)) ?_
  refine J.tr (s_pff (q := 12) dX8_init_9 rfl fX8_9 rfl ((hw_ne (by show o ≤ h.2.1 + 0; have := le; omega)).trans (ho)) (by decide) (fun _ => ⟨rfl, rfl⟩)) ?_
  refine J.tr (s_ls (ls' := [(0, .ref o)]) [0] rfl) ?_
  exact J.rf

set_option maxRecDepth 20000 in
theorem j_X8_init_e1_1 {d : Nat} (hd : 0 ≤ d) (h : AH) (o : Nat) (F : Nat → Value) (ho : h.1 o = ob 8 (fo 53 F)) (le : o ≤ h.2.1) : J false mX8_init d 12 [(0, .ref o)] [] h 20 [(0, .ref o)] [] (hs (hw h (la 60 (fun _ => 0)) 60) o (ob 8 (fo 53 (va_up F 3 (.ref (h.2.1 + 1)))))) := by
  refine J.tr (s_aload_n (q := 13) dX8_init_12 rfl rfl) ?_
  refine J.tr (s_bipush (q := 15) (v := 60) dX8_init_13 rfl (by decide)) ?_
  refine J.tr (s_newL (q := 17) (N := 60) dX8_init_15 rfl (by decide) (by decide) (by decide)) ?_
  refine J.tr (s_pff (q := 20) dX8_init_17 rfl fX8_13 rfl ((hw_ne (by show o ≤ h.2.1 + 0; have := le; omega)).trans (ho)) (by decide) (fun _ => ⟨rfl, rfl⟩)) ?_
  refine J.tr (s_ls (ls' := [(0, .ref o)]) [0] rfl) ?_
  exact J.rf

set_option maxRecDepth 20000 in
theorem j_X8_init_e2_1 {d : Nat} (hd : 0 ≤ d) (h : AH) (o : Nat) (F : Nat → Value) (ho : h.1 o = ob 8 (fo 53 F)) (le : o ≤ h.2.1) : J false mX8_init d 20 [(0, .ref o)] [] h 28 [(0, .ref o)] [] (hs (hw h (ia 60 (fun _ => 0)) 60) o (ob 8 (fo 53 (va_up F 4 (.ref (h.2.1 + 1)))))) := by
  refine J.tr (s_aload_n (q := 21) dX8_init_20 rfl rfl) ?_
  refine J.tr (s_bipush (q := 23) (v := 60) dX8_init_21 rfl (by decide)) ?_
  refine J.tr (s_newI (q := 25) (N := 60) dX8_init_23 rfl (by decide) (by decide) (by decide)) ?_
  refine J.tr (s_pff (q := 28) dX8_init_25 rfl fX8_17 rfl ((hw_ne (by show o ≤ h.2.1 + 0; have := le; omega)).trans (ho)) (by decide) (fun _ => ⟨rfl, rfl⟩)) ?_
  refine J.tr (s_ls (ls' := [(0, .ref o)]) [0] rfl) ?_
  exact J.rf

set_option maxRecDepth 20000 in
theorem j_X8_init_e3_1 {d : Nat} (hd : 0 ≤ d) (h : AH) (o : Nat) (F : Nat → Value) (ho : h.1 o = ob 8 (fo 53 F)) (le : o ≤ h.2.1) : J false mX8_init d 28 [(0, .ref o)] [] h 36 [(0, .ref o)] [] (hs (hw h (ia 60 (fun _ => 0)) 60) o (ob 8 (fo 53 (va_up F 5 (.ref (h.2.1 + 1)))))) := by
  refine J.tr (s_aload_n (q := 29) dX8_init_28 rfl rfl) ?_
  refine J.tr (s_bipush (q := 31) (v := 60) dX8_init_29 rfl (by decide)) ?_
  refine J.tr (s_newI (q := 33) (N := 60) dX8_init_31 rfl (by decide) (by decide) (by decide)) ?_
  refine J.tr (s_pff (q := 36) dX8_init_33 rfl fX8_20 rfl ((hw_ne (by show o ≤ h.2.1 + 0; have := le; omega)).trans (ho)) (by decide) (fun _ => ⟨rfl, rfl⟩)) ?_
  refine J.tr (s_ls (ls' := [(0, .ref o)]) [0] rfl) ?_
  exact J.rf

set_option maxRecDepth 20000 in
theorem j_X8_init_e4_1 {d : Nat} (hd : 0 ≤ d) (h : AH) (o : Nat) (F : Nat → Value) (ho : h.1 o = ob 8 (fo 53 F)) (le : o ≤ h.2.1) : J false mX8_init d 36 [(0, .ref o)] [] h 44 [(0, .ref o)] [] (hs (hw h (ia 60 (fun _ => 0)) 60) o (ob 8 (fo 53 (va_up F 6 (.ref (h.2.1 + 1)))))) := by
  refine J.tr (s_aload_n (q := 37) dX8_init_36 rfl rfl) ?_
  refine J.tr (s_bipush (q := 39) (v := 60) dX8_init_37 rfl (by decide)) ?_
  refine J.tr (s_newI (q := 41) (N := 60) dX8_init_39 rfl (by decide) (by decide) (by decide)) ?_
  refine J.tr (s_pff (q := 44) dX8_init_41 rfl fX8_23 rfl ((hw_ne (by show o ≤ h.2.1 + 0; have := le; omega)).trans (ho)) (by decide) (fun _ => ⟨rfl, rfl⟩)) ?_
  refine J.tr (s_ls (ls' := [(0, .ref o)]) [0] rfl) ?_
  exact J.rf

set_option maxRecDepth 20000 in
theorem j_X8_init_e5_1 {d : Nat} (hd : 0 ≤ d) (h : AH) (o : Nat) (F : Nat → Value) (ho : h.1 o = ob 8 (fo 53 F)) (le : o ≤ h.2.1) : J false mX8_init d 44 [(0, .ref o)] [] h 52 [(0, .ref o)] [] (hs (hw h (ia 6 (fun _ => 0)) 6) o (ob 8 (fo 53 (va_up F 8 (.ref (h.2.1 + 1)))))) := by
  refine J.tr (s_aload_n (q := 45) dX8_init_44 rfl rfl) ?_
  refine J.tr (s_bipush (q := 47) (v := 6) dX8_init_45 rfl (by decide)) ?_
  refine J.tr (s_newI (q := 49) (N := 6) dX8_init_47 rfl (by decide) (by decide) (by decide)) ?_
  refine J.tr (s_pff (q := 52) dX8_init_49 rfl fX8_26 rfl ((hw_ne (by show o ≤ h.2.1 + 0; have := le; omega)).trans (ho)) (by decide) (fun _ => ⟨rfl, rfl⟩)) ?_
  refine J.tr (s_ls (ls' := [(0, .ref o)]) [0] rfl) ?_
  exact J.rf

set_option maxRecDepth 20000 in
theorem j_X8_init_e6_1 {d : Nat} (hd : 0 ≤ d) (h : AH) (o : Nat) (F : Nat → Value) (ho : h.1 o = ob 8 (fo 53 F)) (le : o ≤ h.2.1) : J false mX8_init d 52 [(0, .ref o)] [] h 61 [(0, .ref o)] [] (hs (hw h (ia 360 (fun _ => 0)) 360) o (ob 8 (fo 53 (va_up F 9 (.ref (h.2.1 + 1)))))) := by
  refine J.tr (s_aload_n (q := 53) dX8_init_52 rfl rfl) ?_
  refine J.tr (s_sipush (q := 56) (v := 360) dX8_init_53 rfl (by decide)) ?_
  refine J.tr (s_newI (q := 58) (N := 360) dX8_init_56 rfl (by decide) (by decide) (by decide)) ?_
  refine J.tr (s_pff (q := 61) dX8_init_58 rfl fX8_29 rfl ((hw_ne (by show o ≤ h.2.1 + 0; have := le; omega)).trans (ho)) (by decide) (fun _ => ⟨rfl, rfl⟩)) ?_
  refine J.tr (s_ls (ls' := [(0, .ref o)]) [0] rfl) ?_
  exact J.rf

set_option maxRecDepth 20000 in
theorem j_X8_init_e7_1 {d : Nat} (hd : 0 ≤ d) (h : AH) (o : Nat) (F : Nat → Value) (ho : h.1 o = ob 8 (fo 53 F)) (le : o ≤ h.2.1) : J false mX8_init d 61 [(0, .ref o)] [] h 70 [(0, .ref o)] [] (hs (hw h (la 360 (fun _ => 0)) 360) o (ob 8 (fo 53 (va_up F 10 (.ref (h.2.1 + 1)))))) := by
  refine J.tr (s_aload_n (q := 62) dX8_init_61 rfl rfl) ?_
  refine J.tr (s_sipush (q := 65) (v := 360) dX8_init_62 rfl (by decide)) ?_
  refine J.tr (s_newL (q := 67) (N := 360) dX8_init_65 rfl (by decide) (by decide) (by decide)) ?_
  refine J.tr (s_pff (q := 70) dX8_init_67 rfl fX8_32 rfl ((hw_ne (by show o ≤ h.2.1 + 0; have := le; omega)).trans (ho)) (by decide) (fun _ => ⟨rfl, rfl⟩)) ?_
  refine J.tr (s_ls (ls' := [(0, .ref o)]) [0] rfl) ?_
  exact J.rf

set_option maxRecDepth 20000 in
theorem j_X8_init_e8_1 {d : Nat} (hd : 0 ≤ d) (h : AH) (o : Nat) (F : Nat → Value) (ho : h.1 o = ob 8 (fo 53 F)) (le : o ≤ h.2.1) : J false mX8_init d 70 [(0, .ref o)] [] h 79 [(0, .ref o)] [] (hs (hw h (ia 360 (fun _ => 0)) 360) o (ob 8 (fo 53 (va_up F 11 (.ref (h.2.1 + 1)))))) := by
  refine J.tr (s_aload_n (q := 71) dX8_init_70 rfl rfl) ?_
  refine J.tr (s_sipush (q := 74) (v := 360) dX8_init_71 rfl (by decide)) ?_
  refine J.tr (s_newI (q := 76) (N := 360) dX8_init_74 rfl (by decide) (by decide) (by decide)) ?_
  refine J.tr (s_pff (q := 79) dX8_init_76 rfl fX8_35 rfl ((hw_ne (by show o ≤ h.2.1 + 0; have := le; omega)).trans (ho)) (by decide) (fun _ => ⟨rfl, rfl⟩)) ?_
  refine J.tr (s_ls (ls' := [(0, .ref o)]) [0] rfl) ?_
  exact J.rf

set_option maxRecDepth 20000 in
theorem j_X8_init_e9_1 {d : Nat} (hd : 0 ≤ d) (h : AH) (o : Nat) (F : Nat → Value) (ho : h.1 o = ob 8 (fo 53 F)) (le : o ≤ h.2.1) : J false mX8_init d 79 [(0, .ref o)] [] h 88 [(0, .ref o)] [] (hs (hw h (ia 360 (fun _ => 0)) 360) o (ob 8 (fo 53 (va_up F 12 (.ref (h.2.1 + 1)))))) := by
  refine J.tr (s_aload_n (q := 80) dX8_init_79 rfl rfl) ?_
  refine J.tr (s_sipush (q := 83) (v := 360) dX8_init_80 rfl (by decide)) ?_
  refine J.tr (s_newI (q := 85) (N := 360) dX8_init_83 rfl (by decide) (by decide) (by decide)) ?_
  refine J.tr (s_pff (q := 88) dX8_init_85 rfl fX8_38 rfl ((hw_ne (by show o ≤ h.2.1 + 0; have := le; omega)).trans (ho)) (by decide) (fun _ => ⟨rfl, rfl⟩)) ?_
  refine J.tr (s_ls (ls' := [(0, .ref o)]) [0] rfl) ?_
  exact J.rf

set_option maxRecDepth 20000 in
theorem j_X8_init_e10_1 {d : Nat} (hd : 0 ≤ d) (h : AH) (o : Nat) (F : Nat → Value) (ho : h.1 o = ob 8 (fo 53 F)) (le : o ≤ h.2.1) : J false mX8_init d 88 [(0, .ref o)] [] h 97 [(0, .ref o)] [] (hs (hw h (ia 1024 (fun _ => 0)) 1024) o (ob 8 (fo 53 (va_up F 13 (.ref (h.2.1 + 1)))))) := by
  refine J.tr (s_aload_n (q := 89) dX8_init_88 rfl rfl) ?_
  refine J.tr (s_sipush (q := 92) (v := 1024) dX8_init_89 rfl (by decide)) ?_
  refine J.tr (s_newI (q := 94) (N := 1024) dX8_init_92 rfl (by decide) (by decide) (by decide)) ?_
  refine J.tr (s_pf (q := 97) dX8_init_94 rfl fX8_41 ((hw_ne (by show o ≤ h.2.1 + 0; have := le; omega)).trans (ho)) (by decide) (fun _ => ⟨rfl, rfl⟩)) ?_
  refine J.tr (s_ls (ls' := [(0, .ref o)]) [0] rfl) ?_
  exact J.rf

set_option maxRecDepth 20000 in
theorem j_X8_init_e11_1 {d : Nat} (hd : 0 ≤ d) (h : AH) (o : Nat) (F : Nat → Value) (ho : h.1 o = ob 8 (fo 53 F)) (le : o ≤ h.2.1) : J false mX8_init d 97 [(0, .ref o)] [] h 106 [(0, .ref o)] [] (hs (hw h (la 1024 (fun _ => 0)) 1024) o (ob 8 (fo 53 (va_up F 14 (.ref (h.2.1 + 1)))))) := by
  refine J.tr (s_aload_n (q := 98) dX8_init_97 rfl rfl) ?_
  refine J.tr (s_sipush (q := 101) (v := 1024) dX8_init_98 rfl (by decide)) ?_
  refine J.tr (s_newL (q := 103) (N := 1024) dX8_init_101 rfl (by decide) (by decide) (by decide)) ?_
  refine J.tr (s_pf (q := 106) dX8_init_103 rfl fX8_44 ((hw_ne (by show o ≤ h.2.1 + 0; have := le; omega)).trans (ho)) (by decide) (fun _ => ⟨rfl, rfl⟩)) ?_
  refine J.tr (s_ls (ls' := [(0, .ref o)]) [0] rfl) ?_
  exact J.rf

set_option maxRecDepth 20000 in
theorem j_X8_init_e12_1 {d : Nat} (hd : 0 ≤ d) (h : AH) (o : Nat) (F : Nat → Value) (ho : h.1 o = ob 8 (fo 53 F)) (le : o ≤ h.2.1) : J false mX8_init d 106 [(0, .ref o)] [] h 115 [(0, .ref o)] [] (hs (hw h (ia 12006 (fun _ => 0)) 12006) o (ob 8 (fo 53 (va_up F 16 (.ref (h.2.1 + 1)))))) := by
  refine J.tr (s_aload_n (q := 107) dX8_init_106 rfl rfl) ?_
  refine J.tr (s_sipush (q := 110) (v := 12006) dX8_init_107 rfl (by decide)) ?_
  refine J.tr (s_newI (q := 112) (N := 12006) dX8_init_110 rfl (by decide) (by decide) (by decide)) ?_
  refine J.tr (s_pff (q := 115) dX8_init_112 rfl fX8_47 rfl ((hw_ne (by show o ≤ h.2.1 + 0; have := le; omega)).trans (ho)) (by decide) (fun _ => ⟨rfl, rfl⟩)) ?_
  refine J.tr (s_ls (ls' := [(0, .ref o)]) [0] rfl) ?_
  exact J.rf

set_option maxRecDepth 20000 in
theorem j_X8_init_e13_1 {d : Nat} (hd : 0 ≤ d) (h : AH) (o : Nat) (F : Nat → Value) (ho : h.1 o = ob 8 (fo 53 F)) (le : o ≤ h.2.1) : J false mX8_init d 115 [(0, .ref o)] [] h 123 [(0, .ref o)] [] (hs (hw h (ia 6 (fun _ => 0)) 6) o (ob 8 (fo 53 (va_up F 17 (.ref (h.2.1 + 1)))))) := by
  refine J.tr (s_aload_n (q := 116) dX8_init_115 rfl rfl) ?_
  refine J.tr (s_bipush (q := 118) (v := 6) dX8_init_116 rfl (by decide)) ?_
  refine J.tr (s_newI (q := 120) (N := 6) dX8_init_118 rfl (by decide) (by decide) (by decide)) ?_
  refine J.tr (s_pff (q := 123) dX8_init_120 rfl fX8_50 rfl ((hw_ne (by show o ≤ h.2.1 + 0; have := le; omega)).trans (ho)) (by decide) (fun _ => ⟨rfl, rfl⟩)) ?_
  refine J.tr (s_ls (ls' := [(0, .ref o)]) [0] rfl) ?_
  exact J.rf

set_option maxRecDepth 20000 in
theorem j_X8_init_e14_1 {d : Nat} (hd : 0 ≤ d) (h : AH) (o : Nat) (F : Nat → Value) (ho : h.1 o = ob 8 (fo 53 F)) (le : o ≤ h.2.1) : J false mX8_init d 123 [(0, .ref o)] [] h 131 [(0, .ref o)] [] (hs (hw h (ia 6 (fun _ => 0)) 6) o (ob 8 (fo 53 (va_up F 18 (.ref (h.2.1 + 1)))))) := by
  refine J.tr (s_aload_n (q := 124) dX8_init_123 rfl rfl) ?_
  refine J.tr (s_bipush (q := 126) (v := 6) dX8_init_124 rfl (by decide)) ?_
  refine J.tr (s_newI (q := 128) (N := 6) dX8_init_126 rfl (by decide) (by decide) (by decide)) ?_
  refine J.tr (s_pff (q := 131) dX8_init_128 rfl fX8_53 rfl ((hw_ne (by show o ≤ h.2.1 + 0; have := le; omega)).trans (ho)) (by decide) (fun _ => ⟨rfl, rfl⟩)) ?_
  refine J.tr (s_ls (ls' := [(0, .ref o)]) [0] rfl) ?_
  exact J.rf

set_option maxRecDepth 20000 in
theorem j_X8_init_e15_1 {d : Nat} (hd : 0 ≤ d) (h : AH) (o : Nat) (F : Nat → Value) (ho : h.1 o = ob 8 (fo 53 F)) (le : o ≤ h.2.1) : J false mX8_init d 131 [(0, .ref o)] [] h 140 [(0, .ref o)] [] (hs (hw h (ia 600 (fun _ => 0)) 600) o (ob 8 (fo 53 (va_up F 19 (.ref (h.2.1 + 1)))))) := by
  refine J.tr (s_aload_n (q := 132) dX8_init_131 rfl rfl) ?_
  refine J.tr (s_sipush (q := 135) (v := 600) dX8_init_132 rfl (by decide)) ?_
  refine J.tr (s_newI (q := 137) (N := 600) dX8_init_135 rfl (by decide) (by decide) (by decide)) ?_
  refine J.tr (s_pff (q := 140) dX8_init_137 rfl fX8_56 rfl ((hw_ne (by show o ≤ h.2.1 + 0; have := le; omega)).trans (ho)) (by decide) (fun _ => ⟨rfl, rfl⟩)) ?_
  refine J.tr (s_ls (ls' := [(0, .ref o)]) [0] rfl) ?_
  exact J.rf

set_option maxRecDepth 20000 in
theorem j_X8_init_e16_1 {d : Nat} (hd : 0 ≤ d) (h : AH) (o : Nat) (F : Nat → Value) (ho : h.1 o = ob 8 (fo 53 F)) (le : o ≤ h.2.1) : J false mX8_init d 140 [(0, .ref o)] [] h 149 [(0, .ref o)] [] (hs (hw h (la 600 (fun _ => 0)) 600) o (ob 8 (fo 53 (va_up F 20 (.ref (h.2.1 + 1)))))) := by
  refine J.tr (s_aload_n (q := 141) dX8_init_140 rfl rfl) ?_
  refine J.tr (s_sipush (q := 144) (v := 600) dX8_init_141 rfl (by decide)) ?_
  refine J.tr (s_newL (q := 146) (N := 600) dX8_init_144 rfl (by decide) (by decide) (by decide)) ?_
  refine J.tr (s_pff (q := 149) dX8_init_146 rfl fX8_59 rfl ((hw_ne (by show o ≤ h.2.1 + 0; have := le; omega)).trans (ho)) (by decide) (fun _ => ⟨rfl, rfl⟩)) ?_
  refine J.tr (s_ls (ls' := [(0, .ref o)]) [0] rfl) ?_
  exact J.rf

set_option maxRecDepth 20000 in
theorem j_X8_init_e17_1 {d : Nat} (hd : 0 ≤ d) (h : AH) (o : Nat) (F : Nat → Value) (ho : h.1 o = ob 8 (fo 53 F)) (le : o ≤ h.2.1) : J false mX8_init d 149 [(0, .ref o)] [] h 157 [(0, .ref o)] [] (hs (hw h (ia 6 (fun _ => 0)) 6) o (ob 8 (fo 53 (va_up F 21 (.ref (h.2.1 + 1)))))) := by
  refine J.tr (s_aload_n (q := 150) dX8_init_149 rfl rfl) ?_
  refine J.tr (s_bipush (q := 152) (v := 6) dX8_init_150 rfl (by decide)) ?_
  refine J.tr (s_newI (q := 154) (N := 6) dX8_init_152 rfl (by decide) (by decide) (by decide)) ?_
  refine J.tr (s_pff (q := 157) dX8_init_154 rfl fX8_62 rfl ((hw_ne (by show o ≤ h.2.1 + 0; have := le; omega)).trans (ho)) (by decide) (fun _ => ⟨rfl, rfl⟩)) ?_
  refine J.tr (s_ls (ls' := [(0, .ref o)]) [0] rfl) ?_
  exact J.rf

set_option maxRecDepth 20000 in
theorem j_X8_init_e18_1 {d : Nat} (hd : 0 ≤ d) (h : AH) (o : Nat) (F : Nat → Value) (ho : h.1 o = ob 8 (fo 53 F)) (le : o ≤ h.2.1) : J false mX8_init d 157 [(0, .ref o)] [] h 166 [(0, .ref o)] [] (hs (hw h (ia 600 (fun _ => 0)) 600) o (ob 8 (fo 53 (va_up F 22 (.ref (h.2.1 + 1)))))) := by
  refine J.tr (s_aload_n (q := 158) dX8_init_157 rfl rfl) ?_
  refine J.tr (s_sipush (q := 161) (v := 600) dX8_init_158 rfl (by decide)) ?_
  refine J.tr (s_newI (q := 163) (N := 600) dX8_init_161 rfl (by decide) (by decide) (by decide)) ?_
  refine J.tr (s_pff (q := 166) dX8_init_163 rfl fX8_65 rfl ((hw_ne (by show o ≤ h.2.1 + 0; have := le; omega)).trans (ho)) (by decide) (fun _ => ⟨rfl, rfl⟩)) ?_
  refine J.tr (s_ls (ls' := [(0, .ref o)]) [0] rfl) ?_
  exact J.rf

set_option maxRecDepth 20000 in
theorem j_X8_init_e19_1 {d : Nat} (hd : 0 ≤ d) (h : AH) (o : Nat) (F : Nat → Value) (ho : h.1 o = ob 8 (fo 53 F)) (le : o ≤ h.2.1) : J false mX8_init d 166 [(0, .ref o)] [] h 175 [(0, .ref o)] [] (hs (hw h (la 600 (fun _ => 0)) 600) o (ob 8 (fo 53 (va_up F 23 (.ref (h.2.1 + 1)))))) := by
  refine J.tr (s_aload_n (q := 167) dX8_init_166 rfl rfl) ?_
  refine J.tr (s_sipush (q := 170) (v := 600) dX8_init_167 rfl (by decide)) ?_
  refine J.tr (s_newL (q := 172) (N := 600) dX8_init_170 rfl (by decide) (by decide) (by decide)) ?_
  refine J.tr (s_pff (q := 175) dX8_init_172 rfl fX8_68 rfl ((hw_ne (by show o ≤ h.2.1 + 0; have := le; omega)).trans (ho)) (by decide) (fun _ => ⟨rfl, rfl⟩)) ?_
  refine J.tr (s_ls (ls' := [(0, .ref o)]) [0] rfl) ?_
  exact J.rf

set_option maxRecDepth 20000 in
theorem j_X8_init_e20_1 {d : Nat} (hd : 0 ≤ d) (h : AH) (o : Nat) (F : Nat → Value) (ho : h.1 o = ob 8 (fo 53 F)) (le : o ≤ h.2.1) : J false mX8_init d 175 [(0, .ref o)] [] h 183 [(0, .ref o)] [] (hs (hw h (ia 6 (fun _ => 0)) 6) o (ob 8 (fo 53 (va_up F 24 (.ref (h.2.1 + 1)))))) := by
  refine J.tr (s_aload_n (q := 176) dX8_init_175 rfl rfl) ?_
  refine J.tr (s_bipush (q := 178) (v := 6) dX8_init_176 rfl (by decide)) ?_
  refine J.tr (s_newI (q := 180) (N := 6) dX8_init_178 rfl (by decide) (by decide) (by decide)) ?_
  refine J.tr (s_pff (q := 183) dX8_init_180 rfl fX8_71 rfl ((hw_ne (by show o ≤ h.2.1 + 0; have := le; omega)).trans (ho)) (by decide) (fun _ => ⟨rfl, rfl⟩)) ?_
  refine J.tr (s_ls (ls' := [(0, .ref o)]) [0] rfl) ?_
  exact J.rf

set_option maxRecDepth 20000 in
theorem j_X8_init_e21_1 {d : Nat} (hd : 0 ≤ d) (h : AH) (o : Nat) (F : Nat → Value) (ho : h.1 o = ob 8 (fo 53 F)) (le : o ≤ h.2.1) : J false mX8_init d 183 [(0, .ref o)] [] h 191 [(0, .ref o)] [] (hs (hw h (ia 65536 (fun _ => 0)) 65536) o (ob 8 (fo 53 (va_up F 35 (.ref (h.2.1 + 1)))))) := by
  refine J.tr (s_aload_n (q := 184) dX8_init_183 rfl rfl) ?_
  refine J.tr (s_ldc (q := 186) dX8_init_184 rfl kX8_74) ?_
  refine J.tr (s_newI (q := 188) (N := 65536) dX8_init_186 rfl (by decide) (by decide) (by decide)) ?_
  refine J.tr (s_pff (q := 191) dX8_init_188 rfl fX8_75 rfl ((hw_ne (by show o ≤ h.2.1 + 0; have := le; omega)).trans (ho)) (by decide) (fun _ => ⟨rfl, rfl⟩)) ?_
  refine J.tr (s_ls (ls' := [(0, .ref o)]) [0] rfl) ?_
  exact J.rf

set_option maxRecDepth 20000 in
theorem j_X8_init_e22_1 {d : Nat} (hd : 0 ≤ d) (h : AH) (o : Nat) (F : Nat → Value) (ho : h.1 o = ob 8 (fo 53 F)) (le : o ≤ h.2.1) : J false mX8_init d 191 [(0, .ref o)] [] h 200 [(0, .ref o)] [] (hs (hw h (ia 256 (fun _ => 0)) 256) o (ob 8 (fo 53 (va_up F 36 (.ref (h.2.1 + 1)))))) := by
  refine J.tr (s_aload_n (q := 192) dX8_init_191 rfl rfl) ?_
  refine J.tr (s_sipush (q := 195) (v := 256) dX8_init_192 rfl (by decide)) ?_
  refine J.tr (s_newI (q := 197) (N := 256) dX8_init_195 rfl (by decide) (by decide) (by decide)) ?_
  refine J.tr (s_pff (q := 200) dX8_init_197 rfl fX8_78 rfl ((hw_ne (by show o ≤ h.2.1 + 0; have := le; omega)).trans (ho)) (by decide) (fun _ => ⟨rfl, rfl⟩)) ?_
  refine J.tr (s_ls (ls' := [(0, .ref o)]) [0] rfl) ?_
  exact J.rf

set_option maxRecDepth 20000 in
theorem j_X8_init_e23_1 {d : Nat} (hd : 0 ≤ d) (h : AH) (o : Nat) (F : Nat → Value) (ho : h.1 o = ob 8 (fo 53 F)) (le : o ≤ h.2.1) : J false mX8_init d 200 [(0, .ref o)] [] h 208 [(0, .ref o)] [] (hs (hw h (ia 131072 (fun _ => 0)) 131072) o (ob 8 (fo 53 (va_up F 38 (.ref (h.2.1 + 1)))))) := by
  refine J.tr (s_aload_n (q := 201) dX8_init_200 rfl rfl) ?_
  refine J.tr (s_ldc (q := 203) dX8_init_201 rfl kX8_81) ?_
  refine J.tr (s_newI (q := 205) (N := 131072) dX8_init_203 rfl (by decide) (by decide) (by decide)) ?_
  refine J.tr (s_pff (q := 208) dX8_init_205 rfl fX8_82 rfl ((hw_ne (by show o ≤ h.2.1 + 0; have := le; omega)).trans (ho)) (by decide) (fun _ => ⟨rfl, rfl⟩)) ?_
  refine J.tr (s_ls (ls' := [(0, .ref o)]) [0] rfl) ?_
  exact J.rf

set_option maxRecDepth 20000 in
theorem j_X8_init_e24_1 {d : Nat} (hd : 0 ≤ d) (h : AH) (o : Nat) (F : Nat → Value) (ho : h.1 o = ob 8 (fo 53 F)) (le : o ≤ h.2.1) : J false mX8_init d 208 [(0, .ref o)] [] h 217 [(0, .ref o)] [] (hs (hw h (ia 512 (fun _ => 0)) 512) o (ob 8 (fo 53 (va_up F 39 (.ref (h.2.1 + 1)))))) := by
  refine J.tr (s_aload_n (q := 209) dX8_init_208 rfl rfl) ?_
  refine J.tr (s_sipush (q := 212) (v := 512) dX8_init_209 rfl (by decide)) ?_
  refine J.tr (s_newI (q := 214) (N := 512) dX8_init_212 rfl (by decide) (by decide) (by decide)) ?_
  refine J.tr (s_pff (q := 217) dX8_init_214 rfl fX8_85 rfl ((hw_ne (by show o ≤ h.2.1 + 0; have := le; omega)).trans (ho)) (by decide) (fun _ => ⟨rfl, rfl⟩)) ?_
  refine J.tr (s_ls (ls' := [(0, .ref o)]) [0] rfl) ?_
  exact J.rf

set_option maxRecDepth 20000 in
theorem j_X8_init_e25_1 {d : Nat} (hd : 0 ≤ d) (h : AH) (o : Nat) (F : Nat → Value) (ho : h.1 o = ob 8 (fo 53 F)) (le : o ≤ h.2.1) : J false mX8_init d 217 [(0, .ref o)] [] h 226 [(0, .ref o)] [] (hs (hw h (ia 256 (fun _ => 0)) 256) o (ob 8 (fo 53 (va_up F 49 (.ref (h.2.1 + 1)))))) := by
  refine J.tr (s_aload_n (q := 218) dX8_init_217 rfl rfl) ?_
  refine J.tr (s_sipush (q := 221) (v := 256) dX8_init_218 rfl (by decide)) ?_
  refine J.tr (s_newI (q := 223) (N := 256) dX8_init_221 rfl (by decide) (by decide) (by decide)) ?_
  refine J.tr (s_pff (q := 226) dX8_init_223 rfl fX8_88 rfl ((hw_ne (by show o ≤ h.2.1 + 0; have := le; omega)).trans (ho)) (by decide) (fun _ => ⟨rfl, rfl⟩)) ?_
  refine J.tr (s_ls (ls' := [(0, .ref o)]) [0] rfl) ?_
  exact J.rf

set_option maxRecDepth 20000 in
theorem j_X8_init_e26_1 {d : Nat} (hd : 0 ≤ d) (h : AH) (o : Nat) (F : Nat → Value) (ho : h.1 o = ob 8 (fo 53 F)) (le : o ≤ h.2.1) : J false mX8_init d 226 [(0, .ref o)] [] h 234 [(0, .ref o)] [] (hs (hw h (ia 100 (fun _ => 0)) 100) o (ob 8 (fo 53 (va_up F 51 (.ref (h.2.1 + 1)))))) := by
  refine J.tr (s_aload_n (q := 227) dX8_init_226 rfl rfl) ?_
  refine J.tr (s_bipush (q := 229) (v := 100) dX8_init_227 rfl (by decide)) ?_
  refine J.tr (s_newI (q := 231) (N := 100) dX8_init_229 rfl (by decide) (by decide) (by decide)) ?_
  refine J.tr (s_pff (q := 234) dX8_init_231 rfl fX8_91 rfl ((hw_ne (by show o ≤ h.2.1 + 0; have := le; omega)).trans (ho)) (by decide) (fun _ => ⟨rfl, rfl⟩)) ?_
  refine J.tr (s_ls (ls' := [(0, .ref o)]) [0] rfl) ?_
  exact J.rf

set_option maxRecDepth 20000 in
theorem j_X8_init_e27_1 {d : Nat} (hd : 0 ≤ d) (h : AH) (o : Nat) (F : Nat → Value) (ho : h.1 o = ob 8 (fo 53 F)) (le : o ≤ h.2.1) : J false mX8_init d 234 [(0, .ref o)] [] h 242 [(0, .ref o)] [] (hs (hw h (la 100 (fun _ => 0)) 100) o (ob 8 (fo 53 (va_up F 52 (.ref (h.2.1 + 1)))))) := by
  refine J.tr (s_aload_n (q := 235) dX8_init_234 rfl rfl) ?_
  refine J.tr (s_bipush (q := 237) (v := 100) dX8_init_235 rfl (by decide)) ?_
  refine J.tr (s_newL (q := 239) (N := 100) dX8_init_237 rfl (by decide) (by decide) (by decide)) ?_
  refine J.tr (s_pff (q := 242) dX8_init_239 rfl fX8_94 rfl ((hw_ne (by show o ≤ h.2.1 + 0; have := le; omega)).trans (ho)) (by decide) (fun _ => ⟨rfl, rfl⟩)) ?_
  refine J.tr (s_ls (ls' := [(0, .ref o)]) [0] rfl) ?_
  exact J.rf

set_option maxRecDepth 20000 in
theorem j_X2_init_z_1 {d : Nat} (hd : 1 ≤ d) (h : AH) (o : Nat) : J false mX2_init d 0 [(0, .ref o)] [] h 4 [(0, .ref o)] [] h := by
  refine J.tr (s_aload_n (q := 1) dX2_init_0 rfl rfl) ?_
  refine J.tr (s_obj (q := 4) dX2_init_1 rfl oX2_3 oi_gw (by omega) (Nat.le_of_ble_eq_true rfl)) ?_
  refine J.tr (s_ls (ls' := [(0, .ref o)]) [0] rfl) ?_
  exact J.rf

set_option maxRecDepth 20000 in
theorem j_X2_init_y_1 {d : Nat} (hd : 0 ≤ d) (h : AH) (o : Nat) : E false mX2_init d 44 [(0, .ref o)] [] h (none) h := by
  exact E.v dX2_init_44 rfl rfl rfl

set_option maxRecDepth 20000 in
theorem j_X0_init_z_1 {d : Nat} (hd : 1 ≤ d) (h : AH) (o : Nat) : J false mX0_init d 0 [(0, .ref o)] [] h 4 [(0, .ref o)] [] h := by
  refine J.tr (s_aload_n (q := 1) dX0_init_0 rfl rfl) ?_
  refine J.tr (s_obj (q := 4) dX0_init_1 rfl oX0_3 oi_gw (by omega) (Nat.le_of_ble_eq_true rfl)) ?_
  refine J.tr (s_ls (ls' := [(0, .ref o)]) [0] rfl) ?_
  exact J.rf

set_option maxRecDepth 20000 in
theorem j_X0_init_y_1 {d : Nat} (hd : 0 ≤ d) (h : AH) (o : Nat) : E false mX0_init d 22 [(0, .ref o)] [] h (none) h := by
  exact E.v dX0_init_22 rfl rfl rfl

set_option maxRecDepth 20000 in
theorem j_X8_init_z_1 {d : Nat} (hd : 1 ≤ d) (h : AH) (o : Nat) : J false mX8_init d 0 [(0, .ref o)] [] h 4 [(0, .ref o)] [] h := by
  refine J.tr (s_aload_n (q := 1) dX8_init_0 rfl rfl) ?_
  refine J.tr (s_obj (q := 4) dX8_init_1 rfl oX8_1 oi_gw (by omega) (Nat.le_of_ble_eq_true rfl)) ?_
  refine J.tr (s_ls (ls' := [(0, .ref o)]) [0] rfl) ?_
  exact J.rf

set_option maxRecDepth 20000 in
theorem j_X8_init_y_1 {d : Nat} (hd : 0 ≤ d) (h : AH) (o : Nat) : E false mX8_init d 242 [(0, .ref o)] [] h (none) h := by
  exact E.v dX8_init_242 rfl rfl rfl

set_option maxRecDepth 20000 in
theorem j_X4_init_z_1 {d : Nat} (hd : 1 ≤ d) (h : AH) (o : Nat) (m : Int32) : J false mX4_init d 0 [(0, .ref o), (1, .int m)] [] h 4 [(0, .ref o), (1, .int m)] [] h := by
  refine J.tr (s_aload_n (q := 1) dX4_init_0 rfl rfl) ?_
  refine J.tr (s_obj (q := 4) dX4_init_1 rfl oX4_3 oi_gw (by omega) (Nat.le_of_ble_eq_true rfl)) ?_
  refine J.tr (s_ls (ls' := [(0, .ref o), (1, .int m)]) [0, 1] rfl) ?_
  exact J.rf

set_option maxRecDepth 20000 in
theorem j_X4_init_y_1 {d : Nat} (hd : 0 ≤ d) (h : AH) (o : Nat) (m : Int32) (F : Nat → Value) (ho : h.1 o = ob 4 (fo 4 F)) : E false mX4_init d 20 [(0, .ref o), (1, .int m)] [] h (none) (hs h o (ob 4 (fo 4 (va_up F 0 (.int m))))) := by
  refine E.st (s_aload_n (q := 21) dX4_init_20 rfl rfl) ?_
  refine E.st (s_iload_n (q := 22) dX4_init_21 rfl rfl) ?_
  refine E.st (s_pff (q := 25) dX4_init_22 rfl fX4_19 rfl (ho) (by decide) (fun _ => ⟨rfl, rfl⟩)) ?_
  exact E.v dX4_init_25 rfl rfl rfl

set_option maxRecDepth 20000 in
theorem j_X1_init_a_1 {d : Nat} (hd : 1 ≤ d) (h : AH) (o : Nat) : J false mX1_init d 0 [(0, .ref o)] [] h 5 [(0, .ref o)] [.ref o] h := by
  refine J.tr (s_aload_n (q := 1) dX1_init_0 rfl rfl) ?_
  refine J.tr (s_obj (q := 4) dX1_init_1 rfl oX1_3 oi_gw (by omega) (Nat.le_of_ble_eq_true rfl)) ?_
  refine J.tr (s_aload_n (q := 5) dX1_init_4 rfl rfl) ?_
  exact J.rf

set_option maxRecDepth 20000 in
theorem j_X1_init_b_1 {d : Nat} (hd : 0 ≤ d) (h : AH) (o : Nat) (x : Nat) : J false mX1_init d 8 [(0, .ref o)] [.ref x, .ref o] h 11 [(0, .ref o)] [.int 100, .ref x, .ref x, .ref o] h := by
  refine J.tr (s_dup (q := 9) dX1_init_8 rfl rfl) ?_
  refine J.tr (s_bipush (q := 11) (v := 100) dX1_init_9 rfl (by decide)) ?_
  exact J.rf

set_option maxRecDepth 20000 in
theorem j_X1_init_c_1 {d : Nat} (hd : 0 ≤ d) (h : AH) (o : Nat) (x : Nat) (F : Nat → Value) (ho : h.1 o = ob 1 (fo 4 F)) : E false mX1_init d 14 [(0, .ref o)] [.ref x, .ref o] h (none) (hs h o (ob 1 (fo 4 (va_up F 0 (.ref x))))) := by
  refine E.st (s_pff (q := 17) dX1_init_14 rfl fX1_14 rfl (ho) (by decide) (fun _ => ⟨rfl, rfl⟩)) ?_
  exact E.v dX1_init_17 rfl rfl rfl

set_option maxRecDepth 20000 in
theorem j_X5_init_zr_1 {d : Nat} (hd : 1 ≤ d) (h : AH) (o : Nat) (b : Nat) : J false mX5_init d 0 [(0, .ref o), (1, .ref b)] [] h 4 [(0, .ref o), (1, .ref b)] [] h := by
  refine J.tr (s_aload_n (q := 1) dX5_init_0 rfl rfl) ?_
  refine J.tr (s_obj (q := 4) dX5_init_1 rfl oX5_3 oi_gw (by omega) (Nat.le_of_ble_eq_true rfl)) ?_
  refine J.tr (s_ls (ls' := [(0, .ref o), (1, .ref b)]) [0, 1] rfl) ?_
  exact J.rf

set_option maxRecDepth 20000 in
theorem j_X5_init_ar_1 {d : Nat} (hd : 0 ≤ d) (h : AH) (o : Nat) (b : Nat) : J false mX5_init d 28 [(0, .ref o), (1, .ref b)] [] h 29 [(0, .ref o), (1, .ref b)] [.ref o] h := by
  refine J.tr (s_aload_n (q := 29) dX5_init_28 rfl rfl) ?_
  refine J.tr (s_ls (ls' := [(0, .ref o), (1, .ref b)]) [0, 1] rfl) ?_
  exact J.rf

set_option maxRecDepth 20000 in
theorem j_X5_init_br_1 {d : Nat} (hd : 0 ≤ d) (h : AH) (o : Nat) (b : Nat) (x : Nat) : J false mX5_init d 32 [(0, .ref o), (1, .ref b)] [.ref x, .ref o] h 36 [(0, .ref o), (1, .ref b)] [.int 200, .ref x, .ref x, .ref o] h := by
  refine J.tr (s_dup (q := 33) dX5_init_32 rfl rfl) ?_
  refine J.tr (s_sipush (q := 36) (v := 200) dX5_init_33 rfl (by decide)) ?_
  refine J.tr (s_ls (ls' := [(0, .ref o), (1, .ref b)]) [0, 1] rfl) ?_
  exact J.rf

set_option maxRecDepth 20000 in
theorem j_X5_init_cr_1 {d : Nat} (hd : 0 ≤ d) (h : AH) (o : Nat) (b : Nat) (x : Nat) (F : Nat → Value) (ho : h.1 o = ob 5 (fo 12 F)) : E false mX5_init d 39 [(0, .ref o), (1, .ref b)] [.ref x, .ref o] h (none) (hs (hs h o (ob 5 (fo 12 (va_up F 9 (.ref x))))) o (ob 5 (fo 12 (va_up (va_up F 9 (.ref x)) 0 (.ref b))))) := by
  refine E.st (s_pff (q := 42) dX5_init_39 rfl fX5_27 rfl (ho) (by decide) (fun _ => ⟨rfl, rfl⟩)) ?_
  refine E.st (s_aload_n (q := 43) dX5_init_42 rfl rfl) ?_
  refine E.st (s_aload_n (q := 44) dX5_init_43 rfl rfl) ?_
  refine E.st (s_pff (q := 47) dX5_init_44 rfl fX5_31 rfl (hs_eq) (by decide) (fun _ => ⟨rfl, rfl⟩)) ?_
  exact E.v dX5_init_47 rfl rfl rfl

set_option maxRecDepth 20000 in
theorem j_X5_init_zn_1 {d : Nat} (hd : 1 ≤ d) (h : AH) (o : Nat) : J false mX5_init d 0 [(0, .ref o), (1, .null)] [] h 4 [(0, .ref o), (1, .null)] [] h := by
  refine J.tr (s_aload_n (q := 1) dX5_init_0 rfl rfl) ?_
  refine J.tr (s_obj (q := 4) dX5_init_1 rfl oX5_3 oi_gw (by omega) (Nat.le_of_ble_eq_true rfl)) ?_
  refine J.tr (s_ls (ls' := [(0, .ref o), (1, .null)]) [0, 1] rfl) ?_
  exact J.rf

set_option maxRecDepth 20000 in
theorem j_X5_init_an_1 {d : Nat} (hd : 0 ≤ d) (h : AH) (o : Nat) : J false mX5_init d 28 [(0, .ref o), (1, .null)] [] h 29 [(0, .ref o), (1, .null)] [.ref o] h := by
  refine J.tr (s_aload_n (q := 29) dX5_init_28 rfl rfl) ?_
  refine J.tr (s_ls (ls' := [(0, .ref o), (1, .null)]) [0, 1] rfl) ?_
  exact J.rf

set_option maxRecDepth 20000 in
theorem j_X5_init_bn_1 {d : Nat} (hd : 0 ≤ d) (h : AH) (o : Nat) (x : Nat) : J false mX5_init d 32 [(0, .ref o), (1, .null)] [.ref x, .ref o] h 36 [(0, .ref o), (1, .null)] [.int 200, .ref x, .ref x, .ref o] h := by
  refine J.tr (s_dup (q := 33) dX5_init_32 rfl rfl) ?_
  refine J.tr (s_sipush (q := 36) (v := 200) dX5_init_33 rfl (by decide)) ?_
  refine J.tr (s_ls (ls' := [(0, .ref o), (1, .null)]) [0, 1] rfl) ?_
  exact J.rf

set_option maxRecDepth 20000 in
theorem j_X5_init_cn_1 {d : Nat} (hd : 0 ≤ d) (h : AH) (o : Nat) (x : Nat) (F : Nat → Value) (ho : h.1 o = ob 5 (fo 12 F)) : E false mX5_init d 39 [(0, .ref o), (1, .null)] [.ref x, .ref o] h (none) (hs (hs h o (ob 5 (fo 12 (va_up F 9 (.ref x))))) o (ob 5 (fo 12 (va_up (va_up F 9 (.ref x)) 0 (.null))))) := by
  refine E.st (s_pff (q := 42) dX5_init_39 rfl fX5_27 rfl (ho) (by decide) (fun _ => ⟨rfl, rfl⟩)) ?_
  refine E.st (s_aload_n (q := 43) dX5_init_42 rfl rfl) ?_
  refine E.st (s_aload_nN (q := 44) dX5_init_43 rfl rfl) ?_
  refine E.st (s_pff (q := 47) dX5_init_44 rfl fX5_31 rfl (hs_eq) (by decide) (fun _ => ⟨rfl, rfl⟩)) ?_
  exact E.v dX5_init_47 rfl rfl rfl

set_option maxRecDepth 20000 in
theorem j_X5_nest_a_1 {d : Nat} (hd : 0 ≤ d) (h : AH) (o : Nat) (m : Int32) : J false mX5_nest d 0 [(0, .ref o), (1, .int m)] [] h 4 [(0, .ref o), (1, .int m), (2, .ref o), (3, .int 0)] [] h := by
  refine J.tr (s_aload_n (q := 1) dX5_nest_0 rfl rfl) ?_
  refine J.tr (s_astore_n (q := 2) (ls' := [(2, .ref o), (0, .ref o), (1, .int m)]) dX5_nest_1 rfl (by decide) rfl) ?_
  refine J.tr (s_iconst (q := 3) (v := 0) dX5_nest_2 rfl (by decide)) ?_
  refine J.tr (s_istore_n (q := 4) (ls' := [(3, .int 0), (2, .ref o), (0, .ref o), (1, .int m)]) dX5_nest_3 rfl (by decide) rfl) ?_
  refine J.tr (s_ls (ls' := [(0, .ref o), (1, .int m), (2, .ref o), (3, .int 0)]) [2, 3, 1, 0] rfl) ?_
  exact J.rf

set_option maxRecDepth 20000 in
theorem j_X5_nest_b_1 {d : Nat} (hd : 0 ≤ d) (h : AH) (o : Nat) (m : Int32) (u : Nat) (k : Int32) (c : m ≤ k) : E false mX5_nest d 4 [(0, .ref o), (1, .int m), (2, .ref u), (3, .int k)] [] h (none) h := by
  refine E.st (s_iload_n (q := 5) dX5_nest_4 rfl rfl) ?_
  refine E.st (s_iload_n (q := 6) dX5_nest_5 rfl rfl) ?_
  refine E.st (s_icmp_ge_t (q := 32) dX5_nest_6 (by decide) c) ?_
  exact E.v dX5_nest_32 rfl rfl rfl

set_option maxRecDepth 20000 in
theorem j_X5_nest_b_2 {d : Nat} (hd : 0 ≤ d) (h : AH) (o : Nat) (m : Int32) (u : Nat) (k : Int32) (c : ¬ (m ≤ k)) : J false mX5_nest d 4 [(0, .ref o), (1, .int m), (2, .ref u), (3, .int k)] [] h 10 [(0, .ref o), (1, .int m), (2, .ref u), (3, .int k)] [.ref u] h := by
  refine J.tr (s_iload_n (q := 5) dX5_nest_4 rfl rfl) ?_
  refine J.tr (s_iload_n (q := 6) dX5_nest_5 rfl rfl) ?_
  refine J.tr (s_icmp_ge_f (q := 9) (tg := 32) dX5_nest_6 (by decide) rfl c) ?_
  refine J.tr (s_aload_n (q := 10) dX5_nest_9 rfl rfl) ?_
  refine J.tr (s_ls (ls' := [(0, .ref o), (1, .int m), (2, .ref u), (3, .int k)]) [0, 1, 2, 3] rfl) ?_
  exact J.rf

set_option maxRecDepth 20000 in
theorem j_X5_nest_c_1 {d : Nat} (hd : 0 ≤ d) (h : AH) (o : Nat) (m : Int32) (u : Nat) (k : Int32) (x : Nat) : J false mX5_nest d 13 [(0, .ref o), (1, .int m), (2, .ref u), (3, .int k)] [.ref x, .ref u] h 15 [(0, .ref o), (1, .int m), (2, .ref u), (3, .int k)] [.ref u, .ref x, .ref x, .ref u] h := by
  refine J.tr (s_dup (q := 14) dX5_nest_13 rfl rfl) ?_
  refine J.tr (s_aload_n (q := 15) dX5_nest_14 rfl rfl) ?_
  refine J.tr (s_ls (ls' := [(0, .ref o), (1, .int m), (2, .ref u), (3, .int k)]) [0, 1, 2, 3] rfl) ?_
  exact J.rf

set_option maxRecDepth 20000 in
theorem j_X5_nest_e_1 {d : Nat} (hd : 0 ≤ d) (h : AH) (o : Nat) (m : Int32) (u : Nat) (k : Int32) (x : Nat) (F : Nat → Value) (ho : h.1 u = ob 5 (fo 12 F)) : J false mX5_nest d 18 [(0, .ref o), (1, .int m), (2, .ref u), (3, .int k)] [.ref x, .ref u] h 4 [(0, .ref o), (1, .int m), (2, .ref x), (3, .int (k + 1))] [] (hs h u (ob 5 (fo 12 (va_up F 1 (.ref x))))) := by
  refine J.tr (s_pf (q := 21) dX5_nest_18 rfl fX5_35 (ho) (by decide) (fun _ => ⟨rfl, rfl⟩)) ?_
  refine J.tr (s_aload_n (q := 22) dX5_nest_21 rfl rfl) ?_
  refine J.tr (s_gf (q := 25) (v := .ref x) dX5_nest_22 rfl fX5_35.l (hs_eq) (by decide) (up_eq)) ?_
  refine J.tr (s_astore_n (q := 26) (ls' := [(2, .ref x), (0, .ref o), (1, .int m), (3, .int k)]) dX5_nest_25 rfl (by decide) rfl) ?_
  refine J.tr (s_iinc (q := 29) (v := (k + 1)) (ls' := [(3, .int (k + 1)), (2, .ref x), (0, .ref o), (1, .int m)]) dX5_nest_26 rfl (by decide) rfl rfl rfl) ?_
  refine J.tr (s_goto (q := 4) dX5_nest_29 (by decide)) ?_
  refine J.tr (s_ls (ls' := [(0, .ref o), (1, .int m), (2, .ref x), (3, .int (k + 1))]) [2, 3, 1, 0] rfl) ?_
  exact J.rf

set_option maxRecDepth 20000 in
theorem j_X6_init_a_1 {d : Nat} (hd : 1 ≤ d) (h : AH) (o : Nat) (b : Nat) : J false mX6_init d 0 [(0, .ref o), (1, .ref b)] [] h 5 [(0, .ref o), (1, .ref b)] [.ref o] h := by
  refine J.tr (s_aload_n (q := 1) dX6_init_0 rfl rfl) ?_
  refine J.tr (s_obj (q := 4) dX6_init_1 rfl oX6_3 oi_gw (by omega) (Nat.le_of_ble_eq_true rfl)) ?_
  refine J.tr (s_aload_n (q := 5) dX6_init_4 rfl rfl) ?_
  refine J.tr (s_ls (ls' := [(0, .ref o), (1, .ref b)]) [0, 1] rfl) ?_
  exact J.rf

set_option maxRecDepth 20000 in
theorem j_X6_init_b_1 {d : Nat} (hd : 0 ≤ d) (h : AH) (o : Nat) (b : Nat) (x : Nat) : J false mX6_init d 8 [(0, .ref o), (1, .ref b)] [.ref x, .ref o] h 10 [(0, .ref o), (1, .ref b)] [.null, .ref x, .ref x, .ref o] h := by
  refine J.tr (s_dup (q := 9) dX6_init_8 rfl rfl) ?_
  refine J.tr (s_null (q := 10) dX6_init_9 rfl) ?_
  refine J.tr (s_ls (ls' := [(0, .ref o), (1, .ref b)]) [0, 1] rfl) ?_
  exact J.rf

set_option maxRecDepth 20000 in
theorem j_X6_init_c_1 {d : Nat} (hd : 0 ≤ d) (h : AH) (o : Nat) (b : Nat) (x : Nat) (F : Nat → Value) (ho : h.1 o = ob 6 (fo 10 F)) : J false mX6_init d 13 [(0, .ref o), (1, .ref b)] [.ref x, .ref o] h 25 [(0, .ref o), (1, .ref b)] [.ref o] (hs (hs h o (ob 6 (fo 10 (va_up F 1 (.ref x))))) o (ob 6 (fo 10 (va_up (va_up F 1 (.ref x)) 2 (.ref x))))) := by
  refine J.tr (s_pff (q := 16) dX6_init_13 rfl fX6_14 rfl (ho) (by decide) (fun _ => ⟨rfl, rfl⟩)) ?_
  refine J.tr (s_aload_n (q := 17) dX6_init_16 rfl rfl) ?_
  refine J.tr (s_aload_n (q := 18) dX6_init_17 rfl rfl) ?_
  refine J.tr (s_gf (q := 21) (v := .ref x) dX6_init_18 rfl fX6_14.l (hs_eq) (by decide) (up_eq)) ?_
  refine J.tr (s_pf (q := 24) dX6_init_21 rfl fX6_20 (hs_eq) (by decide) (fun _ => ⟨rfl, rfl⟩)) ?_
  refine J.tr (s_aload_n (q := 25) dX6_init_24 rfl rfl) ?_
  refine J.tr (s_ls (ls' := [(0, .ref o), (1, .ref b)]) [0, 1] rfl) ?_
  exact J.rf

set_option maxRecDepth 20000 in
theorem j_X6_init_e_1 {d : Nat} (hd : 0 ≤ d) (h : AH) (o : Nat) (b : Nat) (x : Nat) : J false mX6_init d 28 [(0, .ref o), (1, .ref b)] [.ref x, .ref o] h 31 [(0, .ref o), (1, .ref b)] [.int 36000, .ref x, .ref x, .ref o] h := by
  refine J.tr (s_dup (q := 29) dX6_init_28 rfl rfl) ?_
  refine J.tr (s_ldc (q := 31) dX6_init_29 rfl kX6_25) ?_
  refine J.tr (s_ls (ls' := [(0, .ref o), (1, .ref b)]) [0, 1] rfl) ?_
  exact J.rf

set_option maxRecDepth 20000 in
theorem j_X6_init_f_1 {d : Nat} (hd : 0 ≤ d) (h : AH) (o : Nat) (b : Nat) (x : Nat) (F : Nat → Value) (ho : h.1 o = ob 6 (fo 10 F)) (r1 : Nat) (e1 : F 1 = .ref r1) : J false mX6_init d 34 [(0, .ref o), (1, .ref b)] [.ref x, .ref o] h 55 [(0, .ref o), (1, .ref b)] [.int 5, .ref r1] (hs (hs (hs h o (ob 6 (fo 10 (va_up F 4 (.ref x))))) o (ob 6 (fo 10 (va_up (va_up F 4 (.ref x)) 9 (.ref r1))))) o (ob 6 (fo 10 (va_up (va_up (va_up F 4 (.ref x)) 9 (.ref r1)) 0 (.ref b))))) := by
  refine J.tr (s_pff (q := 37) dX6_init_34 rfl fX6_29 rfl (ho) (by decide) (fun _ => ⟨rfl, rfl⟩)) ?_
  refine J.tr (s_aload_n (q := 38) dX6_init_37 rfl rfl) ?_
  refine J.tr (s_aload_n (q := 39) dX6_init_38 rfl rfl) ?_
  refine J.tr (s_gf (q := 42) (v := .ref r1) dX6_init_39 rfl fX6_14.l (hs_eq) (by decide) ((up_ne (by decide)).trans (e1))) ?_
  refine J.tr (s_pf (q := 45) dX6_init_42 rfl fX6_33 (hs_eq) (by decide) (fun _ => ⟨rfl, rfl⟩)) ?_
  refine J.tr (s_aload_n (q := 46) dX6_init_45 rfl rfl) ?_
  refine J.tr (s_aload_n (q := 47) dX6_init_46 rfl rfl) ?_
  refine J.tr (s_pff (q := 50) dX6_init_47 rfl fX6_36 rfl (hs_eq) (by decide) (fun _ => ⟨rfl, rfl⟩)) ?_
  refine J.tr (s_aload_n (q := 51) dX6_init_50 rfl rfl) ?_
  refine J.tr (s_gf (q := 54) (v := .ref r1) dX6_init_51 rfl fX6_14.l (hs_eq) (by decide) ((up_ne (by decide)).trans ((up_ne (by decide)).trans ((up_ne (by decide)).trans (e1))))) ?_
  refine J.tr (s_iconst (q := 55) (v := 5) dX6_init_54 rfl (by decide)) ?_
  refine J.tr (s_ls (ls' := [(0, .ref o), (1, .ref b)]) [0, 1] rfl) ?_
  exact J.rf

set_option maxRecDepth 20000 in
theorem j_X6_init_g_1 {d : Nat} (hd : 0 ≤ d) (h : AH) (o : Nat) (b : Nat) : E false mX6_init d 58 [(0, .ref o), (1, .ref b)] [] h (none) h := by
  exact E.v dX6_init_58 rfl rfl rfl

set_option maxRecDepth 20000 in
theorem j_X3_init_a_1 {d : Nat} (hd : 1 ≤ d) (h : AH) (o : Nat) (b : Nat) : J false mX3_init d 0 [(0, .ref o), (1, .ref b)] [] h 5 [(0, .ref o), (1, .ref b)] [.ref o] h := by
  refine J.tr (s_aload_n (q := 1) dX3_init_0 rfl rfl) ?_
  refine J.tr (s_obj (q := 4) dX3_init_1 rfl oX3_3 oi_gw (by omega) (Nat.le_of_ble_eq_true rfl)) ?_
  refine J.tr (s_aload_n (q := 5) dX3_init_4 rfl rfl) ?_
  refine J.tr (s_ls (ls' := [(0, .ref o), (1, .ref b)]) [0, 1] rfl) ?_
  exact J.rf

set_option maxRecDepth 20000 in
theorem j_X3_init_b_1 {d : Nat} (hd : 0 ≤ d) (h : AH) (o : Nat) (b : Nat) (x : Nat) : J false mX3_init d 8 [(0, .ref o), (1, .ref b)] [.ref x, .ref o] h 9 [(0, .ref o), (1, .ref b)] [.ref x, .ref x, .ref o] h := by
  refine J.tr (s_dup (q := 9) dX3_init_8 rfl rfl) ?_
  refine J.tr (s_ls (ls' := [(0, .ref o), (1, .ref b)]) [0, 1] rfl) ?_
  exact J.rf

set_option maxRecDepth 20000 in
theorem j_X3_init_c_1 {d : Nat} (hd : 0 ≤ d) (h : AH) (o : Nat) (b : Nat) (x : Nat) (F : Nat → Value) (ho : h.1 o = ob 3 (fo 15 F)) : J false mX3_init d 12 [(0, .ref o), (1, .ref b)] [.ref x, .ref o] h 16 [(0, .ref o), (1, .ref b)] [.ref o] (hs h o (ob 3 (fo 15 (va_up F 1 (.ref x))))) := by
  refine J.tr (s_pff (q := 15) dX3_init_12 rfl fX3_12 rfl (ho) (by decide) (fun _ => ⟨rfl, rfl⟩)) ?_
  refine J.tr (s_aload_n (q := 16) dX3_init_15 rfl rfl) ?_
  refine J.tr (s_ls (ls' := [(0, .ref o), (1, .ref b)]) [0, 1] rfl) ?_
  exact J.rf

set_option maxRecDepth 20000 in
theorem j_X3_init_e_1 {d : Nat} (hd : 0 ≤ d) (h : AH) (o : Nat) (b : Nat) (x : Nat) : J false mX3_init d 19 [(0, .ref o), (1, .ref b)] [.ref x, .ref o] h 20 [(0, .ref o), (1, .ref b)] [.ref x, .ref x, .ref o] h := by
  refine J.tr (s_dup (q := 20) dX3_init_19 rfl rfl) ?_
  refine J.tr (s_ls (ls' := [(0, .ref o), (1, .ref b)]) [0, 1] rfl) ?_
  exact J.rf

set_option maxRecDepth 20000 in
theorem j_X3_init_f_1 {d : Nat} (hd : 0 ≤ d) (h : AH) (o : Nat) (b : Nat) (x : Nat) (F : Nat → Value) (ho : h.1 o = ob 3 (fo 15 F)) : J false mX3_init d 23 [(0, .ref o), (1, .ref b)] [.ref x, .ref o] h 27 [(0, .ref o), (1, .ref b)] [.ref o] (hs h o (ob 3 (fo 15 (va_up F 2 (.ref x))))) := by
  refine J.tr (s_pff (q := 26) dX3_init_23 rfl fX3_21 rfl (ho) (by decide) (fun _ => ⟨rfl, rfl⟩)) ?_
  refine J.tr (s_aload_n (q := 27) dX3_init_26 rfl rfl) ?_
  refine J.tr (s_ls (ls' := [(0, .ref o), (1, .ref b)]) [0, 1] rfl) ?_
  exact J.rf

set_option maxRecDepth 20000 in
theorem j_X3_init_g_1 {d : Nat} (hd : 0 ≤ d) (h : AH) (o : Nat) (b : Nat) (x : Nat) : J false mX3_init d 30 [(0, .ref o), (1, .ref b)] [.ref x, .ref o] h 31 [(0, .ref o), (1, .ref b)] [.ref x, .ref x, .ref o] h := by
  refine J.tr (s_dup (q := 31) dX3_init_30 rfl rfl) ?_
  refine J.tr (s_ls (ls' := [(0, .ref o), (1, .ref b)]) [0, 1] rfl) ?_
  exact J.rf

set_option maxRecDepth 20000 in
theorem j_X3_init_i_1 {d : Nat} (hd : 0 ≤ d) (h : AH) (o : Nat) (b : Nat) (x : Nat) (F : Nat → Value) (ho : h.1 o = ob 3 (fo 15 F)) : J false mX3_init d 34 [(0, .ref o), (1, .ref b)] [.ref x, .ref o] h 43 [(0, .ref o), (1, .ref b)] [.ref o] (hs (hs h o (ob 3 (fo 15 (va_up F 3 (.ref x))))) o (ob 3 (fo 15 (va_up (va_up F 3 (.ref x)) 8 (.int 1))))) := by
  refine J.tr (s_pff (q := 37) dX3_init_34 rfl fX3_25 rfl (ho) (by decide) (fun _ => ⟨rfl, rfl⟩)) ?_
  refine J.tr (s_aload_n (q := 38) dX3_init_37 rfl rfl) ?_
  refine J.tr (s_iconst (q := 39) (v := 1) dX3_init_38 rfl (by decide)) ?_
  refine J.tr (s_pf (q := 42) dX3_init_39 rfl fX3_28 (hs_eq) (by decide) (fun _ => ⟨rfl, rfl⟩)) ?_
  refine J.tr (s_aload_n (q := 43) dX3_init_42 rfl rfl) ?_
  refine J.tr (s_ls (ls' := [(0, .ref o), (1, .ref b)]) [0, 1] rfl) ?_
  exact J.rf

set_option maxRecDepth 20000 in
theorem j_X3_init_j_1 {d : Nat} (hd : 0 ≤ d) (h : AH) (o : Nat) (b : Nat) (x : Nat) : J false mX3_init d 46 [(0, .ref o), (1, .ref b)] [.ref x, .ref o] h 48 [(0, .ref o), (1, .ref b)] [.ref b, .ref x, .ref x, .ref o] h := by
  refine J.tr (s_dup (q := 47) dX3_init_46 rfl rfl) ?_
  refine J.tr (s_aload_n (q := 48) dX3_init_47 rfl rfl) ?_
  refine J.tr (s_ls (ls' := [(0, .ref o), (1, .ref b)]) [0, 1] rfl) ?_
  exact J.rf

set_option maxRecDepth 20000 in
theorem j_X3_init_k_1 {d : Nat} (hd : 0 ≤ d) (h : AH) (o : Nat) (b : Nat) (x : Nat) (F : Nat → Value) (ho : h.1 o = ob 3 (fo 15 F)) : E false mX3_init d 51 [(0, .ref o), (1, .ref b)] [.ref x, .ref o] h (none) (hs h o (ob 3 (fo 15 (va_up F 0 (.ref x))))) := by
  refine E.st (s_pff (q := 54) dX3_init_51 rfl fX3_37 rfl (ho) (by decide) (fun _ => ⟨rfl, rfl⟩)) ?_
  exact E.v dX3_init_54 rfl rfl rfl

set_option maxRecDepth 20000 in
theorem j_X7_init_a_1 {d : Nat} (hd : 1 ≤ d) (h : AH) (o : Nat) : J false mX7_init d 0 [(0, .ref o)] [] h 4 [(0, .ref o)] [] h := by
  refine J.tr (s_aload_n (q := 1) dX7_init_0 rfl rfl) ?_
  refine J.tr (s_obj (q := 4) dX7_init_1 rfl oX7_1 oi_gw (by omega) (Nat.le_of_ble_eq_true rfl)) ?_
  exact J.rf

set_option maxRecDepth 20000 in
theorem j_X7_init_b_1 {d : Nat} (hd : 0 ≤ d) (h : AH) (o : Nat) (x : Nat) : J false mX7_init d 7 [(0, .ref o)] [.ref x] h 8 [(0, .ref o)] [.ref x, .ref x] h := by
  refine J.tr (s_dup (q := 8) dX7_init_7 rfl rfl) ?_
  exact J.rf

set_option maxRecDepth 20000 in
theorem j_X7_init_c_1 {d : Nat} (hd : 0 ≤ d) (h : AH) (o : Nat) (x : Nat) (F : Nat → Value) (ho : h.1 o = ob 7 (fo 2 F)) : J false mX7_init d 11 [(0, .ref o)] [.ref x] h 18 [(0, .ref o), (1, .ref x)] [.ref o] (hs h o (ob 7 (fo 2 (va_up F 0 (.ref x))))) := by
  refine J.tr (s_astore_n (q := 12) (ls' := [(1, .ref x), (0, .ref o)]) dX7_init_11 rfl (by decide) rfl) ?_
  refine J.tr (s_aload_n (q := 13) dX7_init_12 rfl rfl) ?_
  refine J.tr (s_aload_n (q := 14) dX7_init_13 rfl rfl) ?_
  refine J.tr (s_pff (q := 17) dX7_init_14 rfl fX7_10 rfl (ho) (by decide) (fun _ => ⟨rfl, rfl⟩)) ?_
  refine J.tr (s_aload_n (q := 18) dX7_init_17 rfl rfl) ?_
  refine J.tr (s_ls (ls' := [(0, .ref o), (1, .ref x)]) [1, 0] rfl) ?_
  exact J.rf

set_option maxRecDepth 20000 in
theorem j_X7_init_e_1 {d : Nat} (hd : 0 ≤ d) (h : AH) (o : Nat) (y : Nat) (x : Nat) : J false mX7_init d 21 [(0, .ref o), (1, .ref y)] [.ref x, .ref o] h 23 [(0, .ref o), (1, .ref y)] [.ref y, .ref x, .ref x, .ref o] h := by
  refine J.tr (s_dup (q := 22) dX7_init_21 rfl rfl) ?_
  refine J.tr (s_aload_n (q := 23) dX7_init_22 rfl rfl) ?_
  refine J.tr (s_ls (ls' := [(0, .ref o), (1, .ref y)]) [0, 1] rfl) ?_
  exact J.rf

set_option maxRecDepth 20000 in
theorem j_X7_init_f_1 {d : Nat} (hd : 0 ≤ d) (h : AH) (o : Nat) (y : Nat) (x : Nat) (F : Nat → Value) (ho : h.1 o = ob 7 (fo 2 F)) : E false mX7_init d 26 [(0, .ref o), (1, .ref y)] [.ref x, .ref o] h (none) (hs h o (ob 7 (fo 2 (va_up F 1 (.ref x))))) := by
  refine E.st (s_pff (q := 29) dX7_init_26 rfl fX7_21 rfl (ho) (by decide) (fun _ => ⟨rfl, rfl⟩)) ?_
  exact E.v dX7_init_29 rfl rfl rfl

set_option maxRecDepth 20000 in
theorem j_L_law_p_1 {d : Nat} (hd : 0 ≤ d) (h : AH) (x : Nat) : J true mL_law d 3 [(0, .ref 0)] [.ref x] h 4 [(0, .ref 0)] [.ref x, .ref x] h := by
  refine J.tr (s_dup (q := 4) dL_law_3 rfl rfl) ?_
  exact J.rf

set_option maxRecDepth 20000 in
theorem j_L_law_q_1 {d : Nat} (hd : 0 ≤ d) (h : AH) (x : Nat) : J true mL_law d 7 [(0, .ref 0)] [.ref x] h 8 [(0, .ref 0), (1, .ref x)] [] h := by
  refine J.tr (s_astore_n (q := 8) (ls' := [(1, .ref x), (0, .ref 0)]) dL_law_7 rfl (by decide) rfl) ?_
  refine J.tr (s_ls (ls' := [(0, .ref 0), (1, .ref x)]) [1, 0] rfl) ?_
  exact J.rf

set_option maxRecDepth 20000 in
theorem j_L_law_r_1 {d : Nat} (hd : 0 ≤ d) (h : AH) (x : Nat) : J true mL_law d 11 [(0, .ref 0), (1, .ref 1)] [.ref x] h 12 [(0, .ref 0), (1, .ref 1)] [.ref x, .ref x] h := by
  refine J.tr (s_dup (q := 12) dL_law_11 rfl rfl) ?_
  exact J.rf

set_option maxRecDepth 20000 in
theorem j_L_law_s_1 {d : Nat} (hd : 0 ≤ d) (h : AH) (x : Nat) : J true mL_law d 15 [(0, .ref 0), (1, .ref 1)] [.ref x] h 23 [(0, .ref 0), (1, .ref 1), (2, .ref x), (3, .ref (h.2.1 + 1)), (4, .int 0)] [] (hw h (la 1 (fun _ => 0)) 1) := by
  refine J.tr (s_astore_n (q := 16) (ls' := [(2, .ref x), (0, .ref 0), (1, .ref 1)]) dL_law_15 rfl (by decide) rfl) ?_
  refine J.tr (s_iconst (q := 17) (v := 1) dL_law_16 rfl (by decide)) ?_
  refine J.tr (s_newL (q := 19) (N := 1) dL_law_17 rfl (by decide) (by decide) (by decide)) ?_
  refine J.tr (s_astore_n (q := 20) (ls' := [(3, .ref (h.2.1 + 1)), (2, .ref x), (0, .ref 0), (1, .ref 1)]) dL_law_19 rfl (by decide) rfl) ?_
  refine J.tr (s_iconst (q := 21) (v := 0) dL_law_20 rfl (by decide)) ?_
  refine J.tr (s_istore (q := 23) (ls' := [(4, .int 0), (3, .ref (h.2.1 + 1)), (2, .ref x), (0, .ref 0), (1, .ref 1)]) dL_law_21 rfl (by decide) rfl) ?_
  refine J.tr (s_ls (ls' := [(0, .ref 0), (1, .ref 1), (2, .ref x), (3, .ref (h.2.1 + 1)), (4, .int 0)]) [3, 4, 2, 1, 0] rfl) ?_
  exact J.rf
