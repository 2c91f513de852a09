/-! THE LAW'S LOOP -/
theorem WW.z {T1 T2 : NT} {S : SS} {Z : ZS} {t0 : Int32} {c s n : Nat} {xs : Nat → Int32} {h : AH} (W : WW T1 T2 S Z t0 c s n xs h) : h.1 0 = ia n xs := by
  obtain ⟨σ, κ, w, μ, F, I, La, X, f, W⟩ := W
  exact W.2.2.2.2.2.2
theorem l_0 {T : NT} {S : SS} {Z : ZS} {t0 : Int32} {C0 Z0 n : Nat} {xs : Nat → Int32} {h : AH} {d : Nat} {i : Int32} (W : WW T T S Z t0 C0 Z0 n xs h) (l : LOG T S Z) (hd : 641 ≤ d) (v1 : vp_in (i + 1) n) (v2 : vp_in (i + 2) n) : ∃ h', J true mL_law d 116 [(0, .ref 0), (1, .ref 1), (2, .ref 65), (3, .ref 94), (4, .int i)] [] h 23 [(0, .ref 0), (1, .ref 1), (2, .ref 65), (3, .ref 94), (4, .int (i + 4))] [] h' ∧ NXT C0 Z0 n xs h' := by
  have z0 := W.z
  obtain ⟨r, h1, h2, C, q, ⟨y1, y2, ⟨F1, p1⟩, nx⟩, X1, p0⟩ := o_number W l (d := d - 1) (by omega) ((((xs (i + 1).toNatClampNeg).toInt64) <<< ((32 : Int32).toInt64 &&& 63)) ||| (((xs (i + 2).toNatClampNeg).toInt64) &&& 4294967295))
  have A := j_L_law_a0_1 (d := d) (Nat.zero_le _) h i n xs z0 v1 v2
  have B := j_L_law_b0_1 (d := d) (Nat.zero_le _) h1 i r n xs y1 v1 v2
  have CA : J true mL_law d 139 [(0, .ref 0), (1, .ref 1), (2, .ref 65), (3, .ref 94), (4, .int i)] [.long ((((xs (i + 1).toNatClampNeg).toInt64) <<< ((32 : Int32).toInt64 &&& 63)) ||| (((xs (i + 2).toNatClampNeg).toInt64) &&& 4294967295)), .ref 1] h 142 [(0, .ref 0), (1, .ref 1), (2, .ref 65), (3, .ref 94), (4, .int i)] [.int r] h1 := s_invv (K := mX7_number) (o := 1) (as := [.long ((((xs (i + 1).toNatClampNeg).toInt64) <<< ((32 : Int32).toInt64 &&& 63)) ||| (((xs (i + 2).toNatClampNeg).toInt64) &&& 4294967295))]) (rest := []) (v := some (.int r)) (d' := d - 1) dL_law_139 rfl lL_60 (by omega) rfl (Nat.le_of_ble_eq_true rfl) rfl (Nat.le_of_ble_eq_true rfl) p0 C (fun _ => y1.trans z0.symm)
  have CB : J true mL_law d 165 [(0, .ref 0), (1, .ref 1), (2, .ref 65), (3, .ref 94), (4, .int i)] [.long ((((xs (i + 1).toNatClampNeg).toInt64) <<< ((32 : Int32).toInt64 &&& 63)) ||| (((xs (i + 2).toNatClampNeg).toInt64) &&& 4294967295)), .ref 65, .int r] h1 168 [(0, .ref 0), (1, .ref 1), (2, .ref 65), (3, .ref 94), (4, .int i)] [.int r, .int r] h2 := s_invv (K := mX8_number) (o := 65) (as := [.long ((((xs (i + 1).toNatClampNeg).toInt64) <<< ((32 : Int32).toInt64 &&& 63)) ||| (((xs (i + 2).toNatClampNeg).toInt64) &&& 4294967295))]) (rest := [.int r]) (v := some (.int r)) (d' := d - 1) dL_law_165 rfl lL_64 (by omega) rfl (Nat.le_of_ble_eq_true rfl) rfl (Nat.le_of_ble_eq_true rfl) p1 q (fun _ => y2.trans y1.symm)
  exact ⟨h2, J.tr A (J.tr CA (J.tr B (J.tr CB (j_L_law_c0_1 (Nat.zero_le _) h2 i r r rfl)))), nx⟩
theorem l_1 {T : NT} {S : SS} {Z : ZS} {t0 : Int32} {C0 Z0 n : Nat} {xs : Nat → Int32} {h : AH} {d : Nat} {i : Int32} (W : WW T T S Z t0 C0 Z0 n xs h) (l : LOG T S Z) (hd : 641 ≤ d) (v1 : vp_in (i + 1) n) (v2 : vp_in (i + 2) n)  : ∃ h', J true mL_law d 173 [(0, .ref 0), (1, .ref 1), (2, .ref 65), (3, .ref 94), (4, .int i)] [] h 23 [(0, .ref 0), (1, .ref 1), (2, .ref 65), (3, .ref 94), (4, .int (i + 4))] [] h' ∧ NXT C0 Z0 n xs h' := by
  have z0 := W.z
  obtain ⟨k, h1, r, h2, C, q, ⟨y1, y2⟩, ⟨F1, p1⟩, ⟨F2, p2, p3⟩, p4, nx⟩ := o_choice W l (d := d - 1) (by omega) (xs (i + 1).toNatClampNeg) (xs (i + 2).toNatClampNeg)
  have A := j_L_law_a1_1 (d := d) (Nat.zero_le _) h i n xs z0 v1 v2 
  have B := j_L_law_b1_1 (d := d) (Nat.zero_le _) h1 i k n xs y1 v1 v2 
  have CA : J true mL_law d 187 [(0, .ref 0), (1, .ref 1), (2, .ref 65), (3, .ref 94), (4, .int i)] [.ref 94, .int (xs (i + 2).toNatClampNeg), .int (xs (i + 1).toNatClampNeg), .ref 1] h 190 [(0, .ref 0), (1, .ref 1), (2, .ref 65), (3, .ref 94), (4, .int i)] [.int k] h1 := s_invsH (K := mL_choice) (as := [.ref 1, .int (xs (i + 1).toNatClampNeg), .int (xs (i + 2).toNatClampNeg), .ref 94]) (rest := []) (v := some (.int k)) (d' := d - 1) dL_law_187 rfl hL_choice (by omega) rfl (Nat.le_of_ble_eq_true rfl) rfl (Nat.le_of_ble_eq_true rfl) C (fun _ => y1.trans z0.symm)
  have CB : J true mL_law d 205 [(0, .ref 0), (1, .ref 1), (2, .ref 65), (3, .ref 94), (4, .int i), (5, .int k)] [.int (xs (i + 2).toNatClampNeg), .int (xs (i + 1).toNatClampNeg), .ref 65] h1 208 [(0, .ref 0), (1, .ref 1), (2, .ref 65), (3, .ref 94), (4, .int i), (5, .int k)] [.int r] h2 := s_invv (K := mX8_choice) (o := 65) (as := [.int (xs (i + 1).toNatClampNeg), .int (xs (i + 2).toNatClampNeg)]) (rest := []) (v := some (.int r)) (d' := d - 1) dL_law_205 rfl lL_70 (by omega) rfl (Nat.le_of_ble_eq_true rfl) rfl (Nat.le_of_ble_eq_true rfl) p1 q (fun _ => y2.trans y1.symm)
  have CC : J true mL_law d 208 [(0, .ref 0), (1, .ref 1), (2, .ref 65), (3, .ref 94), (4, .int i), (5, .int k)] [.int r] h2 23 [(0, .ref 0), (1, .ref 1), (2, .ref 65), (3, .ref 94), (4, .int (i + 4))] [] h2 := by
    by_cases e : k = 0
    · obtain ⟨f, f1, f2⟩ := p4 e
      exact j_L_law_c1_2 (by omega) h2 i k r F2 p2 _ p3 rfl e 1 f f1 in0_1 f2
    · exact j_L_law_c1_1 (by omega) h2 i k r F2 p2 _ p3 rfl e
  exact ⟨h2, J.tr A (J.tr CA (J.tr B (J.tr CB CC))), nx⟩
theorem l_2 {T : NT} {S : SS} {Z : ZS} {t0 : Int32} {C0 Z0 n : Nat} {xs : Nat → Int32} {h : AH} {d : Nat} {i : Int32} (W : WW T T S Z t0 C0 Z0 n xs h) (l : LOG T S Z) (hd : 641 ≤ d)  : ∃ h', J true mL_law d 241 [(0, .ref 0), (1, .ref 1), (2, .ref 65), (3, .ref 94), (4, .int i)] [] h 23 [(0, .ref 0), (1, .ref 1), (2, .ref 65), (3, .ref 94), (4, .int (i + 4))] [] h' ∧ NXT C0 Z0 n xs h' := by
  have z0 := W.z
  obtain ⟨r, h1, h2, C, q, ⟨y1, y2, ⟨F1, p1⟩, nx⟩, X1, p0⟩ := o_fail W l (d := d - 1) (by omega) 
  have A := j_L_law_a2_1 (d := d) (Nat.zero_le _) h i
  have B := j_L_law_b2_1 (d := d) (Nat.zero_le _) h1 i r
  have CA : J true mL_law d 242 [(0, .ref 0), (1, .ref 1), (2, .ref 65), (3, .ref 94), (4, .int i)] [.ref 1] h 245 [(0, .ref 0), (1, .ref 1), (2, .ref 65), (3, .ref 94), (4, .int i)] [.int r] h1 := s_invv (K := mX7_fail) (o := 1) (as := []) (rest := []) (v := some (.int r)) (d' := d - 1) dL_law_242 rfl lL_74 (by omega) rfl (Nat.le_of_ble_eq_true rfl) rfl (Nat.le_of_ble_eq_true rfl) p0 C (fun _ => y1.trans z0.symm)
  have CB : J true mL_law d 246 [(0, .ref 0), (1, .ref 1), (2, .ref 65), (3, .ref 94), (4, .int i)] [.ref 65, .int r] h1 249 [(0, .ref 0), (1, .ref 1), (2, .ref 65), (3, .ref 94), (4, .int i)] [.int r, .int r] h2 := s_invv (K := mX8_fail) (o := 65) (as := []) (rest := [.int r]) (v := some (.int r)) (d' := d - 1) dL_law_246 rfl lL_77 (by omega) rfl (Nat.le_of_ble_eq_true rfl) rfl (Nat.le_of_ble_eq_true rfl) p1 q (fun _ => y2.trans y1.symm)
  exact ⟨h2, J.tr A (J.tr CA (J.tr B (J.tr CB (j_L_law_c2_1 (Nat.zero_le _) h2 i r r rfl)))), nx⟩
theorem l_3 {T : NT} {S : SS} {Z : ZS} {t0 : Int32} {C0 Z0 n : Nat} {xs : Nat → Int32} {h : AH} {d : Nat} {i : Int32} (W : WW T T S Z t0 C0 Z0 n xs h) (l : LOG T S Z) (hd : 641 ≤ d) (v1 : vp_in (i + 1) n) (v2 : vp_in (i + 2) n)  : ∃ h', J true mL_law d 254 [(0, .ref 0), (1, .ref 1), (2, .ref 65), (3, .ref 94), (4, .int i)] [] h 23 [(0, .ref 0), (1, .ref 1), (2, .ref 65), (3, .ref 94), (4, .int (i + 4))] [] h' ∧ NXT C0 Z0 n xs h' := by
  have z0 := W.z
  obtain ⟨k, h1, r, h2, C, q, ⟨y1, y2⟩, ⟨F1, p1⟩, ⟨F2, p2, p3⟩, p4, nx⟩ := o_pair W l (d := d - 1) (by omega) (xs (i + 1).toNatClampNeg) (xs (i + 2).toNatClampNeg)
  have A := j_L_law_a3_1 (d := d) (Nat.zero_le _) h i n xs z0 v1 v2 
  have B := j_L_law_b3_1 (d := d) (Nat.zero_le _) h1 i k n xs y1 v1 v2 
  have CA : J true mL_law d 268 [(0, .ref 0), (1, .ref 1), (2, .ref 65), (3, .ref 94), (4, .int i)] [.ref 94, .int (xs (i + 2).toNatClampNeg), .int (xs (i + 1).toNatClampNeg), .ref 1] h 271 [(0, .ref 0), (1, .ref 1), (2, .ref 65), (3, .ref 94), (4, .int i)] [.int k] h1 := s_invsH (K := mL_pair) (as := [.ref 1, .int (xs (i + 1).toNatClampNeg), .int (xs (i + 2).toNatClampNeg), .ref 94]) (rest := []) (v := some (.int k)) (d' := d - 1) dL_law_268 rfl hL_pair (by omega) rfl (Nat.le_of_ble_eq_true rfl) rfl (Nat.le_of_ble_eq_true rfl) C (fun _ => y1.trans z0.symm)
  have CB : J true mL_law d 286 [(0, .ref 0), (1, .ref 1), (2, .ref 65), (3, .ref 94), (4, .int i), (5, .int k)] [.int (xs (i + 2).toNatClampNeg), .int (xs (i + 1).toNatClampNeg), .ref 65] h1 289 [(0, .ref 0), (1, .ref 1), (2, .ref 65), (3, .ref 94), (4, .int i), (5, .int k)] [.int r] h2 := s_invv (K := mX8_pair) (o := 65) (as := [.int (xs (i + 1).toNatClampNeg), .int (xs (i + 2).toNatClampNeg)]) (rest := []) (v := some (.int r)) (d' := d - 1) dL_law_286 rfl lL_80 (by omega) rfl (Nat.le_of_ble_eq_true rfl) rfl (Nat.le_of_ble_eq_true rfl) p1 q (fun _ => y2.trans y1.symm)
  have CC : J true mL_law d 289 [(0, .ref 0), (1, .ref 1), (2, .ref 65), (3, .ref 94), (4, .int i), (5, .int k)] [.int r] h2 23 [(0, .ref 0), (1, .ref 1), (2, .ref 65), (3, .ref 94), (4, .int (i + 4))] [] h2 := by
    by_cases e : k = 0
    · obtain ⟨f, f1, f2⟩ := p4 e
      exact j_L_law_c3_2 (by omega) h2 i k r F2 p2 _ p3 rfl e 1 f f1 in0_1 f2
    · exact j_L_law_c3_1 (by omega) h2 i k r F2 p2 _ p3 rfl e
  exact ⟨h2, J.tr A (J.tr CA (J.tr B (J.tr CB CC))), nx⟩
theorem l_4_1 {T : NT} {S : SS} {Z : ZS} {t0 : Int32} {C0 Z0 n : Nat} {xs : Nat → Int32} {h : AH} {d : Nat} {i : Int32} (W : WW T T S Z t0 C0 Z0 n xs h) (l : LOG T S Z) (hd : 641 ≤ d) (v1 : vp_in (i + 1) n) (v2 : vp_in (i + 2) n) (hz : xs (i + 2).toNatClampNeg = 0) : ∃ h', J true mL_law d 322 [(0, .ref 0), (1, .ref 1), (2, .ref 65), (3, .ref 94), (4, .int i)] [] h 23 [(0, .ref 0), (1, .ref 1), (2, .ref 65), (3, .ref 94), (4, .int (i + 4))] [] h' ∧ NXT C0 Z0 n xs h' := by
  have z0 := W.z
  obtain ⟨k, h1, r, h2, C, q, ⟨y1, y2⟩, ⟨F1, p1⟩, ⟨F2, p2, p3⟩, p4, nx⟩ := o_part0 W l (d := d - 1) (by omega) (xs (i + 1).toNatClampNeg)
  have A := j_L_law_a4_1 (d := d) (Nat.zero_le _) h i n xs z0 v1 v2 hz
  have B := j_L_law_b4_1 (d := d) (Nat.zero_le _) h1 i k n xs y1 v1 v2 hz
  have CA : J true mL_law d 344 [(0, .ref 0), (1, .ref 1), (2, .ref 65), (3, .ref 94), (4, .int i)] [.ref 94, .int 0, .int (xs (i + 1).toNatClampNeg), .ref 1] h 347 [(0, .ref 0), (1, .ref 1), (2, .ref 65), (3, .ref 94), (4, .int i)] [.int k] h1 := s_invsH (K := mL_part) (as := [.ref 1, .int (xs (i + 1).toNatClampNeg), .int 0, .ref 94]) (rest := []) (v := some (.int k)) (d' := d - 1) dL_law_344 rfl hL_part (by omega) rfl (Nat.le_of_ble_eq_true rfl) rfl (Nat.le_of_ble_eq_true rfl) C (fun _ => y1.trans z0.symm)
  have CB : J true mL_law d 370 [(0, .ref 0), (1, .ref 1), (2, .ref 65), (3, .ref 94), (4, .int i), (5, .int k)] [.int 0, .int (xs (i + 1).toNatClampNeg), .ref 65] h1 373 [(0, .ref 0), (1, .ref 1), (2, .ref 65), (3, .ref 94), (4, .int i), (5, .int k)] [.int r] h2 := s_invv (K := mX8_part) (o := 65) (as := [.int (xs (i + 1).toNatClampNeg), .int 0]) (rest := []) (v := some (.int r)) (d' := d - 1) dL_law_370 rfl lL_84 (by omega) rfl (Nat.le_of_ble_eq_true rfl) rfl (Nat.le_of_ble_eq_true rfl) p1 q (fun _ => y2.trans y1.symm)
  have CC : J true mL_law d 373 [(0, .ref 0), (1, .ref 1), (2, .ref 65), (3, .ref 94), (4, .int i), (5, .int k)] [.int r] h2 23 [(0, .ref 0), (1, .ref 1), (2, .ref 65), (3, .ref 94), (4, .int (i + 4))] [] h2 := by
    by_cases e : k = 0
    · obtain ⟨f, f1, f2⟩ := p4 e
      exact j_L_law_c4_2 (by omega) h2 i k r F2 p2 _ p3 rfl e 1 f f1 in0_1 f2
    · exact j_L_law_c4_1 (by omega) h2 i k r F2 p2 _ p3 rfl e
  exact ⟨h2, J.tr A (J.tr CA (J.tr B (J.tr CB CC))), nx⟩
theorem l_4_2 {T : NT} {S : SS} {Z : ZS} {t0 : Int32} {C0 Z0 n : Nat} {xs : Nat → Int32} {h : AH} {d : Nat} {i : Int32} (W : WW T T S Z t0 C0 Z0 n xs h) (l : LOG T S Z) (hd : 641 ≤ d) (v1 : vp_in (i + 1) n) (v2 : vp_in (i + 2) n) (hz : ¬ (xs (i + 2).toNatClampNeg = 0)) : ∃ h', J true mL_law d 322 [(0, .ref 0), (1, .ref 1), (2, .ref 65), (3, .ref 94), (4, .int i)] [] h 23 [(0, .ref 0), (1, .ref 1), (2, .ref 65), (3, .ref 94), (4, .int (i + 4))] [] h' ∧ NXT C0 Z0 n xs h' := by
  have z0 := W.z
  obtain ⟨k, h1, r, h2, C, q, ⟨y1, y2⟩, ⟨F1, p1⟩, ⟨F2, p2, p3⟩, p4, nx⟩ := o_part1 W l (d := d - 1) (by omega) (xs (i + 1).toNatClampNeg)
  have A := j_L_law_a4_2 (d := d) (Nat.zero_le _) h i n xs z0 v1 v2 hz
  have B := j_L_law_b4_2 (d := d) (Nat.zero_le _) h1 i k n xs y1 v1 v2 hz
  have CA : J true mL_law d 344 [(0, .ref 0), (1, .ref 1), (2, .ref 65), (3, .ref 94), (4, .int i)] [.ref 94, .int 1, .int (xs (i + 1).toNatClampNeg), .ref 1] h 347 [(0, .ref 0), (1, .ref 1), (2, .ref 65), (3, .ref 94), (4, .int i)] [.int k] h1 := s_invsH (K := mL_part) (as := [.ref 1, .int (xs (i + 1).toNatClampNeg), .int 1, .ref 94]) (rest := []) (v := some (.int k)) (d' := d - 1) dL_law_344 rfl hL_part (by omega) rfl (Nat.le_of_ble_eq_true rfl) rfl (Nat.le_of_ble_eq_true rfl) C (fun _ => y1.trans z0.symm)
  have CB : J true mL_law d 370 [(0, .ref 0), (1, .ref 1), (2, .ref 65), (3, .ref 94), (4, .int i), (5, .int k)] [.int 1, .int (xs (i + 1).toNatClampNeg), .ref 65] h1 373 [(0, .ref 0), (1, .ref 1), (2, .ref 65), (3, .ref 94), (4, .int i), (5, .int k)] [.int r] h2 := s_invv (K := mX8_part) (o := 65) (as := [.int (xs (i + 1).toNatClampNeg), .int 1]) (rest := []) (v := some (.int r)) (d' := d - 1) dL_law_370 rfl lL_84 (by omega) rfl (Nat.le_of_ble_eq_true rfl) rfl (Nat.le_of_ble_eq_true rfl) p1 q (fun _ => y2.trans y1.symm)
  have CC : J true mL_law d 373 [(0, .ref 0), (1, .ref 1), (2, .ref 65), (3, .ref 94), (4, .int i), (5, .int k)] [.int r] h2 23 [(0, .ref 0), (1, .ref 1), (2, .ref 65), (3, .ref 94), (4, .int (i + 4))] [] h2 := by
    by_cases e : k = 0
    · obtain ⟨f, f1, f2⟩ := p4 e
      exact j_L_law_c4_2 (by omega) h2 i k r F2 p2 _ p3 rfl e 1 f f1 in0_1 f2
    · exact j_L_law_c4_1 (by omega) h2 i k r F2 p2 _ p3 rfl e
  exact ⟨h2, J.tr A (J.tr CA (J.tr B (J.tr CB CC))), nx⟩
theorem l_5 {T : NT} {S : SS} {Z : ZS} {t0 : Int32} {C0 Z0 n : Nat} {xs : Nat → Int32} {h : AH} {d : Nat} {i : Int32} (W : WW T T S Z t0 C0 Z0 n xs h) (l : LOG T S Z) (hd : 641 ≤ d) (v1 : vp_in (i + 1) n) (v2 : vp_in (i + 2) n) (v3 : vp_in (i + 3) n)  : ∃ h', J true mL_law d 406 [(0, .ref 0), (1, .ref 1), (2, .ref 65), (3, .ref 94), (4, .int i)] [] h 23 [(0, .ref 0), (1, .ref 1), (2, .ref 65), (3, .ref 94), (4, .int (i + 4))] [] h' ∧ NXT C0 Z0 n xs h' := by
  have z0 := W.z
  obtain ⟨k, h1, r, h2, C, q, ⟨y1, y2⟩, ⟨F1, p1⟩, ⟨F2, p2, p3⟩, p4, nx⟩ := o_op W l (d := d - 1) (by omega) (xs (i + 1).toNatClampNeg) (xs (i + 2).toNatClampNeg) (xs (i + 3).toNatClampNeg)
  have A := j_L_law_a5_1 (d := d) (Nat.zero_le _) h i n xs z0 v1 v2 v3 
  have B := j_L_law_b5_1 (d := d) (Nat.zero_le _) h1 i k n xs y1 v1 v2 v3 
  have CA : J true mL_law d 426 [(0, .ref 0), (1, .ref 1), (2, .ref 65), (3, .ref 94), (4, .int i)] [.ref 94, .int (xs (i + 3).toNatClampNeg), .int (xs (i + 2).toNatClampNeg), .int (xs (i + 1).toNatClampNeg), .ref 1] h 429 [(0, .ref 0), (1, .ref 1), (2, .ref 65), (3, .ref 94), (4, .int i)] [.int k] h1 := s_invsH (K := mL_op) (as := [.ref 1, .int (xs (i + 1).toNatClampNeg), .int (xs (i + 2).toNatClampNeg), .int (xs (i + 3).toNatClampNeg), .ref 94]) (rest := []) (v := some (.int k)) (d' := d - 1) dL_law_426 rfl hL_op (by omega) rfl (Nat.le_of_ble_eq_true rfl) rfl (Nat.le_of_ble_eq_true rfl) C (fun _ => y1.trans z0.symm)
  have CB : J true mL_law d 450 [(0, .ref 0), (1, .ref 1), (2, .ref 65), (3, .ref 94), (4, .int i), (5, .int k)] [.int (xs (i + 3).toNatClampNeg), .int (xs (i + 2).toNatClampNeg), .int (xs (i + 1).toNatClampNeg), .ref 65] h1 453 [(0, .ref 0), (1, .ref 1), (2, .ref 65), (3, .ref 94), (4, .int i), (5, .int k)] [.int r] h2 := s_invv (K := mX8_op) (o := 65) (as := [.int (xs (i + 1).toNatClampNeg), .int (xs (i + 2).toNatClampNeg), .int (xs (i + 3).toNatClampNeg)]) (rest := []) (v := some (.int r)) (d' := d - 1) dL_law_450 rfl lL_88 (by omega) rfl (Nat.le_of_ble_eq_true rfl) rfl (Nat.le_of_ble_eq_true rfl) p1 q (fun _ => y2.trans y1.symm)
  have CC : J true mL_law d 453 [(0, .ref 0), (1, .ref 1), (2, .ref 65), (3, .ref 94), (4, .int i), (5, .int k)] [.int r] h2 23 [(0, .ref 0), (1, .ref 1), (2, .ref 65), (3, .ref 94), (4, .int (i + 4))] [] h2 := by
    by_cases e : k = 0
    · obtain ⟨f, f1, f2⟩ := p4 e
      exact j_L_law_c5_2 (by omega) h2 i k r F2 p2 _ p3 rfl e 1 f f1 in0_1 f2
    · exact j_L_law_c5_1 (by omega) h2 i k r F2 p2 _ p3 rfl e
  exact ⟨h2, J.tr A (J.tr CA (J.tr B (J.tr CB CC))), nx⟩
theorem l_6 {T : NT} {S : SS} {Z : ZS} {t0 : Int32} {C0 Z0 n : Nat} {xs : Nat → Int32} {h : AH} {d : Nat} {i : Int32} (W : WW T T S Z t0 C0 Z0 n xs h) (l : LOG T S Z) (hd : 641 ≤ d) (v1 : vp_in (i + 1) n) (v2 : vp_in (i + 2) n) (v3 : vp_in (i + 3) n)  : ∃ h', J true mL_law d 486 [(0, .ref 0), (1, .ref 1), (2, .ref 65), (3, .ref 94), (4, .int i)] [] h 23 [(0, .ref 0), (1, .ref 1), (2, .ref 65), (3, .ref 94), (4, .int (i + 4))] [] h' ∧ NXT C0 Z0 n xs h' := by
  have z0 := W.z
  obtain ⟨k, h1, r, h2, C, q, ⟨y1, y2⟩, ⟨F1, p1⟩, ⟨F2, p2, p3⟩, p4, nx⟩ := o_when W l (d := d - 1) (by omega) (xs (i + 1).toNatClampNeg) (xs (i + 2).toNatClampNeg) (xs (i + 3).toNatClampNeg)
  have A := j_L_law_a6_1 (d := d) (Nat.zero_le _) h i n xs z0 v1 v2 v3 
  have B := j_L_law_b6_1 (d := d) (Nat.zero_le _) h1 i k n xs y1 v1 v2 v3 
  have CA : J true mL_law d 506 [(0, .ref 0), (1, .ref 1), (2, .ref 65), (3, .ref 94), (4, .int i)] [.ref 94, .int (xs (i + 3).toNatClampNeg), .int (xs (i + 2).toNatClampNeg), .int (xs (i + 1).toNatClampNeg), .ref 1] h 509 [(0, .ref 0), (1, .ref 1), (2, .ref 65), (3, .ref 94), (4, .int i)] [.int k] h1 := s_invsH (K := mL_when) (as := [.ref 1, .int (xs (i + 1).toNatClampNeg), .int (xs (i + 2).toNatClampNeg), .int (xs (i + 3).toNatClampNeg), .ref 94]) (rest := []) (v := some (.int k)) (d' := d - 1) dL_law_506 rfl hL_when (by omega) rfl (Nat.le_of_ble_eq_true rfl) rfl (Nat.le_of_ble_eq_true rfl) C (fun _ => y1.trans z0.symm)
  have CB : J true mL_law d 530 [(0, .ref 0), (1, .ref 1), (2, .ref 65), (3, .ref 94), (4, .int i), (5, .int k)] [.int (xs (i + 3).toNatClampNeg), .int (xs (i + 2).toNatClampNeg), .int (xs (i + 1).toNatClampNeg), .ref 65] h1 533 [(0, .ref 0), (1, .ref 1), (2, .ref 65), (3, .ref 94), (4, .int i), (5, .int k)] [.int r] h2 := s_invv (K := mX8_when) (o := 65) (as := [.int (xs (i + 1).toNatClampNeg), .int (xs (i + 2).toNatClampNeg), .int (xs (i + 3).toNatClampNeg)]) (rest := []) (v := some (.int r)) (d' := d - 1) dL_law_530 rfl lL_91 (by omega) rfl (Nat.le_of_ble_eq_true rfl) rfl (Nat.le_of_ble_eq_true rfl) p1 q (fun _ => y2.trans y1.symm)
  have CC : J true mL_law d 533 [(0, .ref 0), (1, .ref 1), (2, .ref 65), (3, .ref 94), (4, .int i), (5, .int k)] [.int r] h2 23 [(0, .ref 0), (1, .ref 1), (2, .ref 65), (3, .ref 94), (4, .int (i + 4))] [] h2 := by
    by_cases e : k = 0
    · obtain ⟨f, f1, f2⟩ := p4 e
      exact j_L_law_c6_2 (by omega) h2 i k r F2 p2 _ p3 rfl e 1 f f1 in0_1 f2
    · exact j_L_law_c6_1 (by omega) h2 i k r F2 p2 _ p3 rfl e
  exact ⟨h2, J.tr A (J.tr CA (J.tr B (J.tr CB CC))), nx⟩
theorem l_7 {T : NT} {S : SS} {Z : ZS} {t0 : Int32} {C0 Z0 n : Nat} {xs : Nat → Int32} {h : AH} {d : Nat} {i : Int32} (W : WW T T S Z t0 C0 Z0 n xs h) (l : LOG T S Z) (hd : 641 ≤ d) (v1 : vp_in (i + 1) n) (v2 : vp_in (i + 2) n)  : ∃ h', J true mL_law d 566 [(0, .ref 0), (1, .ref 1), (2, .ref 65), (3, .ref 94), (4, .int i)] [] h 23 [(0, .ref 0), (1, .ref 1), (2, .ref 65), (3, .ref 94), (4, .int (i + 4))] [] h' ∧ NXT C0 Z0 n xs h' := by
  have z0 := W.z
  obtain ⟨k, h1, r, h2, C, q, ⟨y1, y2⟩, ⟨F1, p1⟩, ⟨F2, p2, p3⟩, p4, nx⟩ := o_set W l (d := d - 1) (by omega) (xs (i + 1).toNatClampNeg) (xs (i + 2).toNatClampNeg)
  have A := j_L_law_a7_1 (d := d) (Nat.zero_le _) h i n xs z0 v1 v2 
  have B := j_L_law_b7_1 (d := d) (Nat.zero_le _) h1 i k n xs y1 v1 v2 
  have CA : J true mL_law d 580 [(0, .ref 0), (1, .ref 1), (2, .ref 65), (3, .ref 94), (4, .int i)] [.ref 94, .int (xs (i + 2).toNatClampNeg), .int (xs (i + 1).toNatClampNeg), .ref 1] h 583 [(0, .ref 0), (1, .ref 1), (2, .ref 65), (3, .ref 94), (4, .int i)] [.int k] h1 := s_invsH (K := mL_set) (as := [.ref 1, .int (xs (i + 1).toNatClampNeg), .int (xs (i + 2).toNatClampNeg), .ref 94]) (rest := []) (v := some (.int k)) (d' := d - 1) dL_law_580 rfl hL_set (by omega) rfl (Nat.le_of_ble_eq_true rfl) rfl (Nat.le_of_ble_eq_true rfl) C (fun _ => y1.trans z0.symm)
  have CB : J true mL_law d 598 [(0, .ref 0), (1, .ref 1), (2, .ref 65), (3, .ref 94), (4, .int i), (5, .int k)] [.int (xs (i + 2).toNatClampNeg), .int (xs (i + 1).toNatClampNeg), .ref 65] h1 601 [(0, .ref 0), (1, .ref 1), (2, .ref 65), (3, .ref 94), (4, .int i), (5, .int k)] [.int r] h2 := s_invv (K := mX8_set) (o := 65) (as := [.int (xs (i + 1).toNatClampNeg), .int (xs (i + 2).toNatClampNeg)]) (rest := []) (v := some (.int r)) (d' := d - 1) dL_law_598 rfl lL_94 (by omega) rfl (Nat.le_of_ble_eq_true rfl) rfl (Nat.le_of_ble_eq_true rfl) p1 q (fun _ => y2.trans y1.symm)
  have CC : J true mL_law d 601 [(0, .ref 0), (1, .ref 1), (2, .ref 65), (3, .ref 94), (4, .int i), (5, .int k)] [.int r] h2 23 [(0, .ref 0), (1, .ref 1), (2, .ref 65), (3, .ref 94), (4, .int (i + 4))] [] h2 := by
    by_cases e : k = 0
    · obtain ⟨f, f1, f2⟩ := p4 e
      exact j_L_law_c7_2 (by omega) h2 i k r F2 p2 _ p3 rfl e 1 f f1 in0_1 f2
    · exact j_L_law_c7_1 (by omega) h2 i k r F2 p2 _ p3 rfl e
  exact ⟨h2, J.tr A (J.tr CA (J.tr B (J.tr CB CC))), nx⟩
theorem l_8 {T : NT} {S : SS} {Z : ZS} {t0 : Int32} {C0 Z0 n : Nat} {xs : Nat → Int32} {h : AH} {d : Nat} {i : Int32} (W : WW T T S Z t0 C0 Z0 n xs h) (l : LOG T S Z) (hd : 641 ≤ d) (v1 : vp_in (i + 1) n) (v2 : vp_in (i + 2) n)  : ∃ h', J true mL_law d 634 [(0, .ref 0), (1, .ref 1), (2, .ref 65), (3, .ref 94), (4, .int i)] [] h 23 [(0, .ref 0), (1, .ref 1), (2, .ref 65), (3, .ref 94), (4, .int (i + 4))] [] h' ∧ NXT C0 Z0 n xs h' := by
  have z0 := W.z
  obtain ⟨k, h1, r, h2, C, q, ⟨y1, y2⟩, ⟨F1, p1⟩, ⟨F2, p2, p3⟩, p4, nx⟩ := o_fold W l (d := d - 1) (by omega) (xs (i + 1).toNatClampNeg) (xs (i + 2).toNatClampNeg)
  have A := j_L_law_a8_1 (d := d) (Nat.zero_le _) h i n xs z0 v1 v2 
  have B := j_L_law_b8_1 (d := d) (Nat.zero_le _) h1 i k n xs y1 v1 v2 
  have CA : J true mL_law d 648 [(0, .ref 0), (1, .ref 1), (2, .ref 65), (3, .ref 94), (4, .int i)] [.ref 94, .int (xs (i + 2).toNatClampNeg), .int (xs (i + 1).toNatClampNeg), .ref 1] h 651 [(0, .ref 0), (1, .ref 1), (2, .ref 65), (3, .ref 94), (4, .int i)] [.int k] h1 := s_invsH (K := mL_fold) (as := [.ref 1, .int (xs (i + 1).toNatClampNeg), .int (xs (i + 2).toNatClampNeg), .ref 94]) (rest := []) (v := some (.int k)) (d' := d - 1) dL_law_648 rfl hL_fold (by omega) rfl (Nat.le_of_ble_eq_true rfl) rfl (Nat.le_of_ble_eq_true rfl) C (fun _ => y1.trans z0.symm)
  have CB : J true mL_law d 666 [(0, .ref 0), (1, .ref 1), (2, .ref 65), (3, .ref 94), (4, .int i), (5, .int k)] [.int (xs (i + 2).toNatClampNeg), .int (xs (i + 1).toNatClampNeg), .ref 65] h1 669 [(0, .ref 0), (1, .ref 1), (2, .ref 65), (3, .ref 94), (4, .int i), (5, .int k)] [.int r] h2 := s_invv (K := mX8_fold) (o := 65) (as := [.int (xs (i + 1).toNatClampNeg), .int (xs (i + 2).toNatClampNeg)]) (rest := []) (v := some (.int r)) (d' := d - 1) dL_law_666 rfl lL_97 (by omega) rfl (Nat.le_of_ble_eq_true rfl) rfl (Nat.le_of_ble_eq_true rfl) p1 q (fun _ => y2.trans y1.symm)
  have CC : J true mL_law d 669 [(0, .ref 0), (1, .ref 1), (2, .ref 65), (3, .ref 94), (4, .int i), (5, .int k)] [.int r] h2 23 [(0, .ref 0), (1, .ref 1), (2, .ref 65), (3, .ref 94), (4, .int (i + 4))] [] h2 := by
    by_cases e : k = 0
    · obtain ⟨f, f1, f2⟩ := p4 e
      exact j_L_law_c8_2 (by omega) h2 i k r F2 p2 _ p3 rfl e 1 f f1 in0_1 f2
    · exact j_L_law_c8_1 (by omega) h2 i k r F2 p2 _ p3 rfl e
  exact ⟨h2, J.tr A (J.tr CA (J.tr B (J.tr CB CC))), nx⟩
theorem l_9 {T : NT} {S : SS} {Z : ZS} {t0 : Int32} {C0 Z0 n : Nat} {xs : Nat → Int32} {h : AH} {d : Nat} {i : Int32} (W : WW T T S Z t0 C0 Z0 n xs h) (l : LOG T S Z) (hd : 641 ≤ d)  : ∃ h', J true mL_law d 702 [(0, .ref 0), (1, .ref 1), (2, .ref 65), (3, .ref 94), (4, .int i)] [] h 23 [(0, .ref 0), (1, .ref 1), (2, .ref 65), (3, .ref 94), (4, .int (i + 4))] [] h' ∧ NXT C0 Z0 n xs h' := by
  have z0 := W.z
  obtain ⟨r, h1, h2, C, q, ⟨y1, y2, ⟨F1, p1⟩, nx⟩, X1, p0⟩ := o_clear W l (d := d - 1) (by omega) 
  have A := j_L_law_a9_1 (d := d) (Nat.zero_le _) h i
  have B := j_L_law_b9_1 (d := d) (Nat.zero_le _) h1 i r
  have CA : J true mL_law d 703 [(0, .ref 0), (1, .ref 1), (2, .ref 65), (3, .ref 94), (4, .int i)] [.ref 1] h 706 [(0, .ref 0), (1, .ref 1), (2, .ref 65), (3, .ref 94), (4, .int i)] [.int r] h1 := s_invv (K := mX7_clear) (o := 1) (as := []) (rest := []) (v := some (.int r)) (d' := d - 1) dL_law_703 rfl lL_98 (by omega) rfl (Nat.le_of_ble_eq_true rfl) rfl (Nat.le_of_ble_eq_true rfl) p0 C (fun _ => y1.trans z0.symm)
  have CB : J true mL_law d 707 [(0, .ref 0), (1, .ref 1), (2, .ref 65), (3, .ref 94), (4, .int i)] [.ref 65, .int r] h1 710 [(0, .ref 0), (1, .ref 1), (2, .ref 65), (3, .ref 94), (4, .int i)] [.int r, .int r] h2 := s_invv (K := mX8_clear) (o := 65) (as := []) (rest := [.int r]) (v := some (.int r)) (d' := d - 1) dL_law_707 rfl lL_101 (by omega) rfl (Nat.le_of_ble_eq_true rfl) rfl (Nat.le_of_ble_eq_true rfl) p1 q (fun _ => y2.trans y1.symm)
  exact ⟨h2, J.tr A (J.tr CA (J.tr B (J.tr CB (j_L_law_c9_1 (Nat.zero_le _) h2 i r r rfl)))), nx⟩
theorem l_10 {T : NT} {S : SS} {Z : ZS} {t0 : Int32} {C0 Z0 n : Nat} {xs : Nat → Int32} {h : AH} {d : Nat} {i : Int32} (W : WW T T S Z t0 C0 Z0 n xs h) (l : LOG T S Z) (hd : 641 ≤ d) (v1 : vp_in (i + 1) n) (v2 : vp_in (i + 2) n)  : ∃ h', J true mL_law d 715 [(0, .ref 0), (1, .ref 1), (2, .ref 65), (3, .ref 94), (4, .int i)] [] h 23 [(0, .ref 0), (1, .ref 1), (2, .ref 65), (3, .ref 94), (4, .int (i + 4))] [] h' ∧ NXT C0 Z0 n xs h' := by
  have z0 := W.z
  obtain ⟨k, h1, r, h2, C, q, ⟨y1, y2⟩, ⟨F1, p1⟩, ⟨F2, p2, p3⟩, p4, nx⟩ := o_node W l (d := d - 1) (by omega) (xs (i + 1).toNatClampNeg) (xs (i + 2).toNatClampNeg)
  have A := j_L_law_a10_1 (d := d) (Nat.zero_le _) h i n xs z0 v1 v2 
  have B := j_L_law_b10_1 (d := d) (Nat.zero_le _) h1 i k n xs y1 v1 v2 
  have CA : J true mL_law d 729 [(0, .ref 0), (1, .ref 1), (2, .ref 65), (3, .ref 94), (4, .int i)] [.ref 94, .int (xs (i + 2).toNatClampNeg), .int (xs (i + 1).toNatClampNeg), .ref 1] h 732 [(0, .ref 0), (1, .ref 1), (2, .ref 65), (3, .ref 94), (4, .int i)] [.int k] h1 := s_invsH (K := mL_node) (as := [.ref 1, .int (xs (i + 1).toNatClampNeg), .int (xs (i + 2).toNatClampNeg), .ref 94]) (rest := []) (v := some (.int k)) (d' := d - 1) dL_law_729 rfl hL_node (by omega) rfl (Nat.le_of_ble_eq_true rfl) rfl (Nat.le_of_ble_eq_true rfl) C (fun _ => y1.trans z0.symm)
  have CB : J true mL_law d 747 [(0, .ref 0), (1, .ref 1), (2, .ref 65), (3, .ref 94), (4, .int i), (5, .int k)] [.int (xs (i + 2).toNatClampNeg), .int (xs (i + 1).toNatClampNeg), .ref 65] h1 750 [(0, .ref 0), (1, .ref 1), (2, .ref 65), (3, .ref 94), (4, .int i), (5, .int k)] [.int r] h2 := s_invv (K := mX8_node) (o := 65) (as := [.int (xs (i + 1).toNatClampNeg), .int (xs (i + 2).toNatClampNeg)]) (rest := []) (v := some (.int r)) (d' := d - 1) dL_law_747 rfl lL_104 (by omega) rfl (Nat.le_of_ble_eq_true rfl) rfl (Nat.le_of_ble_eq_true rfl) p1 q (fun _ => y2.trans y1.symm)
  have CC : J true mL_law d 750 [(0, .ref 0), (1, .ref 1), (2, .ref 65), (3, .ref 94), (4, .int i), (5, .int k)] [.int r] h2 23 [(0, .ref 0), (1, .ref 1), (2, .ref 65), (3, .ref 94), (4, .int (i + 4))] [] h2 := by
    by_cases e : k = 0
    · obtain ⟨f, f1, f2⟩ := p4 e
      exact j_L_law_c10_2 (by omega) h2 i k r F2 p2 _ p3 rfl e 1 f f1 in0_1 f2
    · exact j_L_law_c10_1 (by omega) h2 i k r F2 p2 _ p3 rfl e
  exact ⟨h2, J.tr A (J.tr CA (J.tr B (J.tr CB CC))), nx⟩
theorem l_11 {T : NT} {S : SS} {Z : ZS} {t0 : Int32} {C0 Z0 n : Nat} {xs : Nat → Int32} {h : AH} {d : Nat} {i : Int32} (W : WW T T S Z t0 C0 Z0 n xs h) (l : LOG T S Z) (hd : 641 ≤ d) (v1 : vp_in (i + 1) n) (v2 : vp_in (i + 2) n) (v3 : vp_in (i + 3) n)  : ∃ h', J true mL_law d 783 [(0, .ref 0), (1, .ref 1), (2, .ref 65), (3, .ref 94), (4, .int i)] [] h 23 [(0, .ref 0), (1, .ref 1), (2, .ref 65), (3, .ref 94), (4, .int (i + 4))] [] h' ∧ NXT C0 Z0 n xs h' := by
  have z0 := W.z
  obtain ⟨k, h1, h2, C, q, ⟨y1, y2⟩, ⟨F1, p1⟩, ⟨F2, p2, p3⟩, nx⟩ := o_ask W l (d := d - 1) (by omega) (xs (i + 1).toNatClampNeg) (xs (i + 2).toNatClampNeg) (xs (i + 3).toNatClampNeg)
  have A := j_L_law_a11_1 (d := d) (Nat.zero_le _) h i n xs z0 v1 v2 v3 
  have B := j_L_law_b11_1 (d := d) (Nat.zero_le _) h1 i k n xs y1 v1 v2 v3 
  have CA : J true mL_law d 802 [(0, .ref 0), (1, .ref 1), (2, .ref 65), (3, .ref 94), (4, .int i)] [.int (xs (i + 3).toNatClampNeg), .int (xs (i + 2).toNatClampNeg), .int (xs (i + 1).toNatClampNeg), .ref 1] h 805 [(0, .ref 0), (1, .ref 1), (2, .ref 65), (3, .ref 94), (4, .int i)] [.int k] h1 := s_invsH (K := mL_ask) (as := [.ref 1, .int (xs (i + 1).toNatClampNeg), .int (xs (i + 2).toNatClampNeg), .int (xs (i + 3).toNatClampNeg)]) (rest := []) (v := some (.int k)) (d' := d - 1) dL_law_802 rfl hL_ask (by omega) rfl (Nat.le_of_ble_eq_true rfl) rfl (Nat.le_of_ble_eq_true rfl) C (fun _ => y1.trans z0.symm)
  have CB : J true mL_law d 826 [(0, .ref 0), (1, .ref 1), (2, .ref 65), (3, .ref 94), (4, .int i), (5, .int k)] [.int (xs (i + 3).toNatClampNeg), .int (xs (i + 2).toNatClampNeg), .int (xs (i + 1).toNatClampNeg), .ref 65] h1 829 [(0, .ref 0), (1, .ref 1), (2, .ref 65), (3, .ref 94), (4, .int i), (5, .int k)] [] h2 := s_invv (K := mX8_ask) (o := 65) (as := [.int (xs (i + 1).toNatClampNeg), .int (xs (i + 2).toNatClampNeg), .int (xs (i + 3).toNatClampNeg)]) (rest := []) (v := none) (d' := d - 1) dL_law_826 rfl lL_108 (by omega) rfl (Nat.le_of_ble_eq_true rfl) rfl (Nat.le_of_ble_eq_true rfl) p1 q (fun _ => y2.trans y1.symm)
  have CC : J true mL_law d 829 [(0, .ref 0), (1, .ref 1), (2, .ref 65), (3, .ref 94), (4, .int i), (5, .int k)] [] h2 23 [(0, .ref 0), (1, .ref 1), (2, .ref 65), (3, .ref 94), (4, .int (i + 4))] [] h2 := j_L_law_c11_1 (by omega) h2 i k F2 p2 _ p3 rfl
  exact ⟨h2, J.tr A (J.tr CA (J.tr B (J.tr CB CC))), nx⟩
theorem l_12 {T : NT} {S : SS} {Z : ZS} {t0 : Int32} {C0 Z0 n : Nat} {xs : Nat → Int32} {h : AH} {d : Nat} {i : Int32} (W : WW T T S Z t0 C0 Z0 n xs h) (l : LOG T S Z) (hd : 641 ≤ d)   : ∃ h', J true mL_law d 843 [(0, .ref 0), (1, .ref 1), (2, .ref 65), (3, .ref 94), (4, .int i)] [] h 23 [(0, .ref 0), (1, .ref 1), (2, .ref 65), (3, .ref 94), (4, .int (i + 4))] [] h' ∧ NXT C0 Z0 n xs h' := by
  have z0 := W.z
  obtain ⟨k, h1, r, h2, C, q, ⟨y1, y2⟩, ⟨F1, p1⟩, ⟨F2, p2, p3⟩, p4, nx⟩ := o_next W l (d := d - 1) (by omega) 
  have A := j_L_law_a12_1 (d := d) (Nat.zero_le _) h i
  have B := j_L_law_b12_1 (d := d) (Nat.zero_le _) h1 i k
  have CA : J true mL_law d 845 [(0, .ref 0), (1, .ref 1), (2, .ref 65), (3, .ref 94), (4, .int i)] [.ref 94, .ref 1] h 848 [(0, .ref 0), (1, .ref 1), (2, .ref 65), (3, .ref 94), (4, .int i)] [.int k] h1 := s_invsH (K := mL_next) (as := [.ref 1, .ref 94]) (rest := []) (v := some (.int k)) (d' := d - 1) dL_law_845 rfl hL_next (by omega) rfl (Nat.le_of_ble_eq_true rfl) rfl (Nat.le_of_ble_eq_true rfl) C (fun _ => y1.trans z0.symm)
  have CB : J true mL_law d 851 [(0, .ref 0), (1, .ref 1), (2, .ref 65), (3, .ref 94), (4, .int i), (5, .int k)] [.ref 65] h1 854 [(0, .ref 0), (1, .ref 1), (2, .ref 65), (3, .ref 94), (4, .int i), (5, .int k)] [.int r] h2 := s_invv (K := mX8_next) (o := 65) (as := []) (rest := []) (v := some (.int r)) (d' := d - 1) dL_law_851 rfl lL_112 (by omega) rfl (Nat.le_of_ble_eq_true rfl) rfl (Nat.le_of_ble_eq_true rfl) p1 q (fun _ => y2.trans y1.symm)
  have CC : J true mL_law d 854 [(0, .ref 0), (1, .ref 1), (2, .ref 65), (3, .ref 94), (4, .int i), (5, .int k)] [.int r] h2 23 [(0, .ref 0), (1, .ref 1), (2, .ref 65), (3, .ref 94), (4, .int (i + 4))] [] h2 := by
    by_cases e : k = 0
    · obtain ⟨f, f1, f2⟩ := p4 e
      exact j_L_law_c12_2 (by omega) h2 i k r F2 p2 _ p3 rfl e 1 f f1 in0_1 f2
    · exact j_L_law_c12_1 (by omega) h2 i k r F2 p2 _ p3 rfl e
  exact ⟨h2, J.tr A (J.tr CA (J.tr B (J.tr CB CC))), nx⟩
theorem l_13 {T : NT} {S : SS} {Z : ZS} {t0 : Int32} {C0 Z0 n : Nat} {xs : Nat → Int32} {h : AH} {d : Nat} {i : Int32} (W : WW T T S Z t0 C0 Z0 n xs h) (l : LOG T S Z) (hd : 641 ≤ d) (v1 : vp_in (i + 1) n) : ∃ h', J true mL_law d 887 [(0, .ref 0), (1, .ref 1), (2, .ref 65), (3, .ref 94), (4, .int i)] [] h 23 [(0, .ref 0), (1, .ref 1), (2, .ref 65), (3, .ref 94), (4, .int (i + 4))] [] h' ∧ NXT C0 Z0 n xs h' := by
  have z0 := W.z
  obtain ⟨r, h1, h2, C, q, ⟨y1, y2, ⟨F1, p1⟩, nx⟩, X1, p0⟩ := o_decision W l (d := d - 1) (by omega) (xs (i + 1).toNatClampNeg)
  have A := j_L_law_a13_1 (d := d) (Nat.zero_le _) h i n xs z0 v1
  have B := j_L_law_b13_1 (d := d) (Nat.zero_le _) h1 i r n xs y1 v1
  have CA : J true mL_law d 894 [(0, .ref 0), (1, .ref 1), (2, .ref 65), (3, .ref 94), (4, .int i)] [.int (xs (i + 1).toNatClampNeg), .ref 1] h 897 [(0, .ref 0), (1, .ref 1), (2, .ref 65), (3, .ref 94), (4, .int i)] [.int r] h1 := s_invv (K := mX7_decision) (o := 1) (as := [.int (xs (i + 1).toNatClampNeg)]) (rest := []) (v := some (.int r)) (d' := d - 1) dL_law_894 rfl lL_113 (by omega) rfl (Nat.le_of_ble_eq_true rfl) rfl (Nat.le_of_ble_eq_true rfl) p0 C (fun _ => y1.trans z0.symm)
  have CB : J true mL_law d 904 [(0, .ref 0), (1, .ref 1), (2, .ref 65), (3, .ref 94), (4, .int i)] [.int (xs (i + 1).toNatClampNeg), .ref 65, .int r] h1 907 [(0, .ref 0), (1, .ref 1), (2, .ref 65), (3, .ref 94), (4, .int i)] [.int r, .int r] h2 := s_invv (K := mX8_decision) (o := 65) (as := [.int (xs (i + 1).toNatClampNeg)]) (rest := [.int r]) (v := some (.int r)) (d' := d - 1) dL_law_904 rfl lL_117 (by omega) rfl (Nat.le_of_ble_eq_true rfl) rfl (Nat.le_of_ble_eq_true rfl) p1 q (fun _ => y2.trans y1.symm)
  exact ⟨h2, J.tr A (J.tr CA (J.tr B (J.tr CB (j_L_law_c13_1 (Nat.zero_le _) h2 i r r rfl)))), nx⟩
theorem l_14 {T : NT} {S : SS} {Z : ZS} {t0 : Int32} {C0 Z0 n : Nat} {xs : Nat → Int32} {h : AH} {d : Nat} {i : Int32} (W : WW T T S Z t0 C0 Z0 n xs h) (l : LOG T S Z) (hd : 641 ≤ d) (v1 : vp_in (i + 1) n) (v2 : vp_in (i + 2) n)  : ∃ h', J true mL_law d 912 [(0, .ref 0), (1, .ref 1), (2, .ref 65), (3, .ref 94), (4, .int i)] [] h 23 [(0, .ref 0), (1, .ref 1), (2, .ref 65), (3, .ref 94), (4, .int (i + 4))] [] h' ∧ NXT C0 Z0 n xs h' := by
  have z0 := W.z
  obtain ⟨k, h1, r, h2, C, q, ⟨y1, y2⟩, ⟨F1, p1⟩, ⟨F2, p2, p3⟩, p4, nx⟩ := o_token W l (d := d - 1) (by omega) (xs (i + 1).toNatClampNeg) (xs (i + 2).toNatClampNeg)
  have A := j_L_law_a14_1 (d := d) (Nat.zero_le _) h i n xs z0 v1 v2 
  have B := j_L_law_b14_1 (d := d) (Nat.zero_le _) h1 i k n xs y1 v1 v2 
  have CA : J true mL_law d 926 [(0, .ref 0), (1, .ref 1), (2, .ref 65), (3, .ref 94), (4, .int i)] [.ref 94, .int (xs (i + 2).toNatClampNeg), .int (xs (i + 1).toNatClampNeg), .ref 1] h 929 [(0, .ref 0), (1, .ref 1), (2, .ref 65), (3, .ref 94), (4, .int i)] [.int k] h1 := s_invsH (K := mL_token) (as := [.ref 1, .int (xs (i + 1).toNatClampNeg), .int (xs (i + 2).toNatClampNeg), .ref 94]) (rest := []) (v := some (.int k)) (d' := d - 1) dL_law_926 rfl hL_token (by omega) rfl (Nat.le_of_ble_eq_true rfl) rfl (Nat.le_of_ble_eq_true rfl) C (fun _ => y1.trans z0.symm)
  have CB : J true mL_law d 944 [(0, .ref 0), (1, .ref 1), (2, .ref 65), (3, .ref 94), (4, .int i), (5, .int k)] [.int (xs (i + 2).toNatClampNeg), .int (xs (i + 1).toNatClampNeg), .ref 65] h1 947 [(0, .ref 0), (1, .ref 1), (2, .ref 65), (3, .ref 94), (4, .int i), (5, .int k)] [.long r] h2 := s_invv (K := mX8_token_) (o := 65) (as := [.int (xs (i + 1).toNatClampNeg), .int (xs (i + 2).toNatClampNeg)]) (rest := []) (v := some (.long r)) (d' := d - 1) dL_law_944 rfl lL_120 (by omega) rfl (Nat.le_of_ble_eq_true rfl) rfl (Nat.le_of_ble_eq_true rfl) p1 q (fun _ => y2.trans y1.symm)
  have CC : J true mL_law d 947 [(0, .ref 0), (1, .ref 1), (2, .ref 65), (3, .ref 94), (4, .int i), (5, .int k)] [.long r] h2 23 [(0, .ref 0), (1, .ref 1), (2, .ref 65), (3, .ref 94), (4, .int (i + 4))] [] h2 := by
    by_cases e : k = 0
    · obtain ⟨f, f1, f2⟩ := p4 e
      exact j_L_law_c14_2 (by omega) h2 i k r F2 p2 _ p3 rfl e 1 f f1 in0_1 f2
    · exact j_L_law_c14_1 (by omega) h2 i k r F2 p2 _ p3 rfl e
  exact ⟨h2, J.tr A (J.tr CA (J.tr B (J.tr CB CC))), nx⟩
theorem l_15 {T : NT} {S : SS} {Z : ZS} {t0 : Int32} {C0 Z0 n : Nat} {xs : Nat → Int32} {h : AH} {d : Nat} {i : Int32} (W : WW T T S Z t0 C0 Z0 n xs h) (l : LOG T S Z) (hd : 641 ≤ d) (v1 : vp_in (i + 1) n) : ∃ h', J true mL_law d 979 [(0, .ref 0), (1, .ref 1), (2, .ref 65), (3, .ref 94), (4, .int i)] [] h 23 [(0, .ref 0), (1, .ref 1), (2, .ref 65), (3, .ref 94), (4, .int (i + 4))] [] h' ∧ NXT C0 Z0 n xs h' := by
  have z0 := W.z
  obtain ⟨r, h1, h2, C, q, ⟨y1, y2, ⟨F1, p1⟩, nx⟩, X1, p0⟩ := o_count W l (d := d - 1) (by omega) (xs (i + 1).toNatClampNeg)
  have A := j_L_law_a15_1 (d := d) (Nat.zero_le _) h i n xs z0 v1
  have B := j_L_law_b15_1 (d := d) (Nat.zero_le _) h1 i r n xs y1 v1
  have CA : J true mL_law d 986 [(0, .ref 0), (1, .ref 1), (2, .ref 65), (3, .ref 94), (4, .int i)] [.int (xs (i + 1).toNatClampNeg), .ref 1] h 989 [(0, .ref 0), (1, .ref 1), (2, .ref 65), (3, .ref 94), (4, .int i)] [.int r] h1 := s_invv (K := mX7_count) (o := 1) (as := [.int (xs (i + 1).toNatClampNeg)]) (rest := []) (v := some (.int r)) (d' := d - 1) dL_law_986 rfl lL_121 (by omega) rfl (Nat.le_of_ble_eq_true rfl) rfl (Nat.le_of_ble_eq_true rfl) p0 C (fun _ => y1.trans z0.symm)
  have CB : J true mL_law d 996 [(0, .ref 0), (1, .ref 1), (2, .ref 65), (3, .ref 94), (4, .int i)] [.int (xs (i + 1).toNatClampNeg), .ref 65, .int r] h1 999 [(0, .ref 0), (1, .ref 1), (2, .ref 65), (3, .ref 94), (4, .int i)] [.int r, .int r] h2 := s_invv (K := mX8_count) (o := 65) (as := [.int (xs (i + 1).toNatClampNeg)]) (rest := [.int r]) (v := some (.int r)) (d' := d - 1) dL_law_996 rfl lL_124 (by omega) rfl (Nat.le_of_ble_eq_true rfl) rfl (Nat.le_of_ble_eq_true rfl) p1 q (fun _ => y2.trans y1.symm)
  exact ⟨h2, J.tr A (J.tr CA (J.tr B (J.tr CB (j_L_law_c15_1 (Nat.zero_le _) h2 i r r rfl)))), nx⟩
theorem l_any {T : NT} {S : SS} {Z : ZS} {t0 : Int32} {C0 Z0 n : Nat} {xs : Nat → Int32} {h : AH} {d : Nat} {i : Int32} (W : WW T T S Z t0 C0 Z0 n xs h) (l : LOG T S Z) (hd : 641 ≤ d) (c : ¬ (((nI n) - 4) < i)) (v0 : vp_in i n) (v1 : vp_in (i + 1) n) (v2 : vp_in (i + 2) n) (v3 : vp_in (i + 3) n) : ∃ h', J true mL_law d 23 [(0, .ref 0), (1, .ref 1), (2, .ref 65), (3, .ref 94), (4, .int i)] [] h 23 [(0, .ref 0), (1, .ref 1), (2, .ref 65), (3, .ref 94), (4, .int (i + 4))] [] h' ∧ NXT C0 Z0 n xs h' := by
  have z0 := W.z
  by_cases hq : (xs i.toNatClampNeg &&& 15).toInt < 0 ∨ 15 < (xs i.toNatClampNeg &&& 15).toInt
  · obtain ⟨σ, κ, w, μ, F, I, La, X, f, W⟩ := W
    exact ⟨h, J.tr (j_L_law_h_18 (Nat.zero_le _) h i n xs z0 c v0 _ rfl hq) (j_L_law_z_1 (Nat.zero_le _) h i), T, S, Z, t0, l, σ, κ, w, μ, F, I, La, X, f, W.le (Nat.le_succ _) (Nat.le_add_right _ _)⟩
  · obtain ⟨j, hj⟩ : ∃ j : Nat, (xs i.toNatClampNeg &&& 15).toInt = j := ⟨(xs i.toNatClampNeg &&& 15).toInt.toNat, by omega⟩
    have e : (xs i.toNatClampNeg &&& 15) = nI j := Int32.toInt_inj.mp (by rw [hj]; show (j : Int) = (Int32.ofNat j).toInt; rw [Int32.toInt_ofNat_of_lt (by omega)])
    have hj15 : j = 0 ∨ j = 1 ∨ j = 2 ∨ j = 3 ∨ j = 4 ∨ j = 5 ∨ j = 6 ∨ j = 7 ∨ j = 8 ∨ j = 9 ∨ j = 10 ∨ j = 11 ∨ j = 12 ∨ j = 13 ∨ j = 14 ∨ j = 15 := by omega
    clear hj hq
    rcases hj15 with q | q | q | q | q | q | q | q | q | q | q | q | q | q | q | q <;> rw [q] at e
    · obtain ⟨h', J1, nx⟩ := l_0 W l hd v1 v2
      exact ⟨h', J.tr (j_L_law_h_2 (Nat.zero_le _) h i n xs z0 c v0 _ rfl e) J1, nx⟩
    · obtain ⟨h', J1, nx⟩ := l_1 W l hd v1 v2
      exact ⟨h', J.tr (j_L_law_h_3 (Nat.zero_le _) h i n xs z0 c v0 _ rfl e) J1, nx⟩
    · obtain ⟨h', J1, nx⟩ := l_2 W l hd 
      exact ⟨h', J.tr (j_L_law_h_4 (Nat.zero_le _) h i n xs z0 c v0 _ rfl e) J1, nx⟩
    · obtain ⟨h', J1, nx⟩ := l_3 W l hd v1 v2
      exact ⟨h', J.tr (j_L_law_h_5 (Nat.zero_le _) h i n xs z0 c v0 _ rfl e) J1, nx⟩
    · by_cases hz : xs (i + 2).toNatClampNeg = 0
      · obtain ⟨h', J1, nx⟩ := l_4_1 W l hd v1 v2 hz
        exact ⟨h', J.tr (j_L_law_h_6 (Nat.zero_le _) h i n xs z0 c v0 _ rfl e) J1, nx⟩
      · obtain ⟨h', J1, nx⟩ := l_4_2 W l hd v1 v2 hz
        exact ⟨h', J.tr (j_L_law_h_6 (Nat.zero_le _) h i n xs z0 c v0 _ rfl e) J1, nx⟩
    · obtain ⟨h', J1, nx⟩ := l_5 W l hd v1 v2 v3
      exact ⟨h', J.tr (j_L_law_h_7 (Nat.zero_le _) h i n xs z0 c v0 _ rfl e) J1, nx⟩
    · obtain ⟨h', J1, nx⟩ := l_6 W l hd v1 v2 v3
      exact ⟨h', J.tr (j_L_law_h_8 (Nat.zero_le _) h i n xs z0 c v0 _ rfl e) J1, nx⟩
    · obtain ⟨h', J1, nx⟩ := l_7 W l hd v1 v2
      exact ⟨h', J.tr (j_L_law_h_9 (Nat.zero_le _) h i n xs z0 c v0 _ rfl e) J1, nx⟩
    · obtain ⟨h', J1, nx⟩ := l_8 W l hd v1 v2
      exact ⟨h', J.tr (j_L_law_h_10 (Nat.zero_le _) h i n xs z0 c v0 _ rfl e) J1, nx⟩
    · obtain ⟨h', J1, nx⟩ := l_9 W l hd 
      exact ⟨h', J.tr (j_L_law_h_11 (Nat.zero_le _) h i n xs z0 c v0 _ rfl e) J1, nx⟩
    · obtain ⟨h', J1, nx⟩ := l_10 W l hd v1 v2
      exact ⟨h', J.tr (j_L_law_h_12 (Nat.zero_le _) h i n xs z0 c v0 _ rfl e) J1, nx⟩
    · obtain ⟨h', J1, nx⟩ := l_11 W l hd v1 v2 v3
      exact ⟨h', J.tr (j_L_law_h_13 (Nat.zero_le _) h i n xs z0 c v0 _ rfl e) J1, nx⟩
    · obtain ⟨h', J1, nx⟩ := l_12 W l hd 
      exact ⟨h', J.tr (j_L_law_h_14 (Nat.zero_le _) h i n xs z0 c v0 _ rfl e) J1, nx⟩
    · obtain ⟨h', J1, nx⟩ := l_13 W l hd v1
      exact ⟨h', J.tr (j_L_law_h_15 (Nat.zero_le _) h i n xs z0 c v0 _ rfl e) J1, nx⟩
    · obtain ⟨h', J1, nx⟩ := l_14 W l hd v1 v2
      exact ⟨h', J.tr (j_L_law_h_16 (Nat.zero_le _) h i n xs z0 c v0 _ rfl e) J1, nx⟩
    · obtain ⟨h', J1, nx⟩ := l_15 W l hd v1
      exact ⟨h', J.tr (j_L_law_h_17 (Nat.zero_le _) h i n xs z0 c v0 _ rfl e) J1, nx⟩
theorem l_end {n k : Nat} (hn : n ≤ 2048) (hk : 4 * k ≤ n) (h : n < 4 * k + 4) : ((nI n) - 4) < nI (4 * k) := by
  by_cases h4 : 4 ≤ n
  · have e : nI n - 4 = nI (n - 4) := pk_sub (b := 4) h4
    rw [e]
    exact nI_lt (by omega) (by omega)
  · rw [show k = 0 by omega]
    have : n = 0 ∨ n = 1 ∨ n = 2 ∨ n = 3 := by omega
    rcases this with q | q | q | q <;> rw [q] <;> decide
theorem l_loop {d n : Nat} {xs : Nat → Int32} (hd : 641 ≤ d) (hn : n ≤ 2048) : ∀ (m k : Nat) (T : NT) (S : SS) (Z : ZS) (t0 : Int32) (C0 Z0 : Nat) (h : AH), WW T T S Z t0 C0 Z0 n xs h → LOG T S Z → 4 * k ≤ n → n < 4 * k + 4 * (m + 1) → ∃ h', E true mL_law d 23 [(0, .ref 0), (1, .ref 1), (2, .ref 65), (3, .ref 94), (4, .int (nI (4 * k)))] [] h (some (.int 1)) h' ∧ h'.2.2.1 ≤ C0 + m ∧ h'.2.2.2 ≤ Z0 + 6 * m := by
  intro m
  induction m with
  | zero =>
    intro k T S Z t0 C0 Z0 h W l hk hm
    have z0 := W.z
    obtain ⟨σ, κ, w, μ, F, I, La, X, f, W⟩ := W
    have co := W.2.2.2.2.2.1
    exact ⟨h, j_L_law_h_1 (Nat.zero_le _) h _ n xs z0 (l_end hn hk (by omega)), by omega, by omega⟩
  | succ m ih =>
    intro k T S Z t0 C0 Z0 h W l hk hm
    by_cases hs : 4 * k + 4 ≤ n
    · have c : ¬ (((nI n) - 4) < nI (4 * k)) := by
        have e : nI n - 4 = nI (n - 4) := pk_sub (b := 4) (by omega)
        rw [e]
        exact nI_nlt (by omega) (by omega)
      obtain ⟨h1, J1, T1, S1, Z1, t1, l1, W1⟩ := l_any W l hd c (vp_in_nI (by omega) (by omega)) (show vp_in (nI (4 * k) + nI 1) n by rw [nI_add]; exact vp_in_nI (by omega) (by omega)) (show vp_in (nI (4 * k) + nI 2) n by rw [nI_add]; exact vp_in_nI (by omega) (by omega)) (show vp_in (nI (4 * k) + nI 3) n by rw [nI_add]; exact vp_in_nI (by omega) (by omega))
      rw [show nI (4 * k) + 4 = nI (4 * (k + 1)) from (nI_add (4 * k) 4)] at J1
      obtain ⟨h', E1, c1, c2⟩ := ih (k + 1) T1 S1 Z1 t1 (C0 + 1) (Z0 + 6) h1 W1 l1 (by omega) (by omega)
      exact ⟨h', E.st J1 E1, by omega, by omega⟩
    · have z0 := W.z
      obtain ⟨σ, κ, w, μ, F, I, La, X, f, W⟩ := W
      have co := W.2.2.2.2.2.1
      exact ⟨h, j_L_law_h_1 (Nat.zero_le _) h _ n xs z0 (l_end hn hk (by omega)), by omega, by omega⟩
