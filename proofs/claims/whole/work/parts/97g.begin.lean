theorem i_store {h : AH} {d : Nat} (ho : h.1 1 = ob 7 (fo 2 (dfl [.null, .null]))) (hn : h.2.1 = 1) (hd : 6 ≤ d) : ∃ h', CM mX7_init d [.ref 1] h none h' ∧ h'.2 = (64, (h.2.2.1 + 63, h.2.2.2 + 2589)) ∧ h'.1 0 = h.1 0 ∧ (∃ X, h'.1 1 = ob 7 (fo 2 X) ∧ X 0 = .ref 2 ∧ X 1 = .ref 8) ∧ RNd (0, ((fun _ => 0), ((fun _ => 0), ((fun _ => 0), ((fun _ => 0), (fun _ => 0)))))) h' ∧ (∃ Q, h'.1 8 = ob 3 (fo 15 Q) ∧ Q 0 = .ref 19 ∧ Q 1 = .ref 9 ∧ Q 2 = .ref 13 ∧ Q 3 = .ref 16 ∧ Q 8 = .int 1 ∧ ∀ j, 4 ≤ j → j ≤ 14 → j ≠ 8 → Q j = .int 0) ∧ (∃ F', h'.1 9 = ob 1 (fo 4 F') ∧ F' 0 = .ref 10 ∧ F' 1 = .long 0 ∧ F' 2 = .int 0 ∧ F' 3 = .int 0) ∧ TK h' 10 11 12 100 16 [] ∧ BG h' 13 [] ∧ BG h' 16 [] ∧ (∃ G, h'.1 19 = ob 6 (fo 10 G) ∧ G 0 = .ref 2 ∧ G 1 = .ref 20 ∧ G 2 = .ref 20 ∧ G 3 = .int 0 ∧ G 4 = .ref 27 ∧ G 5 = .int 0 ∧ G 6 = .long 0 ∧ G 7 = .int 0 ∧ G 8 = .int 0 ∧ G 9 = .ref 20) ∧ NS 5 h' ∧ TK h' 27 28 29 36000 16 [] := by
  generalize dfl [.null, .null] = F at ho
  have N1 := s_new (k := false) (M := mX7_init) (d := d) (ls := [(0, .ref 1)]) (st := []) (h := h) dX7_init_4 rfl nX7_7
  have e1 := new_o (h := h) (ci := 2) (N := 6) (z := 6) (fs := [.null, .null, .null, .null, .null, .int 0]) rfl
  rw [hn] at N1 e1
  obtain ⟨h2, F2, C2, ⟨a1, a2⟩, b, bb, c1, c2, c3, c4, c5⟩ := i_nodes e1 (show h.2.1 + 1 = 1 + 1 by rw [hn]) rfl (d := 1) (Nat.le_refl _)
  have a1 : h2.2 = (h.2.1 + 1 + 5, (h.2.2.1 + 1 + 5, h.2.2.2 + 6 + 300)) := a1
  rw [hn] at a1
  have k2 : ∀ x, x ≤ 1 → h2.1 x = h.1 x := fun x hx => (a2 x (by show x ≤ h.2.1 + 1; omega) (by omega)).trans (hw_ne (by omega))
  have J3 := j_X7_init_c_1 (d := d) (Nat.zero_le _) h2 1 2 F ((k2 1 (Nat.le_refl _)).trans ho)
  have o3 := @hs_eq h2 1 (ob 7 (fo 2 (va_up F 0 (.ref 2))))
  have k3 : ∀ x, x ≠ 1 → (hs h2 1 (ob 7 (fo 2 (va_up F 0 (.ref 2))))).1 x = h2.1 x := fun x hx => hs_ne hx
  have i3 : (hs h2 1 (ob 7 (fo 2 (va_up F 0 (.ref 2))))).2 = h2.2 := rfl
  generalize hs h2 1 (ob 7 (fo 2 (va_up F 0 (.ref 2)))) = h3 at *
  have n3 : h3.2.1 = 7 := by rw [i3, a1]
  have N2 := s_new (k := false) (M := mX7_init) (d := d) (ls := [(0, .ref 1), (1, .ref 2)]) (st := [.ref 1]) (h := h3) dX7_init_18 rfl nX7_16
  have e2 := new_o (h := h3) (ci := 3) (N := 15) (z := 15) (fs := [.null, .null, .null, .null, .int 0, .int 0, .int 0, .int 0, .int 0, .int 0, .int 0, .int 0, .int 0, .int 0, .int 0]) rfl
  rw [n3] at N2 e2
  obtain ⟨h4, C4, d1, d2, s1, s2, s3, s4, s5, s6, s7, s8⟩ := i_search e2 (show h3.2.1 + 1 = 8 by rw [n3]) (d := 5) (Nat.le_refl _)
  have d1 : h4.2 = (64, (h3.2.2.1 + 1 + 56, h3.2.2.2 + 15 + 2268)) := d1
  rw [i3, a1] at d1
  have k4 : ∀ x, x ≤ 7 → h4.1 x = h3.1 x := fun x hx => (d2 x (by omega)).trans (hw_ne (by omega))
  have J5 := j_X7_init_f_1 (d := d) (Nat.zero_le _) h4 1 2 8 _ ((k4 1 (by decide)).trans o3)
  have K : ∀ x, x ≠ 1 → (hs h4 1 (ob 7 (fo 2 (va_up (va_up F 0 (.ref 2)) 1 (.ref 8))))).1 x = h4.1 x := fun x hx => hs_ne hx
  have q : ∀ x, x ≤ 7 → x ≠ 1 → (hs h4 1 (ob 7 (fo 2 (va_up (va_up F 0 (.ref 2)) 1 (.ref 8))))).1 x = h2.1 x := fun x hx hne => (K x hne).trans ((k4 x hx).trans (k3 x hne))
  obtain ⟨Q, y1, y2⟩ := s1
  obtain ⟨L', y3, y4⟩ := s2
  obtain ⟨G, y5, y6⟩ := s6
  refine ⟨_, E.st (j_X7_init_a_1 (by omega) h 1) (E.st N1 (E.st (j_X7_init_b_1 (Nat.zero_le _) _ 1 2) (E.st (s_invn (K := mX2_init) (o := 2) (as := []) (rest := [.ref 2]) (v := none) (d' := 1) dX7_init_8 rfl lX7_9 (by omega) rfl (Nat.le_of_ble_eq_true rfl) rfl (Nat.le_of_ble_eq_true rfl) C2 (fun h => nomatch h)) (E.st J3 (E.st N2 (E.st (j_X7_init_e_1 (Nat.zero_le _) _ 1 2 8) (E.st (s_invi (K := mX3_init) (o := 8) (as := [.ref 2]) (rest := [.ref 8, .ref 1]) (v := none) (d' := 5) dX7_init_23 rfl lX7_18 (by omega) rfl (Nat.le_of_ble_eq_true rfl) rfl (Nat.le_of_ble_eq_true rfl) C4 (fun h => nomatch h)) J5))))))), d1, (q 0 (by decide) (by decide)).trans (k2 0 (by decide)), ⟨_, hs_eq, (up_ne (by decide)).trans up_eq, up_eq⟩, ⟨F2, _, _, _, _, _, (q 2 (by decide) (by decide)).trans b, bb, ⟨(q 3 (by decide) (by decide)).trans c1, (q 4 (by decide) (by decide)).trans c2, (q 5 (by decide) (by decide)).trans c3, (q 6 (by decide) (by decide)).trans c4, (q 7 (by decide) (by decide)).trans c5⟩, Nat.zero_le _, (fun i hi => absurd hi (Nat.not_lt_zero _))⟩, ⟨Q, (K 8 (by decide)).trans y1, y2⟩, ⟨L', (K 9 (by decide)).trans y3, y4⟩, s3.fr (Nat.le_refl _) (K 10 (by decide)) (K 11 (by decide)) (K 12 (by decide)), s4.fr (K 13 (by decide)) (K 14 (by decide)) (K 15 (by decide)), s5.fr (K 16 (by decide)) (K 17 (by decide)) (K 18 (by decide)), ⟨G, (K 19 (by decide)).trans y5, y6⟩, ⟨s7.1, fun j hj => (s7.2.1 j hj).fr (Nat.le_refl _) (fun x h1 h2 => K x (by have := wid_b (show j < 6 by omega); omega)), s7.2.2.fr (Nat.le_refl _) (fun x h1 h2 => K x (by have := wid_b (show 5 < 6 by omega); omega))⟩, s8.fr (Nat.le_refl _) (K 27 (by decide)) (K 28 (by decide)) (K 29 (by decide))⟩
theorem run_J {M : MD} {d o ci N : Nat} {ls : List (Nat × Value)} : ∀ (tb : List FE) (pcs : Nat → Nat), (∀ i q, tb[i]? = some q → ∀ p : AH × (Nat → Value), p.1.1 o = ob ci (fo N p.2) → o ≤ p.1.2.1 → J false M d (pcs i) ls [] p.1 (pcs (i + 1)) ls [] (nxa o ci N p q).1) → ∀ p : AH × (Nat → Value), p.1.1 o = ob ci (fo N p.2) → o ≤ p.1.2.1 → J false M d (pcs 0) ls [] p.1 (pcs tb.length) ls [] (runa o ci N tb p).1
  | [], _, _, _, _, _ => J.rf
  | q :: tb, pcs, st, p, h1, h2 => J.tr (st 0 q rfl p h1 h2) (run_J tb (fun i => pcs (i + 1)) (fun i z hz => st (i + 1) z hz) (nxa o ci N p q) hs_eq (Nat.le_succ_of_le h2))
def tb8 : List FE := [(false, 60, 2), (true, 60, 3), (false, 60, 4), (false, 60, 5), (false, 60, 6), (false, 6, 8), (false, 360, 9), (true, 360, 10), (false, 360, 11), (false, 360, 12), (false, 1024, 13), (true, 1024, 14), (false, 12006, 16), (false, 6, 17), (false, 6, 18), (false, 600, 19), (true, 600, 20), (false, 6, 21), (false, 600, 22), (true, 600, 23), (false, 6, 24), (false, 65536, 35), (false, 256, 36), (false, 131072, 38), (false, 512, 39), (false, 256, 49), (false, 100, 51), (true, 100, 52)]
def pc8 (i : Nat) : Nat := [4, 12, 20, 28, 36, 44, 52, 61, 70, 79, 88, 97, 106, 115, 123, 131, 140, 149, 157, 166, 175, 183, 191, 200, 208, 217, 226, 234, 242].getD i 0
theorem st8 {d : Nat} : ∀ i q, tb8[i]? = some q → ∀ p : AH × (Nat → Value), p.1.1 65 = ob 8 (fo 53 p.2) → 65 ≤ p.1.2.1 → J false mX8_init d (pc8 i) [(0, .ref 65)] [] p.1 (pc8 (i + 1)) [(0, .ref 65)] [] (nxa 65 8 53 p q).1
  | 0, q, hq => by
    obtain rfl := Option.some.inj hq
    exact fun p a b => j_X8_init_e0_1 (Nat.zero_le _) p.1 65 p.2 a b
  | 1, q, hq => by
    obtain rfl := Option.some.inj hq
    exact fun p a b => j_X8_init_e1_1 (Nat.zero_le _) p.1 65 p.2 a b
  | 2, q, hq => by
    obtain rfl := Option.some.inj hq
    exact fun p a b => j_X8_init_e2_1 (Nat.zero_le _) p.1 65 p.2 a b
  | 3, q, hq => by
    obtain rfl := Option.some.inj hq
    exact fun p a b => j_X8_init_e3_1 (Nat.zero_le _) p.1 65 p.2 a b
  | 4, q, hq => by
    obtain rfl := Option.some.inj hq
    exact fun p a b => j_X8_init_e4_1 (Nat.zero_le _) p.1 65 p.2 a b
  | 5, q, hq => by
    obtain rfl := Option.some.inj hq
    exact fun p a b => j_X8_init_e5_1 (Nat.zero_le _) p.1 65 p.2 a b
  | 6, q, hq => by
    obtain rfl := Option.some.inj hq
    exact fun p a b => j_X8_init_e6_1 (Nat.zero_le _) p.1 65 p.2 a b
  | 7, q, hq => by
    obtain rfl := Option.some.inj hq
    exact fun p a b => j_X8_init_e7_1 (Nat.zero_le _) p.1 65 p.2 a b
  | 8, q, hq => by
    obtain rfl := Option.some.inj hq
    exact fun p a b => j_X8_init_e8_1 (Nat.zero_le _) p.1 65 p.2 a b
  | 9, q, hq => by
    obtain rfl := Option.some.inj hq
    exact fun p a b => j_X8_init_e9_1 (Nat.zero_le _) p.1 65 p.2 a b
  | 10, q, hq => by
    obtain rfl := Option.some.inj hq
    exact fun p a b => j_X8_init_e10_1 (Nat.zero_le _) p.1 65 p.2 a b
  | 11, q, hq => by
    obtain rfl := Option.some.inj hq
    exact fun p a b => j_X8_init_e11_1 (Nat.zero_le _) p.1 65 p.2 a b
  | 12, q, hq => by
    obtain rfl := Option.some.inj hq
    exact fun p a b => j_X8_init_e12_1 (Nat.zero_le _) p.1 65 p.2 a b
  | 13, q, hq => by
    obtain rfl := Option.some.inj hq
    exact fun p a b => j_X8_init_e13_1 (Nat.zero_le _) p.1 65 p.2 a b
  | 14, q, hq => by
    obtain rfl := Option.some.inj hq
    exact fun p a b => j_X8_init_e14_1 (Nat.zero_le _) p.1 65 p.2 a b
  | 15, q, hq => by
    obtain rfl := Option.some.inj hq
    exact fun p a b => j_X8_init_e15_1 (Nat.zero_le _) p.1 65 p.2 a b
  | 16, q, hq => by
    obtain rfl := Option.some.inj hq
    exact fun p a b => j_X8_init_e16_1 (Nat.zero_le _) p.1 65 p.2 a b
  | 17, q, hq => by
    obtain rfl := Option.some.inj hq
    exact fun p a b => j_X8_init_e17_1 (Nat.zero_le _) p.1 65 p.2 a b
  | 18, q, hq => by
    obtain rfl := Option.some.inj hq
    exact fun p a b => j_X8_init_e18_1 (Nat.zero_le _) p.1 65 p.2 a b
  | 19, q, hq => by
    obtain rfl := Option.some.inj hq
    exact fun p a b => j_X8_init_e19_1 (Nat.zero_le _) p.1 65 p.2 a b
  | 20, q, hq => by
    obtain rfl := Option.some.inj hq
    exact fun p a b => j_X8_init_e20_1 (Nat.zero_le _) p.1 65 p.2 a b
  | 21, q, hq => by
    obtain rfl := Option.some.inj hq
    exact fun p a b => j_X8_init_e21_1 (Nat.zero_le _) p.1 65 p.2 a b
  | 22, q, hq => by
    obtain rfl := Option.some.inj hq
    exact fun p a b => j_X8_init_e22_1 (Nat.zero_le _) p.1 65 p.2 a b
  | 23, q, hq => by
    obtain rfl := Option.some.inj hq
    exact fun p a b => j_X8_init_e23_1 (Nat.zero_le _) p.1 65 p.2 a b
  | 24, q, hq => by
    obtain rfl := Option.some.inj hq
    exact fun p a b => j_X8_init_e24_1 (Nat.zero_le _) p.1 65 p.2 a b
  | 25, q, hq => by
    obtain rfl := Option.some.inj hq
    exact fun p a b => j_X8_init_e25_1 (Nat.zero_le _) p.1 65 p.2 a b
  | 26, q, hq => by
    obtain rfl := Option.some.inj hq
    exact fun p a b => j_X8_init_e26_1 (Nat.zero_le _) p.1 65 p.2 a b
  | 27, q, hq => by
    obtain rfl := Option.some.inj hq
    exact fun p a b => j_X8_init_e27_1 (Nat.zero_le _) p.1 65 p.2 a b
  | i + 28, q, hq => by cases hq
def FD : List Value := [.int 0, .int 0, .null, .null, .null, .null, .null, .int 0, .null, .null, .null, .null, .null, .null, .null, .int 0, .null, .null, .null, .null, .null, .null, .null, .null, .null, .int 0, .int 0, .int 0, .int 0, .int 0, .int 0, .int 0, .int 0, .int 0, .int 0, .null, .null, .int 0, .null, .null, .int 0, .int 0, .int 0, .int 0, .int 0, .int 0, .int 0, .int 0, .int 0, .null, .int 0, .null, .null]
def Tz : NT := (0, ((fun _ => 0), ((fun _ => 0), ((fun _ => 0), ((fun _ => 0), (fun _ => 0))))))
def Zz : ZS := (mkZ false false 0 0 0 0 [] [] 0 0 0 0 0 0 [] 0 [])
def Iz : AI := fun _ _ => 0
def Lz : AL := fun _ _ => 0
theorem i_model {h : AH} {d : Nat} (ho : h.1 65 = ob 8 (fo 53 (dfl FD))) (hn : h.2.1 = 65) (hd : 1 ≤ d) : ∃ h' F', CM mX8_init d [.ref 65] h none h' ∧ h'.2 = (93, (h.2.2.1 + 28, h.2.2.2 + 216056)) ∧ (∀ x, x < 65 → h'.1 x = h.1 x) ∧ ∀ h2 : AH, 94 ≤ h2.2.1 → (∀ x, 65 ≤ x → x ≤ 93 → h2.1 x = h'.1 x) → RZ 0 Tz Zz (76, (77, 1024)) F' Iz Lz h2 := by
  have g : ∀ j, dfl FD j = FD.getD j .null := fun _ => rfl
  generalize hF : dfl FD = F at ho
  obtain ⟨⟨a1, a2⟩, b, c, e⟩ := runa_p tb8 (h, F) ho (by show 65 ≤ h.2.1; omega) (by decide)
  have C : CM mX8_init d [.ref 65] h none (runa 65 8 53 tb8 (h, F)).1 := E.st (j_X8_init_z_1 hd h 65) (E.st (run_J tb8 pc8 st8 (h, F) ho (by show 65 ≤ h.2.1; omega)) (j_X8_init_y_1 (Nat.zero_le _) _ 65))
  have a1 : (runa 65 8 53 tb8 (h, F)).1.2 = (h.2.1 + 28, (h.2.2.1 + 28, h.2.2.2 + 216056)) := a1
  have a2 : ∀ x, x ≤ h.2.1 → x ≠ 65 → (runa 65 8 53 tb8 (h, F)).1.1 x = h.1 x := a2
  have c' : ∀ i q, tb8[i]? = some q → (runa 65 8 53 tb8 (h, F)).1.1 (66 + i) = arc q ∧ (runa 65 8 53 tb8 (h, F)).2 q.2.2 = .ref (66 + i) := fun i q hq => by
    have := c i q hq
    have n1 : (h, F).1.2.1 + 1 + i = 66 + i := by show h.2.1 + 1 + i = 66 + i; omega
    rw [n1] at this
    exact this
  have e' : ∀ j, j ∉ tb8.map (fun q => q.2.2) → (runa 65 8 53 tb8 (h, F)).2 j = FD.getD j .null := fun j hj => (e j hj).trans (by rw [← hF]; rfl)
  rw [hn] at a1
  generalize (runa 65 8 53 tb8 (h, F)).1 = h1 at *
  generalize (runa 65 8 53 tb8 (h, F)).2 = F1 at *
  refine ⟨h1, F1, C, a1, fun x hx => a2 x (by omega) (by omega), fun h2 hn2 K => ?_⟩
  have k : ∀ i q, tb8[i]? = some q → i < 28 → h2.1 (66 + i) = arc q := fun i q hq hi => (K _ (by omega) (by omega)).trans (c' i q hq).1
  have fs : FS (76, (77, 1024)) F1 := ⟨fun q hq => by
        simp only [rtab, List.mem_cons, List.not_mem_nil, or_false] at hq
        rcases hq with rfl | rfl | rfl | rfl | rfl | rfl | rfl | rfl | rfl | rfl | rfl | rfl | rfl | rfl | rfl | rfl | rfl | rfl | rfl | rfl | rfl | rfl | rfl | rfl | rfl | rfl
        · exact (c' 0 _ rfl).2
        · exact (c' 1 _ rfl).2
        · exact (c' 2 _ rfl).2
        · exact (c' 3 _ rfl).2
        · exact (c' 4 _ rfl).2
        · exact (c' 5 _ rfl).2
        · exact (c' 6 _ rfl).2
        · exact (c' 7 _ rfl).2
        · exact (c' 8 _ rfl).2
        · exact (c' 9 _ rfl).2
        · exact (c' 12 _ rfl).2
        · exact (c' 13 _ rfl).2
        · exact (c' 14 _ rfl).2
        · exact (c' 15 _ rfl).2
        · exact (c' 16 _ rfl).2
        · exact (c' 17 _ rfl).2
        · exact (c' 18 _ rfl).2
        · exact (c' 19 _ rfl).2
        · exact (c' 20 _ rfl).2
        · exact (c' 21 _ rfl).2
        · exact (c' 22 _ rfl).2
        · exact (c' 23 _ rfl).2
        · exact (c' 24 _ rfl).2
        · exact (c' 25 _ rfl).2
        · exact (c' 26 _ rfl).2
        · exact (c' 27 _ rfl).2, (c' 10 _ rfl).2, (c' 11 _ rfl).2⟩
  have mh : MH (76, (77, 1024)) F1 Iz Lz h2 := by
    refine ⟨(K 65 (by decide) (by decide)).trans b, ?_, ?_, k 10 _ rfl (by decide), k 11 _ rfl (by decide), Or.inl rfl, Or.inl rfl, by show 76 ≤ h2.2.1; omega, by show 77 ≤ h2.2.1; omega, hn2, by decide, by decide⟩
    · exact fun q hq => by
        simp only [itab, List.mem_cons, List.not_mem_nil, or_false] at hq
        rcases hq with rfl | rfl | rfl | rfl | rfl | rfl | rfl | rfl | rfl | rfl | rfl | rfl | rfl | rfl | rfl | rfl | rfl | rfl | rfl | rfl | rfl
        · exact k 0 _ rfl (by decide)
        · exact k 2 _ rfl (by decide)
        · exact k 3 _ rfl (by decide)
        · exact k 4 _ rfl (by decide)
        · exact k 5 _ rfl (by decide)
        · exact k 6 _ rfl (by decide)
        · exact k 8 _ rfl (by decide)
        · exact k 9 _ rfl (by decide)
        · exact k 12 _ rfl (by decide)
        · exact k 13 _ rfl (by decide)
        · exact k 14 _ rfl (by decide)
        · exact k 15 _ rfl (by decide)
        · exact k 17 _ rfl (by decide)
        · exact k 18 _ rfl (by decide)
        · exact k 20 _ rfl (by decide)
        · exact k 21 _ rfl (by decide)
        · exact k 22 _ rfl (by decide)
        · exact k 23 _ rfl (by decide)
        · exact k 24 _ rfl (by decide)
        · exact k 25 _ rfl (by decide)
        · exact k 26 _ rfl (by decide)
    · exact fun q hq => by
        simp only [ltab, List.mem_cons, List.not_mem_nil, or_false] at hq
        rcases hq with rfl | rfl | rfl | rfl | rfl
        · exact k 1 _ rfl (by decide)
        · exact k 7 _ rfl (by decide)
        · exact k 16 _ rfl (by decide)
        · exact k 19 _ rfl (by decide)
        · exact k 27 _ rfl (by decide)
  refine ⟨⟨mh, fs, ⟨e' 1 (by decide), (fun i hi => absurd hi (Nat.not_lt_zero _))⟩, fun j hj => ?_⟩, e' 0 (by decide), ⟨e' 29 (by decide), e' 30 (by decide), e' 31 (by decide), e' 32 (by decide), e' 33 (by decide), e' 34 (by decide), e' 37 (by decide), e' 40 (by decide), e' 41 (by decide), e' 42 (by decide), e' 43 (by decide), e' 44 (by decide), e' 45 (by decide), e' 46 (by decide), e' 47 (by decide), e' 48 (by decide), e' 50 (by decide)⟩, (fun i hi => absurd hi (Nat.not_lt_zero _)), (fun i hi => absurd hi (Nat.not_lt_zero _)), ⟨(fun j hj => absurd hj (Nat.not_lt_zero _)), (fun j hj => absurd hj (Nat.not_lt_zero _))⟩⟩
  have : j = 7 ∨ j = 15 ∨ j = 25 ∨ j = 26 ∨ j = 27 ∨ j = 28 := by omega
  rcases this with rfl | rfl | rfl | rfl | rfl | rfl
  · exact ⟨0, e' 7 (by decide)⟩
  · exact ⟨0, e' 15 (by decide)⟩
  · exact ⟨0, e' 25 (by decide)⟩
  · exact ⟨0, e' 26 (by decide)⟩
  · exact ⟨0, e' 27 (by decide)⟩
  · exact ⟨0, e' 28 (by decide)⟩
