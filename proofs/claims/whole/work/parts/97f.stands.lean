/-! THE BEGINNING: the store and the reference stand -/
theorem i_work {h : AH} {d : Nat} {F : Nat → Value} (ho : h.1 19 = ob 6 (fo 10 F)) (hn : h.2.1 = 19) (f3 : F 3 = .int 0 ∧ F 5 = .int 0 ∧ F 6 = .long 0 ∧ F 7 = .int 0 ∧ F 8 = .int 0) (hd : 4 ≤ d) : ∃ h', CM mX6_init d [.ref 19, .ref 2] h none h' ∧ h'.2 = (64, (h.2.2.1 + 45, h.2.2.2 + 1404)) ∧ (∀ x, x < 19 → h'.1 x = h.1 x) ∧ (∃ G, h'.1 19 = ob 6 (fo 10 G) ∧ G 0 = .ref 2 ∧ G 1 = .ref 20 ∧ G 2 = .ref 20 ∧ G 3 = .int 0 ∧ G 4 = .ref 27 ∧ G 5 = .int 0 ∧ G 6 = .long 0 ∧ G 7 = .int 0 ∧ G 8 = .int 0 ∧ G 9 = .ref 20) ∧ NS 5 h' ∧ TK h' 27 28 29 36000 16 [] := by
  obtain ⟨g3, g5, g6, g7, g8⟩ := f3
  have N := s_new (k := false) (M := mX6_init) (d := d) (ls := [(0, .ref 19), (1, .ref 2)]) (st := [.ref 19]) (h := h) dX6_init_5 rfl nX6_9
  have e1 := new_o (h := h) (ci := 5) (N := 12) (z := 12) (fs := [.null, .null, .int 0, .null, .null, .null, .long 0, .int 0, .int 0, .null, .int 0, .int 0]) rfl
  rw [hn] at N e1
  obtain ⟨h2, C, ⟨i1, i2⟩, wp⟩ := i_wayn e1 (Nat.succ_pos _) (show h.2.1 + 1 = 19 + 1 by rw [hn]) ⟨rfl, rfl, rfl, rfl, rfl, rfl, rfl⟩ (d := 2) (Nat.le_refl _)
  have i1 : h2.2 = (h.2.1 + 1 + 6, (h.2.2.1 + 1 + 6, h.2.2.2 + 12 + 216)) := i1
  rw [hn] at i1
  have k2 : ∀ x, x ≤ 19 → h2.1 x = h.1 x := fun x hx => (i2 x (by show x ≤ h.2.1 + 1; omega) (by omega)).trans (hw_ne (by omega))
  have J3 := j_X6_init_c_1 (d := d) (Nat.zero_le _) h2 19 2 20 F ((k2 19 (Nat.le_refl _)).trans ho)
  rw [hs_hs] at J3
  have n3 : (hs h2 19 (ob 6 (fo 10 (va_up (va_up F 1 (.ref 20)) 2 (.ref 20))))).2.1 = 26 := by show h2.2.1 = 26; rw [i1]
  have i3 : (hs h2 19 (ob 6 (fo 10 (va_up (va_up F 1 (.ref 20)) 2 (.ref 20))))).2 = h2.2 := rfl
  have o3 : (hs h2 19 (ob 6 (fo 10 (va_up (va_up F 1 (.ref 20)) 2 (.ref 20))))).1 19 = ob 6 (fo 10 (va_up (va_up F 1 (.ref 20)) 2 (.ref 20))) := hs_eq
  have k3 : ∀ x, x ≠ 19 → (hs h2 19 (ob 6 (fo 10 (va_up (va_up F 1 (.ref 20)) 2 (.ref 20))))).1 x = h2.1 x := fun x hx => hs_ne hx
  generalize hs h2 19 (ob 6 (fo 10 (va_up (va_up F 1 (.ref 20)) 2 (.ref 20)))) = h3 at *
  have N2 := s_new (k := false) (M := mX6_init) (d := d) (ls := [(0, .ref 19), (1, .ref 2)]) (st := [.ref 19]) (h := h3) dX6_init_25 rfl nX6_23
  have e2 := new_o (h := h3) (ci := 4) (N := 4) (z := 4) (fs := [.int 0, .null, .null, .int 0]) rfl
  rw [n3] at N2 e2
  obtain ⟨h4, C4, ⟨j1, j2⟩, tk⟩ := i_tok (lim := 36000) e2 (Nat.succ_pos _) (show h3.2.1 + 1 = 26 + 1 by rw [n3]) rfl (by decide) (d := 1) (Nat.le_refl _)
  have j1 : h4.2 = (h3.2.1 + 1 + 2, (h3.2.2.1 + 1 + 2, h3.2.2.2 + 4 + 32)) := j1
  rw [i3, i1] at j1
  have j1 : h4.2 = (29, (h.2.2.1 + 10, h.2.2.2 + 264)) := j1
  have k4 : ∀ x, x ≤ 26 → h4.1 x = h3.1 x := fun x hx => (j2 x (by show x ≤ h3.2.1 + 1; omega) (by omega)).trans (hw_ne (by omega))
  have J5 := j_X6_init_f_1 (d := d) (Nat.zero_le _) h4 19 2 27 _ ((k4 19 (by decide)).trans o3) 20 ((up_ne (by decide)).trans up_eq)
  rw [hs_hs, hs_hs] at J5
  have o5 := @hs_eq h4 19 (ob 6 (fo 10 (va_up (va_up (va_up (va_up (va_up F 1 (.ref 20)) 2 (.ref 20)) 4 (.ref 27)) 9 (.ref 20)) 0 (.ref 2))))
  have k5 : ∀ x, x ≠ 19 → (hs h4 19 (ob 6 (fo 10 (va_up (va_up (va_up (va_up (va_up F 1 (.ref 20)) 2 (.ref 20)) 4 (.ref 27)) 9 (.ref 20)) 0 (.ref 2))))).1 x = h4.1 x := fun x hx => hs_ne hx
  have i5 : (hs h4 19 (ob 6 (fo 10 (va_up (va_up (va_up (va_up (va_up F 1 (.ref 20)) 2 (.ref 20)) 4 (.ref 27)) 9 (.ref 20)) 0 (.ref 2))))).2 = h4.2 := rfl
  generalize hs h4 19 (ob 6 (fo 10 (va_up (va_up (va_up (va_up (va_up F 1 (.ref 20)) 2 (.ref 20)) 4 (.ref 27)) 9 (.ref 20)) 0 (.ref 2)))) = h5 at *
  have ns : NS 0 h5 := by
    refine ⟨by rw [i5, j1]; rfl, (fun j hj => absurd hj (Nat.not_lt_zero _)), ?_⟩
    refine wp.fr (by rw [i5, j1, i1]; show 19 + 1 + 6 ≤ 29; decide) (fun x h1 h2 => ?_)
    have h1 : 20 ≤ x := h1
    have h2 : x ≤ 26 := h2
    exact (k5 x (by omega)).trans ((k4 x (by omega)).trans (k3 x (by omega)))
  obtain ⟨h6, E6, s6, f6, c6⟩ := i_nest (d := 3) (Nat.le_refl _) 5 0 h5 rfl ns
  have C6 : CM mX5_nest 3 [.ref 20, .int 5] h5 none h6 := E.st (j_X5_nest_a_1 (Nat.zero_le _) h5 20 5) E6
  obtain ⟨⟨W0, w0, -⟩, -⟩ := id ns.2.2
  refine ⟨h6, E.st (j_X6_init_a_1 (by omega) h 19 2) (E.st N (E.st (j_X6_init_b_1 (Nat.zero_le _) _ 19 2 20) (E.st (s_invi (K := mX5_init) (o := 20) (as := [.null]) (rest := [.ref 20, .ref 19]) (v := none) (d' := 2) dX6_init_10 rfl lX6_11 (by omega) rfl (Nat.le_of_ble_eq_true rfl) rfl (Nat.le_of_ble_eq_true rfl) C (fun h => nomatch h)) (E.st J3 (E.st N2 (E.st (j_X6_init_e_1 (Nat.zero_le _) _ 19 2 27) (E.st (s_invi (K := mX4_init) (o := 27) (as := [.int 36000]) (rest := [.ref 27, .ref 19]) (v := none) (d' := 1) dX6_init_31 rfl lX6_26 (by omega) rfl (Nat.le_of_ble_eq_true rfl) rfl (Nat.le_of_ble_eq_true rfl) C4 (fun h => nomatch h)) (E.st J5 (E.st (s_invv (K := mX5_nest) (o := 20) (as := [.int 5]) (rest := []) (v := none) (d' := 3) dX6_init_55 rfl lX6_40 (by omega) rfl (Nat.le_of_ble_eq_true rfl) rfl (Nat.le_of_ble_eq_true rfl) w0 C6 (fun h => nomatch h)) (j_X6_init_g_1 (Nat.zero_le _) h6 19 2)))))))))), ?_, fun x hx => ?_, ⟨_, (f6 19 (by decide)).trans o5, up_eq, (up_ne (by decide)).trans ((up_ne (by decide)).trans ((up_ne (by decide)).trans ((up_ne (by decide)).trans up_eq))), (up_ne (by decide)).trans ((up_ne (by decide)).trans ((up_ne (by decide)).trans up_eq)), (up_ne (by decide)).trans ((up_ne (by decide)).trans ((up_ne (by decide)).trans ((up_ne (by decide)).trans ((up_ne (by decide)).trans g3)))), (up_ne (by decide)).trans ((up_ne (by decide)).trans up_eq), (up_ne (by decide)).trans ((up_ne (by decide)).trans ((up_ne (by decide)).trans ((up_ne (by decide)).trans ((up_ne (by decide)).trans g5)))), (up_ne (by decide)).trans ((up_ne (by decide)).trans ((up_ne (by decide)).trans ((up_ne (by decide)).trans ((up_ne (by decide)).trans g6)))), (up_ne (by decide)).trans ((up_ne (by decide)).trans ((up_ne (by decide)).trans ((up_ne (by decide)).trans ((up_ne (by decide)).trans g7)))), (up_ne (by decide)).trans ((up_ne (by decide)).trans ((up_ne (by decide)).trans ((up_ne (by decide)).trans ((up_ne (by decide)).trans g8)))), (up_ne (by decide)).trans up_eq⟩, s6, ?_⟩
  · have a : h6.2 = (h6.2.1, h6.2.2) := rfl
    rw [a, s6.1, c6, i5, j1]
    rfl
  · exact (f6 x (by omega)).trans ((k5 x (by omega)).trans ((k4 x (by omega)).trans ((k3 x (by omega)).trans (k2 x (by omega)))))
  · have kk : ∀ x, 27 ≤ x → x ≤ 29 → h6.1 x = h4.1 x := fun x h1 h2 => (f6 x (by omega)).trans (k5 x (by omega))
    refine tk.fr (by rw [j1, s6.1]; show 29 ≤ nid 5; decide) (kk 27 (by decide) (by decide)) (kk 28 (by decide) (by decide)) (kk 29 (by decide) (by decide))
theorem i_search {h : AH} {d : Nat} (ho : h.1 8 = ob 3 (fo 15 (dfl [.null, .null, .null, .null, .int 0, .int 0, .int 0, .int 0, .int 0, .int 0, .int 0, .int 0, .int 0, .int 0, .int 0]))) (hn : h.2.1 = 8) (hd : 5 ≤ d) : ∃ h', CM mX3_init d [.ref 8, .ref 2] h none h' ∧ h'.2 = (64, (h.2.2.1 + 56, h.2.2.2 + 2268)) ∧ (∀ x, x < 8 → h'.1 x = h.1 x) ∧ (∃ Q, h'.1 8 = ob 3 (fo 15 Q) ∧ Q 0 = .ref 19 ∧ Q 1 = .ref 9 ∧ Q 2 = .ref 13 ∧ Q 3 = .ref 16 ∧ Q 8 = .int 1 ∧ ∀ j, 4 ≤ j → j ≤ 14 → j ≠ 8 → Q j = .int 0) ∧ (∃ F', h'.1 9 = ob 1 (fo 4 F') ∧ F' 0 = .ref 10 ∧ F' 1 = .long 0 ∧ F' 2 = .int 0 ∧ F' 3 = .int 0) ∧ TK h' 10 11 12 100 16 [] ∧ BG h' 13 [] ∧ BG h' 16 [] ∧ (∃ G, h'.1 19 = ob 6 (fo 10 G) ∧ G 0 = .ref 2 ∧ G 1 = .ref 20 ∧ G 2 = .ref 20 ∧ G 3 = .int 0 ∧ G 4 = .ref 27 ∧ G 5 = .int 0 ∧ G 6 = .long 0 ∧ G 7 = .int 0 ∧ G 8 = .int 0 ∧ G 9 = .ref 20) ∧ NS 5 h' ∧ TK h' 27 28 29 36000 16 [] := by
  have g : ∀ j, 4 ≤ j → j ≤ 14 → dfl [.null, .null, .null, .null, .int 0, .int 0, .int 0, .int 0, .int 0, .int 0, .int 0, .int 0, .int 0, .int 0, .int 0] j = .int 0 := by
    intro j h1 h2
    have : j = 4 ∨ j = 5 ∨ j = 6 ∨ j = 7 ∨ j = 8 ∨ j = 9 ∨ j = 10 ∨ j = 11 ∨ j = 12 ∨ j = 13 ∨ j = 14 := by omega
    rcases this with q | q | q | q | q | q | q | q | q | q | q <;> subst q <;> rfl
  generalize dfl [.null, .null, .null, .null, .int 0, .int 0, .int 0, .int 0, .int 0, .int 0, .int 0, .int 0, .int 0, .int 0, .int 0] = F at ho g
  have N1 := s_new (k := false) (M := mX3_init) (d := d) (ls := [(0, .ref 8), (1, .ref 2)]) (st := [.ref 8]) (h := h) dX3_init_5 rfl nX3_9
  have e1 := new_o (h := h) (ci := 1) (N := 4) (z := 4) (fs := [.null, .long 0, .int 0, .int 0]) rfl
  rw [hn] at N1 e1
  obtain ⟨h2, C2, ⟨a1, a2⟩, ⟨L', l1, l2⟩, tk⟩ := i_latest e1 (show h.2.1 + 1 = 8 + 1 by rw [hn]) ⟨rfl, rfl, rfl⟩ (d := 2) (Nat.le_refl _)
  have a1 : h2.2 = (h.2.1 + 1 + 3, (h.2.2.1 + 1 + 3, h.2.2.2 + 4 + 36)) := a1
  rw [hn] at a1
  have k2 : ∀ x, x ≤ 8 → h2.1 x = h.1 x := fun x hx => (a2 x (by show x ≤ h.2.1 + 1; omega) (by omega)).trans (hw_ne (by omega))
  have J3 := j_X3_init_c_1 (d := d) (Nat.zero_le _) h2 8 2 9 F ((k2 8 (Nat.le_refl _)).trans ho)
  have o3 := @hs_eq h2 8 (ob 3 (fo 15 (va_up F 1 (.ref 9))))
  have k3 : ∀ x, x ≠ 8 → (hs h2 8 (ob 3 (fo 15 (va_up F 1 (.ref 9))))).1 x = h2.1 x := fun x hx => hs_ne hx
  have i3 : (hs h2 8 (ob 3 (fo 15 (va_up F 1 (.ref 9))))).2 = h2.2 := rfl
  generalize hs h2 8 (ob 3 (fo 15 (va_up F 1 (.ref 9)))) = h3 at *
  have n3 : h3.2.1 = 12 := by rw [i3, a1]
  have N2 := s_new (k := false) (M := mX3_init) (d := d) (ls := [(0, .ref 8), (1, .ref 2)]) (st := [.ref 8]) (h := h3) dX3_init_16 rfl nX3_18
  have e2 := new_o (h := h3) (ci := 0) (N := 3) (z := 3) (fs := [.null, .null, .int 0]) rfl
  rw [n3] at N2 e2
  obtain ⟨h4, C4, ⟨b1, b2⟩, bg1⟩ := i_beg e2 (show h3.2.1 + 1 = 12 + 1 by rw [n3]) rfl (d := 1) (Nat.le_refl _)
  have b1 : h4.2 = (h3.2.1 + 1 + 2, (h3.2.2.1 + 1 + 2, h3.2.2.2 + 3 + 404)) := b1
  rw [i3, a1] at b1
  have k4 : ∀ x, x ≤ 12 → h4.1 x = h3.1 x := fun x hx => (b2 x (by show x ≤ h3.2.1 + 1; omega) (by omega)).trans (hw_ne (by omega))
  have J5 := j_X3_init_f_1 (d := d) (Nat.zero_le _) h4 8 2 13 _ ((k4 8 (by decide)).trans o3)
  have o5 := @hs_eq h4 8 (ob 3 (fo 15 (va_up (va_up F 1 (.ref 9)) 2 (.ref 13))))
  have k5 : ∀ x, x ≠ 8 → (hs h4 8 (ob 3 (fo 15 (va_up (va_up F 1 (.ref 9)) 2 (.ref 13))))).1 x = h4.1 x := fun x hx => hs_ne hx
  have i5 : (hs h4 8 (ob 3 (fo 15 (va_up (va_up F 1 (.ref 9)) 2 (.ref 13))))).2 = h4.2 := rfl
  generalize hs h4 8 (ob 3 (fo 15 (va_up (va_up F 1 (.ref 9)) 2 (.ref 13)))) = h5 at *
  have n5 : h5.2.1 = 15 := by rw [i5, b1]
  have N3 := s_new (k := false) (M := mX3_init) (d := d) (ls := [(0, .ref 8), (1, .ref 2)]) (st := [.ref 8]) (h := h5) dX3_init_27 rfl nX3_18
  have e3 := new_o (h := h5) (ci := 0) (N := 3) (z := 3) (fs := [.null, .null, .int 0]) rfl
  rw [n5] at N3 e3
  obtain ⟨h6, C6, ⟨c1, c2⟩, bg2⟩ := i_beg e3 (show h5.2.1 + 1 = 15 + 1 by rw [n5]) rfl (d := 1) (Nat.le_refl _)
  have c1 : h6.2 = (h5.2.1 + 1 + 2, (h5.2.2.1 + 1 + 2, h5.2.2.2 + 3 + 404)) := c1
  rw [i5, b1] at c1
  have k6 : ∀ x, x ≤ 15 → h6.1 x = h5.1 x := fun x hx => (c2 x (by show x ≤ h5.2.1 + 1; omega) (by omega)).trans (hw_ne (by omega))
  have J7 := j_X3_init_i_1 (d := d) (Nat.zero_le _) h6 8 2 16 _ ((k6 8 (by decide)).trans o5)
  rw [hs_hs] at J7
  have o7 := @hs_eq h6 8 (ob 3 (fo 15 (va_up (va_up (va_up (va_up F 1 (.ref 9)) 2 (.ref 13)) 3 (.ref 16)) 8 (.int 1))))
  have k7 : ∀ x, x ≠ 8 → (hs h6 8 (ob 3 (fo 15 (va_up (va_up (va_up (va_up F 1 (.ref 9)) 2 (.ref 13)) 3 (.ref 16)) 8 (.int 1))))).1 x = h6.1 x := fun x hx => hs_ne hx
  have i7 : (hs h6 8 (ob 3 (fo 15 (va_up (va_up (va_up (va_up F 1 (.ref 9)) 2 (.ref 13)) 3 (.ref 16)) 8 (.int 1))))).2 = h6.2 := rfl
  generalize hs h6 8 (ob 3 (fo 15 (va_up (va_up (va_up (va_up F 1 (.ref 9)) 2 (.ref 13)) 3 (.ref 16)) 8 (.int 1)))) = h7 at *
  have n7 : h7.2.1 = 18 := by rw [i7, c1]
  have N4 := s_new (k := false) (M := mX3_init) (d := d) (ls := [(0, .ref 8), (1, .ref 2)]) (st := [.ref 8]) (h := h7) dX3_init_43 rfl nX3_32
  have e4 := new_o (h := h7) (ci := 6) (N := 10) (z := 10) (fs := [.null, .null, .null, .int 0, .null, .int 0, .long 0, .int 0, .int 0, .null]) rfl
  rw [n7] at N4 e4
  obtain ⟨h8, C8, d1, d2, wk, ns, tk2⟩ := i_work e4 (show h7.2.1 + 1 = 19 by rw [n7]) ⟨rfl, rfl, rfl, rfl, rfl⟩ (d := 4) (Nat.le_refl _)
  have d1 : h8.2 = (64, (h7.2.2.1 + 1 + 45, h7.2.2.2 + 10 + 1404)) := d1
  rw [i7, c1] at d1
  have k8 : ∀ x, x ≤ 18 → h8.1 x = h7.1 x := fun x hx => (d2 x (by omega)).trans (hw_ne (by omega))
  have J9 := j_X3_init_k_1 (d := d) (Nat.zero_le _) h8 8 2 19 _ ((k8 8 (by decide)).trans o7)
  have K : ∀ x, x ≠ 8 → (hs h8 8 (ob 3 (fo 15 (va_up (va_up (va_up (va_up (va_up F 1 (.ref 9)) 2 (.ref 13)) 3 (.ref 16)) 8 (.int 1)) 0 (.ref 19))))).1 x = h8.1 x := fun x hx => hs_ne hx
  have q7 : ∀ x, x ≤ 18 → x ≠ 8 → (hs h8 8 (ob 3 (fo 15 (va_up (va_up (va_up (va_up (va_up F 1 (.ref 9)) 2 (.ref 13)) 3 (.ref 16)) 8 (.int 1)) 0 (.ref 19))))).1 x = h6.1 x := fun x hx hn => (K x hn).trans ((k8 x hx).trans (k7 x hn))
  have q5 : ∀ x, x ≤ 15 → x ≠ 8 → (hs h8 8 (ob 3 (fo 15 (va_up (va_up (va_up (va_up (va_up F 1 (.ref 9)) 2 (.ref 13)) 3 (.ref 16)) 8 (.int 1)) 0 (.ref 19))))).1 x = h4.1 x := fun x hx hn => (q7 x (by omega) hn).trans ((k6 x hx).trans (k5 x hn))
  have q3 : ∀ x, x ≤ 12 → x ≠ 8 → (hs h8 8 (ob 3 (fo 15 (va_up (va_up (va_up (va_up (va_up F 1 (.ref 9)) 2 (.ref 13)) 3 (.ref 16)) 8 (.int 1)) 0 (.ref 19))))).1 x = h2.1 x := fun x hx hn => (q5 x (by omega) hn).trans ((k4 x hx).trans (k3 x hn))
  have m8 : h2.2.1 ≤ h8.2.1 := by rw [a1, d1]; show 12 ≤ 64; decide
  refine ⟨_, E.st (j_X3_init_a_1 (by omega) h 8 2) (E.st N1 (E.st (j_X3_init_b_1 (Nat.zero_le _) _ 8 2 9) (E.st (s_invn (K := mX1_init) (o := 9) (as := []) (rest := [.ref 9, .ref 8]) (v := none) (d' := 2) dX3_init_9 rfl lX3_11 (by omega) rfl (Nat.le_of_ble_eq_true rfl) rfl (Nat.le_of_ble_eq_true rfl) C2 (fun h => nomatch h)) (E.st J3 (E.st N2 (E.st (j_X3_init_e_1 (Nat.zero_le _) _ 8 2 13) (E.st (s_invn (K := mX0_init) (o := 13) (as := []) (rest := [.ref 13, .ref 8]) (v := none) (d' := 1) dX3_init_20 rfl lX3_20 (by omega) rfl (Nat.le_of_ble_eq_true rfl) rfl (Nat.le_of_ble_eq_true rfl) C4 (fun h => nomatch h)) (E.st J5 (E.st N3 (E.st (j_X3_init_g_1 (Nat.zero_le _) _ 8 2 16) (E.st (s_invn (K := mX0_init) (o := 16) (as := []) (rest := [.ref 16, .ref 8]) (v := none) (d' := 1) dX3_init_31 rfl lX3_20 (by omega) rfl (Nat.le_of_ble_eq_true rfl) rfl (Nat.le_of_ble_eq_true rfl) C6 (fun h => nomatch h)) (E.st J7 (E.st N4 (E.st (j_X3_init_j_1 (Nat.zero_le _) _ 8 2 19) (E.st (s_invi (K := mX6_init) (o := 19) (as := [.ref 2]) (rest := [.ref 19, .ref 8]) (v := none) (d' := 4) dX3_init_48 rfl lX3_34 (by omega) rfl (Nat.le_of_ble_eq_true rfl) rfl (Nat.le_of_ble_eq_true rfl) C8 (fun h => nomatch h)) J9))))))))))))))), d1, fun x hx => (q3 x (by omega) (by omega)).trans (k2 x (by omega)), ⟨_, hs_eq, up_eq, (up_ne (by decide)).trans ((up_ne (by decide)).trans ((up_ne (by decide)).trans ((up_ne (by decide)).trans up_eq))), (up_ne (by decide)).trans ((up_ne (by decide)).trans ((up_ne (by decide)).trans up_eq)), (up_ne (by decide)).trans ((up_ne (by decide)).trans up_eq), (up_ne (by decide)).trans up_eq, fun j j1 j2 j3 => (up_ne (by omega)).trans ((up_ne (by omega)).trans ((up_ne (by omega)).trans ((up_ne (by omega)).trans ((up_ne (by omega)).trans (g j j1 j2)))))⟩, ⟨L', (q3 9 (by decide) (by decide)).trans l1, l2⟩, tk.fr m8 (q3 10 (by decide) (by decide)) (q3 11 (by decide) (by decide)) (q3 12 (by decide) (by decide)), bg1.fr (q5 13 (by decide) (by decide)) (q5 14 (by decide) (by decide)) (q5 15 (by decide) (by decide)), bg2.fr (q7 16 (by decide) (by decide)) (q7 17 (by decide) (by decide)) (q7 18 (by decide) (by decide)), ?_, ⟨ns.1, fun j hj => (ns.2.1 j hj).fr (Nat.le_refl _) (fun x h1 h2 => K x (by have := wid_b (show j < 6 by omega); omega)), ns.2.2.fr (Nat.le_refl _) (fun x h1 h2 => K x (by have := wid_b (show 5 < 6 by omega); omega))⟩, tk2.fr (Nat.le_refl _) (K 27 (by decide)) (K 28 (by decide)) (K 29 (by decide))⟩
  obtain ⟨G, w1, w2⟩ := wk
  exact ⟨G, (K 19 (by decide)).trans w1, w2⟩
