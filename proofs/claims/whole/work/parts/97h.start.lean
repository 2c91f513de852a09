/-! THE LAW'S BEGINNING: the store, the reference, the place for an answer -/
def Sz : SS := mkQ false false 0 0 1 0 [] [] 0 0 0 0 0 [] 0 []
def σz : St := mkS (fun _ => 0) (fun _ _ => some jx) (fun _ => []) (fun _ => 0) (fun _ => []) (fun _ => []) (fun _ => 0) 0 0 [] 0 0
def κz (o : Nat) : Nat × (Nat × Nat) := (o + 1, (o + 2, 16))
theorem wp_v {k : Nat} {ar inn : Value} {h : AH} (w : WP (wid k) ar inn h) : RWv k (fun _ => some jx) h := by
  obtain ⟨-, ⟨a, b, c⟩, -⟩ := w
  exact ⟨_, _, _, a, b, c, fun i _ => Or.inl rfl⟩
theorem wp_o {k : Nat} {inn : Value} {h : AH} (w : WP (wid k) (arK k) inn h) (e : inn = (if k = 5 then .null else .ref (wid (k + 1)))) : RWo k 0 0 0 0 0 0 h := by
  obtain ⟨⟨F, a, f0, f1, f2, f3, f4, f5, f6, f7, f8, f9, f10, f11⟩, -⟩ := w
  exact ⟨F, a, f0, f1.trans e, f2, f3, f4, f5, f6, f7, f8, f9, f10, f11⟩
theorem wp_t {k : Nat} {ar inn : Value} {h : AH} (w : WP (wid k) ar inn h) : TKk κz h (wid k + 4) 200 [] := w.2.2
theorem ns_r {h : AH} (s : NS 5 h) {k : Nat} (hk : k < 6) : RWo k 0 0 0 0 0 0 h ∧ RWv k (fun _ => some jx) h ∧ TKk κz h (wid k + 4) 200 [] := by
  obtain ⟨-, s1, s2⟩ := s
  by_cases e : k = 5
  · subst e
    exact ⟨wp_o s2 rfl, wp_v s2, wp_t s2⟩
  · have w := s1 k (by omega)
    exact ⟨wp_o w (if_neg e).symm, wp_v w, wp_t w⟩
theorem sepz {h : AH} (hn : 94 ≤ h.2.1) : Sep κz h := by
  refine ⟨hn, fun o ho => ⟨Or.inl rfl, Or.inl rfl, ?_, ?_⟩, fun o o' _ _ e => ⟨fun q => e ?_, fun q => e ?_⟩⟩
  · show o + 1 ≤ h.2.1
    rcases ho with rfl | ⟨k, hk, rfl⟩
    · omega
    · have := wid_b hk
      omega
  · show o + 2 ≤ h.2.1
    rcases ho with rfl | ⟨k, hk, rfl⟩
    · omega
    · have := wid_b hk
      omega
  · exact Nat.succ.inj q
  · exact Nat.succ.inj (Nat.succ.inj q)
theorem seplz {h : AH} (hn : 94 ≤ h.2.1) : SepL κz h := by
  refine ⟨Or.inl rfl, Or.inl rfl, Nat.le_trans (by decide) hn, Nat.le_trans (by decide) hn, fun o ho => ?_⟩
  have ne : o ≠ 10 := by
    rcases ho with rfl | ⟨k, hk, rfl⟩
    · decide
    · have := wid_b hk
      omega
  exact ⟨fun q => ne (Nat.succ.inj q), fun q => ne (Nat.succ.inj (Nat.succ.inj q))⟩
theorem apz : AP κz (76, (77, 1024)) := by
  intro o ho
  have : o ≤ 62 := by
    rcases ho with (rfl | ⟨k, hk, rfl⟩) | rfl
    · decide
    · have := wid_b hk
      omega
    · decide
  exact ⟨fun q => by have : o + 1 = 76 := q; omega, fun q => by have : o + 2 = 77 := q; omega⟩
theorem logz : LOG Tz Sz Zz := ⟨⟨Nat.zero_le _, (fun i hi => absurd hi (Nat.not_lt_zero _))⟩, ⟨⟨⟨rfl, rfl, rfl, rfl, rfl⟩, rfl, rfl, rfl, rfl⟩, (fun q => by cases q)⟩, (fun q => by cases q), Nat.zero_le _⟩
theorem costz : PC κz = 74344 ∧ PZ κz = 297888 := by decide
theorem l_start {h : AH} {d n : Nat} {xs : Nat → Int32} (hz : h.1 0 = ia n xs) (hn : h.2 = (0, (0, 0))) (hd : 7 ≤ d) : ∃ h', J true mL_law d 0 [(0, .ref 0)] [] h 23 [(0, .ref 0), (1, .ref 1), (2, .ref 65), (3, .ref 94), (4, .int (nI (4 * 0)))] [] h' ∧ WW Tz Tz Sz Zz 0 145414 800493 n xs h' := by
  have n0 : h.2.1 = 0 := by rw [hn]
  have N1 := s_new (k := true) (M := mL_law) (d := d) (ls := [(0, .ref 0)]) (st := []) (h := h) dL_law_0 rfl nL_8
  have e1 := new_o (h := h) (ci := 7) (N := 2) (z := 2) (fs := [.null, .null]) rfl
  have i1 : (hw h (ob 7 [.null, .null]) 2).2 = (1, (1, 2)) := by show (h.2.1 + 1, (h.2.2.1 + 1, h.2.2.2 + 2)) = _; rw [hn]
  have z1 : (hw h (ob 7 [.null, .null]) 2).1 0 = h.1 0 := hw_ne (by omega)
  rw [n0] at N1 e1
  generalize hw h (ob 7 [.null, .null]) 2 = h1 at *
  obtain ⟨h2, C2, a1, a0, ax, nd, so, lt, t10, b13, b16, g19, ns, t27⟩ := i_store e1 (by rw [i1]) (d := 6) (Nat.le_refl _)
  rw [i1] at a1
  have N2 := s_new (k := true) (M := mL_law) (d := d) (ls := [(0, .ref 0), (1, .ref 1)]) (st := []) (h := h2) dL_law_8 rfl nL_55
  have e2 := new_o (h := h2) (ci := 8) (N := 53) (z := 53) (fs := FD) rfl
  have i2 : (hw h2 (ob 8 FD) 53).2 = (65, (65, 2644)) := by show (h2.2.1 + 1, (h2.2.2.1 + 1, h2.2.2.2 + 53)) = _; rw [a1]
  have n2 : h2.2.1 = 64 := by rw [a1]
  have k3 : ∀ x, x ≤ 64 → (hw h2 (ob 8 FD) 53).1 x = h2.1 x := fun x hx => hw_ne (by omega)
  have N2 : J true mL_law d 8 [(0, .ref 0), (1, .ref 1)] [] h2 11 [(0, .ref 0), (1, .ref 1)] [.ref (h2.2.1 + 1)] (hw h2 (ob 8 FD) 53) := N2
  rw [n2] at N2 e2
  generalize hw h2 (ob 8 FD) 53 = h3 at *
  obtain ⟨h4, F', C4, b1, b2, rz⟩ := i_model e2 (by rw [i2]) (d := 1) (Nat.le_refl _)
  rw [i2] at b1
  have n4 : h4.2.1 = 93 := by rw [b1]
  have S5 := j_L_law_s_1 (d := d) (Nat.zero_le _) h4 65
  have i5 : (hw h4 (la 1 (fun _ => 0)) 1).2 = (94, (94, 218701)) := by show (h4.2.1 + 1, (h4.2.2.1 + 1, h4.2.2.2 + 1)) = _; rw [b1]
  have k5 : ∀ x, x ≤ 93 → (hw h4 (la 1 (fun _ => 0)) 1).1 x = h4.1 x := fun x hx => hw_ne (by omega)
  have e5 := @hw_eq h4 (la 1 (fun _ => 0)) 1
  rw [n4] at S5 e5
  generalize hw h4 (la 1 (fun _ => 0)) 1 = h5 at *
  have n5 : h5.2.1 = 94 := by rw [i5]
  have K : ∀ x, x ≤ 64 → h5.1 x = h2.1 x := fun x hx => (k5 x (by omega)).trans ((b2 x (by omega)).trans (k3 x hx))
  have le : h2.2.1 ≤ h5.2.1 := by omega
  refine ⟨h5, J.tr N1 (J.tr (j_L_law_p_1 (Nat.zero_le _) _ 1) (J.tr (s_invi (K := mX7_init) (o := 1) (as := []) (rest := [.ref 1]) (v := none) (d' := 6) dL_law_4 rfl lL_54 (by omega) rfl (Nat.le_of_ble_eq_true rfl) rfl (Nat.le_of_ble_eq_true rfl) C2 (fun _ => a0)) (J.tr (j_L_law_q_1 (Nat.zero_le _) _ 1) (J.tr N2 (J.tr (j_L_law_r_1 (Nat.zero_le _) _ 65) (J.tr (s_invi (K := mX8_init) (o := 65) (as := []) (rest := [.ref 65]) (v := none) (d' := 1) dL_law_12 rfl lL_57 (by omega) rfl (Nat.le_of_ble_eq_true rfl) rfl (Nat.le_of_ble_eq_true rfl) C4 (fun _ => b2 0 (by decide))) S5)))))), σz, κz, (0, (0, (0, (0, 20)))), (76, (77, 1024)), F', Iz, Lz, ?_⟩
  obtain ⟨X, x1, x2⟩ := ax
  obtain ⟨Q, q1, q2, q3, q4, q5, q6, q7⟩ := so
  obtain ⟨L', l1, l2⟩ := lt
  obtain ⟨G, g1, g2⟩ := g19
  have fw : ∀ k, k < 6 → RWo k 0 0 0 0 0 0 h5 ∧ RWv k (fun _ => some jx) h5 ∧ TKk κz h5 (wid k + 4) 200 [] := fun k hk => by
    obtain ⟨w1, w2, w3⟩ := ns_r ns hk
    have := wid_b hk
    exact ⟨w1.fr (K _ (by omega)), w2.fr (K _ (by omega)) (K _ (by omega)) (K _ (by omega)), TK.fr w3 le (K _ (by omega)) (K _ (by show wid k + 4 + 1 ≤ 64; omega)) (K _ (by show wid k + 4 + 2 ≤ 64; omega))⟩
  refine ⟨X, (fun _ => 0), ⟨⟨⟨nd.fr (fun x _ hx => K x (by omega)), ⟨G, (K 19 (by decide)).trans g1, g2⟩, fun k hk => ?_, fun k _ hk => ?_, TK.fr t27 le (K _ (by decide)) (K _ (by decide)) (K _ (by decide)), sepz (by omega), by decide, by decide⟩, rfl⟩, ?_, b13.fr (K _ (by decide)) (K _ (by decide)) (K _ (by decide)), b16.fr (K _ (by decide)) (K _ (by decide)) (K _ (by decide)), ⟨L', (K 9 (by decide)).trans l1, l2⟩, TK.fr t10 le (K _ (by decide)) (K _ (by decide)) (K _ (by decide)), seplz (by omega)⟩, rz h5 (by omega) (fun x _ hx => k5 x hx), apz, ⟨(K 1 (by decide)).trans x1, x2⟩, e5, ⟨?_, ?_⟩, (K 0 (by decide)).trans (a0.trans (z1.trans hz))⟩
  · obtain rfl : k = 0 := Nat.le_zero.mp hk
    obtain ⟨w1, w2, w3⟩ := fw 0 (by decide)
    exact ⟨0, w1, fun q => absurd rfl q, by decide, w2, w3⟩
  · obtain ⟨w1, w2, w3⟩ := fw k hk
    exact ⟨0, 0, 0, 0, 0, 0, _, _, w1, w2, w3⟩
  · exact ⟨Q, (K 8 (by decide)).trans q1, q2, q3, q4, q5, q7 4 (by decide) (by decide) (by decide), q7 5 (by decide) (by decide) (by decide), q7 6 (by decide) (by decide) (by decide), q7 7 (by decide) (by decide) (by decide), q6, q7 9 (by decide) (by decide) (by decide), q7 10 (by decide) (by decide) (by decide), q7 11 (by decide) (by decide) (by decide), q7 12 (by decide) (by decide) (by decide), q7 13 (by decide) (by decide) (by decide), q7 14 (by decide) (by decide) (by decide)⟩
  · rw [costz.1, i5]
    exact Nat.le_refl _
  · rw [costz.2, i5]
    exact Nat.le_refl _
theorem l_whole {h : AH} {n : Nat} {xs : Nat → Int32} (hz : h.1 0 = ia n xs) (hn : h.2 = (0, (0, 0))) (hl : n ≤ 2048) : ∃ h', E true mL_law 700 0 [(0, .ref 0)] [] h (some (.int 1)) h' ∧ h'.2.2.1 ≤ 145926 ∧ h'.2.2.2 ≤ 803565 := by
  obtain ⟨h1, J1, W⟩ := l_start hz hn (d := 700) (by decide)
  obtain ⟨h2, E2, c1, c2⟩ := l_loop (d := 700) (by decide) hl 512 0 Tz Sz Zz 0 145414 800493 h1 W logz (Nat.zero_le _) (by omega)
  exact ⟨h2, E.st J1 E2, c1, c2⟩
