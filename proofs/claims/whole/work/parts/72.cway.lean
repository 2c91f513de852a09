/-! the class's search: one way, and going on -/
def stopQ (S : SS) (u : Row) : SS := if qMo S = 2 then (mkQ (qTh S) (qSp S) (qGo S) (qMo S) (qBo S) (qWe S) (qPe S) (qLa S) (qPl S) (qVa S) (qFa S) (qGu S) (qCu S + 1) (qRo S) (qLb S) (qTk S)) else (mkQ (qTh S) (qSp S) (qGo S) (qMo S) (qBo S) (qWe S) (qPe S) (qLa S ++ [u ++ [false], u ++ [true]]) (qPl S) (qVa S) (qFa S) (qGu S) (qCu S) (qRo S) (qLb S) (qTk S))
def endQ (S : SS) (u : Row) (e lab : Nat) (tk : List Tok) : Bool × SS := if e = 0 then (true, (mkQ (qTh S) (qSp S) (qGo S) (qMo S) (qBo S) (qWe S) (qPe S) (qLa S) (qPl S) (qVa S + 1) (qFa S) (qGu S) (qCu S) (u) (lab) (tk))) else if e = 1 then (false, (mkQ (qTh S) (qSp S) (qGo S) (qMo S) (qBo S) (qWe S) (qPe S) (qLa S) (qPl S) (qVa S) (qFa S + 1) (qGu S) (qCu S) (qRo S) (qLb S) (qTk S))) else if e = 3 then (false, stopQ S u) else (false, (mkQ (qTh S) (qSp S) (qGo S) (qMo S) (qBo S) (qWe S) (qPe S) (qLa S) (qPl S) (qVa S) (qFa S) (qGu S + 1) (qCu S) (qRo S) (qLb S) (qTk S)))
theorem way_end {T : NT} {S : SS} {row : Row} {rest : List Row} (h : ¬ 200 - qPl S ≤ dcs (runP T (qGo S) (tQ S row)) - row.length) : wayQ T S row rest = endQ (mkQ (qTh S) (qSp S) (qGo S) (qMo S) (qBo S) (qWe S) (othQ (tQ S row) row.length (dcs (runP T (qGo S) (tQ S row)) - row.length) ++ rest) (qLa S) (qPl S + (dcs (runP T (qGo S) (tQ S row)) - row.length) + 1) (qVa S) (qFa S) (qGu S) (qCu S) (qRo S) (qLb S) (qTk S)) ((tQ S row).take (dcs (runP T (qGo S) (tQ S row)))) (runP T (qGo S) (tQ S row)).1 (sLab (runP T (qGo S) (tQ S row)).2) (sFull (runP T (qGo S) (tQ S row)).2 0) := by
  unfold wayQ endQ stopQ
  dsimp only
  rw [if_neg h]
  split
  · rfl
  · split
    · rfl
    · split
      · split
        · rfl
        · rfl
      · rfl
theorem nI_mo {m k : Nat} (hm : m ≤ 2) (hk : k ≤ 2) (n : m ≠ k) : ¬ nI m = nI k := by
  have : ∀ m, m ≤ 2 → ∀ k, k ≤ 2 → m ≠ k → ¬ nI m = nI k := by decide
  exact this m hm k hk n
theorem c_put16 {T : NT} {S : SS} {σ : St} {κ : KP} {w : WR} {h : AH} (r : RKx T S σ κ w h) (u : Row) {G : Nat → Value} {f : Nat → Int64} {g : Nat → Int32} (hF : G 0 = .ref 17 ∧ G 1 = .ref 18) (hfg : ∀ i, i < (qLa S).length → f i = lN (bv ((qLa S).getD i [])) ∧ g i = nI ((qLa S).getD i []).length) (hl : (qLa S).length < 202) : RKx T (mkQ (qTh S) (qSp S) (qGo S) (qMo S) (qBo S) (qWe S) (qPe S) (qLa S ++ [u]) (qPl S) (qVa S) (qFa S) (qGu S) (qCu S) (qRo S) (qLb S) (qTk S)) σ κ w (hs (hs (hs h 17 (la 202 (vp_updL f (qLa S).length (lN (bv u))))) 18 (ia 202 (upd g (qLa S).length (nI u.length)))) 16 (ob 0 (fo 3 (va_up G 2 (.int (nI ((qLa S).length + 1))))))) ∧ CG h κ (hs (hs (hs h 17 (la 202 (vp_updL f (qLa S).length (lN (bv u))))) 18 (ia 202 (upd g (qLa S).length (nI u.length)))) 16 (ob 0 (fo 3 (va_up G 2 (.int (nI ((qLa S).length + 1))))))) κ := by
  obtain ⟨-, rs, b1, b2, b3, -⟩ := id r
  have k : ∀ x, x < 16 → (hs (hs (hs h 17 (la 202 (vp_updL f (qLa S).length (lN (bv u))))) 18 (ia 202 (upd g (qLa S).length (nI u.length)))) 16 (ob 0 (fo 3 (va_up G 2 (.int (nI ((qLa S).length + 1))))))).1 x = h.1 x := fun x hx => (hs_ne (by omega)).trans ((hs_ne (by omega)).trans (hs_ne (by omega)))
  exact r.low rfl (fun x hx => (hs_ne (by omega)).trans ((hs_ne (by omega)).trans (hs_ne (by omega)))) (rs.fr (k 8 (by decide))) (b1.fr (k _ (by decide)) (k _ (by decide)) (k _ (by decide))) (BG.put (h := h) (o := 16) hF hfg hl u) (b3.fr (k 9 (by decide))) rfl
theorem c_stop {T : NT} {S : SS} {σ : St} {κ : KP} {w : WR} {h : AH} {d : Nat} (r : RKx T S σ κ w h) {u : Row} (hu : u.length < 60) (hm : qMo S ≤ 2) (hl : (qLa S).length ≤ 200) (hd : 1 ≤ d) : ∃ h', CM mX3_stopAtDecision d [.ref 8, .long (lN (bv u)), .int (nI u.length)] h none h' ∧ RKx T (stopQ S u) σ κ w h' ∧ CG h κ h' κ := by
  obtain ⟨-, ⟨Q, q, s0, s1, s2, s3, s4, s5, s6, s7, s8, s9, s10, s11, s12, s13, s14⟩, b1, b2, b3, -⟩ := id r
  unfold stopQ
  by_cases m2 : qMo S = 2
  · rw [if_pos m2]
    have A := j_X3_stopAtDecision_a_2 (d := d) (Nat.zero_le _) h (lN (bv u)) (nI u.length) Q q _ s7 (by rw [m2]; rfl) _ s14
    rw [nI_1] at A
    obtain ⟨r1, g1⟩ := r.at8 (S' := (mkQ (qTh S) (qSp S) (qGo S) (qMo S) (qBo S) (qWe S) (qPe S) (qLa S) (qPl S) (qVa S) (qFa S) (qGu S) (qCu S + 1) (qRo S) (qLb S) (qTk S))) (c := ob 3 (fo 15 (va_up Q 14 (.int (nI (qCu S + 1)))))) ⟨_, hs_eq, (up_ne (by decide)).trans (s0), (up_ne (by decide)).trans (s1), (up_ne (by decide)).trans (s2), (up_ne (by decide)).trans (s3), (up_ne (by decide)).trans (s4), (up_ne (by decide)).trans (s5), (up_ne (by decide)).trans (s6), (up_ne (by decide)).trans (s7), (up_ne (by decide)).trans (s8), (up_ne (by decide)).trans (s9), (up_ne (by decide)).trans (s10), (up_ne (by decide)).trans (s11), (up_ne (by decide)).trans (s12), (up_ne (by decide)).trans (s13), up_eq⟩ rfl rfl rfl rfl rfl
    exact ⟨_, A, r1, g1⟩
  · rw [if_neg m2]
    obtain ⟨G, f, g, a, x1, x2, x3, x4, x5, x6, x7⟩ := id b2
    have A := j_X3_stopAtDecision_a_1 (d := d) (by omega) h (lN (bv u)) (nI u.length) Q q _ s7 (nI_mo hm (by decide) m2) s3 G a _ x3 x2 202 g x5 (nI_ge (by omega) (by omega)) x1 202 f x4 (vp_in_nI (by omega) (by decide)) (vp_in_nI (by omega) (by decide))
    have e1 : (u ++ [false]).length = u.length + 1 := by rw [List.length_append]; rfl
    have e2 : (u ++ [true]).length = u.length + 1 := by rw [List.length_append]; rfl
    have v1 : bv (u ++ [false]) = bv u := bv_rep u 1
    have v2 : bv (u ++ [true]) = bv u + 1 * 2 ^ u.length := bv_snoc rfl
    rw [nI_1, nI_1, nI_clamp (by omega), ← e1] at A
    obtain ⟨r1, g1⟩ := c_put16 r (u ++ [false]) ⟨x1, x2⟩ x6 (by omega)
    rw [v1] at r1 g1
    clear s0 s1 s2 s3 s4 s5 s6 s7 s8 s9 s10 s11 s12 s13 s14 q
    obtain ⟨-, ⟨Q, q, s0, s1, s2, s3, s4, s5, s6, s7, s8, s9, s10, s11, s12, s13, s14⟩, -, b4, -, -⟩ := id r1
    obtain ⟨G', f', g', a', y1, y2, y3, y4, y5, y6, y7⟩ := id b4
    have l1 : (qLa (mkQ (qTh S) (qSp S) (qGo S) (qMo S) (qBo S) (qWe S) (qPe S) (qLa S ++ [u ++ [false]]) (qPl S) (qVa S) (qFa S) (qGu S) (qCu S) (qRo S) (qLb S) (qTk S))).length = (qLa S).length + 1 := by
      show (qLa S ++ [u ++ [false]]).length = _
      rw [List.length_append]
      rfl
    rw [l1] at y3
    have B := j_X3_stopAtDecision_b_1 (d := d) (by omega) _ (lN (bv u)) (nI u.length) Q q s3 _ (one_shl hu) G' a' _ y3 y2 202 g' y5 (nI_ge (by omega) (by omega)) y1 202 f' y4 (vp_in_nI (by omega) (by decide)) (vp_in_nI (by omega) (by decide))
    rw [or_bit (bv_lt u) hu, ← v2, nI_1, nI_1, nI_clamp (by omega), ← e2] at B
    obtain ⟨r2, g2⟩ := c_put16 r1 (u ++ [true]) ⟨y1, y2⟩ y6 (by omega)
    rw [l1] at r2 g2
    refine ⟨_, E.st A B, ?_, g1.tr g2⟩
    have : qLa S ++ [u ++ [false]] ++ [u ++ [true]] = qLa S ++ [u ++ [false], u ++ [true]] := by rw [List.append_assoc]; rfl
    rw [← this]
    exact r2
theorem c_ends {T : NT} {S : SS} {σ : St} {κ : KP} {w : WR} {h : AH} {d e : Nat} (r : RKx T S σ κ w h) (he : e ≤ 3) {u : Row} (hu : u.length = sCome σ 0) (h3 : e = 3 → u.length < 60) (h0 : e = 0 → (sFull σ 0).length ≤ 100) (hm : qMo S ≤ 2) (hl : (qLa S).length ≤ 200) (hd : 6 ≤ d) : ∃ κ' h', CM mX3_endsAsValue d [.ref 8, .int (nI e), .long (lN (bv u))] h (some (.int (bI (endQ S u e (sLab σ) (sFull σ 0)).1))) h' ∧ RKx T (endQ S u e (sLab σ) (sFull σ 0)).2 σ κ' w h' ∧ CG h κ h' κ' := by
  obtain ⟨⟨rc, -⟩, ⟨Q, q, s0, s1, s2, s3, s4, s5, s6, s7, s8, s9, s10, s11, s12, s13, s14⟩, b1, b2, ⟨LF, lf, -⟩, -⟩ := id r
  unfold endQ
  by_cases z0 : e = 0
  · rw [if_pos z0]
    have A := j_X3_endsAsValue_a_1 (d := d) (Nat.zero_le _) h (nI e) (lN (bv u)) (by rw [z0]; rfl) Q q _ s11 s1 s0
    rw [nI_1] at A
    obtain ⟨r1, g1⟩ := r.at8 (S' := (mkQ (qTh S) (qSp S) (qGo S) (qMo S) (qBo S) (qWe S) (qPe S) (qLa S) (qPl S) (qVa S + 1) (qFa S) (qGu S) (qCu S) (qRo S) (qLb S) (qTk S))) (c := ob 3 (fo 15 (va_up Q 11 (.int (nI (qVa S + 1)))))) ⟨_, hs_eq, (up_ne (by decide)).trans (s0), (up_ne (by decide)).trans (s1), (up_ne (by decide)).trans (s2), (up_ne (by decide)).trans (s3), (up_ne (by decide)).trans (s4), (up_ne (by decide)).trans (s5), (up_ne (by decide)).trans (s6), (up_ne (by decide)).trans (s7), (up_ne (by decide)).trans (s8), (up_ne (by decide)).trans (s9), (up_ne (by decide)).trans (s10), up_eq, (up_ne (by decide)).trans (s12), (up_ne (by decide)).trans (s13), (up_ne (by decide)).trans (s14)⟩ rfl rfl rfl rfl rfl
    obtain ⟨κ', h', c1, r2, g2⟩ := c_keepLatest r1 (d := d - 1) (by omega) (h0 z0) u hu
    exact ⟨κ', h', E.st A (E.st (s_invv dX3_endsAsValue_51 rfl lX3_129 (by omega) rfl (Nat.le_of_ble_eq_true rfl) rfl (Nat.le_of_ble_eq_true rfl) (by exact (hs_ne (by decide)).trans lf) c1 (fun h => nomatch h)) (j_X3_endsAsValue_b_1 (Nat.zero_le _) h')), r2, g1.tr g2⟩
  · rw [if_neg z0]
    by_cases z1 : e = 1
    · rw [if_pos z1]
      have A := j_X3_endsAsValue_a_2 (d := d) (Nat.zero_le _) h (nI e) (lN (bv u)) (by rw [z1]; rfl) Q q _ s12
      rw [nI_1] at A
      obtain ⟨r1, g1⟩ := r.at8 (S' := (mkQ (qTh S) (qSp S) (qGo S) (qMo S) (qBo S) (qWe S) (qPe S) (qLa S) (qPl S) (qVa S) (qFa S + 1) (qGu S) (qCu S) (qRo S) (qLb S) (qTk S))) (c := ob 3 (fo 15 (va_up Q 12 (.int (nI (qFa S + 1)))))) ⟨_, hs_eq, (up_ne (by decide)).trans (s0), (up_ne (by decide)).trans (s1), (up_ne (by decide)).trans (s2), (up_ne (by decide)).trans (s3), (up_ne (by decide)).trans (s4), (up_ne (by decide)).trans (s5), (up_ne (by decide)).trans (s6), (up_ne (by decide)).trans (s7), (up_ne (by decide)).trans (s8), (up_ne (by decide)).trans (s9), (up_ne (by decide)).trans (s10), (up_ne (by decide)).trans (s11), up_eq, (up_ne (by decide)).trans (s13), (up_ne (by decide)).trans (s14)⟩ rfl rfl rfl rfl rfl
      exact ⟨_, _, A, r1, g1⟩
    · rw [if_neg z1]
      by_cases z3 : e = 3
      · rw [if_pos z3]
        obtain ⟨K, F, k1, k2, k3, k4, k5, k6, -⟩ := rc.way0
        have A := j_X3_endsAsValue_a_4 (d := d) (by omega) h (nI e) (lN (bv u)) (by rw [z3]; rfl) Q q s0 K k1 k2 F k4 _ k5
        rw [← hu] at A
        obtain ⟨h', c1, r2, g2⟩ := c_stop r (d := 1) (h3 z3) hm hl (Nat.le_refl _)
        exact ⟨κ, h', E.st A (E.st (s_invv dX3_endsAsValue_77 rfl lX3_133 (by omega) rfl (Nat.le_of_ble_eq_true rfl) rfl (Nat.le_of_ble_eq_true rfl) q c1 (fun h => nomatch h)) (j_X3_endsAsValue_c_1 (Nat.zero_le _) h')), r2, g2⟩
      · rw [if_neg z3]
        have A := j_X3_endsAsValue_a_3 (d := d) (Nat.zero_le _) h (nI e) (lN (bv u)) (by rw [show e = 2 by omega]; rfl) Q q _ s13
        rw [nI_1] at A
        obtain ⟨r1, g1⟩ := r.at8 (S' := (mkQ (qTh S) (qSp S) (qGo S) (qMo S) (qBo S) (qWe S) (qPe S) (qLa S) (qPl S) (qVa S) (qFa S) (qGu S + 1) (qCu S) (qRo S) (qLb S) (qTk S))) (c := ob 3 (fo 15 (va_up Q 13 (.int (nI (qGu S + 1)))))) ⟨_, hs_eq, (up_ne (by decide)).trans (s0), (up_ne (by decide)).trans (s1), (up_ne (by decide)).trans (s2), (up_ne (by decide)).trans (s3), (up_ne (by decide)).trans (s4), (up_ne (by decide)).trans (s5), (up_ne (by decide)).trans (s6), (up_ne (by decide)).trans (s7), (up_ne (by decide)).trans (s8), (up_ne (by decide)).trans (s9), (up_ne (by decide)).trans (s10), (up_ne (by decide)).trans (s11), (up_ne (by decide)).trans (s12), up_eq, (up_ne (by decide)).trans (s14)⟩ rfl rfl rfl rfl rfl
        exact ⟨_, _, A, r1, g1⟩
theorem most_1 {S : SS} (h : qMo S = 1) : mostQ S = qWe S - 1 := by unfold mostQ; rw [if_pos h]
theorem most_2 {S : SS} (h : qMo S = 2) : mostQ S = qBo S := by unfold mostQ; rw [if_neg (by omega), if_pos h]
theorem most_0 {S : SS} (h1 : qMo S ≠ 1) (h2 : qMo S ≠ 2) : mostQ S = 60 := by unfold mostQ; rw [if_neg h1, if_neg h2]
theorem nI_min {a b : Nat} (ha : a < 2 ^ 31) (hb : b < 2 ^ 31) : (if nI a < nI b then nI a else nI b) = nI (min b a) := by
  rw [nI_ite a b ha hb]
  congr 1
  split <;> omega
theorem c_way1 {T : NT} {S : SS} {σ : St} {κ : KP} {w : WR} {h : AH} {d : Nat} (hT : wfT T) (r : RKx T S σ κ w h) (si : SI T S) (hp : qPl S < 200) {row : Row} {rest : List Row} (e : qPe S = row :: rest) (hd : 1 ≤ d) : ∃ h', J false mX3_comesToValue d 0 [(0, .ref 8)] [] h 53 [(0, .ref 8), (1, .long (lN (bv row))), (3, .int (nI row.length)), (4, .int (nI (200 - qPl S)))] [.int (nI (tQ S row).length), .long (lN (bv (tQ S row))), .int (nI (qGo S)), .ref 19] h' ∧ RKx T (mkQ (qTh S) (qSp S) (qGo S) (qMo S) (qBo S) (qWe S) (rest) (qLa S) (qPl S) (qVa S) (qFa S) (qGu S) (qCu S) (qRo S) (qLb S) (qTk S)) σ κ w h' ∧ CG h κ h' κ := by
  obtain ⟨-, ⟨Q, q, s0, s1, s2, s3, s4, s5, s6, s7, s8, s9, s10, s11, s12, s13, s14⟩, b1, b2, b3, -⟩ := id r
  have b1 : BG h 13 (qPe S).reverse := b1
  rw [e, List.reverse_cons] at b1
  obtain ⟨G, f, g, a, x1, x2, x3, x4, x5, x6, x7, x8, x9⟩ := b1.drop
  obtain ⟨l1, l2, l3, l4⟩ := t_len hT si e
  have l60 := row_len hT si.1 l4
  have mo := si.2.1
  have bo := si.2.2.1
  have we : qMo S = 1 → 1 ≤ qWe S ∧ qWe S ≤ 120 := fun q => by
    obtain ⟨_, h4, _, h6⟩ := si.2.2.2.2.2.2.2.1 q
    have := h4 row (by rw [e]; exact List.mem_cons_self)
    omega
  obtain ⟨r1, g1⟩ := r.low (S' := (mkQ (qTh S) (qSp S) (qGo S) (qMo S) (qBo S) (qWe S) (rest) (qLa S) (qPl S) (qVa S) (qFa S) (qGu S) (qCu S) (qRo S) (qLb S) (qTk S))) (h' := hs h 13 (ob 0 (fo 3 (va_up G 2 (.int (nI rest.reverse.length)))))) rfl (fun x hx => hs_ne (by omega)) (RSo.fr ⟨Q, q, s0, s1, s2, s3, s4, s5, s6, s7, s8, s9, s10, s11, s12, s13, s14⟩ (hs_ne (by decide))) x9 (b2.fr (hs_ne (by decide)) (hs_ne (by decide)) (hs_ne (by decide))) (b3.fr (hs_ne (by decide))) rfl
  refine ⟨_, ?_, r1, g1⟩
  have p2 : nI 200 - nI (qPl S) = nI (200 - qPl S) := pk_sub (by omega)
  rw [bv_tQ, l2]
  by_cases m1 : qMo S = 1
  · have w1 := we m1
    have A := j_X3_comesToValue_a_1 (d := d) hd h Q q s2 G a _ x3 (nI_nle (by omega) (by omega)) x1 202 f x4 (nI_nlt (by omega) (by omega)) (by rw [nI_pred]; exact vp_in_nI (by omega) (by decide)) x2 202 g x5 (nI_nlt (by omega) (by omega)) (by rw [nI_pred]; exact vp_in_nI (by omega) (by decide)) _ s10 s0 _ s6 _ s7 (by rw [m1]; rfl) _ s9
    rw [nI_pred, nI_clamp (by omega), x6, x7] at A
    rw [most_1 m1, ← nI_min (by omega) (by omega), ← nI_add, ← p2]
    have p3 : nI (qWe S) - 1 = nI (qWe S - 1) := pk_sub (b := 1) (by omega)
    rw [← p3]
    exact A
  · by_cases m2 : qMo S = 2
    · have A := j_X3_comesToValue_a_2 (d := d) hd h Q q s2 G a _ x3 (nI_nle (by omega) (by omega)) x1 202 f x4 (nI_nlt (by omega) (by omega)) (by rw [nI_pred]; exact vp_in_nI (by omega) (by decide)) x2 202 g x5 (nI_nlt (by omega) (by omega)) (by rw [nI_pred]; exact vp_in_nI (by omega) (by decide)) _ s10 s0 _ s6 _ s7 (by rw [m2]; rfl) _ s8
      rw [nI_pred, nI_clamp (by omega), x6, x7] at A
      rw [most_2 m2, ← nI_min (by omega) (by omega), ← nI_add, ← p2]
      exact A
    · have m0 : qMo S = 0 := by omega
      have A := j_X3_comesToValue_a_3 (d := d) hd h Q q s2 G a _ x3 (nI_nle (by omega) (by omega)) x1 202 f x4 (nI_nlt (by omega) (by omega)) (by rw [nI_pred]; exact vp_in_nI (by omega) (by decide)) x2 202 g x5 (nI_nlt (by omega) (by omega)) (by rw [nI_pred]; exact vp_in_nI (by omega) (by decide)) _ s10 s0 _ s6 _ s7 (by rw [m0]; decide) (by rw [m0]; decide)
      rw [nI_pred, nI_clamp (by omega), x6, x7] at A
      rw [most_0 m1 m2, ← nI_min (by omega) (by omega), ← nI_add, ← p2]
      exact A
theorem bI_narrow (b : Bool) : narrow .boolean (.int (bI b)) = .int (bI b) := by cases b <;> rfl
theorem c_comes {T : NT} {S : SS} {σ : St} {κ : KP} {w : WR} {h : AH} {d : Nat} (hT : wfT T) (r : RKx T S σ κ w h) (si : SI T S) (hp : qPl S < 200) {row : Row} {rest : List Row} (e : qPe S = row :: rest) (hd : 621 ≤ d) : ∃ σ' κ' w' h', CM mX3_comesToValue d [.ref 8] h (some (.int (bI (wayQ T S row rest).1))) h' ∧ RKx T (wayQ T S row rest).2 σ' κ' w' h' ∧ CG h κ h' κ' := by
  obtain ⟨h1, A, r1, g1⟩ := c_way1 hT r si hp e (d := d) (by omega)
  obtain ⟨l1, l2, l3, l4⟩ := t_len hT si e
  obtain ⟨c1, c2, c3, c4, c5⟩ := way_c hT si e
  have l60 := row_len hT si.1 l4
  have mo := si.2.1
  have bo := si.2.2.1
  have len : (qPe S).length + (qLa S).length ≤ qPl S + 1 := si.2.2.2.2.2.2.1
  rw [e] at len
  have len : rest.length + 1 + (qLa S).length ≤ qPl S + 1 := len
  have bl : bv row < 2 ^ 60 := Nat.lt_of_lt_of_le (bv_lt row) (Nat.pow_le_pow_right (by decide) l60)
  obtain ⟨⟨rc1, k1⟩, -⟩ := id r1
  have tl : (tQ S row).length < 2 ^ 30 := by
    rw [l2]
    omega
  obtain ⟨κ2, w2, h2, G, rc2, f2⟩ := c_goWay hT rc1 k1 si.1 (t := tQ S row) (by rw [bv_tQ]; exact bl) tl (d := d - 1) (by omega)
  obtain ⟨W19, w19, -⟩ := rc1.2.1
  have lev : sLev (runP T (qGo S) (tQ S row)).2 = 0 := (run_post hT si.1 (tQ S row)).2.1.1
  have r2 := r1.work f2 rc2 lev
  have pf := (run_post hT si.1 (tQ S row)).2.2.2.2.1
  generalize hrr : runP T (qGo S) (tQ S row) = rr at *
  have hc : dcs rr = sCome rr.2 0 := rfl
  obtain ⟨-, ⟨Q, q, s0, s1, s2, s3, s4, s5, s6, s7, s8, s9, s10, s11, s12, s13, s14⟩, -⟩ := id r2
  obtain ⟨K, F, y1, y2, y3, y4, y5, y6, -⟩ := rc2.way0
  rw [← hc] at y5
  have ps : nI (dcs rr) - nI row.length = nI (dcs rr - row.length) := pk_sub (by omega)
  have C : J false mX3_comesToValue d 53 [(0, .ref 8), (1, .long (lN (bv row))), (3, .int (nI row.length)), (4, .int (nI (200 - qPl S)))] [.int (nI (tQ S row).length), .long (lN (bv (tQ S row))), .int (nI (qGo S)), .ref 19] h1 56 [(0, .ref 8), (1, .long (lN (bv row))), (3, .int (nI row.length)), (4, .int (nI (200 - qPl S)))] [.int (nI rr.1)] h2 := (s_invv (K := mX6_goWay) (o := 19) (as := [.int (nI (qGo S)), .long (lN (bv (tQ S row))), .int (nI (tQ S row).length)]) (rest := []) (v := some (.int (nI rr.1))) dX3_comesToValue_53 rfl lX3_115 (by omega) rfl (Nat.le_of_ble_eq_true rfl) rfl (Nat.le_of_ble_eq_true rfl) w19 G (fun h => nomatch h))
  by_cases k : 200 - qPl S ≤ dcs rr - row.length
  · have B := j_X3_comesToValue_b_2 (d := d) (by omega) h2 (lN (bv row)) (nI row.length) (nI (200 - qPl S)) (nI rr.1) Q q s0 K y1 y2 F y4 _ y5 _ s10 (by rw [ps]; exact nI_nlt (by omega) (by omega))
    rw [ps, nI_add, hs_hs] at B
    have we : wayQ T S row rest = (false, (mkQ (qTh S) (true) (qGo S) (qMo S) (qBo S) (qWe S) (rest) (qLa S) (qPl S + (dcs rr - row.length)) (qVa S) (qFa S) (qGu S) (qCu S) (qRo S) (qLb S) (qTk S))) := by
      unfold wayQ
      dsimp only
      rw [hrr, if_pos k]
    rw [we]
    obtain ⟨r3, g3⟩ := r2.at8 (S' := (mkQ (qTh S) (true) (qGo S) (qMo S) (qBo S) (qWe S) (rest) (qLa S) (qPl S + (dcs rr - row.length)) (qVa S) (qFa S) (qGu S) (qCu S) (qRo S) (qLb S) (qTk S))) (c := ob 3 (fo 15 (va_up (va_up Q 10 (.int (nI (qPl S + (dcs rr - row.length))))) 5 (.int 1)))) ⟨_, hs_eq, (up_ne (by decide)).trans ((up_ne (by decide)).trans (s0)), (up_ne (by decide)).trans ((up_ne (by decide)).trans (s1)), (up_ne (by decide)).trans ((up_ne (by decide)).trans (s2)), (up_ne (by decide)).trans ((up_ne (by decide)).trans (s3)), (up_ne (by decide)).trans ((up_ne (by decide)).trans (s4)), up_eq, (up_ne (by decide)).trans ((up_ne (by decide)).trans (s6)), (up_ne (by decide)).trans ((up_ne (by decide)).trans (s7)), (up_ne (by decide)).trans ((up_ne (by decide)).trans (s8)), (up_ne (by decide)).trans ((up_ne (by decide)).trans (s9)), (up_ne (by decide)).trans (up_eq), (up_ne (by decide)).trans ((up_ne (by decide)).trans (s11)), (up_ne (by decide)).trans ((up_ne (by decide)).trans (s12)), (up_ne (by decide)).trans ((up_ne (by decide)).trans (s13)), (up_ne (by decide)).trans ((up_ne (by decide)).trans (s14))⟩ rfl rfl rfl rfl rfl
    exact ⟨_, _, _, _, E.st A (E.st C B), r3, (g1.tr f2.g).tr g3⟩
  · have B := j_X3_comesToValue_b_1 (d := d) (by omega) h2 (lN (bv row)) (nI row.length) (nI (200 - qPl S)) (nI rr.1) Q q s0 K y1 y2 F y4 _ y5 _ s10 (by rw [ps]; exact nI_lt (by omega) (by omega))
    rw [ps, nI_add] at B
    obtain ⟨r3, g3⟩ := r2.at8 (S' := (mkQ (qTh S) (qSp S) (qGo S) (qMo S) (qBo S) (qWe S) (rest) (qLa S) (qPl S + (dcs rr - row.length)) (qVa S) (qFa S) (qGu S) (qCu S) (qRo S) (qLb S) (qTk S))) (c := ob 3 (fo 15 (va_up Q 10 (.int (nI (qPl S + (dcs rr - row.length))))))) ⟨_, hs_eq, (up_ne (by decide)).trans (s0), (up_ne (by decide)).trans (s1), (up_ne (by decide)).trans (s2), (up_ne (by decide)).trans (s3), (up_ne (by decide)).trans (s4), (up_ne (by decide)).trans (s5), (up_ne (by decide)).trans (s6), (up_ne (by decide)).trans (s7), (up_ne (by decide)).trans (s8), (up_ne (by decide)).trans (s9), up_eq, (up_ne (by decide)).trans (s11), (up_ne (by decide)).trans (s12), (up_ne (by decide)).trans (s13), (up_ne (by decide)).trans (s14)⟩ rfl rfl rfl rfl rfl
    obtain ⟨h4, P, r4, g4⟩ := c_putOther (T := T) (κ := κ2) (w := w2) (t := tQ S row) (row := row) (rest := rest) (P := fun pl pe => (mkQ (qTh S) (qSp S) (qGo S) (qMo S) (qBo S) (qWe S) (pe) (qLa S) (pl) (qVa S) (qFa S) (qGu S) (qCu S) (qRo S) (qLb S) (qTk S))) (fun pl pe => ⟨rfl, rfl, rfl, rfl, rfl, fun h => Iff.rfl⟩) (qPl S + (dcs rr - row.length)) hc.symm c2 c3 (fun k hk => take_tQ hk) (by omega) (d := 2) (Nat.le_refl _) (dcs rr - row.length) row.length _ (by omega) (Nat.le_refl _) (by
      rw [Nat.sub_self]
      exact r3)
    have PO : CM mX3_putOtherAlternatives 2 [.ref 8, .long (lN (bv row)), .int (nI row.length)] _ none h4 := E.st (j_X3_putOtherAlternatives_a_1 (Nat.zero_le _) _ (lN (bv row)) (nI row.length)) P
    clear s0 s1 s2 s3 s4 s5 s6 s7 s8 s9 s10 s11 s12 s13 s14
    obtain ⟨-, ⟨Q4, q4, s0, s1, s2, s3, s4, s5, s6, s7, s8, s9, s10, s11, s12, s13, s14⟩, -⟩ := id r4
    have D := j_X3_comesToValue_c_1 (d := d) (Nat.zero_le _) h4 (lN (bv row)) (nI row.length) (nI rr.1) Q4 q4 _ s10
    rw [nI_1] at D
    obtain ⟨r5, g5⟩ := r4.at8 (S' := (mkQ (qTh S) (qSp S) (qGo S) (qMo S) (qBo S) (qWe S) (othQ (tQ S row) row.length (dcs rr - row.length) ++ rest) (qLa S) (qPl S + (dcs rr - row.length) + 1) (qVa S) (qFa S) (qGu S) (qCu S) (qRo S) (qLb S) (qTk S))) (c := ob 3 (fo 15 (va_up Q4 10 (.int (nI (qPl S + (dcs rr - row.length) + 1)))))) ⟨_, hs_eq, (up_ne (by decide)).trans (s0), (up_ne (by decide)).trans (s1), (up_ne (by decide)).trans (s2), (up_ne (by decide)).trans (s3), (up_ne (by decide)).trans (s4), (up_ne (by decide)).trans (s5), (up_ne (by decide)).trans (s6), (up_ne (by decide)).trans (s7), (up_ne (by decide)).trans (s8), (up_ne (by decide)).trans (s9), up_eq, (up_ne (by decide)).trans (s11), (up_ne (by decide)).trans (s12), (up_ne (by decide)).trans (s13), (up_ne (by decide)).trans (s14)⟩ rfl rfl rfl rfl rfl
    have lu : ((tQ S row).take (dcs rr)).length = dcs rr := by rw [List.length_take]; omega
    obtain ⟨κ6, h6, N, r6, g6⟩ := c_ends r5 (e := rr.1) c4 (u := (tQ S row).take (dcs rr)) lu (fun q => by have := c5 q; omega) (fun q => (pf q).2.1) mo (by show (qLa S).length ≤ 200; omega) (d := d - 1) (by omega)
    rw [take_tQ c1] at N
    have we := way_end (T := T) (S := S) (row := row) (rest := rest) (by rw [hrr]; exact k)
    rw [hrr] at we
    rw [we]
    obtain ⟨-, ⟨Q5, q5, -⟩, -⟩ := id r5
    obtain ⟨-, ⟨Q3, q3, -⟩, -⟩ := id r3
    exact ⟨_, _, _, _, E.st A (E.st C (E.st B (E.st (s_invv dX3_comesToValue_97 rfl lX3_122 (by omega) rfl (Nat.le_of_ble_eq_true rfl) rfl (Nat.le_of_ble_eq_true rfl) q3 PO (fun h => nomatch h)) (E.st D (E.st (s_invv dX3_comesToValue_114 rfl lX3_125 (by omega) rfl (Nat.le_of_ble_eq_true rfl) rfl (Nat.le_of_ble_eq_true rfl) q5 N (fun h => nomatch h)) (j_X3_comesToValue_d_1 (Nat.zero_le _) h6 _ (bI_narrow _))))))), r6, (((((g1.tr f2.g).tr g3).tr g4).tr g5).tr g6)⟩
