/-! the class's search, step by step -/
theorem RKx.at8 {T : NT} {S S' : SS} {σ : St} {κ : KP} {w : WR} {h : AH} {c : AC} (r : RKx T S σ κ w h) (a : RSo S' (hs h 8 c)) (e1 : qPe S' = qPe S) (e2 : qLa S' = qLa S) (e3 : qRo S' = qRo S) (e4 : qLb S' = qLb S) (e5 : qTk S' = qTk S) : RKx T S' σ κ w (hs h 8 c) ∧ CG h κ (hs h 8 c) κ := by
  obtain ⟨-, -, b, c', d, -⟩ := id r
  exact r.low rfl (fun x hx => hs_ne (by omega)) a (by rw [e1]; exact b.fr (hs_ne (by decide)) (hs_ne (by decide)) (hs_ne (by decide))) (by rw [e2]; exact c'.fr (hs_ne (by decide)) (hs_ne (by decide)) (hs_ne (by decide))) (by rw [e3, e4]; exact d.fr (hs_ne (by decide))) e5
theorem c_open {T : NT} {S : SS} {σ : St} {κ : KP} {w : WR} {h : AH} {d : Nat} (r : RKx T S σ κ w h) (hp : qPe S = []) (hd : 2 ≤ d) : ∃ h', CM mX3_openNextWindow d [.ref 8] h none h' ∧ RKx T (opQ S) σ κ w h' ∧ CG h κ h' κ := by
  obtain ⟨-, ⟨Q, q, s0, s1, s2, s3, s4, s5, s6, s7, s8, s9, s10, s11, s12, s13, s14⟩, b1, b2, b3, -⟩ := id r
  obtain ⟨F, f, g, a, x1, x2, x3, x4, x5, x6, x7⟩ := id b2
  cases e : qLa S with
  | nil =>
    have eo : opQ S = S := by unfold opQ; rw [hp, e]
    rw [eo]
    rw [e] at x3
    exact ⟨h, j_X3_openNextWindow_a_2 (by omega) h Q q s3 F a _ x3 rfl, r, CG.rf _ _⟩
  | cons y ys =>
    have eo : opQ S = mkQ (qTh S) (qSp S) (qGo S) (qMo S) (qBo S) (qWe S + qBo S) (y :: ys) [] (qPl S) (qVa S) (qFa S) (qGu S) (qCu S) (qRo S) (qLb S) (qTk S) := by unfold opQ; rw [hp, e]
    rw [e] at x3 x7 b2
    have A := j_X3_openNextWindow_a_1 (d := d) (by omega) h Q q s3 F a _ x3 (nI_ne0 (by simp) (by omega)) _ s9 _ s8 s2
    rw [nI_add] at A
    have b1' : BG (hs h 8 (ob 3 (fo 15 (va_up Q 9 (.int (nI (qWe S + qBo S))))))) 13 [] := by
      have : BG h 13 (qPe S).reverse := b1
      rw [hp] at this
      exact this.fr (hs_ne (by decide)) (hs_ne (by decide)) (hs_ne (by decide))
    have b2' : BG (hs h 8 (ob 3 (fo 15 (va_up Q 9 (.int (nI (qWe S + qBo S))))))) 16 (y :: ys) := b2.fr (hs_ne (by decide)) (hs_ne (by decide)) (hs_ne (by decide))
    obtain ⟨F2, _, _, a2, _, _, y3, _⟩ := id b2'
    obtain ⟨F3, _, _, a3, _⟩ := id b1'
    obtain ⟨h', z1, z2, z3, z4, z5⟩ := c_takeAll (h := h) (d := 1) (Nat.le_refl _) (y :: ys) [] (by simp only [List.length_nil]; omega) _ b1' b2'
    have CT : CM mX0_takeAllOf 1 [.ref 13, .ref 16] (hs h 8 (ob 3 (fo 15 (va_up Q 9 (.int (nI (qWe S + qBo S))))))) none h' := E.st (j_X0_takeAllOf_a_1 (Nat.zero_le _) _ F2 a2 _ y3) z1
    rw [eo]
    obtain ⟨r2, g2⟩ := r.low (S' := mkQ (qTh S) (qSp S) (qGo S) (qMo S) (qBo S) (qWe S + qBo S) (y :: ys) [] (qPl S) (qVa S) (qFa S) (qGu S) (qCu S) (qRo S) (qLb S) (qTk S)) (h' := h') z2 (fun x hx => (z3 x (by omega)).trans (hs_ne (by omega))) ⟨_, (z3 8 (by omega)).trans hs_eq, (up_ne (by decide)).trans (s0), (up_ne (by decide)).trans (s1), (up_ne (by decide)).trans (s2), (up_ne (by decide)).trans (s3), (up_ne (by decide)).trans (s4), (up_ne (by decide)).trans (s5), (up_ne (by decide)).trans (s6), (up_ne (by decide)).trans (s7), (up_ne (by decide)).trans (s8), up_eq, (up_ne (by decide)).trans (s10), (up_ne (by decide)).trans (s11), (up_ne (by decide)).trans (s12), (up_ne (by decide)).trans (s13), (up_ne (by decide)).trans (s14)⟩ (by rw [List.nil_append] at z4; exact z4) z5 (b3.fr ((z3 9 (by omega)).trans (hs_ne (by decide)))) rfl
    exact ⟨h', E.st A (E.st (s_invv dX3_openNextWindow_31 rfl lX3_91 (by omega) rfl (Nat.le_of_ble_eq_true rfl) rfl (Nat.le_of_ble_eq_true rfl) a3 CT (fun h => nomatch h)) (j_X3_openNextWindow_b_1 (Nat.zero_le _) h')), r2, g2⟩
theorem RC.way0 {T : NT} {σ : St} {κ : KP} {w : WR} {h : AH} (r : RC T σ κ w h) : ∃ K F : Nat → Value, h.1 19 = ob 6 (fo 10 K) ∧ K 1 = .ref 20 ∧ K 3 = .int (nI (sLab σ)) ∧ h.1 20 = ob 5 (fo 12 F) ∧ F 7 = .int (nI (sCome σ 0)) ∧ F 9 = .ref 24 ∧ TKk κ h 24 200 (sFull σ 0) := by
  obtain ⟨-, ⟨K, k, k0, k1, k2, k3, -⟩, wy, -⟩ := r
  obtain ⟨li, ⟨F, a, f0, f1, f2, f3, f4, f5, f6, f7, f8, f9, -⟩, -, -, -, t⟩ := wy 0 (Nat.zero_le _)
  exact ⟨K, F, k, k1, k3, a, f7, f9, t⟩
theorem c_putOther {T : NT} {σ : St} {κ : KP} {w : WR} {d : Nat} {t row : Row} {rest : List Row} {c : Nat} {P : Nat → List Row → SS} (hP : ∀ pl pe, qPe (P pl pe) = pe ∧ qLa (P pl pe) = qLa (P 0 []) ∧ qRo (P pl pe) = qRo (P 0 []) ∧ qLb (P pl pe) = qLb (P 0 []) ∧ qTk (P pl pe) = qTk (P 0 []) ∧ ∀ h, RSo (P pl pe) h ↔ RSo (P pl []) h) (pl : Nat) (hc : sCome σ 0 = c) (htc : c ≤ t.length) (hc60 : c ≤ 60) (hrt : ∀ k, row.length ≤ k → bv (t.take k) = bv row) (hl : c - row.length + rest.length ≤ 202) (hd : 2 ≤ d) : ∀ (m k : Nat) (h : AH), k + m = c → row.length ≤ k → RKx T (P pl (othQ t row.length (k - row.length) ++ rest)) σ κ w h → ∃ h', E false mX3_putOtherAlternatives d 3 [(0, .ref 8), (1, .long (lN (bv row))), (3, .int (nI row.length)), (4, .int (nI k))] [] h none h' ∧ RKx T (P pl (othQ t row.length (c - row.length) ++ rest)) σ κ w h' ∧ CG h κ h' κ := by
  intro m
  induction m with
  | zero =>
    intro k h hk hr r
    have ek : k = c := by omega
    subst ek
    obtain ⟨⟨rc, l0⟩, ⟨Q, q, s0, s1, s2, s3, s4, s5, s6, s7, s8, s9, s10, s11, s12, s13, s14⟩, -⟩ := id r
    obtain ⟨K, F, k1, k2, k3, k4, k5, k6, -⟩ := rc.way0
    rw [hc] at k5
    exact ⟨h, j_X3_putOtherAlternatives_b_1 (by omega) h _ _ _ Q q s0 K k1 k2 F k4 _ k5 (nI_le (Nat.le_refl _) (by omega)), r, CG.rf _ _⟩
  | succ m ih =>
    intro k h hk hr r
    obtain ⟨⟨rc, l0⟩, ⟨Q, q, s0, s1, s2, sx⟩, b1, b2, b3, -⟩ := id r
    obtain ⟨K, F, k1, k2, k3, k4, k5, k6, -⟩ := rc.way0
    rw [hc] at k5
    have b1 : BG h 13 (othQ t row.length (k - row.length) ++ rest).reverse := by rw [← (hP pl (othQ t row.length (k - row.length) ++ rest)).1]; exact b1
    have lb : (othQ t row.length (k - row.length) ++ rest).reverse.length = k - row.length + rest.length := by rw [List.length_reverse, List.length_append, oth_len]
    obtain ⟨G, f, g, a, x1, x2, x3, x4, x5, x6, x7⟩ := id b1
    rw [lb] at x3
    have lt : (t.take k).length = k := by rw [List.length_take]; omega
    have bl : bv row < 2 ^ k := Nat.lt_of_lt_of_le (bv_lt row) (Nat.pow_le_pow_right (by decide) hr)
    have B := j_X3_putOtherAlternatives_b_2 (d := d) (by omega) h (lN (bv row)) (nI row.length) (nI k) Q q s0 K k1 k2 F k4 _ k5 (nI_ge (by omega) (by omega)) s2 _ (one_shl (by omega)) G a _ x3 x2 202 g x5 (nI_ge (by omega) (by omega)) x1 202 f x4 (vp_in_nI (by omega) (by decide)) (vp_in_nI (by omega) (by decide))
    have ev : bv (t.take k ++ [true]) = bv row + 1 * 2 ^ k := by rw [bv_snoc lt, hrt k hr]
    have el : (t.take k ++ [true]).length = k + 1 := by rw [List.length_append, lt]; rfl
    rw [or_bit bl (by omega), ← ev, nI_1, nI_1, nI_clamp (by omega), ← el, ← lb] at B
    have eo : othQ t row.length (k + 1 - row.length) ++ rest = (t.take k ++ [true]) :: (othQ t row.length (k - row.length) ++ rest) := by
      rw [show k + 1 - row.length = (k - row.length) + 1 by omega]
      show (t.take (row.length + (k - row.length)) ++ [true]) :: othQ t row.length (k - row.length) ++ rest = _
      rw [show row.length + (k - row.length) = k by omega]
      rfl
    have bp := BG.put (h := h) (o := 13) (bs := (othQ t row.length (k - row.length) ++ rest).reverse) ⟨x1, x2⟩ x6 (by omega) (t.take k ++ [true])
    obtain ⟨p1, p2, p3, p4, p5, p6⟩ := hP pl (othQ t row.length (k + 1 - row.length) ++ rest)
    obtain ⟨q1, q2, q3, q4, q5, q6⟩ := hP pl (othQ t row.length (k - row.length) ++ rest)
    rw [lb] at B bp
    obtain ⟨r2, g2⟩ := r.low (S' := P pl (othQ t row.length (k + 1 - row.length) ++ rest)) (h' := hs (hs (hs h 14 (la 202 (vp_updL f (k - row.length + rest.length) (lN (bv (t.take k ++ [true])))))) 15 (ia 202 (upd g (k - row.length + rest.length) (nI (t.take k ++ [true]).length)))) 13 (ob 0 (fo 3 (va_up G 2 (.int (nI (k - row.length + rest.length + 1))))))) rfl (fun x hx => (hs_ne (by omega)).trans ((hs_ne (by omega)).trans (hs_ne (by omega)))) ((p6 _).mpr ((q6 _).mp (r.2.1.fr ((hs_ne (by decide)).trans ((hs_ne (by decide)).trans (hs_ne (by decide))))))) (by
      rw [p1, eo, List.reverse_cons]
      exact bp) (by rw [p2, ← q2]; exact b2.fr ((hs_ne (by decide)).trans ((hs_ne (by decide)).trans (hs_ne (by decide)))) ((hs_ne (by decide)).trans ((hs_ne (by decide)).trans (hs_ne (by decide)))) ((hs_ne (by decide)).trans ((hs_ne (by decide)).trans (hs_ne (by decide))))) (by rw [p3, p4, ← q3, ← q4]; exact b3.fr ((hs_ne (by decide)).trans ((hs_ne (by decide)).trans (hs_ne (by decide))))) (by rw [p5, q5])
    rw [el] at B r2
    obtain ⟨h', y1, y2, y3⟩ := ih (k + 1) _ (by omega) (by omega) r2
    rw [el] at g2
    exact ⟨h', E.st B y1, y2, g2.tr y3⟩
/-- the latest value's tokens are written -/
theorem RKx.at10 {T : NT} {S : SS} {σ : St} {κ : KP} {w : WR} {h h' : AH} {ra rb cap : Nat} {ts : List Tok} (r : RKx T S σ κ w h) (t : TK h' 10 ra rb 100 cap ts) (f : TFr h h' 10 (κ 10).1 (κ 10).2.1 ra rb 100 (κ 10).2.2 cap) : RKx T (mkQ (qTh S) (qSp S) (qGo S) (qMo S) (qBo S) (qWe S) (qPe S) (qLa S) (qPl S) (qVa S) (qFa S) (qGu S) (qCu S) (qRo S) (qLb S) ts) σ (va_up κ 10 (ra, (rb, cap))) w h' ∧ CG h κ h' (va_up κ 10 (ra, (rb, cap))) := by
  obtain ⟨⟨rc, l0⟩, a, b, c, d, e, g1, g2, g3, g4, g5⟩ := r
  obtain ⟨r1, r2, r3, r4, r5, r6, r7, r8⟩ := rc
  obtain ⟨f1, f2, f3, f4, f5, f6, f7⟩ := f
  have s94 := r6.1
  have keep : ∀ x, x ≤ 94 → x ≠ 10 → x ≠ 11 → x ≠ 12 → h'.1 x = h.1 x := fun x hx n0 n1 n2 => f4 x (by omega) n0 (by rcases g1 with q | q <;> omega) (by rcases g2 with q | q <;> omega)
  obtain ⟨F0, u0, v0, t1, t2, t3, t4, t5, t6, t7, -⟩ := id e
  have T1 : ∀ o lim ts, TE o → TKk κ h o lim ts → TKk (va_up κ 10 (ra, (rb, cap))) h' o lim ts := fun o lim ts ho tt => by
    have ol := ho.le
    unfold TKk at tt ⊢
    rw [up_ne (by omega)]
    obtain ⟨F, f, g, y1, y2, y3, y4, y5, y6, y7, -⟩ := id tt
    obtain ⟨x1, x2, x3, x4⟩ := r6.2.1 o ho
    obtain ⟨z1, z2⟩ := g5 o ho
    exact tt.fr f1 (keep o (by omega) (by omega) (by omega) (by omega)) (f4 _ x3 (Ne.symm (ne_oi t1 y6)) z1 (ne_il y6 t7)) (f4 _ x4 (Ne.symm (ne_ol t1 y7)) (Ne.symm (ne_il t6 y7)) z2)
  have ew : ∀ k, k < 6 → ∀ x, wid k ≤ x → x ≤ wid k + 3 → h'.1 x = h.1 x := fun k hk x h1 h2 => by
    have := wid_b hk
    exact keep x (by omega) (by omega) (by omega) (by omega)
  have up : ∀ o, TE o → va_up κ 10 (ra, (rb, cap)) o = κ o := fun o ho => up_ne (fun q => not_TE10 (q ▸ ho))
  have pc : Phc (va_up κ 10 (ra, (rb, cap))) = Phc κ ∧ Phs (va_up κ 10 (ra, (rb, cap))) = Phs κ := by
    have e : ∀ n, n ≤ 6 → smc (va_up κ 10 (ra, (rb, cap))) n = smc κ n ∧ sms (va_up κ 10 (ra, (rb, cap))) n = sms κ n := by
      intro n
      induction n with
      | zero => intro _; exact ⟨rfl, rfl⟩
      | succ n ih =>
        intro hn
        obtain ⟨i1, i2⟩ := ih (by omega)
        have := wid_b (show n < 6 by omega)
        unfold smc sms
        rw [i1, i2, up_ne (by omega)]
        exact ⟨rfl, rfl⟩
    unfold Phc Phs
    rw [(e 6 (Nat.le_refl _)).1, (e 6 (Nat.le_refl _)).2, up_ne (by decide)]
    exact ⟨rfl, rfl⟩
  refine ⟨⟨⟨⟨r1.fr (fun x _ _ => keep x (by omega) (by omega) (by omega) (by omega)), r2.fr (keep 19 (by omega) (by omega) (by omega) (by omega)), fun k h1 => (r3 k h1).fr (ew k (by omega)) (fun ts => T1 _ _ _ (TEk (by omega))), fun k h1 h2 => (r4 k h1 h2).fr (ew k h2) (fun ts => T1 _ _ _ (TEk h2)), T1 _ _ _ TE27 r5, ⟨by omega, fun o ho => ?_, fun o o' ho ho' n => ?_⟩, r7, r8⟩, l0⟩, a.fr (keep 8 (by omega) (by omega) (by omega) (by omega)), b.fr (keep _ (by omega) (by omega) (by omega) (by omega)) (keep _ (by omega) (by omega) (by omega) (by omega)) (keep _ (by omega) (by omega) (by omega) (by omega)), c.fr (keep _ (by omega) (by omega) (by omega) (by omega)) (keep _ (by omega) (by omega) (by omega) (by omega)) (keep _ (by omega) (by omega) (by omega) (by omega)), d.fr (keep _ (by omega) (by omega) (by omega) (by omega)), ?_, ?_⟩, ⟨f1, f2, f3⟩, fun x hx hr hn => f4 x hx (by omega) (hn 10 (Or.inr rfl)).1 (hn 10 (Or.inr rfl)).2, fun o ho => ?_, ?_, ?_⟩
  · rw [up o ho]
    obtain ⟨x1, x2, x3, x4⟩ := r6.2.1 o ho
    exact ⟨x1, x2, by omega, by omega⟩
  · rw [up o ho, up o' ho']
    exact r6.2.2 o o' ho ho' n
  · unfold TKk
    rw [up_eq]
    exact t
  · have key : ((ra = (κ 10).1 ∧ rb = (κ 10).2.1) ∨ (h.2.1 < ra ∧ h.2.1 < rb ∧ ra ≤ h'.2.1 ∧ rb ≤ h'.2.1)) := f5
    refine ⟨?_, ?_, ?_, ?_, fun o ho => ?_⟩ <;> rw [up_eq]
    · show ra = 11 ∨ 94 < ra
      rcases key with ⟨q1, q2⟩ | ⟨q1, q2, q3, q4⟩ <;> omega
    · show rb = 12 ∨ 94 < rb
      rcases key with ⟨q1, q2⟩ | ⟨q1, q2, q3, q4⟩ <;> omega
    · show ra ≤ h'.2.1
      rcases key with ⟨q1, q2⟩ | ⟨q1, q2, q3, q4⟩ <;> omega
    · show rb ≤ h'.2.1
      rcases key with ⟨q1, q2⟩ | ⟨q1, q2, q3, q4⟩ <;> omega
    · rw [up o ho]
      show (κ o).1 ≠ ra ∧ (κ o).2.1 ≠ rb
      obtain ⟨z1, z2⟩ := g5 o ho
      obtain ⟨x1, x2, x3, x4⟩ := r6.2.1 o ho
      rcases key with ⟨q1, q2⟩ | ⟨q1, q2, q3, q4⟩
      · rw [q1, q2]; exact ⟨z1, z2⟩
      · exact ⟨by omega, by omega⟩
  · rcases ho with ho | rfl
    · rw [up o ho]; exact ⟨Or.inl rfl, Or.inl rfl⟩
    · rw [up_eq]
      rcases f5 with ⟨q1, q2⟩ | ⟨q1, q2, q3, q4⟩
      · exact ⟨Or.inl q1, Or.inl q2⟩
      · exact ⟨Or.inr q1, Or.inr q2⟩
  · unfold PC
    rw [pc.1, up_eq]
    show h'.2.2.1 + (Phc κ + 2 * (100 - cap)) ≤ _
    omega
  · unfold PZ
    rw [pc.2, up_eq]
    show h'.2.2.2 + (Phs κ + ph 100 cap) ≤ _
    omega
theorem c_keepLatest {T : NT} {S : SS} {σ : St} {κ : KP} {w : WR} {h : AH} {d : Nat} (r : RKx T S σ κ w h) (hd : 5 ≤ d) (hf : (sFull σ 0).length ≤ 100) (row : Row) (hr : row.length = sCome σ 0) : ∃ κ' h', CM mX1_keep d [.ref 9, .long (lN (bv row)), .ref 19] h none h' ∧ RKx T (mkQ (qTh S) (qSp S) (qGo S) (qMo S) (qBo S) (qWe S) (qPe S) (qLa S) (qPl S) (qVa S) (qFa S) (qGu S) (qCu S) row (sLab σ) (sFull σ 0)) σ κ' w h' ∧ CG h κ h' κ' := by
  obtain ⟨⟨rc, l0⟩, -, -, -, ⟨F, a, x0, x1, x2, x3⟩, tk, sl⟩ := id r
  obtain ⟨K, W, k1, k2, k3, k4, k5, k6, k7⟩ := rc.way0
  have A := j_X1_keep_a_1 (d := d) (by omega) h (lN (bv row)) K k1 k2 W k4 k6 F a x0
  obtain ⟨h1, c1, t1, f1, e2, e⟩ := TK_cutTo tk (d := 0) (n := 0) (by decide)
  obtain ⟨r1, g1⟩ := r.at10 t1 f1
  rw [κ_same] at r1 g1
  obtain ⟨G, _, _, gk, _, _, _, gk5, -⟩ := id tk
  obtain ⟨⟨rc1, -⟩, -, -, -, ⟨F1, a1, y0, y1, y2, y3⟩, tk1, sl1⟩ := id r1
  obtain ⟨K1, W1, m1, m2, m3, m4, m5, m6, m7⟩ := rc1.way0
  obtain ⟨GW, _, _, gw, _, _, _, gw5, -⟩ := id m7
  have B := j_X1_keep_b_1 (d := d) (by omega) h1 (lN (bv row)) F1 a1 y0 GW gw _ gw5
  obtain ⟨GT, _, _, gt, -⟩ := id t1
  have z := sl1.2.2.2.2 24 (Or.inr ⟨0, by decide, rfl⟩)
  obtain ⟨h2, ra, rb, cap, c2, t2, f2⟩ := TK_addFrom (s := 0) (l := (sFull σ 0).length) t1 m7 (by decide) z.1 z.2 (d := 4) (by omega) (by omega) (by show 0 + (sFull σ 0).length ≤ 100; omega)
  rw [List.drop_zero, List.take_length, List.take_zero, List.nil_append] at t2
  obtain ⟨r2, g2⟩ := r1.at10 t2 f2
  obtain ⟨⟨rc2, -⟩, rs2, b13, b16, ⟨F2, a2, w0, w1, w2, w3⟩, tk2, -⟩ := id r2
  obtain ⟨K2, W2, p1, p2, p3, p4, p5, p6, p7⟩ := rc2.way0
  have C := j_X1_keep_c_1 (d := d) (by omega) h2 (lN (bv row)) 1 F2 a2 K2 p1 p2 W2 p4 _ p5 _ p3
  rw [hs_hs, hs_hs, ← hr] at C
  obtain ⟨r3, g3⟩ := r2.low (S' := mkQ (qTh S) (qSp S) (qGo S) (qMo S) (qBo S) (qWe S) (qPe S) (qLa S) (qPl S) (qVa S) (qFa S) (qGu S) (qCu S) row (sLab σ) (sFull σ 0)) (h' := hs h2 9 (ob 1 (fo 4 (va_up (va_up (va_up F2 1 (.long (lN (bv row)))) 2 (.int (nI row.length))) 3 (.int (nI (sLab σ))))))) rfl (fun x hx => hs_ne (by omega)) (rs2.fr (hs_ne (by decide))) (b13.fr (hs_ne (by decide)) (hs_ne (by decide)) (hs_ne (by decide))) (b16.fr (hs_ne (by decide)) (hs_ne (by decide)) (hs_ne (by decide))) ⟨_, hs_eq, (up_ne (by decide)).trans ((up_ne (by decide)).trans ((up_ne (by decide)).trans w0)), (up_ne (by decide)).trans ((up_ne (by decide)).trans up_eq), (up_ne (by decide)).trans up_eq, up_eq⟩ rfl
  exact ⟨_, _, E.st A (E.st (s_invv dX1_keep_11 rfl lX1_31 (by omega) rfl (Nat.le_of_ble_eq_true rfl) rfl (Nat.le_of_ble_eq_true rfl) gk c1 (fun h => nomatch h)) (E.st B (E.st (s_invv dX1_keep_26 rfl lX1_43 (by omega) rfl (Nat.le_of_ble_eq_true rfl) rfl (Nat.le_of_ble_eq_true rfl) gt c2 (fun h => nomatch h)) C))), r3, (g1.tr g2).tr g3⟩
