/-! values in full, in the reference -/
theorem MV.full {T : NT} {σ : St} {F : Nat → Value} {I I' : AI} {L L' : AL} {ts : List Tok} (m : MV T σ F I L) (hi : ∀ y, y ≠ 81 → y ≠ 83 → I' y = I y) (hl : ∀ y, y ≠ 82 → L' y = L y) (h83 : ∀ k, k ≠ sLev σ → I' 83 k = I 83 k) (h81 : ∀ j, j < 100 * sLev σ → I' 81 j = I 81 j) (h82 : ∀ j, j < 100 * sLev σ → L' 82 j = L 82 j) (ht : MFu ts (sLev σ) I' L') : MV T (wFull σ (va_up (sFull σ) (sLev σ) ts)) F I' L' := by
  obtain ⟨v1, v2, v3, v4, v5, v6, v7, v8⟩ := m
  refine ⟨v1, fun k hk => by rw [hi 71 (by decide) (by decide)]; exact v2 k hk, fun k hk i hi' => (v3 k hk i hi').agree (by rw [hi 72 (by decide) (by decide)]) (by rw [hl 73 (by decide)]) (by rw [hi 74 (by decide) (by decide)]) (by rw [hi 75 (by decide) (by decide)]), v4.agree (hi 76 (by decide) (by decide)) (hl 77 (by decide)), fun k hk => (v5 k hk).agree (by rw [hi 79 (by decide) (by decide)]) (by rw [hi 80 (by decide) (by decide)]) (fun j _ => by rw [hi 78 (by decide) (by decide)]), fun k hk => ?_, fun k h0 hk => (v7 k h0 hk).agree (by rw [hi 86 (by decide) (by decide)]) (fun j _ => by rw [hi 84 (by decide) (by decide)]) (fun j _ => by rw [hl 85 (by decide)]), v8⟩
  have hk : k ≤ sLev σ := hk
  show MFu (va_up (sFull σ) (sLev σ) ts k) k I' L'
  by_cases e : k = sLev σ
  · rw [e, up_eq]
    exact ht
  · rw [up_ne e]
    exact (v6 k hk).agree (h83 k e) (fun j hj => h81 _ (by omega)) (fun j hj => h82 _ (by omega))
/-- a token more -/
theorem RMx.tok {T : NT} {σ : St} {μ : KM} {F : Nat → Value} {I : AI} {L : AL} {h : AH} {cur : List Tok} (r : RMx T (wFull σ (va_up (sFull σ) (sLev σ) cur)) 0 μ F I L h) (hc : cur.length < 100) (k : Int32) (u : Int64) : ∃ I' L', RMx T (wFull σ (va_up (sFull σ) (sLev σ) (cur ++ [(k, u)]))) 0 μ F I' L' (hs (hs (hs h 81 (ia 600 (upd (I 81) (100 * sLev σ + cur.length) k))) 82 (la 600 (vp_updL (L 82) (100 * sLev σ + cur.length) u))) 83 (ia 6 (upd (I 83) (sLev σ) (nI (cur.length + 1))))) ∧ MF h μ F I L (hs (hs (hs h 81 (ia 600 (upd (I 81) (100 * sLev σ + cur.length) k))) 82 (la 600 (vp_updL (L 82) (100 * sLev σ + cur.length) u))) 83 (ia 6 (upd (I 83) (sLev σ) (nI (cur.length + 1))))) μ F I' L' := by
  obtain ⟨mh, fs, rn, mv, e26, -, -, hlen⟩ := id r
  have s := (((ST.rf mh).i (x := 81) (n := 600) (by decide) (by decide) (upd (I 81) (100 * sLev σ + cur.length) k)).l (x := 82) (n := 600) (by decide) (by decide) (vp_updL (L 82) (100 * sLev σ + cur.length) u)).i (x := 83) (n := 6) (by decide) (by decide) (upd (I 83) (sLev σ) (nI (cur.length + 1)))
  have m6 := mv.2.2.2.2.2.1 (sLev σ) (Nat.le_refl _)
  have m6 : MFu (va_up (sFull σ) (sLev σ) cur (sLev σ)) (sLev σ) I L := m6
  rw [up_eq] at m6
  obtain ⟨u1, u2, u3⟩ := m6
  have e : wFull σ (va_up (sFull σ) (sLev σ) (cur ++ [(k, u)])) = wFull (wFull σ (va_up (sFull σ) (sLev σ) cur)) (va_up (sFull (wFull σ (va_up (sFull σ) (sLev σ) cur))) (sLev (wFull σ (va_up (sFull σ) (sLev σ) cur))) (cur ++ [(k, u)])) := by
    show mkS _ _ _ _ (va_up (sFull σ) (sLev σ) (cur ++ [(k, u)])) _ _ _ _ _ _ _ = mkS _ _ _ _ (va_up (va_up (sFull σ) (sLev σ) cur) (sLev σ) (cur ++ [(k, u)])) _ _ _ _ _ _ _
    have : va_up (va_up (sFull σ) (sLev σ) cur) (sLev σ) (cur ++ [(k, u)]) = va_up (sFull σ) (sLev σ) (cur ++ [(k, u)]) := by
      funext z
      by_cases q : z = sLev σ
      · rw [q, up_eq, up_eq]
      · rw [up_ne q, up_ne q, up_ne q]
    rw [this]
  rw [e]
  refine ⟨_, _, r.val s (mv.full (fun y a b => by rw [up_ne b, up_ne a]) (fun y a => up_ne a) (fun j hj => ?_) (fun j hj => ?_) (fun j hj => ?_) ⟨?_, ?_, fun j hj => ?_⟩) hlen⟩
  · rw [up_eq, pk_un hj]
  · have hj : j < 100 * sLev σ := hj
    rw [up_ne (by decide), up_eq, pk_un (by omega)]
  · have hj : j < 100 * sLev σ := hj
    rw [up_eq, pk_uLn (by omega)]
  · show va_up (va_up I 81 _) 83 _ 83 (sLev σ) = _
    rw [up_eq, pk_us, List.length_append]
    rfl
  · rw [List.length_append]
    exact hc
  · rw [List.length_append] at hj
    have hj : j < cur.length + 1 := hj
    show va_up (va_up I 81 _) 83 _ 81 (100 * sLev σ + j) = _ ∧ va_up L 82 _ 82 (100 * sLev σ + j) = _
    rw [up_ne (by decide), up_eq, up_eq]
    by_cases q : j = cur.length
    · rw [q, pk_us, pk_uLs, getD_app_hi (Nat.le_refl _), Nat.sub_self]
      exact ⟨rfl, rfl⟩
    · rw [pk_un (by omega), pk_uLn (by omega), getD_app_lo (by omega)]
      exact u3 j (by omega)
theorem wFull_same (σ : St) : wFull σ (va_up (sFull σ) (sLev σ) (sFull σ (sLev σ))) = σ := by
  show mkS _ _ _ _ (va_up (sFull σ) (sLev σ) (sFull σ (sLev σ))) _ _ _ _ _ _ _ = σ
  rw [up_same]
theorem lN_pm {m j : Nat} (h : 0 < m) : lN m + (lN j - 1) = lN (m - 1 + j) := by
  have a : lN m = lN (m - 1) + 1 := by rw [lN_1]; congr 1; omega
  rw [a]
  have : lN (m - 1) + 1 + (lN j - 1) = lN (m - 1) + lN j := by
    rw [Int64.sub_eq_add_neg, Int64.add_assoc, Int64.add_comm (lN j), ← Int64.add_assoc 1, Int64.add_right_neg, Int64.zero_add]
  rw [this, lN_add]
theorem lN_m1 {m : Nat} (h : 0 < m) : lN m + (-1) = lN (m - 1) := by
  rw [← Int64.sub_eq_add_neg]
  exact lN_sub (b := 1) h
theorem m_behind {T : NT} {σ : St} {c : Nat} {μ : KM} {F : Nat → Value} {I : AI} {L : AL} {h : AH} (r : RMx T σ c μ F I L h) {s l : Nat} (hs : s + l ≤ (sHeap σ).length) (hw : WFs 1 (hsl (sHeap σ) s l)) (hl : l ≤ 100) {d : Nat} : CM mX8_behind d [.ref 65, .int (nI s)] h (some (.int (nI (s + l)))) h := by
  obtain ⟨mh, fs, rn, mv, -, -, -, hlen⟩ := id r
  have px := r.px
  have mcap := mh.2.2.2.2.2.2.2.2.2.2.2
  have hh := mv.2.2.2.1
  refine E.st (j_X8_behind_a_1 (Nat.zero_le _) h (nI s) 0 0) ?_
  suffices H : ∀ (rem : List Tok) (m k : Nat), WFs m rem → k + rem.length ≤ (sHeap σ).length → rem.length ≤ 100 → (∀ j, j < rem.length → (sHeap σ).getD (k + j) (0, 0) = rem.getD j (0, 0)) → E false mX8_behind d 5 [(0, .ref 65), (2, .long (lN m)), (4, .int (nI k))] [] h (some (.int (nI (k + rem.length)))) h by
    have len : (hsl (sHeap σ) s l).length = l := by unfold hsl; rw [List.length_take, List.length_drop]; omega
    have := H (hsl (sHeap σ) s l) 1 s hw (by omega) (by omega) (fun j hj => (hsl_getD (by omega)).symm)
    rw [len] at this
    exact this
  intro rem
  induction rem with
  | nil =>
    intro m k wf _ _ _
    have m0 : m = 0 := wf
    subst m0
    exact j_X8_behind_b_1 (Nat.zero_le _) h (lN 0) (nI k) 0 0 (by decide)
  | cons y rem ih =>
    intro m k wf hk hr hy
    obtain ⟨m0, wf⟩ := wf
    have ml := WFs_len (show WFs m (y :: rem) from ⟨m0, wf⟩)
    simp only [List.length_cons] at hk hr hy ml
    have y0 := hy 0 (by omega)
    rw [Nat.add_zero, List.getD_cons_zero] at y0
    obtain ⟨u1, u2⟩ := hh k (by omega)
    rw [y0] at u1 u2
    have cs : (nI k).toNatClampNeg = k := nI_clamp (by omega)
    have vs : vp_in (nI k) μ.2.2 := vp_in_nI (by omega) (by omega)
    have cc : ¬ lN m ≤ 0 := fun q => by have := (lN_le (a := m) (b := 0) (by omega) (by omega)).mp q; omega
    have hy' : ∀ j, j < rem.length → (sHeap σ).getD (k + 1 + j) (0, 0) = rem.getD j (0, 0) := fun j hj => by
      have := hy (j + 1) (by omega)
      rw [List.getD_cons_succ] at this
      rw [← this]
      congr 1
      omega
    have el : k + (y :: rem).length = k + 1 + rem.length := by simp only [List.length_cons]; omega
    rw [el]
    rcases wf with ⟨z, w⟩ | ⟨z, j, hj, ej, w⟩
    · have B := j_X8_behind_b_3 (d := d) (by omega) h (lN m) (nI k) μ.1 μ.2.1 cc F mh.1 fs.2.1 μ.2.2 (I 76) mh.2.2.2.1 (by assumption) px (by rw [cs, u1, z])
      rw [lN_m1 m0, nI_1] at B
      exact E.st B (ih (m - 1) (k + 1) w (by omega) (by omega) hy')
    · have B := j_X8_behind_b_2 (d := d) (by omega) h (lN m) (nI k) μ.1 μ.2.1 cc F mh.1 fs.2.1 μ.2.2 (I 76) mh.2.2.2.1 (by assumption) px (by rw [cs, u1]; exact z) fs.2.2 μ.2.2 (L 77) mh.2.2.2.2.1 (by assumption)
      rw [cs, u2, ej, lN_pm m0, nI_1] at B
      exact E.st B (ih (m - 1 + j) (k + 1) w (by omega) (by omega) hy')
theorem m_tellLoop {T : NT} {σ : St} {d s e : Nat} (h6 : sLev σ < 6) (hd : 1 ≤ d) (he : e ≤ (sHeap σ).length) : ∀ (rem : List Tok) (k : Nat) (cur : List Tok) (μ : KM) (F : Nat → Value) (I : AI) (L : AL) (h : AH), k + rem.length = e → (∀ j, j < rem.length → (sHeap σ).getD (k + j) (0, 0) = rem.getD j (0, 0)) → RMx T (wFull σ (va_up (sFull σ) (sLev σ) cur)) 0 μ F I L h → ∃ μ' F' I' L' h', E false mX8_tellFull d 71 [(0, .ref 65), (3, .int (nI s)), (4, .int (nI e)), (5, .int (nI k))] [] h none h' ∧ MF h μ F I L h' μ' F' I' L' ∧ (cur.length + rem.length ≤ 100 → RMx T (wFull σ (va_up (sFull σ) (sLev σ) (cur ++ rem))) 0 μ' F' I' L' h') ∧ (¬ cur.length + rem.length ≤ 100 → RMw T μ' F' I' L' h' ∧ F' 26 = .int (nI 2)) := by
  intro rem
  induction rem with
  | nil =>
    intro k cur μ F I L h hk _ r
    have ek : k = e := by simpa using hk
    have mcap := r.1.2.2.2.2.2.2.2.2.2.2.2
    have hl : (sHeap σ).length ≤ μ.2.2 := r.2.2.2.2.2.2.2
    have m6 : MFu (va_up (sFull σ) (sLev σ) cur (sLev σ)) (sLev σ) I L := r.2.2.2.1.2.2.2.2.2.1 (sLev σ) (Nat.le_refl _)
    rw [up_eq] at m6
    have := m6.2.1
    refine ⟨μ, F, I, L, h, j_X8_tellFull_c_1 (Nat.zero_le _) h (nI s) (nI e) (nI k) 0 0 (nI_le (by omega) (by omega)), MF.rf _ _ _ _ _, fun _ => by rw [List.append_nil]; exact r, fun q => absurd (by simpa using this) q⟩
  | cons y rem ih =>
    intro k cur μ F I L h hk hy r
    simp only [List.length_cons] at hk hy
    obtain ⟨mh, fs, rn, mv, e26, -, -, hlen⟩ := id r
    have hlen : (sHeap σ).length ≤ μ.2.2 := hlen
    have px := r.px
    have mcap := mh.2.2.2.2.2.2.2.2.2.2.2
    have hh : MHp (sHeap σ) I L := mv.2.2.2.1
    have e7 : F 7 = .int (nI (sLev σ)) := mv.1.1
    have m6 : MFu (va_up (sFull σ) (sLev σ) cur (sLev σ)) (sLev σ) I L := mv.2.2.2.2.2.1 (sLev σ) (Nat.le_refl _)
    rw [up_eq] at m6
    obtain ⟨w1, w2, w3⟩ := m6
    have y0 := hy 0 (by omega)
    rw [Nat.add_zero, List.getD_cons_zero] at y0
    obtain ⟨u1, u2⟩ := hh k (by omega)
    rw [y0] at u1 u2
    have ck : (nI k).toNatClampNeg = k := nI_clamp (by omega)
    have vk : vp_in (nI k) μ.2.2 := vp_in_nI (by omega) (by omega)
    have cc : ¬ nI e ≤ nI k := nI_ge (by omega) (by omega)
    have cv : (nI (sLev σ)).toNatClampNeg = sLev σ := nI_clamp (by omega)
    have vv : vp_in (nI (sLev σ)) 6 := vp_in_nI h6 (by decide)
    have hy' : ∀ j, j < rem.length → (sHeap σ).getD (k + 1 + j) (0, 0) = rem.getD j (0, 0) := fun j hj => by
      have := hy (j + 1) (by omega)
      rw [List.getD_cons_succ] at this
      rw [← this]
      congr 1
      omega
    by_cases z : cur.length = 100
    · have B := j_X8_tellFull_c_4 (d := d) (by omega) h (nI s) (nI e) (nI k) μ.1 μ.2.1 cc F mh.1 _ e26 rfl fs.2.1 μ.2.2 (I 76) mh.2.2.2.1 (by assumption) px fs.2.2 μ.2.2 (L 77) mh.2.2.2.2.1 (by assumption) (fs.r (by decide)) _ e7 6 (I 83) (mh.i (by decide)) vv (by rw [cv, w1, z]; rfl)
      rw [nI_1] at B
      obtain ⟨r3, f3⟩ := r.stop 2 (by decide)
      refine ⟨μ, _, I, L, _, E.st B ?_, f3, fun q => absurd q (by simp only [List.length_cons]; omega), fun _ => ⟨r3.w, up_eq⟩⟩
      by_cases q : e ≤ k + 1
      · exact j_X8_tellFull_c_1 (Nat.zero_le _) _ (nI s) (nI e) (nI (k + 1)) 0 0 (nI_le q (by omega))
      · exact j_X8_tellFull_c_2 (Nat.zero_le _) _ (nI s) (nI e) (nI (k + 1)) 0 0 (nI_ge (by omega) (by omega)) _ hs_eq _ up_eq (by decide)
    · have ep : (100 * nI (sLev σ)) + I 83 (nI (sLev σ)).toNatClampNeg = nI (100 * sLev σ + cur.length) := by
        rw [cv, w1, show (100 : Int32) = nI 100 from rfl, pk_mul, nI_add]
      have cp : (nI (100 * sLev σ + cur.length)).toNatClampNeg = 100 * sLev σ + cur.length := nI_clamp (by omega)
      have vp : vp_in (nI (100 * sLev σ + cur.length)) 600 := vp_in_nI (by omega) (by decide)
      have B := j_X8_tellFull_c_3 (d := d) (by omega) h (nI s) (nI e) (nI k) μ.1 μ.2.1 cc F mh.1 _ e26 rfl fs.2.1 μ.2.2 (I 76) mh.2.2.2.1 (by assumption) px fs.2.2 μ.2.2 (L 77) mh.2.2.2.2.1 (by assumption) (fs.r (by decide)) _ e7 6 (I 83) (mh.i (by decide)) vv (by rw [cv, w1]; exact fun q => z ((nI_eq (b := 100) (by omega) (by decide)).mp q)) (fs.r (by decide)) 600 (I 81) (mh.i (by decide)) (by rw [ep]; exact vp) (fs.r (by decide)) 600 (L 82) (mh.l (by decide)) (by rw [ep]; exact vp)
      rw [ep, cp, ck, cv, u1, u2, w1, nI_1, nI_1] at B
      obtain ⟨I2, L2, r2, f2⟩ := r.tok (by omega) y.1 y.2
      obtain ⟨μ', F', I', L', h', x1, x2, x3, x4⟩ := ih (k + 1) (cur ++ [(y.1, y.2)]) μ F I2 L2 _ (by omega) hy' r2
      rw [List.length_append] at x3 x4
      have ea : cur ++ [(y.1, y.2)] ++ rem = cur ++ y :: rem := by simp
      rw [ea] at x3
      refine ⟨μ', F', I', L', h', E.st B x1, f2.tr x2, fun q => x3 (by simp only [List.length_cons] at q; show cur.length + 1 + rem.length ≤ 100; omega), fun q => x4 (by simp only [List.length_cons] at q; show ¬ cur.length + 1 + rem.length ≤ 100; omega)⟩
def CTm (T : NT) (tf : Nat → St → Rs) (n : Nat) : Prop := ∀ (σ : St) (μ : KM) (F : Nat → Value) (I : AI) (L : AL) (h : AH) (d : Nat), TPre T σ → RMx T σ 0 μ F I L h → 10 * (n + 1) + 1 ≤ d → ∃ μ' F' I' L' h', CM mX8_tellFull d [.ref 65, .int (nI n)] h none h' ∧ MF h μ F I L h' μ' F' I' L' ∧ RMr T (tf n σ) μ' F' I' L' h'
theorem m_tellFull {T : NT} {rec : Nat → St → Rs} {f : Nat} (HN : CNd T rec f) (R : RH T rec f) (hT : wfT T) : ∀ g n, n < g → n < f → n < tN T → CTm T (tfP rec T g) n
  | g + 1, n, hg, hf, hn => by
    intro σ μ F I L h d hp r hd
    have ht := hT.1
    obtain ⟨μ1, F1, I1, L1, h1, c1, f1, r1⟩ := HN n σ μ F I L h (d - 1) hf (hp.pre hT hn) r (by omega)
    have P := R n hf σ (hp.pre hT hn)
    have go : ∀ {h' : AH}, E false mX8_tellFull d 5 [(0, .ref 65), (1, .int (nI n))] [] h1 none h' → CM mX8_tellFull d [.ref 65, .int (nI n)] h none h' := fun z => E.st (j_X8_tellFull_a_1 (Nat.zero_le _) h (nI n) 0 0) (E.st (s_invv dX8_tellFull_2 rfl lX8_168 (by omega) rfl (Nat.le_of_ble_eq_true rfl) rfl (Nat.le_of_ble_eq_true rfl) r.1.1 c1 (fun h => nomatch h)) z)
    by_cases z : (rec n σ).1 = 0
    · have tp := P.tpre hT hn hp z
      have r2 := r1.x z
      obtain ⟨⟨x, gx⟩, -⟩ := P.2.2.2.2.2.2.1 z
      obtain ⟨a1, a2⟩ := gv_ok tp.1 gx
      obtain ⟨q, cq, hq, clq, vq, mq⟩ := r2.cell tp.1 hT hn
      rw [gx] at mq
      obtain ⟨mh, fs, rn, mv, e26, -, -, hlen⟩ := id r2
      have h6 := mv.2.2.2.2.2.2.2
      have e7 := mv.1.1
      have m6 := mv.2.2.2.2.2.1 (sLev (rec n σ).2) (Nat.le_refl _)
      obtain ⟨w1, w2, w3⟩ := m6
      have cv : (nI (sLev (rec n σ).2)).toNatClampNeg = sLev (rec n σ).2 := nI_clamp (by omega)
      have vv : vp_in (nI (sLev (rec n σ).2)) 6 := vp_in_nI h6 (by decide)
      have ep : (100 * nI (sLev (rec n σ).2)) + I1 83 (nI (sLev (rec n σ).2)).toNatClampNeg = nI (100 * sLev (rec n σ).2 + (sFull (rec n σ).2 (sLev (rec n σ).2)).length) := by
        rw [cv, w1, show (100 : Int32) = nI 100 from rfl, pk_mul, nI_add]
      have r2' := r2
      rw [← wFull_same (rec n σ).2] at r2'
      match x, gx, mq, a2 with
      | .inl v, gx, mq, a2 =>
        rw [tfP_n z gx]
        obtain ⟨k1, k2⟩ := mq
        by_cases z1 : (sFull (rec n σ).2 (sLev (rec n σ).2)).length = 100
        · have B := j_X8_tellFull_b_5 (d := d) (by omega) h1 (nI n) μ1.1 μ1.2.1 F1 mh.1 _ e26 rfl (nI q) cq (fs.r (by decide)) 360 (I1 72) (mh.i (by decide)) (by assumption) (by rw [clq]; exact k1) (fs.r (by decide)) 360 (L1 73) (mh.l (by decide)) (by assumption) (fs.r (by decide)) _ e7 6 (I1 83) (mh.i (by decide)) vv (by rw [cv, w1, z1]; rfl)
          obtain ⟨r3, f3⟩ := r2.stop 2 (by decide)
          have et : tokP (rec n σ).2 [(0, v)] = (2, (rec n σ).2) := if_neg (by show ¬ (sFull (rec n σ).2 (sLev (rec n σ).2)).length + 1 ≤ 100; omega)
          rw [et]
          exact ⟨μ1, _, I1, L1, _, go B, f1.tr f3, r3.r⟩
        · have cp : (nI (100 * sLev (rec n σ).2 + (sFull (rec n σ).2 (sLev (rec n σ).2)).length)).toNatClampNeg = 100 * sLev (rec n σ).2 + (sFull (rec n σ).2 (sLev (rec n σ).2)).length := nI_clamp (by omega)
          have vp : vp_in (nI (100 * sLev (rec n σ).2 + (sFull (rec n σ).2 (sLev (rec n σ).2)).length)) 600 := vp_in_nI (by omega) (by decide)
          have B := j_X8_tellFull_b_4 (d := d) (by omega) h1 (nI n) μ1.1 μ1.2.1 F1 mh.1 _ e26 rfl (nI q) cq (fs.r (by decide)) 360 (I1 72) (mh.i (by decide)) (by assumption) (by rw [clq]; exact k1) (fs.r (by decide)) 360 (L1 73) (mh.l (by decide)) (by assumption) (fs.r (by decide)) _ e7 6 (I1 83) (mh.i (by decide)) vv (by rw [cv, w1]; exact fun q => z1 ((nI_eq (b := 100) (by omega) (by decide)).mp q)) (fs.r (by decide)) 600 (I1 81) (mh.i (by decide)) (by rw [ep]; exact vp) (fs.r (by decide)) 600 (L1 82) (mh.l (by decide)) (by rw [ep]; exact vp)
          rw [ep, cp, clq, cv, k2, w1, nI_1] at B
          obtain ⟨I2, L2, r3, f3⟩ := r2'.tok (by omega) 0 v
          have et : tokP (rec n σ).2 [(0, v)] = (0, wFull (rec n σ).2 (va_up (sFull (rec n σ).2) (sLev (rec n σ).2) (sFull (rec n σ).2 (sLev (rec n σ).2) ++ [(0, v)]))) := if_pos (by show (sFull (rec n σ).2 (sLev (rec n σ).2)).length + 1 ≤ 100; omega)
          rw [et]
          exact ⟨μ1, F1, I2, L2, _, go B, f1.tr f3, r3.r⟩
      | .inr (.inr q2), gx, mq, a2 =>
        rw [tfP_l z gx]
        obtain ⟨qs, ql⟩ := q2
        obtain ⟨k1, k2⟩ := mq
        have k2 : L1 73 q = lN qs := k2
        have a2 : qs + ql ≤ (sHeap (rec n σ).2).length ∧ LW (hsl (sHeap (rec n σ).2) qs ql) := a2
        have len : (hsl (sHeap (rec n σ).2) qs ql).length = ql := by unfold hsl; rw [List.length_take, List.length_drop]; omega
        have qn : ql ≤ 100 := by
          obtain ⟨mm, cc, _, _, ll⟩ := a2.2
          omega
        have cb := m_behind r2 a2.1 (LW_wf a2.2) qn (d := 2)
        have B := j_X8_tellFull_b_3 (d := d) (by omega) h1 (nI n) μ1.1 μ1.2.1 F1 mh.1 _ e26 rfl (nI q) cq (fs.r (by decide)) 360 (I1 72) (mh.i (by decide)) (by assumption) (by rw [clq, k1]; decide) (by rw [clq]; exact k1) (fs.r (by decide)) 360 (L1 73) (mh.l (by decide)) (by assumption) (nI qs) (by rw [clq, k2]; exact lN_i qs) (nI (qs + ql)) cb
        obtain ⟨μ', F', I', L', h', x1, x2, x3, x4⟩ := m_tellLoop (T := T) (d := d) (s := qs) h6 (by omega) a2.1 (hsl (sHeap (rec n σ).2) qs ql) qs (sFull (rec n σ).2 (sLev (rec n σ).2)) μ1 F1 I1 L1 h1 (by omega) (fun j hj => (hsl_getD (by omega)).symm) r2'
        refine ⟨μ', F', I', L', h', go (E.st B x1), f1.tr x2, ?_⟩
        show RMr T (tokP (rec n σ).2 (hsl (sHeap (rec n σ).2) qs ql)) μ' F' I' L' h'
        unfold tokP
        by_cases y : (sFull (rec n σ).2 (sLev (rec n σ).2)).length + (hsl (sHeap (rec n σ).2) qs ql).length ≤ 100
        · rw [if_pos y]
          exact (x3 y).r
        · rw [if_neg y]
          exact ⟨(x4 y).2, fun _ => (x4 y).1, fun q => absurd rfl q⟩
      | .inr (.inl p), gx, mq, a2 =>
        rw [tfP_p z gx]
        have hz := a2.1
        have hpt : p < tN T := by omega
        obtain ⟨ha, hb'⟩ := pair_args hT hpt a2.2
        have wp := hT.2 p hpt
        have wp : okA T p ∧ okB T p := by
          unfold wfN at wp
          rw [a2.2] at wp
          rcases wp with w | w | w | w | w | w | w | w | w | w <;> first | exact w.2 | exact absurd w (by decide) | exact absurd w.1 (by decide)
        obtain ⟨k1, k2, k3⟩ := mq
        by_cases z1 : (sFull (rec n σ).2 (sLev (rec n σ).2)).length = 100
        · have B := j_X8_tellFull_b_2 (d := d) (by omega) h1 (nI n) μ1.1 μ1.2.1 F1 mh.1 _ e26 rfl (nI q) cq (fs.r (by decide)) 360 (I1 72) (mh.i (by decide)) (by assumption) (by rw [clq, k1]; decide) (by rw [clq, k1]; decide) (fs.r (by decide)) 360 (I1 74) (mh.i (by decide)) (by assumption) (fs.r (by decide)) 360 (I1 75) (mh.i (by decide)) (by assumption) (fs.r (by decide)) _ e7 6 (I1 83) (mh.i (by decide)) vv (by rw [cv, w1, z1]; rfl)
          obtain ⟨r3, f3⟩ := r2.stop 2 (by decide)
          have et : tokP (rec n σ).2 [(1, 2)] = (2, (rec n σ).2) := if_neg (by show ¬ (sFull (rec n σ).2 (sLev (rec n σ).2)).length + 1 ≤ 100; omega)
          rw [et, bd_n (r := (2, (rec n σ).2)) (show ¬ (2 : Nat) = 0 by decide)]
          exact ⟨μ1, _, I1, L1, _, go B, f1.tr f3, r3.r⟩
        · have cp : (nI (100 * sLev (rec n σ).2 + (sFull (rec n σ).2 (sLev (rec n σ).2)).length)).toNatClampNeg = 100 * sLev (rec n σ).2 + (sFull (rec n σ).2 (sLev (rec n σ).2)).length := nI_clamp (by omega)
          have vp : vp_in (nI (100 * sLev (rec n σ).2 + (sFull (rec n σ).2 (sLev (rec n σ).2)).length)) 600 := vp_in_nI (by omega) (by decide)
          have B := j_X8_tellFull_b_1 (d := d) (by omega) h1 (nI n) μ1.1 μ1.2.1 F1 mh.1 _ e26 rfl (nI q) cq (fs.r (by decide)) 360 (I1 72) (mh.i (by decide)) (by assumption) (by rw [clq, k1]; decide) (by rw [clq, k1]; decide) (fs.r (by decide)) 360 (I1 74) (mh.i (by decide)) (by assumption) (fs.r (by decide)) 360 (I1 75) (mh.i (by decide)) (by assumption) (fs.r (by decide)) _ e7 6 (I1 83) (mh.i (by decide)) vv (by rw [cv, w1]; exact fun q => z1 ((nI_eq (b := 100) (by omega) (by decide)).mp q)) (fs.r (by decide)) 600 (I1 81) (mh.i (by decide)) (by rw [ep]; exact vp) (fs.r (by decide)) 600 (L1 82) (mh.l (by decide)) (by rw [ep]; exact vp)
          rw [ep, cp, clq, cv, k2, k3, wp.1.1, wp.2.1, w1, nI_1] at B
          obtain ⟨I2, L2, r3, f3⟩ := r2'.tok (by omega) 1 2
          have et : tokP (rec n σ).2 [(1, 2)] = (0, wFull (rec n σ).2 (va_up (sFull (rec n σ).2) (sLev (rec n σ).2) (sFull (rec n σ).2 (sLev (rec n σ).2) ++ [(1, 2)]))) := if_pos (by show (sFull (rec n σ).2 (sLev (rec n σ).2)).length + 1 ≤ 100; omega)
          rw [et, bd_0 rfl]
          dsimp only
          generalize hσ2 : wFull (rec n σ).2 (va_up (sFull (rec n σ).2) (sLev (rec n σ).2) (sFull (rec n σ).2 (sLev (rec n σ).2) ++ [(1, 2)])) = σ2 at r3 ⊢
          have t2 : TPre T σ2 := by rw [← hσ2]; exact tp
          have PA := tf_post R hT g (tA T p) (by omega) (by omega) (by omega) σ2 t2
          obtain ⟨μ3, F3, I3, L3, h3, c3, f4, r4⟩ := m_tellFull HN R hT g (tA T p) (by omega) (by omega) (by omega) σ2 μ1 F1 I2 L2 _ (d - 1) t2 r3 (by omega)
          have go2 : ∀ {h' : AH}, E false mX8_tellFull d 147 [(0, .ref 65), (4, .int (nI (tB T p)))] [] h3 none h' → CM mX8_tellFull d [.ref 65, .int (nI n)] h none h' := fun z => go (E.st B (E.st (s_invv dX8_tellFull_144 rfl lX8_179 (by omega) rfl (Nat.le_of_ble_eq_true rfl) rfl (Nat.le_of_ble_eq_true rfl) r3.1.1 c3 (fun h => nomatch h)) z))
          obtain ⟨mh4, -⟩ := r4.w
          by_cases y : (tfP rec T g (tA T p) σ2).1 = 0
          · rw [bd_0 y]
            have r5 := r4.x y
            have t3 := PA.tpre t2 y
            obtain ⟨μ5, F5, I5, L5, h5, c5, f5, r6⟩ := m_tellFull HN R hT g (tB T p) (by omega) (by omega) (by omega) _ μ3 F3 I3 L3 h3 (d - 1) t3 r5 (by omega)
            exact ⟨μ5, F5, I5, L5, h5, go2 (E.st (j_X8_tellFull_d_2 (Nat.zero_le _) h3 (nI (tB T p)) 0 0 F3 mh4.1 _ r5.2.2.2.2.1 rfl) (E.st (s_invv dX8_tellFull_157 rfl lX8_179 (by omega) rfl (Nat.le_of_ble_eq_true rfl) rfl (Nat.le_of_ble_eq_true rfl) mh4.1 c5 (fun h => nomatch h)) (j_X8_tellFull_e_1 (Nat.zero_le _) h5 0 0))), ((f1.tr f3).tr f4).tr f5, r6⟩
          · rw [bd_n y]
            exact ⟨μ3, F3, I3, L3, h3, go2 (j_X8_tellFull_d_1 (Nat.zero_le _) h3 _ 0 0 F3 mh4.1 _ r4.1 (fun q => y ((nI_eq (by have := PA.1; omega) (by decide)).mp q))), (f1.tr f3).tr f4, r4⟩
    · rw [tfP_b z]
      obtain ⟨mh, -⟩ := r1.w
      exact ⟨μ1, F1, I1, L1, h1, go (j_X8_tellFull_b_6 (Nat.zero_le _) h1 _ 0 0 F1 mh.1 _ r1.1 (fun q => z ((nI_eq (by have := P.1; omega) (by decide)).mp q))), f1, r1⟩
