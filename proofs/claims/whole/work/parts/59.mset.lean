/-! sets in the reference -/
theorem m_ways {T : NT} {tf : Nat → St → Rs} {m a n : Nat} {σ1 : St} {d : Nat} {z a0 : Int32} (hT : wfT T) (hI : Inv T σ1) (hl : sLev σ1 < 5) (han : a < n) (hn : n < tN T) (hA : T.2.2.1 n = nI a) (htf : ∀ σ, TPre T σ → TPost T a σ (tf a σ)) (HT : CTm T tf a) (hd : 10 * n + 2 ≤ d) :
    ∀ g τ μ F I L h, WI m σ1 τ → WL σ1 τ → 2001 ≤ g + sLab τ → RMh T τ (sHeap σ1).length μ F I L h → ∃ μ' F' I' L' h' mm, J false mX8_goAll d 86 [(0, .ref 65), (1, .int z), (2, .int (nI n)), (3, .int a0), (4, .int (nI (sHeap σ1).length)), (5, .long (lN (sMany τ (sLev σ1 + 1)))), (7, .int 1)] [] h 175 [(0, .ref 65), (1, .int z), (2, .int (nI n)), (3, .int a0), (4, .int (nI (sHeap σ1).length)), (5, .long mm)] [] h' ∧ MF h μ F I L h' μ' F' I' L' ∧ RMr T (waysP (tf a) (sHeap σ1).length g τ) μ' F' I' L' h' ∧ ((waysP (tf a) (sHeap σ1).length g τ).1 = 0 → mm = lN (sMany (waysP (tf a) (sHeap σ1).length g τ).2 (sLev σ1 + 1)))
  | 0, τ, μ, F, I, L, h, wi, _, hg, _ => by have := wi.2.2.2.2.2; omega
  | g + 1, τ, μ, F, I, L, h, wi, wl, hg, r => by
    have h60 := hT.1
    have tp := beg_pre hI hl wi
    have tq := htf _ tp
    have wb := beg_WI wi
    have lb : sLev (begP τ (sHeap σ1).length) = sLev σ1 + 1 := wi.1
    have cl : (nI n).toNatClampNeg = n := nI_clamp (by omega)
    have vn : vp_in (nI n) 60 := vp_in_nI (by omega) (by decide)
    have hbase : ((sHeap τ).take (sHeap σ1).length).length = (sHeap σ1).length := by
      rw [List.length_take]
      have := wi.2.2.2.1.length_le
      omega
    have lsb : sLst (begP τ (sHeap σ1).length) (sLev σ1 + 1) = sLst τ (sLev σ1 + 1) ∧ sMany (begP τ (sHeap σ1).length) (sLev σ1 + 1) = sMany τ (sLev σ1 + 1) := ⟨rfl, rfl⟩
    have fb : sFull (begP τ (sHeap σ1).length) (sLev σ1 + 1) = [] := by
      show va_up (sFull τ) (sLev τ) [] (sLev σ1 + 1) = _
      rw [wi.1, up_eq]
    have cb : sCome (begP τ (sHeap σ1).length) (sLev σ1 + 1) = 0 := by
      show va_up (sCome τ) (sLev τ) 0 (sLev σ1 + 1) = _
      rw [wi.1, up_eq]
    have labb : sLab (begP τ (sHeap σ1).length) = sLab τ := rfl
    obtain ⟨I1, h1, c1, s1, mk⟩ := m_begin (d := 0) r
    obtain ⟨mh, fs, rn, mvh, e26, ⟨⟨x27, e27⟩, x28, e28⟩, hlen⟩ := id r
    -- the heap's top
    have s2 := s1.f (j := 15) (by unfold evf; omega) (.int (nI (sHeap σ1).length))
    have rb : RMx T (begP τ (sHeap σ1).length) 0 μ (va_up F 15 (.int (nI (sHeap σ1).length))) I1 L (hs h1 65 (ob 8 (fo 53 (va_up F 15 (.int (nI (sHeap σ1).length)))))) := by
      refine ⟨s2.1, fs.up (by omega) _, rn.mf s2.2, mk _ (up_ne (by decide)) (up_ne (by decide)) ?_, (up_ne (by decide)).trans e26, ⟨⟨x27, (up_ne (by decide)).trans e27⟩, x28, (up_ne (by decide)).trans e28⟩, (fun q => by cases q), ?_⟩
      · rw [up_eq, hbase]
      · show ((sHeap τ).take (sHeap σ1).length).length ≤ _
        rw [hbase] at hlen ⊢
        exact hlen
    obtain ⟨μ2, F2, I2, L2, h2, c2, f2, r2⟩ := HT _ μ _ I1 L _ (d - 1) tp rb (by omega)
    have e4 : I1 68 (nI n).toNatClampNeg = nI a := by
      have rn1 := rn.mf s1.2
      rw [cl, (rn1.2 n hn).2.1]; exact hA
    have A0 := j_X8_goAll_c_3 (d := d) (Nat.zero_le _) h z (nI n) a0 (nI (sHeap σ1).length) (lN (sMany τ (sLev σ1 + 1))) 1 0 0 (by decide) F mh.1 _ e26 rfl
    have A1 := j_X8_goAll_d_1 (d := d) (by omega) h1 z (nI n) a0 (nI (sHeap σ1).length) (lN (sMany τ (sLev σ1 + 1))) 1 μ.1 μ.2.1 F s1.1.1 (fs.r (by decide)) 60 (I1 68) (s1.1.i (by decide)) (by assumption)
    rw [e4] at A1
    have go : ∀ {p : Nat} {ls : List (Nat × Value)} {st : List Value} {h' : AH}, J false mX8_goAll d 118 [(0, .ref 65), (1, .int z), (2, .int (nI n)), (3, .int a0), (4, .int (nI (sHeap σ1).length)), (5, .long (lN (sMany τ (sLev σ1 + 1)))), (7, .int 1)] [] h2 p ls st h' → J false mX8_goAll d 86 [(0, .ref 65), (1, .int z), (2, .int (nI n)), (3, .int a0), (4, .int (nI (sHeap σ1).length)), (5, .long (lN (sMany τ (sLev σ1 + 1)))), (7, .int 1)] [] h p ls st h' := fun w => J.tr A0 (J.tr (s_invv dX8_goAll_99 rfl lX8_187 (by omega) rfl (Nat.le_of_ble_eq_true rfl) rfl (Nat.le_of_ble_eq_true rfl) mh.1 c1 (fun h => nomatch h)) (J.tr A1 (J.tr (s_invv dX8_goAll_115 rfl lX8_179 (by omega) rfl (Nat.le_of_ble_eq_true rfl) rfl (Nat.le_of_ble_eq_true rfl) hs_eq c2 (fun h => nomatch h)) w)))
    have ff := s2.2.tr f2
    unfold waysP
    generalize tf a (begP τ (sHeap σ1).length) = ρ at tq c2 r2
    obtain ⟨p1, p2, p3, p4, p5, p6, p7⟩ := tq
    rw [lb] at p4 p5 p6 p7
    have wr := wb.fr p2 p3
    have lr : sLev ρ.2 = sLev σ1 + 1 := wr.1
    have hls := p2.2.2.2.1 (sLev σ1 + 1) (by omega)
    rw [lsb.1, lsb.2] at hls
    have hcl := p2.2.2.2.2.2.2.2.2.1
    rw [lb, cb, labb] at hcl
    have hlr := wr.2.2.2.2.2
    obtain ⟨mh2, fs2, -, iw2⟩ := r2.w
    -- out of the loop
    have out : ∀ {μ3 : KM} {F3 : Nat → Value} {I3 : AI} {L3 : AL} {h3 : AH} {mm : Int64}, J false mX8_goAll d 86 [(0, .ref 65), (1, .int z), (2, .int (nI n)), (3, .int a0), (4, .int (nI (sHeap σ1).length)), (5, .long mm), (7, .int 0)] [] h3 175 [(0, .ref 65), (1, .int z), (2, .int (nI n)), (3, .int a0), (4, .int (nI (sHeap σ1).length)), (5, .long mm)] [] h3 := fun {μ3 F3 I3 L3 h3 mm} => j_X8_goAll_c_1 (Nat.zero_le _) h3 z (nI n) a0 (nI (sHeap σ1).length) mm 0 0 0 rfl
    have next : ∀ (τ2 : St) (μ3 : KM) (F3 : Nat → Value) (I3 : AI) (L3 : AL) (h3 : AH), WI m σ1 τ2 → WL σ1 τ2 → sLab τ2 = sLab ρ.2 → sTold τ2 = sTold ρ.2 → sCome τ2 = sCome ρ.2 → RMx T τ2 0 μ3 F3 I3 L3 h3 → MF h μ F I L h3 μ3 F3 I3 L3 →
        ∃ μ' F' I' L' h' mm, J false mX8_goAll d 159 [(0, .ref 65), (1, .int z), (2, .int (nI n)), (3, .int a0), (4, .int (nI (sHeap σ1).length)), (5, .long (lN (sMany τ2 (sLev σ1 + 1)))), (7, .int 1)] [.ref 65] h3 175 [(0, .ref 65), (1, .int z), (2, .int (nI n)), (3, .int a0), (4, .int (nI (sHeap σ1).length)), (5, .long mm)] [] h' ∧ MF h μ F I L h' μ' F' I' L' ∧ RMr T (nextP (waysP (tf a) (sHeap σ1).length g) τ2) μ' F' I' L' h' ∧ ((nextP (waysP (tf a) (sHeap σ1).length g) τ2).1 = 0 → mm = lN (sMany (nextP (waysP (tf a) (sHeap σ1).length g) τ2).2 (sLev σ1 + 1))) := by
      intro τ2 μ3 F3 I3 L3 h3 w2 l2 e1 e2 e3 r3 f3
      obtain ⟨y1, y2⟩ := m_next (d := 0) r3 (sHeap σ1).length
      unfold nextP
      cases e : nxt (sTold τ2 (sLev τ2)) (sCome τ2 (sLev τ2)) with
      | none =>
        have c5 := y1 e
        exact ⟨μ3, F3, I3, L3, h3, lN (sMany τ2 (sLev σ1 + 1)), J.tr (s_invv dX8_goAll_159 rfl lX8_193 (by omega) rfl (Nat.le_of_ble_eq_true rfl) rfl (Nat.le_of_ble_eq_true rfl) r3.1.1 c5 (fun h => nomatch h)) (J.tr (j_X8_goAll_g_1 (Nat.zero_le _) h3 z (nI n) a0 (nI (sHeap σ1).length) (lN (sMany τ2 (sLev σ1 + 1))) 1 0 0 0 rfl) (out (μ3 := μ3) (F3 := F3) (I3 := I3) (L3 := L3))), f3, r3.r, fun _ => rfl⟩
      | some t =>
        obtain ⟨I4, h4, c5, f4, r4⟩ := y2 t e
        have nl := nxt_len e
        rw [w2.1, e3] at nl
        have wi' : WI m σ1 (wTC τ2 (va_up (sTold τ2) (sLev τ2) t) (sCome τ2)) := by
          obtain ⟨a1, a2, a3, a4, a5, a6⟩ := w2
          refine ⟨a1, fun k hk => ?_, a3, a4, a5, a6⟩
          obtain ⟨b1, b2, b3, b4, b5, b6, b7⟩ := a2 k hk
          refine ⟨b1, b2, ?_, b4, b5, b6, b7⟩
          show va_up (sTold τ2) (sLev τ2) t k = _
          rw [up_ne (by omega)]
          exact b3
        obtain ⟨μ', F', I', L', h', mm, x1, x2, x3, x4⟩ := m_ways hT hI hl han hn hA htf HT hd g _ μ3 F3 I4 L3 h4 wi' l2 (by show 2001 ≤ g + sLab τ2; omega) r4
        exact ⟨μ', F', I', L', h', mm, J.tr (s_invv dX8_goAll_159 rfl lX8_193 (by omega) rfl (Nat.le_of_ble_eq_true rfl) rfl (Nat.le_of_ble_eq_true rfl) r3.1.1 c5 (fun h => nomatch h)) (J.tr (j_X8_goAll_g_2 (Nat.zero_le _) h4 z (nI n) a0 (nI (sHeap σ1).length) (lN (sMany τ2 (sLev σ1 + 1))) 1 1 0 0 (by decide)) x1), (f3.tr f4).tr x2, x3, x4⟩
    dsimp only
    by_cases z0 : ρ.1 = 0
    · rw [if_pos z0]
      have r3 := r2.x z0
      obtain ⟨⟨ts, et, wts⟩, lt, -⟩ := p5 z0
      rw [fb, List.nil_append] at et
      have B := j_X8_goAll_e_3 (d := d) (Nat.zero_le _) h2 z (nI n) a0 (nI (sHeap σ1).length) (lN (sMany τ (sLev σ1 + 1))) 1 0 0 F2 mh2.1 _ r3.2.2.2.2.1 rfl
      obtain ⟨k1, k2⟩ := m_collect (d := 0) r3 (by omega)
      by_cases hb : 1 + (sLst ρ.2 (sLev ρ.2)).length + (sFull ρ.2 (sLev ρ.2)).length > 100
      · rw [if_pos hb]
        have c5 := k1 hb
        obtain ⟨r4, f4⟩ := r3.stop 2 (by decide)
        have X := j_X8_goAll_f_1 (d := d) (Nat.zero_le _) (hs h2 65 (ob 8 (fo 53 (va_up F2 26 (.int (nI 2)))))) z (nI n) a0 (nI (sHeap σ1).length) (lN (sMany τ (sLev σ1 + 1))) 1 0 0 _ hs_eq _ up_eq (by decide)
        exact ⟨μ2, _, I2, L2, _, _, go (J.tr B (J.tr (s_invv dX8_goAll_126 rfl lX8_190 (by omega) rfl (Nat.le_of_ble_eq_true rfl) rfl (Nat.le_of_ble_eq_true rfl) r3.1.1 c5 (fun h => nomatch h)) (J.tr X (out (μ3 := μ2) (F3 := F2) (I3 := I2) (L3 := L2))))), ff.tr f4, r4.r, (fun q => by cases q)⟩
      · rw [if_neg hb]
        obtain ⟨I3, L3, h3, c5, f3, r4⟩ := k2 hb
        rw [lr] at hb
        have em : sMany (colP ρ.2) (sLev σ1 + 1) = sMany ρ.2 (sLev σ1 + 1) + 1 := by
          show va_up (sMany ρ.2) (sLev ρ.2) (sMany ρ.2 (sLev ρ.2) + 1) (sLev σ1 + 1) = _
          rw [lr, up_eq]
        have elst : sLst (colP ρ.2) (sLev σ1 + 1) = sLst ρ.2 (sLev σ1 + 1) ++ sFull ρ.2 (sLev σ1 + 1) := by
          show va_up (sLst ρ.2) (sLev ρ.2) (sLst ρ.2 (sLev ρ.2) ++ sFull ρ.2 (sLev ρ.2)) (sLev σ1 + 1) = _
          rw [lr, up_eq]
        obtain ⟨μ', F', I', L', h', mm, x1, x2, x3, x4⟩ := next (colP ρ.2) μ2 F2 I3 L3 h3 (by
          obtain ⟨a1, a2, a3, a4, a5, a6⟩ := wr
          refine ⟨a1, fun k hk => ?_, a3, a4, a5, a6⟩
          obtain ⟨b1, b2, b3, b4, b5, b6, b7⟩ := a2 k hk
          refine ⟨b1, b2, b3, b4, b5, ?_, ?_⟩
          · show va_up (sLst ρ.2) (sLev ρ.2) _ k = _
            rw [up_ne (by omega)]; exact b6
          · show va_up (sMany ρ.2) (sLev ρ.2) _ k = _
            rw [up_ne (by omega)]; exact b7) ⟨by
          rw [em, elst, hls.1, hls.2, et]
          exact WFs_app wl.1 wts, by
          rw [elst, List.length_append]
          omega⟩ rfl rfl rfl r4 (ff.tr f3)
        rw [em, hls.2] at x1
        have X := j_X8_goAll_f_2 (d := d) (Nat.zero_le _) h3 z (nI n) a0 (nI (sHeap σ1).length) (lN (sMany τ (sLev σ1 + 1))) 1 0 0 F2 r4.1.1 _ r4.2.2.2.2.1 rfl
        rw [lN_1] at X
        exact ⟨μ', F', I', L', h', mm, go (J.tr B (J.tr (s_invv dX8_goAll_126 rfl lX8_190 (by omega) rfl (Nat.le_of_ble_eq_true rfl) rfl (Nat.le_of_ble_eq_true rfl) r3.1.1 c5 (fun h => nomatch h)) (J.tr X x1))), x2, x3, x4⟩
    · rw [if_neg z0]
      have nz : ¬ nI ρ.1 = 0 := fun q => z0 ((nI_eq (by omega) (by decide)).mp q)
      by_cases z1 : ρ.1 = 1
      · rw [if_pos z1]
        have r3 := r2.2.2 (by rw [z1]; decide)
        rw [z1] at r3
        obtain ⟨r4, f4⟩ := r3.stop 0 (by decide)
        have B := j_X8_goAll_e_2 (d := d) (Nat.zero_le _) h2 z (nI n) a0 (nI (sHeap σ1).length) (lN (sMany τ (sLev σ1 + 1))) 1 0 0 F2 mh2.1 _ r3.2.2.2.2.1 (by decide) rfl
        obtain ⟨μ', F', I', L', h', mm, x1, x2, x3, x4⟩ := next ρ.2 μ2 _ I2 L2 _ wr ⟨by rw [hls.1, hls.2]; exact wl.1, by rw [hls.1]; exact wl.2⟩ rfl rfl rfl r4 (ff.tr f4)
        rw [hls.2] at x1
        exact ⟨μ', F', I', L', h', mm, go (J.tr B x1), x2, x3, x4⟩
      · rw [if_neg z1]
        have B := j_X8_goAll_e_1 (d := d) (Nat.zero_le _) h2 z (nI n) a0 (nI (sHeap σ1).length) (lN (sMany τ (sLev σ1 + 1))) 1 0 0 F2 mh2.1 _ r2.1 nz (fun q => z1 ((nI_eq (b := 1) (by omega) (by decide)).mp q))
        exact ⟨μ2, F2, I2, L2, h2, _, go (J.tr B (out (μ3 := μ2) (F3 := F2) (I3 := I2) (L3 := L2))), ff, r2, fun q => absurd q z0⟩
theorem RMx.out {T : NT} {ρ : St} {c l base : Nat} {μ : KM} {F : Nat → Value} {I : AI} {L : AL} {h : AH} (r : RMx T ρ c μ F I L h) (lr : sLev ρ = l + 1) (hb : base ≤ (sHeap ρ).length) : RMx T (outP ρ base) c μ (va_up (va_up F 7 (.int (nI l))) 15 (.int (nI base))) I L (hs h 65 (ob 8 (fo 53 (va_up (va_up F 7 (.int (nI l))) 15 (.int (nI base)))))) ∧ MF h μ F I L (hs h 65 (ob 8 (fo 53 (va_up (va_up F 7 (.int (nI l))) 15 (.int (nI base)))))) μ (va_up (va_up F 7 (.int (nI l))) 15 (.int (nI base))) I L := by
  obtain ⟨mh, fs, rn, ⟨⟨e7, e15, e25⟩, v2, v3, v4, v5, v6, v7, v8⟩, e26, ⟨⟨x27, e27⟩, x28, e28⟩, w4, hlen⟩ := r
  have s := ((ST.rf mh).f (j := 7) (by unfold evf; omega) (.int (nI l))).f (j := 15) (by unfold evf; omega) (.int (nI base))
  rw [hs_hs] at s
  have lo : sLev (outP ρ base) = l := by show sLev ρ - 1 = l; omega
  have tl : ((sHeap ρ).take base).length = base := by rw [List.length_take]; omega
  refine ⟨⟨s.1, (fs.up (by omega) _).up (by omega) _, rn.mf s.2, ⟨⟨?_, ?_, ?_⟩, fun k hk => ?_, fun k hk => ?_, ?_, fun k hk => ?_, fun k hk => ?_, fun k h0 hk => ?_, ?_⟩, ?_, ⟨⟨x27, ?_⟩, x28, ?_⟩, fun q => ⟨?_, ?_⟩, ?_⟩, s.2⟩
  · rw [lo, up_ne (by decide), up_eq]
  · show _ = Value.int (nI ((sHeap ρ).take base).length)
    rw [up_eq, tl]
  · rw [up_ne (by decide), up_ne (by decide)]; exact e25
  · rw [lo] at hk; exact v2 k (by omega)
  · rw [lo] at hk; exact v3 k (by omega)
  · intro j hj
    have hj : j < ((sHeap ρ).take base).length := hj
    rw [tl] at hj
    show _ = (((sHeap ρ).take base).getD j (0, 0)).1 ∧ _ = (((sHeap ρ).take base).getD j (0, 0)).2
    rw [getD_take hj]
    exact v4 j (by omega)
  · rw [lo] at hk; exact v5 k (by omega)
  · rw [lo] at hk; exact v6 k (by omega)
  · rw [lo] at hk; exact v7 k h0 (by omega)
  · rw [lo]; omega
  · rw [up_ne (by decide), up_ne (by decide)]; exact e26
  · rw [up_ne (by decide), up_ne (by decide)]; exact e27
  · rw [up_ne (by decide), up_ne (by decide)]; exact e28
  · rw [up_ne (by decide), up_ne (by decide)]; exact (w4 q).1
  · rw [up_ne (by decide), up_ne (by decide)]; exact (w4 q).2
  · show ((sHeap ρ).take base).length ≤ _
    rw [tl]; omega
theorem m_goLoop {T : NT} {rec : Nat → St → Rs} {f n m : Nat} {σ : St} {d : Nat} (HN : CNd T rec f) (R : RH T rec f) (hT : wfT T) (hnf : n ≤ f) (hp : Pre T n σ) (hv : sVal σ (sLev σ) n = none) (hl : lvOf (sIns σ) n (sLev σ) = sLev σ) (h5 : sLev σ < 5) (hA : okA T n) (hB : T.2.2.2.1 n = nI m) (hm : m < 2 ^ 30) (hd : 10 * n + 2 ≤ d) :
    ∀ g σ1 μ F I L h, Mid T n σ σ1 → cn (sVal σ1 (sLev σ)) 60 < g → RMx T σ1 0 μ F I L h → ∃ μ' F' I' L' h', E false mX8_goAll d 16 [(0, .ref 65), (1, .int (nI (60 * sLev σ + n))), (2, .int (nI n)), (3, .int 1)] [] h none h' ∧ MF h μ F I L h' μ' F' I' L' ∧ RMr T (goP rec (tfP rec T f (tA T n)) m n g σ1) μ' F' I' L' h'
  | 0, σ1, μ, F, I, L, h, _, hg, _ => by omega
  | g + 1, σ1, μ, F, I, L, h, M, hg, r => by
    have h60 := hT.1
    have hn := hp.2.1
    have ha := hA.2
    have ls : sLev σ1 = sLev σ := M.1.1
    have I1 := M.2.1
    have htf := tf_post R hT f (tA T n) (by omega) (by omega) (by omega)
    have wi := in_WI (m := m) I1
    have wp := ways_post (m := m) I1 (by omega) htf 2001 (inP σ1 m) wi.1 wi.2 (Nat.le_add_right _ _)
    have cl : (nI n).toNatClampNeg = n := nI_clamp (by omega)
    have vn : vp_in (nI n) 60 := vp_in_nI (by omega) (by decide)
    obtain ⟨mh, fs, rn, mv, e26, ⟨⟨x27, e27⟩, x28, e28⟩, -, hlen⟩ := id r
    obtain ⟨⟨e7, e15, e25⟩, v2, v3, v4, v5, v6, v7, v8⟩ := id mv
    have hbase : (sHeap σ1).length ≤ 72000 := Nat.le_trans hlen mh.2.2.2.2.2.2.2.2.2.2.2
    have e71 : nI (sLev σ1) + 1 = nI (sLev σ1 + 1) := nI_1 _
    have cv : (nI (sLev σ1 + 1)).toNatClampNeg = sLev σ1 + 1 := nI_clamp (by omega)
    have vv : vp_in (nI (sLev σ1 + 1)) 6 := vp_in_nI (by omega) (by decide)
    have e5 : I 69 (nI n).toNatClampNeg = nI m := by rw [cl, (rn.2 n hn).2.2.1]; exact hB
    have B := j_X8_goAll_b_3 (d := d) (by omega) h (nI (60 * sLev σ + n)) (nI n) 1 μ.1 μ.2.1 (by decide) F mh.1 _ e26 rfl _ e15 _ e7 (fs.r (by decide)) (fs.r (by decide)) 60 (I 69) (mh.i (by decide)) (by assumption) 6 (I 71) (mh.i (by decide)) (by rw [e71]; exact vv) (fs.r (by decide)) 6 (I 79) (mh.i (by decide)) (by rw [e71]; exact vv) (fs.r (by decide)) 6 (I 86) (mh.i (by decide)) (by rw [e71]; exact vv)
    rw [e71, cv, e5] at B
    have s := ((((ST.rf mh).f (j := 7) (by unfold evf; omega) (.int (nI (sLev σ1 + 1)))).i (x := 71) (n := 6) (by decide) (by decide) (upd (I 71) (sLev σ1 + 1) (nI m))).i (x := 79) (n := 6) (by decide) (by decide) (upd (I 79) (sLev σ1 + 1) 0)).i (x := 86) (n := 6) (by decide) (by decide) (upd (I 86) (sLev σ1 + 1) 0)
    have n1 : ∀ y, y ≠ 71 → y ≠ 79 → y ≠ 86 → va_up (va_up (va_up I 71 (upd (I 71) (sLev σ1 + 1) (nI m))) 79 (upd (I 79) (sLev σ1 + 1) 0)) 86 (upd (I 86) (sLev σ1 + 1) 0) y = I y := fun y a b c => by rw [up_ne c, up_ne b, up_ne a]
    have n71 : va_up (va_up (va_up I 71 (upd (I 71) (sLev σ1 + 1) (nI m))) 79 (upd (I 79) (sLev σ1 + 1) 0)) 86 (upd (I 86) (sLev σ1 + 1) 0) 71 = upd (I 71) (sLev σ1 + 1) (nI m) := by rw [up_ne (by decide), up_ne (by decide), up_eq]
    have n79 : va_up (va_up (va_up I 71 (upd (I 71) (sLev σ1 + 1) (nI m))) 79 (upd (I 79) (sLev σ1 + 1) 0)) 86 (upd (I 86) (sLev σ1 + 1) 0) 79 = upd (I 79) (sLev σ1 + 1) 0 := by rw [up_ne (by decide), up_eq]
    have n86 : va_up (va_up (va_up I 71 (upd (I 71) (sLev σ1 + 1) (nI m))) 79 (upd (I 79) (sLev σ1 + 1) 0)) 86 (upd (I 86) (sLev σ1 + 1) 0) 86 = upd (I 86) (sLev σ1 + 1) 0 := up_eq
    generalize va_up (va_up (va_up I 71 (upd (I 71) (sLev σ1 + 1) (nI m))) 79 (upd (I 79) (sLev σ1 + 1) 0)) 86 (upd (I 86) (sLev σ1 + 1) 0) = Iw at n1 n71 n79 n86 s
    generalize hs (hs (hs (hs h 65 (ob 8 (fo 53 (va_up F 7 (.int (nI (sLev σ1 + 1))))))) 71 (ia 6 (upd (I 71) (sLev σ1 + 1) (nI m)))) 79 (ia 6 (upd (I 79) (sLev σ1 + 1) 0))) 86 (ia 6 (upd (I 86) (sLev σ1 + 1) 0)) = hb at B s
    have rh : RMh T (inP σ1 m) (sHeap σ1).length μ (va_up F 7 (.int (nI (sLev σ1 + 1)))) Iw L hb := by
      refine ⟨s.1, fs.up (by omega) _, rn.mf s.2, ⟨⟨up_eq, ⟨_, (up_ne (by decide)).trans e15⟩, (up_ne (by decide)).trans e25⟩, fun k hk => ?_, fun k hk i hi => ?_, ?_, fun k hk => ?_, ⟨?_, ?_, fun j hj => ?_⟩, fun k hk => ?_, fun k h0 hk => ?_, by show sLev σ1 + 1 < 6; omega⟩, (up_ne (by decide)).trans e26, ⟨⟨x27, (up_ne (by decide)).trans e27⟩, x28, (up_ne (by decide)).trans e28⟩, by show ((sHeap σ1).take (sHeap σ1).length).length ≤ _; rw [List.take_length]; exact hlen⟩
      · have hk : k ≤ sLev σ1 + 1 := hk
        show Iw 71 k = nI (va_up (sIns σ1) (sLev σ1 + 1) m k) ∧ va_up (sIns σ1) (sLev σ1 + 1) m k < 2 ^ 30
        rw [n71]
        by_cases e : k = sLev σ1 + 1
        · rw [e, up_eq, pk_us]; exact ⟨rfl, hm⟩
        · rw [up_ne e, pk_un e]; exact v2 k (by omega)
      · have hk : k < sLev σ1 + 1 := hk
        exact (v3 k (by omega) i hi).agree (by rw [n1 72 (by decide) (by decide) (by decide)]) rfl (by rw [n1 74 (by decide) (by decide) (by decide)]) (by rw [n1 75 (by decide) (by decide) (by decide)])
      · show MHp ((sHeap σ1).take (sHeap σ1).length) Iw L
        rw [List.take_length]
        exact v4.agree (n1 76 (by decide) (by decide) (by decide)) rfl
      · have hk : k < sLev σ1 + 1 := hk
        show MT (va_up (sTold σ1) (sLev σ1 + 1) [] k) (sCome σ1 k) k Iw
        rw [up_ne (by omega)]
        exact (v5 k (by omega)).agree (by rw [n79, pk_un (by omega)]) (by rw [n1 80 (by decide) (by decide) (by decide)]) (fun j _ => by rw [n1 78 (by decide) (by decide) (by decide)])
      · show Iw 79 (sLev σ1 + 1) = nI (va_up (sTold σ1) (sLev σ1 + 1) [] (sLev σ1 + 1)).length
        rw [n79, pk_us, up_eq]; rfl
      · show (va_up (sTold σ1) (sLev σ1 + 1) [] (sLev σ1 + 1)).length ≤ 300
        rw [up_eq]; decide
      · have hj : j < (va_up (sTold σ1) (sLev σ1 + 1) [] (sLev σ1 + 1)).length := hj
        rw [up_eq] at hj; cases hj
      · have hk : k < sLev σ1 + 1 := hk
        exact (v6 k (by omega)).agree (by rw [n1 83 (by decide) (by decide) (by decide)]) (fun j _ => by rw [n1 81 (by decide) (by decide) (by decide)]) (fun j _ => rfl)
      · have hk : k ≤ sLev σ1 + 1 := hk
        show MLs (va_up (sLst σ1) (sLev σ1 + 1) [] k) k Iw L
        by_cases e : k = sLev σ1 + 1
        · rw [e, up_eq]
          exact ⟨by rw [n86, pk_us]; rfl, by decide, fun j hj => by cases hj⟩
        · rw [up_ne e]
          exact (v7 k h0 (by omega)).agree (by rw [n86, pk_un e]) (fun j _ => by rw [n1 84 (by decide) (by decide) (by decide)]) (fun j _ => rfl)
    obtain ⟨μ2, F2, I2, L2, h2, mm, J2, f2, r2, em⟩ := m_ways (tf := tfP rec T f) (z := nI (60 * sLev σ + n)) (a0 := 0) hT I1 (by omega) ha hn hA.1 htf (m_tellFull HN R hT f (tA T n) (by omega) (by omega) (by omega)) (d := d) (by omega) 2001 (inP σ1 m) μ _ Iw L _ wi.1 wi.2 (Nat.le_add_right _ _) rh
    have many0 : sMany (inP σ1 m) (sLev σ1 + 1) = 0 := by
      show va_up (sMany σ1) (sLev σ1 + 1) 0 (sLev σ1 + 1) = 0
      rw [up_eq]
    rw [many0] at J2
    have ff := s.2.tr f2
    have go : ∀ {h' : AH}, E false mX8_goAll d 175 [(0, .ref 65), (1, .int (nI (60 * sLev σ + n))), (2, .int (nI n)), (3, .int 0), (4, .int (nI (sHeap σ1).length)), (5, .long mm)] [] h2 none h' → E false mX8_goAll d 16 [(0, .ref 65), (1, .int (nI (60 * sLev σ + n))), (2, .int (nI n)), (3, .int 1)] [] h none h' := fun w => E.st B (E.st J2 w)
    unfold goP
    dsimp only
    generalize waysP (tfP rec T f (tA T n)) (sHeap σ1).length 2001 (inP σ1 m) = ρ at wp r2 em
    obtain ⟨w1, w2', w3, w4, w5, w6⟩ := wp
    have om := out_mid M w4
    have lo : sLev (outP ρ.2 (sHeap σ1).length) = sLev σ1 := om.1.1.1.trans ls.symm
    have lρ : sLev ρ.2 = sLev σ1 + 1 := w4.1
    have hbl : (sHeap σ1).length ≤ (sHeap ρ.2).length := w4.2.2.2.1.length_le
    have fin : ∀ {h' : AH}, E false mX8_goAll d 16 [(0, .ref 65), (1, .int (nI (60 * sLev σ + n))), (2, .int (nI n)), (3, .int 0)] [] h' none h' := fun {h'} => j_X8_goAll_b_1 (Nat.zero_le _) h' _ _ 0 0 0 rfl
    by_cases z0 : ρ.1 = 0
    · rw [if_pos z0]
      have r3 := r2.x z0
      obtain ⟨x1, x2⟩ := w5 z0
      have kpost := keep_post hT om.1 hp hv hl (by rw [lo]; exact x1) (by rw [lo]; exact x2)
      obtain ⟨r4, f4⟩ := r3.out lρ hbl
      have B4 := j_X8_goAll_h_4 (d := d) (Nat.zero_le _) h2 (nI (60 * sLev σ + n)) (nI n) 0 (nI (sHeap σ1).length) mm 0 0 F2 r3.1.1 _ r3.2.2.2.1.1.1 _ r3.2.2.2.2.1 rfl
      rw [lρ, nI_pred, hs_hs] at B4
      have hk := kpost.2.2.1.2.2.2.1
      have hw' := wt_le (sVal (keepP (outP ρ.2 (sHeap σ1).length) n)) (sLev (keepP (outP ρ.2 (sHeap σ1).length) n))
      have lk : sLev (keepP (outP ρ.2 (sHeap σ1).length) n) = sLev σ1 := lo
      have hkl : (sHeap (keepP (outP ρ.2 (sHeap σ1).length) n)).length = (sHeap (outP ρ.2 (sHeap σ1).length)).length + 1 + (sLst (outP ρ.2 (sHeap σ1).length) (sLev (outP ρ.2 (sHeap σ1).length) + 1)).length := by
        show (sHeap (outP ρ.2 (sHeap σ1).length) ++ (2, lN (sMany ρ.2 (sLev (outP ρ.2 (sHeap σ1).length) + 1))) :: sLst ρ.2 (sLev (outP ρ.2 (sHeap σ1).length) + 1)).length = _
        rw [List.length_append, List.length_cons]
        show _ = (sHeap (outP ρ.2 (sHeap σ1).length)).length + 1 + (sLst ρ.2 (sLev (outP ρ.2 (sHeap σ1).length) + 1)).length
        omega
      have hls : MLs (sLst (outP ρ.2 (sHeap σ1).length) (sLev (outP ρ.2 (sHeap σ1).length) + 1)) (sLev (outP ρ.2 (sHeap σ1).length) + 1) I2 L2 := by
        rw [lo]
        exact r3.2.2.2.1.2.2.2.2.2.2.1 (sLev σ1 + 1) (by omega) (by omega)
      obtain ⟨μ5, F5, I5, L5, h5', c5, f5, r5⟩ := m_keep (d := d - 1) (n := n) r4 (by omega) (by omega) hls (by dsimp only at hk; omega) (by omega)
      have em := em z0
      have es : sMany (outP ρ.2 (sHeap σ1).length) (sLev (outP ρ.2 (sHeap σ1).length) + 1) = sMany ρ.2 (sLev σ1 + 1) := by rw [lo]; rfl
      have e60 : 60 * sLev (outP ρ.2 (sHeap σ1).length) + n = 60 * sLev σ + n := by rw [lo, ls]
      rw [e60, es, ← em] at c5
      exact ⟨μ5, F5, I5, L5, h5', go (E.st B4 (E.st (s_invv dX8_goAll_202 rfl lX8_197 (by omega) rfl (Nat.le_of_ble_eq_true rfl) rfl (Nat.le_of_ble_eq_true rfl) r4.1.1 c5 (fun h => nomatch h)) (E.st (j_X8_goAll_i_1 (Nat.zero_le _) h5' _ _ 0 0 0) fin))), (ff.tr f4).tr f5, r5.r⟩
    · rw [if_neg z0]
      have nz : ¬ nI ρ.1 = 0 := fun q => z0 ((nI_eq (by omega) (by decide)).mp q)
      by_cases z4 : ρ.1 = 4
      · have r3 := r2.2.2 (by rw [z4]; decide)
        rw [z4] at r3
        obtain ⟨r4, f4⟩ := r3.out lρ hbl
        obtain ⟨e27', e28'⟩ := r3.2.2.2.2.2.2.1 rfl
        obtain ⟨q1, q2, q3, q4⟩ := w6 z4
        by_cases h44 : sWl (outP ρ.2 (sHeap σ1).length) = sLev (outP ρ.2 (sHeap σ1).length)
        · rw [if_pos ⟨z4, h44⟩]
          have hwl : sWl ρ.2 = sLev σ1 := h44.trans lo
          have hx : sWn ρ.2 < n := by omega
          have B3 := j_X8_goAll_h_3 (d := d) (Nat.zero_le _) h2 (nI (60 * sLev σ + n)) (nI n) 0 (nI (sHeap σ1).length) mm 0 0 F2 r3.1.1 _ r3.2.2.2.1.1.1 _ r3.2.2.2.2.1 (by decide) rfl _ e28' (by rw [lρ, nI_pred, hwl]) _ e27'
          rw [lρ, nI_pred, hs_hs, hs_hs] at B3
          obtain ⟨r5, f5⟩ := r4.stop 0 (by decide)
          rw [hs_hs] at r5 f5
          obtain ⟨μ6, F6, I6, L6, h6, c6, f6, r6⟩ := HN (sWn ρ.2) (outP ρ.2 (sHeap σ1).length) μ2 _ I2 L2 _ (d - 1) (by omega) (om.1.pre hp hv hx) r5 (by omega)
          have p := R (sWn ρ.2) (by omega) _ (om.1.pre hp hv hx)
          obtain ⟨mh6, -⟩ := r6.w
          have f7 := ((ff.tr f4).tr f5).tr f6
          have go2 : ∀ {h' : AH}, E false mX8_goAll d 240 [(0, .ref 65), (1, .int (nI (60 * sLev σ + n))), (2, .int (nI n))] [] h6 none h' → E false mX8_goAll d 16 [(0, .ref 65), (1, .int (nI (60 * sLev σ + n))), (2, .int (nI n)), (3, .int 1)] [] h none h' := fun w => go (E.st B3 (E.st (s_invv dX8_goAll_237 rfl lX8_168 (by omega) rfl (Nat.le_of_ble_eq_true rfl) rfl (Nat.le_of_ble_eq_true rfl) r5.1.1 c6 (fun h => nomatch h)) w))
          show ∃ μ' F' I' L' h', E false mX8_goAll d 16 [(0, .ref 65), (1, .int (nI (60 * sLev σ + n))), (2, .int (nI n)), (3, .int 1)] [] h none h' ∧ MF h μ F I L h' μ' F' I' L' ∧ RMr T (bd (rec (sWn ρ.2) (outP ρ.2 (sHeap σ1).length)) (goP rec (tfP rec T f (tA T n)) m n g)) μ' F' I' L' h'
          by_cases h00 : (rec (sWn ρ.2) (outP ρ.2 (sHeap σ1).length)).1 = 0
          · rw [bd_0 h00]
            have r7 := r6.x h00
            have M2 := om.1.post hx p h00
            have cn2 : cn (sVal (rec (sWn ρ.2) (outP ρ.2 (sHeap σ1).length)).2 (sLev σ)) 60 < g := by
              have hlv : lvOf (sIns ρ.2) (sWn ρ.2) (sLev σ1) = sLev σ1 := by
                rw [hwl] at q3
                have : lvOf (sIns ρ.2) (sWn ρ.2) (sLev σ1 + 1) = if sIns ρ.2 (sLev σ1 + 1) ≤ sWn ρ.2 then sLev σ1 + 1 else lvOf (sIns ρ.2) (sWn ρ.2) (sLev σ1) := rfl
                rw [this] at q3
                split at q3
                · omega
                · exact q3
              obtain ⟨p1, p2, p3, p4, p5, p6, p7, -⟩ := p
              obtain ⟨⟨y, hy⟩, -⟩ := p7 h00
              have lv2 : lvOf (sIns (rec (sWn ρ.2) (outP ρ.2 (sHeap σ1).length)).2) (sWn ρ.2) (sLev (rec (sWn ρ.2) (outP ρ.2 (sHeap σ1).length)).2) = sLev σ := by
                rw [p2.1, lo, ls, lvOf_ext (ins := sIns ρ.2) _ (fun j hj => p2.2.1 j (by rw [lo, ls]; exact hj)), ← ls]
                exact hlv
              unfold gv at hy
              rw [lv2] at hy
              have ev : sVal (outP ρ.2 (sHeap σ1).length) (sLev σ) = sVal σ1 (sLev σ) := by
                rw [← ls]
                exact (w4.2.1 _ (Nat.le_refl _)).2.1
              have hn0 : sVal σ1 (sLev σ) (sWn ρ.2) = none := by
                rw [← ev, ← ls]
                rw [hwl] at q2
                exact q2
              have pers := p2.2.2.2.2.1
              rw [lo, ls, ev] at pers
              have c1 := cn_pers (v := va_up (sVal σ1 (sLev σ)) (sWn ρ.2) (some y)) (w := sVal (rec (sWn ρ.2) (outP ρ.2 (sHeap σ1).length)).2 (sLev σ)) (fun i z hz => by
                by_cases e : i = sWn ρ.2
                · subst e
                  rw [up_eq] at hz
                  cases hz
                  exact hy
                · rw [up_ne e] at hz
                  exact pers i z hz) 60
              have c2 := cn_up_lo (y := y) hn0 (show sWn ρ.2 < 60 by omega)
              omega
            obtain ⟨μ8, F8, I8, L8, h8, y1, y2, y3⟩ := m_goLoop HN R hT hnf hp hv hl h5 hA hB hm hd g _ μ6 F6 I6 L6 h6 M2 cn2 r7
            exact ⟨μ8, F8, I8, L8, h8, go2 (E.st (j_X8_goAll_j_2 (Nat.zero_le _) h6 _ _ 0 0 F6 mh6.1 _ r7.2.2.2.2.1 rfl) y1), f7.tr y2, y3⟩
          · rw [bd_n h00]
            exact ⟨μ6, F6, I6, L6, h6, go2 (E.st (j_X8_goAll_j_1 (Nat.zero_le _) h6 _ _ 0 0 F6 mh6.1 _ r6.1 (fun q => h00 ((nI_eq (by have := p.1; omega) (by decide)).mp q))) fin), f7, r6⟩
        · rw [if_neg (fun q => h44 q.2)]
          have hne : sWl ρ.2 ≠ sLev σ1 := fun e => h44 (e.trans lo.symm)
          have B2 := j_X8_goAll_h_2 (d := d) (Nat.zero_le _) h2 (nI (60 * sLev σ + n)) (nI n) 0 (nI (sHeap σ1).length) mm 0 0 F2 r3.1.1 _ r3.2.2.2.1.1.1 _ r3.2.2.2.2.1 (by decide) rfl _ e28' (by rw [lρ, nI_pred]; exact fun q => hne ((nI_eq (by omega) (by omega)).mp q))
          rw [lρ, nI_pred, hs_hs] at B2
          rw [z4]
          exact ⟨μ2, _, I2, L2, _, go (E.st B2 fin), ff.tr f4, r4.r⟩
      · rw [if_neg (fun q => z4 q.1)]
        have z2 : ρ.1 = 2 := by omega
        have rw3 := r2.2.1 z2
        obtain ⟨a7, e7'⟩ := rw3.2.2.2 7 (by omega)
        obtain ⟨r4, f4⟩ := rw3.stop (j := 7) (by omega) (a7 - 1)
        obtain ⟨r5, f5⟩ := r4.stop (j := 15) (by omega) (nI (sHeap σ1).length)
        have B1 := j_X8_goAll_h_1 (d := d) (Nat.zero_le _) h2 (nI (60 * sLev σ + n)) (nI n) 0 (nI (sHeap σ1).length) mm 0 0 F2 rw3.1.1 _ e7' _ r2.1 nz (fun q => z4 ((nI_eq (b := 4) (by omega) (by decide)).mp q))
        rw [z2]
        exact ⟨μ2, _, I2, L2, _, go (E.st B1 fin), (ff.tr f4).tr f5, ⟨by rw [up_ne (by decide), up_ne (by decide)]; rw [← z2]; exact r2.1, fun _ => r5, fun q => absurd rfl q⟩⟩
