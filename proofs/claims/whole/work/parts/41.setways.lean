/-! the ways of a set, in the class -/
/-- how the ways of a set leave the class: l the level around -/
def GO (T : NT) (h : AH) (κ : KP) (l base : Nat) (r : Rs) (κ' : KP) (w' : WR) (h' : AH) : Prop := ∃ hp fi tb de mo vs li v ts, RCo T (wHeap r.2 hp) κ' w' (l + 1) h' ∧ hp.take base = (sHeap r.2).take base ∧ RWr κ' (l + 1) fi tb de mo vs li v ts h' ∧ CF h κ h' κ' ∧ (r.1 = 0 → ts = (2, lN (sMany r.2 (l + 1))) :: sLst r.2 (l + 1)) ∧ (r.1 = 4 → NeedW w' r.2)
theorem GO.tr {T : NT} {h h1 : AH} {κ κ1 : KP} {l base : Nat} {r : Rs} {κ' : KP} {w' : WR} {h' : AH} (c : CF h κ h1 κ1) (o : GO T h1 κ1 l base r κ' w' h') : GO T h κ l base r κ' w' h' := by
  obtain ⟨hp, fi, tb, de, mo, vs, li, v, ts, a, b, e, f, g⟩ := o
  exact ⟨hp, fi, tb, de, mo, vs, li, v, ts, a, b, e, c.tr f, g⟩
theorem RC.go {T : NT} {σ : St} {κ κ0 : KP} {w : WR} {h hz : AH} {l base c : Nat} (r : RC T σ κ w h) (el : sLev σ = l + 1) (f : CF hz κ0 h κ) (h0 : ¬ c = 0) (h4 : c = 4 → NeedW w σ) : GO T hz κ0 l base (c, σ) κ w h := by
  obtain ⟨ro, li, q, -⟩ := r.take (l := l + 1) (by omega)
  exact ⟨sHeap σ, _, _, _, _, _, li, _, _, ro, rfl, q, f, fun z => absurd z h0, h4⟩
theorem c_ways {T : NT} {tf : Nat → St → Rs} {m a n : Nat} {σ1 : St} {d : Nat} (hT : wfT T) (hI : Inv T σ1) (hl : sLev σ1 < 5) (han : a < n) (hn : n < tN T) (hA : T.2.2.1 n = nI a) (htf : ∀ σ, TPre T σ → TPost T a σ (tf a σ)) (HT : CTf T tf a) (hd : 10 * n + 2 ≤ d) (hm : m < 2 ^ 30) :
    ∀ g τ κ w h gi, WI m σ1 τ → WL σ1 τ → 2001 ≤ g + sLab τ → gi + g = 2001 → RC T (begP τ (sHeap σ1).length) κ w h → ∃ κ' w' h', E false mX6_goWaysOfSet d 15 [(0, .ref 19), (1, .int (nI n)), (2, .ref (wid (sLev σ1 + 1))), (3, .int (nI (sHeap σ1).length)), (4, .int (nI gi))] [] h (some (.int (nI (waysP (tf a) (sHeap σ1).length g τ).1))) h' ∧ GO T h κ (sLev σ1) (sHeap σ1).length (waysP (tf a) (sHeap σ1).length g τ) κ' w' h'
  | 0, τ, κ, w, h, gi, wi, _, hg, _, _ => by have := wi.2.2.2.2.2; omega
  | g + 1, τ, κ, w, h, gi, wi, wl, hg, hgi, r => by
    have h60 := hT.1
    have tp := beg_pre hI hl wi
    have tq := htf _ tp
    have wb := beg_WI wi
    have lb : sLev (begP τ (sHeap σ1).length) = sLev σ1 + 1 := wi.1
    have cl : (nI n).toNatClampNeg = n := nI_clamp (by omega)
    have hbase : (sHeap σ1).length ≤ 36000 := by
      have a1 := hI.2.2.2.1
      have a2 := wt_le (sVal σ1) (sLev σ1)
      omega
    have lsb : sLst (begP τ (sHeap σ1).length) (sLev σ1 + 1) = sLst τ (sLev σ1 + 1) ∧ sMany (begP τ (sHeap σ1).length) (sLev σ1 + 1) = sMany τ (sLev σ1 + 1) := ⟨rfl, rfl⟩
    have fb : sFull (begP τ (sHeap σ1).length) (sLev σ1 + 1) = [] := by
      show va_up (sFull τ) (sLev τ) [] (sLev σ1 + 1) = _
      rw [wi.1, up_eq]
    have cb : sCome (begP τ (sHeap σ1).length) (sLev σ1 + 1) = 0 := by
      show va_up (sCome τ) (sLev τ) 0 (sLev σ1 + 1) = _
      rw [wi.1, up_eq]
    have labb : sLab (begP τ (sHeap σ1).length) = sLab τ := rfl
    have fo : FLok (begP τ (sHeap σ1).length) := by
      refine ⟨by rw [lb, fb]; exact Nat.zero_le _, ?_⟩
      unfold vsL
      rw [lb, if_neg (by omega), lsb.1]
      exact wl.2
    obtain ⟨⟨N, g3, g4, g5, g6, g7, n0, ⟨n1, n2, n3, n4, n5, n6⟩, ⟨m3, m4, m5, m6, m7⟩, n60, nn⟩, ⟨K, k, k0, k1, k2, k3, k4, k5, k6, k7, k8, k9⟩, -⟩ := id r
    obtain ⟨κ1, w1, h1, c1, o1⟩ := HT _ κ w h n (d - 1) tp fo r han (by omega) (by omega)
    have e4 : g4 (nI n).toNatClampNeg = nI a := by rw [cl, (nn n hn).2.1]; exact hA
    have A := j_X6_goWaysOfSet_c_2 (d := d) (by omega) h (nI n) (wid (sLev σ1 + 1)) (nI (sHeap σ1).length) (nI gi) (nI_nlt (b := gi) (a := 2000) (by omega) (by decide)) K k k0 N n0 _ n6 ⟨nI_pos (by omega), nI_ge hn (by omega)⟩ n2 60 g4 m4 (vp_in_nI (by omega) (by decide))
    rw [e4] at A
    have go : ∀ {v : Option Value} {h' : AH}, E false mX6_goWaysOfSet d 36 [(0, .ref 19), (1, .int (nI n)), (2, .ref (wid (sLev σ1 + 1))), (3, .int (nI (sHeap σ1).length)), (4, .int (nI gi))] [.int (nI (tf a (begP τ (sHeap σ1).length)).1)] h1 v h' → E false mX6_goWaysOfSet d 15 [(0, .ref 19), (1, .int (nI n)), (2, .ref (wid (sLev σ1 + 1))), (3, .int (nI (sHeap σ1).length)), (4, .int (nI gi))] [] h v h' := fun z => E.st A (E.st (s_invv dX6_goWaysOfSet_33 rfl lX6_62 (by omega) rfl (Nat.le_of_ble_eq_true rfl) rfl (Nat.le_of_ble_eq_true rfl) k c1 (fun h => nomatch h)) z)
    unfold waysP
    generalize tf a (begP τ (sHeap σ1).length) = ρ at tq c1 o1 go
    obtain ⟨p1, p2, p3, p4, p5, p6, p7⟩ := tq
    obtain ⟨r1, f1, nd⟩ := o1
    rw [lb] at p4 p5 p6 p7
    have wr := wb.fr p2 p3
    have lr : sLev ρ.2 = sLev σ1 + 1 := wr.1
    have hls := p2.2.2.2.1 (sLev σ1 + 1) (by omega)
    rw [lsb.1, lsb.2] at hls
    have hcl := p2.2.2.2.2.2.2.2.2.1
    rw [lb, cb, labb] at hcl
    have hlr := wr.2.2.2.2.2
    obtain ⟨ro, li, q, q1, q2, q3⟩ := r1.take (l := sLev σ1 + 1) (by omega)
    have q1 := q1 (by omega)
    have h6 : sLev σ1 + 1 < 6 := by omega
    have cT := p3.2.2.1 (sLev σ1 + 1) (by omega)
    have mo60 : moL ρ.2 (sLev σ1 + 1) = 60 := by unfold moL; rw [if_neg (by omega)]
    have vse : vsL ρ.2 (sLev σ1 + 1) = 1 + (sLst ρ.2 (sLev σ1 + 1)).length := by unfold vsL; rw [if_neg (by omega)]
    have tke : tkL ρ.2 (sLev σ1 + 1) = (2, lN (sMany ρ.2 (sLev σ1 + 1))) :: (sLst ρ.2 (sLev σ1 + 1) ++ sFull ρ.2 (sLev σ1 + 1)) := by unfold tkL; rw [if_neg (by omega)]
    rw [mo60, vse, tke] at q
    have insm : sIns ρ.2 (sLev σ1 + 1) = m := wr.2.2.1
    -- on to the next way
    have next : ∀ (τ2 : St) (h2 : AH) (vs li : Nat) (v : Nat → Option Vl), WI m σ1 τ2 → WL σ1 τ2 → sLab τ2 = sLab ρ.2 → sTold τ2 = sTold ρ.2 → sCome τ2 = sCome ρ.2 → sIns τ2 = sIns ρ.2 → RCo T τ2 κ1 w1 (sLev σ1 + 1) h2 → li = sMany τ2 (sLev σ1 + 1) → RWr κ1 (sLev σ1 + 1) (sIns ρ.2 (sLev σ1 + 1)) (bv (sTold ρ.2 (sLev σ1 + 1))) (sCome ρ.2 (sLev σ1 + 1)) 60 vs li v ((2, lN (sMany τ2 (sLev σ1 + 1))) :: sLst τ2 (sLev σ1 + 1)) h2 → CF h κ h2 κ1 →
        ∃ κ' w' h', E false mX6_goWaysOfSet d 85 [(0, .ref 19), (1, .int (nI n)), (2, .ref (wid (sLev σ1 + 1))), (3, .int (nI (sHeap σ1).length)), (4, .int (nI gi))] [.int (nI (sHeap σ1).length), .ref 27] h2 (some (.int (nI (nextP (waysP (tf a) (sHeap σ1).length g) τ2).1))) h' ∧ GO T h κ (sLev σ1) (sHeap σ1).length (nextP (waysP (tf a) (sHeap σ1).length g) τ2) κ' w' h' := by
      intro τ2 h2 vs li v w2 l2 e1 e2 e3 e4 ro2 eli rw2 cf2
      obtain ⟨h3, c3, ro3, kp3, cf3⟩ := c_cutL ro2 (d := 0) (n := (sHeap σ1).length) (by omega)
      have rw3 := kp3 _ _ _ _ _ _ _ _ h6 rw2
      obtain ⟨GL, _, _, gl, -⟩ := ro2.2.2.2.2.1
      obtain ⟨FW, fw, -⟩ := rw3.1
      unfold nextP
      have w21 : sLev τ2 = sLev σ1 + 1 := w2.1
      cases e : nxt (sTold τ2 (sLev τ2)) (sCome τ2 (sLev τ2)) with
      | none =>
        rw [w21, e2, e3] at e
        have c4 := c_turn_no ro3 h6 rw3 (d := 0) cT p4 q2 e
        refine ⟨κ1, w1, h3, E.st (s_invv dX6_goWaysOfSet_85 rfl lX6_55 (by omega) rfl (Nat.le_of_ble_eq_true rfl) rfl (Nat.le_of_ble_eq_true rfl) gl c3 (fun h => nomatch h)) (E.st (j_X6_goWaysOfSet_g_1 (Nat.zero_le _) h3 (nI n) (wid (sLev σ1 + 1)) (nI (sHeap σ1).length) (nI gi)) (E.st (s_invv dX6_goWaysOfSet_89 rfl lX6_217 (by omega) rfl (Nat.le_of_ble_eq_true rfl) rfl (Nat.le_of_ble_eq_true rfl) fw c4 (fun h => nomatch h)) (j_X6_goWaysOfSet_h_2 (Nat.zero_le _) h3 (nI n) (wid (sLev σ1 + 1)) (nI (sHeap σ1).length) (nI gi) 0 rfl))), ?_⟩
        exact ⟨(sHeap τ2).take (sHeap σ1).length, _, _, _, _, _, _, _, _, ro3, by rw [List.take_take, Nat.min_self], rw3, cf2.tr cf3, fun _ => rfl, fun q => by cases q⟩
      | some t =>
        have e0 := e
        rw [w21, e2, e3] at e
        obtain ⟨h4, c4, ro4, rw4, cf4, bt⟩ := c_turn_yes ro3 h6 rw3 (d := 2) (by omega) cT p4 q2 e
        have nl := nxt_len e0
        rw [w21, e3] at nl
        have H := j_X6_goWaysOfSet_h_1 (d := d) (Nat.zero_le _) h4 (nI n) (wid (sLev σ1 + 1)) (nI (sHeap σ1).length) (nI gi) 1 (by decide)
        rw [nI_1] at H
        have rn : RC T (begP (wTC τ2 (va_up (sTold τ2) (sLev τ2) t) (sCome τ2)) (sHeap σ1).length) κ1 w1 h4 := by
          have et0 : va_up (sTold τ2) (sLev τ2) t 0 = sTold τ2 0 := up_ne (by omega)
          refine (ro4.same (σ' := begP (wTC τ2 (va_up (sTold τ2) (sLev τ2) t) (sCome τ2)) (sHeap σ1).length) rfl rfl rfl ?_ (fun k hk1 hk2 => ⟨rfl, up_ne (by rw [← w21] at hk2; exact hk2), up_ne (by rw [← w21] at hk2; exact hk2), up_ne (by rw [← w21] at hk2; exact hk2), up_ne (by rw [← w21] at hk2; exact hk2), rfl, rfl⟩)).put (by rw [← w21]; exact Nat.le_refl _) rw4 ?_ ?_ ?_ ?_ ?_ ?_ ?_ ?_ ⟨?_, ?_⟩
          · show (va_up (sTold τ2) (sLev τ2) t 0).length < 2 ^ 30
            rw [et0]
            exact ro4.2.2.2.2.2.2.2
          · show _ = sIns τ2 (sLev σ1 + 1)
            rw [e4]
          · show bv t = bv (va_up (sTold τ2) (sLev τ2) t (sLev σ1 + 1))
            rw [w21, up_eq]
          · show 0 = va_up (sCome τ2) (sLev τ2) 0 (sLev σ1 + 1)
            rw [w21, up_eq]
          · unfold moL
            rw [if_neg (by omega)]
          · show _ = if sLev σ1 + 1 = 0 then 0 else 1 + (sLst τ2 (sLev σ1 + 1)).length
            rw [if_neg (by omega), List.length_cons, Nat.add_comm]
          · intro _
            exact eli
          · show _ = va_up (sVal τ2) (sLev τ2) (fun _ => none) (sLev σ1 + 1)
            rw [w21, up_eq]
          · show _ = if sLev σ1 + 1 = 0 then _ else (2, lN (sMany τ2 (sLev σ1 + 1))) :: (sLst τ2 (sLev σ1 + 1) ++ va_up (sFull τ2) (sLev τ2) [] (sLev σ1 + 1))
            rw [if_neg (by omega), w21, up_eq, List.append_nil]
          · show bv (va_up (sTold τ2) (sLev τ2) t (sLev σ1 + 1)) < 2 ^ 60
            rw [w21, up_eq]
            exact bt
          · show sIns τ2 (sLev σ1 + 1) < 2 ^ 30
            rw [e4]
            exact q3
        have wi' : WI m σ1 (wTC τ2 (va_up (sTold τ2) (sLev τ2) t) (sCome τ2)) := by
          obtain ⟨a1, a2, a3, a4, a5, a6⟩ := w2
          refine ⟨a1, fun k hk => ?_, a3, a4, a5, a6⟩
          obtain ⟨b1, b2, b3, b4, b5, b6, b7⟩ := a2 k hk
          refine ⟨b1, b2, ?_, b4, b5, b6, b7⟩
          show va_up (sTold τ2) (sLev τ2) t k = _
          rw [up_ne (by omega)]
          exact b3
        obtain ⟨κ', w', h', x1, x2⟩ := c_ways hT hI hl han hn hA htf HT hd hm g _ κ1 w1 h4 (gi + 1) wi' l2 (by show 2001 ≤ g + sLab τ2; omega) (by omega) rn
        exact ⟨κ', w', h', E.st (s_invv dX6_goWaysOfSet_85 rfl lX6_55 (by omega) rfl (Nat.le_of_ble_eq_true rfl) rfl (Nat.le_of_ble_eq_true rfl) gl c3 (fun h => nomatch h)) (E.st (j_X6_goWaysOfSet_g_1 (Nat.zero_le _) h3 (nI n) (wid (sLev σ1 + 1)) (nI (sHeap σ1).length) (nI gi)) (E.st (s_invv dX6_goWaysOfSet_89 rfl lX6_217 (by omega) rfl (Nat.le_of_ble_eq_true rfl) rfl (Nat.le_of_ble_eq_true rfl) fw c4 (fun h => nomatch h)) (E.st H x1))), x2.tr ((cf2.tr cf3).tr cf4)⟩
    dsimp only
    obtain ⟨FW, fw, t0, t1, t2, t3, t4, t5, t6, t7, t8, t9, -⟩ := id q.1
    obtain ⟨GW, _, _, gw, _, _, _, gw3, -⟩ := id q.2.2
    by_cases z0 : ρ.1 = 0
    · rw [if_pos z0]
      rw [z0] at go
      obtain ⟨⟨ts, et, wts⟩, lt, -⟩ := p5 z0
      rw [fb, List.nil_append] at et
      have eln : ((2, lN (sMany ρ.2 (sLev σ1 + 1))) :: (sLst ρ.2 (sLev σ1 + 1) ++ sFull ρ.2 (sLev σ1 + 1))).length = 1 + (sLst ρ.2 (sLev σ1 + 1)).length + (sFull ρ.2 (sLev σ1 + 1)).length := by
        rw [List.length_cons, List.length_append]; omega
      rw [eln] at gw3
      by_cases hb : 1 + (sLst ρ.2 (sLev ρ.2)).length + (sFull ρ.2 (sLev ρ.2)).length > 100
      · rw [if_pos hb]
        rw [lr] at hb
        exact ⟨κ1, w1, h1, go (j_X6_goWaysOfSet_d_4 (by omega) h1 (nI n) (wid (sLev σ1 + 1)) (nI (sHeap σ1).length) (nI gi) (nI 0) rfl FW fw t9 GW gw _ gw3 (nI_ge (a := 100) (by omega) (by rw [hls.1]; have := wl.2; omega))), r1.go lr f1 (by decide) (fun q => by cases q)⟩
      · rw [if_neg hb]
        rw [lr] at hb
        have B := j_X6_goWaysOfSet_d_3 (d := d) (by omega) h1 (nI n) (wid (sLev σ1 + 1)) (nI (sHeap σ1).length) (nI gi) (nI 0) rfl FW fw t9 GW gw _ gw3 (nI_le (b := 100) (by omega) (by decide))
        have mb : sMany ρ.2 (sLev σ1 + 1) ≤ 100 := by
          have := WFs_len wl.1
          have := wl.2
          rw [hls.2]
          omega
        obtain ⟨h2, c2, ro2, q2', cf2⟩ := c_listValue ro h6 q (d := 2) (by omega) (by rw [q1]; omega)
        have ro2c : RCo T (colP ρ.2) κ1 w1 (sLev σ1 + 1) h2 := ro2.same rfl rfl rfl ro2.2.2.2.2.2.2.2 (fun k hk1 hk2 => ⟨rfl, rfl, rfl, rfl, rfl, up_ne (by rw [lr]; exact hk2), up_ne (by rw [lr]; exact hk2)⟩)
        obtain ⟨_, ⟨K2, kk2, _, _, _, _, kk4, -⟩, -⟩ := id ro2
        have em : sMany (colP ρ.2) (sLev σ1 + 1) = sMany ρ.2 (sLev σ1 + 1) + 1 := by
          show va_up (sMany ρ.2) (sLev ρ.2) (sMany ρ.2 (sLev ρ.2) + 1) (sLev σ1 + 1) = _
          rw [lr, up_eq]
        have elst : sLst (colP ρ.2) (sLev σ1 + 1) = sLst ρ.2 (sLev σ1 + 1) ++ sFull ρ.2 (sLev σ1 + 1) := by
          show va_up (sLst ρ.2) (sLev ρ.2) (sLst ρ.2 (sLev ρ.2) ++ sFull ρ.2 (sLev ρ.2)) (sLev σ1 + 1) = _
          rw [lr, up_eq]
        obtain ⟨κ', w', h', x1, x2⟩ := next (colP ρ.2) h2 (1 + (sLst ρ.2 (sLev σ1 + 1)).length) (li + 1) _ (by
          obtain ⟨a1, a2, a3, a4, a5, a6⟩ := wr
          refine ⟨a1, fun k hk => ?_, a3, a4, a5, a6⟩
          obtain ⟨b1, b2, b3, b4, b5, b6, b7⟩ := a2 k hk
          refine ⟨b1, b2, b3, b4, b5, ?_, ?_⟩
          · show va_up (sLst ρ.2) (sLev ρ.2) _ k = _
            rw [up_ne (by omega)]; exact b6
          · show va_up (sMany ρ.2) (sLev ρ.2) _ k = _
            rw [up_ne (by omega)]; exact b7) ⟨by
          rw [em, elst, hls.1, hls.2, et]
          exact WFs_app wl.1 wts, by
          rw [elst, List.length_append]
          omega⟩ rfl rfl rfl rfl ro2c (by rw [em, q1]) (by rw [em, elst, ← q1]; exact q2') (f1.tr cf2)
        exact ⟨κ', w', h', go (E.st B (E.st (s_invv dX6_goWaysOfSet_58 rfl lX6_211 (by omega) rfl (Nat.le_of_ble_eq_true rfl) rfl (Nat.le_of_ble_eq_true rfl) fw c2 (fun h => nomatch h)) (E.st (j_X6_goWaysOfSet_e_1 (Nat.zero_le _) h2 (nI n) (wid (sLev σ1 + 1)) (nI (sHeap σ1).length) (nI gi) K2 kk2 kk4) x1))), x2⟩
    · rw [if_neg z0]
      have nz : ¬ nI ρ.1 = 0 := fun q => z0 ((nI_eq (by omega) (by decide)).mp q)
      by_cases z1 : ρ.1 = 1
      · rw [if_pos z1]
        have B := j_X6_goWaysOfSet_d_2 (d := d) (Nat.zero_le _) h1 (nI n) (wid (sLev σ1 + 1)) (nI (sHeap σ1).length) (nI gi) (nI ρ.1) nz (by rw [z1]; rfl)
        obtain ⟨h2, c2, ro2, q2', cf2⟩ := c_dropValue ro h6 q (d := 2) (by omega) (by rw [hls.1]; have := wl.2; omega)
        obtain ⟨_, ⟨K2, kk2, _, _, _, _, kk4, -⟩, -⟩ := id ro2
        have tk : ((2, lN (sMany ρ.2 (sLev σ1 + 1))) :: (sLst ρ.2 (sLev σ1 + 1) ++ sFull ρ.2 (sLev σ1 + 1))).take (1 + (sLst ρ.2 (sLev σ1 + 1)).length) = (2, lN (sMany ρ.2 (sLev σ1 + 1))) :: sLst ρ.2 (sLev σ1 + 1) := by
          rw [Nat.add_comm, List.take_succ_cons, List.take_left']
          rfl
        rw [tk] at q2'
        obtain ⟨κ', w', h', x1, x2⟩ := next ρ.2 h2 _ _ _ wr ⟨by rw [hls.1, hls.2]; exact wl.1, by rw [hls.1]; exact wl.2⟩ rfl rfl rfl rfl ro2 q1 q2' (f1.tr cf2)
        exact ⟨κ', w', h', go (E.st B (E.st (s_invv dX6_goWaysOfSet_71 rfl lX6_214 (by omega) rfl (Nat.le_of_ble_eq_true rfl) rfl (Nat.le_of_ble_eq_true rfl) fw c2 (fun h => nomatch h)) (E.st (j_X6_goWaysOfSet_f_1 (Nat.zero_le _) h2 (nI n) (wid (sLev σ1 + 1)) (nI (sHeap σ1).length) (nI gi) K2 kk2 kk4) x1))), x2⟩
      · rw [if_neg z1]
        exact ⟨κ1, w1, h1, go (j_X6_goWaysOfSet_d_1 (Nat.zero_le _) h1 (nI n) (wid (sLev σ1 + 1)) (nI (sHeap σ1).length) (nI gi) (nI ρ.1) nz (fun q => z1 ((nI_eq (b := 1) (by omega) (by decide)).mp q))), r1.go (c := ρ.1) lr f1 z0 nd⟩
theorem c_goWays {T : NT} {tf : Nat → St → Rs} {m a n : Nat} {σ1 : St} {d : Nat} (hT : wfT T) (hI : Inv T σ1) (hl : sLev σ1 < 5) (han : a < n) (hn : n < tN T) (hA : T.2.2.1 n = nI a) (hB : T.2.2.2.1 n = nI m) (htf : ∀ σ, TPre T σ → TPost T a σ (tf a σ)) (HT : CTf T tf a) (hd : 10 * n + 2 ≤ d) (hm : m < 2 ^ 30) {κ : KP} {w : WR} {h : AH} {fi tb de mo vs li : Nat} {v : Nat → Option Vl} {ts : List Tok} (r : RCo T (inP σ1 m) κ w (sLev σ1 + 1) h) (q : RWr κ (sLev σ1 + 1) fi tb de mo vs li v ts h) :
    ∃ κ' w' h', CM mX6_goWaysOfSet d [.ref 19, .int (nI n), .ref (wid (sLev σ1 + 1)), .int (nI (sHeap σ1).length)] h (some (.int (nI (waysP (tf a) (sHeap σ1).length 2001 (inP σ1 m)).1))) h' ∧ GO T h κ (sLev σ1) (sHeap σ1).length (waysP (tf a) (sHeap σ1).length 2001 (inP σ1 m)) κ' w' h' := by
  have h60 := hT.1
  have h6 : sLev σ1 + 1 < 6 := by omega
  have cl : (nI n).toNatClampNeg = n := nI_clamp (by omega)
  obtain ⟨⟨N, g3, g4, g5, g6, g7, n0, ⟨n1, n2, n3, n4, n5, n6⟩, ⟨m3, m4, m5, m6, m7⟩, n60, nn⟩, ⟨K, k, k0, k1, k2, k3, k4, k5, k6, k7, k8, k9⟩, -⟩ := id r
  obtain ⟨κ1, h1, c1, ro1, rw1, cf1⟩ := c_beginOfSet r h6 q (d := 5) (by omega) m
  obtain ⟨FW, fw, -⟩ := id q.1
  have A := j_X6_goWaysOfSet_a_1 (d := d) (by omega) h (nI n) (wid (sLev σ1 + 1)) (nI (sHeap σ1).length) K k k0 N n0 _ n6 ⟨nI_pos (by omega), nI_ge hn (by omega)⟩ n3 60 g5 m5 (vp_in_nI (by omega) (by decide))
  have e5 : g5 (nI n).toNatClampNeg = nI m := by rw [cl, (nn n hn).2.2.1]; exact hB
  rw [e5] at A
  have wi := in_WI (m := m) hI
  have rn : RC T (begP (inP σ1 m) (sHeap σ1).length) κ1 w h1 := by
    have eh : sHeap (begP (inP σ1 m) (sHeap σ1).length) = sHeap (inP σ1 m) := List.take_length
    have lv : sLev (inP σ1 m) = sLev σ1 + 1 := rfl
    refine (ro1.same (σ' := begP (inP σ1 m) (sHeap σ1).length) rfl rfl eh ro1.2.2.2.2.2.2.2 (fun k hk1 hk2 => ⟨rfl, up_ne hk2, rfl, up_ne hk2, up_ne hk2, rfl, rfl⟩)).put (Nat.le_refl _) rw1 ?_ ?_ ?_ ?_ ?_ ?_ ?_ ?_ ⟨?_, ?_⟩
    · show m = va_up (sIns σ1) (sLev σ1 + 1) m (sLev σ1 + 1)
      rw [up_eq]
    · show 0 = bv (va_up (sTold σ1) (sLev σ1 + 1) [] (sLev σ1 + 1))
      rw [up_eq]
      rfl
    · show 0 = va_up (sCome σ1) (sLev σ1 + 1) 0 (sLev σ1 + 1)
      rw [up_eq]
    · unfold moL
      rw [if_neg (by omega)]
    · show 1 = if sLev σ1 + 1 = 0 then 0 else 1 + (va_up (sLst σ1) (sLev σ1 + 1) [] (sLev σ1 + 1)).length
      rw [if_neg (by omega), up_eq]
      rfl
    · intro _
      show 0 = va_up (sMany σ1) (sLev σ1 + 1) 0 (sLev σ1 + 1)
      rw [up_eq]
    · show _ = va_up (sVal σ1) (sLev σ1 + 1) (fun _ => none) (sLev σ1 + 1)
      rw [up_eq]
    · show _ = if sLev σ1 + 1 = 0 then _ else (2, lN (va_up (sMany σ1) (sLev σ1 + 1) 0 (sLev σ1 + 1))) :: (va_up (sLst σ1) (sLev σ1 + 1) [] (sLev σ1 + 1) ++ va_up (sFull σ1) (sLev σ1 + 1) [] (sLev σ1 + 1))
      rw [if_neg (by omega), up_eq, up_eq, up_eq]
      rfl
    · show bv (va_up (sTold σ1) (sLev σ1 + 1) [] (sLev σ1 + 1)) < 2 ^ 60
      rw [up_eq]
      decide
    · show va_up (sIns σ1) (sLev σ1 + 1) m (sLev σ1 + 1) < 2 ^ 30
      rw [up_eq]
      exact hm
  obtain ⟨κ', w', h', x1, x2⟩ := c_ways hT hI hl han hn hA htf HT hd hm 2001 (inP σ1 m) κ1 w h1 0 wi.1 wi.2 (Nat.le_add_right _ _) rfl rn
  exact ⟨κ', w', h', E.st A (E.st (s_invv dX6_goWaysOfSet_9 rfl lX6_208 (by omega) rfl (Nat.le_of_ble_eq_true rfl) rfl (Nat.le_of_ble_eq_true rfl) fw c1 (fun h => nomatch h)) (E.st (j_X6_goWaysOfSet_b_1 (Nat.zero_le _) h1 (nI n) (wid (sLev σ1 + 1)) (nI (sHeap σ1).length)) x1)), x2.tr cf1⟩
