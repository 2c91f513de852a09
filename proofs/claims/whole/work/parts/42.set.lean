/-! sets, and the working out as a whole, in the class -/
theorem c_takeList {T : NT} {σ : St} {κ : KP} {w : WR} {l : Nat} {h : AH} {fi tb de mo vs li : Nat} {v : Nat → Option Vl} {ts : List Tok} (r : RCo T σ κ w l h) (hl : l < 6) (h2 : sLev σ < l) (q : RWr κ l fi tb de mo vs li v ts h) {d : Nat} (hd : 5 ≤ d) (hm : (sHeap σ).length + ts.length ≤ 36000) : ∃ κ' h', CM mX6_takeList d [.ref 19, .ref (wid l + 4)] h (some (.int 0)) h' ∧ RC T (wHeap σ (sHeap σ ++ ts)) κ' (2, (lN (sHeap σ).length, (nI ts.length, (w.2.2.2.1, w.2.2.2.2)))) h' ∧ CF h κ h' κ' := by
  obtain ⟨-, ⟨K, k, k0, k1, k2, k3, k4, -⟩, -, -, tl, -⟩ := id r
  obtain ⟨G, _, _, g1, _, _, _, g5, -⟩ := id tl
  obtain ⟨GW, _, _, gw, _, _, _, gw3, -⟩ := id q.2.2
  have A := j_X6_takeList_b_1 (d := d) (by omega) h (wid l + 4) 0 K k k4 G g1 _ g5 GW gw _ gw3
  obtain ⟨κ1, h1, c1, r1, q1, f1⟩ := c_addFromL r hl q (d := 4) (by omega) hm
  obtain ⟨-, ⟨K, k, k0, k1, k2, k3, k4, k5, k6, k7, k8, k9⟩, -⟩ := id r1
  have C := j_X6_takeList_c_2 (d := d) (by omega) h1 (wid l + 4) (nI (sHeap σ).length) (nI ts.length) 1 0 (by decide) K k
  rw [hs_hs, hs_hs, nI_l (by omega)] at C
  obtain ⟨r2, f2⟩ := (r1.putF h2 q1).at19 (σ' := wHeap σ (sHeap σ ++ ts)) (w' := (2, (lN (sHeap σ).length, (nI ts.length, (w.2.2.2.1, w.2.2.2.2))))) (c := ob 6 (fo 10 (va_up (va_up (va_up K 5 (.int 2)) 6 (.long (lN (sHeap σ).length))) 7 (.int (nI ts.length))))) rfl ⟨_, hs_eq, (up_ne (by decide)).trans ((up_ne (by decide)).trans ((up_ne (by decide)).trans (k0))), (up_ne (by decide)).trans ((up_ne (by decide)).trans ((up_ne (by decide)).trans (k1))), (up_ne (by decide)).trans ((up_ne (by decide)).trans ((up_ne (by decide)).trans (k2))), (up_ne (by decide)).trans ((up_ne (by decide)).trans ((up_ne (by decide)).trans (k3))), (up_ne (by decide)).trans ((up_ne (by decide)).trans ((up_ne (by decide)).trans (k4))), (up_ne (by decide)).trans ((up_ne (by decide)).trans (up_eq)), (up_ne (by decide)).trans (up_eq), up_eq, (up_ne (by decide)).trans ((up_ne (by decide)).trans ((up_ne (by decide)).trans (k8))), (up_ne (by decide)).trans ((up_ne (by decide)).trans ((up_ne (by decide)).trans (k9)))⟩ (fun k _ => SameL.rf _ k) rfl rfl
  exact ⟨κ1, _, E.st A (E.st (s_invv dX6_takeList_20 rfl lX6_221 (by omega) rfl (Nat.le_of_ble_eq_true rfl) rfl (Nat.le_of_ble_eq_true rfl) g1 c1 (fun h => nomatch h)) C), r2, f1.tr f2⟩
theorem w_setLoop {T : NT} {rec : Nat → St → Rs} {f n m : Nat} {σ : St} {d : Nat} (HV : CVal T rec f) (R : RH T rec f) (hT : wfT T) (hnf : n ≤ f) (hp : Pre T n σ) (hv : sVal σ (sLev σ) n = none) (hl : lvOf (sIns σ) n (sLev σ) = sLev σ) (h5 : sLev σ < 5) (hA : okA T n) (hB : T.2.2.2.1 n = nI m) (hm : m < 2 ^ 30) (hd : 10 * n + 3 ≤ d) :
    ∀ g σ1 κ w h b, Mid T n σ σ1 → cn (sVal σ1 (sLev σ)) 60 < g → b + g = 61 → RC T σ1 κ w h → ∃ κ' w' h', E false mX6_workSet d 19 [(0, .ref 19), (1, .int (nI n)), (2, .ref (wid (sLev σ))), (3, .ref (wid (sLev σ + 1))), (4, .int (nI b))] [] h (some (.int (nI (goP rec (tfP rec T f (tA T n)) m n g σ1).1))) h' ∧ WO T h κ n (goP rec (tfP rec T f (tA T n)) m n g σ1) κ' w' h'
  | 0, σ1, κ, w, h, b, _, hg, _, _ => by omega
  | g + 1, σ1, κ, w, h, b, M, hg, hbg, r => by
    have h60 := hT.1
    have hn := hp.2.1
    have ha := hA.2
    have ls : sLev σ1 = sLev σ := M.1.1
    have I1 := M.2.1
    have htf := tf_post R hT f (tA T n) (by omega) (by omega) (by omega)
    have wi := in_WI (m := m) I1
    have wp := ways_post (m := m) I1 (by omega) htf 2001 (inP σ1 m) wi.1 wi.2 (Nat.le_add_right _ _)
    have hbase : (sHeap σ1).length ≤ 36000 := by
      have a1 := I1.2.2.2.1
      have a2 := wt_le (sVal σ1) (sLev σ1)
      omega
    obtain ⟨rf, fi, tb, de, mo, vs, li, v, ts0, rq⟩ := r.takeF (l := sLev σ1 + 1) (by omega) (by omega)
    obtain ⟨-, ⟨K, k, k0, k1, k2, k3, k4, k5, k6, k7, k8, k9⟩, -, -, tl, -, -, ht30⟩ := id r
    obtain ⟨G, _, _, g1, _, _, _, g5, -⟩ := id tl
    have B := j_X6_workSet_b_2 (d := d) (by omega) h (nI n) (wid (sLev σ)) (wid (sLev σ + 1)) (nI b) (nI_nlt (a := 60) (by omega) (by decide)) K k k4 G g1 _ g5
    obtain ⟨ri, kp, cf1⟩ := rf.at19 (σ' := inP σ1 m) (w' := w) (h' := hs h 19 (ob 6 (fo 10 (va_up K 2 (.ref (wid (sLev σ + 1))))))) rfl (fun x hx => hs_ne hx) (by
      show RWk (sLev σ1 + 1) (sLab σ1) w _
      rw [ls]
      exact ⟨_, hs_eq, (up_ne (by decide)).trans (k0), (up_ne (by decide)).trans (k1), up_eq, (up_ne (by decide)).trans (k3), (up_ne (by decide)).trans (k4), (up_ne (by decide)).trans (k5), (up_ne (by decide)).trans (k6), (up_ne (by decide)).trans (k7), (up_ne (by decide)).trans (k8), (up_ne (by decide)).trans (k9)⟩) (fun j h1 h2 => by
      have h1 : j ≤ sLev σ1 + 1 := h1
      exact ⟨by omega, up_ne h2, rfl, up_ne h2, rfl, rfl, up_ne h2, up_ne h2⟩) (fun j h1 _ _ => by have h1 : sLev σ1 + 1 < j := h1; omega) rfl (by show sLev σ1 + 1 < 6; omega) (by
      show (va_up (sTold σ1) (sLev σ1 + 1) [] 0).length < 2 ^ 30
      rw [up_ne (by omega)]
      exact ht30)
    have k' : (hs h 19 (ob 6 (fo 10 (va_up K 2 (.ref (wid (sLev σ + 1))))))).1 19 = ob 6 (fo 10 (va_up K 2 (.ref (wid (sLev σ + 1))))) := hs_eq
    obtain ⟨κ2, w2, h2, c2, o2⟩ := c_goWays hT I1 (by omega) ha hn hA.1 hB htf (c_tellInFull HV R hT f (tA T n) (by omega) (by omega) (by omega)) (d := d - 1) (by omega) hm ri (kp _ _ _ _ _ _ _ _ (by omega) rq)
    unfold goP
    dsimp only
    generalize waysP (tfP rec T f (tA T n)) (sHeap σ1).length 2001 (inP σ1 m) = ρ at wp c2 o2
    obtain ⟨w1, w2', w3, w4, w5, w6⟩ := wp
    have om := out_mid M w4
    have lo : sLev (outP ρ.2 (sHeap σ1).length) = sLev σ1 := om.1.1.1.trans ls.symm
    have lρ : sLev ρ.2 = sLev σ1 + 1 := w4.1
    obtain ⟨hp', fi, tb, de, mo, vs, li, v, ts, ro2, eh, rq2, cf2, e0, e4⟩ := o2
    clear k9 k8 k7 k6 k5 k4 k3 k2 k1 k0
    obtain ⟨-, ⟨K2, kk, k0, k1, k2, k3, k4, k5, k6, k7, k8, k9⟩, -⟩ := id ro2
    have C := j_X6_workSet_c_1 (d := d) (Nat.zero_le _) h2 (nI n) (wid (sLev σ)) (wid (sLev σ + 1)) (nI b) (nI (sHeap σ1).length) (nI ρ.1) K2 kk k4
    obtain ⟨ro3, kp3, cf3⟩ := ro2.at19 (σ' := wHeap (outP ρ.2 (sHeap σ1).length) hp') (w' := w2) (h' := hs h2 19 (ob 6 (fo 10 (va_up K2 2 (.ref (wid (sLev σ))))))) rfl (fun x hx => hs_ne hx) (by
      show RWk (sLev ρ.2 - 1) (sLab ρ.2) w2 _
      rw [show sLev ρ.2 - 1 = sLev σ by omega]
      exact ⟨_, hs_eq, (up_ne (by decide)).trans (k0), (up_ne (by decide)).trans (k1), up_eq, (up_ne (by decide)).trans (k3), (up_ne (by decide)).trans (k4), (up_ne (by decide)).trans (k5), (up_ne (by decide)).trans (k6), (up_ne (by decide)).trans (k7), (up_ne (by decide)).trans (k8), (up_ne (by decide)).trans (k9)⟩) (fun j h1 h2 => by
      have h1 : j ≤ sLev ρ.2 - 1 := h1
      exact ⟨by show j ≤ sLev ρ.2; omega, rfl, rfl, rfl, rfl, rfl, rfl, rfl⟩) (fun j h1 _ _ => by have h1 : sLev ρ.2 - 1 < j := h1; show sLev ρ.2 < j; omega) rfl (by show sLev ρ.2 - 1 < 6; omega) (by
      show (sTold ρ.2 0).length < 2 ^ 30
      exact ro2.2.2.2.2.2.2.2)
    have rq3 := kp3 _ _ _ _ _ _ _ _ (by omega) rq2
    obtain ⟨h4, c4, ro4, kp4, cf4⟩ := c_cutL ro3 (d := 0) (n := (sHeap σ1).length) (by omega)
    have rq4 := kp4 _ _ _ _ _ _ _ _ (by omega) rq3
    obtain ⟨G3, _, _, g3, -⟩ := id ro3.2.2.2.2.1
    have eo : wHeap (wHeap (outP ρ.2 (sHeap σ1).length) hp') ((sHeap (wHeap (outP ρ.2 (sHeap σ1).length) hp')).take (sHeap σ1).length) = outP ρ.2 (sHeap σ1).length := by
      show mkS _ _ _ _ _ _ _ _ _ (hp'.take (sHeap σ1).length) _ _ = mkS _ _ _ _ _ _ _ _ _ ((sHeap ρ.2).take (sHeap σ1).length) _ _
      rw [eh]
      rfl
    rw [eo] at ro4
    rw [ls] at c2
    have cf : CF h κ h4 κ2 := ((cf1.tr cf2).tr cf3).tr cf4
    have go : ∀ {v : Option Value} {h' : AH}, E false mX6_workSet d 64 [(0, .ref 19), (1, .int (nI n)), (2, .ref (wid (sLev σ))), (3, .ref (wid (sLev σ + 1))), (4, .int (nI b)), (5, .int (nI (sHeap σ1).length)), (6, .int (nI ρ.1))] [] h4 v h' → E false mX6_workSet d 19 [(0, .ref 19), (1, .int (nI n)), (2, .ref (wid (sLev σ))), (3, .ref (wid (sLev σ + 1))), (4, .int (nI b))] [] h v h' := fun z => E.st B (E.st (s_invv dX6_workSet_45 rfl lX6_200 (by omega) rfl (Nat.le_of_ble_eq_true rfl) rfl (Nat.le_of_ble_eq_true rfl) k' c2 (fun h => nomatch h)) (E.st C (E.st (s_invv dX6_workSet_61 rfl lX6_55 (by omega) rfl (Nat.le_of_ble_eq_true rfl) rfl (Nat.le_of_ble_eq_true rfl) g3 c4 (fun h => nomatch h)) z)))
    have rc4 : RC T (outP ρ.2 (sHeap σ1).length) κ2 w2 h4 := ro4.putF (by omega) rq4
    by_cases z0 : ρ.1 = 0
    · rw [if_pos z0]
      obtain ⟨x1, x2⟩ := w5 z0
      have kpost := keep_post hT om.1 hp hv hl (by rw [lo]; exact x1) (by rw [lo]; exact x2)
      have e0 := e0 z0
      rw [z0] at go
      have lt : ts.length = 1 + (sLst ρ.2 (sLev σ1 + 1)).length := by rw [e0, List.length_cons]; omega
      have hk := kpost.2.2.1.2.2.2.1
      have hw' := wt_le (sVal (keepP (outP ρ.2 (sHeap σ1).length) n)) (sLev (keepP (outP ρ.2 (sHeap σ1).length) n))
      have lk : sLev (keepP (outP ρ.2 (sHeap σ1).length) n) = sLev σ1 := lo
      have hkl : (sHeap (keepP (outP ρ.2 (sHeap σ1).length) n)).length = (sHeap (outP ρ.2 (sHeap σ1).length)).length + ts.length := by
        show (sHeap (outP ρ.2 (sHeap σ1).length) ++ (2, lN (sMany ρ.2 (sLev (outP ρ.2 (sHeap σ1).length) + 1))) :: sLst ρ.2 (sLev (outP ρ.2 (sHeap σ1).length) + 1)).length = _
        rw [List.length_append, List.length_cons, lo, lt]
        omega
      obtain ⟨FW, fw, _, _, _, _, _, _, _, _, _, f9, -⟩ := id rq4.1
      rw [ls] at fw f9
      have D := j_X6_workSet_d_3 (d := d) (by omega) h4 (nI n) (wid (sLev σ)) (wid (sLev σ + 1)) (nI b) (nI (sHeap σ1).length) (nI 0) rfl FW fw f9
      obtain ⟨κ5, h5', c5, r5, cf5⟩ := c_takeList ro4 (by omega) (by omega) rq4 (d := d - 1) (by omega) (by dsimp only at hk; omega)
      rw [ls] at c5
      obtain ⟨-, ⟨K4, kk4, -⟩, -⟩ := id ro4
      have ek : keepP (outP ρ.2 (sHeap σ1).length) n = sv (wHeap (outP ρ.2 (sHeap σ1).length) (sHeap (outP ρ.2 (sHeap σ1).length) ++ ts)) n (some (.inr (.inr ((sHeap (outP ρ.2 (sHeap σ1).length)).length, ts.length)))) := by
        rw [lt, e0]
        unfold keepP
        rw [lo]
        rfl
      refine ⟨κ5, _, h5', go (E.st D (E.st (s_invv dX6_workSet_74 rfl lX6_204 (by omega) rfl (Nat.le_of_ble_eq_true rfl) rfl (Nat.le_of_ble_eq_true rfl) kk4 c5 (fun h => nomatch h)) (j_X6_workSet_e_1 (Nat.zero_le _) h5' 0 0))), wHeap (outP ρ.2 (sHeap σ1).length) (sHeap (outP ρ.2 (sHeap σ1).length) ++ ts), r5, cf.tr cf5, fun _ => ⟨_, ek, rfl, rfl, rfl⟩, fun q => absurd rfl q, fun q => by cases q⟩
    · rw [if_neg z0]
      have nz : ¬ nI ρ.1 = 0 := fun q => z0 ((nI_eq (by omega) (by decide)).mp q)
      obtain ⟨-, ⟨K4, kk4, y0, y1, y2, y3, y4, y5, y6, y7, y8, y9⟩, -⟩ := id ro4
      by_cases h44 : ρ.1 = 4 ∧ sWl (outP ρ.2 (sHeap σ1).length) = sLev (outP ρ.2 (sHeap σ1).length)
      · rw [if_pos h44]
        obtain ⟨q1, q2, q3, q4⟩ := w6 h44.1
        have hwl : sWl ρ.2 = sLev σ1 := h44.2.trans lo
        have hx : sWn ρ.2 < n := by omega
        obtain ⟨nd1, nd2⟩ := e4 h44.1
        rw [hwl, ls] at nd2
        rw [nd2] at y9
        rw [nd1] at y8
        have D := j_X6_workSet_k_2 (d := d) (Nat.zero_le _) h4 (nI n) (wid (sLev σ)) (wid (sLev σ + 1)) (nI b) (nI (sHeap σ1).length) (nI ρ.1) nz (by rw [h44.1]; rfl) K4 kk4 y9 _ y8
        obtain ⟨κ5, w5', h5', c5, o5⟩ := HV (sWn ρ.2) (outP ρ.2 (sHeap σ1).length) κ2 w2 h4 n (d - 1) (by omega) (om.1.pre hp hv hx) rc4 hx (by omega) (by omega)
        have p := R (sWn ρ.2) (by omega) _ (om.1.pre hp hv hx)
        have go2 : ∀ {v : Option Value} {h' : AH}, E false mX6_workSet d 104 [(0, .ref 19), (1, .int (nI n)), (2, .ref (wid (sLev σ))), (3, .ref (wid (sLev σ + 1))), (4, .int (nI b))] [.int (nI (rec (sWn ρ.2) (outP ρ.2 (sHeap σ1).length)).1)] h5' v h' → E false mX6_workSet d 19 [(0, .ref 19), (1, .int (nI n)), (2, .ref (wid (sLev σ))), (3, .ref (wid (sLev σ + 1))), (4, .int (nI b))] [] h v h' := fun z => go (E.st D (E.st (s_invv dX6_workSet_101 rfl lX6_66 (by omega) rfl (Nat.le_of_ble_eq_true rfl) rfl (Nat.le_of_ble_eq_true rfl) kk4 c5 (fun h => nomatch h)) z))
        show ∃ κ' w' h', E false mX6_workSet d 19 [(0, .ref 19), (1, .int (nI n)), (2, .ref (wid (sLev σ))), (3, .ref (wid (sLev σ + 1))), (4, .int (nI b))] [] h (some (.int (nI (bd (rec (sWn ρ.2) (outP ρ.2 (sHeap σ1).length)) (goP rec (tfP rec T f (tA T n)) m n g)).1))) h' ∧ WO T h κ n (bd (rec (sWn ρ.2) (outP ρ.2 (sHeap σ1).length)) (goP rec (tfP rec T f (tA T n)) m n g)) κ' w' h'
        by_cases h00 : (rec (sWn ρ.2) (outP ρ.2 (sHeap σ1).length)).1 = 0
        · rw [bd_0 h00]
          rw [h00] at go2
          have M2 := om.1.post hx p h00
          have cn2 : cn (sVal (rec (sWn ρ.2) (outP ρ.2 (sHeap σ1).length)).2 (sLev σ)) 60 < g := by
            have hlv : lvOf (sIns ρ.2) (sWn ρ.2) (sLev σ1) = sLev σ1 := by
              rw [hwl] at q3
              have : lvOf (sIns ρ.2) (sWn ρ.2) (sLev σ1 + 1) = if sIns ρ.2 (sLev σ1 + 1) ≤ sWn ρ.2 then sLev σ1 + 1 else lvOf (sIns ρ.2) (sWn ρ.2) (sLev σ1) := rfl
              rw [this] at q3
              split at q3
              · omega
              · exact q3
            obtain ⟨p1, p2, p3, p4, p5, p6, p7, -⟩ := p
            obtain ⟨⟨y, hy⟩, -⟩ := p7 h00
            have lv2 : lvOf (sIns (rec (sWn ρ.2) (outP ρ.2 (sHeap σ1).length)).2) (sWn ρ.2) (sLev (rec (sWn ρ.2) (outP ρ.2 (sHeap σ1).length)).2) = sLev σ := by
              rw [p2.1, lo, ls, lvOf_ext (ins := sIns ρ.2) _ (fun j hj => p2.2.1 j (by rw [lo, ls]; exact hj)), ← ls]
              exact hlv
            unfold gv at hy
            rw [lv2] at hy
            have ev : sVal (outP ρ.2 (sHeap σ1).length) (sLev σ) = sVal σ1 (sLev σ) := by
              rw [← ls]
              exact (w4.2.1 _ (Nat.le_refl _)).2.1
            have hn0 : sVal σ1 (sLev σ) (sWn ρ.2) = none := by
              rw [← ev, ← ls]
              rw [hwl] at q2
              exact q2
            have pers := p2.2.2.2.2.1
            rw [lo, ls, ev] at pers
            have c1 := cn_pers (v := va_up (sVal σ1 (sLev σ)) (sWn ρ.2) (some y)) (w := sVal (rec (sWn ρ.2) (outP ρ.2 (sHeap σ1).length)).2 (sLev σ)) (fun i z hz => by
              by_cases e : i = sWn ρ.2
              · subst e
                rw [up_eq] at hz
                cases hz
                exact hy
              · rw [up_ne e] at hz
                exact pers i z hz) 60
            have c2 := cn_up_lo (y := y) hn0 (show sWn ρ.2 < 60 by omega)
            omega
          obtain ⟨κ6, w6', h6', x1, x2⟩ := w_setLoop HV R hT hnf hp hv hl h5 hA hB hm hd g _ κ5 w5' h5' (b + 1) M2 cn2 (by omega) o5.1
          have H := j_X6_workSet_f_1 (d := d) (Nat.zero_le _) h5' (nI n) (wid (sLev σ)) (wid (sLev σ + 1)) (nI b) (nI 0) rfl
          rw [nI_1] at H
          exact ⟨κ6, w6', h6', go2 (E.st H x1), x2.tr (cf.tr o5.2.1)⟩
        · rw [bd_n h00]
          exact ⟨κ5, w5', h5', go2 (j_X6_workSet_f_2 (Nat.zero_le _) h5' (nI n) (wid (sLev σ)) (wid (sLev σ + 1)) (nI b) _ (fun q => h00 ((nI_eq (by have := p.1; omega) (by decide)).mp q))), (o5.bad h00).tr cf⟩
      · rw [if_neg h44]
        by_cases z4 : ρ.1 = 4
        · obtain ⟨q1, q2, q3, q4⟩ := w6 z4
          obtain ⟨nd1, nd2⟩ := e4 z4
          rw [nd2] at y9
          have hne : sWl ρ.2 ≠ sLev σ1 := fun e => h44 ⟨z4, e.trans lo.symm⟩
          have b1 := wid_b (show sWl ρ.2 < 6 by omega)
          have b2 := wid_b (show sLev σ < 6 by omega)
          exact ⟨κ2, w2, h4, go (j_X6_workSet_d_2 (Nat.zero_le _) h4 (nI n) (wid (sLev σ)) (wid (sLev σ + 1)) (nI b) (nI (sHeap σ1).length) (nI ρ.1) nz (by rw [z4]; rfl) K4 kk4 _ y9 (by omega) (by omega) (fun q => by have := wid_inj q; omega)), outP ρ.2 (sHeap σ1).length, rc4, cf, fun q => absurd q z0, fun _ => rfl, fun _ => ⟨nd1, nd2⟩⟩
        · exact ⟨κ2, w2, h4, go (j_X6_workSet_d_1 (Nat.zero_le _) h4 (nI n) (wid (sLev σ)) (wid (sLev σ + 1)) (nI b) (nI (sHeap σ1).length) (nI ρ.1) nz (fun q => z4 ((nI_eq (b := 4) (by omega) (by decide)).mp q))), outP ρ.2 (sHeap σ1).length, rc4, cf, fun q => absurd q z0, fun _ => rfl, fun q => absurd q z4⟩
/-- a value that was worked out is kept -/
theorem c_keep {T : NT} {σ : St} {κ : KP} {w : WR} {h : AH} (r : RC T σ κ w h) {n : Nat} (hn : n < 60) {x : Vl} (g : GotV w x) {d : Nat} (hd : 1 ≤ d) : ∃ h', E false mX6_workOut d 181 [(0, .ref 19), (1, .int (nI n)), (2, .int (nI 0))] [] h (some (.int (nI 0))) h' ∧ RC T (sv σ n (some x)) κ w h' ∧ CF h κ h' κ := by
  have h6 := r.2.2.2.2.2.2.1
  obtain ⟨ro, li, q, -⟩ := r.take (Nat.le_refl (sLev σ))
  obtain ⟨⟨F, a, f0, f1, f2, f3, f4, f5, f6, f7, f8, f9, f10, f11⟩, ⟨fk, fn, fl, b1, b2, b3, -⟩, -⟩ := id q
  obtain ⟨-, ⟨K, k, k0, k1, k2, k3, k4, k5, k6, k7, k8, k9⟩, -⟩ := id r
  have cl : (nI n).toNatClampNeg = n := nI_clamp (by omega)
  have vi : vp_in (nI n) 60 := vp_in_nI hn (by decide)
  have C := j_X6_workOut_c_4 (d := d) hd h (nI n) (nI 0) (wid (sLev σ)) rfl K k k2 _ k5 _ k6 _ k7 F a (nI_pos (by omega)) (nI_ge (b := 60) hn (by decide)) f3 60 fk b1 vi (by omega) f4 60 fn b2 vi f5 60 fl b3 (by omega) vi (by omega)
  obtain ⟨g1, g2, g3⟩ := g
  rw [cl, g1, g2, g3] at C
  obtain ⟨x1, x2⟩ := r.vals hn x b1 b2 b3
  exact ⟨_, C, x1, x2⟩
theorem WO.out {T : NT} {h : AH} {κ : KP} {n : Nat} {σ : St} {r : Rs} {κ' : KP} {w' : WR} {h' : AH} (o : WO T h κ n r κ' w' h') (p : Post T n σ r) (hn : n < 60) (hl : lvOf (sIns σ) n (sLev σ) = sLev σ) {d : Nat} (hd : 1 ≤ d) : ∃ h'', E false mX6_workOut d 181 [(0, .ref 19), (1, .int (nI n)), (2, .int (nI r.1))] [] h' (some (.int (nI r.1))) h'' ∧ VO T h κ n r κ' w' h'' := by
  obtain ⟨σ', r1, f1, e0, e1, e4⟩ := o
  by_cases z : r.1 = 0
  · obtain ⟨x, ex, g⟩ := e0 z
    obtain ⟨h2, c2, r2, f2⟩ := c_keep r1 hn g hd
    rw [z]
    refine ⟨h2, c2, by rw [ex]; exact r2, f1.tr f2, fun _ => ⟨x, ?_, g⟩, fun q => by rw [z] at q; cases q⟩
    have hlv := lvOf_ext (ins := sIns σ) (ins' := sIns r.2) n (k := sLev σ) (fun j hj => p.2.1.2.1 j hj)
    have lv := p.2.1.1
    rw [ex] at hlv lv ⊢
    have lv : sLev σ' = sLev σ := lv
    have hlv : lvOf (sIns σ') n (sLev σ) = lvOf (sIns σ) n (sLev σ) := hlv
    exact sv_gv (by rw [lv, hlv, hl])
  · have := e1 z
    exact ⟨h', j_X6_workOut_c_1 (Nat.zero_le _) h' (nI n) (nI r.1) 0 (fun q => z ((nI_eq (by have := p.1; omega) (by decide)).mp q)), by rw [this]; exact r1, f1, fun q => absurd q z, e4⟩
