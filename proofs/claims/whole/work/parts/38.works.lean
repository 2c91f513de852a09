/-! the methods that work a node out, in the class -/
theorem WO.tr {T : NT} {h h1 : AH} {κ κ1 : KP} {n : Nat} {r : Rs} {κ' : KP} {w' : WR} {h' : AH} (c : CF h κ h1 κ1) (o : WO T h1 κ1 n r κ' w' h') : WO T h κ n r κ' w' h' := by
  obtain ⟨σ', a, b, e⟩ := o
  exact ⟨σ', a, c.tr b, e⟩
theorem VO.bad {T : NT} {h : AH} {κ : KP} {n x : Nat} {r : Rs} {κ' : KP} {w' : WR} {h' : AH} (o : VO T h κ x r κ' w' h') (z : ¬ r.1 = 0) : WO T h κ n r κ' w' h' := ⟨r.2, o.1, o.2.1, fun q => absurd q z, fun _ => rfl, o.2.2.2⟩
theorem RC.wo {T : NT} {σ : St} {κ κ0 : KP} {w : WR} {h hz : AH} {n c : Nat} (r : RC T σ κ w h) (f : CF hz κ0 h κ) (h0 : ¬ c = 0) (h4 : ¬ c = 4) : WO T hz κ0 n (c, σ) κ w h := ⟨σ, r, f, fun q => absurd q h0, fun _ => rfl, fun q => absurd q h4⟩
theorem w_tk {T : NT} {rec : Nat → St → Rs} {f n : Nat} {σ : St} {κ : KP} {w : WR} {h : AH} {d : Nat} (HV : CVal T rec f) {x : Nat} (hx : x < f) (hxn : x < n) (h60 : n ≤ 60) (hp : Pre T x σ) (r : RC T σ κ w h) (hd : 10 * (x + 1) ≤ d) : ∃ κ' w' h', CM mX6_valueOf d [.ref 19, .int (nI x), .int (nI n)] h (some (.int (nI (tkP rec n x σ).1))) h' ∧ WO T h κ n (tkP rec n x σ) κ' w' h' := by
  obtain ⟨κ', w', h', c, o⟩ := HV x σ κ w h n d hx hp r hxn h60 hd
  unfold tkP
  by_cases z : (rec x σ).1 = 0
  · rw [bd_0 z]
    obtain ⟨o1, o2, o3, o4⟩ := o
    obtain ⟨y, gy, g⟩ := o3 z
    rw [z] at c
    rw [gy]
    exact ⟨κ', w', h', c, (rec x σ).2, o1, o2, fun _ => ⟨y, rfl, g⟩, fun q => absurd rfl q, fun q => by cases q⟩
  · rw [bd_n z]
    exact ⟨κ', w', h', c, o.bad z⟩
theorem cho_mid {T : NT} {n : Nat} {σ : St} (hp : Pre T n σ) (hlab : sLab σ < 2000) (hv : sVal σ (sLev σ) n = none) : ∀ t : Nat → List Bool, (∀ k, k < sLev σ → t k = sTold σ k) → (sLev σ = 0 → t 0 = sTold σ 0) → sCome σ (sLev σ) + 1 ≤ (t (sLev σ)).length → Mid T n σ (wTC (wLab σ (sLab σ + 1)) t (va_up (sCome σ) (sLev σ) (sCome σ (sLev σ) + 1))) := by
  obtain ⟨⟨h1, h2, h3, h4, h5⟩, h6, h7⟩ := id hp
  have c60 : sCome σ (sLev σ) + 1 ≤ 60 := by
    have := cn_lt (sVal σ (sLev σ)) (show n < n + 1 by omega) hv
    omega
  intro t t1 t2 t3
  have ec : va_up (sCome σ) (sLev σ) (sCome σ (sLev σ) + 1) (sLev σ) = sCome σ (sLev σ) + 1 := up_eq
  refine ⟨⟨rfl, fun _ _ => rfl, fun k hk => ⟨rfl, t1 k hk, up_ne (by omega), rfl⟩, fun _ _ => ⟨rfl, rfl⟩, fun _ _ h => h, List.prefix_refl _, Nat.le_succ _, ?_, ?_, t2⟩, ⟨h1, h2, fun k hk => ?_, h4, hlab⟩, rfl, ?_, fun _ _ => rfl, fun x _ => ?_⟩
  · show sCome σ (sLev σ) ≤ va_up (sCome σ) (sLev σ) (sCome σ (sLev σ) + 1) (sLev σ)
    rw [ec]; omega
  · show sLab σ + va_up (sCome σ) (sLev σ) (sCome σ (sLev σ) + 1) (sLev σ) ≤ sLab σ + 1 + sCome σ (sLev σ)
    rw [ec]; omega
  · have hk : k ≤ sLev σ := hk
    show va_up (sCome σ) (sLev σ) (sCome σ (sLev σ) + 1) k ≤ (t k).length
    by_cases e : k = sLev σ
    · rw [e, ec]; exact t3
    · rw [up_ne e, t1 k (by omega)]; exact h3 k hk
  · show va_up (sCome σ) (sLev σ) (sCome σ (sLev σ) + 1) (sLev σ) ≤ 60
    rw [ec]; exact c60
  · show va_up (sCome σ) (sLev σ) (sCome σ (sLev σ) + 1) (sLev σ) + cn (sVal σ (sLev σ)) x ≤ _
    rw [ec]; omega
theorem w_part {T : NT} {rec : Nat → St → Rs} {f n : Nat} {σ σ1 : St} {κ : KP} {w : WR} {h : AH} {d : Nat} (HV : CVal T rec f) (R : RH T rec f) (hT : wfT T) (hnf : n ≤ f) (m : Mid T n σ σ1) (hp : Pre T n σ) (hv : sVal σ (sLev σ) n = none) (r : RC T σ1 κ w h) (hA : okA T n) (hd : 10 * n + 1 ≤ d) (s : Bool) : ∃ κ' w' h', CM mX6_workPart d [.ref 19, .int (nI n), .int (if s then 1 else 0)] h (some (.int (nI (nAs rec pairO (tA T n) σ1 (fun p σ2 => tkP rec n (if s then tB T p else tA T p) σ2)).1))) h' ∧ WO T h κ n (nAs rec pairO (tA T n) σ1 (fun p σ2 => tkP rec n (if s then tB T p else tA T p) σ2)) κ' w' h' := by
  have hx := hA.2
  have hn := hp.2.1
  have h60 := hT.1
  obtain ⟨⟨N, g3, g4, g5, g6, g7, n0, ⟨n1, n2, n3, n4, n5, n6⟩, ⟨m3, m4, m5, m6, m7⟩, n60, nn⟩, ⟨K, k, k0, k1, k2, k3, k4, k5, k6, k7, k8, k9⟩, -⟩ := id r
  have e4 : g4 (nI n).toNatClampNeg = nI (tA T n) := by rw [nI_clamp (by omega), (nn n hn).2.1]; exact hA.1
  have A := j_X6_workPart_a_1 (d := d) (by omega) h (nI n) (if s then 1 else 0) 0 K k k0 N n0 _ n6 ⟨nI_pos (by omega), nI_ge hn (by omega)⟩ n2 60 g4 m4 (vp_in_nI (by omega) (by decide))
  rw [e4] at A
  obtain ⟨κ1, w1, h1, c1, o1⟩ := HV (tA T n) σ1 κ w h n (d - 1) (by omega) (m.pre hp hv hx) r hx (by omega) (by omega)
  have P := R (tA T n) (by omega) σ1 (m.pre hp hv hx)
  have go : ∀ {v : Option Value} {h' : AH}, E false mX6_workPart d 13 [(0, .ref 19), (1, .int (nI n)), (2, .int (if s then 1 else 0))] [.int (nI (rec (tA T n) σ1).1)] h1 v h' → CM mX6_workPart d [.ref 19, .int (nI n), .int (if s then 1 else 0)] h v h' := fun z => E.st A (E.st (s_invv dX6_workPart_10 rfl lX6_66 (by omega) rfl (Nat.le_of_ble_eq_true rfl) rfl (Nat.le_of_ble_eq_true rfl) k c1 (fun h => nomatch h)) z)
  unfold nAs
  by_cases z : (rec (tA T n) σ1).1 = 0
  · rw [bd_0 z]
    have m2 := m.post hx P z
    obtain ⟨r1, f1, v1, -⟩ := o1
    obtain ⟨x, gx, gk, gn, gl⟩ := v1 z
    rw [z] at go
    obtain ⟨a1, a2⟩ := gv_ok m2.2.1 gx
    dsimp only
    rw [gx]
    clear nn n60 m3 m4 m5 m6 m7 n1 n2 n3 n4 n5 n6 n0 k9 k8 k7 k6 k5 k4 k3 k2 k1 k0 e4 A k
    obtain ⟨⟨N, g3, g4, g5, g6, g7, n0, ⟨n1, n2, n3, n4, n5, n6⟩, ⟨m3, m4, m5, m6, m7⟩, n60, nn⟩, ⟨K, k, k0, k1, k2, k3, k4, k5, k6, k7, k8, k9⟩, -⟩ := id r1
    have fl : ¬ w1.1 = 1 → ∃ κ' w' h', CM mX6_workPart d [.ref 19, .int (nI n), .int (if s then 1 else 0)] h (some (.int 1)) h' ∧ WO T h κ n (1, (rec (tA T n) σ1).2) κ' w' h' := fun q => ⟨κ1, w1, h1, go (j_X6_workPart_b_3 (Nat.zero_le _) h1 (nI n) _ (nI 0) 0 rfl K k _ k5 q), r1.wo f1 (by decide) (by decide)⟩
    match x, gx, gk, gn, gl, a2 with
    | .inl v, gx, gk, gn, gl, a2 => exact fl (by rw [gk]; show ¬ (0 : Int32) = 1; decide)
    | .inr (.inr q), gx, gk, gn, gl, a2 => exact fl (by rw [gk]; show ¬ (2 : Int32) = 1; decide)
    | .inr (.inl p), gx, gk, gn, gl, a2 =>
      have hpt : p < tN T := by have := a2.1; omega
      obtain ⟨pa, pb⟩ := pair_args hT hpt a2.2
      have pn := a2.1
      have pg : w1.2.1.toInt32 = nI p := by rw [gn]; exact lN_i p
      have cl : (nI p).toNatClampNeg = p := nI_clamp (by omega)
      have wp := hT.2 p hpt
      have wp : okA T p ∧ okB T p := by
        unfold wfN at wp
        rw [a2.2] at wp
        rcases wp with w | w | w | w | w | w | w | w | w | w <;> first | exact w.2 | exact absurd w (by decide) | exact absurd w.1 (by decide)
      cases s with
      | false =>
        have B := j_X6_workPart_b_1 (d := d) (by omega) h1 (nI n) 0 (nI 0) 0 rfl K k _ k5 gk _ k6 (nI p) pg rfl k0 N n0 _ n6 ⟨nI_pos (by omega), nI_ge hpt (by omega)⟩ n2 60 g4 m4 (vp_in_nI (by omega) (by decide))
        have e4 : g4 (nI p).toNatClampNeg = nI (tA T p) := by rw [cl, (nn p hpt).2.1]; exact wp.1.1
        rw [e4] at B
        obtain ⟨κ2, w2, h2, c2, o2⟩ := w_tk (d := d - 1) HV (x := tA T p) (by omega) (show tA T p < n by omega) (by omega) (m2.pre hp hv (by omega)) r1 (by omega)
        exact ⟨κ2, w2, h2, go (E.st B (E.st (s_invv dX6_workPart_64 rfl lX6_66 (by omega) rfl (Nat.le_of_ble_eq_true rfl) rfl (Nat.le_of_ble_eq_true rfl) k c2 (fun h => nomatch h)) (j_X6_workPart_c_1 (Nat.zero_le _) h2 (nI n) 0 _))), o2.tr f1⟩
      | true =>
        have B := j_X6_workPart_b_2 (d := d) (by omega) h1 (nI n) 1 (nI 0) 0 rfl K k _ k5 gk _ k6 (nI p) pg (by decide) k0 N n0 _ n6 ⟨nI_pos (by omega), nI_ge hpt (by omega)⟩ n3 60 g5 m5 (vp_in_nI (by omega) (by decide))
        have e4 : g5 (nI p).toNatClampNeg = nI (tB T p) := by rw [cl, (nn p hpt).2.2.1]; exact wp.2.1
        rw [e4] at B
        obtain ⟨κ2, w2, h2, c2, o2⟩ := w_tk (d := d - 1) HV (x := tB T p) (by omega) (show tB T p < n by omega) (by omega) (m2.pre hp hv (by omega)) r1 (by omega)
        exact ⟨κ2, w2, h2, go (E.st B (E.st (s_invv dX6_workPart_64 rfl lX6_66 (by omega) rfl (Nat.le_of_ble_eq_true rfl) rfl (Nat.le_of_ble_eq_true rfl) k c2 (fun h => nomatch h)) (j_X6_workPart_c_1 (Nat.zero_le _) h2 (nI n) 1 _))), o2.tr f1⟩
  · rw [bd_n z]
    exact ⟨κ1, w1, h1, go (j_X6_workPart_b_4 (Nat.zero_le _) h1 (nI n) _ _ 0 (fun q => z ((nI_eq (by have := P.1; omega) (by decide)).mp q))), o1.bad z⟩
theorem w_when {T : NT} {rec : Nat → St → Rs} {f n : Nat} {σ σ1 : St} {κ : KP} {w : WR} {h : AH} {d : Nat} (HV : CVal T rec f) (R : RH T rec f) (hT : wfT T) (hnf : n ≤ f) (m : Mid T n σ σ1) (hp : Pre T n σ) (hv : sVal σ (sLev σ) n = none) (r : RC T σ1 κ w h) (hA : okA T n) (hB : okB T n) (hC : okC T n) (hd : 10 * n + 1 ≤ d) : ∃ κ' w' h', CM mX6_workWhen d [.ref 19, .int (nI n)] h (some (.int (nI (nAs rec numO (tA T n) σ1 (fun v σ2 => tkP rec n (if v = 0 then tC T n else tB T n) σ2)).1))) h' ∧ WO T h κ n (nAs rec numO (tA T n) σ1 (fun v σ2 => tkP rec n (if v = 0 then tC T n else tB T n) σ2)) κ' w' h' := by
  have hx := hA.2
  have hn := hp.2.1
  have h60 := hT.1
  obtain ⟨⟨N, g3, g4, g5, g6, g7, n0, ⟨n1, n2, n3, n4, n5, n6⟩, ⟨m3, m4, m5, m6, m7⟩, n60, nn⟩, ⟨K, k, k0, k1, k2, k3, k4, k5, k6, k7, k8, k9⟩, -⟩ := id r
  have e4 : g4 (nI n).toNatClampNeg = nI (tA T n) := by rw [nI_clamp (by omega), (nn n hn).2.1]; exact hA.1
  have A := j_X6_workWhen_a_1 (d := d) (by omega) h (nI n) 0 K k k0 N n0 _ n6 ⟨nI_pos (by omega), nI_ge hn (by omega)⟩ n2 60 g4 m4 (vp_in_nI (by omega) (by decide))
  rw [e4] at A
  obtain ⟨κ1, w1, h1, c1, o1⟩ := HV (tA T n) σ1 κ w h n (d - 1) (by omega) (m.pre hp hv hx) r hx (by omega) (by omega)
  have P := R (tA T n) (by omega) σ1 (m.pre hp hv hx)
  have go : ∀ {v : Option Value} {h' : AH}, E false mX6_workWhen d 13 [(0, .ref 19), (1, .int (nI n))] [.int (nI (rec (tA T n) σ1).1)] h1 v h' → CM mX6_workWhen d [.ref 19, .int (nI n)] h v h' := fun z => E.st A (E.st (s_invv dX6_workWhen_10 rfl lX6_66 (by omega) rfl (Nat.le_of_ble_eq_true rfl) rfl (Nat.le_of_ble_eq_true rfl) k c1 (fun h => nomatch h)) z)
  unfold nAs
  by_cases z : (rec (tA T n) σ1).1 = 0
  · rw [bd_0 z]
    have m2 := m.post hx P z
    obtain ⟨r1, f1, v1, -⟩ := o1
    obtain ⟨x, gx, gk, gn, gl⟩ := v1 z
    rw [z] at go
    dsimp only
    rw [gx]
    clear nn n60 m3 m4 m5 m6 m7 n1 n2 n3 n4 n5 n6 n0 k9 k8 k7 k6 k5 k4 k3 k2 k1 k0 e4 A k
    obtain ⟨⟨N, g3, g4, g5, g6, g7, n0, ⟨n1, n2, n3, n4, n5, n6⟩, ⟨m3, m4, m5, m6, m7⟩, n60, nn⟩, ⟨K, k, k0, k1, k2, k3, k4, k5, k6, k7, k8, k9⟩, -⟩ := id r1
    have fl : ¬ w1.1 = 0 → ∃ κ' w' h', CM mX6_workWhen d [.ref 19, .int (nI n)] h (some (.int 1)) h' ∧ WO T h κ n (1, (rec (tA T n) σ1).2) κ' w' h' := fun q => ⟨κ1, w1, h1, go (j_X6_workWhen_b_3 (Nat.zero_le _) h1 (nI n) (nI 0) 0 rfl K k _ k5 q), r1.wo f1 (by decide) (by decide)⟩
    match x, gx, gk, gn, gl with
    | .inr (.inl p), gx, gk, gn, gl => exact fl (by rw [gk]; show ¬ (1 : Int32) = 0; decide)
    | .inr (.inr q), gx, gk, gn, gl => exact fl (by rw [gk]; show ¬ (2 : Int32) = 0; decide)
    | .inl v, gx, gk, gn, gl =>
      have cl : (nI n).toNatClampNeg = n := nI_clamp (by omega)
      have gn : w1.2.1 = v := gn
      show ∃ κ' w' h', CM mX6_workWhen d [.ref 19, .int (nI n)] h (some (.int (nI (tkP rec n (if v = 0 then tC T n else tB T n) (rec (tA T n) σ1).2).1))) h' ∧ WO T h κ n (tkP rec n (if v = 0 then tC T n else tB T n) (rec (tA T n) σ1).2) κ' w' h'
      have hb := hB.2
      have hc := hC.2
      by_cases y : v = 0
      · rw [if_pos y]
        have B := j_X6_workWhen_b_1 (d := d) (by omega) h1 (nI n) (nI 0) 0 rfl K k _ k5 gk _ k6 (gn.trans y) k0 N n0 _ n6 ⟨nI_pos (by omega), nI_ge hn (by omega)⟩ n4 60 g6 m6 (vp_in_nI (by omega) (by decide))
        have e4 : g6 (nI n).toNatClampNeg = nI (tC T n) := by rw [cl, (nn n hn).2.2.2.1]; exact hC.1
        rw [e4] at B
        obtain ⟨κ2, w2, h2, c2, o2⟩ := w_tk (d := d - 1) HV (x := tC T n) (by omega) hc (by omega) (m2.pre hp hv (by omega)) r1 (by omega)
        exact ⟨κ2, w2, h2, go (E.st B (E.st (s_invv dX6_workWhen_59 rfl lX6_66 (by omega) rfl (Nat.le_of_ble_eq_true rfl) rfl (Nat.le_of_ble_eq_true rfl) k c2 (fun h => nomatch h)) (j_X6_workWhen_c_1 (Nat.zero_le _) h2 (nI n) _))), o2.tr f1⟩
      · rw [if_neg y]
        have B := j_X6_workWhen_b_2 (d := d) (by omega) h1 (nI n) (nI 0) 0 rfl K k _ k5 gk _ k6 (by rw [gn]; exact y) k0 N n0 _ n6 ⟨nI_pos (by omega), nI_ge hn (by omega)⟩ n3 60 g5 m5 (vp_in_nI (by omega) (by decide))
        have e4 : g5 (nI n).toNatClampNeg = nI (tB T n) := by rw [cl, (nn n hn).2.2.1]; exact hB.1
        rw [e4] at B
        obtain ⟨κ2, w2, h2, c2, o2⟩ := w_tk (d := d - 1) HV (x := tB T n) (by omega) hb (by omega) (m2.pre hp hv (by omega)) r1 (by omega)
        exact ⟨κ2, w2, h2, go (E.st B (E.st (s_invv dX6_workWhen_59 rfl lX6_66 (by omega) rfl (Nat.le_of_ble_eq_true rfl) rfl (Nat.le_of_ble_eq_true rfl) k c2 (fun h => nomatch h)) (j_X6_workWhen_c_1 (Nat.zero_le _) h2 (nI n) _))), o2.tr f1⟩
  · rw [bd_n z]
    exact ⟨κ1, w1, h1, go (j_X6_workWhen_b_4 (Nat.zero_le _) h1 (nI n) _ 0 (fun q => z ((nI_eq (by have := P.1; omega) (by decide)).mp q))), o1.bad z⟩
/-- a number is got -/
theorem RC.num {T : NT} {σ : St} {κ : KP} {w : WR} {h : AH} (r : RC T σ κ w h) {K : Nat → Value} (k : h.1 19 = ob 6 (fo 10 K)) (v : Int64) : RC T σ κ (0, (v, (1, (w.2.2.2.1, w.2.2.2.2)))) (hs h 19 (ob 6 (fo 10 (va_up (va_up (va_up K 5 (.int 0)) 6 (.long v)) 7 (.int 1))))) ∧ CF h κ (hs h 19 (ob 6 (fo 10 (va_up (va_up (va_up K 5 (.int 0)) 6 (.long v)) 7 (.int 1))))) κ := by
  obtain ⟨-, ⟨K', kk, k0, k1, k2, k3, k4, k5, k6, k7, k8, k9⟩, -⟩ := id r
  have : K' = K ∨ True := Or.inr trivial
  have hf : fo 10 K' = fo 10 K := by
    have := kk.symm.trans k
    unfold ob at this
    have := Sum.inr.inj this
    have := Sum.inr.inj this
    exact (Prod.mk.inj this).2
  have he : ∀ i, i < 10 → K' i = K i := fun i hi => by
    have a := fo_get (N := 10) (F := K') hi
    have b := fo_get (N := 10) (F := K) hi
    rw [hf] at a
    exact Option.some.inj (a.symm.trans b)
  rw [he _ (by decide)] at k0 k1 k2 k3 k4 k5 k6 k7 k8 k9
  exact r.at19 (σ' := σ) rfl ⟨_, hs_eq, (up_ne (by decide)).trans ((up_ne (by decide)).trans ((up_ne (by decide)).trans (k0))), (up_ne (by decide)).trans ((up_ne (by decide)).trans ((up_ne (by decide)).trans (k1))), (up_ne (by decide)).trans ((up_ne (by decide)).trans ((up_ne (by decide)).trans (k2))), (up_ne (by decide)).trans ((up_ne (by decide)).trans ((up_ne (by decide)).trans (k3))), (up_ne (by decide)).trans ((up_ne (by decide)).trans ((up_ne (by decide)).trans (k4))), (up_ne (by decide)).trans ((up_ne (by decide)).trans (up_eq)), (up_ne (by decide)).trans (up_eq), up_eq, (up_ne (by decide)).trans ((up_ne (by decide)).trans ((up_ne (by decide)).trans (k8))), (up_ne (by decide)).trans ((up_ne (by decide)).trans ((up_ne (by decide)).trans (k9)))⟩ (fun k _ => SameL.rf σ k) rfl rfl
theorem c_reckon {h : AH} {K : Nat → Value} (k : h.1 19 = ob 6 (fo 10 K)) {t : Int32} (ht : ∃ j, j ≤ 5 ∧ t = nI j) (a b : Int64) {d : Nat} (hd : 2 ≤ d) : (∀ v, reck t a b = some v → CM mX6_reckon d [.ref 19, .int t, .long a, .long b] h (some (.int 0)) (hs h 19 (ob 6 (fo 10 (va_up (va_up (va_up K 5 (.int 0)) 6 (.long v)) 7 (.int 1)))))) ∧ (reck t a b = none → CM mX6_reckon d [.ref 19, .int t, .long a, .long b] h (some (.int 1)) h) := by
  obtain ⟨j, hj, rfl⟩ := ht
  have H : ∀ {x y : Int64} {h' : AH}, CM mX6_reckon d [.ref 19, .int (nI j), .long a, .long b] h (some (.int 0)) (hs (hs (hs h 19 (ob 6 (fo 10 (va_up K 5 (.int (0 : Int32)))))) 19 (ob 6 (fo 10 (va_up (va_up K 5 (.int (0 : Int32))) 6 (.long x))))) 19 (ob 6 (fo 10 (va_up (va_up (va_up K 5 (.int (0 : Int32))) 6 (.long x)) 7 (.int (1 : Int32)))))) → x = y → CM mX6_reckon d [.ref 19, .int (nI j), .long a, .long b] h (some (.int 0)) (hs h 19 (ob 6 (fo 10 (va_up (va_up (va_up K 5 (.int 0)) 6 (.long y)) 7 (.int 1))))) := fun q e => by
    subst e
    rw [hs_hs, hs_hs] at q
    exact q
  have hc : j = 0 ∨ j = 1 ∨ j = 2 ∨ j = 3 ∨ j = 4 ∨ j = 5 := by omega
  unfold reck
  rcases hc with rfl | rfl | rfl | rfl | rfl | rfl
  · rw [if_pos (show nI 0 = 0 from rfl)]
    exact ⟨fun v hv => H (p_X6_reckon_1 hd h 19 _ a b rfl K k) (Option.some.inj hv) (h' := h), (fun hv => by cases hv)⟩
  · rw [if_neg (show ¬ nI 1 = 0 by decide), if_pos (show nI 1 = 1 from rfl)]
    exact ⟨fun v hv => H (p_X6_reckon_2 hd h 19 _ a b rfl K k) (Option.some.inj hv) (h' := h), (fun hv => by cases hv)⟩
  · rw [if_neg (show ¬ nI 2 = 0 by decide), if_neg (show ¬ nI 2 = 1 by decide), if_pos (show nI 2 = 2 from rfl)]
    exact ⟨fun v hv => H (p_X6_reckon_3 hd h 19 _ a b rfl K k) (Option.some.inj hv) (h' := h), (fun hv => by cases hv)⟩
  · rw [if_neg (show ¬ nI 3 = 0 by decide), if_neg (show ¬ nI 3 = 1 by decide), if_neg (show ¬ nI 3 = 2 by decide), if_pos (show nI 3 = 3 from rfl)]
    by_cases y : b = 0
    · rw [if_pos y]
      exact ⟨(fun v hv => by cases hv), fun _ => p_X6_reckon_5 (Nat.zero_le _) h 19 _ a b rfl y⟩
    · rw [if_neg y]
      exact ⟨fun v hv => H (p_X6_reckon_4 hd h 19 _ a b rfl y K k) (Option.some.inj hv) (h' := h), (fun hv => by cases hv)⟩
  · rw [if_neg (show ¬ nI 4 = 0 by decide), if_neg (show ¬ nI 4 = 1 by decide), if_neg (show ¬ nI 4 = 2 by decide), if_neg (show ¬ nI 4 = 3 by decide), if_pos (show nI 4 = 4 from rfl)]
    refine ⟨fun v hv => ?_, (fun hv => by cases hv)⟩
    have hv := Option.some.inj hv
    by_cases y : b ≤ a
    · exact H (p_X6_reckon_6 hd h 19 _ a b rfl y K k) (by rw [if_neg (Int64.not_lt.mpr y)] at hv; rw [← hv]) (h' := h)
    · exact H (p_X6_reckon_7 hd h 19 _ a b rfl y K k) (by rw [if_pos (Int64.not_le.mp y)] at hv; rw [← hv]) (h' := h)
  · rw [if_neg (show ¬ nI 5 = 0 by decide), if_neg (show ¬ nI 5 = 1 by decide), if_neg (show ¬ nI 5 = 2 by decide), if_neg (show ¬ nI 5 = 3 by decide), if_neg (show ¬ nI 5 = 4 by decide)]
    refine ⟨fun v hv => ?_, (fun hv => by cases hv)⟩
    have hv := Option.some.inj hv
    by_cases y : a = b
    · exact H (p_X6_reckon_9 hd h 19 _ a b rfl y K k) (by rw [if_pos y] at hv; rw [← hv]) (h' := h)
    · exact H (p_X6_reckon_8 hd h 19 _ a b rfl y K k) (by rw [if_neg y] at hv; rw [← hv]) (h' := h)
theorem nAs_0 {α : Type} {rec : Nat → St → Rs} {pr : Option Vl → Option α} {x : Nat} {σ : St} {g : α → St → Rs} {a : α} (z : (rec x σ).1 = 0) (e : pr (gv (rec x σ).2 x) = some a) : nAs rec pr x σ g = g a (rec x σ).2 := by
  unfold nAs
  rw [bd_0 z, e]
theorem nAs_f {α : Type} {rec : Nat → St → Rs} {pr : Option Vl → Option α} {x : Nat} {σ : St} {g : α → St → Rs} (z : (rec x σ).1 = 0) (e : pr (gv (rec x σ).2 x) = none) : nAs rec pr x σ g = (1, (rec x σ).2) := by
  unfold nAs
  rw [bd_0 z, e]
theorem nAs_b {α : Type} {rec : Nat → St → Rs} {pr : Option Vl → Option α} {x : Nat} {σ : St} {g : α → St → Rs} (z : ¬ (rec x σ).1 = 0) : nAs rec pr x σ g = rec x σ := by
  unfold nAs
  rw [bd_n z]
theorem w_op {T : NT} {rec : Nat → St → Rs} {f n : Nat} {σ σ1 : St} {κ : KP} {w : WR} {h : AH} {d : Nat} (HV : CVal T rec f) (R : RH T rec f) (hT : wfT T) (hnf : n ≤ f) (m : Mid T n σ σ1) (hp : Pre T n σ) (hv : sVal σ (sLev σ) n = none) (r : RC T σ1 κ w h) (hA : okA T n) (hB : okB T n) (hC : ∃ j, j ≤ 5 ∧ T.2.2.2.2.1 n = nI j) (hd : 10 * n + 1 ≤ d) : ∃ κ' w' h', CM mX6_workOp d [.ref 19, .int (nI n)] h (some (.int (nI (nAs rec numO (tA T n) σ1 (fun a σ2 => nAs rec numO (tB T n) σ2 (fun b σ3 => ansP σ3 n (reck (T.2.2.2.2.1 n) a b)))).1))) h' ∧ WO T h κ n (nAs rec numO (tA T n) σ1 (fun a σ2 => nAs rec numO (tB T n) σ2 (fun b σ3 => ansP σ3 n (reck (T.2.2.2.2.1 n) a b)))) κ' w' h' := by
  have hx := hA.2
  have hn := hp.2.1
  have h60 := hT.1
  have cl : (nI n).toNatClampNeg = n := nI_clamp (by omega)
  obtain ⟨⟨N, g3, g4, g5, g6, g7, n0, ⟨n1, n2, n3, n4, n5, n6⟩, ⟨m3, m4, m5, m6, m7⟩, n60, nn⟩, ⟨K, k, k0, k1, k2, k3, k4, k5, k6, k7, k8, k9⟩, -⟩ := id r
  have e4 : g4 (nI n).toNatClampNeg = nI (tA T n) := by rw [cl, (nn n hn).2.1]; exact hA.1
  have A := j_X6_workOp_a_1 (d := d) (by omega) h (nI n) 0 K k k0 N n0 _ n6 ⟨nI_pos (by omega), nI_ge hn (by omega)⟩ n2 60 g4 m4 (vp_in_nI (by omega) (by decide))
  rw [e4] at A
  obtain ⟨κ1, w1, h1, c1, o1⟩ := HV (tA T n) σ1 κ w h n (d - 1) (by omega) (m.pre hp hv hx) r hx (by omega) (by omega)
  have P := R (tA T n) (by omega) σ1 (m.pre hp hv hx)
  have go : ∀ {v : Option Value} {h' : AH}, E false mX6_workOp d 13 [(0, .ref 19), (1, .int (nI n))] [.int (nI (rec (tA T n) σ1).1)] h1 v h' → CM mX6_workOp d [.ref 19, .int (nI n)] h v h' := fun z => E.st A (E.st (s_invv dX6_workOp_10 rfl lX6_66 (by omega) rfl (Nat.le_of_ble_eq_true rfl) rfl (Nat.le_of_ble_eq_true rfl) k c1 (fun h => nomatch h)) z)
  by_cases z : (rec (tA T n) σ1).1 = 0
  · have m2 := m.post hx P z
    obtain ⟨r1, f1, v1, -⟩ := o1
    obtain ⟨x, gx, gk, gn, gl⟩ := v1 z
    rw [z] at go
    clear nn n60 m3 m4 m5 m6 m7 n1 n2 n3 n4 n5 n6 n0 k9 k8 k7 k6 k5 k4 k3 k2 k1 k0 e4 A k
    obtain ⟨⟨N, g3, g4, g5, g6, g7, n0, ⟨n1, n2, n3, n4, n5, n6⟩, ⟨m3, m4, m5, m6, m7⟩, n60, nn⟩, ⟨K, k, k0, k1, k2, k3, k4, k5, k6, k7, k8, k9⟩, -⟩ := id r1
    have fl : ¬ w1.1 = 0 → ∃ κ' w' h', CM mX6_workOp d [.ref 19, .int (nI n)] h (some (.int 1)) h' ∧ WO T h κ n (1, (rec (tA T n) σ1).2) κ' w' h' := fun q => ⟨κ1, w1, h1, go (j_X6_workOp_b_2 (Nat.zero_le _) h1 (nI n) (nI 0) 0 rfl K k _ k5 q), r1.wo f1 (by decide) (by decide)⟩
    match x, gx, gk, gn, gl with
    | .inr (.inl p), gx, gk, gn, gl => rw [nAs_f z (by rw [gx]; rfl)]; exact fl (by rw [gk]; show ¬ (1 : Int32) = 0; decide)
    | .inr (.inr q), gx, gk, gn, gl => rw [nAs_f z (by rw [gx]; rfl)]; exact fl (by rw [gk]; show ¬ (2 : Int32) = 0; decide)
    | .inl v, gx, gk, gn, gl =>
      rw [nAs_0 z (a := v) (by rw [gx]; rfl)]
      generalize (rec (tA T n) σ1).2 = σ2 at m2 r1 gx
      have gn : w1.2.1 = v := gn
      rw [gn] at k6
      have hb := hB.2
      have e5 : g5 (nI n).toNatClampNeg = nI (tB T n) := by rw [cl, (nn n hn).2.2.1]; exact hB.1
      have B := j_X6_workOp_b_1 (d := d) (by omega) h1 (nI n) (nI 0) 0 rfl K k _ k5 gk _ k6 k0 N n0 _ n6 ⟨nI_pos (by omega), nI_ge hn (by omega)⟩ n3 60 g5 m5 (vp_in_nI (by omega) (by decide))
      rw [e5] at B
      obtain ⟨κ2, w2, h2, c2, o2⟩ := HV (tB T n) σ2 κ1 w1 h1 n (d - 1) (by omega) (m2.pre hp hv hb) r1 hb (by omega) (by omega)
      have Q := R (tB T n) (by omega) σ2 (m2.pre hp hv hb)
      have go2 : ∀ {v' : Option Value} {h' : AH}, E false mX6_workOp d 47 [(0, .ref 19), (1, .int (nI n)), (3, .long v)] [.int (nI (rec (tB T n) σ2).1)] h2 v' h' → CM mX6_workOp d [.ref 19, .int (nI n)] h v' h' := fun z => go (E.st B (E.st (s_invv dX6_workOp_44 rfl lX6_66 (by omega) rfl (Nat.le_of_ble_eq_true rfl) rfl (Nat.le_of_ble_eq_true rfl) k c2 (fun h => nomatch h)) z))
      by_cases z2 : (rec (tB T n) σ2).1 = 0
      · have m3' := m2.post hb Q z2
        obtain ⟨r2, f2, v2, -⟩ := o2
        obtain ⟨x2, gx2, gk2, gn2, gl2⟩ := v2 z2
        rw [z2] at go2
        clear nn n60 m3 m4 m5 m6 m7 n1 n2 n3 n4 n5 n6 n0 k9 k8 k7 k6 k5 k4 k3 k2 k1 k0 e5 B k fl
        obtain ⟨⟨N, g3, g4, g5, g6, g7, n0, ⟨n1, n2, n3, n4, n5, n6⟩, ⟨m3, m4, m5, m6, m7⟩, n60, nn⟩, ⟨K, k, k0, k1, k2, k3, k4, k5, k6, k7, k8, k9⟩, -⟩ := id r2
        have fl : ¬ w2.1 = 0 → ∃ κ' w' h', CM mX6_workOp d [.ref 19, .int (nI n)] h (some (.int 1)) h' ∧ WO T h κ n (1, (rec (tB T n) σ2).2) κ' w' h' := fun q => ⟨κ2, w2, h2, go2 (j_X6_workOp_c_1 (Nat.zero_le _) h2 (nI n) v (nI 0) 0 rfl K k _ k5 q), r2.wo (f1.tr f2) (by decide) (by decide)⟩
        match x2, gx2, gk2, gn2, gl2 with
        | .inr (.inl p), gx2, gk2, gn2, gl2 => rw [nAs_f z2 (by rw [gx2]; rfl)]; exact fl (by rw [gk2]; show ¬ (1 : Int32) = 0; decide)
        | .inr (.inr q), gx2, gk2, gn2, gl2 => rw [nAs_f z2 (by rw [gx2]; rfl)]; exact fl (by rw [gk2]; show ¬ (2 : Int32) = 0; decide)
        | .inl u, gx2, gk2, gn2, gl2 =>
          rw [nAs_0 z2 (a := u) (by rw [gx2]; rfl)]
          have gn2 : w2.2.1 = u := gn2
          rw [gn2] at k6
          have e6 : g6 (nI n).toNatClampNeg = T.2.2.2.2.1 n := by rw [cl, (nn n hn).2.2.2.1]
          have C := j_X6_workOp_c_2 (d := d) (by omega) h2 (nI n) v (nI 0) 0 rfl K k _ k5 gk2 k0 N n0 _ n6 ⟨nI_pos (by omega), nI_ge hn (by omega)⟩ n4 60 g6 m6 (vp_in_nI (by omega) (by decide)) _ k6
          rw [e6] at C
          obtain ⟨y1, y2⟩ := c_reckon k hC v u (d := d - 1) (by omega)
          show ∃ κ' w' h', CM mX6_workOp d [.ref 19, .int (nI n)] h (some (.int (nI (ansP (rec (tB T n) σ2).2 n (reck (T.2.2.2.2.1 n) v u)).1))) h' ∧ WO T h κ n (ansP (rec (tB T n) σ2).2 n (reck (T.2.2.2.2.1 n) v u)) κ' w' h'
          cases e : reck (T.2.2.2.2.1 n) v u with
          | some y =>
            have Y := y1 y e
            obtain ⟨r3, f3⟩ := r2.num k y
            exact ⟨κ2, _, _, go2 (E.st C (E.st (s_invv dX6_workOp_75 rfl lX6_170 (by omega) rfl (Nat.le_of_ble_eq_true rfl) rfl (Nat.le_of_ble_eq_true rfl) k Y (fun h => nomatch h)) (j_X6_workOp_d_1 (Nat.zero_le _) _ (nI n) _))), (rec (tB T n) σ2).2, r3, (f1.tr f2).tr f3, fun _ => ⟨.inl y, rfl, rfl, rfl, rfl⟩, fun q => absurd rfl q, fun q => by cases q⟩
          | none =>
            have Y := y2 e
            exact ⟨κ2, w2, h2, go2 (E.st C (E.st (s_invv dX6_workOp_75 rfl lX6_170 (by omega) rfl (Nat.le_of_ble_eq_true rfl) rfl (Nat.le_of_ble_eq_true rfl) k Y (fun h => nomatch h)) (j_X6_workOp_d_1 (Nat.zero_le _) _ (nI n) _))), r2.wo (f1.tr f2) (by decide) (by decide)⟩
      · rw [nAs_b z2]
        exact ⟨κ2, w2, h2, go2 (j_X6_workOp_c_3 (Nat.zero_le _) h2 (nI n) v _ 0 (fun q => z2 ((nI_eq (by have := Q.1; omega) (by decide)).mp q))), (o2.bad z2).tr f1⟩
  · rw [nAs_b z]
    exact ⟨κ1, w1, h1, go (j_X6_workOp_b_3 (Nat.zero_le _) h1 (nI n) _ 0 (fun q => z ((nI_eq (by have := P.1; omega) (by decide)).mp q))), o1.bad z⟩
