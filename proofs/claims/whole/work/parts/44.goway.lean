/-! a way of a search, in the class -/
/-- a way begins: these are told -/
def tl0 (t : List Bool) : Nat → List Bool
  | 0 => t
  | _ + 1 => []
def stP (t : List Bool) : St := mkS (fun _ => 0) (fun _ _ => none) (tl0 t) (fun _ => 0) (fun _ => []) (fun _ => []) (fun _ => 0) 0 0 [] 0 0
def runP (T : NT) (n : Nat) (t : List Bool) : Rs := tfP (ndP T 60) T 60 n (stP t)
theorem stP_inv (T : NT) (t : List Bool) : Inv T (stP t) := ⟨⟨Nat.zero_le _, rfl⟩, (fun k _ i x hx => by cases hx), fun k _ => Nat.zero_le _, Nat.zero_le _, Nat.zero_le _⟩
theorem stP_pre (T : NT) (t : List Bool) : TPre T (stP t) := ⟨stP_inv T t, by show 0 + cn (fun _ => none) 60 ≤ 60; have := cn_le (fun _ => none) 60; omega⟩
theorem stP_fl (t : List Bool) : FLok (stP t) := ⟨Nat.zero_le _, Nat.zero_le _⟩
theorem run_post {T : NT} (hT : wfT T) {n : Nat} (hn : n < tN T) (t : List Bool) : TPost T n (stP t) (runP T n t) := tf_post (nd_post hT 60) hT 60 n (by have := hT.1; omega) (by have := hT.1; omega) hn _ (stP_pre T t)
theorem c_goWay {T : NT} {σ : St} {κ : KP} {w : WR} {h : AH} (hT : wfT T) (r : RC T σ κ w h) (hl : sLev σ = 0) {n : Nat} (hn : n < tN T) {t : List Bool} (ht : bv t < 2 ^ 60) (htl : t.length < 2 ^ 30) {d : Nat} (hd : 620 ≤ d) : ∃ κ' w' h', CM mX6_goWay d [.ref 19, .int (nI n), .long (lN (bv t)), .int (nI t.length)] h (some (.int (nI (runP T n t).1))) h' ∧ RC T (runP T n t).2 κ' w' h' ∧ CF h κ h' κ' := by
  have h60 := hT.1
  obtain ⟨-, ⟨K, k, k0, k1, k2, k3, k4, k5, k6, k7, k8, k9⟩, -⟩ := id r
  have A := j_X6_goWay_a_1 (d := d) (Nat.zero_le _) h (nI n) (lN (bv t)) (nI t.length) 0 K k k1 k4
  rw [hs_hs] at A
  obtain ⟨r1, f1⟩ := r.at19 (σ' := wLab σ 0) (w' := w) (c := ob 6 (fo 10 (va_up (va_up K 2 (.ref 20)) 3 (.int 0)))) rfl ⟨_, hs_eq, (up_ne (by decide)).trans ((up_ne (by decide)).trans (k0)), (up_ne (by decide)).trans ((up_ne (by decide)).trans (k1)), (up_ne (by decide)).trans (by rw [show sLev (wLab σ 0) = 0 from hl]; exact up_eq), up_eq, (up_ne (by decide)).trans ((up_ne (by decide)).trans (k4)), (up_ne (by decide)).trans ((up_ne (by decide)).trans (k5)), (up_ne (by decide)).trans ((up_ne (by decide)).trans (k6)), (up_ne (by decide)).trans ((up_ne (by decide)).trans (k7)), (up_ne (by decide)).trans ((up_ne (by decide)).trans (k8)), (up_ne (by decide)).trans ((up_ne (by decide)).trans (k9))⟩ (fun k _ => SameL.rf σ k) rfl rfl
  obtain ⟨G, _, _, g1, -⟩ := id r1.2.2.2.2.1
  obtain ⟨ro1, li, q1, -⟩ := r1.take (l := 0) (Nat.zero_le _)
  obtain ⟨h2, c2, ro2, kp2, f2⟩ := c_cutL ro1 (d := 0) (n := 0) (by decide)
  have q2 := kp2 _ _ _ _ _ _ _ _ (by decide) q1
  clear k9 k8 k7 k6 k5 k4 k3 k2 k1 k0
  obtain ⟨-, ⟨K2, kk, k0, k1, -⟩, -⟩ := id ro2
  obtain ⟨F, fw, -⟩ := id q2.1
  obtain ⟨h3, c3, ro3, q3, f3⟩ := c_beginOfSearch ro2 (by decide) q2 (d := 2) (by omega) (bv t) t.length
  have rn : RC T (stP t) κ w h3 := by
    refine (ro3.same (σ' := stP t) hl.symm rfl rfl htl (fun k h1 h2 => ?_)).put (Nat.le_refl _) q3 rfl rfl rfl rfl rfl (fun q => absurd rfl q) rfl rfl ⟨ht, by show 0 < 2 ^ 30; decide⟩
    have h1 : k ≤ sLev σ := h1
    omega
  obtain ⟨κ4, w4, h4, c4, o4⟩ := c_full hT (f := 60) (n := n) (by omega) hn (stP t) κ w h3 (n + 1) (d - 1) (stP_pre T t) (stP_fl t) rn (by omega) (by omega) (by omega)
  have C := j_X6_goWay_c_1 (d := d) (Nat.zero_le _) h3 (nI n) (lN (bv t)) (nI t.length) 0
  rw [nI_1] at C
  obtain ⟨-, ⟨K3, kk3, -⟩, -⟩ := id rn
  exact ⟨κ4, w4, h4, E.st A (E.st (s_invv dX6_goWay_18 rfl lX6_55 (by omega) rfl (Nat.le_of_ble_eq_true rfl) rfl (Nat.le_of_ble_eq_true rfl) g1 c2 (fun h => nomatch h)) (E.st (j_X6_goWay_b_1 (Nat.zero_le _) h2 (nI n) (lN (bv t)) (nI t.length) 0 K2 kk k1) (E.st (s_invv dX6_goWay_28 rfl lX6_58 (by omega) rfl (Nat.le_of_ble_eq_true rfl) rfl (Nat.le_of_ble_eq_true rfl) fw c3 (fun h => nomatch h)) (E.st C (E.st (s_invv dX6_goWay_36 rfl lX6_62 (by omega) rfl (Nat.le_of_ble_eq_true rfl) rfl (Nat.le_of_ble_eq_true rfl) kk3 c4 (fun h => nomatch h)) (j_X6_goWay_d_1 (Nat.zero_le _) h4 (nI n) (lN (bv t)) (nI t.length) _ 0)))))), o4.1, ((f1.tr f2).tr f3).tr o4.2.1⟩
