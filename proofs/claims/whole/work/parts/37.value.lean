/-! the working out, in the class -/
def GotV (w : WR) (x : Vl) : Prop := w.1 = kV (some x) ∧ w.2.1 = nV x ∧ w.2.2.1 = lV x
def NeedW (w : WR) (σ : St) : Prop := w.2.2.2.1 = nI (sWn σ) ∧ w.2.2.2.2 = wid (sWl σ)
/-- the contract of valueOf -/
def VO (T : NT) (h : AH) (κ : KP) (n : Nat) (r : Rs) (κ' : KP) (w' : WR) (h' : AH) : Prop := RC T r.2 κ' w' h' ∧ CF h κ h' κ' ∧ (r.1 = 0 → ∃ x, gv r.2 n = some x ∧ GotV w' x) ∧ (r.1 = 4 → NeedW w' r.2)
def CVal (T : NT) (rec : Nat → St → Rs) (f : Nat) : Prop := ∀ (n : Nat) (σ : St) (κ : KP) (w : WR) (h : AH) (b d : Nat), n < f → Pre T n σ → RC T σ κ w h → n < b → b ≤ 60 → 10 * (n + 1) ≤ d → ∃ κ' w' h', CM mX6_valueOf d [.ref 19, .int (nI n), .int (nI b)] h (some (.int (nI (rec n σ).1))) h' ∧ VO T h κ n (rec n σ) κ' w' h'
/-- what a working out of n leaves behind, before its value is kept -/
def WO (T : NT) (h : AH) (κ : KP) (n : Nat) (r : Rs) (κ' : KP) (w' : WR) (h' : AH) : Prop := ∃ σ', RC T σ' κ' w' h' ∧ CF h κ h' κ' ∧ (r.1 = 0 → ∃ x, r.2 = sv σ' n (some x) ∧ GotV w' x) ∧ (¬ r.1 = 0 → r.2 = σ') ∧ (r.1 = 4 → NeedW w' r.2)
theorem RC.at19 {T : NT} {σ σ' : St} {κ : KP} {w w' : WR} {h : AH} {c : AC} (r : RC T σ κ w h) (e1 : sLev σ' = sLev σ) (hk : RWk (sLev σ') (sLab σ') w' (hs h 19 c)) (hy : ∀ k, k ≤ sLev σ → SameL σ σ' k) (hh : sHeap σ' = sHeap σ) (ht : sTold σ' 0 = sTold σ 0) : RC T σ' κ w' (hs h 19 c) ∧ CF h κ (hs h 19 c) κ := by
  obtain ⟨a, b, c⟩ := r.all.at19 (h' := hs h 19 c) (σ' := σ') rfl (fun x hx => hs_ne hx) hk (fun k h1 h2 => ⟨by omega, hy k (by omega)⟩) (fun k h1 _ _ => by omega) hh (by rw [e1]; exact r.2.2.2.2.2.2.1) (by rw [ht]; exact r.2.2.2.2.2.2.2)
  exact ⟨a.all, c⟩
theorem RC.vals {T : NT} {σ : St} {κ : KP} {w : WR} {h : AH} (r : RC T σ κ w h) {n : Nat} (hn : n < 60) (x : Vl) {fk : Nat → Int32} {fn : Nat → Int64} {fl : Nat → Int32} (b1 : h.1 (wid (sLev σ) + 1) = ia 60 fk) (b2 : h.1 (wid (sLev σ) + 2) = la 60 fn) (b3 : h.1 (wid (sLev σ) + 3) = ia 60 fl) :
    RC T (sv σ n (some x)) κ w (hs (hs (hs h (wid (sLev σ) + 1) (ia 60 (upd fk n (kV (some x))))) (wid (sLev σ) + 2) (la 60 (vp_updL fn n (nV x)))) (wid (sLev σ) + 3) (ia 60 (upd fl n (lV x)))) ∧ CF h κ (hs (hs (hs h (wid (sLev σ) + 1) (ia 60 (upd fk n (kV (some x))))) (wid (sLev σ) + 2) (la 60 (vp_updL fn n (nV x)))) (wid (sLev σ) + 3) (ia 60 (upd fl n (lV x)))) κ := by
  have h6 := r.2.2.2.2.2.2.1
  have ht := r.2.2.2.2.2.2.2
  obtain ⟨ro, li, q, q1, q2⟩ := r.take (Nat.le_refl (sLev σ))
  obtain ⟨x1, x2, x3⟩ := ro.way h6 (h' := hs (hs (hs h (wid (sLev σ) + 1) (ia 60 (upd fk n (kV (some x))))) (wid (sLev σ) + 2) (la 60 (vp_updL fn n (nV x)))) (wid (sLev σ) + 3) (ia 60 (upd fl n (lV x)))) rfl (fun y hy => (hs_ne (by omega)).trans ((hs_ne (by omega)).trans (hs_ne (by omega))))
  obtain ⟨fk', fn', fl', c1, c2, c3, c4⟩ := q.2.1
  cases b1.symm.trans c1
  cases b2.symm.trans c2
  cases b3.symm.trans c3
  refine ⟨(x1.same (σ' := sv σ n (some x)) rfl rfl rfl ht (fun k h1 h2 => ⟨rfl, up_ne h2, rfl, rfl, rfl, rfl, rfl⟩)).put (Nat.le_refl _) ⟨q.1.fr ((hs_ne (by omega)).trans ((hs_ne (by omega)).trans (hs_ne (by omega)))), ⟨_, _, _, (hs_ne (by omega)).trans ((hs_ne (by omega)).trans hs_eq), (hs_ne (by omega)).trans hs_eq, hs_eq, fun i hi => ?_⟩, x2 _ q.2.2⟩ rfl rfl rfl rfl rfl q1 rfl rfl q2, x3⟩
  show sVal (sv σ n (some x)) (sLev σ) i = some jx ∨ (upd fk n (kV (some x)) i = kV (sVal (sv σ n (some x)) (sLev σ) i) ∧ ∀ y, sVal (sv σ n (some x)) (sLev σ) i = some y → vp_updL fn n (nV x) i = nV y ∧ upd fl n (lV x) i = lV y)
  rw [sv_val]
  by_cases e : i = n
  · subst e
    rw [up_eq, pk_us, pk_us, pk_uLs]
    exact Or.inr ⟨rfl, fun y hy => by cases hy; exact ⟨rfl, rfl⟩⟩
  · rw [up_ne e, pk_un e, pk_un e, pk_uLn e]
    exact c4 i hi
theorem c_homeOf {T : NT} {σ : St} {κ : KP} {w : WR} {h : AH} (r : RC T σ κ w h) (h0 : sIns σ 0 = 0) {n : Nat} (hn : n < 2 ^ 30) {d : Nat} (hd : 1 ≤ d) : CM mX6_homeOf d [.ref 19, .int (nI n)] h (some (.ref (wid (lvOf (sIns σ) n (sLev σ))))) h := by
  obtain ⟨-, ⟨K, k, k0, k1, k2, k3, k4, k5, k6, k7, k8, k9⟩, rw, -⟩ := id r
  refine E.st (j_X6_homeOf_a_1 (Nat.zero_le _) h (nI n) (wid (sLev σ)) K k k2) ?_
  suffices H : ∀ j, j ≤ sLev σ → E false mX6_homeOf d 5 [(0, .ref 19), (1, .int (nI n)), (2, .ref (wid j))] [] h (some (.ref (wid (lvOf (sIns σ) n j)))) h from H _ (Nat.le_refl _)
  intro j
  induction j with
  | zero =>
    intro hj
    obtain ⟨li, ⟨F, a, f0, f1, f2, f3, f4, f5, f6, f7, f8, f9, f10, f11⟩, -⟩ := rw 0 hj
    rw [h0] at f2
    exact j_X6_homeOf_b_3 hd h (nI n) (wid 0) F a _ f2 (nI_nlt (Nat.zero_le _) (by omega))
  | succ j ih =>
    intro hj
    obtain ⟨li, ⟨F, a, f0, f1, f2, f3, f4, f5, f6, f7, f8, f9, f10, f11⟩, -, ⟨-, hi⟩, -⟩ := rw (j + 1) hj
    unfold lvOf
    by_cases c : sIns σ (j + 1) ≤ n
    · rw [if_pos c]
      exact j_X6_homeOf_b_3 hd h (nI n) (wid (j + 1)) F a _ f2 (nI_nlt c (by omega))
    · rw [if_neg c]
      exact E.st (j_X6_homeOf_b_1 hd h (nI n) (wid (j + 1)) F a _ f2 (nI_lt (by omega) (by omega)) (wid j) f0) (ih (by omega))
/-- a value that the class finds, or needs outside, or works out -/
theorem c_valueOf {T : NT} {rec : Nat → St → Rs} {f n : Nat} {σ : St} {κ : KP} {w : WR} {h : AH} {b d : Nat} (hp : Pre T n σ) (hT : wfT T) (r : RC T σ κ w h) (hb : n < b) (h60 : b ≤ 60) (hd : 10 * (n + 1) ≤ d)
    (hw : gv σ n = none → lvOf (sIns σ) n (sLev σ) = sLev σ → sLab σ < 2000 → ∃ κ' w' h', CM mX6_workOut (d - 1) [.ref 19, .int (nI n)] h (some (.int (nI (wkP rec f T n (wLab σ (sLab σ + 1))).1))) h' ∧ VO T h κ n (wkP rec f T n (wLab σ (sLab σ + 1))) κ' w' h') (hr : ∀ m, rec m = ndP T f m) :
    ∃ κ' w' h', CM mX6_valueOf d [.ref 19, .int (nI n), .int (nI b)] h (some (.int (nI (ndP T (f + 1) n σ).1))) h' ∧ VO T h κ n (ndP T (f + 1) n σ) κ' w' h' := by
  obtain ⟨hI, hn, -⟩ := id hp
  have hn60 : n < 60 := by omega
  have h6 := r.2.2.2.2.2.2.1
  obtain ⟨-, ⟨K, k, k0, k1, k2, k3, k4, k5, k6, k7, k8, k9⟩, rw, -⟩ := id r
  have A := j_X6_valueOf_a_2 (d := d) (Nat.zero_le _) h (nI n) (nI b) 0 (nI_pos (by omega)) (nI_lt hb (by omega))
  have B := c_homeOf r hI.1.2 (n := n) (by omega) (d := 1) (by omega)
  have hlv := lvOf_le (sIns σ) n (sLev σ)
  obtain ⟨li, ⟨F, a, f0, f1, f2, f3, f4, f5, f6, f7, f8, f9, f10, f11⟩, q1, q2, ⟨fk, fn, fl, b1, b2, b3, b4'⟩, q5⟩ := rw _ hlv
  have b4 : ∀ i, i < 60 → fk i = kV (sVal σ (lvOf (sIns σ) n (sLev σ)) i) ∧ ∀ x, sVal σ (lvOf (sIns σ) n (sLev σ)) i = some x → fn i = nV x ∧ fl i = lV x := fun i hi => by
    rcases b4' i hi with q | q
    · exfalso
      have o : okV T (sHeap σ) i jx := (hI.2.1 _ hlv i jx q).2
      obtain ⟨_, _, _, _, _, _, _, _, _, _, _, k7, k8, -⟩ := r.2.2.2.2.1
      have o1 : 0 + 1099511627776 ≤ (sHeap σ).length := o.1
      omega
    · exact q
  have cl : (nI n).toNatClampNeg = n := nI_clamp (by omega)
  have vi : vp_in (nI n) 60 := vp_in_nI hn60 (by decide)
  have c1 : ¬ nI n < 0 := nI_pos (by omega)
  have c2 : ¬ (60 : Int32) ≤ nI n := nI_ge (b := 60) hn60 (by decide)
  have wb := wid_b (show lvOf (sIns σ) n (sLev σ) < 6 by omega)
  have st : ∀ {v : Option Value} {h' : AH}, E false mX6_valueOf d 16 [(0, .ref 19), (1, .int (nI n)), (2, .int (nI b))] [.ref (wid (lvOf (sIns σ) n (sLev σ)))] h v h' → CM mX6_valueOf d [.ref 19, .int (nI n), .int (nI b)] h v h' := fun z => E.st A (E.st (s_invv dX6_valueOf_13 rfl lX6_98 (by omega) rfl (Nat.le_of_ble_eq_true rfl) rfl (Nat.le_of_ble_eq_true rfl) k B (fun h => nomatch h)) z)
  cases eg : gv σ n with
  | some x =>
    have e : ndP T (f + 1) n σ = (0, σ) := by unfold ndP; rw [eg]; rfl
    have eg' : sVal σ (lvOf (sIns σ) n (sLev σ)) n = some x := eg
    obtain ⟨u1, u2⟩ := b4 n hn60
    rw [eg'] at u1
    obtain ⟨u3, u4⟩ := u2 x eg'
    have nk : ¬ kV (some x) = -1 := fun q => by have := kV_none.mp q; cases this
    have C := j_X6_valueOf_b_2 (d := d) (by omega) h (nI n) (nI b) (wid (lvOf (sIns σ) n (sLev σ))) F a c1 c2 f3 60 fk b1 vi (by omega) (by rw [cl, u1]; exact nk) f4 60 fn b2 vi f5 60 fl b3 vi (by omega) K k
    rw [hs_hs, hs_hs, cl, u1, u3, u4] at C
    obtain ⟨x1, x2⟩ := r.at19 (σ' := σ) (w' := (kV (some x), (nV x, (lV x, (w.2.2.2.1, w.2.2.2.2))))) (c := ob 6 (fo 10 (va_up (va_up (va_up K 5 (.int (kV (some x)))) 6 (.long (nV x))) 7 (.int (lV x))))) rfl ⟨_, hs_eq, (up_ne (by decide)).trans ((up_ne (by decide)).trans ((up_ne (by decide)).trans (k0))), (up_ne (by decide)).trans ((up_ne (by decide)).trans ((up_ne (by decide)).trans (k1))), (up_ne (by decide)).trans ((up_ne (by decide)).trans ((up_ne (by decide)).trans (k2))), (up_ne (by decide)).trans ((up_ne (by decide)).trans ((up_ne (by decide)).trans (k3))), (up_ne (by decide)).trans ((up_ne (by decide)).trans ((up_ne (by decide)).trans (k4))), (up_ne (by decide)).trans ((up_ne (by decide)).trans (up_eq)), (up_ne (by decide)).trans (up_eq), up_eq, (up_ne (by decide)).trans ((up_ne (by decide)).trans ((up_ne (by decide)).trans (k8))), (up_ne (by decide)).trans ((up_ne (by decide)).trans ((up_ne (by decide)).trans (k9)))⟩ (fun k _ => SameL.rf σ k) rfl rfl
    rw [e]
    exact ⟨κ, _, _, st C, x1, x2, fun _ => ⟨x, eg, rfl, rfl, rfl⟩, (fun z => by cases z)⟩
  | none =>
    have eg' : sVal σ (lvOf (sIns σ) n (sLev σ)) n = none := eg
    obtain ⟨u1, -⟩ := b4 n hn60
    rw [eg'] at u1
    have u0 : fk (nI n).toNatClampNeg = -1 := by rw [cl, u1]; rfl
    by_cases hl : lvOf (sIns σ) n (sLev σ) < sLev σ
    · have e : ndP T (f + 1) n σ = (4, wWant σ n (lvOf (sIns σ) n (sLev σ))) := by
        unfold ndP
        rw [eg, if_neg (by decide), if_pos hl]
      have C := j_X6_valueOf_c_1 (d := d) (by omega) h (nI n) (nI b) (wid (lvOf (sIns σ) n (sLev σ))) (wid (sLev σ)) F a c1 c2 f3 60 fk b1 vi (by omega) u0 K k k2 (by omega) (by have := wid_b h6; omega) (fun q => by have := wid_inj q; omega)
      rw [hs_hs] at C
      obtain ⟨x1, x2⟩ := r.at19 (σ' := wWant σ n (lvOf (sIns σ) n (sLev σ))) (w' := (w.1, (w.2.1, (w.2.2.1, (nI n, wid (lvOf (sIns σ) n (sLev σ))))))) (c := ob 6 (fo 10 (va_up (va_up K 8 (.int (nI n))) 9 (.ref (wid (lvOf (sIns σ) n (sLev σ))))))) rfl ⟨_, hs_eq, (up_ne (by decide)).trans ((up_ne (by decide)).trans (k0)), (up_ne (by decide)).trans ((up_ne (by decide)).trans (k1)), (up_ne (by decide)).trans ((up_ne (by decide)).trans (k2)), (up_ne (by decide)).trans ((up_ne (by decide)).trans (k3)), (up_ne (by decide)).trans ((up_ne (by decide)).trans (k4)), (up_ne (by decide)).trans ((up_ne (by decide)).trans (k5)), (up_ne (by decide)).trans ((up_ne (by decide)).trans (k6)), (up_ne (by decide)).trans ((up_ne (by decide)).trans (k7)), (up_ne (by decide)).trans (up_eq), up_eq⟩ (fun k _ => SameL.rf σ k) rfl rfl
      rw [e]
      exact ⟨κ, _, _, st C, x1, x2, (fun z => by cases z), fun _ => ⟨rfl, rfl⟩⟩
    · have el : lvOf (sIns σ) n (sLev σ) = sLev σ := by omega
      rw [el] at st a f3 b1
      have C := j_X6_valueOf_b_1 (d := d) (by omega) h (nI n) (nI b) (wid (sLev σ)) F a c1 c2 f3 60 fk b1 vi (by omega) u0 K k k2
      by_cases hL : sLab σ = 2000
      · have e : ndP T (f + 1) n σ = (2, σ) := by
          unfold ndP
          rw [eg, if_neg (by decide), if_neg hl, if_pos hL]
        rw [hL] at k3
        have W : CM mX6_workOut (d - 1) [.ref 19, .int (nI n)] h (some (.int 2)) h := j_X6_workOut_a_14 (d := d - 1) (Nat.zero_le _) h (nI n) 0 K k _ k3 (by decide)
        rw [e]
        exact ⟨κ, w, h, st (E.st C (E.st (s_invv dX6_valueOf_67 rfl lX6_123 (by omega) rfl (Nat.le_of_ble_eq_true rfl) rfl (Nat.le_of_ble_eq_true rfl) k W (fun h => nomatch h)) (j_X6_valueOf_d_1 (Nat.zero_le _) h (nI n) (nI b) 2))), r, CF.rf _ _, (fun z => by cases z), (fun z => by cases z)⟩
      · have e : ndP T (f + 1) n σ = wkP rec f T n (wLab σ (sLab σ + 1)) := by
          have : (rec : Nat → St → Rs) = ndP T f := funext hr
          rw [this]
          conv => lhs; unfold ndP
          rw [eg, if_neg (by decide), if_neg hl, if_neg hL]
        have := hI.2.2.2.2
        obtain ⟨κ', w', h', y1, y2⟩ := hw eg el (by omega)
        rw [e]
        exact ⟨κ', w', h', st (E.st C (E.st (s_invv dX6_valueOf_67 rfl lX6_123 (by omega) rfl (Nat.le_of_ble_eq_true rfl) rfl (Nat.le_of_ble_eq_true rfl) k y1 (fun h => nomatch h)) (j_X6_valueOf_d_1 (Nat.zero_le _) h' (nI n) (nI b) _))), y2⟩
