/-! contracts of a way's methods -/
theorem RWr.obj {T : NT} {σ : St} {κ : KP} {w : WR} {l : Nat} {h : AH} {fi tb de mo vs li : Nat} {v : Nat → Option Vl} {ts : List Tok} (r : RCo T σ κ w l h) (hl : l < 6) (q : RWr κ l fi tb de mo vs li v ts h) {c : AC} {fi' tb' de' mo' vs' li' : Nat} (o : RWo l fi' tb' de' mo' vs' li' (hs h (wid l) c)) : RCo T σ κ w l (hs h (wid l) c) ∧ RWr κ l fi' tb' de' mo' vs' li' v ts (hs h (wid l) c) ∧ CF h κ (hs h (wid l) c) κ := by
  obtain ⟨a, b, c⟩ := r.way hl (h' := hs h (wid l) c) rfl (fun x hx => hs_ne (by omega))
  exact ⟨a, ⟨o, q.2.1.fr (hs_ne (by omega)) (hs_ne (by omega)) (hs_ne (by omega)), b _ q.2.2⟩, c⟩
theorem c_cutW {T : NT} {σ : St} {κ : KP} {w : WR} {l : Nat} {h : AH} {fi tb de mo vs li : Nat} {v : Nat → Option Vl} {ts : List Tok} (r : RCo T σ κ w l h) (hl : l < 6) (q : RWr κ l fi tb de mo vs li v ts h) {d n : Nat} (hn : n < 2 ^ 31) : ∃ h', CM mX4_cutTo d [.ref (wid l + 4), .int (nI n)] h none h' ∧ RCo T σ κ w l h' ∧ RWr κ l fi tb de mo vs li v (ts.take n) h' ∧ CF h κ h' κ := by
  obtain ⟨h1, c1, t1, f1, e2, e⟩ := TK_cutTo q.2.2 (d := d) hn
  obtain ⟨x1, x2, x3⟩ := r.tok hl q.2.2 f1
  rw [κ_same] at x1 x3
  exact ⟨h1, c1, x1, ⟨q.1.fr (x2 _ (Nat.le_refl _) (by omega)), q.2.1.fr (x2 _ (by omega) (by omega)) (x2 _ (by omega) (by omega)) (x2 _ (by omega) (by omega)), t1⟩, x3⟩
theorem c_addW {T : NT} {σ : St} {κ : KP} {w : WR} {l : Nat} {h : AH} {fi tb de mo vs li : Nat} {v : Nat → Option Vl} {ts : List Tok} (r : RCo T σ κ w l h) (hl : l < 6) (q : RWr κ l fi tb de mo vs li v ts h) {d : Nat} (hd : 4 ≤ d) (k : Int32) (u : Int64) (hm : ts.length < 200) : ∃ κ' h', CM mX4_add d [.ref (wid l + 4), .int k, .long u] h (some (.int 1)) h' ∧ RCo T σ κ' w l h' ∧ RWr κ' l fi tb de mo vs li v (ts ++ [(k, u)]) h' ∧ CF h κ h' κ' := by
  obtain ⟨h1, ra, rb, cap, c1, t1, f1⟩ := TK_add q.2.2 hd k u hm
  obtain ⟨x1, x2, x3⟩ := r.tok hl q.2.2 f1
  refine ⟨_, h1, c1, x1, ⟨q.1.fr (x2 _ (Nat.le_refl _) (by omega)), q.2.1.fr (x2 _ (by omega) (by omega)) (x2 _ (by omega) (by omega)) (x2 _ (by omega) (by omega)), ?_⟩, x3⟩
  unfold TKk
  rw [up_eq]
  exact t1
theorem c_addFromW {T : NT} {σ : St} {κ : KP} {w : WR} {l : Nat} {h : AH} {fi tb de mo vs li : Nat} {v : Nat → Option Vl} {ts : List Tok} (r : RCo T σ κ w l h) (hl : l < 6) (q : RWr κ l fi tb de mo vs li v ts h) {d : Nat} (hd : 4 ≤ d) {s n : Nat} (hs : s + n ≤ (sHeap σ).length) (hm : ts.length + n ≤ 200) : ∃ κ' h', CM mX4_addFrom d [.ref (wid l + 4), .ref 27, .int (nI s), .int (nI n)] h (some (.int 1)) h' ∧ RCo T σ κ' w l h' ∧ RWr κ' l fi tb de mo vs li v (ts ++ hsl (sHeap σ) s n) h' ∧ CF h κ h' κ' := by
  have hb := wid_b hl
  have hS := r.2.2.2.2.2.1.2.2 27 (wid l + 4) TE27 (TEk hl) (by omega)
  obtain ⟨h1, ra, rb, cap, c1, t1, f1⟩ := TK_addFrom q.2.2 r.2.2.2.2.1 (by omega) hS.1 hS.2 hd hs hm
  obtain ⟨x1, x2, x3⟩ := r.tok hl q.2.2 f1
  refine ⟨_, h1, c1, x1, ⟨q.1.fr (x2 _ (Nat.le_refl _) (by omega)), q.2.1.fr (x2 _ (by omega) (by omega)) (x2 _ (by omega) (by omega)) (x2 _ (by omega) (by omega)), ?_⟩, x3⟩
  unfold TKk
  rw [up_eq]
  exact t1
theorem c_put0W {T : NT} {σ : St} {κ : KP} {w : WR} {l : Nat} {h : AH} {fi tb de mo vs li : Nat} {v : Nat → Option Vl} {a : Int32} {b : Int64} {ts : List Tok} (r : RCo T σ κ w l h) (hl : l < 6) (q : RWr κ l fi tb de mo vs li v ((a, b) :: ts) h) {d : Nat} (hd : 1 ≤ d) (u : Int64) : ∃ h', CM mX4_putNumber d [.ref (wid l + 4), .int 0, .long u] h none h' ∧ RCo T σ κ w l h' ∧ RWr κ l fi tb de mo vs li v ((a, u) :: ts) h' ∧ CF h κ h' κ := by
  obtain ⟨h1, c1, t1, f1, e2, e⟩ := TK_put0 q.2.2 hd u
  obtain ⟨x1, x2, x3⟩ := r.tok hl q.2.2 f1
  rw [κ_same] at x1 x3
  exact ⟨h1, c1, x1, ⟨q.1.fr (x2 _ (Nat.le_refl _) (by omega)), q.2.1.fr (x2 _ (by omega) (by omega)) (x2 _ (by omega) (by omega)) (x2 _ (by omega) (by omega)), t1⟩, x3⟩
theorem c_cutL {T : NT} {σ : St} {κ : KP} {w : WR} {l : Nat} {h : AH} (r : RCo T σ κ w l h) {d n : Nat} (hn : n < 2 ^ 31) : ∃ h', CM mX4_cutTo d [.ref 27, .int (nI n)] h none h' ∧ RCo T (wHeap σ ((sHeap σ).take n)) κ w l h' ∧ (∀ fi tb de mo vs li v ts, l < 6 → RWr κ l fi tb de mo vs li v ts h → RWr κ l fi tb de mo vs li v ts h') ∧ CF h κ h' κ := by
  obtain ⟨h1, c1, t1, f1, e2, e⟩ := TK_cutTo r.2.2.2.2.1 (d := d) hn
  obtain ⟨x1, x2, x3⟩ := r.lists t1 f1
  rw [κ_same] at x1 x2 x3
  exact ⟨h1, c1, x1, x2, x3⟩
theorem c_addFromL {T : NT} {σ : St} {κ : KP} {w : WR} {l : Nat} {h : AH} {fi tb de mo vs li : Nat} {v : Nat → Option Vl} {ts : List Tok} (r : RCo T σ κ w l h) (hl : l < 6) (q : RWr κ l fi tb de mo vs li v ts h) {d : Nat} (hd : 4 ≤ d) (hm : (sHeap σ).length + ts.length ≤ 36000) : ∃ κ' h', CM mX4_addFrom d [.ref 27, .ref (wid l + 4), .int 0, .int (nI ts.length)] h (some (.int 1)) h' ∧ RCo T (wHeap σ (sHeap σ ++ ts)) κ' w l h' ∧ RWr κ' l fi tb de mo vs li v ts h' ∧ CF h κ h' κ' := by
  have hb := wid_b hl
  have hS := r.2.2.2.2.2.1.2.2 (wid l + 4) 27 (TEk hl) TE27 (by omega)
  obtain ⟨h1, ra, rb, cap, c1, t1, f1⟩ := TK_addFrom (s := 0) (l := ts.length) r.2.2.2.2.1 q.2.2 (by omega) hS.1 hS.2 hd (by omega) hm
  rw [List.drop_zero, List.take_length] at t1
  obtain ⟨x1, x2, x3⟩ := r.lists t1 f1
  exact ⟨_, h1, c1, x1, x2 _ _ _ _ _ _ _ _ hl q, x3⟩
theorem c_begin {T : NT} {σ : St} {κ : KP} {w : WR} {l : Nat} {h : AH} {fi tb de mo vs li : Nat} {v : Nat → Option Vl} {ts : List Tok} (r : RCo T σ κ w l h) (hl : l < 6) (q : RWr κ l fi tb de mo vs li v ts h) {d : Nat} (hd : 1 ≤ d) : ∃ h', CM mX5_begin d [.ref (wid l)] h none h' ∧ RCo T σ κ w l h' ∧ RWr κ l fi tb 0 mo ts.length li (fun _ => none) ts h' ∧ CF h κ h' κ := by
  obtain ⟨⟨F, a, f0, f1, f2, f3, f4, f5, f6, f7, f8, f9, f10, f11⟩, ⟨fk, fn, fl, b1, b2, b3, b4⟩, t⟩ := id q
  have A := j_X5_begin_a_1 (d := d) (Nat.zero_le _) h (wid l) F a f9
  obtain ⟨r1, q1, k1⟩ := RWr.obj (c := ob 5 (fo 12 (va_up F 7 (.int 0)))) r hl q (de' := 0) ⟨_, hs_eq, (up_ne (by decide)).trans (f0), (up_ne (by decide)).trans (f1), (up_ne (by decide)).trans (f2), (up_ne (by decide)).trans (f3), (up_ne (by decide)).trans (f4), (up_ne (by decide)).trans (f5), (up_ne (by decide)).trans (f6), up_eq, (up_ne (by decide)).trans (f8), (up_ne (by decide)).trans (f9), (up_ne (by decide)).trans (f10), (up_ne (by decide)).trans (f11)⟩
  obtain ⟨F1, _, _, o1, -⟩ := id q1.2.2
  have B := j_X5_begin_b_1 (d := d) (Nat.zero_le _) (hs h (wid l) (ob 5 (fo 12 (va_up F 7 (.int 0))))) (wid l) (nI ts.length) _ hs_eq ((up_ne (by decide)).trans f3)
  rw [hs_hs] at B
  obtain ⟨r2, q2, k2⟩ := RWr.obj (c := ob 5 (fo 12 (va_up (va_up F 7 (.int 0)) 10 (.int (nI ts.length))))) r hl q (de' := 0) (vs' := ts.length) ⟨_, hs_eq, (up_ne (by decide)).trans ((up_ne (by decide)).trans (f0)), (up_ne (by decide)).trans ((up_ne (by decide)).trans (f1)), (up_ne (by decide)).trans ((up_ne (by decide)).trans (f2)), (up_ne (by decide)).trans ((up_ne (by decide)).trans (f3)), (up_ne (by decide)).trans ((up_ne (by decide)).trans (f4)), (up_ne (by decide)).trans ((up_ne (by decide)).trans (f5)), (up_ne (by decide)).trans ((up_ne (by decide)).trans (f6)), (up_ne (by decide)).trans (up_eq), (up_ne (by decide)).trans ((up_ne (by decide)).trans (f8)), (up_ne (by decide)).trans ((up_ne (by decide)).trans (f9)), up_eq, (up_ne (by decide)).trans ((up_ne (by decide)).trans (f11))⟩
  have C := c_fill (d := 0) (hs h (wid l) (ob 5 (fo 12 (va_up (va_up F 7 (.int 0)) 10 (.int (nI ts.length)))))) (wid l + 1) (-1) 60 fk ((hs_ne (by omega)).trans b1) (by omega) (by decide)
  refine ⟨_, E.st A (E.st (s_invv dX5_begin_10 rfl lX5_68 (by omega) rfl (Nat.le_of_ble_eq_true rfl) rfl (Nat.le_of_ble_eq_true rfl) o1 (TK_size q1.2.2 (d := 0)) (fun h => nomatch h)) (E.st B (E.st (s_invs dX5_begin_21 rfl lX5_75 (by omega) rfl (Nat.le_of_ble_eq_true rfl) rfl (Nat.le_of_ble_eq_true rfl) C (fun h => nomatch h)) (j_X5_begin_c_1 (Nat.zero_le _) _ (wid l))))), ?_⟩
  obtain ⟨x1, x2, x3⟩ := r2.way hl (h' := hs (hs h (wid l) (ob 5 (fo 12 (va_up (va_up F 7 (.int 0)) 10 (.int (nI ts.length)))))) (wid l + 1) (ia 60 (fun j => if j < 60 then -1 else fk j))) rfl (fun x hx => hs_ne (by omega))
  refine ⟨x1, ⟨q2.1.fr (hs_ne (by omega)), ⟨_, fn, fl, hs_eq, (hs_ne (by omega)).trans ((hs_ne (by omega)).trans b2), (hs_ne (by omega)).trans ((hs_ne (by omega)).trans b3), fun i hi => Or.inr ⟨if_pos hi, fun x hx => by cases hx⟩⟩, x2 _ q2.2.2⟩, k2.tr x3⟩
theorem c_beginOfSearch {T : NT} {σ : St} {κ : KP} {w : WR} {l : Nat} {h : AH} {fi tb de mo vs li : Nat} {v : Nat → Option Vl} {ts : List Tok} (r : RCo T σ κ w l h) (hl : l < 6) (q : RWr κ l fi tb de mo vs li v ts h) {d : Nat} (hd : 2 ≤ d) (b m : Nat) : ∃ h', CM mX5_beginOfSearch d [.ref (wid l), .long (lN b), .int (nI m)] h none h' ∧ RCo T σ κ w l h' ∧ RWr κ l 0 b 0 m 0 li (fun _ => none) [] h' ∧ CF h κ h' κ := by
  obtain ⟨⟨F, a, f0, f1, f2, f3, f4, f5, f6, f7, f8, f9, f10, f11⟩, -⟩ := id q
  have A := j_X5_beginOfSearch_a_1 (d := d) (Nat.zero_le _) h (wid l) (lN b) (nI m) F a f9
  rw [hs_hs, hs_hs] at A
  obtain ⟨r1, q1, k1⟩ := RWr.obj (c := ob 5 (fo 12 (va_up (va_up (va_up F 2 (.int 0)) 6 (.long (lN b))) 8 (.int (nI m))))) r hl q (fi' := 0) (tb' := b) (mo' := m) ⟨_, hs_eq, (up_ne (by decide)).trans ((up_ne (by decide)).trans ((up_ne (by decide)).trans (f0))), (up_ne (by decide)).trans ((up_ne (by decide)).trans ((up_ne (by decide)).trans (f1))), (up_ne (by decide)).trans ((up_ne (by decide)).trans (up_eq)), (up_ne (by decide)).trans ((up_ne (by decide)).trans ((up_ne (by decide)).trans (f3))), (up_ne (by decide)).trans ((up_ne (by decide)).trans ((up_ne (by decide)).trans (f4))), (up_ne (by decide)).trans ((up_ne (by decide)).trans ((up_ne (by decide)).trans (f5))), (up_ne (by decide)).trans (up_eq), (up_ne (by decide)).trans ((up_ne (by decide)).trans ((up_ne (by decide)).trans (f7))), up_eq, (up_ne (by decide)).trans ((up_ne (by decide)).trans ((up_ne (by decide)).trans (f9))), (up_ne (by decide)).trans ((up_ne (by decide)).trans ((up_ne (by decide)).trans (f10))), (up_ne (by decide)).trans ((up_ne (by decide)).trans ((up_ne (by decide)).trans (f11)))⟩
  obtain ⟨F1, _, _, o1, -⟩ := id q1.2.2
  obtain ⟨h2, c2, r2, q2, k2⟩ := c_cutW r1 hl q1 (d := 0) (n := 0) (by decide)
  obtain ⟨F2, o2, -⟩ := id q2.1
  obtain ⟨h3, c3, r3, q3, k3⟩ := c_begin r2 hl q2 (d := 1) (by omega)
  exact ⟨h3, E.st A (E.st (s_invv dX5_beginOfSearch_20 rfl lX5_58 (by omega) rfl (Nat.le_of_ble_eq_true rfl) rfl (Nat.le_of_ble_eq_true rfl) o1 c2 (fun h => nomatch h)) (E.st (j_X5_beginOfSearch_b_1 (Nat.zero_le _) h2 (wid l) (lN b) (nI m)) (E.st (s_invv dX5_beginOfSearch_24 rfl lX5_61 (by omega) rfl (Nat.le_of_ble_eq_true rfl) rfl (Nat.le_of_ble_eq_true rfl) o2 c3 (fun h => nomatch h)) (j_X5_beginOfSearch_c_1 (Nat.zero_le _) h3 (wid l) (lN b) (nI m))))), r3, q3, k1.tr (k2.tr k3)⟩
theorem c_beginOfSet {T : NT} {σ : St} {κ : KP} {w : WR} {l : Nat} {h : AH} {fi tb de mo vs li : Nat} {v : Nat → Option Vl} {ts : List Tok} (r : RCo T σ κ w l h) (hl : l < 6) (q : RWr κ l fi tb de mo vs li v ts h) {d : Nat} (hd : 5 ≤ d) (m : Nat) : ∃ κ' h', CM mX5_beginOfSet d [.ref (wid l), .int (nI m)] h none h' ∧ RCo T σ κ' w l h' ∧ RWr κ' l m 0 0 60 1 0 (fun _ => none) [(2, lN 0)] h' ∧ CF h κ h' κ' := by
  obtain ⟨⟨F, a, f0, f1, f2, f3, f4, f5, f6, f7, f8, f9, f10, f11⟩, -⟩ := id q
  have A := j_X5_beginOfSet_a_1 (d := d) (Nat.zero_le _) h (wid l) (nI m) F a f9
  rw [hs_hs, hs_hs, hs_hs] at A
  obtain ⟨r1, q1, k1⟩ := RWr.obj (c := ob 5 (fo 12 (va_up (va_up (va_up (va_up F 2 (.int (nI m))) 6 (.long 0)) 8 (.int 60)) 11 (.int 0)))) r hl q (fi' := m) (tb' := 0) (mo' := 60) (li' := 0) ⟨_, hs_eq, (up_ne (by decide)).trans ((up_ne (by decide)).trans ((up_ne (by decide)).trans ((up_ne (by decide)).trans (f0)))), (up_ne (by decide)).trans ((up_ne (by decide)).trans ((up_ne (by decide)).trans ((up_ne (by decide)).trans (f1)))), (up_ne (by decide)).trans ((up_ne (by decide)).trans ((up_ne (by decide)).trans (up_eq))), (up_ne (by decide)).trans ((up_ne (by decide)).trans ((up_ne (by decide)).trans ((up_ne (by decide)).trans (f3)))), (up_ne (by decide)).trans ((up_ne (by decide)).trans ((up_ne (by decide)).trans ((up_ne (by decide)).trans (f4)))), (up_ne (by decide)).trans ((up_ne (by decide)).trans ((up_ne (by decide)).trans ((up_ne (by decide)).trans (f5)))), (up_ne (by decide)).trans ((up_ne (by decide)).trans (up_eq)), (up_ne (by decide)).trans ((up_ne (by decide)).trans ((up_ne (by decide)).trans ((up_ne (by decide)).trans (f7)))), (up_ne (by decide)).trans (up_eq), (up_ne (by decide)).trans ((up_ne (by decide)).trans ((up_ne (by decide)).trans ((up_ne (by decide)).trans (f9)))), (up_ne (by decide)).trans ((up_ne (by decide)).trans ((up_ne (by decide)).trans ((up_ne (by decide)).trans (f10)))), up_eq⟩
  obtain ⟨F1, _, _, o1, -⟩ := id q1.2.2
  obtain ⟨h2, c2, r2, q2, k2⟩ := c_cutW r1 hl q1 (d := 0) (n := 0) (by decide)
  obtain ⟨F2, o2, p0, p1, p2, p3, p4, p5, p6, p7, p8, p9, -⟩ := id q2.1
  obtain ⟨G2, _, _, g2, -⟩ := id q2.2.2
  obtain ⟨κ3, h3, c3, r3, q3, k3⟩ := c_addW r2 hl q2 (d := 4) (by omega) 2 0 (by show 0 < 200; omega)
  obtain ⟨F3, o3, -⟩ := id q3.1
  obtain ⟨h4, c4, r4, q4, k4⟩ := c_begin r3 hl q3 (d := 1) (by omega)
  exact ⟨κ3, h4, E.st A (E.st (s_invv dX5_beginOfSet_26 rfl lX5_58 (by omega) rfl (Nat.le_of_ble_eq_true rfl) rfl (Nat.le_of_ble_eq_true rfl) o1 c2 (fun h => nomatch h)) (E.st (j_X5_beginOfSet_b_1 (Nat.zero_le _) h2 (wid l) (nI m) F2 o2 p9) (E.st (s_invv dX5_beginOfSet_35 rfl lX5_64 (by omega) rfl (Nat.le_of_ble_eq_true rfl) rfl (Nat.le_of_ble_eq_true rfl) g2 c3 (fun h => nomatch h)) (E.st (j_X5_beginOfSet_c_1 (Nat.zero_le _) h3 (wid l) (nI m) 1) (E.st (s_invv dX5_beginOfSet_40 rfl lX5_61 (by omega) rfl (Nat.le_of_ble_eq_true rfl) rfl (Nat.le_of_ble_eq_true rfl) o3 c4 (fun h => nomatch h)) (j_X5_beginOfSet_d_1 (Nat.zero_le _) h4 (wid l) (nI m))))))), r4, q4, k1.tr (k2.tr (k3.tr k4))⟩
theorem c_tell {T : NT} {σ : St} {κ : KP} {w : WR} {l : Nat} {h : AH} {fi tb de mo vs li : Nat} {v : Nat → Option Vl} {ts : List Tok} (r : RCo T σ κ w l h) (hl : l < 6) (q : RWr κ l fi tb de mo vs li v ts h) {d : Nat} (hd : 5 ≤ d) (k : Int32) (u : Int64) (h1 : vs ≤ ts.length) (h2 : vs ≤ 100) (h3 : ts.length ≤ 200) : ∃ κ' h', CM mX5_tell d [.ref (wid l), .int k, .long u] h (some (.int (if ts.length - vs < 100 then 1 else 0))) h' ∧ RCo T σ κ' w l h' ∧ RWr κ' l fi tb de mo vs li v (if ts.length - vs < 100 then ts ++ [(k, u)] else ts) h' ∧ CF h κ h' κ' := by
  obtain ⟨⟨F, a, f0, f1, f2, f3, f4, f5, f6, f7, f8, f9, f10, f11⟩, -⟩ := id q
  obtain ⟨G, _, _, g1, _, _, _, g5, -⟩ := id q.2.2
  have es : nI ts.length - nI vs = nI (ts.length - vs) := pk_sub h1
  by_cases c : ts.length - vs < 100
  · rw [if_pos c, if_pos c]
    obtain ⟨κ', h', x1, x2, x3, x4⟩ := c_addW r hl q (d := 4) (by omega) k u (by omega)
    exact ⟨κ', h', E.st (j_X5_tell_a_2 (by omega) h (wid l) k u F a f9 G g1 _ g5 _ f10 (by rw [es]; exact nI_ge (b := 100) c (by decide))) (E.st (s_invv dX5_tell_23 rfl lX5_64 (by omega) rfl (Nat.le_of_ble_eq_true rfl) rfl (Nat.le_of_ble_eq_true rfl) g1 x1 (fun h => nomatch h)) (j_X5_tell_b_2 (Nat.zero_le _) h' (wid l) k u 1 (by decide))), x2, x3, x4⟩
  · rw [if_neg c, if_neg c]
    exact ⟨κ, h, j_X5_tell_a_1 (by omega) h (wid l) k u F a f9 G g1 _ g5 _ f10 (by rw [es]; exact nI_le (a := 100) (by omega) (by omega)), r, q, CF.rf _ _⟩
theorem c_tellAll {T : NT} {σ : St} {κ : KP} {w : WR} {l : Nat} {h : AH} {fi tb de mo vs li : Nat} {v : Nat → Option Vl} {ts : List Tok} (r : RCo T σ κ w l h) (hl : l < 6) (q : RWr κ l fi tb de mo vs li v ts h) {d : Nat} (hd : 5 ≤ d) {s n : Nat} (hs : s + n ≤ (sHeap σ).length) (hn : n ≤ 40000) (h1 : vs ≤ ts.length) (h2 : vs ≤ 100) (h3 : ts.length ≤ 200) : ∃ κ' h', CM mX5_tellAll d [.ref (wid l), .ref 27, .int (nI s), .int (nI n)] h (some (.int (if ts.length - vs + n ≤ 100 then 1 else 0))) h' ∧ RCo T σ κ' w l h' ∧ RWr κ' l fi tb de mo vs li v (if ts.length - vs + n ≤ 100 then ts ++ hsl (sHeap σ) s n else ts) h' ∧ CF h κ h' κ' := by
  obtain ⟨⟨F, a, f0, f1, f2, f3, f4, f5, f6, f7, f8, f9, f10, f11⟩, -⟩ := id q
  obtain ⟨G, _, _, g1, _, _, _, g5, -⟩ := id q.2.2
  have es : nI ts.length - nI vs + nI n = nI (ts.length - vs + n) := by rw [pk_sub h1, nI_add]
  by_cases c : ts.length - vs + n ≤ 100
  · rw [if_pos c, if_pos c]
    obtain ⟨κ', h', x1, x2, x3, x4⟩ := c_addFromW r hl q (d := 4) (by omega) hs (by omega)
    exact ⟨κ', h', E.st (j_X5_tellAll_a_2 (by omega) h (wid l) 27 (nI s) (nI n) F a f9 G g1 _ g5 _ f10 (by rw [es]; exact nI_nlt (a := 100) c (by decide))) (E.st (s_invv dX5_tellAll_26 rfl lX5_89 (by omega) rfl (Nat.le_of_ble_eq_true rfl) rfl (Nat.le_of_ble_eq_true rfl) g1 x1 (fun h => nomatch h)) (j_X5_tellAll_b_2 (Nat.zero_le _) h' (wid l) 27 (nI s) (nI n) 1 (by decide))), x2, x3, x4⟩
  · rw [if_neg c, if_neg c]
    exact ⟨κ, h, j_X5_tellAll_a_1 (by omega) h (wid l) 27 (nI s) (nI n) F a f9 G g1 _ g5 _ f10 (by rw [es]; exact nI_lt (a := 100) (by omega) (by omega)), r, q, CF.rf _ _⟩
theorem c_dropValue {T : NT} {σ : St} {κ : KP} {w : WR} {l : Nat} {h : AH} {fi tb de mo vs li : Nat} {v : Nat → Option Vl} {ts : List Tok} (r : RCo T σ κ w l h) (hl : l < 6) (q : RWr κ l fi tb de mo vs li v ts h) {d : Nat} (hd : 1 ≤ d) (hn : vs < 2 ^ 31) : ∃ h', CM mX5_dropValue d [.ref (wid l)] h none h' ∧ RCo T σ κ w l h' ∧ RWr κ l fi tb de mo vs li v (ts.take vs) h' ∧ CF h κ h' κ := by
  obtain ⟨⟨F, a, f0, f1, f2, f3, f4, f5, f6, f7, f8, f9, f10, f11⟩, -⟩ := id q
  obtain ⟨G, _, _, g1, -⟩ := id q.2.2
  obtain ⟨h', x1, x2, x3, x4⟩ := c_cutW r hl q (d := 0) hn
  exact ⟨h', E.st (j_X5_dropValue_a_1 (Nat.zero_le _) h (wid l) F a f9 _ f10) (E.st (s_invv dX5_dropValue_8 rfl lX5_58 (by omega) rfl (Nat.le_of_ble_eq_true rfl) rfl (Nat.le_of_ble_eq_true rfl) g1 x1 (fun h => nomatch h)) (j_X5_dropValue_b_1 (Nat.zero_le _) h' (wid l))), x2, x3, x4⟩
theorem c_listValue {T : NT} {σ : St} {κ : KP} {w : WR} {l : Nat} {h : AH} {fi tb de mo vs li : Nat} {v : Nat → Option Vl} {z : Int32} {b : Int64} {ts : List Tok} (r : RCo T σ κ w l h) (hl : l < 6) (q : RWr κ l fi tb de mo vs li v ((z, b) :: ts) h) {d : Nat} (hd : 2 ≤ d) (hn : li < 2 ^ 30) : ∃ h', CM mX5_listValue d [.ref (wid l)] h none h' ∧ RCo T σ κ w l h' ∧ RWr κ l fi tb de mo vs (li + 1) v ((z, lN (li + 1)) :: ts) h' ∧ CF h κ h' κ := by
  obtain ⟨⟨F, a, f0, f1, f2, f3, f4, f5, f6, f7, f8, f9, f10, f11⟩, -⟩ := id q
  have A := j_X5_listValue_a_1 (d := d) (Nat.zero_le _) h (wid l) F a _ f11 f9
  rw [nI_1, nI_l (by omega)] at A
  obtain ⟨r1, q1, k1⟩ := RWr.obj (c := ob 5 (fo 12 (va_up F 11 (.int (nI (li + 1)))))) r hl q (li' := li + 1) ⟨_, hs_eq, (up_ne (by decide)).trans (f0), (up_ne (by decide)).trans (f1), (up_ne (by decide)).trans (f2), (up_ne (by decide)).trans (f3), (up_ne (by decide)).trans (f4), (up_ne (by decide)).trans (f5), (up_ne (by decide)).trans (f6), (up_ne (by decide)).trans (f7), (up_ne (by decide)).trans (f8), (up_ne (by decide)).trans (f9), (up_ne (by decide)).trans (f10), up_eq⟩
  obtain ⟨G, _, _, g1, -⟩ := id q1.2.2
  obtain ⟨h', x1, x2, x3, x4⟩ := c_put0W r1 hl q1 (d := 1) (by omega) (lN (li + 1))
  exact ⟨h', E.st A (E.st (s_invv dX5_listValue_20 rfl lX5_81 (by omega) rfl (Nat.le_of_ble_eq_true rfl) rfl (Nat.le_of_ble_eq_true rfl) g1 x1 (fun h => nomatch h)) (j_X5_listValue_b_1 (Nat.zero_le _) h' (wid l))), x2, x3, k1.tr x4⟩
