/-! ONE CALL OF THE LAW: the store, then the reference; they answer alike -/
def NXT (c s n : Nat) (xs : Nat → Int32) (h : AH) : Prop := ∃ T S Z t0, LOG T S Z ∧ WW T T S Z t0 (c + 1) (s + 6) n xs h
def FIN (c s n : Nat) (xs : Nat → Int32) (k : Int32) (o : Int64) (h1 h2 : AH) : Prop := (h1.1 0 = ia n xs ∧ h2.1 0 = ia n xs) ∧ (∃ F1, h1.1 65 = ob 8 (fo 53 F1)) ∧ (∃ F2, h2.1 65 = ob 8 (fo 53 F2) ∧ F2 0 = .int k) ∧ (k = 0 → ∃ f, h2.1 94 = la 1 f ∧ f 0 = o) ∧ NXT c s n xs h2
theorem FIN.of {T1 T2 T : NT} {S1 S : SS} {Z1 Z : ZS} {t1 k : Int32} {c s c1 s1 c2 s2 n : Nat} {xs : Nat → Int32} {σ1 σ : St} {κ1 κ : KP} {w1 w : WR} {μ1 μ : KM} {F1 F : Nat → Value} {I1 I : AI} {L1 La : AL} {X1 X : Nat → Value} {f1 f : Nat → Int64} {h1 h2 : AH} {o : Int64} (a : WO2 T1 T2 S1 Z1 t1 c1 s1 n xs σ1 κ1 w1 μ1 F1 I1 L1 X1 f1 h1) (b : WO2 T T S Z k c2 s2 n xs σ κ w μ F I La X f h2) (hc : c2 ≤ c + 1) (hs : s2 ≤ s + 6) (l : LOG T S Z) (hf : k = 0 → f 0 = o) : FIN c s n xs k o h1 h2 :=
  ⟨⟨a.2.2.2.2.2.2, b.2.2.2.2.2.2⟩, ⟨F1, a.2.1.1.1.1⟩, ⟨F, b.2.1.1.1.1, b.2.1.2.1⟩, fun q => ⟨f, b.2.2.2.2.1, hf q⟩, T, S, Z, k, l, σ, κ, w, μ, F, I, La, X, f, b.le hc hs⟩
def FIA (c s n : Nat) (xs : Nat → Int32) (k : Int32) (h1 h2 : AH) : Prop := (h1.1 0 = ia n xs ∧ h2.1 0 = ia n xs) ∧ (∃ F1, h1.1 65 = ob 8 (fo 53 F1)) ∧ (∃ F2, h2.1 65 = ob 8 (fo 53 F2) ∧ F2 0 = .int k) ∧ NXT c s n xs h2
theorem FIA.of {T1 T2 T : NT} {S1 S : SS} {Z1 Z : ZS} {t1 k : Int32} {c s c1 s1 c2 s2 n : Nat} {xs : Nat → Int32} {σ1 σ : St} {κ1 κ : KP} {w1 w : WR} {μ1 μ : KM} {F1 F : Nat → Value} {I1 I : AI} {L1 La : AL} {X1 X : Nat → Value} {f1 f : Nat → Int64} {h1 h2 : AH} (a : WO2 T1 T2 S1 Z1 t1 c1 s1 n xs σ1 κ1 w1 μ1 F1 I1 L1 X1 f1 h1) (b : WO2 T T S Z k c2 s2 n xs σ κ w μ F I La X f h2) (hc : c2 ≤ c + 1) (hs : s2 ≤ s + 6) (l : LOG T S Z) : FIA c s n xs k h1 h2 :=
  ⟨⟨a.2.2.2.2.2.2, b.2.2.2.2.2.2⟩, ⟨F1, a.2.1.1.1.1⟩, ⟨F, b.2.1.1.1.1, b.2.1.2.1⟩, T, S, Z, k, l, σ, κ, w, μ, F, I, La, X, f, b.le hc hs⟩
theorem okA_new {T : NT} (h60 : tN T ≤ 60) {a : Int32} (g : nd T a) (s b c : Int32) (v : Int64) : okA (addT T s a b c v) (tN T) := by
  obtain ⟨-, n2, -⟩ := add_new T s a b c v
  obtain ⟨e, l⟩ := nd_i h60 g
  unfold okA tA
  rw [n2]
  exact ⟨e, l⟩
theorem okB_new {T : NT} (h60 : tN T ≤ 60) {b : Int32} (g : nd T b) (s a c : Int32) (v : Int64) : okB (addT T s a b c v) (tN T) := by
  obtain ⟨-, -, n3, -⟩ := add_new T s a b c v
  obtain ⟨e, l⟩ := nd_i h60 g
  unfold okB tB
  rw [n3]
  exact ⟨e, l⟩
theorem okC_new {T : NT} (h60 : tN T ≤ 60) {c : Int32} (g : nd T c) (s a b : Int32) (v : Int64) : okC (addT T s a b c v) (tN T) := by
  obtain ⟨-, -, -, n4, -⟩ := add_new T s a b c v
  obtain ⟨e, l⟩ := nd_i h60 g
  unfold okC tC
  rw [n4]
  exact ⟨e, l⟩
theorem vu0 (f : Nat → Int64) (v : Int64) : vp_updL f 0 v 0 = v := pk_uLs
theorem o_choice {T : NT} {S : SS} {Z : ZS} {t0 : Int32} {C0 Z0 n : Nat} {xs : Nat → Int32} {h : AH} {d : Nat} (W : WW T T S Z t0 C0 Z0 n xs h) (l : LOG T S Z) (hd : 640 ≤ d) (a b : Int32) : ∃ k h1 r h2, CM mL_choice d [.ref 1, .int a, .int b, .ref 94] h (some (.int k)) h1 ∧ CM mX8_choice d [.ref 65, .int a, .int b] h1 (some (.int r)) h2 ∧ FIN C0 Z0 n xs k (r.toInt64) h1 h2 := by
  obtain ⟨σ, κ, w, μ, F, I, La, X, f, W⟩ := W
  have h60 := l.1.1
  obtain ⟨k1, k2, k3⟩ := k_choice W.1 W.2.2.2.1.1 W.2.2.2.1.2.1 W.2.2.2.2.1 (d := d) (by omega) a b
  by_cases g : nd T a ∧ nd T b
  · by_cases e : tN T < 60
    · obtain ⟨h1, C, rk, cg⟩ := k3 g e
      have W1 := (W.cl rk cg).out (vp_updL f 0 ((nI (tN T)).toInt64))
      obtain ⟨-, -, q3⟩ := q_choice W1.2.1 (d := d) (by omega) a b
      obtain ⟨I', L', rz, mg⟩ := W1.2.1.add e (s := 1) (a := a) (b := b) (c := -1) (v := 0)
      exact ⟨0, _, _, _, C, q3 g e, FIN.of W1 (W1.rf rz mg) (Nat.le_succ _) (Nat.le_add_right _ _) (l.add e (Or.inr (Or.inl ⟨(add_new T _ _ _ _ _).1, okA_new h60 g.1 _ _ _ _, okB_new h60 g.2 _ _ _ _⟩))) (fun _ => vu0 _ _)⟩
    · have e : tN T = 60 := by omega
      have W1 := W.out (vp_updL f 0 ((-1 : Int32).toInt64))
      obtain ⟨-, q2, -⟩ := q_choice W1.2.1 (d := d) (by omega) a b
      exact ⟨0, _, _, _, k2 g e, q2 g e, FIN.of W1 (W1.th 0) (Nat.le_succ _) (Nat.le_add_right _ _) l (fun _ => vu0 _ _)⟩
  · have W1 := W.x
    obtain ⟨q1, -⟩ := q_choice W1.2.1 (d := d) (by omega) a b
    exact ⟨1, _, _, _, k1 g, q1 g, FIN.of W1 (W1.th 1) (Nat.le_refl _) (Nat.le_refl _) l (fun q => by cases q)⟩
theorem o_pair {T : NT} {S : SS} {Z : ZS} {t0 : Int32} {C0 Z0 n : Nat} {xs : Nat → Int32} {h : AH} {d : Nat} (W : WW T T S Z t0 C0 Z0 n xs h) (l : LOG T S Z) (hd : 640 ≤ d) (a b : Int32) : ∃ k h1 r h2, CM mL_pair d [.ref 1, .int a, .int b, .ref 94] h (some (.int k)) h1 ∧ CM mX8_pair d [.ref 65, .int a, .int b] h1 (some (.int r)) h2 ∧ FIN C0 Z0 n xs k (r.toInt64) h1 h2 := by
  obtain ⟨σ, κ, w, μ, F, I, La, X, f, W⟩ := W
  have h60 := l.1.1
  obtain ⟨k1, k2, k3⟩ := k_pair W.1 W.2.2.2.1.1 W.2.2.2.1.2.1 W.2.2.2.2.1 (d := d) (by omega) a b
  by_cases g : nd T a ∧ nd T b
  · by_cases e : tN T < 60
    · obtain ⟨h1, C, rk, cg⟩ := k3 g e
      have W1 := (W.cl rk cg).out (vp_updL f 0 ((nI (tN T)).toInt64))
      obtain ⟨-, -, q3⟩ := q_pair W1.2.1 (d := d) (by omega) a b
      obtain ⟨I', L', rz, mg⟩ := W1.2.1.add e (s := 3) (a := a) (b := b) (c := -1) (v := 0)
      exact ⟨0, _, _, _, C, q3 g e, FIN.of W1 (W1.rf rz mg) (Nat.le_succ _) (Nat.le_add_right _ _) (l.add e (Or.inr (Or.inr (Or.inr (Or.inl ⟨(add_new T _ _ _ _ _).1, okA_new h60 g.1 _ _ _ _, okB_new h60 g.2 _ _ _ _⟩))))) (fun _ => vu0 _ _)⟩
    · have e : tN T = 60 := by omega
      have W1 := W.out (vp_updL f 0 ((-1 : Int32).toInt64))
      obtain ⟨-, q2, -⟩ := q_pair W1.2.1 (d := d) (by omega) a b
      exact ⟨0, _, _, _, k2 g e, q2 g e, FIN.of W1 (W1.th 0) (Nat.le_succ _) (Nat.le_add_right _ _) l (fun _ => vu0 _ _)⟩
  · have W1 := W.x
    obtain ⟨q1, -⟩ := q_pair W1.2.1 (d := d) (by omega) a b
    exact ⟨1, _, _, _, k1 g, q1 g, FIN.of W1 (W1.th 1) (Nat.le_refl _) (Nat.le_refl _) l (fun q => by cases q)⟩
theorem o_op {T : NT} {S : SS} {Z : ZS} {t0 : Int32} {C0 Z0 n : Nat} {xs : Nat → Int32} {h : AH} {d : Nat} (W : WW T T S Z t0 C0 Z0 n xs h) (l : LOG T S Z) (hd : 640 ≤ d) (a b c : Int32) : ∃ k h1 r h2, CM mL_op d [.ref 1, .int a, .int b, .int c, .ref 94] h (some (.int k)) h1 ∧ CM mX8_op d [.ref 65, .int a, .int b, .int c] h1 (some (.int r)) h2 ∧ FIN C0 Z0 n xs k (r.toInt64) h1 h2 := by
  obtain ⟨σ, κ, w, μ, F, I, La, X, f, W⟩ := W
  have h60 := l.1.1
  obtain ⟨k1, k2, k3⟩ := k_op W.1 W.2.2.2.1.1 W.2.2.2.1.2.1 W.2.2.2.2.1 (d := d) (by omega) a b c
  by_cases g : nd T b ∧ nd T c ∧ ¬ a < 0 ∧ ¬ 5 < a
  · by_cases e : tN T < 60
    · obtain ⟨h1, C, rk, cg⟩ := k3 g e
      have W1 := (W.cl rk cg).out (vp_updL f 0 ((nI (tN T)).toInt64))
      obtain ⟨-, -, q3⟩ := q_op W1.2.1 (d := d) (by omega) a b c
      obtain ⟨I', L', rz, mg⟩ := W1.2.1.add e (s := 6) (a := b) (b := c) (c := a) (v := 0)
      exact ⟨0, _, _, _, C, q3 g e, FIN.of W1 (W1.rf rz mg) (Nat.le_succ _) (Nat.le_add_right _ _) (l.add e (Or.inr (Or.inr (Or.inr (Or.inr (Or.inr (Or.inr (Or.inl ⟨(add_new T _ _ _ _ _).1, okA_new h60 g.1 _ _ _ _, okB_new h60 g.2.1 _ _ _ _, (by obtain ⟨e, l⟩ := i_le (k := 5) g.2.2.1 (Int32.not_lt.mp g.2.2.2) (by decide); exact ⟨_, l, (add_new T _ _ _ _ _).2.2.2.1.trans e⟩)⟩)))))))) (fun _ => vu0 _ _)⟩
    · have e : tN T = 60 := by omega
      have W1 := W.out (vp_updL f 0 ((-1 : Int32).toInt64))
      obtain ⟨-, q2, -⟩ := q_op W1.2.1 (d := d) (by omega) a b c
      exact ⟨0, _, _, _, k2 g e, q2 g e, FIN.of W1 (W1.th 0) (Nat.le_succ _) (Nat.le_add_right _ _) l (fun _ => vu0 _ _)⟩
  · have W1 := W.x
    obtain ⟨q1, -⟩ := q_op W1.2.1 (d := d) (by omega) a b c
    exact ⟨1, _, _, _, k1 g, q1 g, FIN.of W1 (W1.th 1) (Nat.le_refl _) (Nat.le_refl _) l (fun q => by cases q)⟩
theorem o_when {T : NT} {S : SS} {Z : ZS} {t0 : Int32} {C0 Z0 n : Nat} {xs : Nat → Int32} {h : AH} {d : Nat} (W : WW T T S Z t0 C0 Z0 n xs h) (l : LOG T S Z) (hd : 640 ≤ d) (a b c : Int32) : ∃ k h1 r h2, CM mL_when d [.ref 1, .int a, .int b, .int c, .ref 94] h (some (.int k)) h1 ∧ CM mX8_when d [.ref 65, .int a, .int b, .int c] h1 (some (.int r)) h2 ∧ FIN C0 Z0 n xs k (r.toInt64) h1 h2 := by
  obtain ⟨σ, κ, w, μ, F, I, La, X, f, W⟩ := W
  have h60 := l.1.1
  obtain ⟨k1, k2, k3⟩ := k_when W.1 W.2.2.2.1.1 W.2.2.2.1.2.1 W.2.2.2.2.1 (d := d) (by omega) a b c
  by_cases g : nd T a ∧ nd T b ∧ nd T c
  · by_cases e : tN T < 60
    · obtain ⟨h1, C, rk, cg⟩ := k3 g e
      have W1 := (W.cl rk cg).out (vp_updL f 0 ((nI (tN T)).toInt64))
      obtain ⟨-, -, q3⟩ := q_when W1.2.1 (d := d) (by omega) a b c
      obtain ⟨I', L', rz, mg⟩ := W1.2.1.add e (s := 7) (a := a) (b := b) (c := c) (v := 0)
      exact ⟨0, _, _, _, C, q3 g e, FIN.of W1 (W1.rf rz mg) (Nat.le_succ _) (Nat.le_add_right _ _) (l.add e (Or.inr (Or.inr (Or.inr (Or.inr (Or.inr (Or.inr (Or.inr (Or.inl ⟨(add_new T _ _ _ _ _).1, okA_new h60 g.1 _ _ _ _, okB_new h60 g.2.1 _ _ _ _, okC_new h60 g.2.2 _ _ _ _⟩))))))))) (fun _ => vu0 _ _)⟩
    · have e : tN T = 60 := by omega
      have W1 := W.out (vp_updL f 0 ((-1 : Int32).toInt64))
      obtain ⟨-, q2, -⟩ := q_when W1.2.1 (d := d) (by omega) a b c
      exact ⟨0, _, _, _, k2 g e, q2 g e, FIN.of W1 (W1.th 0) (Nat.le_succ _) (Nat.le_add_right _ _) l (fun _ => vu0 _ _)⟩
  · have W1 := W.x
    obtain ⟨q1, -⟩ := q_when W1.2.1 (d := d) (by omega) a b c
    exact ⟨1, _, _, _, k1 g, q1 g, FIN.of W1 (W1.th 1) (Nat.le_refl _) (Nat.le_refl _) l (fun q => by cases q)⟩
theorem o_set {T : NT} {S : SS} {Z : ZS} {t0 : Int32} {C0 Z0 n : Nat} {xs : Nat → Int32} {h : AH} {d : Nat} (W : WW T T S Z t0 C0 Z0 n xs h) (l : LOG T S Z) (hd : 640 ≤ d) (a b : Int32) : ∃ k h1 r h2, CM mL_set d [.ref 1, .int a, .int b, .ref 94] h (some (.int k)) h1 ∧ CM mX8_set d [.ref 65, .int a, .int b] h1 (some (.int r)) h2 ∧ FIN C0 Z0 n xs k (r.toInt64) h1 h2 := by
  obtain ⟨σ, κ, w, μ, F, I, La, X, f, W⟩ := W
  have h60 := l.1.1
  obtain ⟨k1, k2, k3⟩ := k_set W.1 W.2.2.2.1.1 W.2.2.2.1.2.1 W.2.2.2.2.1 (d := d) (by omega) a b
  by_cases g : nd T a ∧ ¬ b < 0 ∧ ¬ nI (tN T) < b
  · by_cases e : tN T < 60
    · obtain ⟨h1, C, rk, cg⟩ := k3 g e
      have W1 := (W.cl rk cg).out (vp_updL f 0 ((nI (tN T)).toInt64))
      obtain ⟨-, -, q3⟩ := q_set W1.2.1 (d := d) (by omega) a b
      obtain ⟨I', L', rz, mg⟩ := W1.2.1.add e (s := 8) (a := a) (b := b) (c := -1) (v := 0)
      exact ⟨0, _, _, _, C, q3 g e, FIN.of W1 (W1.rf rz mg) (Nat.le_succ _) (Nat.le_add_right _ _) (l.add e (Or.inr (Or.inr (Or.inr (Or.inr (Or.inr (Or.inr (Or.inr (Or.inr (Or.inl ⟨(add_new T _ _ _ _ _).1, okA_new h60 g.1 _ _ _ _, (by obtain ⟨e, l⟩ := i_le (k := tN T) g.2.1 (Int32.not_lt.mp g.2.2) (by omega); unfold tB; rw [(add_new T _ _ _ _ _).2.2.1]; exact ⟨e, l⟩)⟩)))))))))) (fun _ => vu0 _ _)⟩
    · have e : tN T = 60 := by omega
      have W1 := W.out (vp_updL f 0 ((-1 : Int32).toInt64))
      obtain ⟨-, q2, -⟩ := q_set W1.2.1 (d := d) (by omega) a b
      exact ⟨0, _, _, _, k2 g e, q2 g e, FIN.of W1 (W1.th 0) (Nat.le_succ _) (Nat.le_add_right _ _) l (fun _ => vu0 _ _)⟩
  · have W1 := W.x
    obtain ⟨q1, -⟩ := q_set W1.2.1 (d := d) (by omega) a b
    exact ⟨1, _, _, _, k1 g, q1 g, FIN.of W1 (W1.th 1) (Nat.le_refl _) (Nat.le_refl _) l (fun q => by cases q)⟩
theorem o_fold {T : NT} {S : SS} {Z : ZS} {t0 : Int32} {C0 Z0 n : Nat} {xs : Nat → Int32} {h : AH} {d : Nat} (W : WW T T S Z t0 C0 Z0 n xs h) (l : LOG T S Z) (hd : 640 ≤ d) (a b : Int32) : ∃ k h1 r h2, CM mL_fold d [.ref 1, .int a, .int b, .ref 94] h (some (.int k)) h1 ∧ CM mX8_fold d [.ref 65, .int a, .int b] h1 (some (.int r)) h2 ∧ FIN C0 Z0 n xs k (r.toInt64) h1 h2 := by
  obtain ⟨σ, κ, w, μ, F, I, La, X, f, W⟩ := W
  have h60 := l.1.1
  obtain ⟨k1, k2, k3⟩ := k_fold W.1 W.2.2.2.1.1 W.2.2.2.1.2.1 W.2.2.2.2.1 (d := d) (by omega) a b
  by_cases g : nd T b ∧ ¬ a < 0 ∧ ¬ 2 < a
  · by_cases e : tN T < 60
    · obtain ⟨h1, C, rk, cg⟩ := k3 g e
      have W1 := (W.cl rk cg).out (vp_updL f 0 ((nI (tN T)).toInt64))
      obtain ⟨-, -, q3⟩ := q_fold W1.2.1 (d := d) (by omega) a b
      obtain ⟨I', L', rz, mg⟩ := W1.2.1.add e (s := 9) (a := b) (b := a) (c := -1) (v := 0)
      exact ⟨0, _, _, _, C, q3 g e, FIN.of W1 (W1.rf rz mg) (Nat.le_succ _) (Nat.le_add_right _ _) (l.add e (Or.inr (Or.inr (Or.inr (Or.inr (Or.inr (Or.inr (Or.inr (Or.inr (Or.inr ⟨(add_new T _ _ _ _ _).1, okA_new h60 g.1 _ _ _ _, (by obtain ⟨e, l⟩ := i_le (k := 2) g.2.1 (Int32.not_lt.mp g.2.2) (by decide); exact ⟨_, l, (add_new T _ _ _ _ _).2.2.1.trans e⟩)⟩)))))))))) (fun _ => vu0 _ _)⟩
    · have e : tN T = 60 := by omega
      have W1 := W.out (vp_updL f 0 ((-1 : Int32).toInt64))
      obtain ⟨-, q2, -⟩ := q_fold W1.2.1 (d := d) (by omega) a b
      exact ⟨0, _, _, _, k2 g e, q2 g e, FIN.of W1 (W1.th 0) (Nat.le_succ _) (Nat.le_add_right _ _) l (fun _ => vu0 _ _)⟩
  · have W1 := W.x
    obtain ⟨q1, -⟩ := q_fold W1.2.1 (d := d) (by omega) a b
    exact ⟨1, _, _, _, k1 g, q1 g, FIN.of W1 (W1.th 1) (Nat.le_refl _) (Nat.le_refl _) l (fun q => by cases q)⟩
theorem o_part0 {T : NT} {S : SS} {Z : ZS} {t0 : Int32} {C0 Z0 n : Nat} {xs : Nat → Int32} {h : AH} {d : Nat} (W : WW T T S Z t0 C0 Z0 n xs h) (l : LOG T S Z) (hd : 640 ≤ d) (a : Int32) : ∃ k h1 r h2, CM mL_part d [.ref 1, .int a, .int 0, .ref 94] h (some (.int k)) h1 ∧ CM mX8_part d [.ref 65, .int a, .int 0] h1 (some (.int r)) h2 ∧ FIN C0 Z0 n xs k (r.toInt64) h1 h2 := by
  obtain ⟨σ, κ, w, μ, F, I, La, X, f, W⟩ := W
  have h60 := l.1.1
  obtain ⟨k1, k2, k3⟩ := k_part0 W.1 W.2.2.2.1.1 W.2.2.2.1.2.1 W.2.2.2.2.1 (d := d) (by omega) a
  by_cases g : nd T a
  · by_cases e : tN T < 60
    · obtain ⟨h1, C, rk, cg⟩ := k3 g e
      have W1 := (W.cl rk cg).out (vp_updL f 0 ((nI (tN T)).toInt64))
      obtain ⟨-, -, q3⟩ := q_part0 W1.2.1 (d := d) (by omega) a
      obtain ⟨I', L', rz, mg⟩ := W1.2.1.add e (s := 4) (a := a) (b := -1) (c := -1) (v := 0)
      exact ⟨0, _, _, _, C, q3 g e, FIN.of W1 (W1.rf rz mg) (Nat.le_succ _) (Nat.le_add_right _ _) (l.add e (Or.inr (Or.inr (Or.inr (Or.inr (Or.inl ⟨(add_new T _ _ _ _ _).1, okA_new h60 g _ _ _ _⟩)))))) (fun _ => vu0 _ _)⟩
    · have e : tN T = 60 := by omega
      have W1 := W.out (vp_updL f 0 ((-1 : Int32).toInt64))
      obtain ⟨-, q2, -⟩ := q_part0 W1.2.1 (d := d) (by omega) a
      exact ⟨0, _, _, _, k2 g e, q2 g e, FIN.of W1 (W1.th 0) (Nat.le_succ _) (Nat.le_add_right _ _) l (fun _ => vu0 _ _)⟩
  · have W1 := W.x
    obtain ⟨q1, -⟩ := q_part0 W1.2.1 (d := d) (by omega) a
    exact ⟨1, _, _, _, k1 g, q1 g, FIN.of W1 (W1.th 1) (Nat.le_refl _) (Nat.le_refl _) l (fun q => by cases q)⟩
theorem o_part1 {T : NT} {S : SS} {Z : ZS} {t0 : Int32} {C0 Z0 n : Nat} {xs : Nat → Int32} {h : AH} {d : Nat} (W : WW T T S Z t0 C0 Z0 n xs h) (l : LOG T S Z) (hd : 640 ≤ d) (a : Int32) : ∃ k h1 r h2, CM mL_part d [.ref 1, .int a, .int 1, .ref 94] h (some (.int k)) h1 ∧ CM mX8_part d [.ref 65, .int a, .int 1] h1 (some (.int r)) h2 ∧ FIN C0 Z0 n xs k (r.toInt64) h1 h2 := by
  obtain ⟨σ, κ, w, μ, F, I, La, X, f, W⟩ := W
  have h60 := l.1.1
  obtain ⟨k1, k2, k3⟩ := k_part1 W.1 W.2.2.2.1.1 W.2.2.2.1.2.1 W.2.2.2.2.1 (d := d) (by omega) a
  by_cases g : nd T a
  · by_cases e : tN T < 60
    · obtain ⟨h1, C, rk, cg⟩ := k3 g e
      have W1 := (W.cl rk cg).out (vp_updL f 0 ((nI (tN T)).toInt64))
      obtain ⟨-, -, q3⟩ := q_part1 W1.2.1 (d := d) (by omega) a
      obtain ⟨I', L', rz, mg⟩ := W1.2.1.add e (s := 5) (a := a) (b := -1) (c := -1) (v := 0)
      exact ⟨0, _, _, _, C, q3 g e, FIN.of W1 (W1.rf rz mg) (Nat.le_succ _) (Nat.le_add_right _ _) (l.add e (Or.inr (Or.inr (Or.inr (Or.inr (Or.inr (Or.inl ⟨(add_new T _ _ _ _ _).1, okA_new h60 g _ _ _ _⟩))))))) (fun _ => vu0 _ _)⟩
    · have e : tN T = 60 := by omega
      have W1 := W.out (vp_updL f 0 ((-1 : Int32).toInt64))
      obtain ⟨-, q2, -⟩ := q_part1 W1.2.1 (d := d) (by omega) a
      exact ⟨0, _, _, _, k2 g e, q2 g e, FIN.of W1 (W1.th 0) (Nat.le_succ _) (Nat.le_add_right _ _) l (fun _ => vu0 _ _)⟩
  · have W1 := W.x
    obtain ⟨q1, -⟩ := q_part1 W1.2.1 (d := d) (by omega) a
    exact ⟨1, _, _, _, k1 g, q1 g, FIN.of W1 (W1.th 1) (Nat.le_refl _) (Nat.le_refl _) l (fun q => by cases q)⟩
def FID (c s n : Nat) (xs : Nat → Int32) (h1 h2 : AH) : Prop := h1.1 0 = ia n xs ∧ h2.1 0 = ia n xs ∧ (∃ F1, h1.1 65 = ob 8 (fo 53 F1)) ∧ NXT c s n xs h2
theorem FID.of {T1 T2 T : NT} {S1 S : SS} {Z1 Z : ZS} {t1 k : Int32} {c s n : Nat} {xs : Nat → Int32} {σ1 σ : St} {κ1 κ : KP} {w1 w : WR} {μ1 μ : KM} {F1 F : Nat → Value} {I1 I : AI} {L1 La : AL} {X1 X : Nat → Value} {f1 f : Nat → Int64} {h1 h2 : AH} (a : WO2 T1 T2 S1 Z1 t1 c s n xs σ1 κ1 w1 μ1 F1 I1 L1 X1 f1 h1) (b : WO2 T T S Z k c s n xs σ κ w μ F I La X f h2) (l : LOG T S Z) : FID c s n xs h1 h2 :=
  ⟨a.2.2.2.2.2.2, b.2.2.2.2.2.2, ⟨F1, a.2.1.1.1.1⟩, T, S, Z, k, l, σ, κ, w, μ, F, I, La, X, f, b.le (Nat.le_succ _) (Nat.le_add_right _ _)⟩
theorem o_number {T : NT} {S : SS} {Z : ZS} {t0 : Int32} {C0 Z0 n : Nat} {xs : Nat → Int32} {h : AH} {d : Nat} (W : WW T T S Z t0 C0 Z0 n xs h) (l : LOG T S Z) (hd : 640 ≤ d) (v : Int64) : ∃ r h1 h2, CM mX7_number d [.ref 1, .long v] h (some (.int r)) h1 ∧ CM mX8_number d [.ref 65, .long v] h1 (some (.int r)) h2 ∧ FID C0 Z0 n xs h1 h2 ∧ ∃ X1, h.1 1 = ob 7 (fo 2 X1) := by
  obtain ⟨σ, κ, w, μ, F, I, La, X, f, W⟩ := W
  have h60 := l.1.1
  obtain ⟨k2, k3⟩ := k_number W.1 W.2.2.2.1.1 W.2.2.2.1.2.1 (d := d) (by omega) v
  by_cases e : tN T < 60
  · obtain ⟨h1, C, rk, cg⟩ := k3 e
    have W1 := W.cl rk cg
    obtain ⟨-, q3⟩ := q_number W1.2.1 (d := d) (by omega) v
    obtain ⟨I', L', rz, mg⟩ := W1.2.1.add e (s := 0) (a := -1) (b := -1) (c := -1) (v := v)
    exact ⟨_, _, _, C, q3 e, FID.of W1 (W1.rf rz mg) (l.add e (Or.inl (add_new T _ _ _ _ _).1)), X, W.2.2.2.1.1⟩
  · have e : tN T = 60 := by omega
    obtain ⟨q2, -⟩ := q_number W.2.1 (d := d) (by omega) v
    exact ⟨_, _, _, k2 e, q2 e, FID.of W (W.th 0) l, X, W.2.2.2.1.1⟩
theorem o_fail {T : NT} {S : SS} {Z : ZS} {t0 : Int32} {C0 Z0 n : Nat} {xs : Nat → Int32} {h : AH} {d : Nat} (W : WW T T S Z t0 C0 Z0 n xs h) (l : LOG T S Z) (hd : 640 ≤ d)  : ∃ r h1 h2, CM mX7_fail d [.ref 1] h (some (.int r)) h1 ∧ CM mX8_fail d [.ref 65] h1 (some (.int r)) h2 ∧ FID C0 Z0 n xs h1 h2 ∧ ∃ X1, h.1 1 = ob 7 (fo 2 X1) := by
  obtain ⟨σ, κ, w, μ, F, I, La, X, f, W⟩ := W
  have h60 := l.1.1
  obtain ⟨k2, k3⟩ := k_fail W.1 W.2.2.2.1.1 W.2.2.2.1.2.1 (d := d) (by omega) 
  by_cases e : tN T < 60
  · obtain ⟨h1, C, rk, cg⟩ := k3 e
    have W1 := W.cl rk cg
    obtain ⟨-, q3⟩ := q_fail W1.2.1 (d := d) (by omega) 
    obtain ⟨I', L', rz, mg⟩ := W1.2.1.add e (s := 2) (a := -1) (b := -1) (c := -1) (v := 0)
    exact ⟨_, _, _, C, q3 e, FID.of W1 (W1.rf rz mg) (l.add e (Or.inr (Or.inr (Or.inl (add_new T _ _ _ _ _).1)))), X, W.2.2.2.1.1⟩
  · have e : tN T = 60 := by omega
    obtain ⟨q2, -⟩ := q_fail W.2.1 (d := d) (by omega) 
    exact ⟨_, _, _, k2 e, q2 e, FID.of W (W.th 0) l, X, W.2.2.2.1.1⟩
theorem o_clear {T : NT} {S : SS} {Z : ZS} {t0 : Int32} {C0 Z0 n : Nat} {xs : Nat → Int32} {h : AH} {d : Nat} (W : WW T T S Z t0 C0 Z0 n xs h) (l : LOG T S Z) (hd : 640 ≤ d) : ∃ r h1 h2, CM mX7_clear d [.ref 1] h (some (.int r)) h1 ∧ CM mX8_clear d [.ref 65] h1 (some (.int r)) h2 ∧ FID C0 Z0 n xs h1 h2 ∧ ∃ X1, h.1 1 = ob 7 (fo 2 X1) := by
  obtain ⟨σ, κ, w, μ, F, I, La, X, f, W⟩ := W
  obtain ⟨h1, C, rk, cg⟩ := k_clear W.1 W.2.2.2.1.1 W.2.2.2.1.2.1 W.2.2.2.1.2.2 (d := d) (by omega)
  have W1 := W.cl rk cg
  obtain ⟨F', q, rz, mg⟩ := q_clear W1.2.1 (d := d) (by omega)
  exact ⟨_, _, _, C, q, FID.of W1 (W1.rf rz mg) l.clear, X, W.2.2.2.1.1⟩
theorem o_decision {T : NT} {S : SS} {Z : ZS} {t0 : Int32} {C0 Z0 n : Nat} {xs : Nat → Int32} {h : AH} {d : Nat} (W : WW T T S Z t0 C0 Z0 n xs h) (l : LOG T S Z) (hd : 640 ≤ d) (a : Int32) : ∃ r h1 h2, CM mX7_decision d [.ref 1, .int a] h (some (.int r)) h1 ∧ CM mX8_decision d [.ref 65, .int a] h1 (some (.int r)) h2 ∧ FID C0 Z0 n xs h1 h2 ∧ ∃ X1, h.1 1 = ob 7 (fo 2 X1) := by
  obtain ⟨σ, κ, w, μ, F, I, La, X, f, W⟩ := W
  have er : qRo S = zRo Z := l.2.1.1.2.2.1
  have C := k_decision W.1 W.2.2.2.1.1 W.2.2.2.1.2.2 (d := d) (by omega) l.2.2.2 a
  have q := q_decision W.2.1 (d := d) (by omega) (by rw [← er]; exact l.2.2.2) a
  rw [er] at C
  exact ⟨_, _, _, C, q, FID.of W (W.th 0) l, X, W.2.2.2.1.1⟩
theorem o_count {T : NT} {S : SS} {Z : ZS} {t0 : Int32} {C0 Z0 n : Nat} {xs : Nat → Int32} {h : AH} {d : Nat} (W : WW T T S Z t0 C0 Z0 n xs h) (l : LOG T S Z) (hd : 640 ≤ d) (a : Int32) : ∃ r h1 h2, CM mX7_count d [.ref 1, .int a] h (some (.int r)) h1 ∧ CM mX8_count d [.ref 65, .int a] h1 (some (.int r)) h2 ∧ FID C0 Z0 n xs h1 h2 ∧ ∃ X1, h.1 1 = ob 7 (fo 2 X1) := by
  obtain ⟨σ, κ, w, μ, F, I, La, X, f, W⟩ := W
  obtain ⟨⟨-, e1, e2, e3, e4⟩, e5, e6, e7, e8⟩ := l.2.1.1
  have C := k_count W.1 W.2.2.2.1.1 W.2.2.2.1.2.1 W.2.2.2.1.2.2 (d := d) (by omega) a
  have q := q_count W.2.1 (d := d) (by omega) a
  rw [e1, e2, e3, e4, e5, e6, e7, e8] at C
  exact ⟨_, _, _, C, q, FID.of W (W.th 0) l, X, W.2.2.2.1.1⟩
theorem o_node {T : NT} {S : SS} {Z : ZS} {t0 : Int32} {C0 Z0 n : Nat} {xs : Nat → Int32} {h : AH} {d : Nat} (W : WW T T S Z t0 C0 Z0 n xs h) (l : LOG T S Z) (hd : 640 ≤ d) (a b : Int32) : ∃ k h1 r h2, CM mL_node d [.ref 1, .int a, .int b, .ref 94] h (some (.int k)) h1 ∧ CM mX8_node d [.ref 65, .int a, .int b] h1 (some (.int r)) h2 ∧ FIN C0 Z0 n xs k (r.toInt64) h1 h2 := by
  obtain ⟨σ, κ, w, μ, F, I, La, X, f, W⟩ := W
  obtain ⟨k1, k2⟩ := k_node W.1 W.2.2.2.1.1 W.2.2.2.1.2.1 W.2.2.2.2.1 (d := d) (by omega) a b
  by_cases g : nd T a ∧ ¬ b < 0 ∧ b ≤ 3
  · have W1 := W.out (vp_updL f 0 ((nvl T a.toNatClampNeg b).toInt64))
    obtain ⟨-, q2⟩ := q_node W1.2.1 (d := d) (by omega) l.1.1 a b
    exact ⟨0, _, _, _, k2 g, q2 g, FIN.of W1 (W1.th 0) (Nat.le_succ _) (Nat.le_add_right _ _) l (fun _ => vu0 _ _)⟩
  · have W1 := W.x
    obtain ⟨q1, -⟩ := q_node W1.2.1 (d := d) (by omega) l.1.1 a b
    exact ⟨1, _, _, _, k1 g, q1 g, FIN.of W1 (W1.th 1) (Nat.le_refl _) (Nat.le_refl _) l (fun q => by cases q)⟩
theorem o_token {T : NT} {S : SS} {Z : ZS} {t0 : Int32} {C0 Z0 n : Nat} {xs : Nat → Int32} {h : AH} {d : Nat} (W : WW T T S Z t0 C0 Z0 n xs h) (l : LOG T S Z) (hd : 640 ≤ d) (a b : Int32) : ∃ k h1 r h2, CM mL_token d [.ref 1, .int a, .int b, .ref 94] h (some (.int k)) h1 ∧ CM mX8_token_ d [.ref 65, .int a, .int b] h1 (some (.long r)) h2 ∧ FIN C0 Z0 n xs k r h1 h2 := by
  obtain ⟨σ, κ, w, μ, F, I, La, X, f, W⟩ := W
  have et : qTk S = zTk Z := l.2.1.1.2.2.2.2
  have t100 : (zTk Z).length ≤ 100 := by
    obtain ⟨-, -, -, -, -, ⟨K, u, v, k10, k0, k1, k2, k3, k4, k5, k6, k7, k8, -⟩, -⟩ := id W.1
    rw [← et]
    omega
  obtain ⟨k1, k2⟩ := k_token W.1 W.2.2.2.1.1 W.2.2.2.1.2.1 W.2.2.2.2.1 (d := d) (by omega) W.2.2.2.1.2.2 a b
  rw [et] at k1 k2
  by_cases g : okk (zTk Z) a b
  · have W1 := W.out (vp_updL f 0 (tkv (zTk Z) a b))
    obtain ⟨-, q2⟩ := q_token W1.2.1 (d := d) (by omega) t100 a b
    exact ⟨0, _, _, _, k2 g, q2 g, FIN.of W1 (W1.th 0) (Nat.le_succ _) (Nat.le_add_right _ _) l (fun _ => vu0 _ _)⟩
  · have W1 := W.x
    obtain ⟨q1, -⟩ := q_token W1.2.1 (d := d) (by omega) t100 a b
    exact ⟨1, _, _, _, k1 g, q1 g, FIN.of W1 (W1.th 1) (Nat.le_refl _) (Nat.le_refl _) l (fun q => by cases q)⟩
theorem o_ask {T : NT} {S : SS} {Z : ZS} {t0 : Int32} {C0 Z0 n : Nat} {xs : Nat → Int32} {h : AH} {d : Nat} (W : WW T T S Z t0 C0 Z0 n xs h) (l : LOG T S Z) (hd : 640 ≤ d) (a b e : Int32) : ∃ k h1 h2, CM mL_ask d [.ref 1, .int a, .int b, .int e] h (some (.int k)) h1 ∧ CM mX8_ask d [.ref 65, .int a, .int b, .int e] h1 none h2 ∧ FIA C0 Z0 n xs k h1 h2 := by
  obtain ⟨σ, κ, w, μ, F, I, La, X, f, W⟩ := W
  obtain ⟨k1, k2⟩ := k_ask W.1 W.2.2.2.1.1 W.2.2.2.1.2.1 W.2.2.2.1.2.2 (d := d) (by omega) a b e
  by_cases g : nd T a ∧ ¬ b < 0 ∧ ¬ 2 < b ∧ ¬ e < 1 ∧ ¬ 60 < e
  · obtain ⟨h1, C, rk, cg⟩ := k2 g
    have W1 := W.cl rk cg
    obtain ⟨-, q2⟩ := q_ask W1.2.1 (d := d) (by omega) l.1.1 a b e
    obtain ⟨F', I', h2, q, rz, mg⟩ := q2 g
    have W2 := W1.rf rz mg
    have ln := (nd_i l.1.1 g.1).2
    obtain ⟨eb, lb⟩ := i_le (k := 2) g.2.1 (Int32.not_lt.mp g.2.2.1) (by decide)
    have e0 : ¬ e < 0 := fun z => g.2.2.2.1 (Int32.lt_trans z (by decide))
    obtain ⟨ee, le⟩ := i_le (k := 60) e0 (Int32.not_lt.mp g.2.2.2.2) (by decide)
    have l1 : 1 ≤ e.toNatClampNeg := by
      have g3 := g.2.2.2.1
      apply Classical.byContradiction
      intro z
      rw [ee, show e.toNatClampNeg = 0 by omega] at g3
      exact g3 (by decide)
    have l' := l.ask ln lb l1 le
    exact ⟨0, _, _, C, q, FIA.of W1 W2 (Nat.le_succ _) (Nat.le_add_right _ _) l'⟩
  · have W1 := W.x
    obtain ⟨q1, -⟩ := q_ask W1.2.1 (d := d) (by omega) l.1.1 a b e
    exact ⟨1, _, _, k1 g, q1 g, FIA.of W1 (W1.th 1) (Nat.le_refl _) (Nat.le_refl _) l⟩
theorem o_next {T : NT} {S : SS} {Z : ZS} {t0 : Int32} {C0 Z0 n : Nat} {xs : Nat → Int32} {h : AH} {d : Nat} (W : WW T T S Z t0 C0 Z0 n xs h) (l : LOG T S Z) (hd : 640 ≤ d) : ∃ k h1 r h2, CM mL_next d [.ref 1, .ref 94] h (some (.int k)) h1 ∧ CM mX8_next d [.ref 65] h1 (some (.int r)) h2 ∧ FIN C0 Z0 n xs k (r.toInt64) h1 h2 := by
  obtain ⟨σ, κ, w, μ, F, I, La, X, f, W⟩ := W
  have et : qTh S = zTh Z := l.2.1.1.1.1
  obtain ⟨k1, k2⟩ := k_next W.1 W.2.2.2.1.1 W.2.2.2.1.2.1 W.2.2.2.2.1 (d := d) (by omega) W.2.2.2.1.2.2 (by omega) l.1
  cases th : qTh S with
  | false =>
    have W1 := W.x
    obtain ⟨q1, -⟩ := q_next W1.2.1 (d := d) (by omega) (by omega) l.1
    exact ⟨1, _, _, _, k1 th, q1 (by rw [← et]; exact th), FIN.of W1 (W1.th 1) (Nat.le_refl _) (Nat.le_refl _) l (fun q => by cases q)⟩
  | true =>
    obtain ⟨b, z⟩ := l.2.2.1 th
    obtain ⟨σ', κ', w', h1, C, rk, cg⟩ := k2 th b
    have W1 := (W.cl rk cg).out (vp_updL f 0 ((nI (goQ T 201 S).1).toInt64))
    obtain ⟨-, q2, q3⟩ := q_next W1.2.1 (d := d) (by omega) (by omega) l.1
    have th' : zTh Z = true := by rw [← et]; exact th
    cases sp : qSp S with
    | true =>
      have es : zSp Z = true := by
        obtain ⟨wi, op, qu, gn, rfl, -⟩ := l.2.1.2 th
        exact sp
      have l2 : LOG T (goQ T 201 S).2 Z := by rw [go_sp sp]; exact l
      exact ⟨0, _, _, _, C, q2 th' es, FIN.of W1 (W1.th 0) (Nat.le_succ _) (Nat.le_add_right _ _) l2 (fun _ => (vu0 _ _).trans (by rw [go_sp sp]; rfl))⟩
    | false =>
      have es : zSp Z = false := by
        obtain ⟨wi, op, qu, gn, rfl, -⟩ := l.2.1.2 th
        exact sp
      obtain ⟨μ', F', I', L', h2, q, rz, mg, zi⟩ := q3 th' es z
      obtain ⟨e1, l'⟩ := l.next th sp zi
      exact ⟨0, _, _, _, C, q, FIN.of W1 (W1.rf rz mg) (Nat.le_succ _) (Nat.le_add_right _ _) l' (fun _ => (vu0 _ _).trans (by rw [e1]))⟩
