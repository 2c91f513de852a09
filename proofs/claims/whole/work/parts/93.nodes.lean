/-! NODES ARE ADDED: on both sides -/
theorem i_nn {x : Int32} (h : ¬ x < 0) : x = nI x.toNatClampNeg ∧ x.toNatClampNeg < 2 ^ 31 := by
  have h0 : 0 ≤ x.toInt := by
    rw [Int32.lt_iff_toInt_lt] at h
    have : (0 : Int32).toInt = 0 := rfl
    omega
  have h1 : x.toInt < 2 ^ 31 := Int32.toInt_lt x
  have e : (x.toNatClampNeg : Int) = x.toInt := by
    show ((x.toInt).toNat : Int) = x.toInt
    omega
  refine ⟨?_, by omega⟩
  apply Int32.toInt_inj.mp
  rw [← e]
  generalize hk : x.toNatClampNeg = k
  have : k < 2 ^ 31 := by omega
  show (k : Int) = (Int32.ofNat k).toInt
  rw [Int32.toInt_ofNat_of_lt (by omega)]
def nd (T : NT) (x : Int32) : Prop := ¬ (x < 0) ∧ ¬ (nI (tN T) ≤ x)
theorem nd_i {T : NT} {x : Int32} (h60 : tN T ≤ 60) (h : nd T x) : x = nI x.toNatClampNeg ∧ x.toNatClampNeg < tN T := by
  obtain ⟨e, l⟩ := i_nn h.1
  refine ⟨e, ?_⟩
  have := h.2
  rw [e, nI_leI (by omega) l] at this
  omega
theorem dn {A B : Prop} (h : ¬ (¬ A ∧ ¬ B)) : A ∨ B := Classical.byContradiction (fun q => h ⟨fun a => q (Or.inl a), fun b => q (Or.inr b)⟩)
theorem wfN_tx {T T' : NT} {i : Nat} (x : tS T' i = tS T i ∧ T'.2.2.1 i = T.2.2.1 i ∧ T'.2.2.2.1 i = T.2.2.2.1 i ∧ T'.2.2.2.2.1 i = T.2.2.2.2.1 i) (h : wfN T i) : wfN T' i := by
  obtain ⟨a, b, c, d⟩ := x
  unfold wfN okA okB okC tA tB tC at h ⊢
  rw [a, b, c, d]
  exact h
theorem wf_add {T : NT} (hT : wfT T) (h : tN T < 60) {s a b c : Int32} {v : Int64} (hn : wfN (addT T s a b c v) (tN T)) : wfT (addT T s a b c v) := by
  refine ⟨h, fun i hi => ?_⟩
  have hi : i < tN T + 1 := hi
  by_cases e : i = tN T
  · rw [e]; exact hn
  · have x := addT_TX T s a b c v i (by omega)
    exact wfN_tx ⟨x.1, x.2.1, x.2.2.1, x.2.2.2.1⟩ (hT.2 i (by omega))
theorem add_new (T : NT) (s a b c : Int32) (v : Int64) : tS (addT T s a b c v) (tN T) = s ∧ (addT T s a b c v).2.2.1 (tN T) = a ∧ (addT T s a b c v).2.2.2.1 (tN T) = b ∧ (addT T s a b c v).2.2.2.2.1 (tN T) = c ∧ tV (addT T s a b c v) (tN T) = v := ⟨pk_us, pk_us, pk_us, pk_us, pk_uLs⟩
/-- the class's cells of a node more -/
def hadd (h : AH) (F : Nat → Value) (n : Nat) (f3 f4 f5 f6 : Nat → Int32) (s a b c : Int32) : AH := hs (hs (hs (hs (hs h 3 (ia 60 (upd f3 n s))) 4 (ia 60 (upd f4 n a))) 5 (ia 60 (upd f5 n b))) 6 (ia 60 (upd f6 n c))) 2 (ob 2 (fo 6 (va_up F 5 (.int (nI (n + 1))))))
theorem RKx.nodes {T T' : NT} {S : SS} {σ : St} {κ : KP} {w : WR} {h h' : AH} (r : RKx T S σ κ w h) (e2 : h'.2 = h.2) (e : ∀ x, (x < 2 ∨ 7 < x) → h'.1 x = h.1 x) (rn : RNd T' h') : RKx T' S σ κ w h' ∧ CG h κ h' κ := by
  have k : ∀ x, 7 < x → h'.1 x = h.1 x := fun x hx => e x (Or.inr hx)
  have tu : ∀ o, TU o → h'.1 (κ o).1 = h.1 (κ o).1 ∧ h'.1 (κ o).2.1 = h.1 (κ o).2.1 := fun o ho => by
    have le := ho.le
    have A : ((κ o).1 = o + 1 ∨ 94 < (κ o).1) ∧ ((κ o).2.1 = o + 2 ∨ 94 < (κ o).2.1) := by
      rcases ho with ho | rfl
      · obtain ⟨x1, x2, -⟩ := r.1.1.2.2.2.2.2.1.2.1 o ho
        exact ⟨x1, x2⟩
      · have x1 := r.2.2.2.2.2.2.1
        have x2 := r.2.2.2.2.2.2.2.1
        exact ⟨by omega, by omega⟩
    exact ⟨k _ (by omega), k _ (by omega)⟩
  obtain ⟨⟨⟨r1, r2, r3, r4, r5, r6, r7, r8⟩, l0⟩, a, b, c, d, f, g1, g2, g3, g4, g5⟩ := r
  have T1 : ∀ o lim ts, TU o → TKk κ h o lim ts → TKk κ h' o lim ts := fun o lim ts ho q => TK.fr q (by rw [e2]; exact Nat.le_refl _) (k o (by have := ho.le; omega)) (tu o ho).1 (tu o ho).2
  have ew : ∀ j, j < 6 → ∀ x, wid j ≤ x → x ≤ wid j + 3 → h'.1 x = h.1 x := fun j hj x h1 h2 => k x (by have := wid_b hj; omega)
  refine ⟨⟨⟨⟨rn, r2.fr (k 19 (by decide)), fun j h1 => (r3 j h1).fr (ew j (by omega)) (fun ts => T1 _ _ _ (Or.inl (TEk (by omega)))), fun j h1 h2 => (r4 j h1 h2).fr (ew j h2) (fun ts => T1 _ _ _ (Or.inl (TEk h2))), T1 _ _ _ (Or.inl TE27) r5, r6.same e2, r7, r8⟩, l0⟩, a.fr (k 8 (by decide)), b.fr (k _ (by decide)) (k _ (by decide)) (k _ (by decide)), c.fr (k _ (by decide)) (k _ (by decide)) (k _ (by decide)), d.fr (k 9 (by decide)), T1 _ _ _ (Or.inr rfl) f, g1, g2, by rw [e2]; exact g3, by rw [e2]; exact g4, g5⟩, ⟨by rw [e2]; exact ⟨Nat.le_refl _, Nat.le_refl _, Nat.le_refl _⟩, fun x _ hr _ => e x (by omega), fun _ _ => ⟨Or.inl rfl, Or.inl rfl⟩, by rw [e2]; exact Nat.le_refl _, by rw [e2]; exact Nat.le_refl _⟩⟩
theorem RKx.add {T : NT} {S : SS} {σ : St} {κ : KP} {w : WR} {h : AH} (r : RKx T S σ κ w h) (hn : tN T < 60) {F : Nat → Value} {f3 f4 f5 f6 : Nat → Int32} {f7 : Nat → Int64} (a : h.1 2 = ob 2 (fo 6 F)) (b : F 0 = .ref 3 ∧ F 1 = .ref 4 ∧ F 2 = .ref 5 ∧ F 3 = .ref 6 ∧ F 4 = .ref 7 ∧ F 5 = .int (nI (tN T))) (c7 : h.1 7 = la 60 f7) (q : ∀ i, i < tN T → f3 i = tS T i ∧ f4 i = T.2.2.1 i ∧ f5 i = T.2.2.2.1 i ∧ f6 i = T.2.2.2.2.1 i ∧ (tS T i = 0 → f7 i = tV T i)) {s x y z : Int32} {v : Int64} (hs0 : s ≠ 0) : RKx (addT T s x y z v) S σ κ w (hadd h F (tN T) f3 f4 f5 f6 s x y z) ∧ CG h κ (hadd h F (tN T) f3 f4 f5 f6 s x y z) κ := by
  refine r.nodes rfl (fun i hi => (hs_ne (by omega)).trans ((hs_ne (by omega)).trans ((hs_ne (by omega)).trans ((hs_ne (by omega)).trans (hs_ne (by omega)))))) ?_
  refine ⟨va_up F 5 (.int (nI (tN T + 1))), _, _, _, _, f7, hs_eq, ⟨(up_ne (by decide)).trans b.1, (up_ne (by decide)).trans b.2.1, (up_ne (by decide)).trans b.2.2.1, (up_ne (by decide)).trans b.2.2.2.1, (up_ne (by decide)).trans b.2.2.2.2.1, up_eq⟩, ⟨(hs_ne (by decide)).trans ((hs_ne (by decide)).trans ((hs_ne (by decide)).trans ((hs_ne (by decide)).trans hs_eq))), (hs_ne (by decide)).trans ((hs_ne (by decide)).trans ((hs_ne (by decide)).trans hs_eq)), (hs_ne (by decide)).trans ((hs_ne (by decide)).trans hs_eq), (hs_ne (by decide)).trans hs_eq, (hs_ne (by decide)).trans ((hs_ne (by decide)).trans ((hs_ne (by decide)).trans ((hs_ne (by decide)).trans ((hs_ne (by decide)).trans c7))))⟩, hn, fun i hi => ?_⟩
  have hi : i < tN T + 1 := hi
  by_cases e : i = tN T
  · subst e
    obtain ⟨n1, n2, n3, n4, n5⟩ := add_new T s x y z v
    rw [n1, n2, n3, n4, pk_us, pk_us, pk_us, pk_us]
    exact ⟨rfl, rfl, rfl, rfl, fun h => absurd h hs0⟩
  · obtain ⟨q1, q2, q3, q4, q5⟩ := q i (by omega)
    obtain ⟨t1, t2, t3, t4, t5⟩ := addT_TX T s x y z v i (by omega)
    rw [t1, t2, t3, t4, t5, pk_un e, pk_un e, pk_un e, pk_un e]
    exact ⟨q1, q2, q3, q4, q5⟩
theorem RKx.addN {T : NT} {S : SS} {σ : St} {κ : KP} {w : WR} {h : AH} (r : RKx T S σ κ w h) (hn : tN T < 60) {F : Nat → Value} {f3 f4 f5 f6 : Nat → Int32} {f7 : Nat → Int64} (a : h.1 2 = ob 2 (fo 6 F)) (b : F 0 = .ref 3 ∧ F 1 = .ref 4 ∧ F 2 = .ref 5 ∧ F 3 = .ref 6 ∧ F 4 = .ref 7 ∧ F 5 = .int (nI (tN T))) (c7 : h.1 7 = la 60 f7) (q : ∀ i, i < tN T → f3 i = tS T i ∧ f4 i = T.2.2.1 i ∧ f5 i = T.2.2.2.1 i ∧ f6 i = T.2.2.2.2.1 i ∧ (tS T i = 0 → f7 i = tV T i)) {s x y z : Int32} {v : Int64} : RKx (addT T s x y z v) S σ κ w (hs (hadd h F (tN T) f3 f4 f5 f6 s x y z) 7 (la 60 (vp_updL f7 (tN T) v))) ∧ CG h κ (hs (hadd h F (tN T) f3 f4 f5 f6 s x y z) 7 (la 60 (vp_updL f7 (tN T) v))) κ := by
  refine r.nodes rfl (fun i hi => (hs_ne (by omega)).trans ((hs_ne (by omega)).trans ((hs_ne (by omega)).trans ((hs_ne (by omega)).trans ((hs_ne (by omega)).trans (hs_ne (by omega))))))) ?_
  refine ⟨va_up F 5 (.int (nI (tN T + 1))), _, _, _, _, _, (hs_ne (by decide)).trans hs_eq, ⟨(up_ne (by decide)).trans b.1, (up_ne (by decide)).trans b.2.1, (up_ne (by decide)).trans b.2.2.1, (up_ne (by decide)).trans b.2.2.2.1, (up_ne (by decide)).trans b.2.2.2.2.1, up_eq⟩, ⟨(hs_ne (by decide)).trans ((hs_ne (by decide)).trans ((hs_ne (by decide)).trans ((hs_ne (by decide)).trans ((hs_ne (by decide)).trans hs_eq)))), (hs_ne (by decide)).trans ((hs_ne (by decide)).trans ((hs_ne (by decide)).trans ((hs_ne (by decide)).trans hs_eq))), (hs_ne (by decide)).trans ((hs_ne (by decide)).trans ((hs_ne (by decide)).trans hs_eq)), (hs_ne (by decide)).trans ((hs_ne (by decide)).trans hs_eq), hs_eq⟩, hn, fun i hi => ?_⟩
  have hi : i < tN T + 1 := hi
  by_cases e : i = tN T
  · subst e
    obtain ⟨n1, n2, n3, n4, n5⟩ := add_new T s x y z v
    rw [n1, n2, n3, n4, n5, pk_us, pk_us, pk_us, pk_us, pk_uLs]
    exact ⟨rfl, rfl, rfl, rfl, fun _ => rfl⟩
  · obtain ⟨q1, q2, q3, q4, q5⟩ := q i (by omega)
    obtain ⟨t1, t2, t3, t4, t5⟩ := addT_TX T s x y z v i (by omega)
    rw [t1, t2, t3, t4, t5, pk_un e, pk_un e, pk_un e, pk_un e, pk_uLn e]
    exact ⟨q1, q2, q3, q4, q5⟩
/-- the reference's cells of a node more -/
def madd (h : AH) (F : Nat → Value) (I : AI) (L : AL) (n : Nat) (s a b c : Int32) (v : Int64) : AH := hs (hs (hs (hs (hs (hs (hs h 65 (ob 8 (fo 53 (va_up F 0 (.int 0))))) 66 (ia 60 (upd (I 66) n s))) 67 (la 60 (vp_updL (L 67) n v))) 68 (ia 60 (upd (I 68) n a))) 69 (ia 60 (upd (I 69) n b))) 70 (ia 60 (upd (I 70) n c))) 65 (ob 8 (fo 53 (va_up (va_up F 0 (.int 0)) 1 (.int (nI (n + 1))))))
theorem RZ.f0 {t0 : Int32} {T : NT} {Z : ZS} {μ : KM} {F : Nat → Value} {I : AI} {L : AL} {h : AH} (r : RZ t0 T Z μ F I L h) (k : Int32) : RZ k T Z μ (va_up F 0 (.int k)) I L (hs h 65 (ob 8 (fo 53 (va_up F 0 (.int k))))) := by
  obtain ⟨a, b, c, d⟩ := r
  refine ⟨a.f (j := 0) (by decide) (by decide) (by decide) _, up_eq, ?_, d⟩
  unfold QF at c ⊢
  simp only [up_ne (show (29 : Nat) ≠ 0 by decide), up_ne (show (30 : Nat) ≠ 0 by decide), up_ne (show (31 : Nat) ≠ 0 by decide), up_ne (show (32 : Nat) ≠ 0 by decide), up_ne (show (33 : Nat) ≠ 0 by decide), up_ne (show (34 : Nat) ≠ 0 by decide), up_ne (show (37 : Nat) ≠ 0 by decide), up_ne (show (40 : Nat) ≠ 0 by decide), up_ne (show (41 : Nat) ≠ 0 by decide), up_ne (show (42 : Nat) ≠ 0 by decide), up_ne (show (43 : Nat) ≠ 0 by decide), up_ne (show (44 : Nat) ≠ 0 by decide), up_ne (show (45 : Nat) ≠ 0 by decide), up_ne (show (46 : Nat) ≠ 0 by decide), up_ne (show (47 : Nat) ≠ 0 by decide), up_ne (show (48 : Nat) ≠ 0 by decide), up_ne (show (50 : Nat) ≠ 0 by decide)]
  exact c
theorem RZ.add {t0 : Int32} {T : NT} {Z : ZS} {μ : KM} {F : Nat → Value} {I : AI} {L : AL} {h : AH} (r : RZ t0 T Z μ F I L h) (hn : tN T < 60) {s a b c : Int32} {v : Int64} : ∃ I' L', RZ 0 (addT T s a b c v) Z μ (va_up (va_up F 0 (.int 0)) 1 (.int (nI (tN T + 1)))) I' L' (madd h F I L (tN T) s a b c v) ∧ MG h μ (madd h F I L (tN T) s a b c v) μ := by
  have r0 := r.f0 0
  obtain ⟨⟨mh, fs, rn, fi⟩, b0, c0, d0, d1, d2⟩ := id r0
  have m1 := ((((mh.wi (x := 66) (n := 60) (by decide) (upd (I 66) (tN T) s)).wl (x := 67) (n := 60) (by decide) (vp_updL (L 67) (tN T) v)).wi (x := 68) (n := 60) (by decide) (upd (I 68) (tN T) a)).wi (x := 69) (n := 60) (by decide) (upd (I 69) (tN T) b)).wi (x := 70) (n := 60) (by decide) (upd (I 70) (tN T) c)
  have m2 := m1.wF (va_up (va_up F 0 (.int 0)) 1 (.int (nI (tN T + 1))))
  refine ⟨_, _, ⟨⟨m2, fs.fd (j := 1) (by decide) _, ⟨up_eq, fun i hi => ?_⟩, fun j hj => by obtain ⟨x, hx⟩ := fi j hj; exact ⟨x, (up_ne (by omega)).trans hx⟩⟩, (up_ne (by decide)).trans b0, ?_, ?_, ?_, ?_⟩, ?_⟩
  · have hi : i < tN T + 1 := hi
    have v66 : va_up (va_up (va_up (va_up I 66 (upd (I 66) (tN T) s)) 68 (upd (I 68) (tN T) a)) 69 (upd (I 69) (tN T) b)) 70 (upd (I 70) (tN T) c) 66 = upd (I 66) (tN T) s := by rw [up_ne (by decide), up_ne (by decide), up_ne (by decide), up_eq]
    have v68 : va_up (va_up (va_up (va_up I 66 (upd (I 66) (tN T) s)) 68 (upd (I 68) (tN T) a)) 69 (upd (I 69) (tN T) b)) 70 (upd (I 70) (tN T) c) 68 = upd (I 68) (tN T) a := by rw [up_ne (by decide), up_ne (by decide), up_eq]
    have v69 : va_up (va_up (va_up (va_up I 66 (upd (I 66) (tN T) s)) 68 (upd (I 68) (tN T) a)) 69 (upd (I 69) (tN T) b)) 70 (upd (I 70) (tN T) c) 69 = upd (I 69) (tN T) b := by rw [up_ne (by decide), up_eq]
    have v70 : va_up (va_up (va_up (va_up I 66 (upd (I 66) (tN T) s)) 68 (upd (I 68) (tN T) a)) 69 (upd (I 69) (tN T) b)) 70 (upd (I 70) (tN T) c) 70 = upd (I 70) (tN T) c := up_eq
    have v67 : va_up L 67 (vp_updL (L 67) (tN T) v) 67 = vp_updL (L 67) (tN T) v := up_eq
    rw [v66, v68, v69, v70, v67]
    by_cases e : i = tN T
    · subst e
      obtain ⟨n1, n2, n3, n4, n5⟩ := add_new T s a b c v
      rw [n1, n2, n3, n4, n5, pk_us, pk_us, pk_us, pk_us, pk_uLs]
      exact ⟨rfl, rfl, rfl, rfl, fun _ => rfl⟩
    · obtain ⟨q1, q2, q3, q4, q5⟩ := rn.2 i (by omega)
      obtain ⟨t1, t2, t3, t4, t5⟩ := addT_TX T s a b c v i (by omega)
      rw [t1, t2, t3, t4, t5, pk_un e, pk_un e, pk_un e, pk_un e, pk_uLn e]
      exact ⟨q1, q2, q3, q4, q5⟩
  · unfold QF at c0 ⊢
    simp only [up_ne (show (29 : Nat) ≠ 1 by decide), up_ne (show (30 : Nat) ≠ 1 by decide), up_ne (show (31 : Nat) ≠ 1 by decide), up_ne (show (32 : Nat) ≠ 1 by decide), up_ne (show (33 : Nat) ≠ 1 by decide), up_ne (show (34 : Nat) ≠ 1 by decide), up_ne (show (37 : Nat) ≠ 1 by decide), up_ne (show (40 : Nat) ≠ 1 by decide), up_ne (show (41 : Nat) ≠ 1 by decide), up_ne (show (42 : Nat) ≠ 1 by decide), up_ne (show (43 : Nat) ≠ 1 by decide), up_ne (show (44 : Nat) ≠ 1 by decide), up_ne (show (45 : Nat) ≠ 1 by decide), up_ne (show (46 : Nat) ≠ 1 by decide), up_ne (show (47 : Nat) ≠ 1 by decide), up_ne (show (48 : Nat) ≠ 1 by decide), up_ne (show (50 : Nat) ≠ 1 by decide)]
    exact c0
  · unfold QOp at d0 ⊢
    simp only [up_ne (show (87 : Nat) ≠ 66 by decide), up_ne (show (87 : Nat) ≠ 68 by decide), up_ne (show (87 : Nat) ≠ 69 by decide), up_ne (show (87 : Nat) ≠ 70 by decide), up_ne (show (88 : Nat) ≠ 66 by decide), up_ne (show (88 : Nat) ≠ 68 by decide), up_ne (show (88 : Nat) ≠ 69 by decide), up_ne (show (88 : Nat) ≠ 70 by decide)]
    exact d0
  · unfold QQu at d1 ⊢
    simp only [up_ne (show (89 : Nat) ≠ 66 by decide), up_ne (show (89 : Nat) ≠ 68 by decide), up_ne (show (89 : Nat) ≠ 69 by decide), up_ne (show (89 : Nat) ≠ 70 by decide), up_ne (show (90 : Nat) ≠ 66 by decide), up_ne (show (90 : Nat) ≠ 68 by decide), up_ne (show (90 : Nat) ≠ 69 by decide), up_ne (show (90 : Nat) ≠ 70 by decide)]
    exact d1
  · unfold QVa at d2 ⊢
    simp only [up_ne (show (91 : Nat) ≠ 66 by decide), up_ne (show (91 : Nat) ≠ 68 by decide), up_ne (show (91 : Nat) ≠ 69 by decide), up_ne (show (91 : Nat) ≠ 70 by decide), up_ne (show (92 : Nat) ≠ 66 by decide), up_ne (show (92 : Nat) ≠ 68 by decide), up_ne (show (92 : Nat) ≠ 69 by decide), up_ne (show (92 : Nat) ≠ 70 by decide), up_ne (show (93 : Nat) ≠ 67 by decide)]
    exact d2
  · exact (((((((MG.s (x := 65) (by decide)).tr (MG.s (x := 66) (by decide))).tr (MG.s (x := 67) (by decide))).tr (MG.s (x := 68) (by decide))).tr (MG.s (x := 69) (by decide))).tr (MG.s (x := 70) (by decide))).tr (MG.s (x := 65) (by decide)))
