/-! folds, parts, tests in the reference -/
theorem RMx.px {T : NT} {σ : St} {c : Nat} {μ : KM} {F : Nat → Value} {I : AI} {L : AL} {h : AH} (r : RMx T σ c μ F I L h) : 0 < μ.1 := by
  rcases r.1.2.2.2.2.2.1 with q | q <;> omega
/-- from a token that is none of a number on, the loop ends -/
theorem m_foldBad {T : NT} {σ2 : St} {μ : KM} {F : Nat → Value} {I : AI} {L : AL} {h : AH} {d : Nat} (r : RMx T σ2 0 μ F I L h) {z n f : Int32} {m v : Int64} {k : Int32} : E false mX8_foldUp d 91 [(0, .ref 65), (1, .int z), (2, .int n), (3, .int f), (4, .long m), (6, .int 0), (7, .long v), (9, .int k)] [] h none (hs h 65 (ob 8 (fo 53 (va_up F 26 (.int (nI 1)))))) := by
  by_cases c : m < k.toInt64
  · exact j_X8_foldUp_c_1 (Nat.zero_le _) h z n f m 0 v k 0 0 c rfl F r.1.1
  · exact j_X8_foldUp_c_3 (Nat.zero_le _) h z n f m 0 v k 0 0 c rfl F r.1.1
def stepF (kd : Int32) (v x : Int64) : Int64 := if kd = 1 then v + x else if x < v then x else v
theorem m_foldLoop {T : NT} {σ σ2 : St} {μ : KM} {F : Nat → Value} {I : AI} {L : AL} {h : AH} {d n s M : Nat} (r : RMx T σ2 0 μ F I L h) (hT : wfT T) (hn : n < tN T) (h6 : sLev σ < 6) (hd : 1 ≤ d) (hM : M ≤ 100) : ∀ (rem : List Tok) (m k : Nat) (v : Int64), WFs m rem → k + m = M + 1 → (T.2.2.2.1 n = 1 ∨ 2 ≤ k) → 1 ≤ k → s + k + rem.length ≤ (sHeap σ2).length → (∀ j, j < rem.length → (sHeap σ2).getD (s + k + j) (0, 0) = rem.getD j (0, 0)) →
    (rem.all (fun x => x.1 == 0) = true → E false mX8_foldUp d 91 [(0, .ref 65), (1, .int (nI (60 * sLev σ + n))), (2, .int (nI n)), (3, .int (nI s)), (4, .long (lN M)), (6, .int 1), (7, .long v), (9, .int (nI k))] [] h none (hs (hs h 72 (ia 360 (upd (I 72) (60 * sLev σ + n) 1))) 73 (la 360 (vp_updL (L 73) (60 * sLev σ + n) ((rem.map Prod.snd).foldl (stepF (T.2.2.2.1 n)) v))))) ∧ (rem.all (fun x => x.1 == 0) = false → E false mX8_foldUp d 91 [(0, .ref 65), (1, .int (nI (60 * sLev σ + n))), (2, .int (nI n)), (3, .int (nI s)), (4, .long (lN M)), (6, .int 1), (7, .long v), (9, .int (nI k))] [] h none (hs h 65 (ob 8 (fo 53 (va_up F 26 (.int (nI 1))))))) := by
  obtain ⟨mh, fs, rn, mv, e26, -, -, hlen⟩ := id r
  have hh := mv.2.2.2.1
  have px := r.px
  have h60 := hT.1
  have mcap := mh.2.2.2.2.2.2.2.2.2.2.2
  have cl : (nI n).toNatClampNeg = n := nI_clamp (by omega)
  have vn : vp_in (nI n) 60 := vp_in_nI (by omega) (by decide)
  have vz : vp_in (nI (60 * sLev σ + n)) 360 := vp_in_nI (by omega) (by decide)
  have cz : (nI (60 * sLev σ + n)).toNatClampNeg = 60 * sLev σ + n := nI_clamp (by omega)
  have e5 : I 69 (nI n).toNatClampNeg = T.2.2.2.1 n := by rw [cl, (rn.2 n hn).2.2.1]
  intro rem
  induction rem with
  | nil =>
    intro m k v wf hk _ _ _ _
    have m0 : m = 0 := wf
    refine ⟨fun _ => ?_, (fun q => by cases q)⟩
    have B := j_X8_foldUp_c_2 (d := d) (by omega) h (nI (60 * sLev σ + n)) (nI n) (nI s) (lN M) 1 v (nI k) μ.1 μ.2.1 (by rw [nI_l (by omega)]; exact (lN_lt (by omega) (by omega)).mpr (by omega)) (by decide) F mh.1 (fs.r (by decide)) 360 (I 72) (mh.i (by decide)) vz (fs.r (by decide)) 360 (L 73) (mh.l (by decide)) vz
    rw [cz] at B
    exact B
  | cons y rem ih =>
    intro m k v wf hk hkd hk1 hlen2 hy
    obtain ⟨m0, wf⟩ := wf
    simp only [List.length_cons] at hlen2 hy
    have y0 := hy 0 (by omega)
    rw [Nat.add_zero, List.getD_cons_zero] at y0
    obtain ⟨u1, u2⟩ := hh (s + k) (by omega)
    rw [y0] at u1 u2
    have es : nI s + nI k = nI (s + k) := nI_add s k
    have cs : (nI (s + k)).toNatClampNeg = s + k := nI_clamp (by omega)
    have vs : vp_in (nI (s + k)) μ.2.2 := vp_in_nI (by omega) (by omega)
    have cc : ¬ lN M < (nI k).toInt64 := by
      rw [nI_l (by omega)]
      intro q
      have := (lN_lt (by omega) (by omega)).mp q
      omega
    by_cases z : y.1 = 0
    · have zb : (y.1 == 0) = true := by rw [z]; rfl
      have wf' : WFs (m - 1) rem := by
        rcases wf with ⟨_, w⟩ | ⟨w, _⟩
        · exact w
        · exact absurd z w
      have S : J false mX8_foldUp d 91 [(0, .ref 65), (1, .int (nI (60 * sLev σ + n))), (2, .int (nI n)), (3, .int (nI s)), (4, .long (lN M)), (6, .int 1), (7, .long v), (9, .int (nI k))] [] h 91 [(0, .ref 65), (1, .int (nI (60 * sLev σ + n))), (2, .int (nI n)), (3, .int (nI s)), (4, .long (lN M)), (6, .int 1), (7, .long (stepF (T.2.2.2.1 n) v y.2)), (9, .int (nI (k + 1)))] [] h := by
        unfold stepF
        by_cases q1 : T.2.2.2.1 n = 1
        · rw [if_pos q1]
          have B := j_X8_foldUp_c_11 (d := d) (by omega) h (nI (60 * sLev σ + n)) (nI n) (nI s) (lN M) 1 v (nI k) μ.1 μ.2.1 cc (by decide) F mh.1 fs.2.1 (nI (s + k)) es μ.2.2 (I 76) mh.2.2.2.1 (by assumption) px (by rw [cs, u1, z]) (fs.r (by decide)) 60 (I 69) (mh.i (by decide)) (by assumption) (by rw [e5]; exact q1) fs.2.2 (nI (s + k)) es μ.2.2 (L 77) mh.2.2.2.2.1 (by assumption)
          rw [cs, u2, nI_1] at B
          exact B
        · rw [if_neg q1]
          have k2 : 2 ≤ k := by rcases hkd with q | q; exact absurd q q1; exact q
          have nk : ¬ nI k = 1 := fun q => by have := (nI_eq (b := 1) (by omega) (by decide)).mp q; omega
          by_cases q2 : v ≤ y.2
          · rw [if_neg (Int64.not_lt.mpr q2)]
            have B := j_X8_foldUp_c_9 (d := d) (by omega) h (nI (60 * sLev σ + n)) (nI n) (nI s) (lN M) 1 v (nI k) μ.1 μ.2.1 cc (by decide) F mh.1 fs.2.1 (nI (s + k)) es μ.2.2 (I 76) mh.2.2.2.1 (by assumption) px (by rw [cs, u1, z]) (fs.r (by decide)) 60 (I 69) (mh.i (by decide)) (by assumption) (by rw [e5]; exact q1) nk fs.2.2 (nI (s + k)) es μ.2.2 (L 77) mh.2.2.2.2.1 (by assumption) (by rw [cs, u2]; exact q2)
            rw [nI_1] at B
            exact B
          · rw [if_pos (Int64.not_le.mp q2)]
            have B := j_X8_foldUp_c_10 (d := d) (by omega) h (nI (60 * sLev σ + n)) (nI n) (nI s) (lN M) 1 v (nI k) μ.1 μ.2.1 cc (by decide) F mh.1 fs.2.1 (nI (s + k)) es μ.2.2 (I 76) mh.2.2.2.1 (by assumption) px (by rw [cs, u1, z]) (fs.r (by decide)) 60 (I 69) (mh.i (by decide)) (by assumption) (by rw [e5]; exact q1) nk fs.2.2 (nI (s + k)) es μ.2.2 (L 77) mh.2.2.2.2.1 (by assumption) (by rw [cs, u2]; exact q2) (nI (s + k)) es (by assumption)
            rw [cs, u2, nI_1] at B
            exact B
      obtain ⟨i1, i2⟩ := ih (m - 1) (k + 1) (stepF (T.2.2.2.1 n) v y.2) wf' (by omega) (by omega) (by omega) (by omega) (fun j hj => by
        have := hy (j + 1) (by omega)
        rw [List.getD_cons_succ] at this
        rw [← this]
        congr 1
        omega)
      refine ⟨fun q => E.st S (i1 ?_), fun q => E.st S (i2 ?_)⟩
      · simpa [List.all_cons, zb] using q
      · simpa [List.all_cons, zb] using q
    · have zb : (y.1 == 0) = false := by simpa using z
      refine ⟨fun q => ?_, fun _ => ?_⟩
      · rw [List.all_cons, zb] at q; cases q
      · by_cases q1 : T.2.2.2.1 n = 1
        · exact E.st (j_X8_foldUp_c_7 (d := d) (by omega) h (nI (60 * sLev σ + n)) (nI n) (nI s) (lN M) 1 v (nI k) μ.1 μ.2.1 cc (by decide) F mh.1 fs.2.1 (nI (s + k)) es μ.2.2 (I 76) mh.2.2.2.1 (by assumption) px (by rw [cs, u1]; exact z) (fs.r (by decide)) 60 (I 69) (mh.i (by decide)) (by assumption) (by rw [e5]; exact q1) fs.2.2 (nI (s + k)) es μ.2.2 (L 77) mh.2.2.2.2.1 (by assumption)) (m_foldBad r)
        · have k2 : 2 ≤ k := by rcases hkd with q | q; exact absurd q q1; exact q
          have nk : ¬ nI k = 1 := fun q => by have := (nI_eq (b := 1) (by omega) (by decide)).mp q; omega
          by_cases q2 : v ≤ y.2
          · exact E.st (j_X8_foldUp_c_5 (d := d) (by omega) h (nI (60 * sLev σ + n)) (nI n) (nI s) (lN M) 1 v (nI k) μ.1 μ.2.1 cc (by decide) F mh.1 fs.2.1 (nI (s + k)) es μ.2.2 (I 76) mh.2.2.2.1 (by assumption) px (by rw [cs, u1]; exact z) (fs.r (by decide)) 60 (I 69) (mh.i (by decide)) (by assumption) (by rw [e5]; exact q1) nk fs.2.2 (nI (s + k)) es μ.2.2 (L 77) mh.2.2.2.2.1 (by assumption) (by rw [cs, u2]; exact q2)) (m_foldBad r)
          · exact E.st (j_X8_foldUp_c_6 (d := d) (by omega) h (nI (60 * sLev σ + n)) (nI n) (nI s) (lN M) 1 v (nI k) μ.1 μ.2.1 cc (by decide) F mh.1 fs.2.1 (nI (s + k)) es μ.2.2 (I 76) mh.2.2.2.1 (by assumption) px (by rw [cs, u1]; exact z) (fs.r (by decide)) 60 (I 69) (mh.i (by decide)) (by assumption) (by rw [e5]; exact q1) nk fs.2.2 (nI (s + k)) es μ.2.2 (L 77) mh.2.2.2.2.1 (by assumption) (by rw [cs, u2]; exact q2) (nI (s + k)) es (by assumption)) (m_foldBad r)
theorem stepF_sum (l : List Int64) (v : Int64) : l.foldl (stepF 1) v = l.foldl (fun a b => a + b) v := by
  have : stepF 1 = fun a b => a + b := by funext a b; rfl
  rw [this]
theorem stepF_min {kd : Int32} (h : ¬ kd = 1) (l : List Int64) (v : Int64) : l.foldl (stepF kd) v = l.foldl (fun a b => if b < a then b else a) v := by
  have : stepF kd = fun a b => if b < a then b else a := by
    funext a b
    unfold stepF
    rw [if_neg h]
  rw [this]
theorem m_foldUp {T : NT} {rec : Nat → St → Rs} {f n : Nat} {σ σ1 : St} {μ : KM} {F : Nat → Value} {I : AI} {L : AL} {h : AH} {d : Nat} (HN : CNd T rec f) (R : RH T rec f) (hT : wfT T) (hnf : n ≤ f) (m : Mid T n σ σ1) (hp : Pre T n σ) (hv : sVal σ (sLev σ) n = none) (r : RMx T σ1 0 μ F I L h) (hA : okA T n) (hB : ∃ j, j ≤ 2 ∧ T.2.2.2.1 n = nI j) (hd : 10 * n + 2 ≤ d) : ∃ μ' F' I' L' h', CM mX8_foldUp d [.ref 65, .int (nI (60 * sLev σ + n)), .int (nI n)] h none h' ∧ MF h μ F I L h' μ' F' I' L' ∧ RMr T (nAs rec listO (tA T n) σ1 (fun q σ2 => ansP σ2 n (foldT (T.2.2.2.1 n) (hsl (sHeap σ2) q.1 q.2)))) μ' F' I' L' h' := by
  have ha := hA.2
  have hn := hp.2.1
  have h60 := hT.1
  have cl : (nI n).toNatClampNeg = n := nI_clamp (by omega)
  have vn : vp_in (nI n) 60 := vp_in_nI (by omega) (by decide)
  have P := R (tA T n) (by omega) σ1 (m.pre hp hv ha)
  obtain ⟨μ1, F1, I1, L1, h1, c1, f1, x1, x2, x3⟩ := m_needAs (d := d - 1) HN R hT (x := tA T n) (by omega) (m.pre hp hv ha) r (by omega) 3
  have A0 : J false mX8_foldUp d 0 [(0, .ref 65), (1, .int (nI (60 * sLev σ + n))), (2, .int (nI n))] [] h 8 [(0, .ref 65), (1, .int (nI (60 * sLev σ + n))), (2, .int (nI n))] [.int 3, .int (nI (tA T n)), .ref 65] h := by
    obtain ⟨mh, fs, rn, -⟩ := id r
    have e4 : I 68 (nI n).toNatClampNeg = nI (tA T n) := by rw [cl, (rn.2 n hn).2.1]; exact hA.1
    have B := j_X8_foldUp_a_1 (d := d) (by omega) h (nI (60 * sLev σ + n)) (nI n) μ.1 μ.2.1 F mh.1 (fs.r (by decide)) 60 (I 68) (mh.i (by decide)) (by assumption)
    rw [e4] at B
    exact B
  have go : ∀ {h' : AH}, E false mX8_foldUp d 11 [(0, .ref 65), (1, .int (nI (60 * sLev σ + n))), (2, .int (nI n))] [] h1 none h' → CM mX8_foldUp d [.ref 65, .int (nI (60 * sLev σ + n)), .int (nI n)] h none h' := fun z => E.st A0 (E.st (s_invv dX8_foldUp_8 rfl lX8_150 (by omega) rfl (Nat.le_of_ble_eq_true rfl) rfl (Nat.le_of_ble_eq_true rfl) r.1.1 c1 (fun h => nomatch h)) z)
  by_cases z : (rec (tA T n) σ1).1 = 0
  · by_cases y : kO (gv (rec (tA T n) σ1).2 (tA T n)) = 3
    · obtain ⟨q, ga⟩ := kO_list y
      rw [nAs_0 z (a := q) (by rw [ga]; rfl)]
      have m2 := m.post ha P z
      have r2 := x2 z y
      have l1 : sLev (rec (tA T n) σ1).2 = sLev σ := m2.1.1
      generalize (rec (tA T n) σ1).2 = σ2 at m2 r2 ga l1
      obtain ⟨-, a2⟩ := gv_ok m2.2.1 ga
      obtain ⟨qs, ql⟩ := q
      have a2 : qs + ql ≤ (sHeap σ2).length ∧ LW (hsl (sHeap σ2) qs ql) := a2
      show ∃ μ' F' I' L' h', CM mX8_foldUp d [.ref 65, .int (nI (60 * sLev σ + n)), .int (nI n)] h none h' ∧ MF h μ F I L h' μ' F' I' L' ∧ RMr T (ansP σ2 n (foldT (T.2.2.2.1 n) (hsl (sHeap σ2) qs ql))) μ' F' I' L' h'
      obtain ⟨as, mm, cc, el, wf, ll⟩ := a2
      have len : (hsl (sHeap σ2) qs ql).length = ql := by unfold hsl; rw [List.length_take, List.length_drop]; omega
      have qll : ql = cc.length + 1 := by rw [← len, el]; rfl
      have mml := WFs_len wf
      have gd : ∀ j, j < ql → (sHeap σ2).getD (qs + j) (0, 0) = ((2, lN mm) :: cc).getD j (0, 0) := fun j hj => by rw [← hsl_getD hj, el]
      obtain ⟨qa, ca, ha1, ha2, ha3, ha4⟩ := r2.cell m2.2.1 hT (n := tA T n) (by omega)
      rw [ga] at ha4
      obtain ⟨mh, fs, rn, mv, e26, -, -, hlen⟩ := id r2
      have px := r2.px
      have mcap := mh.2.2.2.2.2.2.2.2.2.2.2
      have v8 := mv.2.2.2.2.2.2.2
      have e4 : I1 68 (nI n).toNatClampNeg = nI (tA T n) := by rw [cl, (rn.2 n hn).2.1]; exact hA.1
      have e5 : I1 69 (nI n).toNatClampNeg = T.2.2.2.1 n := by rw [cl, (rn.2 n hn).2.2.1]
      have ca' : CM mX8_cellOf 3 [.ref 65, .int (I1 68 (nI n).toNatClampNeg)] h1 (some (.int (nI qa))) h1 := by rw [e4]; exact ca
      have na : (L1 73 (nI qa).toNatClampNeg).toInt32 = nI qs := by rw [ha2, ha4.2]; exact lN_i qs
      have vq : vp_in (nI qs) μ1.2.2 := vp_in_nI (by omega) (by omega)
      have cq : (nI qs).toNatClampNeg = qs := nI_clamp (by omega)
      have hq := (mv.2.2.2.1 qs (by omega)).2
      have g0 := gd 0 (by omega)
      rw [Nat.add_zero] at g0
      rw [g0] at hq
      have hq : L1 77 qs = lN mm := hq
      have vz : vp_in (nI (60 * sLev σ + n)) 360 := vp_in_nI (by omega) (by decide)
      have cz : (nI (60 * sLev σ + n)).toNatClampNeg = 60 * sLev σ + n := nI_clamp (by omega)
      have okN : ∀ {v : Int64}, foldT (T.2.2.2.1 n) (hsl (sHeap σ2) qs ql) = some v → CM mX8_foldUp d [.ref 65, .int (nI (60 * sLev σ + n)), .int (nI n)] h none (hs (hs h1 72 (ia 360 (upd (I1 72) (60 * sLev σ + n) 1))) 73 (la 360 (vp_updL (L1 73) (60 * sLev σ + n) v))) → ∃ μ' F' I' L' h', CM mX8_foldUp d [.ref 65, .int (nI (60 * sLev σ + n)), .int (nI n)] h none h' ∧ MF h μ F I L h' μ' F' I' L' ∧ RMr T (ansP σ2 n (foldT (T.2.2.2.1 n) (hsl (sHeap σ2) qs ql))) μ' F' I' L' h' := by
        intro v ev X
        rw [ev]
        obtain ⟨r4, f4⟩ := r2.tell (n := n) (by omega) v
        rw [l1] at r4 f4
        exact ⟨μ1, F1, _, _, _, X, f1.tr f4, r4.r⟩
      have okF : foldT (T.2.2.2.1 n) (hsl (sHeap σ2) qs ql) = none → CM mX8_foldUp d [.ref 65, .int (nI (60 * sLev σ + n)), .int (nI n)] h none (hs h1 65 (ob 8 (fo 53 (va_up F1 26 (.int (nI 1)))))) → ∃ μ' F' I' L' h', CM mX8_foldUp d [.ref 65, .int (nI (60 * sLev σ + n)), .int (nI n)] h none h' ∧ MF h μ F I L h' μ' F' I' L' ∧ RMr T (ansP σ2 n (foldT (T.2.2.2.1 n) (hsl (sHeap σ2) qs ql))) μ' F' I' L' h' := by
        intro ev X
        rw [ev]
        obtain ⟨r4, f4⟩ := r2.stop 1 (by decide)
        exact ⟨μ1, _, I1, L1, _, X, f1.tr f4, r4.r⟩
      by_cases y0 : T.2.2.2.1 n = 0
      · have B := j_X8_foldUp_b_4 (d := d) (by omega) h1 (nI (60 * sLev σ + n)) (nI n) μ1.1 μ1.2.1 F1 mh.1 _ e26 rfl (fs.r (by decide)) (fs.r (by decide)) 60 (I1 68) (mh.i (by decide)) (by assumption) (nI qa) ca' 360 (L1 73) (mh.l (by decide)) ha3 (nI qs) na fs.2.2 μ1.2.2 (L1 77) mh.2.2.2.2.1 vq (fs.r (by decide)) 60 (I1 69) (mh.i (by decide)) (by assumption) (by rw [e5]; exact y0) (fs.r (by decide)) 360 (I1 72) (mh.i (by decide)) vz vz
        rw [cq, cz, hq] at B
        exact okN (v := lN mm) (by rw [el, y0]; rfl) (go B)
      · have ft : foldT (T.2.2.2.1 n) (hsl (sHeap σ2) qs ql) = if cc.all (fun x => x.1 == 0) then (if T.2.2.2.1 n = 1 then some (sumL (cc.map Prod.snd)) else minL (cc.map Prod.snd)) else none := by
          rw [el]
          exact if_neg y0
        have gd1 : ∀ j, j < cc.length → (sHeap σ2).getD (qs + 1 + j) (0, 0) = cc.getD j (0, 0) := fun j hj => by
          have := gd (j + 1) (by omega)
          rw [List.getD_cons_succ] at this
          rw [← this]
          congr 1
          omega
        by_cases y1 : T.2.2.2.1 n = 1
        · have B := j_X8_foldUp_b_1 (d := d) (by omega) h1 (nI (60 * sLev σ + n)) (nI n) μ1.1 μ1.2.1 F1 mh.1 _ e26 rfl (fs.r (by decide)) (fs.r (by decide)) 60 (I1 68) (mh.i (by decide)) (by assumption) (nI qa) ca' 360 (L1 73) (mh.l (by decide)) ha3 (nI qs) na fs.2.2 μ1.2.2 (L1 77) mh.2.2.2.2.1 vq (fs.r (by decide)) 60 (I1 69) (mh.i (by decide)) (by assumption) (by rw [e5]; exact y0) (by rw [e5]; exact y1)
          rw [cq, hq] at B
          obtain ⟨L2, L3⟩ := m_foldLoop (σ := σ) (d := d) (n := n) (s := qs) (M := mm) r2 hT hn (by omega) (by omega) (by omega) cc mm 1 0 wf (by omega) (Or.inl y1) (Nat.le_refl _) (by omega) gd1
          by_cases all : cc.all (fun x => x.1 == 0) = true
          · rw [if_pos all, if_pos y1] at ft
            have L2 := L2 all
            rw [y1, stepF_sum] at L2
            exact okN ft (go (E.st B L2))
          · rw [if_neg all] at ft
            exact okF ft (go (E.st B (L3 (by simpa using all))))
        · match cc, ft, wf, mml, qll, gd1 with
          | [], ft, wf, mml, qll, gd1 =>
            have mm0 : mm = 0 := wf
            subst mm0
            have B := j_X8_foldUp_b_2 (d := d) (by omega) h1 (nI (60 * sLev σ + n)) (nI n) μ1.1 μ1.2.1 F1 mh.1 _ e26 rfl (fs.r (by decide)) (fs.r (by decide)) 60 (I1 68) (mh.i (by decide)) (by assumption) (nI qa) ca' 360 (L1 73) (mh.l (by decide)) ha3 (nI qs) na fs.2.2 μ1.2.2 (L1 77) mh.2.2.2.2.1 vq (fs.r (by decide)) 60 (I1 69) (mh.i (by decide)) (by assumption) (by rw [e5]; exact y0) (by rw [e5]; exact y1) (by rw [cq, hq]; decide)
            rw [cq, hq] at B
            exact okF (by rw [ft]; simp [y1, minL]) (go (E.st B (m_foldBad r2)))
          | c0 :: cr, ft, wf, mml, qll, gd1 =>
            have mp : 0 < mm := wf.1
            have B := j_X8_foldUp_b_3 (d := d) (by omega) h1 (nI (60 * sLev σ + n)) (nI n) μ1.1 μ1.2.1 F1 mh.1 _ e26 rfl (fs.r (by decide)) (fs.r (by decide)) 60 (I1 68) (mh.i (by decide)) (by assumption) (nI qa) ca' 360 (L1 73) (mh.l (by decide)) ha3 (nI qs) na fs.2.2 μ1.2.2 (L1 77) mh.2.2.2.2.1 vq (fs.r (by decide)) 60 (I1 69) (mh.i (by decide)) (by assumption) (by rw [e5]; exact y0) (by rw [e5]; exact y1) (by rw [cq, hq]; intro q; have := (lN_le (a := mm) (b := 0) (by omega) (by omega)).mp q; omega)
            rw [cq, hq] at B
            have y00 := gd1 0 (by simp)
            rw [Nat.add_zero, List.getD_cons_zero] at y00
            simp only [List.length_cons] at qll mml ll
            obtain ⟨u1, u2⟩ := mv.2.2.2.1 (qs + 1) (by omega)
            rw [y00] at u1 u2
            have es : nI qs + 1 = nI (qs + 1) := nI_1 qs
            have cs : (nI (qs + 1)).toNatClampNeg = qs + 1 := nI_clamp (by omega)
            have vs : vp_in (nI (qs + 1)) μ1.2.2 := vp_in_nI (by omega) (by omega)
            have cM : ¬ lN mm < (1 : Int32).toInt64 := by
              intro q
              have := (lN_lt (a := mm) (b := 1) (by omega) (by omega)).mp q
              omega
            by_cases zc : c0.1 = 0
            · have zb : (c0.1 == 0) = true := by rw [zc]; rfl
              have wf' : WFs (mm - 1) cr := by
                rcases wf.2 with ⟨_, w⟩ | ⟨w, _⟩
                · exact w
                · exact absurd zc w
              have S := j_X8_foldUp_c_8 (d := d) (by omega) h1 (nI (60 * sLev σ + n)) (nI n) (nI qs) (lN mm) 1 0 1 μ1.1 μ1.2.1 cM (by decide) F1 mh.1 fs.2.1 (nI (qs + 1)) es μ1.2.2 (I1 76) mh.2.2.2.1 (by assumption) px (by rw [cs, u1, zc]) (fs.r (by decide)) 60 (I1 69) (mh.i (by decide)) (by assumption) (by rw [e5]; exact y1) rfl fs.2.2 (nI (qs + 1)) es μ1.2.2 (L1 77) mh.2.2.2.2.1 (by assumption)
              rw [cs, u2] at S
              obtain ⟨L2, L3⟩ := m_foldLoop (σ := σ) (d := d) (n := n) (s := qs) (M := mm) r2 hT hn (by omega) (by omega) (by omega) cr (mm - 1) 2 c0.2 wf' (by omega) (Or.inr (Nat.le_refl _)) (by omega) (by omega) (fun j hj => by
                have := gd1 (j + 1) (by simp only [List.length_cons]; omega)
                rw [List.getD_cons_succ] at this
                rw [← this]
                congr 1
                omega)
              have ea : (c0 :: cr).all (fun x => x.1 == 0) = cr.all (fun x => x.1 == 0) := by rw [List.all_cons, zb, Bool.true_and]
              rw [ea] at ft
              by_cases all : cr.all (fun x => x.1 == 0) = true
              · rw [if_pos all, if_neg y1] at ft
                have L2 := L2 all
                rw [stepF_min y1] at L2
                exact okN ft (go (E.st B (E.st S L2)))
              · rw [if_neg all] at ft
                exact okF ft (go (E.st B (E.st S (L3 (by simpa using all)))))
            · have zb : (c0.1 == 0) = false := by simpa using zc
              have ea : ¬ (c0 :: cr).all (fun x => x.1 == 0) = true := by rw [List.all_cons, zb, Bool.false_and]; decide
              rw [if_neg ea] at ft
              have S := j_X8_foldUp_c_4 (d := d) (by omega) h1 (nI (60 * sLev σ + n)) (nI n) (nI qs) (lN mm) 1 0 1 μ1.1 μ1.2.1 cM (by decide) F1 mh.1 fs.2.1 (nI (qs + 1)) es μ1.2.2 (I1 76) mh.2.2.2.1 (by assumption) px (by rw [cs, u1]; exact zc) (fs.r (by decide)) 60 (I1 69) (mh.i (by decide)) (by assumption) (by rw [e5]; exact y1) rfl fs.2.2 (nI (qs + 1)) es μ1.2.2 (L1 77) mh.2.2.2.2.1 (by assumption)
              exact okF ft (go (E.st B (E.st S (m_foldBad r2))))
    · rw [nAs_f z (kO_listN y)]
      have r2 := x3 z y
      exact ⟨μ1, F1, I1, L1, h1, go (j_X8_foldUp_b_5 (Nat.zero_le _) h1 _ _ 0 0 F1 r2.1.1 _ r2.2.2.2.2.1 (by decide)), f1, r2.r⟩
  · rw [nAs_b z]
    have r2 := x1 z
    obtain ⟨mh, -⟩ := r2.w
    exact ⟨μ1, F1, I1, L1, h1, go (j_X8_foldUp_b_5 (Nat.zero_le _) h1 _ _ 0 0 F1 mh.1 _ r2.1 (fun q => z ((nI_eq (by have := P.1; omega) (by decide)).mp q))), f1, r2⟩
