/-! lists laid down, in the reference -/
theorem MV.heap {T : NT} {σ : St} {F F' : Nat → Value} {I I' : AI} {L L' : AL} {hp : List Tok} (m : MV T σ F I L) (hF : F' 7 = F 7 ∧ F' 25 = F 25 ∧ F' 15 = .int (nI hp.length)) (hi : ∀ y, y ≠ 76 → I' y = I y) (hl : ∀ y, y ≠ 77 → L' y = L y) (hh : MHp hp I' L') : MV T (wHeap σ hp) F' I' L' := by
  obtain ⟨⟨x1, x2, x3⟩, v2, v3, v4, v5, v6, v7, v8⟩ := m
  exact ⟨⟨hF.1.trans x1, hF.2.2, hF.2.1.trans x3⟩, fun k hk => by rw [hi 71 (by decide)]; exact v2 k hk, fun k hk i hi' => (v3 k hk i hi').agree (by rw [hi 72 (by decide)]) (by rw [hl 73 (by decide)]) (by rw [hi 74 (by decide)]) (by rw [hi 75 (by decide)]), hh, fun k hk => (v5 k hk).agree (by rw [hi 79 (by decide)]) (by rw [hi 80 (by decide)]) (fun j _ => by rw [hi 78 (by decide)]), fun k hk => (v6 k hk).agree (by rw [hi 83 (by decide)]) (fun j _ => by rw [hi 81 (by decide)]) (fun j _ => by rw [hl 82 (by decide)]), fun k h0 hk => (v7 k h0 hk).agree (by rw [hi 86 (by decide)]) (fun j _ => by rw [hi 84 (by decide)]) (fun j _ => by rw [hl 85 (by decide)]), v8⟩
theorem MHp.snoc {hp : List Tok} {k : Int32} {v : Int64} {f : Nat → Int32} {g : Nat → Int64} (h : ∀ j, j < hp.length → f j = (hp.getD j (0, 0)).1 ∧ g j = (hp.getD j (0, 0)).2) : ∀ j, j < (hp ++ [(k, v)]).length → upd f hp.length k j = ((hp ++ [(k, v)]).getD j (0, 0)).1 ∧ vp_updL g hp.length v j = ((hp ++ [(k, v)]).getD j (0, 0)).2 := by
  intro j hj
  rw [List.length_append] at hj
  have hj : j < hp.length + 1 := hj
  by_cases q : j = hp.length
  · rw [q, pk_us, pk_uLs, getD_app_hi (Nat.le_refl _), Nat.sub_self]
    exact ⟨rfl, rfl⟩
  · rw [pk_un q, pk_uLn q, getD_app_lo (by omega)]
    exact h j (by omega)
theorem m_lay {T : NT} {σ : St} {μ : KM} {F : Nat → Value} {I : AI} {L : AL} {h : AH} {d : Nat} (r : RMx T σ 0 μ F I L h) (hl : (sHeap σ).length < 36000) (k : Int32) (v : Int64) : ∃ μ' F' I' L' h', CM mX8_lay d [.ref 65, .int k, .long v] h none h' ∧ MF h μ F I L h' μ' F' I' L' ∧ RMx T (wHeap σ (sHeap σ ++ [(k, v)])) 0 μ' F' I' L' h' ∧ (∀ y, y ≠ 76 → I' y = I y) ∧ (∀ y, y ≠ 77 → L' y = L y) := by
  obtain ⟨mh, fs, rn, mv, e26, ⟨⟨x27, e27⟩, x28, e28⟩, -, hlen⟩ := id r
  have px := r.px
  have e15 := mv.1.2.1
  have hh := mv.2.2.2.1
  obtain ⟨m1, m2, m3, m4, m5, m6, m7, m8, m9, m10, m11, m12⟩ := id mh
  have ch : (nI (sHeap σ).length).toNatClampNeg = (sHeap σ).length := nI_clamp (by omega)
  by_cases c : (sHeap σ).length = μ.2.2
  · -- wider ones are made
    have ew : 2 * nI (sHeap σ).length = nI (2 * (sHeap σ).length) := by rw [show (2 : Int32) = nI 2 from rfl, pk_mul]
    have cw : (nI (2 * (sHeap σ).length)).toNatClampNeg = 2 * (sHeap σ).length := nI_clamp (by omega)
    have B := j_X8_lay_a_2 (d := d) (by omega) h k v μ.1 μ.2.1 F mh.1 _ e15 fs.2.2 μ.2.2 (L 77) mh.2.2.2.2.1 (by rw [c]) _ ew (nI_pos (by omega)) (by rw [cw]; omega) (by omega) _ ew (nI_pos (by omega)) (by rw [cw]; omega)
    rw [cw] at B
    generalize hN : 2 * (sHeap σ).length = N at B
    generalize hh1 : hw (hw h (ia N (fun _ => 0)) N) (la N (fun _ => 0)) N = h1 at B
    have g1 : ∀ x, x ≤ h.2.1 → h1.1 x = h.1 x := fun x hx => by
      rw [← hh1]
      exact (hw_ne (by show x ≤ h.2.1 + 1; omega)).trans (hw_ne hx)
    have g2 : h1.1 (h.2.1 + 1) = ia N (fun _ => 0) := by
      rw [← hh1]
      exact (hw_ne (h := hw h (ia N (fun _ => 0)) N) (by show h.2.1 + 1 ≤ h.2.1 + 1; omega)).trans hw_eq
    have g3 : h1.1 (h.2.1 + 2) = la N (fun _ => 0) := by
      rw [← hh1]
      exact hw_eq (h := hw h (ia N (fun _ => 0)) N)
    have g4 : h1.2 = (h.2.1 + 2, (h.2.2.1 + 2, h.2.2.2 + N + N)) := by rw [← hh1]; rfl
    have loop : ∀ (m i : Nat) (hi : AH) (fp : Nat → Int32) (fq : Nat → Int64), i + m = (sHeap σ).length → hi.2 = h1.2 → (∀ x, x ≠ h.2.1 + 1 → x ≠ h.2.1 + 2 → hi.1 x = h1.1 x) → hi.1 (h.2.1 + 1) = ia N fp → hi.1 (h.2.1 + 2) = la N fq → (∀ j, j < i → fp j = I 76 j ∧ fq j = L 77 j) →
        ∃ (hz : AH) (fp' : Nat → Int32) (fq' : Nat → Int64), E false mX8_lay d 35 [(0, .ref 65), (1, .int k), (2, .long v), (4, .ref (h.2.1 + 1)), (5, .ref (h.2.1 + 2)), (6, .int (nI i))] [] hi none (hs (hs (hs hz (h.2.1 + 1) (ia N (upd fp' (sHeap σ).length k))) (h.2.1 + 2) (la N (vp_updL fq' (sHeap σ).length v))) 65 (ob 8 (fo 53 (va_up (va_up (va_up F 13 (.ref (h.2.1 + 1))) 14 (.ref (h.2.1 + 2))) 15 (.int (nI ((sHeap σ).length + 1))))))) ∧ hz.2 = h1.2 ∧ (∀ x, x ≠ 65 → x ≠ h.2.1 + 1 → x ≠ h.2.1 + 2 → hz.1 x = h1.1 x) ∧ ∀ j, j < (sHeap σ).length → fp' j = I 76 j ∧ fq' j = L 77 j := by
      intro m
      induction m with
      | zero =>
        intro i hi fp fq him q1 q2 q3 q4 q5
        have ei : i = (sHeap σ).length := by omega
        subst ei
        have o65 : hi.1 65 = ob 8 (fo 53 F) := (q2 65 (by omega) (by omega)).trans ((g1 65 (by omega)).trans m1)
        have vN : vp_in (nI (sHeap σ).length) N := vp_in_nI (by omega) (by omega)
        have Z := j_X8_lay_b_1 (d := d) (Nat.zero_le _) hi k v (h.2.1 + 1) (h.2.1 + 2) (nI (sHeap σ).length) 0 0 F o65 _ e15 (nI_le (Nat.le_refl _) (by omega)) N fp q3 vN (by omega) N fq q4 vN
        rw [hs_hs, ch, nI_1] at Z
        refine ⟨hs hi 65 (ob 8 (fo 53 (va_up (va_up F 13 (.ref (h.2.1 + 1))) 14 (.ref (h.2.1 + 2))))), fp, fq, Z, q1, fun x n1 n2 n3 => (hs_ne n1).trans (q2 x n2 n3), q5⟩
      | succ m ih =>
        intro i hi fp fq him q1 q2 q3 q4 q5
        have o65 : hi.1 65 = ob 8 (fo 53 F) := (q2 65 (by omega) (by omega)).trans ((g1 65 (by omega)).trans m1)
        have ox : hi.1 μ.1 = ia μ.2.2 (I 76) := (q2 μ.1 (by omega) (by omega)).trans ((g1 μ.1 m8).trans m4)
        have oy : hi.1 μ.2.1 = la μ.2.2 (L 77) := (q2 μ.2.1 (by omega) (by omega)).trans ((g1 μ.2.1 m9).trans m5)
        have ci : (nI i).toNatClampNeg = i := nI_clamp (by omega)
        have v1 : vp_in (nI i) μ.2.2 := vp_in_nI (by omega) (by omega)
        have v2 : vp_in (nI i) N := vp_in_nI (by omega) (by omega)
        have Z := j_X8_lay_b_2 (d := d) (Nat.zero_le _) hi k v (h.2.1 + 1) (h.2.1 + 2) (nI i) μ.1 μ.2.1 F o65 _ e15 (nI_ge (by omega) (by omega)) fs.2.1 μ.2.2 (I 76) ox v1 px N fp q3 v2 (by omega) fs.2.2 μ.2.2 (L 77) oy v1 N fq q4 v2
        rw [ci, nI_1] at Z
        obtain ⟨hz, fp', fq', w1, w2⟩ := ih (i + 1) (hs (hs hi (h.2.1 + 1) (ia N (upd fp i (I 76 i)))) (h.2.1 + 2) (la N (vp_updL fq i (L 77 i)))) (upd fp i (I 76 i)) (vp_updL fq i (L 77 i)) (by omega) q1 (fun x n1 n2 => (hs_ne n2).trans ((hs_ne n1).trans (q2 x n1 n2))) ((hs_ne (by omega)).trans hs_eq) hs_eq (fun j hj => by
          by_cases e : j = i
          · rw [e, pk_us, pk_uLs]; exact ⟨rfl, rfl⟩
          · rw [pk_un e, pk_uLn e]; exact q5 j (by omega))
        exact ⟨hz, fp', fq', E.st Z w1, w2⟩
    obtain ⟨hz, fp', fq', w1, w2, w3, w4⟩ := loop (sHeap σ).length 0 h1 (fun _ => 0) (fun _ => 0) (by omega) rfl (fun _ _ _ => rfl) g2 g3 (fun j hj => by omega)
    have fin : ∀ x, x ≠ 65 → x ≤ h.2.1 → (hs (hs (hs hz (h.2.1 + 1) (ia N (upd fp' (sHeap σ).length k))) (h.2.1 + 2) (la N (vp_updL fq' (sHeap σ).length v))) 65 (ob 8 (fo 53 (va_up (va_up (va_up F 13 (.ref (h.2.1 + 1))) 14 (.ref (h.2.1 + 2))) 15 (.int (nI ((sHeap σ).length + 1))))))).1 x = h.1 x := fun x n1 hx => (hs_ne n1).trans ((hs_ne (by omega)).trans ((hs_ne (by omega)).trans ((w3 x n1 (by omega) (by omega)).trans (g1 x hx))))
    have h2 : (hs (hs (hs hz (h.2.1 + 1) (ia N (upd fp' (sHeap σ).length k))) (h.2.1 + 2) (la N (vp_updL fq' (sHeap σ).length v))) 65 (ob 8 (fo 53 (va_up (va_up (va_up F 13 (.ref (h.2.1 + 1))) 14 (.ref (h.2.1 + 2))) 15 (.int (nI ((sHeap σ).length + 1))))))).2 = (h.2.1 + 2, (h.2.2.1 + 2, h.2.2.2 + N + N)) := w2.trans g4
    have mf : MF h μ F I L (hs (hs (hs hz (h.2.1 + 1) (ia N (upd fp' (sHeap σ).length k))) (h.2.1 + 2) (la N (vp_updL fq' (sHeap σ).length v))) 65 (ob 8 (fo 53 (va_up (va_up (va_up F 13 (.ref (h.2.1 + 1))) 14 (.ref (h.2.1 + 2))) 15 (.int (nI ((sHeap σ).length + 1))))))) (h.2.1 + 1, (h.2.1 + 2, N)) (va_up (va_up (va_up F 13 (.ref (h.2.1 + 1))) 14 (.ref (h.2.1 + 2))) 15 (.int (nI ((sHeap σ).length + 1)))) (va_up I 76 (upd fp' (sHeap σ).length k)) (va_up L 77 (vp_updL fq' (sHeap σ).length v)) := by
      refine ⟨?_, fun x hx hr _ _ => fin x (by omega) hx, ⟨Or.inr (by show h.2.1 < h.2.1 + 1; omega), Or.inr (by show h.2.1 < h.2.1 + 2; omega)⟩, ?_, fun j hj => ?_, fun x hx => ⟨up_ne (by omega), up_ne (by omega)⟩⟩
      · rw [h2]
        exact ⟨by show h.2.1 ≤ h.2.1 + 2; omega, by show h.2.2.1 ≤ h.2.2.1 + 2; omega, by show h.2.2.2 ≤ h.2.2.2 + N + N; omega⟩
      · rw [h2]
        exact ⟨by show h.2.2.1 + 2 + (72000 - N) ≤ _; omega, by show h.2.2.2 + N + N + 4 * (72000 - N) ≤ _; omega⟩
      · unfold evf at hj
        rw [up_ne (by omega), up_ne (by omega), up_ne (by omega)]
    refine ⟨_, _, _, _, _, E.st B w1, mf, ⟨⟨hs_eq, fun q hq => ?_, fun q hq => ?_, ?_, ?_, Or.inr (by show 94 < h.2.1 + 1; omega), Or.inr (by show 94 < h.2.1 + 2; omega), ?_, ?_, ?_, by show 1024 ≤ N; omega, by show N ≤ 72000; omega⟩, ⟨fun q hq => ?_, ?_, ?_⟩, rn.mf mf, mv.heap ⟨?_, ?_, ?_⟩ (fun y hy => up_ne hy) (fun y hy => up_ne hy) ?_, ?_, ⟨⟨x27, ?_⟩, x28, ?_⟩, (fun q => by cases q), ?_⟩, fun y hy => up_ne hy, fun y hy => up_ne hy⟩
    · have b := itab_b q hq
      rw [up_ne b.2.2.1]
      exact (fin q.1 (by omega) (by omega)).trans (m2 q hq)
    · have b := ltab_b q hq
      rw [up_ne b.2.2.2]
      exact (fin q.1 (by omega) (by omega)).trans (m3 q hq)
    · rw [up_eq]
      exact (hs_ne (by show h.2.1 + 1 ≠ 65; omega)).trans ((hs_ne (by show h.2.1 + 1 ≠ h.2.1 + 2; omega)).trans hs_eq)
    · rw [up_eq]
      exact (hs_ne (by show h.2.1 + 2 ≠ 65; omega)).trans hs_eq
    · rw [h2]; show h.2.1 + 1 ≤ h.2.1 + 2; omega
    · rw [h2]; exact Nat.le_refl _
    · rw [h2]; show 94 ≤ h.2.1 + 2; omega
    · have := rtab_n q hq
      unfold evf at this
      rw [up_ne (by omega), up_ne (by omega), up_ne (by omega)]
      exact fs.1 q hq
    · rw [up_ne (by decide), up_ne (by decide), up_eq]
    · rw [up_ne (by decide), up_eq]
    · rw [up_ne (by decide), up_ne (by decide), up_ne (by decide)]
    · rw [up_ne (by decide), up_ne (by decide), up_ne (by decide)]
    · rw [up_eq, List.length_append]; rfl
    · intro j hj
      rw [up_eq, up_eq]
      exact MHp.snoc (fun i hi => ⟨(w4 i hi).1.trans (hh i hi).1, (w4 i hi).2.trans (hh i hi).2⟩) j hj
    · rw [up_ne (by decide), up_ne (by decide), up_ne (by decide)]; exact e26
    · rw [up_ne (by decide), up_ne (by decide), up_ne (by decide)]; exact e27
    · rw [up_ne (by decide), up_ne (by decide), up_ne (by decide)]; exact e28
    · show (sHeap σ ++ [(k, v)]).length ≤ N
      rw [List.length_append]
      show (sHeap σ).length + 1 ≤ N
      omega
  · have vh : vp_in (nI (sHeap σ).length) μ.2.2 := vp_in_nI (by omega) (by omega)
    have B := j_X8_lay_a_1 (d := d) (by omega) h k v μ.1 μ.2.1 F mh.1 _ e15 fs.2.2 μ.2.2 (L 77) mh.2.2.2.2.1 (fun q => c ((nI_eq (by omega) (by omega)).mp q)) fs.2.1 μ.2.2 (I 76) mh.2.2.2.1 (by assumption) px (by assumption)
    rw [ch, nI_1] at B
    have s := (((ST.rf mh).k (upd (I 76) (sHeap σ).length k)).h (vp_updL (L 77) (sHeap σ).length v)).f (j := 15) (by unfold evf; omega) (.int (nI ((sHeap σ).length + 1)))
    refine ⟨μ, _, _, _, _, B, s.2, ⟨s.1, fs.up (by omega) _, rn.mf s.2, mv.heap ⟨up_ne (by decide), up_ne (by decide), ?_⟩ (fun y hy => up_ne hy) (fun y hy => up_ne hy) ?_, (up_ne (by decide)).trans e26, ⟨⟨x27, (up_ne (by decide)).trans e27⟩, x28, (up_ne (by decide)).trans e28⟩, (fun q => by cases q), ?_⟩, fun y hy => up_ne hy, fun y hy => up_ne hy⟩
    · rw [up_eq, List.length_append]; rfl
    · intro j hj
      rw [up_eq, up_eq]
      exact MHp.snoc hh j hj
    · show (sHeap σ ++ [(k, v)]).length ≤ _
      rw [List.length_append]
      show (sHeap σ).length + 1 ≤ _
      omega
/-- a list is kept as the value of n -/
theorem m_keep {T : NT} {σ : St} {n : Nat} {μ : KM} {F : Nat → Value} {I : AI} {L : AL} {h : AH} {d : Nat} (r : RMx T σ 0 μ F I L h) (hn : n < 60) (h5 : sLev σ < 5) (hls : MLs (sLst σ (sLev σ + 1)) (sLev σ + 1) I L) (hl : (sHeap σ).length + 1 + (sLst σ (sLev σ + 1)).length ≤ 36000) (hd : 1 ≤ d) : ∃ μ' F' I' L' h', CM mX8_keep d [.ref 65, .int (nI (60 * sLev σ + n)), .long (lN (sMany σ (sLev σ + 1)))] h none h' ∧ MF h μ F I L h' μ' F' I' L' ∧ RMx T (keepP σ n) 0 μ' F' I' L' h' := by
  obtain ⟨l1, l2, l3⟩ := id hls
  have vz : vp_in (nI (60 * sLev σ + n)) 360 := vp_in_nI (by omega) (by decide)
  have cz : (nI (60 * sLev σ + n)).toNatClampNeg = 60 * sLev σ + n := nI_clamp (by omega)
  have e71 : nI (sLev σ) + 1 = nI (sLev σ + 1) := nI_1 _
  have cv : (nI (sLev σ + 1)).toNatClampNeg = sLev σ + 1 := nI_clamp (by omega)
  have vv : vp_in (nI (sLev σ + 1)) 6 := vp_in_nI (by omega) (by decide)
  have e15 := r.2.2.2.1.1.2.1
  have A0 := j_X8_keep_a_1 (d := d) (Nat.zero_le _) h (nI (60 * sLev σ + n)) (lN (sMany σ (sLev σ + 1))) 0 0 F r.1.1 _ e15
  obtain ⟨μ1, F1, I1, L1, h1, c1, f1, r1, i1, j1⟩ := m_lay (d := 0) r (by omega) 2 (lN (sMany σ (sLev σ + 1)))
  have hls1 : MLs (sLst σ (sLev σ + 1)) (sLev σ + 1) I1 L1 := hls.agree (by rw [i1 86 (by decide)]) (fun j _ => by rw [i1 84 (by decide)]) (fun j _ => by rw [j1 85 (by decide)])
  have loop : ∀ (m k : Nat) (μ1 : KM) (F1 : Nat → Value) (I1 : AI) (L1 : AL) (h1 : AH), k + m = (sLst σ (sLev σ + 1)).length → RMx T (wHeap σ (sHeap σ ++ (2, lN (sMany σ (sLev σ + 1))) :: (sLst σ (sLev σ + 1)).take k)) 0 μ1 F1 I1 L1 h1 → MLs (sLst σ (sLev σ + 1)) (sLev σ + 1) I1 L1 → ∃ μ' F' I' L' h', E false mX8_keep d 15 [(0, .ref 65), (1, .int (nI (60 * sLev σ + n))), (2, .long (lN (sMany σ (sLev σ + 1)))), (4, .int (nI (sHeap σ).length)), (5, .int (nI k))] [] h1 none h' ∧ MF h1 μ1 F1 I1 L1 h' μ' F' I' L' ∧ RMx T (keepP σ n) 0 μ' F' I' L' h' := by
    intro m
    induction m with
    | zero =>
      intro k μ1 F1 I1 L1 h1 hk r1 hls1
      have ek : k = (sLst σ (sLev σ + 1)).length := by omega
      subst ek
      rw [List.take_length] at r1
      obtain ⟨mh, fs, rn, mv, e26, -, -, hlen⟩ := id r1
      have e7 : F1 7 = .int (nI (sLev σ)) := mv.1.1
      have B := j_X8_keep_c_1 (d := d) (by omega) h1 (nI (60 * sLev σ + n)) (lN (sMany σ (sLev σ + 1))) (nI (sHeap σ).length) (nI (sLst σ (sLev σ + 1)).length) μ1.1 μ1.2.1 F1 mh.1 (fs.r (by decide)) _ e7 6 (I1 86) (mh.i (by decide)) (by rw [e71]; exact vv) (by rw [e71, cv, hls1.1]; exact nI_le (Nat.le_refl _) (by omega)) (fs.r (by decide)) 360 (I1 72) (mh.i (by decide)) (by assumption) (fs.r (by decide)) 360 (L1 73) (mh.l (by decide)) (by assumption)
      rw [cz, nI_l (by omega)] at B
      have s := ((ST.rf mh).i (x := 72) (n := 360) (by decide) (by decide) (upd (I1 72) (60 * sLev σ + n) 3)).l (x := 73) (n := 360) (by decide) (by decide) (vp_updL (L1 73) (60 * sLev σ + n) (lN (sHeap σ).length))
      have mv' := mv.sv (n := n) hn (.inr (.inr ((sHeap σ).length, 1 + (sLst σ (sLev σ + 1)).length))) (I' := va_up I1 72 (upd (I1 72) (60 * sLev σ + n) 3)) (L' := va_up L1 73 (vp_updL (L1 73) (60 * sLev σ + n) (lN (sHeap σ).length))) (fun w a _ _ => up_ne a) (fun w a => up_ne a) (fun j hj => by have hj : j ≠ 60 * sLev σ + n := hj; rw [up_eq, pk_un hj]) (fun j hj => by have hj : j ≠ 60 * sLev σ + n := hj; rw [up_eq, pk_uLn hj]) (fun j hj => by rw [up_ne (by decide)]) (fun j hj => by rw [up_ne (by decide)]) (by
        show MVal T (some _) (va_up I1 72 _ 72 (60 * sLev σ + n)) (va_up L1 73 _ 73 (60 * sLev σ + n)) _ _
        rw [up_eq, pk_us, up_eq, pk_uLs]
        exact ⟨rfl, rfl⟩)
      obtain ⟨x1, x2⟩ := r1.val s mv' hlen
      exact ⟨μ1, F1, _, _, _, B, x2, x1⟩
    | succ m ih =>
      intro k μ1 F1 I1 L1 h1 hk r1 hls1
      obtain ⟨mh, fs, rn, mv, e26, -, -, hlen⟩ := id r1
      have e7 : F1 7 = .int (nI (sLev σ)) := mv.1.1
      obtain ⟨l1, l2, l3⟩ := id hls1
      obtain ⟨u1, u2⟩ := l3 k (by omega)
      have ep : (100 * (nI (sLev σ) + 1)) + nI k = nI (100 * (sLev σ + 1) + k) := by
        rw [e71, show (100 : Int32) = nI 100 from rfl, pk_mul, nI_add]
      have cp : (nI (100 * (sLev σ + 1) + k)).toNatClampNeg = 100 * (sLev σ + 1) + k := nI_clamp (by omega)
      have vp : vp_in (nI (100 * (sLev σ + 1) + k)) 600 := vp_in_nI (by omega) (by decide)
      have B := j_X8_keep_c_2 (d := d) (by omega) h1 (nI (60 * sLev σ + n)) (lN (sMany σ (sLev σ + 1))) (nI (sHeap σ).length) (nI k) μ1.1 μ1.2.1 F1 mh.1 (fs.r (by decide)) _ e7 6 (I1 86) (mh.i (by decide)) (by rw [e71]; exact vv) (by rw [e71, cv, l1]; exact nI_ge (by omega) (by omega)) (fs.r (by decide)) _ ep 600 (I1 84) (mh.i (by decide)) (by assumption) (fs.r (by decide)) _ ep 600 (L1 85) (mh.l (by decide)) (by assumption)
      rw [cp, u1, u2] at B
      have tl : (sLst σ (sLev σ + 1)).take (k + 1) = (sLst σ (sLev σ + 1)).take k ++ [((sLst σ (sLev σ + 1)).getD k (0, 0))] := by
        rw [List.take_add_one, List.getD_eq_getElem?_getD, List.getElem?_eq_getElem (by omega)]
        rfl
      have ll : (sHeap σ ++ (2, lN (sMany σ (sLev σ + 1))) :: (sLst σ (sLev σ + 1)).take k).length = (sHeap σ).length + 1 + k := by
        rw [List.length_append, List.length_cons, List.length_take]
        omega
      obtain ⟨μ2, F2, I2, L2, h2, c2, f2, r2, i2, j2⟩ := m_lay (d := 0) r1 (by rw [ll]; omega) ((sLst σ (sLev σ + 1)).getD k (0, 0)).1 ((sLst σ (sLev σ + 1)).getD k (0, 0)).2
      have er : wHeap (wHeap σ (sHeap σ ++ (2, lN (sMany σ (sLev σ + 1))) :: (sLst σ (sLev σ + 1)).take k)) (sHeap (wHeap σ (sHeap σ ++ (2, lN (sMany σ (sLev σ + 1))) :: (sLst σ (sLev σ + 1)).take k)) ++ [(((sLst σ (sLev σ + 1)).getD k (0, 0)).1, ((sLst σ (sLev σ + 1)).getD k (0, 0)).2)]) = wHeap σ (sHeap σ ++ (2, lN (sMany σ (sLev σ + 1))) :: (sLst σ (sLev σ + 1)).take (k + 1)) := by
        rw [tl]
        show mkS _ _ _ _ _ _ _ _ _ ((sHeap σ ++ (2, lN (sMany σ (sLev σ + 1))) :: (sLst σ (sLev σ + 1)).take k) ++ [((sLst σ (sLev σ + 1)).getD k (0, 0))]) _ _ = mkS _ _ _ _ _ _ _ _ _ (sHeap σ ++ (2, lN (sMany σ (sLev σ + 1))) :: ((sLst σ (sLev σ + 1)).take k ++ [((sLst σ (sLev σ + 1)).getD k (0, 0))])) _ _
        rw [List.append_assoc]
        rfl
      rw [er] at r2
      obtain ⟨μ', F', I', L', h', y1, y2, y3⟩ := ih (k + 1) μ2 F2 I2 L2 h2 (by omega) r2 (hls1.agree (by rw [i2 86 (by decide)]) (fun j _ => by rw [i2 84 (by decide)]) (fun j _ => by rw [j2 85 (by decide)]))
      have D := j_X8_keep_d_1 (d := d) (Nat.zero_le _) h2 (nI (60 * sLev σ + n)) (lN (sMany σ (sLev σ + 1))) (nI (sHeap σ).length) (nI k) 0 0
      rw [nI_1] at D
      exact ⟨μ', F', I', L', h', E.st B (E.st (s_invv dX8_keep_66 rfl lX8_200 (by omega) rfl (Nat.le_of_ble_eq_true rfl) rfl (Nat.le_of_ble_eq_true rfl) mh.1 c2 (fun h => nomatch h)) (E.st D y1)), f2.tr y2, y3⟩
  obtain ⟨μ', F', I', L', h', y1, y2, y3⟩ := loop (sLst σ (sLev σ + 1)).length 0 μ1 F1 I1 L1 h1 (by omega) (by rw [List.take_zero]; exact r1) hls1
  exact ⟨μ', F', I', L', h', E.st A0 (E.st (s_invv dX8_keep_9 rfl lX8_200 (by omega) rfl (Nat.le_of_ble_eq_true rfl) rfl (Nat.le_of_ble_eq_true rfl) r.1.1 c1 (fun h => nomatch h)) (E.st (j_X8_keep_b_1 (Nat.zero_le _) h1 _ _ _ 0 0) y1)), f1.tr y2, y3⟩
