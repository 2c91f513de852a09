/-! ways of a set, in the reference -/
/-- a way is about to begin -/
def MVh (T : NT) (τ : St) (base : Nat) (F : Nat → Value) (I : AI) (L : AL) : Prop :=
  (F 7 = .int (nI (sLev τ)) ∧ (∃ a, F 15 = .int a) ∧ F 25 = .int (nI (sLab τ))) ∧ (∀ k, k ≤ sLev τ → I 71 k = nI (sIns τ k) ∧ sIns τ k < 2 ^ 30) ∧ (∀ k, k < sLev τ → ∀ i, i < 60 → MVa T (sVal τ k i) k i I L) ∧ MHp ((sHeap τ).take base) I L ∧ (∀ k, k < sLev τ → MT (sTold τ k) (sCome τ k) k I) ∧ (I 79 (sLev τ) = nI (sTold τ (sLev τ)).length ∧ (sTold τ (sLev τ)).length ≤ 300 ∧ ∀ j, j < (sTold τ (sLev τ)).length → I 78 (2001 * sLev τ + j) = if (sTold τ (sLev τ)).getD j false then 1 else 0) ∧ (∀ k, k < sLev τ → MFu (sFull τ k) k I L) ∧ (∀ k, 0 < k → k ≤ sLev τ → MLs (sLst τ k) k I L) ∧ sLev τ < 6
def RMh (T : NT) (τ : St) (base : Nat) (μ : KM) (F : Nat → Value) (I : AI) (L : AL) (h : AH) : Prop :=
  MH μ F I L h ∧ FS μ F ∧ RNm T F I L ∧ MVh T τ base F I L ∧ F 26 = .int (nI 0) ∧ ((∃ a, F 27 = .int a) ∧ ∃ b, F 28 = .int b) ∧ ((sHeap τ).take base).length ≤ μ.2.2
theorem m_begin {T : NT} {τ : St} {base : Nat} {μ : KM} {F : Nat → Value} {I : AI} {L : AL} {h : AH} {d : Nat} (r : RMh T τ base μ F I L h) : ∃ I' h', CM mX8_beginWay d [.ref 65] h none h' ∧ ST h μ F I L h' μ F I' L ∧ ∀ F2 : Nat → Value, F2 7 = F 7 → F2 25 = F 25 → F2 15 = .int (nI ((sHeap τ).take base).length) → MV T (begP τ base) F2 I' L := by
  obtain ⟨mh, fs, rn, ⟨⟨e7, e15, e25⟩, v2, v3, v4, v5, ⟨t1, t2, t3⟩, v6, v7, v8⟩, e26, -, hlen⟩ := r
  have cv : (nI (sLev τ)).toNatClampNeg = sLev τ := nI_clamp (by omega)
  have vv : vp_in (nI (sLev τ)) 6 := vp_in_nI v8 (by decide)
  have loop : ∀ (m i : Nat) (g : Nat → Int32), i + m = 60 → (∀ j, j < 60 * sLev τ → g j = I 72 j) → (∀ j, 60 * sLev τ ≤ j → j < 60 * sLev τ + i → g j = 0) → ∃ g', E false mX8_beginWay d 2 [(0, .ref 65), (1, .int (nI i))] [] (hs h 72 (ia 360 g)) none (hs (hs (hs h 72 (ia 360 g')) 80 (ia 6 (upd (I 80) (sLev τ) 0))) 83 (ia 6 (upd (I 83) (sLev τ) 0))) ∧ (∀ j, j < 60 * sLev τ → g' j = I 72 j) ∧ (∀ j, 60 * sLev τ ≤ j → j < 60 * sLev τ + 60 → g' j = 0) := by
    intro m
    induction m with
    | zero =>
      intro i g hi g1 g2
      have ei : i = 60 := by omega
      subst ei
      have mh' := mh.wi (x := 72) (n := 360) (by decide) g
      have B := j_X8_beginWay_b_1 (d := d) (by omega) (hs h 72 (ia 360 g)) (nI 60) μ.1 μ.2.1 (by decide) F mh'.1 (fs.r (by decide)) _ e7 6 ((va_up I 72 g) 80) (mh'.i (by decide)) (by assumption) (fs.r (by decide)) 6 ((va_up I 72 g) 83) (mh'.i (by decide)) (by assumption)
      rw [cv, up_ne (by decide), up_ne (by decide)] at B
      exact ⟨g, B, g1, g2⟩
    | succ m ih =>
      intro i g hi g1 g2
      have mh' := mh.wi (x := 72) (n := 360) (by decide) g
      have ez : (60 * nI (sLev τ)) + nI i = nI (60 * sLev τ + i) := by rw [show (60 : Int32) = nI 60 from rfl, pk_mul, nI_add]
      have cz : (nI (60 * sLev τ + i)).toNatClampNeg = 60 * sLev τ + i := nI_clamp (by omega)
      have vz : vp_in (nI (60 * sLev τ + i)) 360 := vp_in_nI (by omega) (by decide)
      have B := j_X8_beginWay_b_2 (d := d) (by omega) (hs h 72 (ia 360 g)) (nI i) μ.1 μ.2.1 (nI_ge (b := 60) (by omega) (by decide)) F mh'.1 (fs.r (by decide)) _ e7 _ ez 360 ((va_up I 72 g) 72) (mh'.i (by decide)) vz
      rw [cz, nI_1, up_eq, hs_hs] at B
      obtain ⟨g', x1, x2⟩ := ih (i + 1) (upd g (60 * sLev τ + i) 0) (by omega) (fun j hj => by rw [pk_un (by omega)]; exact g1 j hj) (fun j hj1 hj2 => by
        by_cases e : j = 60 * sLev τ + i
        · rw [e, pk_us]
        · rw [pk_un e]; exact g2 j hj1 (by omega))
      exact ⟨g', E.st B x1, x2⟩
  have i0 : hs h 72 (ia 360 (I 72)) = h := hs_id (mh.i (by decide))
  obtain ⟨g', x1, x2, x3⟩ := loop 60 0 (I 72) rfl (fun _ _ => rfl) (fun j h1 h2 => by omega)
  rw [i0] at x1
  have s := (((ST.rf mh).i (x := 72) (n := 360) (by decide) (by decide) g').i (x := 80) (n := 6) (by decide) (by decide) (upd (I 80) (sLev τ) 0)).i (x := 83) (n := 6) (by decide) (by decide) (upd (I 83) (sLev τ) 0)
  refine ⟨_, _, E.st (j_X8_beginWay_a_1 (Nat.zero_le _) h 0 0) x1, s, fun F2 h7 h25 h15 => ?_⟩
  have n1 : ∀ y, y ≠ 72 → y ≠ 80 → y ≠ 83 → va_up (va_up (va_up I 72 g') 80 (upd (I 80) (sLev τ) 0)) 83 (upd (I 83) (sLev τ) 0) y = I y := fun y a b c => by rw [up_ne c, up_ne b, up_ne a]
  have n72 : va_up (va_up (va_up I 72 g') 80 (upd (I 80) (sLev τ) 0)) 83 (upd (I 83) (sLev τ) 0) 72 = g' := by rw [up_ne (by decide), up_ne (by decide), up_eq]
  have n80 : va_up (va_up (va_up I 72 g') 80 (upd (I 80) (sLev τ) 0)) 83 (upd (I 83) (sLev τ) 0) 80 = upd (I 80) (sLev τ) 0 := by rw [up_ne (by decide), up_eq]
  have n83 : va_up (va_up (va_up I 72 g') 80 (upd (I 80) (sLev τ) 0)) 83 (upd (I 83) (sLev τ) 0) 83 = upd (I 83) (sLev τ) 0 := up_eq
  generalize va_up (va_up (va_up I 72 g') 80 (upd (I 80) (sLev τ) 0)) 83 (upd (I 83) (sLev τ) 0) = I' at n1 n72 n80 n83
  refine ⟨⟨h7.trans e7, h15, h25.trans e25⟩, fun k hk => by rw [n1 71 (by decide) (by decide) (by decide)]; exact v2 k hk, fun k hk i hi => ?_, v4.agree (n1 76 (by decide) (by decide) (by decide)) rfl, fun k hk => ?_, fun k hk => ?_, fun k h0 hk => (v7 k h0 hk).agree (by rw [n1 86 (by decide) (by decide) (by decide)]) (fun j _ => by rw [n1 84 (by decide) (by decide) (by decide)]) (fun j _ => rfl), v8⟩
  · have hk : k ≤ sLev τ := hk
    show MVa T (va_up (sVal τ) (sLev τ) (fun _ => none) k i) k i I' L
    by_cases e : k = sLev τ
    · rw [e, up_eq]
      show I' 72 (60 * sLev τ + i) = 0
      rw [n72]
      exact x3 _ (by omega) (by omega)
    · rw [up_ne e]
      exact (v3 k (by omega) i hi).agree (by rw [n72]; exact x2 _ (by omega)) rfl (by rw [n1 74 (by decide) (by decide) (by decide)]) (by rw [n1 75 (by decide) (by decide) (by decide)])
  · have hk : k ≤ sLev τ := hk
    show MT (sTold τ k) (va_up (sCome τ) (sLev τ) 0 k) k I'
    by_cases e : k = sLev τ
    · rw [e, up_eq]
      exact ⟨by rw [n1 79 (by decide) (by decide) (by decide)]; exact t1, by rw [n80, pk_us]; rfl, t2, Nat.zero_le _, fun j hj => by rw [n1 78 (by decide) (by decide) (by decide)]; exact t3 j hj⟩
    · rw [up_ne e]
      exact (v5 k (by omega)).agree (by rw [n1 79 (by decide) (by decide) (by decide)]) (by rw [n80, pk_un e]) (fun j _ => by rw [n1 78 (by decide) (by decide) (by decide)])
  · have hk : k ≤ sLev τ := hk
    show MFu (va_up (sFull τ) (sLev τ) [] k) k I' L
    by_cases e : k = sLev τ
    · rw [e, up_eq]
      exact ⟨by rw [n83, pk_us]; rfl, Nat.zero_le _, fun j hj => by cases hj⟩
    · rw [up_ne e]
      exact (v6 k (by omega)).agree (by rw [n83, pk_un e]) (fun j _ => by rw [n1 81 (by decide) (by decide) (by decide)]) (fun j _ => rfl)
theorem MV.lst {T : NT} {σ : St} {F : Nat → Value} {I I' : AI} {L L' : AL} {ts : List Tok} {mm : Nat → Nat} (m : MV T σ F I L) (hi : ∀ y, y ≠ 84 → y ≠ 86 → I' y = I y) (hl : ∀ y, y ≠ 85 → L' y = L y) (h86 : ∀ k, k ≠ sLev σ → I' 86 k = I 86 k) (h84 : ∀ j, j < 100 * sLev σ → I' 84 j = I 84 j) (h85 : ∀ j, j < 100 * sLev σ → L' 85 j = L 85 j) (ht : MLs ts (sLev σ) I' L') : MV T (wLM σ (va_up (sLst σ) (sLev σ) ts) mm) F I' L' := by
  obtain ⟨v1, v2, v3, v4, v5, v6, v7, v8⟩ := m
  refine ⟨v1, fun k hk => by rw [hi 71 (by decide) (by decide)]; exact v2 k hk, fun k hk i hi' => (v3 k hk i hi').agree (by rw [hi 72 (by decide) (by decide)]) (by rw [hl 73 (by decide)]) (by rw [hi 74 (by decide) (by decide)]) (by rw [hi 75 (by decide) (by decide)]), v4.agree (hi 76 (by decide) (by decide)) (hl 77 (by decide)), fun k hk => (v5 k hk).agree (by rw [hi 79 (by decide) (by decide)]) (by rw [hi 80 (by decide) (by decide)]) (fun j _ => by rw [hi 78 (by decide) (by decide)]), fun k hk => (v6 k hk).agree (by rw [hi 83 (by decide) (by decide)]) (fun j _ => by rw [hi 81 (by decide) (by decide)]) (fun j _ => by rw [hl 82 (by decide)]), fun k h0 hk => ?_, v8⟩
  have hk : k ≤ sLev σ := hk
  show MLs (va_up (sLst σ) (sLev σ) ts k) k I' L'
  by_cases e : k = sLev σ
  · rw [e, up_eq]
    exact ht
  · rw [up_ne e]
    exact (v7 k h0 hk).agree (h86 k e) (fun j hj => h84 _ (by omega)) (fun j hj => h85 _ (by omega))
theorem m_collect {T : NT} {σ : St} {μ : KM} {F : Nat → Value} {I : AI} {L : AL} {h : AH} {d : Nat} (r : RMx T σ 0 μ F I L h) (h0 : 0 < sLev σ) : (1 + (sLst σ (sLev σ)).length + (sFull σ (sLev σ)).length > 100 → CM mX8_collect d [.ref 65] h none (hs h 65 (ob 8 (fo 53 (va_up F 26 (.int (nI 2))))))) ∧ (¬ 1 + (sLst σ (sLev σ)).length + (sFull σ (sLev σ)).length > 100 → ∃ I' L' h', CM mX8_collect d [.ref 65] h none h' ∧ MF h μ F I L h' μ F I' L' ∧ RMx T (colP σ) 0 μ F I' L' h') := by
  obtain ⟨mh, fs, rn, mv, e26, -, -, hlen⟩ := id r
  have v8 := mv.2.2.2.2.2.2.2
  have e7 := mv.1.1
  obtain ⟨l1, l2, l3⟩ := mv.2.2.2.2.2.2.1 (sLev σ) h0 (Nat.le_refl _)
  obtain ⟨u1, u2, u3⟩ := mv.2.2.2.2.2.1 (sLev σ) (Nat.le_refl _)
  have cv : (nI (sLev σ)).toNatClampNeg = sLev σ := nI_clamp (by omega)
  have vv : vp_in (nI (sLev σ)) 6 := vp_in_nI v8 (by decide)
  have es : 1 + I 86 (nI (sLev σ)).toNatClampNeg + I 83 (nI (sLev σ)).toNatClampNeg = nI (1 + (sLst σ (sLev σ)).length + (sFull σ (sLev σ)).length) := by
    rw [cv, l1, u1, show (1 : Int32) = nI 1 from rfl, nI_add, nI_add]
  refine ⟨fun q => ?_, fun q => ?_⟩
  · exact j_X8_collect_a_2 (d := d) (by omega) h μ.1 μ.2.1 F mh.1 (fs.r (by decide)) _ e7 6 (I 86) (mh.i (by decide)) (by assumption) (fs.r (by decide)) 6 (I 83) (mh.i (by decide)) (by assumption) (by rw [es]; exact nI_ge (a := 100) q (by omega))
  · have A0 := j_X8_collect_a_1 (d := d) (by omega) h μ.1 μ.2.1 F mh.1 (fs.r (by decide)) _ e7 6 (I 86) (mh.i (by decide)) (by assumption) (fs.r (by decide)) 6 (I 83) (mh.i (by decide)) (by assumption) (by rw [es]; exact nI_le (b := 100) (by omega) (by decide))
    have loop : ∀ (m k : Nat) (I1 : AI) (L1 : AL) (h1 : AH), k + m = (sFull σ (sLev σ)).length → RMx T (wLM σ (va_up (sLst σ) (sLev σ) (sLst σ (sLev σ) ++ (sFull σ (sLev σ)).take k)) (va_up (sMany σ) (sLev σ) (sMany σ (sLev σ) + 1))) 0 μ F I1 L1 h1 → ∃ I' L' h', E false mX8_collect d 34 [(0, .ref 65), (1, .int (nI k))] [] h1 none h' ∧ MF h1 μ F I1 L1 h' μ F I' L' ∧ RMx T (colP σ) 0 μ F I' L' h' := by
      intro m
      induction m with
      | zero =>
        intro k I1 L1 h1 hk r1
        have ek : k = (sFull σ (sLev σ)).length := by omega
        subst ek
        rw [List.take_length] at r1
        obtain ⟨mh, fs, rn, mv, e26, -, -, hlen⟩ := id r1
        have e7 : F 7 = .int (nI (sLev σ)) := mv.1.1
        have w1 : I1 83 (sLev σ) = nI (sFull σ (sLev σ)).length := (mv.2.2.2.2.2.1 (sLev σ) (Nat.le_refl _)).1
        exact ⟨I1, L1, h1, j_X8_collect_b_1 (d := d) (by omega) h1 (nI (sFull σ (sLev σ)).length) μ.1 μ.2.1 F mh.1 (fs.r (by decide)) _ e7 6 (I1 83) (mh.i (by decide)) (by assumption) (by rw [cv, w1]; exact nI_le (Nat.le_refl _) (by omega)), MF.rf _ _ _ _ _, r1⟩
      | succ m ih =>
        intro k I1 L1 h1 hk r1
        obtain ⟨mh, fs, rn, mv, e26, -, -, hlen⟩ := id r1
        have e7 : F 7 = .int (nI (sLev σ)) := mv.1.1
        have wf : MFu (sFull σ (sLev σ)) (sLev σ) I1 L1 := mv.2.2.2.2.2.1 (sLev σ) (Nat.le_refl _)
        obtain ⟨w1, w2, w3⟩ := wf
        have wl : MLs (va_up (sLst σ) (sLev σ) (sLst σ (sLev σ) ++ (sFull σ (sLev σ)).take k) (sLev σ)) (sLev σ) I1 L1 := mv.2.2.2.2.2.2.1 (sLev σ) h0 (Nat.le_refl _)
        rw [up_eq] at wl
        obtain ⟨y1, y2, y3⟩ := wl
        have ll : (sLst σ (sLev σ) ++ (sFull σ (sLev σ)).take k).length = (sLst σ (sLev σ)).length + k := by
          rw [List.length_append, List.length_take]; omega
        rw [ll] at y1 y2 y3
        obtain ⟨z1, z2⟩ := w3 k (by omega)
        have ep : (100 * nI (sLev σ)) + I1 86 (nI (sLev σ)).toNatClampNeg = nI (100 * sLev σ + ((sLst σ (sLev σ)).length + k)) := by
          rw [cv, y1, show (100 : Int32) = nI 100 from rfl, pk_mul, nI_add]
        have ee : (100 * nI (sLev σ)) + nI k = nI (100 * sLev σ + k) := by
          rw [show (100 : Int32) = nI 100 from rfl, pk_mul, nI_add]
        have cp : (nI (100 * sLev σ + ((sLst σ (sLev σ)).length + k))).toNatClampNeg = 100 * sLev σ + ((sLst σ (sLev σ)).length + k) := nI_clamp (by omega)
        have vp : vp_in (nI (100 * sLev σ + ((sLst σ (sLev σ)).length + k))) 600 := vp_in_nI (by omega) (by decide)
        have ce : (nI (100 * sLev σ + k)).toNatClampNeg = 100 * sLev σ + k := nI_clamp (by omega)
        have ve : vp_in (nI (100 * sLev σ + k)) 600 := vp_in_nI (by omega) (by decide)
        have B := j_X8_collect_b_2 (d := d) (by omega) h1 (nI k) μ.1 μ.2.1 F mh.1 (fs.r (by decide)) _ e7 6 (I1 83) (mh.i (by decide)) (by assumption) (by rw [cv, w1]; exact nI_ge (by omega) (by omega)) (fs.r (by decide)) (fs.r (by decide)) 6 (I1 86) (mh.i (by decide)) (by assumption) _ ep (fs.r (by decide)) _ ee 600 (I1 81) (mh.i (by decide)) (by assumption) 600 (I1 84) (mh.i (by decide)) (by assumption) (fs.r (by decide)) _ ep (fs.r (by decide)) _ ee 600 (L1 82) (mh.l (by decide)) (by assumption) 600 (L1 85) (mh.l (by decide)) (by assumption)
        rw [cp, ce, cv, z1, z2, y1, nI_1, nI_1] at B
        have s := (((ST.rf mh).i (x := 84) (n := 600) (by decide) (by decide) (upd (I1 84) (100 * sLev σ + ((sLst σ (sLev σ)).length + k)) ((sFull σ (sLev σ)).getD k (0, 0)).1)).l (x := 85) (n := 600) (by decide) (by decide) (vp_updL (L1 85) (100 * sLev σ + ((sLst σ (sLev σ)).length + k)) ((sFull σ (sLev σ)).getD k (0, 0)).2)).i (x := 86) (n := 6) (by decide) (by decide) (upd (I1 86) (sLev σ) (nI ((sLst σ (sLev σ)).length + k + 1)))
        have tl : (sFull σ (sLev σ)).take (k + 1) = (sFull σ (sLev σ)).take k ++ [((sFull σ (sLev σ)).getD k (0, 0))] := by
          rw [List.take_add_one, List.getD_eq_getElem?_getD, List.getElem?_eq_getElem (by omega)]
          rfl
        have mv' : MV T (wLM σ (va_up (sLst σ) (sLev σ) (sLst σ (sLev σ) ++ (sFull σ (sLev σ)).take (k + 1))) (va_up (sMany σ) (sLev σ) (sMany σ (sLev σ) + 1))) F (va_up (va_up I1 84 (upd (I1 84) (100 * sLev σ + ((sLst σ (sLev σ)).length + k)) ((sFull σ (sLev σ)).getD k (0, 0)).1)) 86 (upd (I1 86) (sLev σ) (nI ((sLst σ (sLev σ)).length + k + 1)))) (va_up L1 85 (vp_updL (L1 85) (100 * sLev σ + ((sLst σ (sLev σ)).length + k)) ((sFull σ (sLev σ)).getD k (0, 0)).2)) := by
          have e : va_up (sLst σ) (sLev σ) (sLst σ (sLev σ) ++ (sFull σ (sLev σ)).take (k + 1)) = va_up (va_up (sLst σ) (sLev σ) (sLst σ (sLev σ) ++ (sFull σ (sLev σ)).take k)) (sLev σ) (sLst σ (sLev σ) ++ (sFull σ (sLev σ)).take (k + 1)) := by
            funext z
            by_cases q : z = sLev σ
            · rw [q, up_eq, up_eq]
            · rw [up_ne q, up_ne q, up_ne q]
          rw [e]
          refine mv.lst (fun y a b => by rw [up_ne b, up_ne a]) (fun y a => up_ne a) (fun j hj => ?_) (fun j hj => ?_) (fun j hj => ?_) ⟨?_, ?_, fun j hj => ?_⟩
          · rw [up_eq, pk_un hj]
          · have hj : j < 100 * sLev σ := hj
            rw [up_ne (by decide), up_eq, pk_un (by omega)]
          · have hj : j < 100 * sLev σ := hj
            rw [up_eq, pk_uLn (by omega)]
          · show va_up (va_up I1 84 _) 86 _ 86 (sLev σ) = _
            rw [up_eq, pk_us, tl, ← List.append_assoc, List.length_append, ll]
            rfl
          · rw [tl, ← List.append_assoc, List.length_append, ll]
            show (sLst σ (sLev σ)).length + k + 1 ≤ 99
            omega
          · rw [tl, ← List.append_assoc, List.length_append, ll] at hj
            have hj : j < (sLst σ (sLev σ)).length + k + 1 := hj
            rw [tl, ← List.append_assoc]
            show va_up (va_up I1 84 _) 86 _ 84 (100 * sLev σ + j) = _ ∧ va_up L1 85 _ 85 (100 * sLev σ + j) = _
            rw [up_ne (by decide), up_eq, up_eq]
            by_cases q : j = (sLst σ (sLev σ)).length + k
            · rw [q, pk_us, pk_uLs, getD_app_hi (by rw [ll]; exact Nat.le_refl _), ll, Nat.sub_self]
              exact ⟨rfl, rfl⟩
            · rw [pk_un (by omega), pk_uLn (by omega), getD_app_lo (by rw [ll]; omega)]
              exact y3 j (by omega)
        obtain ⟨r2, f2⟩ := r1.val s mv' hlen
        obtain ⟨I', L', h', x1, x2, x3⟩ := ih (k + 1) _ _ _ (by omega) r2
        exact ⟨I', L', h', E.st B x1, f2.tr x2, x3⟩
    have r0 : RMx T (wLM σ (va_up (sLst σ) (sLev σ) (sLst σ (sLev σ) ++ (sFull σ (sLev σ)).take 0)) (va_up (sMany σ) (sLev σ) (sMany σ (sLev σ) + 1))) 0 μ F I L h := by
      rw [List.take_zero, List.append_nil, up_same]
      exact r
    obtain ⟨I', L', h', x1, x2, x3⟩ := loop _ 0 I L h (Nat.zero_add _) r0
    exact ⟨I', L', h', E.st A0 x1, x2, x3⟩
theorem m_next {T : NT} {σ : St} {μ : KM} {F : Nat → Value} {I : AI} {L : AL} {h : AH} {d : Nat} (r : RMx T σ 0 μ F I L h) (base : Nat) : (nxt (sTold σ (sLev σ)) (sCome σ (sLev σ)) = none → CM mX8_nextWay d [.ref 65] h (some (.int 0)) h) ∧ (∀ t, nxt (sTold σ (sLev σ)) (sCome σ (sLev σ)) = some t → ∃ I' h', CM mX8_nextWay d [.ref 65] h (some (.int 1)) h' ∧ MF h μ F I L h' μ F I' L ∧ RMh T (wTC σ (va_up (sTold σ) (sLev σ) t) (sCome σ)) base μ F I' L h') := by
  obtain ⟨mh, fs, rn, mv, e26, e27, -, hlen⟩ := id r
  obtain ⟨⟨e7, e15, e25⟩, v2, v3, v4, v5, v6, v7, v8⟩ := id mv
  obtain ⟨t1, t2, t3, t4, t5⟩ := v5 (sLev σ) (Nat.le_refl _)
  have cv : (nI (sLev σ)).toNatClampNeg = sLev σ := nI_clamp (by omega)
  have vv : vp_in (nI (sLev σ)) 6 := vp_in_nI v8 (by decide)
  have A0 := j_X8_nextWay_a_1 (d := d) (by omega) h μ.1 μ.2.1 F mh.1 (fs.r (by decide)) _ e7 6 (I 80) (mh.i (by decide)) (by assumption)
  rw [cv, t2] at A0
  have ep : ∀ k, (2001 * nI (sLev σ)) + nI k = nI (2001 * sLev σ + k) := fun k => by rw [show (2001 : Int32) = nI 2001 from rfl, pk_mul, nI_add]
  refine ⟨fun hn => E.st A0 ?_, fun t hn => ?_⟩
  · suffices H : ∀ k, k ≤ sCome σ (sLev σ) → nxt (sTold σ (sLev σ)) k = none → E false mX8_nextWay d 12 [(0, .ref 65), (1, .int (nI k - 1))] [] h (some (.int 0)) h from H _ (Nat.le_refl _) hn
    intro k
    induction k with
    | zero => intro _ _; exact j_X8_nextWay_b_2 (Nat.zero_le _) h _ 0 0 (by decide) (by decide)
    | succ k ih =>
      intro hk hz
      rw [nI_pred]
      rw [nxt_s (by omega)] at hz
      have cp : (nI (2001 * sLev σ + k)).toNatClampNeg = 2001 * sLev σ + k := nI_clamp (by omega)
      have vp : vp_in (nI (2001 * sLev σ + k)) 12006 := vp_in_nI (by omega) (by decide)
      have b5 := t5 k (by omega)
      by_cases c : (sTold σ (sLev σ)).getD k false = true
      · rw [if_pos c] at hz b5
        have B := j_X8_nextWay_b_5 (d := d) (by omega) h (nI k) μ.1 μ.2.1 (nI_pos (by omega)) F mh.1 (fs.r (by decide)) _ e7 _ (ep k) 12006 (I 78) (mh.i (by decide)) (by assumption) (by rw [cp, b5])
        rw [i_pm] at B
        exact E.st B (ih (by omega) hz)
      · rw [if_neg c] at hz
        cases hz
  · suffices H : ∀ k, k ≤ sCome σ (sLev σ) → nxt (sTold σ (sLev σ)) k = some t → ∃ I' h', E false mX8_nextWay d 12 [(0, .ref 65), (1, .int (nI k - 1))] [] h (some (.int 1)) h' ∧ MF h μ F I L h' μ F I' L ∧ RMh T (wTC σ (va_up (sTold σ) (sLev σ) t) (sCome σ)) base μ F I' L h' by
      obtain ⟨I', h', x1, x2⟩ := H _ (Nat.le_refl _) hn
      exact ⟨I', h', E.st A0 x1, x2⟩
    intro k
    induction k with
    | zero => intro _ z; rw [nxt_0] at z; cases z
    | succ k ih =>
      intro hk hz
      rw [nI_pred]
      rw [nxt_s (by omega)] at hz
      have cp : (nI (2001 * sLev σ + k)).toNatClampNeg = 2001 * sLev σ + k := nI_clamp (by omega)
      have vp : vp_in (nI (2001 * sLev σ + k)) 12006 := vp_in_nI (by omega) (by decide)
      have b5 := t5 k (by omega)
      by_cases c : (sTold σ (sLev σ)).getD k false = true
      · rw [if_pos c] at hz b5
        have B := j_X8_nextWay_b_5 (d := d) (by omega) h (nI k) μ.1 μ.2.1 (nI_pos (by omega)) F mh.1 (fs.r (by decide)) _ e7 _ (ep k) 12006 (I 78) (mh.i (by decide)) (by assumption) (by rw [cp, b5])
        rw [i_pm] at B
        obtain ⟨I', h', x1, x2⟩ := ih (by omega) hz
        exact ⟨I', h', E.st B x1, x2⟩
      · rw [if_neg c] at hz b5
        cases hz
        have B := j_X8_nextWay_b_3 (d := d) (by omega) h (nI k) μ.1 μ.2.1 (nI_pos (by omega)) F mh.1 (fs.r (by decide)) _ e7 _ (ep k) 12006 (I 78) (mh.i (by decide)) (by assumption) (by rw [cp, b5]; decide) (nI_pos' (by omega)) _ (ep k) (by assumption) (fs.r (by decide)) 6 (I 79) (mh.i (by decide)) (by assumption)
        rw [cp, cv, nI_1] at B
        have s := ((ST.rf mh).i (x := 78) (n := 12006) (by decide) (by decide) (upd (I 78) (2001 * sLev σ + k) 1)).i (x := 79) (n := 6) (by decide) (by decide) (upd (I 79) (sLev σ) (nI (k + 1)))
        have n1 : ∀ y, y ≠ 78 → y ≠ 79 → va_up (va_up I 78 (upd (I 78) (2001 * sLev σ + k) 1)) 79 (upd (I 79) (sLev σ) (nI (k + 1))) y = I y := fun y a b => by rw [up_ne b, up_ne a]
        have n78 : va_up (va_up I 78 (upd (I 78) (2001 * sLev σ + k) 1)) 79 (upd (I 79) (sLev σ) (nI (k + 1))) 78 = upd (I 78) (2001 * sLev σ + k) 1 := by rw [up_ne (by decide), up_eq]
        have n79 : va_up (va_up I 78 (upd (I 78) (2001 * sLev σ + k) 1)) 79 (upd (I 79) (sLev σ) (nI (k + 1))) 79 = upd (I 79) (sLev σ) (nI (k + 1)) := up_eq
        refine ⟨_, _, B, s.2, s.1, fs, rn.mf s.2, ?_, e26, e27, by show ((sHeap σ).take base).length ≤ _; rw [List.length_take]; omega⟩
        generalize va_up (va_up I 78 (upd (I 78) (2001 * sLev σ + k) 1)) 79 (upd (I 79) (sLev σ) (nI (k + 1))) = I' at n1 n78 n79
        have lt : (List.take k (sTold σ (sLev σ)) ++ [true]).length = k + 1 := by rw [List.length_append, List.length_take]; show min k (sTold σ (sLev σ)).length + 1 = k + 1; omega
        have et : ∀ j, j ≠ sLev σ → va_up (sTold σ) (sLev σ) (List.take k (sTold σ (sLev σ)) ++ [true]) j = sTold σ j := fun j hj => up_ne hj
        refine ⟨⟨e7, ⟨_, e15⟩, e25⟩, fun j hj => by rw [n1 71 (by decide) (by decide)]; exact v2 j hj, fun j hj i hi => (v3 j (Nat.le_of_lt hj) i hi).agree (by rw [n1 72 (by decide) (by decide)]) rfl (by rw [n1 74 (by decide) (by decide)]) (by rw [n1 75 (by decide) (by decide)]), ?_, fun j hj => ?_, ⟨?_, ?_, fun j hj => ?_⟩, fun j hj => (v6 j (Nat.le_of_lt hj)).agree (by rw [n1 83 (by decide) (by decide)]) (fun i _ => by rw [n1 81 (by decide) (by decide)]) (fun i _ => rfl), fun j h0 hj => (v7 j h0 hj).agree (by rw [n1 86 (by decide) (by decide)]) (fun i _ => by rw [n1 84 (by decide) (by decide)]) (fun i _ => rfl), v8⟩
        · intro j hj
          have hj : j < ((sHeap σ).take base).length := hj
          rw [List.length_take] at hj
          rw [n1 76 (by decide) (by decide)]
          show _ = (((sHeap σ).take base).getD j (0, 0)).1 ∧ _ = (((sHeap σ).take base).getD j (0, 0)).2
          rw [getD_take (by omega)]
          exact v4 j (by omega)
        · have hj : j < sLev σ := hj
          show MT (va_up (sTold σ) (sLev σ) _ j) (sCome σ j) j I'
          rw [up_ne (by omega)]
          exact (v5 j (by omega)).agree (by rw [n79, pk_un (by omega)]) (by rw [n1 80 (by decide) (by decide)]) (fun i hi => by rw [n78, pk_un (by omega)])
        · show I' 79 (sLev σ) = nI (va_up (sTold σ) (sLev σ) (List.take k (sTold σ (sLev σ)) ++ [true]) (sLev σ)).length
          rw [up_eq, lt, n79, pk_us]
        · show (va_up (sTold σ) (sLev σ) (List.take k (sTold σ (sLev σ)) ++ [true]) (sLev σ)).length ≤ 300
          rw [up_eq, lt]
          omega
        · have hj : j < (va_up (sTold σ) (sLev σ) (List.take k (sTold σ (sLev σ)) ++ [true]) (sLev σ)).length := hj
          rw [up_eq, lt] at hj
          show I' 78 (2001 * sLev σ + j) = if (va_up (sTold σ) (sLev σ) (List.take k (sTold σ (sLev σ)) ++ [true]) (sLev σ)).getD j false then 1 else 0
          rw [up_eq, n78]
          have lk : (List.take k (sTold σ (sLev σ))).length = k := by rw [List.length_take]; omega
          by_cases q : j = k
          · rw [q, pk_us, getD_app_hi (by rw [lk]; exact Nat.le_refl _), lk, Nat.sub_self]
            rfl
          · rw [pk_un (by omega), getD_app_lo (by rw [lk]; omega), getD_take (by omega)]
            exact t5 j (by omega)
