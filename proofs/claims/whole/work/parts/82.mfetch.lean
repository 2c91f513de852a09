/-! the reference takes the row that is due -/
theorem div_nI : ∀ s, s ≤ 61 → ∀ b, b ≤ 60 → b ≠ 0 → nI s / nI b = nI (s / b) := by decide +kernel
theorem div_512 : ∀ g, g < 512 → nI g - nI g / 512 * 512 = nI g := by decide +kernel
theorem hs_comm {h : AH} {a b : Nat} {x y : AC} (n : a ≠ b) : hs (hs h a x) b y = hs (hs h b y) a x := by
  unfold hs
  congr 1
  exact up_comm n
theorem RZ.alt {t0 : Int32} {T : NT} {Z : ZS} {μ : KM} {F : Nat → Value} {I : AI} {L : AL} {h : AH} (r : RZ t0 T Z μ F I L h) (g : Nat → Int32) : RZ t0 T Z μ F (va_up I 78 g) L (hs h 78 (ia 12006 g)) := by
  obtain ⟨a, b, c, d, e, f⟩ := r
  refine ⟨a.i (x := 78) (n := 12006) (by decide) (by decide) g, b, c, ?_, ?_, ?_⟩
  · unfold QOp; rw [up_ne (by decide), up_ne (by decide)]; exact d
  · unfold QQu; rw [up_ne (by decide), up_ne (by decide)]; exact e
  · unfold QVa; rw [up_ne (by decide), up_ne (by decide)]; exact f
theorem m_fetchO {t0 : Int32} {T : NT} {Z : ZS} {μ : KM} {F : Nat → Value} {I : AI} {L : AL} {h : AH} {d : Nat} {row : Row} {X : List Row} (r : RZ t0 T Z μ F I L h) (ho : zOp Z = row :: X) (hl : X.length < 201) (hr : row.length ≤ 60) : ∃ F' I' h', CM mX8_fetch d [.ref 65] h (some (.int (nI row.length))) h' ∧ RZ t0 T (mkZ (zTh Z) (zSp Z) (zGo Z) (zMo Z) (zBo Z) (zWi Z) (X) (zQu Z) (zGn Z) (zPl Z) (zVa Z) (zFa Z) (zGu Z) (zCu Z) (zRo Z) (zLb Z) (zTk Z)) μ F' I' L h' ∧ MG h μ h' μ ∧ MRow (I' 78) 0 row := by
  obtain ⟨rw_, f0, ⟨f29, f30, f31, f32, f33, f34, f37, f40, f41, f42, f43, f44, f45, f46, f47, f48, f50⟩, qo, qq, qv⟩ := id r
  have lx : (row :: X).length = X.length + 1 := rfl
  rw [ho, lx] at f37
  obtain ⟨mh, fs, -, -⟩ := id rw_
  have A0 := j_X8_fetch_a_1 (d := d) (by omega) h μ.1 μ.2.1 F mh.1 _ f37 (nI_ne0 (by omega) (by omega))
  rw [nI_pred] at A0
  have rw1 := rw_.f (j := 37) (by decide) (by decide) (by decide) (.int (nI X.length))
  have qo : QOp (zOp Z) I := qo
  rw [ho] at qo
  obtain ⟨o1, o2⟩ := qo X.length (Nat.lt_succ_self _)
  have eg : (row :: X).reverse.getD X.length [] = row := by rw [List.reverse_cons, getD_app_hi (by rw [List.length_reverse]; exact Nat.le_refl _), List.length_reverse, Nat.sub_self]; rfl
  rw [eg] at o1 o2
  have R1 : RZ t0 T (mkZ (zTh Z) (zSp Z) (zGo Z) (zMo Z) (zBo Z) (zWi Z) (X) (zQu Z) (zGn Z) (zPl Z) (zVa Z) (zFa Z) (zGu Z) (zCu Z) (zRo Z) (zLb Z) (zTk Z)) μ (va_up F 37 (.int (nI X.length))) I L (hs h 65 (ob 8 (fo 53 (va_up F 37 (.int (nI X.length)))))) := by
    refine ⟨rw1, (up_ne (by decide)).trans f0, ⟨(up_ne (by decide)).trans (f29), (up_ne (by decide)).trans (f30), (up_ne (by decide)).trans (f31), (up_ne (by decide)).trans (f32), (up_ne (by decide)).trans (f33), (up_ne (by decide)).trans (f34), up_eq, (up_ne (by decide)).trans (f40), (up_ne (by decide)).trans (f41), (up_ne (by decide)).trans (f42), (up_ne (by decide)).trans (f43), (up_ne (by decide)).trans (f44), (up_ne (by decide)).trans (f45), (up_ne (by decide)).trans (f46), (up_ne (by decide)).trans (f47), (up_ne (by decide)).trans (f48), (up_ne (by decide)).trans (f50)⟩, fun i hi => ?_, qq, qv⟩
    have hi : i < X.length := hi
    have := qo i (by rw [lx]; omega)
    rw [List.reverse_cons, getD_app_lo (by rw [List.length_reverse]; exact hi)] at this
    exact this
  have g1 : MG h μ (hs h 65 (ob 8 (fo 53 (va_up F 37 (.int (nI X.length)))))) μ := MG.s (by decide)
  have e37 : va_up F 37 (.int (nI X.length)) 37 = .int (nI X.length) := up_eq
  generalize va_up F 37 (.int (nI X.length)) = F1 at *
  generalize hs h 65 (ob 8 (fo 53 F1)) = h1 at *
  obtain ⟨mh1, fs1, -, -⟩ := id rw1
  have v37 : vp_in (nI X.length) 256 := vp_in_nI (by omega) (by decide)
  have c37 : (nI X.length).toNatClampNeg = X.length := nI_clamp (by omega)
  have loop : ∀ m k g, k + m = row.length → (∀ j, j < k → g j = if row.getD j false then 1 else 0) → ∃ g', E false mX8_fetch d 89 [(0, .ref 65), (1, .int (nI k))] [] (hs h1 78 (ia 12006 g)) (some (.int (nI row.length))) (hs h1 78 (ia 12006 g')) ∧ ∀ j, j < row.length → g' j = if row.getD j false then 1 else 0 := by
    intro m
    induction m with
    | zero =>
      intro k g hk hg
      have ek : k = row.length := by omega
      have mh2 := mh1.wi (x := 78) (n := 12006) (by decide) g
      have C := j_X8_fetch_c_1 (d := d) (by omega) (hs h1 78 (ia 12006 g)) (nI k) μ.1 μ.2.1 F1 mh2.1 (fs1.r (by decide)) _ e37 256 ((va_up I 78 g) 88) (mh2.i (by decide)) (by assumption) (nI row.length) (by rw [up_ne (by decide), c37]; exact o1) (nI_le (by omega) (by omega)) (nI row.length) (by rw [up_ne (by decide), c37]; exact o1)
      exact ⟨g, C, fun j hj => hg j (by omega)⟩
    | succ m ih =>
      intro k g hk hg
      have mh2 := mh1.wi (x := 78) (n := 12006) (by decide) g
      have p1 : (256 * nI X.length) + nI k = nI (256 * X.length + k) := by rw [show (256 : Int32) = nI 256 from rfl, pk_mul, nI_add]
      have vp : vp_in (nI (256 * X.length + k)) 65536 := vp_in_nI (by omega) (by decide)
      have vk : vp_in (nI k) 12006 := vp_in_nI (by omega) (by decide)
      have C := j_X8_fetch_c_2 (d := d) (by omega) (hs h1 78 (ia 12006 g)) (nI k) μ.1 μ.2.1 F1 mh2.1 (fs1.r (by decide)) _ e37 256 ((va_up I 78 g) 88) (mh2.i (by decide)) (by assumption) _ (by rw [up_ne (by decide), c37]; exact o1) (nI_ge (by omega) (by omega)) (fs1.r (by decide)) (fs1.r (by decide)) _ p1 65536 ((va_up I 78 g) 87) (mh2.i (by decide)) (by assumption) (if row.getD k false then 1 else 0) (by rw [up_ne (by decide), nI_clamp (by omega)]; exact o2 k (by omega)) 12006 ((va_up I 78 g) 78) (mh2.i (by decide)) (by assumption)
      rw [nI_clamp (n := k) (by omega), up_eq, hs_hs, nI_1] at C
      obtain ⟨g', x1, x2⟩ := ih (k + 1) (upd g k (if row.getD k false then 1 else 0)) (by omega) (fun j hj => by
        by_cases e : j = k
        · rw [e, pk_us]
        · rw [pk_un e]; exact hg j (by omega))
      exact ⟨g', E.st C x1, x2⟩
  obtain ⟨g', x1, x2⟩ := loop row.length 0 (I 78) (Nat.zero_add _) (fun j hj => absurd hj (Nat.not_lt_zero _))
  rw [hs_id (mh1.i (by decide))] at x1
  exact ⟨F1, _, _, E.st A0 x1, R1.alt g', g1.tr (MG.s (by decide)), fun j hj => by rw [up_eq, Nat.zero_add]; exact x2 j hj⟩
theorem m_fetchQ {t0 : Int32} {T : NT} {Z : ZS} {μ : KM} {F : Nat → Value} {I : AI} {L : AL} {h : AH} {d : Nat} {row : Row} {qu : List Row} (r : RZ t0 T Z μ F I L h) (ho : zOp Z = []) (hq : zQu Z = row :: qu) (hg : zGn Z < 511) (hr : row.length ≤ 60) (hb : 1 ≤ zBo Z ∧ zBo Z ≤ 60) : ∃ F' I' h', CM mX8_fetch d [.ref 65] h (some (.int (nI row.length))) h' ∧ RZ t0 T (mkZ (zTh Z) (zSp Z) (zGo Z) (zMo Z) (zBo Z) (row.length / zBo Z) ([]) (qu) (zGn Z + 1) (zPl Z) (zVa Z) (zFa Z) (zGu Z) (zCu Z) (zRo Z) (zLb Z) (zTk Z)) μ F' I' L h' ∧ MG h μ h' μ ∧ MRow (I' 78) 0 row := by
  obtain ⟨rw_, f0, ⟨f29, f30, f31, f32, f33, f34, f37, f40, f41, f42, f43, f44, f45, f46, f47, f48, f50⟩, qo, qq, qv⟩ := id r
  rw [ho] at f37
  have qq : QQu (zQu Z) (zGn Z) I := qq
  rw [hq] at qq f40
  obtain ⟨mh, fs, -, -⟩ := id rw_
  obtain ⟨o1, o2⟩ := qq 0 (Nat.succ_pos _)
  have eg : (row :: qu).getD 0 [] = row := rfl
  rw [eg, Nat.add_zero] at o1 o2
  have v41 : vp_in (nI (zGn Z)) 512 := vp_in_nI (by omega) (by decide)
  have c41 : (nI (zGn Z)).toNatClampNeg = zGn Z := nI_clamp (by omega)
  have A0 := j_X8_fetch_a_2 (d := d) (by omega) h μ.1 μ.2.1 F mh.1 _ f37 rfl (fs.r (by decide)) _ f41 512 (I 90) (mh.i (by decide)) (by assumption) _ (by rw [c41]; exact o1) _ f33 (nI_ne0 (by omega) (by omega)) _ (div_nI _ (by omega) _ (by omega) (by omega))
  have rw1 := rw_.f (j := 34) (by decide) (by decide) (by decide) (.int (nI (row.length / zBo Z)))
  have g1 : MG h μ (hs h 65 (ob 8 (fo 53 (va_up F 34 (.int (nI (row.length / zBo Z))))))) μ := MG.s (by decide)
  have R1 : RZ t0 T (mkZ (zTh Z) (zSp Z) (zGo Z) (zMo Z) (zBo Z) (row.length / zBo Z) ([]) (qu) (zGn Z + 1) (zPl Z) (zVa Z) (zFa Z) (zGu Z) (zCu Z) (zRo Z) (zLb Z) (zTk Z)) μ (va_up (va_up F 34 (.int (nI (row.length / zBo Z)))) 41 (.int (nI (zGn Z + 1)))) I L (hs (hs h 65 (ob 8 (fo 53 (va_up F 34 (.int (nI (row.length / zBo Z))))))) 65 (ob 8 (fo 53 (va_up (va_up F 34 (.int (nI (row.length / zBo Z)))) 41 (.int (nI (zGn Z + 1))))))) := by
    refine ⟨rw1.f (j := 41) (by decide) (by decide) (by decide) _, (up_ne (by decide)).trans ((up_ne (by decide)).trans f0), ?_, (fun i hi => absurd hi (Nat.not_lt_zero _)), fun i hi => ?_, qv⟩
    · have f40 : F 40 = .int (nI (zGn Z + 1 + qu.length)) := by rw [f40]; congr 2; show zGn Z + (qu.length + 1) = _; omega
      exact ⟨(up_ne (by decide)).trans ((up_ne (by decide)).trans (f29)), (up_ne (by decide)).trans ((up_ne (by decide)).trans (f30)), (up_ne (by decide)).trans ((up_ne (by decide)).trans (f31)), (up_ne (by decide)).trans ((up_ne (by decide)).trans (f32)), (up_ne (by decide)).trans ((up_ne (by decide)).trans (f33)), (up_ne (by decide)).trans (up_eq), (up_ne (by decide)).trans ((up_ne (by decide)).trans (f37)), (up_ne (by decide)).trans ((up_ne (by decide)).trans (f40)), up_eq, (up_ne (by decide)).trans ((up_ne (by decide)).trans (f42)), (up_ne (by decide)).trans ((up_ne (by decide)).trans (f43)), (up_ne (by decide)).trans ((up_ne (by decide)).trans (f44)), (up_ne (by decide)).trans ((up_ne (by decide)).trans (f45)), (up_ne (by decide)).trans ((up_ne (by decide)).trans (f46)), (up_ne (by decide)).trans ((up_ne (by decide)).trans (f47)), (up_ne (by decide)).trans ((up_ne (by decide)).trans (f48)), (up_ne (by decide)).trans ((up_ne (by decide)).trans (f50))⟩
    · have hi : i < qu.length := hi
      have := qq (i + 1) (by show i + 1 < qu.length + 1; omega)
      rw [show (row :: qu).getD (i + 1) [] = qu.getD i [] from rfl, show zGn Z + (i + 1) = zGn Z + 1 + i by omega] at this
      exact this
  have e41 : va_up F 34 (.int (nI (row.length / zBo Z))) 41 = .int (nI (zGn Z)) := (up_ne (by decide)).trans f41
  generalize va_up F 34 (.int (nI (row.length / zBo Z))) = F1 at *
  generalize hh : hs h 65 (ob 8 (fo 53 F1)) = h1 at *
  obtain ⟨mh1, fs1, -, -⟩ := id rw1
  have loop : ∀ m k g, k + m = row.length → (∀ j, j < k → g j = if row.getD j false then 1 else 0) → ∃ g', E false mX8_fetch d 29 [(0, .ref 65), (1, .int (nI row.length)), (2, .int (nI k))] [] (hs h1 78 (ia 12006 g)) (some (.int (nI row.length))) (hs (hs h1 78 (ia 12006 g')) 65 (ob 8 (fo 53 (va_up F1 41 (.int (nI (zGn Z + 1))))))) ∧ ∀ j, j < row.length → g' j = if row.getD j false then 1 else 0 := by
    intro m
    induction m with
    | zero =>
      intro k g hk hg
      have ek : k = row.length := by omega
      have mh2 := mh1.wi (x := 78) (n := 12006) (by decide) g
      have C := j_X8_fetch_b_1 (d := d) (by omega) (hs h1 78 (ia 12006 g)) (nI row.length) (nI k) μ.1 μ.2.1 (nI_le (by omega) (by omega)) F1 mh2.1 _ e41
      rw [nI_1] at C
      exact ⟨g, C, fun j hj => hg j (by omega)⟩
    | succ m ih =>
      intro k g hk hg
      have mh2 := mh1.wi (x := 78) (n := 12006) (by decide) g
      have p1 : (256 * (nI (zGn Z) - nI (zGn Z) / 512 * 512)) + nI k = nI (256 * zGn Z + k) := by rw [div_512 _ (by omega), show (256 : Int32) = nI 256 from rfl, pk_mul, nI_add]
      have vp : vp_in (nI (256 * zGn Z + k)) 131072 := vp_in_nI (by omega) (by decide)
      have vk : vp_in (nI k) 12006 := vp_in_nI (by omega) (by decide)
      have C := j_X8_fetch_b_2 (d := d) (by omega) (hs h1 78 (ia 12006 g)) (nI row.length) (nI k) μ.1 μ.2.1 (nI_ge (by omega) (by omega)) F1 mh2.1 (fs1.r (by decide)) (fs1.r (by decide)) _ e41 _ p1 131072 ((va_up I 78 g) 89) (mh2.i (by decide)) (by assumption) (if row.getD k false then 1 else 0) (by rw [up_ne (by decide), nI_clamp (by omega)]; exact o2 k (by omega)) 12006 ((va_up I 78 g) 78) (mh2.i (by decide)) (by assumption)
      rw [nI_clamp (n := k) (by omega), up_eq, hs_hs, nI_1] at C
      obtain ⟨g', x1, x2⟩ := ih (k + 1) (upd g k (if row.getD k false then 1 else 0)) (by omega) (fun j hj => by
        by_cases e : j = k
        · rw [e, pk_us]
        · rw [pk_un e]; exact hg j (by omega))
      exact ⟨g', E.st C x1, x2⟩
  obtain ⟨g', x1, x2⟩ := loop row.length 0 (I 78) (Nat.zero_add _) (fun j hj => absurd hj (Nat.not_lt_zero _))
  rw [hs_id (mh1.i (by decide)), hs_comm (by decide)] at x1
  exact ⟨_, _, _, E.st A0 x1, R1.alt g', (g1.tr (MG.s (x := 65) (by decide))).tr (MG.s (by decide)), fun j hj => by rw [up_eq, Nat.zero_add]; exact x2 j hj⟩
theorem m_copyO {μ : KM} {F : Nat → Value} {I : AI} {L : AL} {h : AH} {d i : Nat} {row : Row} (mh : MH μ F I L h) (fs : FS μ F) (hb : MRow (I 78) 0 row) (hr : row.length ≤ 60) (hi : 256 * i + 256 ≤ 65536) (b : Bool) {a : Int32} (ha : a = if b then 1 else 0) : ∃ g', CM mX8_copy d [.ref 65, .ref 87, .int (nI (256 * i)), .int (nI row.length), .int a] h none (hs h 87 (ia 65536 g')) ∧ (∀ j, j < 256 * i → g' j = I 87 j) ∧ MRow g' (256 * i) (row ++ [b]) := by
  have loop : ∀ m k g, k + m = row.length → (∀ j, j < 256 * i → g j = I 87 j) → (∀ j, j < k → g (256 * i + j) = if row.getD j false then 1 else 0) → ∃ g', E false mX8_copy d 3 [(0, .ref 65), (1, .ref 87), (2, .int (nI (256 * i))), (3, .int (nI row.length)), (4, .int a), (5, .int (nI k))] [] (hs h 87 (ia 65536 g)) none (hs h 87 (ia 65536 g')) ∧ (∀ j, j < 256 * i → g' j = I 87 j) ∧ MRow g' (256 * i) (row ++ [b]) := by
    intro m
    induction m with
    | zero =>
      intro k g hk h1 h2
      have ek : k = row.length := by omega
      have mh2 := mh.wi (x := 87) (n := 65536) (by decide) g
      have C := j_X8_copy_ob_1 (d := d) (by omega) (hs h 87 (ia 65536 g)) (nI (256 * i)) (nI row.length) a (nI k) μ.1 μ.2.1 (nI_le (by omega) (by omega)) 65536 ((va_up I 87 g) 87) (mh2.i (by decide)) (by rw [nI_add]; exact vp_in_nI (by omega) (by decide))
      rw [nI_add, nI_clamp (by omega), up_eq, hs_hs] at C
      refine ⟨_, C, fun j hj => by rw [pk_un (by omega)]; exact h1 j hj, fun j hj => ?_⟩
      rw [List.length_append] at hj
      have hj : j < row.length + 1 := hj
      by_cases e : j = row.length
      · rw [e, pk_us, getD_app_hi (Nat.le_refl _), Nat.sub_self]
        exact ha
      · rw [pk_un (by omega), getD_app_lo (by omega)]
        exact h2 j (by omega)
    | succ m ih =>
      intro k g hk h1 h2
      have mh2 := mh.wi (x := 87) (n := 65536) (by decide) g
      have vk : vp_in (nI k) 12006 := vp_in_nI (by omega) (by decide)
      have C := j_X8_copy_ob_2 (d := d) (by omega) (hs h 87 (ia 65536 g)) (nI (256 * i)) (nI row.length) a (nI k) μ.1 μ.2.1 (nI_ge (by omega) (by omega)) F mh2.1 (fs.r (by decide)) 12006 ((va_up I 87 g) 78) (mh2.i (by decide)) (by assumption) (if row.getD k false then 1 else 0) (by rw [up_ne (by decide), nI_clamp (by omega)]; have := hb k (by omega); rw [Nat.zero_add] at this; exact this) 65536 ((va_up I 87 g) 87) (mh2.i (by decide)) (by rw [nI_add]; exact vp_in_nI (by omega) (by decide))
      rw [nI_add, nI_clamp (n := 256 * i + k) (by omega), up_eq, hs_hs, nI_1] at C
      obtain ⟨g', x1, x2⟩ := ih (k + 1) (upd g (256 * i + k) (if row.getD k false then 1 else 0)) (by omega) (fun j hj => by rw [pk_un (by omega)]; exact h1 j hj) (fun j hj => by
        by_cases e : j = k
        · rw [e, pk_us]
        · rw [pk_un (by omega)]; exact h2 j (by omega))
      exact ⟨g', E.st C x1, x2⟩
  obtain ⟨g', x1, x2⟩ := loop row.length 0 (I 87) (Nat.zero_add _) (fun _ _ => rfl) (fun j hj => absurd hj (Nat.not_lt_zero _))
  rw [hs_id (mh.i (by decide))] at x1
  exact ⟨g', E.st (j_X8_copy_oa_1 (Nat.zero_le _) h (nI (256 * i)) (nI row.length) a 0 0) x1, x2⟩
theorem m_copyL {μ : KM} {F : Nat → Value} {I : AI} {L : AL} {h : AH} {d i : Nat} {row : Row} (mh : MH μ F I L h) (fs : FS μ F) (hb : MRow (I 78) 0 row) (hr : row.length ≤ 60) (hi : 256 * i + 256 ≤ 131072) (b : Bool) {a : Int32} (ha : a = if b then 1 else 0) : ∃ g', CM mX8_copy d [.ref 65, .ref 89, .int (nI (256 * i)), .int (nI row.length), .int a] h none (hs h 89 (ia 131072 g')) ∧ (∀ j, j < 256 * i → g' j = I 89 j) ∧ MRow g' (256 * i) (row ++ [b]) := by
  have loop : ∀ m k g, k + m = row.length → (∀ j, j < 256 * i → g j = I 89 j) → (∀ j, j < k → g (256 * i + j) = if row.getD j false then 1 else 0) → ∃ g', E false mX8_copy d 3 [(0, .ref 65), (1, .ref 89), (2, .int (nI (256 * i))), (3, .int (nI row.length)), (4, .int a), (5, .int (nI k))] [] (hs h 89 (ia 131072 g)) none (hs h 89 (ia 131072 g')) ∧ (∀ j, j < 256 * i → g' j = I 89 j) ∧ MRow g' (256 * i) (row ++ [b]) := by
    intro m
    induction m with
    | zero =>
      intro k g hk h1 h2
      have ek : k = row.length := by omega
      have mh2 := mh.wi (x := 89) (n := 131072) (by decide) g
      have C := j_X8_copy_lb_1 (d := d) (by omega) (hs h 89 (ia 131072 g)) (nI (256 * i)) (nI row.length) a (nI k) μ.1 μ.2.1 (nI_le (by omega) (by omega)) 131072 ((va_up I 89 g) 89) (mh2.i (by decide)) (by rw [nI_add]; exact vp_in_nI (by omega) (by decide))
      rw [nI_add, nI_clamp (by omega), up_eq, hs_hs] at C
      refine ⟨_, C, fun j hj => by rw [pk_un (by omega)]; exact h1 j hj, fun j hj => ?_⟩
      rw [List.length_append] at hj
      have hj : j < row.length + 1 := hj
      by_cases e : j = row.length
      · rw [e, pk_us, getD_app_hi (Nat.le_refl _), Nat.sub_self]
        exact ha
      · rw [pk_un (by omega), getD_app_lo (by omega)]
        exact h2 j (by omega)
    | succ m ih =>
      intro k g hk h1 h2
      have mh2 := mh.wi (x := 89) (n := 131072) (by decide) g
      have vk : vp_in (nI k) 12006 := vp_in_nI (by omega) (by decide)
      have C := j_X8_copy_lb_2 (d := d) (by omega) (hs h 89 (ia 131072 g)) (nI (256 * i)) (nI row.length) a (nI k) μ.1 μ.2.1 (nI_ge (by omega) (by omega)) F mh2.1 (fs.r (by decide)) 12006 ((va_up I 89 g) 78) (mh2.i (by decide)) (by assumption) (if row.getD k false then 1 else 0) (by rw [up_ne (by decide), nI_clamp (by omega)]; have := hb k (by omega); rw [Nat.zero_add] at this; exact this) 131072 ((va_up I 89 g) 89) (mh2.i (by decide)) (by rw [nI_add]; exact vp_in_nI (by omega) (by decide))
      rw [nI_add, nI_clamp (n := 256 * i + k) (by omega), up_eq, hs_hs, nI_1] at C
      obtain ⟨g', x1, x2⟩ := ih (k + 1) (upd g (256 * i + k) (if row.getD k false then 1 else 0)) (by omega) (fun j hj => by rw [pk_un (by omega)]; exact h1 j hj) (fun j hj => by
        by_cases e : j = k
        · rw [e, pk_us]
        · rw [pk_un (by omega)]; exact h2 j (by omega))
      exact ⟨g', E.st C x1, x2⟩
  obtain ⟨g', x1, x2⟩ := loop row.length 0 (I 89) (Nat.zero_add _) (fun _ _ => rfl) (fun j hj => absurd hj (Nat.not_lt_zero _))
  rw [hs_id (mh.i (by decide))] at x1
  exact ⟨g', E.st (j_X8_copy_la_1 (Nat.zero_le _) h (nI (256 * i)) (nI row.length) a 0 0) x1, x2⟩
