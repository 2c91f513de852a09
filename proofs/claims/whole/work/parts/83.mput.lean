/-! the reference puts rows behind a decision, and ends a way -/
theorem getD_in {α : Type} {x : α} : ∀ {l : List α} {i : Nat}, i < l.length → l.getD i x ∈ l
  | [], i, h => absurd h (Nat.not_lt_zero _)
  | a :: l, 0, _ => List.mem_cons_self
  | a :: l, i + 1, h => List.mem_cons_of_mem _ (getD_in (l := l) (i := i) (Nat.lt_of_succ_lt_succ h))
theorem alt_w {w : Nat} (h : w ≤ 1) : nI w = if (w == 1) then 1 else 0 := by
  have : w = 0 ∨ w = 1 := by omega
  rcases this with rfl | rfl <;> rfl
theorem alt_v {w : Nat} (h : w ≤ 1) : (1 : Int32) - nI w = if (w == 0) then 1 else 0 := by
  have : w = 0 ∨ w = 1 := by omega
  rcases this with rfl | rfl <;> rfl
theorem m_pushO {t0 : Int32} {T : NT} {Z : ZS} {μ : KM} {F : Nat → Value} {I : AI} {L : AL} {h : AH} {d : Nat} {row : Row} {w : Nat} (r : RZ t0 T Z μ F I L h) (hb : MRow (I 78) 0 row) (hr : row.length ≤ 60) (ho : (zOp Z).length < 255) (h60 : ∀ r ∈ zOp Z, r.length ≤ 60) (hw : w ≤ 1) (hd : 1 ≤ d) : ∃ F' I' h', J false mX8_decide d 58 [(0, .ref 65), (1, .int (nI row.length)), (2, .int 0), (3, .int (nI w))] [] h 58 [(0, .ref 65), (1, .int (nI row.length)), (2, .int 0), (3, .int (nI w + (-1)))] [] h' ∧ RZ t0 T (mkZ (zTh Z) (zSp Z) (zGo Z) (zMo Z) (zBo Z) (zWi Z) ((row ++ [w == 1]) :: zOp Z) (zQu Z) (zGn Z) (zPl Z) (zVa Z) (zFa Z) (zGu Z) (zCu Z) (zRo Z) (zLb Z) (zTk Z)) μ F' I' L h' ∧ MG h μ h' μ ∧ I' 78 = I 78 := by
  obtain ⟨rw_, f0, ⟨f29, f30, f31, f32, f33, f34, f37, f40, f41, f42, f43, f44, f45, f46, f47, f48, f50⟩, qo, qq, qv⟩ := id r
  obtain ⟨mh, fs, -, -⟩ := id rw_
  have A0 := j_X8_decide_b_2 (d := d) (by omega) h (nI row.length) 0 (nI w) μ.1 μ.2.1 (nI_pos (by omega)) rfl F mh.1 (fs.r (by decide)) _ f37 (nI (256 * (zOp Z).length)) (by rw [show (256 : Int32) = nI 256 from rfl, pk_mul])
  obtain ⟨g', C, k1, k2⟩ := m_copyO (d := 0) mh fs hb hr (i := (zOp Z).length) (by omega) (w == 1) (alt_w hw)
  have mh2 := mh.wi (x := 87) (n := 65536) (by decide) g'
  have v37 : vp_in (nI (zOp Z).length) 256 := vp_in_nI (by omega) (by decide)
  have D := j_X8_decide_d_1 (d := d) (by omega) (hs h 87 (ia 65536 g')) (nI row.length) 0 (nI w) μ.1 μ.2.1 F mh2.1 (fs.r (by decide)) _ f37 256 ((va_up I 87 g') 88) (mh2.i (by decide)) (by assumption)
  rw [nI_clamp (by omega), nI_1, nI_1, up_ne (by decide)] at D
  have rw1 := ((rw_.i (x := 87) (n := 65536) (by decide) (by decide) g').i (x := 88) (n := 256) (by decide) (by decide) (upd (I 88) (zOp Z).length (nI (row.length + 1)))).f (j := 37) (by decide) (by decide) (by decide) (.int (nI ((zOp Z).length + 1)))
  refine ⟨_, _, _, J.tr A0 (J.tr (s_invv dX8_decide_139 rfl lX8_268 (by omega) rfl (Nat.le_of_ble_eq_true rfl) rfl (Nat.le_of_ble_eq_true rfl) mh.1 C (fun h => nomatch h)) D), ⟨rw1, (up_ne (by decide)).trans f0, ⟨(up_ne (by decide)).trans (f29), (up_ne (by decide)).trans (f30), (up_ne (by decide)).trans (f31), (up_ne (by decide)).trans (f32), (up_ne (by decide)).trans (f33), (up_ne (by decide)).trans (f34), up_eq, (up_ne (by decide)).trans (f40), (up_ne (by decide)).trans (f41), (up_ne (by decide)).trans (f42), (up_ne (by decide)).trans (f43), (up_ne (by decide)).trans (f44), (up_ne (by decide)).trans (f45), (up_ne (by decide)).trans (f46), (up_ne (by decide)).trans (f47), (up_ne (by decide)).trans (f48), (up_ne (by decide)).trans (f50)⟩, fun i hi => ?_, ?_, ?_⟩, ((MG.s (by decide)).tr (MG.s (x := 88) (by decide))).tr (MG.s (x := 65) (by decide)), (up_ne (by decide)).trans (up_ne (by decide))⟩
  · have hi : i < (zOp Z).length + 1 := hi
    have lr : (zOp Z).reverse.length = (zOp Z).length := List.length_reverse
    show va_up (va_up I 87 g') 88 (upd (I 88) (zOp Z).length (nI (row.length + 1))) 88 i = nI (((row ++ [w == 1]) :: zOp Z).reverse.getD i []).length ∧ MRow (va_up (va_up I 87 g') 88 (upd (I 88) (zOp Z).length (nI (row.length + 1))) 87) (256 * i) (((row ++ [w == 1]) :: zOp Z).reverse.getD i [])
    rw [up_eq, up_ne (by decide), up_eq, List.reverse_cons]
    by_cases e : i = (zOp Z).length
    · rw [e, pk_us, getD_app_hi (by omega), lr, Nat.sub_self]
      exact ⟨by show _ = nI (row ++ [w == 1]).length; rw [List.length_append]; rfl, k2⟩
    · rw [pk_un e, getD_app_lo (by omega)]
      obtain ⟨o1, o2⟩ := qo i (by omega)
      have l6 := h60 _ (List.mem_reverse.mp (getD_in (x := ([] : Row)) (l := (zOp Z).reverse) (i := i) (by omega)))
      exact ⟨o1, o2.fr (fun j hj => k1 _ (by omega))⟩
  · unfold QQu
    rw [up_ne (by decide), up_ne (by decide), up_ne (by decide), up_ne (by decide)]
    exact qq
  · unfold QVa
    rw [up_ne (by decide), up_ne (by decide), up_ne (by decide), up_ne (by decide)]
    exact qv
theorem m_pushQ {t0 : Int32} {T : NT} {Z : ZS} {μ : KM} {F : Nat → Value} {I : AI} {L : AL} {h : AH} {d : Nat} {row : Row} {w : Nat} (r : RZ t0 T Z μ F I L h) (hb : MRow (I 78) 0 row) (hr : row.length ≤ 60) (ho : zGn Z + (zQu Z).length < 511) (h60 : ∀ r ∈ zQu Z, r.length ≤ 60) (hw : w ≤ 1) (hd : 1 ≤ d) : ∃ F' I' h', J false mX8_decide d 58 [(0, .ref 65), (1, .int (nI row.length)), (2, .int 1), (3, .int (nI w))] [] h 58 [(0, .ref 65), (1, .int (nI row.length)), (2, .int 1), (3, .int (nI w + (-1)))] [] h' ∧ RZ t0 T (mkZ (zTh Z) (zSp Z) (zGo Z) (zMo Z) (zBo Z) (zWi Z) (zOp Z) (zQu Z ++ [row ++ [w == 0]]) (zGn Z) (zPl Z) (zVa Z) (zFa Z) (zGu Z) (zCu Z) (zRo Z) (zLb Z) (zTk Z)) μ F' I' L h' ∧ MG h μ h' μ ∧ I' 78 = I 78 := by
  obtain ⟨rw_, f0, ⟨f29, f30, f31, f32, f33, f34, f37, f40, f41, f42, f43, f44, f45, f46, f47, f48, f50⟩, qo, qq, qv⟩ := id r
  obtain ⟨mh, fs, -, -⟩ := id rw_
  have A0 := j_X8_decide_b_3 (d := d) (by omega) h (nI row.length) 1 (nI w) μ.1 μ.2.1 (nI_pos (by omega)) (by decide) _ rfl F mh.1 (fs.r (by decide)) _ f40 (nI (256 * (zGn Z + (zQu Z).length))) (by rw [show (256 : Int32) = nI 256 from rfl, pk_mul])
  obtain ⟨g', C, k1, k2⟩ := m_copyL (d := 0) mh fs hb hr (i := zGn Z + (zQu Z).length) (by omega) (w == 0) (alt_v hw)
  have mh2 := mh.wi (x := 89) (n := 131072) (by decide) g'
  have v40 : vp_in (nI (zGn Z + (zQu Z).length)) 512 := vp_in_nI (by omega) (by decide)
  have D := j_X8_decide_c_1 (d := d) (by omega) (hs h 89 (ia 131072 g')) (nI row.length) 1 (nI w) μ.1 μ.2.1 F mh2.1 (fs.r (by decide)) _ f40 512 ((va_up I 89 g') 90) (mh2.i (by decide)) (by assumption)
  rw [nI_clamp (by omega), nI_1, nI_1, up_ne (by decide)] at D
  have rw1 := ((rw_.i (x := 89) (n := 131072) (by decide) (by decide) g').i (x := 90) (n := 512) (by decide) (by decide) (upd (I 90) (zGn Z + (zQu Z).length) (nI (row.length + 1)))).f (j := 40) (by decide) (by decide) (by decide) (.int (nI (zGn Z + (zQu Z).length + 1)))
  have eq : zGn Z + (zQu Z ++ [row ++ [w == 0]]).length = zGn Z + (zQu Z).length + 1 := by rw [List.length_append]; rfl
  refine ⟨_, _, _, J.tr A0 (J.tr (s_invv dX8_decide_95 rfl lX8_268 (by omega) rfl (Nat.le_of_ble_eq_true rfl) rfl (Nat.le_of_ble_eq_true rfl) mh.1 C (fun h => nomatch h)) D), ⟨rw1, (up_ne (by decide)).trans f0, ⟨(up_ne (by decide)).trans (f29), (up_ne (by decide)).trans (f30), (up_ne (by decide)).trans (f31), (up_ne (by decide)).trans (f32), (up_ne (by decide)).trans (f33), (up_ne (by decide)).trans (f34), (up_ne (by decide)).trans (f37), (by rw [eq]; exact up_eq), (up_ne (by decide)).trans (f41), (up_ne (by decide)).trans (f42), (up_ne (by decide)).trans (f43), (up_ne (by decide)).trans (f44), (up_ne (by decide)).trans (f45), (up_ne (by decide)).trans (f46), (up_ne (by decide)).trans (f47), (up_ne (by decide)).trans (f48), (up_ne (by decide)).trans (f50)⟩, ?_, fun i hi => ?_, ?_⟩, ((MG.s (by decide)).tr (MG.s (x := 90) (by decide))).tr (MG.s (x := 65) (by decide)), (up_ne (by decide)).trans (up_ne (by decide))⟩
  · unfold QOp
    rw [up_ne (by decide), up_ne (by decide), up_ne (by decide), up_ne (by decide)]
    exact qo
  · have hi : i < (zQu Z ++ [row ++ [w == 0]]).length := hi
    rw [List.length_append] at hi
    have hi : i < (zQu Z).length + 1 := hi
    show va_up (va_up I 89 g') 90 (upd (I 90) (zGn Z + (zQu Z).length) (nI (row.length + 1))) 90 (zGn Z + i) = nI ((zQu Z ++ [row ++ [w == 0]]).getD i []).length ∧ MRow (va_up (va_up I 89 g') 90 (upd (I 90) (zGn Z + (zQu Z).length) (nI (row.length + 1))) 89) (256 * (zGn Z + i)) ((zQu Z ++ [row ++ [w == 0]]).getD i [])
    rw [up_eq, up_ne (by decide), up_eq]
    by_cases e : i = (zQu Z).length
    · rw [e, pk_us, getD_app_hi (Nat.le_refl _), Nat.sub_self]
      exact ⟨by show _ = nI (row ++ [w == 0]).length; rw [List.length_append]; rfl, k2⟩
    · rw [pk_un (by omega), getD_app_lo (by omega)]
      obtain ⟨o1, o2⟩ := qq i (by omega)
      have l6 := h60 _ (getD_in (x := ([] : Row)) (l := zQu Z) (i := i) (by omega))
      exact ⟨o1, o2.fr (fun j hj => k1 _ (by omega))⟩
  · unfold QVa
    rw [up_ne (by decide), up_ne (by decide), up_ne (by decide), up_ne (by decide)]
    exact qv
theorem nI_inj60 : ∀ {a b : Nat}, a ≤ 60 → b ≤ 60 → nI a = nI b → a = b := by
  have : ∀ a, a ≤ 60 → ∀ b, b ≤ 60 → nI a = nI b → a = b := by decide +kernel
  exact fun {a b} ha hb => this a ha b hb
theorem wm1 : nI 1 + (-1) = nI 0 := by decide
theorem m_decide {t0 : Int32} {T : NT} {Z : ZS} {μ : KM} {F : Nat → Value} {I : AI} {L : AL} {h : AH} {d : Nat} {row : Row} (r : RZ t0 T Z μ F I L h) (hb : MRow (I 78) 0 row) (hr : row.length ≤ 59) (ho : (zOp Z).length < 254) (hq : zGn Z + (zQu Z).length < 510) (h60 : ∀ r ∈ zOp Z, r.length ≤ 60) (h61 : ∀ r ∈ zQu Z, r.length ≤ 60) (hm : zMo Z ≤ 2) (hbo : 1 ≤ zBo Z ∧ zBo Z ≤ 60) (hwi : zWi Z ≤ 60) (hd : 1 ≤ d) : ∃ F' I' h', CM mX8_decide d [.ref 65, .int (nI row.length)] h none h' ∧ RZ t0 T (deZ Z row) μ F' I' L h' ∧ MG h μ h' μ := by
  obtain ⟨rw_, f0, ⟨f29, f30, f31, f32, f33, f34, f37, f40, f41, f42, f43, f44, f45, f46, f47, f48, f50⟩, qo, qq, qv⟩ := id r
  obtain ⟨mh, fs, -, -⟩ := id rw_
  have two : ∀ (l : Int32), (∀ Z', zOp Z' = zOp Z → True) → True := fun _ _ => trivial
  have open2 : J false mX8_decide d 0 [(0, .ref 65), (1, .int (nI row.length))] [] h 58 [(0, .ref 65), (1, .int (nI row.length)), (2, .int 0), (3, .int 1)] [] h → ∃ F' I' h', CM mX8_decide d [.ref 65, .int (nI row.length)] h none h' ∧ RZ t0 T (mkZ (zTh Z) (zSp Z) (zGo Z) (zMo Z) (zBo Z) (zWi Z) ((row ++ [false]) :: (row ++ [true]) :: zOp Z) (zQu Z) (zGn Z) (zPl Z) (zVa Z) (zFa Z) (zGu Z) (zCu Z) (zRo Z) (zLb Z) (zTk Z)) μ F' I' L h' ∧ MG h μ h' μ := fun A0 => by
    obtain ⟨F1, I1, h1, j1, r1, g1, e1⟩ := m_pushO r hb (by omega) (by omega) h60 (w := 1) (Nat.le_refl _) hd
    obtain ⟨F2, I2, h2, j2, r2, g2, e2⟩ := m_pushO r1 (row := row) (by rw [e1]; exact hb) (by omega) (by show (zOp Z).length + 1 < 255; omega) (fun x hx => by
      rcases List.mem_cons.mp hx with q | q
      · rw [q, List.length_append]; show row.length + 1 ≤ 60; omega
      · exact h60 x q) (w := 0) (by omega) hd
    rw [wm1] at j1
    exact ⟨F2, I2, h2, E.st A0 (E.st j1 (E.st j2 (j_X8_decide_b_1 (Nat.zero_le _) h2 (nI row.length) 0 _ 0 0 (by decide)))), r2, g1.tr g2⟩
  have late2 : J false mX8_decide d 0 [(0, .ref 65), (1, .int (nI row.length))] [] h 58 [(0, .ref 65), (1, .int (nI row.length)), (2, .int 1), (3, .int 1)] [] h → ∃ F' I' h', CM mX8_decide d [.ref 65, .int (nI row.length)] h none h' ∧ RZ t0 T (mkZ (zTh Z) (zSp Z) (zGo Z) (zMo Z) (zBo Z) (zWi Z) (zOp Z) (zQu Z ++ [row ++ [false], row ++ [true]]) (zGn Z) (zPl Z) (zVa Z) (zFa Z) (zGu Z) (zCu Z) (zRo Z) (zLb Z) (zTk Z)) μ F' I' L h' ∧ MG h μ h' μ := fun A0 => by
    obtain ⟨F1, I1, h1, j1, r1, g1, e1⟩ := m_pushQ r hb (by omega) (by omega) h61 (w := 1) (Nat.le_refl _) hd
    obtain ⟨F2, I2, h2, j2, r2, g2, e2⟩ := m_pushQ r1 (row := row) (by rw [e1]; exact hb) (by omega) (by show zGn Z + (zQu Z ++ [row ++ [(1 : Nat) == 0]]).length < 511; rw [List.length_append]; show zGn Z + ((zQu Z).length + 1) < 511; omega) (fun x hx => by
      rcases List.mem_append.mp hx with q | q
      · exact h61 x q
      · rcases List.mem_cons.mp q with q | q
        · rw [q, List.length_append]; show row.length + 1 ≤ 60; omega
        · cases q) (w := 0) (by omega) hd
    rw [wm1] at j1
    have : zQu Z ++ [row ++ [false]] ++ [row ++ [true]] = zQu Z ++ [row ++ [false], row ++ [true]] := by rw [List.append_assoc]; rfl
    rw [← this]
    exact ⟨F2, I2, h2, E.st A0 (E.st j1 (E.st j2 (j_X8_decide_b_1 (Nat.zero_le _) h2 (nI row.length) 1 _ 0 0 (by decide)))), r2, g1.tr g2⟩
  have b0 : ¬ nI (zBo Z) = 0 := nI_ne0 (by omega) (by omega)
  have dv : (nI row.length + 1) / nI (zBo Z) = nI ((row.length + 1) / zBo Z) := by rw [nI_1]; exact div_nI _ (by omega) _ (by omega) (by omega)
  have dl : (row.length + 1) / zBo Z ≤ row.length + 1 := Nat.div_le_self _ _
  unfold deZ
  by_cases m2 : zMo Z = 2
  · by_cases rb : row.length = zBo Z
    · rw [if_pos ⟨m2, rb⟩]
      have A0 := (j_X8_decide_a_7 (d := d) (by omega) h (nI row.length) μ.1 μ.2.1 F mh.1 _ f32 (by rw [m2]; rfl) _ f33 (by rw [rb]) _ f46)
      rw [nI_1] at A0
      have rw1 := rw_.f (j := 46) (by decide) (by decide) (by decide) (.int (nI (zCu Z + 1)))
      exact ⟨_, _, _, A0, ⟨rw1, (up_ne (by decide)).trans f0, ⟨(up_ne (by decide)).trans (f29), (up_ne (by decide)).trans (f30), (up_ne (by decide)).trans (f31), (up_ne (by decide)).trans (f32), (up_ne (by decide)).trans (f33), (up_ne (by decide)).trans (f34), (up_ne (by decide)).trans (f37), (up_ne (by decide)).trans (f40), (up_ne (by decide)).trans (f41), (up_ne (by decide)).trans (f42), (up_ne (by decide)).trans (f43), (up_ne (by decide)).trans (f44), (up_ne (by decide)).trans (f45), up_eq, (up_ne (by decide)).trans (f47), (up_ne (by decide)).trans (f48), (up_ne (by decide)).trans (f50)⟩, qo, qq, qv⟩, MG.s (by decide)⟩
    · rw [if_neg (fun q => rb q.2), if_neg (fun q => by have := q.1; omega)]
      exact open2 (j_X8_decide_a_4 (d := d) (by omega) h (nI row.length) μ.1 μ.2.1 F mh.1 _ f32 (by rw [m2]; rfl) _ f33 (fun q => rb (nI_inj60 (by omega) (by omega) q)) (by rw [m2]; decide))
  · rw [if_neg (fun q => m2 q.1)]
    by_cases m1 : zMo Z = 1
    · by_cases wl : zWi Z < (row.length + 1) / zBo Z
      · rw [if_pos ⟨m1, wl⟩]
        exact late2 (j_X8_decide_a_3 (d := d) (by omega) h (nI row.length) μ.1 μ.2.1 F mh.1 _ f32 (nI_mo hm (by decide) m2) (by rw [m1]; rfl) _ f33 b0 _ dv _ f34 (nI_ge (by omega) (by omega)))
      · rw [if_neg (fun q => wl q.2)]
        exact open2 (j_X8_decide_a_2 (d := d) (by omega) h (nI row.length) μ.1 μ.2.1 F mh.1 _ f32 (nI_mo hm (by decide) m2) (by rw [m1]; rfl) _ f33 b0 _ dv _ f34 (nI_le (by omega) (by omega)))
    · rw [if_neg (fun q => m1 q.1)]
      exact open2 (j_X8_decide_a_1 (d := d) (by omega) h (nI row.length) μ.1 μ.2.1 F mh.1 _ f32 (nI_mo hm (by decide) m2) (nI_mo hm (by decide) m1))
