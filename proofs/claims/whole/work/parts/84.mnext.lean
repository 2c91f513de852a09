/-! the reference ends a way; it goes on to the next value -/
theorem nI_0lt {a : Nat} (h : 0 < a) (h2 : a < 2 ^ 31) : (0 : Int32) < nI a := nI_lt (a := 0) h h2
theorem nI_ne {a b : Nat} (ha : a < 2 ^ 31) (hb : b < 2 ^ 31) (n : a ≠ b) : ¬ nI a = nI b := fun q => n (by have := congrArg Int32.toNatClampNeg q; rw [nI_clamp ha, nI_clamp hb] at this; exact this)
theorem hs4 {H : AH} {a a' b b' : AC} {i j : Nat} (n : i ≠ j) : hs (hs (hs (hs H i a) j b) i a') j b' = hs (hs H i a') j b' := by rw [hs_comm (h := hs H i a) (Ne.symm n), hs_hs, hs_hs]
theorem m_ends {t0 : Int32} {T : NT} {Z : ZS} {μ : KM} {F : Nat → Value} {I : AI} {L : AL} {h : AH} {d : Nat} {row : Row} {rr : Rs} (r : RZ t0 T Z μ F I L h) (mr : RMr T rr μ F I L h) (hc : rr.1 ≤ 2) (ht : sTold rr.2 0 = row) (hr : row.length ≤ 60) : ∃ F' I' L' h', CM mX8_ends d [.ref 65, .int (nI row.length)] h (some (.int (bI (enZ Z row rr).1))) h' ∧ RZ t0 T (enZ Z row rr).2 μ F' I' L' h' ∧ MG h μ h' μ := by
  obtain ⟨rw_, f0, ⟨f29, f30, f31, f32, f33, f34, f37, f40, f41, f42, f43, f44, f45, f46, f47, f48, f50⟩, qo, qq, qv⟩ := id r
  obtain ⟨mh, fs, -, -⟩ := id rw_
  have e26 := mr.1
  unfold enZ
  by_cases z1 : rr.1 = 1
  · rw [if_pos z1]
    have A0 := j_X8_ends_a_3 (d := d) (by omega) h (nI row.length) μ.1 μ.2.1 F mh.1 _ e26 (by rw [z1]; rfl) _ f44
    rw [nI_1] at A0
    have rw1 := rw_.f (j := 44) (by decide) (by decide) (by decide) (.int (nI (zFa Z + 1)))
    exact ⟨_, _, _, _, A0, ⟨rw1, (up_ne (by decide)).trans f0, ⟨(up_ne (by decide)).trans (f29), (up_ne (by decide)).trans (f30), (up_ne (by decide)).trans (f31), (up_ne (by decide)).trans (f32), (up_ne (by decide)).trans (f33), (up_ne (by decide)).trans (f34), (up_ne (by decide)).trans (f37), (up_ne (by decide)).trans (f40), (up_ne (by decide)).trans (f41), (up_ne (by decide)).trans (f42), (up_ne (by decide)).trans (f43), up_eq, (up_ne (by decide)).trans (f45), (up_ne (by decide)).trans (f46), (up_ne (by decide)).trans (f47), (up_ne (by decide)).trans (f48), (up_ne (by decide)).trans (f50)⟩, qo, qq, qv⟩, MG.s (by decide)⟩
  · rw [if_neg z1]
    by_cases z2 : rr.1 = 2
    · rw [if_pos z2]
      have A0 := j_X8_ends_a_2 (d := d) (by omega) h (nI row.length) μ.1 μ.2.1 F mh.1 _ e26 (by rw [z2]; decide) (by rw [z2]; rfl) _ f45
      rw [nI_1] at A0
      have rw1 := rw_.f (j := 45) (by decide) (by decide) (by decide) (.int (nI (zGu Z + 1)))
      exact ⟨_, _, _, _, A0, ⟨rw1, (up_ne (by decide)).trans f0, ⟨(up_ne (by decide)).trans (f29), (up_ne (by decide)).trans (f30), (up_ne (by decide)).trans (f31), (up_ne (by decide)).trans (f32), (up_ne (by decide)).trans (f33), (up_ne (by decide)).trans (f34), (up_ne (by decide)).trans (f37), (up_ne (by decide)).trans (f40), (up_ne (by decide)).trans (f41), (up_ne (by decide)).trans (f42), (up_ne (by decide)).trans (f43), (up_ne (by decide)).trans (f44), up_eq, (up_ne (by decide)).trans (f46), (up_ne (by decide)).trans (f47), (up_ne (by decide)).trans (f48), (up_ne (by decide)).trans (f50)⟩, qo, qq, qv⟩, MG.s (by decide)⟩
    · rw [if_neg z2]
      have z0 : rr.1 = 0 := by omega
      obtain ⟨-, -, -, ⟨⟨-, -, e25⟩, -, -, -, mt, mf, -, -⟩, -⟩ := mr.x z0
      obtain ⟨-, -, -, -, t5⟩ := mt 0 (Nat.zero_le _)
      obtain ⟨u1, u2, u3⟩ := mf 0 (Nat.zero_le _)
      rw [ht] at t5
      have A0 := j_X8_ends_a_1 (d := d) (by omega) h (nI row.length) μ.1 μ.2.1 F mh.1 _ e26 (by rw [z0]; decide) (by rw [z0]; decide) _ f43 _ e25
      rw [nI_1, hs_hs, hs_hs] at A0
      have rw1 := (((rw_.f (j := 43) (by decide) (by decide) (by decide) (.int (nI (zVa Z + 1)))).f (j := 47) (by decide) (by decide) (by decide) (.int (nI (sLab rr.2)))).f (j := 48) (by decide) (by decide) (by decide) (.int (nI row.length)))
      rw [hs_hs, hs_hs] at rw1
      have ⟨w29, w30, w31, w32, w33, w34, w37, w40, w41, w42, w43, w44, w45, w46, w47, w48⟩ : va_up (va_up (va_up F 43 (.int (nI (zVa Z + 1)))) 47 (.int (nI (sLab rr.2)))) 48 (.int (nI row.length)) 29 = .int (bI (zTh Z)) ∧ va_up (va_up (va_up F 43 (.int (nI (zVa Z + 1)))) 47 (.int (nI (sLab rr.2)))) 48 (.int (nI row.length)) 30 = .int (bI (zSp Z)) ∧ va_up (va_up (va_up F 43 (.int (nI (zVa Z + 1)))) 47 (.int (nI (sLab rr.2)))) 48 (.int (nI row.length)) 31 = .int (nI (zGo Z)) ∧ va_up (va_up (va_up F 43 (.int (nI (zVa Z + 1)))) 47 (.int (nI (sLab rr.2)))) 48 (.int (nI row.length)) 32 = .int (nI (zMo Z)) ∧ va_up (va_up (va_up F 43 (.int (nI (zVa Z + 1)))) 47 (.int (nI (sLab rr.2)))) 48 (.int (nI row.length)) 33 = .int (nI (zBo Z)) ∧ va_up (va_up (va_up F 43 (.int (nI (zVa Z + 1)))) 47 (.int (nI (sLab rr.2)))) 48 (.int (nI row.length)) 34 = .int (nI (zWi Z)) ∧ va_up (va_up (va_up F 43 (.int (nI (zVa Z + 1)))) 47 (.int (nI (sLab rr.2)))) 48 (.int (nI row.length)) 37 = .int (nI (zOp Z).length) ∧ va_up (va_up (va_up F 43 (.int (nI (zVa Z + 1)))) 47 (.int (nI (sLab rr.2)))) 48 (.int (nI row.length)) 40 = .int (nI (zGn Z + (zQu Z).length)) ∧ va_up (va_up (va_up F 43 (.int (nI (zVa Z + 1)))) 47 (.int (nI (sLab rr.2)))) 48 (.int (nI row.length)) 41 = .int (nI (zGn Z)) ∧ va_up (va_up (va_up F 43 (.int (nI (zVa Z + 1)))) 47 (.int (nI (sLab rr.2)))) 48 (.int (nI row.length)) 42 = .int (nI (zPl Z)) ∧ va_up (va_up (va_up F 43 (.int (nI (zVa Z + 1)))) 47 (.int (nI (sLab rr.2)))) 48 (.int (nI row.length)) 43 = .int (nI (zVa Z + 1)) ∧ va_up (va_up (va_up F 43 (.int (nI (zVa Z + 1)))) 47 (.int (nI (sLab rr.2)))) 48 (.int (nI row.length)) 44 = .int (nI (zFa Z)) ∧ va_up (va_up (va_up F 43 (.int (nI (zVa Z + 1)))) 47 (.int (nI (sLab rr.2)))) 48 (.int (nI row.length)) 45 = .int (nI (zGu Z)) ∧ va_up (va_up (va_up F 43 (.int (nI (zVa Z + 1)))) 47 (.int (nI (sLab rr.2)))) 48 (.int (nI row.length)) 46 = .int (nI (zCu Z)) ∧ va_up (va_up (va_up F 43 (.int (nI (zVa Z + 1)))) 47 (.int (nI (sLab rr.2)))) 48 (.int (nI row.length)) 47 = .int (nI (sLab rr.2)) ∧ va_up (va_up (va_up F 43 (.int (nI (zVa Z + 1)))) 47 (.int (nI (sLab rr.2)))) 48 (.int (nI row.length)) 48 = .int (nI row.length) := ⟨(up_ne (by decide)).trans ((up_ne (by decide)).trans ((up_ne (by decide)).trans (f29))), (up_ne (by decide)).trans ((up_ne (by decide)).trans ((up_ne (by decide)).trans (f30))), (up_ne (by decide)).trans ((up_ne (by decide)).trans ((up_ne (by decide)).trans (f31))), (up_ne (by decide)).trans ((up_ne (by decide)).trans ((up_ne (by decide)).trans (f32))), (up_ne (by decide)).trans ((up_ne (by decide)).trans ((up_ne (by decide)).trans (f33))), (up_ne (by decide)).trans ((up_ne (by decide)).trans ((up_ne (by decide)).trans (f34))), (up_ne (by decide)).trans ((up_ne (by decide)).trans ((up_ne (by decide)).trans (f37))), (up_ne (by decide)).trans ((up_ne (by decide)).trans ((up_ne (by decide)).trans (f40))), (up_ne (by decide)).trans ((up_ne (by decide)).trans ((up_ne (by decide)).trans (f41))), (up_ne (by decide)).trans ((up_ne (by decide)).trans ((up_ne (by decide)).trans (f42))), (up_ne (by decide)).trans ((up_ne (by decide)).trans (up_eq)), (up_ne (by decide)).trans ((up_ne (by decide)).trans ((up_ne (by decide)).trans (f44))), (up_ne (by decide)).trans ((up_ne (by decide)).trans ((up_ne (by decide)).trans (f45))), (up_ne (by decide)).trans ((up_ne (by decide)).trans ((up_ne (by decide)).trans (f46))), (up_ne (by decide)).trans (up_eq), up_eq⟩
      have w0 : va_up (va_up (va_up F 43 (.int (nI (zVa Z + 1)))) 47 (.int (nI (sLab rr.2)))) 48 (.int (nI row.length)) 0 = .int t0 := (up_ne (by decide)).trans ((up_ne (by decide)).trans ((up_ne (by decide)).trans f0))
      generalize va_up (va_up (va_up F 43 (.int (nI (zVa Z + 1)))) 47 (.int (nI (sLab rr.2)))) 48 (.int (nI row.length)) = F1 at *
      have g1 : MG h μ (hs h 65 (ob 8 (fo 53 F1))) μ := MG.s (by decide)
      generalize hs h 65 (ob 8 (fo 53 F1)) = h1 at *
      obtain ⟨mh1, fs1, -, -⟩ := id rw1
      have loop : ∀ m k g, k + m = row.length → (∀ j, j < k → g j = if row.getD j false then 1 else 0) → ∃ g', J false mX8_ends d 65 [(0, .ref 65), (1, .int (nI row.length)), (2, .int (nI k))] [] (hs h1 91 (ia 256 g)) 100 [(0, .ref 65), (2, .int 0)] [] (hs (hs h1 91 (ia 256 g')) 65 (ob 8 (fo 53 (va_up F1 50 (.int (nI (sFull rr.2 0).length)))))) ∧ ∀ j, j < row.length → g' j = if row.getD j false then 1 else 0 := by
        intro m
        induction m with
        | zero =>
          intro k g hk hg
          have mh2 := mh1.wi (x := 91) (n := 256) (by decide) g
          have C := j_X8_ends_b_1 (d := d) (by omega) (hs h1 91 (ia 256 g)) (nI row.length) (nI k) μ.1 μ.2.1 (nI_le (by omega) (by omega)) F1 mh2.1 (fs1.r (by decide)) 6 ((va_up I 91 g) 83) (mh2.i (by decide)) (show vp_in (nI 0) 6 from vp_in_nI (by decide) (by decide))
          rw [up_ne (by decide), show (0 : Int32).toNatClampNeg = 0 from rfl, u1] at C
          exact ⟨g, C, fun j hj => hg j (by omega)⟩
        | succ m ih =>
          intro k g hk hg
          have mh2 := mh1.wi (x := 91) (n := 256) (by decide) g
          have vk : vp_in (nI k) 12006 := vp_in_nI (by omega) (by decide)
          have vk2 : vp_in (nI k) 256 := vp_in_nI (by omega) (by decide)
          have C := j_X8_ends_b_2 (d := d) (by omega) (hs h1 91 (ia 256 g)) (nI row.length) (nI k) μ.1 μ.2.1 (nI_ge (by omega) (by omega)) F1 mh2.1 (fs1.r (by decide)) (fs1.r (by decide)) 12006 ((va_up I 91 g) 78) (mh2.i (by decide)) (by assumption) (if row.getD k false then 1 else 0) (by rw [up_ne (by decide), nI_clamp (by omega)]; have := t5 k (by omega); rw [Nat.mul_zero, Nat.zero_add] at this; exact this) 256 ((va_up I 91 g) 91) (mh2.i (by decide)) (by assumption)
          rw [nI_clamp (n := k) (by omega), up_eq, hs_hs, nI_1] at C
          obtain ⟨g', x1, x2⟩ := ih (k + 1) (upd g k (if row.getD k false then 1 else 0)) (by omega) (fun j hj => by
            by_cases e : j = k
            · rw [e, pk_us]
            · rw [pk_un e]; exact hg j (by omega))
          exact ⟨g', J.tr C x1, x2⟩
      obtain ⟨g', x1, x2⟩ := loop row.length 0 (I 91) (Nat.zero_add _) (fun j hj => absurd hj (Nat.not_lt_zero _))
      rw [hs_id (mh1.i (by decide))] at x1
      have rw2 := (rw1.i (x := 91) (n := 256) (by decide) (by decide) g').f (j := 50) (by decide) (by decide) (by decide) (.int (nI (sFull rr.2 0).length))
      have g2 : MG h μ (hs (hs h1 91 (ia 256 g')) 65 (ob 8 (fo 53 (va_up F1 50 (.int (nI (sFull rr.2 0).length)))))) μ := (g1.tr (MG.s (x := 91) (by decide))).tr (MG.s (x := 65) (by decide))
      have e50 : va_up F1 50 (.int (nI (sFull rr.2 0).length)) 50 = .int (nI (sFull rr.2 0).length) := up_eq
      have wq : QF (mkZ (zTh Z) (zSp Z) (zGo Z) (zMo Z) (zBo Z) (zWi Z) (zOp Z) (zQu Z) (zGn Z) (zPl Z) (zVa Z + 1) (zFa Z) (zGu Z) (zCu Z) (row) (sLab rr.2) (sFull rr.2 0)) (va_up F1 50 (.int (nI (sFull rr.2 0).length))) := ⟨(up_ne (by decide)).trans w29, (up_ne (by decide)).trans w30, (up_ne (by decide)).trans w31, (up_ne (by decide)).trans w32, (up_ne (by decide)).trans w33, (up_ne (by decide)).trans w34, (up_ne (by decide)).trans w37, (up_ne (by decide)).trans w40, (up_ne (by decide)).trans w41, (up_ne (by decide)).trans w42, (up_ne (by decide)).trans w43, (up_ne (by decide)).trans w44, (up_ne (by decide)).trans w45, (up_ne (by decide)).trans w46, (up_ne (by decide)).trans w47, (up_ne (by decide)).trans w48, e50⟩
      have w00 : va_up F1 50 (.int (nI (sFull rr.2 0).length)) 0 = .int t0 := (up_ne (by decide)).trans w0
      generalize va_up F1 50 (.int (nI (sFull rr.2 0).length)) = F2 at *
      generalize hs (hs h1 91 (ia 256 g')) 65 (ob 8 (fo 53 F2)) = h2 at *
      obtain ⟨mh2, fs2, -, -⟩ := id rw2
      have loop2 : ∀ m k u v, k + m = (sFull rr.2 0).length → (∀ j, j < k → u j = ((sFull rr.2 0).getD j (0, 0)).1 ∧ v j = ((sFull rr.2 0).getD j (0, 0)).2) → ∃ u' v', E false mX8_ends d 100 [(0, .ref 65), (2, .int (nI k))] [] (hs (hs h2 92 (ia 100 u)) 93 (la 100 v)) (some (.int 1)) (hs (hs h2 92 (ia 100 u')) 93 (la 100 v')) ∧ ∀ j, j < (sFull rr.2 0).length → u' j = ((sFull rr.2 0).getD j (0, 0)).1 ∧ v' j = ((sFull rr.2 0).getD j (0, 0)).2 := by
        intro m
        induction m with
        | zero =>
          intro k u v hk hg
          have mh3 := (mh2.wi (x := 92) (n := 100) (by decide) u).wl (x := 93) (n := 100) (by decide) v
          have C := j_X8_ends_c_1 (d := d) (by omega) (hs (hs h2 92 (ia 100 u)) 93 (la 100 v)) (nI k) μ.1 μ.2.1 F2 mh3.1 _ e50 (nI_le (by omega) (by omega))
          exact ⟨u, v, C, fun j hj => hg j (by omega)⟩
        | succ m ih =>
          intro k u v hk hg
          have mh3 := (mh2.wi (x := 92) (n := 100) (by decide) u).wl (x := 93) (n := 100) (by decide) v
          have vk : vp_in (nI k) 600 := vp_in_nI (by omega) (by decide)
          have vk2 : vp_in (nI k) 100 := vp_in_nI (by omega) (by decide)
          have C := j_X8_ends_c_2 (d := d) (by omega) (hs (hs h2 92 (ia 100 u)) 93 (la 100 v)) (nI k) μ.1 μ.2.1 F2 mh3.1 _ e50 (nI_ge (by omega) (by omega)) (fs2.r (by decide)) (fs2.r (by decide)) 600 ((va_up (va_up I 91 g') 92 u) 81) (mh3.i (by decide)) (by assumption) ((sFull rr.2 0).getD k (0, 0)).1 (by rw [up_ne (by decide), up_ne (by decide), nI_clamp (by omega)]; have := (u3 k (by omega)).1; rw [Nat.mul_zero, Nat.zero_add] at this; exact this) 100 ((va_up (va_up I 91 g') 92 u) 92) (mh3.i (by decide)) (by assumption) (fs2.r (by decide)) (fs2.r (by decide)) 600 ((va_up L 93 v) 82) (mh3.l (by decide)) (by assumption) ((sFull rr.2 0).getD k (0, 0)).2 (by rw [up_ne (by decide), nI_clamp (by omega)]; have := (u3 k (by omega)).2; rw [Nat.mul_zero, Nat.zero_add] at this; exact this) 100 ((va_up L 93 v) 93) (mh3.l (by decide)) (by assumption)
          rw [nI_clamp (n := k) (by omega), up_eq, up_eq, hs4 (by decide), nI_1] at C
          obtain ⟨u', v', x1, x2⟩ := ih (k + 1) (upd u k ((sFull rr.2 0).getD k (0, 0)).1) (vp_updL v k ((sFull rr.2 0).getD k (0, 0)).2) (by omega) (fun j hj => by
            by_cases e : j = k
            · rw [e, pk_us, pk_uLs]; exact ⟨rfl, rfl⟩
            · rw [pk_un e, pk_uLn e]; exact hg j (by omega))
          exact ⟨u', v', E.st C x1, x2⟩
      obtain ⟨u', v', y1, y2⟩ := loop2 (sFull rr.2 0).length 0 (va_up I 91 g' 92) (L 93) (Nat.zero_add _) (fun j hj => absurd hj (Nat.not_lt_zero _))
      rw [hs_id (mh2.i (by decide)), hs_id (mh2.l (by decide))] at y1
      have rw3 := (rw2.i (x := 92) (n := 100) (by decide) (by decide) u').l (x := 93) (n := 100) (by decide) (by decide) v'
      refine ⟨_, _, _, _, E.st A0 (E.st x1 y1), ⟨rw3, w00, wq, ?_, ?_, ?_⟩, (g2.tr (MG.s (x := 92) (by decide))).tr (MG.s (x := 93) (by decide))⟩
      · unfold QOp
        rw [up_ne (by decide), up_ne (by decide), up_ne (by decide), up_ne (by decide)]
        exact qo
      · unfold QQu
        rw [up_ne (by decide), up_ne (by decide), up_ne (by decide), up_ne (by decide)]
        exact qq
      · refine ⟨fun j hj => ?_, fun j hj => ?_⟩
        · rw [up_ne (by decide), up_eq, Nat.zero_add]; exact x2 j hj
        · rw [up_eq, up_eq]; exact y2 j hj
/-- what the fetching of a row keeps -/
theorem fe_ok {T : NT} {Z : ZS} (hT : wfT T) (z : ZI T Z) (hp : zPl Z < 200) (ne : ¬ (zOp Z = [] ∧ zQu Z = [])) : rowOK T (zGo Z) (feZ Z).1 ∧ (feZ Z).1.length ≤ 60 ∧ zGo (feZ Z).2 = zGo Z ∧ zMo (feZ Z).2 = zMo Z ∧ zBo (feZ Z).2 = zBo Z ∧ zPl (feZ Z).2 = zPl Z + 1 ∧ (∀ r ∈ zOp (feZ Z).2, rowOK T (zGo Z) r) ∧ (∀ r ∈ zQu (feZ Z).2, rowOK T (zGo Z) r) ∧ (zOp (feZ Z).2).length ≤ zPl Z ∧ zGn (feZ Z).2 + (zQu (feZ Z).2).length ≤ 2 * zPl Z ∧ zWi (feZ Z).2 ≤ 60 ∧ zTh (feZ Z).2 = zTh Z ∧ zSp (feZ Z).2 = zSp Z := by
  obtain ⟨a, b, c, d, e, f, g, k, w⟩ := z
  cases ho : zOp Z with
  | cons row X =>
    have fe : feZ Z = (row, (mkZ (zTh Z) (zSp Z) (zGo Z) (zMo Z) (zBo Z) (zWi Z) (X) (zQu Z) (zGn Z) (zPl Z + 1) (zVa Z) (zFa Z) (zGu Z) (zCu Z) (zRo Z) (zLb Z) (zTk Z))) := by unfold feZ; rw [ho]
    rw [fe]
    rw [ho] at e g
    have r1 := e row List.mem_cons_self
    exact ⟨r1, row_len hT a r1, rfl, rfl, rfl, rfl, fun r hr => e r (List.mem_cons_of_mem _ hr), f, by have : X.length + 1 ≤ zPl Z + 1 := g; show X.length ≤ zPl Z; omega, k, w, rfl, rfl⟩
  | nil =>
    cases hq : zQu Z with
    | nil => exact absurd ⟨ho, hq⟩ ne
    | cons row qu =>
      have fe : feZ Z = (row, (mkZ (zTh Z) (zSp Z) (zGo Z) (zMo Z) (zBo Z) (row.length / zBo Z) ([]) (qu) (zGn Z + 1) (zPl Z + 1) (zVa Z) (zFa Z) (zGu Z) (zCu Z) (zRo Z) (zLb Z) (zTk Z))) := by unfold feZ; rw [ho, hq]
      rw [fe]
      rw [hq] at f k
      have r1 := f row List.mem_cons_self
      have l1 := row_len hT a r1
      exact ⟨r1, l1, rfl, rfl, rfl, rfl, (fun r hr => by cases hr), fun r hr => f r (List.mem_cons_of_mem _ hr), Nat.zero_le _, by have : zGn Z + (qu.length + 1) ≤ 2 * zPl Z := k; show zGn Z + 1 + qu.length ≤ 2 * zPl Z; omega, Nat.le_trans (Nat.div_le_self _ _) l1, rfl, rfl⟩
theorem de_ok {T : NT} {Z : ZS} {row : Row} (hT : wfT T) (hp : zPl Z ≤ 200) (a : zGo Z < tN T) (b : zMo Z ≤ 2) (c : 1 ≤ zBo Z ∧ zBo Z ≤ 60) (e : ∀ r ∈ zOp Z, rowOK T (zGo Z) r) (f : ∀ r ∈ zQu Z, rowOK T (zGo Z) r) (g : (zOp Z).length + 1 ≤ zPl Z) (k : zGn Z + (zQu Z).length + 2 ≤ 2 * zPl Z) (w : zWi Z ≤ 60) (h3 : (runP T (zGo Z) row).1 = 3) : ZI T (deZ Z row) ∧ row.length ≤ 59 ∧ zPl (deZ Z row) = zPl Z ∧ zTh (deZ Z row) = zTh Z ∧ zSp (deZ Z row) = zSp Z := by
  have ok : ∀ b, rowOK T (zGo Z) (row ++ [b]) := fun b => Or.inr ⟨row, b, rfl, h3⟩
  have l59 : row.length ≤ 59 := by
    have := row_len hT a (ok false)
    rw [List.length_append] at this
    have : row.length + 1 ≤ 60 := this
    omega
  unfold deZ
  split
  · exact ⟨⟨a, b, c, hp, e, f, by show (zOp Z).length ≤ zPl Z + 1; omega, by show zGn Z + (zQu Z).length ≤ 2 * zPl Z; omega, w⟩, l59, rfl, rfl, rfl⟩
  · split
    · refine ⟨⟨a, b, c, hp, e, fun r hr => ?_, by show (zOp Z).length ≤ zPl Z + 1; omega, ?_, w⟩, l59, rfl, rfl, rfl⟩
      · rcases List.mem_append.mp hr with q | q
        · exact f r q
        · rcases List.mem_cons.mp q with q | q
          · rw [q]; exact ok _
          · rcases List.mem_cons.mp q with q | q
            · rw [q]; exact ok _
            · cases q
      · show zGn Z + (zQu Z ++ [row ++ [false], row ++ [true]]).length ≤ 2 * zPl Z
        rw [List.length_append]
        show zGn Z + ((zQu Z).length + 2) ≤ 2 * zPl Z
        omega
    · refine ⟨⟨a, b, c, hp, fun r hr => ?_, f, ?_, by show zGn Z + (zQu Z).length ≤ 2 * zPl Z; omega, w⟩, l59, rfl, rfl, rfl⟩
      · rcases List.mem_cons.mp hr with q | q
        · rw [q]; exact ok _
        · rcases List.mem_cons.mp q with q | q
          · rw [q]; exact ok _
          · exact e r q
      · show (zOp Z).length + 1 + 1 ≤ zPl Z + 1
        omega
theorem en_ok {T : NT} {Z : ZS} {row : Row} {r : Rs} (hp : zPl Z ≤ 200) (a : zGo Z < tN T) (b : zMo Z ≤ 2) (c : 1 ≤ zBo Z ∧ zBo Z ≤ 60) (e : ∀ r ∈ zOp Z, rowOK T (zGo Z) r) (f : ∀ r ∈ zQu Z, rowOK T (zGo Z) r) (g : (zOp Z).length + 1 ≤ zPl Z) (k : zGn Z + (zQu Z).length + 2 ≤ 2 * zPl Z) (w : zWi Z ≤ 60) : ZI T (enZ Z row r).2 ∧ zPl (enZ Z row r).2 = zPl Z := by
  unfold enZ
  split
  · exact ⟨⟨a, b, c, hp, e, f, by show (zOp Z).length ≤ zPl Z + 1; omega, by show zGn Z + (zQu Z).length ≤ 2 * zPl Z; omega, w⟩, rfl⟩
  · split
    · exact ⟨⟨a, b, c, hp, e, f, by show (zOp Z).length ≤ zPl Z + 1; omega, by show zGn Z + (zQu Z).length ≤ 2 * zPl Z; omega, w⟩, rfl⟩
    · exact ⟨⟨a, b, c, hp, e, f, by show (zOp Z).length ≤ zPl Z + 1; omega, by show zGn Z + (zQu Z).length ≤ 2 * zPl Z; omega, w⟩, rfl⟩
/-- one place: up to the row that is due -/
theorem m_due {t0 : Int32} {T : NT} {Z : ZS} {μ : KM} {F : Nat → Value} {I : AI} {L : AL} {h : AH} {d : Nat} {row : Row} (hT : wfT T) (r : RZ t0 T Z μ F I L h) (z : ZI T Z) (hp : zPl Z < 200) (ne : ¬ (zOp Z = [] ∧ zQu Z = [])) (hd : 1 ≤ d) : ∃ F' I' h', J false mX8_next d 30 [(0, .ref 65)] [] h 79 [(0, .ref 65)] [.int (nI (feZ Z).1.length)] h' ∧ RZ t0 T (feZ Z).2 μ F' I' L h' ∧ MG h μ h' μ ∧ MRow (I' 78) 0 (feZ Z).1 := by
  obtain ⟨rw_, f0, ⟨f29, f30, f31, f32, f33, f34, f37, f40, f41, f42, f43, f44, f45, f46, f47, f48, f50⟩, qo, qq, qv⟩ := id r
  obtain ⟨mh, fs, -, -⟩ := id rw_
  obtain ⟨za, zb, zc, zd, ze, zf, zg, zk, zw⟩ := id z
  have p200 : ¬ nI (zPl Z) = 200 := nI_ne (b := 200) (by omega) (by omega) (by omega)
  have r1 : RZ t0 T (mkZ (zTh Z) (zSp Z) (zGo Z) (zMo Z) (zBo Z) (zWi Z) (zOp Z) (zQu Z) (zGn Z) (zPl Z + 1) (zVa Z) (zFa Z) (zGu Z) (zCu Z) (zRo Z) (zLb Z) (zTk Z)) μ (va_up F 42 (.int (nI (zPl Z + 1)))) I L (hs h 65 (ob 8 (fo 53 (va_up F 42 (.int (nI (zPl Z + 1))))))) := ⟨rw_.f (j := 42) (by decide) (by decide) (by decide) _, (up_ne (by decide)).trans f0, ⟨(up_ne (by decide)).trans (f29), (up_ne (by decide)).trans (f30), (up_ne (by decide)).trans (f31), (up_ne (by decide)).trans (f32), (up_ne (by decide)).trans (f33), (up_ne (by decide)).trans (f34), (up_ne (by decide)).trans (f37), (up_ne (by decide)).trans (f40), (up_ne (by decide)).trans (f41), up_eq, (up_ne (by decide)).trans (f43), (up_ne (by decide)).trans (f44), (up_ne (by decide)).trans (f45), (up_ne (by decide)).trans (f46), (up_ne (by decide)).trans (f47), (up_ne (by decide)).trans (f48), (up_ne (by decide)).trans (f50)⟩, qo, qq, qv⟩
  have g1 : MG h μ (hs h 65 (ob 8 (fo 53 (va_up F 42 (.int (nI (zPl Z + 1))))))) μ := MG.s (by decide)
  cases ho : zOp Z with
  | cons row X =>
    have fe : feZ Z = (row, (mkZ (zTh Z) (zSp Z) (zGo Z) (zMo Z) (zBo Z) (zWi Z) (X) (zQu Z) (zGn Z) (zPl Z + 1) (zVa Z) (zFa Z) (zGu Z) (zCu Z) (zRo Z) (zLb Z) (zTk Z))) := by unfold feZ; rw [ho]
    rw [fe]
    have r60 := row_len hT za (ze row (by rw [ho]; exact List.mem_cons_self))
    rw [ho] at zg f37
    have zg : X.length + 1 ≤ zPl Z + 1 := zg
    have A0 := j_X8_next_b_1 (d := d) (by omega) h μ.1 μ.2.1 F mh.1 _ f37 (nI_0lt (by show 0 < X.length + 1; omega) (by show X.length + 1 < 2 ^ 31; omega)) _ f42 p200
    rw [nI_1] at A0
    obtain ⟨F', I', h', C, r2, g2, b2⟩ := m_fetchO (d := 0) r1 (row := row) (X := X) ho (by omega) r60
    exact ⟨F', I', h', J.tr A0 (s_invv (K := mX8_fetch) (o := 65) (as := []) (rest := []) (v := some (.int (nI row.length))) dX8_next_76 rfl lX8_255 (by omega) rfl (Nat.le_of_ble_eq_true rfl) rfl (Nat.le_of_ble_eq_true rfl) r1.1.1.1 C (fun h => nomatch h)), r2, g1.tr g2, b2⟩
  | nil =>
    cases hq : zQu Z with
    | nil => exact absurd ⟨ho, hq⟩ ne
    | cons row qu =>
      have fe : feZ Z = (row, (mkZ (zTh Z) (zSp Z) (zGo Z) (zMo Z) (zBo Z) (row.length / zBo Z) ([]) (qu) (zGn Z + 1) (zPl Z + 1) (zVa Z) (zFa Z) (zGu Z) (zCu Z) (zRo Z) (zLb Z) (zTk Z))) := by unfold feZ; rw [ho, hq]
      rw [fe]
      have r60 := row_len hT za (zf row (by rw [hq]; exact List.mem_cons_self))
      rw [hq] at zk f40
      rw [ho] at f37
      have zk : zGn Z + (qu.length + 1) ≤ 2 * zPl Z := zk
      have A0 := j_X8_next_b_4 (d := d) (by omega) h μ.1 μ.2.1 F mh.1 _ f37 (by decide) _ f41 _ f40 (nI_ge (by show zGn Z < zGn Z + (qu.length + 1); omega) (by show zGn Z + (qu.length + 1) < 2 ^ 31; omega)) _ f42 p200
      rw [nI_1] at A0
      obtain ⟨F', I', h', C, r2, g2, b2⟩ := m_fetchQ (d := 0) r1 (row := row) (qu := qu) ho hq (by show zGn Z < 511; omega) r60 zc
      exact ⟨F', I', h', J.tr A0 (s_invv (K := mX8_fetch) (o := 65) (as := []) (rest := []) (v := some (.int (nI row.length))) dX8_next_76 rfl lX8_255 (by omega) rfl (Nat.le_of_ble_eq_true rfl) rfl (Nat.le_of_ble_eq_true rfl) r1.1.1.1 C (fun h => nomatch h)), r2, g1.tr g2, b2⟩
theorem m_nextL {t0 : Int32} {T : NT} {d : Nat} (hT : wfT T) (hd : 613 ≤ d) : ∀ (g : Nat) (Z : ZS) (μ : KM) (F : Nat → Value) (I : AI) (L : AL) (h : AH), 201 ≤ g + zPl Z → RZ t0 T Z μ F I L h → ZI T Z → ∃ μ' F' I' L' h', E false mX8_next d 30 [(0, .ref 65)] [] h (some (.int (nI (nxZ T g Z).1))) h' ∧ RZ t0 T (nxZ T g Z).2 μ' F' I' L' h' ∧ MG h μ h' μ' ∧ ZI T (nxZ T g Z).2 := by
  intro g
  induction g with
  | zero =>
    intro Z μ F I L h hg _ z
    have := z.2.2.2.1
    omega
  | succ g ih =>
    intro Z μ F I L h hg r z
    obtain ⟨za, zb, zc, zd, ze, zf, zg, zk, zw⟩ := id z
    obtain ⟨rw_, f0, ⟨f29, f30, f31, f32, f33, f34, f37, f40, f41, f42, f43, f44, f45, f46, f47, f48, f50⟩, qo, qq, qv⟩ := id r
    obtain ⟨mh, fs, -, -⟩ := id rw_
    by_cases ne : zOp Z = [] ∧ zQu Z = []
    · have A0 := j_X8_next_b_3 (d := d) (by omega) h μ.1 μ.2.1 F mh.1 _ f37 (by rw [ne.1]; decide) _ f41 _ f40 (by rw [ne.2]; exact nI_le (Nat.le_refl _) (by omega))
      rw [nxZ, if_pos ne]
      exact ⟨μ, F, I, L, h, A0, r, MG.rf _ _, z⟩
    · by_cases p2 : zPl Z = 200
      · rw [nxZ, if_neg ne, if_pos p2]
        have r1 : RZ t0 T (spZ Z) μ (va_up F 30 (.int 1)) I L (hs h 65 (ob 8 (fo 53 (va_up F 30 (.int 1))))) := ⟨rw_.f (j := 30) (by decide) (by decide) (by decide) _, (up_ne (by decide)).trans f0, ⟨(up_ne (by decide)).trans (f29), up_eq, (up_ne (by decide)).trans (f31), (up_ne (by decide)).trans (f32), (up_ne (by decide)).trans (f33), (up_ne (by decide)).trans (f34), (up_ne (by decide)).trans (f37), (up_ne (by decide)).trans (f40), (up_ne (by decide)).trans (f41), (up_ne (by decide)).trans (f42), (up_ne (by decide)).trans (f43), (up_ne (by decide)).trans (f44), (up_ne (by decide)).trans (f45), (up_ne (by decide)).trans (f46), (up_ne (by decide)).trans (f47), (up_ne (by decide)).trans (f48), (up_ne (by decide)).trans (f50)⟩, qo, qq, qv⟩
        have A0 : E false mX8_next d 30 [(0, .ref 65)] [] h (some (.int 2)) (hs h 65 (ob 8 (fo 53 (va_up F 30 (.int 1))))) := by
          by_cases o : zOp Z = []
          · have q : zQu Z ≠ [] := fun q => ne ⟨o, q⟩
            have := List.length_pos_iff.mpr q
            rw [o] at f37
            exact j_X8_next_b_5 (d := d) (by omega) h μ.1 μ.2.1 F mh.1 _ f37 (by decide) _ f41 _ f40 (nI_ge (by omega) (by omega)) _ f42 (by rw [p2]; rfl)
          · have := List.length_pos_iff.mpr o
            exact j_X8_next_b_2 (d := d) (by omega) h μ.1 μ.2.1 F mh.1 _ f37 (nI_0lt (by omega) (by omega)) _ f42 (by rw [p2]; rfl)
        exact ⟨μ, _, I, L, _, A0, r1, MG.s (by decide), z⟩
      · rw [nx_step ne p2]
        obtain ⟨F1, I1, h1, A1, r1, g1, b1⟩ := m_due (row := []) hT r z (by omega) ne (d := d) (by omega)
        obtain ⟨y1, y2, y3, y4, y5, y6, y7, y8, y9, y10, y11, y12, y13⟩ := fe_ok hT z (by omega) ne
        generalize feZ Z = fz at *
        obtain ⟨row, Z2⟩ := fz
        dsimp only at *
        have B := j_X8_next_c_1 (d := d) (Nat.zero_le _) h1 (nI row.length) 0 0
        obtain ⟨μ3, F3, I3, L3, h3, C, m3, rr⟩ := m_go (n := zGo Z) hT r1.1 za (by rw [← y3]; exact r1.2.2.1.2.2.1) y2 b1 (d := d - 1) (by omega)
        have r3 := r1.run m3 rr.w
        have rl := run_le hT za row
        have rt := run_t0 hT za row
        have CC : J false mX8_next d 82 [(0, .ref 65), (1, .int (nI row.length))] [.int (nI row.length), .ref 65] h1 85 [(0, .ref 65), (1, .int (nI row.length))] [] h3 := (s_invv (K := mX8_go) (o := 65) (as := [.int (nI row.length)]) (rest := []) (v := none) dX8_next_82 rfl lX8_259 (by omega) rfl (Nat.le_of_ble_eq_true rfl) rfl (Nat.le_of_ble_eq_true rfl) r1.1.1.1 C (fun h => nomatch h))
        unfold stZ
        dsimp only
        generalize hrun : runP T (zGo Z) row = rn at *
        by_cases c3 : rn.1 = 3
        · rw [if_pos c3]
          have h3x : (runP T (zGo Z2) row).1 = 3 := by rw [y3, hrun]; exact c3
          obtain ⟨d1, d2, d3, -, -⟩ := de_ok hT (Z := Z2) (row := row) (by omega) (by rw [y3]; exact za) (by rw [y4]; exact zb) (by rw [y5]; exact zc) (by rw [y3]; exact y7) (by rw [y3]; exact y8) (by omega) (by omega) y11 h3x
          have rx := rr.2.2 (by omega)
          obtain ⟨-, -, -, ⟨-, -, -, -, mt, -, -, -⟩, -⟩ := id rx
          obtain ⟨-, -, -, -, t5⟩ := mt 0 (Nat.zero_le _)
          rw [rt] at t5
          have D := j_X8_next_d_2 (d := d) (Nat.zero_le _) h3 (nI row.length) 0 0 F3 r3.1.1.1 _ rr.1 (by rw [c3]; rfl)
          obtain ⟨F4, I4, h4, C4, r4, g4⟩ := m_decide r3 (row := row) (fun j hj => by have := t5 j hj; rw [Nat.mul_zero] at this; exact this) d2 (by omega) (by omega) (fun x hx => row_len hT za (y7 x hx)) (fun x hx => row_len hT za (y8 x hx)) (by rw [y4]; exact zb) (by rw [y5]; exact zc) y11 (d := 1) (Nat.le_refl _)
          obtain ⟨μ5, F5, I5, L5, h5, e5, r5, g5, z5⟩ := ih (deZ Z2 row) μ3 F4 I4 L3 h4 (by rw [d3, y6]; omega) r4 d1
          exact ⟨μ5, F5, I5, L5, h5, E.st A1 (E.st B (E.st CC (E.st D (E.st (s_invv (K := mX8_decide) (o := 65) (as := [.int (nI row.length)]) (rest := []) (v := none) dX8_next_95 rfl lX8_262 (by omega) rfl (Nat.le_of_ble_eq_true rfl) rfl (Nat.le_of_ble_eq_true rfl) r3.1.1.1 C4 (fun h => nomatch h)) (E.st (j_X8_next_e_1 (Nat.zero_le _) h4 0 0) e5))))), r5, (g1.tr m3.g).tr (g4.tr g5), z5⟩
        · rw [if_neg c3]
          have D := j_X8_next_d_1 (d := d) (Nat.zero_le _) h3 (nI row.length) 0 0 F3 r3.1.1.1 _ rr.1 (by
            have : rn.1 = 0 ∨ rn.1 = 1 ∨ rn.1 = 2 := by omega
            rcases this with q | q | q <;> rw [q] <;> decide)
          obtain ⟨F4, I4, L4, h4, C4, r4, g4⟩ := m_ends r3 rr (row := row) (by omega) rt y2 (d := 0)
          obtain ⟨n1, n2⟩ := en_ok (T := T) (Z := Z2) (row := row) (r := rn) (by omega) (by rw [y3]; exact za) (by rw [y4]; exact zb) (by rw [y5]; exact zc) (by rw [y3]; exact y7) (by rw [y3]; exact y8) (by omega) (by omega) y11
          have CE : J false mX8_next d 103 [(0, .ref 65)] [.int (nI row.length), .ref 65] h3 106 [(0, .ref 65)] [.int (bI (enZ Z2 row rn).1)] h4 := (s_invv (K := mX8_ends) (o := 65) (as := [.int (nI row.length)]) (rest := []) (v := some (.int (bI (enZ Z2 row rn).1))) dX8_next_103 rfl lX8_265 (by omega) rfl (Nat.le_of_ble_eq_true rfl) rfl (Nat.le_of_ble_eq_true rfl) r3.1.1.1 C4 (fun h => nomatch h))
          cases bb : (enZ Z2 row rn).1 with
          | true =>
            rw [bb] at CE
            rw [if_pos rfl]
            exact ⟨μ3, F4, I4, L4, h4, E.st A1 (E.st B (E.st CC (E.st D (E.st CE (j_X8_next_f_2 (Nat.zero_le _) h4 _ 0 0 (bI_t rfl)))))), r4, (g1.tr m3.g).tr g4, n1⟩
          | false =>
            rw [bb] at CE
            rw [if_neg (by decide)]
            obtain ⟨μ5, F5, I5, L5, h5, e5, r5, g5, z5⟩ := ih (enZ Z2 row rn).2 μ3 F4 I4 L4 h4 (by rw [n2, y6]; omega) r4 n1
            exact ⟨μ5, F5, I5, L5, h5, E.st A1 (E.st B (E.st CC (E.st D (E.st CE (E.st (j_X8_next_f_1 (Nat.zero_le _) h4 _ 0 0 (bI_f rfl)) e5))))), r5, (g1.tr m3.g).tr (g4.tr g5), z5⟩
