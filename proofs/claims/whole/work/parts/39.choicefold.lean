theorem up_same {α : Type} {F : Nat → α} {k : Nat} : va_up F k (F k) = F := by
  funext x
  by_cases e : x = k
  · subst e; rw [up_eq]
  · rw [up_ne e]
/-- a decision is taken -/
theorem RC.dec {T : NT} {σ : St} {κ : KP} {w : WR} {h : AH} (r : RC T σ κ w h) : ∃ F, h.1 (wid (sLev σ)) = ob 5 (fo 12 F) ∧ F 7 = .int (nI (sCome σ (sLev σ))) ∧ F 8 = .int (nI (moL σ (sLev σ))) ∧ F 6 = .long (lN (bv (sTold σ (sLev σ)))) ∧ bv (sTold σ (sLev σ)) < 2 ^ 60 ∧ ∀ t, bv t = bv (sTold σ (sLev σ)) → (sLev σ = 0 → t = sTold σ 0) → RC T (wTC σ (va_up (sTold σ) (sLev σ) t) (va_up (sCome σ) (sLev σ) (sCome σ (sLev σ) + 1))) κ w (hs h (wid (sLev σ)) (ob 5 (fo 12 (va_up F 7 (.int (nI (sCome σ (sLev σ) + 1))))))) ∧ CF h κ (hs h (wid (sLev σ)) (ob 5 (fo 12 (va_up F 7 (.int (nI (sCome σ (sLev σ) + 1))))))) κ := by
  have h6 := r.2.2.2.2.2.2.1
  have ht := r.2.2.2.2.2.2.2
  obtain ⟨ro, li, q, q1, q2, q3⟩ := r.take (Nat.le_refl (sLev σ))
  obtain ⟨⟨F, a, f0, f1, f2, f3, f4, f5, f6, f7, f8, f9, f10, f11⟩, -⟩ := id q
  refine ⟨F, a, f7, f8, f6, q2, fun t ht1 ht2 => ?_⟩
  obtain ⟨x1, x2, x3⟩ := RWr.obj (c := ob 5 (fo 12 (va_up F 7 (.int (nI (sCome σ (sLev σ) + 1)))))) ro h6 q (de' := sCome σ (sLev σ) + 1) ⟨_, hs_eq, (up_ne (by decide)).trans (f0), (up_ne (by decide)).trans (f1), (up_ne (by decide)).trans (f2), (up_ne (by decide)).trans (f3), (up_ne (by decide)).trans (f4), (up_ne (by decide)).trans (f5), (up_ne (by decide)).trans (f6), up_eq, (up_ne (by decide)).trans (f8), (up_ne (by decide)).trans (f9), (up_ne (by decide)).trans (f10), (up_ne (by decide)).trans (f11)⟩
  have et : ∀ k, k ≠ sLev σ → va_up (sTold σ) (sLev σ) t k = sTold σ k := fun k hk => up_ne hk
  have e0 : va_up (sTold σ) (sLev σ) t 0 = sTold σ 0 := by
    by_cases e : 0 = sLev σ
    · rw [← e, up_eq]; exact ht2 e.symm
    · exact et 0 e
  have el : va_up (sTold σ) (sLev σ) t (sLev σ) = t := up_eq
  refine ⟨(x1.same (σ' := wTC σ (va_up (sTold σ) (sLev σ) t) (va_up (sCome σ) (sLev σ) (sCome σ (sLev σ) + 1))) rfl rfl rfl (by show (va_up (sTold σ) (sLev σ) t 0).length < 2 ^ 30; rw [e0]; exact ht) (fun k h1 h2 => ⟨rfl, rfl, et k h2, up_ne h2, rfl, rfl, rfl⟩)).put (Nat.le_refl _) x2 rfl ?_ ?_ ?_ rfl q1 rfl rfl ⟨?_, q3⟩, x3⟩
  · show bv (sTold σ (sLev σ)) = bv (va_up (sTold σ) (sLev σ) t (sLev σ))
    rw [el, ht1]
  · show sCome σ (sLev σ) + 1 = va_up (sCome σ) (sLev σ) (sCome σ (sLev σ) + 1) (sLev σ)
    rw [up_eq]
  · show moL σ (sLev σ) = if sLev σ = 0 then (va_up (sTold σ) (sLev σ) t 0).length else 60
    unfold moL
    rw [e0]
  · show bv (va_up (sTold σ) (sLev σ) t (sLev σ)) < 2 ^ 60
    rw [el, ht1]
    exact q2
theorem w_choice {T : NT} {rec : Nat → St → Rs} {f n : Nat} {σ : St} {κ : KP} {w : WR} {h : AH} {d : Nat} (HV : CVal T rec f) (hT : wfT T) (hnf : n ≤ f) (hp : Pre T n σ) (hlab : sLab σ < 2000) (hv : sVal σ (sLev σ) n = none) (r : RC T (wLab σ (sLab σ + 1)) κ w h) (hA : okA T n) (hB : okB T n) (hd : 10 * n + 1 ≤ d) : ∃ κ' w' h', CM mX6_workChoice d [.ref 19, .int (nI n)] h (some (.int (nI (choP rec T n (wLab σ (sLab σ + 1))).1))) h' ∧ WO T h κ n (choP rec T n (wLab σ (sLab σ + 1))) κ' w' h' := by
  have ha := hA.2
  have hb := hB.2
  have hn := hp.2.1
  have h60 := hT.1
  have cl : (nI n).toNatClampNeg = n := nI_clamp (by omega)
  have c60 : sCome σ (sLev σ) + 1 ≤ 60 := by
    have := cn_lt (sVal σ (sLev σ)) (show n < n + 1 by omega) hv
    have := hp.2.2
    omega
  have h3l := hp.1.2.2.1 (sLev σ) (Nat.le_refl _)
  obtain ⟨⟨N, g3, g4, g5, g6, g7, n0, ⟨n1, n2, n3, n4, n5, n6⟩, ⟨m3, m4, m5, m6, m7⟩, n60, nn⟩, ⟨K, k, k0, k1, k2, k3, k4, k5, k6, k7, k8, k9⟩, -, -, -, -, -, ht30⟩ := id r
  have ht30 : (sTold σ 0).length < 2 ^ 30 := ht30
  obtain ⟨F, a, f7, f8, f6, b60, D⟩ := r.dec
  have a : h.1 (wid (sLev σ)) = ob 5 (fo 12 F) := a
  have f7 : F 7 = .int (nI (sCome σ (sLev σ))) := f7
  have f8 : F 8 = .int (nI (moL σ (sLev σ))) := f8
  have f6 : F 6 = .long (lN (bv (sTold σ (sLev σ)))) := f6
  have b60 : bv (sTold σ (sLev σ)) < 2 ^ 60 := b60
  have cn : ¬ nI n < 0 ∧ ¬ nI (tN T) ≤ nI n := ⟨nI_pos (by omega), nI_ge hn (by omega)⟩
  have vi : vp_in (nI n) 60 := vp_in_nI (by omega) (by decide)
  have bit := dec_bit (told := sTold σ (sLev σ)) (c := sCome σ (sLev σ)) b60 (by omega)
  have e4 : g4 (nI n).toNatClampNeg = nI (tA T n) := by rw [cl, (nn n hn).2.1]; exact hA.1
  have e5 : g5 (nI n).toNatClampNeg = nI (tB T n) := by rw [cl, (nn n hn).2.2.1]; exact hB.1
  -- the first alternative, the second
  have go : ∀ (t : List Bool) (x : Nat) (hh : AH), x < n → J false mX6_workChoice d 0 [(0, .ref 19), (1, .int (nI n))] [] h 40 [(0, .ref 19), (1, .int (nI n))] [.int (nI n), .int (nI x), .ref 19] hh → hh = hs h (wid (sLev σ)) (ob 5 (fo 12 (va_up F 7 (.int (nI (sCome σ (sLev σ) + 1)))))) → bv t = bv (sTold σ (sLev σ)) → (sLev σ = 0 → t = sTold σ 0) → sCome σ (sLev σ) + 1 ≤ t.length → ∃ κ' w' h', CM mX6_workChoice d [.ref 19, .int (nI n)] h (some (.int (nI (tkP rec n x (wTC (wLab σ (sLab σ + 1)) (va_up (sTold σ) (sLev σ) t) (va_up (sCome σ) (sLev σ) (sCome σ (sLev σ) + 1)))).1))) h' ∧ WO T h κ n (tkP rec n x (wTC (wLab σ (sLab σ + 1)) (va_up (sTold σ) (sLev σ) t) (va_up (sCome σ) (sLev σ) (sCome σ (sLev σ) + 1)))) κ' w' h' := by
    intro t x hh hx A eh t1 t2 t3
    subst eh
    obtain ⟨r2, c2⟩ := D t t1 t2
    have M := cho_mid hp hlab hv (va_up (sTold σ) (sLev σ) t) (fun k hk => up_ne (Nat.ne_of_lt hk)) (fun z => by
      have := t2 z
      show va_up (sTold σ) (sLev σ) t 0 = _
      rw [z, up_eq]; exact this) (by rw [up_eq]; exact t3)
    obtain ⟨κ', w', h', y1, y2⟩ := w_tk (d := d - 1) HV (x := x) (by omega) hx (by omega) (M.pre hp hv hx) r2 (by omega)
    have k' : (hs h (wid (sLev σ)) (ob 5 (fo 12 (va_up F 7 (.int (nI (sCome σ (sLev σ) + 1))))))).1 19 = ob 6 (fo 10 K) := (hs_ne (ne_oo k a (by decide))).trans k
    exact ⟨κ', w', h', E.st A (E.st (s_invv dX6_workChoice_40 rfl lX6_66 (by omega) rfl (Nat.le_of_ble_eq_true rfl) rfl (Nat.le_of_ble_eq_true rfl) k' y1 (fun h => nomatch h)) (j_X6_workChoice_b_1 (Nat.zero_le _) h' (nI n) _)), y2.tr c2⟩
  unfold choP
  have lt : sCome σ (sLev σ) < moL σ (sLev σ) → nI (sCome σ (sLev σ)) < nI (moL σ (sLev σ)) := fun z => nI_lt z (by unfold moL; split <;> omega)
  by_cases e : sCome (wLab σ (sLab σ + 1)) (sLev (wLab σ (sLab σ + 1))) = (sTold (wLab σ (sLab σ + 1)) (sLev (wLab σ (sLab σ + 1)))).length
  · rw [if_pos e]
    have e : sCome σ (sLev σ) = (sTold σ (sLev σ)).length := e
    by_cases e2 : sLev (wLab σ (sLab σ + 1)) = 0
    · rw [if_pos e2]
      have e2 : sLev σ = 0 := e2
      refine ⟨κ, w, h, j_X6_workChoice_a_4 (by omega) h (nI n) (wid (sLev σ)) K k k2 F a _ f7 _ f8 ?_, r.wo (CF.rf _ _) (by decide) (by decide)⟩
      exact nI_nlt (by unfold moL; rw [if_pos e2, e, e2]; exact Nat.le_refl _) (by omega)
    · rw [if_neg e2]
      have e2 : ¬ sLev σ = 0 := e2
      have gd : (sTold σ (sLev σ)).getD (sCome σ (sLev σ)) false = false := by rw [e]; simp
      rw [gd] at bit
      have A := j_X6_workChoice_a_2 (d := d) (by omega) h (nI n) (wid (sLev σ)) K k k2 F a _ f7 _ f8 (lt (by unfold moL; rw [if_neg e2]; omega)) _ f6 0 bit (by decide) rfl k0 N n0 _ n6 cn n2 60 g4 m4 vi
      rw [e4, nI_1] at A
      exact go (sTold σ (sLev σ) ++ [false]) (tA T n) _ ha A rfl (bv_false _) (fun z => absurd z e2) (by rw [List.length_append, e]; exact Nat.le_refl _)
  · rw [if_neg e]
    have e : ¬ sCome σ (sLev σ) = (sTold σ (sLev σ)).length := e
    have lm : sCome σ (sLev σ) < moL σ (sLev σ) := by
      unfold moL
      by_cases e2 : sLev σ = 0
      · rw [if_pos e2, ← e2]; omega
      · rw [if_neg e2]; omega
    have G := fun x hh hx A eh => go (sTold σ (sLev σ)) x hh hx A eh rfl (fun z => by rw [z]) (by omega)
    rw [show va_up (sTold σ) (sLev σ) (sTold σ (sLev σ)) = sTold σ from up_same] at G
    by_cases c : (sTold σ (sLev σ)).getD (sCome σ (sLev σ)) false = true
    · rw [if_pos c] at bit
      have A := j_X6_workChoice_a_1 (d := d) (by omega) h (nI n) (wid (sLev σ)) K k k2 F a _ f7 _ f8 (lt lm) _ f6 1 bit (by decide) (by decide) k0 N n0 _ n6 cn n3 60 g5 m5 vi
      rw [e5, nI_1] at A
      have := G (tB T n) _ hb A rfl
      rw [if_pos (show (sTold (wLab σ (sLab σ + 1)) (sLev (wLab σ (sLab σ + 1)))).getD (sCome (wLab σ (sLab σ + 1)) (sLev (wLab σ (sLab σ + 1)))) false = true from c)]
      exact this
    · rw [if_neg c] at bit
      have A := j_X6_workChoice_a_2 (d := d) (by omega) h (nI n) (wid (sLev σ)) K k k2 F a _ f7 _ f8 (lt lm) _ f6 0 bit (by decide) rfl k0 N n0 _ n6 cn n2 60 g4 m4 vi
      rw [e4, nI_1] at A
      have := G (tA T n) _ ha A rfl
      rw [if_neg (show ¬ (sTold (wLab σ (sLab σ + 1)) (sLev (wLab σ (sLab σ + 1)))).getD (sCome (wLab σ (sLab σ + 1)) (sLev (wLab σ (sLab σ + 1)))) false = true from c)]
      exact this
/-- the loop over the tokens of a list -/
theorem c_foldLoop {κ : KP} {h : AH} {hp : List Tok} {K : Nat → Value} (t : TKk κ h 27 36000 hp) (k : h.1 19 = ob 6 (fo 10 K)) (k4 : K 4 = .ref 27) (kd : Int32) (a e : Nat) (he : e ≤ hp.length) (h4 : a ≤ e) {d : Nat} (hd : 2 ≤ d) : ∀ (rem : List Tok) (i : Nat) (s l : Int64), i + rem.length = e → (∀ j, j < rem.length → hp.getD (i + j) (0, 0) = rem.getD j (0, 0)) →
    ((rem.all (fun x => x.1 == 0) = false → E false mX6_foldNumbers d 11 [(0, .ref 19), (1, .int kd), (2, .int (nI a)), (3, .int (nI e)), (4, .long s), (6, .long l), (8, .int (nI i))] [] h (some (.int 1)) h) ∧
     (rem.all (fun x => x.1 == 0) = true → kd = 1 → E false mX6_foldNumbers d 11 [(0, .ref 19), (1, .int kd), (2, .int (nI a)), (3, .int (nI e)), (4, .long s), (6, .long l), (8, .int (nI i))] [] h (some (.int 0)) (hs h 19 (ob 6 (fo 10 (va_up (va_up (va_up K 5 (.int 0)) 6 (.long ((rem.map Prod.snd).foldl (fun a b => a + b) s))) 7 (.int 1)))))) ∧
     (rem.all (fun x => x.1 == 0) = true → ¬ kd = 1 → a < e → E false mX6_foldNumbers d 11 [(0, .ref 19), (1, .int kd), (2, .int (nI a)), (3, .int (nI e)), (4, .long s), (6, .long l), (8, .int (nI i))] [] h (some (.int 0)) (hs h 19 (ob 6 (fo 10 (va_up (va_up (va_up K 5 (.int 0)) 6 (.long ((rem.map Prod.snd).foldl (fun a b => if b < a then b else a) l))) 7 (.int 1)))))) ∧
     (rem = [] → ¬ kd = 1 → a = e → E false mX6_foldNumbers d 11 [(0, .ref 19), (1, .int kd), (2, .int (nI a)), (3, .int (nI e)), (4, .long s), (6, .long l), (8, .int (nI i))] [] h (some (.int 1)) h)) := by
  obtain ⟨G, f, g, t1, t2, t3, t4, t5, t6, t7, t8, t9, t10, t11, t12, t13, -⟩ := t
  have hle : hp.length ≤ 36000 := by omega
  intro rem
  induction rem with
  | nil =>
    intro i s l hi _
    have ei : i = e := by simpa using hi
    subst ei
    refine ⟨(fun q => by cases q), fun _ q => ?_, fun _ q z => ?_, fun _ q z => ?_⟩
    · have := j_X6_foldNumbers_b_3 (d := d) hd h kd (nI a) (nI i) s l (nI i) 0 (nI_le (Nat.le_refl _) (by omega)) q K k
      rw [hs_hs, hs_hs] at this
      exact this
    · have := j_X6_foldNumbers_b_2 (d := d) hd h kd (nI a) (nI i) s l (nI i) 0 (nI_le (Nat.le_refl _) (by omega)) q (nI_ge z (by omega)) K k
      rw [hs_hs, hs_hs] at this
      exact this
    · exact j_X6_foldNumbers_b_1 (d := d) (Nat.zero_le _) h kd (nI a) (nI i) s l (nI i) 0 (nI_le (Nat.le_refl _) (by omega)) q (nI_le (by omega) (by omega))
  | cons y rem ih =>
    intro i s l hi hy
    simp only [List.length_cons] at hi hy
    have y0 := hy 0 (by omega)
    rw [Nat.add_zero, List.getD_cons_zero] at y0
    obtain ⟨u1, u2⟩ := t8 i (by omega)
    rw [y0] at u1 u2
    have cl : (nI i).toNatClampNeg = i := nI_clamp (by omega)
    have ci : ¬ nI e ≤ nI i := nI_ge (by omega) (by omega)
    have cc : ¬ nI i < 0 ∧ ¬ nI hp.length ≤ nI i := ⟨nI_pos (by omega), nI_ge (by omega) (by omega)⟩
    have vi : vp_in (nI i) (κ 27).2.2 := vp_in_nI (by omega) (by omega)
    by_cases z : y.1 = 0
    · have S := j_X6_foldNumbers_b_8 (d := d) hd h kd (nI a) (nI e) s l (nI i) 0 ci K k k4 G t1 _ t5 cc _ t3 _ f t6 vi t13 (by rw [cl, u1, z]) _ t4 _ g t7 vi
      rw [cl, u2, nI_1] at S
      obtain ⟨i1, i2, i3, i4⟩ := ih (i + 1) (s + y.2) (if y.2 < l then y.2 else l) (by omega) (fun j hj => by
        have := hy (j + 1) (by omega)
        rw [List.getD_cons_succ] at this
        rw [← this]
        congr 1
        omega)
      have zb : (y.1 == 0) = true := by rw [z]; rfl
      refine ⟨fun q => E.st S (i1 ?_), fun q q2 => E.st S (i2 ?_ q2), fun q q2 q3 => E.st S (i3 ?_ q2 q3), fun q => by cases q⟩
      · simpa [List.all_cons, zb] using q
      · simpa [List.all_cons, zb] using q
      · simpa [List.all_cons, zb] using q
    · have zb : (y.1 == 0) = false := by simpa using z
      have S := j_X6_foldNumbers_b_9 (d := d) hd h kd (nI a) (nI e) s l (nI i) 0 ci K k k4 G t1 _ t5 cc _ t3 _ f t6 vi t13 (by rw [cl, u1]; exact z)
      refine ⟨fun _ => S, fun q => ?_, fun q => ?_, (fun q => by cases q)⟩
      · rw [List.all_cons, zb] at q; cases q
      · rw [List.all_cons, zb] at q; cases q
theorem min_max (v : Int64) : (if v < 9223372036854775807 then v else 9223372036854775807) = v := by
  split
  · rfl
  · rename_i q
    have a : v ≤ 9223372036854775807 := Int64.le_maxValue v
    have b := Int64.not_lt.mp q
    exact Int64.le_antisymm b a
theorem hsl_getD {hp : List Tok} {s l j : Nat} (h : j < l) : (hsl hp s l).getD j (0, 0) = hp.getD (s + j) (0, 0) := by
  unfold hsl
  rw [getD_take h]
  simp [List.getD_eq_getElem?_getD, List.getElem?_drop]
theorem w_fold {T : NT} {rec : Nat → St → Rs} {f n : Nat} {σ σ1 : St} {κ : KP} {w : WR} {h : AH} {d : Nat} (HV : CVal T rec f) (R : RH T rec f) (hT : wfT T) (hnf : n ≤ f) (m : Mid T n σ σ1) (hp : Pre T n σ) (hv : sVal σ (sLev σ) n = none) (r : RC T σ1 κ w h) (hA : okA T n) (hB : ∃ j, j ≤ 2 ∧ T.2.2.2.1 n = nI j) (hd : 10 * n + 1 ≤ d) : ∃ κ' w' h', CM mX6_workFold d [.ref 19, .int (nI n)] h (some (.int (nI (nAs rec listO (tA T n) σ1 (fun q σ2 => ansP σ2 n (foldT (T.2.2.2.1 n) (hsl (sHeap σ2) q.1 q.2)))).1))) h' ∧ WO T h κ n (nAs rec listO (tA T n) σ1 (fun q σ2 => ansP σ2 n (foldT (T.2.2.2.1 n) (hsl (sHeap σ2) q.1 q.2)))) κ' w' h' := by
  have hx := hA.2
  have hn := hp.2.1
  have h60 := hT.1
  have cl : (nI n).toNatClampNeg = n := nI_clamp (by omega)
  obtain ⟨⟨N, g3, g4, g5, g6, g7, n0, ⟨n1, n2, n3, n4, n5, n6⟩, ⟨m3, m4, m5, m6, m7⟩, n60, nn⟩, ⟨K, k, k0, k1, k2, k3, k4, k5, k6, k7, k8, k9⟩, -⟩ := id r
  have e4 : g4 (nI n).toNatClampNeg = nI (tA T n) := by rw [cl, (nn n hn).2.1]; exact hA.1
  have A := j_X6_workFold_a_1 (d := d) (by omega) h (nI n) 0 K k k0 N n0 _ n6 ⟨nI_pos (by omega), nI_ge hn (by omega)⟩ n2 60 g4 m4 (vp_in_nI (by omega) (by decide))
  rw [e4] at A
  obtain ⟨κ1, w1, h1, c1, o1⟩ := HV (tA T n) σ1 κ w h n (d - 1) (by omega) (m.pre hp hv hx) r hx (by omega) (by omega)
  have P := R (tA T n) (by omega) σ1 (m.pre hp hv hx)
  have go : ∀ {v : Option Value} {h' : AH}, E false mX6_workFold d 13 [(0, .ref 19), (1, .int (nI n))] [.int (nI (rec (tA T n) σ1).1)] h1 v h' → CM mX6_workFold d [.ref 19, .int (nI n)] h v h' := fun z => E.st A (E.st (s_invv dX6_workFold_10 rfl lX6_66 (by omega) rfl (Nat.le_of_ble_eq_true rfl) rfl (Nat.le_of_ble_eq_true rfl) k c1 (fun h => nomatch h)) z)
  by_cases z : (rec (tA T n) σ1).1 = 0
  · have m2 := m.post hx P z
    obtain ⟨r1, f1, v1, -⟩ := o1
    obtain ⟨x, gx, gk, gn, gl⟩ := v1 z
    rw [z] at go
    obtain ⟨a1, a2⟩ := gv_ok m2.2.1 gx
    clear nn n60 m3 m4 m5 m6 m7 n1 n2 n3 n4 n5 n6 n0 k9 k8 k7 k6 k5 k4 k3 k2 k1 k0 e4 A k
    obtain ⟨⟨N, g3, g4, g5, g6, g7, n0, ⟨n1, n2, n3, n4, n5, n6⟩, ⟨m3, m4, m5, m6, m7⟩, n60, nn⟩, ⟨K, k, k0, k1, k2, k3, k4, k5, k6, k7, k8, k9⟩, -, -, tl, -⟩ := id r1
    have fl : ¬ w1.1 = 2 → ∃ κ' w' h', CM mX6_workFold d [.ref 19, .int (nI n)] h (some (.int 1)) h' ∧ WO T h κ n (1, (rec (tA T n) σ1).2) κ' w' h' := fun q => ⟨κ1, w1, h1, go (j_X6_workFold_b_3 (Nat.zero_le _) h1 (nI n) (nI 0) 0 rfl K k _ k5 q), r1.wo f1 (by decide) (by decide)⟩
    match x, gx, gk, gn, gl, a2 with
    | .inl v, gx, gk, gn, gl, a2 => rw [nAs_f z (by rw [gx]; rfl)]; exact fl (by rw [gk]; show ¬ (0 : Int32) = 2; decide)
    | .inr (.inl p), gx, gk, gn, gl, a2 => rw [nAs_f z (by rw [gx]; rfl)]; exact fl (by rw [gk]; show ¬ (1 : Int32) = 2; decide)
    | .inr (.inr q), gx, gk, gn, gl, a2 =>
      rw [nAs_0 z (a := q) (by rw [gx]; rfl)]
      generalize (rec (tA T n) σ1).2 = σ2 at m2 r1 gx a2 tl fl
      obtain ⟨qs, ql⟩ := q
      have gn : w1.2.1 = lN qs := gn
      have gl : w1.2.2.1 = nI ql := gl
      have a2 : qs + ql ≤ (sHeap σ2).length ∧ LW (hsl (sHeap σ2) qs ql) := a2
      show ∃ κ' w' h', CM mX6_workFold d [.ref 19, .int (nI n)] h (some (.int (nI (ansP σ2 n (foldT (T.2.2.2.1 n) (hsl (sHeap σ2) qs ql))).1))) h' ∧ WO T h κ n (ansP σ2 n (foldT (T.2.2.2.1 n) (hsl (sHeap σ2) qs ql))) κ' w' h'
      obtain ⟨as, mm, cc, el, wf, ll⟩ := a2
      have len : (hsl (sHeap σ2) qs ql).length = ql := by unfold hsl; rw [List.length_take, List.length_drop]; omega
      have qll : ql = cc.length + 1 := by rw [← len, el]; rfl
      have hpl : (sHeap σ2).length ≤ 36000 := by
        obtain ⟨_, _, _, _, _, _, _, _, _, _, _, u1, u2, _⟩ := tl
        omega
      have e5 : g5 (nI n).toNatClampNeg = T.2.2.2.1 n := by rw [cl, (nn n hn).2.2.1]
      have sg : w1.2.1.toInt32 = nI qs := by rw [gn]; exact lN_i qs
      have cn : ¬ nI n < 0 ∧ ¬ nI (tN T) ≤ nI n := ⟨nI_pos (by omega), nI_ge hn (by omega)⟩
      have vi : vp_in (nI n) 60 := vp_in_nI (by omega) (by decide)
      have okN : ∀ {v : Int64} {hh : AH}, foldT (T.2.2.2.1 n) (hsl (sHeap σ2) qs ql) = some v → hh = hs h1 19 (ob 6 (fo 10 (va_up (va_up (va_up K 5 (.int 0)) 6 (.long v)) 7 (.int 1)))) → CM mX6_workFold d [.ref 19, .int (nI n)] h (some (.int 0)) hh → ∃ κ' w' h', CM mX6_workFold d [.ref 19, .int (nI n)] h (some (.int (nI (ansP σ2 n (foldT (T.2.2.2.1 n) (hsl (sHeap σ2) qs ql))).1))) h' ∧ WO T h κ n (ansP σ2 n (foldT (T.2.2.2.1 n) (hsl (sHeap σ2) qs ql))) κ' w' h' := by
        intro v hh ev eh C
        subst eh
        rw [ev]
        obtain ⟨r3, f3⟩ := r1.num k v
        exact ⟨κ1, _, _, C, σ2, r3, f1.tr f3, fun _ => ⟨.inl v, rfl, rfl, rfl, rfl⟩, fun q => absurd rfl q, fun q => by cases q⟩
      have okF : foldT (T.2.2.2.1 n) (hsl (sHeap σ2) qs ql) = none → CM mX6_workFold d [.ref 19, .int (nI n)] h (some (.int 1)) h1 → ∃ κ' w' h', CM mX6_workFold d [.ref 19, .int (nI n)] h (some (.int (nI (ansP σ2 n (foldT (T.2.2.2.1 n) (hsl (sHeap σ2) qs ql))).1))) h' ∧ WO T h κ n (ansP σ2 n (foldT (T.2.2.2.1 n) (hsl (sHeap σ2) qs ql))) κ' w' h' := by
        intro ev C
        rw [ev]
        exact ⟨κ1, w1, h1, C, r1.wo f1 (by decide) (by decide)⟩
      have gd : ∀ j, j < ql → (sHeap σ2).getD (qs + j) (0, 0) = ((2, lN mm) :: cc).getD j (0, 0) := fun j hj => by rw [← hsl_getD hj, el]
      by_cases y0 : T.2.2.2.1 n = 0
      · have B := j_X6_workFold_b_2 (d := d) (by omega) h1 (nI n) (nI 0) 0 rfl K k _ k5 gk _ k6 (nI qs) sg k0 N n0 _ n6 cn n3 60 g5 m5 vi (by rw [e5]; exact y0) k4
        have NA := TK_numberAt tl (d := 1) (Nat.le_refl _) (i := qs) (by omega)
        have g0 := gd 0 (by omega)
        rw [Nat.add_zero] at g0
        rw [g0] at NA
        obtain ⟨G, _, _, tg, -⟩ := tl
        have CC := j_X6_workFold_c_1 (d := d) (by omega) h1 (((2, lN mm) :: cc).getD 0 (0, 0)).2 0 K k
        rw [hs_hs, hs_hs] at CC
        exact okN (v := lN mm) (by rw [el, y0]; rfl) rfl (go (E.st B (E.st (s_invv dX6_workFold_57 rfl lX6_174 (by omega) rfl (Nat.le_of_ble_eq_true rfl) rfl (Nat.le_of_ble_eq_true rfl) tg NA (fun h => nomatch h)) CC)))
      · have B := j_X6_workFold_b_1 (d := d) (by omega) h1 (nI n) (nI 0) 0 rfl K k _ k5 gk _ k6 (nI qs) sg k0 N n0 _ n6 cn n3 60 g5 m5 vi (by rw [e5]; exact y0) _ k7
        rw [e5, gl, nI_1, nI_add] at B
        have LP := c_foldLoop tl k k4 (T.2.2.2.1 n) (qs + 1) (qs + ql) (by omega) (by omega) (d := d - 1) (by omega) cc (qs + 1) 0 9223372036854775807 (by omega) (fun j hj => by
          have := gd (j + 1) (by omega)
          rw [List.getD_cons_succ] at this
          rw [← this]
          congr 1
          omega)
        obtain ⟨L1, L2, L3, L4⟩ := LP
        have st : ∀ {v : Option Value} {h' : AH}, E false mX6_foldNumbers (d - 1) 11 [(0, .ref 19), (1, .int (T.2.2.2.1 n)), (2, .int (nI (qs + 1))), (3, .int (nI (qs + ql))), (4, .long 0), (6, .long 9223372036854775807), (8, .int (nI (qs + 1)))] [] h1 v h' → CM mX6_foldNumbers (d - 1) [.ref 19, .int (T.2.2.2.1 n), .int (nI (qs + 1)), .int (nI (qs + ql))] h1 v h' := fun q => E.st (j_X6_foldNumbers_a_1 (Nat.zero_le _) h1 (T.2.2.2.1 n) (nI (qs + 1)) (nI (qs + ql)) 0) q
        have fin : ∀ {v : Int32} {h' : AH}, CM mX6_foldNumbers (d - 1) [.ref 19, .int (T.2.2.2.1 n), .int (nI (qs + 1)), .int (nI (qs + ql))] h1 (some (.int v)) h' → CM mX6_workFold d [.ref 19, .int (nI n)] h (some (.int v)) h' := fun {v} {h'} q => go (E.st B (E.st (s_invv dX6_workFold_76 rfl lX6_177 (by omega) rfl (Nat.le_of_ble_eq_true rfl) rfl (Nat.le_of_ble_eq_true rfl) k q (fun h => nomatch h)) (j_X6_workFold_d_1 (Nat.zero_le _) h' v 0)))
        have ft : foldT (T.2.2.2.1 n) (hsl (sHeap σ2) qs ql) = if cc.all (fun x => x.1 == 0) then (if T.2.2.2.1 n = 1 then some (sumL (cc.map Prod.snd)) else minL (cc.map Prod.snd)) else none := by
          rw [el]
          exact if_neg y0
        by_cases all : cc.all (fun x => x.1 == 0) = true
        · rw [if_pos all] at ft
          by_cases y1 : T.2.2.2.1 n = 1
          · rw [if_pos y1] at ft
            exact okN ft rfl (fin (st (L2 all y1)))
          · rw [if_neg y1] at ft
            match cc, ft, L3, L4, qll, all with
            | [], ft, L3, L4, qll, all => exact okF ft (fin (st (L4 rfl y1 (by rw [qll]; rfl))))
            | c0 :: cr, ft, L3, L4, qll, all =>
              have T3 := L3 all y1 (by rw [qll]; simp only [List.length_cons]; omega)
              refine okN (v := (cr.map Prod.snd).foldl (fun a b => if b < a then b else a) c0.2) ft rfl (fin (st ?_))
              simp only [List.map_cons, List.foldl_cons, min_max] at T3
              exact T3
        · rw [if_neg all] at ft
          exact okF ft (fin (st (L1 (by simpa using all))))
  · rw [nAs_b z]
    exact ⟨κ1, w1, h1, go (j_X6_workFold_b_4 (Nat.zero_le _) h1 (nI n) _ 0 (fun q => z ((nI_eq (by have := P.1; omega) (by decide)).mp q))), o1.bad z⟩
