/-! choices, sums, parts, tests in the reference -/
theorem MV.tc {T : NT} {σ : St} {F : Nat → Value} {I I' : AI} {L : AL} {t : List Bool} {c : Nat} (m : MV T σ F I L) (hi : ∀ y, y ≠ 78 → y ≠ 79 → y ≠ 80 → I' y = I y) (h79 : ∀ k, k ≠ sLev σ → I' 79 k = I 79 k) (h80 : ∀ k, k ≠ sLev σ → I' 80 k = I 80 k) (h78 : ∀ j, j < 2001 * sLev σ → I' 78 j = I 78 j) (ht : MT t c (sLev σ) I') : MV T (wTC σ (va_up (sTold σ) (sLev σ) t) (va_up (sCome σ) (sLev σ) c)) F I' L := by
  obtain ⟨v1, v2, v3, v4, v5, v6, v7, v8⟩ := m
  refine ⟨v1, fun k hk => by rw [hi 71 (by decide) (by decide) (by decide)]; exact v2 k hk, fun k hk i hi' => (v3 k hk i hi').agree (by rw [hi 72 (by decide) (by decide) (by decide)]) rfl (by rw [hi 74 (by decide) (by decide) (by decide)]) (by rw [hi 75 (by decide) (by decide) (by decide)]), v4.agree (hi 76 (by decide) (by decide) (by decide)) rfl, fun k hk => ?_, fun k hk => (v6 k hk).agree (by rw [hi 83 (by decide) (by decide) (by decide)]) (fun j _ => by rw [hi 81 (by decide) (by decide) (by decide)]) (fun j _ => rfl), fun k h0 hk => (v7 k h0 hk).agree (by rw [hi 86 (by decide) (by decide) (by decide)]) (fun j _ => by rw [hi 84 (by decide) (by decide) (by decide)]) (fun j _ => rfl), v8⟩
  have hk : k ≤ sLev σ := hk
  show MT (va_up (sTold σ) (sLev σ) t k) (va_up (sCome σ) (sLev σ) c k) k I'
  by_cases e : k = sLev σ
  · rw [e, up_eq, up_eq]
    exact ht
  · rw [up_ne e, up_ne e]
    exact (v5 k hk).agree (h79 k e) (h80 k e) (fun j hj => h78 _ (by omega))
theorem RMx.tell {T : NT} {σ : St} {μ : KM} {F : Nat → Value} {I : AI} {L : AL} {h : AH} (r : RMx T σ 0 μ F I L h) {n : Nat} (hn : n < 60) (v : Int64) : RMx T (sv σ n (some (.inl v))) 0 μ F (va_up I 72 (upd (I 72) (60 * sLev σ + n) 1)) (va_up L 73 (vp_updL (L 73) (60 * sLev σ + n) v)) (hs (hs h 72 (ia 360 (upd (I 72) (60 * sLev σ + n) 1))) 73 (la 360 (vp_updL (L 73) (60 * sLev σ + n) v))) ∧ MF h μ F I L (hs (hs h 72 (ia 360 (upd (I 72) (60 * sLev σ + n) 1))) 73 (la 360 (vp_updL (L 73) (60 * sLev σ + n) v))) μ F (va_up I 72 (upd (I 72) (60 * sLev σ + n) 1)) (va_up L 73 (vp_updL (L 73) (60 * sLev σ + n) v)) := by
  obtain ⟨mh, fs, rn, mv, e26, -, -, hlen⟩ := id r
  refine r.val (((ST.rf mh).i (x := 72) (n := 360) (by decide) (by decide) _).l (x := 73) (n := 360) (by decide) (by decide) _) (mv.sv hn (.inl v) (fun w a _ _ => up_ne a) (fun w a => up_ne a) (fun j hj => by rw [up_eq, pk_un hj]) (fun j hj => by rw [up_eq, pk_uLn hj]) (fun j hj => by rw [up_ne (by decide)]) (fun j hj => by rw [up_ne (by decide)]) ?_) hlen
  unfold MVa
  rw [up_eq, pk_us, up_eq, pk_uLs]
  exact ⟨rfl, rfl⟩
theorem m_choose {T : NT} {rec : Nat → St → Rs} {f n : Nat} {σ : St} {μ : KM} {F : Nat → Value} {I : AI} {L : AL} {h : AH} {d : Nat} (HN : CNd T rec f) (R : RH T rec f) (hT : wfT T) (hnf : n ≤ f) (hp : Pre T n σ) (hlab : sLab σ < 2000) (hv : sVal σ (sLev σ) n = none) (r : RMx T (wLab σ (sLab σ + 1)) 0 μ F I L h) (hA : okA T n) (hB : okB T n) (hd : 10 * n + 2 ≤ d) : ∃ μ' F' I' L' h', CM mX8_choose d [.ref 65, .int (nI (60 * sLev σ + n)), .int (nI n)] h none h' ∧ MF h μ F I L h' μ' F' I' L' ∧ RMr T (choP rec T n (wLab σ (sLab σ + 1))) μ' F' I' L' h' := by
  have ha := hA.2
  have hb := hB.2
  have hn := hp.2.1
  have h60 := hT.1
  have cl : (nI n).toNatClampNeg = n := nI_clamp (by omega)
  have c60 : sCome σ (sLev σ) + 1 ≤ 60 := by
    have := cn_lt (sVal σ (sLev σ)) (show n < n + 1 by omega) hv
    have := hp.2.2
    omega
  obtain ⟨mh, fs, rn, mv, e26, -, -, hlen⟩ := id r
  obtain ⟨⟨e7, e15, e25⟩, v2, v3, v4, v5, v6, v7, v8⟩ := id mv
  have e7 : F 7 = .int (nI (sLev σ)) := e7
  have v8 : sLev σ < 6 := v8
  obtain ⟨t1, t2, t3, t4, t5⟩ := v5 (sLev σ) (Nat.le_refl _)
  have t1 : I 79 (sLev σ) = nI (sTold σ (sLev σ)).length := t1
  have t2 : I 80 (sLev σ) = nI (sCome σ (sLev σ)) := t2
  have t3 : (sTold σ (sLev σ)).length ≤ 300 := t3
  have t4 : sCome σ (sLev σ) ≤ (sTold σ (sLev σ)).length := t4
  have t5 : ∀ j, j < (sTold σ (sLev σ)).length → I 78 (2001 * sLev σ + j) = if (sTold σ (sLev σ)).getD j false then 1 else 0 := t5
  have cv : (nI (sLev σ)).toNatClampNeg = sLev σ := nI_clamp (by omega)
  have vv : vp_in (nI (sLev σ)) 6 := vp_in_nI v8 (by decide)
  have vn : vp_in (nI n) 60 := vp_in_nI (by omega) (by decide)
  have ea : (2001 * nI (sLev σ)) + I 80 (nI (sLev σ)).toNatClampNeg = nI (2001 * sLev σ + sCome σ (sLev σ)) := by
    rw [cv, t2, show (2001 : Int32) = nI 2001 from rfl, pk_mul, nI_add]
  have va : vp_in (nI (2001 * sLev σ + sCome σ (sLev σ))) 12006 := vp_in_nI (by omega) (by decide)
  have ca : (nI (2001 * sLev σ + sCome σ (sLev σ))).toNatClampNeg = 2001 * sLev σ + sCome σ (sLev σ) := nI_clamp (by omega)
  have e4 : I 68 (nI n).toNatClampNeg = nI (tA T n) := by rw [cl, (rn.2 n hn).2.1]; exact hA.1
  have e5 : I 69 (nI n).toNatClampNeg = nI (tB T n) := by rw [cl, (rn.2 n hn).2.2.1]; exact hB.1
  have go : ∀ (t : List Bool) (x : Nat) (hh : AH) (I' : AI), x < n → J false mX8_choose d 0 [(0, .ref 65), (1, .int (nI (60 * sLev σ + n))), (2, .int (nI n))] [] h 112 [(0, .ref 65), (1, .int (nI (60 * sLev σ + n))), (2, .int (nI n))] [.int (nI x), .int (nI (60 * sLev σ + n)), .ref 65] hh → ST h μ F I L hh μ F I' L → MV T (wTC (wLab σ (sLab σ + 1)) (va_up (sTold σ) (sLev σ) t) (va_up (sCome σ) (sLev σ) (sCome σ (sLev σ) + 1))) F I' L → (sLev σ = 0 → t = sTold σ 0) → sCome σ (sLev σ) + 1 ≤ t.length → ∃ μ' F' I' L' h', CM mX8_choose d [.ref 65, .int (nI (60 * sLev σ + n)), .int (nI n)] h none h' ∧ MF h μ F I L h' μ' F' I' L' ∧ RMr T (tkP rec n x (wTC (wLab σ (sLab σ + 1)) (va_up (sTold σ) (sLev σ) t) (va_up (sCome σ) (sLev σ) (sCome σ (sLev σ) + 1)))) μ' F' I' L' h' := by
    intro t x hh I' hx A s mv' t2 t3
    obtain ⟨r2, c2⟩ := r.val s mv' hlen
    have M := cho_mid hp hlab hv (va_up (sTold σ) (sLev σ) t) (fun k hk => up_ne (Nat.ne_of_lt hk)) (fun z => by
      have := t2 z
      show va_up (sTold σ) (sLev σ) t 0 = _
      rw [z, up_eq]; exact this) (by rw [up_eq]; exact t3)
    obtain ⟨μ', F', I'', L', h', y1, y2, y3⟩ := m_take (d := d - 1) HN R hT (x := x) (n := n) (by omega) (by omega) (M.pre hp hv hx) r2 (by omega)
    exact ⟨μ', F', I'', L', h', E.st A (E.st (s_invv dX8_choose_112 rfl lX8_156 (by omega) rfl (Nat.le_of_ble_eq_true rfl) rfl (Nat.le_of_ble_eq_true rfl) r2.1.1 y1 (fun h => nomatch h)) (j_X8_choose_b_1 (Nat.zero_le _) h' _ _ 0 0)), c2.tr y2, y3⟩
  unfold choP
  by_cases e : sCome (wLab σ (sLab σ + 1)) (sLev (wLab σ (sLab σ + 1))) = (sTold (wLab σ (sLab σ + 1)) (sLev (wLab σ (sLab σ + 1)))).length
  · rw [if_pos e]
    have e : sCome σ (sLev σ) = (sTold σ (sLev σ)).length := e
    have ce : I 80 (nI (sLev σ)).toNatClampNeg = I 79 (nI (sLev σ)).toNatClampNeg := by rw [cv, t1, t2, e]
    by_cases e2 : sLev (wLab σ (sLab σ + 1)) = 0
    · rw [if_pos e2]
      have e2 : sLev σ = 0 := e2
      obtain ⟨r3, f3⟩ := r.stop 3 (by decide)
      exact ⟨μ, _, I, L, _, (j_X8_choose_a_5 (d := d) (by omega) h (nI (60 * sLev σ + n)) (nI n) μ.1 μ.2.1 F mh.1 _ e7 (fs.r (by decide)) 6 (I 80) (mh.i (by decide)) (by assumption) _ ea (fs.r (by decide)) 6 (I 79) (mh.i (by decide)) (by assumption) ce (by rw [e2]; rfl)), f3, r3.r⟩
    · rw [if_neg e2]
      have e2 : ¬ sLev σ = 0 := e2
      have B := j_X8_choose_a_4 (d := d) (by omega) h (nI (60 * sLev σ + n)) (nI n) μ.1 μ.2.1 F mh.1 _ e7 (fs.r (by decide)) 6 (I 80) (mh.i (by decide)) (by assumption) _ ea (fs.r (by decide)) 6 (I 79) (mh.i (by decide)) (by assumption) ce (fun q => e2 ((nI_eq (by omega) (by decide)).mp q)) (fs.r (by decide)) 12006 (I 78) (mh.i (by decide)) (by assumption) pk_us (fs.r (by decide)) 60 (I 68) (mh.i (by decide)) (by assumption)
      rw [ca, cv, e4, t1, t2, nI_1, nI_1] at B
      have s := (((ST.rf mh).i (x := 78) (n := 12006) (by decide) (by decide) (upd (I 78) (2001 * sLev σ + sCome σ (sLev σ)) 0)).i (x := 79) (n := 6) (by decide) (by decide) (upd (I 79) (sLev σ) (nI ((sTold σ (sLev σ)).length + 1)))).i (x := 80) (n := 6) (by decide) (by decide) (upd (I 80) (sLev σ) (nI (sCome σ (sLev σ) + 1)))
      refine go (sTold σ (sLev σ) ++ [false]) (tA T n) _ _ ha B s (MV.tc mv (fun y a b c => by rw [up_ne c, up_ne b, up_ne a]) (fun k hk => ?_) (fun k hk => ?_) (fun j hj => ?_) ⟨?_, ?_, ?_, ?_, fun j hj => ?_⟩) (fun z => absurd z e2) (by rw [List.length_append, e]; exact Nat.le_refl _)
      · rw [up_ne (by decide), up_eq, pk_un hk]
      · rw [up_eq, pk_un hk]
      · have hj : j < 2001 * sLev σ := hj
        rw [up_ne (by decide), up_ne (by decide), up_eq, pk_un (by omega)]
      · show va_up (va_up (va_up I 78 _) 79 _) 80 _ 79 (sLev σ) = _
        rw [up_ne (by decide), up_eq, pk_us, List.length_append]
        rfl
      · show va_up (va_up (va_up I 78 _) 79 _) 80 _ 80 (sLev σ) = _
        rw [up_eq, pk_us]
      · rw [List.length_append]
        show (sTold σ (sLev σ)).length + 1 ≤ 300
        omega
      · rw [List.length_append]
        show sCome σ (sLev σ) + 1 ≤ (sTold σ (sLev σ)).length + 1
        omega
      · rw [List.length_append] at hj
        have hj : j < (sTold σ (sLev σ)).length + 1 := hj
        show va_up (va_up (va_up I 78 _) 79 _) 80 _ 78 (2001 * sLev σ + j) = _
        rw [up_ne (by decide), up_ne (by decide), up_eq]
        by_cases ej : j = (sTold σ (sLev σ)).length
        · rw [ej, ← e, pk_us, e, getD_app_hi (Nat.le_refl _), Nat.sub_self]
          rfl
        · rw [pk_un (by omega), getD_app_lo (by omega)]
          exact t5 j (by omega)
  · rw [if_neg e]
    have e : ¬ sCome σ (sLev σ) = (sTold σ (sLev σ)).length := e
    have ce : ¬ I 80 (nI (sLev σ)).toNatClampNeg = I 79 (nI (sLev σ)).toNatClampNeg := by
      rw [cv, t1, t2]
      intro q
      exact e ((nI_eq (by omega) (by omega)).mp q)
    have G := fun x hh I' hx A s mv => go (sTold σ (sLev σ)) x hh I' hx A s mv (fun z => by rw [z]) (by omega)
    have mv' : MV T (wTC (wLab σ (sLab σ + 1)) (va_up (sTold σ) (sLev σ) (sTold σ (sLev σ))) (va_up (sCome σ) (sLev σ) (sCome σ (sLev σ) + 1))) F (va_up I 80 (upd (I 80) (sLev σ) (nI (sCome σ (sLev σ) + 1)))) L := by
      refine MV.tc mv (fun y a b c => up_ne c) (fun k hk => by rw [up_ne (by decide)]) (fun k hk => by rw [up_eq, pk_un hk]) (fun j hj => by rw [up_ne (by decide)]) ⟨?_, ?_, t3, ?_, fun j hj => ?_⟩
      · rw [up_ne (by decide)]; exact t1
      · show va_up I 80 _ 80 (sLev σ) = _
        rw [up_eq, pk_us]
      · omega
      · rw [up_ne (by decide)]; exact t5 j hj
    have s := (ST.rf mh).i (x := 80) (n := 6) (by decide) (by decide) (upd (I 80) (sLev σ) (nI (sCome σ (sLev σ) + 1)))
    rw [show va_up (sTold σ) (sLev σ) (sTold σ (sLev σ)) = sTold σ from up_same] at G mv'
    have b5 := t5 (sCome σ (sLev σ)) (by omega)
    by_cases c : (sTold σ (sLev σ)).getD (sCome σ (sLev σ)) false = true
    · rw [if_pos c] at b5
      have B := j_X8_choose_a_1 (d := d) (by omega) h (nI (60 * sLev σ + n)) (nI n) μ.1 μ.2.1 F mh.1 _ e7 (fs.r (by decide)) 6 (I 80) (mh.i (by decide)) (by assumption) _ ea (fs.r (by decide)) 6 (I 79) (mh.i (by decide)) (by assumption) ce (fs.r (by decide)) 12006 (I 78) (mh.i (by decide)) (by assumption) (by rw [ca, b5]; decide) (fs.r (by decide)) 60 (I 69) (mh.i (by decide)) (by assumption)
      rw [cv, e5, t2, nI_1] at B
      have := G (tB T n) _ _ hb B s mv'
      rw [if_pos (show (sTold (wLab σ (sLab σ + 1)) (sLev (wLab σ (sLab σ + 1)))).getD (sCome (wLab σ (sLab σ + 1)) (sLev (wLab σ (sLab σ + 1)))) false = true from c)]
      exact this
    · rw [if_neg c] at b5
      have B := j_X8_choose_a_2 (d := d) (by omega) h (nI (60 * sLev σ + n)) (nI n) μ.1 μ.2.1 F mh.1 _ e7 (fs.r (by decide)) 6 (I 80) (mh.i (by decide)) (by assumption) _ ea (fs.r (by decide)) 6 (I 79) (mh.i (by decide)) (by assumption) ce (fs.r (by decide)) 12006 (I 78) (mh.i (by decide)) (by assumption) (by rw [ca, b5]) (fs.r (by decide)) 60 (I 68) (mh.i (by decide)) (by assumption)
      rw [cv, e4, t2, nI_1] at B
      have := G (tA T n) _ _ ha B s mv'
      rw [if_neg (show ¬ (sTold (wLab σ (sLab σ + 1)) (sLev (wLab σ (sLab σ + 1)))).getD (sCome (wLab σ (sLab σ + 1)) (sLev (wLab σ (sLab σ + 1)))) false = true from c)]
      exact this
theorem kO_num {o : Option Vl} (h : kO o = 1) : ∃ v, o = some (.inl v) := by
  match o, h with
  | none, h => exact absurd h (by show ¬ (0 : Int32) = 1; decide)
  | some (.inl v), h => exact ⟨v, rfl⟩
  | some (.inr (.inl _)), h => exact absurd h (by show ¬ (2 : Int32) = 1; decide)
  | some (.inr (.inr _)), h => exact absurd h (by show ¬ (3 : Int32) = 1; decide)
theorem kO_numN {o : Option Vl} (h : ¬ kO o = 1) : numO o = none := by
  match o, h with
  | none, h => rfl
  | some (.inl v), h => exact absurd rfl h
  | some (.inr (.inl _)), h => rfl
  | some (.inr (.inr _)), h => rfl
theorem kO_pair {o : Option Vl} (h : kO o = 2) : ∃ p, o = some (.inr (.inl p)) := by
  match o, h with
  | none, h => exact absurd h (by show ¬ (0 : Int32) = 2; decide)
  | some (.inl v), h => exact absurd h (by show ¬ (1 : Int32) = 2; decide)
  | some (.inr (.inl p)), h => exact ⟨p, rfl⟩
  | some (.inr (.inr _)), h => exact absurd h (by show ¬ (3 : Int32) = 2; decide)
theorem kO_pairN {o : Option Vl} (h : ¬ kO o = 2) : pairO o = none := by
  match o, h with
  | none, h => rfl
  | some (.inl v), h => rfl
  | some (.inr (.inl _)), h => exact absurd rfl h
  | some (.inr (.inr _)), h => rfl
theorem kO_list {o : Option Vl} (h : kO o = 3) : ∃ q, o = some (.inr (.inr q)) := by
  match o, h with
  | none, h => exact absurd h (by show ¬ (0 : Int32) = 3; decide)
  | some (.inl v), h => exact absurd h (by show ¬ (1 : Int32) = 3; decide)
  | some (.inr (.inl p)), h => exact absurd h (by show ¬ (2 : Int32) = 3; decide)
  | some (.inr (.inr q)), h => exact ⟨q, rfl⟩
theorem kO_listN {o : Option Vl} (h : ¬ kO o = 3) : listO o = none := by
  match o, h with
  | none, h => rfl
  | some (.inl v), h => rfl
  | some (.inr (.inl _)), h => rfl
  | some (.inr (.inr _)), h => exact absurd rfl h
theorem m_reckon {T : NT} {rec : Nat → St → Rs} {f n : Nat} {σ σ1 : St} {μ : KM} {F : Nat → Value} {I : AI} {L : AL} {h : AH} {d : Nat} (HN : CNd T rec f) (R : RH T rec f) (hT : wfT T) (hnf : n ≤ f) (m : Mid T n σ σ1) (hp : Pre T n σ) (hv : sVal σ (sLev σ) n = none) (r : RMx T σ1 0 μ F I L h) (hA : okA T n) (hB : okB T n) (hC : ∃ j, j ≤ 5 ∧ T.2.2.2.2.1 n = nI j) (hd : 10 * n + 2 ≤ d) : ∃ μ' F' I' L' h', CM mX8_reckon d [.ref 65, .int (nI (60 * sLev σ + n)), .int (nI n)] h none h' ∧ MF h μ F I L h' μ' F' I' L' ∧ RMr T (nAs rec numO (tA T n) σ1 (fun a σ2 => nAs rec numO (tB T n) σ2 (fun b σ3 => ansP σ3 n (reck (T.2.2.2.2.1 n) a b)))) μ' F' I' L' h' := by
  have ha := hA.2
  have hb := hB.2
  have hn := hp.2.1
  have h60 := hT.1
  have cl : (nI n).toNatClampNeg = n := nI_clamp (by omega)
  have vn : vp_in (nI n) 60 := vp_in_nI (by omega) (by decide)
  have P := R (tA T n) (by omega) σ1 (m.pre hp hv ha)
  obtain ⟨μ1, F1, I1, L1, h1, c1, f1, x1, x2, x3⟩ := m_needAs (d := d - 1) HN R hT (x := tA T n) (by omega) (m.pre hp hv ha) r (by omega) 1
  have A0 : J false mX8_reckon d 0 [(0, .ref 65), (1, .int (nI (60 * sLev σ + n))), (2, .int (nI n))] [] h 8 [(0, .ref 65), (1, .int (nI (60 * sLev σ + n))), (2, .int (nI n))] [.int 1, .int (nI (tA T n)), .ref 65] h := by
    obtain ⟨mh, fs, rn, -⟩ := id r
    have e4 : I 68 (nI n).toNatClampNeg = nI (tA T n) := by rw [cl, (rn.2 n hn).2.1]; exact hA.1
    have B := j_X8_reckon_a_1 (d := d) (by omega) h (nI (60 * sLev σ + n)) (nI n) μ.1 μ.2.1 F mh.1 (fs.r (by decide)) 60 (I 68) (mh.i (by decide)) (by assumption)
    rw [e4] at B
    exact B
  have go : ∀ {h' : AH}, E false mX8_reckon d 11 [(0, .ref 65), (1, .int (nI (60 * sLev σ + n))), (2, .int (nI n))] [] h1 none h' → CM mX8_reckon d [.ref 65, .int (nI (60 * sLev σ + n)), .int (nI n)] h none h' := fun z => E.st A0 (E.st (s_invv dX8_reckon_8 rfl lX8_150 (by omega) rfl (Nat.le_of_ble_eq_true rfl) rfl (Nat.le_of_ble_eq_true rfl) r.1.1 c1 (fun h => nomatch h)) z)
  by_cases z : (rec (tA T n) σ1).1 = 0
  · by_cases y : kO (gv (rec (tA T n) σ1).2 (tA T n)) = 1
    · obtain ⟨va, ga⟩ := kO_num y
      rw [nAs_0 z (a := va) (by rw [ga]; rfl)]
      have m2 := m.post ha P z
      have r2 := x2 z y
      have l1 : sLev (rec (tA T n) σ1).2 = sLev σ := m2.1.1
      generalize (rec (tA T n) σ1).2 = σ2 at m2 r2 ga l1
      have Q := R (tB T n) (by omega) σ2 (m2.pre hp hv hb)
      obtain ⟨μ2, F2, I2, L2, h2, c2, f2, y1, y2, y3⟩ := m_needAs (d := d - 1) HN R hT (x := tB T n) (by omega) (m2.pre hp hv hb) r2 (by omega) 1
      have A1 : J false mX8_reckon d 11 [(0, .ref 65), (1, .int (nI (60 * sLev σ + n))), (2, .int (nI n))] [] h1 26 [(0, .ref 65), (1, .int (nI (60 * sLev σ + n))), (2, .int (nI n))] [.int 1, .int (nI (tB T n)), .ref 65] h1 := by
        obtain ⟨mh, fs, rn, mv, e26, -⟩ := id r2
        have e4 : I1 69 (nI n).toNatClampNeg = nI (tB T n) := by rw [cl, (rn.2 n hn).2.2.1]; exact hB.1
        have B := j_X8_reckon_b_2 (d := d) (by omega) h1 (nI (60 * sLev σ + n)) (nI n) μ1.1 μ1.2.1 F1 mh.1 _ e26 rfl (fs.r (by decide)) 60 (I1 69) (mh.i (by decide)) (by assumption)
        rw [e4] at B
        exact B
      obtain ⟨mh1, -⟩ := id r2
      have go2 : ∀ {h' : AH}, E false mX8_reckon d 29 [(0, .ref 65), (1, .int (nI (60 * sLev σ + n))), (2, .int (nI n))] [] h2 none h' → CM mX8_reckon d [.ref 65, .int (nI (60 * sLev σ + n)), .int (nI n)] h none h' := fun z => go (E.st A1 (E.st (s_invv dX8_reckon_26 rfl lX8_150 (by omega) rfl (Nat.le_of_ble_eq_true rfl) rfl (Nat.le_of_ble_eq_true rfl) mh1.1 c2 (fun h => nomatch h)) z))
      by_cases z2 : (rec (tB T n) σ2).1 = 0
      · by_cases y' : kO (gv (rec (tB T n) σ2).2 (tB T n)) = 1
        · obtain ⟨vb, gb⟩ := kO_num y'
          rw [nAs_0 z2 (a := vb) (by rw [gb]; rfl)]
          have m3 := m2.post hb Q z2
          have r3 := y2 z2 y'
          have ga' := gv_pers Q.2.1 ga
          have l3 : sLev (rec (tB T n) σ2).2 = sLev σ := m3.1.1
          generalize (rec (tB T n) σ2).2 = σ3 at m3 r3 gb ga' l3
          obtain ⟨qa, ca, ha1, ha2, ha3, ha4⟩ := r3.cell m3.2.1 hT (n := tA T n) (by omega)
          obtain ⟨qb, cb, hb1, hb2, hb3, hb4⟩ := r3.cell m3.2.1 hT (n := tB T n) (by omega)
          rw [ga'] at ha4
          rw [gb] at hb4
          obtain ⟨mh, fs, rn, mv, e26, -⟩ := id r3
          have e4 : I2 68 (nI n).toNatClampNeg = nI (tA T n) := by rw [cl, (rn.2 n hn).2.1]; exact hA.1
          have e5 : I2 69 (nI n).toNatClampNeg = nI (tB T n) := by rw [cl, (rn.2 n hn).2.2.1]; exact hB.1
          have e6 : I2 70 (nI n).toNatClampNeg = T.2.2.2.2.1 n := by rw [cl, (rn.2 n hn).2.2.2.1]
          have ca' : CM mX8_cellOf 3 [.ref 65, .int (I2 68 (nI n).toNatClampNeg)] h2 (some (.int (nI qa))) h2 := by rw [e4]; exact ca
          have cb' : CM mX8_cellOf 3 [.ref 65, .int (I2 69 (nI n).toNatClampNeg)] h2 (some (.int (nI qb))) h2 := by rw [e5]; exact cb
          have na : L2 73 (nI qa).toNatClampNeg = va := by rw [ha2]; exact ha4.2
          have nb : L2 73 (nI qb).toNatClampNeg = vb := by rw [hb2]; exact hb4.2
          have v8 := mv.2.2.2.2.2.2.2
          have vz : vp_in (nI (60 * sLev σ + n)) 360 := vp_in_nI (by omega) (by decide)
          have cz : (nI (60 * sLev σ + n)).toNatClampNeg = 60 * sLev σ + n := nI_clamp (by omega)
          have T1 : ∀ v, reck (T.2.2.2.2.1 n) va vb = some v → E false mX8_reckon d 29 [(0, .ref 65), (1, .int (nI (60 * sLev σ + n))), (2, .int (nI n))] [] h2 none (hs (hs h2 72 (ia 360 (upd (I2 72) (nI (60 * sLev σ + n)).toNatClampNeg 1))) 73 (la 360 (vp_updL (L2 73) (nI (60 * sLev σ + n)).toNatClampNeg v))) → ∃ μ' F' I' L' h', CM mX8_reckon d [.ref 65, .int (nI (60 * sLev σ + n)), .int (nI n)] h none h' ∧ MF h μ F I L h' μ' F' I' L' ∧ RMr T (ansP σ3 n (reck (T.2.2.2.2.1 n) va vb)) μ' F' I' L' h' := by
            intro v ev X
            rw [ev]
            rw [cz, ← l3] at X
            obtain ⟨r4, f4⟩ := r3.tell (n := n) (by omega) v
            exact ⟨μ2, F2, _, _, _, go2 (by rw [l3] at X ⊢; exact X), (f1.tr f2).tr f4, r4.r⟩
          obtain ⟨j, hj, ej⟩ := hC
          have hc : j = 0 ∨ j = 1 ∨ j = 2 ∨ j = 3 ∨ j = 4 ∨ j = 5 := by omega
          rcases hc with rfl | rfl | rfl | rfl | rfl | rfl
          · refine T1 (va + vb) (by rw [ej]; rfl) ?_
            have B := j_X8_reckon_c_1 (d := d) (by omega) h2 (nI (60 * sLev σ + n)) (nI n) μ2.1 μ2.2.1 F2 mh.1 _ e26 rfl (fs.r (by decide)) (fs.r (by decide)) 60 (I2 68) (mh.i (by decide)) (by assumption) (nI qa) ca' 360 (L2 73) (mh.l (by decide)) (by assumption) (fs.r (by decide)) 60 (I2 69) (mh.i (by decide)) (by assumption) (nI qb) cb' (by assumption) (fs.r (by decide)) 60 (I2 70) (mh.i (by decide)) (by assumption) (by rw [e6, ej]; rfl) (fs.r (by decide)) 360 (I2 72) (mh.i (by decide)) (by assumption) (by assumption)
            rw [na, nb] at B
            exact B
          · refine T1 (va - vb) (by rw [ej]; rfl) ?_
            have B := j_X8_reckon_c_2 (d := d) (by omega) h2 (nI (60 * sLev σ + n)) (nI n) μ2.1 μ2.2.1 F2 mh.1 _ e26 rfl (fs.r (by decide)) (fs.r (by decide)) 60 (I2 68) (mh.i (by decide)) (by assumption) (nI qa) ca' 360 (L2 73) (mh.l (by decide)) (by assumption) (fs.r (by decide)) 60 (I2 69) (mh.i (by decide)) (by assumption) (nI qb) cb' (by assumption) (fs.r (by decide)) 60 (I2 70) (mh.i (by decide)) (by assumption) (by rw [e6, ej]; rfl) (fs.r (by decide)) 360 (I2 72) (mh.i (by decide)) (by assumption) (by assumption)
            rw [na, nb] at B
            exact B
          · refine T1 (va * vb) (by rw [ej]; rfl) ?_
            have B := j_X8_reckon_c_3 (d := d) (by omega) h2 (nI (60 * sLev σ + n)) (nI n) μ2.1 μ2.2.1 F2 mh.1 _ e26 rfl (fs.r (by decide)) (fs.r (by decide)) 60 (I2 68) (mh.i (by decide)) (by assumption) (nI qa) ca' 360 (L2 73) (mh.l (by decide)) (by assumption) (fs.r (by decide)) 60 (I2 69) (mh.i (by decide)) (by assumption) (nI qb) cb' (by assumption) (fs.r (by decide)) 60 (I2 70) (mh.i (by decide)) (by assumption) (by rw [e6, ej]; rfl) (fs.r (by decide)) 360 (I2 72) (mh.i (by decide)) (by assumption) (by assumption)
            rw [na, nb] at B
            exact B
          · by_cases zb : vb = 0
            · have B := j_X8_reckon_c_5 (d := d) (by omega) h2 (nI (60 * sLev σ + n)) (nI n) μ2.1 μ2.2.1 F2 mh.1 _ e26 rfl (fs.r (by decide)) (fs.r (by decide)) 60 (I2 68) (mh.i (by decide)) (by assumption) (nI qa) ca' 360 (L2 73) (mh.l (by decide)) (by assumption) (fs.r (by decide)) 60 (I2 69) (mh.i (by decide)) (by assumption) (nI qb) cb' (by assumption) (fs.r (by decide)) 60 (I2 70) (mh.i (by decide)) (by assumption) (by rw [e6, ej]; rfl) (by rw [nb]; exact zb)
              obtain ⟨r4, f4⟩ := r3.stop 1 (by decide)
              have ev : reck (T.2.2.2.2.1 n) va vb = none := by
                rw [ej]
                unfold reck
                rw [if_neg (by decide), if_neg (by decide), if_neg (by decide), if_pos (show nI 3 = 3 from rfl), if_pos zb]
              rw [ev]
              exact ⟨μ2, _, I2, L2, _, go2 B, (f1.tr f2).tr f4, r4.r⟩
            · refine T1 (va / vb) (by
                rw [ej]
                unfold reck
                rw [if_neg (by decide), if_neg (by decide), if_neg (by decide), if_pos (show nI 3 = 3 from rfl), if_neg zb]) ?_
              have B := j_X8_reckon_c_4 (d := d) (by omega) h2 (nI (60 * sLev σ + n)) (nI n) μ2.1 μ2.2.1 F2 mh.1 _ e26 rfl (fs.r (by decide)) (fs.r (by decide)) 60 (I2 68) (mh.i (by decide)) (by assumption) (nI qa) ca' 360 (L2 73) (mh.l (by decide)) (by assumption) (fs.r (by decide)) 60 (I2 69) (mh.i (by decide)) (by assumption) (nI qb) cb' (by assumption) (fs.r (by decide)) 60 (I2 70) (mh.i (by decide)) (by assumption) (by rw [e6, ej]; rfl) (by rw [nb]; exact zb) (fs.r (by decide)) 360 (I2 72) (mh.i (by decide)) (by assumption) (by assumption)
              rw [na, nb] at B
              exact B
          · have er : reck (T.2.2.2.2.1 n) va vb = some (if va < vb then 1 else 0) := by
              rw [ej]
              unfold reck
              rw [if_neg (by decide), if_neg (by decide), if_neg (by decide), if_neg (by decide), if_pos (show nI 4 = 4 from rfl)]
            by_cases zb : vb ≤ va
            · refine T1 0 (by rw [er, if_neg (Int64.not_lt.mpr zb)]) ?_
              exact j_X8_reckon_c_6 (d := d) (by omega) h2 (nI (60 * sLev σ + n)) (nI n) μ2.1 μ2.2.1 F2 mh.1 _ e26 rfl (fs.r (by decide)) (fs.r (by decide)) 60 (I2 68) (mh.i (by decide)) (by assumption) (nI qa) ca' 360 (L2 73) (mh.l (by decide)) (by assumption) (fs.r (by decide)) 60 (I2 69) (mh.i (by decide)) (by assumption) (nI qb) cb' (by assumption) (fs.r (by decide)) 60 (I2 70) (mh.i (by decide)) (by assumption) (by rw [e6, ej]; rfl) (by rw [na, nb]; exact zb) (fs.r (by decide)) 360 (I2 72) (mh.i (by decide)) (by assumption) (by assumption)
            · refine T1 1 (by rw [er, if_pos (Int64.not_le.mp zb)]) ?_
              exact j_X8_reckon_c_7 (d := d) (by omega) h2 (nI (60 * sLev σ + n)) (nI n) μ2.1 μ2.2.1 F2 mh.1 _ e26 rfl (fs.r (by decide)) (fs.r (by decide)) 60 (I2 68) (mh.i (by decide)) (by assumption) (nI qa) ca' 360 (L2 73) (mh.l (by decide)) (by assumption) (fs.r (by decide)) 60 (I2 69) (mh.i (by decide)) (by assumption) (nI qb) cb' (by assumption) (fs.r (by decide)) 60 (I2 70) (mh.i (by decide)) (by assumption) (by rw [e6, ej]; rfl) (by rw [na, nb]; exact zb) (fs.r (by decide)) 360 (I2 72) (mh.i (by decide)) (by assumption) (by assumption)
          · have er : reck (T.2.2.2.2.1 n) va vb = some (if va = vb then 1 else 0) := by
              rw [ej]
              unfold reck
              rw [if_neg (by decide), if_neg (by decide), if_neg (by decide), if_neg (by decide), if_neg (by decide)]
            by_cases zb : va = vb
            · refine T1 1 (by rw [er, if_pos zb]) ?_
              exact j_X8_reckon_c_9 (d := d) (by omega) h2 (nI (60 * sLev σ + n)) (nI n) μ2.1 μ2.2.1 F2 mh.1 _ e26 rfl (fs.r (by decide)) (fs.r (by decide)) 60 (I2 68) (mh.i (by decide)) (by assumption) (nI qa) ca' 360 (L2 73) (mh.l (by decide)) (by assumption) (fs.r (by decide)) 60 (I2 69) (mh.i (by decide)) (by assumption) (nI qb) cb' (by assumption) (fs.r (by decide)) 60 (I2 70) (mh.i (by decide)) (by assumption) (by rw [e6, ej]; decide) (by rw [na, nb]; exact zb) (fs.r (by decide)) 360 (I2 72) (mh.i (by decide)) (by assumption) (by assumption)
            · refine T1 0 (by rw [er, if_neg zb]) ?_
              exact j_X8_reckon_c_8 (d := d) (by omega) h2 (nI (60 * sLev σ + n)) (nI n) μ2.1 μ2.2.1 F2 mh.1 _ e26 rfl (fs.r (by decide)) (fs.r (by decide)) 60 (I2 68) (mh.i (by decide)) (by assumption) (nI qa) ca' 360 (L2 73) (mh.l (by decide)) (by assumption) (fs.r (by decide)) 60 (I2 69) (mh.i (by decide)) (by assumption) (nI qb) cb' (by assumption) (fs.r (by decide)) 60 (I2 70) (mh.i (by decide)) (by assumption) (by rw [e6, ej]; decide) (by rw [na, nb]; exact zb) (fs.r (by decide)) 360 (I2 72) (mh.i (by decide)) (by assumption) (by assumption)
        · rw [nAs_f z2 (kO_numN y')]
          have r3 := y3 z2 y'
          exact ⟨μ2, F2, I2, L2, h2, go2 (j_X8_reckon_c_10 (Nat.zero_le _) h2 _ _ 0 0 F2 r3.1.1 _ r3.2.2.2.2.1 (by decide)), f1.tr f2, r3.r⟩
      · rw [nAs_b z2]
        have r3 := y1 z2
        obtain ⟨mh, -⟩ := r3.w
        exact ⟨μ2, F2, I2, L2, h2, go2 (j_X8_reckon_c_10 (Nat.zero_le _) h2 _ _ 0 0 F2 mh.1 _ r3.1 (fun q => z2 ((nI_eq (by have := Q.1; omega) (by decide)).mp q))), f1.tr f2, r3⟩
    · rw [nAs_f z (kO_numN y)]
      have r2 := x3 z y
      exact ⟨μ1, F1, I1, L1, h1, go (j_X8_reckon_b_1 (Nat.zero_le _) h1 _ _ 0 0 F1 r2.1.1 _ r2.2.2.2.2.1 (by decide)), f1, r2.r⟩
  · rw [nAs_b z]
    have r2 := x1 z
    obtain ⟨mh, -⟩ := r2.w
    exact ⟨μ1, F1, I1, L1, h1, go (j_X8_reckon_b_1 (Nat.zero_le _) h1 _ _ 0 0 F1 mh.1 _ r2.1 (fun q => z ((nI_eq (by have := P.1; omega) (by decide)).mp q))), f1, r2⟩
