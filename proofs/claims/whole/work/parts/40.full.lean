/-! a value in full, in the class -/
def FLok (σ : St) : Prop := (sFull σ (sLev σ)).length ≤ 100 ∧ vsL σ (sLev σ) ≤ 100
theorem vsL_fr {σ σ' : St} (f : Fr σ σ') : vsL σ' (sLev σ') = vsL σ (sLev σ) := by
  unfold vsL
  rw [f.1, (f.2.2.2.1 _ (Nat.le_refl _)).1]
theorem Post.tpre {T : NT} {n : Nat} {σ : St} {r : Rs} (hT : wfT T) (hn : n < tN T) (hp : TPre T σ) (p : Post T n σ r) (z : r.1 = 0) : TPre T r.2 := by
  obtain ⟨p1, p2, p3, p4, p5, p6, p7, p8, p9⟩ := p
  have q60 := (p7 z).2 60 (by have := hT.1; omega)
  exact ⟨p3, by rw [p2.1]; have := hp.2; omega⟩
theorem Post.fl {T : NT} {n : Nat} {σ : St} {r : Rs} (h : FLok σ) (p : Post T n σ r) : FLok r.2 := by
  obtain ⟨p1, p2, p3, p4, -⟩ := p
  exact ⟨by rw [p2.1, p4]; exact h.1, by rw [vsL_fr p2]; exact h.2⟩
theorem TPost.tpre {T : NT} {n : Nat} {σ : St} {r : Rs} (hp : TPre T σ) (p : TPost T n σ r) (z : r.1 = 0) : TPre T r.2 := by
  obtain ⟨p1, p2, p3, p4, p5, -⟩ := p
  have := (p5 z).2.2
  exact ⟨p3, by rw [p2.1]; have := hp.2; omega⟩
theorem TPost.fl {T : NT} {n : Nat} {σ : St} {r : Rs} (h : FLok σ) (p : TPost T n σ r) (z : r.1 = 0) : FLok r.2 := by
  obtain ⟨p1, p2, p3, p4, p5, -⟩ := p
  exact ⟨by rw [p2.1]; exact (p5 z).2.1, by rw [vsL_fr p2]; exact h.2⟩
theorem tkL_len (σ : St) (k : Nat) : (tkL σ k).length = vsL σ k + (sFull σ k).length := by
  unfold tkL vsL
  split
  · rename_i e; subst e; simp
  · simp; omega
theorem RCo.full {T : NT} {σ : St} {κ : KP} {w : WR} {h : AH} {li : Nat} {us : List Tok} (r : RCo T σ κ w (sLev σ) h) (q : RWr κ (sLev σ) (sIns σ (sLev σ)) (bv (sTold σ (sLev σ))) (sCome σ (sLev σ)) (moL σ (sLev σ)) (vsL σ (sLev σ)) li (sVal σ (sLev σ)) (tkL σ (sLev σ) ++ us) h) (q1 : sLev σ ≠ 0 → li = sMany σ (sLev σ)) (q2 : bv (sTold σ (sLev σ)) < 2 ^ 60 ∧ sIns σ (sLev σ) < 2 ^ 30) : RC T (wFull σ (va_up (sFull σ) (sLev σ) (sFull σ (sLev σ) ++ us))) κ w h := by
  refine (r.same (σ' := wFull σ (va_up (sFull σ) (sLev σ) (sFull σ (sLev σ) ++ us))) rfl rfl rfl r.2.2.2.2.2.2.2 (fun k h1 h2 => ⟨rfl, rfl, rfl, rfl, up_ne h2, rfl, rfl⟩)).put (Nat.le_refl _) q rfl rfl rfl rfl rfl q1 rfl ?_ q2
  show tkL σ (sLev σ) ++ us = if sLev σ = 0 then va_up (sFull σ) (sLev σ) (sFull σ (sLev σ) ++ us) 0 else (2, lN (sMany σ (sLev σ))) :: (sLst σ (sLev σ) ++ va_up (sFull σ) (sLev σ) (sFull σ (sLev σ) ++ us) (sLev σ))
  unfold tkL
  by_cases e : sLev σ = 0
  · rw [if_pos e, if_pos e, e, up_eq]
  · rw [if_neg e, if_neg e, up_eq]
    simp
theorem c_tell1 {T : NT} {σ : St} {κ : KP} {w : WR} {h : AH} (r : RC T σ κ w h) (hf : FLok σ) {d : Nat} (hd : 5 ≤ d) (k : Int32) (u : Int64) : ∃ κ' h', CM mX5_tell d [.ref (wid (sLev σ)), .int k, .long u] h (some (.int (if (tokP σ [(k, u)]).1 = 0 then 1 else 0))) h' ∧ RC T (tokP σ [(k, u)]).2 κ' w h' ∧ CF h κ h' κ' := by
  have h6 := r.2.2.2.2.2.2.1
  obtain ⟨ro, li, q, q1, q2⟩ := r.take (Nat.le_refl (sLev σ))
  have tl := tkL_len σ (sLev σ)
  obtain ⟨f1, f2⟩ := hf
  obtain ⟨κ', h', c, x1, x2, x3⟩ := c_tell ro h6 q hd k u (by omega) f2 (by omega)
  have e : (tkL σ (sLev σ)).length - vsL σ (sLev σ) = (sFull σ (sLev σ)).length := by omega
  rw [e] at c x2
  refine ⟨κ', h', ?_⟩
  unfold tokP
  by_cases z : (sFull σ (sLev σ)).length < 100
  · rw [if_pos z] at c x2
    rw [if_pos (show (sFull σ (sLev σ)).length + [(k, u)].length ≤ 100 from z)]
    exact ⟨c, x1.full x2 q1 q2, x3⟩
  · rw [if_neg z] at c x2
    rw [if_neg (show ¬ (sFull σ (sLev σ)).length + [(k, u)].length ≤ 100 from z)]
    exact ⟨c, x1.put (Nat.le_refl _) x2 rfl rfl rfl rfl rfl q1 rfl rfl q2, x3⟩
theorem c_tellL {T : NT} {σ : St} {κ : KP} {w : WR} {h : AH} (r : RC T σ κ w h) (hf : FLok σ) {d : Nat} (hd : 5 ≤ d) {s n : Nat} (hs : s + n ≤ (sHeap σ).length) (hn : n ≤ 40000) : ∃ κ' h', CM mX5_tellAll d [.ref (wid (sLev σ)), .ref 27, .int (nI s), .int (nI n)] h (some (.int (if (tokP σ (hsl (sHeap σ) s n)).1 = 0 then 1 else 0))) h' ∧ RC T (tokP σ (hsl (sHeap σ) s n)).2 κ' w h' ∧ CF h κ h' κ' := by
  have h6 := r.2.2.2.2.2.2.1
  obtain ⟨ro, li, q, q1, q2⟩ := r.take (Nat.le_refl (sLev σ))
  have tl := tkL_len σ (sLev σ)
  obtain ⟨f1, f2⟩ := hf
  obtain ⟨κ', h', c, x1, x2, x3⟩ := c_tellAll ro h6 q hd hs hn (by omega) f2 (by omega)
  have e : (tkL σ (sLev σ)).length - vsL σ (sLev σ) = (sFull σ (sLev σ)).length := by omega
  have el : (hsl (sHeap σ) s n).length = n := by unfold hsl; rw [List.length_take, List.length_drop]; omega
  rw [e] at c x2
  refine ⟨κ', h', ?_⟩
  unfold tokP
  by_cases z : (sFull σ (sLev σ)).length + n ≤ 100
  · rw [if_pos z] at c x2
    rw [if_pos (show (sFull σ (sLev σ)).length + (hsl (sHeap σ) s n).length ≤ 100 by rw [el]; exact z)]
    exact ⟨c, x1.full x2 q1 q2, x3⟩
  · rw [if_neg z] at c x2
    rw [if_neg (show ¬ (sFull σ (sLev σ)).length + (hsl (sHeap σ) s n).length ≤ 100 by rw [el]; exact z)]
    exact ⟨c, x1.put (Nat.le_refl _) x2 rfl rfl rfl rfl rfl q1 rfl rfl q2, x3⟩
def TO (T : NT) (h : AH) (κ : KP) (r : Rs) (κ' : KP) (w' : WR) (h' : AH) : Prop := RC T r.2 κ' w' h' ∧ CF h κ h' κ' ∧ (r.1 = 4 → NeedW w' r.2)
theorem TO.tr {T : NT} {h h1 : AH} {κ κ1 : KP} {r : Rs} {κ' : KP} {w' : WR} {h' : AH} (c : CF h κ h1 κ1) (o : TO T h1 κ1 r κ' w' h') : TO T h κ r κ' w' h' := ⟨o.1, c.tr o.2.1, o.2.2⟩
def CTf (T : NT) (tf : Nat → St → Rs) (n : Nat) : Prop := ∀ (σ : St) (κ : KP) (w : WR) (h : AH) (b d : Nat), TPre T σ → FLok σ → RC T σ κ w h → n < b → b ≤ 60 → 10 * (n + 1) + 1 ≤ d → ∃ κ' w' h', CM mX6_tellInFull d [.ref 19, .int (nI n), .int (nI b)] h (some (.int (nI (tf n σ).1))) h' ∧ TO T h κ (tf n σ) κ' w' h'
theorem tfP_b {rec : Nat → St → Rs} {T : NT} {g n : Nat} {σ : St} (z : ¬ (rec n σ).1 = 0) : tfP rec T (g + 1) n σ = rec n σ := by
  conv => lhs; unfold tfP
  exact bd_n z
theorem tfP_n {rec : Nat → St → Rs} {T : NT} {g n : Nat} {σ : St} {v : Int64} (z : (rec n σ).1 = 0) (e : gv (rec n σ).2 n = some (.inl v)) : tfP rec T (g + 1) n σ = tokP (rec n σ).2 [(0, v)] := by
  conv => lhs; unfold tfP
  rw [bd_0 z, e]
theorem tfP_l {rec : Nat → St → Rs} {T : NT} {g n : Nat} {σ : St} {q : Nat × Nat} (z : (rec n σ).1 = 0) (e : gv (rec n σ).2 n = some (.inr (.inr q))) : tfP rec T (g + 1) n σ = tokP (rec n σ).2 (hsl (sHeap (rec n σ).2) q.1 q.2) := by
  conv => lhs; unfold tfP
  rw [bd_0 z, e]
theorem tfP_p {rec : Nat → St → Rs} {T : NT} {g n : Nat} {σ : St} {p : Nat} (z : (rec n σ).1 = 0) (e : gv (rec n σ).2 n = some (.inr (.inl p))) : tfP rec T (g + 1) n σ = bd (tokP (rec n σ).2 [(1, 2)]) (fun σ2 => bd (tfP rec T g (tA T p) σ2) (fun σ3 => tfP rec T g (tB T p) σ3)) := by
  conv => lhs; unfold tfP
  rw [bd_0 z, e]
theorem c_tellInFull {T : NT} {rec : Nat → St → Rs} {f : Nat} (HV : CVal T rec f) (R : RH T rec f) (hT : wfT T) : ∀ g n, n < g → n < f → n < tN T → CTf T (tfP rec T g) n
  | g + 1, n, hg, hf, hn => by
    intro σ κ w h b d hp hF r hb h60 hd
    have ht := hT.1
    obtain ⟨-, ⟨K, k, k0, k1, k2, k3, k4, k5, k6, k7, k8, k9⟩, -⟩ := id r
    have A := j_X6_tellInFull_a_1 (d := d) (Nat.zero_le _) h (nI n) (nI b) 0
    obtain ⟨κ1, w1, h1, c1, o1⟩ := HV n σ κ w h b (d - 1) hf (hp.pre hT hn) r hb h60 (by omega)
    have P := R n hf σ (hp.pre hT hn)
    have go : ∀ {v : Option Value} {h' : AH}, E false mX6_tellInFull d 6 [(0, .ref 19), (1, .int (nI n)), (2, .int (nI b))] [.int (nI (rec n σ).1)] h1 v h' → CM mX6_tellInFull d [.ref 19, .int (nI n), .int (nI b)] h v h' := fun z => E.st A (E.st (s_invv dX6_tellInFull_3 rfl lX6_66 (by omega) rfl (Nat.le_of_ble_eq_true rfl) rfl (Nat.le_of_ble_eq_true rfl) k c1 (fun h => nomatch h)) z)
    by_cases z : (rec n σ).1 = 0
    · have tp := P.tpre hT hn hp z
      have fl := P.fl hF
      have I1 := tp.1
      obtain ⟨r1, f1, v1, -⟩ := o1
      obtain ⟨x, gx, gk, gn, gl⟩ := v1 z
      rw [z] at go
      obtain ⟨a1, a2⟩ := gv_ok I1 gx
      clear k9 k8 k7 k6 k5 k4 k3 k2 k1 k0 A k
      obtain ⟨⟨N, g3, g4, g5, g6, g7, n0, ⟨n1, n2, n3, n4, n5, n6⟩, ⟨m3, m4, m5, m6, m7⟩, n60, nn⟩, ⟨K, k, k0, k1, k2, k3, k4, k5, k6, k7, k8, k9⟩, wy, -, tl, -⟩ := id r1
      obtain ⟨_, ⟨FW, ow, -⟩, -⟩ := wy _ (Nat.le_refl _)
      match x, gx, gk, gn, gl, a2 with
      | .inl v, gx, gk, gn, gl, a2 =>
        rw [tfP_n z gx]
        have gn : w1.2.1 = v := gn
        rw [gn] at k6
        obtain ⟨κ2, h2, c2, r2, f2⟩ := c_tell1 r1 fl (d := d - 1) (by omega) 0 v
        have B := j_X6_tellInFull_b_3 (d := d) (Nat.zero_le _) h1 (nI n) (nI b) (nI 0) (wid (sLev (rec n σ).2)) rfl K k _ k5 gk k2 _ k6
        refine ⟨κ2, w1, h2, ?_, r2, f1.tr f2, fun q => ?_⟩
        · rcases tok_cases (rec n σ).2 [(0, v)] with ⟨e, -⟩ | e
          · rw [e] at c2 ⊢
            exact go (E.st B (E.st (s_invv dX6_tellInFull_29 rfl lX6_76 (by omega) rfl (Nat.le_of_ble_eq_true rfl) rfl (Nat.le_of_ble_eq_true rfl) ow c2 (fun h => nomatch h)) (j_X6_tellInFull_c_2 (Nat.zero_le _) h2 1 (by decide))))
          · rw [e] at c2 ⊢
            exact go (E.st B (E.st (s_invv dX6_tellInFull_29 rfl lX6_76 (by omega) rfl (Nat.le_of_ble_eq_true rfl) rfl (Nat.le_of_ble_eq_true rfl) ow c2 (fun h => nomatch h)) (j_X6_tellInFull_c_1 (Nat.zero_le _) h2 0 rfl)))
        · rcases tok_cases (rec n σ).2 [(0, v)] with ⟨e, -⟩ | e <;> rw [e] at q <;> cases q
      | .inr (.inr q), gx, gk, gn, gl, a2 =>
        rw [tfP_l z gx]
        obtain ⟨qs, ql⟩ := q
        have gn : w1.2.1 = lN qs := gn
        have gl : w1.2.2.1 = nI ql := gl
        rw [gl] at k7
        have a2 : qs + ql ≤ (sHeap (rec n σ).2).length ∧ LW (hsl (sHeap (rec n σ).2) qs ql) := a2
        have qn : ql ≤ 40000 := by
          obtain ⟨mm, cc, _, _, ll⟩ := a2.2
          have : (hsl (sHeap (rec n σ).2) qs ql).length = ql := by unfold hsl; rw [List.length_take, List.length_drop]; omega
          omega
        obtain ⟨κ2, h2, c2, r2, f2⟩ := c_tellL r1 fl (d := d - 1) (by omega) a2.1 qn
        have B := j_X6_tellInFull_b_2 (d := d) (Nat.zero_le _) h1 (nI n) (nI b) (nI 0) (wid (sLev (rec n σ).2)) rfl K k _ k5 (by rw [gk]; show ¬ (2 : Int32) = 0; decide) gk k2 k4 _ k6 (nI qs) (by rw [gn]; exact lN_i qs) _ k7
        show ∃ κ' w' h', CM mX6_tellInFull d [.ref 19, .int (nI n), .int (nI b)] h (some (.int (nI (tokP (rec n σ).2 (hsl (sHeap (rec n σ).2) qs ql)).1))) h' ∧ TO T h κ (tokP (rec n σ).2 (hsl (sHeap (rec n σ).2) qs ql)) κ' w' h'
        refine ⟨κ2, w1, h2, ?_, r2, f1.tr f2, fun q => ?_⟩
        · rcases tok_cases (rec n σ).2 (hsl (sHeap (rec n σ).2) qs ql) with ⟨e, -⟩ | e
          · rw [e] at c2 ⊢
            exact go (E.st B (E.st (s_invv dX6_tellInFull_66 rfl lX6_83 (by omega) rfl (Nat.le_of_ble_eq_true rfl) rfl (Nat.le_of_ble_eq_true rfl) ow c2 (fun h => nomatch h)) (j_X6_tellInFull_d_2 (Nat.zero_le _) h2 1 (by decide))))
          · rw [e] at c2 ⊢
            exact go (E.st B (E.st (s_invv dX6_tellInFull_66 rfl lX6_83 (by omega) rfl (Nat.le_of_ble_eq_true rfl) rfl (Nat.le_of_ble_eq_true rfl) ow c2 (fun h => nomatch h)) (j_X6_tellInFull_d_1 (Nat.zero_le _) h2 0 rfl)))
        · rcases tok_cases (rec n σ).2 (hsl (sHeap (rec n σ).2) qs ql) with ⟨e, -⟩ | e <;> rw [e] at q <;> cases q
      | .inr (.inl p), gx, gk, gn, gl, a2 =>
        rw [tfP_p z gx]
        have hz := a2.1
        have hpt : p < tN T := by omega
        obtain ⟨ha, hb'⟩ := pair_args hT hpt a2.2
        have wp := hT.2 p hpt
        have wp : okA T p ∧ okB T p := by
          unfold wfN at wp
          rw [a2.2] at wp
          rcases wp with w | w | w | w | w | w | w | w | w | w <;> first | exact w.2 | exact absurd w (by decide) | exact absurd w.1 (by decide)
        have cl : (nI p).toNatClampNeg = p := nI_clamp (by omega)
        have pg : w1.2.1.toInt32 = nI p := by rw [gn]; exact lN_i p
        obtain ⟨κ2, h2, c2, r2, f2⟩ := c_tell1 r1 fl (d := d - 1) (by omega) 1 2
        have B := j_X6_tellInFull_b_1 (d := d) (Nat.zero_le _) h1 (nI n) (nI b) (nI 0) (wid (sLev (rec n σ).2)) rfl K k _ k5 (by rw [gk]; show ¬ (1 : Int32) = 0; decide) (by rw [gk]; show ¬ (1 : Int32) = 2; decide) _ k6 (nI p) pg k2
        have cn : ¬ nI p < 0 ∧ ¬ nI (tN T) ≤ nI p := ⟨nI_pos (by omega), nI_ge hpt (by omega)⟩
        have vi : vp_in (nI p) 60 := vp_in_nI (by omega) (by decide)
        rcases tok_cases (rec n σ).2 [(1, 2)] with ⟨e, el⟩ | e
        · rw [e] at c2 r2 ⊢
          rw [bd_0 rfl]
          dsimp only at c2 r2 ⊢
          rw [if_pos rfl] at c2
          generalize hσ2 : wFull (rec n σ).2 (va_up (sFull (rec n σ).2) (sLev (rec n σ).2) (sFull (rec n σ).2 (sLev (rec n σ).2) ++ [(1, 2)])) = σ2 at r2 ⊢
          have t2 : TPre T σ2 := by rw [← hσ2]; exact tp
          have l2 : FLok σ2 := by
            rw [← hσ2]
            refine ⟨?_, fl.2⟩
            show (va_up (sFull (rec n σ).2) (sLev (rec n σ).2) (sFull (rec n σ).2 (sLev (rec n σ).2) ++ [(1, 2)]) (sLev (rec n σ).2)).length ≤ 100
            rw [up_eq, List.length_append]
            exact el
          have PA := tf_post R hT g (tA T p) (by omega) (by omega) (by omega) σ2 t2
          obtain ⟨κ3, w3, h3, c3, o3⟩ := c_tellInFull HV R hT g (tA T p) (by omega) (by omega) (by omega) σ2 κ2 w1 h2 p (d - 1) t2 l2 r2 ha (by omega) (by omega)
          clear k9 k8 k7 k6 k5 k4 k3 k2 k1 k0 n1 n2 n3 n4 n5 n6 n0 m3 m4 m5 m6 m7 n60 nn
          obtain ⟨⟨N, g3, g4, g5, g6, g7, n0, ⟨n1, n2, n3, n4, n5, n6⟩, ⟨m3, m4, m5, m6, m7⟩, n60, nn⟩, ⟨K2, kk, k0, -⟩, -⟩ := id r2
          have e4 : g4 (nI p).toNatClampNeg = nI (tA T p) := by rw [cl, (nn p hpt).2.1]; exact wp.1.1
          have D := j_X6_tellInFull_e_1 (d := d) (by omega) h2 (nI p) 1 0 (by decide) K2 kk k0 N n0 _ n6 cn n2 60 g4 m4 vi
          rw [e4] at D
          have go2 : ∀ {v : Option Value} {h' : AH}, E false mX6_tellInFull d 116 [(0, .ref 19), (4, .int (nI p))] [.int (nI (tfP rec T g (tA T p) σ2).1)] h3 v h' → CM mX6_tellInFull d [.ref 19, .int (nI n), .int (nI b)] h v h' := fun z => go (E.st B (E.st (s_invv dX6_tellInFull_93 rfl lX6_76 (by omega) rfl (Nat.le_of_ble_eq_true rfl) rfl (Nat.le_of_ble_eq_true rfl) ow c2 (fun h => nomatch h)) (E.st D (E.st (s_invv dX6_tellInFull_113 rfl lX6_62 (by omega) rfl (Nat.le_of_ble_eq_true rfl) rfl (Nat.le_of_ble_eq_true rfl) kk c3 (fun h => nomatch h)) z))))
          by_cases y : (tfP rec T g (tA T p) σ2).1 = 0
          · rw [bd_0 y]
            rw [y] at go2
            have t3 := PA.tpre t2 y
            have l3 := PA.fl l2 y
            obtain ⟨r3, f3, -⟩ := o3
            obtain ⟨κ4, w4, h4, c4, o4⟩ := c_tellInFull HV R hT g (tB T p) (by omega) (by omega) (by omega) _ κ3 w3 h3 p (d - 1) t3 l3 r3 hb' (by omega) (by omega)
            clear k0 n1 n2 n3 n4 n5 n6 n0 m3 m4 m5 m6 m7 n60 nn e4 D
            obtain ⟨⟨N, g3, g4, g5, g6, g7, n0, ⟨n1, n2, n3, n4, n5, n6⟩, ⟨m3, m4, m5, m6, m7⟩, n60, nn⟩, ⟨K3, kk3, k0, -⟩, -⟩ := id r3
            have e5 : g5 (nI p).toNatClampNeg = nI (tB T p) := by rw [cl, (nn p hpt).2.2.1]; exact wp.2.1
            have G := j_X6_tellInFull_f_2 (d := d) (by omega) h3 (nI p) (nI 0) 0 rfl K3 kk3 k0 N n0 _ n6 cn n3 60 g5 m5 vi
            rw [e5] at G
            exact ⟨κ4, w4, h4, go2 (E.st G (E.st (s_invv dX6_tellInFull_133 rfl lX6_62 (by omega) rfl (Nat.le_of_ble_eq_true rfl) rfl (Nat.le_of_ble_eq_true rfl) kk3 c4 (fun h => nomatch h)) (j_X6_tellInFull_g_1 (Nat.zero_le _) h4 (nI p) _))), o4.tr ((f1.tr f2).tr f3)⟩
          · rw [bd_n y]
            exact ⟨κ3, w3, h3, go2 (j_X6_tellInFull_f_1 (Nat.zero_le _) h3 (nI p) _ 0 (fun q => y ((nI_eq (by have := PA.1; omega) (by decide)).mp q))), o3.tr (f1.tr f2)⟩
        · rw [e] at c2 r2 ⊢
          exact ⟨κ2, w1, h2, go (E.st B (E.st (s_invv dX6_tellInFull_93 rfl lX6_76 (by omega) rfl (Nat.le_of_ble_eq_true rfl) rfl (Nat.le_of_ble_eq_true rfl) ow c2 (fun h => nomatch h)) (j_X6_tellInFull_e_2 (Nat.zero_le _) h2 (nI p) 0 0 rfl))), r2, f1.tr f2, fun q => by cases q⟩
    · rw [tfP_b z]
      exact ⟨κ1, w1, h1, go (j_X6_tellInFull_b_4 (Nat.zero_le _) h1 (nI n) (nI b) _ 0 (fun q => z ((nI_eq (by have := P.1; omega) (by decide)).mp q))), o1.1, o1.2.1, o1.2.2.2⟩
