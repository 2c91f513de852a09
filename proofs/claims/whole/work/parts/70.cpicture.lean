/-! THE CLASS'S PICTURE of a search -/
def bI (b : Bool) : Int32 := if b then 1 else 0
def RSo (S : SS) (h : AH) : Prop := ∃ Q : Nat → Value, h.1 8 = ob 3 (fo 15 Q) ∧ Q 0 = .ref 19 ∧ Q 1 = .ref 9 ∧ Q 2 = .ref 13 ∧ Q 3 = .ref 16 ∧ Q 4 = .int (bI (qTh S)) ∧ Q 5 = .int (bI (qSp S)) ∧ Q 6 = .int (nI (qGo S)) ∧ Q 7 = .int (nI (qMo S)) ∧ Q 8 = .int (nI (qBo S)) ∧ Q 9 = .int (nI (qWe S)) ∧ Q 10 = .int (nI (qPl S)) ∧ Q 11 = .int (nI (qVa S)) ∧ Q 12 = .int (nI (qFa S)) ∧ Q 13 = .int (nI (qGu S)) ∧ Q 14 = .int (nI (qCu S))
def BG (h : AH) (o : Nat) (bs : List Row) : Prop := ∃ (F : Nat → Value) (f : Nat → Int64) (g : Nat → Int32), h.1 o = ob 0 (fo 3 F) ∧ F 0 = .ref (o + 1) ∧ F 1 = .ref (o + 2) ∧ F 2 = .int (nI bs.length) ∧ h.1 (o + 1) = la 202 f ∧ h.1 (o + 2) = ia 202 g ∧ (∀ i, i < bs.length → f i = lN (bv (bs.getD i [])) ∧ g i = nI (bs.getD i []).length) ∧ bs.length ≤ 202
def RLt (row : Row) (lab : Nat) (h : AH) : Prop := ∃ F : Nat → Value, h.1 9 = ob 1 (fo 4 F) ∧ F 0 = .ref 10 ∧ F 1 = .long (lN (bv row)) ∧ F 2 = .int (nI row.length) ∧ F 3 = .int (nI lab)
def TU (o : Nat) : Prop := TE o ∨ o = 10
def SepL (κ : KP) (h : AH) : Prop := ((κ 10).1 = 11 ∨ 94 < (κ 10).1) ∧ ((κ 10).2.1 = 12 ∨ 94 < (κ 10).2.1) ∧ (κ 10).1 ≤ h.2.1 ∧ (κ 10).2.1 ≤ h.2.1 ∧ ∀ o, TE o → (κ o).1 ≠ (κ 10).1 ∧ (κ o).2.1 ≠ (κ 10).2.1
def RKx (T : NT) (S : SS) (σ : St) (κ : KP) (w : WR) (h : AH) : Prop := (RC T σ κ w h ∧ sLev σ = 0) ∧ RSo S h ∧ BG h 13 (qPe S).reverse ∧ BG h 16 (qLa S) ∧ RLt (qRo S) (qLb S) h ∧ TKk κ h 10 100 (qTk S) ∧ SepL κ h
def PC (κ : KP) : Nat := Phc κ + 2 * (100 - (κ 10).2.2)
def PZ (κ : KP) : Nat := Phs κ + ph 100 (κ 10).2.2
def CG (h : AH) (κ : KP) (h' : AH) (κ' : KP) : Prop := (h.2.1 ≤ h'.2.1 ∧ h.2.2.1 ≤ h'.2.2.1 ∧ h.2.2.2 ≤ h'.2.2.2) ∧ (∀ x, x ≤ h.2.1 → (x ≤ 1 ∨ 64 < x) → (∀ o, TU o → x ≠ (κ o).1 ∧ x ≠ (κ o).2.1) → h'.1 x = h.1 x) ∧ (∀ o, TU o → ((κ' o).1 = (κ o).1 ∨ h.2.1 < (κ' o).1) ∧ ((κ' o).2.1 = (κ o).2.1 ∨ h.2.1 < (κ' o).2.1)) ∧ h'.2.2.1 + PC κ' ≤ h.2.2.1 + PC κ ∧ h'.2.2.2 + PZ κ' ≤ h.2.2.2 + PZ κ
theorem CG.rf (h : AH) (κ : KP) : CG h κ h κ := ⟨⟨Nat.le_refl _, Nat.le_refl _, Nat.le_refl _⟩, fun _ _ _ _ => rfl, fun _ _ => ⟨Or.inl rfl, Or.inl rfl⟩, Nat.le_refl _, Nat.le_refl _⟩
theorem CG.tr {h h1 h2 : AH} {κ κ1 κ2 : KP} (a : CG h κ h1 κ1) (b : CG h1 κ1 h2 κ2) : CG h κ h2 κ2 := by
  obtain ⟨⟨a1, a2, a3⟩, a4, a5, a7, a8⟩ := a
  obtain ⟨⟨b1, b2, b3⟩, b4, b5, b7, b8⟩ := b
  refine ⟨⟨Nat.le_trans a1 b1, Nat.le_trans a2 b2, Nat.le_trans a3 b3⟩, fun x hx hr hn => ?_, fun o ho => ?_, by omega, by omega⟩
  · rw [b4 x (by omega) hr (fun o ho => ?_), a4 x hx hr hn]
    obtain ⟨n1, n2⟩ := hn o ho
    obtain ⟨c1, c2⟩ := a5 o ho
    refine ⟨?_, ?_⟩
    · rcases c1 with q | q <;> omega
    · rcases c2 with q | q <;> omega
  · obtain ⟨c1, c2⟩ := a5 o ho
    obtain ⟨d1, d2⟩ := b5 o ho
    refine ⟨?_, ?_⟩
    · rcases d1 with q | q
      · rw [q]; exact c1
      · exact Or.inr (by omega)
    · rcases d2 with q | q
      · rw [q]; exact c2
      · exact Or.inr (by omega)
theorem not_TE10 : ¬ TE 10 := fun h => by have := h.le; omega
theorem CF.g {h h' : AH} {κ κ' : KP} (c : CF h κ h' κ') : CG h κ h' κ' := by
  obtain ⟨a, b, d, e, f, g⟩ := c
  have e10 := e 10 not_TE10
  refine ⟨a, fun x hx hr hn => b x hx (by omega) (fun o ho => hn o (Or.inl ho)), fun o _ => d o, ?_, ?_⟩
  · unfold PC; rw [e10]; omega
  · unfold PZ; rw [e10]; omega
theorem RSo.fr {S : SS} {h h' : AH} (r : RSo S h) (e : h'.1 8 = h.1 8) : RSo S h' := by
  obtain ⟨Q, a, b⟩ := r
  exact ⟨Q, e.trans a, b⟩
theorem BG.fr {o : Nat} {bs : List Row} {h h' : AH} (r : BG h o bs) (e0 : h'.1 o = h.1 o) (e1 : h'.1 (o + 1) = h.1 (o + 1)) (e2 : h'.1 (o + 2) = h.1 (o + 2)) : BG h' o bs := by
  obtain ⟨F, f, g, a, b1, b2, b3, c, d, e⟩ := r
  exact ⟨F, f, g, e0.trans a, b1, b2, b3, e1.trans c, e2.trans d, e⟩
theorem RLt.fr {row : Row} {lab : Nat} {h h' : AH} (r : RLt row lab h) (e : h'.1 9 = h.1 9) : RLt row lab h' := by
  obtain ⟨Q, a, b⟩ := r
  exact ⟨Q, e.trans a, b⟩
theorem RC.low {T : NT} {σ : St} {κ : KP} {w : WR} {h h' : AH} (r : RC T σ κ w h) (e2 : h'.2 = h.2) (e : ∀ x, (x < 8 ∨ 18 < x) → h'.1 x = h.1 x) : RC T σ κ w h' := by
  obtain ⟨r1, r2, r3, r4, r5, r6, r7, r8⟩ := r
  have T1 : ∀ o lim ts, TE o → TKk κ h o lim ts → TKk κ h' o lim ts := fun o lim ts ho t => t.plain r6 ho e2 (P := fun x => 8 ≤ x ∧ x ≤ 18) (fun x q => e x (by omega)) (fun x q => by
    have := ho.le
    omega)
  have ew : ∀ k, ∀ x, wid k ≤ x → x ≤ wid k + 3 → h'.1 x = h.1 x := fun k x h1 h2 => e x (by
    have : 20 ≤ wid k := by unfold wid; split <;> omega
    omega)
  exact ⟨r1.fr (fun x _ _ => e x (by omega)), r2.fr (e 19 (by omega)), fun k h1 => (r3 k h1).fr (ew k) (fun ts => T1 _ _ _ (TEk (by omega))), fun k h1 h2 => (r4 k h1 h2).fr (ew k) (fun ts => T1 _ _ _ (TEk h2)), T1 _ _ _ TE27 r5, r6.same e2, r7, r8⟩
/-- cells of the search alone change -/
theorem RKx.low {T : NT} {S S' : SS} {σ : St} {κ : KP} {w : WR} {h h' : AH} (r : RKx T S σ κ w h) (e2 : h'.2 = h.2) (e : ∀ x, (x < 8 ∨ 18 < x ∨ (10 ≤ x ∧ x ≤ 12)) → h'.1 x = h.1 x) (a : RSo S' h') (b : BG h' 13 (qPe S').reverse) (c : BG h' 16 (qLa S')) (d : RLt (qRo S') (qLb S') h') (f : qTk S' = qTk S) : RKx T S' σ κ w h' ∧ CG h κ h' κ := by
  obtain ⟨⟨rc, l0⟩, -, -, -, -, r6, r7⟩ := r
  refine ⟨⟨⟨rc.low e2 (fun x hx => e x (by omega)), l0⟩, a, b, c, d, ?_, ?_⟩, ⟨by rw [e2]; exact ⟨Nat.le_refl _, Nat.le_refl _, Nat.le_refl _⟩, fun x _ hr _ => e x (by omega), fun _ _ => ⟨Or.inl rfl, Or.inl rfl⟩, by rw [e2]; exact Nat.le_refl _, by rw [e2]; exact Nat.le_refl _⟩⟩
  · rw [f]
    refine TK.fr r6 (by rw [e2]; exact Nat.le_refl _) (e 10 (by omega)) (e _ ?_) (e _ ?_)
    · rcases r7.1 with q | q <;> omega
    · rcases r7.2.1 with q | q <;> omega
  · unfold SepL at r7 ⊢
    rw [e2]
    exact r7
/-- the work goes on, the search stands as it was -/
theorem RKx.work {T : NT} {S : SS} {κ κ' : KP} {h h' : AH} {σ0 σ : St} {w0 w : WR} (r : RKx T S σ0 κ w0 h) (c : CF h κ h' κ') (rc : RC T σ κ' w h') (l0 : sLev σ = 0) : RKx T S σ κ' w h' := by
  obtain ⟨⟨rc0, -⟩, a, b, d, e, f, g1, g2, g3, g4, g5⟩ := r
  have s94 := rc0.2.2.2.2.2.1
  obtain ⟨c1, c2, c3, c4, -⟩ := c
  have k : ∀ x, x ≤ 94 → x < 19 → h'.1 x = h.1 x := fun x hx h19 => c2 x (Nat.le_trans hx s94.1) (Or.inl h19) (fun o ho => by
    have := ho.le
    exact ⟨s94.a ho hx (by omega), s94.b ho hx (by omega)⟩)
  have e10 := c4 10 not_TE10
  refine ⟨⟨rc, l0⟩, a.fr (k 8 (by omega) (by omega)), b.fr (k _ (by omega) (by omega)) (k _ (by omega) (by omega)) (k _ (by omega) (by omega)), d.fr (k _ (by omega) (by omega)) (k _ (by omega) (by omega)) (k _ (by omega) (by omega)), e.fr (k _ (by omega) (by omega)), ?_, ?_⟩
  · unfold TKk at f ⊢
    rw [e10]
    have kk : ∀ x, x ≤ h.2.1 → (x = 11 ∨ x = 12 ∨ 94 < x) → (∀ o, TE o → x ≠ (κ o).1 ∧ x ≠ (κ o).2.1) → h'.1 x = h.1 x := fun x hx hr hn => c2 x hx (by omega) hn
    obtain ⟨F, f1, f2, t1, t2, t3, t4, t5, t6, t7, -⟩ := id f
    refine TK.fr f c1.1 (k 10 (by omega) (by omega)) (kk _ g3 (by omega) (fun o ho => ⟨Ne.symm (g5 o ho).1, ?_⟩)) (kk _ g4 (by omega) (fun o ho => ⟨?_, Ne.symm (g5 o ho).2⟩))
    · have : ∀ o, TE o → ∃ n f, h.1 (κ o).2.1 = la n f := fun o ho => by
        rcases ho with rfl | ⟨j, hj, rfl⟩
        · obtain ⟨_, _, _, _, _, _, _, _, _, u, _⟩ := rc0.2.2.2.2.1
          exact ⟨_, _, u⟩
        · by_cases q : j ≤ sLev σ0
          · obtain ⟨_, _, _, _, _, _, _, _, _, _, _, _, _, _, u, _⟩ := rc0.2.2.1 j q
            exact ⟨_, _, u⟩
          · obtain ⟨_, _, _, _, _, _, _, _, _, _, _, _, _, _, _, _, _, _, _, u, _⟩ := rc0.2.2.2.1 j (by omega) hj
            exact ⟨_, _, u⟩
      obtain ⟨n, f, u⟩ := this o ho
      exact ne_il t6 u
    · have : ∀ o, TE o → ∃ n f, h.1 (κ o).1 = ia n f := fun o ho => by
        rcases ho with rfl | ⟨j, hj, rfl⟩
        · obtain ⟨_, _, _, _, _, _, _, _, u, _⟩ := rc0.2.2.2.2.1
          exact ⟨_, _, u⟩
        · by_cases q : j ≤ sLev σ0
          · obtain ⟨_, _, _, _, _, _, _, _, _, _, _, _, _, u, _⟩ := rc0.2.2.1 j q
            exact ⟨_, _, u⟩
          · obtain ⟨_, _, _, _, _, _, _, _, _, _, _, _, _, _, _, _, _, _, u, _⟩ := rc0.2.2.2.1 j (by omega) hj
            exact ⟨_, _, u⟩
      obtain ⟨n, f, u⟩ := this o ho
      exact Ne.symm (ne_il u t7)
  · refine ⟨by rw [e10]; exact g1, by rw [e10]; exact g2, by rw [e10]; omega, by rw [e10]; omega, fun o ho => ?_⟩
    obtain ⟨x1, x2⟩ := c3 o
    obtain ⟨y1, y2⟩ := g5 o ho
    rw [e10]
    refine ⟨?_, ?_⟩
    · rcases x1 with q | q <;> omega
    · rcases x2 with q | q <;> omega
theorem BG.put {h : AH} {o : Nat} {bs : List Row} {F : Nat → Value} {f : Nat → Int64} {g : Nat → Int32} (hF : F 0 = .ref (o + 1) ∧ F 1 = .ref (o + 2)) (hfg : ∀ i, i < bs.length → f i = lN (bv (bs.getD i [])) ∧ g i = nI (bs.getD i []).length) (hl : bs.length < 202) (row : Row) : BG (hs (hs (hs h (o + 1) (la 202 (vp_updL f bs.length (lN (bv row))))) (o + 2) (ia 202 (upd g bs.length (nI row.length)))) o (ob 0 (fo 3 (va_up F 2 (.int (nI (bs.length + 1))))))) o (bs ++ [row]) := by
  refine ⟨_, _, _, hs_eq, (up_ne (by decide)).trans hF.1, (up_ne (by decide)).trans hF.2, by rw [up_eq, List.length_append]; rfl, (hs_ne (by omega)).trans ((hs_ne (by omega)).trans hs_eq), (hs_ne (by omega)).trans hs_eq, fun i hi => ?_, by rw [List.length_append]; exact hl⟩
  rw [List.length_append] at hi
  have hi : i < bs.length + 1 := hi
  by_cases e : i = bs.length
  · rw [e, pk_uLs, pk_us, getD_app_hi (Nat.le_refl _), Nat.sub_self]
    exact ⟨rfl, rfl⟩
  · rw [pk_uLn e, pk_un e, getD_app_lo (by omega)]
    exact hfg i (by omega)
theorem BG.drop {h : AH} {o : Nat} {bs : List Row} {row : Row} (r : BG h o (bs ++ [row])) : ∃ F f g, h.1 o = ob 0 (fo 3 F) ∧ F 0 = .ref (o + 1) ∧ F 1 = .ref (o + 2) ∧ F 2 = .int (nI (bs.length + 1)) ∧ h.1 (o + 1) = la 202 f ∧ h.1 (o + 2) = ia 202 g ∧ f bs.length = lN (bv row) ∧ g bs.length = nI row.length ∧ bs.length < 202 ∧ BG (hs h o (ob 0 (fo 3 (va_up F 2 (.int (nI bs.length)))))) o bs := by
  obtain ⟨F, f, g, a, b1, b2, b3, c, d, e, l⟩ := r
  rw [List.length_append] at b3 e l
  have e0 := e bs.length (by show bs.length < bs.length + 1; omega)
  rw [getD_app_hi (Nat.le_refl _), Nat.sub_self] at e0
  refine ⟨F, f, g, a, b1, b2, b3, c, d, e0.1, e0.2, l, _, f, g, hs_eq, (up_ne (by decide)).trans b1, (up_ne (by decide)).trans b2, up_eq, (hs_ne (by omega)).trans c, (hs_ne (by omega)).trans d, fun i hi => ?_, by omega⟩
  have := e i (by show i < bs.length + 1; omega)
  rw [getD_app_lo hi] at this
  exact this
theorem bv_rep (l : Row) : ∀ k, bv (l ++ List.replicate k false) = bv l
  | 0 => by rw [List.replicate_zero, List.append_nil]
  | k + 1 => by rw [List.replicate_succ', ← List.append_assoc, bv_false, bv_rep l k]
theorem bv_tQ (S : SS) (row : Row) : bv (tQ S row) = bv row := bv_rep row _
theorem take_tQ {S : SS} {row : Row} {k : Nat} (h : row.length ≤ k) : bv ((tQ S row).take k) = bv row := by
  unfold tQ
  rw [List.take_append, List.take_of_length_le h, List.take_replicate]
  exact bv_rep row _
theorem or_bit {x k : Nat} (hx : x < 2 ^ k) (hk : k < 60) : lN x ||| lN (2 ^ k) = lN (x + 1 * 2 ^ k) := by
  have p2 := wb_lt2 (show k < 60 by omega)
  have g := g_or (k := k) (b := 1) (p := 2 ^ k) rfl hx (by omega)
  rw [Nat.one_mul] at g ⊢
  rw [Int64.or_comm, g, Nat.add_comm]
theorem bv_snoc {l : Row} {k : Nat} (h : l.length = k) : bv (l ++ [true]) = bv l + 1 * 2 ^ k := by
  rw [bv_app, h]
  simp [bv]
/-- the next window opens -/
theorem c_takeAll {h : AH} {d : Nat} (hd : 1 ≤ d) : ∀ (bs : List Row) (acc : List Row), acc.length + bs.length ≤ 202 → ∀ h, BG h 13 acc → BG h 16 bs → ∃ h', E false mX0_takeAllOf d 5 [(0, .ref 13), (1, .ref 16), (2, .int (nI bs.length))] [] h none h' ∧ h'.2 = h.2 ∧ (∀ x, x < 13 ∨ 18 < x → h'.1 x = h.1 x) ∧ BG h' 13 (acc ++ bs.reverse) ∧ BG h' 16 [] := by
  intro bs
  generalize hm : bs.length = m
  induction m generalizing bs with
  | zero =>
    intro acc _ h b1 b2
    have : bs = [] := List.length_eq_zero_iff.mp hm
    subst this
    exact ⟨h, j_X0_takeAllOf_b_1 (Nat.zero_le _) h _ (by decide), rfl, fun _ _ => rfl, by simpa using b1, b2⟩
  | succ m ih =>
    intro acc hl h b1 b2
    have hne : bs ≠ [] := fun e => by rw [e] at hm; cases hm
    have eb := (List.dropLast_concat_getLast hne).symm
    have ld : bs.dropLast.length = m := by rw [List.length_dropLast]; omega
    generalize bs.dropLast = bd at eb ld
    generalize bs.getLast hne = row at eb
    subst eb
    obtain ⟨F, f, g, a, b, b', c, e, i, e0, e1, l, -⟩ := b2.drop
    obtain ⟨F1, f1, g1, a1, x1, x2, x3, x4, x5, x6, x7⟩ := id b1
    have B := j_X0_takeAllOf_b_2 (d := d) hd h (nI (m + 1)) (nI_nle (by omega) (by omega)) F a _ c (nI_nle (by omega) (by omega)) b 202 f e (nI_nlt (by omega) (by omega)) (by rw [nI_pred]; exact vp_in_nI (by omega) (by decide)) b' 202 g i (nI_nlt (by omega) (by omega)) (by rw [nI_pred]; exact vp_in_nI (by omega) (by decide)) F1 a1 _ x3 x2 202 g1 x5 (nI_ge (by omega) (by omega)) x1 202 f1 x4 (vp_in_nI (by omega) (by decide)) (vp_in_nI (by omega) (by decide))
    rw [nI_pred, i_pm, nI_pred, nI_clamp (by omega), nI_clamp (by omega), nI_1, e0, e1] at B
    obtain ⟨h', y1, y2, y3, y4, y5⟩ := ih bd ld (acc ++ [row]) (by rw [List.length_append]; show acc.length + 1 + m ≤ 202; omega) _ ((BG.put ⟨x1, x2⟩ x6 (by omega) row).fr (h' := hs (hs (hs (hs h 14 (la 202 (vp_updL f1 acc.length (lN (bv row))))) 15 (ia 202 (upd g1 acc.length (nI row.length)))) 13 (ob 0 (fo 3 (va_up F1 2 (.int (nI (acc.length + 1))))))) 16 (ob 0 (fo 3 (va_up F 2 (.int (nI bd.length)))))) (hs_ne (by decide)) (hs_ne (by decide)) (hs_ne (by decide))) (by
      refine ⟨_, f, g, hs_eq, (up_ne (by decide)).trans b, (up_ne (by decide)).trans b', up_eq, (hs_ne (by decide)).trans ((hs_ne (by decide)).trans ((hs_ne (by decide)).trans ((hs_ne (by decide)).trans e))), (hs_ne (by decide)).trans ((hs_ne (by decide)).trans ((hs_ne (by decide)).trans ((hs_ne (by decide)).trans i))), fun j hj => ?_, by omega⟩
      obtain ⟨F', f', g', a', _, _, _, c', d', e', _⟩ := b2
      cases c'.symm.trans e
      cases d'.symm.trans i
      have := e' j (by rw [List.length_append]; omega)
      rw [getD_app_lo hj] at this
      exact this)
    refine ⟨h', E.st B y1, y2, fun x hx => (y3 x hx).trans ((hs_ne (by omega)).trans ((hs_ne (by omega)).trans ((hs_ne (by omega)).trans (hs_ne (by omega))))), ?_, y5⟩
    rw [List.reverse_append]
    rw [List.append_assoc] at y4
    exact y4
