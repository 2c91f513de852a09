/-! BOTH SIDES TOGETHER: what one side does leaves the other as it stands -/
theorem TU.le {o : Nat} (h : TU o) : 10 ≤ o ∧ o ≤ 62 := by
  rcases h with h | rfl
  · have := h.le; omega
  · omega
/-- where a row of tokens holds its two arrays -/
theorem RKx.tu {T : NT} {S : SS} {σ : St} {κ : KP} {w : WR} {h : AH} (r : RKx T S σ κ w h) {o : Nat} (ho : TU o) : (∃ n f, h.1 (κ o).1 = ia n f) ∧ (∃ n f, h.1 (κ o).2.1 = la n f) ∧ (κ o).1 ≤ h.2.1 ∧ (κ o).2.1 ≤ h.2.1 ∧ ((κ o).1 < 65 ∨ 94 < (κ o).1) ∧ ((κ o).2.1 < 65 ∨ 94 < (κ o).2.1) := by
  have le := ho.le
  obtain ⟨⟨rc, l0⟩, -, -, -, -, f, g1, g2, g3, g4, -⟩ := r
  rcases ho with ho | rfl
  · obtain ⟨x1, x2, x3, x4⟩ := rc.2.2.2.2.2.1.2.1 o ho
    have K : (∃ n f, h.1 (κ o).1 = ia n f) ∧ ∃ n f, h.1 (κ o).2.1 = la n f := by
      rcases ho with rfl | ⟨j, hj, rfl⟩
      · obtain ⟨_, _, _, _, _, _, _, _, u, v, _⟩ := rc.2.2.2.2.1
        exact ⟨⟨_, _, u⟩, ⟨_, _, v⟩⟩
      · by_cases q : j ≤ sLev σ
        · obtain ⟨_, _, _, _, _, _, _, _, _, _, _, _, _, u, v, _⟩ := rc.2.2.1 j q
          exact ⟨⟨_, _, u⟩, ⟨_, _, v⟩⟩
        · obtain ⟨_, _, _, _, _, _, _, _, _, _, _, _, _, _, _, _, _, _, u, v, _⟩ := rc.2.2.2.1 j (by omega) hj
          exact ⟨⟨_, _, u⟩, ⟨_, _, v⟩⟩
    exact ⟨K.1, K.2, x3, x4, by omega, by omega⟩
  · obtain ⟨_, _, _, _, _, _, _, _, u, v, _⟩ := f
    exact ⟨⟨_, _, u⟩, ⟨_, _, v⟩, g3, g4, by omega, by omega⟩
theorem RKx.fr {T : NT} {S : SS} {σ : St} {κ : KP} {w : WR} {h h' : AH} (r : RKx T S σ κ w h) (hn : h.2.1 ≤ h'.2.1) (e : ∀ x, x < 65 → h'.1 x = h.1 x) (t : ∀ o, TU o → h'.1 (κ o).1 = h.1 (κ o).1 ∧ h'.1 (κ o).2.1 = h.1 (κ o).2.1) : RKx T S σ κ w h' := by
  obtain ⟨⟨⟨r1, r2, r3, r4, r5, r6, r7, r8⟩, l0⟩, a, b, c, d, f, g1, g2, g3, g4, g5⟩ := r
  have T1 : ∀ o lim ts, TU o → TKk κ h o lim ts → TKk κ h' o lim ts := fun o lim ts ho q => TK.fr q hn (e o (by have := ho.le; omega)) (t o ho).1 (t o ho).2
  have ew : ∀ k, k < 6 → ∀ x, wid k ≤ x → x ≤ wid k + 3 → h'.1 x = h.1 x := fun k hk x h1 h2 => e x (by have := wid_b hk; omega)
  exact ⟨⟨⟨r1.fr (fun x _ _ => e x (by omega)), r2.fr (e 19 (by decide)), fun k h1 => (r3 k h1).fr (ew k (by omega)) (fun ts => T1 _ _ _ (Or.inl (TEk (by omega)))), fun k h1 h2 => (r4 k h1 h2).fr (ew k h2) (fun ts => T1 _ _ _ (Or.inl (TEk h2))), T1 _ _ _ (Or.inl TE27) r5, ⟨Nat.le_trans r6.1 hn, fun o ho => by
    obtain ⟨x1, x2, x3, x4⟩ := r6.2.1 o ho
    exact ⟨x1, x2, Nat.le_trans x3 hn, Nat.le_trans x4 hn⟩, r6.2.2⟩, r7, r8⟩, l0⟩, a.fr (e 8 (by decide)), b.fr (e _ (by decide)) (e _ (by decide)) (e _ (by decide)), c.fr (e _ (by decide)) (e _ (by decide)) (e _ (by decide)), d.fr (e 9 (by decide)), T1 _ _ _ (Or.inr rfl) f, g1, g2, Nat.le_trans g3 hn, Nat.le_trans g4 hn, g5⟩
theorem MH.fr {μ : KM} {F : Nat → Value} {I : AI} {L : AL} {h h' : AH} (m : MH μ F I L h) (hn : h.2.1 ≤ h'.2.1) (e : ∀ x, 65 ≤ x → x ≤ 93 → h'.1 x = h.1 x) (e1 : h'.1 μ.1 = h.1 μ.1) (e2 : h'.1 μ.2.1 = h.1 μ.2.1) : MH μ F I L h' := by
  obtain ⟨m1, m2, m3, m4, m5, m6, m7, m8, m9, m10, m11⟩ := m
  exact ⟨(e 65 (by decide) (by decide)).trans m1, fun q hq => (e _ (by have := itab_b q hq; omega) (by have := itab_b q hq; omega)).trans (m2 q hq), fun q hq => (e _ (by have := ltab_b q hq; omega) (by have := ltab_b q hq; omega)).trans (m3 q hq), e1.trans m4, e2.trans m5, m6, m7, Nat.le_trans m8 hn, Nat.le_trans m9 hn, Nat.le_trans m10 hn, m11⟩
theorem RZ.fr {t0 : Int32} {T : NT} {Z : ZS} {μ : KM} {F : Nat → Value} {I : AI} {L : AL} {h h' : AH} (r : RZ t0 T Z μ F I L h) (m : MH μ F I L h') : RZ t0 T Z μ F I L h' := ⟨⟨m, r.1.2⟩, r.2⟩
/-- the two sides' arrays that are made anew are not the same -/
def AP (κ : KP) (μ : KM) : Prop := ∀ o, TU o → (κ o).1 ≠ μ.1 ∧ (κ o).2.1 ≠ μ.2.1
/-- a step of the class -/
theorem step_c {t0 : Int32} {T T1 : NT} {S1 : SS} {Z : ZS} {σ : St} {κ κ' : KP} {w : WR} {μ : KM} {F : Nat → Value} {I : AI} {L : AL} {h h' : AH} (k : RKx T1 S1 σ κ w h) (z : RZ t0 T Z μ F I L h) (ap : AP κ μ) (g : CG h κ h' κ') : RZ t0 T Z μ F I L h' ∧ AP κ' μ ∧ h'.1 94 = h.1 94 ∧ h'.1 0 = h.1 0 ∧ h'.1 1 = h.1 1 := by
  obtain ⟨⟨g1, -, -⟩, g2, g3, -⟩ := g
  have mh := z.1.1
  obtain ⟨m1, m2, m3, m4, m5, m6, m7, m8, m9, m10, m11⟩ := id mh
  have out : ∀ x, x ≤ 94 → (x ≤ 1 ∨ 64 < x) → h'.1 x = h.1 x := fun x hx hr => g2 x (by omega) hr (fun o ho => by
    obtain ⟨-, -, -, -, t1, t2⟩ := k.tu ho
    have le := ho.le
    obtain ⟨⟨n1, f1, u1⟩, ⟨n2, f2, u2⟩, -⟩ := k.tu ho
    refine ⟨fun q => ?_, fun q => ?_⟩
    · rcases t1 with t | t
      · have hx1 : x ≤ 1 := by omega
        rcases ho with ho | rfl
        · obtain ⟨x1, -⟩ := k.1.1.2.2.2.2.2.1.2.1 o ho
          omega
        · have := k.2.2.2.2.2.2.1
          omega
      · omega
    · rcases t2 with t | t
      · have hx1 : x ≤ 1 := by omega
        rcases ho with ho | rfl
        · obtain ⟨-, x1, -⟩ := k.1.1.2.2.2.2.2.1.2.1 o ho
          omega
        · have := k.2.2.2.2.2.2.2.1
          omega
      · omega)
  have e1 : h'.1 μ.1 = h.1 μ.1 := g2 _ m8 (by omega) (fun o ho => by
    obtain ⟨-, ⟨n2, f2, u2⟩, -⟩ := k.tu ho
    exact ⟨Ne.symm (ap o ho).1, ne_il m4 u2⟩)
  have e2 : h'.1 μ.2.1 = h.1 μ.2.1 := g2 _ m9 (by omega) (fun o ho => by
    obtain ⟨⟨n1, f1, u1⟩, -⟩ := k.tu ho
    exact ⟨Ne.symm (ne_il u1 m5), Ne.symm (ap o ho).2⟩)
  refine ⟨z.fr (mh.fr g1 (fun x h1 h2 => out x (by omega) (by omega)) e1 e2), fun o ho => ?_, out 94 (by decide) (by decide), out 0 (by decide) (by decide), out 1 (by decide) (by decide)⟩
  obtain ⟨a1, a2⟩ := ap o ho
  obtain ⟨b1, b2⟩ := g3 o ho
  refine ⟨?_, ?_⟩
  · rcases b1 with q | q
    · rw [q]; exact a1
    · omega
  · rcases b2 with q | q
    · rw [q]; exact a2
    · omega
/-- a step of the reference -/
theorem step_r {T : NT} {S : SS} {σ : St} {κ : KP} {w : WR} {μ μ' : KM} {F : Nat → Value} {I : AI} {L : AL} {h h' : AH} (k : RKx T S σ κ w h) (mh : MH μ F I L h) (ap : AP κ μ) (g : MG h μ h' μ') : RKx T S σ κ w h' ∧ AP κ μ' ∧ h'.1 94 = h.1 94 ∧ h'.1 0 = h.1 0 ∧ h'.1 1 = h.1 1 := by
  obtain ⟨⟨g1, -, -⟩, g2, ⟨g3, g4⟩, -⟩ := g
  obtain ⟨m1, m2, m3, m4, m5, m6, m7, m8, m9, m10, m11⟩ := id mh
  have out : ∀ x, x ≤ 94 → (x < 65 ∨ 93 < x) → h'.1 x = h.1 x := fun x hx hr => g2 x (by omega) hr (by omega) (by omega)
  refine ⟨k.fr g1 (fun x hx => out x (by omega) (by omega)) (fun o ho => ?_), fun o ho => ?_, out 94 (by decide) (by decide), out 0 (by decide) (by decide), out 1 (by decide) (by decide)⟩
  · obtain ⟨⟨n1, f1, u1⟩, ⟨n2, f2, u2⟩, t1, t2, t3, t4⟩ := k.tu ho
    obtain ⟨a1, a2⟩ := ap o ho
    exact ⟨g2 _ t1 (by omega) a1 (ne_il u1 m5), g2 _ t2 (by omega) (Ne.symm (ne_il m4 u2)) a2⟩
  · obtain ⟨a1, a2⟩ := ap o ho
    obtain ⟨-, -, t1, t2, -⟩ := k.tu ho
    refine ⟨?_, ?_⟩
    · rcases g3 with q | q
      · rw [q]; exact a1
      · omega
    · rcases g4 with q | q
      · rw [q]; exact a2
      · omega
/-- a node more -/
def addT (T : NT) (s a b c : Int32) (v : Int64) : NT := (tN T + 1, (upd T.2.1 (tN T) s, (upd T.2.2.1 (tN T) a, (upd T.2.2.2.1 (tN T) b, (upd T.2.2.2.2.1 (tN T) c, vp_updL T.2.2.2.2.2 (tN T) v)))))
theorem addT_TX (T : NT) (s a b c : Int32) (v : Int64) : TX T (addT T s a b c v) := fun i hi => by
  have n : i ≠ tN T := by omega
  exact ⟨pk_un n, pk_un n, pk_un n, pk_un n, pk_uLn n⟩
