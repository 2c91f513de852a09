/-! frames and costs of the class's steps -/
def smc (κ : KP) : Nat → Nat
  | 0 => 0
  | k + 1 => smc κ k + 2 * (200 - (κ (wid k + 4)).2.2)
def sms (κ : KP) : Nat → Nat
  | 0 => 0
  | k + 1 => sms κ k + ph 200 (κ (wid k + 4)).2.2
def Phc (κ : KP) : Nat := 2 * (36000 - (κ 27).2.2) + smc κ 6
def Phs (κ : KP) : Nat := ph 36000 (κ 27).2.2 + sms κ 6
theorem smc_up {κ : KP} {k : Nat} {v : Nat × (Nat × Nat)} : ∀ n, smc (va_up κ (wid k + 4) v) n + (if k < n then 2 * (200 - (κ (wid k + 4)).2.2) else 0) = smc κ n + (if k < n then 2 * (200 - v.2.2) else 0)
  | 0 => by simp [smc]
  | n + 1 => by
    have ih := smc_up (κ := κ) (k := k) (v := v) n
    unfold smc
    by_cases e : k = n
    · subst e
      rw [up_eq]
      simp only [Nat.lt_irrefl, if_false, Nat.lt_succ_self, if_true] at ih ⊢
      omega
    · have : wid n + 4 ≠ wid k + 4 := fun q => e (wid_inj (by omega)).symm
      rw [up_ne this]
      have h1 : k < n + 1 ↔ k < n := by omega
      simp only [h1]
      omega
theorem sms_up {κ : KP} {k : Nat} {v : Nat × (Nat × Nat)} : ∀ n, sms (va_up κ (wid k + 4) v) n + (if k < n then ph 200 (κ (wid k + 4)).2.2 else 0) = sms κ n + (if k < n then ph 200 v.2.2 else 0)
  | 0 => by simp [sms]
  | n + 1 => by
    have ih := sms_up (κ := κ) (k := k) (v := v) n
    unfold sms
    by_cases e : k = n
    · subst e
      rw [up_eq]
      simp only [Nat.lt_irrefl, if_false, Nat.lt_succ_self, if_true] at ih ⊢
      omega
    · have : wid n + 4 ≠ wid k + 4 := fun q => e (wid_inj (by omega)).symm
      rw [up_ne this]
      have h1 : k < n + 1 ↔ k < n := by omega
      simp only [h1]
      omega
theorem smc_27 {κ : KP} {v : Nat × (Nat × Nat)} : ∀ n, n ≤ 6 → smc (va_up κ 27 v) n = smc κ n
  | 0, _ => rfl
  | n + 1, h => by
    unfold smc
    have := wid_b (show n < 6 by omega)
    rw [smc_27 n (by omega), up_ne (by omega)]
theorem sms_27 {κ : KP} {v : Nat × (Nat × Nat)} : ∀ n, n ≤ 6 → sms (va_up κ 27 v) n = sms κ n
  | 0, _ => rfl
  | n + 1, h => by
    unfold sms
    have := wid_b (show n < 6 by omega)
    rw [sms_27 n (by omega), up_ne (by omega)]
def CF (h : AH) (κ : KP) (h' : AH) (κ' : KP) : Prop :=
  (h.2.1 ≤ h'.2.1 ∧ h.2.2.1 ≤ h'.2.2.1 ∧ h.2.2.2 ≤ h'.2.2.2) ∧ (∀ x, x ≤ h.2.1 → (x < 19 ∨ 64 < x) → (∀ o, TE o → x ≠ (κ o).1 ∧ x ≠ (κ o).2.1) → h'.1 x = h.1 x) ∧ (∀ o, ((κ' o).1 = (κ o).1 ∨ h.2.1 < (κ' o).1) ∧ ((κ' o).2.1 = (κ o).2.1 ∨ h.2.1 < (κ' o).2.1)) ∧ (∀ o, ¬ TE o → κ' o = κ o) ∧ h'.2.2.1 + Phc κ' ≤ h.2.2.1 + Phc κ ∧ h'.2.2.2 + Phs κ' ≤ h.2.2.2 + Phs κ
theorem CF.rf (h : AH) (κ : KP) : CF h κ h κ := ⟨⟨Nat.le_refl _, Nat.le_refl _, Nat.le_refl _⟩, fun _ _ _ _ => rfl, fun _ => ⟨Or.inl rfl, Or.inl rfl⟩, fun _ _ => rfl, Nat.le_refl _, Nat.le_refl _⟩
theorem CF.tr {h h1 h2 : AH} {κ κ1 κ2 : KP} (a : CF h κ h1 κ1) (b : CF h1 κ1 h2 κ2) : CF h κ h2 κ2 := by
  obtain ⟨⟨a1, a2, a3⟩, a4, a5, a6, a7, a8⟩ := a
  obtain ⟨⟨b1, b2, b3⟩, b4, b5, b6, b7, b8⟩ := b
  refine ⟨⟨Nat.le_trans a1 b1, Nat.le_trans a2 b2, Nat.le_trans a3 b3⟩, fun x hx hr hn => ?_, fun o => ?_, fun o ho => (b6 o ho).trans (a6 o ho), by omega, by omega⟩
  · rw [b4 x (by omega) hr (fun o ho => ?_), a4 x hx hr hn]
    obtain ⟨n1, n2⟩ := hn o ho
    obtain ⟨c1, c2⟩ := a5 o
    refine ⟨?_, ?_⟩
    · rcases c1 with q | q <;> omega
    · rcases c2 with q | q <;> omega
  · obtain ⟨c1, c2⟩ := a5 o
    obtain ⟨d1, d2⟩ := b5 o
    refine ⟨?_, ?_⟩
    · rcases d1 with q | q
      · rw [q]; exact c1
      · exact Or.inr (by omega)
    · rcases d2 with q | q
      · rw [q]; exact c2
      · exact Or.inr (by omega)
/-- a step that writes cells of the class alone, and makes none -/
theorem CF.plain {h h' : AH} {κ : KP} (e : h'.2 = h.2) (hx : ∀ x, (x < 19 ∨ 64 < x) → (∀ o, TE o → x ≠ (κ o).1 ∧ x ≠ (κ o).2.1) → h'.1 x = h.1 x) : CF h κ h' κ := by
  refine ⟨⟨by rw [e]; exact Nat.le_refl _, by rw [e]; exact Nat.le_refl _, by rw [e]; exact Nat.le_refl _⟩, fun x _ => hx x, fun _ => ⟨Or.inl rfl, Or.inl rfl⟩, fun _ _ => rfl, by rw [e]; exact Nat.le_refl _, by rw [e]; exact Nat.le_refl _⟩
theorem TE.le {o : Nat} (h : TE o) : 24 ≤ o ∧ o ≤ 62 := by
  rcases h with rfl | ⟨k, hk, rfl⟩
  · omega
  · have := wid_b hk; omega
theorem TE.far {o o' : Nat} (h : TE o) (h' : TE o') (n : o' ≠ o) : o' ≠ o + 1 ∧ o' ≠ o + 2 ∧ o' + 1 ≠ o ∧ o' + 2 ≠ o := by
  rcases h with rfl | ⟨k, hk, rfl⟩ <;> rcases h' with rfl | ⟨j, hj, rfl⟩
  · omega
  · have := wid_b hj; omega
  · have := wid_b hk; omega
  · have : j ≠ k := fun e => n (by rw [e])
    have := wid_sep this
    omega
/-- a step at one row of tokens -/
theorem tok_keep {κ : KP} {h h' : AH} {o ra rb lim cap : Nat} {ts0 : List Tok} (s : Sep κ h) (ho : TE o) (hlim : lim = if o = 27 then 36000 else 200) (t0 : TKk κ h o lim ts0) (f : TFr h h' o (κ o).1 (κ o).2.1 ra rb lim (κ o).2.2 cap) :
    (∀ x, x ≤ 94 → x ≠ o → x ≠ o + 1 → x ≠ o + 2 → h'.1 x = h.1 x) ∧ (∀ o', TE o' → o' ≠ o → ∀ l ts, TKk κ h o' l ts → TKk (va_up κ o (ra, (rb, cap))) h' o' l ts) ∧ Sep (va_up κ o (ra, (rb, cap))) h' ∧ CF h κ h' (va_up κ o (ra, (rb, cap))) := by
  obtain ⟨f1, f2, f3, f4, f5, f6, f7⟩ := f
  have hol := ho.le
  have keep : ∀ x, x ≤ 94 → x ≠ o → x ≠ o + 1 → x ≠ o + 2 → h'.1 x = h.1 x := fun x hx n0 n1 n2 => f4 x (Nat.le_trans hx s.1) n0 (s.a ho hx n1) (s.b ho hx n2)
  obtain ⟨F0, g0, k0, u1, u2, u3, u4, u5, u6, u7, -⟩ := id t0
  refine ⟨keep, fun o' ho' n l ts t => ?_, ⟨Nat.le_trans s.1 f1, fun o' ho' => ?_, fun o1 o2 h1 h2 n => ?_⟩, ⟨f1, f2, f3⟩, fun x hx hr hn => f4 x hx (by omega) (hn o ho).1 (hn o ho).2, fun o' => ?_, fun o' ho' => up_ne (fun e => ho' (by rw [e]; exact ho)), ?_, ?_⟩
  · unfold TKk at t ⊢
    rw [up_ne n]
    have far := ho.far ho' n
    have hol' := ho'.le
    obtain ⟨x1, x2, x3, x4⟩ := s.2.1 o' ho'
    obtain ⟨y1, y2⟩ := s.2.2 o' o ho' ho n
    obtain ⟨F, f, g, t1, t2, t3, t4, t5, t6, t7, -⟩ := id t
    exact t.fr f1 (keep o' (by omega) n far.1 far.2.1) (f4 _ x3 (Ne.symm (ne_oi u1 t6)) y1 (ne_il t6 u7)) (f4 _ x4 (Ne.symm (ne_ol u1 t7)) (Ne.symm (ne_il u6 t7)) y2)
  · by_cases e : o' = o
    · subst e
      rw [up_eq]
      obtain ⟨x1, x2, x3, x4⟩ := s.2.1 o' ho'
      have s1 := s.1
      rcases f5 with ⟨q1, q2⟩ | ⟨q1, q2, q3, q4⟩
      · dsimp only
        rw [q1, q2]
        exact ⟨x1, x2, by omega, by omega⟩
      · exact ⟨Or.inr (by dsimp only; omega), Or.inr (by dsimp only; omega), q3, q4⟩
    · rw [up_ne e]
      obtain ⟨x1, x2, x3, x4⟩ := s.2.1 o' ho'
      exact ⟨x1, x2, by omega, by omega⟩
  · by_cases e1 : o1 = o
    · subst e1
      rw [up_eq, up_ne (Ne.symm n)]
      obtain ⟨x1, x2⟩ := s.2.2 _ _ h1 h2 n
      obtain ⟨z1, z2, z3, z4⟩ := s.2.1 o2 h2
      dsimp only
      rcases f5 with ⟨q1, q2⟩ | ⟨q1, q2, q3, q4⟩
      · rw [q1, q2]; exact ⟨x1, x2⟩
      · exact ⟨by omega, by omega⟩
    · by_cases e2 : o2 = o
      · subst e2
        rw [up_eq, up_ne e1]
        obtain ⟨x1, x2⟩ := s.2.2 _ _ h1 h2 n
        obtain ⟨z1, z2, z3, z4⟩ := s.2.1 o1 h1
        dsimp only
        rcases f5 with ⟨q1, q2⟩ | ⟨q1, q2, q3, q4⟩
        · rw [q1, q2]; exact ⟨x1, x2⟩
        · exact ⟨by omega, by omega⟩
      · rw [up_ne e1, up_ne e2]
        exact s.2.2 _ _ h1 h2 n
  · by_cases e : o' = o
    · subst e
      rw [up_eq]
      dsimp only
      rcases f5 with ⟨q1, q2⟩ | ⟨q1, q2, q3, q4⟩
      · exact ⟨Or.inl q1, Or.inl q2⟩
      · exact ⟨Or.inr q1, Or.inr q2⟩
    · rw [up_ne e]
      exact ⟨Or.inl rfl, Or.inl rfl⟩
  · unfold Phc
    rcases ho with e | ⟨k, hk, e⟩
    · subst e
      rw [if_pos rfl] at hlim
      subst hlim
      rw [up_eq, smc_27 6 (by omega)]
      dsimp only
      omega
    · have hb := wid_b hk
      have n27 : o ≠ 27 := by omega
      rw [if_neg n27] at hlim
      subst hlim
      have := smc_up (κ := κ) (k := k) (v := (ra, (rb, cap))) 6
      rw [if_pos hk, if_pos hk, ← e] at this
      rw [up_ne (Ne.symm n27)]
      dsimp only at this ⊢
      omega
  · unfold Phs
    rcases ho with e | ⟨k, hk, e⟩
    · subst e
      rw [if_pos rfl] at hlim
      subst hlim
      rw [up_eq, sms_27 6 (by omega)]
      dsimp only
      omega
    · have hb := wid_b hk
      have n27 : o ≠ 27 := by omega
      rw [if_neg n27] at hlim
      subst hlim
      have := sms_up (κ := κ) (k := k) (v := (ra, (rb, cap))) 6
      rw [if_pos hk, if_pos hk, ← e] at this
      rw [up_ne (Ne.symm n27)]
      dsimp only at this ⊢
      omega
theorem κ_same {κ : KP} {o : Nat} : va_up κ o ((κ o).1, ((κ o).2.1, (κ o).2.2)) = κ := by
  funext x
  by_cases e : x = o
  · subst e; rw [up_eq]
  · rw [up_ne e]
