/-! the class's picture with one way taken out of it, and its frames -/
def RWr (κ : KP) (l fi tb de mo vs li : Nat) (v : Nat → Option Vl) (ts : List Tok) (h : AH) : Prop := RWo l fi tb de mo vs li h ∧ RWv l v h ∧ TKk κ h (wid l + 4) 200 ts
def RCo (T : NT) (σ : St) (κ : KP) (w : WR) (l : Nat) (h : AH) : Prop :=
  RNd T h ∧ RWk (sLev σ) (sLab σ) w h ∧ (∀ k, k ≤ sLev σ → k ≠ l → RWy κ σ k h) ∧ (∀ k, sLev σ < k → k < 6 → k ≠ l → RWf κ k h) ∧ TKk κ h 27 36000 (sHeap σ) ∧ Sep κ h ∧ sLev σ < 6 ∧ (sTold σ 0).length < 2 ^ 30
def SameL (σ σ' : St) (k : Nat) : Prop := sIns σ' k = sIns σ k ∧ sVal σ' k = sVal σ k ∧ sTold σ' k = sTold σ k ∧ sCome σ' k = sCome σ k ∧ sFull σ' k = sFull σ k ∧ sLst σ' k = sLst σ k ∧ sMany σ' k = sMany σ k
theorem SameL.rf (σ : St) (k : Nat) : SameL σ σ k := ⟨rfl, rfl, rfl, rfl, rfl, rfl, rfl⟩
theorem SameL.mo {σ σ' : St} {k : Nat} (s : SameL σ σ' k) : moL σ' k = moL σ k := by
  unfold moL
  by_cases e : k = 0
  · subst e; rw [if_pos rfl, if_pos rfl, s.2.2.1]
  · rw [if_neg e, if_neg e]
theorem SameL.tk {σ σ' : St} {k : Nat} (s : SameL σ σ' k) : tkL σ' k = tkL σ k := by
  unfold tkL
  by_cases e : k = 0
  · subst e; rw [if_pos rfl, if_pos rfl, s.2.2.2.2.1]
  · rw [if_neg e, if_neg e, s.2.2.2.2.1, s.2.2.2.2.2.1, s.2.2.2.2.2.2]
theorem SameL.vs {σ σ' : St} {k : Nat} (s : SameL σ σ' k) : vsL σ' k = vsL σ k := by
  unfold vsL
  rw [s.2.2.2.2.2.1]
theorem RWy.same {κ : KP} {σ σ' : St} {k : Nat} {h : AH} (s : SameL σ σ' k) (r : RWy κ σ k h) : RWy κ σ' k h := by
  obtain ⟨li, a, b, c, d, e⟩ := r
  refine ⟨li, ?_, fun q => ?_, ?_, ?_, ?_⟩
  · rw [s.1, s.2.2.1, s.2.2.2.1, s.mo, s.vs]; exact a
  · rw [s.2.2.2.2.2.2]; exact b q
  · rw [s.2.2.1, s.1]; exact c
  · rw [s.2.1]; exact d
  · rw [s.tk]; exact e
theorem RWy.fr {κ κ' : KP} {σ : St} {k : Nat} {h h' : AH} (r : RWy κ σ k h) (e : ∀ x, wid k ≤ x → x ≤ wid k + 3 → h'.1 x = h.1 x) (t : ∀ ts, TKk κ h (wid k + 4) 200 ts → TKk κ' h' (wid k + 4) 200 ts) : RWy κ' σ k h' := by
  obtain ⟨li, a, b, c, d, f⟩ := r
  exact ⟨li, a.fr (e _ (Nat.le_refl _) (by omega)), b, c, d.fr (e _ (by omega) (by omega)) (e _ (by omega) (by omega)) (e _ (by omega) (by omega)), t _ f⟩
theorem RWf.fr {κ κ' : KP} {k : Nat} {h h' : AH} (r : RWf κ k h) (e : ∀ x, wid k ≤ x → x ≤ wid k + 3 → h'.1 x = h.1 x) (t : ∀ ts, TKk κ h (wid k + 4) 200 ts → TKk κ' h' (wid k + 4) 200 ts) : RWf κ' k h' := by
  obtain ⟨fi, tb, de, mo, vs, li, v, ts, a, d, f⟩ := r
  exact ⟨fi, tb, de, mo, vs, li, v, ts, a.fr (e _ (Nat.le_refl _) (by omega)), d.fr (e _ (by omega) (by omega)) (e _ (by omega) (by omega)) (e _ (by omega) (by omega)), t _ f⟩
theorem RWr.fr {κ κ' : KP} {l fi tb de mo vs li : Nat} {v : Nat → Option Vl} {ts : List Tok} {h h' : AH} (r : RWr κ l fi tb de mo vs li v ts h) (e : ∀ x, wid l ≤ x → x ≤ wid l + 3 → h'.1 x = h.1 x) (t : ∀ ts, TKk κ h (wid l + 4) 200 ts → TKk κ' h' (wid l + 4) 200 ts) : RWr κ' l fi tb de mo vs li v ts h' :=
  ⟨r.1.fr (e _ (Nat.le_refl _) (by omega)), r.2.1.fr (e _ (by omega) (by omega)) (e _ (by omega) (by omega)) (e _ (by omega) (by omega)), t _ r.2.2⟩
theorem RWy.f {κ : KP} {σ : St} {k : Nat} {h : AH} (r : RWy κ σ k h) : RWf κ k h := by
  obtain ⟨li, a, b, c, d, f⟩ := r
  exact ⟨_, _, _, _, _, li, _, _, a, d, f⟩
theorem TE.farW {o l : Nat} (ho : TE o) (hl : l < 6) {j : Nat} (hj : j ≤ 2) : o + j < wid l ∨ wid l + 3 < o + j := by
  have hb := wid_b hl
  rcases ho with rfl | ⟨k, hk, rfl⟩
  · omega
  · by_cases e : k = l
    · subst e; omega
    · have := wid_sep e
      omega
theorem Sep.same {κ : KP} {h h' : AH} (s : Sep κ h) (e : h'.2 = h.2) : Sep κ h' := by
  unfold Sep at s ⊢
  rw [e]
  exact s
/-- cells that no row of tokens has may change -/
theorem TKk.plain {κ : KP} {h h' : AH} {o lim : Nat} {ts : List Tok} (t : TKk κ h o lim ts) (s : Sep κ h) (ho : TE o) (e2 : h'.2 = h.2) {P : Nat → Prop} (e : ∀ x, ¬ P x → h'.1 x = h.1 x) (hP : ∀ x, P x → x ≤ 94 ∧ x ≠ o ∧ x ≠ o + 1 ∧ x ≠ o + 2) : TKk κ h' o lim ts := by
  refine TK.fr t (by rw [e2]; exact Nat.le_refl _) (e _ (fun q => (hP _ q).2.1 rfl)) (e _ (fun q => ?_)) (e _ (fun q => ?_))
  · obtain ⟨a, b, c, d⟩ := hP _ q
    exact s.a ho a c rfl
  · obtain ⟨a, b, c, d⟩ := hP _ q
    exact s.b ho a d rfl
theorem RCo.way {T : NT} {σ : St} {κ : KP} {w : WR} {l : Nat} {h h' : AH} (r : RCo T σ κ w l h) (hl : l < 6) (e2 : h'.2 = h.2) (e : ∀ x, (x < wid l ∨ wid l + 3 < x) → h'.1 x = h.1 x) : RCo T σ κ w l h' ∧ (∀ ts, TKk κ h (wid l + 4) 200 ts → TKk κ h' (wid l + 4) 200 ts) ∧ CF h κ h' κ := by
  obtain ⟨r1, r2, r3, r4, r5, r6, r7, r8⟩ := r
  have hb := wid_b hl
  have T1 : ∀ o lim ts, TE o → TKk κ h o lim ts → TKk κ h' o lim ts := fun o lim ts ho t => t.plain r6 ho e2 (P := fun x => wid l ≤ x ∧ x ≤ wid l + 3) (fun x q => e x (by omega)) (fun x q => by
    have a0 := ho.farW hl (j := 0) (by omega)
    have a1 := ho.farW hl (j := 1) (by omega)
    have a2 := ho.farW hl (j := 2) (by omega)
    omega)
  have ew : ∀ k, k ≠ l → ∀ x, wid k ≤ x → x ≤ wid k + 3 → h'.1 x = h.1 x := fun k hk x h1 h2 => e x (by have := wid_sep hk; omega)
  refine ⟨⟨r1.fr (fun x _ _ => e x (by omega)), r2.fr (e 19 (by omega)), fun k h1 h2 => (r3 k h1 h2).fr (ew k h2) (fun ts => T1 _ _ _ (TEk (by omega))), fun k h1 h2 h3 => (r4 k h1 h2 h3).fr (ew k h3) (fun ts => T1 _ _ _ (TEk h2)), T1 _ _ _ TE27 r5, r6.same e2, r7, r8⟩, fun ts => T1 _ _ _ (TEk hl), CF.plain e2 (fun x hx _ => e x (by omega))⟩
theorem RCo.at19 {T : NT} {σ σ' : St} {κ : KP} {w w' : WR} {l : Nat} {h h' : AH} (r : RCo T σ κ w l h) (e2 : h'.2 = h.2) (e : ∀ x, x ≠ 19 → h'.1 x = h.1 x) (hk : RWk (sLev σ') (sLab σ') w' h') (hy : ∀ k, k ≤ sLev σ' → k ≠ l → k ≤ sLev σ ∧ SameL σ σ' k) (hf : ∀ k, sLev σ' < k → k < 6 → k ≠ l → sLev σ < k) (hh : sHeap σ' = sHeap σ) (h6 : sLev σ' < 6) (ht : (sTold σ' 0).length < 2 ^ 30) :
    RCo T σ' κ w' l h' ∧ (∀ fi tb de mo vs li v ts, l < 6 → RWr κ l fi tb de mo vs li v ts h → RWr κ l fi tb de mo vs li v ts h') ∧ CF h κ h' κ := by
  obtain ⟨r1, r2, r3, r4, r5, r6, r7, r8⟩ := r
  have T1 : ∀ o lim ts, TE o → TKk κ h o lim ts → TKk κ h' o lim ts := fun o lim ts ho t => t.plain r6 ho e2 (P := fun x => x = 19) e (fun x q => by
    have := ho.le
    omega)
  have ew : ∀ k, ∀ x, wid k ≤ x → x ≤ wid k + 3 → h'.1 x = h.1 x := fun k x h1 h2 => e x (by
    have : 20 ≤ wid k := by unfold wid; split <;> omega
    omega)
  refine ⟨⟨r1.fr (fun x _ _ => e x (by omega)), hk, fun k h1 h2 => ((r3 k (hy k h1 h2).1 h2).same (hy k h1 h2).2).fr (ew k) (fun ts => T1 _ _ _ (TEk (by omega))), fun k h1 h2 h3 => (r4 k (hf k h1 h2 h3) h2 h3).fr (ew k) (fun ts => T1 _ _ _ (TEk h2)), by rw [hh]; exact T1 _ _ _ TE27 r5, r6.same e2, h6, ht⟩, fun fi tb de mo vs li v ts hl q => q.fr (ew l) (fun ts => T1 _ _ _ (TEk hl)), CF.plain e2 (fun x hx _ => e x (by omega))⟩
theorem RCo.tok {T : NT} {σ : St} {κ : KP} {w : WR} {l ra rb cap : Nat} {h h' : AH} {ts : List Tok} (r : RCo T σ κ w l h) (hl : l < 6) (t : TKk κ h (wid l + 4) 200 ts) (f : TFr h h' (wid l + 4) (κ (wid l + 4)).1 (κ (wid l + 4)).2.1 ra rb 200 (κ (wid l + 4)).2.2 cap) :
    RCo T σ (va_up κ (wid l + 4) (ra, (rb, cap))) w l h' ∧ (∀ x, wid l ≤ x → x ≤ wid l + 3 → h'.1 x = h.1 x) ∧ CF h κ h' (va_up κ (wid l + 4) (ra, (rb, cap))) := by
  obtain ⟨r1, r2, r3, r4, r5, r6, r7, r8⟩ := r
  have hb := wid_b hl
  obtain ⟨k1, k2, k3, k4⟩ := tok_keep r6 (TEk hl) (by rw [if_neg (by omega)]) t f
  have T1 : ∀ k, k < 6 → k ≠ l → ∀ ts, TKk κ h (wid k + 4) 200 ts → TKk (va_up κ (wid l + 4) (ra, (rb, cap))) h' (wid k + 4) 200 ts := fun k hk hn ts => k2 _ (TEk hk) (fun q => hn (wid_inj (by omega))) 200 ts
  have ew : ∀ k, k < 6 → ∀ x, wid k ≤ x → x ≤ wid k + 3 → h'.1 x = h.1 x := fun k hk x h1 h2 => k1 x (by have := wid_b hk; omega) (by have := (TEk hl).farW hk (j := 0) (by omega); omega) (by have := (TEk hl).farW hk (j := 1) (by omega); omega) (by have := (TEk hl).farW hk (j := 2) (by omega); omega)
  exact ⟨⟨r1.fr (fun x _ _ => k1 x (by omega) (by omega) (by omega) (by omega)), r2.fr (k1 19 (by omega) (by omega) (by omega) (by omega)), fun k h1 h2 => (r3 k h1 h2).fr (ew k (by omega)) (T1 k (by omega) h2), fun k h1 h2 h3 => (r4 k h1 h2 h3).fr (ew k h2) (T1 k h2 h3), k2 27 TE27 (by omega) _ _ r5, k3, r7, r8⟩, ew l hl, k4⟩
theorem RCo.lists {T : NT} {σ : St} {κ : KP} {w : WR} {l ra rb cap : Nat} {h h' : AH} {hp : List Tok} (r : RCo T σ κ w l h) (t' : TK h' 27 ra rb 36000 cap hp) (f : TFr h h' 27 (κ 27).1 (κ 27).2.1 ra rb 36000 (κ 27).2.2 cap) :
    RCo T (wHeap σ hp) (va_up κ 27 (ra, (rb, cap))) w l h' ∧ (∀ fi tb de mo vs li v ts, l < 6 → RWr κ l fi tb de mo vs li v ts h → RWr (va_up κ 27 (ra, (rb, cap))) l fi tb de mo vs li v ts h') ∧ CF h κ h' (va_up κ 27 (ra, (rb, cap))) := by
  obtain ⟨r1, r2, r3, r4, r5, r6, r7, r8⟩ := r
  obtain ⟨k1, k2, k3, k4⟩ := tok_keep r6 TE27 (by rw [if_pos rfl]) r5 f
  have T1 : ∀ k, k < 6 → ∀ ts, TKk κ h (wid k + 4) 200 ts → TKk (va_up κ 27 (ra, (rb, cap))) h' (wid k + 4) 200 ts := fun k hk ts => k2 _ (TEk hk) (by have := wid_b hk; omega) 200 ts
  have ew : ∀ k, k < 6 → ∀ x, wid k ≤ x → x ≤ wid k + 3 → h'.1 x = h.1 x := fun k hk x h1 h2 => k1 x (by have := wid_b hk; omega) (by have := wid_b hk; omega) (by have := wid_b hk; omega) (by have := wid_b hk; omega)
  have hsame : ∀ k, SameL σ (wHeap σ hp) k := fun k => SameL.rf σ k
  refine ⟨⟨r1.fr (fun x _ _ => k1 x (by omega) (by omega) (by omega) (by omega)), r2.fr (k1 19 (by omega) (by omega) (by omega) (by omega)), fun k h1 h2 => ((r3 k h1 h2).same (hsame k)).fr (ew k (by have : k ≤ sLev σ := h1; omega)) (T1 k (by have : k ≤ sLev σ := h1; omega)), fun k h1 h2 h3 => (r4 k h1 h2 h3).fr (ew k h2) (T1 k h2), ?_, k3, r7, r8⟩, fun fi tb de mo vs li v ts hl q => q.fr (ew l hl) (T1 l hl), k4⟩
  unfold TKk
  rw [up_eq]
  exact t'
theorem RC.all {T : NT} {σ : St} {κ : KP} {w : WR} {h : AH} (r : RC T σ κ w h) : RCo T σ κ w 7 h := by
  obtain ⟨r1, r2, r3, r4, r5⟩ := r
  exact ⟨r1, r2, fun k a _ => r3 k a, fun k a b _ => r4 k a b, r5⟩
theorem RCo.all {T : NT} {σ : St} {κ : KP} {w : WR} {h : AH} (r : RCo T σ κ w 7 h) : RC T σ κ w h := by
  obtain ⟨r1, r2, r3, r4, r5⟩ := r
  have h6 := r5.2.2.1
  exact ⟨r1, r2, fun k a => r3 k a (by omega), fun k a b => r4 k a b (by omega), r5⟩
theorem RC.take {T : NT} {σ : St} {κ : KP} {w : WR} {h : AH} (r : RC T σ κ w h) {l : Nat} (hl : l ≤ sLev σ) : RCo T σ κ w l h ∧ ∃ li, RWr κ l (sIns σ l) (bv (sTold σ l)) (sCome σ l) (moL σ l) (vsL σ l) li (sVal σ l) (tkL σ l) h ∧ (l ≠ 0 → li = sMany σ l) ∧ bv (sTold σ l) < 2 ^ 60 ∧ sIns σ l < 2 ^ 30 := by
  obtain ⟨r1, r2, r3, r4, r5⟩ := r
  obtain ⟨li, a, b, c, d, f⟩ := r3 l hl
  exact ⟨⟨r1, r2, fun k a _ => r3 k a, fun k a b _ => r4 k a b, r5⟩, li, ⟨a, d, f⟩, b, c⟩
theorem RC.takeF {T : NT} {σ : St} {κ : KP} {w : WR} {h : AH} (r : RC T σ κ w h) {l : Nat} (hl : sLev σ < l) (h6 : l < 6) : RCo T σ κ w l h ∧ ∃ fi tb de mo vs li v ts, RWr κ l fi tb de mo vs li v ts h := by
  obtain ⟨r1, r2, r3, r4, r5⟩ := r
  obtain ⟨fi, tb, de, mo, vs, li, v, ts, a, b, c⟩ := r4 l hl h6
  exact ⟨⟨r1, r2, fun k a _ => r3 k a, fun k a b _ => r4 k a b, r5⟩, fi, tb, de, mo, vs, li, v, ts, a, b, c⟩
theorem RCo.put {T : NT} {σ : St} {κ : KP} {w : WR} {h : AH} {l : Nat} (r : RCo T σ κ w l h) (hl : l ≤ sLev σ) {fi tb de mo vs li : Nat} {v : Nat → Option Vl} {ts : List Tok} (q : RWr κ l fi tb de mo vs li v ts h) (e1 : fi = sIns σ l) (e2 : tb = bv (sTold σ l)) (e3 : de = sCome σ l) (e4 : mo = moL σ l) (e5 : vs = vsL σ l) (e6 : l ≠ 0 → li = sMany σ l) (e7 : v = sVal σ l) (e8 : ts = tkL σ l) (e9 : bv (sTold σ l) < 2 ^ 60 ∧ sIns σ l < 2 ^ 30) : RC T σ κ w h := by
  obtain ⟨r1, r2, r3, r4, r5⟩ := r
  subst e1 e2 e3 e4 e5 e7 e8
  refine ⟨r1, r2, fun k a => ?_, fun k a b => r4 k a b (by omega), r5⟩
  by_cases e : k = l
  · subst e
    exact ⟨li, q.1, e6, e9, q.2.1, q.2.2⟩
  · exact r3 k a e
theorem RCo.putF {T : NT} {σ : St} {κ : KP} {w : WR} {h : AH} {l : Nat} (r : RCo T σ κ w l h) (hl : sLev σ < l) {fi tb de mo vs li : Nat} {v : Nat → Option Vl} {ts : List Tok} (q : RWr κ l fi tb de mo vs li v ts h) : RC T σ κ w h := by
  obtain ⟨r1, r2, r3, r4, r5⟩ := r
  refine ⟨r1, r2, fun k a => r3 k a (by omega), fun k a b => ?_, r5⟩
  by_cases e : k = l
  · subst e
    exact ⟨fi, tb, de, mo, vs, li, v, ts, q.1, q.2.1, q.2.2⟩
  · exact r4 k a b e
theorem RCo.same {T : NT} {σ σ' : St} {κ : KP} {w : WR} {h : AH} {l : Nat} (r : RCo T σ κ w l h) (e1 : sLev σ' = sLev σ) (e2 : sLab σ' = sLab σ) (e3 : sHeap σ' = sHeap σ) (e4 : (sTold σ' 0).length < 2 ^ 30) (s : ∀ k, k ≤ sLev σ → k ≠ l → SameL σ σ' k) : RCo T σ' κ w l h := by
  obtain ⟨r1, r2, r3, r4, r5, r6, r7, r8⟩ := r
  refine ⟨r1, by rw [e1, e2]; exact r2, fun k a b => ?_, fun k a => ?_, by rw [e3]; exact r5, r6, by rw [e1]; exact r7, e4⟩
  · rw [e1] at a
    exact (r3 k a b).same (s k a b)
  · rw [e1] at a
    exact r4 k a
