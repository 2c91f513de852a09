/-! WHAT IS TOLD BEYOND THE DECISIONS THAT ARE COME TO changes nothing -/
def Upt (σ : St) (t : List Bool) : St := wTC σ (va_up (sTold σ) 0 t) (sCome σ)
/-- r, r': how it ends with fewer told ones (l), with more (t) -/
def LR (t : List Bool) (l : Nat) (r r' : Rs) : Prop := (r.1 ≠ 3 → r' = (r.1, Upt r.2 t)) ∧ (r.1 = 3 → l ≤ sCome r.2 0 ∧ (l < t.length → l < sCome r'.2 0))
theorem up_comm {α : Type} {F : Nat → α} {a b : Nat} {x y : α} (h : a ≠ b) : va_up (va_up F a x) b y = va_up (va_up F b y) a x := by
  funext z
  by_cases e : z = a
  · subst e
    rw [up_ne h, up_eq, up_eq]
  · by_cases e2 : z = b
    · subst e2
      rw [up_eq, up_ne e, up_eq]
    · rw [up_ne e2, up_ne e, up_ne e, up_ne e2]
theorem Upt_t {σ : St} {t : List Bool} : sTold (Upt σ t) 0 = t := by
  show va_up (sTold σ) 0 t 0 = t
  exact up_eq
theorem Upt_n {σ : St} {t : List Bool} {k : Nat} (h : k ≠ 0) : sTold (Upt σ t) k = sTold σ k := by
  show va_up (sTold σ) 0 t k = _
  exact up_ne h
theorem Fr.t0 {σ σ' : St} (f : Fr σ σ') : sTold σ' 0 = sTold σ 0 := by
  by_cases e : sLev σ = 0
  · exact f.2.2.2.2.2.2.2.2.2 e
  · exact (f.2.2.1 0 (by omega)).2.1
theorem Fr.c0 {σ σ' : St} (f : Fr σ σ') : sCome σ 0 ≤ sCome σ' 0 := by
  by_cases e : sLev σ = 0
  · have := f.2.2.2.2.2.2.2.1
    rw [e] at this
    exact this
  · exact Nat.le_of_eq (f.2.2.1 0 (by omega)).2.2.1.symm
theorem Inv.upt {T : NT} {σ : St} {t : List Bool} (h : Inv T σ) (hl : (sTold σ 0).length ≤ t.length) : Inv T (Upt σ t) := by
  obtain ⟨h1, h2, h3, h4, h5⟩ := h
  refine ⟨h1, h2, fun k hk => ?_, h4, h5⟩
  show sCome σ k ≤ (va_up (sTold σ) 0 t k).length
  by_cases e : k = 0
  · subst e; rw [up_eq]; exact Nat.le_trans (h3 0 (Nat.zero_le _)) hl
  · rw [up_ne e]; exact h3 k hk
theorem Pre.upt {T : NT} {n : Nat} {σ : St} {t : List Bool} (h : Pre T n σ) (hl : (sTold σ 0).length ≤ t.length) : Pre T n (Upt σ t) := ⟨h.1.upt hl, h.2⟩
theorem TPre.upt {T : NT} {σ : St} {t : List Bool} (h : TPre T σ) (hl : (sTold σ 0).length ≤ t.length) : TPre T (Upt σ t) := ⟨h.1.upt hl, h.2⟩
theorem Fr.upt {σ σ' : St} {t : List Bool} (f : Fr σ σ') : Fr (Upt σ t) (Upt σ' t) := by
  obtain ⟨f1, f2, f3, f4, f5, f6, f7, f8, f9, f10⟩ := f
  refine ⟨f1, f2, fun k hk => ?_, f4, f5, f6, f7, f8, f9, fun _ => Upt_t.trans Upt_t.symm⟩
  obtain ⟨a, b, c, d⟩ := f3 k hk
  refine ⟨a, ?_, c, d⟩
  by_cases e : k = 0
  · subst e; exact Upt_t.trans Upt_t.symm
  · exact (Upt_n e).trans (b.trans (Upt_n e).symm)
theorem Mid.upt {T : NT} {n : Nat} {σ σ1 : St} {t : List Bool} (m : Mid T n σ σ1) (hl : (sTold σ 0).length ≤ t.length) : Mid T n (Upt σ t) (Upt σ1 t) := by
  obtain ⟨m1, m2, m3⟩ := m
  exact ⟨m1.upt, m2.upt (by rw [m1.t0]; exact hl), m3⟩
theorem LR.same {t : List Bool} {l c : Nat} {σ : St} (h : c ≠ 3) : LR t l (c, σ) (c, Upt σ t) := ⟨fun _ => rfl, fun q => absurd q h⟩
theorem LR.bd {t : List Bool} {l : Nat} {r r' : Rs} {k : St → Rs} (h : LR t l r r') (h0 : r.1 = 0 → LR t l (k r.2) (k (Upt r.2 t))) (hm : r.1 = 3 → r'.1 = 0 → sCome r'.2 0 ≤ sCome (k r'.2).2 0) : LR t l (bd r k) (bd r' k) := by
  by_cases z : r.1 = 0
  · have e := h.1 (by rw [z]; decide)
    rw [bd_0 z, e, bd_0 (r := (r.1, Upt r.2 t)) z]
    exact h0 z
  · rw [bd_n z]
    by_cases z3 : r.1 = 3
    · refine ⟨fun q => absurd z3 q, fun q => ⟨(h.2 q).1, fun hl => ?_⟩⟩
      have := (h.2 q).2 hl
      by_cases z' : r'.1 = 0
      · rw [bd_0 z']
        exact Nat.lt_of_lt_of_le this (hm z3 z')
      · rw [bd_n z']
        exact this
    · have e := h.1 z3
      rw [e, bd_n (r := (r.1, Upt r.2 t)) z]
      exact ⟨fun _ => rfl, fun q => absurd q z3⟩
def LRh (T : NT) (rec : Nat → St → Rs) (f : Nat) (t : List Bool) : Prop := ∀ n, n < f → ∀ σ, Pre T n σ → sTold σ 0 <+: t → LR t (sTold σ 0).length (rec n σ) (rec n (Upt σ t))
theorem mono_tk {T : NT} {rec : Nat → St → Rs} {f n x : Nat} {σ : St} (R : RH T rec f) (hf : x < f) (hp : Pre T x σ) : sCome σ 0 ≤ sCome (tkP rec n x σ).2 0 := by
  have P := (R x hf σ hp).2.1.c0
  unfold tkP
  by_cases z : (rec x σ).1 = 0
  · rw [bd_0 z]; exact P
  · rw [bd_n z]; exact P
theorem mono_nAs {α : Type} {T : NT} {rec : Nat → St → Rs} {pr : Option Vl → Option α} {f x : Nat} {σ : St} {g : α → St → Rs} (R : RH T rec f) (hf : x < f) (hp : Pre T x σ) (hg : ∀ a, (rec x σ).1 = 0 → pr (gv (rec x σ).2 x) = some a → sCome (rec x σ).2 0 ≤ sCome (g a (rec x σ).2).2 0) : sCome σ 0 ≤ sCome (nAs rec pr x σ g).2 0 := by
  have P := (R x hf σ hp).2.1.c0
  by_cases z : (rec x σ).1 = 0
  · cases e : pr (gv (rec x σ).2 x) with
    | some a => rw [nAs_0 z e]; exact Nat.le_trans P (hg a z e)
    | none => rw [nAs_f z e]; exact P
  · rw [nAs_b z]; exact P
theorem lr_tk {T : NT} {rec : Nat → St → Rs} {f n x : Nat} {σ σ1 : St} {t : List Bool} (H : LRh T rec f t) (hf : x < f) (hp : Pre T x σ1) (ht : sTold σ1 0 = sTold σ 0) (hs : sTold σ 0 <+: t) : LR t (sTold σ 0).length (tkP rec n x σ1) (tkP rec n x (Upt σ1 t)) := by
  have h := H x hf σ1 hp (by rw [ht]; exact hs)
  rw [ht] at h
  exact h.bd (fun _ => ⟨fun _ => rfl, (fun q => by cases q)⟩) (fun _ _ => Nat.le_refl _)
theorem lr_nAs {α : Type} {T : NT} {rec : Nat → St → Rs} {pr : Option Vl → Option α} {f n x : Nat} {σ σ1 : St} {t : List Bool} {g : α → St → Rs} (H : LRh T rec f t) (R : RH T rec f) (hx : x < n) (hf : x < f) (m : Mid T n σ σ1) (hp : Pre T n σ) (hv : sVal σ (sLev σ) n = none) (hs : sTold σ 0 <+: t)
    (k : ∀ a σ2, Mid T n σ σ2 → pr (gv σ2 x) = some a → LR t (sTold σ 0).length (g a σ2) (g a (Upt σ2 t))) (km : ∀ a σ2, Mid T n (Upt σ t) σ2 → pr (gv σ2 x) = some a → sCome σ2 0 ≤ sCome (g a σ2).2 0) : LR t (sTold σ 0).length (nAs rec pr x σ1 g) (nAs rec pr x (Upt σ1 t) g) := by
  have P := R x hf σ1 (m.pre hp hv hx)
  have ht := m.1.t0
  have h := H x hf σ1 (m.pre hp hv hx) (by rw [ht]; exact hs)
  rw [ht] at h
  have m' := m.upt hs.length_le
  have P' := R x hf (Upt σ1 t) (m'.pre (hp.upt hs.length_le) hv hx)
  unfold nAs
  refine h.bd (fun z => ?_) (fun _ z' => ?_)
  · have m2 := m.post hx P z
    show LR t (sTold σ 0).length (match pr (gv (rec x σ1).2 x) with | some a => g a (rec x σ1).2 | none => (1, (rec x σ1).2)) (match pr (gv (Upt (rec x σ1).2 t) x) with | some a => g a (Upt (rec x σ1).2 t) | none => (1, Upt (rec x σ1).2 t))
    have eg : gv (Upt (rec x σ1).2 t) x = gv (rec x σ1).2 x := rfl
    rw [eg]
    cases e : pr (gv (rec x σ1).2 x) with
    | some a => exact k a _ m2 e
    | none => exact LR.same (by decide)
  · have m2 := m'.post hx P' z'
    show sCome (rec x (Upt σ1 t)).2 0 ≤ sCome (match pr (gv (rec x (Upt σ1 t)).2 x) with | some a => g a (rec x (Upt σ1 t)).2 | none => (1, (rec x (Upt σ1 t)).2)).2 0
    cases e : pr (gv (rec x (Upt σ1 t)).2 x) with
    | some a => exact km a _ m2 e
    | none => exact Nat.le_refl _
theorem lr_ans {t : List Bool} {l n : Nat} {σ : St} (o : Option Int64) : LR t l (ansP σ n o) (ansP (Upt σ t) n o) := by
  cases o with
  | some v => exact ⟨fun _ => rfl, (fun q => by cases q)⟩
  | none => exact LR.same (by decide)
theorem mono_ans {n : Nat} {σ : St} (o : Option Int64) : sCome σ 0 ≤ sCome (ansP σ n o).2 0 := by
  cases o <;> exact Nat.le_refl _
theorem getD_pre {s t : List Bool} (h : s <+: t) {j : Nat} (hj : j < s.length) : t.getD j false = s.getD j false := by
  obtain ⟨u, rfl⟩ := h
  exact getD_app_lo hj
theorem lr_cho {T : NT} {rec : Nat → St → Rs} {f n : Nat} {σ : St} {t : List Bool} (H : LRh T rec f t) (R : RH T rec f) (ha : tA T n < n) (hb : tB T n < n) (hnf : n ≤ f) (hp : Pre T n σ) (hlab : sLab σ < 2000) (hv : sVal σ (sLev σ) n = none) (hs : sTold σ 0 <+: t) : LR t (sTold σ 0).length (choP rec T n (wLab σ (sLab σ + 1))) (choP rec T n (Upt (wLab σ (sLab σ + 1)) t)) := by
  have h3l := hp.1.2.2.1 (sLev σ) (Nat.le_refl _)
  have hl := hs.length_le
  have CM := cho_mid hp hlab hv
  unfold choP
  by_cases e2 : sLev σ = 0
  · have e2' : sLev (wLab σ (sLab σ + 1)) = 0 := e2
    have e2'' : sLev (Upt (wLab σ (sLab σ + 1)) t) = 0 := e2
    rw [e2', e2'']
    rw [e2] at h3l CM
    have c1 : sCome (Upt (wLab σ (sLab σ + 1)) t) 0 = sCome σ 0 := rfl
    have c2 : sTold (Upt (wLab σ (sLab σ + 1)) t) 0 = t := Upt_t
    have c3 : sCome (wLab σ (sLab σ + 1)) 0 = sCome σ 0 := rfl
    have c4 : sTold (wLab σ (sLab σ + 1)) 0 = sTold σ 0 := rfl
    rw [c1, c2, c3, c4, if_pos rfl, if_pos rfl]
    -- a decision in the long way
    have long : ∀ x, x < n → sCome σ 0 + 1 ≤ t.length → sCome σ 0 + 1 ≤ sCome (tkP rec n x (wTC (Upt (wLab σ (sLab σ + 1)) t) (sTold (Upt (wLab σ (sLab σ + 1)) t)) (va_up (sCome σ) 0 (sCome σ 0 + 1)))).2 0 := by
      intro x hx hc
      have M := cho_mid (hp.upt hl) hlab hv (sTold (Upt σ t)) (fun _ _ => rfl) (fun _ => rfl) (by show sCome σ (sLev σ) + 1 ≤ (sTold (Upt σ t) (sLev σ)).length; rw [e2, Upt_t]; exact hc)
      have pr := M.pre (hp.upt hl) hv hx
      have e : wTC (wLab (Upt σ t) (sLab (Upt σ t) + 1)) (sTold (Upt σ t)) (va_up (sCome (Upt σ t)) (sLev (Upt σ t)) (sCome (Upt σ t) (sLev (Upt σ t)) + 1)) = wTC (Upt (wLab σ (sLab σ + 1)) t) (sTold (Upt (wLab σ (sLab σ + 1)) t)) (va_up (sCome σ) 0 (sCome σ 0 + 1)) := by
        show wTC _ _ (va_up (sCome σ) (sLev σ) (sCome σ (sLev σ) + 1)) = _
        rw [e2]
        rfl
      rw [e] at pr
      have := mono_tk (n := n) R (by omega) pr
      have ce : sCome (wTC (Upt (wLab σ (sLab σ + 1)) t) (sTold (Upt (wLab σ (sLab σ + 1)) t)) (va_up (sCome σ) 0 (sCome σ 0 + 1))) 0 = sCome σ 0 + 1 := by
        show va_up (sCome σ) 0 (sCome σ 0 + 1) 0 = _
        exact up_eq
      rw [ce] at this
      exact this
    by_cases e : sCome σ 0 = (sTold σ 0).length
    · rw [if_pos e]
      refine ⟨fun q => absurd rfl q, fun _ => ⟨Nat.le_of_eq e.symm, fun hlt => ?_⟩⟩
      rw [if_neg (show ¬ sCome σ 0 = t.length by omega)]
      rw [← e]
      exact long _ (by split <;> assumption) (by omega)
    · rw [if_neg e, if_neg (show ¬ sCome σ 0 = t.length by omega)]
      rw [getD_pre hs (by omega)]
      have M := CM (sTold σ) (fun _ _ => rfl) (fun _ => rfl) (by omega)
      refine lr_tk (σ := σ) (σ1 := wTC (wLab σ (sLab σ + 1)) (sTold σ) (va_up (sCome σ) 0 (sCome σ 0 + 1))) H (by split <;> omega) (M.pre hp hv (by split <;> assumption)) rfl hs
  · have n0 : sLev (wLab σ (sLab σ + 1)) ≠ 0 := e2
    have c2 : sTold (Upt (wLab σ (sLab σ + 1)) t) (sLev (Upt (wLab σ (sLab σ + 1)) t)) = sTold σ (sLev σ) := Upt_n e2
    rw [c2]
    have go : ∀ (u : List Bool) (x : Nat), x < n → sCome σ (sLev σ) + 1 ≤ u.length → LR t (sTold σ 0).length (tkP rec n x (wTC (wLab σ (sLab σ + 1)) (va_up (sTold σ) (sLev σ) u) (va_up (sCome σ) (sLev σ) (sCome σ (sLev σ) + 1)))) (tkP rec n x (wTC (Upt (wLab σ (sLab σ + 1)) t) (va_up (sTold (Upt (wLab σ (sLab σ + 1)) t)) (sLev σ) u) (va_up (sCome σ) (sLev σ) (sCome σ (sLev σ) + 1)))) := by
      intro u x hx hu
      have M := CM (va_up (sTold σ) (sLev σ) u) (fun k hk => up_ne (Nat.ne_of_lt hk)) (fun z => absurd z e2) (by rw [up_eq]; exact hu)
      have h := lr_tk (n := n) (σ := σ) (σ1 := wTC (wLab σ (sLab σ + 1)) (va_up (sTold σ) (sLev σ) u) (va_up (sCome σ) (sLev σ) (sCome σ (sLev σ) + 1))) H (show x < f by omega) (M.pre hp hv hx) (up_ne (Ne.symm e2)) hs
      have eU : Upt (wTC (wLab σ (sLab σ + 1)) (va_up (sTold σ) (sLev σ) u) (va_up (sCome σ) (sLev σ) (sCome σ (sLev σ) + 1))) t = wTC (Upt (wLab σ (sLab σ + 1)) t) (va_up (sTold (Upt (wLab σ (sLab σ + 1)) t)) (sLev σ) u) (va_up (sCome σ) (sLev σ) (sCome σ (sLev σ) + 1)) := by
        show mkS _ _ (va_up (va_up (sTold σ) (sLev σ) u) 0 t) _ _ _ _ _ _ _ _ _ = mkS _ _ (va_up (va_up (sTold σ) 0 t) (sLev σ) u) _ _ _ _ _ _ _ _ _
        rw [up_comm e2]
        rfl
      rw [eU] at h
      exact h
    by_cases e : sCome σ (sLev σ) = (sTold σ (sLev σ)).length
    · rw [if_pos (show sCome (wLab σ (sLab σ + 1)) (sLev (wLab σ (sLab σ + 1))) = (sTold (wLab σ (sLab σ + 1)) (sLev (wLab σ (sLab σ + 1)))).length from e), if_neg n0, if_pos (show sCome (Upt (wLab σ (sLab σ + 1)) t) (sLev (Upt (wLab σ (sLab σ + 1)) t)) = (sTold σ (sLev σ)).length from e), if_neg (show ¬ sLev (Upt (wLab σ (sLab σ + 1)) t) = 0 from e2)]
      exact go (sTold σ (sLev σ) ++ [false]) (tA T n) ha (by rw [List.length_append, e]; exact Nat.le_refl _)
    · rw [if_neg (show ¬ sCome (wLab σ (sLab σ + 1)) (sLev (wLab σ (sLab σ + 1))) = (sTold (wLab σ (sLab σ + 1)) (sLev (wLab σ (sLab σ + 1)))).length from e), if_neg (show ¬ sCome (Upt (wLab σ (sLab σ + 1)) t) (sLev (Upt (wLab σ (sLab σ + 1)) t)) = (sTold σ (sLev σ)).length from e)]
      have := go (sTold σ (sLev σ)) (if (sTold σ (sLev σ)).getD (sCome σ (sLev σ)) false then tB T n else tA T n) (by split <;> assumption) (by omega)
      rw [up_same] at this
      have e3 : va_up (sTold (Upt (wLab σ (sLab σ + 1)) t)) (sLev σ) (sTold σ (sLev σ)) = sTold (Upt (wLab σ (sLab σ + 1)) t) := by
        have : sTold σ (sLev σ) = sTold (Upt (wLab σ (sLab σ + 1)) t) (sLev σ) := (Upt_n e2).symm
        rw [this]
        exact up_same
      rw [e3] at this
      exact this
/-- the ways of a set do not look at the outermost told ones -/
theorem up_ways {T : NT} {tf : St → Rs} {m a : Nat} {σ1 : St} {t : List Bool} (hI : Inv T σ1) (hl : sLev σ1 < 5) (htf : ∀ σ, TPre T σ → TPost T a σ (tf σ)) (hu : ∀ σ, TPre T σ → sLev σ ≠ 0 → sTold σ 0 = sTold σ1 0 → tf (Upt σ t) = ((tf σ).1, Upt (tf σ).2 t)) : ∀ g τ, WI m σ1 τ → waysP tf (sHeap σ1).length g (Upt τ t) = ((waysP tf (sHeap σ1).length g τ).1, Upt (waysP tf (sHeap σ1).length g τ).2 t)
  | 0, τ, w => rfl
  | g + 1, τ, w => by
    have tp := beg_pre hI hl w
    have tq := htf _ tp
    have wb := beg_WI w
    have lb : sLev (begP τ (sHeap σ1).length) = sLev σ1 + 1 := w.1
    have e1 : begP (Upt τ t) (sHeap σ1).length = Upt (begP τ (sHeap σ1).length) t := rfl
    have e2 := hu _ tp (by omega) (wb.2.1 0 (Nat.zero_le _)).2.2.1
    unfold waysP
    rw [e1, e2]
    generalize tf (begP τ (sHeap σ1).length) = r at tq
    obtain ⟨p1, p2, p3, p4, p5, p6, p7⟩ := tq
    have wr := wb.fr p2 p3
    have lr : sLev r.2 = sLev σ1 + 1 := wr.1
    have next : ∀ τ2, WI m σ1 τ2 → nextP (waysP tf (sHeap σ1).length g) (Upt τ2 t) = ((nextP (waysP tf (sHeap σ1).length g) τ2).1, Upt (nextP (waysP tf (sHeap σ1).length g) τ2).2 t) := by
      intro τ2 w2
      have l2 : sLev τ2 = sLev σ1 + 1 := w2.1
      unfold nextP
      have e3 : sTold (Upt τ2 t) (sLev (Upt τ2 t)) = sTold τ2 (sLev τ2) := Upt_n (by show sLev τ2 ≠ 0; omega)
      have e4 : sCome (Upt τ2 t) (sLev (Upt τ2 t)) = sCome τ2 (sLev τ2) := rfl
      rw [e3, e4]
      cases e : nxt (sTold τ2 (sLev τ2)) (sCome τ2 (sLev τ2)) with
      | none => rfl
      | some u =>
        have e5 : wTC (Upt τ2 t) (va_up (sTold (Upt τ2 t)) (sLev (Upt τ2 t)) u) (sCome (Upt τ2 t)) = Upt (wTC τ2 (va_up (sTold τ2) (sLev τ2) u) (sCome τ2)) t := by
          show mkS _ _ (va_up (va_up (sTold τ2) 0 t) (sLev τ2) u) _ _ _ _ _ _ _ _ _ = mkS _ _ (va_up (va_up (sTold τ2) (sLev τ2) u) 0 t) _ _ _ _ _ _ _ _ _
          rw [up_comm (show (0 : Nat) ≠ sLev τ2 by omega)]
          rfl
        show waysP tf (sHeap σ1).length g (wTC (Upt τ2 t) (va_up (sTold (Upt τ2 t)) (sLev (Upt τ2 t)) u) (sCome (Upt τ2 t))) = _
        rw [e5]
        refine up_ways (m := m) hI hl htf hu g _ ?_
        obtain ⟨a1, a2, a3, a4, a5, a6⟩ := w2
        refine ⟨a1, fun k hk => ?_, a3, a4, a5, a6⟩
        obtain ⟨b1, b2, b3, b4, b5, b6, b7⟩ := a2 k hk
        refine ⟨b1, b2, ?_, b4, b5, b6, b7⟩
        show va_up (sTold τ2) (sLev τ2) u k = _
        rw [up_ne (by omega)]
        exact b3
    dsimp only
    by_cases h0 : r.1 = 0
    · rw [if_pos h0, if_pos h0]
      by_cases hb : 1 + (sLst r.2 (sLev r.2)).length + (sFull r.2 (sLev r.2)).length > 100
      · rw [if_pos hb, if_pos (show 1 + (sLst (Upt r.2 t) (sLev (Upt r.2 t))).length + (sFull (Upt r.2 t) (sLev (Upt r.2 t))).length > 100 from hb)]
      · rw [if_neg hb, if_neg (show ¬ 1 + (sLst (Upt r.2 t) (sLev (Upt r.2 t))).length + (sFull (Upt r.2 t) (sLev (Upt r.2 t))).length > 100 from hb)]
        refine next (colP r.2) ?_
        obtain ⟨a1, a2, a3, a4, a5, a6⟩ := wr
        refine ⟨a1, fun k hk => ?_, a3, a4, a5, a6⟩
        obtain ⟨b1, b2, b3, b4, b5, b6, b7⟩ := a2 k hk
        refine ⟨b1, b2, b3, b4, b5, ?_, ?_⟩
        · show va_up (sLst r.2) (sLev r.2) _ k = _
          rw [up_ne (by omega)]; exact b6
        · show va_up (sMany r.2) (sLev r.2) _ k = _
          rw [up_ne (by omega)]; exact b7
    · rw [if_neg h0, if_neg h0]
      by_cases h1 : r.1 = 1
      · rw [if_pos h1, if_pos h1]
        exact next r.2 wr
      · rw [if_neg h1, if_neg h1]
