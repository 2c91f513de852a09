/-! THE BEGINNING: the constructors -/
abbrev FE : Type := Bool × (Nat × Nat)
def arc (q : FE) : AC := if q.1 then la q.2.1 (fun _ => 0) else ia q.2.1 (fun _ => 0)
/-- a row more, and the field that holds it -/
def nxa (o ci N : Nat) (p : AH × (Nat → Value)) (q : FE) : AH × (Nat → Value) := (hs (hw p.1 (arc q) q.2.1) o (ob ci (fo N (va_up p.2 q.2.2 (.ref (p.1.2.1 + 1))))), va_up p.2 q.2.2 (.ref (p.1.2.1 + 1)))
def runa (o ci N : Nat) : List FE → AH × (Nat → Value) → AH × (Nat → Value)
  | [], p => p
  | q :: tb, p => runa o ci N tb (nxa o ci N p q)
def INp (o : Nat) (h h' : AH) (k z : Nat) : Prop := h'.2 = (h.2.1 + k, (h.2.2.1 + k, h.2.2.2 + z)) ∧ ∀ x, x ≤ h.2.1 → x ≠ o → h'.1 x = h.1 x
def sz : List FE → Nat
  | [] => 0
  | q :: tb => q.2.1 + sz tb
theorem runa_p {o ci N : Nat} : ∀ (tb : List FE) (p : AH × (Nat → Value)), p.1.1 o = ob ci (fo N p.2) → o ≤ p.1.2.1 → (tb.map (fun q => q.2.2)).Nodup → INp o p.1 (runa o ci N tb p).1 tb.length (sz tb) ∧ (runa o ci N tb p).1.1 o = ob ci (fo N (runa o ci N tb p).2) ∧ (∀ i q, tb[i]? = some q → (runa o ci N tb p).1.1 (p.1.2.1 + 1 + i) = arc q ∧ (runa o ci N tb p).2 q.2.2 = .ref (p.1.2.1 + 1 + i)) ∧ ∀ j, j ∉ tb.map (fun q => q.2.2) → (runa o ci N tb p).2 j = p.2 j
  | [], p, h1, h2, h3 => ⟨⟨rfl, fun _ _ _ => rfl⟩, h1, (fun i q h => by cases h), fun _ _ => rfl⟩
  | q :: tb, p, h1, h2, h3 => by
    rw [List.map_cons, List.nodup_cons] at h3
    obtain ⟨⟨a1, a2⟩, b, c, d⟩ := runa_p (o := o) (ci := ci) (N := N) tb (nxa o ci N p q) hs_eq (Nat.le_succ_of_le h2) h3.2
    have e2 : (nxa o ci N p q).1.2 = (p.1.2.1 + 1, (p.1.2.2.1 + 1, p.1.2.2.2 + q.2.1)) := rfl
    refine ⟨⟨?_, fun x hx hn => ?_⟩, b, fun i z hz => ?_, fun j hj => ?_⟩
    · show (runa o ci N tb (nxa o ci N p q)).1.2 = _
      rw [a1, e2]
      show (p.1.2.1 + 1 + tb.length, (p.1.2.2.1 + 1 + tb.length, p.1.2.2.2 + q.2.1 + sz tb)) = (p.1.2.1 + (tb.length + 1), (p.1.2.2.1 + (tb.length + 1), p.1.2.2.2 + (q.2.1 + sz tb)))
      rw [show p.1.2.1 + 1 + tb.length = p.1.2.1 + (tb.length + 1) by omega, show p.1.2.2.1 + 1 + tb.length = p.1.2.2.1 + (tb.length + 1) by omega, show p.1.2.2.2 + q.2.1 + sz tb = p.1.2.2.2 + (q.2.1 + sz tb) by omega]
    · exact (a2 x (by rw [e2]; show x ≤ p.1.2.1 + 1; omega) hn).trans ((hs_ne hn).trans (hw_ne hx))
    · cases i with
      | zero =>
        cases hz
        refine ⟨?_, ?_⟩
        · exact (a2 (p.1.2.1 + 1) (Nat.le_refl _) (by omega)).trans ((hs_ne (by omega)).trans hw_eq)
        · exact (d _ h3.1).trans up_eq
      | succ i =>
        obtain ⟨c1, c2⟩ := c i z hz
        rw [e2] at c1 c2
        rw [show p.1.2.1 + 1 + (i + 1) = p.1.2.1 + 1 + 1 + i by omega]
        exact ⟨c1, c2⟩
    · rw [List.map_cons, List.mem_cons] at hj
      exact (d j (fun q => hj (Or.inr q))).trans (up_ne (fun e => hj (Or.inl e)))
def dfl (fs : List Value) (k : Nat) : Value := fs.getD k .null
theorem new_o {h : AH} {ci N z : Nat} {fs : List Value} (e : fo N (dfl fs) = fs) : (hw h (ob ci fs) z).1 (h.2.1 + 1) = ob ci (fo N (dfl fs)) := hw_eq.trans (by rw [e])
def tb4 : List FE := [(false, 16, 1), (true, 16, 2)]
def tb0 : List FE := [(true, 202, 0), (false, 202, 1)]
def tb2 : List FE := [(false, 60, 0), (false, 60, 1), (false, 60, 2), (false, 60, 3), (true, 60, 4)]
def tb5 : List FE := [(false, 60, 3), (true, 60, 4), (false, 60, 5)]
theorem i_tok {h : AH} {o d lim : Nat} {F : Nat → Value} (ho : h.1 o = ob 4 (fo 4 F)) (h0 : 0 < o) (hn : h.2.1 = o) (f3 : F 3 = .int 0) (hl : 16 ≤ lim ∧ lim ≤ 40000) (hd : 1 ≤ d) : ∃ h', CM mX4_init d [.ref o, .int (nI lim)] h none h' ∧ INp o h h' 2 32 ∧ TK h' o (o + 1) (o + 2) lim 16 [] := by
  obtain ⟨⟨a1, a2⟩, b, c, e⟩ := runa_p tb4 (h, F) ho (by show o ≤ h.2.1; omega) (by decide)
  have C : CM mX4_init d [.ref o, .int (nI lim)] h none (hs (runa o 4 4 tb4 (h, F)).1 o (ob 4 (fo 4 (va_up (runa o 4 4 tb4 (h, F)).2 0 (.int (nI lim)))))) := E.st (j_X4_init_z_1 hd h o (nI lim)) (E.st (j_X4_init_e0_1 (Nat.zero_le _) h o (nI lim) F ho (by omega)) (E.st (j_X4_init_e1_1 (Nat.zero_le _) _ o (nI lim) _ hs_eq (by show o ≤ h.2.1 + 1; omega)) (j_X4_init_y_1 (Nat.zero_le _) _ o (nI lim) _ hs_eq)))
  obtain ⟨c1, c2⟩ := c 0 _ rfl
  obtain ⟨c3, c4⟩ := c 1 _ rfl
  have n1 : (h, F).1.2.1 = o := hn
  rw [n1] at c1 c2 c3 c4
  have e2 : (hs (runa o 4 4 tb4 (h, F)).1 o (ob 4 (fo 4 (va_up (runa o 4 4 tb4 (h, F)).2 0 (.int (nI lim)))))).2 = (h.2.1 + 2, (h.2.2.1 + 2, h.2.2.2 + 32)) := a1
  refine ⟨_, C, ⟨a1, fun x hx hne => (hs_ne hne).trans (a2 x hx hne)⟩, ⟨_, fun _ => 0, fun _ => 0, hs_eq, up_eq, (up_ne (by decide)).trans c2, (up_ne (by decide)).trans c4, (up_ne (by decide)).trans ((e 3 (by decide)).trans f3), (hs_ne (by omega)).trans c1, (hs_ne (by omega)).trans c3, (fun i hi => absurd hi (Nat.not_lt_zero _)), Nat.zero_le _, by omega, by omega, by decide, Nat.succ_pos _, ?_, ?_, ?_⟩⟩
  · rw [e2]; show o ≤ h.2.1 + 2; omega
  · rw [e2]; show o + 1 ≤ h.2.1 + 2; omega
  · rw [e2]; show o + 2 ≤ h.2.1 + 2; omega
theorem i_beg {h : AH} {o d : Nat} {F : Nat → Value} (ho : h.1 o = ob 0 (fo 3 F)) (hn : h.2.1 = o) (f2 : F 2 = .int 0) (hd : 1 ≤ d) : ∃ h', CM mX0_init d [.ref o] h none h' ∧ INp o h h' 2 404 ∧ BG h' o [] := by
  obtain ⟨⟨a1, a2⟩, b, c, e⟩ := runa_p tb0 (h, F) ho (by show o ≤ h.2.1; omega) (by decide)
  have C : CM mX0_init d [.ref o] h none (runa o 0 3 tb0 (h, F)).1 := E.st (j_X0_init_z_1 hd h o) (E.st (j_X0_init_e0_1 (Nat.zero_le _) h o F ho (by omega)) (E.st (j_X0_init_e1_1 (Nat.zero_le _) _ o _ hs_eq (by show o ≤ h.2.1 + 1; omega)) (j_X0_init_y_1 (Nat.zero_le _) _ o)))
  obtain ⟨c1, c2⟩ := c 0 _ rfl
  obtain ⟨c3, c4⟩ := c 1 _ rfl
  have n1 : (h, F).1.2.1 = o := hn
  rw [n1] at c1 c2 c3 c4
  exact ⟨_, C, ⟨a1, a2⟩, _, fun _ => 0, fun _ => 0, b, c2, c4, (e 2 (by decide)).trans f2, c1, c3, (fun i hi => absurd hi (Nat.not_lt_zero _)), Nat.zero_le _⟩
theorem i_nodes {h : AH} {o d : Nat} {F : Nat → Value} (ho : h.1 o = ob 2 (fo 6 F)) (hn : h.2.1 = o) (f5 : F 5 = .int 0) (hd : 1 ≤ d) : ∃ h' F', CM mX2_init d [.ref o] h none h' ∧ INp o h h' 5 300 ∧ h'.1 o = ob 2 (fo 6 F') ∧ (F' 0 = .ref (o + 1) ∧ F' 1 = .ref (o + 2) ∧ F' 2 = .ref (o + 3) ∧ F' 3 = .ref (o + 4) ∧ F' 4 = .ref (o + 5) ∧ F' 5 = .int 0) ∧ h'.1 (o + 1) = ia 60 (fun _ => 0) ∧ h'.1 (o + 2) = ia 60 (fun _ => 0) ∧ h'.1 (o + 3) = ia 60 (fun _ => 0) ∧ h'.1 (o + 4) = ia 60 (fun _ => 0) ∧ h'.1 (o + 5) = la 60 (fun _ => 0) := by
  obtain ⟨⟨a1, a2⟩, b, c, e⟩ := runa_p tb2 (h, F) ho (by show o ≤ h.2.1; omega) (by decide)
  have C : CM mX2_init d [.ref o] h none (runa o 2 6 tb2 (h, F)).1 := E.st (j_X2_init_z_1 hd h o) (E.st (j_X2_init_e0_1 (Nat.zero_le _) h o F ho (by omega)) (E.st (j_X2_init_e1_1 (Nat.zero_le _) _ o _ hs_eq (by show o ≤ h.2.1 + 1; omega)) (E.st (j_X2_init_e2_1 (Nat.zero_le _) _ o _ hs_eq (by show o ≤ h.2.1 + 1 + 1; omega)) (E.st (j_X2_init_e3_1 (Nat.zero_le _) _ o _ hs_eq (by show o ≤ h.2.1 + 1 + 1 + 1; omega)) (E.st (j_X2_init_e4_1 (Nat.zero_le _) _ o _ hs_eq (by show o ≤ h.2.1 + 1 + 1 + 1 + 1; omega)) (j_X2_init_y_1 (Nat.zero_le _) _ o))))))
  obtain ⟨c1, c2⟩ := c 0 _ rfl
  obtain ⟨c3, c4⟩ := c 1 _ rfl
  obtain ⟨c5, c6⟩ := c 2 _ rfl
  obtain ⟨c7, c8⟩ := c 3 _ rfl
  obtain ⟨c9, c10⟩ := c 4 _ rfl
  have n1 : (h, F).1.2.1 = o := hn
  rw [n1] at c1 c2 c3 c4 c5 c6 c7 c8 c9 c10
  exact ⟨_, _, C, ⟨a1, a2⟩, b, ⟨c2, c4, c6, c8, c10, (e 5 (by decide)).trans f5⟩, c1, c3, c5, c7, c9⟩
theorem INp.new {h : AH} {c : AC} {z : Nat} : INp (h.2.1 + 1) h (hw h c z) 1 z := ⟨rfl, fun x hx _ => hw_ne hx⟩
theorem TK.hs {h : AH} {o ra rb lim cap : Nat} {ts : List Tok} (t : TK h o ra rb lim cap ts) {x : Nat} {c : AC} (h1 : o ≠ x) (h2 : ra ≠ x) (h3 : rb ≠ x) : TK (hs h x c) o ra rb lim cap ts := TK.fr t (Nat.le_refl _) (hs_ne h1) (hs_ne h2) (hs_ne h3)
theorem i_latest {h : AH} {o d : Nat} {F : Nat → Value} (ho : h.1 o = ob 1 (fo 4 F)) (hn : h.2.1 = o) (f1 : F 1 = .long 0 ∧ F 2 = .int 0 ∧ F 3 = .int 0) (hd : 2 ≤ d) : ∃ h', CM mX1_init d [.ref o] h none h' ∧ INp o h h' 3 36 ∧ (∃ F', h'.1 o = ob 1 (fo 4 F') ∧ F' 0 = .ref (o + 1) ∧ F' 1 = .long 0 ∧ F' 2 = .int 0 ∧ F' 3 = .int 0) ∧ TK h' (o + 1) (o + 2) (o + 3) 100 16 [] := by
  obtain ⟨fA, fB, fC⟩ := f1
  have N := s_new (k := false) (M := mX1_init) (d := d) (ls := [(0, .ref o)]) (st := [.ref o]) (h := h) dX1_init_5 rfl nX1_9
  have e1 := new_o (h := h) (ci := 4) (N := 4) (z := 4) (fs := [.int 0, .null, .null, .int 0]) rfl
  rw [hn] at N e1
  obtain ⟨h2, C, ⟨i1, i2⟩, t⟩ := i_tok (lim := 100) e1 (Nat.succ_pos _) (show h.2.1 + 1 = o + 1 by rw [hn]) rfl (by decide) (d := 1) (Nat.le_refl _)
  have i1 : h2.2 = (h.2.1 + 1 + 2, (h.2.2.1 + 1 + 2, h.2.2.2 + 4 + 32)) := i1
  have o2 : h2.1 o = ob 1 (fo 4 F) := (i2 o (by show o ≤ h.2.1 + 1; omega) (by omega)).trans ((hw_ne (by omega)).trans ho)
  refine ⟨_, E.st (j_X1_init_a_1 (by omega) h o) (E.st N (E.st (j_X1_init_b_1 (Nat.zero_le _) _ o (o + 1)) (E.st (s_invi (K := mX4_init) (o := (o + 1)) (as := [.int 100]) (rest := [.ref (o + 1), .ref o]) (v := none) (d' := 1) dX1_init_11 rfl lX1_11 (by omega) rfl (Nat.le_of_ble_eq_true rfl) rfl (Nat.le_of_ble_eq_true rfl) C (fun h => nomatch h)) (j_X1_init_c_1 (Nat.zero_le _) h2 o (o + 1) F o2)))), ⟨?_, fun x hx hne => (hs_ne hne).trans ((i2 x (by show x ≤ h.2.1 + 1; omega) (by omega)).trans (hw_ne (by omega)))⟩, ⟨_, hs_eq, up_eq, (up_ne (by decide)).trans fA, (up_ne (by decide)).trans fB, (up_ne (by decide)).trans fC⟩, t.hs (by omega) (by omega) (by omega)⟩
  exact i1
/-- a way, as it is made -/
def WP (o : Nat) (ar inn : Value) (h : AH) : Prop := (∃ F, h.1 o = ob 5 (fo 12 F) ∧ F 0 = ar ∧ F 1 = inn ∧ F 2 = .int 0 ∧ F 3 = .ref (o + 1) ∧ F 4 = .ref (o + 2) ∧ F 5 = .ref (o + 3) ∧ F 6 = .long 0 ∧ F 7 = .int 0 ∧ F 8 = .int 0 ∧ F 9 = .ref (o + 4) ∧ F 10 = .int 0 ∧ F 11 = .int 0) ∧ (h.1 (o + 1) = ia 60 (fun _ => 0) ∧ h.1 (o + 2) = la 60 (fun _ => 0) ∧ h.1 (o + 3) = ia 60 (fun _ => 0)) ∧ TK h (o + 4) (o + 5) (o + 6) 200 16 []
theorem WP.fr {o : Nat} {ar inn : Value} {h h' : AH} (w : WP o ar inn h) (hn : h.2.1 ≤ h'.2.1) (e : ∀ x, o ≤ x → x ≤ o + 6 → h'.1 x = h.1 x) : WP o ar inn h' := by
  obtain ⟨⟨F, a, b⟩, ⟨c1, c2, c3⟩, t⟩ := w
  exact ⟨⟨F, (e o (by omega) (by omega)).trans a, b⟩, ⟨(e _ (by omega) (by omega)).trans c1, (e _ (by omega) (by omega)).trans c2, (e _ (by omega) (by omega)).trans c3⟩, t.fr hn (e _ (by omega) (by omega)) (e _ (by omega) (by omega)) (e _ (by omega) (by omega))⟩
theorem i_wayr {h : AH} {o d : Nat} {b : Nat} {F : Nat → Value} (ho : h.1 o = ob 5 (fo 12 F)) (h0 : 0 < o) (hn : h.2.1 = o) (f1 : F 1 = .null ∧ F 2 = .int 0 ∧ F 6 = .long 0 ∧ F 7 = .int 0 ∧ F 8 = .int 0 ∧ F 10 = .int 0 ∧ F 11 = .int 0) (hd : 2 ≤ d) : ∃ h', CM mX5_init d [.ref o, .ref b] h none h' ∧ INp o h h' 6 216 ∧ WP o (.ref b) .null h' := by
  obtain ⟨g1, g2, g6, g7, g8, g10, g11⟩ := f1
  obtain ⟨⟨a1, a2⟩, b', c, e⟩ := runa_p tb5 (h, F) ho (by show o ≤ h.2.1; omega) (by decide)
  have J1 : J false mX5_init d 4 [(0, .ref o), (1, .ref b)] [] h 28 [(0, .ref o), (1, .ref b)] [] (runa o 5 12 tb5 (h, F)).1 := J.tr (j_X5_init_er0_1 (Nat.zero_le _) h o b F ho (by omega)) (J.tr (j_X5_init_er1_1 (Nat.zero_le _) _ o b _ hs_eq (by show o ≤ h.2.1 + 1; omega)) (j_X5_init_er2_1 (Nat.zero_le _) _ o b _ hs_eq (by show o ≤ h.2.1 + 1 + 1; omega)))
  obtain ⟨c1, c2⟩ := c 0 _ rfl
  obtain ⟨c3, c4⟩ := c 1 _ rfl
  obtain ⟨c5, c6⟩ := c 2 _ rfl
  have n1 : (h, F).1.2.1 = o := hn
  rw [n1] at c1 c2 c3 c4 c5 c6
  have q1 := e 1 (by decide)
  have q2 := e 2 (by decide)
  have q6 := e 6 (by decide)
  have q7 := e 7 (by decide)
  have q8 := e 8 (by decide)
  have q10 := e 10 (by decide)
  have q11 := e 11 (by decide)
  have a1 : (runa o 5 12 tb5 (h, F)).1.2 = (h.2.1 + 3, (h.2.2.1 + 3, h.2.2.2 + 180)) := a1
  have a2 : ∀ x, x ≤ h.2.1 → x ≠ o → (runa o 5 12 tb5 (h, F)).1.1 x = h.1 x := a2
  generalize (runa o 5 12 tb5 (h, F)).1 = h1 at *
  generalize (runa o 5 12 tb5 (h, F)).2 = F1 at *
  have m1 : h1.2.1 = o + 3 := by rw [a1]; show h.2.1 + 3 = o + 3; omega
  have N := s_new (k := false) (M := mX5_init) (d := d) (ls := [(0, .ref o), (1, .ref b)]) (st := [.ref o]) (h := h1) dX5_init_29 rfl nX5_22
  have e1 := new_o (h := h1) (ci := 4) (N := 4) (z := 4) (fs := [.int 0, .null, .null, .int 0]) rfl
  rw [m1] at N e1
  obtain ⟨h2, C, ⟨i1, i2⟩, t⟩ := i_tok (lim := 200) e1 (Nat.succ_pos _) (show h1.2.1 + 1 = o + 3 + 1 by rw [m1]) rfl (by decide) (d := 1) (Nat.le_refl _)
  have i1 : h2.2 = (h1.2.1 + 1 + 2, (h1.2.2.1 + 1 + 2, h1.2.2.2 + 4 + 32)) := i1
  have k2 : ∀ x, x ≤ o + 3 → h2.1 x = h1.1 x := fun x hx => (i2 x (by show x ≤ h1.2.1 + 1; omega) (by omega)).trans (hw_ne (by omega))
  have C3 := j_X5_init_cr_1 (d := d) (Nat.zero_le _) h2 o b (o + 3 + 1) F1 ((k2 o (by omega)).trans b')
  rw [hs_hs] at C3
  refine ⟨_, E.st (j_X5_init_zr_1 (by omega) h o b) (E.st J1 (E.st (j_X5_init_ar_1 (Nat.zero_le _) h1 o b) (E.st N (E.st (j_X5_init_br_1 (Nat.zero_le _) _ o b (o + 3 + 1)) (E.st (s_invi (K := mX4_init) (o := (o + 3 + 1)) (as := [.int 200]) (rest := [.ref (o + 3 + 1), .ref o]) (v := none) (d' := 1) dX5_init_36 rfl lX5_24 (by omega) rfl (Nat.le_of_ble_eq_true rfl) rfl (Nat.le_of_ble_eq_true rfl) C (fun h => nomatch h)) C3))))), ⟨?_, fun x hx hne => (hs_ne hne).trans ((k2 x (by omega)).trans (a2 x hx hne))⟩, ⟨_, hs_eq, up_eq, (up_ne (by decide)).trans ((up_ne (by decide)).trans (q1.trans g1)), (up_ne (by decide)).trans ((up_ne (by decide)).trans (q2.trans g2)), (up_ne (by decide)).trans ((up_ne (by decide)).trans c2), (up_ne (by decide)).trans ((up_ne (by decide)).trans c4), (up_ne (by decide)).trans ((up_ne (by decide)).trans c6), (up_ne (by decide)).trans ((up_ne (by decide)).trans (q6.trans g6)), (up_ne (by decide)).trans ((up_ne (by decide)).trans (q7.trans g7)), (up_ne (by decide)).trans ((up_ne (by decide)).trans (q8.trans g8)), (up_ne (by decide)).trans up_eq, (up_ne (by decide)).trans ((up_ne (by decide)).trans (q10.trans g10)), (up_ne (by decide)).trans ((up_ne (by decide)).trans (q11.trans g11))⟩, ⟨(hs_ne (by omega)).trans ((k2 _ (by omega)).trans c1), (hs_ne (by omega)).trans ((k2 _ (by omega)).trans c3), (hs_ne (by omega)).trans ((k2 _ (by omega)).trans c5)⟩, t.hs (by omega) (by omega) (by omega)⟩
  show h2.2 = _
  rw [i1, a1]
theorem i_wayn {h : AH} {o d : Nat} {F : Nat → Value} (ho : h.1 o = ob 5 (fo 12 F)) (h0 : 0 < o) (hn : h.2.1 = o) (f1 : F 1 = .null ∧ F 2 = .int 0 ∧ F 6 = .long 0 ∧ F 7 = .int 0 ∧ F 8 = .int 0 ∧ F 10 = .int 0 ∧ F 11 = .int 0) (hd : 2 ≤ d) : ∃ h', CM mX5_init d [.ref o, .null] h none h' ∧ INp o h h' 6 216 ∧ WP o (.null) .null h' := by
  obtain ⟨g1, g2, g6, g7, g8, g10, g11⟩ := f1
  obtain ⟨⟨a1, a2⟩, b', c, e⟩ := runa_p tb5 (h, F) ho (by show o ≤ h.2.1; omega) (by decide)
  have J1 : J false mX5_init d 4 [(0, .ref o), (1, .null)] [] h 28 [(0, .ref o), (1, .null)] [] (runa o 5 12 tb5 (h, F)).1 := J.tr (j_X5_init_en0_1 (Nat.zero_le _) h o F ho (by omega)) (J.tr (j_X5_init_en1_1 (Nat.zero_le _) _ o _ hs_eq (by show o ≤ h.2.1 + 1; omega)) (j_X5_init_en2_1 (Nat.zero_le _) _ o _ hs_eq (by show o ≤ h.2.1 + 1 + 1; omega)))
  obtain ⟨c1, c2⟩ := c 0 _ rfl
  obtain ⟨c3, c4⟩ := c 1 _ rfl
  obtain ⟨c5, c6⟩ := c 2 _ rfl
  have n1 : (h, F).1.2.1 = o := hn
  rw [n1] at c1 c2 c3 c4 c5 c6
  have q1 := e 1 (by decide)
  have q2 := e 2 (by decide)
  have q6 := e 6 (by decide)
  have q7 := e 7 (by decide)
  have q8 := e 8 (by decide)
  have q10 := e 10 (by decide)
  have q11 := e 11 (by decide)
  have a1 : (runa o 5 12 tb5 (h, F)).1.2 = (h.2.1 + 3, (h.2.2.1 + 3, h.2.2.2 + 180)) := a1
  have a2 : ∀ x, x ≤ h.2.1 → x ≠ o → (runa o 5 12 tb5 (h, F)).1.1 x = h.1 x := a2
  generalize (runa o 5 12 tb5 (h, F)).1 = h1 at *
  generalize (runa o 5 12 tb5 (h, F)).2 = F1 at *
  have m1 : h1.2.1 = o + 3 := by rw [a1]; show h.2.1 + 3 = o + 3; omega
  have N := s_new (k := false) (M := mX5_init) (d := d) (ls := [(0, .ref o), (1, .null)]) (st := [.ref o]) (h := h1) dX5_init_29 rfl nX5_22
  have e1 := new_o (h := h1) (ci := 4) (N := 4) (z := 4) (fs := [.int 0, .null, .null, .int 0]) rfl
  rw [m1] at N e1
  obtain ⟨h2, C, ⟨i1, i2⟩, t⟩ := i_tok (lim := 200) e1 (Nat.succ_pos _) (show h1.2.1 + 1 = o + 3 + 1 by rw [m1]) rfl (by decide) (d := 1) (Nat.le_refl _)
  have i1 : h2.2 = (h1.2.1 + 1 + 2, (h1.2.2.1 + 1 + 2, h1.2.2.2 + 4 + 32)) := i1
  have k2 : ∀ x, x ≤ o + 3 → h2.1 x = h1.1 x := fun x hx => (i2 x (by show x ≤ h1.2.1 + 1; omega) (by omega)).trans (hw_ne (by omega))
  have C3 := j_X5_init_cn_1 (d := d) (Nat.zero_le _) h2 o (o + 3 + 1) F1 ((k2 o (by omega)).trans b')
  rw [hs_hs] at C3
  refine ⟨_, E.st (j_X5_init_zn_1 (by omega) h o) (E.st J1 (E.st (j_X5_init_an_1 (Nat.zero_le _) h1 o) (E.st N (E.st (j_X5_init_bn_1 (Nat.zero_le _) _ o (o + 3 + 1)) (E.st (s_invi (K := mX4_init) (o := (o + 3 + 1)) (as := [.int 200]) (rest := [.ref (o + 3 + 1), .ref o]) (v := none) (d' := 1) dX5_init_36 rfl lX5_24 (by omega) rfl (Nat.le_of_ble_eq_true rfl) rfl (Nat.le_of_ble_eq_true rfl) C (fun h => nomatch h)) C3))))), ⟨?_, fun x hx hne => (hs_ne hne).trans ((k2 x (by omega)).trans (a2 x hx hne))⟩, ⟨_, hs_eq, up_eq, (up_ne (by decide)).trans ((up_ne (by decide)).trans (q1.trans g1)), (up_ne (by decide)).trans ((up_ne (by decide)).trans (q2.trans g2)), (up_ne (by decide)).trans ((up_ne (by decide)).trans c2), (up_ne (by decide)).trans ((up_ne (by decide)).trans c4), (up_ne (by decide)).trans ((up_ne (by decide)).trans c6), (up_ne (by decide)).trans ((up_ne (by decide)).trans (q6.trans g6)), (up_ne (by decide)).trans ((up_ne (by decide)).trans (q7.trans g7)), (up_ne (by decide)).trans ((up_ne (by decide)).trans (q8.trans g8)), (up_ne (by decide)).trans up_eq, (up_ne (by decide)).trans ((up_ne (by decide)).trans (q10.trans g10)), (up_ne (by decide)).trans ((up_ne (by decide)).trans (q11.trans g11))⟩, ⟨(hs_ne (by omega)).trans ((k2 _ (by omega)).trans c1), (hs_ne (by omega)).trans ((k2 _ (by omega)).trans c3), (hs_ne (by omega)).trans ((k2 _ (by omega)).trans c5)⟩, t.hs (by omega) (by omega) (by omega)⟩
  show h2.2 = _
  rw [i1, a1]
def nid (k : Nat) : Nat := if k = 0 then 29 else wid k + 6
theorem nid_s (k : Nat) : wid (k + 1) = nid k + 1 := by
  unfold nid wid
  split <;> split <;> omega
theorem nid_b (k : Nat) : wid k + 6 ≤ nid k ∧ 29 ≤ nid k := by
  unfold nid wid
  split <;> (try split) <;> omega
def arK (k : Nat) : Value := if k = 0 then .null else .ref (wid (k - 1))
/-- ways up to k are made -/
def NS (k : Nat) (h : AH) : Prop := h.2.1 = nid k ∧ (∀ j, j < k → WP (wid j) (arK j) (.ref (wid (j + 1))) h) ∧ WP (wid k) (arK k) .null h
theorem wid_lt {j k : Nat} (h : j < k) : wid j + 7 ≤ wid k := by
  unfold wid
  split <;> split <;> omega
theorem wid_27 (k : Nat) : wid k + 7 ≤ 27 ∨ 29 < wid k := by
  unfold wid
  split <;> omega
theorem i_nest {d : Nat} (hd : 3 ≤ d) : ∀ (m k : Nat) (h : AH), k + m = 5 → NS k h → ∃ h', E false mX5_nest d 4 [(0, .ref 20), (1, .int 5), (2, .ref (wid k)), (3, .int (nI k))] [] h none h' ∧ NS 5 h' ∧ (∀ x, x < 20 ∨ (27 ≤ x ∧ x ≤ 29) → h'.1 x = h.1 x) ∧ h'.2.2 = (h.2.2.1 + 7 * m, h.2.2.2 + 228 * m) := by
  intro m
  induction m with
  | zero =>
    intro k h hk s
    have : k = 5 := by omega
    subst this
    exact ⟨h, j_X5_nest_b_1 (Nat.zero_le _) h 20 5 (wid 5) (nI 5) (by decide), s, fun _ _ => rfl, rfl⟩
  | succ m ih =>
    intro k h hk s
    obtain ⟨n1, w1, w2⟩ := s
    have nb := nid_b k
    have ns := nid_s k
    have k5 : k < 5 := by omega
    have N := s_new (k := false) (M := mX5_nest) (d := d) (ls := [(0, .ref 20), (1, .int 5), (2, .ref (wid k)), (3, .int (nI k))]) (st := [.ref (wid k)]) (h := h) dX5_nest_10 rfl nX5_10
    have e1 := new_o (h := h) (ci := 5) (N := 12) (z := 12) (fs := [.null, .null, .int 0, .null, .null, .null, .long 0, .int 0, .int 0, .null, .int 0, .int 0]) rfl
    rw [n1, ← ns] at N e1
    obtain ⟨h2, C, ⟨i1, i2⟩, wp⟩ := i_wayr (b := wid k) e1 (by omega) (show h.2.1 + 1 = wid (k + 1) by rw [n1, ns]) ⟨rfl, rfl, rfl, rfl, rfl, rfl, rfl⟩ (d := 2) (Nat.le_refl _)
    have i1 : h2.2 = (h.2.1 + 1 + 6, (h.2.2.1 + 1 + 6, h.2.2.2 + 12 + 216)) := i1
    have k2 : ∀ x, x ≤ nid k → h2.1 x = h.1 x := fun x hx => (i2 x (by show x ≤ h.2.1 + 1; omega) (by omega)).trans (hw_ne (by omega))
    obtain ⟨⟨F, fa, f0, f1, fr⟩, ar, tk⟩ := id w2
    have Ee := j_X5_nest_e_1 (d := d) (Nat.zero_le _) h2 20 5 (wid k) (nI k) (wid (k + 1)) F ((k2 _ (by omega)).trans fa)
    rw [nI_1] at Ee
    have wl := wid_lt (Nat.lt_succ_self k)
    have h3n : (hs h2 (wid k) (ob 5 (fo 12 (va_up F 1 (.ref (wid (k + 1))))))).2.1 = nid (k + 1) := by
      show h2.2.1 = _
      rw [i1]
      show h.2.1 + 1 + 6 = _
      rw [n1]
      show nid k + 1 + 6 = if k + 1 = 0 then 29 else wid (k + 1) + 6
      rw [if_neg (by omega), ns]
    have mono : h.2.1 ≤ (hs h2 (wid k) (ob 5 (fo 12 (va_up F 1 (.ref (wid (k + 1))))))).2.1 := by
      rw [h3n, n1]
      show nid k ≤ if k + 1 = 0 then 29 else wid (k + 1) + 6
      rw [if_neg (by omega), ns]
      omega
    have S3 : NS (k + 1) (hs h2 (wid k) (ob 5 (fo 12 (va_up F 1 (.ref (wid (k + 1))))))) := by
      refine ⟨h3n, fun j hj => ?_, ?_⟩
      · by_cases e : j = k
        · subst e
          obtain ⟨g2, g3, g4, g5, g6, g7, g8, g9, g10, g11⟩ := fr
          refine ⟨⟨_, hs_eq, (up_ne (by decide)).trans f0, up_eq, (up_ne (by decide)).trans g2, (up_ne (by decide)).trans g3, (up_ne (by decide)).trans g4, (up_ne (by decide)).trans g5, (up_ne (by decide)).trans g6, (up_ne (by decide)).trans g7, (up_ne (by decide)).trans g8, (up_ne (by decide)).trans g9, (up_ne (by decide)).trans g10, (up_ne (by decide)).trans g11⟩, ⟨(hs_ne (by omega)).trans ((k2 _ (by omega)).trans ar.1), (hs_ne (by omega)).trans ((k2 _ (by omega)).trans ar.2.1), (hs_ne (by omega)).trans ((k2 _ (by omega)).trans ar.2.2)⟩, tk.fr mono ((hs_ne (by omega)).trans (k2 _ (by omega))) ((hs_ne (by omega)).trans (k2 _ (by omega))) ((hs_ne (by omega)).trans (k2 _ (by omega)))⟩
        · have wj := wid_lt (show j < k by omega)
          exact (w1 j (by omega)).fr mono (fun x h1 h2' => (hs_ne (by omega)).trans (k2 x (by omega)))
      · have : arK (k + 1) = .ref (wid k) := by unfold arK; rw [if_neg (by omega), Nat.add_sub_cancel]
        rw [this]
        exact wp.fr (Nat.le_refl _) (fun x h1 h2' => hs_ne (by omega))
    obtain ⟨h', E1, s5, fr5, c5⟩ := ih (k + 1) _ (by omega) S3
    have w27 := wid_27 k
    have w20 : 20 ≤ wid k := by unfold wid; split <;> omega
    refine ⟨h', E.st (j_X5_nest_b_2 (Nat.zero_le _) h 20 5 (wid k) (nI k) (nI_ge (b := 5) (by omega) (by decide))) (E.st N (E.st (j_X5_nest_c_1 (Nat.zero_le _) _ 20 5 (wid k) (nI k) (wid (k + 1))) (E.st (s_invi (K := mX5_init) (o := (wid (k + 1))) (as := [.ref (wid k)]) (rest := [.ref (wid (k + 1)), .ref (wid k)]) (v := none) (d' := 2) dX5_nest_15 rfl lX5_38 (by omega) rfl (Nat.le_of_ble_eq_true rfl) rfl (Nat.le_of_ble_eq_true rfl) C (fun h => nomatch h)) (E.st Ee E1)))), s5, fun x hx => (fr5 x hx).trans ((hs_ne (by omega)).trans (k2 x (by omega))), ?_⟩
    rw [c5]
    show (h2.2.2.1 + 7 * m, h2.2.2.2 + 228 * m) = _
    rw [i1]
    show (h.2.2.1 + 1 + 6 + 7 * m, h.2.2.2 + 12 + 216 + 228 * m) = (h.2.2.1 + 7 * (m + 1), h.2.2.2 + 228 * (m + 1))
    rw [show h.2.2.1 + 1 + 6 + 7 * m = h.2.2.1 + 7 * (m + 1) by omega, show h.2.2.2 + 12 + 216 + 228 * m = h.2.2.2 + 228 * (m + 1) by omega]
