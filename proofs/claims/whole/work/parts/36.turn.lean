theorem wb_tb (n : Nat) : (lN n).toBitVec = BitVec.ofNat 64 n := rfl
theorem wb_inj {a b : Int64} (h : a.toBitVec = b.toBitVec) : a = b := Int64.toBitVec_inj.mp h
theorem wb_tn {n : Nat} (h : n < 2 ^ 64) : (lN n).toBitVec.toNat = n := by rw [wb_tb, BitVec.toNat_ofNat, Nat.mod_eq_of_lt h]
theorem wb_of (x : Int64) : ∃ n, n < 2 ^ 64 ∧ x = lN n := ⟨x.toBitVec.toNat, x.toBitVec.isLt, wb_inj (by rw [wb_tb]; simp)⟩
theorem wb_of32 (x : Int32) : ∃ n, n < 2 ^ 32 ∧ x = nI n := ⟨x.toBitVec.toNat, x.toBitVec.isLt, Int32.toBitVec_inj.mp (by show _ = BitVec.ofNat 32 _; simp)⟩
theorem wb_c : ∀ k, k < 64 → ((nI k).toInt64 &&& 63) = lN k := by decide +kernel
theorem wb_cu : ∀ k, k < 64 → ((nI k).toInt64.toUInt64 &&& Int64.toUInt64 63) = UInt64.ofNat k := by decide +kernel
theorem wb_sm : ∀ k, k < 64 → (BitVec.ofNat 64 k).smod 64 = BitVec.ofNat 64 k := by decide +kernel
theorem wb_pw {a b : Nat} (h : a ≤ b) : 2 ^ b = 2 ^ a * 2 ^ (b - a) := by rw [← Nat.pow_add]; congr 1; omega
theorem wb_lt2 {a b : Nat} (h : a < b) : 2 ^ a < 2 ^ b := Nat.pow_lt_pow_right (by decide) h
theorem wb_mod (n : Nat) : lN n = lN (n % 2 ^ 64) := wb_inj (by rw [wb_tb, wb_tb]; apply BitVec.eq_of_toNat_eq; rw [BitVec.toNat_ofNat, BitVec.toNat_ofNat, Nat.mod_mod])
theorem wb_shr {n k : Nat} (hn : n < 2 ^ 64) (hk : k < 64) : ((lN n).toUInt64 >>> ((nI k).toInt64.toUInt64 &&& Int64.toUInt64 63)).toInt64 = lN (n / 2 ^ k) := by
  rw [wb_cu k hk]
  apply wb_inj
  apply BitVec.eq_of_toNat_eq
  show ((lN n).toUInt64 >>> UInt64.ofNat k).toNat = (BitVec.ofNat 64 _).toNat
  have h1 : (UInt64.ofNat k).toNat = k := by
    show (BitVec.ofNat 64 k).toNat = k
    rw [BitVec.toNat_ofNat, Nat.mod_eq_of_lt (by omega)]
  have h2 : (lN n).toUInt64.toNat = n := wb_tn hn
  rw [UInt64.toNat_shiftRight, h1, h2, Nat.mod_eq_of_lt hk, Nat.shiftRight_eq_div_pow, BitVec.toNat_ofNat, Nat.mod_eq_of_lt (Nat.lt_of_le_of_lt (Nat.div_le_self _ _) hn)]
theorem wb_shl (n : Nat) {k : Nat} (hk : k < 64) : lN n <<< ((nI k).toInt64 &&& 63) = lN (n * 2 ^ k) := by
  rw [wb_c k hk]
  apply wb_inj
  rw [Int64.toBitVec_shiftLeft, wb_tb, wb_tb, wb_tb, wb_sm k hk]
  apply BitVec.eq_of_toNat_eq
  rw [BitVec.shiftLeft_eq', BitVec.toNat_shiftLeft, BitVec.toNat_ofNat, BitVec.toNat_ofNat, BitVec.toNat_ofNat, Nat.mod_eq_of_lt (show k < 2 ^ 64 by omega), Nat.shiftLeft_eq, Nat.mul_mod, Nat.mod_mod, ← Nat.mul_mod]
theorem wb_and {a b : Nat} (ha : a < 2 ^ 64) (hb : b < 2 ^ 64) : lN a &&& lN b = lN (a &&& b) := by
  apply wb_inj
  rw [Int64.toBitVec_and, wb_tb, wb_tb, wb_tb]
  apply BitVec.eq_of_toNat_eq
  rw [BitVec.toNat_and, BitVec.toNat_ofNat, BitVec.toNat_ofNat, BitVec.toNat_ofNat, Nat.mod_eq_of_lt ha, Nat.mod_eq_of_lt hb, Nat.mod_eq_of_lt (Nat.and_lt_two_pow _ hb)]
theorem wb_or {a b : Nat} (ha : a < 2 ^ 64) (hb : b < 2 ^ 64) : lN a ||| lN b = lN (a ||| b) := by
  apply wb_inj
  rw [Int64.toBitVec_or, wb_tb, wb_tb, wb_tb]
  apply BitVec.eq_of_toNat_eq
  rw [BitVec.toNat_or, BitVec.toNat_ofNat, BitVec.toNat_ofNat, BitVec.toNat_ofNat, Nat.mod_eq_of_lt ha, Nat.mod_eq_of_lt hb, Nat.mod_eq_of_lt (Nat.or_lt_two_pow ha hb)]
theorem wb_mask {n k : Nat} (hn : n < 2 ^ 64) (hk : k < 64) : lN n &&& lN (2 ^ k - 1) = lN (n % 2 ^ k) := by
  rw [wb_and hn (by have := wb_lt2 hk; omega), Nat.and_two_pow_sub_one_eq_mod]
theorem wb_a1 {n : Nat} (hn : n < 2 ^ 64) : lN n &&& 1 = lN (n % 2) := wb_mask (k := 1) hn (by decide)
theorem wb_bit {n k : Nat} (hn : n < 2 ^ 64) (hk : k < 64) : ((lN n).toUInt64 >>> ((nI k).toInt64.toUInt64 &&& Int64.toUInt64 63)).toInt64 &&& 1 = lN (n / 2 ^ k % 2) := by
  rw [wb_shr hn hk, wb_a1 (Nat.lt_of_le_of_lt (Nat.div_le_self _ _) hn)]
theorem u_tn {n : Nat} (h : n < 2 ^ 64) : (UInt64.ofNat n).toNat = n := Nat.mod_eq_of_lt h
theorem g_or {k p a b : Nat} (hp : 2 ^ k = p) (ha : a < p) (h : b * p + a < 2 ^ 64) : lN (b * p) ||| lN a = lN (b * p + a) := by
  subst hp
  have h1 : b * 2 ^ k ||| a = b * 2 ^ k + a := by rw [← Nat.shiftLeft_eq, Nat.shiftLeft_add_eq_or_of_lt ha]
  have h3 : UInt64.ofNat (b * 2 ^ k) ||| UInt64.ofNat a = UInt64.ofNat (b * 2 ^ k + a) := UInt64.toNat_inj.mp (by rw [UInt64.toNat_or, u_tn (by omega), u_tn (by omega), u_tn h, h1])
  have h2 := congrArg UInt64.toInt64 h3
  exact h2
theorem g_or' {k p a b : Nat} (hp : 2 ^ k = p) (ha : a < p) (h : a + b * p < 2 ^ 64) : lN a ||| lN (b * p) = lN (a + b * p) := by
  rw [Int64.or_comm, g_or hp ha (by omega), Nat.add_comm]
/-! rows of alternatives as numbers; the next way -/
theorem bv_app : ∀ l m : List Bool, bv (l ++ m) = bv l + 2 ^ l.length * bv m
  | [], m => by simp [bv]
  | b :: r, m => by
    simp only [List.cons_append, bv, bv_app r m, List.length_cons, Nat.pow_succ]
    rw [Nat.mul_add, Nat.mul_comm (2 ^ r.length) 2, Nat.mul_assoc, Nat.add_assoc]
theorem bv_take : ∀ (l : List Bool) (k : Nat), bv (l.take k) = bv l % 2 ^ k
  | [], k => by simp [bv]
  | b :: r, 0 => by simp [bv, Nat.mod_one]
  | b :: r, k + 1 => by
    simp only [List.take_succ_cons, bv, bv_take r k]
    rw [Nat.pow_succ, Nat.mul_comm (2 ^ k) 2, Nat.mod_mul]
    have e1 : ((if b = true then 1 else 0) + 2 * bv r) / 2 = bv r := by split <;> omega
    have e2 : ((if b = true then 1 else 0) + 2 * bv r) % 2 = if b = true then 1 else 0 := by split <;> omega
    rw [e1, e2]
theorem nxt_0 (told : List Bool) : nxt told 0 = none := by simp [nxt, nxtR]
theorem nxt_s {told : List Bool} {c : Nat} (h : c < told.length) : nxt told (c + 1) = if told.getD c false then nxt told c else some (told.take c ++ [true]) := by
  have e : told.take (c + 1) = told.take c ++ [told.getD c false] := by
    rw [List.take_add_one, List.getD_eq_getElem?_getD, List.getElem?_eq_getElem h]
    rfl
  unfold nxt
  rw [e, List.reverse_append]
  cases told.getD c false with
  | true => rfl
  | false =>
    show Option.map List.reverse (some (true :: (List.take c told).reverse)) = _
    simp
theorem bv_nxt {told : List Bool} {c : Nat} (h : c ≤ told.length) : bv (told.take c ++ [true]) = bv told % 2 ^ c + 1 * 2 ^ c := by
  rw [bv_app, bv_take, List.length_take, Nat.min_eq_left h]
  simp [bv]
theorem and_bit {b k : Nat} (hb : b < 2 ^ 60) (hk : k < 60) : (lN b &&& lN (2 ^ k)) = 0 ↔ b / 2 ^ k % 2 = 0 := by
  have p := wb_lt2 (show k < 64 by omega)
  have h64 : b < 2 ^ 64 := by omega
  rw [wb_and h64 p]
  have le : b &&& 2 ^ k < 2 ^ 64 := Nat.and_lt_two_pow _ p
  have z : lN (b &&& 2 ^ k) = 0 ↔ b &&& 2 ^ k = 0 := by
    constructor
    · intro q
      have := congrArg (fun x : Int64 => x.toBitVec.toNat) q
      have t := wb_tn le
      rw [t] at this
      exact this
    · intro q; rw [q]; rfl
  rw [z]
  have tb : b / 2 ^ k % 2 = 0 ↔ b.testBit k = false := by
    rw [Nat.testBit_eq_decide_div_mod_eq]
    rcases Nat.mod_two_eq_zero_or_one (b / 2 ^ k) with e | e <;> simp [e]
  rw [tb]
  constructor
  · intro q
    have := congrArg (fun x => Nat.testBit x k) q
    simpa [Nat.testBit_and, Nat.testBit_two_pow_self] using this
  · intro q
    apply Nat.eq_of_testBit_eq
    intro i
    rw [Nat.testBit_and, Nat.testBit_two_pow, Nat.zero_testBit]
    by_cases e : k = i
    · subst e; simp [q]
    · simp [e]
theorem one_shl {k : Nat} (hk : k < 60) : ((1 : Int64) <<< ((nI k : Int32).toInt64 &&& 63)) = lN (2 ^ k) := by
  have := wb_shl 1 (k := k) (by omega)
  rw [Nat.one_mul] at this
  exact this
theorem clr_set {b k : Nat} (hb : b < 2 ^ 60) (hk : k < 60) : (lN b &&& (lN (2 ^ k) - 1)) ||| lN (2 ^ k) = lN (b % 2 ^ k + 1 * 2 ^ k) := by
  have p := Nat.two_pow_pos k
  have p2 := wb_lt2 (show k < 60 by omega)
  have e : lN (2 ^ k) - 1 = lN (2 ^ k - 1) := lN_sub (b := 1) p
  rw [e, wb_mask (by omega) (by omega)]
  have m : b % 2 ^ k < 2 ^ k := Nat.mod_lt _ p
  have g := g_or (k := k) (b := 1) (p := 2 ^ k) rfl m (by omega)
  rw [Nat.one_mul] at g ⊢
  rw [Int64.or_comm, g, Nat.add_comm]
theorem i_pm (x : Int32) : x + (-1) = x - 1 := by rw [Int32.sub_eq_add_neg]
theorem c_turn_no {T : NT} {σ : St} {κ : KP} {w : WR} {l : Nat} {h : AH} {fi de mo vs li : Nat} {told : List Bool} {v : Nat → Option Vl} {ts : List Tok} (r : RCo T σ κ w l h) (hl : l < 6) (q : RWr κ l fi (bv told) de mo vs li v ts h) {d : Nat} (hde : de ≤ told.length) (h60 : de ≤ 60) (hb : bv told < 2 ^ 60) (hn : nxt told de = none) : CM mX5_turn d [.ref (wid l)] h (some (.int 0)) h := by
  obtain ⟨⟨F, a, f0, f1, f2, f3, f4, f5, f6, f7, f8, f9, f10, f11⟩, -⟩ := id q
  refine E.st (j_X5_turn_a_1 (Nat.zero_le _) h (wid l) F a _ f7) ?_
  suffices H : ∀ k, k ≤ de → nxt told k = none → E false mX5_turn d 7 [(0, .ref (wid l)), (1, .int (nI k - 1))] [] h (some (.int 0)) h from H de (Nat.le_refl _) hn
  intro k
  induction k with
  | zero => intro _ _; exact j_X5_turn_b_1 (Nat.zero_le _) h (wid l) _ (by decide)
  | succ k ih =>
    intro hk hz
    rw [nI_pred]
    rw [nxt_s (by omega)] at hz
    by_cases c : told.getD k false = true
    · rw [if_pos c] at hz
      have := j_X5_turn_b_2 (d := d) (Nat.zero_le _) h (wid l) (nI k) (nI_pos (by omega)) _ (one_shl (by omega)) F a _ f6 (fun z => by
        have z := (and_bit hb (by omega)).mp z
        rw [bv_bit, if_pos c] at z
        omega)
      rw [i_pm] at this
      exact E.st this (ih (by omega) hz)
    · rw [if_neg c] at hz
      cases hz
theorem c_turn_yes {T : NT} {σ : St} {κ : KP} {w : WR} {l : Nat} {h : AH} {fi de mo vs li : Nat} {told t : List Bool} {v : Nat → Option Vl} {ts : List Tok} (r : RCo T σ κ w l h) (hl : l < 6) (q : RWr κ l fi (bv told) de mo vs li v ts h) {d : Nat} (hd : 2 ≤ d) (hde : de ≤ told.length) (h60 : de ≤ 60) (hb : bv told < 2 ^ 60) (hn : nxt told de = some t) : ∃ h', CM mX5_turn d [.ref (wid l)] h (some (.int 1)) h' ∧ RCo T σ κ w l h' ∧ RWr κ l fi (bv t) 0 mo ts.length li (fun _ => none) ts h' ∧ CF h κ h' κ ∧ bv t < 2 ^ 60 := by
  obtain ⟨⟨F, a, f0, f1, f2, f3, f4, f5, f6, f7, f8, f9, f10, f11⟩, -⟩ := id q
  suffices H : ∀ k, k ≤ de → nxt told k = some t → ∃ h', E false mX5_turn d 7 [(0, .ref (wid l)), (1, .int (nI k - 1))] [] h (some (.int 1)) h' ∧ RCo T σ κ w l h' ∧ RWr κ l fi (bv t) 0 mo ts.length li (fun _ => none) ts h' ∧ CF h κ h' κ ∧ bv t < 2 ^ 60 by
    obtain ⟨h', x1, x2⟩ := H de (Nat.le_refl _) hn
    exact ⟨h', E.st (j_X5_turn_a_1 (Nat.zero_le _) h (wid l) F a _ f7) x1, x2⟩
  intro k
  induction k with
  | zero => intro _ z; rw [nxt_0] at z; cases z
  | succ k ih =>
    intro hk hz
    rw [nI_pred]
    rw [nxt_s (by omega)] at hz
    by_cases c : told.getD k false = true
    · rw [if_pos c] at hz
      have := j_X5_turn_b_2 (d := d) (Nat.zero_le _) h (wid l) (nI k) (nI_pos (by omega)) _ (one_shl (by omega)) F a _ f6 (fun z => by
        have z := (and_bit hb (by omega)).mp z
        rw [bv_bit, if_pos c] at z
        omega)
      rw [i_pm] at this
      obtain ⟨h', x1, x2⟩ := ih (by omega) hz
      exact ⟨h', E.st this x1, x2⟩
    · rw [if_neg c] at hz
      cases hz
      have A := j_X5_turn_b_3 (d := d) (Nat.zero_le _) h (wid l) (nI k) (nI_pos (by omega)) _ (one_shl (by omega)) F a _ f6 ((and_bit hb (by omega)).mpr (by rw [bv_bit, if_neg c]))
      rw [clr_set hb (by omega), ← bv_nxt (by omega)] at A
      obtain ⟨r1, q1, k1⟩ := RWr.obj (c := ob 5 (fo 12 (va_up F 6 (.long (lN (bv (told.take k ++ [true]))))))) r hl q (tb' := bv (told.take k ++ [true])) ⟨_, hs_eq, (up_ne (by decide)).trans (f0), (up_ne (by decide)).trans (f1), (up_ne (by decide)).trans (f2), (up_ne (by decide)).trans (f3), (up_ne (by decide)).trans (f4), (up_ne (by decide)).trans (f5), up_eq, (up_ne (by decide)).trans (f7), (up_ne (by decide)).trans (f8), (up_ne (by decide)).trans (f9), (up_ne (by decide)).trans (f10), (up_ne (by decide)).trans (f11)⟩
      obtain ⟨F1, o1, -⟩ := id q1.1
      obtain ⟨h2, c2, r2, q2, k2⟩ := c_begin r1 hl q1 (d := 1) (by omega)
      refine ⟨h2, E.st A (E.st (s_invv dX5_turn_41 rfl lX5_61 (by omega) rfl (Nat.le_of_ble_eq_true rfl) rfl (Nat.le_of_ble_eq_true rfl) o1 c2 (fun h => nomatch h)) (j_X5_turn_c_1 (Nat.zero_le _) h2 (wid l))), r2, q2, k1.tr k2, ?_⟩
      have := bv_lt (told.take k ++ [true])
      have ll : (told.take k ++ [true]).length ≤ 60 := by rw [List.length_append, List.length_take]; show min k told.length + 1 ≤ 60; omega
      exact Nat.lt_of_lt_of_le this (Nat.pow_le_pow_right (by decide) ll)
theorem dec_bit {told : List Bool} {c : Nat} (hb : bv told < 2 ^ 60) (hc : c < 60) : (((((lN (bv told)).toUInt64 >>> ((nI c : Int32).toInt64.toUInt64 &&& Int64.toUInt64 63)).toInt64) &&& 1).toInt32) = if told.getD c false then 1 else 0 := by
  rw [wb_bit (by omega) (by omega), lN_i, bv_bit]
  split <;> rfl
