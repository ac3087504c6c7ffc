/-! ===== a duty as one number of six digits ===== -/
theorem q_or (a b : Nat) : nI a ||| nI b = nI (a ||| b) := by
  apply Int32.toBitVec_inj.1
  show BitVec.ofNat 32 a ||| BitVec.ofNat 32 b = BitVec.ofNat 32 (a ||| b)
  apply BitVec.eq_of_getLsbD_eq
  intro i hi
  simp [hi]
theorem q_and (a b : Nat) : nI a &&& nI b = nI (a &&& b) := by
  apply Int32.toBitVec_inj.1
  show BitVec.ofNat 32 a &&& BitVec.ofNat 32 b = BitVec.ofNat 32 (a &&& b)
  apply BitVec.eq_of_getLsbD_eq
  intro i hi
  simp [hi]
theorem q_os {a k : Nat} (b : Nat) (h : a < 2 ^ k) : nI (2 ^ k * b) ||| nI a = nI (2 ^ k * b + a) := by rw [q_or, Nat.two_pow_add_eq_or_of_lt h]
theorem q_n {x : Int32} {k : Nat} (h0 : 0 ≤ x.toInt) (h1 : x.toInt ≤ k) : ∃ n : Nat, n ≤ k ∧ x = nI n ∧ x.toInt = n := by
  refine ⟨x.toInt.toNat, by omega, ?_, by omega⟩
  have h := zi_hi x
  exact zi_eq.mpr (by rw [show nI x.toInt.toNat = Int32.ofNat x.toInt.toNat from rfl, zo (by omega)]; omega)
theorem q_i {n : Nat} (h : n < 2147483648) : (nI n).toInt = n := zo h
abbrev in2 (x : Int32) (k : Int) : Prop := 0 ≤ x.toInt ∧ x.toInt ≤ k
def okD (z : Dt) : Prop := in2 z.1 1 ∧ in2 z.2.1 1 ∧ in2 z.2.2.1 1 ∧ in2 z.2.2.2.1 19 ∧ in2 z.2.2.2.2.1 10 ∧ in2 z.2.2.2.2.2 10
def dpk (z : Dt) : Int32 := ((((((z.1 <<< ((25 : Int32) &&& 31)) ||| (z.2.1 <<< ((20 : Int32) &&& 31))) ||| (z.2.2.1 <<< ((15 : Int32) &&& 31))) ||| (z.2.2.2.1 <<< ((10 : Int32) &&& 31))) ||| (z.2.2.2.2.1 <<< ((5 : Int32) &&& 31))) ||| z.2.2.2.2.2)
def dN (a b c t f g : Nat) : Nat := ((((a * 32 + b) * 32 + c) * 32 + t) * 32 + f) * 32 + g
theorem dpk_n {a b c t f g : Nat} (ha : a ≤ 1) (hb : b ≤ 1) (hc : c ≤ 1) (ht : t < 32) (hf : f < 32) (hg : g < 32) : dpk (nI a, nI b, nI c, nI t, nI f, nI g) = nI (dN a b c t f g) := by
  unfold dpk dN
  dsimp only
  rw [pk_shlN (n := a) ((25 : Int32) &&& 31) 25 rfl (by omega), pk_shlN (n := b) ((20 : Int32) &&& 31) 20 rfl (by omega), pk_shlN (n := c) ((15 : Int32) &&& 31) 15 rfl (by omega), pk_shlN (n := t) ((10 : Int32) &&& 31) 10 rfl (by omega), pk_shlN (n := f) ((5 : Int32) &&& 31) 5 rfl (by omega)]
  rw [show a * 2 ^ 25 = 2 ^ 25 * a from Nat.mul_comm _ _, q_os a (show b * 2 ^ 20 < 2 ^ 25 by omega)]
  rw [show 2 ^ 25 * a + b * 2 ^ 20 = 2 ^ 20 * (32 * a + b) by omega, q_os _ (show c * 2 ^ 15 < 2 ^ 20 by omega)]
  rw [show 2 ^ 20 * (32 * a + b) + c * 2 ^ 15 = 2 ^ 15 * (32 * (32 * a + b) + c) by omega, q_os _ (show t * 2 ^ 10 < 2 ^ 15 by omega)]
  rw [show 2 ^ 15 * (32 * (32 * a + b) + c) + t * 2 ^ 10 = 2 ^ 10 * (32 * (32 * (32 * a + b) + c) + t) by omega, q_os _ (show f * 2 ^ 5 < 2 ^ 10 by omega)]
  rw [show 2 ^ 10 * (32 * (32 * (32 * a + b) + c) + t) + f * 2 ^ 5 = 2 ^ 5 * (32 * (32 * (32 * (32 * a + b) + c) + t) + f) by omega, q_os _ (show g < 2 ^ 5 by omega)]
  congr 1
  omega
theorem okD_n {z : Dt} (h : okD z) : ∃ a b c t f g : Nat, a ≤ 1 ∧ b ≤ 1 ∧ c ≤ 1 ∧ t ≤ 19 ∧ f ≤ 10 ∧ g ≤ 10 ∧ z = (nI a, nI b, nI c, nI t, nI f, nI g) := by
  obtain ⟨z1, z2, z3, z4, z5, z6⟩ := z
  obtain ⟨h1, h2, h3, h4, h5, h6⟩ := h
  obtain ⟨a, a1, rfl, -⟩ := q_n (k := 1) h1.1 h1.2
  obtain ⟨b, b1, rfl, -⟩ := q_n (k := 1) h2.1 h2.2
  obtain ⟨c, c1, rfl, -⟩ := q_n (k := 1) h3.1 h3.2
  obtain ⟨t, t1, rfl, -⟩ := q_n (k := 19) h4.1 h4.2
  obtain ⟨f, f1, rfl, -⟩ := q_n (k := 10) h5.1 h5.2
  obtain ⟨g, g1, rfl, -⟩ := q_n (k := 10) h6.1 h6.2
  exact ⟨a, b, c, t, f, g, a1, b1, c1, t1, f1, g1, rfl⟩
theorem q_m31 (n : Nat) : nI n &&& 31 = nI (n % 32) := by
  rw [show (31 : Int32) = nI 31 from rfl, q_and, show (31 : Nat) = 2 ^ 5 - 1 from rfl, Nat.and_two_pow_sub_one_eq_mod]
theorem dN_lt {a b c t f g : Nat} (ha : a ≤ 1) (hb : b ≤ 1) (hc : c ≤ 1) (ht : t < 32) (hf : f < 32) (hg : g < 32) : dN a b c t f g < 2 ^ 31 := by
  unfold dN
  omega
theorem dg_q {n : Nat} (h : n < 2 ^ 31) (s : Int32) (k : Nat) (hs : ((s &&& 31).toBitVec.smod 32).toNat = k) : (nI n >>> (s &&& 31)) &&& 31 = nI (n / 2 ^ k % 32) := by
  rw [pk_shrN h (s &&& 31) k hs, q_m31]
theorem dg_all {z : Dt} (h : okD z) : ((dpk z >>> ((25 : Int32) &&& 31)) &&& 31) = z.1 ∧ ((dpk z >>> ((20 : Int32) &&& 31)) &&& 31) = z.2.1 ∧ ((dpk z >>> ((15 : Int32) &&& 31)) &&& 31) = z.2.2.1 ∧ ((dpk z >>> ((10 : Int32) &&& 31)) &&& 31) = z.2.2.2.1 ∧ ((dpk z >>> ((5 : Int32) &&& 31)) &&& 31) = z.2.2.2.2.1 ∧ ((dpk z >>> ((0 : Int32) &&& 31)) &&& 31) = z.2.2.2.2.2 := by
  obtain ⟨a, b, c, t, f, g, ha, hb, hc, ht, hf, hg, rfl⟩ := okD_n h
  rw [dpk_n ha hb hc (by omega) (by omega) (by omega)]
  have hl := dN_lt ha hb hc (show t < 32 by omega) (show f < 32 by omega) (show g < 32 by omega)
  rw [dg_q hl 25 25 rfl, dg_q hl 20 20 rfl, dg_q hl 15 15 rfl, dg_q hl 10 10 rfl, dg_q hl 5 5 rfl, dg_q hl 0 0 rfl]
  unfold dN
  refine ⟨?_, ?_, ?_, ?_, ?_, ?_⟩ <;> dsimp only <;> congr 1 <;> omega
theorem dpk_inj {z w : Dt} (h : okD z) (h2 : okD w) (e : dpk z = dpk w) : z = w := by
  obtain ⟨a1, a2, a3, a4, a5, a6⟩ := dg_all h
  obtain ⟨b1, b2, b3, b4, b5, b6⟩ := dg_all h2
  rw [e] at a1 a2 a3 a4 a5 a6
  rw [b1] at a1
  rw [b2] at a2
  rw [b3] at a3
  rw [b4] at a4
  rw [b5] at a5
  rw [b6] at a6
  obtain ⟨z1, z2, z3, z4, z5, z6⟩ := z
  obtain ⟨w1, w2, w3, w4, w5, w6⟩ := w
  dsimp only at a1 a2 a3 a4 a5 a6
  rw [a1, a2, a3, a4, a5, a6]
/-- the reference's number of a duty -/
def dLg (z : Dt) : Int64 := (((32 : Int64) * (((32 : Int64) * (((32 : Int64) * (((32 : Int64) * (((32 : Int64) * ((z.1).toInt64)) + ((z.2.1).toInt64))) + ((z.2.2.1).toInt64))) + ((z.2.2.2.1).toInt64))) + ((z.2.2.2.2.1).toInt64))) + ((z.2.2.2.2.2).toInt64))
theorem zl_i {z : Int} (h : -2147483648 ≤ z) (h2 : z < 2147483648) : z.bmod (2 ^ 64) = z := Int.bmod_eq_of_le (by omega) (by omega)
theorem dLg_n {z : Dt} (h : okD z) : (dpk z).toInt64 = dLg z := by
  obtain ⟨a, b, c, t, f, g, ha, hb, hc, ht, hf, hg, rfl⟩ := okD_n h
  rw [dpk_n ha hb hc (by omega) (by omega) (by omega)]
  have hl := dN_lt ha hb hc (show t < 32 by omega) (show f < 32 by omega) (show g < 32 by omega)
  unfold dLg
  dsimp only
  apply Int64.toInt_inj.mp
  have e32 : (32 : Int64).toInt = 32 := rfl
  unfold dN at *
  simp only [Int64.toInt_add, Int64.toInt_mul, Int32.toInt_toInt64, e32, q_i (show a < 2147483648 by omega), q_i (show b < 2147483648 by omega), q_i (show c < 2147483648 by omega), q_i (show t < 2147483648 by omega), q_i (show f < 2147483648 by omega), q_i (show g < 2147483648 by omega), q_i hl]
  rw [zl_i (z := 32 * (a : Int)) (by omega) (by omega), zl_i (z := 32 * (a : Int) + b) (by omega) (by omega), zl_i (z := 32 * (32 * (a : Int) + b)) (by omega) (by omega), zl_i (z := 32 * (32 * (a : Int) + b) + c) (by omega) (by omega), zl_i (z := 32 * (32 * (32 * (a : Int) + b) + c)) (by omega) (by omega), zl_i (z := 32 * (32 * (32 * (a : Int) + b) + c) + t) (by omega) (by omega), zl_i (z := 32 * (32 * (32 * (32 * (a : Int) + b) + c) + t)) (by omega) (by omega), zl_i (z := 32 * (32 * (32 * (32 * (a : Int) + b) + c) + t) + f) (by omega) (by omega), zl_i (z := 32 * (32 * (32 * (32 * (32 * (a : Int) + b) + c) + t) + f)) (by omega) (by omega), zl_i (z := 32 * (32 * (32 * (32 * (32 * (a : Int) + b) + c) + t) + f) + g) (by omega) (by omega)]
  omega
theorem dLg_inj {z w : Dt} (h : okD z) (h2 : okD w) : dLg z = dLg w ↔ z = w := by
  refine ⟨fun e => ?_, fun e => by rw [e]⟩
  rw [← dLg_n h, ← dLg_n h2] at e
  apply dpk_inj h h2
  have e2 := congrArg Int64.toInt e
  rw [Int32.toInt_toInt64, Int32.toInt_toInt64] at e2
  exact zi_eq.mpr e2
theorem dpk_eq {z w : Dt} (h : okD z) (h2 : okD w) : dpk z = dpk w ↔ z = w := ⟨dpk_inj h h2, fun e => by rw [e]⟩
-- a digit set
theorem q_m10 {H f g : Nat} (hH : H < 2 ^ 20) (hf : f < 32) (hg : g < 32) : (2 ^ 10 * H + (2 ^ 5 * f + g)) &&& 4294966303 = 2 ^ 10 * H + g := by
  apply Nat.eq_of_testBit_eq
  intro i
  rw [Nat.testBit_and, Nat.testBit_two_pow_mul_add _ (show 2 ^ 5 * f + g < 2 ^ 10 by omega), Nat.testBit_two_pow_mul_add _ (show g < 2 ^ 10 by omega), Nat.testBit_two_pow_mul_add _ (show g < 2 ^ 5 by omega)]
  have hm : ∀ i, i < 32 → (4294966303 : Nat).testBit i = decide (i < 5 ∨ 10 ≤ i) := by decide +kernel
  by_cases h1 : i < 10
  · rw [if_pos h1, if_pos h1, hm i (by omega)]
    by_cases h2 : i < 5
    · rw [if_pos h2, decide_eq_true (.inl h2), Bool.and_true]
    · rw [if_neg h2, decide_eq_false (by omega), Bool.and_false]
      symm
      exact Nat.testBit_lt_two_pow (Nat.lt_of_lt_of_le (show g < 2 ^ 5 by omega) (Nat.pow_le_pow_right (by omega) (show 5 ≤ i by omega)))
  · rw [if_neg h1, if_neg h1]
    by_cases h3 : i < 32
    · rw [hm i h3, decide_eq_true (.inr (by omega)), Bool.and_true]
    · rw [Nat.testBit_lt_two_pow (Nat.lt_of_lt_of_le hH (Nat.pow_le_pow_right (by omega) (show 20 ≤ i - 10 by omega))), Bool.false_and]
theorem q_m5 {H g : Nat} (hH : H < 2 ^ 25) (hg : g < 32) : (2 ^ 5 * H + g) &&& 4294967264 = 2 ^ 5 * H := by
  apply Nat.eq_of_testBit_eq
  intro i
  rw [Nat.testBit_and, Nat.testBit_two_pow_mul_add _ (show g < 2 ^ 5 by omega), Nat.testBit_two_pow_mul]
  have hm : ∀ i, i < 32 → (4294967264 : Nat).testBit i = decide (5 ≤ i) := by decide +kernel
  by_cases h1 : i < 5
  · rw [hm i (by omega), decide_eq_false (by omega), Bool.and_false, Bool.false_and]
  · rw [if_neg h1, decide_eq_true (by omega), Bool.true_and]
    by_cases h3 : i < 32
    · rw [hm i h3, decide_eq_true (by omega), Bool.and_true]
    · rw [Nat.testBit_lt_two_pow (Nat.lt_of_lt_of_le hH (Nat.pow_le_pow_right (by omega) (show 25 ≤ i - 5 by omega))), Bool.false_and]
theorem dpk_far {z : Dt} (h : okD z) {v : Int32} (hv : in2 v 10) : ((dpk z &&& (((31 : Int32) <<< ((5 : Int32) &&& 31)) ^^^ (-1))) ||| (v <<< ((5 : Int32) &&& 31))) = dpk (sFar v z) := by
  obtain ⟨a, b, c, t, f, g, ha, hb, hc, ht, hf, hg, rfl⟩ := okD_n h
  obtain ⟨w, hw, rfl, -⟩ := q_n (k := 10) hv.1 hv.2
  unfold sFar
  dsimp only
  rw [dpk_n ha hb hc (by omega) (by omega) (by omega), dpk_n ha hb hc (by omega) (by omega) (by omega), show ((((31 : Int32) <<< ((5 : Int32) &&& 31)) ^^^ (-1))) = nI 4294966303 from rfl, q_and, pk_shlN (n := w) ((5 : Int32) &&& 31) 5 rfl (by omega)]
  unfold dN
  rw [show ((((a * 32 + b) * 32 + c) * 32 + t) * 32 + f) * 32 + g = 2 ^ 10 * (((a * 32 + b) * 32 + c) * 32 + t) + (2 ^ 5 * f + g) by omega, q_m10 (by omega) (by omega) (by omega), q_or, show 2 ^ 10 * (((a * 32 + b) * 32 + c) * 32 + t) + g = 2 ^ 10 * (((a * 32 + b) * 32 + c) * 32 + t) ||| g from Nat.two_pow_add_eq_or_of_lt (by omega) _, Nat.or_assoc, Nat.or_comm g, show w * 2 ^ 5 = 2 ^ 5 * w from Nat.mul_comm _ _, ← Nat.two_pow_add_eq_or_of_lt (show g < 2 ^ 5 by omega) w, ← Nat.two_pow_add_eq_or_of_lt (show 2 ^ 5 * w + g < 2 ^ 10 by omega)]
  congr 1
  omega
theorem dpk_lng {z : Dt} (h : okD z) {v : Int32} (hv : in2 v 10) : ((dpk z &&& (((31 : Int32) <<< ((0 : Int32) &&& 31)) ^^^ (-1))) ||| (v <<< ((0 : Int32) &&& 31))) = dpk (sLng v z) := by
  obtain ⟨a, b, c, t, f, g, ha, hb, hc, ht, hf, hg, rfl⟩ := okD_n h
  obtain ⟨w, hw, rfl, -⟩ := q_n (k := 10) hv.1 hv.2
  unfold sLng
  dsimp only
  rw [dpk_n ha hb hc (by omega) (by omega) (by omega), dpk_n ha hb hc (by omega) (by omega) (by omega), show ((((31 : Int32) <<< ((0 : Int32) &&& 31)) ^^^ (-1))) = nI 4294967264 from rfl, q_and, sb_shl0]
  unfold dN
  rw [show ((((a * 32 + b) * 32 + c) * 32 + t) * 32 + f) * 32 + g = 2 ^ 5 * ((((a * 32 + b) * 32 + c) * 32 + t) * 32 + f) + g by omega, q_m5 (by omega) (by omega), q_or, ← Nat.two_pow_add_eq_or_of_lt (show w < 2 ^ 5 by omega)]
  congr 1
  omega
theorem dpk_thing (a b c t : Int32) : dpk (a, b, c, t, 10, 10) = ((((((a <<< ((25 : Int32) &&& 31)) ||| (b <<< ((20 : Int32) &&& 31))) ||| (c <<< ((15 : Int32) &&& 31))) ||| (t <<< ((10 : Int32) &&& 31))) ||| 320) ||| 10) := rfl
theorem dpk_pay (a b t : Int32) : dpk (a, b, 0, t, 0, 0) = (((a <<< ((25 : Int32) &&& 31)) ||| (b <<< ((20 : Int32) &&& 31))) ||| (t <<< ((10 : Int32) &&& 31))) := by
  unfold dpk
  dsimp only
  rw [show ((0 : Int32) <<< ((15 : Int32) &&& 31)) = 0 from rfl, show ((0 : Int32) <<< ((5 : Int32) &&& 31)) = 0 from rfl, Int32.or_zero, Int32.or_zero, Int32.or_zero]
