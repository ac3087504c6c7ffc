/-! ===== feed, price, count, trace, taken ===== -/
theorem e_size (C : CS) (M : MS) (D : List va_E) : cO (mh (ccells C) M D) 1 6 (X6_size (mh (ccells C) M D) 1) = some (C.1 2, mh (ccells C) M D) := rfl
theorem e_uA0 (C : CS) (M : MS) (D : List va_E) (i x : Int32) : uA 0 (mh (ccells C) M D) (some 2) i x = if ixOk i 100 = true then some (mh (ccells (c2 C 0 (upd (C.2.1 0) i.toNatClampNeg x))) M D) else none := by
  show (if _ = _ ∧ _ then _ else _) = _
  by_cases h : ixOk i 100 = true
  · rw [if_pos h, if_pos ⟨rfl, h⟩]; rfl
  · rw [if_neg h, if_neg (fun c => h c.2)]
theorem e_add {C : CS} {M : MS} {D : List va_E} {x : Int32} (h0 : 0 ≤ (C.1 2).toInt) (h1 : (C.1 2).toInt < 100) : cO (mh (ccells C) M D) 1 6 (X6_add (mh (ccells C) M D) 1 x) = some ((), mh (ccells (c1 (c2 C 0 (upd (C.2.1 0) (C.1 2).toNatClampNeg x)) 2 (C.1 2 + 1))) M D) := by
  have e : isO (mh (ccells C) M D) 1 6 = true := rfl
  unfold cO
  rw [if_pos e]
  unfold X6_add X6_add_0
  have g1 : gI (mh (ccells C) M D) 1 6 1 = some (C.1 2) := rfl
  have g2 : gQ (mh (ccells C) M D) 1 6 0 = some (some 2) := rfl
  have g3 : aN (mh (ccells C) M D) (some 2) = some 100 := rfl
  have e100 : (100 : Int32).toInt = 100 := rfl
  have e0 : (0 : Int32).toInt = 0 := rfl
  simp only [g1, g2, g3, Option.bind_some]
  rw [if_neg (fun c => by have := zi_lt.mp c; omega), if_neg (fun c => by have := zi_le.mp c; omega), e_uA0, if_pos (ix_ok h0 (by exact_mod_cast h1))]
  rfl
theorem e_feed (x : Int32) : ∀ (k fn : Nat) (y : Int32) (C : CS) (M M2 : MS) (D : List va_E), y.toInt = (k : Int) - 1 → k < fn → k ≤ 4 → iTx (C.1 2) (C.2.1 0) (M.1 2) (M.2.1 5) → (C.1 2).toInt + k ≤ 100 → ∃ C' M' r, X7_feed_33 fn (mh (ccells C) M2 D) 0 x y = some (r, mh (ccells C') M2 D) ∧ X8_feed_31 fn M x y = some (r, M') ∧ iTx (C'.1 2) (C'.2.1 0) (M'.1 2) (M'.2.1 5) ∧ fC C C' [2] [0] [] [] ∧ C'.2.2.2.2 = C.2.2.2.2 ∧ fM M M' [2] [5] [] := by
  intro k
  induction k with
  | zero =>
    intro fn y C M M2 D hy hf hk hT hs
    obtain ⟨fn, rfl⟩ : ∃ q, fn = q + 1 := ⟨fn - 1, by omega⟩
    have e0 : (0 : Int32).toInt = 0 := rfl
    refine ⟨C, M, C.1 2, ?_, ?_, hT, fC.rfl, rfl, fM.rfl⟩
    · unfold X7_feed_33
      rw [if_pos (zi_lt.mpr (by omega))]
      rfl
    · unfold X8_feed_31
      rw [if_pos (zi_lt.mpr (by omega)), hT.1]
  | succ k ih =>
    intro fn y C M M2 D hy hf hk hT hs
    obtain ⟨fn, rfl⟩ : ∃ q, fn = q + 1 := ⟨fn - 1, by omega⟩
    have e0 : (0 : Int32).toInt = 0 := rfl
    obtain ⟨t1, t2, t3, t4⟩ := hT
    have hn : ¬ y < 0 := fun c => by have := zi_lt.mp c; omega
    have h1 : (C.1 2 + 1).toInt = (C.1 2).toInt + 1 := zi_inc rfl (by omega) (by omega)
    obtain ⟨C', M', r, e7, e8, hT', f1, f5, f2⟩ := ih fn (y + (-1)) (c1 (c2 C 0 (upd (C.2.1 0) (C.1 2).toNatClampNeg ((x >>> ((8 * y) &&& 31)) &&& 255))) 2 (C.1 2 + 1)) (si (sa M 5 (upd (M.2.1 5) (M.1 2).toNatClampNeg (((x >>> ((8 * y) &&& 31))).toInt8.toInt32))) 2 (M.1 2 + 1)) M2 D (by rw [zi_dec hy (by omega) (by omega)]; omega) (by omega) (by omega) ⟨by show C.1 2 + 1 = M.1 2 + 1; rw [t1], by show 0 ≤ (C.1 2 + 1).toInt; omega, by show (C.1 2 + 1).toInt ≤ 100; omega, fun i hi => by
      have hi : (i : Int) < (C.1 2 + 1).toInt := hi
      show 0 ≤ (upd (C.2.1 0) (C.1 2).toNatClampNeg ((x >>> ((8 * y) &&& 31)) &&& 255) i).toInt ∧ (upd (C.2.1 0) (C.1 2).toNatClampNeg ((x >>> ((8 * y) &&& 31)) &&& 255) i).toInt ≤ 255 ∧ upd (M.2.1 5) (M.1 2).toNatClampNeg (((x >>> ((8 * y) &&& 31))).toInt8.toInt32) i = (upd (C.2.1 0) (C.1 2).toNatClampNeg ((x >>> ((8 * y) &&& 31)) &&& 255) i).toInt8.toInt32
      rw [← t1]
      unfold upd
      by_cases hq : i = (C.1 2).toNatClampNeg
      · rw [if_pos hq, if_pos hq, by_and]
        exact ⟨(by_lo _).1, (by_lo _).2, rfl⟩
      · rw [if_neg hq, if_neg hq]
        have := zi_n (C.1 2)
        exact t4 i (by omega)⟩ (by show (C.1 2 + 1).toInt + _ ≤ _; omega)
    refine ⟨C', M', r, ?_, ?_, hT', fC.trans (fC.trans (fC_c2 (by decide)) (fC_c1 (by decide))) f1, f5, fM.trans (fM.trans (fM_sa (by decide)) (fM_si (by decide))) f2⟩
    · unfold X7_feed_33
      rw [if_neg hn]
      have g2 : gQ (mh (ccells C) M2 D) 0 7 0 = some (some 1) := rfl
      simp only [g2, Option.bind_some]
      rw [e_add t2 (by omega)]
      exact e7
    · unfold X8_feed_31 mAs
      rw [if_neg hn, if_pos (ix_ok (by rw [← t1]; exact t2) (by rw [← t1]; show _ < (100 : Int); omega))]
      exact e8
theorem o_feed (C : CS) (M M2 : MS) (D : List va_E) (x n : Int32) (hT : iTx (C.1 2) (C.2.1 0) (M.1 2) (M.2.1 5)) : ∃ r C' M', X7_feed (mh (ccells C) M2 D) 0 x n = some (r, mh (ccells C') M2 D) ∧ X8_feed M x n = some (r, M') ∧ iTx (C'.1 2) (C'.2.1 0) (M'.1 2) (M'.2.1 5) ∧ fC C C' [2] [0] [] [] ∧ C'.2.2.2.2 = C.2.2.2.2 ∧ fM M M' [2] [5] [] := by
  unfold X7_feed X7_feed_0 X7_feed_9 X8_feed X8_feed_0
  have e0 : (0 : Int32).toInt = 0 := rfl
  have e4 : (4 : Int32).toInt = 4 := rfl
  have e1 : (1 : Int32).toInt = 1 := rfl
  have e100 : (100 : Int32).toInt = 100 := rfl
  rw [r_in]
  simp only [Option.bind_some]
  by_cases h : 0 ≤ n ∧ n ≤ 4
  · have h0 := zi_le.mp h.1
    have h4 := zi_le.mp h.2
    have g2 : gQ (mh (ccells C) M2 D) 0 7 0 = some (some 1) := rfl
    rw [if_pos h, if_neg (fun c => by have := zi_lt.mp c; omega), if_pos h.2]
    simp only [g2, Option.bind_some, e_size]
    rw [if_neg (show ¬ (1 : Int32) = 0 by decide)]
    have hs : (C.1 2 + n).toInt = (C.1 2).toInt + n.toInt := zi_add (by have := hT.2.1; omega) (by have := hT.2.2.1; omega)
    rw [← hT.1]
    by_cases hq : C.1 2 + n ≤ 100
    · rw [if_pos hq, if_pos hq]
      have := zi_le.mp hq
      obtain ⟨C', M', r, a, b, c⟩ := e_feed x n.toInt.toNat FU (n - 1) C M M2 D (by rw [zi_sub (by omega) (by omega)]; omega) (by unfold FU; omega) (by omega) hT (by omega)
      exact ⟨r, C', M', a, b, c⟩
    · rw [if_neg hq, if_neg hq]
      exact ⟨_, C, M, rfl, rfl, hT, fC.rfl, rfl, fM.rfl⟩
  · rw [if_neg h, if_pos (show (0 : Int32) = 0 from rfl)]
    by_cases h0 : n < 0
    · rw [if_pos h0]
      exact ⟨_, C, M, rfl, rfl, hT, fC.rfl, rfl, fM.rfl⟩
    · rw [if_neg h0, if_neg (fun c => h ⟨zi_le.mpr (by have := mt zi_lt.mpr h0; omega), c⟩)]
      exact ⟨_, C, M, rfl, rfl, hT, fC.rfl, rfl, fM.rfl⟩
