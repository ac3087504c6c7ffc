/-! ===== the text, byte by byte ===== -/
theorem k_at (C : CS) (M : MS) (D : List va_E) {i : Int32} (hs0 : 0 ≤ (C.1 2).toInt) (hs : (C.1 2).toInt ≤ 100) : cO (mh (ccells C) M D) 1 6 (X6_at (mh (ccells C) M D) 1 i) = some (if 0 ≤ i.toInt ∧ i.toInt < (C.1 2).toInt then C.2.1 0 i.toNatClampNeg else -1, mh (ccells C) M D) := by
  have e : isO (mh (ccells C) M D) 1 6 = true := rfl
  unfold cO
  rw [if_pos e]
  unfold X6_at X6_at_0 X6_at_30 X6_at_31
  have g1 : gI (mh (ccells C) M D) 1 6 1 = some (C.1 2) := rfl
  have g2 : gQ (mh (ccells C) M D) 1 6 0 = some (some 2) := rfl
  have g3 : aN (mh (ccells C) M D) (some 2) = some 100 := rfl
  have e100 : (100 : Int32).toInt = 100 := rfl
  have e0 : (0 : Int32).toInt = 0 := rfl
  simp only [g1, g2, g3, Option.bind_some]
  by_cases h0 : i < 0
  · have := ng_n h0
    rw [if_pos h0, if_neg (show ¬ (0 ≤ i.toInt ∧ i.toInt < (C.1 2).toInt) from fun c => by omega)]
  · have p0 := nn_n h0
    rw [if_neg h0]
    by_cases h1 : C.1 2 ≤ i
    · have := zi_le.mp h1
      rw [if_pos h1, if_neg (show ¬ (0 ≤ i.toInt ∧ i.toInt < (C.1 2).toInt) from fun c => by omega)]
    · have p1 := mt zi_le.mpr h1
      have g4 : aA 0 (mh (ccells C) M D) (some 2) i = some (C.2.1 0 i.toNatClampNeg) := by
        show (if _ = _ ∧ _ then _ else _) = _
        rw [if_pos ⟨rfl, ix_ok p0 (by omega)⟩]
      rw [if_neg h1, if_neg (show ¬ (100 : Int32) ≤ i from fun c => by have := zi_le.mp c; omega), g4, Option.bind_some, if_pos ⟨p0, by omega⟩]
theorem r_next (M : MS) (h0 : 0 ≤ (M.1 3).toInt) (hs : (M.1 2).toInt ≤ 100) : X8_next M = some (if (M.1 3).toInt < (M.1 2).toInt then M.2.1 5 (M.1 3).toNatClampNeg else -1, M) := by
  unfold X8_next X8_next_0 X8_next_24
  by_cases h1 : M.1 2 ≤ M.1 3
  · have := zi_le.mp h1
    rw [if_pos h1, if_neg (by omega)]
  · have p1 := mt zi_le.mpr h1
    have hz := zi_n (M.1 3)
    rw [if_neg h1, mA_ok (q := (M.1 3).toNatClampNeg) (by omega) (by show _ < 100; omega), Option.bind_some, if_pos (by omega)]
