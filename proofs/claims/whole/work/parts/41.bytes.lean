theorem by_int (c : Int32) : (c.toInt8.toInt32).toInt = c.toInt.bmod 256 := by
  rw [Int8.toInt_toInt32, Int32.toInt_toInt8]
theorem by_low {c : Int32} (h0 : 0 ≤ c.toInt) (h1 : c.toInt ≤ 127) : c.toInt8.toInt32 = c := zi_eq.mpr (by rw [by_int]; exact Int.bmod_eq_of_le (by omega) (by omega))
theorem by_high {c : Int32} (h0 : 128 ≤ c.toInt) (h1 : c.toInt ≤ 255) : (c.toInt8.toInt32).toInt = c.toInt - 256 := by
  rw [by_int]
  have e : (c.toInt - 256).bmod 256 = c.toInt - 256 := Int.bmod_eq_of_le (by omega) (by omega)
  rw [← e]
  exact (Int.sub_bmod_right _ _).symm
/-- a letter of the grammar is the same on both sides -/
theorem by_eq {c k : Int32} (h0 : 0 ≤ c.toInt) (h1 : c.toInt ≤ 255) (k0 : 0 ≤ k.toInt) (k1 : k.toInt ≤ 127) : c.toInt8.toInt32 = k ↔ c = k := by
  by_cases h : c.toInt ≤ 127
  · rw [by_low h0 h]
  · have e := by_high (c := c) (by omega) h1
    constructor
    · intro q
      rw [q] at e
      omega
    · intro q
      subst q
      omega
