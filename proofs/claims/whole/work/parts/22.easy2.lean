/-! ===== price, count, trace, taken ===== -/
def iPr (p7 p8 : Nat → Int32) : Prop := ∀ t : Nat, t < 10 → p7 t = p8 t ∧ 0 ≤ (p7 t).toInt ∧ (p7 t).toInt ≤ 99
def iAc (r7 : Int32) (k7 : Nat → Int32) (r8 : Int32) (k8 : Nat → Int32) : Prop := r7 = r8 ∧ 0 ≤ r7.toInt ∧ r7.toInt ≤ 1000000 ∧ ∀ i : Nat, i < 20 → (i : Int) < r7.toInt → k7 i = k8 i
theorem nn_n {x : Int32} (h : ¬ x < 0) : 0 ≤ x.toInt := by
  have e0 : (0 : Int32).toInt = 0 := rfl
  have := mt zi_lt.mpr h
  omega
theorem ng_n {x : Int32} (h : x < 0) : x.toInt < 0 := zi_lt.mp h
theorem o_price (C : CS) (M M2 : MS) (D : List va_E) (x n : Int32) (hT : iPr (C.2.1 2) (M.2.1 19)) : ∃ r C' M', X7_price (mh (ccells C) M2 D) 0 x n = some (r, mh (ccells C') M2 D) ∧ X8_price M x n = some (r, M') ∧ iPr (C'.2.1 2) (M'.2.1 19) ∧ fC C C' [] [2] [] [] ∧ C'.2.2.2.2 = C.2.2.2.2 ∧ fM M M' [] [19] [] := by
  unfold X7_price X7_price_0 X7_price_13 X7_price_25 X8_price X8_price_0
  have e0 : (0 : Int32).toInt = 0 := rfl
  have e9 : (9 : Int32).toInt = 9 := rfl
  have e99 : (99 : Int32).toInt = 99 := rfl
  have e10 : (10 : Int32).toInt = 10 := rfl
  have g2 : gQ (mh (ccells C) M2 D) 0 7 4 = some (some 8) := rfl
  have g3 : aN (mh (ccells C) M2 D) (some 8) = some 10 := rfl
  have z1 : ¬ (1 : Int32) = 0 := by decide
  rw [r_in]
  simp only [Option.bind_some, g2, g3]
  by_cases h0 : x < 0
  · have := ng_n h0
    rw [if_pos h0, if_neg (show ¬ (0 ≤ x ∧ x ≤ 9) from fun c => by have := zi_le.mp c.1; omega), if_pos rfl]
    exact ⟨_, C, M, rfl, rfl, hT, fC.rfl, rfl, fM.rfl⟩
  · have p0 := nn_n h0
    rw [if_neg h0]
    by_cases h1 : x < 10
    · have p1 := zi_lt.mp h1
      rw [if_pos h1, if_pos (show 0 ≤ x ∧ x ≤ 9 from ⟨zi_le.mpr (by omega), zi_le.mpr (by omega)⟩), if_neg z1, r_in]
      simp only [Option.bind_some]
      by_cases h2 : n < 0
      · have := ng_n h2
        rw [if_pos h2, if_neg (show ¬ (0 ≤ n ∧ n ≤ 99) from fun c => by have := zi_le.mp c.1; omega), if_pos rfl]
        exact ⟨_, C, M, rfl, rfl, hT, fC.rfl, rfl, fM.rfl⟩
      · have p2 := nn_n h2
        rw [if_neg h2]
        by_cases h3 : n ≤ 99
        · have p3 := zi_le.mp h3
          rw [if_pos h3, if_pos (show 0 ≤ n ∧ n ≤ 99 from ⟨zi_le.mpr (by omega), h3⟩), if_neg z1]
          have k1 : ixOk x 10 = true := ix_ok p0 (by omega)
          have g4 : aA 0 (mh (ccells C) M2 D) (some 8) x = some (C.2.1 2 x.toNatClampNeg) := by
            show (if _ = _ ∧ _ then _ else _) = _
            rw [if_pos ⟨rfl, k1⟩]
          have g5 : uA 0 (mh (ccells C) M2 D) (some 8) x n = some (mh (ccells (c2 C 2 (upd (C.2.1 2) x.toNatClampNeg n))) M2 D) := by
            show (if _ = _ ∧ _ then _ else _) = _
            rw [if_pos ⟨rfl, k1⟩]
            rfl
          have g6 : mA M 19 x = some (M.2.1 19 x.toNatClampNeg) := by
            unfold mA
            exact if_pos k1
          have g7 : mAs M 19 x n = some (sa M 19 (upd (M.2.1 19) x.toNatClampNeg n)) := by
            unfold mAs
            exact if_pos k1
          simp only [g4, g5, g6, g7, Option.bind_some]
          have hz := zi_n x
          refine ⟨_, _, _, rfl, by rw [(hT x.toNatClampNeg (by omega)).1], ?_, fC_c2 (by decide), rfl, fM_sa (by decide)⟩
          intro t ht
          show upd (C.2.1 2) x.toNatClampNeg n t = upd (M.2.1 19) x.toNatClampNeg n t ∧ 0 ≤ (upd (C.2.1 2) x.toNatClampNeg n t).toInt ∧ (upd (C.2.1 2) x.toNatClampNeg n t).toInt ≤ 99
          unfold upd
          by_cases hq : t = x.toNatClampNeg
          · rw [if_pos hq, if_pos hq]
            exact ⟨rfl, p2, by omega⟩
          · rw [if_neg hq, if_neg hq]
            exact hT t ht
        · rw [if_neg h3, if_neg (show ¬ (0 ≤ n ∧ n ≤ 99) from fun c => h3 c.2), if_pos rfl]
          exact ⟨_, C, M, rfl, rfl, hT, fC.rfl, rfl, fM.rfl⟩
    · rw [if_neg h1, if_neg (show ¬ (0 ≤ x ∧ x ≤ 9) from fun c => h1 (zi_lt.mpr (by have := zi_le.mp c.2; omega))), if_pos rfl]
      exact ⟨_, C, M, rfl, rfl, hT, fC.rfl, rfl, fM.rfl⟩
theorem o_count (C : CS) (M M2 : MS) (D : List va_E) (x : Int32) (h0 : C.1 0 = M.1 0) (h1 : C.1 1 = M.1 1) (h2 : C.1 2 = M.1 2) (h3 : C.1 10 = M.1 37) : ∃ r, X7_count (mh (ccells C) M2 D) 0 x = some (r, mh (ccells C) M2 D) ∧ X8_count M x = some (r, M) := by
  unfold X7_count X7_count_0 X8_count X8_count_0
  have g2 : gI (mh (ccells C) M2 D) 0 7 8 = some (C.1 0) := rfl
  have g3 : gI (mh (ccells C) M2 D) 0 7 9 = some (C.1 1) := rfl
  have g4 : gQ (mh (ccells C) M2 D) 0 7 0 = some (some 1) := rfl
  have g5 : gQ (mh (ccells C) M2 D) 0 7 6 = some (some 10) := rfl
  have g6 : cO (mh (ccells C) M2 D) 10 0 (X0_ran (mh (ccells C) M2 D) 10) = some (C.1 10, mh (ccells C) M2 D) := rfl
  simp only [g2, g3, g4, g5, g6, e_size, Option.bind_some]
  by_cases q0 : x = 0
  · rw [if_pos q0, if_pos q0, h0]; exact ⟨_, rfl, rfl⟩
  · rw [if_neg q0, if_neg q0]
    by_cases q1 : x = 1
    · rw [if_pos q1, if_pos q1, h1]; exact ⟨_, rfl, rfl⟩
    · rw [if_neg q1, if_neg q1]
      by_cases q2 : x = 2
      · rw [if_pos q2, if_pos q2, h2]; exact ⟨_, rfl, rfl⟩
      · rw [if_neg q2, if_neg q2]
        by_cases q3 : x = 3
        · rw [if_pos q3, if_pos q3, h3]; exact ⟨_, rfl, rfl⟩
        · rw [if_neg q3, if_neg q3]; exact ⟨_, rfl, rfl⟩
theorem o_trace (C : CS) (M M2 : MS) (D : List va_E) (x : Int32) (hT : iAc (C.1 10) (C.2.1 3) (M.1 37) (M.2.1 38)) : ∃ r, X7_trace (mh (ccells C) M2 D) 0 x = some (r, mh (ccells C) M2 D) ∧ X8_trace M x = some (r, M) := by
  unfold X7_trace X7_trace_0 X8_trace X8_trace_0 X8_trace_28 X8_trace_29
  have e0 : (0 : Int32).toInt = 0 := rfl
  have e19 : (19 : Int32).toInt = 19 := rfl
  have e20 : (20 : Int32).toInt = 20 := rfl
  have g5 : gQ (mh (ccells C) M2 D) 0 7 6 = some (some 10) := rfl
  have g6 : isO (mh (ccells C) M2 D) 10 0 = true := rfl
  have z1 : ¬ (1 : Int32) = 0 := by decide
  rw [r_in]
  simp only [g5, Option.bind_some, cO, g6, if_true]
  unfold X0_keptBody X0_keptBody_0 X0_keptBody_30 X0_keptBody_31
  have g7 : gI (mh (ccells C) M2 D) 10 0 1 = some (C.1 10) := rfl
  have g8 : gQ (mh (ccells C) M2 D) 10 0 0 = some (some 11) := rfl
  have g9 : aN (mh (ccells C) M2 D) (some 11) = some 20 := rfl
  simp only [g7, g8, g9, Option.bind_some]
  rw [hT.1]
  by_cases h0 : x < 0
  · have := ng_n h0
    rw [if_pos h0, if_neg (show ¬ (0 ≤ x ∧ x ≤ 19) from fun c => by have := zi_le.mp c.1; omega), if_pos rfl]
    exact ⟨_, rfl, rfl⟩
  · have p0 := nn_n h0
    rw [if_neg h0]
    by_cases h1 : x ≤ 19
    · have p1 := zi_le.mp h1
      rw [if_pos (show 0 ≤ x ∧ x ≤ 19 from ⟨zi_le.mpr (by omega), h1⟩), if_neg z1]
      by_cases h2 : M.1 37 ≤ x
      · rw [if_pos h2, if_pos h2]
        exact ⟨_, rfl, rfl⟩
      · rw [if_neg h2, if_neg h2]
        have p2 := mt zi_le.mpr h2
        have k1 : ixOk x 20 = true := ix_ok p0 (by omega)
        have g4 : aA 0 (mh (ccells C) M2 D) (some 11) x = some (C.2.1 3 x.toNatClampNeg) := by
          show (if _ = _ ∧ _ then _ else _) = _
          rw [if_pos ⟨rfl, k1⟩]
        have ga : mA M 38 x = some (M.2.1 38 x.toNatClampNeg) := by
          unfold mA
          exact if_pos k1
        have hz := zi_n x
        rw [if_neg (show ¬ (20 : Int32) ≤ x from fun c => by have := zi_le.mp c; omega)]
        simp only [g4, ga, Option.bind_some]
        rw [hT.2.2.2 x.toNatClampNeg (by omega) (by rw [hT.1]; omega)]
        exact ⟨_, rfl, rfl⟩
    · rw [if_neg (show ¬ (0 ≤ x ∧ x ≤ 19) from fun c => h1 c.2), if_pos rfl]
      have p1 := mt zi_le.mpr h1
      rw [if_pos (show (20 : Int32) ≤ x from zi_le.mpr (by omega))]
      by_cases h2 : M.1 37 ≤ x
      · rw [if_pos h2]
        exact ⟨_, rfl, rfl⟩
      · rw [if_neg h2]
        exact ⟨_, rfl, rfl⟩
theorem k7_of {x : Int32} (h : 0 ≤ x ∧ x ≤ 6) : x = 0 ∨ x = 1 ∨ x = 2 ∨ x = 3 ∨ x = 4 ∨ x = 5 ∨ x = 6 := by
  have h0 : 0 ≤ x.toInt := zi_le.mp h.1
  have h6 : x.toInt ≤ 6 := zi_le.mp h.2
  have e : ∀ y : Int32, x.toInt = y.toInt → x = y := fun y q => zi_eq.mpr q
  by_cases q0 : x.toInt = 0
  · exact .inl (e 0 q0)
  by_cases q1 : x.toInt = 1
  · exact .inr (.inl (e 1 q1))
  by_cases q2 : x.toInt = 2
  · exact .inr (.inr (.inl (e 2 q2)))
  by_cases q3 : x.toInt = 3
  · exact .inr (.inr (.inr (.inl (e 3 q3))))
  by_cases q4 : x.toInt = 4
  · exact .inr (.inr (.inr (.inr (.inl (e 4 q4)))))
  by_cases q5 : x.toInt = 5
  · exact .inr (.inr (.inr (.inr (.inr (.inl (e 5 q5))))))
  exact .inr (.inr (.inr (.inr (.inr (.inr (e 6 (show x.toInt = 6 by omega)))))))
theorem o_taken (S : AH) (M : MS) (x k : Int32) : ∃ r, X7_taken S 0 x k = some (r, S) ∧ X8_taken M x k = some (r, M) := by
  unfold X7_taken X7_taken_0 X8_taken X8_taken_0
  have z1 : ¬ (1 : Int32) = 0 := by decide
  simp only [k_isKind, r_isKind, Option.bind_some]
  by_cases hk : 0 ≤ k ∧ k ≤ 6
  · by_cases hx : 0 ≤ x ∧ x ≤ 6
    · rw [if_pos hk, if_neg z1, if_neg z1, if_pos hx, if_neg z1, if_neg z1]
      rcases k7_of hk with rfl | rfl | rfl | rfl | rfl | rfl | rfl <;> rcases k7_of hx with rfl | rfl | rfl | rfl | rfl | rfl | rfl <;> exact ⟨_, rfl, rfl⟩
    · rw [if_pos hk, if_neg z1, if_neg z1, if_neg hx, if_pos rfl, if_pos rfl]
      exact ⟨_, rfl, rfl⟩
  · rw [if_neg hk, if_pos rfl, if_pos rfl]
    exact ⟨_, rfl, rfl⟩
