/-! ===== text(1): a law more on both sides; text of any what ===== -/
theorem iLs_M {n7 : Int32} {row : Nat → Option Nat} {D : List va_E} {M M' : MS} (h1 : M'.1 1 = M.1 1) (hR : ∀ (l : Nat) (cs : List Cz), (l : Int) < n7.toInt → okL cs → rLw M l cs → rLw M' l cs) (h : iLs n7 row D M) : iLs n7 row D M' := by
  obtain ⟨a1, a2, a3, a4, a5⟩ := h
  refine ⟨a1.trans h1.symm, a2, a3, fun l hl => ?_, a5⟩
  obtain ⟨cs, lo, b1, b2, b3, b4⟩ := a4 l hl
  exact ⟨cs, lo, b1, b2, b3, hR l cs hl b1 b4⟩
theorem iLs_app {n7 : Int32} {row : Nat → Option Nat} {D X : List va_E} {M : MS} (h : iLs n7 row D M) : iLs n7 row (D ++ X) M := by
  obtain ⟨a1, a2, a3, a4, a5⟩ := h
  refine ⟨a1, a2, a3, fun l hl => ?_, a5⟩
  obtain ⟨cs, lo, b1, b2, b3, b4⟩ := a4 l hl
  exact ⟨cs, lo, b1, b2, LVD_app b3, b4⟩
theorem rLw_V {M M' : MS} {l l2 : Nat} {cs : List Cz} (h : frV l M M') (hl : l2 < l) (hk : okL cs) (hR : rLw M l2 cs) : rLw M' l2 cs := by
  obtain ⟨h1, h2, h3, h4⟩ := h
  refine ⟨by rw [h2 l2 (by omega)]; exact hR.1, fun i c hc => ?_⟩
  have hi := (List.getElem?_eq_some_iff.mp hc).1
  have := hk.2.1
  obtain ⟨g1, g2, g3, g4⟩ := h3 (8 * l2 + i) (by omega)
  obtain ⟨k1, k2, k3⟩ := hR.2 i c hc
  refine ⟨by rw [g1]; exact k1, fun q => by rw [g2]; exact k2 q, fun q => ?_⟩
  obtain ⟨fr, m1, m2, m3, m4, m5, m6⟩ := k3 q
  refine ⟨fr, by rw [g3]; exact m1, m2, m3, by rw [g4]; exact m4, m5, fun j t ht => ?_⟩
  have hj := (List.getElem?_eq_some_iff.mp ht).1
  rw [h4 (fr + j) (by omega)]
  exact m6 j t ht
theorem tx_L {C : CS} {M : MS} (h : iTx (C.1 2) (C.2.1 0) (M.1 2) (M.2.1 5)) : ∃ bs : List Int32, (C.1 2).toInt = bs.length ∧ (∀ (i : Nat) (x : Int32), bs[i]? = some x → C.2.1 0 i = x) ∧ rT M bs := by
  obtain ⟨h1, h2, h3, h4⟩ := h
  have hl : ((List.range (C.1 2).toInt.toNat).map (C.2.1 0)).length = (C.1 2).toInt.toNat := by rw [List.length_map, List.length_range]
  refine ⟨(List.range (C.1 2).toInt.toNat).map (C.2.1 0), by omega, fun i x hx => (range_get _ _ _ _ hx).2.symm, ?_, by omega, fun x hx => ?_, fun i x hx => ?_⟩
  · rw [← h1]
    omega
  · obtain ⟨i, hi, rfl⟩ := List.mem_map.mp hx
    have hi := List.mem_range.mp hi
    have := h4 i (by omega)
    exact ⟨this.1, this.2.1⟩
  · obtain ⟨hi, rfl⟩ := range_get _ _ _ _ hx
    exact (h4 i (by omega)).2.2
theorem o_text1 (C : CS) (M M2 : MS) (D : List va_E) (hT : iTx (C.1 2) (C.2.1 0) (M.1 2) (M.2.1 5)) (hB : iLs (C.1 1) (C.2.2.2.1 1) D M) : ∃ r C' M' X, X7_text (mh (ccells C) M2 D) 0 1 = some (r, mh (ccells C') M2 (D ++ X)) ∧ X8_text M 1 = some (r, M') ∧ iTx (C'.1 2) (C'.2.1 0) (M'.1 2) (M'.2.1 5) ∧ iLs (C'.1 1) (C'.2.2.2.1 1) (D ++ X) M' ∧ fC C C' [1, 2, 3, 4, 5, 6, 7, 8, 9, 27] [1, 5] [] [1] ∧ fM M M' [0, 1, 2, 3, 4, 16, 17, 18] [9, 10, 11, 12, 13, 14, 15] [] ∧ M'.1 0 = M.1 0 ∧ (M.1 1).toInt ≤ (M'.1 1).toInt ∧ ∀ (l : Nat) (cs : List Cz), (l : Int) < (M.1 1).toInt → okL cs → rLw M l cs → rLw M' l cs := by
  obtain ⟨bs, tV1, tV2, rT1⟩ := tx_L hT
  obtain ⟨a1, a2, a3, a4, a5⟩ := id hB
  have e0 : (0 : Int32).toInt = 0 := rfl
  have e5 : (5 : Int32).toInt = 5 := rfl
  have z1 : ¬ (1 : Int32) = 0 := by decide
  have g1 : gI (mh (ccells C) M2 D) 0 7 9 = some (C.1 1) := rfl
  have g2 : gQ (mh (ccells C) M2 D) 0 7 3 = some (some 7) := rfl
  have g3 : aN (mh (ccells C) M2 D) (some 7) = some 5 := rfl
  have g4 : gQ (mh (ccells C) M2 D) 0 7 0 = some (some 1) := rfl
  have g5 : gQ (mh (ccells C) M2 D) 0 7 1 = some (some 3) := rfl
  unfold X7_text X7_text_0 X7_text_11 X8_text X8_text_0
  rw [if_neg z1, if_pos rfl, if_neg z1, g1, bsm, g2, bsm, g3, bsm, r_in, bsm, i01, if_pos (show (0 : Int32) ≤ 1 ∧ (1 : Int32) ≤ 1 by decide), if_neg z1]
  by_cases q6 : C.1 1 < 5
  · have q6' := zi_lt.mp q6
    have hneq : ¬ M.1 1 = 5 := fun c => by
      rw [← a1] at c
      rw [c] at q6'
      omega
    rw [if_pos q6, if_neg hneq]
    have hb : (M.1 1).toInt = ((M.1 1).toInt.toNat : Nat) := by
      rw [← a1]
      omega
    have hl100 := rT1.2.1
    obtain ⟨C1, x, f1, f2, f3, f4, f5⟩ := k_fault (C := C) M2 D tV1 hl100 rT1.2.2.1 tV2
    obtain ⟨M1, h1, h2, h3, h4⟩ := r_goesL (l := (M.1 1).toInt.toNat) (by rw [← a1]; omega) hb rT1
    obtain ⟨w1, w2, w3⟩ := pLw_ok bs 8 0 (Nat.zero_le _)
    have hold : ∀ (M' : MS) (l : Nat) (cs : List Cz), M'.2.1 9 = M1.2.1 9 → M'.2.1 10 = M1.2.1 10 → M'.2.1 11 = M1.2.1 11 → M'.2.1 12 = M1.2.1 12 → M'.2.1 13 = M1.2.1 13 → M'.2.1 14 = M1.2.1 14 → (l : Int) < (M.1 1).toInt → okL cs → rLw M l cs → rLw M' l cs := fun M' l cs z9 z10 z11 z12 z13 z14 hll hk hR => rLw_M (M := M1) z9 z10 z11 z12 z13 z14 (rLw_V h4 (by omega) hk hR)
    have hc1 : C1.1 1 = C.1 1 := f3.1 1 (by decide)
    have hr1 : C1.2.2.2.1 1 = C.2.2.2.1 1 := f3.2.2.2 1 (by simp)
    have g6 : gQ (mh (ccells C1) M2 D) 0 7 0 = some (some 1) := rfl
    unfold X7_text_45 X8_text_39
    rw [if_neg z1, g5, bsm, g4, bsm, bsm, f1, bsm, if_neg z1, h1, bsm]
    unfold X7_text_70 X8_text_62
    dsimp only
    have fCl : fC C C1 [1, 2, 3, 4, 5, 6, 7, 8, 9, 27] [1, 5] [] [1] := fC_mono f3 (by decide) (by decide) (by simp) (by simp)
    have fMl : fM M M1 [0, 1, 2, 3, 4, 16, 17, 18] [9, 10, 11, 12, 13, 14, 15] [] := fM_mono h4.1 (by decide) (by decide) (by simp)
    by_cases q : (pLw bs 8 0).1 = -1
    · rw [if_neg (show ¬ 0 ≤ x by rw [zi_le]; omega), if_pos q, if_neg z1, if_neg z1, if_neg z1]
      have hk := okL_of hl100 q
      obtain ⟨X, ob, b1, b2⟩ := k_addL M2 D (f5 q) hk.2.2.2 (by rw [hc1]; exact a2) (by rw [hc1]; omega)
      rw [b1, bsm]
      unfold X7_text_95 X8_text_94 X8_text_127
      rw [if_neg z1, k_96]
      have hr : M1.1 1 = M.1 1 := h4.1.1 1 (by decide)
      have hn1 : (C.1 1 + 1).toInt = (C.1 1).toInt + 1 := zi_inc rfl (by omega) (by omega)
      refine ⟨C1.1 1, _, si (si (si M1 2 0) 0 (M1.1 0 + 0)) 1 (M1.1 1 + 1), X, rfl, ?_, iTx_0 _ _, ?_, fC.trans fCl (fC.trans (fC.trans (fC_c4 (by decide)) (fC_c1 (by decide))) (fC_c1 (by decide))), fM.trans fMl (fM.trans (fM_si (by decide)) (fM.trans (fM_si (by decide)) (fM_si (by decide)))), ?_, ?_, ?_⟩
      · have e1 : C1.1 1 = M1.1 1 + 1 - 1 := by rw [Int32.add_sub_cancel, hc1, hr, a1]
        rw [e1]
        rfl
      · refine ⟨?_, ?_, ?_, fun b hbb => ?_, fun b hbb => ?_⟩
        · show C1.1 1 + 1 = M1.1 1 + 1
          rw [hr, hc1, a1]
        · show 0 ≤ (C1.1 1 + 1).toInt
          rw [hc1]
          omega
        · show (C1.1 1 + 1).toInt ≤ 5
          rw [hc1]
          omega
        · have hbb : (b : Int) < (C1.1 1 + 1).toInt := hbb
          rw [hc1] at hbb
          show ∃ cs lo, okL cs ∧ va_up (C1.2.2.2.1 1) (C1.1 1).toNatClampNeg (some ob) b = some lo ∧ LVD (D ++ X) lo cs ∧ rLw (si (si (si M1 2 0) 0 (M1.1 0 + 0)) 1 (M1.1 1 + 1)) b cs
          rw [hr1, hc1]
          have hz := zi_n (C.1 1)
          by_cases e : b = (C.1 1).toNatClampNeg
          · refine ⟨(pLw bs 8 0).2, ob, hk, by rw [e, va_s], b2, ?_⟩
            have h3 := h3 q
            rw [← a1] at h3
            rw [e, hz]
            exact h3
          · obtain ⟨cs, lo, c1, c2, c3, c4⟩ := a4 b (by omega)
            refine ⟨cs, lo, c1, by rw [va_n e]; exact c2, LVD_app c3, hold _ b cs rfl rfl rfl rfl rfl rfl (by rw [← a1]; omega) c1 c4⟩
        · have hbb : (C1.1 1 + 1).toInt ≤ (b : Int) := hbb
          rw [hc1] at hbb
          show va_up (C1.2.2.2.1 1) (C1.1 1).toNatClampNeg (some ob) b = none
          have hz := zi_n (C.1 1)
          rw [hr1, hc1, va_n (by omega)]
          exact a5 b (by omega)
      · show M1.1 0 + 0 = M.1 0
        rw [Int32.add_zero]
        exact h4.1.1 0 (by decide)
      · show (M.1 1).toInt ≤ (M1.1 1 + 1).toInt
        rw [hr, ← a1]
        omega
      · exact fun l cs hll hk hR => hold _ l cs rfl rfl rfl rfl rfl rfl hll hk hR
    · rw [if_pos (show 0 ≤ x by rw [zi_le]; omega), if_neg q, if_pos rfl, k_96]
      have h2 := h2 q
      refine ⟨_, _, si M1 2 0, [], by rw [List.append_nil], ?_, iTx_0 _ _, ?_, fC.trans fCl (fC_c1 (by decide)), fM.trans fMl (fM_si (by decide)), h4.1.1 0 (by decide), ?_, ?_⟩
      · show some (-10 - M1.1 3, si M1 2 0) = _
        rw [show M1.1 3 = x from zi_eq.mpr (h2.trans f2.symm)]
      · rw [List.append_nil]
        refine ⟨?_, ?_, ?_, fun b hbb => ?_, fun b hbb => ?_⟩
        · show C1.1 1 = M1.1 1
          rw [hc1, a1]
          exact (h4.1.1 1 (by decide)).symm
        · show 0 ≤ (C1.1 1).toInt
          rw [hc1]
          exact a2
        · show (C1.1 1).toInt ≤ 5
          rw [hc1]
          exact a3
        · have hbb : (b : Int) < (C1.1 1).toInt := hbb
          rw [hc1] at hbb
          obtain ⟨cs, lo, c1, c2, c3, c4⟩ := a4 b hbb
          refine ⟨cs, lo, c1, ?_, c3, hold _ b cs rfl rfl rfl rfl rfl rfl (by rw [← a1]; exact hbb) c1 c4⟩
          show C1.2.2.2.1 1 b = some lo
          rw [hr1]
          exact c2
        · have hbb : (C1.1 1).toInt ≤ (b : Int) := hbb
          rw [hc1] at hbb
          show C1.2.2.2.1 1 b = none
          rw [hr1]
          exact a5 b hbb
      · show (M.1 1).toInt ≤ (M1.1 1).toInt
        rw [show M1.1 1 = M.1 1 from h4.1.1 1 (by decide)]
        exact Int.le_refl _
      · exact fun l cs hll hk hR => hold _ l cs rfl rfl rfl rfl rfl rfl hll hk hR
  · have q6' := mt zi_lt.mpr q6
    have heq : M.1 1 = 5 := by
      rw [← a1]
      exact zi_eq.mpr (by omega)
    rw [if_neg q6, if_pos heq]
    exact ⟨-4, C, M, [], by rw [List.append_nil]; rfl, rfl, hT, by rw [List.append_nil]; exact hB, fC.rfl, fM.rfl, rfl, Int.le_refl _, fun l cs _ _ h => h⟩
theorem o_textN (C : CS) (M M2 : MS) (D : List va_E) (x : Int32) (h0 : x ≠ 0) (h1 : x ≠ 1) : X7_text (mh (ccells C) M2 D) 0 x = some (-1, mh (ccells C) M2 D) ∧ X8_text M x = some (-1, M) := by
  have e0 : (0 : Int32).toInt = 0 := rfl
  have e1 : (1 : Int32).toInt = 1 := rfl
  refine ⟨?_, ?_⟩
  · unfold X7_text X7_text_0
    rw [if_neg h0, if_neg h1]
  · unfold X8_text X8_text_0
    rw [r_in, bsm]
    dsimp only
    rw [i01, if_neg]
    intro c
    have c1 := zi_le.mp c.1
    have c2 := zi_le.mp c.2
    have h0 := mt zi_eq.mpr h0
    have h1 := mt zi_eq.mpr h1
    omega
