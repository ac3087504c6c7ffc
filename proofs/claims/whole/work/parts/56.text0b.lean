theorem k_clear (C : CS) (M2 : MS) (D : List va_E) : cO (mh (ccells C) M2 D) 1 6 (X6_clear (mh (ccells C) M2 D) 1) = some ((), mh (ccells (c1 C 2 0)) M2 D) := rfl
theorem k_96 (C : CS) (M2 : MS) (D : List va_E) (x : Int32) : X7_text_96 (mh (ccells C) M2 D) 0 x = some (x, mh (ccells (c1 C 2 0)) M2 D) := by
  have g1 : gQ (mh (ccells C) M2 D) 0 7 0 = some (some 1) := rfl
  unfold X7_text_96
  rw [g1, bsm, bsm, k_clear, bsm]
theorem iTx_0 (b7 b8 : Nat → Int32) : iTx 0 b7 0 b8 := ⟨rfl, Int.le_refl 0, by decide, fun i hi => by
  have : (0 : Int32).toInt = 0 := rfl
  omega⟩
theorem pWd_ge : ∀ (n p : Nat) (bs : List Int32), -1 ≤ (pWd n p bs).1 ∧ ((pWd n p bs).1 < 0 → (pWd n p bs).1 = -1)
  | 0, p, bs => by
    unfold pWd
    dsimp only
    omega
  | n + 1, p, [] => by
    unfold pWd
    dsimp only
    omega
  | n + 1, p, [c] => by
    unfold pWd
    by_cases h1 : fgr c
    · rw [if_pos h1]
      dsimp only
      omega
    · rw [if_neg h1]
      by_cases h2 : bre c
      · rw [if_pos h2]
        dsimp only
        omega
      · rw [if_neg h2]
        dsimp only
        omega
  | n + 1, p, c :: d :: t => by
    unfold pWd
    by_cases h1 : fgr c
    · rw [if_pos h1]
      by_cases h3 : isf d
      · rw [if_pos h3]
        by_cases h4 : t = []
        · rw [if_pos h4]
          dsimp only
          omega
        · rw [if_neg h4]
          exact pWd_ge n (p + 2) t
      · rw [if_neg h3]
        dsimp only
        omega
    · rw [if_neg h1]
      by_cases h2 : bre c
      · rw [if_pos h2]
        exact pWd_ge n (p + 1) (d :: t)
      · rw [if_neg h2]
        dsimp only
        omega
theorem va_s {α : Type} {f : Nat → α} {k : Nat} {v : α} : va_up f k v k = v := if_pos rfl
theorem va_n {α : Type} {f : Nat → α} {k j : Nat} {v : α} (h : j ≠ k) : va_up f k v j = f j := if_neg h
theorem o_text0 (C : CS) (M M2 : MS) (D : List va_E) (hT : iTx (C.1 2) (C.2.1 0) (M.1 2) (M.2.1 5)) (hB : iBs (C.1 0) (C.2.2.2.1 0) D M) : ∃ r C' M' X, X7_text (mh (ccells C) M2 D) 0 0 = some (r, mh (ccells C') M2 (D ++ X)) ∧ X8_text M 0 = some (r, M') ∧ iTx (C'.1 2) (C'.2.1 0) (M'.1 2) (M'.2.1 5) ∧ iBs (C'.1 0) (C'.2.2.2.1 0) (D ++ X) M' ∧ fC C C' [0, 2] [] [] [0] ∧ C'.2.2.2.2 = C.2.2.2.2 ∧ fM M M' [0, 1, 2, 3] [6, 7, 8] [] ∧ M'.1 1 = M.1 1 ∧ (M.1 0).toInt ≤ (M'.1 0).toInt ∧ ∀ (b : Nat) (zl : List Wd), (b : Int) < (M.1 0).toInt → rBg M b zl → zl.length ≤ 12 → rBg M' b zl := by
  obtain ⟨bs, tV1, rT1⟩ := tx_V hT
  obtain ⟨a1, a2, a3, a4, a5⟩ := id hB
  have e0 : (0 : Int32).toInt = 0 := rfl
  have e6 : (6 : Int32).toInt = 6 := rfl
  have z1 : ¬ (1 : Int32) = 0 := by decide
  have g1 : gI (mh (ccells C) M2 D) 0 7 8 = some (C.1 0) := rfl
  have g2 : gQ (mh (ccells C) M2 D) 0 7 2 = some (some 6) := rfl
  have g3 : aN (mh (ccells C) M2 D) (some 6) = some 6 := rfl
  have g4 : gQ (mh (ccells C) M2 D) 0 7 0 = some (some 1) := rfl
  unfold X7_text X7_text_0 X7_text_11 X8_text X8_text_0
  rw [if_pos rfl, if_pos rfl, g1, bsm, g2, bsm, g3, bsm, r_in, bsm, i01, if_pos (show (0 : Int32) ≤ 0 ∧ (0 : Int32) ≤ 1 by decide), if_pos rfl]
  by_cases q6 : C.1 0 < 6
  · have q6' := zi_lt.mp q6
    have hneq : ¬ M.1 0 = 6 := fun c => by
      rw [← a1] at c
      rw [c] at q6'
      omega
    rw [if_pos q6, if_neg hneq]
    have T1 := tV1 C M2 D rfl rfl
    obtain ⟨x, f1, f2⟩ := k_faultW T1
    have hb : (M.1 0).toInt = ((M.1 0).toInt.toNat : Nat) := by
      rw [← a1]
      omega
    obtain ⟨M1, h1, h2, h3, h4⟩ := r_goesW (b := (M.1 0).toInt.toNat) (by rw [← a1]; omega) hb rT1
    unfold X7_text_45 X8_text_39
    rw [if_pos rfl, g4, bsm, f1, bsm, if_pos rfl, h1, bsm]
    unfold X7_text_70 X8_text_62
    dsimp only
    have hge := pWd_ge 12 0 bs
    by_cases q : (pWd 12 0 bs).1 = -1
    · rw [if_neg (show ¬ 0 ≤ x by rw [zi_le]; omega), if_pos rfl, if_pos q, if_neg z1, if_pos rfl]
      obtain ⟨w1, w2, w3, w4⟩ := pWd_ok 12 0 bs q
      obtain ⟨X, ob, b1, b2⟩ := k_addB T1 w1 w2 w4 a2 (by omega)
      rw [b1, bsm]
      unfold X7_text_95 X8_text_94 X8_text_127
      rw [if_pos rfl, k_96]
      have hr : M1.1 0 = M.1 0 := h4.1.1 0 (by decide)
      refine ⟨C.1 0, _, si (si (si M1 2 0) 0 (M1.1 0 + 1)) 1 (M1.1 1 + 0), X, rfl, ?_, iTx_0 _ _, ?_, ?_, rfl, ?_, ?_, ?_, ?_⟩
      · have e1 : C.1 0 = M1.1 0 + 1 - 1 := by rw [Int32.add_sub_cancel, hr, a1]
        rw [e1]
        rfl
      · refine ⟨?_, ?_, ?_, fun b hbb => ?_, fun b hbb => ?_⟩
        · show C.1 0 + 1 = M1.1 0 + 1
          rw [hr, a1]
        · show 0 ≤ (C.1 0 + 1).toInt
          rw [zi_inc rfl (by omega) (by omega)]
          omega
        · show (C.1 0 + 1).toInt ≤ 6
          rw [zi_inc rfl (by omega) (by omega)]
          omega
        · have hbb : (b : Int) < (C.1 0 + 1).toInt := hbb
          rw [zi_inc rfl (by omega) (by omega)] at hbb
          show ∃ zl ob', okB zl ∧ va_up (C.2.2.2.1 0) (C.1 0).toNatClampNeg (some ob) b = some ob' ∧ BVD (D ++ X) ob' zl ∧ rBg M1 b zl
          have hz := zi_n (C.1 0)
          by_cases e : b = (C.1 0).toNatClampNeg
          · refine ⟨(pWd 12 0 bs).2, ob, ⟨w2, w3, fun w hw => (w4 w hw).1⟩, by rw [e, va_s], b2, ?_⟩
            have h3 := h3 q
            rw [← a1] at h3
            rw [e, hz]
            exact h3
          · obtain ⟨zl, ob', c1, c2, c3, c4⟩ := a4 b (by omega)
            refine ⟨zl, ob', c1, by rw [va_n e]; exact c2, BVD_app c3, rBg_frW h4 ?_ c1.1 c4⟩
            rw [← a1]
            omega
        · have hbb : (C.1 0 + 1).toInt ≤ (b : Int) := hbb
          rw [zi_inc rfl (by omega) (by omega)] at hbb
          show va_up (C.2.2.2.1 0) (C.1 0).toNatClampNeg (some ob) b = none
          have hz := zi_n (C.1 0)
          rw [va_n (by omega)]
          exact a5 b (by omega)
      · exact fC.trans (fC.trans (fC_c4 (by decide)) (fC_c1 (by decide))) (fC_c1 (by decide))
      · exact fM.trans (fM_mono h4.1 (by decide) (by decide) (by decide)) (fM.trans (fM_si (by decide)) (fM.trans (fM_si (by decide)) (fM_si (by decide))))
      · show M1.1 1 + 0 = M.1 1
        rw [Int32.add_zero]
        exact h4.1.1 1 (by decide)
      · show (M.1 0).toInt ≤ (M1.1 0 + 1).toInt
        rw [hr, ← a1, zi_inc rfl (by omega) (by omega)]
        omega
      · intro b zl hbb hr2 hl
        refine rBg_M (M := M1) rfl rfl rfl (rBg_frW h4 (by omega) hl hr2)
    · rw [if_pos (show 0 ≤ x by rw [zi_le]; omega), if_neg q, if_pos rfl, k_96]
      have h2 := h2 q
      refine ⟨_, _, si M1 2 0, [], by rw [List.append_nil], ?_, iTx_0 _ _, ?_, fC_c1 (by decide), rfl, ?_, h4.1.1 1 (by decide), ?_, ?_⟩
      · show some (-10 - M1.1 3, si M1 2 0) = _
        rw [show M1.1 3 = x from zi_eq.mpr (h2.trans f2.symm)]
      · rw [List.append_nil]
        refine ⟨?_, a2, a3, fun b hbb => ?_, a5⟩
        · show C.1 0 = M1.1 0
          rw [a1]
          exact (h4.1.1 0 (by decide)).symm
        · obtain ⟨zl, ob', c1, c2, c3, c4⟩ := a4 b hbb
          refine ⟨zl, ob', c1, c2, c3, rBg_M (M := M1) rfl rfl rfl (rBg_frW h4 ?_ c1.1 c4)⟩
          rw [← a1]
          have hbb : (b : Int) < (C.1 0).toInt := hbb
          omega
      · exact fM.trans (fM_mono h4.1 (by decide) (by decide) (by decide)) (fM_si (by decide))
      · show (M.1 0).toInt ≤ (M1.1 0).toInt
        rw [show M1.1 0 = M.1 0 from h4.1.1 0 (by decide)]
        exact Int.le_refl _
      · intro b zl hbb hr2 hl
        exact rBg_M (M := M1) rfl rfl rfl (rBg_frW h4 (by omega) hl hr2)
  · have q6' := mt zi_lt.mpr q6
    have heq : M.1 0 = 6 := by
      rw [← a1]
      exact zi_eq.mpr (by omega)
    rw [if_neg q6, if_pos heq]
    refine ⟨-4, C, M, [], by rw [List.append_nil]; rfl, rfl, hT, by rw [List.append_nil]; exact hB, fC.rfl, rfl, fM.rfl, rfl, Int.le_refl _, fun b zl _ h _ => h⟩
