/-! ===== word, reads, means ===== -/
theorem k_bargainOf (C : CS) (M : MS) (D : List va_E) (x : Int32) : cO (mh (ccells C) M D) 0 7 (X7_bargainOf (mh (ccells C) M D) 0 x) = some (if 0 ≤ x.toInt ∧ x.toInt < 6 then C.2.2.2.1 0 x.toNatClampNeg else none, mh (ccells C) M D) := by
  have hc : cO (mh (ccells C) M D) 0 7 (X7_bargainOf (mh (ccells C) M D) 0 x) = X7_bargainOf (mh (ccells C) M D) 0 x := rfl
  have g2 : gQ (mh (ccells C) M D) 0 7 2 = some (some 6) := rfl
  have g3 : aN (mh (ccells C) M D) (some 6) = some 6 := rfl
  have e0 : (0 : Int32).toInt = 0 := rfl
  have e6 : (6 : Int32).toInt = 6 := rfl
  rw [hc]
  unfold X7_bargainOf X7_bargainOf_0 X7_bargainOf_22 X7_bargainOf_23
  by_cases h0 : x < 0
  · have := zi_lt.mp h0
    rw [if_pos h0, if_neg (fun c => by omega)]
  · have p0 := mt zi_lt.mpr h0
    rw [if_neg h0, g2, bsm, g3, bsm]
    by_cases h1 : 6 ≤ x
    · have := zi_le.mp h1
      rw [if_pos h1, if_neg (fun c => by omega)]
    · have p1 := mt zi_le.mpr h1
      have g4 : aQ 4 (mh (ccells C) M D) (some 6) x = some (C.2.2.2.1 0 x.toNatClampNeg) := by
        show (if _ = _ ∧ _ then _ else _) = _
        rw [if_pos ⟨rfl, ix_ok (by omega) (by omega)⟩]
      rw [if_neg h1, bsm, g4, bsm, if_pos ⟨by omega, by omega⟩]
theorem r_isBargain (M : MS) (x : Int32) : X8_isBargain M x = some (if 0 ≤ x ∧ x ≤ M.1 0 - 1 then 1 else 0, M) := by
  unfold X8_isBargain X8_isBargain_0
  rw [r_in, bsm]
  by_cases h : 0 ≤ x ∧ x ≤ M.1 0 - 1
  · rw [if_pos h]
    exact zg_z _ _ (.inr rfl)
  · rw [if_neg h]
    exact zg_z _ _ (.inl rfl)
def bgY (C : CS) (M : MS) (D : List va_E) (x : Int32) (b : Nat) (zl : List Wd) (ob : Nat) : Prop := x.toInt = b ∧ b < 6 ∧ okB zl ∧ BVD D ob zl ∧ rBg M b zl ∧ (∀ (C' : CS) (M2 : MS), C'.2.2.2.1 0 = C.2.2.2.1 0 → cO (mh (ccells C') M2 D) 0 7 (X7_bargainOf (mh (ccells C') M2 D) 0 x) = some (some ob, mh (ccells C') M2 D)) ∧ (∀ M' : MS, M'.1 0 = M.1 0 → X8_isBargain M' x = some (1, M')) ∧ (b : Int) < (M.1 0).toInt
def bgN (C : CS) (M : MS) (D : List va_E) (x : Int32) : Prop := (∀ (C' : CS) (M2 : MS), C'.2.2.2.1 0 = C.2.2.2.1 0 → cO (mh (ccells C') M2 D) 0 7 (X7_bargainOf (mh (ccells C') M2 D) 0 x) = some (none, mh (ccells C') M2 D)) ∧ ∀ M' : MS, M'.1 0 = M.1 0 → X8_isBargain M' x = some (0, M')
theorem bg_case {C : CS} {M : MS} {D : List va_E} (h : iBs (C.1 0) (C.2.2.2.1 0) D M) (x : Int32) : (∃ b zl ob, bgY C M D x b zl ob) ∨ bgN C M D x := by
  obtain ⟨a1, a2, a3, a4, a5⟩ := h
  have e0 : (0 : Int32).toInt = 0 := rfl
  have e1 : (1 : Int32).toInt = 1 := rfl
  have es : (M.1 0 - 1).toInt = (M.1 0).toInt - 1 := by
    rw [← a1]
    rw [zi_sub (by omega) (by omega), e1]
  have hz := zi_n x
  by_cases q : 0 ≤ x.toInt ∧ x.toInt < (C.1 0).toInt
  · left
    obtain ⟨zl, ob, b1, b2, b3, b4⟩ := a4 x.toInt.toNat (by omega)
    refine ⟨x.toInt.toNat, zl, ob, by omega, by omega, b1, b3, b4, fun C' M2 hc => ?_, fun M' hm => ?_, by rw [← a1]; omega⟩
    · rw [k_bargainOf, if_pos ⟨q.1, by omega⟩, hc, hz, b2]
    · rw [r_isBargain, hm, if_pos ⟨zi_le.mpr (by omega), zi_le.mpr (by rw [es, ← a1]; omega)⟩]
  · right
    refine ⟨fun C' M2 hc => ?_, fun M' hm => ?_⟩
    · rw [k_bargainOf]
      by_cases q2 : 0 ≤ x.toInt ∧ x.toInt < 6
      · rw [if_pos q2, hc, hz, a5 x.toInt.toNat (by omega)]
      · rw [if_neg q2]
    · rw [r_isBargain, hm, if_neg (fun c => q ⟨by have := zi_le.mp c.1; omega, by have := zi_le.mp c.2; rw [es, ← a1] at this; omega⟩)]
theorem o_word (C : CS) (M M2 : MS) (D : List va_E) (x i : Int32) (hB : iBs (C.1 0) (C.2.2.2.1 0) D M) : ∃ r, X7_word (mh (ccells C) M2 D) 0 x i = some (r, mh (ccells C) M2 D) ∧ X8_word M x i = some (r, M) := by
  have e1 : (1 : Int32).toInt = 1 := rfl
  have e0 : (0 : Int32).toInt = 0 := rfl
  have em : (-1 : Int32).toInt = -1 := rfl
  have e12 : (12 : Int32).toInt = 12 := rfl
  have z1 : ¬ (1 : Int32) = 0 := by decide
  unfold X7_word X7_word_0 X7_word_23 X7_word_42 X8_word X8_word_0 X8_word_25 X8_word_66
  rcases bg_case hB x with ⟨b, zl, ob, y1, y2, y3, y4, y5, y6, y7, -⟩ | ⟨n1, n2⟩
  · have hl := y3.1
    have hn : (M.2.1 8 b - 1).toInt = (zl.length : Int) - 1 := by
      rw [zi_sub (by rw [y5.1]; omega) (by rw [y5.1]; omega), y5.1, e1]
    rw [y6 C M2 rfl, y7 M rfl, bsm, bsm, prs, ifs]
    dsimp only
    rw [if_neg z1, mA_ok (j := 8) (q := b) y1 (by show b < 6; omega), bsm, r_in, bsm, i01]
    dsimp only
    by_cases h1 : i < -1
    · have := zi_lt.mp h1
      rw [if_pos h1, if_neg (show ¬ (-1 ≤ i ∧ i ≤ M.2.1 8 b - 1) from fun c => by have := zi_le.mp c.1; omega)]
      exact ⟨_, rfl, rfl⟩
    · have p1 := mt zi_lt.mpr h1
      rw [if_neg h1, v_size y4 C M2, bsm]
      dsimp only
      by_cases h2 : i < Int32.ofNat zl.length
      · have p2 := zi_lt.mp h2
        rw [zo (by omega)] at p2
        rw [if_pos h2, if_pos (show -1 ≤ i ∧ i ≤ M.2.1 8 b - 1 from ⟨zi_le.mpr (by omega), zi_le.mpr (by omega)⟩)]
        by_cases h3 : i = -1
        · subst h3
          rw [if_pos rfl, if_neg (show ¬ (0 : Int32) ≤ -1 by decide), v_size y4 C M2, bsm, mA_ok (j := 8) (q := b) y1 (by show b < 6; omega), bsm]
          refine ⟨_, rfl, ?_⟩
          rw [show M.2.1 8 b = Int32.ofNat zl.length from zi_eq.mpr (by rw [y5.1, zo (by omega)])]
        · have p3 : i.toInt ≠ -1 := fun c => h3 (zi_eq.mpr c)
          obtain ⟨k, k1, k2, k3⟩ := q_n (x := i) (k := zl.length - 1) (by omega) (by omega)
          have hkl : k < zl.length := by omega
          have hv := List.getElem?_eq_getElem hkl
          have hx12 : (12 * x).toInt = 12 * b := by
            rw [zi_mul (by rw [e12]; omega) (by rw [e12]; omega), e12, y1]
          have hix : (12 * x + i).toInt = ((12 * b + k : Nat) : Int) := by
            rw [zi_add (by omega) (by omega)]
            omega
          rw [if_neg h3, if_pos (show (0 : Int32) ≤ i from zi_le.mpr (by omega)), v_wordAt y4 y3 C M2 k3 hv, bsm, mA_ok (j := 6) (q := 12 * b + k) hix (by show _ < 72; omega), bsm, mA_ok (j := 7) (q := 12 * b + k) hix (by show _ < 72; omega), bsm]
          have hw := y5.2 k _ hv
          refine ⟨_, rfl, ?_⟩
          rw [hw]
      · have p2 := mt zi_lt.mpr h2
        rw [zo (by omega)] at p2
        rw [if_neg h2, if_neg (show ¬ (-1 ≤ i ∧ i ≤ M.2.1 8 b - 1) from fun c => by have := zi_le.mp c.2; omega)]
        exact ⟨_, rfl, rfl⟩
  · rw [n1 C M2 rfl, n2 M rfl, bsm, bsm, prs, ifz, if_pos rfl]
    exact ⟨_, rfl, rfl⟩
/-- a call that only asks: the same answer, and only scratch cells changed -/
def asks {α : Type} (C : CS) (M M2 : MS) (D : List va_E) (f7 : Option (α × AH)) (f8 : Option (α × MS)) : Prop := ∃ r C' M', f7 = some (r, mh (ccells C') M2 D) ∧ f8 = some (r, M') ∧ frC C C' ∧ frS M M'
theorem o_reads (C : CS) (M M2 : MS) (D : List va_E) (x st : Int32) (hC : lf12 C) (hB : iBs (C.1 0) (C.2.2.2.1 0) D M) : asks C M M2 D (X7_reads (mh (ccells C) M2 D) 0 x st) (X8_reads M x st) := by
  have z1 : ¬ (1 : Int32) = 0 := by decide
  unfold X7_reads X7_reads_0 X7_reads_36 X8_reads X8_reads_0 X8_reads_36
  rcases bg_case hB x with ⟨b, zl, ob, y1, y2, y3, y4, y5, y6, y7, -⟩ | ⟨n1, n2⟩
  · rw [y6 C M2 rfl, y7 M rfl, bsm, bsm, prs, ifs, v_hasSet y4 y3 C M2 st, bsm, i01]
    dsimp only
    rw [if_neg z1, r_isSet y2 y3 y1 y5, bsm, i01]
    by_cases q : inS zl st
    · rw [if_pos q, if_pos q, v_readable y4 y3 C M2 st, bsm, i01]
      dsimp only
      obtain ⟨l1, l2⟩ := r_leftB (st := st) y2 y3 y1 y5
      cases hr : rdS zl st with
      | none =>
        obtain ⟨M', a1, a2⟩ := l1 hr
        rw [if_neg (fun c => by cases c.2), a1, bsm, if_pos rfl]
        exact ⟨0, C, M', rfl, rfl, frC.rfl hC, frL_S a2⟩
      | some ds =>
        obtain ⟨M', a1, a2, a3⟩ := l2 ds hr
        rw [if_pos ⟨q, rfl⟩, a1, bsm, if_neg z1]
        exact ⟨1, C, M', rfl, rfl, frC.rfl hC, frL_S a3⟩
    · rw [if_neg q, if_neg q]
      exact ⟨_, C, M, rfl, rfl, frC.rfl hC, frS.rfl⟩
  · rw [n1 C M2 rfl, n2 M rfl, bsm, bsm, prs, ifz, if_pos rfl]
    exact ⟨_, C, M, rfl, rfl, frC.rfl hC, frS.rfl⟩
theorem r_dutyOf {M : MS} {ds : List Dt} {i : Int32} {k : Nat} {z : Dt} (h : dM M ds) (hi : i.toInt = k) (hz : ds[k]? = some z) : X8_dutyOf M i = some (dLg z, M) := by
  obtain ⟨h1, h2, h3⟩ := h
  have hk := (List.getElem?_eq_some_iff.mp hz).1
  have e := h3 k z hz
  unfold X8_dutyOf X8_dutyOf_0
  rw [mA_ok (j := 21) (q := k) hi (by show k < 12; omega), bsm, mA_ok (j := 22) (q := k) hi (by show k < 12; omega), bsm, mA_ok (j := 23) (q := k) hi (by show k < 12; omega), bsm, mA_ok (j := 24) (q := k) hi (by show k < 12; omega), bsm, mA_ok (j := 25) (q := k) hi (by show k < 12; omega), bsm, mA_ok (j := 26) (q := k) hi (by show k < 12; omega), bsm, e]
  rfl
theorem left_q (C : CS) (M : MS) (D : List va_E) : gQ (mh (ccells C) M D) 0 7 7 = some (some 12) := rfl
theorem o_means (C : CS) (M M2 : MS) (D : List va_E) (x st i : Int32) (hC : lf12 C) (hB : iBs (C.1 0) (C.2.2.2.1 0) D M) : asks C M M2 D (X7_means (mh (ccells C) M2 D) 0 x st i) (X8_means M x st i) := by
  have z1 : ¬ (1 : Int32) = 0 := by decide
  have e0 : (0 : Int32).toInt = 0 := rfl
  have e1 : (1 : Int32).toInt = 1 := rfl
  have em : (-1 : Int32).toInt = -1 := rfl
  unfold X7_means X7_means_0 X7_means_21 X7_means_51 X7_means_80 X8_means X8_means_0 X8_means_41 X8_means_62
  rcases bg_case hB x with ⟨b, zl, ob, y1, y2, y3, y4, y5, y6, y7, -⟩ | ⟨n1, n2⟩
  · rw [y6 C M2 rfl, y7 M rfl, bsm, bsm, prs, ifs, v_readable y4 y3 C M2 st, bsm, i01]
    dsimp only
    rw [if_neg z1, r_isSet y2 y3 y1 y5, bsm, i01]
    by_cases q : inS zl st
    · obtain ⟨l1, l2⟩ := r_leftB (st := st) y2 y3 y1 y5
      rw [if_pos q]
      cases hr : rdS zl st with
      | none =>
        obtain ⟨M', a1, a2⟩ := l1 hr
        rw [if_neg (fun c => by cases c.2), a1, bsm, if_pos rfl]
        exact ⟨_, C, M', rfl, rfl, frC.rfl hC, frL_S a2⟩
      | some ds =>
        obtain ⟨M', a1, a2, a3⟩ := l2 ds hr
        obtain ⟨C', t1, t2, t3, t4⟩ := v_tell (M := M2) hC y4 y3 hr
        have hV := lV_dV t3 M2 D
        have hl : ds.length ≤ 12 := a2.2.1
        have hn : (M'.1 28 - 1).toInt = (ds.length : Int) - 1 := by
          rw [zi_sub (by rw [a2.1]; omega) (by rw [a2.1]; omega), a2.1, e1]
        rw [if_pos ⟨q, rfl⟩, a1, bsm, if_neg z1, left_q, bsm, t1, bsm, r_in, bsm, i01]
        dsimp only
        by_cases h1 : i < -1
        · have := zi_lt.mp h1
          rw [if_pos h1, if_neg (show ¬ (-1 ≤ i ∧ i ≤ M'.1 28 - 1) from fun c => by have := zi_le.mp c.1; omega)]
          exact ⟨_, C', M', rfl, rfl, t2, frL_S a3⟩
        · have p1 := mt zi_lt.mpr h1
          rw [if_neg h1, left_q, bsm, bsm, dV_size hV, bsm, List.length_map]
          dsimp only
          by_cases h2 : i < Int32.ofNat ds.length
          · have p2 := zi_lt.mp h2
            rw [zo (by omega)] at p2
            rw [if_pos h2, if_pos (show -1 ≤ i ∧ i ≤ M'.1 28 - 1 from ⟨zi_le.mpr (by omega), zi_le.mpr (by omega)⟩)]
            by_cases h3 : i = -1
            · subst h3
              rw [if_pos rfl, if_neg (show ¬ (0 : Int32) ≤ -1 by decide), left_q, bsm, bsm, dV_size hV, bsm, List.length_map]
              refine ⟨_, C', M', rfl, ?_, t2, frL_S a3⟩
              rw [show M'.1 28 = Int32.ofNat ds.length from zi_eq.mpr (by rw [a2.1, zo (by omega)])]
            · have p3 : i.toInt ≠ -1 := fun c => h3 (zi_eq.mpr c)
              obtain ⟨k, k1, k2, k3⟩ := q_n (x := i) (k := ds.length - 1) (by omega) (by omega)
              have hkl : k < ds.length := by omega
              have hv := List.getElem?_eq_getElem hkl
              have hm : (ds.map dpk).getD k 0 = dpk ds[k] := by
                rw [List.getD_eq_getElem?_getD, List.getElem?_map, hv]
                rfl
              rw [if_neg h3, if_pos (show (0 : Int32) ≤ i from zi_le.mpr (by omega)), left_q, bsm, bsm, dV_at hV k3, hm, bsm, r_dutyOf a2 k3 hv, bsm]
              exact ⟨_, C', M', rfl, by rw [dLg_n (t4 _ (List.getElem_mem hkl))], t2, frL_S a3⟩
          · have p2 := mt zi_lt.mpr h2
            rw [zo (by omega)] at p2
            rw [if_neg h2, if_neg (show ¬ (-1 ≤ i ∧ i ≤ M'.1 28 - 1) from fun c => by have := zi_le.mp c.2; omega)]
            exact ⟨_, C', M', rfl, rfl, t2, frL_S a3⟩
    · rw [if_neg q, if_neg (fun c => q c.1)]
      exact ⟨_, C, M, rfl, rfl, frC.rfl hC, frS.rfl⟩
  · rw [n1 C M2 rfl, n2 M rfl, bsm, bsm, prs, ifz, if_pos rfl]
    exact ⟨_, C, M, rfl, rfl, frC.rfl hC, frS.rfl⟩
