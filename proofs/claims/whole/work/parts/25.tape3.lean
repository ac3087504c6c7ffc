/-! ===== item, shift ===== -/
def narT (so : Int32) (v : Int64) : Int64 := if so = 0 then ((((((v).toInt32)).toInt8.toInt32)).toInt64) else if so = 1 then ((((((v).toInt32)).toInt16.toInt32)).toInt64) else if so = 2 then ((((v).toInt32)).toInt64) else if so = 3 then v else if (lg_cmp v (0 : Int64)) = 0 then 0 else 1
theorem k_asItem (C : CS) (M : MS) (D : List va_E) {t : Nat} (ht : t < 6) (v : Int64) : cO (mh (ccells C) M D) (14 + 2 * t) 5 (X5_asItem (mh (ccells C) M D) (14 + 2 * t) v) = some (narT (C.1 (15 + 2 * t)) v, mh (ccells C) M D) := by
  unfold cO X5_asItem X5_asItem_0 X5_asItem_63 narT
  rw [if_pos (tp_O C M D t ht), tp_so C M D t ht, Option.bind_some]
  by_cases h0 : C.1 (15 + 2 * t) = 0
  · rw [if_pos h0, if_pos h0]
  · rw [if_neg h0, if_neg h0]
    by_cases h1 : C.1 (15 + 2 * t) = 1
    · rw [if_pos h1, if_pos h1]
    · rw [if_neg h1, if_neg h1]
      by_cases h2 : C.1 (15 + 2 * t) = 2
      · rw [if_pos h2, if_pos h2]
      · rw [if_neg h2, if_neg h2]
        by_cases h3 : C.1 (15 + 2 * t) = 3
        · rw [if_pos h3, if_pos h3]
        · rw [if_neg h3, if_neg h3]
          by_cases h4 : lg_cmp v 0 = 0
          · rw [if_pos h4, if_pos h4]
          · rw [if_neg h4, if_neg h4]
theorem r_narrow (M : MS) {so : Int32} (h : 0 ≤ so.toInt) (hq : so.toInt ≤ 4) (v : Int64) : X8_narrow M so v = some (narT so v, M) := by
  unfold X8_narrow X8_narrow_0 X8_narrow_54 narT
  by_cases h0 : so = 0
  · rw [if_pos h0, if_pos h0]
  · rw [if_neg h0, if_neg h0]
    by_cases h1 : so = 1
    · rw [if_pos h1, if_pos h1]
    · rw [if_neg h1, if_neg h1]
      by_cases h2 : so = 2
      · rw [if_pos h2, if_pos h2]
      · rw [if_neg h2, if_neg h2]
        have n0 : so.toInt ≠ 0 := fun c => h0 (zi_eq.mpr c)
        have n1 : so.toInt ≠ 1 := fun c => h1 (zi_eq.mpr c)
        have n2 : so.toInt ≠ 2 := fun c => h2 (zi_eq.mpr c)
        by_cases h3 : so = 3
        · rw [if_pos h3, if_neg (show ¬ so = 4 by rw [h3]; decide)]
        · have n3 : so.toInt ≠ 3 := fun c => h3 (zi_eq.mpr c)
          have h4 : so = 4 := zi_eq.mpr (show so.toInt = 4 by omega)
          rw [if_neg h3, if_pos h4]
          by_cases h5 : lg_cmp v 0 = 0
          · rw [if_pos h5, if_pos h5]
          · rw [if_neg h5, if_neg h5]
theorem k_holds (C : CS) (M : MS) (D : List va_E) {t : Nat} (ht : t < 6) : cO (mh (ccells C) M D) (14 + 2 * t) 5 (X5_holds (mh (ccells C) M D) (14 + 2 * t)) = some (if C.1 (15 + 2 * t) = -1 then 0 else 1, mh (ccells C) M D) := by
  unfold cO X5_holds X5_holds_0 X5_holds_13 zg
  rw [if_pos (tp_O C M D t ht), tp_so C M D t ht, Option.bind_some]
  by_cases h : C.1 (15 + 2 * t) = -1
  · rw [if_pos h, if_pos h]; rfl
  · rw [if_neg h, if_neg h]; rfl
theorem k_size (C : CS) (M : MS) (D : List va_E) {t : Nat} (ht : t < 6) : cO (mh (ccells C) M D) (14 + 2 * t) 5 (X5_size (mh (ccells C) M D) (14 + 2 * t)) = some (C.1 (16 + 2 * t), mh (ccells C) M D) := by
  unfold cO X5_size X5_size_0
  rw [if_pos (tp_O C M D t ht), tp_sz C M D t ht, Option.bind_some]
theorem k_sort (C : CS) (M : MS) (D : List va_E) {t : Nat} (ht : t < 6) : cO (mh (ccells C) M D) (14 + 2 * t) 5 (X5_sort (mh (ccells C) M D) (14 + 2 * t)) = some (C.1 (15 + 2 * t), mh (ccells C) M D) := by
  unfold cO X5_sort X5_sort_0
  rw [if_pos (tp_O C M D t ht), tp_so C M D t ht, Option.bind_some]
theorem o_item (C : CS) (M M2 : MS) (D : List va_E) (x i : Int32) (v : Int64) (hT : iTp C M) : ∃ r C' M', X7_item (mh (ccells C) M2 D) 0 x i v = some (r, mh (ccells C') M2 D) ∧ X8_item M x i v = some (r, M') ∧ iTp C' M' ∧ fC C C' aTp [] [0, 1, 2, 3, 4, 5] [] ∧ C'.2.2.2.2 = C.2.2.2.2 ∧ fM M M' [] [39, 40] [41, 42] := by
  unfold X7_item X7_item_0 X7_item_38 X8_item X8_item_0
  have z1 : ¬ (1 : Int32) = 0 := by decide
  have e0 : (0 : Int32).toInt = 0 := rfl
  have e1 : (1 : Int32).toInt = 1 := rfl
  have em : (-1 : Int32).toInt = -1 := rfl
  have e60 : (60 : Int32).toInt = 60 := rfl
  rw [k_tapeOf, r_isTape]
  simp only [Option.bind_some, prp]
  by_cases h : 0 ≤ x ∧ x ≤ 5
  · obtain ⟨p0, p1, p2, p3⟩ := x5_of h
    obtain ⟨t1, t2, t3, t4, t5, t6, t7, t8⟩ := hT _ p2
    rw [if_pos h, if_pos h, if_neg z1, ifn_some]
    simp only [m39 M h, m40 M h, k_holds C M2 D p2, Option.bind_some, r_in]
    generalize ht : x.toNatClampNeg = t at p2 p3 t1 t2 t3 t4 t5 t6 t7 t8
    by_cases h1 : C.1 (15 + 2 * t) = -1
    · have := zi_eq.mp h1
      rw [if_pos h1, if_pos (show (0 : Int32) = 0 from rfl), if_neg (show ¬ 0 ≤ M.2.1 39 t from fun c => by have := zi_le.mp c; rw [← t1] at this; omega)]
      exact ⟨_, C, M, rfl, rfl, hT, fC.rfl, rfl, fM.rfl⟩
    · have n1 : (C.1 (15 + 2 * t)).toInt ≠ -1 := fun c => h1 (zi_eq.mpr c)
      rw [if_neg h1, if_neg z1, if_pos (show 0 ≤ M.2.1 39 t from zi_le.mpr (by rw [← t1]; omega))]
      have s1 : (M.2.1 40 t - 1).toInt = (C.1 (16 + 2 * t)).toInt - 1 := by rw [← t2, zi_sub (by omega) (by omega)]; rfl
      by_cases h2 : i < 0
      · have := ng_n h2
        rw [if_pos h2, if_neg (show ¬ (0 ≤ i ∧ i ≤ M.2.1 40 t - 1) from fun c => by have := zi_le.mp c.1; omega), if_pos (show (0 : Int32) = 0 from rfl)]
        exact ⟨_, C, M, rfl, rfl, hT, fC.rfl, rfl, fM.rfl⟩
      · have q0 := nn_n h2
        rw [if_neg h2, k_size C M2 D p2, Option.bind_some]
        dsimp only
        by_cases h3 : i < C.1 (16 + 2 * t)
        · have q1 := zi_lt.mp h3
          rw [if_pos h3, if_pos (show 0 ≤ i ∧ i ≤ M.2.1 40 t - 1 from ⟨zi_le.mpr (by omega), zi_le.mpr (by omega)⟩), if_neg z1, r_narrow M (by rw [← t1]; omega) (by rw [← t1]; omega), Option.bind_some]
          obtain ⟨a1, a2, a3⟩ := ix41 h q0 (show i.toInt < 60 by omega)
          have hz := zi_n i
          have k1 : ixOk i 60 = true := ix_ok q0 (by omega)
          have g8 : cO (mh (ccells C) M2 D) (14 + 2 * t) 5 (X5_put (mh (ccells C) M2 D) (14 + 2 * t) i v) = some ((), mh (ccells (c3 C t (vp_updL (C.2.2.1 t) i.toNatClampNeg (narT (C.1 (15 + 2 * t)) v)))) M2 D) := by
            unfold cO X5_put X5_put_0 X5_put_32
            rw [if_pos (tp_O C M2 D _ p2)]
            simp only [tp_sz C M2 D _ p2, tp_it C M2 D _ p2, tp_ln C M2 D _ p2, k_asItem C M2 D p2, tp_uL C M2 D p2 k1, Option.bind_some]
            rw [if_neg h2, if_neg (show ¬ C.1 (16 + 2 * t) ≤ i from fun c => by have := zi_le.mp c; omega), if_neg (show ¬ (60 : Int32) ≤ i from fun c => by have := zi_le.mp c; omega)]
          have g9 : mLs M 41 (60 * x + i) (narT (M.2.1 39 t) v) = some (sl M 41 (vp_updL (M.2.2 41) (60 * x + i).toNatClampNeg (narT (M.2.1 39 t) v))) := by
            unfold mLs
            exact if_pos a3
          rw [g8, Option.bind_some]
          dsimp only
          rw [g9, Option.bind_some]
          refine ⟨_, _, _, rfl, rfl, ?_, fC_c3 (aTp_3 t p2), rfl, fM_sl (by decide)⟩
          refine iTp_upd hT (t := t) ?_ ?_ ?_
          · rw [c3_g]
            refine ⟨t1, t2, t3, t4, t5, t6, t7, fun k hk => ?_⟩
            show vp_updL (C.2.2.1 t) i.toNatClampNeg (narT (C.1 (15 + 2 * t)) v) k = vp_updL (M.2.2 41) (60 * x + i).toNatClampNeg (narT (M.2.1 39 t) v) (60 * t + k)
            unfold vp_updL
            rw [t1]
            by_cases q : k = i.toNatClampNeg
            · rw [if_pos q, if_pos (by omega)]
            · rw [if_neg q, if_neg (by omega)]
              exact t8 k hk
          · intro u hu hq
            exact ⟨rfl, rfl, fu_n hq⟩
          · intro u hu hq
            refine ⟨rfl, rfl, fun k hk => ?_⟩
            show vp_updL (M.2.2 41) (60 * x + i).toNatClampNeg (narT (M.2.1 39 t) v) (60 * u + k) = _
            unfold vp_updL
            rw [if_neg (by omega)]
        · have q1 := mt zi_lt.mpr h3
          rw [if_neg h3, if_neg (show ¬ (0 ≤ i ∧ i ≤ M.2.1 40 t - 1) from fun c => by have := zi_le.mp c.2; omega), if_pos (show (0 : Int32) = 0 from rfl)]
          exact ⟨_, C, M, rfl, rfl, hT, fC.rfl, rfl, fM.rfl⟩
  · rw [if_neg h, if_neg h, if_pos (show (0 : Int32) = 0 from rfl), ifn_none]
    exact ⟨_, C, M, rfl, rfl, hT, fC.rfl, rfl, fM.rfl⟩
