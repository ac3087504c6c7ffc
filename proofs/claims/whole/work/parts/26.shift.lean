/-! ===== shift ===== -/
theorem sl_o (M : MS) {a b : Nat} (h : b ≠ a) (f : Nat → Int64) : (sl M a f).2.2 b = M.2.2 b := fu_n h
theorem e_sh2 (M : MS) (a : Nat → Int64) {x j n : Int32} (hx : 0 ≤ x ∧ x ≤ 5) (hj : 0 ≤ j.toInt) (hn : 0 ≤ n.toInt) (hjn : j.toInt + n.toInt ≤ 60) : ∀ (m fn : Nat) (y : Int32) (f : Nat → Int64), y.toInt = n.toInt - (m : Int) → m < fn → (m : Int) ≤ n.toInt → ∃ g : Nat → Int64, X8_shift_141 fn (sl (sl M 42 a) 41 f) x j n y = some (n, sl (sl M 42 a) 41 g) ∧ ∀ q : Nat, g q = if 60 * x.toInt + j.toInt + y.toInt ≤ (q : Int) ∧ (q : Int) < 60 * x.toInt + j.toInt + n.toInt then a (q - (60 * x.toInt + j.toInt).toNat) else f q := by
  intro m
  induction m with
  | zero =>
    intro fn y f hy hf hm
    obtain ⟨fn, rfl⟩ : ∃ q, fn = q + 1 := ⟨fn - 1, by omega⟩
    refine ⟨f, ?_, fun q => by rw [if_neg (by omega)]⟩
    unfold X8_shift_141
    rw [if_pos (zi_le.mpr (by omega))]
  | succ m ih =>
    intro fn y f hy hf hm
    obtain ⟨fn, rfl⟩ : ∃ q, fn = q + 1 := ⟨fn - 1, by omega⟩
    obtain ⟨p0, p1, p2, p3⟩ := x5_of hx
    have hz := zi_n y
    have hi := zi_inc hy (by omega) (by omega)
    obtain ⟨a1, a2, a3⟩ := ix41 hx (i := j) (by omega) (by omega)
    have b1 : (60 * x + j + y).toInt = 60 * x.toInt + j.toInt + y.toInt := by rw [zi_add (by omega) (by omega), a1]
    have b2 := zi_n (60 * x + j + y)
    have k42 : ixOk y (mln 42) = true := ix_ok (by omega) (by show _ < (60 : Int); omega)
    have k41 : ixOk (60 * x + j + y) (mln 41) = true := ix_ok (by omega) (by show _ < (360 : Int); omega)
    obtain ⟨g, h1, h2⟩ := ih fn (y + 1) (vp_updL f (60 * x + j + y).toNatClampNeg (a y.toNatClampNeg)) (by rw [hi]; omega) (by omega) (by omega)
    refine ⟨g, ?_, fun q => ?_⟩
    · unfold X8_shift_141 mL mLs
      have e42 : (sl (sl M 42 a) 41 f).2.2 42 = a := (sl_o _ (by decide) _).trans (sl_g _ _ _)
      rw [if_neg (fun c => by have := zi_le.mp c; omega), if_pos k42, Option.bind_some, if_pos k41, Option.bind_some, e42, sl_g, sl_sl]
      exact h1
    · rw [h2 q, hi]
      unfold vp_updL
      by_cases q1 : (q : Int) = 60 * x.toInt + j.toInt + y.toInt
      · rw [if_neg (by omega), if_pos (by omega), if_pos (by omega)]
        congr 1
        omega
      · by_cases q2 : 60 * x.toInt + j.toInt + y.toInt ≤ (q : Int) ∧ (q : Int) < 60 * x.toInt + j.toInt + n.toInt
        · rw [if_pos (by omega), if_pos q2]
        · rw [if_neg (by omega), if_neg (by omega), if_neg q2]
theorem e_sh1 (M : MS) {x i z j n : Int32} (hx : 0 ≤ x ∧ x ≤ 5) (hi : 0 ≤ i.toInt) (hn : 0 ≤ n.toInt) (hin : i.toInt + n.toInt ≤ 60) : ∀ (m fn : Nat) (y : Int32) (f : Nat → Int64), y.toInt = n.toInt - (m : Int) → m < fn → (m : Int) ≤ n.toInt → ∃ g : Nat → Int64, X8_shift_104 fn (sl M 42 f) x i z j n y = X8_shift_141 FU (sl M 42 g) z j n 0 ∧ ∀ q : Nat, g q = if y.toInt ≤ (q : Int) ∧ (q : Int) < n.toInt then M.2.2 41 ((60 * x.toInt + i.toInt).toNat + q) else f q := by
  intro m
  induction m with
  | zero =>
    intro fn y f hy hf hm
    obtain ⟨fn, rfl⟩ : ∃ q, fn = q + 1 := ⟨fn - 1, by omega⟩
    refine ⟨f, ?_, fun q => by rw [if_neg (by omega)]⟩
    unfold X8_shift_104
    rw [if_pos (zi_le.mpr (by omega))]
  | succ m ih =>
    intro fn y f hy hf hm
    obtain ⟨fn, rfl⟩ : ∃ q, fn = q + 1 := ⟨fn - 1, by omega⟩
    obtain ⟨p0, p1, p2, p3⟩ := x5_of hx
    have hz := zi_n y
    have hi1 := zi_inc hy (by omega) (by omega)
    obtain ⟨a1, a2, a3⟩ := ix41 hx (i := i) (by omega) (by omega)
    have b1 : (60 * x + i + y).toInt = 60 * x.toInt + i.toInt + y.toInt := by rw [zi_add (by omega) (by omega), a1]
    have b2 := zi_n (60 * x + i + y)
    have k42 : ixOk y (mln 42) = true := ix_ok (by omega) (by show _ < (60 : Int); omega)
    have k41 : ixOk (60 * x + i + y) (mln 41) = true := ix_ok (by omega) (by show _ < (360 : Int); omega)
    have e41 : (sl M 42 f).2.2 41 = M.2.2 41 := sl_o _ (by decide) _
    obtain ⟨g, h1, h2⟩ := ih fn (y + 1) (vp_updL f y.toNatClampNeg (M.2.2 41 (60 * x + i + y).toNatClampNeg)) (by rw [hi1]; omega) (by omega) (by omega)
    refine ⟨g, ?_, fun q => ?_⟩
    · unfold X8_shift_104 mL mLs
      rw [if_neg (fun c => by have := zi_le.mp c; omega), if_pos k41, Option.bind_some, if_pos k42, Option.bind_some, e41, sl_g, sl_sl]
      exact h1
    · rw [h2 q, hi1]
      unfold vp_updL
      by_cases q1 : (q : Int) = y.toInt
      · rw [if_neg (by omega), if_pos (by omega), if_pos (by omega)]
        show M.2.2 41 _ = M.2.2 41 _
        refine congrArg (M.2.2 41) ?_
        omega
      · by_cases q2 : y.toInt ≤ (q : Int) ∧ (q : Int) < n.toInt
        · rw [if_pos (by omega), if_pos q2]
        · rw [if_neg (by omega), if_neg (by omega), if_neg q2]
/-- the class's copy between tapes -/
theorem k_copy (C : CS) (M : MS) (D : List va_E) {t u : Nat} (ht : t < 6) (hu : u < 6) {i j n : Int32} (hi : 0 ≤ i.toInt) (hj : 0 ≤ j.toInt) (hn : 0 ≤ n.toInt) (hin : i.toInt + n.toInt ≤ 60) (hjn : j.toInt + n.toInt ≤ 60) : cO (mh (ccells C) M D) (14 + 2 * u) 5 (X5_copyFrom (mh (ccells C) M D) (14 + 2 * u) (some (14 + 2 * t)) i j n) = some ((), mh (ccells (c3 C u (va_cpy (C.2.2.1 t) (C.2.2.1 u) i.toNatClampNeg j.toNatClampNeg n.toNatClampNeg))) M D) := by
  have e0 : (0 : Int32).toInt = 0 := rfl
  have e60 : (60 : Int32).toInt = 60 := rfl
  have zi := zi_n i
  have zj := zi_n j
  have zn := zi_n n
  have n0 : ∀ {y : Int32}, 0 ≤ y.toInt → ¬ y < 0 := fun h c => by have := zi_lt.mp c; omega
  have g4 : cpL (mh (ccells C) M D) (some (15 + 2 * t)) i (some (15 + 2 * u)) j n = some (mh (ccells (c3 C u (va_cpy (C.2.2.1 t) (C.2.2.1 u) i.toNatClampNeg j.toNatClampNeg n.toNatClampNeg))) M D) := by
    unfold cpL
    simp only [Option.bind_some, tp_at C M D t ht, tp_at C M D u hu]
    rw [if_pos ⟨⟨trivial, trivial⟩, ⟨n0 hi, n0 hj, n0 hn⟩, by omega, by omega⟩, tp_set C M D _ u hu]
  unfold cO X5_copyFrom X5_copyFrom_0 X5_copyFrom_41 X5_copyFrom_42 X5_copyFrom_64
  rw [if_pos (tp_O C M D u hu), if_neg (n0 hn), if_neg (n0 hi), if_neg (n0 hj)]
  simp only [Option.bind_some, tp_it C M D t ht, tp_it C M D u hu, tp_ln C M D t ht, tp_ln C M D u hu, g4]
  rw [if_neg (show ¬ (60 : Int32) - i < n from fun c => by have := zi_lt.mp c; rw [zi_sub (by omega) (by omega)] at this; omega), if_neg (show ¬ (60 : Int32) - j < n from fun c => by have := zi_lt.mp c; rw [zi_sub (by omega) (by omega)] at this; omega), if_neg (show ¬ (1 : Int32) = 0 by decide)]
theorem o_shift (C : CS) (M M2 : MS) (D : List va_E) (x i z j n : Int32) (hT : iTp C M) : ∃ r C' M', X7_shift (mh (ccells C) M2 D) 0 x i z j n = some (r, mh (ccells C') M2 D) ∧ X8_shift M x i z j n = some (r, M') ∧ iTp C' M' ∧ fC C C' aTp [] [0, 1, 2, 3, 4, 5] [] ∧ C'.2.2.2.2 = C.2.2.2.2 ∧ fM M M' [] [39, 40] [41, 42] := by
  unfold X7_shift X7_shift_0 X7_shift_24 X7_shift_42 X7_shift_100 X8_shift X8_shift_0 X8_shift_16 X8_shift_36 X8_shift_98
  have z1 : ¬ (1 : Int32) = 0 := by decide
  have z0 : (0 : Int32) = 0 := rfl
  have e0 : (0 : Int32).toInt = 0 := rfl
  have em : (-1 : Int32).toInt = -1 := rfl
  rw [k_tapeOf, r_isTape, Option.bind_some, Option.bind_some]
  simp only [prp]
  rw [k_tapeOf, r_isTape, Option.bind_some, Option.bind_some]
  dsimp only
  by_cases h : 0 ≤ x ∧ x ≤ 5
  · by_cases h' : 0 ≤ z ∧ z ≤ 5
    · obtain ⟨p0, p1, p2, p3⟩ := x5_of h
      obtain ⟨t1, t2, t3, t4, t5, t6, t7, t8⟩ := hT _ p2
      obtain ⟨p0', p1', p2', p3'⟩ := x5_of h'
      obtain ⟨t1', t2', t3', t4', t5', t6', t7', t8'⟩ := hT _ p2'
      rw [if_pos h, if_pos h, if_pos h', if_pos h', if_neg z1, if_neg z1, ifn_some, ifn_some, m39 M h, m39 M h', m40 M h, m40 M h']
      generalize ht : x.toNatClampNeg = t at p2 p3 t1 t2 t3 t4 t5 t6 t7 t8
      generalize hu : z.toNatClampNeg = u at p2' p3' t1' t2' t3' t4' t5' t6' t7' t8'
      rw [k_holds C M2 D p2, Option.bind_some, Option.bind_some]
      dsimp only
      by_cases h1 : C.1 (15 + 2 * t) = -1
      · have := zi_eq.mp h1
        rw [if_pos h1, if_pos z0, if_pos (show M.2.1 39 t < 0 from zi_lt.mpr (by rw [← t1]; omega))]
        exact ⟨_, C, M, rfl, rfl, hT, fC.rfl, rfl, fM.rfl⟩
      · have n1 : (C.1 (15 + 2 * t)).toInt ≠ -1 := fun c => h1 (zi_eq.mpr c)
        rw [if_neg h1, if_neg z1, if_neg (show ¬ M.2.1 39 t < 0 from fun c => by have := zi_lt.mp c; rw [← t1] at this; omega), k_holds C M2 D p2', Option.bind_some, Option.bind_some]
        dsimp only
        by_cases h2 : C.1 (15 + 2 * u) = -1
        · have := zi_eq.mp h2
          rw [if_pos h2, if_pos z0, if_neg (show ¬ 0 ≤ M.2.1 39 u from fun c => by have := zi_le.mp c; rw [← t1'] at this; omega)]
          exact ⟨_, C, M, rfl, rfl, hT, fC.rfl, rfl, fM.rfl⟩
        · have n2 : (C.1 (15 + 2 * u)).toInt ≠ -1 := fun c => h2 (zi_eq.mpr c)
          rw [if_neg h2, if_neg z1, if_pos (show 0 ≤ M.2.1 39 u from zi_le.mpr (by rw [← t1']; omega)), k_sort C M2 D p2, Option.bind_some, Option.bind_some, Option.bind_some]
          dsimp only
          rw [k_sort C M2 D p2', Option.bind_some]
          dsimp only
          rw [← t1, ← t1']
          by_cases h3 : C.1 (15 + 2 * t) = C.1 (15 + 2 * u)
          · rw [if_pos h3, if_pos h3]
            by_cases h4 : n < 0
            · rw [if_pos h4, if_pos h4]
              exact ⟨_, C, M, rfl, rfl, hT, fC.rfl, rfl, fM.rfl⟩
            · rw [if_neg h4, if_neg h4]
              have q4 := nn_n h4
              by_cases h5 : i < 0
              · rw [if_pos h5, if_pos h5]
                exact ⟨_, C, M, rfl, rfl, hT, fC.rfl, rfl, fM.rfl⟩
              · rw [if_neg h5, if_neg h5]
                have q5 := nn_n h5
                by_cases h6 : j < 0
                · rw [if_pos h6, if_pos h6]
                  exact ⟨_, C, M, rfl, rfl, hT, fC.rfl, rfl, fM.rfl⟩
                · have q6 := nn_n h6
                  have hi' := zi_hi i
                  have hj' := zi_hi j
                  have hn' := zi_hi n
                  rw [if_neg h6, if_neg h6, k_size C M2 D p2, Option.bind_some, Option.bind_some, ← t2, ← t2']
                  dsimp only
                  have s1 : (C.1 (16 + 2 * t) - i).toInt = (C.1 (16 + 2 * t)).toInt - i.toInt := zi_sub (by omega) (by omega)
                  have s2 : (C.1 (16 + 2 * t) - n).toInt = (C.1 (16 + 2 * t)).toInt - n.toInt := zi_sub (by omega) (by omega)
                  have s3 : (C.1 (16 + 2 * u) - j).toInt = (C.1 (16 + 2 * u)).toInt - j.toInt := zi_sub (by omega) (by omega)
                  have s4 : (C.1 (16 + 2 * u) - n).toInt = (C.1 (16 + 2 * u)).toInt - n.toInt := zi_sub (by omega) (by omega)
                  by_cases h7 : C.1 (16 + 2 * t) - i < n
                  · have := zi_lt.mp h7
                    rw [if_pos h7, if_pos (show C.1 (16 + 2 * t) - n < i from zi_lt.mpr (by omega))]
                    exact ⟨_, C, M, rfl, rfl, hT, fC.rfl, rfl, fM.rfl⟩
                  · have q7 := mt zi_lt.mpr h7
                    rw [if_neg h7, if_neg (show ¬ C.1 (16 + 2 * t) - n < i from fun c => by have := zi_lt.mp c; omega), k_size C M2 D p2', Option.bind_some, Option.bind_some]
                    dsimp only
                    by_cases h8 : n ≤ C.1 (16 + 2 * u) - j
                    · have q8 := zi_le.mp h8
                      rw [if_pos h8, if_pos (show j ≤ C.1 (16 + 2 * u) - n from zi_le.mpr (by omega)), k_copy C M2 D p2 p2' q5 q6 q4 (by omega) (by omega), Option.bind_some]
                      obtain ⟨g, a1, a2⟩ := e_sh1 M (x := x) (i := i) (z := z) (j := j) (n := n) h q5 q4 (by omega) n.toInt.toNat FU 0 (M.2.2 42) (by omega) (by unfold FU; omega) (by omega)
                      obtain ⟨g2, b1, b2⟩ := e_sh2 M g (x := z) (j := j) (n := n) h' q6 q4 (by omega) n.toInt.toNat FU 0 (M.2.2 41) (by omega) (by unfold FU; omega) (by omega)
                      have w1 : sl M 42 (M.2.2 42) = M := sl_self M 42
                      have w2 : sl (sl M 42 g) 41 (M.2.2 41) = sl M 42 g := by
                        have w3 : (sl M 42 g).2.2 41 = M.2.2 41 := sl_o _ (by decide) _
                        have w4 := sl_self (sl M 42 g) 41
                        rw [w3] at w4
                        exact w4
                      rw [w1] at a1
                      rw [w2] at b1
                      have zi := zi_n i
                      have zj := zi_n j
                      have zn := zi_n n
                      refine ⟨_, _, _, rfl, a1.trans b1, ?_, fC_c3 (aTp_3 u p2'), rfl, fM.trans (fM_sl (by decide)) (fM_sl (by decide))⟩
                      refine iTp_upd hT (t := u) ?_ ?_ ?_
                      · rw [c3_g]
                        refine ⟨t1', t2', t3', t4', t5', t6', t7', fun k hk => ?_⟩
                        show va_cpy (C.2.2.1 t) (C.2.2.1 u) i.toNatClampNeg j.toNatClampNeg n.toNatClampNeg k = g2 (60 * u + k)
                        unfold va_cpy
                        rw [b2]
                        by_cases q : j.toNatClampNeg ≤ k ∧ k < j.toNatClampNeg + n.toNatClampNeg
                        · rw [if_pos q, if_pos (by omega), a2, if_pos (by omega), t8 _ (by omega)]
                          show M.2.2 41 _ = M.2.2 41 _
                          refine congrArg (M.2.2 41) ?_
                          omega
                        · rw [if_neg q, if_neg (by omega)]
                          exact t8' k hk
                      · intro w hw hq
                        exact ⟨rfl, rfl, fu_n hq⟩
                      · intro w hw hq
                        refine ⟨rfl, rfl, fun k hk => ?_⟩
                        show g2 (60 * w + k) = _
                        rw [b2, if_neg (by omega)]
                    · have q8 := mt zi_le.mpr h8
                      rw [if_neg h8, if_neg (show ¬ j ≤ C.1 (16 + 2 * u) - n from fun c => by have := zi_le.mp c; omega)]
                      exact ⟨_, C, M, rfl, rfl, hT, fC.rfl, rfl, fM.rfl⟩
          · rw [if_neg h3, if_neg h3]
            exact ⟨_, C, M, rfl, rfl, hT, fC.rfl, rfl, fM.rfl⟩
    · rw [if_pos h, if_pos h, if_neg h', if_neg h', if_neg z1, if_pos z0, ifn_some, ifn_none]
      exact ⟨_, C, M, rfl, rfl, hT, fC.rfl, rfl, fM.rfl⟩
  · rw [if_neg h, if_neg h, if_pos z0, ifn_none]
    exact ⟨_, C, M, rfl, rfl, hT, fC.rfl, rfl, fM.rfl⟩
