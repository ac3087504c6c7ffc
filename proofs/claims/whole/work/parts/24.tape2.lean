theorem fu_fu {α : Type} (f : Nat → α) (k : Nat) (v w : α) : fu (fu f k v) k w = fu f k w := by
  funext j
  unfold fu
  by_cases h : j = k
  · rw [if_pos h, if_pos h]
  · rw [if_neg h, if_neg h, if_neg h]
theorem c3_c3 (C : CS) (t : Nat) (f g : Nat → Int64) : c3 (c3 C t f) t g = c3 C t g := by unfold c3; rw [fu_fu]
theorem c3_g (C : CS) (t : Nat) (f : Nat → Int64) : (c3 C t f).2.2.1 t = f := fu_s _ _ _
theorem c3_self (C : CS) (t : Nat) : c3 C t (C.2.2.1 t) = C := by
  have h : fu C.2.2.1 t (C.2.2.1 t) = C.2.2.1 := by
    funext j
    unfold fu
    by_cases h : j = t
    · rw [if_pos h, h]
    · rw [if_neg h]
  unfold c3
  rw [h]
theorem sl_sl (M : MS) (t : Nat) (f g : Nat → Int64) : sl (sl M t f) t g = sl M t g := by unfold sl; rw [fu_fu]
theorem sl_g (M : MS) (t : Nat) (f : Nat → Int64) : (sl M t f).2.2 t = f := fu_s _ _ _
theorem sl_self (M : MS) (t : Nat) : sl M t (M.2.2 t) = M := by
  have h : fu M.2.2 t (M.2.2 t) = M.2.2 := by
    funext j
    unfold fu
    by_cases h : j = t
    · rw [if_pos h, h]
    · rw [if_neg h]
  unfold sl
  rw [h]
theorem e_zero7 (C : CS) (M : MS) (D : List va_E) {t : Nat} (ht : t < 6) : ∀ (m fn : Nat) (y : Int32) (f : Nat → Int64), y.toInt = 60 - (m : Int) → m < fn → m ≤ 60 → ∃ g : Nat → Int64, X5_become_12 fn (mh (ccells (c3 C t f)) M D) (14 + 2 * t) y = some ((), mh (ccells (c3 C t g)) M D) ∧ ∀ i : Nat, i < 60 → g i = if y.toInt ≤ (i : Int) then 0 else f i := by
  intro m
  induction m with
  | zero =>
    intro fn y f hy hf hm
    obtain ⟨fn, rfl⟩ : ∃ q, fn = q + 1 := ⟨fn - 1, by omega⟩
    have e60 : (60 : Int32).toInt = 60 := rfl
    refine ⟨f, ?_, fun i hi => by rw [if_neg (by omega)]⟩
    unfold X5_become_12
    simp only [tp_it _ M D t ht, tp_ln _ M D t ht, Option.bind_some]
    rw [if_pos (zi_le.mpr (by omega))]
  | succ m ih =>
    intro fn y f hy hf hm
    obtain ⟨fn, rfl⟩ : ∃ q, fn = q + 1 := ⟨fn - 1, by omega⟩
    have e60 : (60 : Int32).toInt = 60 := rfl
    have hz := zi_n y
    have hi := zi_inc hy (by omega) (by omega)
    obtain ⟨g, h1, h2⟩ := ih fn (y + 1) (vp_updL f y.toNatClampNeg 0) (by rw [hi]; omega) (by omega) (by omega)
    refine ⟨g, ?_, fun i hq => ?_⟩
    · unfold X5_become_12
      simp only [tp_it _ M D t ht, tp_ln _ M D t ht, Option.bind_some]
      rw [if_neg (fun c => by have := zi_le.mp c; omega), tp_uL _ M D ht (ix_ok (by omega) (by omega)), c3_c3, c3_g]
      exact h1
    · rw [h2 i hq, hi]
      unfold vp_updL
      by_cases q : (i : Int) = y.toInt
      · rw [if_neg (by omega), if_pos (by omega), if_pos (by omega)]
      · by_cases q2 : y.toInt ≤ (i : Int)
        · rw [if_pos (by omega), if_pos q2]
        · rw [if_neg (by omega), if_neg (by omega), if_neg q2]
theorem e_zero8 (M : MS) {x : Int32} (hx : 0 ≤ x ∧ x ≤ 5) : ∀ (m fn : Nat) (y : Int32) (f : Nat → Int64), y.toInt = 60 - (m : Int) → m < fn → m ≤ 60 → ∃ g : Nat → Int64, X8_tape_69 fn (sl M 41 f) x y = some (1, sl M 41 g) ∧ ∀ j : Nat, g j = if 60 * x.toInt + y.toInt ≤ (j : Int) ∧ (j : Int) < 60 * x.toInt + 60 then 0 else f j := by
  intro m
  induction m with
  | zero =>
    intro fn y f hy hf hm
    obtain ⟨fn, rfl⟩ : ∃ q, fn = q + 1 := ⟨fn - 1, by omega⟩
    have e60 : (60 : Int32).toInt = 60 := rfl
    refine ⟨f, ?_, fun j => by rw [if_neg (by omega)]⟩
    unfold X8_tape_69
    rw [if_pos (zi_le.mpr (by omega))]
  | succ m ih =>
    intro fn y f hy hf hm
    obtain ⟨fn, rfl⟩ : ∃ q, fn = q + 1 := ⟨fn - 1, by omega⟩
    have e60 : (60 : Int32).toInt = 60 := rfl
    obtain ⟨p0, p1, p2, p3⟩ := x5_of hx
    have hz := zi_n y
    have hi := zi_inc hy (by omega) (by omega)
    obtain ⟨a1, a2, a3⟩ := ix41 hx (i := y) (by omega) (by omega)
    obtain ⟨g, h1, h2⟩ := ih fn (y + 1) (vp_updL f (60 * x + y).toNatClampNeg 0) (by rw [hi]; omega) (by omega) (by omega)
    refine ⟨g, ?_, fun j => ?_⟩
    · unfold X8_tape_69 mLs
      rw [if_neg (fun c => by have := zi_le.mp c; omega), if_pos (show ixOk (60 * x + y) (mln 41) = true from a3), sl_sl, sl_g]
      exact h1
    · rw [h2 j, hi]
      unfold vp_updL
      by_cases q : (j : Int) = 60 * x.toInt + y.toInt
      · rw [if_neg (by omega), if_pos (by omega), if_pos (by omega)]
      · by_cases q2 : 60 * x.toInt + y.toInt ≤ (j : Int) ∧ (j : Int) < 60 * x.toInt + 60
        · rw [if_pos (by omega), if_pos q2]
        · rw [if_neg (by omega), if_neg (by omega), if_neg q2]
theorem iTp_upd {C C' : CS} {M M' : MS} (h : iTp C M) {t : Nat} (h1 : iT1 (C'.1 (15 + 2 * t)) (C'.1 (16 + 2 * t)) (C'.2.2.1 t) (M'.2.1 39 t) (M'.2.1 40 t) (fun i => M'.2.2 41 (60 * t + i)))
    (hC : ∀ u : Nat, u < 6 → u ≠ t → C'.1 (15 + 2 * u) = C.1 (15 + 2 * u) ∧ C'.1 (16 + 2 * u) = C.1 (16 + 2 * u) ∧ C'.2.2.1 u = C.2.2.1 u)
    (hM : ∀ u : Nat, u < 6 → u ≠ t → M'.2.1 39 u = M.2.1 39 u ∧ M'.2.1 40 u = M.2.1 40 u ∧ ∀ i : Nat, i < 60 → M'.2.2 41 (60 * u + i) = M.2.2 41 (60 * u + i)) : iTp C' M' := by
  intro u hu
  by_cases q : u = t
  · subst q; exact h1
  · obtain ⟨a, b, c⟩ := hC u hu q
    obtain ⟨a', b', c'⟩ := hM u hu q
    obtain ⟨t1, t2, t3, t4, t5, t6, t7, t8⟩ := h u hu
    rw [a, b, c, a', b']
    exact ⟨t1, t2, t3, t4, t5, t6, t7, fun i hi => (t8 i hi).trans (c' i hi).symm⟩
def aTp : List Nat := [15, 16, 17, 18, 19, 20, 21, 22, 23, 24, 25, 26]
theorem aTp_1 : ∀ t : Nat, t < 6 → 15 + 2 * t ∈ aTp := t6 (by decide) (by decide) (by decide) (by decide) (by decide) (by decide)
theorem aTp_2 : ∀ t : Nat, t < 6 → 16 + 2 * t ∈ aTp := t6 (by decide) (by decide) (by decide) (by decide) (by decide) (by decide)
theorem aTp_3 : ∀ t : Nat, t < 6 → t ∈ [0, 1, 2, 3, 4, 5] := t6 (by decide) (by decide) (by decide) (by decide) (by decide) (by decide)
/-- a tape becomes anew, on both sides -/
theorem e_become (C : CS) (M M2 : MS) (D : List va_E) {x so sz : Int32} (hx : 0 ≤ x ∧ x ≤ 5) (hT : iTp C M) (h1 : -1 ≤ so.toInt) (h2 : so.toInt ≤ 4) (h3 : 0 ≤ sz.toInt) (h4 : sz.toInt ≤ 60) (h5 : so.toInt = -1 → sz.toInt = 0) : ∃ C' M', cO (mh (ccells C) M2 D) (14 + 2 * x.toNatClampNeg) 5 (X5_become (mh (ccells C) M2 D) (14 + 2 * x.toNatClampNeg) so sz) = some ((), mh (ccells C') M2 D) ∧ (mAs M 39 x so).bind (fun S1 => X8_tape_65 S1 x sz x) = some (1, M') ∧ iTp C' M' ∧ fC C C' aTp [] [0, 1, 2, 3, 4, 5] [] ∧ C'.2.2.2.2 = C.2.2.2.2 ∧ fM M M' [] [39, 40] [41, 42] := by
  obtain ⟨p0, p1, p2, p3⟩ := x5_of hx
  generalize ht : x.toNatClampNeg = t at p2 p3
  have k39 : ixOk x 6 = true := ix_ok p0 (by omega)
  obtain ⟨g, a1, a2⟩ := e_zero7 (c1 (c1 C (15 + 2 * t) so) (16 + 2 * t) sz) M2 D p2 60 FU 0 (C.2.2.1 t) (by show (0 : Int) = 60 - 60; omega) (by unfold FU; omega) (by omega)
  obtain ⟨g2, b1, b2⟩ := e_zero8 (sa (sa M 39 (upd (M.2.1 39) t so)) 40 (upd (M.2.1 40) t sz)) hx 60 FU 0 (M.2.2 41) (by show (0 : Int) = 60 - 60; omega) (by unfold FU; omega) (by omega)
  refine ⟨c3 (c1 (c1 C (15 + 2 * t) so) (16 + 2 * t) sz) t g, sl (sa (sa M 39 (upd (M.2.1 39) t so)) 40 (upd (M.2.1 40) t sz)) 41 g2, ?_, ?_, ?_, ?_, rfl, ?_⟩
  · unfold cO X5_become X5_become_0
    rw [if_pos (tp_O C M2 D t p2), tp_sso C M2 D so t p2]
    simp only [Option.bind_some]
    rw [tp_ssz _ M2 D sz t p2]
    simp only [Option.bind_some]
    rw [← a1]
    have e : c3 (c1 (c1 C (15 + 2 * t) so) (16 + 2 * t) sz) t (C.2.2.1 t) = c1 (c1 C (15 + 2 * t) so) (16 + 2 * t) sz := c3_self (c1 (c1 C (15 + 2 * t) so) (16 + 2 * t) sz) t
    rw [e]
  · unfold X8_tape_65 mAs
    rw [if_pos (show ixOk x (mln 39) = true from k39)]
    rw [Option.bind_some, if_pos (show ixOk x (mln 40) = true from k39)]
    rw [Option.bind_some]
    have e : sl (sa (sa M 39 (upd (M.2.1 39) t so)) 40 (upd (M.2.1 40) t sz)) 41 (M.2.2 41) = sa (sa M 39 (upd (M.2.1 39) t so)) 40 (upd (M.2.1 40) t sz) := sl_self (sa (sa M 39 (upd (M.2.1 39) t so)) 40 (upd (M.2.1 40) t sz)) 41
    have e3 : (sa M 39 (upd (M.2.1 39) t so)).2.1 40 = M.2.1 40 := rfl
    rw [ht, ← b1, e, e3]
  · refine iTp_upd hT (t := t) ?_ ?_ ?_
    · have q1 : (c3 (c1 (c1 C (15 + 2 * t) so) (16 + 2 * t) sz) t g).1 (15 + 2 * t) = so := by
        show fu (fu C.1 (15 + 2 * t) so) (16 + 2 * t) sz (15 + 2 * t) = so
        rw [fu_n (by omega), fu_s]
      have q2 : (c3 (c1 (c1 C (15 + 2 * t) so) (16 + 2 * t) sz) t g).1 (16 + 2 * t) = sz := fu_s _ _ _
      have q3 : (sl (sa (sa M 39 (upd (M.2.1 39) t so)) 40 (upd (M.2.1 40) t sz)) 41 g2).2.1 39 t = so := by
        show upd (M.2.1 39) t so t = so
        exact if_pos rfl
      have q4 : (sl (sa (sa M 39 (upd (M.2.1 39) t so)) 40 (upd (M.2.1 40) t sz)) 41 g2).2.1 40 t = sz := by
        show upd (M.2.1 40) t sz t = sz
        exact if_pos rfl
      rw [q1, q2, q3, q4, c3_g]
      have e0 : (0 : Int32).toInt = 0 := rfl
      refine ⟨rfl, rfl, h1, h2, h3, h4, h5, fun i hi => ?_⟩
      show g i = g2 (60 * t + i)
      rw [a2 i hi, b2, if_pos (by omega), if_pos (by omega)]
    · intro u hu hq
      refine ⟨?_, ?_, ?_⟩
      · show fu (fu C.1 (15 + 2 * t) so) (16 + 2 * t) sz (15 + 2 * u) = _
        rw [fu_n (by omega), fu_n (by omega)]
      · show fu (fu C.1 (15 + 2 * t) so) (16 + 2 * t) sz (16 + 2 * u) = _
        rw [fu_n (by omega), fu_n (by omega)]
      · exact fu_n hq
    · intro u hu hq
      refine ⟨?_, ?_, fun i hi => ?_⟩
      · show upd (M.2.1 39) t so u = _
        exact if_neg hq
      · show upd (M.2.1 40) t sz u = _
        exact if_neg hq
      · have e0 : (0 : Int32).toInt = 0 := rfl
        show g2 (60 * u + i) = _
        rw [b2, if_neg (by omega)]
  · exact fC.trans (fC.trans (fC_c1 (aTp_1 t p2)) (fC_c1 (aTp_2 t p2))) (fC_c3 (aTp_3 t p2))
  · exact fM.trans (fM.trans (fM_sa (by decide)) (fM_sa (by decide))) (fM_sl (by decide))
theorem o_tape (C : CS) (M M2 : MS) (D : List va_E) (x so n : Int32) (hT : iTp C M) : ∃ r C' M', X7_tape (mh (ccells C) M2 D) 0 x so n = some (r, mh (ccells C') M2 D) ∧ X8_tape M x so n = some (r, M') ∧ iTp C' M' ∧ fC C C' aTp [] [0, 1, 2, 3, 4, 5] [] ∧ C'.2.2.2.2 = C.2.2.2.2 ∧ fM M M' [] [39, 40] [41, 42] := by
  unfold X7_tape X7_tape_0 X7_tape_43 X8_tape X8_tape_0 X8_tape_30 X8_tape_33 X8_tape_44
  have z1 : ¬ (1 : Int32) = 0 := by decide
  have e0 : (0 : Int32).toInt = 0 := rfl
  have e4 : (4 : Int32).toInt = 4 := rfl
  have em : (-1 : Int32).toInt = -1 := rfl
  have e60 : (60 : Int32).toInt = 60 := rfl
  rw [k_tapeOf, r_isTape]
  simp only [Option.bind_some, prp]
  by_cases h : 0 ≤ x ∧ x ≤ 5
  · rw [if_pos h, if_pos h, if_neg z1, ifn_some]
    simp only [Option.bind_some, r_in]
    by_cases h1 : so = -1
    · subst h1
      rw [if_pos rfl, if_pos (show (-1 : Int32) ≤ -1 ∧ (-1 : Int32) ≤ 4 from ⟨by decide, by decide⟩), if_neg z1, if_pos (show (-1 : Int32) < 0 by decide), if_pos (show (-1 : Int32) < 0 by decide)]
      simp only [if_neg (show ¬ (0 : Int32) ≤ -1 by decide)]
      obtain ⟨C', M', b1, b2, b3⟩ := e_become C M M2 D (so := -1) (sz := 0) h hT (by decide) (by decide) (by decide) (by decide) (fun _ => rfl)
      rw [b1]
      exact ⟨_, C', M', rfl, b2, b3⟩
    · have n1 : so.toInt ≠ -1 := fun c => h1 (zi_eq.mpr c)
      rw [if_neg h1]
      by_cases h2 : so < 0
      · have := ng_n h2
        rw [if_pos h2, if_neg (show ¬ (-1 ≤ so ∧ so ≤ 4) from fun c => by have := zi_le.mp c.1; omega), if_pos (show (0 : Int32) = 0 from rfl)]
        exact ⟨_, C, M, rfl, rfl, hT, fC.rfl, rfl, fM.rfl⟩
      · have p2 := nn_n h2
        rw [if_neg h2]
        by_cases h3 : 4 < so
        · have := zi_lt.mp h3
          rw [if_pos h3, if_neg (show ¬ (-1 ≤ so ∧ so ≤ 4) from fun c => by have := zi_le.mp c.2; omega), if_pos (show (0 : Int32) = 0 from rfl)]
          exact ⟨_, C, M, rfl, rfl, hT, fC.rfl, rfl, fM.rfl⟩
        · have p3 := mt zi_lt.mpr h3
          rw [if_neg h3, if_pos (show -1 ≤ so ∧ so ≤ 4 from ⟨zi_le.mpr (by omega), zi_le.mpr (by omega)⟩), if_neg z1, if_neg h2, if_neg h2]
          by_cases h4 : n ≤ 60
          · have p4 := zi_le.mp h4
            rw [if_pos h4, if_pos h4]
            by_cases h5 : 0 ≤ n
            · have p5 := zi_le.mp h5
              rw [if_pos h5, if_pos h5]
              simp only [if_pos (show (0 : Int32) ≤ so from zi_le.mpr (by omega))]
              obtain ⟨C', M', b1, b2, b3⟩ := e_become C M M2 D (so := so) (sz := n) h hT (by omega) (by omega) (by omega) (by omega) (fun c => by omega)
              rw [b1]
              exact ⟨_, C', M', rfl, b2, b3⟩
            · rw [if_neg h5, if_neg h5]
              exact ⟨_, C, M, rfl, rfl, hT, fC.rfl, rfl, fM.rfl⟩
          · rw [if_neg h4, if_neg h4]
            exact ⟨_, C, M, rfl, rfl, hT, fC.rfl, rfl, fM.rfl⟩
  · rw [if_neg h, if_neg h, if_pos (show (0 : Int32) = 0 from rfl), ifn_none]
    exact ⟨_, C, M, rfl, rfl, hT, fC.rfl, rfl, fM.rfl⟩
