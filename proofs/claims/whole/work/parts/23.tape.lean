/-! ===== the tapes ===== -/
theorem t6 {P : Nat → Prop} (h0 : P 0) (h1 : P 1) (h2 : P 2) (h3 : P 3) (h4 : P 4) (h5 : P 5) : ∀ t : Nat, t < 6 → P t := by
  intro t ht
  match t, ht with
  | 0, _ => exact h0
  | 1, _ => exact h1
  | 2, _ => exact h2
  | 3, _ => exact h3
  | 4, _ => exact h4
  | 5, _ => exact h5
theorem tp_F : ∀ t : Nat, t < 6 → tapesF t = some (14 + 2 * t) := t6 rfl rfl rfl rfl rfl rfl
theorem tp_O (C : CS) (M : MS) (D : List va_E) : ∀ t : Nat, t < 6 → isO (mh (ccells C) M D) (14 + 2 * t) 5 = true := t6 rfl rfl rfl rfl rfl rfl
theorem tp_so (C : CS) (M : MS) (D : List va_E) : ∀ t : Nat, t < 6 → gI (mh (ccells C) M D) (14 + 2 * t) 5 1 = some (C.1 (15 + 2 * t)) := t6 rfl rfl rfl rfl rfl rfl
theorem tp_sz (C : CS) (M : MS) (D : List va_E) : ∀ t : Nat, t < 6 → gI (mh (ccells C) M D) (14 + 2 * t) 5 2 = some (C.1 (16 + 2 * t)) := t6 rfl rfl rfl rfl rfl rfl
theorem tp_it (C : CS) (M : MS) (D : List va_E) : ∀ t : Nat, t < 6 → gQ (mh (ccells C) M D) (14 + 2 * t) 5 0 = some (some (15 + 2 * t)) := t6 rfl rfl rfl rfl rfl rfl
theorem tp_ln (C : CS) (M : MS) (D : List va_E) : ∀ t : Nat, t < 6 → aN (mh (ccells C) M D) (some (15 + 2 * t)) = some 60 := t6 rfl rfl rfl rfl rfl rfl
theorem tp_at (C : CS) (M : MS) (D : List va_E) : ∀ t : Nat, t < 6 → (mh (ccells C) M D)[15 + 2 * t]? = some (.inl (1, (60, .inr (.inl (C.2.2.1 t))))) := t6 rfl rfl rfl rfl rfl rfl
theorem tp_set (C : CS) (M : MS) (D : List va_E) (f : Nat → Int64) : ∀ t : Nat, t < 6 → (mh (ccells C) M D).set (15 + 2 * t) (.inl (1, (60, .inr (.inl f)))) = mh (ccells (c3 C t f)) M D := t6 rfl rfl rfl rfl rfl rfl
theorem tp_sso (C : CS) (M : MS) (D : List va_E) (v : Int32) : ∀ t : Nat, t < 6 → sI (mh (ccells C) M D) (14 + 2 * t) 5 1 v = some (mh (ccells (c1 C (15 + 2 * t) v)) M D) := t6 rfl rfl rfl rfl rfl rfl
theorem tp_ssz (C : CS) (M : MS) (D : List va_E) (v : Int32) : ∀ t : Nat, t < 6 → sI (mh (ccells C) M D) (14 + 2 * t) 5 2 v = some (mh (ccells (c1 C (16 + 2 * t) v)) M D) := t6 rfl rfl rfl rfl rfl rfl
theorem tp_aL (C : CS) (M : MS) (D : List va_E) {t : Nat} (ht : t < 6) {i : Int32} (hi : ixOk i 60 = true) : aL (mh (ccells C) M D) (some (15 + 2 * t)) i = some (C.2.2.1 t i.toNatClampNeg) := by
  unfold aL
  simp only [Option.bind_some, tp_at C M D t ht]
  exact if_pos ⟨trivial, hi⟩
theorem tp_uL (C : CS) (M : MS) (D : List va_E) {t : Nat} (ht : t < 6) {i : Int32} (hi : ixOk i 60 = true) (x : Int64) : uL (mh (ccells C) M D) (some (15 + 2 * t)) i x = some (mh (ccells (c3 C t (vp_updL (C.2.2.1 t) i.toNatClampNeg x))) M D) := by
  unfold uL
  simp only [Option.bind_some, tp_at C M D t ht]
  rw [if_pos ⟨trivial, hi⟩, tp_set C M D _ t ht]
theorem ng_x {x : Int32} (h : ¬ (0 ≤ x ∧ x ≤ 5)) (h0 : ¬ x < 0) : 6 ≤ x.toInt := by
  have e5 : (5 : Int32).toInt = 5 := rfl
  have e0 : (0 : Int32).toInt = 0 := rfl
  have p0 := nn_n h0
  by_cases q : x.toInt ≤ 5
  · exact absurd ⟨zi_le.mpr (by omega), zi_le.mpr (by omega)⟩ h
  · omega
theorem k_tapeOf (C : CS) (M : MS) (D : List va_E) (x : Int32) : cO (mh (ccells C) M D) 0 7 (X7_tapeOf (mh (ccells C) M D) 0 x) = some (if 0 ≤ x ∧ x ≤ 5 then some (14 + 2 * x.toNatClampNeg) else none, mh (ccells C) M D) := by
  have g0 : isO (mh (ccells C) M D) 0 7 = true := rfl
  unfold cO
  rw [if_pos g0]
  unfold X7_tapeOf X7_tapeOf_0 X7_tapeOf_22 X7_tapeOf_23
  have e0 : (0 : Int32).toInt = 0 := rfl
  have e5 : (5 : Int32).toInt = 5 := rfl
  have e6 : (6 : Int32).toInt = 6 := rfl
  have g2 : gQ (mh (ccells C) M D) 0 7 5 = some (some 9) := rfl
  have g3 : aN (mh (ccells C) M D) (some 9) = some 6 := rfl
  simp only [Option.bind_some, g2, g3]
  by_cases h0 : x < 0
  · have := ng_n h0
    rw [if_pos h0, if_neg (show ¬ (0 ≤ x ∧ x ≤ 5) from fun c => by have := zi_le.mp c.1; omega)]
  · have p0 := nn_n h0
    rw [if_neg h0]
    by_cases h1 : 0 ≤ x ∧ x ≤ 5
    · have p1 := zi_le.mp h1.2
      have hz := zi_n x
      rw [if_neg (show ¬ (6 : Int32) ≤ x from fun c => by have := zi_le.mp c; omega), if_pos h1]
      have g4 : aQ 6 (mh (ccells C) M D) (some 9) x = some (tapesF x.toNatClampNeg) := by
        show (if _ = _ ∧ _ then _ else _) = _
        rw [if_pos ⟨rfl, ix_ok p0 (by omega)⟩]
      rw [g4, tp_F _ (by omega)]
      rfl
    · have := ng_x h1 h0
      rw [if_pos (show (6 : Int32) ≤ x from zi_le.mpr (by omega)), if_neg h1]
/-- one tape on both sides -/
def iT1 (so7 sz7 : Int32) (it7 : Nat → Int64) (so8 sz8 : Int32) (it8 : Nat → Int64) : Prop := so7 = so8 ∧ sz7 = sz8 ∧ -1 ≤ so7.toInt ∧ so7.toInt ≤ 4 ∧ 0 ≤ sz7.toInt ∧ sz7.toInt ≤ 60 ∧ (so7.toInt = -1 → sz7.toInt = 0) ∧ ∀ i : Nat, i < 60 → it7 i = it8 i
def iTp (C : CS) (M : MS) : Prop := ∀ t : Nat, t < 6 → iT1 (C.1 (15 + 2 * t)) (C.1 (16 + 2 * t)) (C.2.2.1 t) (M.2.1 39 t) (M.2.1 40 t) (fun i => M.2.2 41 (60 * t + i))
theorem x5_of {x : Int32} (h : 0 ≤ x ∧ x ≤ 5) : 0 ≤ x.toInt ∧ x.toInt ≤ 5 ∧ x.toNatClampNeg < 6 ∧ (x.toNatClampNeg : Int) = x.toInt := by
  have p0 : 0 ≤ x.toInt := zi_le.mp h.1
  have p1 : x.toInt ≤ 5 := zi_le.mp h.2
  have hz := zi_n x
  refine ⟨p0, p1, by omega, by omega⟩
theorem m39 (M : MS) {x : Int32} (h : 0 ≤ x ∧ x ≤ 5) : mA M 39 x = some (M.2.1 39 x.toNatClampNeg) := by
  obtain ⟨p0, p1, -, -⟩ := x5_of h
  unfold mA
  exact if_pos (ix_ok p0 (by show _ < (6 : Int); omega))
theorem m40 (M : MS) {x : Int32} (h : 0 ≤ x ∧ x ≤ 5) : mA M 40 x = some (M.2.1 40 x.toNatClampNeg) := by
  obtain ⟨p0, p1, -, -⟩ := x5_of h
  unfold mA
  exact if_pos (ix_ok p0 (by show _ < (6 : Int); omega))
theorem ix41 {x i : Int32} (h : 0 ≤ x ∧ x ≤ 5) (h0 : 0 ≤ i.toInt) (h1 : i.toInt < 60) : (60 * x + i).toInt = 60 * x.toInt + i.toInt ∧ (60 * x + i).toNatClampNeg = 60 * x.toNatClampNeg + i.toNatClampNeg ∧ ixOk (60 * x + i) 360 = true := by
  obtain ⟨p0, p1, p2, p3⟩ := x5_of h
  have e60 : (60 : Int32).toInt = 60 := rfl
  have m : (60 * x).toInt = 60 * x.toInt := by rw [zi_mul (by rw [e60]; omega) (by rw [e60]; omega), e60]
  have a : (60 * x + i).toInt = 60 * x.toInt + i.toInt := by rw [zi_add (by omega) (by omega), m]
  have := zi_n x
  have := zi_n i
  have := zi_n (60 * x + i)
  exact ⟨a, by omega, ix_ok (by omega) (by omega)⟩
theorem o_read (C : CS) (M M2 : MS) (D : List va_E) (x i : Int32) (hT : iTp C M) : ∃ r, X7_read (mh (ccells C) M2 D) 0 x i = some (r, mh (ccells C) M2 D) ∧ X8_read M x i = some (r, M) := by
  unfold X7_read X7_read_0 X8_read X8_read_0 X7_read_22 X8_read_34 X8_read_51
  have z1 : ¬ (1 : Int32) = 0 := by decide
  have e0 : (0 : Int32).toInt = 0 := rfl
  have e1 : (1 : Int32).toInt = 1 := rfl
  rw [k_tapeOf, r_isTape]
  simp only [Option.bind_some, prp]
  by_cases h : 0 ≤ x ∧ x ≤ 5
  · obtain ⟨p0, p1, p2, p3⟩ := x5_of h
    obtain ⟨t1, t2, t3, t4, t5, t6, t7, t8⟩ := hT _ p2
    rw [if_pos h, if_pos h, if_neg z1, ifn_some]
    have g5 : cO (mh (ccells C) M2 D) (14 + 2 * x.toNatClampNeg) 5 (X5_size (mh (ccells C) M2 D) (14 + 2 * x.toNatClampNeg)) = some (C.1 (16 + 2 * x.toNatClampNeg), mh (ccells C) M2 D) := by
      unfold cO X5_size X5_size_0
      rw [if_pos (tp_O C M2 D _ p2), tp_sz C M2 D _ p2]
      rfl
    simp only [m39 M h, m40 M h, g5, Option.bind_some, r_in]
    by_cases h2 : i < 0
    · have := ng_n h2
      rw [if_pos h2, if_neg (show ¬ (0 ≤ i ∧ i ≤ M.2.1 40 x.toNatClampNeg - 1) from fun c => by have := zi_le.mp c.1; omega), if_pos (show (0 : Int32) = 0 from rfl)]
      by_cases q : M.2.1 39 x.toNatClampNeg < 0
      · rw [if_pos q]; exact ⟨_, rfl, rfl⟩
      · rw [if_neg q]; exact ⟨_, rfl, rfl⟩
    · have q0 := nn_n h2
      have s1 : (M.2.1 40 x.toNatClampNeg - 1).toInt = (C.1 (16 + 2 * x.toNatClampNeg)).toInt - 1 := by rw [← t2, zi_sub (by omega) (by omega)]; rfl
      rw [if_neg h2]
      by_cases h3 : i < C.1 (16 + 2 * x.toNatClampNeg)
      · have q1 := zi_lt.mp h3
        rw [if_pos h3, if_neg (show ¬ M.2.1 39 x.toNatClampNeg < 0 from fun c => by have := zi_lt.mp c; rw [← t1] at this; omega), if_pos (show 0 ≤ i ∧ i ≤ M.2.1 40 x.toNatClampNeg - 1 from ⟨zi_le.mpr (by omega), zi_le.mpr (by omega)⟩), if_neg z1]
        obtain ⟨a1, a2, a3⟩ := ix41 h q0 (show i.toInt < 60 by omega)
        have g7 : mL M 41 (60 * x + i) = some (M.2.2 41 (60 * x + i).toNatClampNeg) := by
          unfold mL
          exact if_pos a3
        have g8 : cO (mh (ccells C) M2 D) (14 + 2 * x.toNatClampNeg) 5 (X5_at (mh (ccells C) M2 D) (14 + 2 * x.toNatClampNeg) i) = some (C.2.2.1 x.toNatClampNeg i.toNatClampNeg, mh (ccells C) M2 D) := by
          have e60 : (60 : Int32).toInt = 60 := rfl
          unfold cO X5_at X5_at_0 X5_at_30 X5_at_31
          rw [if_pos (tp_O C M2 D _ p2)]
          simp only [tp_sz C M2 D _ p2, tp_it C M2 D _ p2, tp_ln C M2 D _ p2, tp_aL C M2 D p2 (ix_ok q0 (show i.toInt < ((60 : Nat) : Int) by omega)), Option.bind_some]
          rw [if_neg h2, if_neg (show ¬ C.1 (16 + 2 * x.toNatClampNeg) ≤ i from fun c => by have := zi_le.mp c; omega), if_neg (show ¬ (60 : Int32) ≤ i from fun c => by have := zi_le.mp c; omega)]
        simp only [g7, g8, Option.bind_some]
        have hz := zi_n i
        rw [a2, t8 i.toNatClampNeg (by omega)]
        exact ⟨_, rfl, rfl⟩
      · have q1 := mt zi_lt.mpr h3
        rw [if_neg h3, if_neg (show ¬ (0 ≤ i ∧ i ≤ M.2.1 40 x.toNatClampNeg - 1) from fun c => by have := zi_le.mp c.2; omega), if_pos (show (0 : Int32) = 0 from rfl)]
        by_cases q : M.2.1 39 x.toNatClampNeg < 0
        · rw [if_pos q]; exact ⟨_, rfl, rfl⟩
        · rw [if_neg q]; exact ⟨_, rfl, rfl⟩
  · rw [if_neg h, if_neg h, if_pos (show (0 : Int32) = 0 from rfl), ifn_none]
    exact ⟨_, rfl, rfl⟩
