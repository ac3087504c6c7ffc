/-! ===== a bargain and what is left, as both sides see them ===== -/
def rdS (zl : List Wd) (st : Int32) : Option (List Dt) := pAll 13 (lfI st 0 zl)
def lV (C : CS) (ps : List Int32) : Prop := (C.1 14).toInt = ps.length ∧ ps.length ≤ 12 ∧ ∀ (i : Nat) (x : Int32), ps[i]? = some x → C.2.1 4 i = x
theorem lV_dV {C : CS} {ps : List Int32} (h : lV C ps) (M : MS) (D : List va_E) : dV (mh (ccells C) M D) 12 13 ps := ⟨C.2.1 4, C.1 14, rfl, rfl, h⟩
def frC (C C' : CS) : Prop := fC C C' [14] [4] [] [] ∧ C'.2.2.2.2 = C.2.2.2.2 ∧ 0 ≤ (C'.1 14).toInt ∧ (C'.1 14).toInt ≤ 12
theorem frC.trans {C C1 C2 : CS} (h : frC C C1) (h2 : frC C1 C2) : frC C C2 := ⟨fC.trans h.1 h2.1, h2.2.1.trans h.2.1, h2.2.2⟩
def lf12 (C : CS) : Prop := 0 ≤ (C.1 14).toInt ∧ (C.1 14).toInt ≤ 12
theorem frC.rfl {C : CS} (h : lf12 C) : frC C C := ⟨fC.rfl, Eq.refl _, h⟩
theorem frC.lf {C C' : CS} (h : frC C C') : lf12 C' := h.2.2
theorem lf_V {C : CS} (h : lf12 C) : ∃ ps, lV C ps := by
  obtain ⟨h1, h2⟩ := h
  have hl : ((List.range (C.1 14).toInt.toNat).map (C.2.1 4)).length = (C.1 14).toInt.toNat := by rw [List.length_map, List.length_range]
  exact ⟨(List.range (C.1 14).toInt.toNat).map (C.2.1 4), by omega, by omega, fun i x hx => (range_get _ _ _ _ hx).2.symm⟩
theorem v_tell {C : CS} {M : MS} {D : List va_E} {ob : Nat} {zl : List Wd} {st : Int32} {ds : List Dt} (hC : lf12 C) (hB : BVD D ob zl) (hk : okB zl) (hr : rdS zl st = some ds) : ∃ C', cO (mh (ccells C) M D) ob 1 (X1_tellDuties (mh (ccells C) M D) ob st (some 12)) = some ((), mh (ccells C') M D) ∧ frC C C' ∧ lV C' (ds.map dpk) ∧ ∀ z ∈ ds, okD z := by
  obtain ⟨ps, hp⟩ := lf_V hC
  obtain ⟨w, s, r, d, dr, f, g, hm, ⟨p1, p2, p3, p4, p5, p6⟩, h1, h2, h3, h4, h5, h6, h7, h8⟩ := hB C M
  have hw : wV (mh (ccells C) M D) ob w zl := ⟨_, f, h1, rfl, h2, h3⟩
  obtain ⟨S', t1, t2, t3, t4⟩ := k_tell hk.1 hk.2.2 (show ob ≠ 12 by omega) (show ob ≠ 13 by omega) (show w ≠ 12 by omega) (show w ≠ 13 by omega) hw (lV_dV hp M D) hr
  obtain ⟨f2, sz, q1, q2, q3, q4, q5⟩ := t2
  have e := mh_left t4 q1 q2
  subst e
  refine ⟨_, t1, ⟨fC.trans (fC_c2 (by decide)) (fC_c1 (by decide)), rfl, ?_, ?_⟩, ⟨q3, q4, q5⟩, t3⟩
  · show 0 ≤ sz.toInt
    omega
  · show sz.toInt ≤ 12
    omega
theorem v_size {D : List va_E} {ob : Nat} {zl : List Wd} (hB : BVD D ob zl) (C : CS) (M : MS) : cO (mh (ccells C) M D) ob 1 (X1_size (mh (ccells C) M D) ob) = some (Int32.ofNat zl.length, mh (ccells C) M D) := by
  obtain ⟨w, s, r, d, dr, f, g, hm, -, h1, h2, h3, h4, h5, h6, h7, h8⟩ := hB C M
  rw [e_cO h1]
  unfold X1_size X1_size_0
  rw [e_gQ h1 rfl, bsm, e_aN h2 (by omega), bsm]
theorem v_wordAt {D : List va_E} {ob : Nat} {zl : List Wd} (hB : BVD D ob zl) (hk : okB zl) (C : CS) (M : MS) {i : Int32} {k : Nat} {v : Wd} (hi : i.toInt = k) (hv : zl[k]? = some v) : cO (mh (ccells C) M D) ob 1 (X1_wordAt (mh (ccells C) M D) ob i) = some (100 * v.1 + v.2, mh (ccells C) M D) := by
  obtain ⟨w, s, r, d, dr, f, g, hm, -, h1, h2, h3, h4, h5, h6, h7, h8⟩ := hB C M
  have e0 : (0 : Int32).toInt = 0 := rfl
  have hl := (List.getElem?_eq_some_iff.mp hv).1
  have := hk.1
  rw [e_cO h1]
  unfold X1_wordAt X1_wordAt_0 X1_wordAt_23
  rw [if_neg (by rw [zi_lt]; omega), e_gQ h1 rfl, bsm, e_aN h2 (by omega), bsm, if_neg (by rw [zi_le, zo (by omega)]; omega), bsm, e_aA h2 hi hl, bsm, h3 k v hv]
theorem v_pow {zl : List Wd} (hk : okB zl) : (2 : Nat) ^ zl.length ≤ 4096 ∧ 0 < (2 : Nat) ^ zl.length := by
  have hp : (2 : Nat) ^ zl.length ≤ 2 ^ 12 := Nat.pow_le_pow_right (by omega) hk.1
  exact ⟨by omega, Nat.two_pow_pos _⟩
abbrev inS (zl : List Wd) (x : Int32) : Prop := 0 ≤ x.toInt ∧ x.toInt < ((2 ^ zl.length : Nat) : Int)
theorem v_hasSet {D : List va_E} {ob : Nat} {zl : List Wd} (hB : BVD D ob zl) (hk : okB zl) (C : CS) (M : MS) (x : Int32) : cO (mh (ccells C) M D) ob 1 (X1_hasSet (mh (ccells C) M D) ob x) = some (if inS zl x then 1 else 0, mh (ccells C) M D) := by
  obtain ⟨w, s, r, d, dr, f, g, hm, -, h1, h2, h3, h4, h5, h6, h7, h8⟩ := hB C M
  have e0 : (0 : Int32).toInt = 0 := rfl
  have hp := v_pow hk
  rw [e_cO h1]
  unfold X1_hasSet X1_hasSet_0 X1_hasSet_17 X1_hasSet_18
  by_cases q : x < 0
  · have q2 := zi_lt.mp q
    rw [if_pos q, if_neg (fun c => by omega)]
    exact zg_z _ _ (.inl rfl)
  · have q2 := mt zi_lt.mpr q
    rw [if_neg q, e_gQ h1 rfl, bsm, e_aN h4 (by omega), bsm]
    by_cases q3 : x.toInt < ((2 ^ zl.length : Nat) : Int)
    · rw [if_neg (by rw [zi_le, zo (by omega)]; omega), if_pos ⟨by omega, q3⟩]
      exact zg_z _ _ (.inr rfl)
    · rw [if_pos (by rw [zi_le, zo (by omega)]; omega), if_neg (fun c => q3 c.2)]
      exact zg_z _ _ (.inl rfl)
theorem rdS_6 {zl : List Wd} (hk : okB zl) (st : Int32) : 6 ≤ rnA 0 (lfI st 0 zl) ↔ (rdS zl st).isSome = true := by
  obtain ⟨rn, rs⟩ := rd_iff zl hk.1 st
  have e6 : (6 : Int32).toInt = 6 := rfl
  unfold rdS
  cases h : pAll 13 (lfI st 0 zl) with
  | none =>
    have := rn h
    rw [zi_le]
    simp
    omega
  | some ds =>
    have := rs ds h
    rw [zi_le]
    simp
    omega
theorem v_readable {D : List va_E} {ob : Nat} {zl : List Wd} (hB : BVD D ob zl) (hk : okB zl) (C : CS) (M : MS) (x : Int32) : cO (mh (ccells C) M D) ob 1 (X1_isReadable (mh (ccells C) M D) ob x) = some (if inS zl x ∧ (rdS zl x).isSome = true then 1 else 0, mh (ccells C) M D) := by
  obtain ⟨w, s, r, d, dr, f, g, hm, -, h1, h2, h3, h4, h5, h6, h7, h8⟩ := hB C M
  have e0 : (0 : Int32).toInt = 0 := rfl
  have hp := v_pow hk
  by_cases q : inS zl x
  · obtain ⟨k, hk1, hk2, hk3⟩ := q_n (x := x) (k := 2 ^ zl.length - 1) q.1 (by have := q.2; omega)
    rw [k_readable h1 rfl h4 (by omega) hk3 (by omega), h5 k (by omega)]
    have e1 : stN zl k = rnA 0 (lfI x 0 zl) := by
      unfold stN
      rw [hk2]
    rw [e1]
    have e2 := rdS_6 hk x
    by_cases q2 : 6 ≤ rnA 0 (lfI x 0 zl)
    · rw [if_pos q2, if_pos ⟨q, e2.mp q2⟩]
    · rw [if_neg q2, if_neg (fun c => q2 (e2.mpr c.2))]
  · rw [if_neg (fun c => q c.1), e_cO h1]
    unfold X1_isReadable X1_isReadable_0 X1_isReadable_28 X1_isReadable_29
    by_cases q1 : x < 0
    · rw [if_pos q1]
      exact zg_z _ _ (.inl rfl)
    · have q2 := mt zi_lt.mpr q1
      rw [if_neg q1, e_gQ h1 rfl, bsm, e_aN h4 (by omega), bsm, if_pos (by rw [zi_le, zo (by omega)]; omega)]
      exact zg_z _ _ (.inl rfl)
-- the reference
theorem lw_lf (l6 l7 : Nat → Int32) (b : Nat) (st : Int32) : ∀ (zs : List Wd) (k m : Nat), zs.length = m → (∀ (i : Nat) (w : Wd), zs[i]? = some w → w = (l6 (12 * b + (k + i)), l7 (12 * b + (k + i)))) → lwL l6 l7 b st k m = lfI st k zs
  | [], k, m, hm, h => by
    have hm : 0 = m := hm
    subst hm
    rfl
  | w :: zs, k, m, hm, h => by
    obtain ⟨m, rfl⟩ : ∃ q, m = q + 1 := ⟨m - 1, by simp only [List.length_cons] at hm; omega⟩
    simp only [List.length_cons] at hm
    have h0 := h 0 w rfl
    rw [Nat.add_zero] at h0
    have ih := lw_lf l6 l7 b st zs (k + 1) m (by omega) (fun i v hv => by
      have := h (i + 1) v (by rw [List.getElem?_cons_succ]; exact hv)
      rw [show k + (i + 1) = k + 1 + i by omega] at this
      exact this)
    unfold lwL lfI
    rw [ih, ← h0]
def dM (M : MS) (ds : List Dt) : Prop := (M.1 28).toInt = ds.length ∧ ds.length ≤ 12 ∧ ∀ (i : Nat) (z : Dt), ds[i]? = some z → z = (M.2.1 21 i, M.2.1 22 i, M.2.1 23 i, M.2.1 24 i, M.2.1 25 i, M.2.1 26 i)
theorem pst_dM {M : MS} {bs : Nat} {ds : List Dt} (h : pst M bs [] ds) : dM M ds := by
  obtain ⟨p, n, h1, h2, h3, h4, h5, h6, h7, h8, h9, h10⟩ := h
  exact ⟨h7, by simpa using h8, h10⟩
def frS (M M' : MS) : Prop := fM M M' [27, 28, 29, 30, 33] [20, 21, 22, 23, 24, 25, 26, 31] [32]
theorem frS.rfl {M : MS} : frS M M := fM.rfl
theorem frS.trans {M M1 M2 : MS} (h : frS M M1) (h2 : frS M1 M2) : frS M M2 := fM.trans h h2
theorem frL_S {M M' : MS} (h : frL M M') : frS M M' := fM_mono h (by decide) (by decide) (by decide)
theorem r_leftB {M : MS} {x st : Int32} {b : Nat} {zl : List Wd} (hb : b < 6) (hk : okB zl) (hx : x.toInt = b) (hB : rBg M b zl) : (rdS zl st = none → ∃ M', X8_readsLeft M x st = some (0, M') ∧ frL M M') ∧ ∀ ds, rdS zl st = some ds → ∃ M', X8_readsLeft M x st = some (1, M') ∧ dM M' ds ∧ frL M M' := by
  have e := lw_lf (M.2.1 6) (M.2.1 7) b st zl 0 zl.length rfl (fun i w hw => by rw [Nat.zero_add]; exact hB.2 i w hw)
  obtain ⟨p, q⟩ := r_left (st := st) hb hk.1 hx hB.1
  rw [e] at p q
  refine ⟨p, fun ds hd => ?_⟩
  obtain ⟨M', a1, a2, a3⟩ := q ds hd
  exact ⟨M', a1, pst_dM a2, a3⟩
theorem r_isSet {M : MS} {x st : Int32} {b : Nat} {zl : List Wd} (hb : b < 6) (hk : okB zl) (hx : x.toInt = b) (hB : rBg M b zl) : X8_isSet M x st = some (if inS zl st then 1 else 0, M) := by
  have hp := v_pow hk
  have e1 : (1 : Int32).toInt = 1 := rfl
  have e0 : (0 : Int32).toInt = 0 := rfl
  unfold X8_isSet X8_isSet_0
  have hn : M.2.1 8 b = nI zl.length := zi_eq.mpr (by rw [hB.1, q_i (by have := hk.1; omega)])
  have e2 : (nI (2 ^ zl.length) - 1).toInt = ((2 ^ zl.length : Nat) : Int) - 1 := by
    rw [zi_sub (by rw [q_i (by omega)]; omega) (by rw [q_i (by omega)]; omega), q_i (by omega)]
    rfl
  rw [mA_ok (j := 8) (q := b) hx (by show b < 6; omega), bsm, hn, one_shl (by have := hk.1; omega), r_in, bsm]
  by_cases q : inS zl st
  · rw [if_pos q, if_pos ⟨zi_le.mpr (by have := q.1; omega), zi_le.mpr (by rw [e2]; have := q.2; omega)⟩]
    exact zg_z _ _ (.inr rfl)
  · rw [if_neg q, if_neg (fun c => q ⟨by have := zi_le.mp c.1; omega, by have := zi_le.mp c.2; rw [e2] at this; omega⟩)]
    exact zg_z _ _ (.inl rfl)
