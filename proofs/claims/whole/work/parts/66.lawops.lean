/-! ===== lawful, barred ===== -/
theorem gvB_eq (ds : List Dt) : ∀ cs : List Cz, gvB cs ds = (!hasK 1 cs || (gvF 0 ds && gvF 1 ds))
  | [] => rfl
  | c :: cs => by
    have e1 : gvB (c :: cs) ds = ((!(c.1 == 1) || (gvF 0 ds && gvF 1 ds)) && gvB cs ds) := rfl
    have e2 : hasK 1 (c :: cs) = ((c.1 == 1) || hasK 1 cs) := rfl
    rw [e1, e2, gvB_eq ds cs]
    generalize (c.1 == 1) = p
    generalize (gvF 0 ds && gvF 1 ds) = q
    generalize hasK 1 cs = r
    cases p <;> cases q <;> cases r <;> rfl
def moP (sum more m : Int32) : Bool := decide (m = -1) || decide (sum ≤ m + more)
theorem msB_eq {sum more : Int32} (h0 : 0 ≤ more.toInt) (h1 : more.toInt ≤ 1000) : ∀ (cs : List Cz) (m : Int32), (∀ c ∈ cs, c.2.1 ≤ 999) → (m = -1 ∨ (0 ≤ m.toInt ∧ m.toInt ≤ 999)) → (moP sum more m && msB cs sum more) = moP sum more (cs.foldl moS m)
  | [], m, hk, hm => Bool.and_true _
  | c :: cs, m, hk, hm => by
    have hc := hk c List.mem_cons_self
    have em : msB (c :: cs) sum more = ((!(c.1 == 2) || decide (sum ≤ nI c.2.1 + more)) && msB cs sum more) := rfl
    have en : (nI c.2.1).toInt = c.2.1 := q_i (by omega)
    have hm2 : moS m c = -1 ∨ (0 ≤ (moS m c).toInt ∧ (moS m c).toInt ≤ 999) := by
      unfold moS
      by_cases q : c.1 = 2
      · rw [if_pos q]
        by_cases q2 : m = -1
        · rw [if_pos q2]
          exact .inr (by omega)
        · rw [if_neg q2]
          by_cases q3 : nI c.2.1 < m
          · rw [if_pos q3]
            exact .inr (by omega)
          · rw [if_neg q3]
            exact hm
      · rw [if_neg q]
        exact hm
    have ih := msB_eq (sum := sum) h0 h1 cs (moS m c) (fun d hd => hk d (List.mem_cons_of_mem _ hd)) hm2
    rw [List.foldl_cons, ← ih, em, ← Bool.and_assoc]
    congr 1
    unfold moS
    by_cases q : c.1 = 2
    · rw [if_pos q, q]
      show (moP sum more m && (false || decide (sum ≤ nI c.2.1 + more))) = _
      rw [Bool.false_or]
      have hne : ¬ nI c.2.1 = -1 := fun e => by
        rw [e] at en
        have : (-1 : Int32).toInt = -1 := rfl
        omega
      have hnm : (nI c.2.1 + more).toInt = c.2.1 + more.toInt := by rw [zi_add (by omega) (by omega), en]
      by_cases q2 : m = -1
      · rw [if_pos q2]
        unfold moP
        rw [decide_eq_true q2, decide_eq_false hne, Bool.true_or, Bool.true_and, Bool.false_or]
      · rw [if_neg q2]
        have hm := hm.resolve_left q2
        have hmm : (m + more).toInt = m.toInt + more.toInt := zi_add (by omega) (by omega)
        unfold moP
        rw [decide_eq_false q2, Bool.false_or]
        by_cases q3 : nI c.2.1 < m
        · have q3' := zi_lt.mp q3
          rw [if_pos q3, decide_eq_false hne, Bool.false_or]
          by_cases q4 : sum ≤ nI c.2.1 + more
          · have := zi_le.mp q4
            rw [decide_eq_true q4, decide_eq_true (zi_le.mpr (by omega))]
            rfl
          · rw [decide_eq_false q4, Bool.and_false]
        · have q3' := mt zi_lt.mpr q3
          rw [if_neg q3, decide_eq_false q2, Bool.false_or]
          by_cases q4 : sum ≤ m + more
          · have := zi_le.mp q4
            rw [decide_eq_true q4, decide_eq_true (zi_le.mpr (by omega))]
            rfl
          · rw [decide_eq_false q4, Bool.false_and]
    · rw [if_neg q, beq_eq_false_iff_ne.mpr q]
      show (moP sum more m && true) = _
      rw [Bool.and_true]
theorem r_isLawful {M : MS} {l : Nat} {cs : List Cz} {x more : Int32} {ds : List Dt} (hl : l < 5) (hx : x.toInt = l) (hk : okL cs) (h0 : 0 ≤ more.toInt) (h1 : more.toInt ≤ 1000) (hR : rLw M l cs) (hD : dM M ds) : ∃ M', X8_isLawful M x more = some (b01 (lawB cs ds more), M') ∧ fr31 M M' := by
  obtain ⟨M', a1, a2⟩ := r_law2 (more := more) hl hx hk ds 0 FU M 0 rfl (by have := hD.2.1; unfold FU; omega) rfl hR hD
  refine ⟨M', ?_, a2⟩
  unfold X8_isLawful X8_isLawful_0
  rw [a1, zg_b]
  have e := msB_eq (sum := lnF 0 ds) h0 h1 cs (-1) (fun c hc => (hk.2.2.1 c hc).2.1) (.inl rfl)
  have e2 : moP (lnF 0 ds) more (-1) = true := rfl
  rw [e2, Bool.true_and] at e
  have e3 : (decide (kMo cs = -1) || decide (lnF 0 ds ≤ kMo cs + more)) = moP (lnF 0 ds) more (cs.foldl moS (-1)) := rfl
  unfold lawB
  rw [e, gvB_eq, e3]
  generalize moP (lnF 0 ds) more (cs.foldl moS (-1)) = p
  generalize (!hasK 1 cs || (gvF 0 ds && gvF 1 ds)) = q
  generalize ds.all (fun z => !brS cs ds z) = r
  cases p <;> cases q <;> cases r <;> rfl
def LVD (D : List va_E) (lo : Nat) (cs : List Cz) : Prop := ∀ (C : CS) (M : MS), LV (mh (ccells C) M D) lo cs
theorem LV_frame {S S' : AH} {lo : Nat} {cs : List Cz} (h : LV S lo cs) (hh : ∀ k, 54 ≤ k → k < S.length → S'[k]? = S[k]?) : LV S' lo cs := by
  obtain ⟨st, p1, p2, h1, fs, f, a1, a2, a3, a4⟩ := h
  exact ⟨st, p1, p2, by rw [hh lo p1 (at_lt h1)]; exact h1, fs, f, by rw [hh lo p1 (at_lt h1)]; exact a1, a2, by rw [hh st p2 (at_lt a3)]; exact a3, a4⟩
theorem LVD_of {C : CS} {M : MS} {D : List va_E} {b : Nat} {cs : List Cz} (h : LV (mh (ccells C) M D) b cs) : LVD D b cs := fun C2 M2 => LV_frame h (fun k hk _ => by rw [mh_hi C2 M2 D hk, mh_hi C M D hk])
theorem LVD_app {D X : List va_E} {b : Nat} {cs : List Cz} (h : LVD D b cs) : LVD (D ++ X) b cs := fun C M => LV_frame (h C M) (fun k _ hl => mh_low C M D X (by rw [mh_len] at hl; exact hl))
def iLs (n7 : Int32) (row : Nat → Option Nat) (D : List va_E) (M : MS) : Prop := n7 = M.1 1 ∧ 0 ≤ n7.toInt ∧ n7.toInt ≤ 5 ∧ (∀ l : Nat, (l : Int) < n7.toInt → ∃ cs lo, okL cs ∧ row l = some lo ∧ LVD D lo cs ∧ rLw M l cs) ∧ ∀ l : Nat, n7.toInt ≤ (l : Int) → row l = none
theorem k_lawOf (C : CS) (M : MS) (D : List va_E) (x : Int32) : cO (mh (ccells C) M D) 0 7 (X7_lawOf (mh (ccells C) M D) 0 x) = some (if 0 ≤ x.toInt ∧ x.toInt < 5 then C.2.2.2.1 1 x.toNatClampNeg else none, mh (ccells C) M D) := by
  have hc : cO (mh (ccells C) M D) 0 7 (X7_lawOf (mh (ccells C) M D) 0 x) = X7_lawOf (mh (ccells C) M D) 0 x := rfl
  have g2 : gQ (mh (ccells C) M D) 0 7 3 = some (some 7) := rfl
  have g3 : aN (mh (ccells C) M D) (some 7) = some 5 := rfl
  have e0 : (0 : Int32).toInt = 0 := rfl
  have e5 : (5 : Int32).toInt = 5 := rfl
  rw [hc]
  unfold X7_lawOf X7_lawOf_0 X7_lawOf_22 X7_lawOf_23
  by_cases h0 : x < 0
  · have := zi_lt.mp h0
    rw [if_pos h0, if_neg (fun c => by omega)]
  · have p0 := mt zi_lt.mpr h0
    rw [if_neg h0, g2, bsm, g3, bsm]
    by_cases h1 : 5 ≤ x
    · have := zi_le.mp h1
      rw [if_pos h1, if_neg (fun c => by omega)]
    · have p1 := mt zi_le.mpr h1
      have g4 : aQ 5 (mh (ccells C) M D) (some 7) x = some (C.2.2.2.1 1 x.toNatClampNeg) := by
        show (if _ = _ ∧ _ then _ else _) = _
        rw [if_pos ⟨rfl, ix_ok (by omega) (by omega)⟩]
      rw [if_neg h1, bsm, g4, bsm, if_pos ⟨by omega, by omega⟩]
theorem r_isLaw (M : MS) (x : Int32) : X8_isLaw M x = some (if 0 ≤ x ∧ x ≤ M.1 1 - 1 then 1 else 0, M) := by
  unfold X8_isLaw X8_isLaw_0
  rw [r_in, bsm]
  by_cases h : 0 ≤ x ∧ x ≤ M.1 1 - 1
  · rw [if_pos h]
    exact zg_z _ _ (.inr rfl)
  · rw [if_neg h]
    exact zg_z _ _ (.inl rfl)
def lwY (C : CS) (M : MS) (D : List va_E) (x : Int32) (l : Nat) (cs : List Cz) (lo : Nat) : Prop := x.toInt = l ∧ l < 5 ∧ okL cs ∧ LVD D lo cs ∧ rLw M l cs ∧ (∀ (C' : CS) (M2 : MS), C'.2.2.2.1 1 = C.2.2.2.1 1 → cO (mh (ccells C') M2 D) 0 7 (X7_lawOf (mh (ccells C') M2 D) 0 x) = some (some lo, mh (ccells C') M2 D)) ∧ (∀ M' : MS, M'.1 1 = M.1 1 → X8_isLaw M' x = some (1, M')) ∧ (l : Int) < (M.1 1).toInt
def lwN (C : CS) (M : MS) (D : List va_E) (x : Int32) : Prop := (∀ (C' : CS) (M2 : MS), C'.2.2.2.1 1 = C.2.2.2.1 1 → cO (mh (ccells C') M2 D) 0 7 (X7_lawOf (mh (ccells C') M2 D) 0 x) = some (none, mh (ccells C') M2 D)) ∧ ∀ M' : MS, M'.1 1 = M.1 1 → X8_isLaw M' x = some (0, M')
theorem lw_case {C : CS} {M : MS} {D : List va_E} (h : iLs (C.1 1) (C.2.2.2.1 1) D M) (x : Int32) : (∃ l cs lo, lwY C M D x l cs lo) ∨ lwN C M D x := by
  obtain ⟨a1, a2, a3, a4, a5⟩ := h
  have e0 : (0 : Int32).toInt = 0 := rfl
  have e1 : (1 : Int32).toInt = 1 := rfl
  have es : (M.1 1 - 1).toInt = (M.1 1).toInt - 1 := by
    rw [← a1]
    rw [zi_sub (by omega) (by omega), e1]
  have hz := zi_n x
  by_cases q : 0 ≤ x.toInt ∧ x.toInt < (C.1 1).toInt
  · left
    obtain ⟨cs, lo, b1, b2, b3, b4⟩ := a4 x.toInt.toNat (by omega)
    refine ⟨x.toInt.toNat, cs, lo, by omega, by omega, b1, b3, b4, fun C' M2 hc => ?_, fun M' hm => ?_, by rw [← a1]; omega⟩
    · rw [k_lawOf, if_pos ⟨q.1, by omega⟩, hc, hz, b2]
    · rw [r_isLaw, hm, if_pos ⟨zi_le.mpr (by omega), zi_le.mpr (by rw [es, ← a1]; omega)⟩]
  · right
    refine ⟨fun C' M2 hc => ?_, fun M' hm => ?_⟩
    · rw [k_lawOf]
      by_cases q2 : 0 ≤ x.toInt ∧ x.toInt < 5
      · rw [if_pos q2, hc, hz, a5 x.toInt.toNat (by omega)]
      · rw [if_neg q2]
    · rw [r_isLaw, hm, if_neg (fun c => q ⟨by have := zi_le.mp c.1; omega, by have := zi_le.mp c.2; rw [es, ← a1] at this; omega⟩)]
theorem rLw_L {M M' : MS} {l : Nat} {cs : List Cz} (h : frS M M') (hr : rLw M l cs) : rLw M' l cs := rLw_M (h.2.1 9 (by decide)) (h.2.1 10 (by decide)) (h.2.1 11 (by decide)) (h.2.1 12 (by decide)) (h.2.1 13 (by decide)) (h.2.1 14 (by decide)) hr
theorem rBg_L {M M' : MS} {b : Nat} {zl : List Wd} (h : frS M M') (hr : rBg M b zl) : rBg M' b zl := rBg_M (h.2.1 6 (by decide)) (h.2.1 7 (by decide)) (h.2.1 8 (by decide)) hr
theorem o_lawful (C : CS) (M M2 : MS) (D : List va_E) (x st y : Int32) (hC : lf12 C) (hB : iBs (C.1 0) (C.2.2.2.1 0) D M) (hW : iLs (C.1 1) (C.2.2.2.1 1) D M) : asks C M M2 D (X7_lawful (mh (ccells C) M2 D) 0 x st y) (X8_lawful M x st y) := by
  have z1 : ¬ (1 : Int32) = 0 := by decide
  unfold X7_lawful X7_lawful_0 X7_lawful_24 X7_lawful_77 X8_lawful X8_lawful_0 X8_lawful_16 X8_lawful_52 X8_lawful_53
  rcases bg_case hB x with ⟨b, zl, ob, y1, y2, y3, y4, y5, y6, y7, -⟩ | ⟨n1, n2⟩
  · rcases lw_case hW y with ⟨l, cs, lo, w1, w2, w3, w4, w5, w6, w7, -⟩ | ⟨m1, m2⟩
    · rw [y6 C M2 rfl, y7 M rfl, bsm, bsm, prs, w6 C M2 rfl, bsm, prs, ifs, ifs, v_hasSet y4 y3 C M2 st, bsm, i01]
      dsimp only
      rw [if_neg z1, w7 M rfl, bsm]
      dsimp only
      rw [if_neg z1, r_isSet y2 y3 y1 y5, bsm, i01]
      by_cases q : inS zl st
      · rw [if_pos q, if_pos q, v_readable y4 y3 C M2 st, bsm, i01]
        dsimp only
        obtain ⟨l1, l2⟩ := r_leftB (st := st) y2 y3 y1 y5
        cases hr : rdS zl st with
        | none =>
          obtain ⟨M', a1, a2⟩ := l1 hr
          rw [if_neg (fun c => by cases c.2), a1, bsm, if_pos rfl]
          exact ⟨_, C, M', rfl, rfl, frC.rfl hC, frL_S a2⟩
        | some ds =>
          obtain ⟨M', a1, a2, a3⟩ := l2 ds hr
          obtain ⟨C', t1, t2, t3, t4⟩ := v_tell (M := M2) hC y4 y3 hr
          have hV := lV_dV t3 M2 D
          obtain ⟨M3, c1, c2⟩ := r_isLawful (more := 0) w2 w1 w3 (by decide) (by decide) (rLw_L (frL_S a3) w5) a2
          rw [if_pos ⟨q, rfl⟩, a1, bsm, if_neg z1, left_q, bsm, t1, bsm]
          dsimp only
          rw [left_q, bsm, k_allows (w4 C' M2) w3 hV t4 0, bsm, c1, bsm, b01_i, b01_i]
          refine ⟨b01 (lawB cs ds 0), C', M3, ?_, ?_, t2, frS.trans (frL_S a3) (fr31_S c2)⟩
          · cases lawB cs ds 0 <;> rfl
          · cases lawB cs ds 0 <;> rfl
      · rw [if_neg q, if_neg q]
        exact ⟨_, C, M, rfl, rfl, frC.rfl hC, frS.rfl⟩
    · rw [y6 C M2 rfl, y7 M rfl, bsm, bsm, prs, m1 C M2 rfl, bsm, prs, ifs, ifz]
      dsimp only
      rw [if_neg z1, m2 M rfl, bsm, if_pos rfl]
      exact ⟨_, C, M, rfl, rfl, frC.rfl hC, frS.rfl⟩
  · have hl : ∃ o, cO (mh (ccells C) M2 D) 0 7 (X7_lawOf (mh (ccells C) M2 D) 0 y) = some (o, mh (ccells C) M2 D) := ⟨_, k_lawOf C M2 D y⟩
    obtain ⟨o, ho⟩ := hl
    rw [n1 C M2 rfl, n2 M rfl, bsm, bsm, prs, ho, bsm, prs, ifz, if_pos rfl]
    exact ⟨_, C, M, rfl, rfl, frC.rfl hC, frS.rfl⟩
theorem r_bd48 {l : Nat} {cs : List Cz} {x : Int32} {ds : List Dt} (hl : l < 5) (hx : x.toInt = l) (hk : okL cs) : ∀ (us : List Dt) (k fn acc : Nat) (M : MS) (l5 : Int32), ds.drop k = us → us.length < fn → l5.toInt = k → acc < 2 ^ 12 → rLw M l cs → dM M ds → ∃ M', X8_barred_48 fn M x (nI acc) l5 = some (nI (acc ||| bdN (brS cs ds) k us), M') ∧ fr31 M M'
  | [], k, fn, acc, M, l5, hd, hf, h3, ha, hR, hD => by
    obtain ⟨fn, rfl⟩ : ∃ q, fn = q + 1 := ⟨fn - 1, by omega⟩
    have hk := List.drop_eq_nil_iff.mp hd
    refine ⟨M, ?_, fr31.rfl⟩
    rw [X8_barred_48, if_pos (by rw [zi_le, hD.1]; omega)]
    unfold bdN
    rw [Nat.or_zero]
  | z :: us, k, fn, acc, M, l5, hd, hf, h3, ha, hR, hD => by
    simp only [List.length_cons] at hf
    obtain ⟨fn, rfl⟩ : ∃ q, fn = q + 1 := ⟨fn - 1, by omega⟩
    have hdl := hD.2.1
    obtain ⟨d1, d2, d3⟩ := drop_c hd
    have hi : (l5 + 1).toInt = ((k + 1 : Nat) : Int) := by
      rw [zi_inc h3 (by omega) (by omega)]
      omega
    have h5 : l5 = nI k := zi_eq.mpr (by rw [h3, q_i (by omega)])
    have h2k : (2 : Nat) ^ k < 2 ^ 12 := Nat.pow_lt_pow_right (by omega) (by omega)
    obtain ⟨M1, a1, a2⟩ := r_isBarred hl hx hk d1 h3 hR hD
    rw [X8_barred_48, if_neg (by rw [zi_le, hD.1]; omega), a1, bsm, b01_i]
    unfold X8_barred_77 bdN
    cases q : brS cs ds z with
    | true =>
      obtain ⟨M2, b1, b2⟩ := r_bd48 hl hx hk us (k + 1) fn (acc ||| 2 ^ k) M1 (l5 + 1) d2 (by omega) hi (Nat.or_lt_two_pow ha h2k) (rLw_31 a2 hR) (dM_31 a2 hD)
      rw [if_pos rfl, if_pos rfl, h5, one_shl (by omega), q_or, ← h5, ← Nat.or_assoc]
      exact ⟨M2, b1, fr31.trans a2 b2⟩
    | false =>
      obtain ⟨M2, b1, b2⟩ := r_bd48 hl hx hk us (k + 1) fn acc M1 (l5 + 1) d2 (by omega) hi ha (rLw_31 a2 hR) (dM_31 a2 hD)
      rw [if_neg (by decide), if_neg (by decide), Nat.zero_or, Int32.or_zero]
      exact ⟨M2, b1, fr31.trans a2 b2⟩
theorem o_barred (C : CS) (M M2 : MS) (D : List va_E) (x st y : Int32) (hC : lf12 C) (hB : iBs (C.1 0) (C.2.2.2.1 0) D M) (hW : iLs (C.1 1) (C.2.2.2.1 1) D M) : asks C M M2 D (X7_barred (mh (ccells C) M2 D) 0 x st y) (X8_barred M x st y) := by
  have z1 : ¬ (1 : Int32) = 0 := by decide
  unfold X7_barred X7_barred_0 X7_barred_24 X8_barred X8_barred_0 X8_barred_16
  rcases bg_case hB x with ⟨b, zl, ob, y1, y2, y3, y4, y5, y6, y7, -⟩ | ⟨n1, n2⟩
  · rcases lw_case hW y with ⟨l, cs, lo, w1, w2, w3, w4, w5, w6, w7, -⟩ | ⟨m1, m2⟩
    · rw [y6 C M2 rfl, y7 M rfl, bsm, bsm, prs, w6 C M2 rfl, bsm, prs, ifs, ifs, v_hasSet y4 y3 C M2 st, bsm, i01]
      dsimp only
      rw [if_neg z1, w7 M rfl, bsm]
      dsimp only
      rw [if_neg z1, r_isSet y2 y3 y1 y5, bsm, i01]
      by_cases q : inS zl st
      · rw [if_pos q, if_pos q, v_readable y4 y3 C M2 st, bsm, i01]
        dsimp only
        obtain ⟨l1, l2⟩ := r_leftB (st := st) y2 y3 y1 y5
        cases hr : rdS zl st with
        | none =>
          obtain ⟨M', a1, a2⟩ := l1 hr
          rw [if_neg (fun c => by cases c.2), a1, bsm, if_pos rfl]
          exact ⟨_, C, M', rfl, rfl, frC.rfl hC, frL_S a2⟩
        | some ds =>
          obtain ⟨M', a1, a2, a3⟩ := l2 ds hr
          obtain ⟨C', t1, t2, t3, t4⟩ := v_tell (M := M2) hC y4 y3 hr
          have hV := lV_dV t3 M2 D
          obtain ⟨M3, c1, c2⟩ := r_bd48 w2 w1 w3 ds 0 FU 0 M' 0 rfl (by have := a2.2.1; unfold FU; omega) rfl (by omega) (rLw_L (frL_S a3) w5) a2
          rw [Nat.zero_or] at c1
          rw [if_pos ⟨q, rfl⟩, a1, bsm, if_neg z1, left_q, bsm, t1, bsm]
          dsimp only
          rw [left_q, bsm, k_barredD (w4 C' M2) w3 hV t4, bsm]
          exact ⟨_, C', M3, rfl, c1, t2, frS.trans (frL_S a3) (fr31_S c2)⟩
      · rw [if_neg q, if_neg q]
        exact ⟨_, C, M, rfl, rfl, frC.rfl hC, frS.rfl⟩
    · rw [y6 C M2 rfl, y7 M rfl, bsm, bsm, prs, m1 C M2 rfl, bsm, prs, ifs, ifz]
      dsimp only
      rw [if_neg z1, m2 M rfl, bsm, if_pos rfl]
      exact ⟨_, C, M, rfl, rfl, frC.rfl hC, frS.rfl⟩
  · have hl : ∃ o, cO (mh (ccells C) M2 D) 0 7 (X7_lawOf (mh (ccells C) M2 D) 0 y) = some (o, mh (ccells C) M2 D) := ⟨_, k_lawOf C M2 D y⟩
    obtain ⟨o, ho⟩ := hl
    rw [n1 C M2 rfl, n2 M rfl, bsm, bsm, prs, ho, bsm, prs, ifz, if_pos rfl]
    exact ⟨_, C, M, rfl, rfl, frC.rfl hC, frS.rfl⟩
