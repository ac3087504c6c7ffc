/-! ===== which sets are good ===== -/
def fnB (zl : List Wd) (cs : List Cz) (s : Nat) : Bool := match rdS zl (nI s) with
  | none => false
  | some ds => lawB cs ds 0 && (!hasK 3 cs || snB zl (nI s))
def gdB (kind : Nat) (zl : List Wd) (cs : List Cz) (s : Nat) : Bool := fnB zl cs s && ltB kind zl (nI s)
def fnM (M : MS) (zl : List Wd) (cs : List Cz) : Prop := ∀ s, s < 2 ^ zl.length → M.2.1 34 s = b01 (fnB zl cs s)
theorem o_let (C : CS) (M M2 : MS) (D : List va_E) (kd x st : Int32) (hC : lf12 C) (hB : iBs (C.1 0) (C.2.2.2.1 0) D M) : asks C M M2 D (X7_let (mh (ccells C) M2 D) 0 kd x st) (X8_let M kd x st) := by
  have z1 : ¬ (1 : Int32) = 0 := by decide
  unfold X7_let X7_let_0 X7_let_19 X7_let_49 X8_let X8_let_0 X8_let_16 X8_let_50
  obtain ⟨o, ho⟩ : ∃ o, cO (mh (ccells C) M2 D) 0 7 (X7_bargainOf (mh (ccells C) M2 D) 0 x) = some (o, mh (ccells C) M2 D) := ⟨_, k_bargainOf C M2 D x⟩
  rw [ho, bsm, prs, k_isKind, bsm, i01, r_isKind, bsm, i01]
  dsimp only
  by_cases qk : 0 ≤ kd ∧ kd ≤ 6
  · rw [if_pos qk, if_pos qk]
    have e6 : (6 : Int32).toInt = 6 := rfl
    have e0 : (0 : Int32).toInt = 0 := rfl
    obtain ⟨k, k1, k2, k3⟩ := q_n (x := kd) (k := 6) (by have := zi_le.mp qk.1; omega) (by have := zi_le.mp qk.2; omega)
    rcases bg_case hB x with ⟨b, zl, ob, y1, y2, y3, y4, y5, y6, y7, -⟩ | ⟨n1, n2⟩
    · have e := (y6 C M2 rfl).symm.trans ho
      cases e
      rw [ifs, v_hasSet y4 y3 C M2 st, bsm, i01, y7 M rfl, bsm]
      dsimp only
      rw [if_neg z1, r_isSet y2 y3 y1 y5, bsm, i01]
      by_cases q : inS zl st
      · obtain ⟨M1, a1, a2, a3, a4⟩ := r_whole y2 y3 y1 y5
        obtain ⟨M3, b1, b2⟩ := r_let (st := st) (kind := k) y2 y3 y1 (rBg_L a3 y5) a2 (by omega)
        obtain ⟨C', c1, c2⟩ := k_let (M2 := M2) (st := st) (kind := k) hC y4 y3 q (by omega)
        rw [if_pos q, if_pos q, a1, bsm]
        dsimp only
        rw [k2, b1, c1, bsm, bsm, b01_i, b01_i]
        refine ⟨b01 (ltB k zl st), C', M3, ?_, ?_, c2, frS.trans a3 (frT_S b2)⟩
        · cases ltB k zl st <;> rfl
        · cases ltB k zl st <;> rfl
      · rw [if_neg q, if_neg q]
        exact ⟨_, C, M, rfl, rfl, frC.rfl hC, frS.rfl⟩
    · have e := (n1 C M2 rfl).symm.trans ho
      cases e
      rw [ifz, n2 M rfl, bsm, if_pos rfl]
      exact ⟨_, C, M, rfl, rfl, frC.rfl hC, frS.rfl⟩
  · rw [if_neg qk, if_neg qk]
    exact ⟨_, C, M, rfl, rfl, frC.rfl hC, frS.rfl⟩
-- the class
theorem v_told {C : CS} {D : List va_E} {lo : Nat} {cs : List Cz} (h : LVD D lo cs) (M : MS) : cO (mh (ccells C) M D) lo 3 (X3_hasSense (mh (ccells C) M D) lo) = some (b01 (hasK 3 cs), mh (ccells C) M D) := by
  obtain ⟨st, -, -, h1, h2⟩ := h C M
  rw [e_cO h1]
  unfold X3_hasSense X3_hasSense_0
  rw [e_gI h1 rfl, bsm, zg_b]
theorem k_good {C : CS} {M2 : MS} {D : List va_E} {ob lo kind s : Nat} {zl : List Wd} {cs : List Cz} {ds : List Dt} (hC : lf12 C) (hB : BVD D ob zl) (hk : okB zl) (hL : LVD D lo cs) (hl : okL cs) (hs : s < 2 ^ zl.length) (hkd : kind < 7) (hr : rdS zl (nI s) = some ds) : ∃ C', cO (mh (ccells C) M2 D) 0 7 (X7_isGood (mh (ccells C) M2 D) 0 (nI kind) (some ob) (some lo) (nI s)) = some (b01 (gdB kind zl cs s), mh (ccells C') M2 D) ∧ frC C C' := by
  have hp := v_pow hk
  have hin : inS zl (nI s) := by
    unfold inS
    rw [q_i (by omega)]
    omega
  have hc : ∀ (C : CS) (o : Option (Int32 × AH)), cO (mh (ccells C) M2 D) 0 7 o = o := fun _ _ => rfl
  obtain ⟨C1, a1, a2⟩ := k_let (M2 := M2) (kind := kind) hC hB hk hin hkd
  rw [hc]
  unfold X7_isGood X7_isGood_0 gdB fnB
  rw [a1, bsm, b01_i, hr]
  dsimp only
  cases ltB kind zl (nI s) with
  | false =>
    rw [if_neg (by decide), Bool.and_false]
    exact ⟨C1, zg_b false _, a2⟩
  | true =>
    rw [if_pos rfl, bsm, v_told hL M2, bsm, b01_i, Bool.and_true]
    have c32 : ∀ C2 : CS, lf12 C2 → ∃ C', zg (X7_isGood_32 (mh (ccells C2) M2 D) 0 (some ob) (some lo) (nI s)) = some (b01 (lawB cs ds 0), mh (ccells C') M2 D) ∧ frC C2 C' := by
      intro C2 h2
      obtain ⟨C3, t1, t2, t3, t4⟩ := v_tell (M := M2) h2 hB hk hr
      unfold X7_isGood_32
      rw [left_q, bsm, bsm, t1, bsm]
      dsimp only
      rw [left_q, bsm, bsm, k_allows (hL C3 M2) hl (lV_dV t3 M2 D) t4 0, bsm]
      exact ⟨C3, zg_b _ _, t2⟩
    cases hasK 3 cs with
    | false =>
      rw [if_neg (by decide)]
      obtain ⟨C3, b1, b2⟩ := c32 C1 a2.lf
      refine ⟨C3, ?_, frC.trans a2 b2⟩
      show zg (X7_isGood_32 (mh (ccells C1) M2 D) 0 (some ob) (some lo) (nI s)) = some (b01 (lawB cs ds 0 && (!false || snB zl (nI s))), mh (ccells C3) M2 D)
      rw [b1, Bool.not_false, Bool.true_or, Bool.and_true]
    | true =>
      obtain ⟨C2, s1, s2⟩ := k_sense (M2 := M2) a2.lf hB hk hin
      rw [if_pos rfl]
      dsimp only
      rw [s1, bsm, b01_i, Bool.not_true, Bool.false_or]
      cases snB zl (nI s) with
      | false =>
        rw [if_neg (by decide), Bool.and_false]
        exact ⟨C2, zg_b false _, frC.trans a2 s2⟩
      | true =>
        rw [if_pos rfl, Bool.and_true]
        obtain ⟨C3, b1, b2⟩ := c32 C2 s2.lf
        exact ⟨C3, b1, frC.trans a2 (frC.trans s2 b2)⟩
-- the reference
theorem r_asks5 {M : MS} {l : Nat} {cs : List Cz} {x : Int32} (hl : l < 5) (hx : x.toInt = l) (hk : okL cs) (hR : rLw M l cs) : ∀ (us : List Cz) (i fn : Nat) (y : Int32), cs.drop i = us → us.length < fn → y.toInt = ((8 * l + i : Nat) : Int) → X8_asksSense_5 fn M x y = some (b01 (hasK 3 us), M)
  | [], i, fn, y, hd, hf, hy => by
    obtain ⟨fn, rfl⟩ : ∃ q, fn = q + 1 := ⟨fn - 1, by omega⟩
    have hk2 := List.drop_eq_nil_iff.mp hd
    have h8 := hk.2.1
    have e8 : (8 : Int32).toInt = 8 := rfl
    have hx8 : (8 * x).toInt = 8 * l := by
      rw [zi_mul (by rw [e8]; omega) (by rw [e8]; omega), e8, hx]
    rw [X8_asksSense_5, mA_ok (j := 9) (q := l) hx (by show l < 5; omega), bsm, if_pos (by rw [zi_le, zi_add (by rw [hR.1]; omega) (by rw [hR.1]; omega), hR.1]; omega)]
    rfl
  | c :: us, i, fn, y, hd, hf, hy => by
    simp only [List.length_cons] at hf
    obtain ⟨fn, rfl⟩ : ∃ q, fn = q + 1 := ⟨fn - 1, by omega⟩
    obtain ⟨d1, d2, d3⟩ := drop_c hd
    have h8 := hk.2.1
    have e8 : (8 : Int32).toInt = 8 := rfl
    have hx8 : (8 * x).toInt = 8 * l := by
      rw [zi_mul (by rw [e8]; omega) (by rw [e8]; omega), e8, hx]
    have hcz := hR.2 i c d1
    obtain ⟨k1, k2, k3⟩ := hk.2.2.1 c (List.mem_of_getElem? d1)
    have ih := r_asks5 hl hx hk hR us (i + 1) fn (y + 1) d2 (by omega) (by rw [zi_inc hy (by omega) (by omega)]; omega)
    have eh : hasK 3 (c :: us) = ((c.1 == 3) || hasK 3 us) := rfl
    rw [X8_asksSense_5, mA_ok (j := 9) (q := l) hx (by show l < 5; omega), bsm, if_neg (by rw [zi_le, zi_add (by rw [hR.1]; omega) (by rw [hR.1]; omega), hR.1]; omega), mA_ok (j := 10) (q := 8 * l + i) hy (by show _ < 40; omega), bsm, hcz.1, eh]
    by_cases q : c.1 = 3
    · rw [if_pos (show nI c.1 = 3 by rw [q]; rfl), q]
      rfl
    · rw [if_neg (show ¬ nI c.1 = 3 from fun e => q ((nI_inj (b := 3) (by omega) (by omega)).mp e)), beq_eq_false_iff_ne.mpr q, Bool.false_or]
      exact ih
theorem r_asks {M : MS} {l : Nat} {cs : List Cz} {x : Int32} (hl : l < 5) (hx : x.toInt = l) (hk : okL cs) (hR : rLw M l cs) : X8_asksSense M x = some (b01 (hasK 3 cs), M) := by
  have e8 : (8 : Int32).toInt = 8 := rfl
  have hx8 : (8 * x).toInt = ((8 * l + 0 : Nat) : Int) := by
    rw [zi_mul (by rw [e8]; omega) (by rw [e8]; omega), e8, hx]
    omega
  unfold X8_asksSense X8_asksSense_0
  rw [r_asks5 hl hx hk hR cs 0 FU (8 * x) rfl (by have := hk.2.1; unfold FU; omega) hx8, zg_b]
def frF (M M' : MS) : Prop := fM M M' [27, 28, 29, 30] [20, 21, 22, 23, 24, 25, 26, 31, 34] []
theorem frT_F {M M' : MS} (h : frT M M') : frF M M' := fM_mono h (by decide) (by decide) (by decide)
theorem rBg_F {M M' : MS} {b : Nat} {zl : List Wd} (h : frF M M') (hr : rBg M b zl) : rBg M' b zl := rBg_M (h.2.1 6 (by decide)) (h.2.1 7 (by decide)) (h.2.1 8 (by decide)) hr
theorem rLw_F {M M' : MS} {l : Nat} {cs : List Cz} (h : frF M M') (hr : rLw M l cs) : rLw M' l cs := rLw_M (h.2.1 9 (by decide)) (h.2.1 10 (by decide)) (h.2.1 11 (by decide)) (h.2.1 12 (by decide)) (h.2.1 13 (by decide)) (h.2.1 14 (by decide)) hr
theorem whM_F {M M' : MS} {zl : List Wd} (h : frF M M') (hw : whM M zl) : whM M' zl := by
  unfold whM at hw ⊢
  rw [h.1 33 (by decide), h.2.2 32 (by decide)]
  exact hw
theorem r_ff41 {b l : Nat} {zl : List Wd} {cs : List Cz} {x y : Int32} (hb : b < 6) (hk : okB zl) (hx : x.toInt = b) (hl : l < 5) (hy : y.toInt = l) (hkl : okL cs) : ∀ (m k fn : Nat) (M : MS), k + m = 2 ^ zl.length → m < fn → rBg M b zl → rLw M l cs → whM M zl → (∀ s, s < k → M.2.1 34 s = b01 (fnB zl cs s)) → ∃ M', X8_findFine_41 fn M x y (b01 (hasK 3 cs)) (nI k) = some ((), M') ∧ fnM M' zl cs ∧ frF M M'
  | 0, k, fn, M, hm, hf, hB, hR, hW, h => by
    obtain ⟨fn, rfl⟩ : ∃ q, fn = q + 1 := ⟨fn - 1, by omega⟩
    have hp := v_pow hk
    have hn : M.2.1 8 b = nI zl.length := zi_eq.mpr (by rw [hB.1, q_i (by have := hk.1; omega)])
    refine ⟨M, ?_, fun s hs => h s (by omega), fM.rfl⟩
    rw [X8_findFine_41, mA_ok (j := 8) (q := b) hx (by show b < 6; omega), bsm, hn, one_shl (by have := hk.1; omega), if_pos ((q_le (by omega) (by omega)).mpr (by omega))]
  | m + 1, k, fn, M, hm, hf, hB, hR, hW, h => by
    obtain ⟨fn, rfl⟩ : ∃ q, fn = q + 1 := ⟨fn - 1, by omega⟩
    have hp := v_pow hk
    have hn : M.2.1 8 b = nI zl.length := zi_eq.mpr (by rw [hB.1, q_i (by have := hk.1; omega)])
    have go : ∀ (M1 : MS) (v : Bool) (xv : Int32), frT M M1 → vp_nar .boolean xv = b01 v → v = fnB zl cs k → ∃ M', X8_findFine_98 (X8_findFine_41 fn) M1 (nI k) xv x y (b01 (hasK 3 cs)) (nI k) = some ((), M') ∧ fnM M' zl cs ∧ frF M M' := by
      intro M1 v xv f1 hxv hv
      unfold X8_findFine_98
      rw [mAs_ok (j := 34) (q := k) (q_i (by omega)) (by show k < 4096; omega), bsm, hxv, show nI k + 1 = nI (k + 1) from q_add k 1]
      have f2 : frF M1 (sa M1 34 (upd (M1.2.1 34) k (b01 v))) := fM_sa (by decide)
      have f12 := fM.trans (frT_F f1) f2
      obtain ⟨M', a1, a2, a3⟩ := r_ff41 hb hk hx hl hy hkl m (k + 1) fn (sa M1 34 (upd (M1.2.1 34) k (b01 v))) (by omega) (by omega) (rBg_F f12 hB) (rLw_F f12 hR) (whM_F f12 hW) (fun s hs => by
        show upd (M1.2.1 34) k (b01 v) s = _
        unfold upd
        by_cases e : s = k
        · rw [if_pos e, hv, e]
        · rw [if_neg e, f1.2.1 34 (by decide)]
          exact h s (by omega))
      exact ⟨M', a1, a2, fM.trans f12 a3⟩
    obtain ⟨l1, l2⟩ := r_leftB (st := nI k) hb hk hx hB
    rw [X8_findFine_41, mA_ok (j := 8) (q := b) hx (by show b < 6; omega), bsm, hn, one_shl (by have := hk.1; omega), if_neg (fun c => by have := (q_le (by omega) (by omega)).mp c; omega)]
    unfold X8_findFine_93 X8_findFine_97
    cases hr : rdS zl (nI k) with
    | none =>
      obtain ⟨M1, a1, a2⟩ := l1 hr
      rw [a1, bsm, if_pos rfl]
      exact go M1 false 0 (frL_T a2) rfl (by unfold fnB; rw [hr])
    | some ds =>
      obtain ⟨M1, a1, a2, a3⟩ := l2 ds hr
      obtain ⟨M3, c1, c2⟩ := r_isLawful (more := 0) hl hy hkl (by decide) (by decide) (rLw_L (frL_S a3) hR) a2
      have f3 : frT M M3 := frT.trans (frL_T a3) (fr31_T c2)
      rw [a1, bsm, if_neg (show ¬ (1 : Int32) = 0 by decide)]
      dsimp only
      rw [c1, bsm, b01_i]
      have ev : fnB zl cs k = (lawB cs ds 0 && (!hasK 3 cs || snB zl (nI k))) := by
        unfold fnB
        rw [hr]
      cases q : lawB cs ds 0 with
      | false =>
        rw [if_neg (by decide)]
        exact go M3 false 0 f3 rfl (by rw [ev, q, Bool.false_and])
      | true =>
        rw [if_pos rfl, b01_i]
        cases q3 : hasK 3 cs with
        | false =>
          rw [if_neg (by decide)]
          have := go M3 true 1 f3 rfl (by rw [ev, q, q3]; rfl)
          rw [q3] at this
          exact this
        | true =>
          obtain ⟨M4, d1, d2⟩ := r_sense (st := nI k) hb hk hx (rBg_F (frT_F f3) hB) (whM_T f3 hW)
          rw [if_pos rfl]
          dsimp only
          rw [d1, bsm, b01_i]
          cases q4 : snB zl (nI k) with
          | false =>
            rw [if_neg (by decide)]
            have := go M4 false 0 (frT.trans f3 d2) rfl (by rw [ev, q, q3, q4]; rfl)
            rw [q3] at this
            exact this
          | true =>
            rw [if_pos rfl]
            have := go M4 true 1 (frT.trans f3 d2) rfl (by rw [ev, q, q3, q4]; rfl)
            rw [q3] at this
            exact this
theorem rBg_uniq {M : MS} {b : Nat} {zl zk : List Wd} (h : rBg M b zl) (h2 : rBg M b zk) : zl = zk := by
  have hl : zl.length = zk.length := by
    have := h.1
    have := h2.1
    omega
  apply List.ext_getElem?
  intro i
  by_cases q : i < zl.length
  · have e1 := List.getElem?_eq_getElem q
    have e2 := List.getElem?_eq_getElem (show i < zk.length by omega)
    have a1 := h.2 i _ e1
    have a2 := h2.2 i _ e2
    rw [e1, e2, a1, a2]
  · rw [List.getElem?_eq_none (by omega), List.getElem?_eq_none (by omega)]
theorem b01_inj {a b : Bool} (h : b01 a = b01 b) : a = b := by
  cases a <;> cases b <;> first | rfl | (exact absurd h (by decide))
theorem fnB_uniq {M : MS} {b l : Nat} {zl : List Wd} {cs ct : List Cz} {x y : Int32} (hb : b < 6) (hk : okB zl) (hx : x.toInt = b) (hl : l < 5) (hy : y.toInt = l) (hkl : okL cs) (hkt : okL ct) (hB : rBg M b zl) (hR : rLw M l cs) (hT : rLw M l ct) (s : Nat) : fnB zl cs s = fnB zl ct s := by
  unfold fnB
  cases hr : rdS zl (nI s) with
  | none => rfl
  | some ds =>
    obtain ⟨l1, l2⟩ := r_leftB (st := nI s) hb hk hx hB
    obtain ⟨M1, a1, a2, a3⟩ := l2 ds hr
    obtain ⟨M3, c1, c2⟩ := r_isLawful (more := 0) hl hy hkl (by decide) (by decide) (rLw_L (frL_S a3) hR) a2
    obtain ⟨M4, d1, d2⟩ := r_isLawful (more := 0) hl hy hkt (by decide) (by decide) (rLw_L (frL_S a3) hT) a2
    rw [c1] at d1
    have e1 := b01_inj (congrArg Prod.fst (Option.some.inj d1))
    have e2 := r_asks hl hy hkl hR
    rw [r_asks hl hy hkt hT] at e2
    have e2 := b01_inj (congrArg Prod.fst (Option.some.inj e2))
    dsimp only
    rw [e1, e2]
def iFn (M : MS) : Prop := (M.1 35).toInt = -1 ∨ ∃ (b l : Nat) (zl : List Wd) (cs : List Cz), (M.1 35).toInt = b ∧ (M.1 36).toInt = l ∧ b < 6 ∧ l < 5 ∧ (b : Int) < (M.1 0).toInt ∧ (l : Int) < (M.1 1).toInt ∧ okB zl ∧ okL cs ∧ rBg M b zl ∧ rLw M l cs ∧ fnM M zl cs
theorem iFn_S {M M' : MS} (h : frS M M') (hi : iFn M) : iFn M' := by
  rcases hi with c | ⟨b, l, zl, cs, a1, a2, a3, a4, a5, a6, a7, a8, a9, a10, a11⟩
  · left
    rw [h.1 35 (by decide)]
    exact c
  · right
    refine ⟨b, l, zl, cs, by rw [h.1 35 (by decide)]; exact a1, by rw [h.1 36 (by decide)]; exact a2, a3, a4, by rw [h.1 0 (by decide)]; exact a5, by rw [h.1 1 (by decide)]; exact a6, a7, a8, rBg_L h a9, rLw_L h a10, ?_⟩
    unfold fnM at a11 ⊢
    rw [h.2.1 34 (by decide)]
    exact a11
def frG (M M' : MS) : Prop := fM M M' [27, 28, 29, 30, 33, 35, 36] [20, 21, 22, 23, 24, 25, 26, 31, 34] [32]
theorem frG.trans {M M1 M2 : MS} (h : frG M M1) (h2 : frG M1 M2) : frG M M2 := fM.trans h h2
theorem frS_G {M M' : MS} (h : frS M M') : frG M M' := fM_mono h (by decide) (by decide) (by decide)
theorem frF_G {M M' : MS} (h : frF M M') : frG M M' := fM_mono h (by decide) (by decide) (by decide)
theorem frT_G {M M' : MS} (h : frT M M') : frG M M' := fM_mono h (by decide) (by decide) (by decide)
theorem rBg_G {M M' : MS} {b : Nat} {zl : List Wd} (h : frG M M') (hr : rBg M b zl) : rBg M' b zl := rBg_M (h.2.1 6 (by decide)) (h.2.1 7 (by decide)) (h.2.1 8 (by decide)) hr
theorem rLw_G {M M' : MS} {l : Nat} {cs : List Cz} (h : frG M M') (hr : rLw M l cs) : rLw M' l cs := rLw_M (h.2.1 9 (by decide)) (h.2.1 10 (by decide)) (h.2.1 11 (by decide)) (h.2.1 12 (by decide)) (h.2.1 13 (by decide)) (h.2.1 14 (by decide)) hr
theorem r_fine {M : MS} {b l : Nat} {zl : List Wd} {cs : List Cz} {x y : Int32} (hb : b < 6) (hk : okB zl) (hx : x.toInt = b) (hl : l < 5) (hy : y.toInt = l) (hkl : okL cs) (hB : rBg M b zl) (hR : rLw M l cs) (hi : iFn M) (hnb : (b : Int) < (M.1 0).toInt) (hnl : (l : Int) < (M.1 1).toInt) : ∃ M', X8_findFine M x y = some ((), M') ∧ whM M' zl ∧ fnM M' zl cs ∧ iFn M' ∧ frG M M' := by
  obtain ⟨M1, a1, a2, a3, a4⟩ := r_whole hb hk hx hB
  have hB1 := rBg_L a3 hB
  have hR1 := rLw_L a3 hR
  have hi1 := iFn_S a3 hi
  have go : ∃ M', X8_findFine_22 M1 x y = some ((), M') ∧ whM M' zl ∧ fnM M' zl cs ∧ iFn M' ∧ frG M M' := by
    have f1 : frG M1 (si (si M1 35 x) 36 y) := fM.trans (fM_si (by decide)) (fM_si (by decide))
    obtain ⟨M2, b1, b2, b3⟩ := r_ff41 hb hk hx hl hy hkl (2 ^ zl.length) 0 FU (si (si M1 35 x) 36 y) (by omega) (by have := v_pow hk; unfold FU; omega) (rBg_G f1 hB1) (rLw_G f1 hR1) a2 (fun s hs => by omega)
    unfold X8_findFine_22
    rw [r_asks hl hy hkl (rLw_G f1 hR1), bsm]
    have hw2 : whM (si (si M1 35 x) 36 y) zl := a2
    refine ⟨M2, b1, whM_F b3 hw2, b2, .inr ⟨b, l, zl, cs, ?_, ?_, hb, hl, ?_, ?_, hk, hkl, rBg_F b3 (rBg_G f1 hB1), rLw_F b3 (rLw_G f1 hR1), b2⟩, frG.trans (frS_G a3) (frG.trans f1 (frF_G b3))⟩
    · rw [b3.1 35 (by decide)]
      exact hx
    · rw [b3.1 36 (by decide)]
      exact hy
    · rw [b3.1 0 (by decide)]
      show _ < (M1.1 0).toInt
      rw [a3.1 0 (by decide)]
      exact hnb
    · rw [b3.1 1 (by decide)]
      show _ < (M1.1 1).toInt
      rw [a3.1 1 (by decide)]
      exact hnl
  unfold X8_findFine X8_findFine_0
  rw [a1, bsm]
  dsimp only
  by_cases q : M1.1 35 = x
  · rw [if_pos q]
    by_cases q2 : M1.1 36 = y
    · rw [if_pos q2]
      refine ⟨M1, rfl, a2, ?_, hi1, frS_G a3⟩
      rcases hi1 with c | ⟨b', l', zl', cs', c1, c2, c3, c4, c5, c6, c7, c8, c9, c10, c11⟩
      · rw [q] at c
        omega
      · rw [q] at c1
        rw [q2] at c2
        have eb : b' = b := by omega
        have el : l' = l := by omega
        subst eb
        subst el
        have ez := rBg_uniq c9 hB1
        subst ez
        intro s hs
        rw [c11 s hs, fnB_uniq hb hk hx hl hy c8 hkl hB1 c10 hR1 s]
    · rw [if_neg q2]
      exact go
  · rw [if_neg q]
    exact go
theorem r_good {M : MS} {x : Int32} {b kind s : Nat} {zl : List Wd} {cs : List Cz} (hb : b < 6) (hk : okB zl) (hx : x.toInt = b) (hB : rBg M b zl) (hW : whM M zl) (hF : fnM M zl cs) (hs : s < 2 ^ zl.length) (hkd : kind < 7) : ∃ M', X8_isGood M (nI kind) x (nI s) = some (b01 (gdB kind zl cs s), M') ∧ frT M M' := by
  have hp := v_pow hk
  obtain ⟨M1, a1, a2⟩ := r_let (st := nI s) (kind := kind) hb hk hx hB hW hkd
  unfold X8_isGood X8_isGood_0 X8_isGood_23 X8_isGood_24 gdB
  rw [mA_ok (j := 34) (q := s) (q_i (by omega)) (by show s < 4096; omega), bsm, hF s hs, b01_i]
  cases fnB zl cs s with
  | false =>
    rw [if_neg (by decide), Bool.false_and]
    exact ⟨M, zg_b false _, frT.rfl⟩
  | true =>
    rw [if_pos rfl, a1, bsm, b01_i, Bool.true_and]
    cases ltB kind zl (nI s) with
    | false =>
      rw [if_neg (by decide)]
      exact ⟨M1, zg_b false _, a2⟩
    | true =>
      rw [if_pos rfl]
      exact ⟨M1, zg_b true _, a2⟩
theorem fnM_T {M M' : MS} {zl : List Wd} {cs : List Cz} (h : frT M M') (hf : fnM M zl cs) : fnM M' zl cs := by
  unfold fnM at hf ⊢
  rw [h.2.1 34 (by decide)]
  exact hf
