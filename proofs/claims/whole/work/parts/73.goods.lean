/-! ===== good, next, least, inAll ===== -/
def kcx (D : List va_E) (ob lo : Nat) (zl : List Wd) (cs : List Cz) (kind : Nat) : Prop := BVD D ob zl ∧ okB zl ∧ LVD D lo cs ∧ okL cs ∧ kind < 7
theorem k_goodS {C : CS} {M2 : MS} {D : List va_E} {ob lo kind s : Nat} {zl : List Wd} {cs : List Cz} (h : kcx D ob lo zl cs kind) (hC : lf12 C) (hs : s ∈ RDs zl) : ∃ C', cO (mh (ccells C) M2 D) 0 7 (X7_isGood (mh (ccells C) M2 D) 0 (nI kind) (some ob) (some lo) (nI s)) = some (b01 (gdB kind zl cs s), mh (ccells C') M2 D) ∧ frC C C' := by
  obtain ⟨h1, h2, h3, h4, h5⟩ := h
  obtain ⟨s1, ds, s2⟩ := RDs_mem h2 hs
  exact k_good hC h1 h2 h3 h4 s1 h5 s2
def gdF (i : Int32) : Int32 → List Nat → Int32
  | told, [] => if i = -1 then told else -1
  | told, s :: us => if told = i then nI s else gdF i (told + 1) us
theorem kg_45 {M2 : MS} {D : List va_E} {ob lo kind : Nat} {zl : List Wd} {cs : List Cz} (h : kcx D ob lo zl cs kind) (i : Int32) : ∀ (us : List Nat) (k fn : Nat) (C : CS) (told y : Int32), (RDs zl).drop k = us → us.length < fn → lf12 C → y.toInt = k → ∃ C', X7_good_45 fn (mh (ccells C) M2 D) 0 (nI kind) i (some ob) (some lo) told y = some (gdF i told (us.filter (gdB kind zl cs)), mh (ccells C') M2 D) ∧ frC C C'
  | [], k, fn, C, told, y, hd, hf, hC, hy => by
    obtain ⟨fn, rfl⟩ : ∃ q, fn = q + 1 := ⟨fn - 1, by omega⟩
    have hk := List.drop_eq_nil_iff.mp hd
    have hn := RDs_len zl
    have hp := v_pow h.2.1
    refine ⟨C, ?_, frC.rfl hC⟩
    rw [X7_good_45, bsm, v_readings h.1 C M2, bsm, if_pos (by rw [zi_le, zo (by omega)]; omega)]
    unfold X7_good_113
    rw [List.filter_nil]
    unfold gdF
    by_cases q : i = -1
    · rw [if_pos q, if_pos q]
    · rw [if_neg q, if_neg q]
  | s :: us, k, fn, C, told, y, hd, hf, hC, hy => by
    simp only [List.length_cons] at hf
    obtain ⟨fn, rfl⟩ : ∃ q, fn = q + 1 := ⟨fn - 1, by omega⟩
    obtain ⟨d1, d2, d3⟩ := drop_c hd
    have hn := RDs_len zl
    have hp := v_pow h.2.1
    obtain ⟨C1, a1, a2⟩ := k_goodS (M2 := M2) h hC (List.mem_of_getElem? d1)
    have hi : (y + 1).toInt = ((k + 1 : Nat) : Int) := by
      rw [zi_inc hy (by omega) (by omega)]
      omega
    rw [X7_good_45, bsm, v_readings h.1 C M2, bsm, if_neg (by rw [zi_le, zo (by omega)]; omega), v_readAt h.1 h.2.1 C M2 hy d1, bsm, a1, bsm, b01_i, List.filter_cons]
    unfold X7_good_95
    cases gdB kind zl cs s with
    | false =>
      rw [if_neg (by decide), if_neg (by decide)]
      obtain ⟨C2, b1, b2⟩ := kg_45 h i us (k + 1) fn C1 told (y + 1) d2 (by omega) a2.lf hi
      exact ⟨C2, b1, frC.trans a2 b2⟩
    | true =>
      rw [if_pos rfl, if_pos rfl]
      unfold gdF
      by_cases q : told = i
      · rw [if_pos q, if_pos q]
        dsimp only
        rw [v_readAt h.1 h.2.1 C1 M2 hy d1, bsm]
        exact ⟨C1, rfl, a2⟩
      · rw [if_neg q, if_neg q]
        obtain ⟨C2, b1, b2⟩ := kg_45 h i us (k + 1) fn C1 (told + 1) (y + 1) d2 (by omega) a2.lf hi
        exact ⟨C2, b1, frC.trans a2 b2⟩
theorem rg_30 {x i : Int32} {b kind : Nat} {zl : List Wd} {cs : List Cz} (hkd : kind < 7) (hi : -1 ≤ i) : ∀ (m k fn : Nat) (M : MS) (told : Int32), k + m = 2 ^ zl.length → m < fn → rsM M x b zl cs → ∃ M', X8_good_30 fn M (nI kind) x i told (nI k) = some (gdF i told ((List.range' k m).filter (gdB kind zl cs)), M') ∧ frT M M'
  | 0, k, fn, M, told, hm, hf, hr => by
    obtain ⟨fn, rfl⟩ : ∃ q, fn = q + 1 := ⟨fn - 1, by omega⟩
    obtain ⟨w1, w2⟩ := r_words hr
    have hp := v_pow hr.2.1
    have e0 : (0 : Int32).toInt = 0 := rfl
    have em : (-1 : Int32).toInt = -1 := rfl
    have hi := zi_le.mp hi
    refine ⟨M, ?_, frT.rfl⟩
    rw [X8_good_30, w1, bsm, w2, if_pos ((q_le (by omega) (by omega)).mpr (by omega))]
    unfold X8_good_87
    show _ = some (gdF i told [], M)
    unfold gdF
    by_cases q : i = -1
    · rw [if_neg (by rw [q]; decide), if_pos q]
    · have : i.toInt ≠ -1 := fun c => q (zi_eq.mpr c)
      rw [if_pos (by rw [zi_le]; omega), if_neg q]
  | m + 1, k, fn, M, told, hm, hf, hr => by
    obtain ⟨fn, rfl⟩ : ∃ q, fn = q + 1 := ⟨fn - 1, by omega⟩
    obtain ⟨w1, w2⟩ := r_words hr
    have hp := v_pow hr.2.1
    obtain ⟨M1, a1, a2⟩ := r_goodS (kind := kind) hr (show k < 2 ^ zl.length by omega) hkd
    rw [X8_good_30, w1, bsm, w2, if_neg (fun c => by have := (q_le (by omega) (by omega)).mp c; omega), a1, bsm, b01_i, List.range'_succ, List.filter_cons]
    unfold X8_good_70
    rw [show nI k + 1 = nI (k + 1) from q_add k 1]
    cases gdB kind zl cs k with
    | true =>
      rw [if_pos rfl, if_pos rfl]
      unfold gdF
      by_cases q : told = i
      · rw [if_pos q, if_pos q]
        exact ⟨M1, rfl, a2⟩
      · rw [if_neg q, if_neg q]
        obtain ⟨M2, b1, b2⟩ := rg_30 hkd hi m (k + 1) fn M1 (told + 1) (by omega) (by omega) (rsM_T a2 hr)
        exact ⟨M2, b1, frT.trans a2 b2⟩
    | false =>
      rw [if_neg (by decide), if_neg (by decide)]
      obtain ⟨M2, b1, b2⟩ := rg_30 hkd hi m (k + 1) fn M1 told (by omega) (by omega) (rsM_T a2 hr)
      exact ⟨M2, b1, frT.trans a2 b2⟩
/-- a call that may look for the good ones -/
def asksG (C : CS) (M M2 : MS) (D : List va_E) (f7 : Option (Int32 × AH)) (f8 : Option (Int32 × MS)) : Prop := ∃ r C' M', f7 = some (r, mh (ccells C') M2 D) ∧ f8 = some (r, M') ∧ frC C C' ∧ frG M M' ∧ iFn M'
theorem areG (M : MS) (kd x y : Int32) {r0 r1 r2 : Int32} (h0 : r0 = if 0 ≤ kd ∧ kd ≤ 6 then 1 else 0) (h1 : X8_isBargain M x = some (r1, M)) (h2 : X8_isLaw M y = some (r2, M)) (i1 : r1 = 0 ∨ r1 = 1) (i2 : r2 = 0 ∨ r2 = 1) : X8_areGoods M kd x y = some (if r0 = 0 then 0 else if r1 = 0 then 0 else if r2 = 0 then 0 else 1, M) := by
  unfold X8_areGoods X8_areGoods_0 X8_areGoods_28 X8_areGoods_29
  rw [r_isKind, bsm, ← h0]
  dsimp only
  by_cases q0 : r0 = 0
  · rw [if_pos q0, if_pos q0]
    exact zg_z _ _ (.inl rfl)
  · rw [if_neg q0, if_neg q0, h1, bsm]
    dsimp only
    by_cases q1 : r1 = 0
    · rw [if_pos q1, if_pos q1]
      exact zg_z _ _ (.inl rfl)
    · rw [if_neg q1, if_neg q1, h2, bsm]
      dsimp only
      by_cases q2 : r2 = 0
      · rw [if_pos q2, if_pos q2]
        exact zg_z _ _ (.inl rfl)
      · rw [if_neg q2, if_neg q2]
        exact zg_z _ _ (.inr rfl)
/-- the three that such a call names: all there, or none is looked for -/
def nmY (C : CS) (M : MS) (D : List va_E) (kd x y : Int32) : Prop := ∃ b l ob lo zl cs kind, kd = nI kind ∧ kind < 7 ∧ bgY C M D x b zl ob ∧ lwY C M D y l cs lo
theorem nm_case {C : CS} {M : MS} {D : List va_E} (hB : iBs (C.1 0) (C.2.2.2.1 0) D M) (hW : iLs (C.1 1) (C.2.2.2.1 1) D M) (kd x y : Int32) : (nmY C M D kd x y ∧ X8_areGoods M kd x y = some (1, M)) ∨ (X8_areGoods M kd x y = some (0, M) ∧ ∀ M2 : MS, ∃ oB oL, cO (mh (ccells C) M2 D) 0 7 (X7_bargainOf (mh (ccells C) M2 D) 0 x) = some (oB, mh (ccells C) M2 D) ∧ cO (mh (ccells C) M2 D) 0 7 (X7_lawOf (mh (ccells C) M2 D) 0 y) = some (oL, mh (ccells C) M2 D) ∧ (¬ (0 ≤ kd ∧ kd ≤ 6) ∨ oB = none ∨ oL = none)) := by
  by_cases qk : 0 ≤ kd ∧ kd ≤ 6
  · have e6 : (6 : Int32).toInt = 6 := rfl
    have e0 : (0 : Int32).toInt = 0 := rfl
    obtain ⟨k, k1, k2, k3⟩ := q_n (x := kd) (k := 6) (by have := zi_le.mp qk.1; omega) (by have := zi_le.mp qk.2; omega)
    rcases bg_case hB x with ⟨b, zl, ob, hb⟩ | ⟨n1, n2⟩
    · rcases lw_case hW y with ⟨l, cs, lo, hl⟩ | ⟨m1, m2⟩
      · left
        refine ⟨⟨b, l, ob, lo, zl, cs, k, k2, by omega, hb, hl⟩, ?_⟩
        rw [areG M kd x y (r0 := 1) (by rw [if_pos qk]) (hb.2.2.2.2.2.2.1 M rfl) (hl.2.2.2.2.2.2.1 M rfl) (.inr rfl) (.inr rfl)]
        rfl
      · right
        refine ⟨?_, fun M2 => ⟨_, none, k_bargainOf C M2 D x, m1 C M2 rfl, .inr (.inr rfl)⟩⟩
        rw [areG M kd x y (r0 := 1) (by rw [if_pos qk]) (hb.2.2.2.2.2.2.1 M rfl) (m2 M rfl) (.inr rfl) (.inl rfl)]
        rfl
    · right
      refine ⟨?_, fun M2 => ⟨none, _, n1 C M2 rfl, k_lawOf C M2 D y, .inr (.inl rfl)⟩⟩
      unfold X8_areGoods X8_areGoods_0 X8_areGoods_28 X8_areGoods_29
      rw [r_isKind, bsm, i01, if_pos qk]
      dsimp only
      rw [n2 M rfl, bsm, if_pos rfl]
      exact zg_z _ _ (.inl rfl)
  · right
    refine ⟨?_, fun M2 => ⟨_, _, k_bargainOf C M2 D x, k_lawOf C M2 D y, .inl qk⟩⟩
    unfold X8_areGoods X8_areGoods_0 X8_areGoods_28 X8_areGoods_29
    rw [r_isKind, bsm, i01, if_neg qk]
    exact zg_z _ _ (.inl rfl)
theorem kind_in {kind : Nat} (h : kind < 7) : (0 : Int32) ≤ nI kind ∧ nI kind ≤ 6 := by
  have e6 : (6 : Int32).toInt = 6 := rfl
  have e0 : (0 : Int32).toInt = 0 := rfl
  rw [zi_le, zi_le, q_i (by omega)]
  omega
theorem fine_of {M : MS} {b l : Nat} {zl : List Wd} {cs : List Cz} {C : CS} {D : List va_E} {x y : Int32} {ob lo : Nat} (hb : bgY C M D x b zl ob) (hl : lwY C M D y l cs lo) (hi : iFn M) : ∃ M', X8_findFine M x y = some ((), M') ∧ rsM M' x b zl cs ∧ iFn M' ∧ frG M M' := by
  obtain ⟨M', a1, a2, a3, a4, a5⟩ := r_fine hb.2.1 hb.2.2.1 hb.1 hl.2.1 hl.1 hl.2.2.1 hb.2.2.2.2.1 hl.2.2.2.2.1 hi hb.2.2.2.2.2.2.2 hl.2.2.2.2.2.2.2
  exact ⟨M', a1, ⟨hb.2.1, hb.2.2.1, hb.1, rBg_G a5 hb.2.2.2.2.1, a2, a3⟩, a4, a5⟩
theorem all_eq {kind : Nat} {zl : List Wd} {cs : List Cz} (hk : okB zl) : (RDs zl).filter (gdB kind zl cs) = (List.range' 0 (2 ^ zl.length)).filter (gdB kind zl cs) := RDs_gd hk _ (fun _ _ h => gd_rd h)
theorem o_good (C : CS) (M M2 : MS) (D : List va_E) (kd x y i : Int32) (hC : lf12 C) (hB : iBs (C.1 0) (C.2.2.2.1 0) D M) (hW : iLs (C.1 1) (C.2.2.2.1 1) D M) (hF : iFn M) : asksG C M M2 D (X7_good (mh (ccells C) M2 D) 0 kd x y i) (X8_good M kd x y i) := by
  have z1 : ¬ (1 : Int32) = 0 := by decide
  unfold X7_good X7_good_0 X7_good_37 X8_good X8_good_0 X8_good_16
  rcases nm_case hB hW kd x y with ⟨⟨b, l, ob, lo, zl, cs, kind, e1, hkd, hb, hl⟩, hg⟩ | ⟨hg, hn⟩
  · subst e1
    have hx : kcx D ob lo zl cs kind := ⟨hb.2.2.2.1, hb.2.2.1, hl.2.2.2.1, hl.2.2.1, hkd⟩
    have hp := v_pow hb.2.2.1
    rw [hb.2.2.2.2.2.1 C M2 rfl, bsm, prs, hl.2.2.2.2.2.1 C M2 rfl, bsm, prs, k_isKind, bsm, i01, if_pos (kind_in hkd), ifs, ifs, hg, bsm]
    dsimp only
    rw [if_neg z1]
    by_cases q : -1 ≤ i
    · obtain ⟨M1, a1, a2, a3, a4⟩ := fine_of hb hl hF
      obtain ⟨C', b1, b2⟩ := kg_45 (M2 := M2) hx i (RDs zl) 0 FU C 0 0 rfl (by have := RDs_len zl; unfold FU; omega) hC rfl
      obtain ⟨M3, c1, c2⟩ := rg_30 (x := x) (b := b) (cs := cs) hkd q (2 ^ zl.length) 0 FU M1 0 (by omega) (by unfold FU; omega) a2
      rw [if_pos q, if_pos q, a1, bsm]
      rw [all_eq hb.2.2.1] at b1
      exact ⟨_, C', M3, b1, c1, b2, frG.trans a4 (frT_G c2), iFn_S (frT_S c2) a3⟩
    · rw [if_neg q, if_neg q]
      exact ⟨_, C, M, rfl, rfl, frC.rfl hC, fM.rfl, hF⟩
  · obtain ⟨oB, oL, h1, h2, h3⟩ := hn M2
    rw [h1, bsm, prs, h2, bsm, prs, k_isKind, bsm, i01, hg, bsm, if_pos rfl]
    refine ⟨-1, C, M, ?_, rfl, frC.rfl hC, fM.rfl, hF⟩
    rcases h3 with h3 | h3 | h3
    · rw [if_neg h3]
    · subst h3
      rw [ifz, ite_self]
    · subst h3
      cases oB with
      | none => rw [ifz, ite_self]
      | some a => rw [ifs, ifz, ite_self]
