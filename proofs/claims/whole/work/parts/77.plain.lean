/-! ===== rows of duties compared; plain ===== -/
theorem dec_cons {x y : Dt} {us vs : List Dt} : decide (x :: us = y :: vs) = (decide (x = y) && decide (us = vs)) := by
  by_cases h1 : x = y
  · by_cases h2 : us = vs
    · rw [decide_eq_true h1, decide_eq_true h2, decide_eq_true (by rw [h1, h2])]
      rfl
    · rw [decide_eq_false h2, decide_eq_false (fun c => h2 (List.cons.inj c).2), Bool.and_false]
  · rw [decide_eq_false h1, decide_eq_false (fun c => h1 (List.cons.inj c).1), Bool.false_and]
theorem k_same15 {S : AH} {a r d dr : Nat} {ds wh : List Dt} (hA : dV S a r (ds.map dpk)) (hV : dV S d dr (wh.map dpk)) (hok : ∀ z ∈ wh, okD z) (hds : ∀ z ∈ ds, okD z) (hl : ds.length = wh.length) : ∀ (us vs : List Dt) (k fn : Nat) (y : Int32), ds.drop k = us → wh.drop k = vs → us.length < fn → y.toInt = k → X2_isSameAs_15 fn S a (some d) y = some (b01 (decide (us = vs)), S)
  | [], vs, k, fn, y, hd, hv, hf, hy => by
    obtain ⟨fn, rfl⟩ : ∃ q, fn = q + 1 := ⟨fn - 1, by omega⟩
    have hk := List.drop_eq_nil_iff.mp hd
    have hk2 : vs = [] := by rw [← hv]; exact List.drop_eq_nil_iff.mpr (by omega)
    have h12 := dV_len hA
    rw [List.length_map] at h12
    rw [X2_isSameAs_15, dV_sz hA, bsm, List.length_map, if_pos (by rw [zi_le, zo (by omega)]; omega), hk2]
    rfl
  | z :: us, vs, k, fn, y, hd, hv, hf, hy => by
    simp only [List.length_cons] at hf
    obtain ⟨fn, rfl⟩ : ∃ q, fn = q + 1 := ⟨fn - 1, by omega⟩
    have h12 := dV_len hA
    rw [List.length_map] at h12
    obtain ⟨d1, d2, d3, d4⟩ := map_drop hd
    cases vs with
    | nil =>
      have := List.drop_eq_nil_iff.mp hv
      omega
    | cons w vs =>
      obtain ⟨f1, f2, f3, f4⟩ := map_drop hv
      have ih := k_same15 hA hV hok hds hl us vs (k + 1) fn (y + 1) d2 f2 (by omega) (by rw [zi_inc hy (by omega) (by omega)]; omega)
      rw [X2_isSameAs_15, dV_sz hA, bsm, List.length_map, if_neg (by rw [zi_le, zo (by omega)]; omega), dV_at hA hy, bsm, d1, bsm]
      dsimp only
      rw [dV_at hV hy, bsm, f1, dec_cons]
      have e := dpk_eq (hds z (List.mem_of_getElem? d4)) (hok w (List.mem_of_getElem? f4))
      by_cases q : z = w
      · rw [if_pos (e.mpr q), decide_eq_true q, Bool.true_and]
        exact ih
      · rw [if_neg (fun c => q (e.mp c)), decide_eq_false q, Bool.false_and]
        rfl
theorem k_same {S : AH} {a r d dr : Nat} {ds wh : List Dt} (hA : dV S a r (ds.map dpk)) (hV : dV S d dr (wh.map dpk)) (hok : ∀ z ∈ wh, okD z) (hds : ∀ z ∈ ds, okD z) : cO S a 2 (X2_isSameAs S a (some d)) = some (b01 (decide (ds = wh)), S) := by
  have h12 := dV_len hA
  have h13 := dV_len hV
  rw [List.length_map] at h12 h13
  rw [dV_cO hA]
  unfold X2_isSameAs X2_isSameAs_0
  rw [dV_sz hA, bsm, bsm, dV_sz hV, bsm, List.length_map, List.length_map]
  by_cases q : ds.length = wh.length
  · rw [if_pos (by rw [q]), k_same15 hA hV hok hds q ds wh 0 FU 0 rfl rfl (by unfold FU; omega) rfl, zg_b]
  · rw [if_neg (show ¬ Int32.ofNat ds.length = Int32.ofNat wh.length from fun c => q ((nI_inj (by omega) (by omega)).mp c)), decide_eq_false (show ¬ ds = wh from fun c => q (by rw [c]))]
    exact zg_b false S
theorem r_but25 {M : MS} {ds wh ys : List Dt} {one : Int32} (hD : dM M ds) (hds : ∀ z ∈ ds, okD z) (hok : ∀ z ∈ wh, okD z) (hl : ds.length = ys.length) (hw : wh.length ≤ 12) (h32 : ∀ (i : Nat) (z : Dt), wh[i]? = some z → M.2.2 32 i = dLg z) (hys : ∀ (k : Nat) (w : Dt) (y : Int32), ys[k]? = some w → y.toInt = k → okD w ∧ ∀ v : Int64, (if one < 0 then X8_isWholeBut_57 (fun S l1 l2 => some (1, S)) M v one y else if y < one then X8_isWholeBut_57 (fun S l1 l2 => some (1, S)) M v one y else X8_isWholeBut_58 (fun S l1 l2 => some (1, S)) M v (y + 1) one y) = (if lg_cmp v (dLg w) = 0 then some (1, M) else some (0, M)) ∧ ∀ rec : MS → Int32 → Int32 → Option (Int32 × MS), (if one < 0 then X8_isWholeBut_57 rec M v one y else if y < one then X8_isWholeBut_57 rec M v one y else X8_isWholeBut_58 rec M v (y + 1) one y) = (if lg_cmp v (dLg w) = 0 then rec M one (y + 1) else some (0, M))) : ∀ (us vs : List Dt) (k fn : Nat) (y : Int32), ds.drop k = us → ys.drop k = vs → us.length < fn → y.toInt = k → X8_isWholeBut_25 fn M one y = some (b01 (decide (us = vs)), M)
  | [], vs, k, fn, y, hd, hv, hf, hy => by
    obtain ⟨fn, rfl⟩ : ∃ q, fn = q + 1 := ⟨fn - 1, by omega⟩
    have hk := List.drop_eq_nil_iff.mp hd
    have hk2 : vs = [] := by rw [← hv]; exact List.drop_eq_nil_iff.mpr (by omega)
    rw [X8_isWholeBut_25, if_pos (by rw [zi_le, hD.1]; omega), hk2]
    rfl
  | z :: us, vs, k, fn, y, hd, hv, hf, hy => by
    simp only [List.length_cons] at hf
    obtain ⟨fn, rfl⟩ : ∃ q, fn = q + 1 := ⟨fn - 1, by omega⟩
    have hdl := hD.2.1
    obtain ⟨d1, d2, d3⟩ := drop_c hd
    cases vs with
    | nil =>
      have := List.drop_eq_nil_iff.mp hv
      omega
    | cons w vs =>
      obtain ⟨f1, f2, f3⟩ := drop_c hv
      have ih := r_but25 hD hds hok hl hw h32 hys us vs (k + 1) fn (y + 1) d2 f2 (by omega) (by rw [zi_inc hy (by omega) (by omega)]; omega)
      obtain ⟨ow, hv2⟩ := hys k w y f1 hy
      have e := dLg_inj (hds z (List.mem_of_getElem? d1)) ow
      rw [X8_isWholeBut_25, if_neg (by rw [zi_le, hD.1]; omega), r_dutyOf hD hy d1, bsm]
      dsimp only
      rw [(hv2 (dLg z)).2 (X8_isWholeBut_25 fn), dec_cons]
      by_cases q : z = w
      · rw [if_pos ((lg_cmp_eq _ _).mpr (e.mpr q)), decide_eq_true q, Bool.true_and]
        exact ih
      · rw [if_neg (fun c => q (e.mp ((lg_cmp_eq _ _).mp c))), decide_eq_false q, Bool.false_and]
        rfl
theorem r_same {M : MS} {ds wh : List Dt} (hD : dM M ds) (hds : ∀ z ∈ ds, okD z) (hok : ∀ z ∈ wh, okD z) (hw : wh.length ≤ 12) (h33 : (M.1 33).toInt = wh.length) (h32 : ∀ (i : Nat) (z : Dt), wh[i]? = some z → M.2.2 32 i = dLg z) : X8_isWholeBut M (-1) = some (b01 (decide (ds = wh)), M) := by
  have hdl := hD.2.1
  have e28 : M.1 28 = nI ds.length := zi_eq.mpr (by rw [hD.1, q_i (by omega)])
  have e33 : M.1 33 = nI wh.length := zi_eq.mpr (by rw [h33, q_i (by omega)])
  unfold X8_isWholeBut X8_isWholeBut_0 X8_isWholeBut_17
  rw [if_neg (show ¬ (0 : Int32) ≤ -1 by decide), e28, e33, Int32.sub_zero]
  by_cases q : ds.length = wh.length
  · rw [if_pos (by rw [q]), r_but25 (ys := wh) hD hds hok q hw h32 (fun k w y hk hy => by
      have hk2 := (List.getElem?_eq_some_iff.mp hk).1
      refine ⟨hok w (List.mem_of_getElem? hk), fun v => ⟨?_, fun rec => ?_⟩⟩
      · rw [if_pos (show (-1 : Int32) < 0 by decide)]
        unfold X8_isWholeBut_57 X8_isWholeBut_58
        rw [mL_ok (j := 32) (q := k) hy (by show k < 12; omega), bsm, h32 k w hk]
      · rw [if_pos (show (-1 : Int32) < 0 by decide)]
        unfold X8_isWholeBut_57 X8_isWholeBut_58
        rw [mL_ok (j := 32) (q := k) hy (by show k < 12; omega), bsm, h32 k w hk]) ds wh 0 FU 0 rfl rfl (by unfold FU; omega) rfl, zg_b]
  · rw [if_neg (show ¬ nI ds.length = nI wh.length from fun c => q ((nI_inj (by omega) (by omega)).mp c)), decide_eq_false (show ¬ ds = wh from fun c => q (by rw [c]))]
    exact zg_b false M
theorem foldl_filter {f : Nat → Nat → Nat} {p : Nat → Bool} : ∀ (l : List Nat) (a : Nat), (∀ s ∈ l, p s = false → ∀ b, f b s = b) → (l.filter p).foldl f a = l.foldl f a
  | [], a, h => rfl
  | s :: l, a, h => by
    have ih := fun b => foldl_filter (f := f) l b (fun t ht => h t (List.mem_cons_of_mem _ ht))
    rw [List.filter_cons]
    cases q : p s with
    | true =>
      rw [if_pos rfl, List.foldl_cons, List.foldl_cons, ih]
    | false =>
      rw [if_neg (by decide), List.foldl_cons, h s List.mem_cons_self q, ih]
def isW (o : Option (List Dt)) (wh : List Dt) : Bool :=
  match o with
  | none => false
  | some ds => decide (ds = wh)
def plS (zl : List Wd) (wh : List Dt) (b s : Nat) : Nat := if pop b < pop s ∧ isW (rdS zl (nI s)) wh = true then s else b
theorem pls_no {zl : List Wd} {wh : List Dt} {b s : Nat} (h : pop s ≤ pop b) : plS zl wh b s = b := by
  unfold plS
  exact if_neg (show ¬ (pop b < pop s ∧ isW (rdS zl (nI s)) wh = true) from fun c => by omega)
theorem pls_n {zl : List Wd} {wh : List Dt} {b s : Nat} (h : rdS zl (nI s) = none) : plS zl wh b s = b := by
  unfold plS
  rw [h]
  exact if_neg (show ¬ (pop b < pop s ∧ isW none wh = true) from fun c => Bool.noConfusion c.2)
theorem pls_y {zl : List Wd} {wh : List Dt} {b s : Nat} (h : rdS zl (nI s) = some wh) (q : pop b < pop s) : plS zl wh b s = s := by
  unfold plS
  rw [h]
  exact if_pos ⟨q, decide_eq_true rfl⟩
theorem pls_x {zl : List Wd} {wh ds : List Dt} {b s : Nat} (h : rdS zl (nI s) = some ds) (q : ¬ ds = wh) : plS zl wh b s = b := by
  unfold plS
  rw [h]
  exact if_neg (show ¬ (pop b < pop s ∧ decide (ds = wh) = true) from fun c => q (of_decide_eq_true c.2))
theorem kp_28 {M2 : MS} {D : List va_E} {ob d dr : Nat} {zl : List Wd} {wh : List Dt} (hB : BVD D ob zl) (hk : okB zl) (h0 : rdS zl 0 = some wh) (hW1 : ∀ (C : CS) (M : MS), cO (mh (ccells C) M D) ob 1 (X1_whole (mh (ccells C) M D) ob) = some (some d, mh (ccells C) M D)) (hW2 : ∀ (C : CS) (M : MS), dV (mh (ccells C) M D) d dr (wh.map dpk)) : ∀ (us : List Nat) (k fn : Nat) (C : CS) (best : Nat) (y : Int32), (RDs zl).drop k = us → us.length < fn → lf12 C → y.toInt = k → best < 4096 → ∃ C', X7_plain_28 fn (mh (ccells C) M2 D) 0 (some ob) (nI best) y = some (nI (us.foldl (plS zl wh) best), mh (ccells C') M2 D) ∧ frC C C'
  | [], k, fn, C, best, y, hd, hf, hC, hy, hbo => by
    obtain ⟨fn, rfl⟩ : ∃ q, fn = q + 1 := ⟨fn - 1, by omega⟩
    have hk2 := List.drop_eq_nil_iff.mp hd
    have hn := RDs_len zl
    have hp := v_pow hk
    refine ⟨C, ?_, frC.rfl hC⟩
    rw [X7_plain_28, bsm, v_readings hB C M2, bsm, if_pos (by rw [zi_le, zo (by omega)]; omega)]
    rfl
  | s :: us, k, fn, C, best, y, hd, hf, hC, hy, hbo => by
    simp only [List.length_cons] at hf
    obtain ⟨fn, rfl⟩ : ∃ q, fn = q + 1 := ⟨fn - 1, by omega⟩
    obtain ⟨d1, d2, d3⟩ := drop_c hd
    have hn := RDs_len zl
    have hp := v_pow hk
    obtain ⟨hs, ds, hr⟩ := RDs_mem hk (List.mem_of_getElem? d1)
    have hi : (y + 1).toInt = ((k + 1 : Nat) : Int) := by
      rw [zi_inc hy (by omega) (by omega)]
      omega
    obtain ⟨C1, t1, t2, t3, t4⟩ := v_tell (M := M2) hC hB hk hr
    have p1 := pop_le s
    have p2 := pop_le best
    rw [X7_plain_28, bsm, v_readings hB C M2, bsm, if_neg (by rw [zi_le, zo (by omega)]; omega), v_readAt hB hk C M2 hy d1, bsm]
    dsimp only
    rw [left_q, bsm, t1, bsm]
    dsimp only
    rw [k_bitc _ (show s < 4096 by omega), bsm]
    dsimp only
    rw [k_bitc _ hbo, bsm, List.foldl_cons]
    unfold X7_plain_84
    by_cases q : pop s ≤ pop best
    · have e : plS zl wh best s = best := by
        unfold plS
        rw [if_neg (fun c => by omega)]
      rw [if_pos ((q_le (by omega) (by omega)).mpr q), e]
      obtain ⟨C2, b1, b2⟩ := kp_28 hB hk h0 hW1 hW2 us (k + 1) fn C1 best (y + 1) d2 (by omega) t2.lf hi hbo
      exact ⟨C2, b1, frC.trans t2 b2⟩
    · rw [if_neg (fun c => q ((q_le (by omega) (by omega)).mp c))]
      dsimp only
      rw [left_q, bsm, hW1 C1 M2, bsm, prs, bsm, k_same (lV_dV t3 M2 D) (hW2 C1 M2) (rdS_ok hk h0) t4, bsm, b01_i]
      by_cases q2 : ds = wh
      · have e : plS zl wh best s = s := pls_y (by rw [hr, q2]) (by omega)
        rw [decide_eq_true q2, if_pos rfl, e]
        obtain ⟨C2, b1, b2⟩ := kp_28 hB hk h0 hW1 hW2 us (k + 1) fn C1 s (y + 1) d2 (by omega) t2.lf hi (by omega)
        exact ⟨C2, b1, frC.trans t2 b2⟩
      · have e : plS zl wh best s = best := pls_x hr q2
        rw [decide_eq_false q2, if_neg (by decide), e]
        obtain ⟨C2, b1, b2⟩ := kp_28 hB hk h0 hW1 hW2 us (k + 1) fn C1 best (y + 1) d2 (by omega) t2.lf hi hbo
        exact ⟨C2, b1, frC.trans t2 b2⟩
theorem rp_29 {x : Int32} {b : Nat} {zl : List Wd} {wh : List Dt} (hb : b < 6) (hk : okB zl) (hx : x.toInt = b) (h0 : rdS zl 0 = some wh) : ∀ (m k fn : Nat) (M : MS) (best : Nat), k + m = 2 ^ zl.length → m < fn → rBg M b zl → whM M zl → best < 4096 → ∃ M', X8_plain_29 fn M x (nI best) (nI k) = some (nI ((List.range' k m).foldl (plS zl wh) best), M') ∧ frT M M'
  | 0, k, fn, M, best, hm, hf, hB, hW, hbo => by
    obtain ⟨fn, rfl⟩ : ∃ q, fn = q + 1 := ⟨fn - 1, by omega⟩
    have hp := v_pow hk
    have hn : M.2.1 8 b = nI zl.length := zi_eq.mpr (by rw [hB.1, q_i (by have := hk.1; omega)])
    refine ⟨M, ?_, frT.rfl⟩
    rw [X8_plain_29, mA_ok (j := 8) (q := b) hx (by show b < 6; omega), bsm, hn, one_shl (by have := hk.1; omega), if_pos ((q_le (by omega) (by omega)).mpr (by omega))]
    rfl
  | m + 1, k, fn, M, best, hm, hf, hB, hW, hbo => by
    obtain ⟨fn, rfl⟩ : ∃ q, fn = q + 1 := ⟨fn - 1, by omega⟩
    have hp := v_pow hk
    have hn : M.2.1 8 b = nI zl.length := zi_eq.mpr (by rw [hB.1, q_i (by have := hk.1; omega)])
    have p1 := pop_le k
    have p2 := pop_le best
    have go : ∀ (M1 : MS) (nb : Nat), frT M M1 → nb < 4096 → plS zl wh best k = nb → ∃ M', X8_plain_29 fn M1 x (nI nb) (nI k + 1) = some (nI ((List.range' k (m + 1)).foldl (plS zl wh) best), M') ∧ frT M M' := by
      intro M1 nb f1 hnb e
      obtain ⟨M2, b1, b2⟩ := rp_29 hb hk hx h0 m (k + 1) fn M1 nb (by omega) (by omega) (rBg_L (frT_S f1) hB) (whM_T f1 hW) hnb
      rw [show nI k + 1 = nI (k + 1) from q_add k 1, List.range'_succ, List.foldl_cons, e]
      exact ⟨M2, b1, frT.trans f1 b2⟩
    rw [X8_plain_29, mA_ok (j := 8) (q := b) hx (by show b < 6; omega), bsm, hn, one_shl (by have := hk.1; omega), if_neg (fun c => by have := (q_le (by omega) (by omega)).mp c; omega), r_ones M (show k < 4096 by omega), bsm]
    dsimp only
    rw [r_ones M hbo, bsm]
    unfold X8_plain_73
    by_cases q : pop k ≤ pop best
    · rw [if_pos ((q_le (by omega) (by omega)).mpr q)]
      exact go M best frT.rfl hbo (pls_no q)
    · rw [if_neg (fun c => q ((q_le (by omega) (by omega)).mp c))]
      dsimp only
      obtain ⟨l1, l2⟩ := r_leftB (st := nI k) hb hk hx hB
      cases hr : rdS zl (nI k) with
      | none =>
        obtain ⟨M1, a1, a2⟩ := l1 hr
        rw [a1, bsm, if_pos rfl]
        exact go M1 best (frL_T a2) hbo (pls_n hr)
      | some ds =>
        obtain ⟨M1, a1, a2, a3⟩ := l2 ds hr
        obtain ⟨h33, h32⟩ := (whM_T (frL_T a3) hW).2 wh h0
        rw [a1, bsm, if_neg (show ¬ (1 : Int32) = 0 by decide)]
        dsimp only
        rw [r_same a2 (rdS_ok hk hr) (rdS_ok hk h0) (wh_len hb hk hx hB h0) h33 h32, bsm, b01_i]
        by_cases q2 : ds = wh
        · rw [decide_eq_true q2, if_pos rfl]
          exact go M1 k (frL_T a3) (by omega) (pls_y (by rw [hr, q2]) (by omega))
        · rw [decide_eq_false q2, if_neg (by decide)]
          exact go M1 best (frL_T a3) hbo (pls_x hr q2)
theorem RDs_fold {zl : List Wd} (hk : okB zl) (f : Nat → Nat → Nat) (a : Nat) (h : ∀ s, s < 2 ^ zl.length → rdS zl (nI s) = none → ∀ b, f b s = b) : (RDs zl).foldl f a = (List.range' 0 (2 ^ zl.length)).foldl f a := by
  unfold RDs rdF
  rw [foldl_filter, List.range_eq_range']
  intro s hs q
  have hs := List.mem_range.mp hs
  apply h s hs
  cases hr : rdS zl (nI s) with
  | none => rfl
  | some ds =>
    have := RDs_of hk hs hr
    rw [this] at q
    cases q
theorem o_plain (C : CS) (M M2 : MS) (D : List va_E) (x : Int32) (hC : lf12 C) (hB : iBs (C.1 0) (C.2.2.2.1 0) D M) : asks C M M2 D (X7_plain (mh (ccells C) M2 D) 0 x) (X8_plain M x) := by
  have z1 : ¬ (1 : Int32) = 0 := by decide
  have e0 : (0 : Int32).toInt = 0 := rfl
  unfold X7_plain X7_plain_0 X8_plain X8_plain_0
  rcases bg_case hB x with ⟨b, zl, ob, y1, y2, y3, y4, y5, y6, y7, -⟩ | ⟨n1, n2⟩
  · obtain ⟨M1, a1, a2, a3, a4⟩ := r_whole y2 y3 y1 y5
    have hp := v_pow y3
    rw [y6 C M2 rfl, y7 M rfl, bsm, bsm, prs, ifs, v_readable y4 y3 C M2 0, bsm, i01]
    dsimp only
    rw [if_neg z1, a1, bsm]
    dsimp only
    cases hr : rdS zl 0 with
    | none =>
      have h33 := a2.1 hr
      rw [if_neg (fun c => by cases c.2), if_neg (show ¬ 0 ≤ M1.1 33 by rw [zi_le]; omega)]
      exact ⟨_, C, M1, rfl, rfl, frC.rfl hC, a3⟩
    | some wh =>
      obtain ⟨h33, h32⟩ := a2.2 wh hr
      obtain ⟨d, dr, v1, v2⟩ := v_whole y4
      obtain ⟨C', b1, b2⟩ := kp_28 (M2 := M2) y4 y3 hr v1 (v2 wh hr) (RDs zl) 0 FU C 0 0 rfl (by have := RDs_len zl; unfold FU; omega) hC rfl (by omega)
      obtain ⟨M3, c1, c2⟩ := rp_29 y2 y3 y1 hr (2 ^ zl.length - 1) 1 FU M1 0 (by omega) (by unfold FU; omega) (rBg_L a3 y5) a2 (by omega)
      rw [if_pos ⟨inS_0 y3, rfl⟩, if_pos (show 0 ≤ M1.1 33 by rw [zi_le]; omega)]
      have ef : (RDs zl).foldl (plS zl wh) 0 = (List.range' 1 (2 ^ zl.length - 1)).foldl (plS zl wh) 0 := by
        rw [RDs_fold y3 _ 0 (fun s _ hn b => pls_n hn)]
        obtain ⟨q, hq⟩ : ∃ q, 2 ^ zl.length = q + 1 := ⟨2 ^ zl.length - 1, by omega⟩
        rw [hq, List.range'_succ, List.foldl_cons, show q + 1 - 1 = q by omega]
        have e : plS zl wh 0 0 = 0 := pls_no (Nat.le_refl _)
        rw [e]
      rw [ef] at b1
      exact ⟨_, C', M3, b1, c1, b2, frS.trans a3 (frT_S c2)⟩
  · rw [n1 C M2 rfl, n2 M rfl, bsm, bsm, prs, ifz, if_pos rfl]
    exact ⟨_, C, M, rfl, rfl, frC.rfl hC, frS.rfl⟩
