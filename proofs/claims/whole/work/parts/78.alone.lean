/-! ===== alone ===== -/
theorem gd_map {ds : List Dt} {k : Nat} {z : Dt} (h : ds[k]? = some z) : (ds.map dpk).getD k 0 = dpk z := by
  rw [List.getD_eq_getElem?_getD, List.getElem?_map, h]
  rfl
theorem er_get {wh : List Dt} {q k : Nat} {w : Dt} (h : (wh.eraseIdx q)[k]? = some w) : (k < q → wh[k]? = some w) ∧ (¬ k < q → wh[k + 1]? = some w) := by
  rw [List.getElem?_eraseIdx] at h
  constructor
  · intro c
    rw [if_pos c] at h
    exact h
  · intro c
    rw [if_neg c] at h
    exact h
theorem k_but17 {S : AH} {a r d dr q : Nat} {ds wh : List Dt} (hA : dV S a r (ds.map dpk)) (hV : dV S d dr (wh.map dpk)) (hok : ∀ z ∈ wh, okD z) (hds : ∀ z ∈ ds, okD z) (hq : q < wh.length) (hl : ds.length = (wh.eraseIdx q).length) : ∀ (us vs : List Dt) (k fn : Nat) (y : Int32), ds.drop k = us → (wh.eraseIdx q).drop k = vs → us.length < fn → y.toInt = k → X2_isAllBut_17 fn S a (some d) (nI q) y = some (b01 (decide (us = vs)), S)
  | [], vs, k, fn, y, hd, hv, hf, hy => by
    obtain ⟨fn, rfl⟩ : ∃ q, fn = q + 1 := ⟨fn - 1, by omega⟩
    have hk := List.drop_eq_nil_iff.mp hd
    have hk2 : vs = [] := by rw [← hv]; exact List.drop_eq_nil_iff.mpr (by omega)
    have h12 := dV_len hA
    rw [List.length_map] at h12
    rw [X2_isAllBut_17, dV_sz hA, bsm, List.length_map, if_pos (by rw [zi_le, zo (by omega)]; omega), hk2]
    rfl
  | z :: us, vs, k, fn, y, hd, hv, hf, hy => by
    simp only [List.length_cons] at hf
    obtain ⟨fn, rfl⟩ : ∃ q, fn = q + 1 := ⟨fn - 1, by omega⟩
    have h12 := dV_len hA
    have h13 := dV_len hV
    rw [List.length_map] at h12 h13
    obtain ⟨d1, d2, d3, d4⟩ := map_drop hd
    cases vs with
    | nil =>
      have := List.drop_eq_nil_iff.mp hv
      omega
    | cons w vs =>
      obtain ⟨f1, f2, f3⟩ := drop_c hv
      obtain ⟨g1, g2⟩ := er_get f1
      have hy1 : (y + 1).toInt = ((k + 1 : Nat) : Int) := by
        rw [zi_inc hy (by omega) (by omega)]
        omega
      have ih := k_but17 hA hV hok hds hq hl us vs (k + 1) fn (y + 1) d2 f2 (by omega) hy1
      have fin : okD w → (if dpk z = dpk w then X2_isAllBut_17 fn S a (some d) (nI q) (y + 1) else some (0, S)) = some (b01 (decide (z :: us = w :: vs)), S) := by
        intro ow
        have e := dpk_eq (hds z (List.mem_of_getElem? d4)) ow
        rw [dec_cons]
        by_cases qq : z = w
        · rw [if_pos (e.mpr qq), decide_eq_true qq, Bool.true_and]
          exact ih
        · rw [if_neg (fun c => qq (e.mp c)), decide_eq_false qq, Bool.false_and]
          rfl
      rw [X2_isAllBut_17, dV_sz hA, bsm, List.length_map, if_neg (by rw [zi_le, zo (by omega)]; omega), dV_at hA hy, bsm, d1]
      dsimp only
      unfold X2_isAllBut_43
      by_cases c : k < q
      · rw [if_neg (show ¬ nI q ≤ y by rw [zi_le, q_i (by omega)]; omega), bsm, dV_at hV hy, bsm, gd_map (g1 c)]
        exact fin (hok w (List.mem_of_getElem? (g1 c)))
      · rw [if_pos (show nI q ≤ y by rw [zi_le, q_i (by omega)]; omega), bsm, dV_at hV hy1, bsm, gd_map (g2 c)]
        exact fin (hok w (List.mem_of_getElem? (g2 c)))
theorem er_len {wh : List Dt} {q : Nat} (hq : q < wh.length) : (wh.eraseIdx q).length = wh.length - 1 := List.length_eraseIdx_of_lt hq
theorem k_but {S : AH} {a r d dr q : Nat} {ds wh : List Dt} (hA : dV S a r (ds.map dpk)) (hV : dV S d dr (wh.map dpk)) (hok : ∀ z ∈ wh, okD z) (hds : ∀ z ∈ ds, okD z) (hq : q < wh.length) : cO S a 2 (X2_isAllBut S a (some d) (nI q)) = some (b01 (decide (ds = wh.eraseIdx q)), S) := by
  have h12 := dV_len hA
  have h13 := dV_len hV
  rw [List.length_map] at h12 h13
  have hl := er_len hq
  rw [dV_cO hA]
  unfold X2_isAllBut X2_isAllBut_0
  rw [dV_sz hA, bsm, bsm, dV_sz hV, bsm, List.length_map, List.length_map, show (Int32.ofNat wh.length) - 1 = Int32.ofNat (wh.length - 1) from q_sub (b := 1) (by omega) (by omega)]
  by_cases c : ds.length = wh.length - 1
  · rw [if_pos (show Int32.ofNat ds.length = Int32.ofNat (wh.length - 1) by rw [c]), k_but17 hA hV hok hds hq (by omega) ds (wh.eraseIdx q) 0 FU 0 rfl rfl (by unfold FU; omega) rfl, zg_b]
  · rw [if_neg (show ¬ Int32.ofNat ds.length = Int32.ofNat (wh.length - 1) from fun e => c ((nI_inj (by omega) (by omega)).mp e)), decide_eq_false (show ¬ ds = wh.eraseIdx q from fun e => c (by rw [e, hl]))]
    exact zg_b false S
theorem r_but {M : MS} {ds wh : List Dt} {q : Nat} (hD : dM M ds) (hds : ∀ z ∈ ds, okD z) (hok : ∀ z ∈ wh, okD z) (hw : wh.length ≤ 12) (h33 : (M.1 33).toInt = wh.length) (h32 : ∀ (i : Nat) (z : Dt), wh[i]? = some z → M.2.2 32 i = dLg z) (hq : q < wh.length) : X8_isWholeBut M (nI q) = some (b01 (decide (ds = wh.eraseIdx q)), M) := by
  have hdl := hD.2.1
  have hl := er_len hq
  have e28 : M.1 28 = nI ds.length := zi_eq.mpr (by rw [hD.1, q_i (by omega)])
  have e33 : M.1 33 = nI wh.length := zi_eq.mpr (by rw [h33, q_i (by omega)])
  have n0 : ¬ nI q < 0 := fun c => by
    have := zi_lt.mp c
    rw [q_i (by omega)] at this
    have e0 : (0 : Int32).toInt = 0 := rfl
    omega
  have p0 : 0 ≤ nI q := by
    rw [zi_le, q_i (by omega)]
    have e0 : (0 : Int32).toInt = 0 := rfl
    omega
  unfold X8_isWholeBut X8_isWholeBut_0 X8_isWholeBut_17
  rw [if_pos p0, e28, e33, show nI wh.length - 1 = nI (wh.length - 1) from q_sub (b := 1) (by omega) (by omega)]
  by_cases c : ds.length = wh.length - 1
  · rw [if_pos (show nI ds.length = nI (wh.length - 1) by rw [c]), r_but25 (ys := wh.eraseIdx q) hD hds hok (by omega) hw h32 (fun k w y hk hy => by
      have hk2 := (List.getElem?_eq_some_iff.mp hk).1
      obtain ⟨g1, g2⟩ := er_get hk
      by_cases t : k < q
      · refine ⟨hok w (List.mem_of_getElem? (g1 t)), fun v => ⟨?_, fun rec => ?_⟩⟩
        · rw [if_neg n0, if_pos (show y < nI q by rw [zi_lt, q_i (by omega)]; omega)]
          unfold X8_isWholeBut_57 X8_isWholeBut_58
          rw [mL_ok (j := 32) (q := k) hy (by show k < 12; omega), bsm, h32 k w (g1 t)]
        · rw [if_neg n0, if_pos (show y < nI q by rw [zi_lt, q_i (by omega)]; omega)]
          unfold X8_isWholeBut_57 X8_isWholeBut_58
          rw [mL_ok (j := 32) (q := k) hy (by show k < 12; omega), bsm, h32 k w (g1 t)]
      · have hy1 : (y + 1).toInt = ((k + 1 : Nat) : Int) := by
          rw [zi_inc hy (by omega) (by omega)]
          omega
        refine ⟨hok w (List.mem_of_getElem? (g2 t)), fun v => ⟨?_, fun rec => ?_⟩⟩
        · rw [if_neg n0, if_neg (show ¬ y < nI q by rw [zi_lt, q_i (by omega)]; omega)]
          unfold X8_isWholeBut_58
          rw [mL_ok (j := 32) (q := k + 1) hy1 (by show k + 1 < 12; omega), bsm, h32 (k + 1) w (g2 t)]
        · rw [if_neg n0, if_neg (show ¬ y < nI q by rw [zi_lt, q_i (by omega)]; omega)]
          unfold X8_isWholeBut_58
          rw [mL_ok (j := 32) (q := k + 1) hy1 (by show k + 1 < 12; omega), bsm, h32 (k + 1) w (g2 t)]) ds (wh.eraseIdx q) 0 FU 0 rfl rfl (by unfold FU; omega) rfl, zg_b]
  · rw [if_neg (show ¬ nI ds.length = nI (wh.length - 1) from fun e => c ((nI_inj (by omega) (by omega)).mp e)), decide_eq_false (show ¬ ds = wh.eraseIdx q from fun e => c (by rw [e, hl]))]
    exact zg_b false M
def alN (ds wh : List Dt) : Nat → Nat → Nat
  | _, 0 => 0
  | k, m + 1 => (if decide (ds = wh.eraseIdx k) = true then 2 ^ k else 0) ||| alN ds wh (k + 1) m
theorem alN_lt (ds wh : List Dt) : ∀ (m k : Nat), k + m ≤ 12 → alN ds wh k m < 4096
  | 0, k, h => by
    unfold alN
    omega
  | m + 1, k, h => by
    unfold alN
    have h2k : (2 : Nat) ^ k < 2 ^ 12 := Nat.pow_lt_pow_right (by omega) (by omega)
    refine Nat.or_lt_two_pow (n := 12) ?_ (alN_lt ds wh m (k + 1) (by omega))
    by_cases q : decide (ds = wh.eraseIdx k) = true
    · rw [if_pos q]
      exact h2k
    · rw [if_neg q]
      omega
theorem alN_0 {ds wh : List Dt} (h : ds.length + 1 ≠ wh.length) : ∀ (m k : Nat), k + m ≤ wh.length → alN ds wh k m = 0
  | 0, k, _ => rfl
  | m + 1, k, hk => by
    unfold alN
    rw [alN_0 h m (k + 1) (by omega), if_neg (show ¬ decide (ds = wh.eraseIdx k) = true from fun c => by
      have e := of_decide_eq_true c
      have := er_len (wh := wh) (q := k) (by omega)
      rw [← e] at this
      omega)]
    rfl
def alT (kind : Nat) (zl : List Wd) (wh : List Dt) (b s : Nat) : Nat := if ltB kind zl (nI s) = true then (match rdS zl (nI s) with
  | none => b
  | some ds => b ||| alN ds wh 0 wh.length) else b
theorem alT_f {kind : Nat} {zl : List Wd} {wh : List Dt} {b s : Nat} (h : ltB kind zl (nI s) = false) : alT kind zl wh b s = b := by
  unfold alT
  rw [h]
  rfl
theorem alT_n {kind : Nat} {zl : List Wd} {wh : List Dt} {b s : Nat} (h : rdS zl (nI s) = none) : alT kind zl wh b s = b := by
  unfold alT
  rw [h]
  exact ite_self _
theorem alT_s {kind : Nat} {zl : List Wd} {wh ds : List Dt} {b s : Nat} (hl : ltB kind zl (nI s) = true) (h : rdS zl (nI s) = some ds) : alT kind zl wh b s = b ||| alN ds wh 0 wh.length := by
  unfold alT
  rw [hl, h]
  rfl
theorem alT_lt {kind : Nat} {zl : List Wd} {wh : List Dt} (hw : wh.length ≤ 12) : ∀ (us : List Nat) (b : Nat), b < 4096 → us.foldl (alT kind zl wh) b < 4096
  | [], b, h => h
  | s :: us, b, h => by
    rw [List.foldl_cons]
    apply alT_lt hw us
    cases hl : ltB kind zl (nI s) with
    | false =>
      rw [alT_f hl]
      exact h
    | true =>
      cases hr : rdS zl (nI s) with
      | none =>
        rw [alT_n hr]
        exact h
      | some ds =>
        rw [alT_s hl hr]
        exact Nat.or_lt_two_pow (n := 12) h (alN_lt ds wh wh.length 0 (by omega))
theorem kal_49 {C : CS} {M2 : MS} {D : List va_E} {ob d dr kind : Nat} {ds wh : List Dt} {rec5 : AH → Nat → Int32 → Option Nat → Int32 → Int32 → Option (Int32 × AH)} {l4 : Int32} (hA : dV (mh (ccells C) M2 D) 12 13 (ds.map dpk)) (hok : ∀ z ∈ wh, okD z) (hds : ∀ z ∈ ds, okD z) (hW1 : ∀ (C : CS) (M : MS), cO (mh (ccells C) M D) ob 1 (X1_whole (mh (ccells C) M D) ob) = some (some d, mh (ccells C) M D)) (hW2 : ∀ (C : CS) (M : MS), dV (mh (ccells C) M D) d dr (wh.map dpk)) : ∀ (m k fn acc : Nat) (y : Int32), k + m = wh.length → m < fn → y.toInt = k → X7_aloneDuties_49 rec5 fn (mh (ccells C) M2 D) 0 (nI kind) (some ob) (nI acc) l4 y = rec5 (mh (ccells C) M2 D) 0 (nI kind) (some ob) (nI (acc ||| alN ds wh k m)) (l4 + 1)
  | 0, k, fn, acc, y, hm, hf, hy => by
    obtain ⟨fn, rfl⟩ : ∃ q, fn = q + 1 := ⟨fn - 1, by omega⟩
    have h13 := dV_len (hW2 C M2)
    rw [List.length_map] at h13
    rw [X7_aloneDuties_49, bsm, hW1 C M2, bsm, prs, bsm, dV_size (hW2 C M2), bsm, List.length_map]
    dsimp only
    rw [if_pos (by rw [zi_le, zo (by omega)]; omega)]
    unfold X7_aloneDuties_90 alN
    rw [Nat.or_zero]
  | m + 1, k, fn, acc, y, hm, hf, hy => by
    obtain ⟨fn, rfl⟩ : ∃ q, fn = q + 1 := ⟨fn - 1, by omega⟩
    have h13 := dV_len (hW2 C M2)
    rw [List.length_map] at h13
    have hyk : y = nI k := zi_eq.mpr (by rw [hy, q_i (by omega)])
    have hy1 : (y + 1).toInt = ((k + 1 : Nat) : Int) := by
      rw [zi_inc hy (by omega) (by omega)]
      omega
    rw [X7_aloneDuties_49, bsm, hW1 C M2, bsm, prs, bsm, dV_size (hW2 C M2), bsm, List.length_map]
    dsimp only
    rw [if_neg (by rw [zi_le, zo (by omega)]; omega), left_q, bsm, hW1 C M2, bsm, prs, bsm]
    have hb := k_but (q := k) hA (hW2 C M2) hok hds (by omega)
    rw [← hyk] at hb
    rw [hb, bsm, b01_i]
    unfold X7_aloneDuties_84
    have e : alN ds wh k (m + 1) = (if decide (ds = wh.eraseIdx k) = true then 2 ^ k else 0) ||| alN ds wh (k + 1) m := rfl
    rw [e]
    cases decide (ds = wh.eraseIdx k) with
    | false =>
      rw [if_neg (by decide), if_neg (by decide), Nat.zero_or]
      exact kal_49 hA hok hds hW1 hW2 m (k + 1) fn acc (y + 1) (by omega) (by omega) hy1
    | true =>
      have ih := kal_49 (rec5 := rec5) (kind := kind) (l4 := l4) hA hok hds hW1 hW2 m (k + 1) fn (acc ||| 2 ^ k) (y + 1) (by omega) (by omega) hy1
      rw [if_pos rfl, if_pos rfl]
      dsimp only
      rw [show (1 : Int32) <<< (y &&& 31) = nI (2 ^ k) by rw [hyk]; exact one_shl (by omega), q_or, ih, Nat.or_assoc]
theorem ral_58 {M : MS} {x l4 : Int32} {kind : Nat} {ds wh : List Dt} {rec5 : MS → Int32 → Int32 → Int32 → Int32 → Option (Int32 × MS)} (hD : dM M ds) (hds : ∀ z ∈ ds, okD z) (hok : ∀ z ∈ wh, okD z) (hw : wh.length ≤ 12) (h33 : (M.1 33).toInt = wh.length) (h32 : ∀ (i : Nat) (z : Dt), wh[i]? = some z → M.2.2 32 i = dLg z) : ∀ (m k fn acc : Nat) (y : Int32), k + m = wh.length → m < fn → y.toInt = k → X8_aloneOf_58 rec5 fn M (nI kind) x (nI acc) l4 y = rec5 M (nI kind) x (nI (acc ||| alN ds wh k m)) (l4 + 1)
  | 0, k, fn, acc, y, hm, hf, hy => by
    obtain ⟨fn, rfl⟩ : ∃ q, fn = q + 1 := ⟨fn - 1, by omega⟩
    rw [X8_aloneOf_58, if_pos (by rw [zi_le, h33]; omega)]
    unfold X8_aloneOf_93 alN
    rw [Nat.or_zero]
  | m + 1, k, fn, acc, y, hm, hf, hy => by
    obtain ⟨fn, rfl⟩ : ∃ q, fn = q + 1 := ⟨fn - 1, by omega⟩
    have hyk : y = nI k := zi_eq.mpr (by rw [hy, q_i (by omega)])
    have hy1 : (y + 1).toInt = ((k + 1 : Nat) : Int) := by
      rw [zi_inc hy (by omega) (by omega)]
      omega
    have hb := r_but (q := k) hD hds hok hw h33 h32 (by omega)
    rw [← hyk] at hb
    rw [X8_aloneOf_58, if_neg (by rw [zi_le, h33]; omega), hb, bsm, b01_i]
    unfold X8_aloneOf_85
    have e : alN ds wh k (m + 1) = (if decide (ds = wh.eraseIdx k) = true then 2 ^ k else 0) ||| alN ds wh (k + 1) m := rfl
    rw [e]
    cases decide (ds = wh.eraseIdx k) with
    | false =>
      rw [if_neg (by decide), if_neg (by decide), Nat.zero_or, Int32.or_zero]
      exact ral_58 hD hds hok hw h33 h32 m (k + 1) fn acc (y + 1) (by omega) (by omega) hy1
    | true =>
      have ih := ral_58 (rec5 := rec5) (kind := kind) (x := x) (l4 := l4) hD hds hok hw h33 h32 m (k + 1) fn (acc ||| 2 ^ k) (y + 1) (by omega) (by omega) hy1
      rw [if_pos rfl, if_pos rfl]
      dsimp only
      rw [show (1 : Int32) <<< (y &&& 31) = nI (2 ^ k) by rw [hyk]; exact one_shl (by omega), q_or, ih, Nat.or_assoc]
theorem kal_5 {M2 : MS} {D : List va_E} {ob d dr kind : Nat} {zl : List Wd} {wh : List Dt} (hB : BVD D ob zl) (hk : okB zl) (hkd : kind < 7) (h0 : rdS zl 0 = some wh) (hW1 : ∀ (C : CS) (M : MS), cO (mh (ccells C) M D) ob 1 (X1_whole (mh (ccells C) M D) ob) = some (some d, mh (ccells C) M D)) (hW2 : ∀ (C : CS) (M : MS), dV (mh (ccells C) M D) d dr (wh.map dpk)) : ∀ (us : List Nat) (k fn : Nat) (C : CS) (acc : Nat) (y : Int32), (RDs zl).drop k = us → us.length < fn → lf12 C → y.toInt = k → ∃ C', X7_aloneDuties_5 fn (mh (ccells C) M2 D) 0 (nI kind) (some ob) (nI acc) y = some (nI (us.foldl (alT kind zl wh) acc), mh (ccells C') M2 D) ∧ frC C C'
  | [], k, fn, C, acc, y, hd, hf, hC, hy => by
    obtain ⟨fn, rfl⟩ : ∃ q, fn = q + 1 := ⟨fn - 1, by omega⟩
    have hk2 := List.drop_eq_nil_iff.mp hd
    have hn := RDs_len zl
    have hp := v_pow hk
    refine ⟨C, ?_, frC.rfl hC⟩
    rw [X7_aloneDuties_5, bsm, v_readings hB C M2, bsm, if_pos (by rw [zi_le, zo (by omega)]; omega)]
    rfl
  | s :: us, k, fn, C, acc, y, hd, hf, hC, hy => by
    simp only [List.length_cons] at hf
    obtain ⟨fn, rfl⟩ : ∃ q, fn = q + 1 := ⟨fn - 1, by omega⟩
    obtain ⟨d1, d2, d3⟩ := drop_c hd
    have hn := RDs_len zl
    have hp := v_pow hk
    obtain ⟨hs, ds, hr⟩ := RDs_mem hk (List.mem_of_getElem? d1)
    have hin : inS zl (nI s) := by
      unfold inS
      rw [q_i (by omega)]
      omega
    have hi : (y + 1).toInt = ((k + 1 : Nat) : Int) := by
      rw [zi_inc hy (by omega) (by omega)]
      omega
    obtain ⟨C1, a1, a2⟩ := k_let (M2 := M2) (kind := kind) hC hB hk hin hkd
    rw [X7_aloneDuties_5, bsm, v_readings hB C M2, bsm, if_neg (by rw [zi_le, zo (by omega)]; omega), v_readAt hB hk C M2 hy d1, bsm]
    dsimp only
    rw [a1, bsm, b01_i, List.foldl_cons]
    cases hl : ltB kind zl (nI s) with
    | false =>
      unfold X7_aloneDuties_90
      rw [if_neg (by decide), alT_f hl]
      obtain ⟨C2, b1, b2⟩ := kal_5 hB hk hkd h0 hW1 hW2 us (k + 1) fn C1 acc (y + 1) d2 (by omega) a2.lf hi
      exact ⟨C2, b1, frC.trans a2 b2⟩
    | true =>
      obtain ⟨C2, t1, t2, t3, t4⟩ := v_tell (M := M2) a2.lf hB hk hr
      rw [if_pos rfl, left_q, bsm, t1, bsm]
      dsimp only
      rw [kal_49 (lV_dV t3 M2 D) (rdS_ok hk h0) t4 hW1 hW2 wh.length 0 FU acc 0 (by omega) (by have := dV_len (hW2 C M2); rw [List.length_map] at this; unfold FU; omega) rfl, alT_s hl hr]
      obtain ⟨C3, b1, b2⟩ := kal_5 hB hk hkd h0 hW1 hW2 us (k + 1) fn C2 (acc ||| alN ds wh 0 wh.length) (y + 1) d2 (by omega) t2.lf hi
      exact ⟨C3, b1, frC.trans a2 (frC.trans t2 b2)⟩
theorem ral_5 {x : Int32} {b kind : Nat} {zl : List Wd} {wh : List Dt} (hb : b < 6) (hk : okB zl) (hx : x.toInt = b) (hkd : kind < 7) (h0 : rdS zl 0 = some wh) : ∀ (m k fn : Nat) (M : MS) (acc : Nat), k + m = 2 ^ zl.length → m < fn → rBg M b zl → whM M zl → ∃ M', X8_aloneOf_5 fn M (nI kind) x (nI acc) (nI k) = some (nI ((List.range' k m).foldl (alT kind zl wh) acc), M') ∧ frT M M'
  | 0, k, fn, M, acc, hm, hf, hB, hW => by
    obtain ⟨fn, rfl⟩ : ∃ q, fn = q + 1 := ⟨fn - 1, by omega⟩
    have hp := v_pow hk
    have hn : M.2.1 8 b = nI zl.length := zi_eq.mpr (by rw [hB.1, q_i (by have := hk.1; omega)])
    refine ⟨M, ?_, frT.rfl⟩
    rw [X8_aloneOf_5, mA_ok (j := 8) (q := b) hx (by show b < 6; omega), bsm, hn, one_shl (by have := hk.1; omega), if_pos ((q_le (by omega) (by omega)).mpr (by omega))]
    rfl
  | m + 1, k, fn, M, acc, hm, hf, hB, hW => by
    obtain ⟨fn, rfl⟩ : ∃ q, fn = q + 1 := ⟨fn - 1, by omega⟩
    have hp := v_pow hk
    have hn : M.2.1 8 b = nI zl.length := zi_eq.mpr (by rw [hB.1, q_i (by have := hk.1; omega)])
    have go : ∀ (M1 : MS) (na : Nat), frT M M1 → alT kind zl wh acc k = na → ∃ M', X8_aloneOf_5 fn M1 (nI kind) x (nI na) (nI k + 1) = some (nI ((List.range' k (m + 1)).foldl (alT kind zl wh) acc), M') ∧ frT M M' := by
      intro M1 na f1 e
      obtain ⟨M2, b1, b2⟩ := ral_5 hb hk hx hkd h0 m (k + 1) fn M1 na (by omega) (by omega) (rBg_L (frT_S f1) hB) (whM_T f1 hW)
      rw [show nI k + 1 = nI (k + 1) from q_add k 1, List.range'_succ, List.foldl_cons, e]
      exact ⟨M2, b1, frT.trans f1 b2⟩
    obtain ⟨M1, a1, a2⟩ := r_let (st := nI k) (kind := kind) hb hk hx hB hW hkd
    rw [X8_aloneOf_5, mA_ok (j := 8) (q := b) hx (by show b < 6; omega), bsm, hn, one_shl (by have := hk.1; omega), if_neg (fun c => by have := (q_le (by omega) (by omega)).mp c; omega), a1, bsm, b01_i]
    unfold X8_aloneOf_93
    cases hl : ltB kind zl (nI k) with
    | false =>
      rw [if_neg (by decide)]
      exact go M1 acc a2 (alT_f hl)
    | true =>
      rw [if_pos rfl]
      dsimp only
      obtain ⟨l1, l2⟩ := r_leftB (st := nI k) hb hk hx (rBg_L (frT_S a2) hB)
      cases hr : rdS zl (nI k) with
      | none =>
        obtain ⟨M3, c1, c2⟩ := l1 hr
        rw [c1, bsm, if_pos rfl]
        exact go M3 acc (frT.trans a2 (frL_T c2)) (alT_n hr)
      | some ds =>
        obtain ⟨M3, c1, c2, c3⟩ := l2 ds hr
        have f3 := frT.trans a2 (frL_T c3)
        obtain ⟨h33, h32⟩ := (whM_T f3 hW).2 wh h0
        have hw12 := wh_len hb hk hx hB h0
        have hdl := c2.2.1
        rw [c1, bsm, if_neg (show ¬ (1 : Int32) = 0 by decide)]
        dsimp only
        by_cases q : ds.length + 1 = wh.length
        · rw [if_pos (show M3.1 28 = M3.1 33 - 1 from zi_eq.mpr (by
            have e1 : (1 : Int32).toInt = 1 := rfl
            rw [zi_sub (by rw [h33, e1]; omega) (by rw [h33, e1]; omega), c2.1, h33, e1]
            omega)), ral_58 c2 (rdS_ok hk hr) (rdS_ok hk h0) hw12 h33 h32 wh.length 0 FU acc 0 (by omega) (by unfold FU; omega) rfl]
          exact go M3 _ f3 (alT_s hl hr)
        · rw [if_neg (show ¬ M3.1 28 = M3.1 33 - 1 from fun c => by
            have c := zi_eq.mp c
            have e1 : (1 : Int32).toInt = 1 := rfl
            rw [zi_sub (by rw [h33, e1]; omega) (by rw [h33, e1]; omega), c2.1, h33, e1] at c
            omega)]
          exact go M3 acc f3 (by rw [alT_s hl hr, alN_0 q wh.length 0 (by omega), Nat.or_zero])
theorem o_alone (C : CS) (M M2 : MS) (D : List va_E) (kd x : Int32) (hC : lf12 C) (hB : iBs (C.1 0) (C.2.2.2.1 0) D M) : asks C M M2 D (X7_alone (mh (ccells C) M2 D) 0 kd x) (X8_alone M kd x) := by
  have z1 : ¬ (1 : Int32) = 0 := by decide
  have e0 : (0 : Int32).toInt = 0 := rfl
  unfold X7_alone X7_alone_0 X7_alone_17 X7_alone_38 X8_alone X8_alone_0 X8_alone_16 X8_alone_41
  obtain ⟨o, ho⟩ : ∃ o, cO (mh (ccells C) M2 D) 0 7 (X7_bargainOf (mh (ccells C) M2 D) 0 x) = some (o, mh (ccells C) M2 D) := ⟨_, k_bargainOf C M2 D x⟩
  rw [ho, bsm, prs, k_isKind, bsm, i01, r_isKind, bsm, i01]
  dsimp only
  by_cases qk : 0 ≤ kd ∧ kd ≤ 6
  · rw [if_pos qk, if_pos qk]
    have e6 : (6 : Int32).toInt = 6 := rfl
    obtain ⟨k, k1, k2, k3⟩ := q_n (x := kd) (k := 6) (by have := zi_le.mp qk.1; omega) (by have := zi_le.mp qk.2; omega)
    rcases bg_case hB x with ⟨b, zl, ob, y1, y2, y3, y4, y5, y6, y7, -⟩ | ⟨n1, n2⟩
    · have e := (y6 C M2 rfl).symm.trans ho
      cases e
      obtain ⟨M1, a1, a2, a3, a4⟩ := r_whole y2 y3 y1 y5
      have hp := v_pow y3
      rw [ifs, v_readable y4 y3 C M2 0, bsm, i01, y7 M rfl, bsm]
      dsimp only
      rw [if_neg z1, a1, bsm]
      dsimp only
      cases hr : rdS zl 0 with
      | none =>
        have h33 := a2.1 hr
        rw [if_neg (fun c => by cases c.2), if_neg (show ¬ 0 ≤ M1.1 33 by rw [zi_le]; omega)]
        exact ⟨_, C, M1, rfl, rfl, frC.rfl hC, a3⟩
      | some wh =>
        obtain ⟨h33, h32⟩ := a2.2 wh hr
        obtain ⟨d, dr, v1, v2⟩ := v_whole y4
        obtain ⟨C', b1, b2⟩ := kal_5 (M2 := M2) (kind := k) y4 y3 (by omega) hr v1 (v2 wh hr) (RDs zl) 0 FU C 0 0 rfl (by have := RDs_len zl; unfold FU; omega) hC rfl
        obtain ⟨M3, c1, c2⟩ := ral_5 (kind := k) y2 y3 y1 (by omega) hr (2 ^ zl.length) 0 FU M1 0 (by omega) (by unfold FU; omega) (rBg_L a3 y5) a2
        rw [if_pos ⟨inS_0 y3, rfl⟩, if_pos (show 0 ≤ M1.1 33 by rw [zi_le]; omega), k2]
        rw [RDs_fold y3 _ 0 (fun s _ hn b => alT_n hn)] at b1
        unfold X7_aloneDuties X7_aloneDuties_0 X8_aloneOf X8_aloneOf_0
        have b1 : X7_aloneDuties_5 FU (mh (ccells C) M2 D) 0 (nI k) (some ob) 0 0 = _ := b1
        have c1 : X8_aloneOf_5 FU M1 (nI k) x 0 0 = _ := c1
        have hc : ∀ o : Option (Int32 × AH), cO (mh (ccells C) M2 D) 0 7 o = o := fun _ => rfl
        rw [hc, b1, c1, bsm, bsm]
        exact ⟨_, C', M3, rfl, rfl, b2, frS.trans a3 (frT_S c2)⟩
    · have e := (n1 C M2 rfl).symm.trans ho
      cases e
      rw [ifz, n2 M rfl, bsm, if_pos rfl]
      exact ⟨_, C, M, rfl, rfl, frC.rfl hC, frS.rfl⟩
  · rw [if_neg qk, if_neg qk]
    exact ⟨_, C, M, rfl, rfl, frC.rfl hC, frS.rfl⟩
