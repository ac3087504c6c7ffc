/-! ===== the reference: the whole's duties, sense, lets ===== -/
def frT (M M' : MS) : Prop := fM M M' [27, 28, 29, 30] [20, 21, 22, 23, 24, 25, 26, 31] []
theorem frT.rfl {M : MS} : frT M M := fM.rfl
theorem frT.trans {M M1 M2 : MS} (h : frT M M1) (h2 : frT M1 M2) : frT M M2 := fM.trans h h2
theorem frL_T {M M' : MS} (h : frL M M') : frT M M' := fM_mono h (by decide) (by decide) (by decide)
theorem fr31_T {M M' : MS} (h : fr31 M M') : frT M M' := fM_mono h (by decide) (by decide) (by decide)
theorem frT_S {M M' : MS} (h : frT M M') : frS M M' := fM_mono h (by decide) (by decide) (by decide)
def whM (M : MS) (zl : List Wd) : Prop := (rdS zl 0 = none → (M.1 33).toInt = -1) ∧ ∀ wh, rdS zl 0 = some wh → (M.1 33).toInt = wh.length ∧ ∀ (i : Nat) (z : Dt), wh[i]? = some z → M.2.2 32 i = dLg z
theorem whM_T {M M' : MS} {zl : List Wd} (h : frT M M') (hw : whM M zl) : whM M' zl := by
  unfold whM at hw ⊢
  rw [h.1 33 (by decide), h.2.2 32 (by decide)]
  exact hw
theorem mL_ok {M : MS} {j : Nat} {i : Int32} {q : Nat} (h : i.toInt = q) (h2 : q < mln j) : mL M j i = some (M.2.2 j q) := by
  unfold mL
  have hz := zi_n i
  rw [if_pos (ix_ok (by omega) (by omega)), show i.toNatClampNeg = q by omega]
theorem mLs_ok {M : MS} {j : Nat} {i : Int32} {x : Int64} {q : Nat} (h : i.toInt = q) (h2 : q < mln j) : mLs M j i x = some (sl M j (vp_updL (M.2.2 j) q x)) := by
  unfold mLs
  have hz := zi_n i
  rw [if_pos (ix_ok (by omega) (by omega)), show i.toNatClampNeg = q by omega]
theorem rw_23 {wh : List Dt} : ∀ (us : List Dt) (k fn : Nat) (M : MS) (y : Int32), wh.drop k = us → us.length < fn → y.toInt = k → dM M wh → (M.1 33).toInt = wh.length → (∀ (i : Nat) (z : Dt), i < k → wh[i]? = some z → M.2.2 32 i = dLg z) → ∃ M', X8_readWhole_23 fn M y = some ((), M') ∧ dM M' wh ∧ (M'.1 33).toInt = wh.length ∧ (∀ (i : Nat) (z : Dt), wh[i]? = some z → M'.2.2 32 i = dLg z) ∧ fM M M' [] [] [32]
  | [], k, fn, M, y, hd, hf, hy, hD, h33, h => by
    obtain ⟨fn, rfl⟩ : ∃ q, fn = q + 1 := ⟨fn - 1, by omega⟩
    have hk := List.drop_eq_nil_iff.mp hd
    refine ⟨M, ?_, hD, h33, fun i z hz => h i z (by have := (List.getElem?_eq_some_iff.mp hz).1; omega) hz, fM.rfl⟩
    rw [X8_readWhole_23, if_pos (by rw [zi_le]; omega)]
  | z :: us, k, fn, M, y, hd, hf, hy, hD, h33, h => by
    simp only [List.length_cons] at hf
    obtain ⟨fn, rfl⟩ : ∃ q, fn = q + 1 := ⟨fn - 1, by omega⟩
    obtain ⟨d1, d2, d3⟩ := drop_c hd
    have hl := hD.2.1
    obtain ⟨M', a1, a2, a3, a4, a5⟩ := rw_23 (wh := wh) us (k + 1) fn (sl M 32 (vp_updL (M.2.2 32) k (dLg z))) (y + 1) d2 (by omega) (by rw [zi_inc hy (by omega) (by omega)]; omega) hD h33 (fun i w hi hw => by
      show vp_updL (M.2.2 32) k (dLg z) i = dLg w
      unfold vp_updL
      by_cases e : i = k
      · rw [if_pos e]
        rw [e, d1] at hw
        cases hw
        rfl
      · rw [if_neg e]
        exact h i w (by omega) hw)
    refine ⟨M', ?_, a2, a3, a4, fM.trans (fM_sl (by decide)) a5⟩
    rw [X8_readWhole_23, if_neg (by rw [zi_le]; omega), r_dutyOf hD hy d1, bsm, mLs_ok (j := 32) (q := k) hy (by show k < 12; omega), bsm]
    exact a1
theorem r_whole {M : MS} {x : Int32} {b : Nat} {zl : List Wd} (hb : b < 6) (hk : okB zl) (hx : x.toInt = b) (hB : rBg M b zl) : ∃ M', X8_readWhole M x = some ((), M') ∧ whM M' zl ∧ frS M M' ∧ ∀ wh, rdS zl 0 = some wh → dM M' wh := by
  obtain ⟨l1, l2⟩ := r_leftB (st := 0) hb hk hx hB
  unfold X8_readWhole X8_readWhole_0 X8_readWhole_18
  cases hr : rdS zl 0 with
  | none =>
    obtain ⟨M1, a1, a2⟩ := l1 hr
    rw [a1, bsm, if_pos rfl]
    refine ⟨si M1 33 (-1), ?_, ⟨fun _ => rfl, (fun wh h => by rw [hr] at h; cases h)⟩, frS.trans (frL_S a2) (fM_si (by decide)), fun wh h => by cases h⟩
    show X8_readWhole_23 (4999 + 1) (si M1 33 (-1)) 0 = _
    rw [X8_readWhole_23, if_pos (show (si M1 33 (-1)).1 33 ≤ 0 from (show (-1 : Int32) ≤ 0 by decide))]
  | some wh =>
    obtain ⟨M1, a1, a2, a3⟩ := l2 wh hr
    obtain ⟨M2, b1, b2, b3, b4, b5⟩ := rw_23 (wh := wh) wh 0 FU (si M1 33 (M1.1 28)) 0 rfl (by have := a2.2.1; unfold FU; omega) rfl a2 a2.1 (fun i z hi => by omega)
    rw [a1, bsm, if_neg (show ¬ (1 : Int32) = 0 by decide)]
    refine ⟨M2, b1, ⟨(fun h => by rw [hr] at h; cases h), (fun w h => by rw [hr] at h; cases h; exact ⟨b3, b4⟩)⟩, frS.trans (frL_S a3) (frS.trans (fM_si (by decide)) (fM_mono b5 (by decide) (by decide) (by decide))), (fun w h => by cases h; exact b2)⟩
theorem r_sn34 {M : MS} {ds wh : List Dt} {z : Dt} {kd : Nat} {di : Int32} {rec : MS → Int32 → Option (Int32 × MS)} (hD : dM M ds) (hz : ds[kd]? = some z) (hdi : di.toInt = kd) (hl : wh.length ≤ 12) (h33 : (M.1 33).toInt = wh.length) (h32 : ∀ (i : Nat) (w : Dt), wh[i]? = some w → M.2.2 32 i = dLg w) (hokw : ∀ w ∈ wh, okD w) (hokz : okD z) : ∀ (us : List Dt) (k fn : Nat) (was : Bool) (y : Int32), wh.drop k = us → us.length < fn → y.toInt = k → X8_makesSense_34 rec fn M di (b01 was) y = if (was || us.any (fun w => decide (w = z))) = true then rec M (di + 1) else some (0, M)
  | [], k, fn, was, y, hd, hf, hy => by
    obtain ⟨fn, rfl⟩ : ∃ q, fn = q + 1 := ⟨fn - 1, by omega⟩
    have hk := List.drop_eq_nil_iff.mp hd
    rw [X8_makesSense_34, if_pos (by rw [zi_le]; omega), b01_i, List.any_nil, Bool.or_false]
  | w :: us, k, fn, was, y, hd, hf, hy => by
    simp only [List.length_cons] at hf
    obtain ⟨fn, rfl⟩ : ∃ q, fn = q + 1 := ⟨fn - 1, by omega⟩
    obtain ⟨d1, d2, d3⟩ := drop_c hd
    have hw := hokw w (List.mem_of_getElem? d1)
    have ih := fun q => r_sn34 (rec := rec) hD hz hdi hl h33 h32 hokw hokz us (k + 1) fn q (y + 1) d2 (by omega) (by rw [zi_inc hy (by omega) (by omega)]; omega)
    rw [X8_makesSense_34, if_neg (by rw [zi_le]; omega), b01_i, List.any_cons]
    unfold X8_makesSense_64 X8_makesSense_69
    cases was with
    | true =>
      rw [if_pos rfl]
      have := ih true
      rw [Bool.true_or] at this
      rw [Bool.true_or]
      exact this
    | false =>
      rw [if_neg (by decide), mL_ok (j := 32) (q := k) hy (by show k < 12; omega), bsm, r_dutyOf hD hdi hz, bsm, h32 k w d1, Bool.false_or]
      by_cases q : w = z
      · rw [if_pos ((lg_cmp_eq _ _).mpr (by rw [q])), decide_eq_true q, Bool.true_or]
        have := ih true
        rw [Bool.true_or] at this
        exact this
      · rw [if_neg (fun c => q ((dLg_inj hw hokz).mp ((lg_cmp_eq _ _).mp c))), decide_eq_false q, Bool.false_or]
        have := ih false
        rw [Bool.false_or] at this
        exact this
theorem r_sn20 {M : MS} {ds wh : List Dt} (hD : dM M ds) (hl : wh.length ≤ 12) (h33 : (M.1 33).toInt = wh.length) (h32 : ∀ (i : Nat) (w : Dt), wh[i]? = some w → M.2.2 32 i = dLg w) (hokw : ∀ w ∈ wh, okD w) (hokd : ∀ z ∈ ds, okD z) : ∀ (us : List Dt) (k fn : Nat) (y : Int32), ds.drop k = us → us.length < fn → y.toInt = k → X8_makesSense_20 fn M y = some (b01 (us.all (fun z => wh.any (fun w => decide (w = z)))), M)
  | [], k, fn, y, hd, hf, hy => by
    obtain ⟨fn, rfl⟩ : ∃ q, fn = q + 1 := ⟨fn - 1, by omega⟩
    have hk := List.drop_eq_nil_iff.mp hd
    rw [X8_makesSense_20, if_pos (by rw [zi_le, hD.1]; omega)]
    rfl
  | z :: us, k, fn, y, hd, hf, hy => by
    simp only [List.length_cons] at hf
    obtain ⟨fn, rfl⟩ : ∃ q, fn = q + 1 := ⟨fn - 1, by omega⟩
    obtain ⟨d1, d2, d3⟩ := drop_c hd
    have hdl := hD.2.1
    have ih := r_sn20 hD hl h33 h32 hokw hokd us (k + 1) fn (y + 1) d2 (by omega) (by rw [zi_inc hy (by omega) (by omega)]; omega)
    have e := r_sn34 (rec := X8_makesSense_20 fn) hD d1 hy hl h33 h32 hokw (hokd z (List.mem_of_getElem? d1)) wh 0 FU false 0 rfl (by unfold FU; omega) rfl
    rw [X8_makesSense_20, if_neg (by rw [zi_le, hD.1]; omega), List.all_cons]
    have e : X8_makesSense_34 (X8_makesSense_20 fn) FU M y 0 0 = _ := e
    rw [e, Bool.false_or]
    cases wh.any (fun w => decide (w = z)) with
    | true =>
      rw [if_pos rfl, Bool.true_and]
      exact ih
    | false =>
      rw [if_neg (by decide), Bool.false_and]
      rfl
theorem wh_len {M : MS} {x : Int32} {b : Nat} {zl : List Wd} {st : Int32} {ds : List Dt} (hb : b < 6) (hk : okB zl) (hx : x.toInt = b) (hB : rBg M b zl) (hr : rdS zl st = some ds) : ds.length ≤ 12 := by
  obtain ⟨l1, l2⟩ := r_leftB (st := st) hb hk hx hB
  obtain ⟨M', a1, a2, a3⟩ := l2 ds hr
  exact a2.2.1
theorem r_sense {M : MS} {x st : Int32} {b : Nat} {zl : List Wd} (hb : b < 6) (hk : okB zl) (hx : x.toInt = b) (hB : rBg M b zl) (hW : whM M zl) : ∃ M', X8_makesSense M x st = some (b01 (snB zl st), M') ∧ frT M M' := by
  obtain ⟨l1, l2⟩ := r_leftB (st := st) hb hk hx hB
  have e0 : (0 : Int32).toInt = 0 := rfl
  unfold X8_makesSense X8_makesSense_0 X8_makesSense_16 snB
  cases h0 : rdS zl 0 with
  | none =>
    have h33 := hW.1 h0
    rw [if_pos (show M.1 33 < 0 by rw [zi_lt]; omega)]
    exact ⟨M, zg_b false _, frT.rfl⟩
  | some wh =>
    obtain ⟨h33, h32⟩ := hW.2 wh h0
    rw [if_neg (show ¬ M.1 33 < 0 by rw [zi_lt]; omega)]
    cases hs : rdS zl st with
    | none =>
      obtain ⟨M1, a1, a2⟩ := l1 hs
      rw [a1, bsm, if_pos rfl]
      exact ⟨M1, zg_b false _, frL_T a2⟩
    | some ds =>
      obtain ⟨M1, a1, a2, a3⟩ := l2 ds hs
      rw [a1, bsm, if_neg (show ¬ (1 : Int32) = 0 by decide)]
      dsimp only
      rw [r_sn20 a2 (wh_len hb hk hx hB h0) (by rw [a3.1 33 (by decide)]; exact h33) (fun i w hw => by rw [a3.2.2 32 (by decide)]; exact h32 i w hw) (rdS_ok hk h0) (rdS_ok hk hs) ds 0 FU 0 rfl (by have := a2.2.1; unfold FU; omega) rfl]
      exact ⟨M1, zg_b _ _, frL_T a3⟩
theorem zg_ife {c : Prop} [Decidable c] (M : MS) : zg (if c then some ((1 : Int32), M) else some (0, M)) = some (if c then 1 else 0, M) := by
  by_cases h : c
  · rw [if_pos h, if_pos h]; exact zg_z _ _ (.inr rfl)
  · rw [if_neg h, if_neg h]; exact zg_z _ _ (.inl rfl)
theorem r_isOf (M : MS) (c : Int32) : X8_isOf M 2 c = some (b01 (isIt c), M) ∧ X8_isOf M 4 c = some (b01 (isNu c), M) := by
  unfold X8_isOf X8_isOf_0 X8_isOf_23 X8_isOf_43 X8_isOf_48
  rw [if_pos rfl, if_neg (show ¬ (4 : Int32) = 2 by decide), isIt_if, isNu_if, zg_ife, zg_ife]
  exact ⟨rfl, rfl⟩
theorem r_lets53 {M : MS} {b : Nat} {zl : List Wd} {x st kd : Int32} {P : Int32 → Bool} (hb : b < 6) (hk : okB zl) (hx : x.toInt = b) (hB : rBg M b zl) (hP : ∀ c, X8_isOf M kd c = some (b01 (P c), M)) : ∀ (us : List Wd) (k fn : Nat) (y : Int32), zl.drop k = us → us.length < fn → y.toInt = k → X8_lets_53 fn M kd x st (nI zl.length) y = some (b01 (ofB P st k us), M)
  | [], k, fn, y, hd, hf, hy => by
    obtain ⟨fn, rfl⟩ : ∃ q, fn = q + 1 := ⟨fn - 1, by omega⟩
    have hk2 := List.drop_eq_nil_iff.mp hd
    have hl := hk.1
    rw [X8_lets_53, if_pos (by rw [zi_le, q_i (by omega)]; omega)]
    rfl
  | w :: us, k, fn, y, hd, hf, hy => by
    simp only [List.length_cons] at hf
    obtain ⟨fn, rfl⟩ : ∃ q, fn = q + 1 := ⟨fn - 1, by omega⟩
    obtain ⟨d1, d2, d3⟩ := drop_c hd
    have hl := hk.1
    have e12 : (12 : Int32).toInt = 12 := rfl
    have hx12 : (12 * x).toInt = 12 * b := by
      rw [zi_mul (by rw [e12]; omega) (by rw [e12]; omega), e12, hx]
    have hix : (12 * x + y).toInt = ((12 * b + k : Nat) : Int) := by
      rw [zi_add (by omega) (by omega)]
      omega
    have ih := r_lets53 (st := st) hb hk hx hB hP us (k + 1) fn (y + 1) d2 (by omega) (by rw [zi_inc hy (by omega) (by omega)]; omega)
    have hw := hB.2 k w d1
    have hw1 : M.2.1 6 (12 * b + k) = w.1 := by rw [hw]
    rw [X8_lets_53, if_neg (by rw [zi_le, q_i (by omega)]; omega), r_has M hy (by omega), bsm, i01]
    unfold ofB X8_lets_92
    by_cases q : bt st k
    · rw [if_pos q]
      dsimp only
      rw [mA_ok (j := 6) (q := 12 * b + k) hix (by show _ < 72; omega), bsm, hw1, hP, bsm, b01_i]
      cases P w.1 with
      | true =>
        rw [if_pos rfl, if_neg (fun c => by cases c.2)]
        exact ih
      | false =>
        rw [if_neg (by decide), if_pos ⟨q, rfl⟩]
        rfl
    · have hn : ¬ (bt st k ∧ P w.1 = false) := fun c => q c.1
      rw [if_neg q, if_neg hn]
      exact ih
theorem r_lets103 {M : MS} {b : Nat} {zl : List Wd} {x st : Int32} (hb : b < 6) (hk : okB zl) (hx : x.toInt = b) (hB : rBg M b zl) : ∀ (us : List Wd) (k fn : Nat) (y : Int32) (pv : Wd), zl.drop (k + 1) = us → zl[k]? = some pv → us.length < fn → y.toInt = ((k + 1 : Nat) : Int) → X8_lets_103 fn M x st (nI zl.length) y = some (b01 (clB st (k + 1) pv.1 us), M)
  | [], k, fn, y, pv, hd, hp, hf, hy => by
    obtain ⟨fn, rfl⟩ : ∃ q, fn = q + 1 := ⟨fn - 1, by omega⟩
    have hk2 := List.drop_eq_nil_iff.mp hd
    have hl := hk.1
    rw [X8_lets_103, if_pos (by rw [zi_le, q_i (by omega)]; omega)]
    rfl
  | w :: us, k, fn, y, pv, hd, hp, hf, hy => by
    simp only [List.length_cons] at hf
    obtain ⟨fn, rfl⟩ : ∃ q, fn = q + 1 := ⟨fn - 1, by omega⟩
    obtain ⟨d1, d2, d3⟩ := drop_c hd
    have hl := hk.1
    have e12 : (12 : Int32).toInt = 12 := rfl
    have e1 : (1 : Int32).toInt = 1 := rfl
    have hx12 : (12 * x).toInt = 12 * b := by
      rw [zi_mul (by rw [e12]; omega) (by rw [e12]; omega), e12, hx]
    have hix : (12 * x + y).toInt = ((12 * b + (k + 1) : Nat) : Int) := by
      rw [zi_add (by omega) (by omega)]
      omega
    have hix1 : ∀ q : Int32, q.toInt = ((12 * b + (k + 1) : Nat) : Int) → (q - 1).toInt = ((12 * b + k : Nat) : Int) := fun q hq => by
      rw [zi_sub (by omega) (by omega), e1]
      omega
    have hy1 : (y - 1).toInt = k := by
      rw [zi_sub (by omega) (by omega), e1]
      omega
    have ih := r_lets103 (st := st) hb hk hx hB us (k + 1) fn (y + 1) w d2 d1 (by omega) (by rw [zi_inc hy (by omega) (by omega)]; omega)
    have hw1 : M.2.1 6 (12 * b + (k + 1)) = w.1 := by rw [hB.2 (k + 1) w d1]
    have hp1 : M.2.1 6 (12 * b + k) = pv.1 := by rw [hB.2 k pv hp]
    rw [X8_lets_103, if_neg (by rw [zi_le, q_i (by omega)]; omega), mA_ok (j := 6) (q := 12 * b + (k + 1)) hix (by show _ < 72; omega), bsm, hw1]
    unfold clB X8_lets_167
    by_cases q1 : w.1 = 59
    · rw [if_pos q1, if_neg (fun c => c.1 q1)]
      exact ih
    · rw [if_neg q1, mA_ok (j := 6) (q := 12 * b + k) (hix1 _ hix) (by show _ < 72; omega), bsm, hp1]
      by_cases q2 : pv.1 = 59
      · rw [if_pos q2, if_neg (fun c => c.2.1 q2)]
        exact ih
      · rw [if_neg q2, r_has M hy (by omega), bsm]
        dsimp only
        rw [r_has M hy1 (by omega), bsm]
        dsimp only
        by_cases q3 : bt st (k + 1) ↔ bt st k
        · rw [if_pos (by simp only [q3]), if_neg (fun c => c.2.2 q3)]
          exact ih
        · rw [if_neg (fun c => q3 (by
            by_cases u : bt st (k + 1)
            · rw [if_pos u] at c
              by_cases v : bt st k
              · exact ⟨fun _ => v, fun _ => u⟩
              · rw [if_neg v] at c
                cases c
            · rw [if_neg u] at c
              by_cases v : bt st k
              · rw [if_pos v] at c
                cases c
              · exact ⟨fun d => absurd d u, fun d => absurd d v⟩)), if_pos ⟨q1, q2, q3⟩]
          rfl
theorem r_let {M : MS} {x st : Int32} {b kind : Nat} {zl : List Wd} (hb : b < 6) (hk : okB zl) (hx : x.toInt = b) (hB : rBg M b zl) (hW : whM M zl) (hkd : kind < 7) : ∃ M', X8_lets M (nI kind) x st = some (b01 (ltB kind zl st), M') ∧ frT M M' := by
  have hl := hk.1
  have hn : M.2.1 8 b = nI zl.length := zi_eq.mpr (by rw [hB.1, q_i (by omega)])
  unfold X8_lets X8_lets_0 X8_lets_188
  rw [mA_ok (j := 8) (q := b) hx (by show b < 6; omega), bsm, hn]
  rcases (show kind = 0 ∨ kind = 1 ∨ kind = 2 ∨ kind = 3 ∨ kind = 4 ∨ kind = 5 ∨ kind = 6 by omega) with rfl | rfl | rfl | rfl | rfl | rfl | rfl
  · rw [if_pos (by decide)]
    exact ⟨M, zg_b true _, frT.rfl⟩
  · rw [if_neg (by decide), if_pos (by decide)]
    exact ⟨M, zg_b true _, frT.rfl⟩
  · rw [if_neg (by decide), if_neg (by decide), if_pos (by decide)]
    have e := r_lets53 (st := st) (kd := 2) (P := isIt) hb hk hx hB (fun c => (r_isOf M c).1) zl 0 FU 0 rfl (by unfold FU; omega) rfl
    have e : X8_lets_53 FU M (nI 2) x st (nI zl.length) 0 = _ := e
    rw [e]
    exact ⟨M, zg_b _ _, frT.rfl⟩
  · rw [if_neg (by decide), if_neg (by decide), if_neg (by decide), if_pos (by decide)]
    match zl, hk, hB, hl with
    | [], hk, hB, hl => exact absurd rfl hk.2.1
    | v :: t, hk, hB, hl =>
      rw [r_lets103 hb hk hx hB t 0 FU 1 v rfl rfl (by simp only [List.length_cons] at hl; unfold FU; omega) rfl]
      exact ⟨M, zg_b _ _, frT.rfl⟩
  · rw [if_neg (by decide), if_neg (by decide), if_neg (by decide), if_neg (by decide), if_pos (by decide)]
    have e := r_lets53 (st := st) (kd := 4) (P := isNu) hb hk hx hB (fun c => (r_isOf M c).2) zl 0 FU 0 rfl (by unfold FU; omega) rfl
    have e : X8_lets_53 FU M (nI 4) x st (nI zl.length) 0 = _ := e
    rw [e]
    exact ⟨M, zg_b _ _, frT.rfl⟩
  · rw [if_neg (by decide), if_neg (by decide), if_neg (by decide), if_neg (by decide), if_neg (by decide), if_pos (by decide)]
    unfold ltB
    by_cases q : (st &&& (st + 1)) = 0
    · rw [if_pos q, decide_eq_true q]
      exact ⟨M, zg_b true _, frT.rfl⟩
    · rw [if_neg q, decide_eq_false q]
      exact ⟨M, zg_b false _, frT.rfl⟩
  · obtain ⟨M', a1, a2⟩ := r_sense (st := st) hb hk hx hB hW
    rw [if_neg (by decide), if_neg (by decide), if_neg (by decide), if_neg (by decide), if_neg (by decide), if_neg (by decide), a1, bsm]
    exact ⟨M', zg_b _ _, a2⟩
