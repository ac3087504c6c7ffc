/-! ===== the good sets in their order, as both sides run over them ===== -/
theorem RDs_mem {zl : List Wd} (hk : okB zl) {s : Nat} (h : s ∈ RDs zl) : s < 2 ^ zl.length ∧ ∃ ds, rdS zl (nI s) = some ds := by
  unfold RDs rdF at h
  obtain ⟨h1, h2⟩ := List.mem_filter.mp h
  have h2 := decide_eq_true_iff.mp h2
  have e6 : (6 : Int32).toInt = 6 := rfl
  have h3 : 6 ≤ rnA 0 (lfI (nI s) 0 zl) := by
    rw [zi_le]
    exact h2
  have := (rdS_6 hk (nI s)).mp h3
  refine ⟨List.mem_range.mp h1, ?_⟩
  cases hr : rdS zl (nI s) with
  | none => rw [hr] at this; cases this
  | some ds => exact ⟨ds, rfl⟩
theorem RDs_of {zl : List Wd} (hk : okB zl) {s : Nat} (hs : s < 2 ^ zl.length) {ds : List Dt} (hr : rdS zl (nI s) = some ds) : decide (6 ≤ (stN zl s).toInt) = true := by
  have h := (rdS_6 hk (nI s)).mpr (by rw [hr]; rfl)
  have h := zi_le.mp h
  exact decide_eq_true h
theorem RDs_gd {zl : List Wd} (hk : okB zl) (g : Nat → Bool) (hg : ∀ s, s < 2 ^ zl.length → g s = true → ∃ ds, rdS zl (nI s) = some ds) : (RDs zl).filter g = (List.range' 0 (2 ^ zl.length)).filter g := by
  unfold RDs rdF
  rw [List.filter_filter, List.range_eq_range']
  apply List.filter_congr
  intro s hs
  have hs : s < 2 ^ zl.length := by
    rw [← List.range_eq_range'] at hs
    exact List.mem_range.mp hs
  cases q : g s with
  | false => rw [Bool.false_and]
  | true =>
    obtain ⟨ds, hr⟩ := hg s hs q
    rw [RDs_of hk hs hr]
    rfl
theorem RDs_c (g : Nat → Bool) (zl : List Wd) : (RDs zl).filter g = ((List.range (2 ^ zl.length)).filter fun s => decide (6 ≤ (stN zl s).toInt)).filter g := rfl
theorem gd_rd {kind : Nat} {zl : List Wd} {cs : List Cz} {s : Nat} (h : gdB kind zl cs s = true) : ∃ ds, rdS zl (nI s) = some ds := by
  unfold gdB fnB at h
  cases hr : rdS zl (nI s) with
  | none => rw [hr] at h; cases h
  | some ds => exact ⟨ds, rfl⟩
theorem RDs_len (zl : List Wd) : (RDs zl).length ≤ 2 ^ zl.length := rdF_n _ _
theorem v_readings {D : List va_E} {ob : Nat} {zl : List Wd} (hB : BVD D ob zl) (C : CS) (M : MS) : cO (mh (ccells C) M D) ob 1 (X1_readings (mh (ccells C) M D) ob) = some (Int32.ofNat (RDs zl).length, mh (ccells C) M D) := by
  obtain ⟨w, s, r, d, dr, f, g, hm, -, h1, h2, h3, h4, h5, h6, h7, h8⟩ := hB C M
  rw [e_cO h1]
  unfold X1_readings X1_readings_0
  rw [e_gQ h1 rfl, bsm, e_aN h6 (by omega), bsm]
theorem v_sets {D : List va_E} {ob : Nat} {zl : List Wd} (hB : BVD D ob zl) (C : CS) (M : MS) : cO (mh (ccells C) M D) ob 1 (X1_sets (mh (ccells C) M D) ob) = some (Int32.ofNat (2 ^ zl.length), mh (ccells C) M D) := by
  obtain ⟨w, s, r, d, dr, f, g, hm, -, h1, h2, h3, h4, h5, h6, h7, h8⟩ := hB C M
  rw [e_cO h1]
  unfold X1_sets X1_sets_0
  rw [e_gQ h1 rfl, bsm, e_aN h4 (by omega), bsm]
theorem v_readAt {D : List va_E} {ob : Nat} {zl : List Wd} (hB : BVD D ob zl) (hk : okB zl) (C : CS) (M : MS) {y : Int32} {k s : Nat} (hy : y.toInt = k) (hs : (RDs zl)[k]? = some s) : cO (mh (ccells C) M D) ob 1 (X1_readingAt (mh (ccells C) M D) ob y) = some (nI s, mh (ccells C) M D) := by
  obtain ⟨w, st, r, d, dr, f, g, hm, -, h1, h2, h3, h4, h5, h6, h7, h8⟩ := hB C M
  have e0 : (0 : Int32).toInt = 0 := rfl
  have hl := (List.getElem?_eq_some_iff.mp hs).1
  have hn := RDs_len zl
  have hp := v_pow hk
  rw [e_cO h1]
  unfold X1_readingAt X1_readingAt_0 X1_readingAt_23
  rw [if_neg (by rw [zi_lt]; omega), e_gQ h1 rfl, bsm, e_aN h6 (by omega), bsm, if_neg (by rw [zi_le, zo (by omega)]; omega), bsm, e_aA h6 hy hl, bsm, h7 k s hs]
def hdG : List Nat → Int32
  | [] => -5
  | s :: _ => nI s
theorem gl_split (g : Nat → Bool) : ∀ (m k s : Nat) (us : List Nat), (List.range' k m).filter g = s :: us → k ≤ s ∧ s < k + m ∧ g s = true ∧ (List.range' (s + 1) (k + m - s - 1)).filter g = us
  | 0, k, s, us, h => by cases h
  | m + 1, k, s, us, h => by
    rw [List.range'_succ, List.filter_cons] at h
    by_cases q : g k = true
    · rw [if_pos q] at h
      cases h
      refine ⟨Nat.le_refl _, by omega, q, ?_⟩
      rw [show k + (m + 1) - k - 1 = m by omega]
    · rw [if_neg q] at h
      obtain ⟨a1, a2, a3, a4⟩ := gl_split g m (k + 1) s us h
      refine ⟨by omega, by omega, a3, ?_⟩
      rw [show k + (m + 1) - s - 1 = k + 1 + m - s - 1 by omega]
      exact a4
theorem rng_drop (N s : Nat) (h : s < N) : (List.range' 0 N).filter (fun t => decide (s < t)) = List.range' (s + 1) (N - s - 1) := by
  have e : List.range' 0 N = List.range' 0 (s + 1) ++ List.range' (s + 1) (N - s - 1) := by
    have := @List.range'_append 0 (s + 1) (N - s - 1) 1
    rw [Nat.one_mul, Nat.zero_add, show s + 1 + (N - s - 1) = N by omega] at this
    exact this.symm
  rw [e, List.filter_append]
  have e1 : (List.range' 0 (s + 1)).filter (fun t => decide (s < t)) = [] := by
    rw [List.filter_eq_nil_iff]
    intro t ht
    have := (List.mem_range'_1.mp ht).2
    rw [decide_eq_true_iff]
    omega
  have e2 : (List.range' (s + 1) (N - s - 1)).filter (fun t => decide (s < t)) = List.range' (s + 1) (N - s - 1) := by
    rw [List.filter_eq_self]
    intro t ht
    have := (List.mem_range'_1.mp ht).1
    rw [decide_eq_true_iff]
    omega
  rw [e1, e2]
  rfl
/-- what a run of the reference stands on -/
def rsM (M : MS) (x : Int32) (b : Nat) (zl : List Wd) (cs : List Cz) : Prop := b < 6 ∧ okB zl ∧ x.toInt = b ∧ rBg M b zl ∧ whM M zl ∧ fnM M zl cs
theorem rsM_T {M M' : MS} {x : Int32} {b : Nat} {zl : List Wd} {cs : List Cz} (h : frT M M') (hr : rsM M x b zl cs) : rsM M' x b zl cs := ⟨hr.1, hr.2.1, hr.2.2.1, rBg_L (frT_S h) hr.2.2.2.1, whM_T h hr.2.2.2.2.1, fnM_T h hr.2.2.2.2.2⟩
theorem r_words {M : MS} {x : Int32} {b : Nat} {zl : List Wd} {cs : List Cz} (hr : rsM M x b zl cs) : mA M 8 x = some (nI zl.length) ∧ (1 : Int32) <<< (nI zl.length &&& 31) = nI (2 ^ zl.length) := by
  obtain ⟨h1, h2, h3, h4, h5, h6⟩ := hr
  have hn : M.2.1 8 b = nI zl.length := zi_eq.mpr (by rw [h4.1, q_i (by have := h2.1; omega)])
  rw [mA_ok (j := 8) (q := b) h3 (by show b < 6; omega), hn]
  exact ⟨rfl, one_shl (by have := h2.1; omega)⟩
theorem r_goodS {M : MS} {x : Int32} {b kind s : Nat} {zl : List Wd} {cs : List Cz} (hr : rsM M x b zl cs) (hs : s < 2 ^ zl.length) (hkd : kind < 7) : ∃ M', X8_isGood M (nI kind) x (nI s) = some (b01 (gdB kind zl cs s), M') ∧ frT M M' := r_good hr.1 hr.2.1 hr.2.2.1 hr.2.2.2.1 hr.2.2.2.2.1 hr.2.2.2.2.2 hs hkd
theorem r_next5 {x : Int32} {b kind : Nat} {zl : List Wd} {cs : List Cz} (hkd : kind < 7) : ∀ (m k fn : Nat) (M : MS), k + m = 2 ^ zl.length → m < fn → rsM M x b zl cs → ∃ M', X8_nextGood_5 fn M (nI kind) x (nI k) = some (hdG ((List.range' k m).filter (gdB kind zl cs)), M') ∧ frT M M'
  | 0, k, fn, M, hm, hf, hr => by
    obtain ⟨fn, rfl⟩ : ∃ q, fn = q + 1 := ⟨fn - 1, by omega⟩
    obtain ⟨w1, w2⟩ := r_words hr
    have hp := v_pow hr.2.1
    refine ⟨M, ?_, frT.rfl⟩
    rw [X8_nextGood_5, w1, bsm, w2, if_pos ((q_le (by omega) (by omega)).mpr (by omega))]
    rfl
  | m + 1, k, fn, M, hm, hf, hr => by
    obtain ⟨fn, rfl⟩ : ∃ q, fn = q + 1 := ⟨fn - 1, by omega⟩
    obtain ⟨w1, w2⟩ := r_words hr
    have hp := v_pow hr.2.1
    obtain ⟨M1, a1, a2⟩ := r_goodS (kind := kind) hr (show k < 2 ^ zl.length by omega) hkd
    rw [X8_nextGood_5, w1, bsm, w2, if_neg (fun c => by have := (q_le (by omega) (by omega)).mp c; omega), a1, bsm, b01_i, List.range'_succ, List.filter_cons]
    cases q : gdB kind zl cs k with
    | true =>
      rw [if_pos rfl, if_pos rfl]
      exact ⟨M1, rfl, a2⟩
    | false =>
      rw [if_neg (by decide), if_neg (by decide), show nI k + 1 = nI (k + 1) from q_add k 1]
      obtain ⟨M2, b1, b2⟩ := r_next5 hkd m (k + 1) fn M1 (by omega) (by omega) (rsM_T a2 hr)
      exact ⟨M2, b1, frT.trans a2 b2⟩
/-- the run's list: the good ones from some place on -/
def isRun (kind : Nat) (zl : List Wd) (cs : List Cz) (us : List Nat) : Prop := ∃ k m, k + m = 2 ^ zl.length ∧ (List.range' k m).filter (gdB kind zl cs) = us
theorem run_all (kind : Nat) (zl : List Wd) (cs : List Cz) : isRun kind zl cs ((List.range' 0 (2 ^ zl.length)).filter (gdB kind zl cs)) := ⟨0, _, Nat.zero_add _, rfl⟩
theorem r_first {M : MS} {x : Int32} {b kind : Nat} {zl : List Wd} {cs : List Cz} (hkd : kind < 7) (hr : rsM M x b zl cs) : ∃ M', X8_nextGood M (nI kind) x (-1) = some (hdG ((List.range' 0 (2 ^ zl.length)).filter (gdB kind zl cs)), M') ∧ frT M M' := by
  have hp := v_pow hr.2.1
  have e := r_next5 (x := x) (b := b) (cs := cs) hkd (2 ^ zl.length) 0 FU M (by omega) (by unfold FU; omega) hr
  unfold X8_nextGood X8_nextGood_0
  rw [show (-1 : Int32) + 1 = nI 0 from rfl]
  exact e
theorem r_after {M : MS} {x : Int32} {b kind s : Nat} {zl : List Wd} {cs : List Cz} (hkd : kind < 7) (hr : rsM M x b zl cs) (hs : s < 2 ^ zl.length) : ∃ M', X8_nextGood M (nI kind) x (nI s) = some (hdG ((List.range' (s + 1) (2 ^ zl.length - s - 1)).filter (gdB kind zl cs)), M') ∧ frT M M' := by
  have hp := v_pow hr.2.1
  have e := r_next5 (x := x) (b := b) (cs := cs) hkd (2 ^ zl.length - s - 1) (s + 1) FU M (by omega) (by unfold FU; omega) hr
  unfold X8_nextGood X8_nextGood_0
  rw [show nI s + 1 = nI (s + 1) from q_add s 1]
  exact e
theorem run_step {kind s : Nat} {zl : List Wd} {cs : List Cz} {us : List Nat} (h : isRun kind zl cs (s :: us)) : s < 2 ^ zl.length ∧ gdB kind zl cs s = true ∧ (List.range' (s + 1) (2 ^ zl.length - s - 1)).filter (gdB kind zl cs) = us ∧ isRun kind zl cs us := by
  obtain ⟨k, m, h1, h2⟩ := h
  obtain ⟨a1, a2, a3, a4⟩ := gl_split _ m k s us h2
  rw [h1] at a2 a4
  exact ⟨a2, a3, a4, s + 1, _, by omega, a4⟩
theorem run_len {kind : Nat} {zl : List Wd} {cs : List Cz} {us : List Nat} (h : isRun kind zl cs us) : us.length ≤ 2 ^ zl.length := by
  obtain ⟨k, m, h1, h2⟩ := h
  rw [← h2]
  have := List.length_filter_le (gdB kind zl cs) (List.range' k m)
  rw [List.length_range'] at this
  omega
theorem hdG_neg {us : List Nat} (h : ∀ s ∈ us, s < 4096) : hdG us < 0 ↔ us = [] := by
  cases us with
  | nil => exact ⟨fun _ => rfl, fun _ => by decide⟩
  | cons s us =>
    have hs := h s List.mem_cons_self
    have e0 : (0 : Int32).toInt = 0 := rfl
    have e : (hdG (s :: us)).toInt = s := q_i (by omega)
    constructor
    · intro c
      have := zi_lt.mp c
      omega
    · intro c
      cases c
