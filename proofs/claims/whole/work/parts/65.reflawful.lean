/-! ===== the reference: barred duties, lawful ===== -/
def czR (M : MS) (l i : Nat) (c : Cz) : Prop := M.2.1 10 (8 * l + i) = nI c.1 ∧ (c.1 = 2 → M.2.1 11 (8 * l + i) = nI c.2.1) ∧ (c.1 = 0 → ∃ fr : Nat, (M.2.1 12 (8 * l + i)).toInt = fr ∧ 100 * l ≤ fr ∧ fr + c.2.2.length ≤ 100 * l + 100 ∧ cdR M (8 * l + i) fr c.2.2)
def rLw (M : MS) (l : Nat) (cs : List Cz) : Prop := (M.2.1 9 l).toInt = cs.length ∧ ∀ (i : Nat) (c : Cz), cs[i]? = some c → czR M l i c
theorem cdR_M {M M' : MS} {c fr : Nat} {ts : List Tk} (h13 : M'.2.1 13 = M.2.1 13) (h14 : M'.2.1 14 = M.2.1 14) (h : cdR M c fr ts) : cdR M' c fr ts := by
  unfold cdR at h ⊢
  rw [h13, h14]
  exact h
theorem rLw_M {M M' : MS} {l : Nat} {cs : List Cz} (h9 : M'.2.1 9 = M.2.1 9) (h10 : M'.2.1 10 = M.2.1 10) (h11 : M'.2.1 11 = M.2.1 11) (h12 : M'.2.1 12 = M.2.1 12) (h13 : M'.2.1 13 = M.2.1 13) (h14 : M'.2.1 14 = M.2.1 14) (h : rLw M l cs) : rLw M' l cs := by
  unfold rLw czR cdR at h ⊢
  rw [h9, h10, h11, h12, h13, h14]
  exact h
theorem rLw_31 {M M' : MS} {l : Nat} {cs : List Cz} (h : fr31 M M') (hr : rLw M l cs) : rLw M' l cs := rLw_M (h.2.1 9 (by decide)) (h.2.1 10 (by decide)) (h.2.1 11 (by decide)) (h.2.1 12 (by decide)) (h.2.1 13 (by decide)) (h.2.1 14 (by decide)) hr
theorem r_holds {M : MS} {l i : Nat} {c : Cz} {ci di : Int32} {ds : List Dt} {z : Dt} {kd : Nat} (hl : 8 * l + i < 40) (hci : ci.toInt = ((8 * l + i : Nat) : Int)) (hk : okc 11 c.2.2) (hc0 : c.1 = 0) (h100 : c.2.2.length ≤ 100) (hR : czR M l i c) (hD : dM M ds) (hz : ds[kd]? = some z) (hdi : di.toInt = kd) : ∃ M', X8_holds M ci di = some (b01 (vl (evT z (pdF z.1 0 ds)) c.2.2), M') ∧ fr31 M M' := by
  obtain ⟨fr, f1, f2, f3, f4⟩ := hR.2.2 hc0
  obtain ⟨M', a1, a2⟩ := r_holds10 hl hci hk.1 hz hdi c.2.2 0 FU M 0 (M.2.1 12 (8 * l + i)) [] _ rfl (by unfold FU; omega) f1 rfl (Nat.zero_le _) (fun j v hv => by cases hv) (vl_run hk (by omega) (evT z (pdF z.1 0 ds)) [] (by simp only [List.length_nil]; omega)) f4 hD
  refine ⟨M', ?_, a2⟩
  unfold X8_holds X8_holds_0
  rw [mA_ok (j := 12) (q := 8 * l + i) hci (by show _ < 40; omega), bsm, a1, zg_b]
theorem bvS_c (ev : Tk → Bool) (c : Cz) (cs : List Cz) : bvS ev (c :: cs) = ((c.1 == 0 && vl ev c.2.2) || bvS ev cs) := rfl
theorem code_le {cs : List Cz} (h : (kSt true cs).length ≤ 100) : ∀ c ∈ cs, c.1 = 0 → c.2.2.length ≤ 100 := by
  have gen : ∀ (l : List Cz) (fi : Bool) (c : Cz), c ∈ l → c.1 = 0 → c.2.2.length ≤ (kSt fi l).length := by
    intro l
    induction l with
    | nil => exact fun fi c hc => by cases hc
    | cons d l ih =>
      intro fi c hc h0
      unfold kSt
      by_cases q : d.1 = 0
      · rw [if_pos q, List.length_append, List.length_append]
        rcases List.mem_cons.mp hc with e | e
        · rw [e]
          omega
        · have := ih false c e h0
          omega
      · rw [if_neg q]
        rcases List.mem_cons.mp hc with e | e
        · rw [e] at h0
          exact absurd h0 q
        · exact ih fi c e h0
  intro c hc h0
  have := gen cs true c hc h0
  omega
theorem r_bar5 {l : Nat} {cs : List Cz} {x di : Int32} {ds : List Dt} {z : Dt} {kd : Nat} (hl : l < 5) (hx : x.toInt = l) (hk : okL cs) (hz : ds[kd]? = some z) (hdi : di.toInt = kd) : ∀ (us : List Cz) (i fn : Nat) (M : MS) (y : Int32), cs.drop i = us → us.length < fn → y.toInt = ((8 * l + i : Nat) : Int) → rLw M l cs → dM M ds → ∃ M', X8_isBarred_5 fn M x di y = some (b01 (bvS (evT z (pdF z.1 0 ds)) us), M') ∧ fr31 M M'
  | [], i, fn, M, y, hd, hf, hy, hR, hD => by
    obtain ⟨fn, rfl⟩ : ∃ q, fn = q + 1 := ⟨fn - 1, by omega⟩
    have hk2 := List.drop_eq_nil_iff.mp hd
    have h8 := hk.2.1
    have e8 : (8 : Int32).toInt = 8 := rfl
    have hx8 : (8 * x).toInt = 8 * l := by
      rw [zi_mul (by rw [e8]; omega) (by rw [e8]; omega), e8, hx]
    refine ⟨M, ?_, fr31.rfl⟩
    rw [X8_isBarred_5, mA_ok (j := 9) (q := l) hx (by show l < 5; omega), bsm, if_pos (by rw [zi_le, zi_add (by rw [hR.1]; omega) (by rw [hR.1]; omega), hR.1]; omega)]
    rfl
  | c :: us, i, fn, M, y, hd, hf, hy, hR, hD => by
    simp only [List.length_cons] at hf
    obtain ⟨fn, rfl⟩ : ∃ q, fn = q + 1 := ⟨fn - 1, by omega⟩
    obtain ⟨d1, d2, d3⟩ := drop_c hd
    have h8 := hk.2.1
    have e8 : (8 : Int32).toInt = 8 := rfl
    have hx8 : (8 * x).toInt = 8 * l := by
      rw [zi_mul (by rw [e8]; omega) (by rw [e8]; omega), e8, hx]
    have hcz := hR.2 i c d1
    obtain ⟨k1, k2, k3⟩ := hk.2.2.1 c (List.mem_of_getElem? d1)
    have hy2 : (y + 1).toInt = ((8 * l + (i + 1) : Nat) : Int) := by
      rw [zi_inc hy (by omega) (by omega)]
      omega
    rw [X8_isBarred_5, mA_ok (j := 9) (q := l) hx (by show l < 5; omega), bsm, if_neg (by rw [zi_le, zi_add (by rw [hR.1]; omega) (by rw [hR.1]; omega), hR.1]; omega), mA_ok (j := 10) (q := 8 * l + i) hy (by show _ < 40; omega), bsm, hcz.1, bvS_c]
    unfold X8_isBarred_40
    by_cases q : c.1 = 0
    · obtain ⟨M1, a1, a2⟩ := r_holds (by omega) hy (k3 q) q (code_le hk.2.2.2 c (List.mem_of_getElem? d1) q) hcz hD hz hdi
      rw [if_pos (show nI c.1 = 0 by rw [q]; rfl), a1, bsm, b01_i, q]
      by_cases q2 : vl (evT z (pdF z.1 0 ds)) c.2.2 = true
      · rw [if_pos q2, q2]
        exact ⟨M1, rfl, a2⟩
      · rw [if_neg q2, show vl (evT z (pdF z.1 0 ds)) c.2.2 = false from Bool.not_eq_true _ ▸ q2]
        obtain ⟨M2, b1, b2⟩ := r_bar5 hl hx hk hz hdi us (i + 1) fn M1 (y + 1) d2 (by omega) hy2 (rLw_31 a2 hR) (dM_31 a2 hD)
        exact ⟨M2, b1, fr31.trans a2 b2⟩
    · rw [if_neg (show ¬ nI c.1 = 0 from fun e => q ((nI_inj (b := 0) (by omega) (by omega)).mp e)), beq_eq_false_iff_ne.mpr q, Bool.false_and, Bool.false_or]
      exact r_bar5 hl hx hk hz hdi us (i + 1) fn M (y + 1) d2 (by omega) hy2 hR hD
theorem r_isBarred {M : MS} {l : Nat} {cs : List Cz} {x di : Int32} {ds : List Dt} {z : Dt} {kd : Nat} (hl : l < 5) (hx : x.toInt = l) (hk : okL cs) (hz : ds[kd]? = some z) (hdi : di.toInt = kd) (hR : rLw M l cs) (hD : dM M ds) : ∃ M', X8_isBarred M x di = some (b01 (brS cs ds z), M') ∧ fr31 M M' := by
  have e8 : (8 : Int32).toInt = 8 := rfl
  have hx8 : (8 * x).toInt = ((8 * l + 0 : Nat) : Int) := by
    rw [zi_mul (by rw [e8]; omega) (by rw [e8]; omega), e8, hx]
    omega
  obtain ⟨M', a1, a2⟩ := r_bar5 hl hx hk hz hdi cs 0 FU M (8 * x) rfl (by have := hk.2.1; unfold FU; omega) hx8 hR hD
  refine ⟨M', ?_, a2⟩
  unfold X8_isBarred X8_isBarred_0
  rw [a1, zg_b]
  rfl
theorem r_given2 {M : MS} {ds : List Dt} (hM : dM M ds) (who : Int32) : ∀ (us : List Dt) (k fn : Nat) (l3 : Int32), ds.drop k = us → us.length < fn → l3.toInt = k → X8_gives_2 fn M who l3 = some (b01 (gvF who us), M)
  | [], k, fn, l3, hd, hf, h3 => by
    obtain ⟨fn, rfl⟩ : ∃ q, fn = q + 1 := ⟨fn - 1, by omega⟩
    have hk := List.drop_eq_nil_iff.mp hd
    rw [X8_gives_2, if_pos (by rw [zi_le, hM.1]; omega)]
    rfl
  | z :: us, k, fn, l3, hd, hf, h3 => by
    simp only [List.length_cons] at hf
    obtain ⟨fn, rfl⟩ : ∃ q, fn = q + 1 := ⟨fn - 1, by omega⟩
    have hl := hM.2.1
    obtain ⟨d1, d2, d3⟩ := drop_c hd
    obtain ⟨g1, g2, g3, g4, g5, g6⟩ := dM_get hM d1 h3
    have hi : (l3 + 1).toInt = ((k + 1 : Nat) : Int) := by
      rw [zi_inc h3 (by omega) (by omega)]
      omega
    have ih := r_given2 hM who us (k + 1) fn (l3 + 1) d2 (by omega) hi
    rw [X8_gives_2, if_neg (by rw [zi_le, hM.1]; omega), g1, bsm]
    unfold gvF X8_gives_41
    by_cases q1 : z.1 = who
    · rw [if_pos q1, g2, bsm]
      by_cases q2 : z.2.1 = 1
      · rw [if_pos q2, g3, bsm]
        by_cases q3 : z.2.2.1 = 0
        · rw [if_pos q3, if_pos ⟨q1, q2, q3⟩]
          rfl
        · rw [if_neg q3, if_neg (fun c => q3 c.2.2)]
          exact ih
      · rw [if_neg q2, if_neg (fun c => q2 c.2.1)]
        exact ih
    · rw [if_neg q1, if_neg (fun c => q1 c.1)]
      exact ih
theorem r_gives {M : MS} {ds : List Dt} (hM : dM M ds) (who : Int32) : X8_gives M who = some (b01 (gvF who ds), M) := by
  unfold X8_gives X8_gives_0
  rw [r_given2 hM who ds 0 FU 0 rfl (by have := hM.2.1; unfold FU; omega) rfl, zg_b]
/-- no most is passed -/
def msB (cs : List Cz) (sum more : Int32) : Bool := cs.all (fun c => !(c.1 == 2) || decide (sum ≤ nI c.2.1 + more))
def gvB (cs : List Cz) (ds : List Dt) : Bool := cs.all (fun c => !(c.1 == 1) || (gvF 0 ds && gvF 1 ds))
theorem r_law78 {l : Nat} {cs : List Cz} {x more sum : Int32} {ds : List Dt} {M : MS} (hl : l < 5) (hx : x.toInt = l) (hk : okL cs) (hR : rLw M l cs) (hD : dM M ds) : ∀ (us : List Cz) (i fn : Nat) (y : Int32), cs.drop i = us → us.length < fn → y.toInt = ((8 * l + i : Nat) : Int) → X8_isLawful_78 fn M x more sum y = some (b01 (gvB us ds && msB us sum more), M)
  | [], i, fn, y, hd, hf, hy => by
    obtain ⟨fn, rfl⟩ : ∃ q, fn = q + 1 := ⟨fn - 1, by omega⟩
    have hk2 := List.drop_eq_nil_iff.mp hd
    have h8 := hk.2.1
    have e8 : (8 : Int32).toInt = 8 := rfl
    have hx8 : (8 * x).toInt = 8 * l := by
      rw [zi_mul (by rw [e8]; omega) (by rw [e8]; omega), e8, hx]
    rw [X8_isLawful_78, mA_ok (j := 9) (q := l) hx (by show l < 5; omega), bsm, if_pos (by rw [zi_le, zi_add (by rw [hR.1]; omega) (by rw [hR.1]; omega), hR.1]; omega)]
    rfl
  | c :: us, i, fn, y, hd, hf, hy => by
    simp only [List.length_cons] at hf
    obtain ⟨fn, rfl⟩ : ∃ q, fn = q + 1 := ⟨fn - 1, by omega⟩
    obtain ⟨d1, d2, d3⟩ := drop_c hd
    have h8 := hk.2.1
    have e8 : (8 : Int32).toInt = 8 := rfl
    have hx8 : (8 * x).toInt = 8 * l := by
      rw [zi_mul (by rw [e8]; omega) (by rw [e8]; omega), e8, hx]
    have hcz := hR.2 i c d1
    obtain ⟨k1, k2, k3⟩ := hk.2.2.1 c (List.mem_of_getElem? d1)
    have hy2 : (y + 1).toInt = ((8 * l + (i + 1) : Nat) : Int) := by
      rw [zi_inc hy (by omega) (by omega)]
      omega
    have ih := r_law78 (more := more) (sum := sum) hl hx hk hR hD us (i + 1) fn (y + 1) d2 (by omega) hy2
    have eg : gvB (c :: us) ds = ((!(c.1 == 1) || (gvF 0 ds && gvF 1 ds)) && gvB us ds) := rfl
    have em : msB (c :: us) sum more = ((!(c.1 == 2) || decide (sum ≤ nI c.2.1 + more)) && msB us sum more) := rfl
    have c123 : X8_isLawful_123 (X8_isLawful_78 fn) M x more sum y = some (b01 (gvB us ds && msB (c :: us) sum more), M) := by
      unfold X8_isLawful_123 X8_isLawful_149
      rw [mA_ok (j := 10) (q := 8 * l + i) hy (by show _ < 40; omega), bsm, hcz.1, em]
      by_cases q : c.1 = 2
      · rw [if_pos (show nI c.1 = 2 by rw [q]; rfl), mA_ok (j := 11) (q := 8 * l + i) hy (by show _ < 40; omega), bsm, hcz.2.1 q, q]
        by_cases q2 : sum ≤ nI c.2.1 + more
        · rw [if_pos q2, decide_eq_true q2, ih]
          rfl
        · rw [if_neg q2, decide_eq_false q2]
          show some (0, M) = some (b01 (gvB us ds && (false && msB us sum more)), M)
          rw [Bool.false_and, Bool.and_false]
          rfl
      · rw [if_neg (show ¬ nI c.1 = 2 from fun e => q ((nI_inj (b := 2) (by omega) (by omega)).mp e)), beq_eq_false_iff_ne.mpr q, ih]
        rfl
    rw [X8_isLawful_78, mA_ok (j := 9) (q := l) hx (by show l < 5; omega), bsm, if_neg (by rw [zi_le, zi_add (by rw [hR.1]; omega) (by rw [hR.1]; omega), hR.1]; omega), mA_ok (j := 10) (q := 8 * l + i) hy (by show _ < 40; omega), bsm, hcz.1, eg]
    unfold X8_isLawful_121
    by_cases q : c.1 = 1
    · rw [if_pos (show nI c.1 = 1 by rw [q]; rfl), r_gives hD, bsm, b01_i, q]
      cases gvF 0 ds with
      | false =>
        rw [if_neg (by decide)]
        rfl
      | true =>
        rw [if_pos rfl]
        dsimp only
        rw [r_gives hD, bsm, b01_i]
        cases gvF 1 ds with
        | false =>
          rw [if_neg (by decide)]
          rfl
        | true =>
          rw [if_pos rfl]
          exact c123
    · rw [if_neg (show ¬ nI c.1 = 1 from fun e => q ((nI_inj (b := 1) (by omega) (by omega)).mp e)), beq_eq_false_iff_ne.mpr q, c123]
      rfl
theorem r_law32 {l : Nat} {cs : List Cz} {x more : Int32} {ds : List Dt} {M : MS} (hl : l < 5) (hx : x.toInt = l) (hk : okL cs) (hR : rLw M l cs) (hD : dM M ds) : ∀ (us : List Dt) (k fn : Nat) (l3 l4 : Int32), ds.drop k = us → us.length < fn → l4.toInt = k → X8_isLawful_32 fn M x more l3 l4 = some (b01 (gvB cs ds && msB cs (lnF l3 us) more), M)
  | [], k, fn, l3, l4, hd, hf, h4 => by
    obtain ⟨fn, rfl⟩ : ∃ q, fn = q + 1 := ⟨fn - 1, by omega⟩
    have hk2 := List.drop_eq_nil_iff.mp hd
    have e8 : (8 : Int32).toInt = 8 := rfl
    have hx8 : (8 * x).toInt = ((8 * l + 0 : Nat) : Int) := by
      rw [zi_mul (by rw [e8]; omega) (by rw [e8]; omega), e8, hx]
      omega
    rw [X8_isLawful_32, if_pos (by rw [zi_le, hD.1]; omega), r_law78 hl hx hk hR hD cs 0 FU (8 * x) rfl (by have := hk.2.1; unfold FU; omega) hx8]
    rfl
  | z :: us, k, fn, l3, l4, hd, hf, h4 => by
    simp only [List.length_cons] at hf
    obtain ⟨fn, rfl⟩ : ∃ q, fn = q + 1 := ⟨fn - 1, by omega⟩
    have hdl := hD.2.1
    obtain ⟨d1, d2, d3⟩ := drop_c hd
    obtain ⟨g1, g2, g3, g4, g5, g6⟩ := dM_get hD d1 h4
    have hi : (l4 + 1).toInt = ((k + 1 : Nat) : Int) := by
      rw [zi_inc h4 (by omega) (by omega)]
      omega
    have ih := fun q => r_law32 (more := more) hl hx hk hR hD us (k + 1) fn q (l4 + 1) d2 (by omega) hi
    rw [X8_isLawful_32, if_neg (by rw [zi_le, hD.1]; omega), g3, bsm]
    unfold lnF X8_isLawful_64
    by_cases q1 : z.2.2.1 = 1
    · rw [if_pos q1, if_pos q1, g6, bsm]
      exact ih _
    · rw [if_neg q1, if_neg q1]
      exact ih _
theorem r_law2 {l : Nat} {cs : List Cz} {x more : Int32} {ds : List Dt} (hl : l < 5) (hx : x.toInt = l) (hk : okL cs) : ∀ (us : List Dt) (k fn : Nat) (M : MS) (l3 : Int32), ds.drop k = us → us.length < fn → l3.toInt = k → rLw M l cs → dM M ds → ∃ M', X8_isLawful_2 fn M x more l3 = some (b01 (us.all (fun z => !brS cs ds z) && (gvB cs ds && msB cs (lnF 0 ds) more)), M') ∧ fr31 M M'
  | [], k, fn, M, l3, hd, hf, h3, hR, hD => by
    obtain ⟨fn, rfl⟩ : ∃ q, fn = q + 1 := ⟨fn - 1, by omega⟩
    have hk2 := List.drop_eq_nil_iff.mp hd
    refine ⟨M, ?_, fr31.rfl⟩
    rw [X8_isLawful_2, if_pos (by rw [zi_le, hD.1]; omega), r_law32 hl hx hk hR hD ds 0 FU 0 0 rfl (by have := hD.2.1; unfold FU; omega) rfl]
    rfl
  | z :: us, k, fn, M, l3, hd, hf, h3, hR, hD => by
    simp only [List.length_cons] at hf
    obtain ⟨fn, rfl⟩ : ∃ q, fn = q + 1 := ⟨fn - 1, by omega⟩
    have hdl := hD.2.1
    obtain ⟨d1, d2, d3⟩ := drop_c hd
    have hi : (l3 + 1).toInt = ((k + 1 : Nat) : Int) := by
      rw [zi_inc h3 (by omega) (by omega)]
      omega
    obtain ⟨M1, a1, a2⟩ := r_isBarred hl hx hk d1 h3 hR hD
    have ea : (z :: us).all (fun z => !brS cs ds z) = (!brS cs ds z && us.all (fun z => !brS cs ds z)) := rfl
    rw [X8_isLawful_2, if_neg (by rw [zi_le, hD.1]; omega), a1, bsm, b01_i, ea]
    cases q : brS cs ds z with
    | true =>
      rw [if_pos rfl]
      exact ⟨M1, rfl, a2⟩
    | false =>
      rw [if_neg (by decide)]
      obtain ⟨M2, b1, b2⟩ := r_law2 (more := more) hl hx hk us (k + 1) fn M1 (l3 + 1) d2 (by omega) hi (rLw_31 a2 hR) (dM_31 a2 hD)
      exact ⟨M2, b1, fr31.trans a2 b2⟩
