/-! ===== the reference reads a law's text: numbers, names, signs, what waits ===== -/
def kW (f : Nat → Int32) (W : List Int32) : Prop := ∀ (j : Nat) (v : Int32), W[j]? = some v → f j = v
def rS (M : MS) (bs : List Int32) (fr p : Nat) (W : List Int32) (o : Nat) (ts : List Tk) : Prop := rT M bs ∧ (M.1 3).toInt = p ∧ (M.1 17).toInt = W.length ∧ kW (M.2.1 15) W ∧ (M.1 18).toInt = o ∧ (M.1 16).toInt = ((fr + ts.length : Nat) : Int) ∧ ∀ (j : Nat) (t : Tk), ts[j]? = some t → M.2.1 14 (fr + j) = eR t
def frQ (c fr : Nat) (M M' : MS) : Prop := fM M M' [3, 4, 16, 17, 18] [13, 14, 15] [] ∧ (∀ k, k < fr → M'.2.1 14 k = M.2.1 14 k) ∧ ∀ k, k ≠ c → M'.2.1 13 k = M.2.1 13 k
theorem frQ.rfl {c fr : Nat} {M : MS} : frQ c fr M M := ⟨fM.rfl, fun _ _ => Eq.refl _, fun _ _ => Eq.refl _⟩
theorem frQ.trans {c fr : Nat} {M M1 M2 : MS} (h : frQ c fr M M1) (h2 : frQ c fr M1 M2) : frQ c fr M M2 := ⟨fM.trans h.1 h2.1, fun k q => (h2.2.1 k q).trans (h.2.1 k q), fun k q => (h2.2.2 k q).trans (h.2.2 k q)⟩
def frD (M M' : MS) : Prop := fM M M' [3, 4] [] []
theorem frD.rfl {M : MS} : frD M M := fM.rfl
theorem frD.trans {M M1 M2 : MS} (h : frD M M1) (h2 : frD M1 M2) : frD M M2 := fM.trans h h2
theorem frD_Q {c fr : Nat} {M M' : MS} (h : frD M M') : frQ c fr M M' := ⟨fM_mono h (by decide) (by simp) (by simp), fun k _ => by rw [h.2.1 14 (by simp)], fun k _ => by rw [h.2.1 13 (by simp)]⟩
theorem rT_D {M M' : MS} {bs : List Int32} (hT : rT M bs) (h : frD M M') : rT M' bs := by
  obtain ⟨h1, h2, h3, h4⟩ := hT
  refine ⟨by rw [h.1 2 (by decide)]; exact h1, h2, h3, fun i x hx => ?_⟩
  rw [h.2.1 5 (by simp)]
  exact h4 i x hx
theorem rS_D {M M' : MS} {bs : List Int32} {fr p q o : Nat} {W : List Int32} {ts : List Tk} (hS : rS M bs fr p W o ts) (h : frD M M') (hq : (M'.1 3).toInt = q) : rS M' bs fr q W o ts := by
  obtain ⟨h1, h2, h3, h4, h5, h6, h7⟩ := hS
  refine ⟨rT_D h1 h, hq, by rw [h.1 17 (by decide)]; exact h3, by rw [h.2.1 15 (by simp)]; exact h4, by rw [h.1 18 (by decide)]; exact h5, by rw [h.1 16 (by decide)]; exact h6, fun j t ht => ?_⟩
  rw [h.2.1 14 (by simp)]
  exact h7 j t ht
theorem rT_by {M : MS} {bs : List Int32} (h : rT M bs) (p : Nat) : by9 (byA bs p) ∨ byA bs p = -1 := getD_by h.2.2.1 p
theorem rn_ {M : MS} {bs : List Int32} (h : rT M bs) {p : Nat} (hp : (M.1 3).toInt = p) : X8_next M = some (sgb (byA bs p), M) := rT_next h hp
theorem rd_ {M : MS} {bs : List Int32} (h : rT M bs) {p : Nat} (hp : (M.1 3).toInt = p) : X8_isDigit M = some (if isf (byA bs p) then 1 else 0, M) := r_isDigit h hp
theorem r_num16 {bs : List Int32} : ∀ (k j p a fn : Nat) (M : MS) (l1 : Int32), rT M bs → k + j = 3 → (M.1 3).toInt = p → p ≤ bs.length → (M.1 4).toInt = a → a < 10 ^ j → l1.toInt = j → k < fn → ∃ M', X8_takesNumber_16 fn M l1 = some (1, M') ∧ (M'.1 3).toInt = (pNum bs k p a).1 ∧ (M'.1 4).toInt = (pNum bs k p a).2 ∧ frD M M'
  | 0, j, p, a, fn, M, l1, hT, hk, hp, hpl, ha, ha2, h1, hf => by
    obtain ⟨fn, rfl⟩ : ∃ q, fn = q + 1 := ⟨fn - 1, by omega⟩
    have e3 : (3 : Int32).toInt = 3 := rfl
    refine ⟨M, ?_, hp, ha, frD.rfl⟩
    unfold X8_takesNumber_16 X8_takesNumber_63
    rw [if_pos (by rw [zi_le]; omega)]
  | k + 1, j, p, a, fn, M, l1, hT, hk, hp, hpl, ha, ha2, h1, hf => by
    obtain ⟨fn, rfl⟩ : ∃ q, fn = q + 1 := ⟨fn - 1, by omega⟩
    have e3 : (3 : Int32).toInt = 3 := rfl
    have e10 : (10 : Int32).toInt = 10 := rfl
    have e48 : (48 : Int32).toInt = 48 := rfl
    have hl := hT.2.1
    unfold X8_takesNumber_16 pNum
    rw [if_neg (by rw [zi_le]; omega), rd_ hT hp, bsm]
    dsimp only
    rw [i01]
    by_cases q : isf (byA bs p)
    · rw [if_pos q, if_pos q, rn_ hT hp, bsm, sgn_dg q]
      dsimp only
      obtain ⟨d, d1, d2, d3⟩ := isf_v q
      have hp2 := isf_lt q
      have hj2 : j ≤ 2 := by omega
      have ha3 : a < 100 := Nat.lt_of_lt_of_le ha2 (Nat.pow_le_pow_right (n := 10) (by omega) hj2)
      have hn : ((10 * M.1 4 + byA bs p) - 48).toInt = ((10 * a + d : Nat) : Int) := by
        have m1 : (10 * M.1 4).toInt = 10 * a := by rw [zi_mul (by rw [e10]; omega) (by rw [e10]; omega), e10, ha]
        have m2 : (byA bs p).toInt = 48 + d := by rw [d3, q_i (by omega)]; omega
        have m3 : (10 * M.1 4 + byA bs p).toInt = 10 * a + (48 + d) := by rw [zi_add (by omega) (by omega)]; omega
        rw [zi_sub (by omega) (by omega)]
        omega
      have f1 : frD M (si (si M 4 (((10 * (M.1 4)) + byA bs p) - 48)) 3 (((si M 4 (((10 * (M.1 4)) + byA bs p) - 48)).1 3) + 1)) := fM.trans (fM_si (by decide)) (fM_si (by decide))
      obtain ⟨M', i1, i2, i3, i4⟩ := r_num16 k (j + 1) (p + 1) (10 * a + d) fn _ (l1 + 1) (rT_D hT f1) (by omega) (by
        show (M.1 3 + 1).toInt = _
        rw [zi_inc hp (by omega) (by omega)]
        omega) (by omega) hn (by rw [Nat.pow_succ]; omega) (by rw [zi_inc h1 (by omega) (by omega)]; omega) (by omega)
      rw [d2, show 48 + d - 48 = d by omega]
      exact ⟨M', i1, i2, i3, frD.trans f1 i4⟩
    · rw [if_neg q, if_neg q]
      exact ⟨M, rfl, hp, ha, frD.rfl⟩
theorem r_takesNumber {M : MS} {bs : List Int32} {p : Nat} (hT : rT M bs) (hp : (M.1 3).toInt = p) (hpl : p ≤ bs.length) : ∃ M', X8_takesNumber M = some (if p < (pNum bs 3 p 0).1 then 1 else 0, M') ∧ (M'.1 3).toInt = (pNum bs 3 p 0).1 ∧ (p < (pNum bs 3 p 0).1 → (M'.1 4).toInt = (pNum bs 3 p 0).2) ∧ frD M M' := by
  unfold X8_takesNumber X8_takesNumber_0
  rw [rd_ hT hp, bsm]
  dsimp only
  rw [i01]
  by_cases q : isf (byA bs p)
  · have hl := isf_lt q
    have f1 : frD M (si M 4 0) := fM_si (by decide)
    obtain ⟨M', i1, i2, i3, i4⟩ := r_num16 (bs := bs) 3 0 p 0 FU (si M 4 0) 0 (rT_D hT f1) rfl hp hpl rfl (by decide) rfl (by unfold FU; omega)
    have hlt : p < (pNum bs 3 p 0).1 := by
      unfold pNum
      rw [if_pos q]
      have := (pNum_ok bs 2 (p + 1) (10 * 0 + ((byA bs p).toInt.toNat - 48)) 1 (by
        obtain ⟨d, d1, d2, d3⟩ := isf_v q
        rw [d2]
        omega) (by omega)).1
      exact Nat.lt_of_lt_of_le (Nat.lt_succ_self p) this
    rw [if_pos q, if_pos hlt, i1]
    exact ⟨M', zg_z _ _ (.inr rfl), i2, fun _ => i3, frD.trans f1 i4⟩
  · have e : pNum bs 3 p 0 = (p, 0) := by
      unfold pNum
      rw [if_neg q]
    rw [if_neg q, e, if_neg (Nat.lt_irrefl _)]
    exact ⟨M, zg_z _ _ (.inl rfl), hp, fun c => absurd c (Nat.lt_irrefl _), frD.rfl⟩
theorem r_takes {M : MS} {bs : List Int32} {p : Nat} (hT : rT M bs) (hp : (M.1 3).toInt = p) {c : Int32} (c0 : 0 ≤ c.toInt) (c1 : c.toInt ≤ 127) : X8_takes M c = if byA bs p = c then some (1, si M 3 (M.1 3 + 1)) else some (0, M) := by
  unfold X8_takes X8_takes_0
  rw [rn_ hT hp, bsm]
  dsimp only
  have e := sgn_eq (rT_by hT p) c0 c1
  by_cases h : byA bs p = c
  · rw [if_pos h, if_pos (e.mpr h)]
    exact zg_z _ _ (.inr rfl)
  · rw [if_neg h, if_neg (fun x => h (e.mp x))]
    exact zg_z _ _ (.inl rfl)
def wdD (w : Int32) (cs : List Int32) : Prop := cs.length ≤ 5 ∧ ∀ (us : List Int32) (c : Int32) (pre : List Int32), cs = pre ++ c :: us → 96 + ((w >>> ((5 * nI us.length) &&& 31)) &&& 31) = c ∧ 0 ≤ c.toInt ∧ c.toInt ≤ 127
theorem r_tw4 {bs : List Int32} {w : Int32} {cs : List Int32} (hD : wdD w cs) : ∀ (us pre : List Int32) (p fn : Nat) (M : MS) (l3 : Int32), cs = pre ++ us → us.length < fn → rT M bs → (M.1 3).toInt = p → p ≤ bs.length → l3.toInt = (us.length : Int) - 1 → ∃ M', X8_takesWord_4 fn M w l3 = some (b01 (pNm bs us p).1, M') ∧ (M'.1 3).toInt = (pNm bs us p).2 ∧ frD M M'
  | [], pre, p, fn, M, l3, hc, hf, hT, hp, hpl, h3 => by
    obtain ⟨fn, rfl⟩ : ∃ q, fn = q + 1 := ⟨fn - 1, by omega⟩
    have e0 : (0 : Int32).toInt = 0 := rfl
    simp only [List.length_nil] at h3
    unfold X8_takesWord_4
    rw [if_pos (by rw [zi_lt]; omega)]
    exact ⟨M, rfl, hp, frD.rfl⟩
  | c :: us, pre, p, fn, M, l3, hc, hf, hT, hp, hpl, h3 => by
    simp only [List.length_cons] at hf h3
    obtain ⟨fn, rfl⟩ : ∃ q, fn = q + 1 := ⟨fn - 1, by omega⟩
    have e0 : (0 : Int32).toInt = 0 := rfl
    obtain ⟨w1, w2, w3⟩ := hD.2 us c pre hc
    have h100 := hT.2.1
    have hlen : us.length ≤ 5 := by
      have := hD.1
      rw [hc, List.length_append, List.length_cons] at this
      omega
    have hl3 : l3 = nI us.length := zi_eq.mpr (by rw [q_i (by omega)]; omega)
    unfold X8_takesWord_4 pNm
    rw [if_neg (by rw [zi_lt]; omega), hl3, w1, r_takes hT hp w2 w3]
    by_cases q : byA bs p = c
    · have hq := byA_lt q (fun e => by rw [e] at w2; exact absurd w2 (by decide))
      rw [if_pos q, if_pos q, bsm]
      dsimp only
      rw [if_neg (by decide)]
      have f1 : frD M (si M 3 (M.1 3 + 1)) := fM_si (by decide)
      obtain ⟨M', i1, i2, i3⟩ := r_tw4 hD us (pre ++ [c]) (p + 1) fn (si M 3 (M.1 3 + 1)) (nI us.length + (-1)) (by rw [List.append_assoc]; exact hc) (by omega) (rT_D hT f1) (by
        show (M.1 3 + 1).toInt = _
        rw [zi_inc hp (by omega) (by omega)]
        omega) (by omega) (by rw [zi_dec (q_i (by omega)) (by omega) (by omega)])
      exact ⟨M', i1, i2, frD.trans f1 i3⟩
    · rw [if_neg q, if_neg q, bsm]
      dsimp only
      rw [if_pos rfl]
      exact ⟨M, rfl, hp, frD.rfl⟩
theorem r_takesWord {M : MS} {bs : List Int32} {w n : Int32} {cs : List Int32} {p : Nat} (hD : wdD w cs) (hn : n.toInt = cs.length) (hT : rT M bs) (hp : (M.1 3).toInt = p) (hpl : p ≤ bs.length) : ∃ M', X8_takesWord M w n = some (b01 (pNm bs cs p).1, M') ∧ (M'.1 3).toInt = (pNm bs cs p).2 ∧ frD M M' := by
  have hl := hD.1
  have e1 : (1 : Int32).toInt = 1 := rfl
  obtain ⟨M', i1, i2, i3⟩ := r_tw4 (bs := bs) hD cs [] p FU M (n - 1) rfl (by unfold FU; omega) hT hp hpl (by rw [zi_sub (by omega) (by omega)]; omega)
  refine ⟨M', ?_, i2, i3⟩
  unfold X8_takesWord X8_takesWord_0
  rw [i1, zg_b]
theorem wd_of {w : Int32} {cs : List Int32} (hl : cs.length ≤ 5) (h : ∀ i, i < cs.length → 96 + ((w >>> ((5 * nI (cs.length - 1 - i)) &&& 31)) &&& 31) = cs.getD i 0 ∧ 0 ≤ (cs.getD i 0).toInt ∧ (cs.getD i 0).toInt ≤ 127) : wdD w cs := by
  refine ⟨hl, fun us c pre hc => ?_⟩
  have e : cs.length = pre.length + (us.length + 1) := by rw [hc, List.length_append, List.length_cons]
  have := h pre.length (by omega)
  have g : cs.getD pre.length 0 = c := by
    rw [hc, List.getD_eq_getElem?_getD, List.getElem?_append_right (Nat.le_refl _), Nat.sub_self]
    rfl
  rw [g, show cs.length - 1 - pre.length = us.length by omega] at this
  exact this
theorem wd_bar : wdD 2098 [98, 97, 114] := wd_of (by decide) (by decide +kernel)
theorem wd_give : wdD 239301 [103, 105, 118, 101] := wd_of (by decide) (by decide +kernel)
theorem wd_most : wdD 441972 [109, 111, 115, 116] := wd_of (by decide) (by decide +kernel)
theorem wd_sense : wdD 20101733 [115, 101, 110, 115, 101] := wd_of (by decide) (by decide +kernel)
theorem pNm_app (bs : List Int32) (d : Int32) : ∀ (cs : List Int32) (p : Nat), pNm bs (cs ++ [d]) p = if (pNm bs cs p).1 = true then pNm bs [d] (pNm bs cs p).2 else (false, (pNm bs cs p).2)
  | [], p => rfl
  | c :: cs, p => by
    show (if byA bs p = c then pNm bs (cs ++ [d]) (p + 1) else (false, p)) = if (if byA bs p = c then pNm bs cs (p + 1) else (false, p)).1 = true then pNm bs [d] (if byA bs p = c then pNm bs cs (p + 1) else (false, p)).2 else (false, (if byA bs p = c then pNm bs cs (p + 1) else (false, p)).2)
    by_cases h : byA bs p = c
    · rw [if_pos h, if_pos h]
      exact pNm_app bs d cs (p + 1)
    · rw [if_neg h, if_neg h]
      rfl
