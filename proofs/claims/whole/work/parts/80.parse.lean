/-! ===== a law's text, purely: what it reads as, and where its fault is ===== -/
abbrev Rs : Type := Bool × Nat × List Tk
def byA (bs : List Int32) (p : Nat) : Int32 := bs.getD p (-1)
/-- figures, k more at most: where they end, their number -/
def pNum (bs : List Int32) : Nat → Nat → Nat → Nat × Nat
  | 0, p, a => (p, a)
  | k + 1, p, a => if isf (byA bs p) then pNum bs k (p + 1) (10 * a + ((byA bs p).toInt.toNat - 48)) else (p, a)
def ltr (c : Int32) : Option Nat := if c = 119 then some 0 else if c = 118 then some 1 else if c = 110 then some 2 else if c = 116 then some 3 else if c = 105 then some 4 else if c = 102 then some 5 else if c = 112 then some 6 else none
def pTest (bs : List Int32) (p : Nat) : Rs := match ltr (byA bs p) with
  | none => (false, p, [])
  | some f => if 60 ≤ byA bs (p + 1) ∧ byA bs (p + 1) ≤ 62 then (if p + 2 < (pNum bs 3 (p + 2) 0).1 then (true, (pNum bs 3 (p + 2) 0).1, [(f, (byA bs (p + 1)).toInt.toNat - 60, (pNum bs 3 (p + 2) 0).2)]) else (false, p + 2, [])) else (false, p + 1, [])
def pEi (bs : List Int32) (pt : Nat → Rs) : Nat → Nat → Bool → Bool → Rs
  | 0, p, _, _ => (false, p, [])
  | k + 1, p, ja, jo => if (pt p).1 = false then (false, (pt p).2.1, []) else
      if byA bs (pt p).2.1 = 38 then ((pEi bs pt k ((pt p).2.1 + 1) true jo).1, (pEi bs pt k ((pt p).2.1 + 1) true jo).2.1, ((pt p).2.2 ++ (if ja = true then [(8, 0, 0)] else [])) ++ (pEi bs pt k ((pt p).2.1 + 1) true jo).2.2)
      else if byA bs (pt p).2.1 = 124 then ((pEi bs pt k ((pt p).2.1 + 1) false true).1, (pEi bs pt k ((pt p).2.1 + 1) false true).2.1, (((pt p).2.2 ++ (if ja = true then [(8, 0, 0)] else [])) ++ (if jo = true then [(9, 0, 0)] else [])) ++ (pEi bs pt k ((pt p).2.1 + 1) false true).2.2)
      else (true, (pt p).2.1, ((pt p).2.2 ++ (if ja = true then [(8, 0, 0)] else [])) ++ (if jo = true then [(9, 0, 0)] else []))
/-- a part, r more nestings may stand in it -/
def pPt (bs : List Int32) : Nat → Nat → Rs
  | 0, p => if byA bs p = 33 ∨ byA bs p = 40 then (false, p, []) else pTest bs p
  | r + 1, p => if byA bs p = 33 then (if (pPt bs r (p + 1)).1 = true then (true, (pPt bs r (p + 1)).2.1, (pPt bs r (p + 1)).2.2 ++ [(7, 0, 0)]) else (false, (pPt bs r (p + 1)).2.1, []))
      else if byA bs p = 40 then (if (pEi bs (pPt bs r) 100 (p + 1) false false).1 = true then (if byA bs (pEi bs (pPt bs r) 100 (p + 1) false false).2.1 = 41 then (true, (pEi bs (pPt bs r) 100 (p + 1) false false).2.1 + 1, (pEi bs (pPt bs r) 100 (p + 1) false false).2.2) else (false, (pEi bs (pPt bs r) 100 (p + 1) false false).2.1, [])) else (false, (pEi bs (pPt bs r) 100 (p + 1) false false).2.1, []))
      else pTest bs p
/-- letters, one by one -/
def pNm (bs : List Int32) : List Int32 → Nat → Bool × Nat
  | [], p => (true, p)
  | c :: cs, p => if byA bs p = c then pNm bs cs (p + 1) else (false, p)
def pCz (bs : List Int32) (p : Nat) : Bool × Nat × Cz :=
  if byA bs p = 98 then (if (pNm bs [98, 97, 114, 32] p).1 = true then ((pEi bs (pPt bs 4) 100 (pNm bs [98, 97, 114, 32] p).2 false false).1, (pEi bs (pPt bs 4) 100 (pNm bs [98, 97, 114, 32] p).2 false false).2.1, (0, 0, (pEi bs (pPt bs 4) 100 (pNm bs [98, 97, 114, 32] p).2 false false).2.2)) else (false, (pNm bs [98, 97, 114, 32] p).2, (0, 0, [])))
  else if byA bs p = 103 then ((pNm bs [103, 105, 118, 101] p).1, (pNm bs [103, 105, 118, 101] p).2, (1, 0, []))
  else if byA bs p = 109 then (if (pNm bs [109, 111, 115, 116, 32] p).1 = true then (if (pNm bs [109, 111, 115, 116, 32] p).2 < (pNum bs 3 (pNm bs [109, 111, 115, 116, 32] p).2 0).1 then (true, (pNum bs 3 (pNm bs [109, 111, 115, 116, 32] p).2 0).1, (2, (pNum bs 3 (pNm bs [109, 111, 115, 116, 32] p).2 0).2, [])) else (false, (pNm bs [109, 111, 115, 116, 32] p).2, (2, 0, []))) else (false, (pNm bs [109, 111, 115, 116, 32] p).2, (2, 0, [])))
  else if byA bs p = 115 then ((pNm bs [115, 101, 110, 115, 101] p).1, (pNm bs [115, 101, 110, 115, 101] p).2, (3, 0, []))
  else (false, p, (3, 0, []))
/-- all clauses, n more at most: the fault (-1: none), the clauses -/
def pLw (bs : List Int32) : Nat → Nat → Int × List Cz
  | 0, p => (p, [])
  | n + 1, p => if (pCz bs p).1 = false then ((pCz bs p).2.1, []) else if bs.length ≤ (pCz bs p).2.1 then (-1, [(pCz bs p).2.2]) else if n = 0 then ((pCz bs p).2.1, []) else if byA bs (pCz bs p).2.1 = 59 then ((pLw bs n ((pCz bs p).2.1 + 1)).1, (pCz bs p).2.2 :: (pLw bs n ((pCz bs p).2.1 + 1)).2) else ((pCz bs p).2.1, [])
-- what holds of it
theorem byA_lt {bs : List Int32} {p : Nat} {c : Int32} (h : byA bs p = c) (hc : c ≠ -1) : p < bs.length := by
  unfold byA at h
  rw [List.getD_eq_getElem?_getD] at h
  by_cases q : p < bs.length
  · exact q
  · rw [List.getElem?_eq_none (by omega)] at h
    exact absurd h.symm hc
theorem isf_lt {bs : List Int32} {p : Nat} (h : isf (byA bs p)) : p < bs.length := by
  by_cases q : p < bs.length
  · exact q
  · have e : byA bs p = -1 := by
      unfold byA
      rw [List.getD_eq_getElem?_getD, List.getElem?_eq_none (by omega)]
      rfl
    rw [e] at h
    exact absurd h isf_m1
theorem isf_v {c : Int32} (h : isf c) : ∃ d : Nat, d < 10 ∧ c.toInt.toNat = 48 + d ∧ c = nI (48 + d) := by
  have e48 : (48 : Int32).toInt = 48 := rfl
  have e57 : (57 : Int32).toInt = 57 := rfl
  have h1 := zi_le.mp h.1
  have h2 := zi_le.mp h.2
  refine ⟨c.toInt.toNat - 48, by omega, by omega, ?_⟩
  apply zi_eq.mpr
  rw [q_i (by omega)]
  omega
theorem pNum_ok (bs : List Int32) : ∀ (k p a m : Nat), a < 10 ^ m → p ≤ bs.length → p ≤ (pNum bs k p a).1 ∧ (pNum bs k p a).1 ≤ bs.length ∧ (pNum bs k p a).2 < 10 ^ (m + k)
  | 0, p, a, m, h, hp => ⟨Nat.le_refl _, hp, h⟩
  | k + 1, p, a, m, h, hp => by
    unfold pNum
    by_cases q : isf (byA bs p)
    · rw [if_pos q]
      obtain ⟨d, d1, d2, d3⟩ := isf_v q
      have hl := isf_lt q
      have := pNum_ok bs k (p + 1) (10 * a + ((byA bs p).toInt.toNat - 48)) (m + 1) (by rw [d2, Nat.pow_succ]; omega) (by omega)
      rw [show m + (k + 1) = m + 1 + k by omega]
      exact ⟨by omega, this.2.1, this.2.2⟩
    · rw [if_neg q]
      refine ⟨Nat.le_refl _, hp, Nat.lt_of_lt_of_le h (Nat.pow_le_pow_right (by omega) (by omega))⟩
theorem ltr_ok {c : Int32} {f : Nat} (h : ltr c = some f) : f < 7 ∧ c ≠ -1 := by
  unfold ltr at h
  by_cases h1 : c = 119
  · rw [if_pos h1] at h; cases h; rw [h1]; exact ⟨by decide, by decide⟩
  rw [if_neg h1] at h
  by_cases h2 : c = 118
  · rw [if_pos h2] at h; cases h; rw [h2]; exact ⟨by decide, by decide⟩
  rw [if_neg h2] at h
  by_cases h3 : c = 110
  · rw [if_pos h3] at h; cases h; rw [h3]; exact ⟨by decide, by decide⟩
  rw [if_neg h3] at h
  by_cases h4 : c = 116
  · rw [if_pos h4] at h; cases h; rw [h4]; exact ⟨by decide, by decide⟩
  rw [if_neg h4] at h
  by_cases h5 : c = 105
  · rw [if_pos h5] at h; cases h; rw [h5]; exact ⟨by decide, by decide⟩
  rw [if_neg h5] at h
  by_cases h6 : c = 102
  · rw [if_pos h6] at h; cases h; rw [h6]; exact ⟨by decide, by decide⟩
  rw [if_neg h6] at h
  by_cases h7 : c = 112
  · rw [if_pos h7] at h; cases h; rw [h7]; exact ⟨by decide, by decide⟩
  rw [if_neg h7] at h
  cases h
/-- a part that reads: it goes on, has at most a step a byte, and leaves one truth -/
def rsOk (bs : List Int32) (D p : Nat) (r : Rs) : Prop := p ≤ r.2.1 ∧ r.2.1 ≤ bs.length ∧ (r.1 = true → p + r.2.2.length ≤ r.2.1 ∧ 1 ≤ r.2.2.length ∧ okc D r.2.2)
theorem cmp_ok {c : Int32} (h : 60 ≤ c ∧ c ≤ 62) : c ≠ -1 ∧ c.toInt.toNat - 60 ≤ 2 ∧ c = nI (60 + (c.toInt.toNat - 60)) := by
  have e60 : (60 : Int32).toInt = 60 := rfl
  have e62 : (62 : Int32).toInt = 62 := rfl
  have h1 := zi_le.mp h.1
  have h2 := zi_le.mp h.2
  refine ⟨fun e => ?_, by omega, ?_⟩
  · rw [e] at h1
    exact absurd h1 (by decide)
  · apply zi_eq.mpr
    rw [q_i (by omega)]
    omega
theorem pTest_ok (bs : List Int32) (p : Nat) (hp : p ≤ bs.length) : rsOk bs 1 p (pTest bs p) := by
  unfold pTest
  cases h : ltr (byA bs p) with
  | none => exact ⟨Nat.le_refl _, hp, (fun c => by cases c)⟩
  | some f =>
    obtain ⟨f1, f2⟩ := ltr_ok h
    have l1 := byA_lt (rfl : byA bs p = byA bs p) f2
    dsimp only
    by_cases q : 60 ≤ byA bs (p + 1) ∧ byA bs (p + 1) ≤ 62
    · obtain ⟨c1, c2, c3⟩ := cmp_ok q
      have l2 := byA_lt (rfl : byA bs (p + 1) = byA bs (p + 1)) c1
      obtain ⟨n1, n2, n3⟩ := pNum_ok bs 3 (p + 2) 0 0 (by decide) (by omega)
      rw [if_pos q]
      by_cases q2 : p + 2 < (pNum bs 3 (p + 2) 0).1
      · rw [if_pos q2]
        have n3 : (pNum bs 3 (p + 2) 0).2 < 1000 := n3
        refine ⟨by show p ≤ (pNum bs 3 (p + 2) 0).1; omega, n2, fun _ => ⟨?_, Nat.le_refl 1, okc_test ⟨by show f ≤ 9; omega, c2, by show (pNum bs 3 (p + 2) 0).2 ≤ 999; omega⟩ f1⟩⟩
        show p + 1 ≤ (pNum bs 3 (p + 2) 0).1
        omega
      · rw [if_neg q2]
        exact ⟨by show p ≤ p + 2; omega, by show p + 2 ≤ bs.length; omega, (fun c => by cases c)⟩
    · rw [if_neg q]
      exact ⟨by show p ≤ p + 1; omega, by show p + 1 ≤ bs.length; omega, (fun c => by cases c)⟩
