/-! ===== the class reads a whole law ===== -/
def kCl (C : CS) (cs : List Cz) : Prop := C.1 6 = nI (nb cs) ∧ C.1 7 = b01 (hasK 1 cs) ∧ C.1 8 = b01 (hasK 3 cs) ∧ C.1 9 = kMo cs ∧ kTs C (kSt true cs)
def frLl (C C' : CS) : Prop := fC C C' [3, 4, 5, 6, 7, 8, 9] [1] [] [] ∧ C'.2.2.2.2 = C.2.2.2.2
theorem frLl.rfl {C : CS} : frLl C C := ⟨fC.rfl, Eq.refl _⟩
theorem frLl.trans {C C1 C2 : CS} (h : frLl C C1) (h2 : frLl C1 C2) : frLl C C2 := ⟨fC.trans h.1 h2.1, h2.2.trans h.2⟩
theorem frE_Ll {C C' : CS} (h : frE C C') : frLl C C' := ⟨fC_mono h.1 (by decide) (by decide) (by simp) (by simp), h.2⟩
theorem kX_Ll {C C' : CS} {bs : List Int32} (h : kX C bs) (hf : frLl C C') : kX C' bs := by
  obtain ⟨h1, h2, h3, h4, h5⟩ := h
  refine ⟨h1, by rw [hf.1.1 27 (by decide)]; exact h2, h3, h4, fun i x hx => ?_⟩
  rw [hf.1.2.1 5 (by decide)]
  exact h5 i x hx
theorem kCl_N {C C' : CS} {cs : List Cz} (h : kCl C cs) (hf : frN C C') : kCl C' cs := by
  obtain ⟨h1, h2, h3, h4, h5⟩ := h
  exact ⟨(hf.1.1 6 (by decide)).trans h1, (hf.1.1 7 (by decide)).trans h2, (hf.1.1 8 (by decide)).trans h3, (hf.1.1 9 (by decide)).trans h4, kTs_N h5 hf⟩
theorem z_7 (C : CS) (M : MS) (D : List va_E) : sZ (mh (ccells C) M D) 3 4 7 1 = some (mh (ccells (c1 C 7 1)) M D) := rfl
theorem z_8 (C : CS) (M : MS) (D : List va_E) : sZ (mh (ccells C) M D) 3 4 8 1 = some (mh (ccells (c1 C 8 1)) M D) := rfl
theorem z_70 (C : CS) (M : MS) (D : List va_E) : sZ (mh (ccells C) M D) 3 4 7 0 = some (mh (ccells (c1 C 7 0)) M D) := rfl
theorem z_80 (C : CS) (M : MS) (D : List va_E) : sZ (mh (ccells C) M D) 3 4 8 0 = some (mh (ccells (c1 C 8 0)) M D) := rfl
theorem nb_le : ∀ cs : List Cz, nb cs ≤ cs.length
  | [] => Nat.le_refl _
  | c :: cs => by
    have := nb_le cs
    show (if c.1 = 0 then 1 else 0) + nb cs ≤ cs.length + 1
    by_cases h : c.1 = 0
    · rw [if_pos h]; omega
    · rw [if_neg h]; omega
theorem kMo_rng : ∀ cs : List Cz, (∀ c ∈ cs, c.2.1 ≤ 999) → ∀ m : Int32, (m = -1 ∨ ∃ k, k ≤ 999 ∧ m = nI k) → (cs.foldl moS m = -1 ∨ ∃ k, k ≤ 999 ∧ cs.foldl moS m = nI k)
  | [], h, m, hm => hm
  | c :: cs, h, m, hm => by
    refine kMo_rng cs (fun d hd => h d (List.mem_cons_of_mem _ hd)) (moS m c) ?_
    have hc := h c List.mem_cons_self
    unfold moS
    by_cases h2 : c.1 = 2
    · rw [if_pos h2]
      by_cases h3 : m = -1
      · rw [if_pos h3]
        exact .inr ⟨_, hc, rfl⟩
      · rw [if_neg h3]
        by_cases h4 : nI c.2.1 < m
        · rw [if_pos h4]
          exact .inr ⟨_, hc, rfl⟩
        · rw [if_neg h4]
          exact hm
    · rw [if_neg h2]
      exact hm
/-- a clause read -/
theorem k_clause {C : CS} {bs : List Int32} {p : Nat} {cs : List Cz} (M : MS) (D : List va_E) (hX : kX C bs) (hp : (C.1 4).toInt = p) (hpl : p ≤ bs.length) (hC : kCl C cs) (hl : (kSt true cs).length ≤ p) (hcs : cs.length ≤ 8) : ∃ C', X4_clause (mh (ccells C) M D) 3 = some (b01 (pCz bs p).1, mh (ccells C') M D) ∧ (C'.1 4).toInt = (pCz bs p).2.1 ∧ frLl C C' ∧ ((pCz bs p).1 = true → kCl C' (cs ++ [(pCz bs p).2.2])) := by
  have hb := nb_le cs
  obtain ⟨b1, b2, b3, b4, b5⟩ := id hC
  have e1 : (1 : Int32).toInt = 1 := rfl
  have h100 := hX.2.2.1
  unfold X4_clause X4_clause_0 pCz
  rw [z_cO, k_lat M D hX hp, bsm]
  dsimp only
  by_cases q1 : byA bs p = 98
  · rw [if_pos q1, if_pos q1, z_cO]
    obtain ⟨n1, n2, n3⟩ := pNm_ok bs [98, 97, 114, 32] p (by decide) hpl
    obtain ⟨C1, i1, i2, i3⟩ := k_name M D nm_bar hX hp hpl
    unfold X4_clause_76 X4_clause_77
    rw [i1, bsm]
    dsimp only
    rw [b01_i]
    by_cases q : (pNm bs [98, 97, 114, 32] p).1 = true
    · rw [if_pos q, if_pos q]
      have n3 : (pNm bs [98, 97, 114, 32] p).2 = p + 4 := n3 q
      have hX1 := kX_E hX (frN_E i3)
      obtain ⟨E1, E2, E3⟩ := pEi4_ok bs (pNm bs [98, 97, 114, 32] p).2 n2
      obtain ⟨C2, j1, j2, j3, j4⟩ := k_eitherK M D hX1 i2 n2 (kTs_N b5 i3) (by omega)
      rw [z_cO, j1, bsm]
      generalize pEi bs (pPt bs 4) 100 (pNm bs [98, 97, 114, 32] p).2 false false = s at E1 E2 E3 j2 j4 ⊢
      obtain ⟨s1, s2, s3⟩ := s
      dsimp only at E1 E2 E3 j2 j4 ⊢
      rw [b01_i]
      have f2 : frE C C2 := frE.trans (frN_E i3) j3
      cases s1 with
      | false =>
        rw [if_neg (by decide)]
        exact ⟨C2, zg_z _ _ (.inl rfl), j2, frE_Ll f2, fun c => by cases c⟩
      | true =>
        obtain ⟨E4, E5⟩ := E3 rfl
        have j4 := j4 rfl
        have h6 : C2.1 6 = nI (nb cs) := (f2.1.1 6 (by decide)).trans b1
        have h6i : (C2.1 6 + 1).toInt = ((nb cs + 1 : Nat) : Int) := by rw [h6, nI_s (by omega), q_i (by omega)]
        have h66 : (c1 C2 6 (C2.1 6 + 1)).1 6 = C2.1 6 + 1 := rfl
        have f3 : frLl C (c1 C2 6 (C2.1 6 + 1)) := frLl.trans (frE_Ll f2) ⟨fC_c1 (by decide), rfl⟩
        have tail : ∀ C3 : CS, frE (c1 C2 6 (C2.1 6 + 1)) C3 → C3.1 4 = C2.1 4 → kTs C3 (kSt true (cs ++ [(0, 0, s3)])) → ∃ C', some ((1 : Int32), mh (ccells C3) M D) = some (b01 true, mh (ccells C') M D) ∧ (C'.1 4).toInt = (s2 : Int) ∧ frLl C C' ∧ (true = true → kCl C' (cs ++ [(0, 0, s3)])) := by
          intro C3 f4 h44 hts
          refine ⟨C3, rfl, by rw [h44]; exact j2, frLl.trans f3 (frE_Ll f4), fun _ => ⟨?_, ?_, ?_, ?_, hts⟩⟩
          · rw [f4.1.1 6 (by decide), h66, h6, nI_s (by omega), nb_app, if_pos rfl]
          · rw [f4.1.1 7 (by decide), hasK_app]
            have : (c1 C2 6 (C2.1 6 + 1)).1 7 = C2.1 7 := rfl
            rw [this, f2.1.1 7 (by decide), b2]
            simp
          · rw [f4.1.1 8 (by decide), hasK_app]
            have : (c1 C2 6 (C2.1 6 + 1)).1 8 = C2.1 8 := rfl
            rw [this, f2.1.1 8 (by decide), b3]
            simp
          · rw [f4.1.1 9 (by decide), kMo_app]
            have : (c1 C2 6 (C2.1 6 + 1)).1 9 = C2.1 9 := rfl
            rw [this, f2.1.1 9 (by decide), b4]
            rfl
        rw [if_pos rfl, z_cO]
        unfold X4_barEnds X4_barEnds_0 X4_barEnds_25
        rw [g_6, bsm, s_6, bsm, g_6, bsm, h66]
        by_cases q0 : nb cs = 0
        · rw [if_pos (by rw [zi_le, h6i]; omega), show zg (some ((1 : Int32), mh (ccells (c1 C2 6 (C2.1 6 + 1))) M D)) = some ((1 : Int32), mh (ccells (c1 C2 6 (C2.1 6 + 1))) M D) from zg_z _ _ (.inr rfl), bsm]
          dsimp only
          rw [if_neg (by decide), show ∀ S : AH, zg (some ((1 : Int32), S)) = some ((1 : Int32), S) from fun S => zg_z _ _ (.inr rfl)]
          refine tail _ frE.rfl rfl ?_
          rw [kSt_app, if_pos rfl, if_pos ⟨rfl, q0⟩, List.append_nil]
          exact j4
        · obtain ⟨C3, m1, m2, m3, m4, m5⟩ := k_addStep (C := c1 C2 6 (C2.1 6 + 1)) (ts := kSt true cs ++ s3) M D j4 (by rw [List.length_append]; omega) (9, 0, 0) (-3) rfl
          rw [if_neg (by rw [zi_le, h6i]; omega), z_cO, m1, bsm, show ∀ S : AH, zg (some ((1 : Int32), S)) = some ((1 : Int32), S) from fun S => zg_z _ _ (.inr rfl), bsm]
          dsimp only
          rw [if_neg (by decide), show ∀ S : AH, zg (some ((1 : Int32), S)) = some ((1 : Int32), S) from fun S => zg_z _ _ (.inr rfl)]
          refine tail _ m3 m4 ?_
          rw [kSt_app, if_pos rfl, if_neg (fun c => q0 c.2)]
          rw [List.append_assoc] at m2
          exact m2
    · rw [if_neg q, if_neg q]
      exact ⟨C1, zg_z _ _ (.inl rfl), i2, frE_Ll (frN_E i3), fun c => by cases c⟩
  rw [if_neg q1, if_neg q1]
  have plain : ∀ (C1 : CS) (c : Cz), c.1 ≠ 0 → kTs C1 (kSt true cs) → kTs C1 (kSt true (cs ++ [c])) := fun C1 c hc h => by
    rw [kSt_app, if_neg hc, List.append_nil]
    exact h
  have nbp : ∀ c : Cz, c.1 ≠ 0 → nb (cs ++ [c]) = nb cs := fun c hc => by rw [nb_app, if_neg hc]; rfl
  by_cases q2 : byA bs p = 103
  · rw [if_pos q2, if_pos q2, z_7, bsm, z_cO]
    have f0 : frLl C (c1 C 7 1) := ⟨fC_c1 (by decide), rfl⟩
    obtain ⟨C1, i1, i2, i3⟩ := k_name (C := c1 C 7 1) M D nm_give (kX_Ll hX f0) hp hpl
    rw [i1, bsm]
    dsimp only
    refine ⟨C1, by rw [zg_b], i2, frLl.trans f0 (frE_Ll (frN_E i3)), fun _ => ⟨?_, ?_, ?_, ?_, plain _ _ (by decide) (kTs_N (C := c1 C 7 1) b5 i3)⟩⟩
    · rw [nbp _ (by decide), i3.1.1 6 (by decide)]
      exact b1
    · rw [i3.1.1 7 (by decide), hasK_app]
      show (1 : Int32) = b01 (_ || true)
      rw [Bool.or_true]
      rfl
    · rw [i3.1.1 8 (by decide), hasK_app]
      show C.1 8 = b01 (hasK 3 cs || false)
      rw [Bool.or_false]
      exact b3
    · rw [i3.1.1 9 (by decide), kMo_app]
      exact b4
  rw [if_neg q2, if_neg q2]
  by_cases q3 : byA bs p = 109
  · rw [if_pos q3, if_pos q3, z_cO]
    obtain ⟨n1, n2, n3⟩ := pNm_ok bs [109, 111, 115, 116, 32] p (by decide) hpl
    obtain ⟨C1, i1, i2, i3⟩ := k_name M D nm_most hX hp hpl
    unfold X4_clause_117 X4_clause_118
    rw [i1, bsm]
    dsimp only
    rw [b01_i]
    by_cases q : (pNm bs [109, 111, 115, 116, 32] p).1 = true
    · rw [if_pos q, if_pos q]
      obtain ⟨C2, j1, j2, j3, j4⟩ := k_figures M D (kX_E hX (frN_E i3)) i2 n2
      obtain ⟨m1, m2, m3⟩ := pNum_ok bs 3 (pNm bs [109, 111, 115, 116, 32] p).2 0 0 (by decide) n2
      have m3 : (pNum bs 3 (pNm bs [109, 111, 115, 116, 32] p).2 0).2 < 1000 := m3
      rw [z_cO, j1, bsm]
      dsimp only
      rw [i01]
      have f2 : frN C C2 := frN.trans i3 j4
      by_cases q4 : (pNm bs [109, 111, 115, 116, 32] p).2 < (pNum bs 3 (pNm bs [109, 111, 115, 116, 32] p).2 0).1
      · rw [if_pos q4, if_pos q4, z_cO]
        have hk := kCl_N hC f2
        obtain ⟨k1, k2, k3, k4, k5⟩ := hk
        have h5 : C2.1 5 = nI (pNum bs 3 (pNm bs [109, 111, 115, 116, 32] p).2 0).2 := zi_eq.mpr (by rw [j3, q_i (by omega)])
        have go : X4_mostEnds (mh (ccells C2) M D) 3 = some (1, mh (ccells (c1 C2 9 (moS (kMo cs) (2, (pNum bs 3 (pNm bs [109, 111, 115, 116, 32] p).2 0).2, [])))) M D) := by
          unfold X4_mostEnds X4_mostEnds_0 X4_mostEnds_27 moS
          rw [g_9, bsm, g_5, bsm, bsm, k4, h5, if_pos rfl]
          by_cases w : kMo cs = -1
          · rw [if_pos w, if_pos w, s_9, bsm]
            exact zg_z _ _ (.inr rfl)
          · rw [if_neg w, if_neg w, bsm, s_9, bsm]
            exact zg_z _ _ (.inr rfl)
        rw [go, bsm]
        dsimp only
        rw [if_neg (by decide)]
        refine ⟨_, zg_z _ _ (.inr rfl), j2, frLl.trans (frE_Ll (frN_E f2)) ⟨fC_c1 (by decide), rfl⟩, fun _ => ⟨?_, ?_, ?_, ?_, plain _ _ (fun z => absurd z (by dsimp only; omega)) k5⟩⟩
        · rw [nbp _ (fun z => absurd z (by dsimp only; omega))]
          exact k1
        · rw [hasK_app]
          show C2.1 7 = b01 (hasK 1 cs || false)
          rw [Bool.or_false]
          exact k2
        · rw [hasK_app]
          show C2.1 8 = b01 (hasK 3 cs || false)
          rw [Bool.or_false]
          exact k3
        · rw [kMo_app]
          rfl
      · rw [if_neg q4, if_neg q4]
        refine ⟨C2, zg_z _ _ (.inl rfl), ?_, frE_Ll (frN_E f2), fun c => by cases c⟩
        rw [j2]
        show ((pNum bs 3 (pNm bs [109, 111, 115, 116, 32] p).2 0).1 : Int) = (pNm bs [109, 111, 115, 116, 32] p).2
        omega
    · rw [if_neg q, if_neg q]
      exact ⟨C1, zg_z _ _ (.inl rfl), i2, frE_Ll (frN_E i3), fun c => by cases c⟩
  rw [if_neg q3, if_neg q3]
  by_cases q4 : byA bs p = 115
  · rw [if_pos q4, if_pos q4, z_8, bsm, z_cO]
    have f0 : frLl C (c1 C 8 1) := ⟨fC_c1 (by decide), rfl⟩
    obtain ⟨C1, i1, i2, i3⟩ := k_name (C := c1 C 8 1) M D nm_sense (kX_Ll hX f0) hp hpl
    rw [i1, bsm]
    dsimp only
    refine ⟨C1, by rw [zg_b], i2, frLl.trans f0 (frE_Ll (frN_E i3)), fun _ => ⟨?_, ?_, ?_, ?_, plain _ _ (by decide) (kTs_N (C := c1 C 8 1) b5 i3)⟩⟩
    · rw [nbp _ (by decide), i3.1.1 6 (by decide)]
      exact b1
    · rw [i3.1.1 7 (by decide), hasK_app]
      show C.1 7 = b01 (hasK 1 cs || false)
      rw [Bool.or_false]
      exact b2
    · rw [i3.1.1 8 (by decide), hasK_app]
      show (1 : Int32) = b01 (_ || true)
      rw [Bool.or_true]
      rfl
    · rw [i3.1.1 9 (by decide), kMo_app]
      exact b4
  rw [if_neg q4, if_neg q4]
  exact ⟨C, zg_z _ _ (.inl rfl), hp, frLl.rfl, fun c => by cases c⟩
theorem k_flt {bs : List Int32} (M : MS) (D : List va_E) : ∀ (n p fn : Nat) (C : CS) (cs : List Cz) (l2 : Int32), kX C bs → (C.1 4).toInt = p → p ≤ bs.length → kCl C cs → (kSt true cs).length ≤ p → l2.toInt = 9 - (n : Int) → cs.length + n = 8 → n < fn → ∃ C' x, X4_faultOf_44 fn (mh (ccells C) M D) 3 l2 = some (x, mh (ccells C') M D) ∧ x.toInt = (pLw bs n p).1 ∧ frLl C C' ∧ ((pLw bs n p).1 = -1 → kCl C' (cs ++ (pLw bs n p).2))
  | 0, p, fn, C, cs, l2, hX, hp, hpl, hC, hl, h2, hn, hf => by
    obtain ⟨fn, rfl⟩ : ∃ q, fn = q + 1 := ⟨fn - 1, by omega⟩
    have e8 : (8 : Int32).toInt = 8 := rfl
    unfold X4_faultOf_44 pLw
    rw [if_pos (by rw [zi_lt]; omega), g_4, bsm]
    exact ⟨C, _, rfl, hp, frLl.rfl, fun c => by dsimp only at c; omega⟩
  | n + 1, p, fn, C, cs, l2, hX, hp, hpl, hC, hl, h2, hn, hf => by
    obtain ⟨fn, rfl⟩ : ∃ q, fn = q + 1 := ⟨fn - 1, by omega⟩
    have e8 : (8 : Int32).toInt = 8 := rfl
    have e0 : (0 : Int32).toInt = 0 := rfl
    have h100 := hX.2.2.1
    obtain ⟨z1, z2, z3⟩ := pCz_ok bs p hpl
    obtain ⟨C1, i1, i2, i3, i4⟩ := k_clause M D hX hp hpl hC hl (by omega)
    rw [X4_faultOf_44, if_neg (by rw [zi_lt]; omega), z_cO, i1, bsm, pLw]
    generalize pCz bs p = r at z1 z2 z3 i2 i4 ⊢
    obtain ⟨ok, q, c⟩ := r
    dsimp only at z1 z2 z3 i2 i4 ⊢
    rw [b01_i]
    cases ok with
    | false =>
      rw [if_neg (by decide), if_pos rfl, g_4, bsm]
      exact ⟨C1, _, rfl, i2, i3, fun c => by dsimp only at c; omega⟩
    | true =>
      obtain ⟨z4, z5⟩ := z3 rfl
      have hk := i4 rfl
      have hX1 := kX_Ll hX i3
      rw [if_pos rfl, if_neg (by decide), z_cO, k_lat M D hX1 i2, bsm]
      dsimp only
      by_cases q1 : bs.length ≤ q
      · have hm : byA bs q = -1 := by
          unfold byA
          rw [List.getD_eq_getElem?_getD, List.getElem?_eq_none q1]
          rfl
        rw [if_pos q1, hm, if_neg (by decide)]
        exact ⟨C1, _, rfl, rfl, i3, fun _ => hk⟩
      · have hm : 0 ≤ byA bs q := by
          rcases kX_p hX q with w | w
          · exact zi_le.mpr (by have := w.1; omega)
          · unfold byA at w
            rw [List.getD_eq_getElem?_getD, List.getElem?_eq_getElem (by omega)] at w
            have w : bs[q]'(by omega) = -1 := w
            have := (hX.2.2.2.1 (bs[q]'(by omega)) (List.getElem_mem _)).1
            rw [w] at this
            exact absurd this (by decide)
        rw [if_neg q1, if_pos hm]
        unfold X4_faultOf_86
        by_cases q2 : n = 0
        · rw [if_pos q2, if_pos (zi_eq.mpr (by omega)), g_4, bsm]
          exact ⟨C1, _, rfl, i2, i3, fun c => by dsimp only at c; omega⟩
        · rw [if_neg q2, if_neg (fun c => by rw [c] at h2; omega), z_cO, k_sign M D hX1 i2]
          by_cases q3 : byA bs q = 59
          · rw [if_pos q3, if_pos q3, bsm]
            dsimp only
            rw [if_neg (by decide)]
            have hlen : (kSt true (cs ++ [c])).length ≤ q + 1 := by
              rw [kSt_app, List.length_append]
              by_cases w : c.1 = 0
              · rw [if_pos w, List.length_append]
                have : (if true = true ∧ nb cs = 0 then [] else [((9, 0, 0) : Tk)]).length ≤ 1 := by
                  by_cases w2 : true = true ∧ nb cs = 0
                  · rw [if_pos w2]; exact Nat.zero_le _
                  · rw [if_neg w2]; exact Nat.le_refl _
                omega
              · rw [if_neg w]
                simp only [List.length_nil]
                omega
            obtain ⟨C2, x, j1, j2, j3, j4⟩ := k_flt M D n (q + 1) fn (c1 C1 4 (C1.1 4 + 1)) (cs ++ [c]) (l2 + 1) (kX_E hX1 (frE_4 _ _)) (by
              show (C1.1 4 + 1).toInt = _
              rw [zi_inc i2 (by omega) (by omega)]
              omega) (by omega) (kCl_N hk ⟨fC_c1 (by decide), rfl⟩) hlen (by rw [zi_inc h2 (by omega) (by omega)]; omega) (by rw [List.length_append]; simp only [List.length_cons, List.length_nil]; omega) (by omega)
            refine ⟨C2, x, j1, j2, frLl.trans i3 (frLl.trans (frE_Ll (frE_4 _ _)) j3), fun e => ?_⟩
            have := j4 e
            rw [List.append_assoc] at this
            exact this
          · rw [if_neg q3, if_neg q3, bsm]
            dsimp only
            rw [if_pos rfl, g_4, bsm]
            exact ⟨C1, _, rfl, i2, i3, fun c => absurd c (by omega)⟩
def frM (C C' : CS) : Prop := fC C C' [3, 4, 5, 6, 7, 8, 9, 27] [1, 5] [] []
/-- the text's bytes come into the reader's own row -/
theorem k_copyTo {C : CS} {bs : List Int32} (M : MS) (D : List va_E) (h2 : (C.1 2).toInt = bs.length) (h100 : bs.length ≤ 100) : cO (mh (ccells C) M D) 1 6 (X6_copyTo (mh (ccells C) M D) 1 (some 4)) = some (C.1 2, mh (ccells (c2 C 5 (va_cpy (C.2.1 0) (C.2.1 5) 0 0 bs.length))) M D) := by
  have e0 : (0 : Int32).toInt = 0 := rfl
  have e100 : (100 : Int32).toInt = 100 := rfl
  have t1 : (mh (ccells C) M D)[1]? = some (.inr (6, [.ref 2, .int (C.1 2)])) := rfl
  have t2 : (mh (ccells C) M D)[2]? = some (.inl (0, (100, .inl (C.2.1 0)))) := rfl
  have t3 : aN (mh (ccells C) M D) (some 2) = some 100 := rfl
  have hsz : (if 0 < (if (100 : Int32) < C.1 2 then 100 else C.1 2) then (if (100 : Int32) < C.1 2 then 100 else C.1 2) else 0) = C.1 2 := by
    rw [if_neg (show ¬ (100 : Int32) < C.1 2 by rw [zi_lt]; omega)]
    by_cases q : 0 < C.1 2
    · rw [if_pos q]
    · rw [if_neg q]
      have q := mt zi_lt.mpr q
      exact zi_eq.mpr (by omega)
  have hcp : cpI (mh (ccells C) M D) (some 2) 0 (some 4) 0 (C.1 2) = some (mh (ccells (c2 C 5 (va_cpy (C.2.1 0) (C.2.1 5) 0 0 bs.length))) M D) := by
    unfold cpI
    rw [bsm, bsm, t2, c_by]
    dsimp only
    have hz := zi_n (C.1 2)
    have hz0 := zi_n 0
    rw [if_pos ⟨⟨rfl, rfl⟩, ⟨by decide, by decide, by rw [zi_lt]; omega⟩, by omega, by omega⟩, show (C.1 2).toNatClampNeg = bs.length by omega, show (0 : Int32).toNatClampNeg = 0 from rfl]
    rfl
  rw [e_cO t1]
  unfold X6_copyTo X6_copyTo_0
  rw [e_gI t1 rfl, bsm, e_gQ t1 rfl, bsm, t3, bsm, n_by, bsm, bsm, show (if (100 : Int32) < 100 then (100 : Int32) else 100) = 100 from if_neg (by decide), hsz, hcp, bsm]
theorem k_fault {C : CS} {bs : List Int32} (M : MS) (D : List va_E) (h2 : (C.1 2).toInt = bs.length) (h100 : bs.length ≤ 100) (h9 : ∀ x ∈ bs, by9 x) (hx : ∀ (i : Nat) (x : Int32), bs[i]? = some x → C.2.1 0 i = x) : ∃ C' x, cO (mh (ccells C) M D) 3 4 (X4_faultOf (mh (ccells C) M D) 3 (some 1)) = some (x, mh (ccells C') M D) ∧ x.toInt = (pLw bs 8 0).1 ∧ frM C C' ∧ C'.2.2.2.2 = C.2.2.2.2 ∧ ((pLw bs 8 0).1 = -1 → kCl C' (pLw bs 8 0).2) := by
  generalize hF : va_cpy (C.2.1 0) (C.2.1 5) 0 0 bs.length = F
  have hX : kX (c1 (c1 (c1 (c1 (c1 (c1 (c1 (c2 C 5 F) 27 (C.1 2)) 4 0) 3 0) 6 0) 7 0) 8 0) 9 (-1)) bs := ⟨trivial, h2, h100, h9, fun i x hi => by
    have hl := (List.getElem?_eq_some_iff.mp hi).1
    show F i = x
    rw [← hF]
    unfold va_cpy
    rw [if_pos ⟨Nat.zero_le _, by omega⟩, Nat.zero_add, Nat.sub_zero]
    exact hx i x hi⟩
  have hC : kCl (c1 (c1 (c1 (c1 (c1 (c1 (c1 (c2 C 5 F) 27 (C.1 2)) 4 0) 3 0) 6 0) 7 0) 8 0) 9 (-1)) [] := ⟨rfl, rfl, rfl, rfl, rfl, fun j t h => by cases h⟩
  obtain ⟨C', x, i1, i2, i3, i4⟩ := k_flt M D 8 0 FU _ [] 1 hX rfl (Nat.zero_le _) hC (Nat.zero_le _) rfl rfl (by unfold FU; omega)
  refine ⟨C', x, ?_, i2, fC.trans ?_ (fC_mono i3.1 (by decide) (by decide) (by simp) (by simp)), i3.2, i4⟩
  · rw [z_cO]
    unfold X4_faultOf X4_faultOf_0
    rw [g_by, bsm, bsm, k_copyTo M D h2 h100, hF, bsm]
    dsimp only
    rw [s_sz, bsm, s_4, bsm, s_3, bsm, s_6, bsm, z_70, bsm, z_80, bsm, s_9, bsm]
    exact i1
  · exact fC.trans (fC.trans (fC.trans (fC.trans (fC.trans (fC.trans (fC.trans (fC_c2 (by decide)) (fC_c1 (by decide))) (fC_c1 (by decide))) (fC_c1 (by decide))) (fC_c1 (by decide))) (fC_c1 (by decide))) (fC_c1 (by decide))) (fC_c1 (by decide))
