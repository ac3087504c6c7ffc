/-! ===== clauses of a law, purely; the class reads a clause ===== -/
def nb (cs : List Cz) : Nat := match cs with
  | [] => 0
  | c :: t => (if c.1 = 0 then 1 else 0) + nb t
theorem nb_app (c : Cz) : ∀ cs : List Cz, nb (cs ++ [c]) = nb cs + (if c.1 = 0 then 1 else 0)
  | [] => by
    show (if c.1 = 0 then 1 else 0) + 0 = 0 + _
    omega
  | d :: cs => by
    show (if d.1 = 0 then 1 else 0) + nb (cs ++ [c]) = ((if d.1 = 0 then 1 else 0) + nb cs) + _
    rw [nb_app c cs]
    omega
theorem kSt_app (c : Cz) : ∀ (cs : List Cz) (fi : Bool), kSt fi (cs ++ [c]) = kSt fi cs ++ (if c.1 = 0 then c.2.2 ++ (if fi = true ∧ nb cs = 0 then [] else [(9, 0, 0)]) else [])
  | [], fi => by
    cases fi <;> by_cases h : c.1 = 0 <;> simp [kSt, nb, h]
  | d :: cs, fi => by
    show (if d.1 = 0 then d.2.2 ++ (if fi = true then [] else [(9, 0, 0)]) ++ kSt false (cs ++ [c]) else kSt fi (cs ++ [c])) = (if d.1 = 0 then d.2.2 ++ (if fi = true then [] else [(9, 0, 0)]) ++ kSt false cs else kSt fi cs) ++ (if c.1 = 0 then c.2.2 ++ (if fi = true ∧ (if d.1 = 0 then 1 else 0) + nb cs = 0 then [] else [(9, 0, 0)]) else [])
    by_cases h : d.1 = 0
    · rw [if_pos h, if_pos h, kSt_app c cs false, List.append_assoc (d.2.2 ++ _)]
      have e1 : ¬ (false = true ∧ nb cs = 0) := fun q => by cases q.1
      have e2 : ¬ (fi = true ∧ (if d.1 = 0 then 1 else 0) + nb cs = 0) := fun q => by
        have := q.2
        rw [if_pos h] at this
        omega
      rw [if_neg e1, if_neg e2]
    · rw [if_neg h, if_neg h, kSt_app c cs fi]
      have e2 : (if d.1 = 0 then 1 else 0) + nb cs = nb cs := by rw [if_neg h, Nat.zero_add]
      rw [e2]
theorem hasK_app (k : Nat) (c : Cz) (cs : List Cz) : hasK k (cs ++ [c]) = (hasK k cs || c.1 == k) := by
  unfold hasK
  rw [List.any_append]
  congr 1
  show ((c.1 == k) || false) = _
  rw [Bool.or_false]
theorem kMo_app (c : Cz) (cs : List Cz) : kMo (cs ++ [c]) = moS (kMo cs) c := by
  unfold kMo
  rw [List.foldl_append]
  rfl
def czOk (c : Cz) : Prop := c.1 ≤ 3 ∧ c.2.1 ≤ 999 ∧ (c.1 = 0 → okc 11 c.2.2) ∧ (c.1 ≠ 0 → c.2.2 = [])
theorem pEi4_ok (bs : List Int32) (p : Nat) (hp : p ≤ bs.length) : p ≤ (pEi bs (pPt bs 4) 100 p false false).2.1 ∧ (pEi bs (pPt bs 4) 100 p false false).2.1 ≤ bs.length ∧ ((pEi bs (pPt bs 4) 100 p false false).1 = true → p + (pEi bs (pPt bs 4) 100 p false false).2.2.length ≤ (pEi bs (pPt bs 4) 100 p false false).2.1 ∧ okc 11 (pEi bs (pPt bs 4) 100 p false false).2.2) := by
  obtain ⟨h1, h2, h3⟩ := pEi_ok (bs := bs) (pt := pPt bs 4) (D := 1 + 2 * 4) (by omega) (fun p hp => pPt_ok bs 4 p (by omega) hp) 100 p false false hp
  have b0 : bnt false = 0 := rfl
  exact ⟨h1, h2, fun c => by
    obtain ⟨a, b, d⟩ := h3 c
    exact ⟨by omega, okj_ff d⟩⟩
theorem pCz_ok (bs : List Int32) (p : Nat) (hp : p ≤ bs.length) : p ≤ (pCz bs p).2.1 ∧ (pCz bs p).2.1 ≤ bs.length ∧ ((pCz bs p).1 = true → p + 4 + (pCz bs p).2.2.2.2.length ≤ (pCz bs p).2.1 ∧ czOk (pCz bs p).2.2) := by
  unfold pCz
  by_cases q1 : byA bs p = 98
  · rw [if_pos q1]
    obtain ⟨n1, n2, n3⟩ := pNm_ok bs [98, 97, 114, 32] p (by decide) hp
    by_cases q : (pNm bs [98, 97, 114, 32] p).1 = true
    · rw [if_pos q]
      have n3 := n3 q
      have n3 : (pNm bs [98, 97, 114, 32] p).2 = p + 4 := n3
      obtain ⟨e1, e2, e3⟩ := pEi4_ok bs (pNm bs [98, 97, 114, 32] p).2 n2
      refine ⟨by dsimp only; omega, e2, fun c => ?_⟩
      obtain ⟨e4, e5⟩ := e3 c
      exact ⟨by dsimp only; omega, by dsimp only; omega, by dsimp only; omega, fun _ => e5, fun z => absurd rfl z⟩
    · rw [if_neg q]
      exact ⟨n1, n2, fun c => by cases c⟩
  rw [if_neg q1]
  by_cases q2 : byA bs p = 103
  · rw [if_pos q2]
    obtain ⟨n1, n2, n3⟩ := pNm_ok bs [103, 105, 118, 101] p (by decide) hp
    refine ⟨n1, n2, fun c => ?_⟩
    have n3 : (pNm bs [103, 105, 118, 101] p).2 = p + 4 := n3 c
    exact ⟨by dsimp only [List.length_nil]; omega, by dsimp only; omega, by dsimp only; omega, fun z => absurd z (by dsimp only; omega), fun _ => rfl⟩
  rw [if_neg q2]
  by_cases q3 : byA bs p = 109
  · rw [if_pos q3]
    obtain ⟨n1, n2, n3⟩ := pNm_ok bs [109, 111, 115, 116, 32] p (by decide) hp
    by_cases q : (pNm bs [109, 111, 115, 116, 32] p).1 = true
    · rw [if_pos q]
      have n3 : (pNm bs [109, 111, 115, 116, 32] p).2 = p + 5 := n3 q
      obtain ⟨m1, m2, m3⟩ := pNum_ok bs 3 (pNm bs [109, 111, 115, 116, 32] p).2 0 0 (by decide) n2
      have m3 : (pNum bs 3 (pNm bs [109, 111, 115, 116, 32] p).2 0).2 < 1000 := m3
      by_cases q4 : (pNm bs [109, 111, 115, 116, 32] p).2 < (pNum bs 3 (pNm bs [109, 111, 115, 116, 32] p).2 0).1
      · rw [if_pos q4]
        exact ⟨by dsimp only; omega, m2, fun _ => ⟨by dsimp only [List.length_nil]; omega, by dsimp only; omega, by dsimp only; omega, fun z => absurd z (by dsimp only; omega), fun _ => rfl⟩⟩
      · rw [if_neg q4]
        exact ⟨n1, n2, fun c => by cases c⟩
    · rw [if_neg q]
      exact ⟨n1, n2, fun c => by cases c⟩
  rw [if_neg q3]
  by_cases q4 : byA bs p = 115
  · rw [if_pos q4]
    obtain ⟨n1, n2, n3⟩ := pNm_ok bs [115, 101, 110, 115, 101] p (by decide) hp
    refine ⟨n1, n2, fun c => ?_⟩
    have n3 : (pNm bs [115, 101, 110, 115, 101] p).2 = p + 5 := n3 c
    exact ⟨by dsimp only [List.length_nil]; omega, by dsimp only; omega, by dsimp only; omega, fun z => absurd z (by dsimp only; omega), fun _ => rfl⟩
  rw [if_neg q4]
  exact ⟨Nat.le_refl _, hp, fun c => by cases c⟩
theorem kSt_le (c : Cz) (cs : List Cz) (fi : Bool) (hc : c.1 ≠ 0 → c.2.2 = []) : (kSt fi (c :: cs)).length ≤ c.2.2.length + 1 + (kSt false cs).length ∨ (c.1 ≠ 0 ∧ kSt fi (c :: cs) = kSt fi cs) := by
  by_cases h : c.1 = 0
  · refine .inl ?_
    show (if c.1 = 0 then c.2.2 ++ (if fi = true then [] else [(9, 0, 0)]) ++ kSt false cs else kSt fi cs).length ≤ _
    rw [if_pos h, List.length_append, List.length_append]
    cases fi <;> simp
  · exact .inr ⟨h, if_neg h⟩
theorem pLw_ok (bs : List Int32) : ∀ (n p : Nat), p ≤ bs.length → -1 ≤ (pLw bs n p).1 ∧ (pLw bs n p).1 ≤ bs.length ∧ ((pLw bs n p).1 = -1 → 1 ≤ (pLw bs n p).2.length ∧ (pLw bs n p).2.length ≤ n ∧ (∀ c ∈ (pLw bs n p).2, czOk c) ∧ ∀ fi, (kSt fi (pLw bs n p).2).length + p ≤ bs.length)
  | 0, p, hp => ⟨by unfold pLw; dsimp only; omega, by unfold pLw; dsimp only; omega, fun c => by unfold pLw at c; dsimp only at c; omega⟩
  | n + 1, p, hp => by
    obtain ⟨z1, z2, z3⟩ := pCz_ok bs p hp
    unfold pLw
    generalize pCz bs p = r at z1 z2 z3 ⊢
    obtain ⟨ok, q, c⟩ := r
    dsimp only at z1 z2 z3 ⊢
    cases ok with
    | false =>
      rw [if_pos rfl]
      exact ⟨by dsimp only; omega, by dsimp only; omega, fun e => by dsimp only at e; omega⟩
    | true =>
      obtain ⟨z4, z5⟩ := z3 rfl
      rw [if_neg (by decide)]
      by_cases q1 : bs.length ≤ q
      · rw [if_pos q1]
        refine ⟨by dsimp only; omega, by dsimp only; omega, fun _ => ⟨Nat.le_refl 1, by show 1 ≤ n + 1; omega, fun d hd => by rw [List.mem_singleton.mp hd]; exact z5, fun fi => ?_⟩⟩
        dsimp only
        rcases kSt_le c [] fi z5.2.2.2 with h | ⟨h, h2⟩
        · have : (kSt false []).length = 0 := rfl
          omega
        · rw [h2]
          have : (kSt fi []).length = 0 := rfl
          omega
      · rw [if_neg q1]
        by_cases q2 : n = 0
        · rw [if_pos q2]
          exact ⟨by dsimp only; omega, by dsimp only; omega, fun e => by dsimp only at e; omega⟩
        · rw [if_neg q2]
          by_cases q3 : byA bs q = 59
          · rw [if_pos q3]
            obtain ⟨i1, i2, i3⟩ := pLw_ok bs n (q + 1) (by omega)
            generalize pLw bs n (q + 1) = s at i1 i2 i3 ⊢
            obtain ⟨f, cs⟩ := s
            dsimp only at i1 i2 i3 ⊢
            refine ⟨i1, i2, fun e => ?_⟩
            obtain ⟨i4, i5, i6, i7⟩ := i3 e
            refine ⟨by rw [List.length_cons]; omega, by rw [List.length_cons]; omega, fun d hd => ?_, fun fi => ?_⟩
            · rcases List.mem_cons.mp hd with h | h
              · rw [h]; exact z5
              · exact i6 d h
            · have j1 := i7 fi
              have j2 := i7 false
              rcases kSt_le c cs fi z5.2.2.2 with h | ⟨h, h2⟩
              · omega
              · rw [h2]
                omega
          · rw [if_neg q3]
            exact ⟨by dsimp only; omega, by dsimp only; omega, fun e => by dsimp only at e; omega⟩
theorem okL_of {bs : List Int32} (hl : bs.length ≤ 100) (h : (pLw bs 8 0).1 = -1) : okL (pLw bs 8 0).2 := by
  obtain ⟨-, -, h3⟩ := pLw_ok bs 8 0 (by omega)
  obtain ⟨h4, h5, h6, h7⟩ := h3 h
  exact ⟨h4, h5, fun c hc => ⟨(h6 c hc).1, (h6 c hc).2.1, (h6 c hc).2.2.1⟩, by have := h7 true; omega⟩
-- names
theorem nI_s {i : Nat} (h : i < 1000) : nI i + 1 = nI (i + 1) := by
  apply zi_eq.mpr
  rw [zi_inc (q_i (by omega)) (by omega) (by omega), q_i (by omega)]
  omega
def nmD (j : Nat) (cs : List Int32) : Prop := (∀ S : AH, J0_length_8abf5 S j = some (nI cs.length, S)) ∧ (∀ (S : AH) (i : Nat) (c : Int32), cs[i]? = some c → J0_charAt_5068e S j (nI i) = some (c, S)) ∧ cs.length ≤ 5 ∧ ∀ c ∈ cs, c ≠ -1
theorem k_nm2 {bs : List Int32} (M : MS) (D : List va_E) {j : Nat} {cs : List Int32} (hN : nmD j cs) : ∀ (us : List Int32) (i p fn : Nat) (C : CS), cs.drop i = us → i ≤ cs.length → us.length < fn → kX C bs → (C.1 4).toInt = p → p ≤ bs.length → ∃ C', X4_name_2 fn (mh (ccells C) M D) 3 j (nI i) = some (b01 (pNm bs us p).1, mh (ccells C') M D) ∧ (C'.1 4).toInt = (pNm bs us p).2 ∧ frN C C'
  | [], i, p, fn, C, hd, hi, hf, hX, hp, hpl => by
    obtain ⟨fn, rfl⟩ : ∃ q, fn = q + 1 := ⟨fn - 1, by omega⟩
    obtain ⟨h1, h2, h3, h4⟩ := hN
    have hk := List.drop_eq_nil_iff.mp hd
    refine ⟨C, ?_, hp, frN.rfl⟩
    unfold X4_name_2
    rw [h1, bsm]
    dsimp only
    rw [if_pos (by rw [zi_le, q_i (by omega), q_i (by omega)]; omega)]
    rfl
  | c :: us, i, p, fn, C, hd, hi, hf, hX, hp, hpl => by
    simp only [List.length_cons] at hf
    obtain ⟨fn, rfl⟩ : ∃ q, fn = q + 1 := ⟨fn - 1, by omega⟩
    obtain ⟨h1, h2, h3, h4⟩ := id hN
    obtain ⟨d1, d2, d3⟩ := drop_c hd
    have hil := (List.getElem?_eq_some_iff.mp d1).1
    unfold X4_name_2 pNm
    rw [h1, bsm]
    dsimp only
    rw [if_neg (by rw [zi_le, q_i (by omega), q_i (by omega)]; omega), h2 _ i c d1, bsm]
    dsimp only
    rw [z_cO, k_sign M D hX hp]
    have h100 := hX.2.2.1
    by_cases q : byA bs p = c
    · have hq := byA_lt q (h4 c (List.mem_of_getElem? d1))
      rw [if_pos q, if_pos q, bsm]
      dsimp only
      rw [if_neg (by decide), nI_s (by omega)]
      obtain ⟨C', i1, i2, i3⟩ := k_nm2 M D hN us (i + 1) (p + 1) fn (c1 C 4 (C.1 4 + 1)) d2 (by omega) (by omega) (kX_E hX (frE_4 _ _)) (by
        show (C.1 4 + 1).toInt = _
        rw [zi_inc hp (by omega) (by omega)]
        omega) (by omega)
      exact ⟨C', i1, i2, frN.trans ⟨fC_c1 (by decide), rfl⟩ i3⟩
    · rw [if_neg q, if_neg q, bsm]
      dsimp only
      rw [if_pos rfl]
      exact ⟨C, rfl, hp, frN.rfl⟩
theorem k_name {C : CS} {bs : List Int32} {p j : Nat} {cs : List Int32} (M : MS) (D : List va_E) (hN : nmD j cs) (hX : kX C bs) (hp : (C.1 4).toInt = p) (hpl : p ≤ bs.length) : ∃ C', X4_name (mh (ccells C) M D) 3 j = some (b01 (pNm bs cs p).1, mh (ccells C') M D) ∧ (C'.1 4).toInt = (pNm bs cs p).2 ∧ frN C C' := by
  have hl := hN.2.2.1
  obtain ⟨C', i1, i2, i3⟩ := k_nm2 M D hN cs 0 p FU C rfl (Nat.zero_le _) (by unfold FU; omega) hX hp hpl
  refine ⟨C', ?_, i2, i3⟩
  unfold X4_name X4_name_0
  have i1 : X4_name_2 FU (mh (ccells C) M D) 3 j 0 = _ := i1
  rw [i1, zg_b]
theorem c5_list {cs : List Int32} {i : Nat} {c : Int32} (h : cs[i]? = some c) : i < cs.length := (List.getElem?_eq_some_iff.mp h).1
theorem k_chr (S : AH) (j : Nat) (i c : Int32) (h : sB j i = some c) (h2 : J3_checkIndex_8e157 S i (Int32.ofNat (sLen.getD j 0)) = some (i, S)) (h3 : (((c &&& 255)).toUInt32 % 65536).toInt32 = c ∧ narrow .char (.int c) = .int c) : J0_charAt_5068e S j i = some (c, S) := by
  have hl1 : J0_isLatin1_aae02 S j = some (1, S) := rfl
  unfold J0_charAt_5068e J0_charAt_5068e_0 J1_charAt_3b067 J1_charAt_3b067_0 J0_checkIndex_df160 J0_checkIndex_df160_0
  rw [hl1, bsm]
  dsimp only
  rw [if_neg (by decide), h2, bsm, bsm, h, bsm, h3.1, ng_k _ h3.2, bsm, ng_k _ h3.2]
theorem nm_bar : nmD 0 [98, 97, 114, 32] := by
  refine ⟨fun S => k_slen S 0 _ rfl, fun S i c h => ?_, by decide, by decide⟩
  have hi := c5_list h
  simp only [List.length_cons, List.length_nil] at hi
  rcases (show i = 0 ∨ i = 1 ∨ i = 2 ∨ i = 3 by omega) with rfl | rfl | rfl | rfl <;> cases h <;> exact k_chr S _ _ _ rfl rfl ⟨rfl, rfl⟩
theorem nm_give : nmD 1 [103, 105, 118, 101] := by
  refine ⟨fun S => k_slen S 1 _ rfl, fun S i c h => ?_, by decide, by decide⟩
  have hi := c5_list h
  simp only [List.length_cons, List.length_nil] at hi
  rcases (show i = 0 ∨ i = 1 ∨ i = 2 ∨ i = 3 by omega) with rfl | rfl | rfl | rfl <;> cases h <;> exact k_chr S _ _ _ rfl rfl ⟨rfl, rfl⟩
theorem nm_most : nmD 2 [109, 111, 115, 116, 32] := by
  refine ⟨fun S => k_slen S 2 _ rfl, fun S i c h => ?_, by decide, by decide⟩
  have hi := c5_list h
  simp only [List.length_cons, List.length_nil] at hi
  rcases (show i = 0 ∨ i = 1 ∨ i = 2 ∨ i = 3 ∨ i = 4 by omega) with rfl | rfl | rfl | rfl | rfl <;> cases h <;> exact k_chr S _ _ _ rfl rfl ⟨rfl, rfl⟩
theorem nm_sense : nmD 3 [115, 101, 110, 115, 101] := by
  refine ⟨fun S => k_slen S 3 _ rfl, fun S i c h => ?_, by decide, by decide⟩
  have hi := c5_list h
  simp only [List.length_cons, List.length_nil] at hi
  rcases (show i = 0 ∨ i = 1 ∨ i = 2 ∨ i = 3 ∨ i = 4 by omega) with rfl | rfl | rfl | rfl | rfl <;> cases h <;> exact k_chr S _ _ _ rfl rfl ⟨rfl, rfl⟩
