/-! ===== the reference reads a law ===== -/
def rPr (M : MS) (l sg : Nat) (cs : List Cz) : Prop := ∀ (i : Nat) (c : Cz), cs[i]? = some c → M.2.1 10 (8 * l + i) = nI c.1 ∧ (c.1 = 2 → M.2.1 11 (8 * l + i) = nI c.2.1) ∧ (c.1 = 0 → ∃ fr : Nat, (M.2.1 12 (8 * l + i)).toInt = fr ∧ 100 * l ≤ fr ∧ fr + c.2.2.length ≤ sg ∧ cdR M (8 * l + i) fr c.2.2)
theorem rPr_8 {M M' : MS} {l sg sg' n : Nat} {cs : List Cz} (h : rPr M l sg cs) (hf : frC8 (8 * l + n) sg M M') (hn : cs.length ≤ n) (hs : sg ≤ sg') : rPr M' l sg' cs := by
  intro i c hc
  have hi := (List.getElem?_eq_some_iff.mp hc).1
  obtain ⟨h1, h2, h3⟩ := h i c hc
  obtain ⟨f1, f2, f3⟩ := hf
  obtain ⟨g1, g2, g3, g4⟩ := f3 (8 * l + i) (by omega)
  refine ⟨by rw [g1]; exact h1, fun q => by rw [g2]; exact h2 q, fun q => ?_⟩
  obtain ⟨fr, k1, k2, k3, k4, k5, k6⟩ := h3 q
  refine ⟨fr, by rw [g3]; exact k1, k2, by omega, by rw [g4]; exact k4, k5, fun j t ht => ?_⟩
  have hj := (List.getElem?_eq_some_iff.mp ht).1
  rw [f2 (fr + j) (by omega)]
  exact k6 j t ht
def frV (l : Nat) (M M' : MS) : Prop := fM M M' [3, 4, 16, 17, 18] [9, 10, 11, 12, 13, 14, 15] [] ∧ (∀ k, k ≠ l → M'.2.1 9 k = M.2.1 9 k) ∧ (∀ k, k < 8 * l → M'.2.1 10 k = M.2.1 10 k ∧ M'.2.1 11 k = M.2.1 11 k ∧ M'.2.1 12 k = M.2.1 12 k ∧ M'.2.1 13 k = M.2.1 13 k) ∧ ∀ k, k < 100 * l → M'.2.1 14 k = M.2.1 14 k
theorem frV.rfl {l : Nat} {M : MS} : frV l M M := ⟨fM.rfl, fun _ _ => Eq.refl _, fun _ _ => ⟨Eq.refl _, Eq.refl _, Eq.refl _, Eq.refl _⟩, fun _ _ => Eq.refl _⟩
theorem frV.trans {l : Nat} {M M1 M2 : MS} (h : frV l M M1) (h2 : frV l M1 M2) : frV l M M2 := ⟨fM.trans h.1 h2.1, fun k q => (h2.2.1 k q).trans (h.2.1 k q), fun k q => ⟨(h2.2.2.1 k q).1.trans (h.2.2.1 k q).1, (h2.2.2.1 k q).2.1.trans (h.2.2.1 k q).2.1, (h2.2.2.1 k q).2.2.1.trans (h.2.2.1 k q).2.2.1, (h2.2.2.1 k q).2.2.2.trans (h.2.2.1 k q).2.2.2⟩, fun k q => (h2.2.2.2 k q).trans (h.2.2.2 k q)⟩
theorem frC8_V {l n sg : Nat} {M M' : MS} (h : frC8 (8 * l + n) sg M M') (hs : 100 * l ≤ sg) : frV l M M' := ⟨fM_mono h.1 (by decide) (by decide) (by simp), fun k _ => by rw [h.1.2.1 9 (by decide)], fun k q => h.2.2 k (by omega), fun k q => h.2.1 k (by omega)⟩
theorem frD_V {l : Nat} {M M' : MS} (h : frD M M') : frV l M M' := frC8_V (n := 0) (sg := 100 * l) (frD_8 h) (Nat.le_refl _)
theorem rPr_M {M M' : MS} {l sg : Nat} {cs : List Cz} (h : rPr M l sg cs) (h10 : M'.2.1 10 = M.2.1 10) (h11 : M'.2.1 11 = M.2.1 11) (h12 : M'.2.1 12 = M.2.1 12) (h13 : M'.2.1 13 = M.2.1 13) (h14 : M'.2.1 14 = M.2.1 14) : rPr M' l sg cs := by
  unfold rPr cdR at h ⊢
  rw [h10, h11, h12, h13, h14]
  exact h
theorem r_gl15 {bs : List Int32} {l : Nat} (hl : l < 5) {x : Int32} (hx : x.toInt = l) : ∀ (n p fn sg : Nat) (M : MS) (cs : List Cz) (l2 : Int32), l2.toInt = cs.length → cs.length + (n + 1) = 8 → rT M bs → (M.1 3).toInt = p → p ≤ bs.length → (M.1 16).toInt = sg → 100 * l ≤ sg → sg ≤ 100 * l + p → rPr M l sg cs → n + 1 < fn → ∃ M', X8_goesLaw_15 fn M x l2 = some (if (pLw bs (n + 1) p).1 = -1 then 1 else 0, M') ∧ ((pLw bs (n + 1) p).1 ≠ -1 → (M'.1 3).toInt = (pLw bs (n + 1) p).1) ∧ ((pLw bs (n + 1) p).1 = -1 → (M'.2.1 9 l).toInt = (cs ++ (pLw bs (n + 1) p).2).length ∧ rPr M' l (100 * l + 100) (cs ++ (pLw bs (n + 1) p).2)) ∧ frV l M M' := by
  intro n
  induction n with
  | zero =>
    intro p fn sg M cs l2 h2 hn hT hp hpl hsg s1 s2 hR hf
    obtain ⟨fn, rfl⟩ : ∃ q, fn = q + 1 := ⟨fn - 1, by omega⟩
    have e8 : (8 : Int32).toInt = 8 := rfl
    have h100 := hT.2.1
    have hci : ((8 * x) + l2).toInt = ((8 * l + cs.length : Nat) : Int) := by
      have m1 : (8 * x).toInt = 8 * l := by rw [zi_mul (by rw [e8]; omega) (by rw [e8]; omega), e8, hx]
      rw [zi_add (by omega) (by omega)]
      omega
    obtain ⟨z1, z2, z3⟩ := pCz_ok bs p hpl
    obtain ⟨M1, i1, i2, i3, i4⟩ := r_lclause hT hp hpl hsg (by omega) hci (by omega)
    have f1 := frC8_V i3 s1
    rw [X8_goesLaw_15, i1, bsm]
    unfold pLw
    generalize pCz bs p = r at z1 z2 z3 i2 i4 ⊢
    obtain ⟨ok, q, c⟩ := r
    dsimp only at z1 z2 z3 i2 i4 ⊢
    rw [b01_i]
    cases ok with
    | false =>
      rw [if_neg (by decide), if_pos rfl, if_neg (by dsimp only; omega)]
      exact ⟨M1, rfl, fun _ => i2, fun e => by dsimp only at e; omega, f1⟩
    | true =>
      obtain ⟨z4, z5⟩ := z3 rfl
      obtain ⟨c1', c2', c3', c4'⟩ := i4 rfl
      have h9 : mAs M1 9 x (l2 + 1) = some (sa M1 9 (upd (M1.2.1 9) l (l2 + 1))) := mAs_ok (j := 9) hx (by show l < 5; omega)
      have f2 : frV l M1 (sa M1 9 (upd (M1.2.1 9) l (l2 + 1))) := ⟨fM_sa (by decide), fun k hk => by
        show upd (M1.2.1 9) l (l2 + 1) k = _
        unfold upd
        rw [if_neg hk], fun _ _ => ⟨rfl, rfl, rfl, rfl⟩, fun _ _ => rfl⟩
      have h21 : (l2 + 1).toInt = 8 := by
        rw [zi_inc h2 (by omega) (by omega)]
        omega
      have hfed : (sa M1 9 (upd (M1.2.1 9) l (l2 + 1))).1 3 = (sa M1 9 (upd (M1.2.1 9) l (l2 + 1))).1 2 ↔ bs.length ≤ q := by
        have e2 : (M1.1 2).toInt = bs.length := by
          rw [i3.1.1 2 (by decide)]
          exact hT.1
        show M1.1 3 = M1.1 2 ↔ _
        rw [zi_eq, i2, e2]
        omega
      rw [if_neg (show ¬ true = false by decide), if_pos rfl, h9, bsm]
      by_cases q1 : bs.length ≤ q
      · rw [if_pos q1, if_pos (hfed.mpr q1), if_pos rfl]
        refine ⟨_, rfl, fun e => absurd rfl e, fun _ => ⟨?_, ?_⟩, frV.trans f1 f2⟩
        · show (upd (M1.2.1 9) l (l2 + 1) l).toInt = _
          rw [upd_s, h21, len1]
          omega
        · intro i d hd
          have hM1 := rPr_8 (sg' := 100 * l + 100) hR i3 (Nat.le_refl _) (by omega)
          rcases app_s hd with ⟨e1, e2⟩ | ⟨e1, e2⟩
          · rw [e1, e2]
            refine ⟨c1', c2', fun w => ⟨sg, (c3' w).1, s1, by omega, (c3' w).2⟩⟩
          · exact hM1 i d e2
      · rw [if_neg q1, if_neg (mt hfed.mp q1), if_pos rfl, if_pos (zi_eq.mpr (h21.trans e8.symm)), if_neg (by dsimp only; omega)]
        exact ⟨_, rfl, fun _ => i2, fun e => by dsimp only at e; omega, frV.trans f1 f2⟩
  | succ n ih =>
    intro p fn sg M cs l2 h2 hn hT hp hpl hsg s1 s2 hR hf
    obtain ⟨fn, rfl⟩ : ∃ q, fn = q + 1 := ⟨fn - 1, by omega⟩
    have e8 : (8 : Int32).toInt = 8 := rfl
    have h100 := hT.2.1
    have hci : ((8 * x) + l2).toInt = ((8 * l + cs.length : Nat) : Int) := by
      have m1 : (8 * x).toInt = 8 * l := by rw [zi_mul (by rw [e8]; omega) (by rw [e8]; omega), e8, hx]
      rw [zi_add (by omega) (by omega)]
      omega
    obtain ⟨z1, z2, z3⟩ := pCz_ok bs p hpl
    obtain ⟨M1, i1, i2, i3, i4⟩ := r_lclause hT hp hpl hsg (by omega) hci (by omega)
    have f1 := frC8_V i3 s1
    rw [X8_goesLaw_15, i1, bsm]
    rw [pLw]
    generalize pCz bs p = r at z1 z2 z3 i2 i4 ⊢
    obtain ⟨ok, q, c⟩ := r
    dsimp only at z1 z2 z3 i2 i4 ⊢
    rw [b01_i]
    cases ok with
    | false =>
      rw [if_neg (by decide), if_pos rfl, if_neg (by dsimp only; omega)]
      exact ⟨M1, rfl, fun _ => i2, fun e => by dsimp only at e; omega, f1⟩
    | true =>
      obtain ⟨z4, z5⟩ := z3 rfl
      obtain ⟨c1', c2', c3', c4'⟩ := i4 rfl
      have h9 : mAs M1 9 x (l2 + 1) = some (sa M1 9 (upd (M1.2.1 9) l (l2 + 1))) := mAs_ok (j := 9) hx (by show l < 5; omega)
      have f2 : frV l M1 (sa M1 9 (upd (M1.2.1 9) l (l2 + 1))) := ⟨fM_sa (by decide), fun k hk => by
        show upd (M1.2.1 9) l (l2 + 1) k = _
        unfold upd
        rw [if_neg hk], fun _ _ => ⟨rfl, rfl, rfl, rfl⟩, fun _ _ => rfl⟩
      have h21 : (l2 + 1).toInt = ((cs.length + 1 : Nat) : Int) := by
        rw [zi_inc h2 (by omega) (by omega)]
        omega
      have e2 : (M1.1 2).toInt = bs.length := by
        rw [i3.1.1 2 (by decide)]
        exact hT.1
      have hfed : (sa M1 9 (upd (M1.2.1 9) l (l2 + 1))).1 3 = (sa M1 9 (upd (M1.2.1 9) l (l2 + 1))).1 2 ↔ bs.length ≤ q := by
        show M1.1 3 = M1.1 2 ↔ _
        rw [zi_eq, i2, e2]
        omega
      have hR2 : ∀ sg', sg + c.2.2.length ≤ sg' → rPr M1 l sg' (cs ++ [c]) := by
        intro sg' hs'
        intro i d hd
        have hM1 := rPr_8 (sg' := sg') hR i3 (Nat.le_refl _) (by omega)
        rcases app_s hd with ⟨e1, e2⟩ | ⟨e1, e2⟩
        · rw [e1, e2]
          refine ⟨c1', c2', fun w => ⟨sg, (c3' w).1, s1, by omega, (c3' w).2⟩⟩
        · exact hM1 i d e2
      rw [if_neg (show ¬ true = false by decide), if_pos rfl, h9, bsm]
      by_cases q1 : bs.length ≤ q
      · rw [if_pos q1, if_pos (hfed.mpr q1), if_pos rfl]
        refine ⟨_, rfl, fun e => absurd rfl e, fun _ => ⟨?_, rPr_M (hR2 _ (by omega)) rfl rfl rfl rfl rfl⟩, frV.trans f1 f2⟩
        show (upd (M1.2.1 9) l (l2 + 1) l).toInt = _
        rw [upd_s, h21, len1]
      · have hT2 : rT (sa M1 9 (upd (M1.2.1 9) l (l2 + 1))) bs := ⟨e2, h100, hT.2.2.1, fun i y hy => by
          show M1.2.1 5 i = _
          rw [i3.1.2.1 5 (by decide)]
          exact hT.2.2.2 i y hy⟩
        have hb := rT_by hT q
        rw [if_neg q1, if_neg (mt hfed.mp q1), if_neg (show ¬ n + 1 = 0 by omega), if_neg (fun e => by rw [e, e8] at h21; omega), r_takes hT2 (p := q) i2 (by decide) (by decide)]
        unfold X8_goesLaw_68
        by_cases q3 : byA bs q = 59
        · have hql := byA_lt q3 (by decide)
          rw [if_pos q3, if_pos q3, bsm]
          dsimp only
          rw [if_neg (show ¬ (1 : Int32) = 0 by decide)]
          have g3 : frD (sa M1 9 (upd (M1.2.1 9) l (l2 + 1))) (si (sa M1 9 (upd (M1.2.1 9) l (l2 + 1))) 3 ((sa M1 9 (upd (M1.2.1 9) l (l2 + 1))).1 3 + 1)) := fM_si (by decide)
          obtain ⟨M', j1, j2, j3, j4⟩ := ih (q + 1) fn (sg + c.2.2.length) _ (cs ++ [c]) (l2 + 1) (by rw [len1]; exact h21) (by rw [len1]; omega) (rT_D hT2 g3) (by
            show (M1.1 3 + 1).toInt = _
            rw [zi_inc i2 (by omega) (by omega)]
            omega) (by omega) c4' (by omega) (by omega) (rPr_M (hR2 _ (Nat.le_refl _)) rfl rfl rfl rfl rfl) (by omega)
          rw [List.append_assoc] at j3
          exact ⟨M', j1, j2, j3, frV.trans f1 (frV.trans f2 (frV.trans (frD_V g3) j4))⟩
        · rw [if_neg q3, if_neg q3, bsm]
          dsimp only
          rw [if_pos rfl, if_neg (by omega)]
          exact ⟨_, rfl, fun _ => i2, fun e => by omega, frV.trans f1 f2⟩
theorem r_goesL {M : MS} {bs : List Int32} {l : Nat} (hl : l < 5) {x : Int32} (hx : x.toInt = l) (hT : rT M bs) : ∃ M', X8_goesLaw M x = some (if (pLw bs 8 0).1 = -1 then 1 else 0, M') ∧ ((pLw bs 8 0).1 ≠ -1 → (M'.1 3).toInt = (pLw bs 8 0).1) ∧ ((pLw bs 8 0).1 = -1 → rLw M' l (pLw bs 8 0).2) ∧ frV l M M' := by
  have e100 : (100 : Int32).toInt = 100 := rfl
  have h16 : ((si (si M 3 0) 16 (100 * x)).1 16).toInt = ((100 * l : Nat) : Int) := by
    show (100 * x).toInt = _
    rw [zi_mul (by rw [e100]; omega) (by rw [e100]; omega), e100, hx]
    omega
  have f0 : frV l M (si (si M 3 0) 16 (100 * x)) := ⟨fM.trans (fM_si (by decide)) (fM_si (by decide)), fun _ _ => rfl, fun _ _ => ⟨rfl, rfl, rfl, rfl⟩, fun _ _ => rfl⟩
  obtain ⟨M', i1, i2, i3, i4⟩ := r_gl15 (bs := bs) hl hx 7 0 FU (100 * l) (si (si M 3 0) 16 (100 * x)) [] 0 rfl rfl hT rfl (Nat.zero_le _) h16 (Nat.le_refl _) (by omega) (fun i c h => by cases h) (by unfold FU; omega)
  refine ⟨M', ?_, i2, fun e => ?_, frV.trans f0 i4⟩
  · unfold X8_goesLaw X8_goesLaw_0
    rw [i1]
    by_cases q : (pLw bs 8 0).1 = -1
    · rw [if_pos q]
      exact zg_z _ _ (.inr rfl)
    · rw [if_neg q]
      exact zg_z _ _ (.inl rfl)
  · obtain ⟨j1, j2⟩ := i3 e
    exact ⟨j1, j2⟩
