/-! ===== the class reads a bargain's text ===== -/
theorem i01 {α : Type} {P : Prop} [Decidable P] (a b : α) : (if (if P then (1 : Int32) else 0) = 0 then a else b) = if P then b else a := by
  by_cases h : P
  · rw [if_pos h, if_pos h]
    exact if_neg (by decide)
  · rw [if_neg h, if_neg h]
    exact if_pos rfl
theorem drop_hd {bs : List Int32} {p : Nat} {c : Int32} {t : List Int32} (h : bs.drop p = c :: t) : bs.getD p (-1) = c ∧ bs.drop (p + 1) = t ∧ bs.length = p + 1 + t.length := by
  have e1 := congrArg (fun q => q[0]?) h
  have e2 := congrArg (List.drop 1) h
  have e3 := congrArg List.length h
  simp only [List.length_drop, List.length_cons] at e3
  refine ⟨?_, ?_, by omega⟩
  · rw [List.getElem?_drop] at e1
    rw [List.getD_eq_getElem?_getD]
    simp only [Nat.add_zero] at e1
    rw [e1]
    rfl
  · rw [List.drop_drop] at e2
    exact e2
theorem drop_nl {bs : List Int32} {p : Nat} (h : bs.drop p = []) : bs.getD p (-1) = -1 ∧ bs.length ≤ p := by
  have e := List.drop_eq_nil_iff.mp h
  refine ⟨?_, e⟩
  rw [List.getD_eq_getElem?_getD, List.getElem?_eq_none e]
  rfl
theorem bre_m1 : ¬ (bre (-1) ∨ fgr (-1)) := by
  unfold bre fgr
  decide
theorem isf_m1 : ¬ isf (-1) := by
  unfold isf
  decide
theorem fo_51 {S : AH} {bs : List Int32} (hT : tV S bs) {rec : AH → Option Nat → Int32 → Int32 → Option (Int32 × AH)} {l1 l2 : Int32} {p : Nat} (h1 : l1.toInt = p) : X1_faultOf_51 rec S (some 1) l1 l2 = if p < bs.length then rec S (some 1) l1 (l2 + 1) else some (-1, S) := by
  have hl := tV_len hT
  unfold X1_faultOf_51
  rw [bsm, tV_size hT, bsm]
  by_cases q : p < bs.length
  · rw [if_pos q, if_pos (by rw [zi_lt, zo (by omega)]; omega)]
  · rw [if_neg q, if_neg (by rw [zi_lt, zo (by omega)]; omega)]
theorem fo_4 {S : AH} {bs : List Int32} (hT : tV S bs) : ∀ (n p : Nat) (bz : List Int32) (fn : Nat) (l1 l2 : Int32), bs.drop p = bz → n < fn → l1.toInt = p → l2.toInt = (12 : Int) - n → n ≤ 12 → p ≤ 100 → ∃ x, X1_faultOf_4 fn S (some 1) l1 l2 = some (x, S) ∧ x.toInt = (pWd n p bz).1
  | 0, p, bz, fn, l1, l2, hd, hf, h1, h2, hn, hp => by
    obtain ⟨fn, rfl⟩ : ∃ q, fn = q + 1 := ⟨fn - 1, by omega⟩
    have e12 : (12 : Int32).toInt = 12 := rfl
    refine ⟨l1, ?_, h1⟩
    rw [X1_faultOf_4, if_pos (by rw [zi_le]; omega)]
  | n + 1, p, [], fn, l1, l2, hd, hf, h1, h2, hn, hp => by
    obtain ⟨fn, rfl⟩ : ∃ q, fn = q + 1 := ⟨fn - 1, by omega⟩
    have e12 : (12 : Int32).toInt = 12 := rfl
    refine ⟨l1, ?_, h1⟩
    rw [X1_faultOf_4, if_neg (by rw [zi_le]; omega), bsm, tV_at hT h1, (drop_nl hd).1, bsm, k_isLetter, bsm, i01, if_neg bre_m1]
  | n + 1, p, [c], fn, l1, l2, hd, hf, h1, h2, hn, hp => by
    obtain ⟨fn, rfl⟩ : ∃ q, fn = q + 1 := ⟨fn - 1, by omega⟩
    have e12 : (12 : Int32).toInt = 12 := rfl
    have z1 : ¬ (1 : Int32) = 0 := by decide
    obtain ⟨d1, d2, d3⟩ := drop_hd hd
    have hi : (l1 + 1).toInt = ((p + 1 : Nat) : Int) := by
      rw [zi_inc h1 (by omega) (by omega)]
      omega
    unfold pWd
    rw [X1_faultOf_4, if_neg (by rw [zi_le]; omega), bsm, tV_at hT h1, d1, bsm, k_isLetter, bsm]
    dsimp only
    by_cases g : fgr c
    · rw [i01, if_pos (.inr g), k_takesFigure, bsm, i01, if_pos g, tV_at hT hi, (drop_nl d2).1, bsm, k_isFigure, bsm, i01, if_neg isf_m1, if_pos g]
      exact ⟨_, rfl, by rw [hi]; rfl⟩
    · rw [if_neg g]
      by_cases g2 : bre c
      · rw [i01, if_pos (.inl g2), k_takesFigure, bsm, i01, if_neg g, fo_51 hT hi, if_neg (by simp only [List.length_nil] at d3; omega), if_pos g2]
        exact ⟨_, rfl, rfl⟩
      · rw [i01, if_neg (fun q => q.elim g2 g), if_neg g2]
        exact ⟨_, rfl, h1⟩
  | n + 1, p, c :: d :: t, fn, l1, l2, hd, hf, h1, h2, hn, hp => by
    obtain ⟨fn, rfl⟩ : ∃ q, fn = q + 1 := ⟨fn - 1, by omega⟩
    have e12 : (12 : Int32).toInt = 12 := rfl
    have z1 : ¬ (1 : Int32) = 0 := by decide
    have hlT := tV_len hT
    obtain ⟨d1, d2, d3⟩ := drop_hd hd
    obtain ⟨d4, d5, d6⟩ := drop_hd d2
    have hi : (l1 + 1).toInt = ((p + 1 : Nat) : Int) := by
      rw [zi_inc h1 (by omega) (by omega)]
      omega
    have hi2 : (l1 + 1 + 1).toInt = ((p + 2 : Nat) : Int) := by
      rw [zi_inc hi (by omega) (by omega)]
      omega
    have h22 : (l2 + 1).toInt = (12 : Int) - n := by
      rw [zi_inc h2 (by omega) (by omega)]
      omega
    unfold pWd
    rw [X1_faultOf_4, if_neg (by rw [zi_le]; omega), bsm, tV_at hT h1, d1, bsm, k_isLetter, bsm]
    dsimp only
    by_cases g : fgr c
    · rw [i01, if_pos (.inr g), k_takesFigure, bsm, i01, if_pos g, tV_at hT hi, d4, bsm, k_isFigure, bsm, i01, if_pos g]
      dsimp only
      by_cases g3 : isf d
      · rw [if_pos g3, if_pos g3, fo_51 hT hi2]
        by_cases g4 : t = []
        · rw [if_pos g4, if_neg (by rw [g4] at d6; simp only [List.length_nil] at d6; omega)]
          exact ⟨_, rfl, rfl⟩
        · have : 0 < t.length := List.length_pos_iff.mpr g4
          rw [if_neg g4, if_pos (by omega)]
          exact fo_4 hT n (p + 2) t fn _ _ d5 (by omega) hi2 h22 (by omega) (by omega)
      · rw [if_neg g3, if_neg g3]
        exact ⟨_, rfl, by rw [hi]; rfl⟩
    · rw [if_neg g]
      by_cases g2 : bre c
      · rw [i01, if_pos (.inl g2), k_takesFigure, bsm, i01, if_neg g, fo_51 hT hi, if_pos (by simp only [List.length_cons] at d3; omega), if_pos g2]
        exact fo_4 hT n (p + 1) (d :: t) fn _ _ d2 (by omega) hi h22 (by omega) (by omega)
      · rw [i01, if_neg (fun q => q.elim g2 g), if_neg g2]
        exact ⟨_, rfl, h1⟩
theorem k_faultW {S : AH} {bs : List Int32} (hT : tV S bs) : ∃ x, X1_faultOf S (some 1) = some (x, S) ∧ x.toInt = (pWd 12 0 bs).1 := fo_4 hT 12 0 bs FU 0 0 rfl (by unfold FU; omega) rfl rfl (Nat.le_refl _) (by omega)
-- the words' row
theorem let_nf {c : Int32} (h : bre c ∨ fgr c) : ¬ isf c := by
  unfold isf
  rcases h with h | h
  · rcases h with rfl | rfl | rfl | rfl | rfl | rfl | rfl | rfl <;> decide
  · rcases h with rfl | rfl | rfl | rfl <;> decide
theorem fig_f {w : Wd} (h : okW w) : isf (w.2 + 48) ∧ (w.2 + 48) - 48 = w.2 := by
  have e48 : (48 : Int32).toInt = 48 := rfl
  have e57 : (57 : Int32).toInt = 57 := rfl
  have h2 := h.2
  unfold in2 at h2
  have e : (w.2 + 48).toInt = w.2.toInt + 48 := zi_add (by omega) (by omega)
  exact ⟨⟨zi_le.mpr (by omega), zi_le.mpr (by omega)⟩, Int32.add_sub_cancel _ _⟩
theorem wo_4 {S : AH} {bs : List Int32} (hT : tV S bs) : ∀ (zs : List Wd) (j p fn : Nat) (l1 l2 : Int32), (∀ w ∈ zs, okW w) → l1.toInt = j → j + zs.length ≤ 12 → l2.toInt = p → bs.drop p = enW zs → 2 * zs.length < fn → X1_wordsOf_4 fn S (some 1) l1 l2 = X1_wordsOf_43 S (some 1) (nI (j + zs.length))
  | [], j, p, fn, l1, l2, hok, h1, hj, h2, hd, hf => by
    obtain ⟨fn, rfl⟩ : ∃ q, fn = q + 1 := ⟨fn - 1, by omega⟩
    have hl := tV_len hT
    have := (drop_nl hd).2
    rw [X1_wordsOf_4, bsm, tV_size hT, bsm, if_pos (by rw [zi_le, zo (by omega)]; omega), show l1 = nI (j + ([] : List Wd).length) from zi_eq.mpr (by rw [h1, q_i (by simp only [List.length_nil] at hj ⊢; omega)]; rfl)]
  | w :: zs, j, p, fn, l1, l2, hok, h1, hj, h2, hd, hf => by
    simp only [List.length_cons] at hf hj
    obtain ⟨fn, rfl⟩ : ∃ q, fn = q + 1 := ⟨fn - 1, by omega⟩
    have hl := tV_len hT
    have z1 : ¬ (1 : Int32) = 0 := by decide
    have e12 : (12 : Int32).toInt = 12 := rfl
    have hw := hok w List.mem_cons_self
    rw [enW_c] at hd
    have hb1 : (l1 + 1).toInt = ((j + 1 : Nat) : Int) := by
      rw [zi_inc h1 (by omega) (by omega)]
      omega
    have ej : j + (w :: zs).length = j + 1 + zs.length := by simp only [List.length_cons]; omega
    by_cases g : fgr w.1
    · rw [if_pos g] at hd
      obtain ⟨d1, d2, d3⟩ := drop_hd (show bs.drop p = w.1 :: (w.2 + 48) :: enW zs from hd)
      obtain ⟨d4, d5, d6⟩ := drop_hd d2
      have hi : (l2 + 1).toInt = ((p + 1 : Nat) : Int) := by
        rw [zi_inc h2 (by omega) (by omega)]
        omega
      have hi2 : (l2 + 1 + 1).toInt = ((p + 2 : Nat) : Int) := by
        rw [zi_inc hi (by omega) (by omega)]
        omega
      obtain ⟨fn, rfl⟩ : ∃ q, fn = q + 1 := ⟨fn - 1, by omega⟩
      rw [X1_wordsOf_4, bsm, tV_size hT, bsm, if_neg (by rw [zi_le, zo (by omega)]; omega), if_neg (by rw [zi_le]; omega), tV_at hT h2, d1, bsm, k_isFigure, bsm, i01, if_neg (let_nf (.inr g))]
      unfold X1_wordsOf_35
      rw [X1_wordsOf_4, bsm, tV_size hT, bsm, if_neg (by rw [zi_le, zo (by omega)]; omega)]
      by_cases q : j + 1 = 12
      · rw [if_pos (by rw [zi_le]; omega)]
        have hz : zs = [] := List.length_eq_zero_iff.mp (by omega)
        subst hz
        rw [show l1 + 1 = nI (j + [w].length) from zi_eq.mpr (by rw [hb1, q_i (by simp only [List.length_cons, List.length_nil]; omega)]; rfl)]
      · rw [if_neg (by rw [zi_le]; omega), tV_at hT hi, d4, bsm, k_isFigure, bsm, i01, if_pos (fig_f hw).1]
        unfold X1_wordsOf_35
        rw [ej]
        exact wo_4 hT zs (j + 1) (p + 2) fn (l1 + 1 + 0) (l2 + 1 + 1) (fun v hv => hok v (List.mem_cons_of_mem _ hv)) (by rw [Int32.add_zero]; exact hb1) (by omega) hi2 d5 (by omega)
    · rw [if_neg g] at hd
      obtain ⟨d1, d2, d3⟩ := drop_hd (show bs.drop p = w.1 :: enW zs from hd)
      have hi : (l2 + 1).toInt = ((p + 1 : Nat) : Int) := by
        rw [zi_inc h2 (by omega) (by omega)]
        omega
      rw [X1_wordsOf_4, bsm, tV_size hT, bsm, if_neg (by rw [zi_le, zo (by omega)]; omega), if_neg (by rw [zi_le]; omega), tV_at hT h2, d1, bsm, k_isFigure, bsm, i01, if_neg (let_nf hw.1)]
      unfold X1_wordsOf_35
      rw [ej]
      exact wo_4 hT zs (j + 1) (p + 1) fn (l1 + 1) (l2 + 1) (fun v hv => hok v (List.mem_cons_of_mem _ hv)) hb1 (by omega) hi d2 (by omega)
