/-! ===== the class reads a law's text: bytes, signs, steps, figures ===== -/
/-- the reader's own copy of the text -/
def kX (C : CS) (bs : List Int32) : Prop := True ∧ (C.1 27).toInt = bs.length ∧ bs.length ≤ 100 ∧ (∀ x ∈ bs, by9 x) ∧ ∀ (i : Nat) (x : Int32), bs[i]? = some x → C.2.1 5 i = x
def frE (C C' : CS) : Prop := fC C C' [3, 4, 5] [1] [] [] ∧ C'.2.2.2.2 = C.2.2.2.2
theorem frE.rfl {C : CS} : frE C C := ⟨fC.rfl, Eq.refl _⟩
theorem frE.trans {C C1 C2 : CS} (h : frE C C1) (h2 : frE C1 C2) : frE C C2 := ⟨fC.trans h.1 h2.1, h2.2.trans h.2⟩
theorem kX_E {C C' : CS} {bs : List Int32} (h : kX C bs) (hf : frE C C') : kX C' bs := by
  obtain ⟨h1, h2, h3, h4, h5⟩ := h
  refine ⟨h1, by rw [hf.1.1 27 (by decide)]; exact h2, h3, h4, fun i x hx => ?_⟩
  rw [hf.1.2.1 5 (by decide)]
  exact h5 i x hx
theorem frE_4 (C : CS) (v : Int32) : frE C (c1 C 4 v) := ⟨fC_c1 (by decide), Eq.refl _⟩
theorem frE_5 (C : CS) (v : Int32) : frE C (c1 C 5 v) := ⟨fC_c1 (by decide), Eq.refl _⟩
theorem kX_p {C : CS} {bs : List Int32} (h : kX C bs) (p : Nat) : by9 (byA bs p) ∨ byA bs p = -1 := getD_by h.2.2.2.1 p
def rd3 (C : CS) : List Value := [.ref 4, .ref 5, .int (C.1 27), .int (C.1 3), .int (C.1 4), .int (C.1 5), .int (C.1 6), .int (C.1 7), .int (C.1 8), .int (C.1 9)]
theorem c_3 (C : CS) (M : MS) (D : List va_E) : (mh (ccells C) M D)[3]? = some (.inr (4, rd3 C)) := rfl
theorem c_4 (C : CS) (M : MS) (D : List va_E) : (mh (ccells C) M D)[5]? = some (.inl (0, (100, .inl (C.2.1 1)))) := rfl
theorem c_by (C : CS) (M : MS) (D : List va_E) : (mh (ccells C) M D)[4]? = some (.inl (0, (100, .inl (C.2.1 5)))) := rfl
theorem s_3 (C : CS) (M : MS) (D : List va_E) (v : Int32) : sI (mh (ccells C) M D) 3 4 3 v = some (mh (ccells (c1 C 3 v)) M D) := rfl
theorem s_4 (C : CS) (M : MS) (D : List va_E) (v : Int32) : sI (mh (ccells C) M D) 3 4 4 v = some (mh (ccells (c1 C 4 v)) M D) := rfl
theorem s_5 (C : CS) (M : MS) (D : List va_E) (v : Int32) : sI (mh (ccells C) M D) 3 4 5 v = some (mh (ccells (c1 C 5 v)) M D) := rfl
theorem s_6 (C : CS) (M : MS) (D : List va_E) (v : Int32) : sI (mh (ccells C) M D) 3 4 6 v = some (mh (ccells (c1 C 6 v)) M D) := rfl
theorem s_9 (C : CS) (M : MS) (D : List va_E) (v : Int32) : sI (mh (ccells C) M D) 3 4 9 v = some (mh (ccells (c1 C 9 v)) M D) := rfl
theorem g_3 (C : CS) (M : MS) (D : List va_E) : gI (mh (ccells C) M D) 3 4 3 = some (C.1 3) := rfl
theorem g_4 (C : CS) (M : MS) (D : List va_E) : gI (mh (ccells C) M D) 3 4 4 = some (C.1 4) := rfl
theorem g_5 (C : CS) (M : MS) (D : List va_E) : gI (mh (ccells C) M D) 3 4 5 = some (C.1 5) := rfl
theorem g_6 (C : CS) (M : MS) (D : List va_E) : gI (mh (ccells C) M D) 3 4 6 = some (C.1 6) := rfl
theorem g_7 (C : CS) (M : MS) (D : List va_E) : gI (mh (ccells C) M D) 3 4 7 = some (C.1 7) := rfl
theorem g_8 (C : CS) (M : MS) (D : List va_E) : gI (mh (ccells C) M D) 3 4 8 = some (C.1 8) := rfl
theorem g_9 (C : CS) (M : MS) (D : List va_E) : gI (mh (ccells C) M D) 3 4 9 = some (C.1 9) := rfl
theorem g_st (C : CS) (M : MS) (D : List va_E) : gQ (mh (ccells C) M D) 3 4 1 = some (some 5) := rfl
theorem g_by (C : CS) (M : MS) (D : List va_E) : gQ (mh (ccells C) M D) 3 4 0 = some (some 4) := rfl
theorem g_sz (C : CS) (M : MS) (D : List va_E) : gI (mh (ccells C) M D) 3 4 2 = some (C.1 27) := rfl
theorem s_sz (C : CS) (M : MS) (D : List va_E) (v : Int32) : sI (mh (ccells C) M D) 3 4 2 v = some (mh (ccells (c1 C 27 v)) M D) := rfl
theorem n_st (C : CS) (M : MS) (D : List va_E) : aN (mh (ccells C) M D) (some 5) = some 100 := rfl
theorem n_by (C : CS) (M : MS) (D : List va_E) : aN (mh (ccells C) M D) (some 4) = some 100 := rfl
theorem z_cO {α : Type} (C : CS) (M : MS) (D : List va_E) (o : Option α) : cO (mh (ccells C) M D) 3 4 o = o := e_cO (c_3 C M D)
theorem k_lat {C : CS} {bs : List Int32} {p : Nat} (M : MS) (D : List va_E) (hX : kX C bs) (hp : (C.1 4).toInt = p) : X4_at (mh (ccells C) M D) 3 = some (byA bs p, mh (ccells C) M D) := by
  obtain ⟨-, h3, h4, -, h5⟩ := hX
  have e0 : (0 : Int32).toInt = 0 := rfl
  have e100 : (100 : Int32).toInt = 100 := rfl
  unfold byA X4_at X4_at_0 X4_at_42 X4_at_43
  rw [g_4, bsm, if_neg (by rw [zi_lt]; omega), bsm, g_sz, bsm]
  by_cases q : p < bs.length
  · rw [if_neg (by rw [zi_le]; omega), bsm, g_by, bsm, n_by, bsm, if_neg (by rw [zi_le]; omega), bsm, bsm, e_aA (c_by C M D) hp (by omega), bsm, h5 p _ (List.getElem?_eq_getElem q), List.getD_eq_getElem?_getD, List.getElem?_eq_getElem q]
    rfl
  · rw [if_pos (by rw [zi_le]; omega), List.getD_eq_getElem?_getD, List.getElem?_eq_none (by omega)]
    rfl
theorem c1_4 (C : CS) (v : Int32) : (c1 C 4 v).1 4 = v := rfl
theorem k_sign {C : CS} {bs : List Int32} {p : Nat} (M : MS) (D : List va_E) (hX : kX C bs) (hp : (C.1 4).toInt = p) (x : Int32) : X4_sign (mh (ccells C) M D) 3 x = if byA bs p = x then some (1, mh (ccells (c1 C 4 (C.1 4 + 1))) M D) else some (0, mh (ccells C) M D) := by
  unfold X4_sign X4_sign_0
  rw [z_cO, k_lat M D hX hp, bsm]
  dsimp only
  by_cases h : byA bs p = x
  · rw [if_pos h, if_pos h, g_4, bsm, s_4, bsm]
    exact zg_z _ _ (.inr rfl)
  · rw [if_neg h, if_neg h]
    exact zg_z _ _ (.inl rfl)
def kTs (C : CS) (ts : List Tk) : Prop := (C.1 3).toInt = ts.length ∧ ∀ (j : Nat) (t : Tk), ts[j]? = some t → C.2.1 1 j = eK t
theorem u_4 (C : CS) (M : MS) (D : List va_E) {i x : Int32} {q : Nat} (hi : i.toInt = q) (hq : q < 100) : uA 0 (mh (ccells C) M D) (some 5) i x = some (mh (ccells (c2 C 1 (upd (C.2.1 1) q x))) M D) := by
  rw [e_uA (c_4 C M D) hi hq]
  rfl
theorem k_addStep {C : CS} {ts : List Tk} (M : MS) (D : List va_E) (h : kTs C ts) (hl : ts.length < 100) (t : Tk) (x : Int32) (hx : x = eK t) : ∃ C', X4_addStep (mh (ccells C) M D) 3 x = some (1, mh (ccells C') M D) ∧ kTs C' (ts ++ [t]) ∧ frE C C' ∧ C'.1 4 = C.1 4 ∧ C'.1 5 = C.1 5 := by
  have e0 : (0 : Int32).toInt = 0 := rfl
  have e100 : (100 : Int32).toInt = 100 := rfl
  have h1 := h.1
  refine ⟨c1 (c2 C 1 (upd (C.2.1 1) ts.length x)) 3 (C.1 3 + 1), ?_, ⟨?_, fun j u hu => ?_⟩, ⟨fC.trans (fC_c2 (by decide)) (fC_c1 (by decide)), rfl⟩, rfl, rfl⟩
  · unfold X4_addStep X4_addStep_0 X4_addStep_39
    rw [g_3, bsm, if_neg (by rw [zi_lt]; omega), bsm, g_st, bsm, n_st, bsm, if_neg (by rw [zi_le]; omega), bsm, bsm, u_4 C M D h1 hl, bsm, g_3, bsm, s_3, bsm]
    exact zg_z _ _ (.inr rfl)
  · show (C.1 3 + 1).toInt = _
    rw [zi_inc h1 (by omega) (by omega), List.length_append]
    rfl
  · show upd (C.2.1 1) ts.length x j = eK u
    unfold upd
    by_cases e : j = ts.length
    · rw [if_pos e]
      rw [e, List.getElem?_append_right (Nat.le_refl _), Nat.sub_self] at hu
      cases hu
      exact hx
    · rw [if_neg e]
      by_cases e2 : j < ts.length
      · rw [List.getElem?_append_left e2] at hu
        exact h.2 j u hu
      · rw [List.getElem?_eq_none (by rw [List.length_append]; simp only [List.length_cons, List.length_nil]; omega)] at hu
        cases hu
def frN (C C' : CS) : Prop := fC C C' [4, 5] [] [] [] ∧ C'.2.2.2.2 = C.2.2.2.2
theorem frN.rfl {C : CS} : frN C C := ⟨fC.rfl, Eq.refl _⟩
theorem frN.trans {C C1 C2 : CS} (h : frN C C1) (h2 : frN C1 C2) : frN C C2 := ⟨fC.trans h.1 h2.1, h2.2.trans h.2⟩
theorem fC_mono {C C' : CS} {a b c d a2 b2 c2 d2 : List Nat} (h : fC C C' a b c d) (ha : ∀ k, k ∈ a → k ∈ a2) (hb : ∀ k, k ∈ b → k ∈ b2) (hc : ∀ k, k ∈ c → k ∈ c2) (hd : ∀ k, k ∈ d → k ∈ d2) : fC C C' a2 b2 c2 d2 := ⟨fun k q => h.1 k (fun x => q (ha k x)), fun k q => h.2.1 k (fun x => q (hb k x)), fun k q => h.2.2.1 k (fun x => q (hc k x)), fun k q => h.2.2.2 k (fun x => q (hd k x))⟩
theorem frN_E {C C' : CS} (h : frN C C') : frE C C' := ⟨fC_mono h.1 (by decide) (by simp) (by simp) (by simp), h.2⟩
theorem kTs_N {C C' : CS} {ts : List Tk} (h : kTs C ts) (hf : frN C C') : kTs C' ts := by
  refine ⟨by rw [hf.1.1 3 (by decide)]; exact h.1, fun j t ht => ?_⟩
  rw [hf.1.2.1 1 (by decide)]
  exact h.2 j t ht
theorem k_fig7 {bs : List Int32} (M : MS) (D : List va_E) : ∀ (k j p a fn : Nat) (C : CS) (l1 : Int32), kX C bs → k + j = 3 → (C.1 4).toInt = p → p ≤ bs.length → (C.1 5).toInt = a → a < 10 ^ j → l1.toInt = j → k < fn → ∃ C', X4_figures_7 fn (mh (ccells C) M D) 3 l1 = some (if p < (pNum bs k p a).1 + j then 1 else 0, mh (ccells C') M D) ∧ (C'.1 4).toInt = (pNum bs k p a).1 ∧ (C'.1 5).toInt = (pNum bs k p a).2 ∧ frN C C'
  | 0, j, p, a, fn, C, l1, hX, hk, hp, hpl, ha, ha2, h1, hf => by
    obtain ⟨fn, rfl⟩ : ∃ q, fn = q + 1 := ⟨fn - 1, by omega⟩
    have e0 : (0 : Int32).toInt = 0 := rfl
    have e3 : (3 : Int32).toInt = 3 := rfl
    refine ⟨C, ?_, hp, ha, frN.rfl⟩
    unfold X4_figures_7 X4_figures_57 X4_figures_66 pNum
    dsimp only
    rw [if_pos (by rw [zi_le]; omega), if_neg (by rw [zi_le]; omega), if_pos (by omega)]
  | k + 1, j, p, a, fn, C, l1, hX, hk, hp, hpl, ha, ha2, h1, hf => by
    obtain ⟨fn, rfl⟩ : ∃ q, fn = q + 1 := ⟨fn - 1, by omega⟩
    have e0 : (0 : Int32).toInt = 0 := rfl
    have e3 : (3 : Int32).toInt = 3 := rfl
    have e10 : (10 : Int32).toInt = 10 := rfl
    have e48 : (48 : Int32).toInt = 48 := rfl
    have hl := hX.2.2.1
    unfold X4_figures_7 pNum
    rw [if_neg (by rw [zi_le]; omega), z_cO, k_lat M D hX hp, bsm]
    dsimp only
    rw [k_isFigure, bsm, i01]
    dsimp only
    by_cases q : isf (byA bs p)
    · rw [if_pos q, if_pos q]
      obtain ⟨d, d1, d2, d3⟩ := isf_v q
      have hp2 := isf_lt q
      have hj2 : j ≤ 2 := by omega
      have ha3 : a < 100 := Nat.lt_of_lt_of_le ha2 (Nat.pow_le_pow_right (n := 10) (by omega) hj2)
      have hn : ((10 * C.1 5 + byA bs p) - 48).toInt = ((10 * a + d : Nat) : Int) := by
        have m1 : (10 * C.1 5).toInt = 10 * a := by rw [zi_mul (by rw [e10]; omega) (by rw [e10]; omega), e10, ha]
        have m2 : (byA bs p).toInt = 48 + d := by rw [d3, q_i (by omega)]; omega
        have m3 : (10 * C.1 5 + byA bs p).toInt = 10 * a + (48 + d) := by rw [zi_add (by omega) (by omega)]; omega
        rw [zi_sub (by omega) (by omega)]
        omega
      have hX5 : kX (c1 C 5 ((10 * C.1 5 + byA bs p) - 48)) bs := kX_E hX (frE_5 _ _)
      rw [g_5, bsm, z_cO, k_lat M D hX hp, bsm]
      dsimp only
      rw [s_5, bsm, g_4, bsm, s_4, bsm, d2, show 48 + d - 48 = d by omega]
      obtain ⟨C', i1, i2, i3, i4⟩ := k_fig7 M D k (j + 1) (p + 1) (10 * a + d) fn (c1 (c1 C 5 ((10 * C.1 5 + byA bs p) - 48)) 4 (C.1 4 + 1)) (l1 + 1) (kX_E hX5 (frE_4 _ _)) (by omega) (by
        show (C.1 4 + 1).toInt = _
        rw [zi_inc hp (by omega) (by omega)]
        omega) (by omega) hn (by rw [Nat.pow_succ]; omega) (by rw [zi_inc h1 (by omega) (by omega)]; omega) (by omega)
      have hge := (pNum_ok bs k (p + 1) (10 * a + d) (j + 1) (by rw [Nat.pow_succ]; omega) (by omega)).1
      rw [if_pos (by omega)] at i1
      rw [if_pos (by omega)]
      exact ⟨C', i1, i2, i3, frN.trans ⟨fC.trans (fC_c1 (by decide)) (fC_c1 (by decide)), rfl⟩ i4⟩
    · rw [if_neg q, if_neg q]
      refine ⟨C, ?_, hp, ha, frN.rfl⟩
      unfold X4_figures_57 X4_figures_66
      dsimp only
      by_cases q0 : j = 0
      · rw [if_pos (by rw [zi_le]; omega), if_neg (by omega)]
      · rw [if_neg (by rw [zi_le]; omega), if_pos (by omega)]
theorem k_figures {C : CS} {bs : List Int32} {p : Nat} (M : MS) (D : List va_E) (hX : kX C bs) (hp : (C.1 4).toInt = p) (hpl : p ≤ bs.length) : ∃ C', X4_figures (mh (ccells C) M D) 3 = some (if p < (pNum bs 3 p 0).1 then 1 else 0, mh (ccells C') M D) ∧ (C'.1 4).toInt = (pNum bs 3 p 0).1 ∧ (C'.1 5).toInt = (pNum bs 3 p 0).2 ∧ frN C C' := by
  obtain ⟨C', i1, i2, i3, i4⟩ := k_fig7 M D 3 0 p 0 FU (c1 C 5 0) 0 (kX_E hX (frE_5 _ _)) rfl hp hpl rfl (by decide) rfl (by unfold FU; omega)
  refine ⟨C', ?_, i2, i3, frN.trans ⟨fC_c1 (by decide), rfl⟩ i4⟩
  unfold X4_figures X4_figures_0
  rw [s_5, bsm, i1, Nat.add_zero]
  by_cases q : p < (pNum bs 3 p 0).1
  · rw [if_pos q]
    exact zg_z _ _ (.inr rfl)
  · rw [if_neg q]
    exact zg_z _ _ (.inl rfl)
