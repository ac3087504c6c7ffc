/-! ===== the reference reads what is left ===== -/
/-- the words from the place on are zl, the duties told so far are ds -/
def pst (M : MS) (bs : Nat) (zl : List Wd) (ds : List Dt) : Prop := ∃ p n : Nat, (M.1 29).toInt = p ∧ (M.1 27).toInt = n ∧ (M.1 30).toInt = bs ∧ bs ≤ 60 ∧ n ≤ 12 ∧ p + zl.length = n ∧ (M.1 28).toInt = ds.length ∧ ds.length + zl.length ≤ 12 ∧ (∀ (i : Nat) (w : Wd), zl[i]? = some w → 0 ≤ (M.2.1 20 (p + i)).toInt ∧ (M.2.1 20 (p + i)).toInt < 12 ∧ w = (M.2.1 6 (bs + (M.2.1 20 (p + i)).toNatClampNeg), M.2.1 7 (bs + (M.2.1 20 (p + i)).toNatClampNeg))) ∧ ∀ (i : Nat) (z : Dt), ds[i]? = some z → z = (M.2.1 21 i, M.2.1 22 i, M.2.1 23 i, M.2.1 24 i, M.2.1 25 i, M.2.1 26 i)
theorem sa_1 (M : MS) (j : Nat) (f : Nat → Int32) : (sa M j f).1 = M.1 := rfl
theorem mA_ok {M : MS} {j : Nat} {i : Int32} {q : Nat} (h : i.toInt = q) (h2 : q < mln j) : mA M j i = some (M.2.1 j q) := by
  unfold mA
  have hz := zi_n i
  rw [if_pos (ix_ok (by omega) (by omega)), show i.toNatClampNeg = q by omega]
theorem mAs_ok {M : MS} {j : Nat} {i x : Int32} {q : Nat} (h : i.toInt = q) (h2 : q < mln j) : mAs M j i x = some (sa M j (upd (M.2.1 j) q x)) := by
  unfold mAs
  have hz := zi_n i
  rw [if_pos (ix_ok (by omega) (by omega)), show i.toNatClampNeg = q by omega]
theorem r_ahead {M : MS} {bs : Nat} {zl : List Wd} {ds : List Dt} (h : pst M bs zl ds) : X8_ahead M = some (hdA zl, M) := by
  obtain ⟨p, n, h1, h2, h3, h4, h5, h6, h7, h8, h9, h10⟩ := h
  unfold X8_ahead X8_ahead_0 X8_ahead_34
  cases zl with
  | nil =>
    have h6 : p + 0 = n := h6
    rw [if_pos (zi_le.mpr (by omega))]
    rfl
  | cons w t =>
    simp only [List.length_cons] at h6
    obtain ⟨a1, a2, a3⟩ := h9 0 w rfl
    rw [if_neg (fun c => by have := zi_le.mp c; omega), mA_ok (q := p) h1 (by show p < 12; omega), Option.bind_some]
    have hz := zi_n (M.2.1 20 (p + 0))
    have e : (M.1 30 + M.2.1 20 p).toInt = ((bs + (M.2.1 20 p).toNatClampNeg : Nat) : Int) := by
      have hz : (M.2.1 20 p).toNatClampNeg = (M.2.1 20 p).toInt.toNat := zi_n _
      have a1 : 0 ≤ (M.2.1 20 p).toInt := a1
      have a2 : (M.2.1 20 p).toInt < 12 := a2
      rw [zi_add (by omega) (by omega)]
      omega
    have a2 : (M.2.1 20 p).toInt < 12 := a2
    have hz2 : (M.2.1 20 p).toNatClampNeg = (M.2.1 20 p).toInt.toNat := zi_n _
    rw [mA_ok e (by show _ < 72; omega), Option.bind_some]
    show some (_, M) = some (w.1, M)
    rw [a3]
    rfl
theorem r_figure {M : MS} {bs : Nat} {w : Wd} {zl : List Wd} {ds : List Dt} (h : pst M bs (w :: zl) ds) : ∃ M', X8_figureNow M = some (w.2, M') ∧ M' = si M 29 (M.1 29 + 1) ∧ pst M' bs zl ds ∧ ds.length + zl.length < 12 := by
  obtain ⟨p, n, h1, h2, h3, h4, h5, h6, h7, h8, h9, h10⟩ := h
  unfold X8_figureNow X8_figureNow_0
  simp only [List.length_cons] at h6 h8
  obtain ⟨a1, a2, a3⟩ := h9 0 w rfl
  have a1 : 0 ≤ (M.2.1 20 p).toInt := a1
  have a2 : (M.2.1 20 p).toInt < 12 := a2
  have hz : (M.2.1 20 p).toNatClampNeg = (M.2.1 20 p).toInt.toNat := zi_n _
  have e : (M.1 30 + M.2.1 20 p).toInt = ((bs + (M.2.1 20 p).toNatClampNeg : Nat) : Int) := by
    rw [zi_add (by omega) (by omega)]
    omega
  rw [mA_ok (q := p) h1 (by show p < 12; omega), Option.bind_some, mA_ok e (by show _ < 72; omega), Option.bind_some]
  refine ⟨_, ?_, rfl, ⟨p + 1, n, ?_, h2, h3, h4, h5, by omega, h7, by omega, fun i v hv => ?_, h10⟩, by omega⟩
  · rw [a3]; rfl
  · show (M.1 29 + 1).toInt = _
    rw [zi_inc h1 (by omega) (by omega)]
    omega
  · have := h9 (i + 1) v (by rw [List.getElem?_cons_succ]; exact hv)
    rw [show p + (i + 1) = p + 1 + i by omega] at this
    exact this
/-- one word over, whatever it is -/
theorem r_skip {M : MS} {bs : Nat} {w : Wd} {zl : List Wd} {ds : List Dt} (h : pst M bs (w :: zl) ds) : pst (si M 29 (M.1 29 + 1)) bs zl ds := by
  obtain ⟨M', -, rfl, h2, -⟩ := r_figure h
  exact h2
theorem r_duty {M : MS} {bs : Nat} {zl : List Wd} {ds : List Dt} (h : pst M bs zl ds) (hl : ds.length + zl.length < 12) (a b c t : Int32) : ∃ M', X8_duty M a b c t = some ((), M') ∧ pst M' bs zl (ds ++ [(a, b, c, t, 0, 0)]) ∧ fM M M' [28] [21, 22, 23, 24, 25, 26] [] := by
  obtain ⟨p, n, h1, h2, h3, h4, h5, h6, h7, h8, h9, h10⟩ := h
  generalize hq : ds.length = q at h7 h8 hl
  unfold X8_duty X8_duty_0
  rw [mAs_ok (j := 21) (q := q) h7 (by show q < 12; omega), Option.bind_some]
  simp only [sa_1]
  rw [mAs_ok (j := 22) (q := q) h7 (by show q < 12; omega), Option.bind_some]
  simp only [sa_1]
  rw [mAs_ok (j := 23) (q := q) h7 (by show q < 12; omega), Option.bind_some]
  simp only [sa_1]
  rw [mAs_ok (j := 24) (q := q) h7 (by show q < 12; omega), Option.bind_some]
  simp only [sa_1]
  rw [mAs_ok (j := 25) (q := q) h7 (by show q < 12; omega), Option.bind_some]
  simp only [sa_1]
  rw [mAs_ok (j := 26) (q := q) h7 (by show q < 12; omega), Option.bind_some]
  refine ⟨_, rfl, ⟨p, n, h1, h2, h3, h4, h5, h6, ?_, ?_, h9, fun i z hz => ?_⟩, ?_⟩
  · show (M.1 28 + 1).toInt = _
    rw [zi_inc h7 (by omega) (by omega), List.length_append, hq]
    simp
  · rw [List.length_append, hq]
    simp only [List.length_cons, List.length_nil]
    omega
  · show z = (upd (M.2.1 21) q a i, upd (M.2.1 22) q b i, upd (M.2.1 23) q c i, upd (M.2.1 24) q t i, upd (M.2.1 25) q 0 i, upd (M.2.1 26) q 0 i)
    unfold upd
    by_cases e : i = q
    · subst e
      rw [List.getElem?_append_right (by omega), hq, Nat.sub_self] at hz
      cases hz
      simp only [if_true]
    · simp only [if_neg e]
      by_cases e2 : i < q
      · rw [List.getElem?_append_left (by omega)] at hz
        exact h10 i z hz
      · rw [List.getElem?_eq_none (by rw [List.length_append, hq]; simp only [List.length_cons, List.length_nil]; omega)] at hz
        cases hz
  · refine fM.trans (fM.trans (fM.trans (fM.trans (fM.trans (fM.trans (fM_sa ?_) (fM_sa ?_)) (fM_sa ?_)) (fM_sa ?_)) (fM_sa ?_)) (fM_sa ?_)) (fM_si ?_) <;> decide
