/-! ===== the reference: one duty against a bar ===== -/
def fr31 (M M' : MS) : Prop := fM M M' [] [31] []
theorem fr31.rfl {M : MS} : fr31 M M := fM.rfl
theorem fr31.trans {M M1 M2 : MS} (h : fr31 M M1) (h2 : fr31 M1 M2) : fr31 M M2 := fM.trans h h2
theorem fr31_S {M M' : MS} (h : fr31 M M') : frS M M' := fM_mono h (by decide) (by decide) (by decide)
theorem dM_eq {M M' : MS} {ds : List Dt} (h28 : M'.1 28 = M.1 28) (h1 : M'.2.1 21 = M.2.1 21) (h2 : M'.2.1 22 = M.2.1 22) (h3 : M'.2.1 23 = M.2.1 23) (h4 : M'.2.1 24 = M.2.1 24) (h5 : M'.2.1 25 = M.2.1 25) (h6 : M'.2.1 26 = M.2.1 26) (h : dM M ds) : dM M' ds := by
  unfold dM at h ⊢
  rw [h28, h1, h2, h3, h4, h5, h6]
  exact h
theorem dM_31 {M M' : MS} {ds : List Dt} (h : fr31 M M') (hd : dM M ds) : dM M' ds := dM_eq (h.1 28 (by decide)) (h.2.1 21 (by decide)) (h.2.1 22 (by decide)) (h.2.1 23 (by decide)) (h.2.1 24 (by decide)) (h.2.1 25 (by decide)) (h.2.1 26 (by decide)) hd
theorem dM_get {M : MS} {ds : List Dt} {k : Nat} {z : Dt} {i : Int32} (h : dM M ds) (hz : ds[k]? = some z) (hi : i.toInt = k) : mA M 21 i = some z.1 ∧ mA M 22 i = some z.2.1 ∧ mA M 23 i = some z.2.2.1 ∧ mA M 24 i = some z.2.2.2.1 ∧ mA M 25 i = some z.2.2.2.2.1 ∧ mA M 26 i = some z.2.2.2.2.2 := by
  have hk := (List.getElem?_eq_some_iff.mp hz).1
  have h2 := h.2.1
  have e := h.2.2 k z hz
  rw [mA_ok (j := 21) (q := k) hi (by show k < 12; omega), mA_ok (j := 22) (q := k) hi (by show k < 12; omega), mA_ok (j := 23) (q := k) hi (by show k < 12; omega), mA_ok (j := 24) (q := k) hi (by show k < 12; omega), mA_ok (j := 25) (q := k) hi (by show k < 12; omega), mA_ok (j := 26) (q := k) hi (by show k < 12; omega), e]
  exact ⟨rfl, rfl, rfl, rfl, rfl, rfl⟩
theorem r_paid4 {M : MS} {ds : List Dt} (hM : dM M ds) (who : Int32) : ∀ (us : List Dt) (k fn : Nat) (l2 l3 : Int32), ds.drop k = us → us.length < fn → l3.toInt = k → X8_paidTo_4 fn M who l2 l3 = some (pdF who l2 us, M)
  | [], k, fn, l2, l3, hd, hf, h3 => by
    obtain ⟨fn, rfl⟩ : ∃ q, fn = q + 1 := ⟨fn - 1, by omega⟩
    have hk := List.drop_eq_nil_iff.mp hd
    rw [X8_paidTo_4, if_pos (by rw [zi_le, hM.1]; omega)]
    rfl
  | z :: us, k, fn, l2, l3, hd, hf, h3 => by
    simp only [List.length_cons] at hf
    obtain ⟨fn, rfl⟩ : ∃ q, fn = q + 1 := ⟨fn - 1, by omega⟩
    have hl := hM.2.1
    obtain ⟨d1, d2, d3⟩ := drop_c hd
    obtain ⟨g1, g2, g3, g4, g5, g6⟩ := dM_get hM d1 h3
    have hi : (l3 + 1).toInt = ((k + 1 : Nat) : Int) := by
      rw [zi_inc h3 (by omega) (by omega)]
      omega
    have ih := fun x => r_paid4 hM who us (k + 1) fn x (l3 + 1) d2 (by omega) hi
    rw [X8_paidTo_4, if_neg (by rw [zi_le, hM.1]; omega), g4, bsm]
    unfold pdF X8_paidTo_56 X8_paidTo_57
    by_cases q3 : z.2.2.2.1 < 10
    · rw [if_pos q3, if_pos q3, ite_self, ite_self, Int32.add_zero]
      exact ih _
    · rw [if_neg q3, if_neg q3, g1, bsm]
      by_cases q1 : z.1 = who
      · rw [if_pos q1, if_pos q1, Int32.add_zero]
        exact ih _
      · rw [if_neg q1, if_neg q1, g2, bsm]
        by_cases q2 : z.2.1 = 1
        · rw [if_pos q2, if_pos q2, bsm]
          exact ih _
        · rw [if_neg q2, if_neg q2, Int32.add_zero]
          exact ih _
theorem r_paid {M : MS} {ds : List Dt} (hM : dM M ds) (who : Int32) : X8_paidTo M who = some (pdF who 0 ds, M) := r_paid4 hM who ds 0 FU 0 0 rfl (by have := hM.2.1; unfold FU; omega) rfl
theorem r_factOf {M : MS} {ds : List Dt} {k : Nat} {z : Dt} {i : Int32} (hM : dM M ds) (hz : ds[k]? = some z) (hi : i.toInt = k) (f : Nat) (hf : f ≤ 6) : X8_factOf M (nI f) i = some (fct z (pdF z.1 0 ds) f, M) := by
  obtain ⟨g1, g2, g3, g4, g5, g6⟩ := dM_get hM hz hi
  unfold X8_factOf X8_factOf_0
  rcases (show f = 0 ∨ f = 1 ∨ f = 2 ∨ f = 3 ∨ f = 4 ∨ f = 5 ∨ f = 6 by omega) with rfl | rfl | rfl | rfl | rfl | rfl | rfl
  · rw [if_pos (by decide), g1, bsm]
    rfl
  · rw [if_neg (by decide), if_pos (by decide), g2, bsm]
    rfl
  · rw [if_neg (by decide), if_neg (by decide), if_pos (by decide), g3, bsm]
    rfl
  · rw [if_neg (by decide), if_neg (by decide), if_neg (by decide), if_pos (by decide), g4, bsm]
    rfl
  · rw [if_neg (by decide), if_neg (by decide), if_neg (by decide), if_neg (by decide), if_pos (by decide), g5, bsm]
    rfl
  · rw [if_neg (by decide), if_neg (by decide), if_neg (by decide), if_neg (by decide), if_neg (by decide), if_pos (by decide), g6, bsm]
    rfl
  · rw [if_neg (by decide), if_neg (by decide), if_neg (by decide), if_neg (by decide), if_neg (by decide), if_neg (by decide), g1, bsm, r_paid hM, bsm]
    rfl
theorem q_div {a b : Nat} (ha : a < 2147483648) (hb : 0 < b) (hb2 : b < 2147483648) : nI a / nI b = nI (a / b) := by
  apply Int32.toInt_inj.mp
  have hle : a / b ≤ a := Nat.div_le_self a b
  rw [Int32.toInt_div, q_i ha, q_i hb2, q_i (Nat.lt_of_le_of_lt hle ha), ← Int.ofNat_tdiv]
  generalize a / b = q at hle ⊢
  exact zi_bm (by omega) (by omega)
theorem q_mul {a b : Nat} (h : a * b < 2147483648) (ha : a < 2147483648) (hb : b < 2147483648) : nI a * nI b = nI (a * b) := by
  have e : (nI a).toInt * (nI b).toInt = ((a * b : Nat) : Int) := by rw [q_i ha, q_i hb, Int.natCast_mul]
  apply Int32.toInt_inj.mp
  rw [zi_mul (by rw [e]; generalize a * b = q at h; omega) (by rw [e]; generalize a * b = q at h; omega), e, q_i h]
theorem q_sub {a b : Nat} (ha : a < 2147483648) (h : b ≤ a) : nI a - nI b = nI (a - b) := by
  apply Int32.toInt_inj.mp
  rw [zi_sub (by rw [q_i ha, q_i (by omega)]; omega) (by rw [q_i ha, q_i (by omega)]; omega), q_i ha, q_i (by omega), q_i (by omega)]
  omega
theorem tr_num {t : Tk} (h : tkOk t) (h7 : t.1 < 7) : eR t = nI (10000 * t.1 + 1000 * t.2.1 + t.2.2) ∧ eR t / 10000 = nI t.1 ∧ (eR t / 1000) - (eR t / 1000) / 10 * 10 = nI t.2.1 ∧ eR t - eR t / 1000 * 1000 = nI t.2.2 := by
  obtain ⟨f, s, n⟩ := t
  obtain ⟨h1, h2, h3⟩ := h
  dsimp only at *
  have e : eR (f, s, n) = nI (10000 * f + 1000 * s + n) := by
    unfold eR
    rw [if_neg (show ¬ f = 7 by omega), if_neg (show ¬ f = 8 by omega), if_neg (show ¬ f = 9 by omega)]
  have e1 : nI (10000 * f + 1000 * s + n) / 10000 = nI f := by
    rw [show (10000 : Int32) = nI 10000 from rfl, q_div (by omega) (by omega) (by omega)]
    congr 1
    omega
  have e2 : nI (10000 * f + 1000 * s + n) / 1000 = nI (10 * f + s) := by
    rw [show (1000 : Int32) = nI 1000 from rfl, q_div (by omega) (by omega) (by omega)]
    congr 1
    omega
  rw [e]
  refine ⟨rfl, e1, ?_, ?_⟩
  · rw [e2, show (10 : Int32) = nI 10 from rfl, q_div (by omega) (by omega) (by omega), q_mul (by omega) (by omega) (by omega), q_sub (by omega) (by omega)]
    congr 1
    omega
  · rw [e2, show (1000 : Int32) = nI 1000 from rfl, q_mul (by omega) (by omega) (by omega), q_sub (by omega) (by omega)]
    congr 1
    omega
-- the pile
def plR (f : Nat → Int32) (l : List Bool) : Prop := ∀ (j : Nat) (v : Bool), l[j]? = some v → f j = b01 v
theorem pl_push {f : Nat → Int32} {l : List Bool} (h : plR f l) (v : Bool) : plR (upd f l.length (b01 v)) (l ++ [v]) := fun j w hw => by
  unfold upd
  by_cases e : j = l.length
  · rw [if_pos e]
    rw [e, List.getElem?_append_right (Nat.le_refl _), Nat.sub_self] at hw
    cases hw
    rfl
  · rw [if_neg e]
    by_cases e2 : j < l.length
    · rw [List.getElem?_append_left e2] at hw
      exact h j w hw
    · rw [List.getElem?_eq_none (by rw [List.length_append]; simp only [List.length_cons, List.length_nil]; omega)] at hw
      cases hw
theorem pl_pre {f : Nat → Int32} {l m : List Bool} (h : plR f (l ++ m)) : plR f l := fun j w hw => h j w (by
  rw [List.getElem?_append_left (List.getElem?_eq_some_iff.mp hw).1]
  exact hw)
theorem pl_at {f : Nat → Int32} {l m : List Bool} {v : Bool} (h : plR f (l ++ v :: m)) : f l.length = b01 v := h l.length v (by
  rw [List.getElem?_append_right (Nat.le_refl _), Nat.sub_self]
  rfl)
/-- a bar's steps in the reference's rows: clause c, from fr on -/
def cdR (M : MS) (c fr : Nat) (ts : List Tk) : Prop := (M.2.1 13 c).toInt = ((fr + ts.length : Nat) : Int) ∧ fr + ts.length ≤ 500 ∧ ∀ (j : Nat) (t : Tk), ts[j]? = some t → M.2.1 14 (fr + j) = eR t
theorem eR_7 {t : Tk} (h : t.1 = 7) : eR t = -33 := by unfold eR; rw [if_pos h]
theorem eR_8 {t : Tk} (h : t.1 = 8) : eR t = -38 := by unfold eR; rw [if_neg (by omega), if_pos h]
theorem eR_9 {t : Tk} (h : t.1 = 9) : eR t = -124 := by unfold eR; rw [if_neg (by omega), if_neg (by omega), if_pos h]
theorem nar_b (b : Bool) : vp_nar .boolean (b01 b) = b01 b := by cases b <;> rfl
theorem nar_b1 : vp_nar .boolean 1 = b01 true := rfl
theorem nar_b0 : vp_nar .boolean 0 = b01 false := rfl
