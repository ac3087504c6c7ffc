/-! ===== the class: which duties are barred, whether all is lawful ===== -/
theorem b01_i {α : Type} (b : Bool) (x y : α) : (if b01 b = 0 then x else y) = if b = true then y else x := by cases b <;> rfl
def bdN (br : Dt → Bool) : Nat → List Dt → Nat
  | _, [] => 0
  | k, z :: ds => (if br z = true then 2 ^ k else 0) ||| bdN br (k + 1) ds
theorem bdN_lt (br : Dt → Bool) : ∀ (us : List Dt) (k n : Nat), k + us.length ≤ n → bdN br k us < 2 ^ n
  | [], k, n, h => Nat.two_pow_pos n
  | z :: us, k, n, h => by
    simp only [List.length_cons] at h
    unfold bdN
    apply Nat.or_lt_two_pow
    · by_cases q : br z = true
      · rw [if_pos q]
        exact Nat.pow_lt_pow_right (by omega) (by omega)
      · rw [if_neg q]
        exact Nat.two_pow_pos n
    · exact bdN_lt br us (k + 1) n (by omega)
theorem bdN_bit (br : Dt → Bool) : ∀ (us : List Dt) (k i : Nat), (bdN br k us).testBit i = (decide (k ≤ i) && (match us[i - k]? with
    | some z => br z
    | none => false))
  | [], k, i => by
    unfold bdN
    simp
  | z :: us, k, i => by
    unfold bdN
    rw [Nat.testBit_or, bdN_bit br us (k + 1) i]
    have e : (if br z = true then 2 ^ k else 0).testBit i = (decide (k = i) && br z) := by
      by_cases q : br z = true
      · rw [if_pos q, Nat.testBit_two_pow, q, Bool.and_true]
      · rw [if_neg q, Nat.zero_testBit, Bool.not_eq_true] at *
        rw [q, Bool.and_false]
    rw [e]
    by_cases h1 : k = i
    · subst h1
      rw [Nat.sub_self, decide_eq_true rfl, decide_eq_false (show ¬ k + 1 ≤ k by omega), decide_eq_true (Nat.le_refl k), Bool.false_and, Bool.or_false, Bool.true_and, Bool.true_and]
      rfl
    · rw [decide_eq_false h1, Bool.false_and, Bool.false_or]
      by_cases h2 : k ≤ i
      · obtain ⟨q, rfl⟩ : ∃ q, i = k + 1 + q := ⟨i - k - 1, by omega⟩
        rw [show k + 1 + q - (k + 1) = q by omega, show k + 1 + q - k = q + 1 by omega, List.getElem?_cons_succ, decide_eq_true (by omega), decide_eq_true (by omega)]
      · rw [decide_eq_false (by omega), decide_eq_false (by omega), Bool.false_and, Bool.false_and]
theorem bdN_0 (br : Dt → Bool) (ds : List Dt) : bdN br 0 ds = 0 ↔ ds.all (fun z => !br z) = true := by
  rw [List.all_eq_true]
  constructor
  · intro h z hz
    obtain ⟨i, hi⟩ := List.getElem?_of_mem hz
    have e := bdN_bit br ds 0 i
    rw [h, Nat.zero_testBit, Nat.sub_zero, hi] at e
    have e : false = (decide (0 ≤ i) && br z) := e
    rw [decide_eq_true (Nat.zero_le i), Bool.true_and] at e
    rw [← e]
    rfl
  · intro h
    apply Nat.eq_of_testBit_eq
    intro i
    rw [bdN_bit, Nat.zero_testBit, Nat.sub_zero]
    cases hi : ds[i]? with
    | none => rw [Bool.and_false]
    | some z =>
      have := h z (List.mem_of_getElem? hi)
      show (_ && br z) = false
      rw [Bool.not_eq_true'] at this
      rw [this, Bool.and_false]
def brS (cs : List Cz) (ds : List Dt) (z : Dt) : Bool := brd z (pdF z.1 0 ds) cs
theorem ok_who {z : Dt} (h : okD z) : z.1 = 0 ∨ z.1 = 1 := by
  obtain ⟨⟨h0, h1⟩, -⟩ := h
  by_cases q : z.1.toInt = 0
  · exact .inl (zi_eq.mpr q)
  · exact .inr (zi_eq.mpr (show z.1.toInt = 1 by omega))
theorem k_bd18 {S : AH} {lo a r : Nat} {cs : List Cz} {ds : List Dt} (hL : LV S lo cs) (hk : okL cs) (hV : dV S a r (ds.map dpk)) (hok : ∀ z ∈ ds, okD z) : ∀ (us : List Dt) (k fn acc : Nat) (l5 : Int32), ds.drop k = us → us.length < fn → l5.toInt = k → acc < 2 ^ 12 → X3_barredDuties_18 fn S lo (some a) (pdF 0 0 ds) (pdF 1 0 ds) (nI acc) l5 = some (nI (acc ||| bdN (brS cs ds) k us), S)
  | [], k, fn, acc, l5, hd, hf, h3, ha => by
    obtain ⟨fn, rfl⟩ : ∃ q, fn = q + 1 := ⟨fn - 1, by omega⟩
    have hk := List.drop_eq_nil_iff.mp hd
    have hl := dV_len hV
    rw [List.length_map] at hl
    rw [X3_barredDuties_18, bsm, dV_size hV, bsm, List.length_map, if_pos (by rw [zi_le, zo (by omega)]; omega)]
    unfold bdN
    rw [Nat.or_zero]
  | z :: us, k, fn, acc, l5, hd, hf, h3, ha => by
    simp only [List.length_cons] at hf
    obtain ⟨fn, rfl⟩ : ∃ q, fn = q + 1 := ⟨fn - 1, by omega⟩
    have hl := dV_len hV
    rw [List.length_map] at hl
    obtain ⟨d1, d2, d3, d4⟩ := map_drop hd
    have hz := hok z (List.mem_of_getElem? d4)
    obtain ⟨g1, g2, g3, g4, g5, g6⟩ := dg_all hz
    have hi : (l5 + 1).toInt = ((k + 1 : Nat) : Int) := by
      rw [zi_inc h3 (by omega) (by omega)]
      omega
    have ih := fun acc ha => k_bd18 hL hk hV hok us (k + 1) fn acc (l5 + 1) d2 (by omega) hi ha
    have h5 : l5 = nI k := zi_eq.mpr (by rw [h3, q_i (by omega)])
    have h2k : (2 : Nat) ^ k < 2 ^ 12 := Nat.pow_lt_pow_right (by omega) (by omega)
    have step : ∀ pd : Int32, pd = pdF z.1 0 ds → X3_barredDuties_50 (X3_barredDuties_18 fn) S lo pd (some a) (pdF 0 0 ds) (pdF 1 0 ds) (nI acc) l5 (dpk z) = some (nI (acc ||| bdN (brS cs ds) k (z :: us)), S) := by
      intro pd hp
      subst hp
      unfold X3_barredDuties_50 X3_barredDuties_72
      rw [k_bars hL hk hz, bsm]
      dsimp only
      rw [b01_i]
      unfold bdN
      by_cases q : brS cs ds z = true
      · rw [if_pos (show brd z (pdF z.1 0 ds) cs = true from q), if_pos q, h5, one_shl (by omega), q_or, ← h5, ih _ (Nat.or_lt_two_pow ha h2k), Nat.or_assoc]
      · rw [if_neg (show ¬ brd z (pdF z.1 0 ds) cs = true from q), if_neg q, ih _ ha, Nat.zero_or]
    rw [X3_barredDuties_18, bsm, dV_size hV, bsm, List.length_map, if_neg (by rw [zi_le, zo (by omega)]; omega), dV_at hV h3, bsm, d1]
    unfold X2_digit X2_digit_0
    rw [bsm, g1]
    dsimp only
    by_cases q : z.1 = 0
    · rw [if_pos q]
      exact step _ (by rw [q])
    · rw [if_neg q]
      exact step _ (by rw [(ok_who hz).resolve_left q])
theorem k_barredD {S : AH} {lo a r : Nat} {cs : List Cz} {ds : List Dt} (hL : LV S lo cs) (hk : okL cs) (hV : dV S a r (ds.map dpk)) (hok : ∀ z ∈ ds, okD z) : cO S lo 3 (X3_barredDuties S lo (some a)) = some (nI (bdN (brS cs ds) 0 ds), S) := by
  have hl := dV_len hV
  rw [List.length_map] at hl
  obtain ⟨st, -, -, h1, h2⟩ := id hL
  rw [e_cO h1]
  unfold X3_barredDuties X3_barredDuties_0
  rw [bsm, k_paid hV hok, bsm, k_paid hV hok, bsm]
  have e := k_bd18 hL hk hV hok ds 0 FU 0 0 rfl (by unfold FU; omega) rfl (by omega)
  rw [Nat.zero_or] at e
  exact e
def lawB (cs : List Cz) (ds : List Dt) (more : Int32) : Bool := (decide (kMo cs = -1) || decide (lnF 0 ds ≤ kMo cs + more)) && (!hasK 1 cs || (gvF 0 ds && gvF 1 ds)) && ds.all (fun z => !brS cs ds z)
theorem k_allows {S : AH} {lo a r : Nat} {cs : List Cz} {ds : List Dt} (hL : LV S lo cs) (hk : okL cs) (hV : dV S a r (ds.map dpk)) (hok : ∀ z ∈ ds, okD z) (more : Int32) : cO S lo 3 (X3_allows S lo (some a) more) = some (b01 (lawB cs ds more), S) := by
  have hl := dV_len hV
  rw [List.length_map] at hl
  obtain ⟨st, -, -, h1, h2⟩ := id hL
  have c48 : X3_allows_48 S lo (some a) = some (b01 (ds.all (fun z => !brS cs ds z)), S) := by
    unfold X3_allows_48 X3_allows_61
    rw [k_barredD hL hk hV hok, bsm]
    have hb := bdN_lt (brS cs ds) ds 0 12 (by omega)
    have e := bdN_0 (brS cs ds) ds
    by_cases q : bdN (brS cs ds) 0 ds = 0
    · rw [if_pos (by rw [q]; rfl), e.mp q]
      rfl
    · rw [if_neg (show ¬ nI (bdN (brS cs ds) 0 ds) = 0 from fun c => q ((nI_inj (b := 0) (by omega) (by omega)).mp c)), show ds.all (fun z => !brS cs ds z) = false from by
        cases h : ds.all (fun z => !brS cs ds z) with
        | true => exact absurd (e.mpr h) q
        | false => rfl]
      rfl
  have c23 : X3_allows_23 S lo (some a) = some (b01 ((!hasK 1 cs || (gvF 0 ds && gvF 1 ds)) && ds.all (fun z => !brS cs ds z)), S) := by
    unfold X3_allows_23 X3_allows_46
    rw [e_gI h1 rfl, bsm, b01_i]
    cases hasK 1 cs with
    | false =>
      rw [if_neg (by decide), c48]
      rfl
    | true =>
      rw [if_pos rfl, bsm, k_given hV hok, bsm, b01_i]
      cases gvF 0 ds with
      | false =>
        rw [if_neg (by decide)]
        rfl
      | true =>
        rw [if_pos rfl]
        dsimp only
        rw [k_given hV hok, bsm, b01_i]
        cases gvF 1 ds with
        | false =>
          rw [if_neg (by decide)]
          rfl
        | true =>
          rw [if_pos rfl]
          exact c48
  rw [e_cO h1]
  unfold X3_allows X3_allows_0 lawB
  rw [e_gI h1 rfl, bsm]
  by_cases q : kMo cs = -1
  · rw [if_pos q, c23, decide_eq_true q, Bool.true_or, Bool.and_assoc, Bool.true_and, zg_b]
  · rw [if_neg q, decide_eq_false q, Bool.false_or, bsm, k_longs hV hok, bsm]
    dsimp only
    rw [e_gI h1 rfl, bsm]
    by_cases q2 : lnF 0 ds ≤ kMo cs + more
    · rw [if_pos q2, c23, decide_eq_true q2, Bool.and_assoc, Bool.true_and, zg_b]
    · rw [if_neg q2, decide_eq_false q2, Bool.false_and, Bool.false_and]
      exact zg_b false S
