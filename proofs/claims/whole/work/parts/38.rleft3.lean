/-! ===== what is left after a set, on the reference ===== -/
abbrev bt (st : Int32) (k : Nat) : Prop := ((st >>> (Int32.ofNat k &&& 31)) &&& 1) = 1
def lwL (l6 l7 : Nat → Int32) (b : Nat) (st : Int32) : Nat → Nat → List Wd
  | _, 0 => []
  | k, m + 1 => if bt st k then lwL l6 l7 b st (k + 1) m else (l6 (12 * b + k), l7 (12 * b + k)) :: lwL l6 l7 b st (k + 1) m
theorem lwL_len (l6 l7 : Nat → Int32) (b : Nat) (st : Int32) : ∀ (m k : Nat), (lwL l6 l7 b st k m).length ≤ m
  | 0, k => Nat.le_refl _
  | m + 1, k => by
    unfold lwL
    have := lwL_len l6 l7 b st m (k + 1)
    by_cases h : bt st k
    · rw [if_pos h]; omega
    · rw [if_neg h, List.length_cons]; omega
theorem i_nat {x : Int32} {k : Nat} (h : x.toInt = k) (hk : k < 2147483648) : x = Int32.ofNat k := zi_eq.mpr (by rw [h, Int32.toInt_ofNat_of_lt hk])
theorem r_has (M : MS) {st x : Int32} {k : Nat} (h : x.toInt = k) (hk : k < 2147483648) : X8_has M st x = some (if bt st k then 1 else 0, M) := by
  have e := i_nat h hk
  subst e
  unfold X8_has X8_has_0 X8_has_14
  by_cases q : bt st k
  · rw [if_pos q, if_pos (show ((st >>> (Int32.ofNat k &&& 31)) &&& 1) = 1 from q)]
    exact zg_z _ _ (.inr rfl)
  · rw [if_neg q, if_neg (show ¬ ((st >>> (Int32.ofNat k &&& 31)) &&& 1) = 1 from q)]
    exact zg_z _ _ (.inl rfl)
theorem r_15 (b n : Nat) (hb : b < 6) (hn : n ≤ 12) (st x : Int32) (hx : x.toInt = b) : ∀ (m k fn : Nat) (M : MS) (al : List Wd) (y : Int32), k + m = n → m < fn → y.toInt = k → (M.2.1 8 b).toInt = n → (M.1 30).toInt = ((12 * b : Nat) : Int) → (M.1 27).toInt = al.length → al.length ≤ k → (∀ (i : Nat) (w : Wd), al[i]? = some w → 0 ≤ (M.2.1 20 i).toInt ∧ (M.2.1 20 i).toInt < 12 ∧ w = (M.2.1 6 (12 * b + (M.2.1 20 i).toNatClampNeg), M.2.1 7 (12 * b + (M.2.1 20 i).toNatClampNeg))) → ∃ M', X8_readsLeft_15 fn M x st y = X8_readsLeft_73 FU M' ∧ pst M' (12 * b) (al ++ lwL (M.2.1 6) (M.2.1 7) b st k m) [] ∧ fM M M' [27, 28, 29] [20] []
  | 0, k, fn, M, al, y, hk, hf, hy, h8, h30, h27, hal, hA => by
    obtain ⟨fn, rfl⟩ : ∃ q, fn = q + 1 := ⟨fn - 1, by omega⟩
    refine ⟨si (si M 28 0) 29 0, ?_, ?_, fM.trans (fM_si (by decide)) (fM_si (by decide))⟩
    · unfold X8_readsLeft_15
      rw [mA_ok hx (by show b < 6; omega), Option.bind_some, if_pos (zi_le.mpr (by omega))]
    · unfold lwL
      rw [List.append_nil]
      refine ⟨0, al.length, rfl, h27, h30, by omega, by omega, by omega, rfl, ?_, fun i w hw => ?_, fun i z hz => by cases hz⟩
      · show 0 + al.length ≤ 12
        omega
      · rw [Nat.zero_add]
        exact hA i w hw
  | m + 1, k, fn, M, al, y, hk, hf, hy, h8, h30, h27, hal, hA => by
    obtain ⟨fn, rfl⟩ : ∃ q, fn = q + 1 := ⟨fn - 1, by omega⟩
    have hi := zi_inc hy (by omega) (by omega)
    unfold X8_readsLeft_15 lwL
    rw [mA_ok hx (by show b < 6; omega), Option.bind_some, if_neg (fun c => by have := zi_le.mp c; omega), r_has M hy (by omega), Option.bind_some]
    dsimp only
    by_cases q : bt st k
    · rw [if_pos q, if_pos q, if_neg (show ¬ (1 : Int32) = 0 by decide)]
      exact r_15 b n hb hn st x hx m (k + 1) fn M al (y + 1) (by omega) (by omega) (by omega) h8 h30 h27 (by omega) hA
    · rw [if_neg q, if_neg q, if_pos rfl, mAs_ok h27 (by show al.length < 12; omega), Option.bind_some]
      have hz := zi_n y
      obtain ⟨M', e1, e2, e3⟩ := r_15 b n hb hn st x hx m (k + 1) fn (si (sa M 20 (upd (M.2.1 20) al.length y)) 27 (M.1 27 + 1)) (al ++ [(M.2.1 6 (12 * b + k), M.2.1 7 (12 * b + k))]) (y + 1) (by omega) (by omega) (by omega) h8 h30 (by
        show (M.1 27 + 1).toInt = _
        rw [zi_inc h27 (by omega) (by omega), List.length_append]
        simp) (by rw [List.length_append]; simp only [List.length_cons, List.length_nil]; omega) (fun i w hw => by
        show 0 ≤ (upd (M.2.1 20) al.length y i).toInt ∧ (upd (M.2.1 20) al.length y i).toInt < 12 ∧ w = (M.2.1 6 (12 * b + (upd (M.2.1 20) al.length y i).toNatClampNeg), M.2.1 7 (12 * b + (upd (M.2.1 20) al.length y i).toNatClampNeg))
        unfold upd
        by_cases e : i = al.length
        · rw [if_pos e]
          subst e
          rw [List.getElem?_append_right (Nat.le_refl _), Nat.sub_self] at hw
          cases hw
          refine ⟨by omega, by omega, ?_⟩
          rw [show y.toNatClampNeg = k by omega]
        · rw [if_neg e]
          by_cases e2 : i < al.length
          · rw [List.getElem?_append_left e2] at hw
            exact hA i w hw
          · rw [List.getElem?_eq_none (by rw [List.length_append]; simp only [List.length_cons, List.length_nil]; omega)] at hw
            cases hw)
      refine ⟨M', e1, ?_, fM.trans (fM.trans (fM_sa (by decide)) (fM_si (by decide))) e3⟩
      rw [List.append_assoc] at e2
      exact e2
