/-! ===== the class's table of states, and the readings ===== -/
theorem s_l31 : ∀ n, n < 32 → ((nI n &&& 31).toBitVec.smod 32).toNat = n := by decide +kernel
theorem one_shl {n : Nat} (h : n < 31) : (1 : Int32) <<< (nI n &&& 31) = nI (2 ^ n) := by
  have e := pk_shlN (n := 1) (nI n &&& 31) n (s_l31 n (by omega)) (by
    have : (2 : Nat) ^ n < 2 ^ 31 := Nat.pow_lt_pow_right (by omega) h
    omega)
  rw [Nat.one_mul] at e
  exact e
theorem bt_nat {s k : Nat} (hs : s < 2 ^ 31) (hk : k < 31) : bt (nI s) k ↔ s.testBit k = true := by
  show ((nI s >>> (nI k &&& 31)) &&& 1) = 1 ↔ _
  rw [pk_shrN hs (nI k &&& 31) k (s_l31 k (by omega)), show (1 : Int32) = nI 1 from rfl, q_and, Nat.and_one_is_mod, Nat.testBit_eq_decide_div_mod_eq, decide_eq_true_iff]
  constructor
  · intro e
    have e := congrArg Int32.toInt e
    rw [q_i (by omega), q_i (by omega)] at e
    omega
  · intro e
    rw [e]
theorem lfI_app (st : Int32) (w : Wd) : ∀ (l : List Wd) (k : Nat), lfI st k (l ++ [w]) = lfI st k l ++ (if bt st (k + l.length) then [] else [w])
  | [], k => by
    show lfI st k [w] = [] ++ _
    unfold lfI
    rfl
  | v :: l, k => by
    show lfI st k (v :: (l ++ [w])) = lfI st k (v :: l) ++ _
    unfold lfI
    rw [lfI_app st w l (k + 1), show k + 1 + l.length = k + (v :: l).length by simp only [List.length_cons]; omega]
    by_cases h : bt st k
    · rw [if_pos h, if_pos h]
    · rw [if_neg h, if_neg h]
      rfl
theorem lfI_cong {st su : Int32} : ∀ (l : List Wd) (k : Nat), (∀ i, k ≤ i → i < k + l.length → (bt st i ↔ bt su i)) → lfI st k l = lfI su k l
  | [], k, h => rfl
  | v :: l, k, h => by
    simp only [List.length_cons] at h
    unfold lfI
    rw [lfI_cong l (k + 1) (fun i h1 h2 => h i (by omega) (by omega))]
    have e := h k (Nat.le_refl _) (by omega)
    by_cases q : bt st k
    · rw [if_pos q, if_pos (e.mp q)]
    · rw [if_neg q, if_neg (fun c => q (e.mpr c))]
def stN (zl : List Wd) (s : Nat) : Int32 := rnA 0 (lfI (nI s) 0 zl)
theorem rnA_app (s : Int32) (zl zk : List Wd) : rnA s (zl ++ zk) = rnA (rnA s zl) zk := List.foldl_append
theorem stN_lo {zl : List Wd} {w : Wd} {s : Nat} (hl : zl.length < 12) (hs : s < 2 ^ zl.length) : stN (zl ++ [w]) s = dst (stN zl s) w.1 := by
  have hp : (2 : Nat) ^ zl.length ≤ 2 ^ 12 := Nat.pow_le_pow_right (by omega) (by omega)
  unfold stN
  rw [lfI_app, if_neg (fun c => by
    rw [Nat.zero_add] at c
    have c := (bt_nat (by omega) (by omega)).mp c
    rw [Nat.testBit_lt_two_pow hs] at c
    cases c), rnA_app]
  rfl
theorem stN_hi {zl : List Wd} {w : Wd} {s : Nat} (hl : zl.length < 12) (hs : s < 2 ^ zl.length) : stN (zl ++ [w]) (2 ^ zl.length + s) = stN zl s := by
  have hp : (2 : Nat) ^ zl.length ≤ 2 ^ 12 := Nat.pow_le_pow_right (by omega) (by omega)
  unfold stN
  rw [lfI_app, if_pos (by
    rw [Nat.zero_add, bt_nat (by omega) (by omega), Nat.testBit_two_pow_add_eq, Nat.testBit_lt_two_pow hs]
    rfl), List.append_nil]
  congr 1
  apply lfI_cong
  intro i h1 h2
  rw [bt_nat (by omega) (by omega), bt_nat (by omega) (by omega), Nat.testBit_two_pow_add_gt (by omega)]
def rg9 (x : Int32) : Prop := -1 ≤ x.toInt ∧ x.toInt ≤ 9
theorem rg9_i {c : Prop} [Decidable c] {a b : Int32} (ha : rg9 a) (hb : rg9 b) : rg9 (if c then a else b) := by
  by_cases h : c
  · rw [if_pos h]; exact ha
  · rw [if_neg h]; exact hb
theorem dst_rng (s x : Int32) : rg9 (dst s x) := by
  unfold dst
  repeat' (first | exact ⟨by decide, by decide⟩ | refine rg9_i ?_ ?_)
theorem rnA_rng : ∀ (zl : List Wd) (s : Int32), -1 ≤ s.toInt ∧ s.toInt ≤ 9 → -1 ≤ (rnA s zl).toInt ∧ (rnA s zl).toInt ≤ 9
  | [], s, h => h
  | w :: zl, s, h => by
    rw [rnA_cons]
    exact rnA_rng zl _ (dst_rng s w.1)
theorem stN_rng (zl : List Wd) (s : Nat) : -1 ≤ (stN zl s).toInt ∧ (stN zl s).toInt ≤ 9 := rnA_rng _ _ ⟨by decide, by decide⟩
theorem nar_by {x : Int32} (h0 : -1 ≤ x.toInt) (h1 : x.toInt ≤ 9) : x.toInt8.toInt32 = x := zi_eq.mpr (by rw [by_int]; exact Int.bmod_eq_of_le (by omega) (by omega))
theorem take_snoc {zl : List Wd} {w : Wd} {k : Nat} (h : zl[k]? = some w) : zl.take (k + 1) = zl.take k ++ [w] := by
  rw [List.take_add_one, h]
  rfl
theorem len_take {zl : List Wd} {k : Nat} (h : k ≤ zl.length) : (zl.take k).length = k := by
  rw [List.length_take]
  omega
theorem so_33 {zl : List Wd} {w : Wd} {k p aw N : Nat} {wf : Nat → Int32} {rec : AH → Option Nat → Option Nat → Int32 → Option (Option Nat × AH)} (hok : ∀ w ∈ zl, okW w) (hl : zl.length ≤ 12) (hk : zl[k]? = some w) (hN : N = 2 ^ zl.length) (hwf : ∀ (i : Nat) (v : Wd), zl[i]? = some v → wf i = 100 * v.1 + v.2) (hpw : p ≠ aw) : ∀ (m j fn : Nat) (S : AH) (f : Nat → Int32) (y : Int32), j + m = 2 ^ k → m < fn → y.toInt = j → S[p]? = some (.inl (2, (N, .inl f))) → S[aw]? = some (.inl (0, (zl.length, .inl wf))) → (∀ s, s < j → f s = stN (zl.take (k + 1)) s ∧ f (2 ^ k + s) = stN (zl.take (k + 1)) (2 ^ k + s)) → (∀ s, j ≤ s → s < 2 ^ k → f s = stN (zl.take k) s) → ∃ S' f', X1_statesOf_33 rec fn S (some aw) (some p) (nI k) (nI (2 ^ k)) y = rec S' (some aw) (some p) (nI k + 1) ∧ S'[p]? = some (.inl (2, (N, .inl f'))) ∧ hF S S' [p] ∧ ∀ s, s < 2 ^ (k + 1) → f' s = stN (zl.take (k + 1)) s
  | 0, j, fn, S, f, y, hj, hf, hy, hp, hw, h1, h2 => by
    obtain ⟨fn, rfl⟩ : ∃ q, fn = q + 1 := ⟨fn - 1, by omega⟩
    have hkl := (List.getElem?_eq_some_iff.mp hk).1
    have hp2 : (2 : Nat) ^ k ≤ 2 ^ 12 := Nat.pow_le_pow_right (by omega) (by omega)
    refine ⟨S, f, ?_, hp, hF.rfl, fun s hs => ?_⟩
    · unfold X1_statesOf_33 X1_statesOf_82
      rw [if_pos (by rw [zi_le, q_i (by omega)]; omega)]
    · rw [Nat.pow_succ] at hs
      by_cases q : s < 2 ^ k
      · exact (h1 s (by omega)).1
      · have := (h1 (s - 2 ^ k) (by omega)).2
        rw [show 2 ^ k + (s - 2 ^ k) = s by omega] at this
        exact this
  | m + 1, j, fn, S, f, y, hj, hf, hy, hp, hw, h1, h2 => by
    obtain ⟨fn, rfl⟩ : ∃ q, fn = q + 1 := ⟨fn - 1, by omega⟩
    have hkl := (List.getElem?_eq_some_iff.mp hk).1
    have hp2 : (2 : Nat) ^ (k + 1) ≤ 2 ^ zl.length := Nat.pow_le_pow_right (by omega) (by omega)
    have hp3 : (2 : Nat) ^ zl.length ≤ 2 ^ 12 := Nat.pow_le_pow_right (by omega) (by omega)
    rw [Nat.pow_succ] at hp2
    have hpk : (2 : Nat) ^ k ≤ 2 ^ 12 := Nat.pow_le_pow_right (by omega) (by omega)
    have hy1 : (nI (2 ^ k) + y).toInt = ((2 ^ k + j : Nat) : Int) := by
      rw [zi_add (by rw [q_i (by omega)]; omega) (by rw [q_i (by omega)]; omega), q_i (by omega), hy]
      omega
    have hold := h2 j (Nat.le_refl _) (by omega)
    have hr := stN_rng (zl.take k) j
    have ht := take_snoc hk
    have hlt := len_take (zl := zl) (k := k) (by omega)
    have elo := stN_lo (zl := zl.take k) (w := w) (s := j) (by omega) (by rw [hlt]; omega)
    have ehi := stN_hi (zl := zl.take k) (w := w) (s := j) (by omega) (by rw [hlt]; omega)
    rw [hlt, ← ht] at ehi
    rw [← ht] at elo
    have hr2 := dst_rng (stN (zl.take k) j) w.1
    have c1 : (S.set p (.inl (2, (N, .inl (upd f (2 ^ k + j) (stN (zl.take k) j))))))[p]? = some (.inl (2, (N, .inl (upd f (2 ^ k + j) (stN (zl.take k) j))))) := set_at hp
    have c2 : (S.set p (.inl (2, (N, .inl (upd f (2 ^ k + j) (stN (zl.take k) j))))))[aw]? = some (.inl (0, (zl.length, .inl wf))) := by rw [set_ne hpw]; exact hw
    have u1 : upd f (2 ^ k + j) (stN (zl.take k) j) j = stN (zl.take k) j := by
      unfold upd
      rw [if_neg (by omega)]
      exact hold
    obtain ⟨S', f', e1, e2, e3, e4⟩ := so_33 (rec := rec) hok hl hk hN hwf hpw m (j + 1) fn ((S.set p (.inl (2, (N, .inl (upd f (2 ^ k + j) (stN (zl.take k) j)))))).set p (.inl (2, (N, .inl (upd (upd f (2 ^ k + j) (stN (zl.take k) j)) j (dst (stN (zl.take k) j) w.1)))))) _ (y + 1) (by omega) (by omega) (by rw [zi_inc hy (by omega) (by omega)]; omega) (set_at c1) (by rw [set_ne hpw]; exact c2) (fun s hs => by
      unfold upd
      by_cases q : s = j
      · subst q
        rw [if_pos rfl, if_neg (by omega), if_pos rfl]
        exact ⟨elo.symm, ehi.symm⟩
      · rw [if_neg q, if_neg (by omega), if_neg (by omega), if_neg (by omega)]
        exact h1 s (by omega)) (fun s h3 h4 => by
      unfold upd
      rw [if_neg (by omega), if_neg (by omega)]
      exact h2 s (by omega) h4)
    refine ⟨S', f', ?_, e2, hF.trans (hF.trans (hF_set (by simp)) (hF_set (by simp))) e3, e4⟩
    unfold X1_statesOf_33
    rw [if_neg (by rw [zi_le, q_i (by omega)]; omega), e_aN hp (by omega), bsm, if_neg (by rw [zi_le, hy1, zo (by omega)]; omega), e_aA hp hy (by omega), bsm, hold, vp_nar_byte, nar_by hr.1 hr.2, e_uA hp hy1 (by omega), bsm, e_aA c1 hy (by omega), bsm, u1, e_aA c2 (q_i (show k < 2147483648 by omega)) hkl, bsm, hwf k w hk, (wd_num (hok w (List.mem_of_getElem? hk))).1, k_stateAfter, bsm, vp_nar_byte, nar_by hr2.1 hr2.2, nar_by hr2.1 hr2.2, e_uA c1 hy (by omega), bsm]
    exact e1
theorem so_14 {zl : List Wd} {p aw N : Nat} {wf : Nat → Int32} (hok : ∀ w ∈ zl, okW w) (hl : zl.length ≤ 12) (hN : N = 2 ^ zl.length) (hwf : ∀ (i : Nat) (v : Wd), zl[i]? = some v → wf i = 100 * v.1 + v.2) (hpw : p ≠ aw) : ∀ (m k fn : Nat) (S : AH) (f : Nat → Int32) (y : Int32), k + m = zl.length → m < fn → y = nI k → S[p]? = some (.inl (2, (N, .inl f))) → S[aw]? = some (.inl (0, (zl.length, .inl wf))) → (∀ s, s < 2 ^ k → f s = stN (zl.take k) s) → ∃ S' f', X1_statesOf_14 fn S (some aw) (some p) y = some (some p, S') ∧ S'[p]? = some (.inl (2, (N, .inl f'))) ∧ hF S S' [p] ∧ ∀ s, s < 2 ^ zl.length → f' s = stN zl s
  | 0, k, fn, S, f, y, hk, hf, hy, hp, hw, h1 => by
    obtain ⟨fn, rfl⟩ : ∃ q, fn = q + 1 := ⟨fn - 1, by omega⟩
    subst hy
    have hk : k = zl.length := by omega
    subst hk
    rw [List.take_length] at h1
    refine ⟨S, f, ?_, hp, hF.rfl, h1⟩
    unfold X1_statesOf_14 X1_statesOf_88
    rw [e_aN hw (by omega), bsm, if_pos (by rw [zi_le, zo (by omega), q_i (by omega)]; omega)]
  | m + 1, k, fn, S, f, y, hk, hf, hy, hp, hw, h1 => by
    obtain ⟨fn, rfl⟩ : ∃ q, fn = q + 1 := ⟨fn - 1, by omega⟩
    subst hy
    have e12 : (12 : Int32).toInt = 12 := rfl
    have hpk : (2 : Nat) ^ k ≤ 2 ^ 12 := Nat.pow_le_pow_right (by omega) (by omega)
    obtain ⟨S1, f1, a1, a2, a3, a4⟩ := so_33 (rec := X1_statesOf_14 fn) hok hl (List.getElem?_eq_getElem (show k < zl.length by omega)) hN hwf hpw (2 ^ k) 0 FU S f 0 (by omega) (by unfold FU; omega) rfl hp hw (fun s hs => by omega) (fun s _ hs => h1 s hs)
    obtain ⟨S2, f2, b1, b2, b3, b4⟩ := so_14 hok hl hN hwf hpw m (k + 1) fn S1 f1 (nI k + 1) (by omega) (by omega) (by
      apply zi_eq.mpr
      rw [zi_inc (q_i (show k < 2147483648 by omega)) (by omega) (by omega), q_i (by omega)]
      omega) a2 (by rw [a3.2 aw (by simp [Ne.symm hpw])]; exact hw) a4
    refine ⟨S2, f2, ?_, b2, hF.trans a3 b3, b4⟩
    unfold X1_statesOf_14
    rw [e_aN hw (by omega), bsm, if_neg (by rw [zi_le, zo (by omega), q_i (by omega)]; omega), if_neg (by rw [zi_le, q_i (by omega)]; omega), one_shl (by omega), a1]
    exact b1
