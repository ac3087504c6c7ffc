theorem e_nwA {t B n : Nat} (S : AH) (h : n ≤ B) (hB : B < 2147483648) : nwA t B S (nI n) = some (S.length, S ++ [.inl (t, (n, .inl (fun _ => 0)))]) := by
  unfold nwA
  have e := q_i (n := n) (by omega)
  have hz := zi_n (nI n)
  rw [if_pos (by omega), show (nI n).toNatClampNeg = n by omega]
theorem app_at (S : AH) (c : va_E) : (S ++ [c])[S.length]? = some c := by
  rw [List.getElem?_append_right (Nat.le_refl _), Nat.sub_self]
  rfl
theorem app_lo {S X : AH} {k : Nat} (h : k < S.length) : (S ++ X)[k]? = S[k]? := List.getElem?_append_left h
theorem at_lt {S : AH} {k : Nat} {c : va_E} (h : S[k]? = some c) : k < S.length := (List.getElem?_eq_some_iff.mp h).1
theorem k_statesOf {S : AH} {aw : Nat} {zl : List Wd} {wf : Nat → Int32} (hok : ∀ w ∈ zl, okW w) (hl : zl.length ≤ 12) (hwf : ∀ (i : Nat) (v : Wd), zl[i]? = some v → wf i = 100 * v.1 + v.2) (hw : S[aw]? = some (.inl (0, (zl.length, .inl wf)))) : ∃ S' f', X1_statesOf S (some aw) = some (some S.length, S') ∧ S'[S.length]? = some (.inl (2, (2 ^ zl.length, .inl f'))) ∧ S'.length = S.length + 1 ∧ (∀ k, k < S.length → S'[k]? = S[k]?) ∧ ∀ s, s < 2 ^ zl.length → f' s = stN zl s := by
  have hp3 : (2 : Nat) ^ zl.length ≤ 2 ^ 12 := Nat.pow_le_pow_right (by omega) (by omega)
  have ha := at_lt hw
  have e12 : (12 : Int32).toInt = 12 := rfl
  obtain ⟨S', f', e1, e2, e3, e4⟩ := so_14 hok hl rfl hwf (show S.length ≠ aw by omega) zl.length 0 FU (S ++ [.inl (2, (2 ^ zl.length, .inl (fun _ => 0)))]) (fun _ => 0) 0 (by omega) (by unfold FU; omega) rfl (app_at S _) (by rw [app_lo ha]; exact hw) (fun s hs => by
    have hs : s = 0 := by
      have : (2 : Nat) ^ 0 = 1 := rfl
      omega
    subst hs
    rfl)
  refine ⟨S', f', ?_, e2, by rw [e3.1, List.length_append]; rfl, fun k hk => by rw [e3.2 k (by simp; omega), app_lo hk], e4⟩
  unfold X1_statesOf X1_statesOf_0
  rw [e_aN hw (by omega), bsm, if_neg (by rw [zi_lt, zo (by omega)]; omega), show Int32.ofNat zl.length = nI zl.length from rfl, one_shl (by omega), e_nwA S (by omega) (by omega), bsm, prs]
  exact e1
def rdF (g : Nat → Bool) (k : Nat) : List Nat := (List.range k).filter g
theorem rdF_s (g : Nat → Bool) (k : Nat) : rdF g (k + 1) = rdF g k ++ (if g k = true then [k] else []) := by
  unfold rdF
  rw [List.range_succ, List.filter_append]
  congr 1
  cases h : g k with
  | true => simp [h]
  | false => simp [h]
theorem rdF_le (g : Nat → Bool) {k N : Nat} (h : k ≤ N) : (rdF g k).length ≤ (rdF g N).length := ((List.range_sublist.mpr h).filter g).length_le
theorem rdF_n (g : Nat → Bool) (k : Nat) : (rdF g k).length ≤ k := by
  have := List.length_filter_le g (List.range k)
  rw [List.length_range] at this
  exact this
theorem ro_4 {S : AH} {p N : Nat} {f : Nat → Int32} (hN : N ≤ 4096) (hp : S[p]? = some (.inl (2, (N, .inl f)))) : ∀ (m k fn : Nat) (l1 l2 : Int32), k + m = N → m < fn → l1.toInt = (rdF (fun s => decide (6 ≤ (f s).toInt)) k).length → l2.toInt = k → X1_readingsOf_4 fn S (some p) l1 l2 = (nwA 0 4096 S (nI (rdF (fun s => decide (6 ≤ (f s).toInt)) N).length)).bind fun zw2 => prp zw2 fun zb3 S4 => X1_readingsOf_41 FU S4 (some p) (some zb3) 0 0
  | 0, k, fn, l1, l2, hk, hf, h1, h2 => by
    obtain ⟨fn, rfl⟩ : ∃ q, fn = q + 1 := ⟨fn - 1, by omega⟩
    have hk : k = N := by omega
    subst hk
    have hn := rdF_n (fun s => decide (6 ≤ (f s).toInt)) k
    unfold X1_readingsOf_4
    rw [e_aN hp (by omega), bsm, if_pos (by rw [zi_le, zo (by omega)]; omega), show l1 = nI (rdF (fun s => decide (6 ≤ (f s).toInt)) k).length from zi_eq.mpr (by rw [h1, q_i (by omega)])]
  | m + 1, k, fn, l1, l2, hk, hf, h1, h2 => by
    obtain ⟨fn, rfl⟩ : ∃ q, fn = q + 1 := ⟨fn - 1, by omega⟩
    have hn := rdF_n (fun s => decide (6 ≤ (f s).toInt)) k
    have e6 : (6 : Int32).toInt = 6 := rfl
    have e0 : (0 : Int32).toInt = 0 := rfl
    have hs := rdF_s (fun s => decide (6 ≤ (f s).toInt)) k
    unfold X1_readingsOf_4 X1_readingsOf_24
    rw [e_aN hp (by omega), bsm, if_neg (by rw [zi_le, zo (by omega)]; omega), e_aA hp h2 (by omega), bsm]
    by_cases q : f k < 6
    · have q2 := zi_lt.mp q
      rw [if_pos q]
      refine ro_4 hN hp m (k + 1) fn _ _ (by omega) (by omega) ?_ (by rw [zi_inc h2 (by omega) (by omega)]; omega)
      rw [hs, if_neg (by rw [decide_eq_true_iff]; omega), List.append_nil, zi_add (by omega) (by omega), e0]
      omega
    · have q2 := mt zi_lt.mpr q
      rw [if_neg q]
      refine ro_4 hN hp m (k + 1) fn _ _ (by omega) (by omega) ?_ (by rw [zi_inc h2 (by omega) (by omega)]; omega)
      rw [hs, if_pos (by rw [decide_eq_true_iff]; omega), zi_inc h1 (by omega) (by omega), List.length_append]
      rfl
theorem ro_41 {p rp N : Nat} {f : Nat → Int32} (hN : N ≤ 4096) (hpr : p ≠ rp) : ∀ (m k fn : Nat) (S : AH) (h : Nat → Int32) (l3 l4 : Int32), k + m = N → m < fn → l3.toInt = (rdF (fun s => decide (6 ≤ (f s).toInt)) k).length → l4.toInt = k → S[p]? = some (.inl (2, (N, .inl f))) → S[rp]? = some (.inl (0, ((rdF (fun s => decide (6 ≤ (f s).toInt)) N).length, .inl h))) → (∀ i x, (rdF (fun s => decide (6 ≤ (f s).toInt)) k)[i]? = some x → h i = nI x) → ∃ S' h', X1_readingsOf_41 fn S (some p) (some rp) l3 l4 = some (some rp, S') ∧ S'[rp]? = some (.inl (0, ((rdF (fun s => decide (6 ≤ (f s).toInt)) N).length, .inl h'))) ∧ hF S S' [rp] ∧ ∀ i x, (rdF (fun s => decide (6 ≤ (f s).toInt)) N)[i]? = some x → h' i = nI x
  | 0, k, fn, S, h, l3, l4, hk, hf, h3, h4, hp, hr, hh => by
    obtain ⟨fn, rfl⟩ : ∃ q, fn = q + 1 := ⟨fn - 1, by omega⟩
    have hk : k = N := by omega
    subst hk
    refine ⟨S, h, ?_, hr, hF.rfl, hh⟩
    unfold X1_readingsOf_41
    rw [e_aN hp (by omega), bsm, if_pos (by rw [zi_le, zo (by omega)]; omega)]
  | m + 1, k, fn, S, h, l3, l4, hk, hf, h3, h4, hp, hr, hh => by
    obtain ⟨fn, rfl⟩ : ∃ q, fn = q + 1 := ⟨fn - 1, by omega⟩
    have hn := rdF_n (fun s => decide (6 ≤ (f s).toInt)) k
    have hnN := rdF_n (fun s => decide (6 ≤ (f s).toInt)) N
    have e6 : (6 : Int32).toInt = 6 := rfl
    have hs := rdF_s (fun s => decide (6 ≤ (f s).toInt)) k
    have hle := rdF_le (fun s => decide (6 ≤ (f s).toInt)) (show k + 1 ≤ N by omega)
    have hi4 : (l4 + 1).toInt = ((k + 1 : Nat) : Int) := by
      rw [zi_inc h4 (by omega) (by omega)]
      omega
    unfold X1_readingsOf_41 X1_readingsOf_71
    rw [e_aN hp (by omega), bsm, if_neg (by rw [zi_le, zo (by omega)]; omega), e_aA hp h4 (by omega), bsm]
    by_cases q : f k < 6
    · have q2 := zi_lt.mp q
      rw [if_pos q]
      rw [if_neg (by rw [decide_eq_true_iff]; omega), List.append_nil] at hs
      exact ro_41 hN hpr m (k + 1) fn S h l3 _ (by omega) (by omega) (by rw [hs]; exact h3) hi4 hp hr (by rw [hs]; exact hh)
    · have q2 := mt zi_lt.mpr q
      rw [if_pos (by rw [decide_eq_true_iff]; omega)] at hs
      have hs2 := congrArg List.length hs
      rw [List.length_append] at hs2
      simp only [List.length_cons, List.length_nil] at hs2
      rw [if_neg q, e_aN hr (by omega), bsm, if_neg (by rw [zi_le, zo (by omega)]; omega), e_uA hr h3 (by omega), bsm]
      obtain ⟨S', h', b1, b2, b3, b4⟩ := ro_41 hN hpr m (k + 1) fn (S.set rp (.inl (0, ((rdF (fun s => decide (6 ≤ (f s).toInt)) N).length, .inl (upd h (rdF (fun s => decide (6 ≤ (f s).toInt)) k).length l4))))) _ (l3 + 1) (l4 + 1) (by omega) (by omega) (by rw [zi_inc h3 (by omega) (by omega)]; omega) hi4 (by rw [set_ne (Ne.symm hpr)]; exact hp) (set_at hr) (fun i x hx => by
        rw [hs] at hx
        unfold upd
        by_cases e : i = (rdF (fun s => decide (6 ≤ (f s).toInt)) k).length
        · rw [if_pos e]
          rw [e, List.getElem?_append_right (Nat.le_refl _), Nat.sub_self] at hx
          cases hx
          exact zi_eq.mpr (by rw [h4, q_i (by omega)])
        · rw [if_neg e]
          by_cases e2 : i < (rdF (fun s => decide (6 ≤ (f s).toInt)) k).length
          · rw [List.getElem?_append_left e2] at hx
            exact hh i x hx
          · rw [List.getElem?_eq_none (by rw [List.length_append]; simp only [List.length_cons, List.length_nil]; omega)] at hx
            cases hx)
      exact ⟨S', h', b1, b2, hF.trans (hF_set (by simp)) b3, b4⟩
theorem k_readingsOf {S : AH} {p N : Nat} {f : Nat → Int32} (hN : N ≤ 4096) (hp : S[p]? = some (.inl (2, (N, .inl f)))) : ∃ S' h', X1_readingsOf S (some p) = some (some S.length, S') ∧ S'[S.length]? = some (.inl (0, ((rdF (fun s => decide (6 ≤ (f s).toInt)) N).length, .inl h'))) ∧ S'.length = S.length + 1 ∧ (∀ k, k < S.length → S'[k]? = S[k]?) ∧ ∀ i x, (rdF (fun s => decide (6 ≤ (f s).toInt)) N)[i]? = some x → h' i = nI x := by
  have ha := at_lt hp
  have hnN := rdF_n (fun s => decide (6 ≤ (f s).toInt)) N
  obtain ⟨S', h', b1, b2, b3, b4⟩ := ro_41 hN (show p ≠ S.length by omega) N 0 FU (S ++ [.inl (0, ((rdF (fun s => decide (6 ≤ (f s).toInt)) N).length, .inl (fun _ => 0)))]) (fun _ => 0) 0 0 (by omega) (by unfold FU; omega) rfl rfl (by rw [app_lo ha]; exact hp) (app_at S _) (fun i x hx => by cases hx)
  refine ⟨S', h', ?_, b2, by rw [b3.1, List.length_append]; rfl, fun k hk => by rw [b3.2 k (by simp; omega), app_lo hk], b4⟩
  unfold X1_readingsOf X1_readingsOf_0
  rw [ro_4 hN hp N 0 FU 0 0 (by omega) (by unfold FU; omega) rfl rfl, e_nwA S (by omega) (by omega), bsm, prs]
  exact b1
