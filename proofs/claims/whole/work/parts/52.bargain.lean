/-! ===== a bargain is made ===== -/
theorem wo_80 {S : AH} {a n j : Nat} {f : Nat → Int32} {l3 l4 c : Int32} {rec : AH → Option Nat → Option Nat → Int32 → Int32 → Option (Option Nat × AH)} (h : S[a]? = some (.inl (0, (n, .inl f)))) (h3 : l3.toInt = j) (hj : j < n) (hn : n ≤ 12) : X1_wordsOf_80 rec S (some 1) (some a) l3 l4 c = rec (S.set a (.inl (0, (n, .inl (upd f j (f j + (if isf c then c - 48 else 100 * c))))))) (some 1) (some a) l3 (l4 + 1) := by
  have e0 : (0 : Int32).toInt = 0 := rfl
  unfold X1_wordsOf_80 X1_wordsOf_115 X1_wordsOf_117
  rw [if_neg (by rw [zi_lt]; omega), e_aN h (by omega), bsm, if_neg (by rw [zi_le, zo (by omega)]; omega), e_aA h h3 hj, bsm, k_isFigure, bsm, i01]
  by_cases q : isf c
  · rw [if_pos q, if_pos q]
    dsimp only
    rw [e_uA h h3 hj, bsm, if_pos q]
  · rw [if_neg q, if_neg q]
    dsimp only
    rw [e_uA h h3 hj, bsm, if_neg q]
theorem wo_52 {bs : List Int32} {a n : Nat} (ha : 3 ≤ a) (hn : n ≤ 12) : ∀ (zs pre : List Wd) (p fn : Nat) (S : AH) (f : Nat → Int32) (l3 l4 : Int32), tV S bs → (∀ w ∈ zs, okW w ∧ (¬ fgr w.1 → w.2 = 0)) → S[a]? = some (.inl (0, (n, .inl f))) → pre.length + zs.length = n → bs.drop p = enW zs → (∀ i v, pre[i]? = some v → f i = 100 * v.1 + v.2) → (∀ i, pre.length ≤ i → f i = 0) → l3.toInt = (pre.length : Int) - 1 → l4.toInt = p → 2 * zs.length < fn → ∃ S' f', X1_wordsOf_52 fn S (some 1) (some a) l3 l4 = some (some a, S') ∧ S'[a]? = some (.inl (0, (n, .inl f'))) ∧ hF S S' [a] ∧ ∀ i v, (pre ++ zs)[i]? = some v → f' i = 100 * v.1 + v.2
  | [], pre, p, fn, S, f, l3, l4, hT, hok, hc, hl, hd, h1, h2, h3, h4, hf => by
    obtain ⟨fn, rfl⟩ : ∃ q, fn = q + 1 := ⟨fn - 1, by omega⟩
    have hlT := tV_len hT
    have := (drop_nl hd).2
    refine ⟨S, f, ?_, hc, hF.rfl, by rw [List.append_nil]; exact h1⟩
    rw [X1_wordsOf_52, bsm, tV_size hT, bsm, if_pos (by rw [zi_le, zo (by omega)]; omega)]
  | w :: zs, pre, p, fn, S, f, l3, l4, hT, hok, hc, hl, hd, h1, h2, h3, h4, hf => by
    simp only [List.length_cons] at hf hl
    obtain ⟨fn, rfl⟩ : ∃ q, fn = q + 1 := ⟨fn - 1, by omega⟩
    have hlT := tV_len hT
    obtain ⟨hw, hw0⟩ := hok w List.mem_cons_self
    rw [enW_c] at hd
    have h31 : (l3 + 1).toInt = pre.length := by
      rw [zi_inc h3 (by omega) (by omega)]
      omega
    have key : ∀ (x : Int32), x = 100 * w.1 + w.2 → ∀ i v, (pre ++ [w])[i]? = some v → upd f pre.length x i = 100 * v.1 + v.2 := fun x hx i v hv => by
      unfold upd
      by_cases e : i = pre.length
      · rw [if_pos e, hx]
        rw [e, List.getElem?_append_right (Nat.le_refl _), Nat.sub_self] at hv
        cases hv
        rfl
      · rw [if_neg e]
        by_cases e2 : i < pre.length
        · rw [List.getElem?_append_left e2] at hv
          exact h1 i v hv
        · rw [List.getElem?_eq_none (by rw [List.length_append]; simp only [List.length_cons, List.length_nil]; omega)] at hv
          cases hv
    have key2 : ∀ (x : Int32) i, (pre ++ [w]).length ≤ i → upd f pre.length x i = 0 := fun x i hi => by
      rw [List.length_append] at hi
      simp only [List.length_cons, List.length_nil] at hi
      unfold upd
      rw [if_neg (by omega)]
      exact h2 i (by omega)
    have hlp : (pre ++ [w]).length = pre.length + 1 := by rw [List.length_append]; rfl
    have tk : ∀ g : Nat → Int32, tV (S.set a (.inl (0, (n, .inl g)))) bs := fun g => tV_frame hT (set_ne (by omega)) (set_ne (by omega))
    by_cases g : fgr w.1
    · rw [if_pos g] at hd
      obtain ⟨d1, d2, d3⟩ := drop_hd (show bs.drop p = w.1 :: (w.2 + 48) :: enW zs from hd)
      obtain ⟨d4, d5, d6⟩ := drop_hd d2
      have hi : (l4 + 1).toInt = ((p + 1 : Nat) : Int) := by
        rw [zi_inc h4 (by omega) (by omega)]
        omega
      have hi2 : (l4 + 1 + 1).toInt = ((p + 2 : Nat) : Int) := by
        rw [zi_inc hi (by omega) (by omega)]
        omega
      obtain ⟨fn, rfl⟩ : ∃ q, fn = q + 1 := ⟨fn - 1, by omega⟩
      rw [X1_wordsOf_52, bsm, tV_size hT, bsm, if_neg (by rw [zi_le, zo (by omega)]; omega), tV_at hT h4, d1, bsm, k_isFigure, bsm, i01, if_neg (let_nf (.inr g)), wo_80 hc h31 (by omega) hn, if_neg (let_nf (.inr g)), h2 _ (Nat.le_refl _), Int32.zero_add]
      have hc1 := set_at (c := .inl (0, (n, .inl (upd f pre.length (100 * w.1))))) hc
      have u1 : upd f pre.length (100 * w.1) pre.length = 100 * w.1 := by
        unfold upd
        exact if_pos rfl
      have hT1 := tk (upd f pre.length (100 * w.1))
      rw [X1_wordsOf_52, bsm, tV_size hT1, bsm, if_neg (by rw [zi_le, zo (by omega)]; omega), tV_at hT1 hi, d4, bsm, k_isFigure, bsm, i01, if_pos (fig_f hw).1, wo_80 hc1 h31 (by omega) hn, if_pos (fig_f hw).1, u1, (fig_f hw).2]
      have e2 : ∀ x : Int32, (S.set a (.inl (0, (n, .inl (upd f pre.length (100 * w.1)))))).set a (.inl (0, (n, .inl (upd (upd f pre.length (100 * w.1)) pre.length x)))) = S.set a (.inl (0, (n, .inl (upd f pre.length x)))) := fun x => by
        rw [List.set_set]
        congr 5
        funext i
        unfold upd
        by_cases e : i = pre.length
        · rw [if_pos e, if_pos e]
        · rw [if_neg e, if_neg e, if_neg e]
      rw [e2]
      obtain ⟨S', f', b1, b2, b3, b4⟩ := wo_52 ha hn zs (pre ++ [w]) (p + 2) fn _ _ (l3 + 1) (l4 + 1 + 1) (tk _) (fun v hv => hok v (List.mem_cons_of_mem _ hv)) (set_at hc) (by omega) d5 (key _ rfl) (key2 _) (by omega) hi2 (by omega)
      rw [List.append_assoc] at b4
      exact ⟨S', f', b1, b2, hF.trans (hF_set (by simp)) b3, b4⟩
    · rw [if_neg g] at hd
      obtain ⟨d1, d2, d3⟩ := drop_hd (show bs.drop p = w.1 :: enW zs from hd)
      have hi : (l4 + 1).toInt = ((p + 1 : Nat) : Int) := by
        rw [zi_inc h4 (by omega) (by omega)]
        omega
      rw [X1_wordsOf_52, bsm, tV_size hT, bsm, if_neg (by rw [zi_le, zo (by omega)]; omega), tV_at hT h4, d1, bsm, k_isFigure, bsm, i01, if_neg (let_nf hw.1), wo_80 hc h31 (by omega) hn, if_neg (let_nf hw.1), h2 _ (Nat.le_refl _), Int32.zero_add]
      obtain ⟨S', f', b1, b2, b3, b4⟩ := wo_52 ha hn zs (pre ++ [w]) (p + 1) fn _ _ (l3 + 1) (l4 + 1) (tk _) (fun v hv => hok v (List.mem_cons_of_mem _ hv)) (set_at hc) (by omega) d2 (key (100 * w.1) (by rw [hw0 g, Int32.add_zero])) (key2 _) (by omega) hi (by omega)
      rw [List.append_assoc] at b4
      exact ⟨S', f', b1, b2, hF.trans (hF_set (by simp)) b3, b4⟩
theorem k_wordsOf {S : AH} {bs : List Int32} {zl : List Wd} (hT : tV S bs) (hS : 3 ≤ S.length) (hb : bs = enW zl) (hl : zl.length ≤ 12) (hok : ∀ w ∈ zl, okW w ∧ (¬ fgr w.1 → w.2 = 0)) : ∃ S' f', X1_wordsOf S (some 1) = some (some S.length, S') ∧ S'[S.length]? = some (.inl (0, (zl.length, .inl f'))) ∧ S'.length = S.length + 1 ∧ (∀ k, k < S.length → S'[k]? = S[k]?) ∧ ∀ i v, zl[i]? = some v → f' i = 100 * v.1 + v.2 := by
  obtain ⟨S', f', b1, b2, b3, b4⟩ := wo_52 (n := zl.length) hS hl zl [] 0 FU (S ++ [.inl (0, (zl.length, .inl (fun _ => 0)))]) (fun _ => 0) (-1) 0 (tV_frame hT (app_lo (by omega)) (app_lo (by omega))) hok (app_at S _) (by simp) (by rw [← hb]; rfl) (fun i v hv => by cases hv) (fun _ _ => rfl) rfl rfl (by unfold FU; omega)
  refine ⟨S', f', ?_, b2, by rw [b3.1, List.length_append]; rfl, fun k hk => by rw [b3.2 k (by simp; omega), app_lo hk], b4⟩
  unfold X1_wordsOf X1_wordsOf_0
  rw [wo_4 hT zl 0 0 FU 0 0 (fun w hw => (hok w hw).1) rfl (by omega) rfl (by rw [← hb]; rfl) (by unfold FU; omega), Nat.zero_add]
  unfold X1_wordsOf_43
  rw [e_nwA S hl (by omega), bsm, prs]
  exact b1
def RDs (zl : List Wd) : List Nat := rdF (fun s => decide (6 ≤ (stN zl s).toInt)) (2 ^ zl.length)
/-- a bargain as the class holds it -/
def BV (S : AH) (b : Nat) (zl : List Wd) : Prop := ∃ (w s r d dr : Nat) (f g h : Nat → Int32), (54 ≤ b ∧ 54 ≤ w ∧ 54 ≤ s ∧ 54 ≤ r ∧ 54 ≤ d ∧ 54 ≤ dr) ∧ S[b]? = some (.inr (1, [.ref w, .ref s, .ref r, .ref d])) ∧ S[w]? = some (.inl (0, (zl.length, .inl f))) ∧ (∀ i v, zl[i]? = some v → f i = 100 * v.1 + v.2) ∧ S[s]? = some (.inl (2, (2 ^ zl.length, .inl g))) ∧ (∀ k, k < 2 ^ zl.length → g k = stN zl k) ∧ S[r]? = some (.inl (0, ((RDs zl).length, .inl h))) ∧ (∀ i x, (RDs zl)[i]? = some x → h i = nI x) ∧ ∀ ds, pAll 13 (lfI 0 0 zl) = some ds → dV S d dr (ds.map dpk)
theorem dV_lt {S : AH} {a r : Nat} {ps : List Int32} (h : dV S a r ps) : a < S.length ∧ r < S.length := by
  obtain ⟨f, sz, h1, h2, -⟩ := h
  exact ⟨at_lt h1, at_lt h2⟩
theorem BV_frame {S S' : AH} {b : Nat} {zl : List Wd} (h : BV S b zl) (hh : ∀ k, 54 ≤ k → k < S.length → S'[k]? = S[k]?) : BV S' b zl := by
  obtain ⟨w, s, r, d, dr, f, g, hm, ⟨p1, p2, p3, p4, p5, p6⟩, h1, h2, h3, h4, h5, h6, h7, h8⟩ := h
  refine ⟨w, s, r, d, dr, f, g, hm, ⟨p1, p2, p3, p4, p5, p6⟩, by rw [hh b p1 (at_lt h1)]; exact h1, by rw [hh w p2 (at_lt h2)]; exact h2, h3, by rw [hh s p3 (at_lt h4)]; exact h4, h5, by rw [hh r p4 (at_lt h6)]; exact h6, h7, fun ds hd => ?_⟩
  have hv := h8 ds hd
  exact dV_frame hv (hh d p5 (dV_lt hv).1) (hh dr p6 (dV_lt hv).2)
