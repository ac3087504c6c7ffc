set_option maxHeartbeats 600000 in
theorem r_holds10 {c fr : Nat} {ts : List Tk} {ds : List Dt} {z : Dt} {kd : Nat} {ci di : Int32} (hc : c < 40) (hci : ci.toInt = c) (hok : ∀ t ∈ ts, tkOk t) (hz : ds[kd]? = some z) (hdi : di.toInt = kd) : ∀ (us : List Tk) (k fn : Nat) (M : MS) (n y : Int32) (sk : List Bool) (v : Bool), ts.drop k = us → us.length < fn → y.toInt = ((fr + k : Nat) : Int) → n.toInt = sk.length → sk.length ≤ 31 → plR (M.2.1 31) sk.reverse → runT (evT z (pdF z.1 0 ds)) sk us = some [v] → cdR M c fr ts → dM M ds → ∃ M', X8_holds_10 fn M ci di n y = some (b01 v, M') ∧ fr31 M M'
  | [], k, fn, M, n, y, sk, v, hd, hf, hy, hn, hl, hp, hr, hM, hD => by
    obtain ⟨fn, rfl⟩ : ∃ q, fn = q + 1 := ⟨fn - 1, by omega⟩
    have hk := List.drop_eq_nil_iff.mp hd
    cases hr
    refine ⟨M, ?_, fr31.rfl⟩
    rw [X8_holds_10, mA_ok (j := 13) (q := c) hci (by show c < 40; omega), bsm, if_pos (by rw [zi_le, hM.1]; omega), mA_ok (j := 31) (q := 0) rfl (by show 0 < 100; omega), bsm, hp 0 v rfl]
  | t :: us, k, fn, M, n, y, sk, v, hd, hf, hy, hn, hl, hp, hr, hM, hD => by
    simp only [List.length_cons] at hf
    obtain ⟨fn, rfl⟩ : ∃ q, fn = q + 1 := ⟨fn - 1, by omega⟩
    obtain ⟨d1, d2, d3⟩ := drop_c hd
    have htk := hok t (List.mem_of_getElem? d1)
    have h500 := hM.2.1
    have e0 : (0 : Int32).toInt = 0 := rfl
    have e1 : (1 : Int32).toInt = 1 := rfl
    have em : (-1 : Int32).toInt = -1 := rfl
    have z1 : ¬ (1 : Int32) = 0 := by decide
    have hy2 : (y + 1).toInt = ((fr + (k + 1) : Nat) : Int) := by
      rw [zi_inc hy (by omega) (by omega)]
      omega
    have hr : (stT (evT z (pdF z.1 0 ds)) sk t).bind (fun s => runT (evT z (pdF z.1 0 ds)) s us) = some [v] := hr
    have hst : stT (evT z (pdF z.1 0 ds)) sk t ≠ none := fun c => by rw [c] at hr; cases hr
    have ih : ∀ (q : Nat) (x : Int32) (n2 : Int32) (s2 : List Bool), stT (evT z (pdF z.1 0 ds)) sk t = some s2 → n2.toInt = s2.length → plR (upd (M.2.1 31) q x) s2.reverse → ∃ M', X8_holds_10 fn (sa M 31 (upd (M.2.1 31) q x)) ci di n2 (y + 1) = some (b01 v, M') ∧ fr31 M M' := by
      intro q x n2 s2 b1 b2 b3
      have hr2 : runT (evT z (pdF z.1 0 ds)) s2 us = some [v] := by
        rw [b1, Option.bind_some] at hr
        exact hr
      obtain ⟨M', a1, a2⟩ := r_holds10 hc hci hok hz hdi us (k + 1) fn (sa M 31 (upd (M.2.1 31) q x)) n2 (y + 1) s2 v d2 (by omega) hy2 b2 (stT_len b1 hl) b3 hr2 hM hD
      exact ⟨M', a1, fr31.trans (fM_sa (by decide)) a2⟩
    rw [X8_holds_10, mA_ok (j := 13) (q := c) hci (by show c < 40; omega), bsm, if_neg (by rw [zi_le, hM.1]; omega), mA_ok (j := 14) (q := fr + k) hy (by show _ < 500; omega), bsm, hM.2.2 k t d1]
    unfold stT at ih hst
    by_cases q7 : t.1 = 7
    · rw [eR_7 q7, if_pos rfl]
      rw [if_pos q7] at hst
      simp only [if_pos q7] at ih
      cases sk with
      | nil => exact absurd rfl hst
      | cons a r =>
        simp only [List.length_cons] at hn hl
        rw [List.reverse_cons] at hp
        have hn1 : (n - 1).toInt = r.length := by
          rw [zi_sub (by omega) (by omega), e1]
          omega
        have ha := pl_at hp
        rw [List.length_reverse] at ha
        have ih := fun x hx => ih r.length x n ((!a) :: r) rfl (by simp only [List.length_cons]; omega) hx
        have hpp := pl_push (pl_pre hp) (!a)
        rw [List.length_reverse] at hpp
        rw [← List.reverse_cons] at hpp
        unfold X8_holds_60 X8_holds_241
        rw [mA_ok (j := 31) (q := r.length) hn1 (by show _ < 100; omega), bsm, ha, b01_i]
        cases a with
        | true =>
          rw [if_pos rfl, mAs_ok (j := 31) (q := r.length) hn1 (by show _ < 100; omega), bsm]
          exact ih _ hpp
        | false =>
          rw [if_neg (by decide), mAs_ok (j := 31) (q := r.length) hn1 (by show _ < 100; omega), bsm]
          exact ih _ hpp
    · rw [if_neg q7] at hst
      simp only [if_neg q7] at ih
      by_cases q89 : t.1 = 8 ∨ t.1 = 9
      · -- two truths become one
        have two : ∃ (f : Bool → Bool → Bool) (a b : Bool) (r : List Bool), sk = a :: b :: r ∧ (∀ (q : Nat) (x : Int32) (n2 : Int32), n2.toInt = (r.length : Int) + 1 → plR (upd (M.2.1 31) q x) (f a b :: r).reverse → ∃ M', X8_holds_10 fn (sa M 31 (upd (M.2.1 31) q x)) ci di n2 (y + 1) = some (b01 v, M') ∧ fr31 M M') ∧ (t.1 = 8 ∧ f = (fun a b => b && a) ∨ t.1 = 9 ∧ f = (fun a b => b || a)) := by
          rcases q89 with q | q
          · rw [if_pos q] at hst
            simp only [if_pos q] at ih
            match sk, hst, ih with
            | [], hst, ih => exact absurd rfl hst
            | [a], hst, ih => exact absurd rfl hst
            | a :: b :: r, hst, ih => exact ⟨_, a, b, r, rfl, fun q x n2 h1 h2 => ih q x n2 _ rfl (by simp only [List.length_cons]; omega) h2, .inl ⟨q, rfl⟩⟩
          · have q8 : ¬ t.1 = 8 := by omega
            rw [if_neg q8, if_pos q] at hst
            simp only [if_neg q8, if_pos q] at ih
            match sk, hst, ih with
            | [], hst, ih => exact absurd rfl hst
            | [a], hst, ih => exact absurd rfl hst
            | a :: b :: r, hst, ih => exact ⟨_, a, b, r, rfl, fun q x n2 h1 h2 => ih q x n2 _ rfl (by simp only [List.length_cons]; omega) h2, .inr ⟨q, rfl⟩⟩
        obtain ⟨f, a, b, r, rfl, ih2, hf2⟩ := two
        simp only [List.length_cons] at hn hl
        have hp2 : plR (M.2.1 31) (r.reverse ++ b :: [a]) := by
          rw [List.reverse_cons, List.reverse_cons, List.append_assoc] at hp
          exact hp
        have hb := pl_at hp2
        rw [List.length_reverse] at hb
        have ha : M.2.1 31 (r.length + 1) = b01 a := hp2 (r.length + 1) a (by
          rw [List.getElem?_append_right (by rw [List.length_reverse]; omega), List.length_reverse, show r.length + 1 - r.length = 1 by omega]
          rfl)
        have hn1 : (n + (-1)).toInt = ((r.length + 1 : Nat) : Int) := by
          rw [zi_add (by omega) (by omega), em]
          omega
        generalize n + (-1) = m1 at hn1 ⊢
        have hn2 : (m1 - 1).toInt = r.length := by
          rw [zi_sub (by omega) (by omega), e1]
          omega
        have hpp := pl_push (pl_pre hp2) (f a b)
        rw [List.length_reverse, ← List.reverse_cons] at hpp
        have ih3 := ih2 r.length _ m1 (by omega) hpp
        have hneg : ¬ (0 : Int32) ≤ eR t := by
          rcases hf2 with ⟨q, -⟩ | ⟨q, -⟩
          · rw [eR_8 q]; decide
          · rw [eR_9 q]; decide
        have h33 : ¬ eR t = -33 := by
          rcases hf2 with ⟨q, -⟩ | ⟨q, -⟩
          · rw [eR_8 q]; decide
          · rw [eR_9 q]; decide
        rw [if_neg h33, if_neg hneg]
        unfold X8_holds_110 X8_holds_134 X8_holds_139 X8_holds_241
        rw [mA_ok (j := 31) (q := r.length) hn2 (by show _ < 100; omega), hb]
        rcases hf2 with ⟨q, rfl⟩ | ⟨q, rfl⟩
        · rw [eR_8 q, if_pos rfl, bsm, b01_i]
          cases b with
          | false =>
            rw [if_neg (by decide), mAs_ok (j := 31) (q := r.length) hn2 (by show _ < 100; omega), bsm]
            exact ih3
          | true =>
            rw [if_pos rfl, mA_ok (j := 31) (q := r.length + 1) hn1 (by show _ < 100; omega), bsm, ha, b01_i]
            cases a with
            | false =>
              rw [if_neg (by decide), mAs_ok (j := 31) (q := r.length) hn2 (by show _ < 100; omega), bsm]
              exact ih3
            | true =>
              rw [if_pos rfl, mAs_ok (j := 31) (q := r.length) hn2 (by show _ < 100; omega), bsm]
              exact ih3
        · rw [eR_9 q, if_neg (by decide), bsm, b01_i]
          cases b with
          | true =>
            rw [if_pos rfl, mAs_ok (j := 31) (q := r.length) hn2 (by show _ < 100; omega), bsm]
            exact ih3
          | false =>
            rw [if_neg (by decide), mA_ok (j := 31) (q := r.length + 1) hn1 (by show _ < 100; omega), bsm, ha, b01_i]
            cases a with
            | false =>
              rw [if_neg (by decide), mAs_ok (j := 31) (q := r.length) hn2 (by show _ < 100; omega), bsm]
              exact ih3
            | true =>
              rw [if_pos rfl, mAs_ok (j := 31) (q := r.length) hn2 (by show _ < 100; omega), bsm]
              exact ih3
      · have q8 : ¬ t.1 = 8 := fun c => q89 (.inl c)
        have q9 : ¬ t.1 = 9 := fun c => q89 (.inr c)
        rw [if_neg q8, if_neg q9] at hst
        simp only [if_neg q8, if_neg q9] at ih
        have h6 : t.1 < 7 := by have := htk.1; omega
        obtain ⟨n1, n2, n3, n4⟩ := tr_num htk h6
        have hm2 := htk.2.1
        have hm3 := htk.2.2
        by_cases ql : sk.length < 31
        · simp only [if_pos ql] at ih
          have hpp := pl_push hp (evT z (pdF z.1 0 ds) t)
          rw [List.length_reverse, ← List.reverse_cons] at hpp
          have ih3 := ih sk.length _ (n + 1) _ rfl (by rw [zi_inc hn (by omega) (by omega)]; simp) hpp
          have hge : (0 : Int32) ≤ eR t := by
            rw [n1, zi_le, q_i (by omega)]
            omega
          have h33 : ¬ eR t = -33 := fun c => by
            rw [c] at hge
            exact absurd hge (by decide)
          have ev : ∀ x : Int32, x = b01 (evT z (pdF z.1 0 ds) t) → ∃ M', X8_holds_237 (X8_holds_10 fn) M n x ci di n y = some (b01 v, M') ∧ fr31 M M' := by
            intro x hx
            subst hx
            unfold X8_holds_237 X8_holds_241
            rw [mAs_ok (j := 31) (q := sk.length) hn (by show _ < 100; omega), bsm, nar_b]
            exact ih3
          rw [if_neg h33, if_pos hge, n2, r_factOf hD hz hdi t.1 (by omega), bsm, n3, n4]
          dsimp only
          unfold evT at ev
          by_cases s0 : t.2.1 = 0
          · rw [if_pos (show nI t.2.1 = 0 by rw [s0]; rfl)]
            simp only [if_pos s0] at ev
            by_cases q : nI t.2.2 ≤ fct z (pdF z.1 0 ds) t.1
            · rw [if_pos q]
              exact ev 0 (by rw [decide_eq_false (by rw [← nle_lt]; exact fun c => c q)]; rfl)
            · rw [if_neg q]
              exact ev 1 (by rw [decide_eq_true (by rw [← nle_lt]; exact q)]; rfl)
          · rw [if_neg (show ¬ nI t.2.1 = 0 from fun c => s0 ((nI_inj (b := 0) (by omega) (by omega)).mp c))]
            simp only [if_neg s0] at ev
            by_cases s1 : t.2.1 = 1
            · rw [if_pos (show nI t.2.1 = 1 by rw [s1]; rfl)]
              simp only [if_pos s1] at ev
              by_cases q : fct z (pdF z.1 0 ds) t.1 = nI t.2.2
              · rw [if_pos q]
                exact ev 1 (by rw [decide_eq_true q]; rfl)
              · rw [if_neg q]
                exact ev 0 (by rw [decide_eq_false q]; rfl)
            · rw [if_neg (show ¬ nI t.2.1 = 1 from fun c => s1 ((nI_inj (b := 1) (by omega) (by omega)).mp c))]
              simp only [if_neg s1] at ev
              by_cases q : fct z (pdF z.1 0 ds) t.1 ≤ nI t.2.2
              · rw [if_pos q]
                exact ev 0 (by rw [decide_eq_false (by rw [← nle_lt]; exact fun c => c q)]; rfl)
              · rw [if_neg q]
                exact ev 1 (by rw [decide_eq_true (by rw [← nle_lt]; exact q)]; rfl)
        · rw [if_neg ql] at hst
          exact absurd rfl hst
