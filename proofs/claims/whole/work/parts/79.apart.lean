/-! ===== apart ===== -/
def tri : Nat → Nat
  | 0 => 0
  | n + 1 => tri n + n
theorem pair_all : ∀ n, n < 13 → (nI n * (nI n - 1)) / 2 = nI (tri n) := by decide +kernel
theorem tri_mono : ∀ (a b : Nat), a ≤ b → tri a ≤ tri b
  | a, 0, h => by
    rw [Nat.le_zero.mp h]
    exact Nat.le_refl _
  | a, b + 1, h => by
    by_cases q : a = b + 1
    · rw [q]
      exact Nat.le_refl _
    · have := tri_mono a b (by omega)
      show tri a ≤ tri b + b
      omega
def cnT (B : Nat) : Nat → Nat
  | 0 => 0
  | n + 1 => cnT B n + (if B.testBit n = true then 1 else 0)
theorem cn_pop {B : Nat} (h : B < 4096) : cnT B 12 = pop B := by
  have e : ∀ n, (if B.testBit n = true then 1 else 0) = B / 2 ^ n % 2 := fun n => by
    rw [Nat.testBit_eq_decide_div_mod_eq]
    by_cases q : B / 2 ^ n % 2 = 1
    · rw [q]
      rfl
    · rw [decide_eq_false q, if_neg (by decide)]
      omega
  unfold pop
  simp only [cnT, e]
  simp only [Nat.reducePow, Nat.div_one, Nat.zero_add]
theorem cn_top {B : Nat} : ∀ (m n : Nat), B < 2 ^ n → cnT B (n + m) = cnT B n
  | 0, n, h => rfl
  | m + 1, n, h => by
    show cnT B (n + m) + (if B.testBit (n + m) = true then 1 else 0) = _
    rw [cn_top m n h, Nat.testBit_lt_two_pow (Nat.lt_of_lt_of_le h (Nat.pow_le_pow_right (by omega) (Nat.le_add_right n m)))]
    rfl
theorem cn_and (B A : Nat) : ∀ n, cnT (B &&& A) n ≤ cnT B n
  | 0 => Nat.le_refl _
  | n + 1 => by
    have := cn_and B A n
    show cnT (B &&& A) n + _ ≤ cnT B n + _
    rw [Nat.testBit_and]
    cases B.testBit n <;> cases A.testBit n <;> simp <;> omega
def inn (B A d : Nat) : Nat → Nat
  | 0 => 0
  | e + 1 => inn B A d e + (if (B.testBit d && B.testBit e && !(A.testBit d && A.testBit e)) = true then 1 else 0)
theorem inn_v (B A d : Nat) : ∀ e, inn B A d e + (if B.testBit d = true ∧ A.testBit d = true then cnT (B &&& A) e else 0) = if B.testBit d = true then cnT B e else 0
  | 0 => by
    unfold inn cnT
    rw [ite_self, ite_self]
  | e + 1 => by
    have ih := inn_v B A d e
    unfold inn cnT
    rw [Nat.testBit_and]
    cases h1 : B.testBit d <;> cases h2 : A.testBit d <;> cases h3 : B.testBit e <;> cases h4 : A.testBit e <;> rw [h1, h2] at ih <;> simp at ih ⊢ <;> omega
def outT (B A : Nat) : Nat → Nat
  | 0 => 0
  | d + 1 => outT B A d + inn B A d d
theorem out_v (B A : Nat) : ∀ n, outT B A n + tri (cnT (B &&& A) n) = tri (cnT B n)
  | 0 => rfl
  | n + 1 => by
    have ih := out_v B A n
    have hi := inn_v B A n n
    unfold outT
    show _ + tri (cnT (B &&& A) n + _) = tri (cnT B n + _)
    rw [Nat.testBit_and]
    cases h1 : B.testBit n <;> cases h2 : A.testBit n <;> rw [h1, h2] at hi <;> simp at hi ⊢ <;> (try simp only [tri]) <;> omega
theorem inn_le (B A d : Nat) : ∀ e, inn B A d e ≤ e
  | 0 => Nat.le_refl _
  | e + 1 => by
    have := inn_le B A d e
    unfold inn
    split <;> omega
theorem out_le (B A : Nat) : ∀ n, n ≤ 12 → outT B A n ≤ 12 * n
  | 0, _ => Nat.le_refl _
  | n + 1, h => by
    have := out_le B A n (by omega)
    have := inn_le B A n n
    unfold outT
    omega
theorem r_has2 (M : MS) {B e : Nat} {y : Int32} (hB : B < 4096) (hy : y.toInt = e) (he : e < 31) : X8_has M (nI B) y = some (b01 (B.testBit e), M) := by
  rw [r_has M hy (by omega)]
  by_cases q : B.testBit e = true
  · rw [if_pos ((bt_nat (by omega) he).mpr q), q]
    rfl
  · rw [if_neg (fun c => q ((bt_nat (by omega) he).mp c)), Bool.eq_false_iff.mpr q]
    rfl
theorem rap_97 {M : MS} {B A d : Nat} {l7 : Int32} {rec85 : MS → Int32 → Int32 → Int32 → Int32 → Option (Int32 × MS)} (hB : B < 4096) (hA : A < 4096) (h7 : l7.toInt = d) (hd : d ≤ 12) : ∀ (m e fn : Nat) (l6 acc : Nat) (y : Int32), e + m = d → m < fn → y.toInt = e → l6 = acc + inn B A d e → X8_apart_97 rec85 fn M (nI B) (nI A) (nI l6) l7 y = rec85 M (nI B) (nI A) (nI (acc + inn B A d d)) (l7 + 1)
  | 0, e, fn, l6, acc, y, hm, hf, hy, hl => by
    obtain ⟨fn, rfl⟩ : ∃ q, fn = q + 1 := ⟨fn - 1, by omega⟩
    have : e = d := by omega
    subst this
    rw [X8_apart_97, if_pos (by rw [zi_le]; omega), hl]
  | m + 1, e, fn, l6, acc, y, hm, hf, hy, hl => by
    obtain ⟨fn, rfl⟩ : ∃ q, fn = q + 1 := ⟨fn - 1, by omega⟩
    have hy1 : (y + 1).toInt = ((e + 1 : Nat) : Int) := by
      rw [zi_inc hy (by omega) (by omega)]
      omega
    have ev : inn B A d (e + 1) = inn B A d e + (if (B.testBit d && B.testBit e && !(A.testBit d && A.testBit e)) = true then 1 else 0) := rfl
    have no : (B.testBit d && B.testBit e && !(A.testBit d && A.testBit e)) = false → X8_apart_97 rec85 fn M (nI B) (nI A) (nI l6 + 0) l7 (y + 1) = rec85 M (nI B) (nI A) (nI (acc + inn B A d d)) (l7 + 1) := by
      intro c
      rw [c, if_neg (by decide), Nat.add_zero] at ev
      rw [Int32.add_zero]
      exact rap_97 hB hA h7 hd m (e + 1) fn l6 acc (y + 1) (by omega) (by omega) hy1 (by rw [ev]; exact hl)
    have yes : (B.testBit d && B.testBit e && !(A.testBit d && A.testBit e)) = true → X8_apart_97 rec85 fn M (nI B) (nI A) (nI l6 + 1) l7 (y + 1) = rec85 M (nI B) (nI A) (nI (acc + inn B A d d)) (l7 + 1) := by
      intro c
      rw [c, if_pos rfl] at ev
      rw [show nI l6 + 1 = nI (l6 + 1) from q_add l6 1]
      exact rap_97 hB hA h7 hd m (e + 1) fn (l6 + 1) acc (y + 1) (by omega) (by omega) hy1 (by rw [ev]; omega)
    rw [X8_apart_97, if_neg (by rw [zi_le]; omega), r_has2 M hB h7 (by omega), bsm, b01_i]
    unfold X8_apart_154 X8_apart_150 X8_apart_155
    cases h1 : B.testBit d with
    | false =>
      rw [if_neg (by decide)]
      exact no (by rw [h1]; rfl)
    | true =>
      rw [if_pos rfl]
      dsimp only
      rw [r_has2 M hB hy (by omega), bsm, b01_i]
      cases h2 : B.testBit e with
      | false =>
        rw [if_neg (by decide)]
        exact no (by rw [h1, h2]; rfl)
      | true =>
        rw [if_pos rfl]
        dsimp only
        rw [r_has2 M hA h7 (by omega), bsm, b01_i]
        cases h3 : A.testBit d with
        | false =>
          rw [if_neg (by decide)]
          exact yes (by rw [h1, h2, h3]; rfl)
        | true =>
          rw [if_pos rfl]
          dsimp only
          rw [r_has2 M hA hy (by omega), bsm, b01_i]
          cases h4 : A.testBit e with
          | false =>
            rw [if_neg (by decide)]
            exact yes (by rw [h1, h2, h3, h4]; rfl)
          | true =>
            rw [if_pos rfl]
            exact no (by rw [h1, h2, h3, h4]; rfl)
theorem rap_85 {M : MS} {B A n : Nat} (hB : B < 4096) (hA : A < 4096) (hn : n ≤ 12) (h33 : (M.1 33).toInt = n) : ∀ (m d fn : Nat) (y : Int32), d + m = n → m < fn → y.toInt = d → X8_apart_85 fn M (nI B) (nI A) (nI (outT B A d)) y = some (nI (outT B A n), M)
  | 0, d, fn, y, hm, hf, hy => by
    obtain ⟨fn, rfl⟩ : ∃ q, fn = q + 1 := ⟨fn - 1, by omega⟩
    have : d = n := by omega
    subst this
    rw [X8_apart_85, if_pos (by rw [zi_le]; omega)]
  | m + 1, d, fn, y, hm, hf, hy => by
    obtain ⟨fn, rfl⟩ : ∃ q, fn = q + 1 := ⟨fn - 1, by omega⟩
    have hy1 : (y + 1).toInt = ((d + 1 : Nat) : Int) := by
      rw [zi_inc hy (by omega) (by omega)]
      omega
    have ih := rap_85 hB hA hn h33 m (d + 1) fn (y + 1) (by omega) (by omega) hy1
    rw [X8_apart_85, if_neg (by rw [zi_le]; omega), rap_97 (rec85 := X8_apart_85 fn) hB hA hy (by omega) d 0 FU (outT B A d) (outT B A d) 0 (by omega) (by unfold FU; omega) rfl (by rw [show inn B A d 0 = 0 from rfl, Nat.add_zero])]
    exact ih
theorem rap_33 {l kind b : Nat} {cs : List Cz} {zl : List Wd} {x y : Int32} {wh : List Dt} (hb : b < 6) (hkz : okB zl) (hx : x.toInt = b) (hkd : kind < 7) (h0 : rdS zl 0 = some wh) (hl : l < 5) (hy : y.toInt = l) (hk : okL cs) : ∀ (us : List Dt) (k fn acc : Nat) (M : MS) (l5 : Int32), wh.drop k = us → us.length < fn → l5.toInt = k → acc < 2 ^ 12 → rLw M l cs → dM M wh → rBg M b zl → whM M zl → ∃ M', X8_apart_33 fn M (nI kind) x y (nI acc) l5 = some (nI (outT (acc ||| bdN (brS cs wh) k us) ((List.range' 0 (2 ^ zl.length)).foldl (alT kind zl wh) 0) wh.length), M') ∧ frT M M'
  | [], k, fn, acc, M, l5, hd, hf, h3, ha, hR, hD, hB, hW => by
    obtain ⟨fn, rfl⟩ : ∃ q, fn = q + 1 := ⟨fn - 1, by omega⟩
    have hk2 := List.drop_eq_nil_iff.mp hd
    have hp := v_pow hkz
    have hdl := hD.2.1
    obtain ⟨M1, a1, a2⟩ := ral_5 (kind := kind) hb hkz hx hkd h0 (2 ^ zl.length) 0 FU M 0 (by omega) (by unfold FU; omega) hB hW
    obtain ⟨h33, -⟩ := (whM_T a2 hW).2 wh h0
    have hA := alT_lt (kind := kind) (zl := zl) (wh := wh) hdl (List.range' 0 (2 ^ zl.length)) 0 (by omega)
    have a1 : X8_aloneOf_5 FU M (nI kind) x 0 0 = _ := a1
    have o := rap_85 (M := M1) (n := wh.length) ha hA hdl h33 wh.length 0 FU 0 (by omega) (by unfold FU; omega) rfl
    refine ⟨M1, ?_, a2⟩
    rw [X8_apart_33, if_pos (by rw [zi_le, hD.1]; omega)]
    unfold X8_aloneOf X8_aloneOf_0 bdN
    rw [a1, bsm, Nat.or_zero]
    exact o
  | z :: us, k, fn, acc, M, l5, hd, hf, h3, ha, hR, hD, hB, hW => by
    simp only [List.length_cons] at hf
    obtain ⟨fn, rfl⟩ : ∃ q, fn = q + 1 := ⟨fn - 1, by omega⟩
    have hdl := hD.2.1
    obtain ⟨d1, d2, d3⟩ := drop_c hd
    have hi : (l5 + 1).toInt = ((k + 1 : Nat) : Int) := by
      rw [zi_inc h3 (by omega) (by omega)]
      omega
    have h5 : l5 = nI k := zi_eq.mpr (by rw [h3, q_i (by omega)])
    have h2k : (2 : Nat) ^ k < 2 ^ 12 := Nat.pow_lt_pow_right (by omega) (by omega)
    obtain ⟨M1, a1, a2⟩ := r_isBarred hl hy hk d1 h3 hR hD
    rw [X8_apart_33, if_neg (by rw [zi_le, hD.1]; omega), a1, bsm, b01_i]
    unfold X8_apart_62
    have e : bdN (brS cs wh) k (z :: us) = (if brS cs wh z = true then 2 ^ k else 0) ||| bdN (brS cs wh) (k + 1) us := rfl
    rw [e]
    cases q : brS cs wh z with
    | true =>
      obtain ⟨M2, b1, b2⟩ := rap_33 hb hkz hx hkd h0 hl hy hk us (k + 1) fn (acc ||| 2 ^ k) M1 (l5 + 1) d2 (by omega) hi (Nat.or_lt_two_pow ha h2k) (rLw_31 a2 hR) (dM_31 a2 hD) (rBg_L (fr31_S a2) hB) (whM_T (fr31_T a2) hW)
      rw [if_pos rfl, if_pos rfl, h5, one_shl (by omega), q_or, ← h5, ← Nat.or_assoc]
      exact ⟨M2, b1, frT.trans (fr31_T a2) b2⟩
    | false =>
      obtain ⟨M2, b1, b2⟩ := rap_33 hb hkz hx hkd h0 hl hy hk us (k + 1) fn acc M1 (l5 + 1) d2 (by omega) hi ha (rLw_31 a2 hR) (dM_31 a2 hD) (rBg_L (fr31_S a2) hB) (whM_T (fr31_T a2) hW)
      rw [if_neg (by decide), if_neg (by decide), Nat.zero_or, Int32.or_zero]
      exact ⟨M2, b1, frT.trans (fr31_T a2) b2⟩
theorem o_apart (C : CS) (M M2 : MS) (D : List va_E) (kd x y : Int32) (hC : lf12 C) (hB : iBs (C.1 0) (C.2.2.2.1 0) D M) (hW : iLs (C.1 1) (C.2.2.2.1 1) D M) : asks C M M2 D (X7_apart (mh (ccells C) M2 D) 0 kd x y) (X8_apart M kd x y) := by
  have z1 : ¬ (1 : Int32) = 0 := by decide
  have e0 : (0 : Int32).toInt = 0 := rfl
  unfold X7_apart X7_apart_0 X7_apart_31 X8_apart X8_apart_0
  rcases nm_case hB hW kd x y with ⟨⟨b, l, ob, lo, zl, cs, kind, e1, hkd, hb, hl⟩, hg⟩ | ⟨hg, hn⟩
  · subst e1
    have hpw := v_pow hb.2.2.1
    obtain ⟨y1, y2, y3, y4, y5, y6, -⟩ := hb
    obtain ⟨w1, w2, w3, w4, w5, w6, -⟩ := hl
    obtain ⟨M1, a1, a2, a3, a4⟩ := r_whole y2 y3 y1 y5
    rw [y6 C M2 rfl, bsm, prs, w6 C M2 rfl, bsm, prs, k_isKind, bsm, i01, if_pos (kind_in hkd), ifs, ifs, hg, bsm]
    dsimp only
    rw [if_neg z1, a1, bsm, v_readable y4 y3 C M2 0, bsm, i01]
    dsimp only
    cases hr : rdS zl 0 with
    | none =>
      have h33 := a2.1 hr
      rw [if_neg (fun c => by cases c.2), if_neg (show ¬ 0 ≤ M1.1 33 by rw [zi_le]; omega)]
      exact ⟨_, C, M1, rfl, rfl, frC.rfl hC, a3⟩
    | some wh =>
      obtain ⟨h33, h32⟩ := a2.2 wh hr
      obtain ⟨d, dr, v1, v2⟩ := v_whole y4
      have hD := a4 wh hr
      have hdl := hD.2.1
      obtain ⟨C', b1, b2⟩ := kal_5 (M2 := M2) (kind := kind) y4 y3 hkd hr v1 (v2 wh hr) (RDs zl) 0 FU C 0 0 rfl (by have := RDs_len zl; unfold FU; omega) hC rfl
      rw [RDs_fold y3 _ 0 (fun s _ hn b => alT_n hn)] at b1
      obtain ⟨M3, c1, c2⟩ := rap_33 (kind := kind) y2 y3 y1 hkd hr w2 w1 w3 wh 0 FU 0 M1 0 rfl (by unfold FU; omega) rfl (by omega) (rLw_L a3 w5) hD (rBg_L a3 y5) a2
      have hA := alT_lt (kind := kind) (zl := zl) (wh := wh) hdl (List.range' 0 (2 ^ zl.length)) 0 (by omega)
      have hBb := bdN_lt (brS cs wh) wh 0 12 (by omega)
      rw [if_pos ⟨inS_0 y3, rfl⟩, if_pos (show 0 ≤ M1.1 33 by rw [zi_le]; omega), v1 C M2, bsm, prs, k_barredD (w4 C M2) w3 (v2 wh hr C M2) (rdS_ok y3 hr), bsm]
      dsimp only
      rw [k_bitc _ hBb, bsm]
      dsimp only
      rw [v1 C M2, bsm, prs, k_barredD (w4 C M2) w3 (v2 wh hr C M2) (rdS_ok y3 hr), bsm]
      unfold X7_aloneDuties X7_aloneDuties_0
      have hc : ∀ o : Option (Int32 × AH), cO (mh (ccells C) M2 D) 0 7 o = o := fun _ => rfl
      have b1 : X7_aloneDuties_5 FU (mh (ccells C) M2 D) 0 (nI kind) (some ob) 0 0 = _ := b1
      have c1 : X8_apart_33 FU M1 (nI kind) x y 0 0 = _ := c1
      dsimp only
      rw [hc, b1, bsm]
      dsimp only
      rw [q_and, k_bitc _ (show _ &&& _ < 4096 from Nat.and_lt_two_pow (n := 12) _ hA), bsm]
      unfold X7_pairsOf X7_pairsOf_0
      rw [bsm, bsm]
      rw [Nat.zero_or] at c1
      have p1 := pop_le (bdN (brS cs wh) 0 wh)
      have p2 := pop_le (bdN (brS cs wh) 0 wh &&& (List.range' 0 (2 ^ zl.length)).foldl (alT kind zl wh) 0)
      have ov := out_v (bdN (brS cs wh) 0 wh) ((List.range' 0 (2 ^ zl.length)).foldl (alT kind zl wh) 0) wh.length
      have hBw := bdN_lt (brS cs wh) wh 0 wh.length (by omega)
      have tb := cn_top (12 - wh.length) wh.length hBw
      have tc := cn_top (12 - wh.length) wh.length (Nat.lt_of_le_of_lt (Nat.and_le_left (m := (List.range' 0 (2 ^ zl.length)).foldl (alT kind zl wh) 0)) hBw)
      rw [show wh.length + (12 - wh.length) = 12 by omega] at tb tc
      rw [cn_pop hBb] at tb
      rw [cn_pop (show _ &&& _ < 4096 from Nat.and_lt_two_pow (n := 12) _ hA)] at tc
      rw [← tb, ← tc] at ov
      refine ⟨_, C', M3, ?_, c1, b2, frS.trans a3 (frT_S c2)⟩
      dsimp only
      have t1 : tri (pop (bdN (brS cs wh) 0 wh)) ≤ tri 12 := tri_mono _ _ p1
      have t12 : tri 12 = 66 := rfl
      rw [pair_all _ (by omega), pair_all _ (by omega), q_sub (by omega) (by omega), ← ov, Nat.add_sub_cancel]
  · obtain ⟨oB, oL, h1, h2, h3⟩ := hn M2
    rw [h1, bsm, prs, h2, bsm, prs, k_isKind, bsm, i01, hg, bsm, if_pos rfl]
    refine ⟨-1, C, M, ?_, rfl, frC.rfl hC, frS.rfl⟩
    rcases h3 with h3 | h3 | h3
    · rw [if_neg h3]
    · subst h3
      rw [ifz, ite_self]
    · subst h3
      cases oB with
      | none => rw [ifz, ite_self]
      | some a => rw [ifs, ifz, ite_self]
