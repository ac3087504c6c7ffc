/-! ===== the class reads tests, parts and wholes of bars ===== -/
def kRes (bs : List Int32) (M : MS) (D : List va_E) (C : CS) (ts : List Tk) (r : Rs) (res : Option (Int32 × AH)) : Prop := ∃ C', res = some (b01 r.1, mh (ccells C') M D) ∧ (C'.1 4).toInt = r.2.1 ∧ frE C C' ∧ (r.1 = true → kTs C' (ts ++ r.2.2))
theorem by9_u {c : Int32} (h : by9 c) : ((c).toUInt32 % 65536).toInt32 = c := by
  obtain ⟨n, h1, rfl, -⟩ := q_n (k := 255) h.1 h.2
  have : ∀ n, n < 256 → ((nI n).toUInt32 % 65536).toInt32 = nI n := by decide +kernel
  exact this n (by omega)
def ixL (c : Int32) : Int32 := match ltr c with
  | none => -1
  | some f => nI f
theorem k_ixf (S : AH) {c : Int32} (hc : by9 c) (fn : Nat) : J1_indexOfChar_4cfef_7 (fn + 8) S 4 7 (sgb c) 0 = some (ixL c, S) := by
  have hs : ∀ k : Int32, 0 ≤ k.toInt → k.toInt ≤ 127 → (sgb c = k ↔ c = k) := fun k k0 k1 => sgn_eq (.inl hc) k0 k1
  have hw : ∀ k : Int32, 0 ≤ k.toInt → k.toInt ≤ 127 → (k = sgb c ↔ c = k) := fun k k0 k1 => eq_comm.trans (hs k k0 k1)
  have b0 : sB 4 0 = some 119 := rfl
  have b1 : sB 4 (0 + 1) = some 118 := rfl
  have b2 : sB 4 (0 + 1 + 1) = some 110 := rfl
  have b3 : sB 4 (0 + 1 + 1 + 1) = some 116 := rfl
  have b4 : sB 4 (0 + 1 + 1 + 1 + 1) = some 105 := rfl
  have b5 : sB 4 (0 + 1 + 1 + 1 + 1 + 1) = some 102 := rfl
  have b6 : sB 4 (0 + 1 + 1 + 1 + 1 + 1 + 1) = some 112 := rfl
  unfold ixL ltr
  rw [J1_indexOfChar_4cfef_7, if_neg (by decide), b0, bsm]
  by_cases q0 : c = 119
  · rw [if_pos ((hw 119 (by decide) (by decide)).mpr q0), if_pos q0]
    rfl
  rw [if_neg (fun x => q0 ((hw 119 (by decide) (by decide)).mp x)), if_neg q0, J1_indexOfChar_4cfef_7, if_neg (by decide), b1, bsm]
  by_cases q1 : c = 118
  · rw [if_pos ((hw 118 (by decide) (by decide)).mpr q1), if_pos q1]
    rfl
  rw [if_neg (fun x => q1 ((hw 118 (by decide) (by decide)).mp x)), if_neg q1, J1_indexOfChar_4cfef_7, if_neg (by decide), b2, bsm]
  by_cases q2 : c = 110
  · rw [if_pos ((hw 110 (by decide) (by decide)).mpr q2), if_pos q2]
    rfl
  rw [if_neg (fun x => q2 ((hw 110 (by decide) (by decide)).mp x)), if_neg q2, J1_indexOfChar_4cfef_7, if_neg (by decide), b3, bsm]
  by_cases q3 : c = 116
  · rw [if_pos ((hw 116 (by decide) (by decide)).mpr q3), if_pos q3]
    rfl
  rw [if_neg (fun x => q3 ((hw 116 (by decide) (by decide)).mp x)), if_neg q3, J1_indexOfChar_4cfef_7, if_neg (by decide), b4, bsm]
  by_cases q4 : c = 105
  · rw [if_pos ((hw 105 (by decide) (by decide)).mpr q4), if_pos q4]
    rfl
  rw [if_neg (fun x => q4 ((hw 105 (by decide) (by decide)).mp x)), if_neg q4, J1_indexOfChar_4cfef_7, if_neg (by decide), b5, bsm]
  by_cases q5 : c = 102
  · rw [if_pos ((hw 102 (by decide) (by decide)).mpr q5), if_pos q5]
    rfl
  rw [if_neg (fun x => q5 ((hw 102 (by decide) (by decide)).mp x)), if_neg q5, J1_indexOfChar_4cfef_7, if_neg (by decide), b6, bsm]
  by_cases q6 : c = 112
  · rw [if_pos ((hw 112 (by decide) (by decide)).mpr q6), if_pos q6]
    rfl
  rw [if_neg (fun x => q6 ((hw 112 (by decide) (by decide)).mp x)), if_neg q6, J1_indexOfChar_4cfef_7, if_pos (by decide)]
theorem ng_k {α : Type} {ty : FieldType} {x : Int32} (S : α) (h : narrow ty (.int x) = .int x) : ng ty (some (x, S)) = some (x, S) := by
  unfold ng
  rw [bsm]
  exact if_pos h
theorem k_coder (S : AH) (j : Nat) : J0_coder_7d493 S j = some (0, S) := ng_k S rfl
theorem k_slen (S : AH) (j : Nat) (n : Int32) (h : ((Int32.ofNat (sLen.getD j 0)) >>> ((0 : Int32) &&& 31)) = n) : J0_length_8abf5 S j = some (n, S) := by
  unfold J0_length_8abf5 J0_length_8abf5_0
  rw [k_coder, bsm, h]
theorem k_ix (S : AH) {c : Int32} (hc : by9 c) : J0_indexOf_0f7a4 S 4 (((c).toUInt32 % 65536).toInt32) = some (ixL c, S) := by
  have e0 : (0 : Int32).toInt = 0 := rfl
  have e255 : (255 : Int32).toInt = 255 := rfl
  have hl1 : J0_isLatin1_aae02 S 4 = some (1, S) := rfl
  have hlen : J0_length_8abf5 S 4 = some (7, S) := k_slen S 4 7 rfl
  have hen : J1_canEncode_9a6ad S c = some (1, S) := by
    unfold J1_canEncode_9a6ad J1_canEncode_9a6ad_0 J1_canEncode_9a6ad_16
    rw [if_neg (by rw [zi_lt]; have := hc.1; omega), if_neg (by rw [zi_lt]; have := hc.2; omega)]
    exact zg_z _ _ (.inr rfl)
  have hFU : FU = 4992 + 8 := rfl
  have hf := k_ixf S hc 4992
  rw [← hFU] at hf
  rw [by9_u hc]
  unfold J0_indexOf_0f7a4 J0_indexOf_0f7a4_0 J0_indexOf_7cf53 J0_indexOf_7cf53_0 J0_indexOf_7cf53_36 J1_indexOf_4cfef J1_indexOf_4cfef_0
  rw [hl1, bsm]
  dsimp only
  rw [if_neg (by decide), hlen, bsm]
  dsimp only
  rw [hen, bsm]
  dsimp only
  rw [if_neg (by decide), if_pos (show (if (0 : Int32) < 0 then (0 : Int32) else 0) < (if Int32.ofNat (sLen.getD 4 0) < 7 then Int32.ofNat (sLen.getD 4 0) else 7) by decide)]
  unfold J1_indexOfChar_4cfef J1_indexOfChar_4cfef_0
  have hx : J1_indexOfChar_4cfef_7 FU S 4 (if Int32.ofNat (sLen.getD 4 0) < 7 then Int32.ofNat (sLen.getD 4 0) else 7) (c.toInt8.toInt32) (if (0 : Int32) < 0 then 0 else 0) = some (ixL c, S) := hf
  rw [hx, bsm, bsm, bsm]
theorem tk_step {f s n : Nat} (hf : f < 7) (hs : s ≤ 2) (hn : n < 1000) : (((nI f <<< ((8 : Int32) &&& 31)) ||| nI (60 + s)) <<< ((10 : Int32) &&& 31)) ||| nI n = eK (f, s, n) := by
  rw [(tk_num (t := (f, s, n)) ⟨by show f ≤ 9; omega, hs, by show n ≤ 999; omega⟩ hf).1]
  rw [pk_shlN (n := f) ((8 : Int32) &&& 31) 8 rfl (by omega), show f * 2 ^ 8 = 2 ^ 8 * f from Nat.mul_comm _ _, q_os f (show 60 + s < 2 ^ 8 by omega), pk_shlN (n := 2 ^ 8 * f + (60 + s)) ((10 : Int32) &&& 31) 10 rfl (by omega), show (2 ^ 8 * f + (60 + s)) * 2 ^ 10 = 2 ^ 10 * (2 ^ 8 * f + (60 + s)) from Nat.mul_comm _ _, q_os _ (show n < 2 ^ 10 by omega)]
theorem ltr_by {c : Int32} {f : Nat} (h : ltr c = some f) (hc : by9 c ∨ c = -1) : by9 c := by
  rcases hc with q | q
  · exact q
  · exact absurd q (ltr_ok h).2
theorem k_test {C : CS} {bs : List Int32} {p : Nat} {ts : List Tk} (M : MS) (D : List va_E) (hX : kX C bs) (hp : (C.1 4).toInt = p) (hpl : p ≤ bs.length) (ht : kTs C ts) (hl : ts.length ≤ p) : kRes bs M D C ts (pTest bs p) (X4_test (mh (ccells C) M D) 3) := by
  have e0 : (0 : Int32).toInt = 0 := rfl
  have h100 := hX.2.2.1
  have hb := kX_p hX p
  unfold X4_test X4_test_0
  rw [z_cO, k_lat M D hX hp, bsm]
  dsimp only
  have bad : ∀ x : Int32, x.toInt = -1 → ltr (byA bs p) = none → kRes bs M D C ts (pTest bs p) (zg (X4_test_21 (mh (ccells C) M D) 3 x)) := by
    intro x hx hn
    refine ⟨C, ?_, ?_, frE.rfl, ?_⟩
    · unfold X4_test_21 pTest
      rw [if_neg (by rw [zi_le]; omega), hn]
      exact zg_z _ _ (.inl rfl)
    · unfold pTest
      rw [hn]
      exact hp
    · unfold pTest
      rw [hn]
      exact fun c => by cases c
  by_cases q0 : 0 ≤ byA bs p
  · have hb9 : by9 (byA bs p) := by
      rcases hb with q | q
      · exact q
      · rw [q] at q0
        exact absurd q0 (by decide)
    rw [if_pos q0, z_cO, k_lat M D hX hp, bsm]
    dsimp only
    rw [k_ix _ hb9, bsm]
    dsimp only
    cases hlt : ltr (byA bs p) with
    | none =>
      have : ixL (byA bs p) = -1 := by unfold ixL; rw [hlt]
      rw [this]
      exact bad (-1) rfl hlt
    | some f =>
      have hix : ixL (byA bs p) = nI f := by unfold ixL; rw [hlt]
      obtain ⟨f1, f2⟩ := ltr_ok hlt
      have l1 := byA_lt (rfl : byA bs p = byA bs p) f2
      have hX1 := kX_E hX (frE_4 C (C.1 4 + 1))
      have hp1 : ((c1 C 4 (C.1 4 + 1)).1 4).toInt = ((p + 1 : Nat) : Int) := by
        show (C.1 4 + 1).toInt = _
        rw [zi_inc hp (by omega) (by omega)]
        omega
      rw [hix]
      unfold X4_test_21 pTest
      rw [hlt, if_pos (by rw [zi_le, q_i (by omega)]; omega), g_4, bsm, s_4, bsm, z_cO, k_lat M D hX1 hp1, bsm]
      dsimp only
      by_cases q : 60 ≤ byA bs (p + 1) ∧ byA bs (p + 1) ≤ 62
      · obtain ⟨c1', c2', c3'⟩ := cmp_ok q
        have l2 := byA_lt (rfl : byA bs (p + 1) = byA bs (p + 1)) c1'
        have all : ∀ {α : Type} (x y : α), (if byA bs (p + 1) = 60 then x else if byA bs (p + 1) = 61 then x else if byA bs (p + 1) = 62 then x else y) = x := by
          intro α x y
          have e60 : (60 : Int32).toInt = 60 := rfl
          have e61 : (61 : Int32).toInt = 61 := rfl
          have e62 : (62 : Int32).toInt = 62 := rfl
          have z1 := zi_le.mp q.1
          have z2 := zi_le.mp q.2
          by_cases w0 : byA bs (p + 1) = 60
          · rw [if_pos w0]
          rw [if_neg w0]
          by_cases w1 : byA bs (p + 1) = 61
          · rw [if_pos w1]
          rw [if_neg w1]
          have w0 := mt zi_eq.mpr w0
          have w1 := mt zi_eq.mpr w1
          rw [if_pos (zi_eq.mpr (by omega))]
        rw [all, if_pos q]
        have hX2 := kX_E hX1 (frE_4 (c1 C 4 (C.1 4 + 1)) (C.1 4 + 1 + 1))
        have hp2 : ((c1 (c1 C 4 (C.1 4 + 1)) 4 (C.1 4 + 1 + 1)).1 4).toInt = ((p + 2 : Nat) : Int) := by
          show (C.1 4 + 1 + 1).toInt = _
          have hp1 : (C.1 4 + 1).toInt = ((p + 1 : Nat) : Int) := hp1
          rw [zi_inc hp1 (by omega) (by omega)]
          omega
        obtain ⟨C3, i1, i2, i3, i4⟩ := k_figures M D hX2 hp2 (by omega)
        obtain ⟨n1, n2, n3⟩ := pNum_ok bs 3 (p + 2) 0 0 (by decide) (by omega)
        have n3 : (pNum bs 3 (p + 2) 0).2 < 1000 := n3
        have fr2 : frE C C3 := frE.trans (frE.trans (frE_4 _ _) (frE_4 _ _)) (frN_E i4)
        unfold X4_test_63 X4_test_100 X4_test_101
        rw [g_4, bsm, c1_4, s_4, bsm, z_cO, i1, bsm, i01]
        dsimp only
        by_cases q2 : p + 2 < (pNum bs 3 (p + 2) 0).1
        · rw [if_pos q2, if_pos q2, g_5, bsm]
          have ht3 : kTs C3 ts := kTs_N (C := C) ht (frN.trans ⟨fC.trans (fC_c1 (by decide)) (fC_c1 (by decide)), rfl⟩ i4)
          have hC5 : C3.1 5 = nI (pNum bs 3 (p + 2) 0).2 := zi_eq.mpr (by rw [i3, q_i (by omega)])
          obtain ⟨C4, j1, j2, j3, j4, j5⟩ := k_addStep M D ht3 (by omega) (f, (byA bs (p + 1)).toInt.toNat - 60, (pNum bs 3 (p + 2) 0).2) ((((nI f <<< ((8 : Int32) &&& 31)) ||| byA bs (p + 1)) <<< ((10 : Int32) &&& 31)) ||| C3.1 5) (by
            rw [hC5]
            conv => lhs; rw [c3']
            exact tk_step f1 c2' n3)
          unfold X3_testStep X3_testStep_0
          rw [bsm]
          dsimp only
          rw [z_cO, j1, bsm]
          dsimp only
          rw [if_neg (by decide)]
          exact ⟨C4, zg_z _ _ (.inr rfl), by rw [j4]; exact i2, frE.trans fr2 j3, fun _ => j2⟩
        · rw [if_neg q2, if_neg q2]
          refine ⟨C3, zg_z _ _ (.inl rfl), ?_, fr2, fun c => by cases c⟩
          rw [i2]
          show ((pNum bs 3 (p + 2) 0).1 : Int) = ((p + 2 : Nat) : Int)
          omega
      · rw [if_neg q]
        have e60 : (60 : Int32).toInt = 60 := rfl
        have e61 : (61 : Int32).toInt = 61 := rfl
        have e62 : (62 : Int32).toInt = 62 := rfl
        rw [if_neg (fun w => q (by rw [w]; decide)), if_neg (fun w => q (by rw [w]; decide)), if_neg (fun w => q (by rw [w]; decide))]
        exact ⟨c1 C 4 (C.1 4 + 1), zg_z _ _ (.inl rfl), hp1, frE_4 _ _, fun c => by cases c⟩
  · have hm : byA bs p = -1 := by
      rcases hb with q | q
      · exact absurd (zi_le.mpr (by have := q.1; omega)) q0
      · exact q
    rw [if_neg q0]
    exact bad (-1) rfl (by rw [hm]; rfl)
