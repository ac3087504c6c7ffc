/-! ===== saves, cost ===== -/
theorem tlF_ok : ∀ (l : List Wd) (s : tS), okS s → (∀ w ∈ l, okW w) → okS (tlF s l)
  | [], s, hs, h => hs
  | w :: l, s, hs, h => by
    rw [tlF_cons]
    exact tlF_ok l _ (tst_ok hs (h w List.mem_cons_self)) (fun v hv => h v (List.mem_cons_of_mem _ hv))
theorem lfI_sub (st : Int32) : ∀ (l : List Wd) (k : Nat), ∀ w ∈ lfI st k l, w ∈ l
  | [], k, w, h => by cases h
  | v :: l, k, w, h => by
    unfold lfI at h
    by_cases q : bt st k
    · rw [if_pos q] at h
      exact List.mem_cons_of_mem _ (lfI_sub st l (k + 1) w h)
    · rw [if_neg q] at h
      rcases List.mem_cons.mp h with e | e
      · rw [e]
        exact List.mem_cons_self
      · exact List.mem_cons_of_mem _ (lfI_sub st l (k + 1) w e)
theorem rdS_ok {zl : List Wd} (hk : okB zl) {st : Int32} {ds : List Dt} (h : rdS zl st = some ds) : ∀ z ∈ ds, okD z := by
  have i0 : in2 0 1 := ⟨by decide, by decide⟩
  have e := all_tell 13 (lfI st 0 zl) (0, 0, 0, [], []) ds h
  have hs := tlF_ok (lfI st 0 zl) (0, 0, 0, [], []) ⟨i0, i0, i0, fun z hz => by cases hz⟩ (fun w hw => hk.2.2 w (lfI_sub st zl 0 w hw))
  intro z hz
  exact hs.2.2.2 z (by rw [e]; exact hz)
theorem v_whole {D : List va_E} {ob : Nat} {zl : List Wd} (hB : BVD D ob zl) : ∃ d dr, (∀ (C : CS) (M : MS), cO (mh (ccells C) M D) ob 1 (X1_whole (mh (ccells C) M D) ob) = some (some d, mh (ccells C) M D)) ∧ ∀ wh, rdS zl 0 = some wh → ∀ (C : CS) (M : MS), dV (mh (ccells C) M D) d dr (wh.map dpk) := by
  obtain ⟨w, s, r, d, dr, f, g, hm, ⟨p1, p2, p3, p4, p5, p6⟩, h1, h2, h3, h4, h5, h6, h7, h8⟩ := hB C0 M0
  refine ⟨d, dr, fun C M => ?_, fun wh hw C M => ?_⟩
  · have e1 : (mh (ccells C) M D)[ob]? = some (.inr (1, [.ref w, .ref s, .ref r, .ref d])) := by rw [mh_hi C M D p1, ← mh_hi C0 M0 D p1]; exact h1
    rw [e_cO e1]
    unfold X1_whole X1_whole_0
    rw [e_gQ e1 rfl, bsm]
  · exact dV_frame (h8 wh hw) (by rw [mh_hi C M D p5, ← mh_hi C0 M0 D p5]) (by rw [mh_hi C M D p6, ← mh_hi C0 M0 D p6])
theorem inS_0 {zl : List Wd} (hk : okB zl) : inS zl 0 := ⟨Int.le_refl 0, by
  have := (v_pow hk).2
  show (0 : Int32).toInt < _
  have e0 : (0 : Int32).toInt = 0 := rfl
  omega⟩
theorem sv_loop {C : CS} {M2 : MS} {D : List va_E} {ob lo d dr l : Nat} {cs : List Cz} {wh : List Dt} {y : Int32} (hWh : cO (mh (ccells C) M2 D) ob 1 (X1_whole (mh (ccells C) M2 D) ob) = some (some d, mh (ccells C) M2 D)) (hV : dV (mh (ccells C) M2 D) d dr (wh.map dpk)) (hok : ∀ z ∈ wh, okD z) (hL : LVD D lo cs) (hk : okL cs) (hl : l < 5) (hy : y.toInt = l) : ∀ (m k fn : Nat) (M : MS) (a : Int32), k + m = 61 → m < fn → a.toInt = k → rLw M l cs → dM M wh → ∃ r M', X7_saves_38 fn (mh (ccells C) M2 D) 0 (some ob) (some lo) a = some (r, mh (ccells C) M2 D) ∧ X8_saves_32 fn M y a = some (r, M') ∧ fr31 M M'
  | 0, k, fn, M, a, hm, hf, ha, hR, hD => by
    obtain ⟨fn, rfl⟩ : ∃ q, fn = q + 1 := ⟨fn - 1, by omega⟩
    have e60 : (60 : Int32).toInt = 60 := rfl
    have e61 : (61 : Int32).toInt = 61 := rfl
    rw [X7_saves_38, X8_saves_32, if_pos (by rw [zi_lt]; omega), if_pos (by rw [zi_le]; omega)]
    exact ⟨_, M, rfl, rfl, fr31.rfl⟩
  | m + 1, k, fn, M, a, hm, hf, ha, hR, hD => by
    obtain ⟨fn, rfl⟩ : ∃ q, fn = q + 1 := ⟨fn - 1, by omega⟩
    have e60 : (60 : Int32).toInt = 60 := rfl
    have e61 : (61 : Int32).toInt = 61 := rfl
    obtain ⟨M1, a1, a2⟩ := r_isLawful (more := a) hl hy hk (by omega) (by omega) hR hD
    rw [X7_saves_38, X8_saves_32, if_neg (by rw [zi_lt]; omega), if_neg (by rw [zi_le]; omega), bsm, hWh, bsm, prs, bsm, k_allows (hL C M2) hk hV hok a, bsm, b01_i, a1, bsm, b01_i]
    cases lawB cs wh a with
    | true =>
      rw [if_pos rfl, if_pos rfl]
      exact ⟨a, M1, rfl, rfl, a2⟩
    | false =>
      rw [if_neg (by decide), if_neg (by decide)]
      obtain ⟨r, M', b1, b2, b3⟩ := sv_loop hWh hV hok hL hk hl hy m (k + 1) fn M1 (a + 1) (by omega) (by omega) (by rw [zi_inc ha (by omega) (by omega)]; omega) (rLw_31 a2 hR) (dM_31 a2 hD)
      exact ⟨r, M', b1, b2, fr31.trans a2 b3⟩
theorem o_saves (C : CS) (M M2 : MS) (D : List va_E) (x y : Int32) (hC : lf12 C) (hB : iBs (C.1 0) (C.2.2.2.1 0) D M) (hW : iLs (C.1 1) (C.2.2.2.1 1) D M) : asks C M M2 D (X7_saves (mh (ccells C) M2 D) 0 x y) (X8_saves M x y) := by
  have z1 : ¬ (1 : Int32) = 0 := by decide
  unfold X7_saves X7_saves_0 X7_saves_22 X8_saves X8_saves_0 X8_saves_16
  rcases bg_case hB x with ⟨b, zl, ob, y1, y2, y3, y4, y5, y6, y7, -⟩ | ⟨n1, n2⟩
  · rcases lw_case hW y with ⟨l, cs, lo, w1, w2, w3, w4, w5, w6, w7, -⟩ | ⟨m1, m2⟩
    · rw [y6 C M2 rfl, y7 M rfl, bsm, bsm, prs, w6 C M2 rfl, bsm, prs, ifs, ifs, v_readable y4 y3 C M2 0, bsm, i01]
      dsimp only
      rw [if_neg z1, w7 M rfl, bsm]
      dsimp only
      rw [if_neg z1]
      obtain ⟨l1, l2⟩ := r_leftB (st := 0) y2 y3 y1 y5
      cases hr : rdS zl 0 with
      | none =>
        obtain ⟨M', a1, a2⟩ := l1 hr
        rw [if_neg (fun c => by cases c.2), a1, bsm, if_pos rfl]
        exact ⟨_, C, M', rfl, rfl, frC.rfl hC, frL_S a2⟩
      | some wh =>
        obtain ⟨M', a1, a2, a3⟩ := l2 wh hr
        obtain ⟨d, dr, v1, v2⟩ := v_whole y4
        rw [if_pos ⟨inS_0 y3, rfl⟩, a1, bsm, if_neg z1]
        obtain ⟨r, M3, b1, b2, b3⟩ := sv_loop (v1 C M2) (v2 wh hr C M2) (rdS_ok y3 hr) w4 w3 w2 w1 61 0 FU M' 0 (by omega) (by unfold FU; omega) rfl (rLw_L (frL_S a3) w5) a2
        exact ⟨r, C, M3, b1, b2, frC.rfl hC, frS.trans (frL_S a3) (fr31_S b3)⟩
    · rw [y6 C M2 rfl, y7 M rfl, bsm, bsm, prs, m1 C M2 rfl, bsm, prs, ifs, ifz]
      dsimp only
      rw [if_neg z1, m2 M rfl, bsm, if_pos rfl]
      exact ⟨_, C, M, rfl, rfl, frC.rfl hC, frS.rfl⟩
  · have hl : ∃ o, cO (mh (ccells C) M2 D) 0 7 (X7_lawOf (mh (ccells C) M2 D) 0 y) = some (o, mh (ccells C) M2 D) := ⟨_, k_lawOf C M2 D y⟩
    obtain ⟨o, ho⟩ := hl
    rw [n1 C M2 rfl, n2 M rfl, bsm, bsm, prs, ho, bsm, prs, ifz, if_pos rfl]
    exact ⟨_, C, M, rfl, rfl, frC.rfl hC, frS.rfl⟩
-- costs
def bnD (p : Nat → Int32) (z : Dt) : Int32 := if z.2.2.2.1 < 10 then (if z.2.2.1 = 1 then p z.2.2.2.1.toNatClampNeg * z.2.2.2.2.2 * z.2.2.2.2.1 else p z.2.2.2.1.toNatClampNeg * z.2.2.2.2.2) else 10 * (z.2.2.2.1 - 10)
def bnF (p : Nat → Int32) (who : Int32) : Int32 → List Dt → Int32
  | acc, [] => acc
  | acc, z :: ds => bnF p who (if z.1 = who then (if z.2.1 = 1 then acc + bnD p z else acc) else acc) ds
theorem k_bnD {S : AH} {p : Nat → Int32} {z : Dt} (hz : okD z) (hp : S[8]? = some (.inl (0, (10, .inl p)))) : X2_burdenOfDuty S (dpk z) (some 8) = some (bnD p z, S) := by
  obtain ⟨g1, g2, g3, g4, g5, g6⟩ := dg_all hz
  have e10 : (10 : Int32).toInt = 10 := rfl
  have h4 := hz.2.2.2.1
  unfold X2_burdenOfDuty X2_burdenOfDuty_0 X2_digit X2_digit_0
  rw [bsm, g4]
  dsimp only
  unfold bnD
  by_cases q : z.2.2.2.1 < 10
  · have q2 := zi_lt.mp q
    have hn := zi_n z.2.2.2.1
    rw [if_pos q, if_pos q, e_aN hp (by omega), bsm, if_neg (show ¬ Int32.ofNat 10 ≤ z.2.2.2.1 by rw [zi_le, zo (by omega)]; omega), e_aA hp (q := z.2.2.2.1.toNatClampNeg) (by have := h4.1; omega) (by omega), bsm]
    unfold X2_burdenOfDuty_34 X2_burdenOfDuty_67 X2_digit X2_digit_0
    rw [bsm, g6, bsm, g3]
    by_cases q3 : z.2.2.1 = 1
    · rw [if_pos q3, if_pos q3, bsm, g5]
    · rw [if_neg q3, if_neg q3]
  · rw [if_neg q, if_neg q]
theorem k_bn5 {S : AH} {a r : Nat} {ds : List Dt} {p : Nat → Int32} (hV : dV S a r (ds.map dpk)) (hok : ∀ z ∈ ds, okD z) (hp : S[8]? = some (.inl (0, (10, .inl p)))) (who : Int32) : ∀ (us : List Dt) (k fn : Nat) (l2 l3 : Int32), ds.drop k = us → us.length < fn → l3.toInt = k → X2_burdenOf_5 fn S a who (some 8) l2 l3 = some (bnF p who l2 us, S)
  | [], k, fn, l2, l3, hd, hf, h3 => by
    obtain ⟨fn, rfl⟩ : ∃ q, fn = q + 1 := ⟨fn - 1, by omega⟩
    have hk := List.drop_eq_nil_iff.mp hd
    have hl := dV_len hV
    rw [List.length_map] at hl
    rw [X2_burdenOf_5, dV_sz hV, bsm, List.length_map, if_pos (by rw [zi_le, zo (by omega)]; omega)]
    rfl
  | z :: us, k, fn, l2, l3, hd, hf, h3 => by
    simp only [List.length_cons] at hf
    obtain ⟨fn, rfl⟩ : ∃ q, fn = q + 1 := ⟨fn - 1, by omega⟩
    have hl := dV_len hV
    rw [List.length_map] at hl
    obtain ⟨d1, d2, d3, d4⟩ := map_drop hd
    have hz := hok z (List.mem_of_getElem? d4)
    obtain ⟨g1, g2, g3, g4, g5, g6⟩ := dg_all hz
    have hi : (l3 + 1).toInt = ((k + 1 : Nat) : Int) := by
      rw [zi_inc h3 (by omega) (by omega)]
      omega
    have ih := fun x => k_bn5 hV hok hp who us (k + 1) fn x (l3 + 1) d2 (by omega) hi
    rw [X2_burdenOf_5, dV_sz hV, bsm, List.length_map, if_neg (by rw [zi_le, zo (by omega)]; omega), dV_at hV h3, bsm, d1]
    unfold X2_digit X2_digit_0
    rw [bsm, g1]
    unfold bnF X2_burdenOf_53
    by_cases q1 : z.1 = who
    · rw [if_pos q1, if_pos q1, bsm, g2]
      by_cases q2 : z.2.1 = 1
      · rw [if_pos q2, if_pos q2]
        dsimp only
        rw [k_bnD hz hp, bsm]
        exact ih _
      · rw [if_neg q2, if_neg q2]
        exact ih _
    · rw [if_neg q1, if_neg q1]
      exact ih _
def csF (p : Nat → Int32) (who : Int32) (ds : List Dt) : Int32 := bnF p who 0 ds - bnF p (1 - who) 0 ds / 2
theorem k_cost {S : AH} {a r : Nat} {ds : List Dt} {p : Nat → Int32} (hV : dV S a r (ds.map dpk)) (hok : ∀ z ∈ ds, okD z) (hp : S[8]? = some (.inl (0, (10, .inl p)))) (who : Int32) : cO S a 2 (X2_costFor S a who (some 8)) = some (csF p who ds, S) := by
  have hl := dV_len hV
  rw [List.length_map] at hl
  have b := fun w => k_bn5 hV hok hp w ds 0 FU 0 0 rfl (by unfold FU; omega) rfl
  rw [dV_cO hV]
  unfold X2_costFor X2_costFor_0 X2_burdenOf X2_burdenOf_0
  rw [dV_cO hV, b, bsm]
  dsimp only
  rw [dV_cO hV, b, bsm]
  rfl
theorem ok_must {z : Dt} (h : okD z) : z.2.1 = 0 ∨ z.2.1 = 1 := by
  obtain ⟨-, ⟨h0, h1⟩, -⟩ := h
  by_cases q : z.2.1.toInt = 0
  · exact .inl (zi_eq.mpr q)
  · exact .inr (zi_eq.mpr (show z.2.1.toInt = 1 by omega))
theorem r_own4 {M : MS} {ds : List Dt} {p : Nat → Int32} (hM : dM M ds) (hok : ∀ z ∈ ds, okD z) (hp : ∀ t : Nat, t < 10 → p t = M.2.1 19 t) (who : Int32) : ∀ (us : List Dt) (k fn : Nat) (l2 l3 : Int32), ds.drop k = us → us.length < fn → l3.toInt = k → X8_ownSum_4 fn M who l2 l3 = some (bnF p who l2 us, M)
  | [], k, fn, l2, l3, hd, hf, h3 => by
    obtain ⟨fn, rfl⟩ : ∃ q, fn = q + 1 := ⟨fn - 1, by omega⟩
    have hk := List.drop_eq_nil_iff.mp hd
    rw [X8_ownSum_4, if_pos (by rw [zi_le, hM.1]; omega)]
    rfl
  | z :: us, k, fn, l2, l3, hd, hf, h3 => by
    simp only [List.length_cons] at hf
    obtain ⟨fn, rfl⟩ : ∃ q, fn = q + 1 := ⟨fn - 1, by omega⟩
    have hl := hM.2.1
    have e10 : (10 : Int32).toInt = 10 := rfl
    obtain ⟨d1, d2, d3⟩ := drop_c hd
    have hz := hok z (List.mem_of_getElem? d1)
    have h4 := hz.2.2.2.1
    obtain ⟨g1, g2, g3, g4, g5, g6⟩ := dM_get hM d1 h3
    have hi : (l3 + 1).toInt = ((k + 1 : Nat) : Int) := by
      rw [zi_inc h3 (by omega) (by omega)]
      omega
    have ih := fun x => r_own4 hM hok hp who us (k + 1) fn x (l3 + 1) d2 (by omega) hi
    rw [X8_ownSum_4, if_neg (by rw [zi_le, hM.1]; omega), g1, bsm]
    unfold bnF X8_ownSum_99 X8_ownSum_100 X8_ownSum_102
    by_cases q1 : z.1 = who
    · rw [if_pos q1, if_pos q1, g2, bsm]
      by_cases q2 : z.2.1 = 1
      · rw [if_neg (show ¬ z.2.1 = 0 by rw [q2]; decide), if_pos q2, g4, bsm]
        unfold bnD
        by_cases q : z.2.2.2.1 < 10
        · have q' := zi_lt.mp q
          have hn := zi_n z.2.2.2.1
          rw [if_pos q, if_pos q, bsm, mA_ok (j := 19) (q := z.2.2.2.1.toNatClampNeg) (by have := h4.1; omega) (by show _ < 10; omega), bsm, g6, bsm, g3, bsm, ← hp _ (by omega)]
          by_cases q3 : z.2.2.1 = 1
          · rw [if_pos q3, if_pos q3, g5, bsm]
            exact ih _
          · rw [if_neg q3, if_neg q3, Int32.mul_one]
            exact ih _
        · rw [if_neg q, if_neg q, bsm]
          exact ih _
      · rw [if_pos ((ok_must hz).resolve_right q2), if_neg q2]
        exact ih _
    · rw [if_neg q1, if_neg q1]
      exact ih _
theorem r_cost {M : MS} {ds : List Dt} {p : Nat → Int32} (hM : dM M ds) (hok : ∀ z ∈ ds, okD z) (hp : ∀ t : Nat, t < 10 → p t = M.2.1 19 t) (who : Int32) : X8_costOf M who = some (csF p who ds, M) := by
  have b := fun w => r_own4 hM hok hp w ds 0 FU 0 0 rfl (by have := hM.2.1; unfold FU; omega) rfl
  unfold X8_costOf X8_costOf_0 X8_ownSum X8_ownSum_0
  rw [b, bsm]
  dsimp only
  rw [b, bsm]
  rfl
theorem o_cost (C : CS) (M M2 : MS) (D : List va_E) (x st y : Int32) (hC : lf12 C) (hB : iBs (C.1 0) (C.2.2.2.1 0) D M) (hP : iPr (C.2.1 2) (M.2.1 19)) : asks C M M2 D (X7_cost (mh (ccells C) M2 D) 0 x st y) (X8_cost M x st y) := by
  have z1 : ¬ (1 : Int32) = 0 := by decide
  have e0 : (0 : Int32).toInt = 0 := rfl
  have e1 : (1 : Int32).toInt = 1 := rfl
  have gp : ∀ C' : CS, gQ (mh (ccells C') M2 D) 0 7 4 = some (some 8) := fun _ => rfl
  have gs : ∀ C' : CS, (mh (ccells C') M2 D)[8]? = some (.inl (0, (10, .inl (C'.2.1 2)))) := fun _ => rfl
  unfold X7_cost X7_cost_0 X7_cost_30 X8_cost X8_cost_0 X8_cost_36
  rcases bg_case hB x with ⟨b, zl, ob, y1, y2, y3, y4, y5, y6, y7, -⟩ | ⟨n1, n2⟩
  · rw [y6 C M2 rfl, y7 M rfl, bsm, bsm, prs, ifs]
    dsimp only
    rw [if_neg z1, r_isSet y2 y3 y1 y5, bsm, i01]
    dsimp only
    rw [r_in, bsm, i01]
    dsimp only
    have hin : (0 ≤ y ∧ y ≤ 1) ↔ ¬ y < 0 ∧ ¬ 1 < y := by
      simp only [zi_le, zi_lt]
      omega
    obtain ⟨l1, l2⟩ := r_leftB (st := st) y2 y3 y1 y5
    by_cases q0 : y < 0
    · rw [if_pos q0, if_neg (fun c => (hin.mp c).1 q0), ite_self]
      exact ⟨_, C, M, rfl, rfl, frC.rfl hC, frS.rfl⟩
    · by_cases q2 : 1 < y
      · rw [if_neg q0, if_pos q2, if_neg (fun c => (hin.mp c).2 q2), ite_self]
        exact ⟨_, C, M, rfl, rfl, frC.rfl hC, frS.rfl⟩
      · rw [if_neg q0, if_neg q2, if_pos (hin.mpr ⟨q0, q2⟩), v_readable y4 y3 C M2 st, bsm, i01]
        dsimp only
        by_cases q : inS zl st
        · rw [if_pos q]
          cases hr : rdS zl st with
          | none =>
            obtain ⟨M', a1, a2⟩ := l1 hr
            rw [if_neg (fun c => by cases c.2), a1, bsm, if_pos rfl]
            exact ⟨_, C, M', rfl, rfl, frC.rfl hC, frL_S a2⟩
          | some ds =>
            obtain ⟨M', a1, a2, a3⟩ := l2 ds hr
            obtain ⟨C', t1, t2, t3, t4⟩ := v_tell (M := M2) hC y4 y3 hr
            have hV := lV_dV t3 M2 D
            have hp : ∀ t : Nat, t < 10 → C'.2.1 2 t = M'.2.1 19 t := fun t ht => by
              rw [t2.1.2.1 2 (by decide), a3.2.1 19 (by decide)]
              exact (hP t ht).1
            rw [if_pos ⟨q, rfl⟩, a1, bsm, if_neg z1, left_q, bsm, t1, bsm]
            dsimp only
            rw [left_q, bsm, gp, bsm, bsm, k_cost hV t4 (gs C') y, bsm, r_cost a2 t4 hp y, bsm]
            exact ⟨_, C', M', rfl, rfl, t2, frL_S a3⟩
        · rw [if_neg q, if_neg (fun c => q c.1)]
          exact ⟨_, C, M, rfl, rfl, frC.rfl hC, frS.rfl⟩
  · rw [n1 C M2 rfl, n2 M rfl, bsm, bsm, prs, ifz, if_pos rfl]
    exact ⟨_, C, M, rfl, rfl, frC.rfl hC, frS.rfl⟩
