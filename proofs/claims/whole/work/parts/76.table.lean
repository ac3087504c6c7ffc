/-! ===== table ===== -/
theorem k_tat (C : CS) (M : MS) (D : List va_E) {t : Nat} (ht : t < 6) {i : Int32} (h0 : 0 ≤ i.toInt) (h1 : i.toInt < (C.1 (16 + 2 * t)).toInt) (h2 : (C.1 (16 + 2 * t)).toInt ≤ 60) : cO (mh (ccells C) M D) (14 + 2 * t) 5 (X5_at (mh (ccells C) M D) (14 + 2 * t) i) = some (C.2.2.1 t i.toNatClampNeg, mh (ccells C) M D) := by
  have e60 : (60 : Int32).toInt = 60 := rfl
  have e0 : (0 : Int32).toInt = 0 := rfl
  unfold cO X5_at X5_at_0 X5_at_30 X5_at_31
  rw [if_pos (tp_O C M D _ ht), if_neg (by rw [zi_lt]; omega), tp_sz C M D _ ht, bsm, if_neg (by rw [zi_le]; omega), tp_it C M D _ ht, bsm, tp_ln C M D _ ht, bsm, if_neg (by rw [zi_le]; omega), bsm, tp_aL C M D ht (ix_ok h0 (by omega)), bsm]
def tbF (it : Nat → Int64) (sz i : Int32) : Int32 → List Nat → Int32
  | told, [] => told
  | told, s :: us => if i < 0 then 1000 + told else if i < sz - told then (if it (i + told).toNatClampNeg = (nI s).toInt64 then tbF it sz i (told + 1) us else told) else 1000 + told
theorem kt_73 {M2 : MS} {D : List va_E} {ob lo kind t : Nat} {zl : List Wd} {cs : List Cz} {it : Nat → Int64} {sz i : Int32} (h : kcx D ob lo zl cs kind) (ht : t < 6) (hsz0 : 0 ≤ sz.toInt) (hsz : sz.toInt ≤ 60) : ∀ (us : List Nat) (k fn tn : Nat) (C : CS) (told y : Int32), (RDs zl).drop k = us → us.length < fn → lf12 C → y.toInt = k → told.toInt = tn → tn ≤ k → C.1 (16 + 2 * t) = sz → C.2.2.1 t = it → ∃ C', X7_table_73 fn (mh (ccells C) M2 D) 0 i (nI kind) (some (14 + 2 * t)) (some ob) (some lo) told y = some (tbF it sz i told (us.filter (gdB kind zl cs)), mh (ccells C') M2 D) ∧ frC C C'
  | [], k, fn, tn, C, told, y, hd, hf, hC, hy, htn, htk, hs, hit => by
    obtain ⟨fn, rfl⟩ : ∃ q, fn = q + 1 := ⟨fn - 1, by omega⟩
    have hk := List.drop_eq_nil_iff.mp hd
    have hn := RDs_len zl
    have hp := v_pow h.2.1
    refine ⟨C, ?_, frC.rfl hC⟩
    rw [X7_table_73, bsm, v_readings h.1 C M2, bsm, if_pos (by rw [zi_le, zo (by omega)]; omega)]
    rfl
  | s :: us, k, fn, tn, C, told, y, hd, hf, hC, hy, htn, htk, hs, hit => by
    simp only [List.length_cons] at hf
    obtain ⟨fn, rfl⟩ : ∃ q, fn = q + 1 := ⟨fn - 1, by omega⟩
    obtain ⟨d1, d2, d3⟩ := drop_c hd
    have hn := RDs_len zl
    have hp := v_pow h.2.1
    have e0 : (0 : Int32).toInt = 0 := rfl
    have hi : (y + 1).toInt = ((k + 1 : Nat) : Int) := by
      rw [zi_inc hy (by omega) (by omega)]
      omega
    have htn1 : (told + 1).toInt = ((tn + 1 : Nat) : Int) := by
      rw [zi_inc htn (by omega) (by omega)]
      omega
    obtain ⟨C1, a1, a2⟩ := k_goodS (M2 := M2) h hC (List.mem_of_getElem? d1)
    have hs1 : C1.1 (16 + 2 * t) = sz := (a2.1.1 (16 + 2 * t) (by simp only [List.mem_cons, List.not_mem_nil, or_false]; omega)).trans hs
    have hit1 : C1.2.2.1 t = it := (a2.1.2.2.1 t (by simp)).trans hit
    rw [X7_table_73, bsm, v_readings h.1 C M2, bsm, if_neg (by rw [zi_le, zo (by omega)]; omega), v_readAt h.1 h.2.1 C M2 hy d1, bsm, a1, bsm, b01_i, List.filter_cons]
    unfold X7_table_155 X7_table_121
    cases gdB kind zl cs s with
    | false =>
      rw [if_neg (by decide), if_neg (by decide)]
      obtain ⟨C2, b1, b2⟩ := kt_73 h ht hsz0 hsz us (k + 1) fn tn C1 told (y + 1) d2 (by omega) a2.lf hi htn (by omega) hs1 hit1
      exact ⟨C2, b1, frC.trans a2 b2⟩
    | true =>
      rw [if_pos rfl, if_pos rfl]
      unfold tbF
      by_cases q0 : i < 0
      · rw [if_pos q0, if_pos q0]
        exact ⟨C1, rfl, a2⟩
      · have q0' := mt zi_lt.mpr q0
        rw [if_neg q0, if_neg q0, bsm]
        dsimp only
        rw [k_size C1 M2 D ht, bsm, hs1]
        dsimp only
        by_cases q1 : i < sz - told
        · have q1' := zi_lt.mp q1
          rw [zi_sub (by omega) (by omega)] at q1'
          have hit2 : (i + told).toInt = i.toInt + told.toInt := zi_add (by omega) (by omega)
          rw [if_pos q1, if_pos q1, k_tat C1 M2 D ht (by omega) (by rw [hs1]; omega) (by rw [hs1]; omega), bsm, hit1]
          dsimp only
          rw [v_readAt h.1 h.2.1 C1 M2 hy d1, bsm]
          dsimp only
          by_cases q2 : it (i + told).toNatClampNeg = (nI s).toInt64
          · rw [if_pos ((lg_cmp_eq _ _).mpr q2), if_pos q2]
            obtain ⟨C2, b1, b2⟩ := kt_73 h ht hsz0 hsz us (k + 1) fn (tn + 1) C1 (told + 1) (y + 1) d2 (by omega) a2.lf hi htn1 (by omega) hs1 hit1
            exact ⟨C2, b1, frC.trans a2 b2⟩
          · rw [if_neg (fun c => q2 ((lg_cmp_eq _ _).mp c)), if_neg q2]
            exact ⟨C1, rfl, a2⟩
        · rw [if_neg q1, if_neg q1]
          exact ⟨C1, rfl, a2⟩
theorem rt_65 {x tx i : Int32} {b kind : Nat} {zl : List Wd} {cs : List Cz} {it : Nat → Int64} {sz so : Int32} (hkd : kind < 7) (htx : 0 ≤ tx ∧ tx ≤ 5) (hsz0 : 0 ≤ sz.toInt) (hsz : sz.toInt ≤ 60) (hso : so.toInt < 0 → sz.toInt = 0) : ∀ (us : List Nat) (fn tn : Nat) (M : MS) (told : Int32), isRun kind zl cs us → us.length < fn → rsM M x b zl cs → told.toInt = tn → tn + us.length ≤ 4096 → M.2.1 39 tx.toNatClampNeg = so → M.2.1 40 tx.toNatClampNeg = sz → (∀ j : Nat, j < 60 → it j = M.2.2 41 (60 * tx.toNatClampNeg + j)) → ∃ M', X8_table_65 fn M tx i (nI kind) x told (hdG us) = some (tbF it sz i told us, M') ∧ frT M M'
  | [], fn, tn, M, told, hu, hf, hr, htn, htl, h39, h40, h41 => by
    obtain ⟨fn, rfl⟩ : ∃ q, fn = q + 1 := ⟨fn - 1, by omega⟩
    refine ⟨M, ?_, frT.rfl⟩
    rw [X8_table_65, if_neg (show ¬ 0 ≤ hdG [] by decide)]
    rfl
  | s :: us, fn, tn, M, told, hu, hf, hr, htn, htl, h39, h40, h41 => by
    simp only [List.length_cons] at hf htl
    obtain ⟨fn, rfl⟩ : ∃ q, fn = q + 1 := ⟨fn - 1, by omega⟩
    obtain ⟨r1, r2, r3, r4⟩ := run_step hu
    have hpw := v_pow hr.2.1
    have hs : s < 4096 := by omega
    have e0 : (0 : Int32).toInt = 0 := rfl
    have e1 : (1 : Int32).toInt = 1 := rfl
    obtain ⟨p0, p1, p2, p3⟩ := x5_of htx
    rw [X8_table_65, show hdG (s :: us) = nI s from rfl, if_pos (show (0 : Int32) ≤ nI s by rw [zi_le, q_i (by omega)]; omega), m39 M htx, bsm, h39]
    unfold tbF X8_table_101
    have h1 : (sz - told).toInt = sz.toInt - tn := by rw [zi_sub (by omega) (by omega), htn]
    have h2 : (sz - told - 1).toInt = sz.toInt - tn - 1 := by
      generalize sz - told = m1 at h1 ⊢
      rw [zi_sub (by omega) (by omega), e1, h1]
    by_cases q0 : i < 0
    · rw [if_pos q0, if_pos q0, ite_self]
      exact ⟨M, rfl, frT.rfl⟩
    · have q0' := mt zi_lt.mpr q0
      rw [if_neg q0, if_neg q0]
      by_cases q1 : i < sz - told
      · have q1' := zi_lt.mp q1
        rw [h1] at q1'
        have hi2 : (i + told).toInt = i.toInt + tn := by rw [zi_add (by omega) (by omega), htn]
        obtain ⟨x1, x2, x3⟩ := ix41 htx (i := i + told) (by omega) (by omega)
        have hz := zi_n (i + told)
        have ea : 60 * tx + i + told = 60 * tx + (i + told) := Int32.add_assoc _ _ _
        have g7 : mL M 41 (60 * tx + i + told) = some (it (i + told).toNatClampNeg) := by
          rw [ea]
          unfold mL
          refine (if_pos (show ixOk (60 * tx + (i + told)) (mln 41) = true from x3)).trans ?_
          rw [x2, h41 _ (by omega)]
        rw [if_neg (show ¬ so < 0 from fun c => by have := hso (zi_lt.mp c); omega), m40 M htx, bsm, h40, if_pos (show i ≤ sz - told - 1 by rw [zi_le, h2]; omega), if_pos q1, g7, bsm]
        by_cases q2 : it (i + told).toNatClampNeg = (nI s).toInt64
        · obtain ⟨M1, a1, a2⟩ := r_after (kind := kind) hkd hr r1
          rw [r3] at a1
          rw [if_pos ((lg_cmp_eq _ _).mpr q2), if_pos q2, a1, bsm]
          obtain ⟨M3, b1, b2⟩ := rt_65 (i := i) (it := it) hkd htx hsz0 hsz hso us fn (tn + 1) M1 (told + 1) r4 (by omega) (rsM_T a2 hr) (by rw [zi_inc htn (by omega) (by omega)]; omega) (by omega) (by rw [a2.2.1 39 (by decide)]; exact h39) (by rw [a2.2.1 40 (by decide)]; exact h40) (fun j hj => by rw [a2.2.2 41 (by decide)]; exact h41 j hj)
          exact ⟨M3, b1, frT.trans a2 b2⟩
        · rw [if_neg (fun c => q2 ((lg_cmp_eq _ _).mp c)), if_neg q2]
          exact ⟨M, rfl, frT.rfl⟩
      · rw [if_neg q1]
        have q1' := mt zi_lt.mpr q1
        rw [h1] at q1'
        by_cases qs : so < 0
        · rw [if_pos qs]
          exact ⟨M, rfl, frT.rfl⟩
        · rw [if_neg qs, m40 M htx, bsm, h40, if_neg (show ¬ i ≤ sz - told - 1 by rw [zi_le, h2]; omega)]
          exact ⟨M, rfl, frT.rfl⟩
theorem o_table (C : CS) (M M2 : MS) (D : List va_E) (tx i kd x y : Int32) (hC : lf12 C) (hB : iBs (C.1 0) (C.2.2.2.1 0) D M) (hW : iLs (C.1 1) (C.2.2.2.1 1) D M) (hF : iFn M) (hT : iTp C M) : asksG C M M2 D (X7_table (mh (ccells C) M2 D) 0 tx i kd x y) (X8_table M tx i kd x y) := by
  have z1 : ¬ (1 : Int32) = 0 := by decide
  have e0 : (0 : Int32).toInt = 0 := rfl
  unfold X7_table X7_table_0 X7_table_45 X7_table_67 X8_table X8_table_0 X8_table_20 X8_table_44
  rw [k_tapeOf, bsm, prs, r_isTape, bsm, i01]
  by_cases qt : 0 ≤ tx ∧ tx ≤ 5
  · obtain ⟨p0, p1, p2, p3⟩ := x5_of qt
    obtain ⟨t1, t2, t3, t4, t5, t6, t7, t8⟩ := hT _ p2
    rw [if_pos qt, if_pos qt]
    dsimp only
    rcases nm_case hB hW kd x y with ⟨⟨b, l, ob, lo, zl, cs, kind, e1, hkd, hb, hl⟩, hg⟩ | ⟨hg, hn⟩
    · subst e1
      have hx : kcx D ob lo zl cs kind := ⟨hb.2.2.2.1, hb.2.2.1, hl.2.2.2.1, hl.2.2.1, hkd⟩
      have hpw := v_pow hb.2.2.1
      obtain ⟨M1, a1, a2, a3, a4⟩ := fine_of hb hl hF
      obtain ⟨C', b1, b2⟩ := kt_73 (M2 := M2) (i := i) hx p2 t5 t6 (RDs zl) 0 FU 0 C 0 0 rfl (by have := RDs_len zl; unfold FU; omega) hC rfl rfl (Nat.le_refl _) rfl rfl
      rw [all_eq hb.2.2.1] at b1
      obtain ⟨M3, c1, c2⟩ := r_first (kind := kind) hkd a2
      have a5 := frG.trans a4 (frT_G c2)
      have hrl := run_len (run_all kind zl cs)
      obtain ⟨M4, d1, d2⟩ := rt_65 (x := x) (b := b) (i := i) (sz := C.1 (16 + 2 * tx.toNatClampNeg)) (so := C.1 (15 + 2 * tx.toNatClampNeg)) (it := C.2.2.1 tx.toNatClampNeg) hkd qt t5 t6 (fun c => t7 (by omega)) _ FU 0 M3 0 (run_all kind zl cs) (by unfold FU; omega) (rsM_T c2 a2) rfl (by omega) (by rw [a5.2.1 39 (by decide)]; exact t1.symm) (by rw [a5.2.1 40 (by decide)]; exact t2.symm) (fun j hj => by rw [a5.2.2 41 (by decide)]; exact t8 j hj)
      have d3 := frT.trans c2 d2
      rw [hb.2.2.2.2.2.1 C M2 rfl, bsm, prs, hl.2.2.2.2.2.1 C M2 rfl, bsm, prs, ifs, k_isKind, bsm, i01, if_pos (kind_in hkd), ifs, ifs, hg, bsm]
      dsimp only
      rw [if_neg z1, k_holds C M2 D p2, bsm, m39 M qt, bsm, ← t1]
      dsimp only
      have fin8 : (X8_findFine M x y).bind (fun r1 => (X8_nextGood r1.2 (nI kind) x (-1)).bind fun r2 => X8_table_65 FU r2.2 tx i (nI kind) x 0 r2.1) = some (tbF (C.2.2.1 tx.toNatClampNeg) (C.1 (16 + 2 * tx.toNatClampNeg)) i 0 ((List.range' 0 (2 ^ zl.length)).filter (gdB kind zl cs)), M4) := by
        rw [a1, bsm]
        dsimp only
        rw [c1, bsm]
        exact d1
      by_cases qs : C.1 (15 + 2 * tx.toNatClampNeg) = -1
      · rw [if_pos (show (if C.1 (15 + 2 * tx.toNatClampNeg) = -1 then (0 : Int32) else 1) = 0 by rw [if_pos qs]), if_pos (show C.1 (15 + 2 * tx.toNatClampNeg) < 0 by rw [qs]; decide), fin8]
        exact ⟨_, C', M4, b1, rfl, b2, frG.trans a4 (frT_G d3), iFn_S (frT_S d3) a3⟩
      · have hne : (C.1 (15 + 2 * tx.toNatClampNeg)).toInt ≠ -1 := fun c => qs (zi_eq.mpr c)
        rw [if_neg (show ¬ (if C.1 (15 + 2 * tx.toNatClampNeg) = -1 then (0 : Int32) else 1) = 0 by rw [if_neg qs]; decide), if_neg (show ¬ C.1 (15 + 2 * tx.toNatClampNeg) < 0 by rw [zi_lt]; omega), k_sort C M2 D p2, bsm, bsm]
        dsimp only
        by_cases q1 : C.1 (15 + 2 * tx.toNatClampNeg) = 1
        · rw [if_pos q1, if_pos q1, fin8]
          exact ⟨_, C', M4, b1, rfl, b2, frG.trans a4 (frT_G d3), iFn_S (frT_S d3) a3⟩
        · rw [if_neg q1, if_neg q1]
          exact ⟨_, C, M, rfl, rfl, frC.rfl hC, fM.rfl, hF⟩
    · obtain ⟨oB, oL, h1, h2, h3⟩ := hn M2
      rw [h1, bsm, prs, h2, bsm, prs, ifs, k_isKind, bsm, i01, hg, bsm, if_pos rfl]
      refine ⟨-1, C, M, ?_, rfl, frC.rfl hC, fM.rfl, hF⟩
      rcases h3 with h3 | h3 | h3
      · rw [if_neg h3]
      · subst h3
        rw [ifz, ite_self]
      · subst h3
        cases oB with
        | none => rw [ifz, ite_self]
        | some a => rw [ifs, ifz, ite_self]
  · rw [if_neg qt, if_neg qt]
    obtain ⟨oB, h1⟩ : ∃ o, cO (mh (ccells C) M2 D) 0 7 (X7_bargainOf (mh (ccells C) M2 D) 0 x) = some (o, mh (ccells C) M2 D) := ⟨_, k_bargainOf C M2 D x⟩
    obtain ⟨oL, h2⟩ : ∃ o, cO (mh (ccells C) M2 D) 0 7 (X7_lawOf (mh (ccells C) M2 D) 0 y) = some (o, mh (ccells C) M2 D) := ⟨_, k_lawOf C M2 D y⟩
    rw [h1, bsm, prs, h2, bsm, prs, ifz]
    exact ⟨_, C, M, rfl, rfl, frC.rfl hC, fM.rfl, hF⟩
