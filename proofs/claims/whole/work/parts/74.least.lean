/-! ===== next, least, inAll ===== -/
theorem kn_55 {M2 : MS} {D : List va_E} {ob lo kind : Nat} {zl : List Wd} {cs : List Cz} (h : kcx D ob lo zl cs kind) (st : Int32) : ∀ (us : List Nat) (k fn : Nat) (C : CS) (y : Int32), (RDs zl).drop k = us → us.length < fn → lf12 C → y.toInt = k → ∃ C', X7_next_55 fn (mh (ccells C) M2 D) 0 (nI kind) st (some ob) (some lo) y = some (hdG ((us.filter (gdB kind zl cs)).filter (fun t => decide (st < nI t))), mh (ccells C') M2 D) ∧ frC C C'
  | [], k, fn, C, y, hd, hf, hC, hy => by
    obtain ⟨fn, rfl⟩ : ∃ q, fn = q + 1 := ⟨fn - 1, by omega⟩
    have hk := List.drop_eq_nil_iff.mp hd
    have hn := RDs_len zl
    have hp := v_pow h.2.1
    refine ⟨C, ?_, frC.rfl hC⟩
    rw [X7_next_55, bsm, v_readings h.1 C M2, bsm, if_pos (by rw [zi_le, zo (by omega)]; omega)]
    rfl
  | s :: us, k, fn, C, y, hd, hf, hC, hy => by
    simp only [List.length_cons] at hf
    obtain ⟨fn, rfl⟩ : ∃ q, fn = q + 1 := ⟨fn - 1, by omega⟩
    obtain ⟨d1, d2, d3⟩ := drop_c hd
    have hn := RDs_len zl
    have hp := v_pow h.2.1
    have hi : (y + 1).toInt = ((k + 1 : Nat) : Int) := by
      rw [zi_inc hy (by omega) (by omega)]
      omega
    rw [X7_next_55, bsm, v_readings h.1 C M2, bsm, if_neg (by rw [zi_le, zo (by omega)]; omega), v_readAt h.1 h.2.1 C M2 hy d1, bsm]
    unfold X7_next_98
    by_cases q : nI s ≤ st
    · have e : ((s :: us).filter (gdB kind zl cs)).filter (fun t => decide (st < nI t)) = (us.filter (gdB kind zl cs)).filter (fun t => decide (st < nI t)) := by
        rw [List.filter_cons]
        cases gdB kind zl cs s with
        | false => rw [if_neg (by decide)]
        | true =>
          rw [if_pos rfl, List.filter_cons, if_neg (by rw [decide_eq_true_iff, ← nle_lt]; exact fun c => c q)]
      rw [if_pos q, e]
      exact kn_55 h st us (k + 1) fn C (y + 1) d2 (by omega) hC hi
    · obtain ⟨C1, a1, a2⟩ := k_goodS (M2 := M2) h hC (List.mem_of_getElem? d1)
      rw [if_neg q]
      dsimp only
      rw [a1, bsm, b01_i, List.filter_cons]
      cases gdB kind zl cs s with
      | false =>
        rw [if_neg (by decide), if_neg (by decide)]
        obtain ⟨C2, b1, b2⟩ := kn_55 h st us (k + 1) fn C1 (y + 1) d2 (by omega) a2.lf hi
        exact ⟨C2, b1, frC.trans a2 b2⟩
      | true =>
        rw [if_pos rfl, if_pos rfl, List.filter_cons, if_pos (by rw [decide_eq_true_iff, ← nle_lt]; exact q)]
        exact ⟨C1, rfl, a2⟩
theorem o_next (C : CS) (M M2 : MS) (D : List va_E) (kd x y st : Int32) (hC : lf12 C) (hB : iBs (C.1 0) (C.2.2.2.1 0) D M) (hW : iLs (C.1 1) (C.2.2.2.1 1) D M) (hF : iFn M) : asksG C M M2 D (X7_next (mh (ccells C) M2 D) 0 kd x y st) (X8_next_ M kd x y st) := by
  have z1 : ¬ (1 : Int32) = 0 := by decide
  unfold X7_next X7_next_0 X7_next_31 X7_next_52 X8_next_ X8_next__0 X8_next__31
  rcases nm_case hB hW kd x y with ⟨⟨b, l, ob, lo, zl, cs, kind, e1, hkd, hb, hl⟩, hg⟩ | ⟨hg, hn⟩
  · subst e1
    have hx : kcx D ob lo zl cs kind := ⟨hb.2.2.2.1, hb.2.2.1, hl.2.2.2.1, hl.2.2.1, hkd⟩
    have hp := v_pow hb.2.2.1
    obtain ⟨M1, a1, a2, a3, a4⟩ := fine_of hb hl hF
    obtain ⟨C', b1, b2⟩ := kn_55 (M2 := M2) hx st (RDs zl) 0 FU C 0 rfl (by have := RDs_len zl; unfold FU; omega) hC rfl
    rw [all_eq hb.2.2.1] at b1
    rw [hb.2.2.2.2.2.1 C M2 rfl, bsm, prs, hl.2.2.2.2.2.1 C M2 rfl, bsm, prs, k_isKind, bsm, i01, if_pos (kind_in hkd), ifs, ifs, hg, bsm]
    dsimp only
    rw [if_neg z1]
    by_cases q : st = -1
    · rw [if_pos q, if_pos q, a1, bsm]
      dsimp only
      obtain ⟨M3, c1, c2⟩ := r_first (kind := kind) hkd a2
      rw [q] at b1 ⊢
      rw [c1, bsm]
      have e : ((List.range' 0 (2 ^ zl.length)).filter (gdB kind zl cs)).filter (fun t => decide (-1 < nI t)) = (List.range' 0 (2 ^ zl.length)).filter (gdB kind zl cs) := by
        rw [List.filter_eq_self]
        intro t ht
        have ht := (List.mem_range'_1.mp (List.mem_filter.mp ht).1).2
        have em : (-1 : Int32).toInt = -1 := rfl
        rw [decide_eq_true_iff, zi_lt, q_i (by omega)]
        omega
      rw [e] at b1
      exact ⟨_, C', M3, b1, rfl, b2, frG.trans a4 (frT_G c2), iFn_S (frT_S c2) a3⟩
    · rw [if_neg q, if_neg q, v_hasSet hb.2.2.2.1 hb.2.2.1 C M2 st, bsm, i01, r_isSet hb.2.1 hb.2.2.1 hb.1 hb.2.2.2.2.1, bsm, i01]
      by_cases q2 : inS zl st
      · simp only [if_pos q2]
        rw [a1, bsm]
        dsimp only
        obtain ⟨s, s1, s2, s3⟩ := q_n (x := st) (k := 2 ^ zl.length - 1) q2.1 (by have := q2.2; omega)
        obtain ⟨M3, c1, c2⟩ := r_after (kind := kind) hkd a2 (show s < 2 ^ zl.length by omega)
        rw [s2] at b1 ⊢
        rw [c1, bsm]
        have e : ((List.range' 0 (2 ^ zl.length)).filter (gdB kind zl cs)).filter (fun t => decide (nI s < nI t)) = (List.range' (s + 1) (2 ^ zl.length - s - 1)).filter (gdB kind zl cs) := by
          rw [← rng_drop (2 ^ zl.length) s (by omega), List.filter_filter, List.filter_filter]
          apply List.filter_congr
          intro t ht
          have ht := (List.mem_range'_1.mp ht).2
          rw [Bool.and_comm]
          congr 1
          by_cases u : s < t
          · rw [decide_eq_true u, decide_eq_true ((q_lt (by omega) (by omega)).mpr u)]
          · rw [decide_eq_false u, decide_eq_false (fun c => u ((q_lt (by omega) (by omega)).mp c))]
        rw [e] at b1
        exact ⟨_, C', M3, b1, rfl, b2, frG.trans a4 (frT_G c2), iFn_S (frT_S c2) a3⟩
      · simp only [if_neg q2]
        exact ⟨_, C, M, rfl, rfl, frC.rfl hC, fM.rfl, hF⟩
  · obtain ⟨oB, oL, h1, h2, h3⟩ := hn M2
    rw [h1, bsm, prs, h2, bsm, prs, k_isKind, bsm, i01, hg, bsm, if_pos rfl]
    refine ⟨-1, C, M, ?_, rfl, frC.rfl hC, fM.rfl, hF⟩
    rcases h3 with h3 | h3 | h3
    · rw [if_neg h3]
    · subst h3
      rw [ifz, ite_self]
    · subst h3
      cases oB with
      | none => rw [ifz, ite_self]
      | some a => rw [ifs, ifz, ite_self]
-- least
def e5 (b : Option Nat) : Int32 := match b with
  | none => -5
  | some t => nI t
def lsF : Option Nat → List Nat → Option Nat
  | b, [] => b
  | none, s :: us => lsF (some s) us
  | some t, s :: us => lsF (if pop s < pop t then some s else some t) us
def bOk (b : Option Nat) : Prop := ∀ t, b = some t → t < 4096
theorem bOk_n : bOk none := fun t h => by cases h
theorem bOk_s {s : Nat} (h : s < 4096) : bOk (some s) := fun t e => by cases e; exact h
theorem e5_some {s : Nat} (h : s < 4096) : ¬ e5 (some s) < 0 := by
  have e0 : (0 : Int32).toInt = 0 := rfl
  show ¬ nI s < 0
  rw [zi_lt, q_i (by omega)]
  omega
theorem kl_40 {M2 : MS} {D : List va_E} {ob lo kind : Nat} {zl : List Wd} {cs : List Cz} (h : kcx D ob lo zl cs kind) : ∀ (us : List Nat) (k fn : Nat) (C : CS) (best : Option Nat) (y : Int32), (RDs zl).drop k = us → us.length < fn → lf12 C → y.toInt = k → bOk best → ∃ C', X7_least_40 fn (mh (ccells C) M2 D) 0 (nI kind) (some ob) (some lo) (e5 best) y = some (e5 (lsF best (us.filter (gdB kind zl cs))), mh (ccells C') M2 D) ∧ frC C C'
  | [], k, fn, C, best, y, hd, hf, hC, hy, hbo => by
    obtain ⟨fn, rfl⟩ : ∃ q, fn = q + 1 := ⟨fn - 1, by omega⟩
    have hk := List.drop_eq_nil_iff.mp hd
    have hn := RDs_len zl
    have hp := v_pow h.2.1
    refine ⟨C, ?_, frC.rfl hC⟩
    rw [X7_least_40, bsm, v_readings h.1 C M2, bsm, if_pos (by rw [zi_le, zo (by omega)]; omega), List.filter_nil]
    cases best <;> rfl
  | s :: us, k, fn, C, best, y, hd, hf, hC, hy, hbo => by
    simp only [List.length_cons] at hf
    obtain ⟨fn, rfl⟩ : ∃ q, fn = q + 1 := ⟨fn - 1, by omega⟩
    obtain ⟨d1, d2, d3⟩ := drop_c hd
    have hn := RDs_len zl
    have hp := v_pow h.2.1
    have hs := (RDs_mem h.2.1 (List.mem_of_getElem? d1)).1
    have hi : (y + 1).toInt = ((k + 1 : Nat) : Int) := by
      rw [zi_inc hy (by omega) (by omega)]
      omega
    obtain ⟨C1, a1, a2⟩ := k_goodS (M2 := M2) h hC (List.mem_of_getElem? d1)
    have take : ∃ C', X7_least_82 (X7_least_40 fn) (mh (ccells C) M2 D) 0 1 (nI kind) (some ob) (some lo) (e5 best) y (nI s) = some (e5 (if gdB kind zl cs s = true then lsF (some s) (us.filter (gdB kind zl cs)) else lsF best (us.filter (gdB kind zl cs))), mh (ccells C') M2 D) ∧ frC C C' := by
      unfold X7_least_82 X7_least_107
      rw [if_neg (show ¬ (1 : Int32) = 0 by decide), a1, bsm, b01_i]
      cases gdB kind zl cs s with
      | false =>
        rw [if_neg (by decide), if_neg (by decide)]
        obtain ⟨C2, b1, b2⟩ := kl_40 h us (k + 1) fn C1 best (y + 1) d2 (by omega) a2.lf hi hbo
        exact ⟨C2, b1, frC.trans a2 b2⟩
      | true =>
        rw [if_pos rfl, if_pos rfl]
        obtain ⟨C2, b1, b2⟩ := kl_40 h us (k + 1) fn C1 (some s) (y + 1) d2 (by omega) a2.lf hi (bOk_s (by omega))
        exact ⟨C2, b1, frC.trans a2 b2⟩
    rw [X7_least_40, bsm, v_readings h.1 C M2, bsm, if_neg (by rw [zi_le, zo (by omega)]; omega), v_readAt h.1 h.2.1 C M2 hy d1, bsm, List.filter_cons]
    unfold X7_least_77
    cases best with
    | none =>
      rw [if_pos (show e5 none < 0 by decide)]
      obtain ⟨C2, b1, b2⟩ := take
      refine ⟨C2, b1.trans ?_, b2⟩
      cases gdB kind zl cs s with
      | false => rw [if_neg (by decide), if_neg (by decide)]
      | true => rw [if_pos rfl, if_pos rfl]; rfl
    | some t =>
      have ht := hbo t rfl
      rw [if_neg (e5_some ht), k_bitc _ (show s < 4096 by omega), bsm]
      dsimp only
      rw [show e5 (some t) = nI t from rfl, k_bitc _ ht, bsm]
      have p1 := pop_le s
      have p2 := pop_le t
      by_cases q : pop t ≤ pop s
      · rw [if_pos ((q_le (by omega) (by omega)).mpr q)]
        unfold X7_least_82 X7_least_107
        rw [if_pos rfl]
        obtain ⟨C2, b1, b2⟩ := kl_40 h us (k + 1) fn C (some t) (y + 1) d2 (by omega) hC hi hbo
        refine ⟨C2, b1.trans ?_, b2⟩
        cases gdB kind zl cs s with
        | false => rw [if_neg (by decide)]
        | true =>
          rw [if_pos rfl]
          show _ = some (e5 (lsF (if pop s < pop t then some s else some t) _), _)
          rw [if_neg (by omega)]
      · rw [if_neg (fun c => q ((q_le (by omega) (by omega)).mp c))]
        obtain ⟨C2, b1, b2⟩ := take
        refine ⟨C2, b1.trans ?_, b2⟩
        cases gdB kind zl cs s with
        | false => rw [if_neg (by decide), if_neg (by decide)]
        | true =>
          rw [if_pos rfl, if_pos rfl]
          show _ = some (e5 (lsF (if pop s < pop t then some s else some t) _), _)
          rw [if_pos (by omega)]
theorem rl_31 {x : Int32} {b kind : Nat} {zl : List Wd} {cs : List Cz} (hkd : kind < 7) : ∀ (us : List Nat) (fn : Nat) (M : MS) (best : Option Nat), isRun kind zl cs us → us.length < fn → rsM M x b zl cs → bOk best → ∃ M', X8_least_31 fn M (nI kind) x (e5 best) (hdG us) = some (e5 (lsF best us), M') ∧ frT M M'
  | [], fn, M, best, hu, hf, hr, hbo => by
    obtain ⟨fn, rfl⟩ : ∃ q, fn = q + 1 := ⟨fn - 1, by omega⟩
    refine ⟨M, ?_, frT.rfl⟩
    rw [X8_least_31, if_pos (show hdG [] < 0 by decide)]
    cases best <;> rfl
  | s :: us, fn, M, best, hu, hf, hr, hbo => by
    simp only [List.length_cons] at hf
    obtain ⟨fn, rfl⟩ : ∃ q, fn = q + 1 := ⟨fn - 1, by omega⟩
    obtain ⟨r1, r2, r3, r4⟩ := run_step hu
    have hp := v_pow hr.2.1
    have hs : s < 4096 := by omega
    obtain ⟨M1, a1, a2⟩ := r_after (kind := kind) hkd hr r1
    rw [r3] at a1
    have go : ∀ nb : Option Nat, bOk nb → ∃ M', X8_least_63 (X8_least_31 fn) M (e5 nb) (nI kind) x (nI s) = some (e5 (lsF nb us), M') ∧ frT M M' := by
      intro nb hnb
      unfold X8_least_63
      rw [a1, bsm]
      obtain ⟨M2, b1, b2⟩ := rl_31 hkd us fn M1 nb r4 (by omega) (rsM_T a2 hr) hnb
      exact ⟨M2, b1, frT.trans a2 b2⟩
    rw [X8_least_31, if_neg (show ¬ hdG (s :: us) < 0 from e5_some hs)]
    unfold X8_least_56
    cases best with
    | none =>
      rw [if_pos (show e5 none < 0 by decide)]
      exact go (some s) (bOk_s hs)
    | some t =>
      have ht := hbo t rfl
      have p1 := pop_le s
      have p2 := pop_le t
      rw [if_neg (e5_some ht), show hdG (s :: us) = nI s from rfl, r_ones M hs, bsm, show e5 (some t) = nI t from rfl]
      dsimp only
      rw [r_ones M ht, bsm]
      show ∃ M', _ = some (e5 (lsF (if pop s < pop t then some s else some t) us), M') ∧ _
      by_cases q : pop t ≤ pop s
      · rw [if_pos ((q_le (by omega) (by omega)).mpr q), if_neg (by omega)]
        exact go (some t) hbo
      · rw [if_neg (fun c => q ((q_le (by omega) (by omega)).mp c)), if_pos (by omega)]
        exact go (some s) (bOk_s hs)
theorem o_least (C : CS) (M M2 : MS) (D : List va_E) (kd x y : Int32) (hC : lf12 C) (hB : iBs (C.1 0) (C.2.2.2.1 0) D M) (hW : iLs (C.1 1) (C.2.2.2.1 1) D M) (hF : iFn M) : asksG C M M2 D (X7_least (mh (ccells C) M2 D) 0 kd x y) (X8_least M kd x y) := by
  have z1 : ¬ (1 : Int32) = 0 := by decide
  unfold X7_least X7_least_0 X7_least_31 X8_least X8_least_0
  rcases nm_case hB hW kd x y with ⟨⟨b, l, ob, lo, zl, cs, kind, e1, hkd, hb, hl⟩, hg⟩ | ⟨hg, hn⟩
  · subst e1
    have hx : kcx D ob lo zl cs kind := ⟨hb.2.2.2.1, hb.2.2.1, hl.2.2.2.1, hl.2.2.1, hkd⟩
    have hp := v_pow hb.2.2.1
    obtain ⟨M1, a1, a2, a3, a4⟩ := fine_of hb hl hF
    obtain ⟨C', b1, b2⟩ := kl_40 (M2 := M2) hx (RDs zl) 0 FU C none 0 rfl (by have := RDs_len zl; unfold FU; omega) hC rfl bOk_n
    rw [all_eq hb.2.2.1] at b1
    obtain ⟨M3, c1, c2⟩ := r_first (kind := kind) hkd a2
    obtain ⟨M4, d1, d2⟩ := rl_31 (x := x) (b := b) hkd _ FU M3 none (run_all kind zl cs) (by have := run_len (run_all kind zl cs); unfold FU; omega) (rsM_T c2 a2) bOk_n
    rw [hb.2.2.2.2.2.1 C M2 rfl, bsm, prs, hl.2.2.2.2.2.1 C M2 rfl, bsm, prs, k_isKind, bsm, i01, if_pos (kind_in hkd), ifs, ifs, hg, bsm]
    dsimp only
    rw [if_neg z1, a1, bsm]
    dsimp only
    rw [c1, bsm]
    have d3 := frT.trans c2 d2
    exact ⟨_, C', M4, b1, d1, b2, frG.trans a4 (frT_G d3), iFn_S (frT_S d3) a3⟩
  · obtain ⟨oB, oL, h1, h2, h3⟩ := hn M2
    rw [h1, bsm, prs, h2, bsm, prs, k_isKind, bsm, i01, hg, bsm, if_pos rfl]
    refine ⟨-1, C, M, ?_, rfl, frC.rfl hC, fM.rfl, hF⟩
    rcases h3 with h3 | h3 | h3
    · rw [if_neg h3]
    · subst h3
      rw [ifz, ite_self]
    · subst h3
      cases oB with
      | none => rw [ifz, ite_self]
      | some a => rw [ifs, ifz, ite_self]
-- inAll
def iaF : Int32 → List Nat → Int32
  | a, [] => a
  | a, s :: us => iaF (a &&& nI s) us
theorem ki_45 {M2 : MS} {D : List va_E} {ob lo kind : Nat} {zl : List Wd} {cs : List Cz} (h : kcx D ob lo zl cs kind) : ∀ (us : List Nat) (k fn : Nat) (C : CS) (acc y : Int32), (RDs zl).drop k = us → us.length < fn → lf12 C → y.toInt = k → ∃ C', X7_inAll_45 fn (mh (ccells C) M2 D) 0 (nI kind) (some ob) (some lo) acc y = some (iaF acc (us.filter (gdB kind zl cs)), mh (ccells C') M2 D) ∧ frC C C'
  | [], k, fn, C, acc, y, hd, hf, hC, hy => by
    obtain ⟨fn, rfl⟩ : ∃ q, fn = q + 1 := ⟨fn - 1, by omega⟩
    have hk := List.drop_eq_nil_iff.mp hd
    have hn := RDs_len zl
    have hp := v_pow h.2.1
    refine ⟨C, ?_, frC.rfl hC⟩
    rw [X7_inAll_45, bsm, v_readings h.1 C M2, bsm, if_pos (by rw [zi_le, zo (by omega)]; omega)]
    rfl
  | s :: us, k, fn, C, acc, y, hd, hf, hC, hy => by
    simp only [List.length_cons] at hf
    obtain ⟨fn, rfl⟩ : ∃ q, fn = q + 1 := ⟨fn - 1, by omega⟩
    obtain ⟨d1, d2, d3⟩ := drop_c hd
    have hn := RDs_len zl
    have hp := v_pow h.2.1
    have hi : (y + 1).toInt = ((k + 1 : Nat) : Int) := by
      rw [zi_inc hy (by omega) (by omega)]
      omega
    obtain ⟨C1, a1, a2⟩ := k_goodS (M2 := M2) h hC (List.mem_of_getElem? d1)
    rw [X7_inAll_45, bsm, v_readings h.1 C M2, bsm, if_neg (by rw [zi_le, zo (by omega)]; omega), v_readAt h.1 h.2.1 C M2 hy d1, bsm, a1, bsm, b01_i, List.filter_cons]
    unfold X7_inAll_86
    cases gdB kind zl cs s with
    | false =>
      rw [if_neg (by decide), if_neg (by decide)]
      obtain ⟨C2, b1, b2⟩ := ki_45 h us (k + 1) fn C1 acc (y + 1) d2 (by omega) a2.lf hi
      exact ⟨C2, b1, frC.trans a2 b2⟩
    | true =>
      rw [if_pos rfl, if_pos rfl]
      dsimp only
      rw [v_readAt h.1 h.2.1 C1 M2 hy d1, bsm]
      obtain ⟨C2, b1, b2⟩ := ki_45 h us (k + 1) fn C1 (acc &&& nI s) (y + 1) d2 (by omega) a2.lf hi
      exact ⟨C2, b1, frC.trans a2 b2⟩
theorem ri_39 {x : Int32} {b kind : Nat} {zl : List Wd} {cs : List Cz} (hkd : kind < 7) : ∀ (us : List Nat) (fn : Nat) (M : MS) (acc : Int32), isRun kind zl cs us → us.length < fn → rsM M x b zl cs → ∃ M', X8_inAll_39 fn M (nI kind) x acc (hdG us) = some (iaF acc us, M') ∧ frT M M'
  | [], fn, M, acc, hu, hf, hr => by
    obtain ⟨fn, rfl⟩ : ∃ q, fn = q + 1 := ⟨fn - 1, by omega⟩
    refine ⟨M, ?_, frT.rfl⟩
    rw [X8_inAll_39, if_pos (show hdG [] < 0 by decide)]
    rfl
  | s :: us, fn, M, acc, hu, hf, hr => by
    simp only [List.length_cons] at hf
    obtain ⟨fn, rfl⟩ : ∃ q, fn = q + 1 := ⟨fn - 1, by omega⟩
    obtain ⟨r1, r2, r3, r4⟩ := run_step hu
    have hp := v_pow hr.2.1
    have hs : s < 4096 := by omega
    obtain ⟨M1, a1, a2⟩ := r_after (kind := kind) hkd hr r1
    rw [r3] at a1
    obtain ⟨M2, b1, b2⟩ := ri_39 hkd us fn M1 (acc &&& nI s) r4 (by omega) (rsM_T a2 hr)
    rw [X8_inAll_39, if_neg (show ¬ hdG (s :: us) < 0 from e5_some hs), show hdG (s :: us) = nI s from rfl, a1, bsm]
    exact ⟨M2, b1, frT.trans a2 b2⟩
theorem o_inAll (C : CS) (M M2 : MS) (D : List va_E) (kd x y : Int32) (hC : lf12 C) (hB : iBs (C.1 0) (C.2.2.2.1 0) D M) (hW : iLs (C.1 1) (C.2.2.2.1 1) D M) (hF : iFn M) : asksG C M M2 D (X7_inAll (mh (ccells C) M2 D) 0 kd x y) (X8_inAll M kd x y) := by
  have z1 : ¬ (1 : Int32) = 0 := by decide
  unfold X7_inAll X7_inAll_0 X7_inAll_31 X8_inAll X8_inAll_0
  rcases nm_case hB hW kd x y with ⟨⟨b, l, ob, lo, zl, cs, kind, e1, hkd, hb, hl⟩, hg⟩ | ⟨hg, hn⟩
  · subst e1
    have hx : kcx D ob lo zl cs kind := ⟨hb.2.2.2.1, hb.2.2.1, hl.2.2.2.1, hl.2.2.1, hkd⟩
    have hp := v_pow hb.2.2.1
    obtain ⟨M1, a1, a2, a3, a4⟩ := fine_of hb hl hF
    obtain ⟨C', b1, b2⟩ := ki_45 (M2 := M2) hx (RDs zl) 0 FU C (nI (2 ^ zl.length) - 1) 0 rfl (by have := RDs_len zl; unfold FU; omega) hC rfl
    rw [all_eq hb.2.2.1] at b1
    obtain ⟨w1, w2⟩ := r_words a2
    obtain ⟨M3, c1, c2⟩ := r_first (kind := kind) hkd a2
    obtain ⟨M4, d1, d2⟩ := ri_39 (x := x) (b := b) hkd _ FU M3 (nI (2 ^ zl.length) - 1) (run_all kind zl cs) (by have := run_len (run_all kind zl cs); unfold FU; omega) (rsM_T c2 a2)
    rw [hb.2.2.2.2.2.1 C M2 rfl, bsm, prs, hl.2.2.2.2.2.1 C M2 rfl, bsm, prs, k_isKind, bsm, i01, if_pos (kind_in hkd), ifs, ifs, v_sets hb.2.2.2.1 C M2, bsm, hg, bsm]
    dsimp only
    rw [if_neg z1, a1, bsm]
    dsimp only
    rw [w1, bsm, c1, bsm, w2]
    have d3 := frT.trans c2 d2
    exact ⟨_, C', M4, b1, d1, b2, frG.trans a4 (frT_G d3), iFn_S (frT_S d3) a3⟩
  · obtain ⟨oB, oL, h1, h2, h3⟩ := hn M2
    rw [h1, bsm, prs, h2, bsm, prs, k_isKind, bsm, i01, hg, bsm, if_pos rfl]
    refine ⟨-1, C, M, ?_, rfl, frC.rfl hC, fM.rfl, hF⟩
    rcases h3 with h3 | h3 | h3
    · rw [if_neg h3]
    · subst h3
      rw [ifz, ite_self]
    · subst h3
      cases oB with
      | none => rw [ifz, ite_self]
      | some a => rw [ifs, ifz, ite_self]
