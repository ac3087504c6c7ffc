/-! ===== dear ===== -/
def wtF (p : Nat → Int32) (who : Int32) (ds : List Dt) : Int32 := if who = 2 then (if 0 ≤ csF p 0 ds - csF p 1 ds then csF p 0 ds - csF p 1 ds else 0 - (csF p 0 ds - csF p 1 ds)) else csF p who ds
def wSf (p : Nat → Int32) (who : Int32) (zl : List Wd) (s : Nat) : Int32 := match rdS zl (nI s) with
  | none => 0
  | some ds => wtF p who ds
theorem k_weight {C : CS} {M2 : MS} {D : List va_E} {ob s : Nat} {zl : List Wd} {ds : List Dt} {p : Nat → Int32} {who : Int32} (hC : lf12 C) (hB : BVD D ob zl) (hk : okB zl) (hr : rdS zl (nI s) = some ds) (hp : C.2.1 2 = p) : ∃ C', cO (mh (ccells C) M2 D) 0 7 (X7_weightFor (mh (ccells C) M2 D) 0 (some ob) (nI s) who) = some (wSf p who zl s, mh (ccells C') M2 D) ∧ frC C C' := by
  have hc : ∀ o : Option (Int32 × AH), cO (mh (ccells C) M2 D) 0 7 o = o := fun _ => rfl
  have gp : ∀ C' : CS, gQ (mh (ccells C') M2 D) 0 7 4 = some (some 8) := fun _ => rfl
  have gs : ∀ C' : CS, (mh (ccells C') M2 D)[8]? = some (.inl (0, (10, .inl (C'.2.1 2)))) := fun _ => rfl
  obtain ⟨C', t1, t2, t3, t4⟩ := v_tell (M := M2) hC hB hk hr
  have hV := lV_dV t3 M2 D
  have hp' : C'.2.1 2 = p := (t2.1.2.1 2 (by decide)).trans hp
  have gs' := gs C'
  rw [hp'] at gs'
  refine ⟨C', ?_, t2⟩
  rw [hc]
  unfold X7_weightFor X7_weightFor_0 wSf wtF
  rw [left_q, bsm, bsm, t1, bsm, hr]
  dsimp only
  by_cases q : who = 2
  · rw [if_pos q, if_pos q, left_q, bsm, gp, bsm, bsm, k_cost hV t4 gs' 0, bsm]
    dsimp only
    rw [left_q, bsm, gp, bsm, bsm, k_cost hV t4 gs' 1, bsm]
  · rw [if_neg q, if_neg q, left_q, bsm, gp, bsm, bsm, k_cost hV t4 gs' who, bsm]
def drF (p : Nat → Int32) (who : Int32) (zl : List Wd) : Option Nat → Int32 → List Nat → Option Nat
  | b, _, [] => b
  | none, _, s :: us => drF p who zl (some s) (wSf p who zl s) us
  | some t, w, s :: us => if wSf p who zl s < w ∨ (wSf p who zl s = w ∧ pop s < pop t) then drF p who zl (some s) (wSf p who zl s) us else drF p who zl (some t) w us
theorem kd_54 {M2 : MS} {D : List va_E} {ob lo kind : Nat} {zl : List Wd} {cs : List Cz} {p : Nat → Int32} {who : Int32} (h : kcx D ob lo zl cs kind) : ∀ (us : List Nat) (k fn : Nat) (C : CS) (best : Option Nat) (w y : Int32), (RDs zl).drop k = us → us.length < fn → lf12 C → y.toInt = k → bOk best → C.2.1 2 = p → ∃ C', X7_dear_54 fn (mh (ccells C) M2 D) 0 (nI kind) who (some ob) (some lo) (e5 best) w y = some (e5 (drF p who zl best w (us.filter (gdB kind zl cs))), mh (ccells C') M2 D) ∧ frC C C'
  | [], k, fn, C, best, w, y, hd, hf, hC, hy, hbo, hp => by
    obtain ⟨fn, rfl⟩ : ∃ q, fn = q + 1 := ⟨fn - 1, by omega⟩
    have hk := List.drop_eq_nil_iff.mp hd
    have hn := RDs_len zl
    have hpw := v_pow h.2.1
    refine ⟨C, ?_, frC.rfl hC⟩
    rw [X7_dear_54, bsm, v_readings h.1 C M2, bsm, if_pos (by rw [zi_le, zo (by omega)]; omega), List.filter_nil]
    cases best <;> rfl
  | s :: us, k, fn, C, best, w, y, hd, hf, hC, hy, hbo, hp => by
    simp only [List.length_cons] at hf
    obtain ⟨fn, rfl⟩ : ∃ q, fn = q + 1 := ⟨fn - 1, by omega⟩
    obtain ⟨d1, d2, d3⟩ := drop_c hd
    have hn := RDs_len zl
    have hpw := v_pow h.2.1
    have hmem := List.mem_of_getElem? d1
    obtain ⟨hs, ds, hr⟩ := RDs_mem h.2.1 hmem
    have hi : (y + 1).toInt = ((k + 1 : Nat) : Int) := by
      rw [zi_inc hy (by omega) (by omega)]
      omega
    obtain ⟨C1, a1, a2⟩ := k_goodS (M2 := M2) h hC hmem
    have hp1 : C1.2.1 2 = p := (a2.1.2.1 2 (by decide)).trans hp
    rw [X7_dear_54, bsm, v_readings h.1 C M2, bsm, if_neg (by rw [zi_le, zo (by omega)]; omega), v_readAt h.1 h.2.1 C M2 hy d1, bsm, a1, bsm, b01_i, List.filter_cons]
    cases gdB kind zl cs s with
    | false =>
      unfold X7_dear_159
      rw [if_neg (by decide), if_neg (by decide)]
      obtain ⟨C2, b1, b2⟩ := kd_54 (who := who) h us (k + 1) fn C1 best w (y + 1) d2 (by omega) a2.lf hi hbo hp1
      exact ⟨C2, b1, frC.trans a2 b2⟩
    | true =>
      obtain ⟨C3, w1, w2⟩ := k_weight (M2 := M2) (who := who) a2.lf h.1 h.2.1 hr hp1
      have hp3 : C3.2.1 2 = p := (w2.1.2.1 2 (by decide)).trans hp1
      have a3 := frC.trans a2 w2
      rw [if_pos rfl, if_pos rfl]
      dsimp only
      rw [w1, bsm]
      dsimp only
      have take : ∃ C', X7_dear_151 (X7_dear_54 fn) (mh (ccells C3) M2 D) 0 (nI kind) who (some ob) (some lo) y (nI s) (wSf p who zl s) = some (e5 (drF p who zl (some s) (wSf p who zl s) (us.filter (gdB kind zl cs))), mh (ccells C') M2 D) ∧ frC C C' := by
        unfold X7_dear_151 X7_dear_159
        obtain ⟨C2, b1, b2⟩ := kd_54 (who := who) h us (k + 1) fn C3 (some s) (wSf p who zl s) (y + 1) d2 (by omega) a3.lf hi (bOk_s (by omega)) hp3
        exact ⟨C2, b1, frC.trans a3 b2⟩
      have skip : ∃ C', X7_dear_159 (X7_dear_54 fn) (mh (ccells C3) M2 D) 0 (nI kind) who (some ob) (some lo) (e5 best) w y = some (e5 (drF p who zl best w (us.filter (gdB kind zl cs))), mh (ccells C') M2 D) ∧ frC C C' := by
        unfold X7_dear_159
        obtain ⟨C2, b1, b2⟩ := kd_54 (who := who) h us (k + 1) fn C3 best w (y + 1) d2 (by omega) a3.lf hi hbo hp3
        exact ⟨C2, b1, frC.trans a3 b2⟩
      unfold X7_dear_124 X7_dear_125
      cases best with
      | none =>
        rw [if_pos (show e5 none < 0 by decide), if_pos (show e5 none < 0 by decide)]
        exact take
      | some t =>
        have ht := hbo t rfl
        have p1 := pop_le s
        have p2 := pop_le t
        have ev : ∀ l : List Nat, drF p who zl (some t) w (s :: l) = if wSf p who zl s < w ∨ (wSf p who zl s = w ∧ pop s < pop t) then drF p who zl (some s) (wSf p who zl s) l else drF p who zl (some t) w l := fun l => rfl
        rw [ev, if_neg (e5_some ht), k_bitc _ (show s < 4096 by omega), bsm]
        dsimp only
        rw [show e5 (some t) = nI t from rfl, k_bitc _ ht, bsm]
        dsimp only
        have hn5 : ¬ nI t < 0 := e5_some ht
        rw [if_neg hn5, if_neg hn5]
        by_cases q1 : wSf p who zl s < w
        · rw [if_pos q1, if_pos q1, ite_self, if_pos (show wSf p who zl s < w ∨ (wSf p who zl s = w ∧ pop s < pop t) from .inl q1)]
          exact take
        · rw [if_neg q1, if_neg q1]
          by_cases q2 : wSf p who zl s = w
          · rw [if_pos q2, if_pos q2, if_pos rfl, if_neg (show ¬ (1 : Int32) = 0 by decide)]
            by_cases q3 : pop t ≤ pop s
            · rw [if_pos ((q_le (by omega) (by omega)).mpr q3), if_neg (show ¬ (wSf p who zl s < w ∨ (wSf p who zl s = w ∧ pop s < pop t)) from fun c => c.elim q1 (fun d => by omega))]
              exact skip
            · rw [if_neg (fun c => q3 ((q_le (by omega) (by omega)).mp c)), if_pos (show wSf p who zl s < w ∨ (wSf p who zl s = w ∧ pop s < pop t) from .inr ⟨q2, by omega⟩)]
              exact take
          · rw [if_neg q2, if_neg q2, ite_self, if_neg (show ¬ (wSf p who zl s < w ∨ (wSf p who zl s = w ∧ pop s < pop t)) from fun c => c.elim q1 (fun d => q2 d.1))]
            exact skip
theorem r_weigh {M : MS} {x : Int32} {b s : Nat} {zl : List Wd} {ds : List Dt} {p : Nat → Int32} {who : Int32} (hb : b < 6) (hk : okB zl) (hx : x.toInt = b) (hB : rBg M b zl) (hr : rdS zl (nI s) = some ds) (hp : ∀ t : Nat, t < 10 → p t = M.2.1 19 t) (h0 : 0 ≤ who.toInt) (h2 : who.toInt ≤ 2) : ∃ M', X8_weigh M x (nI s) who = some (wSf p who zl s, M') ∧ frT M M' := by
  obtain ⟨l1, l2⟩ := r_leftB (st := nI s) hb hk hx hB
  obtain ⟨M1, a1, a2, a3⟩ := l2 ds hr
  have hok := rdS_ok hk hr
  have hp1 : ∀ t : Nat, t < 10 → p t = M1.2.1 19 t := fun t ht => by
    rw [a3.2.1 19 (by decide)]
    exact hp t ht
  have e2 : (2 : Int32).toInt = 2 := rfl
  have e0 : (0 : Int32).toInt = 0 := rfl
  have z1 : ¬ (1 : Int32) = 0 := by decide
  refine ⟨M1, ?_, frL_T a3⟩
  unfold X8_weigh X8_weigh_0 X8_weigh_32 X8_weigh_49 X8_weigh_57 wSf wtF
  rw [a1, bsm, hr]
  dsimp only
  by_cases q : who = 2
  · have hq : ¬ who < 2 := by rw [q]; decide
    rw [if_pos (show (2 : Int32) ≤ who by rw [q]; decide), if_pos q, r_cost a2 hok hp1, bsm]
    dsimp only
    rw [r_cost a2 hok hp1, bsm]
    dsimp only
    rw [if_neg z1, if_neg hq]
    by_cases q3 : csF p 0 ds - csF p 1 ds < 0
    · rw [if_pos q3, if_neg (show ¬ 0 ≤ csF p 0 ds - csF p 1 ds by rw [nle_lt]; exact q3), Int32.zero_sub]
    · rw [if_neg q3, if_pos (show 0 ≤ csF p 0 ds - csF p 1 ds by rw [zi_le]; have := mt zi_lt.mpr q3; omega)]
  · have hq : who.toInt ≠ 2 := fun c => q (zi_eq.mpr c)
    rw [if_neg (show ¬ (2 : Int32) ≤ who by rw [zi_le]; omega), if_neg q, r_cost a2 hok hp1, bsm]
    dsimp only
    rw [if_neg z1, if_pos (show who < 2 by rw [zi_lt]; omega)]
theorem rd_45 {x : Int32} {b kind : Nat} {zl : List Wd} {cs : List Cz} {p : Nat → Int32} {who : Int32} (hkd : kind < 7) (h0 : 0 ≤ who.toInt) (h2 : who.toInt ≤ 2) : ∀ (us : List Nat) (fn : Nat) (M : MS) (best : Option Nat) (w : Int32), isRun kind zl cs us → us.length < fn → rsM M x b zl cs → bOk best → (∀ t : Nat, t < 10 → p t = M.2.1 19 t) → ∃ M', X8_dear_45 fn M (nI kind) x who (e5 best) w (hdG us) = some (e5 (drF p who zl best w us), M') ∧ frT M M'
  | [], fn, M, best, w, hu, hf, hr, hbo, hp => by
    obtain ⟨fn, rfl⟩ : ∃ q, fn = q + 1 := ⟨fn - 1, by omega⟩
    refine ⟨M, ?_, frT.rfl⟩
    rw [X8_dear_45, if_pos (show hdG [] < 0 by decide)]
    cases best <;> rfl
  | s :: us, fn, M, best, w, hu, hf, hr, hbo, hp => by
    simp only [List.length_cons] at hf
    obtain ⟨fn, rfl⟩ : ∃ q, fn = q + 1 := ⟨fn - 1, by omega⟩
    obtain ⟨r1, r2, r3, r4⟩ := run_step hu
    have hpw := v_pow hr.2.1
    have hs : s < 4096 := by omega
    obtain ⟨ds, hds⟩ := gd_rd r2
    obtain ⟨M1, w1, w2⟩ := r_weigh (who := who) hr.1 hr.2.1 hr.2.2.1 hr.2.2.2.1 hds hp h0 h2
    have hr1 := rsM_T w2 hr
    obtain ⟨M2, a1, a2⟩ := r_after (kind := kind) hkd hr1 r1
    rw [r3] at a1
    have a3 := frT.trans w2 a2
    have hp2 : ∀ t : Nat, t < 10 → p t = M2.2.1 19 t := fun t ht => by
      rw [a3.2.1 19 (by decide)]
      exact hp t ht
    have go : ∀ (nb : Option Nat) (nw : Int32), bOk nb → ∃ M', X8_dear_106 (X8_dear_45 fn) M1 (nI kind) x who (e5 nb) nw (nI s) = some (e5 (drF p who zl nb nw us), M') ∧ frT M M' := by
      intro nb nw hnb
      unfold X8_dear_106
      rw [a1, bsm]
      obtain ⟨M3, b1, b2⟩ := rd_45 hkd h0 h2 us fn M2 nb nw r4 (by omega) (rsM_T a2 hr1) hnb hp2
      exact ⟨M3, b1, frT.trans a3 b2⟩
    rw [X8_dear_45, if_neg (show ¬ hdG (s :: us) < 0 from e5_some hs), show hdG (s :: us) = nI s from rfl, w1, bsm]
    unfold X8_dear_98
    cases best with
    | none =>
      rw [if_pos (show e5 none < 0 by decide)]
      exact go (some s) _ (bOk_s hs)
    | some t =>
      have ht := hbo t rfl
      have p1 := pop_le s
      have p2 := pop_le t
      have ev : drF p who zl (some t) w (s :: us) = if wSf p who zl s < w ∨ (wSf p who zl s = w ∧ pop s < pop t) then drF p who zl (some s) (wSf p who zl s) us else drF p who zl (some t) w us := rfl
      rw [ev, if_neg (e5_some ht)]
      by_cases q1 : w < wSf p who zl s
      · have q1' := zi_lt.mp q1
        rw [if_pos q1, if_neg (show ¬ (wSf p who zl s < w ∨ (wSf p who zl s = w ∧ pop s < pop t)) from fun c => c.elim (fun d => by have := zi_lt.mp d; omega) (fun d => by rw [d.1] at q1'; omega))]
        exact go (some t) w hbo
      · have q1' := mt zi_lt.mpr q1
        rw [if_neg q1]
        by_cases q2 : wSf p who zl s = w
        · rw [if_pos q2, r_ones M1 hs, bsm]
          dsimp only
          rw [show e5 (some t) = nI t from rfl, r_ones M1 ht, bsm]
          by_cases q3 : pop s < pop t
          · rw [if_pos ((q_lt (by omega) (by omega)).mpr q3), if_pos (show wSf p who zl s < w ∨ (wSf p who zl s = w ∧ pop s < pop t) from .inr ⟨q2, q3⟩)]
            exact go (some s) _ (bOk_s hs)
          · rw [if_neg (fun c => q3 ((q_lt (by omega) (by omega)).mp c)), if_neg (show ¬ (wSf p who zl s < w ∨ (wSf p who zl s = w ∧ pop s < pop t)) from fun c => c.elim (fun d => by rw [q2] at d; have := zi_lt.mp d; omega) (fun d => q3 d.2))]
            exact go (some t) w hbo
        · have q2' : (wSf p who zl s).toInt ≠ w.toInt := fun c => q2 (zi_eq.mpr c)
          rw [if_neg q2, if_pos (show wSf p who zl s < w ∨ (wSf p who zl s = w ∧ pop s < pop t) from .inl (by rw [zi_lt]; omega))]
          exact go (some s) _ (bOk_s hs)
theorem o_dear (C : CS) (M M2 : MS) (D : List va_E) (kd x y who : Int32) (hC : lf12 C) (hB : iBs (C.1 0) (C.2.2.2.1 0) D M) (hW : iLs (C.1 1) (C.2.2.2.1 1) D M) (hF : iFn M) (hP : iPr (C.2.1 2) (M.2.1 19)) : asksG C M M2 D (X7_dear (mh (ccells C) M2 D) 0 kd x y who) (X8_dear M kd x y who) := by
  have z1 : ¬ (1 : Int32) = 0 := by decide
  have e0 : (0 : Int32).toInt = 0 := rfl
  have e2 : (2 : Int32).toInt = 2 := rfl
  unfold X7_dear X7_dear_0 X7_dear_42 X8_dear X8_dear_0 X8_dear_21
  rcases nm_case hB hW kd x y with ⟨⟨b, l, ob, lo, zl, cs, kind, e1, hkd, hb, hl⟩, hg⟩ | ⟨hg, hn⟩
  · subst e1
    have hx : kcx D ob lo zl cs kind := ⟨hb.2.2.2.1, hb.2.2.1, hl.2.2.2.1, hl.2.2.1, hkd⟩
    have hpw := v_pow hb.2.2.1
    rw [hb.2.2.2.2.2.1 C M2 rfl, bsm, prs, hl.2.2.2.2.2.1 C M2 rfl, bsm, prs, k_isKind, bsm, i01, if_pos (kind_in hkd), ifs, ifs, hg, bsm]
    dsimp only
    rw [if_neg z1, r_in, bsm, i01]
    dsimp only
    by_cases q0 : who < 0
    · have := zi_lt.mp q0
      rw [if_pos q0, if_neg (show ¬ (0 ≤ who ∧ who ≤ 2) from fun c => by have := zi_le.mp c.1; omega)]
      exact ⟨_, C, M, rfl, rfl, frC.rfl hC, fM.rfl, hF⟩
    · have q0' := mt zi_lt.mpr q0
      rw [if_neg q0]
      by_cases q2 : who ≤ 2
      · have q2' := zi_le.mp q2
        obtain ⟨M1, a1, a2, a3, a4⟩ := fine_of hb hl hF
        obtain ⟨C', b1, b2⟩ := kd_54 (M2 := M2) (p := C.2.1 2) (who := who) hx (RDs zl) 0 FU C none 0 0 rfl (by have := RDs_len zl; unfold FU; omega) hC rfl bOk_n rfl
        rw [all_eq hb.2.2.1] at b1
        obtain ⟨M3, c1, c2⟩ := r_first (kind := kind) hkd a2
        have a5 := frG.trans a4 (frT_G c2)
        obtain ⟨M4, d1, d2⟩ := rd_45 (x := x) (b := b) (p := C.2.1 2) (who := who) hkd (by omega) (by omega) _ FU M3 none 0 (run_all kind zl cs) (by have := run_len (run_all kind zl cs); unfold FU; omega) (rsM_T c2 a2) bOk_n (fun t ht => by rw [a5.2.1 19 (by decide)]; exact (hP t ht).1)
        rw [if_pos q2, if_pos (show 0 ≤ who ∧ who ≤ 2 from ⟨zi_le.mpr (by omega), q2⟩), a1, bsm]
        dsimp only
        rw [c1, bsm]
        have d3 := frT.trans c2 d2
        exact ⟨_, C', M4, b1, d1, b2, frG.trans a4 (frT_G d3), iFn_S (frT_S d3) a3⟩
      · rw [if_neg q2, if_neg (show ¬ (0 ≤ who ∧ who ≤ 2) from fun c => q2 c.2)]
        exact ⟨_, C, M, rfl, rfl, frC.rfl hC, fM.rfl, hF⟩
  · obtain ⟨oB, oL, h1, h2, h3⟩ := hn M2
    rw [h1, bsm, prs, h2, bsm, prs, k_isKind, bsm, i01, hg, bsm, if_pos rfl]
    refine ⟨-1, C, M, ?_, rfl, frC.rfl hC, fM.rfl, hF⟩
    rcases h3 with h3 | h3 | h3
    · rw [if_neg h3]
    · subst h3
      rw [ifz, ite_self]
    · subst h3
      cases oB with
      | none => rw [ifz, ite_self]
      | some a => rw [ifs, ifz, ite_self]
