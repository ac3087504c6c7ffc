/-! ===== the class: one duty against a law's steps ===== -/
def fct (z : Dt) (paid : Int32) (f : Nat) : Int32 := match f with
  | 0 => z.1
  | 1 => z.2.1
  | 2 => z.2.2.1
  | 3 => z.2.2.2.1
  | 4 => z.2.2.2.2.1
  | 5 => z.2.2.2.2.2
  | _ => paid
def evT (z : Dt) (paid : Int32) (t : Tk) : Bool := if t.2.1 = 0 then decide (fct z paid t.1 < nI t.2.2) else if t.2.1 = 1 then decide (fct z paid t.1 = nI t.2.2) else decide (nI t.2.2 < fct z paid t.1)
theorem nle_lt {a b : Int32} : ¬ a ≤ b ↔ b < a := by
  rw [zi_le, zi_lt]
  omega
theorem dg_f {z : Dt} (h : okD z) (paid : Int32) : ∀ f, f < 6 → (dpk z >>> ((5 * (5 - nI f)) &&& 31)) &&& 31 = fct z paid f := by
  obtain ⟨a1, a2, a3, a4, a5, a6⟩ := dg_all h
  intro f hf
  rcases (show f = 0 ∨ f = 1 ∨ f = 2 ∨ f = 3 ∨ f = 4 ∨ f = 5 by omega) with rfl | rfl | rfl | rfl | rfl | rfl
  · exact a1
  · exact a2
  · exact a3
  · exact a4
  · exact a5
  · exact a6
theorem tk_num {t : Tk} (h : tkOk t) (h7 : t.1 < 7) : eK t = nI ((t.1 * 256 + (60 + t.2.1)) * 1024 + t.2.2) ∧ eK t >>> ((18 : Int32) &&& 31) = nI t.1 ∧ ((eK t >>> ((10 : Int32) &&& 31)) &&& 255) = nI (60 + t.2.1) ∧ eK t &&& 1023 = nI t.2.2 := by
  obtain ⟨f, s, n⟩ := t
  obtain ⟨h1, h2, h3⟩ := h
  dsimp only at *
  have e : eK (f, s, n) = nI ((f * 256 + (60 + s)) * 1024 + n) := by
    unfold eK
    rw [if_neg (show ¬ f = 7 by omega), if_neg (show ¬ f = 8 by omega), if_neg (show ¬ f = 9 by omega)]
  rw [e]
  refine ⟨rfl, ?_, ?_, ?_⟩
  · rw [pk_shrN (by omega) ((18 : Int32) &&& 31) 18 rfl]
    congr 1
    omega
  · rw [pk_shrN (by omega) ((10 : Int32) &&& 31) 10 rfl, show (255 : Int32) = nI 255 from rfl, q_and, show (255 : Nat) = 2 ^ 8 - 1 from rfl, Nat.and_two_pow_sub_one_eq_mod]
    congr 1
    omega
  · rw [show (1023 : Int32) = nI 1023 from rfl, q_and, show (1023 : Nat) = 2 ^ 10 - 1 from rfl, Nat.and_two_pow_sub_one_eq_mod]
    congr 1
    omega
theorem nI_inj {a b : Nat} (ha : a < 2147483648) (hb : b < 2147483648) : nI a = nI b ↔ a = b := by
  constructor
  · intro h
    have h := congrArg Int32.toInt h
    rw [q_i ha, q_i hb] at h
    omega
  · intro h
    rw [h]
theorem ite_bs {c : Prop} [Decidable c] (S : AH) : zg (if c then some ((1 : Int32), S) else some (0, S)) = some (if c then 1 else 0, S) := by
  by_cases h : c
  · rw [if_pos h, if_pos h]; exact zg_z _ _ (.inr rfl)
  · rw [if_neg h, if_neg h]; exact zg_z _ _ (.inl rfl)
theorem k_tholds (S : AH) {t : Tk} {z : Dt} {paid : Int32} (h : tkOk t) (h7 : t.1 < 7) (hz : okD z) : X3_holds S (eK t) (dpk z) paid = some (if evT z paid t = true then 1 else 0, S) := by
  obtain ⟨e1, e2, e3, e4⟩ := tk_num h h7
  obtain ⟨f, s, n⟩ := t
  obtain ⟨h1, h2, h3⟩ := h
  dsimp only at *
  have main : ∀ v : Int32, v = fct z paid f → zg (X3_holds_31 S v (eK (f, s, n)) (nI n)) = some (if evT z paid (f, s, n) = true then 1 else 0, S) := by
    intro v hv
    unfold X3_holds_31 X3_holds_80 X3_holds_93 X3_holds_106 evT
    dsimp only
    rw [e3, ← hv]
    by_cases q0 : s = 0
    · subst q0
      rw [if_pos (show nI (60 + 0) = 60 from rfl), if_pos rfl]
      by_cases q : nI n ≤ v
      · rw [if_pos q, if_neg (by rw [decide_eq_true_iff, ← nle_lt]; exact fun c => c q)]
        exact zg_z _ _ (.inl rfl)
      · rw [if_neg q, if_pos (by rw [decide_eq_true_iff, ← nle_lt]; exact q)]
        exact zg_z _ _ (.inr rfl)
    · rw [if_neg (show ¬ nI (60 + s) = 60 from fun c => by have := (nI_inj (b := 60) (by omega) (by omega)).mp c; omega), if_neg q0]
      by_cases q1 : s = 1
      · subst q1
        rw [if_pos (show nI (60 + 1) = 61 from rfl), if_pos rfl]
        by_cases q : v = nI n
        · rw [if_pos q, if_pos (by rw [decide_eq_true_iff]; exact q)]
          exact zg_z _ _ (.inr rfl)
        · rw [if_neg q, if_neg (by rw [decide_eq_true_iff]; exact q)]
          exact zg_z _ _ (.inl rfl)
      · rw [if_neg (show ¬ nI (60 + s) = 61 from fun c => by have := (nI_inj (b := 61) (by omega) (by omega)).mp c; omega), if_neg q1]
        by_cases q : v ≤ nI n
        · rw [if_pos q, if_neg (by rw [decide_eq_true_iff, ← nle_lt]; exact fun c => c q)]
          exact zg_z _ _ (.inl rfl)
        · rw [if_neg q, if_pos (by rw [decide_eq_true_iff, ← nle_lt]; exact q)]
          exact zg_z _ _ (.inr rfl)
  unfold X3_holds X3_holds_0 X2_digit X2_digit_0
  rw [e2, e4]
  have e6 : (6 : Int32).toInt = 6 := rfl
  by_cases q : f = 6
  · subst q
    rw [if_pos (show (6 : Int32) ≤ nI 6 by decide)]
    exact main paid rfl
  · rw [if_neg (show ¬ (6 : Int32) ≤ nI f by rw [zi_le, q_i (by omega)]; omega), bsm]
    dsimp only
    exact main _ (dg_f hz paid f (by omega))
/-- a law object's steps -/
def stV (S : AH) (a st : Nat) (ts : List Tk) : Prop := ∃ (fs : List Value) (f : Nat → Int32), S[a]? = some (.inr (3, fs)) ∧ fs[0]? = some (.ref st) ∧ S[st]? = some (.inl (0, (ts.length, .inl f))) ∧ ∀ (i : Nat) (t : Tk), ts[i]? = some t → f i = eK t
theorem drop_c {α : Type} {l : List α} {p : Nat} {c : α} {t : List α} (h : l.drop p = c :: t) : l[p]? = some c ∧ l.drop (p + 1) = t ∧ l.length = p + 1 + t.length := by
  have e1 := congrArg (fun q => q[0]?) h
  have e2 := congrArg (List.drop 1) h
  have e3 := congrArg List.length h
  simp only [List.length_drop, List.length_cons] at e3
  refine ⟨?_, ?_, by omega⟩
  · rw [List.getElem?_drop] at e1
    simpa using e1
  · rw [List.drop_drop] at e2
    exact e2
theorem eK_7 {t : Tk} (h : t.1 = 7) : eK t = -1 := by unfold eK; rw [if_pos h]
theorem eK_8 {t : Tk} (h : t.1 = 8) : eK t = -2 := by unfold eK; rw [if_neg (by omega), if_pos h]
theorem eK_9 {t : Tk} (h : t.1 = 9) : eK t = -3 := by unfold eK; rw [if_neg (by omega), if_neg (by omega), if_pos h]
theorem k_bars5 {S : AH} {a st : Nat} {ts : List Tk} {z : Dt} {paid : Int32} (hS : stV S a st ts) (hl : ts.length ≤ 100) (hok : ∀ t ∈ ts, tkOk t) (hz : okD z) : ∀ (us : List Tk) (k fn : Nat) (op y : Int32) (sk sf : List Bool), ts.drop k = us → us.length < fn → y.toInt = k → bsR op sk → runT (evT z paid) sk us = some sf → sf ≠ [] → X3_bars_5 fn S a (dpk z) paid op y = some (if (sf.getD 0 false) = true then 1 else 0, S)
  | [], k, fn, op, y, sk, sf, hd, hf, hy, hb, hr, hne => by
    obtain ⟨fn, rfl⟩ : ∃ q, fn = q + 1 := ⟨fn - 1, by omega⟩
    obtain ⟨fs, f, h1, h2, h3, h4⟩ := hS
    have hk := List.drop_eq_nil_iff.mp hd
    cases hr
    unfold X3_bars_5 X3_bars_125
    rw [e_gQ h1 h2, bsm, e_aN h3 (by omega), bsm, if_pos (by rw [zi_le, zo (by omega)]; omega)]
    cases sk with
    | nil => exact absurd rfl hne
    | cons v r =>
      have e := hb.2 0 v rfl
      have e2 := ib_0 op
      rw [e] at e2
      show _ = some (if v = true then 1 else 0, S)
      by_cases q : v = true
      · rw [if_pos q, if_pos (e2.mpr q)]
      · rw [if_neg q, if_neg (fun c => q (e2.mp c))]
  | t :: us, k, fn, op, y, sk, sf, hd, hf, hy, hb, hr, hne => by
    simp only [List.length_cons] at hf
    obtain ⟨fn, rfl⟩ : ∃ q, fn = q + 1 := ⟨fn - 1, by omega⟩
    obtain ⟨fs, f, h1, h2, h3, h4⟩ := id hS
    obtain ⟨d1, d2, d3⟩ := drop_c hd
    have hkl := (List.getElem?_eq_some_iff.mp d1).1
    have htk := hok t (List.mem_of_getElem? d1)
    have hy2 : (y + 1).toInt = ((k + 1 : Nat) : Int) := by
      rw [zi_inc hy (by omega) (by omega)]
      omega
    have ih : ∀ (op2 : Int32) (s2 : List Bool), stT (evT z paid) sk t = some s2 → bsR op2 s2 → X3_bars_5 fn S a (dpk z) paid op2 (y + 1) = some (if (sf.getD 0 false) = true then 1 else 0, S) := by
      intro op2 s2 e1 e2
      have hr2 : runT (evT z paid) s2 us = some sf := by
        have hr : (stT (evT z paid) sk t).bind (fun s => runT (evT z paid) s us) = some sf := hr
        rw [e1, Option.bind_some] at hr
        exact hr
      exact k_bars5 hS hl hok hz us (k + 1) fn op2 (y + 1) s2 sf d2 (by omega) hy2 e2 hr2 hne
    have hr : (stT (evT z paid) sk t).bind (fun s => runT (evT z paid) s us) = some sf := hr
    have hst : stT (evT z paid) sk t ≠ none := fun c => by rw [c] at hr; cases hr
    unfold X3_bars_5 X3_bars_107 X3_bars_105
    rw [e_gQ h1 h2, bsm, e_aN h3 (by omega), bsm, if_neg (by rw [zi_le, zo (by omega)]; omega), bsm, e_aA h3 hy hkl, bsm, h4 k t d1]
    unfold stT at ih hst
    by_cases q7 : t.1 = 7
    · rw [eK_7 q7, if_neg (by decide), if_neg (by decide), if_pos rfl]
      rw [if_pos q7] at hst
      simp only [if_pos q7] at ih
      cases sk with
      | nil => exact absurd rfl hst
      | cons v r => exact ih _ _ rfl (bs_not hb)
    · rw [if_neg q7] at hst
      simp only [if_neg q7] at ih
      by_cases q8 : t.1 = 8
      · rw [eK_8 q8, if_neg (by decide), if_pos rfl]
        rw [if_pos q8] at hst
        simp only [if_pos q8] at ih
        match sk, hst, ih, hb with
        | [], hst, ih, hb => exact absurd rfl hst
        | [v], hst, ih, hb => exact absurd rfl hst
        | v :: w :: r, hst, ih, hb => exact ih _ _ rfl (bs_and hb)
      · rw [if_neg q8] at hst
        simp only [if_neg q8] at ih
        by_cases q9 : t.1 = 9
        · rw [eK_9 q9, if_pos rfl]
          rw [if_pos q9] at hst
          simp only [if_pos q9] at ih
          match sk, hst, ih, hb with
          | [], hst, ih, hb => exact absurd rfl hst
          | [v], hst, ih, hb => exact absurd rfl hst
          | v :: w :: r, hst, ih, hb => exact ih _ _ rfl (bs_or hb)
        · rw [if_neg q9] at hst
          simp only [if_neg q9] at ih
          have h6 : t.1 < 7 := by have := htk.1; omega
          have hpos : ∀ m : Int32, m.toInt < 0 → ¬ eK t = m := fun m hm c => by
            have hm2 := htk.2.1
            have hm3 := htk.2.2
            rw [(tk_num htk h6).1] at c
            rw [← c, q_i (by omega)] at hm
            omega
          by_cases ql : sk.length < 31
          · simp only [if_pos ql] at ih
            rw [if_neg (hpos (-3) (by decide)), if_neg (hpos (-2) (by decide)), if_neg (hpos (-1) (by decide)), bsm, e_aA h3 hy hkl, bsm, h4 k t d1, k_tholds S htk h6 hz, bsm, i01]
            have hp := ih _ _ rfl (bs_push hb ql (evT z paid t))
            by_cases qe : evT z paid t = true
            · rw [if_pos qe]
              rw [if_pos qe] at hp
              exact hp
            · rw [if_neg qe]
              rw [if_neg qe] at hp
              exact hp
          · rw [if_neg ql] at hst
            exact absurd rfl hst
