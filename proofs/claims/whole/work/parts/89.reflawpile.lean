/-! ===== the reference: what waits is put; a test ===== -/
theorem app_s {α : Type} {l : List α} {x y : α} {j : Nat} (h : (l ++ [x])[j]? = some y) : (j = l.length ∧ y = x) ∨ (j < l.length ∧ l[j]? = some y) := by
  by_cases e : j = l.length
  · rw [e, List.getElem?_append_right (Nat.le_refl _), Nat.sub_self] at h
    cases h
    exact .inl ⟨e, rfl⟩
  · by_cases e2 : j < l.length
    · rw [List.getElem?_append_left e2] at h
      exact .inr ⟨e2, h⟩
    · rw [List.getElem?_eq_none (by rw [List.length_append]; simp only [List.length_cons, List.length_nil]; omega)] at h
      cases h
theorem r_put {M : MS} {bs : List Int32} {fr p o : Nat} {W : List Int32} {ts : List Tk} (c : Nat) (hS : rS M bs fr p W o ts) (hl : fr + ts.length < 500) (t : Tk) {x : Int32} (hx : x = eR t) : ∃ M', X8_put M x = some ((), M') ∧ rS M' bs fr p W o (ts ++ [t]) ∧ frQ c fr M M' := by
  obtain ⟨h1, h2, h3, h4, h5, h6, h7⟩ := hS
  refine ⟨si (sa M 14 (upd (M.2.1 14) (fr + ts.length) x)) 16 (M.1 16 + 1), ?_, ⟨h1, h2, h3, h4, h5, ?_, fun j u hu => ?_⟩, fM.trans (fM_sa (by decide)) (fM_si (by decide)), fun k hk => ?_, fun k _ => rfl⟩
  · unfold X8_put X8_put_0
    rw [mAs_ok (q := fr + ts.length) h6 (by show _ < 500; omega), bsm]
    rfl
  · show (M.1 16 + 1).toInt = _
    rw [zi_inc h6 (by omega) (by omega), List.length_append]
    simp only [List.length_cons, List.length_nil]
    omega
  · show upd (M.2.1 14) (fr + ts.length) x (fr + j) = eR u
    unfold upd
    rcases app_s hu with ⟨e1, e2⟩ | ⟨e1, e2⟩
    · rw [if_pos (by omega), hx, e2]
    · rw [if_neg (by omega)]
      exact h7 j u e2
  · show upd (M.2.1 14) (fr + ts.length) x k = _
    unfold upd
    rw [if_neg (by omega)]
theorem kW_top {f : Nat → Int32} {W : List Int32} {x : Int32} (h : kW f (W ++ [x])) : f W.length = x := h W.length x (by rw [List.getElem?_append_right (Nat.le_refl _), Nat.sub_self]; rfl)
theorem kW_pre {f : Nat → Int32} {W X : List Int32} (h : kW f (W ++ X)) : kW f W := fun j v hv => h j v (by rw [List.getElem?_append_left (List.getElem?_eq_some_iff.mp hv).1]; exact hv)
theorem kW_push {f : Nat → Int32} {W : List Int32} {x : Int32} (h : kW f W) : kW (upd f W.length x) (W ++ [x]) := fun j v hv => by
  unfold upd
  rcases app_s hv with ⟨e1, e2⟩ | ⟨e1, e2⟩
  · rw [if_pos e1, e2]
  · rw [if_neg (by omega)]
    exact h j v e2
theorem len1 {α : Type} (W : List α) (x : α) : (W ++ [x]).length = W.length + 1 := by rw [List.length_append]; rfl
/-- the top of what waits -/
theorem r_top {M : MS} {bs : List Int32} {fr p o : Nat} {W : List Int32} {ts : List Tk} {x : Int32} (hS : rS M bs fr p (W ++ [x]) o ts) (hW : W.length ≤ 100) : mA M 15 (M.1 17 - 1) = some x ∧ ¬ M.1 17 ≤ 0 ∧ (M.1 17 - 1).toInt = W.length := by
  obtain ⟨h1, h2, h3, h4, h5, h6, h7⟩ := hS
  have e0 : (0 : Int32).toInt = 0 := rfl
  have e1 : (1 : Int32).toInt = 1 := rfl
  rw [len1] at h3
  have h : (M.1 17 - 1).toInt = W.length := by
    rw [zi_sub (by omega) (by omega)]
    omega
  exact ⟨by rw [mA_ok h (by show _ < 101; omega), kW_top h4], by rw [zi_le]; omega, h⟩
theorem r_emp {M : MS} {bs : List Int32} {fr p o : Nat} {ts : List Tk} (hS : rS M bs fr p [] o ts) : M.1 17 ≤ 0 := by
  obtain ⟨h1, h2, h3, h4, h5, h6, h7⟩ := hS
  have e0 : (0 : Int32).toInt = 0 := rfl
  simp only [List.length_nil] at h3
  rw [zi_le]
  omega
theorem wh_pop (c fn : Nat) {M : MS} {bs : List Int32} {fr p o : Nat} {W : List Int32} {ts : List Tk} (hS : rS M bs fr p (W ++ [33]) (o + 1) ts) (hW : W.length ≤ 100) (hl : fr + ts.length < 500) (ho : o ≤ 4) : ∃ M', X8_whole_0 (fn + 1) M = X8_whole_0 fn M' ∧ rS M' bs fr p W o (ts ++ [(7, 0, 0)]) ∧ frQ c fr M M' := by
  obtain ⟨a1, a2, a3⟩ := r_top hS hW
  obtain ⟨M1, b1, b2, b3⟩ := r_put c hS hl (7, 0, 0) (x := -33) rfl
  have e1 : (1 : Int32).toInt = 1 := rfl
  refine ⟨si (si M1 17 (M1.1 17 - 1)) 18 (M1.1 18 - 1), ?_, ?_, frQ.trans b3 ⟨fM.trans (fM_si (by decide)) (fM_si (by decide)), fun _ _ => rfl, fun _ _ => rfl⟩⟩
  · rw [X8_whole_0, if_neg a2, a1, bsm, if_pos rfl, b1, bsm]
    rfl
  · obtain ⟨h1, h2, h3, h4, h5, h6, h7⟩ := b2
    rw [len1] at h3
    refine ⟨h1, h2, ?_, kW_pre h4, ?_, h6, h7⟩
    · show (M1.1 17 - 1).toInt = _
      rw [zi_sub (by omega) (by omega)]
      omega
    · show (M1.1 18 - 1).toInt = _
      rw [zi_sub (by omega) (by omega)]
      omega
theorem wh_stop (fn : Nat) {M : MS} {bs : List Int32} {fr p o : Nat} {W : List Int32} {ts : List Tk} (hS : rS M bs fr p W o ts) (hW : W.length ≤ 100) (ht : W = [] ∨ ∃ B x, W = B ++ [x] ∧ x ≠ 33) : X8_whole_0 (fn + 1) M = some ((), M) := by
  rw [X8_whole_0]
  unfold X8_whole_52
  rcases ht with rfl | ⟨B, x, rfl, hx⟩
  · rw [if_pos (r_emp hS)]
  · rw [len1] at hW
    obtain ⟨a1, a2, a3⟩ := r_top hS (by omega)
    rw [if_neg a2, a1, bsm, if_neg hx]
def tkW (x : Int32) : Tk := if x = 38 then (8, 0, 0) else (9, 0, 0)
theorem st_pop (c fn : Nat) {M : MS} {bs : List Int32} {fr p o : Nat} {W : List Int32} {ts : List Tk} {x s : Int32} (hS : rS M bs fr p (W ++ [x]) o ts) (hW : W.length ≤ 100) (hl : fr + ts.length < 500) (hx : x = 38 ∨ (x = 124 ∧ s ≠ 38)) : ∃ M', X8_settle_0 (fn + 1) M s = X8_settle_0 fn M' s ∧ rS M' bs fr p W o (ts ++ [tkW x]) ∧ frQ c fr M M' := by
  obtain ⟨a1, a2, a3⟩ := r_top hS hW
  have e1 : (1 : Int32).toInt = 1 := rfl
  obtain ⟨h1, h2, h3, h4, h5, h6, h7⟩ := id hS
  have hS1 : rS (si M 17 (M.1 17 - 1)) bs fr p W o ts := ⟨h1, h2, a3, kW_pre h4, h5, h6, h7⟩
  have hm : mA (si M 17 (M.1 17 - 1)) 15 ((si M 17 (M.1 17 - 1)).1 17) = some x := by
    have h17 : ((si M 17 (M.1 17 - 1)).1 17).toInt = W.length := a3
    rw [mA_ok (j := 15) (q := W.length) h17 (by show _ < 101; omega)]
    exact congrArg some (kW_top h4)
  obtain ⟨M1, b1, b2, b3⟩ := r_put c hS1 hl (tkW x) (x := -x) (by
    rcases hx with rfl | ⟨rfl, -⟩ <;> rfl)
  refine ⟨M1, ?_, b2, frQ.trans ⟨fM_si (by decide), fun _ _ => rfl, fun _ _ => rfl⟩ b3⟩
  have e45 : X8_settle_45 (X8_settle_0 fn) M s = X8_settle_0 fn M1 s := by
    unfold X8_settle_45
    rw [hm, bsm, b1, bsm]
  rw [X8_settle_0, if_neg a2, a1, bsm]
  rcases hx with rfl | ⟨rfl, h38⟩
  · rw [if_pos rfl, e45]
  · rw [if_neg (by decide), bsm, if_pos rfl, if_neg h38, e45]
theorem st_stop (fn : Nat) {M : MS} {bs : List Int32} {fr p o : Nat} {W : List Int32} {ts : List Tk} {s : Int32} (hS : rS M bs fr p W o ts) (hW : W.length ≤ 100) (ht : W = [] ∨ ∃ B x, W = B ++ [x] ∧ x ≠ 38 ∧ (x = 124 → s = 38)) : X8_settle_0 (fn + 1) M s = some ((), M) := by
  rw [X8_settle_0]
  unfold X8_settle_72
  rcases ht with rfl | ⟨B, x, rfl, hx, hx2⟩
  · rw [if_pos (r_emp hS)]
  · rw [len1] at hW
    obtain ⟨a1, a2, a3⟩ := r_top hS (by omega)
    rw [if_neg a2, a1, bsm, if_neg hx, bsm]
    by_cases q : x = 124
    · rw [if_pos q, if_pos (hx2 q)]
    · rw [if_neg q]
def jaL (ja : Bool) : List Int32 := if ja = true then [38] else []
def joL (jo : Bool) : List Int32 := if jo = true then [124] else []
def jaT (ja : Bool) : List Tk := if ja = true then [(8, 0, 0)] else []
def joT (jo : Bool) : List Tk := if jo = true then [(9, 0, 0)] else []
def bas (B : List Int32) : Prop := B = [] ∨ ∃ B', B = B' ++ [40]
theorem settle_and (c : Nat) {M : MS} {bs : List Int32} {fr p o : Nat} {B : List Int32} {ts : List Tk} {ja jo : Bool} (hB : bas B) (hS : rS M bs fr p (B ++ joL jo ++ jaL ja) o ts) (hW : B.length ≤ 99) (hl : fr + ts.length < 500) : ∃ M', X8_settle M 38 = some ((), M') ∧ rS M' bs fr p (B ++ joL jo) o (ts ++ jaT ja) ∧ frQ c fr M M' := by
  have stop : ∀ (fn : Nat) (M1 : MS) (us : List Tk), rS M1 bs fr p (B ++ joL jo) o us → X8_settle_0 (fn + 1) M1 38 = some ((), M1) := fun fn M1 us h => by
    refine st_stop fn h (by rw [List.length_append]; cases jo <;> simp [joL] <;> omega) ?_
    cases jo with
    | true => exact .inr ⟨B, 124, rfl, by decide, fun _ => rfl⟩
    | false =>
      have e : B ++ joL false = B := List.append_nil B
      rw [e]
      rcases hB with h | ⟨B', h⟩
      · exact .inl h
      · exact .inr ⟨B', 40, h, by decide, fun c => absurd c (by decide)⟩
  have hFU : FU = 4998 + 1 + 1 := rfl
  unfold X8_settle
  rw [hFU]
  cases ja with
  | false =>
    have e1 : B ++ joL jo ++ jaL false = B ++ joL jo := List.append_nil _
    have e2 : ts ++ jaT false = ts := List.append_nil _
    rw [e1] at hS
    rw [e2]
    exact ⟨M, stop _ _ _ hS, hS, frQ.rfl⟩
  | true =>
    obtain ⟨M1, b1, b2, b3⟩ := st_pop c (4998 + 1) (s := 38) (W := B ++ joL jo) (x := 38) hS (by rw [List.length_append]; cases jo <;> simp [joL] <;> omega) hl (.inl rfl)
    exact ⟨M1, by rw [b1, stop _ _ _ b2], b2, b3⟩
theorem settle_or (c : Nat) {M : MS} {bs : List Int32} {fr p o : Nat} {B : List Int32} {ts : List Tk} {ja jo : Bool} (hB : bas B) (hS : rS M bs fr p (B ++ joL jo ++ jaL ja) o ts) (hW : B.length ≤ 99) (hl : fr + ts.length + 1 < 500) : ∃ M', X8_settle M 124 = some ((), M') ∧ rS M' bs fr p B o ((ts ++ jaT ja) ++ joT jo) ∧ frQ c fr M M' := by
  have stop : ∀ (fn : Nat) (M1 : MS) (us : List Tk), rS M1 bs fr p B o us → X8_settle_0 (fn + 1) M1 124 = some ((), M1) := fun fn M1 us h => by
    refine st_stop fn h (by omega) ?_
    rcases hB with h | ⟨B', h⟩
    · exact .inl h
    · exact .inr ⟨B', 40, h, by decide, fun c => absurd c (by decide)⟩
  have step2 : ∀ (fn : Nat) (M1 : MS) (us : List Tk), fr + us.length < 500 → rS M1 bs fr p (B ++ joL jo) o us → ∃ M', X8_settle_0 (fn + 1 + 1) M1 124 = some ((), M') ∧ rS M' bs fr p B o (us ++ joT jo) ∧ frQ c fr M1 M' := fun fn M1 us hu h => by
    cases jo with
    | false =>
      have e1 : B ++ joL false = B := List.append_nil _
      have e2 : us ++ joT false = us := List.append_nil _
      rw [e1] at h
      rw [e2]
      exact ⟨M1, stop _ _ _ h, h, frQ.rfl⟩
    | true =>
      obtain ⟨M2, b1, b2, b3⟩ := st_pop c (fn + 1) (s := 124) (W := B) (x := 124) h (by omega) hu (.inr ⟨rfl, by decide⟩)
      exact ⟨M2, by rw [b1, stop _ _ _ b2], b2, b3⟩
  have hFU : FU = 4997 + 1 + 1 + 1 := rfl
  unfold X8_settle
  rw [hFU]
  cases ja with
  | false =>
    have e1 : B ++ joL jo ++ jaL false = B ++ joL jo := List.append_nil _
    have e2 : ts ++ jaT false = ts := List.append_nil _
    rw [e1] at hS
    rw [e2]
    exact step2 _ _ _ (by omega) hS
  | true =>
    obtain ⟨M1, b1, b2, b3⟩ := st_pop c (4997 + 1 + 1) (s := 124) (W := B ++ joL jo) (x := 38) hS (by rw [List.length_append]; cases jo <;> simp [joL] <;> omega) (by omega) (.inl rfl)
    obtain ⟨M2, d1, d2, d3⟩ := step2 4997 M1 (ts ++ [tkW 38]) (by rw [len1]; omega) b2
    exact ⟨M2, by rw [b1]; exact d1, d2, frQ.trans b3 d3⟩
theorem r_place (M : MS) {c : Int32} (hc : by9 c ∨ c = -1) : X8_place M (sgb c) = some (ixL c, M) := by
  have hs : ∀ k : Int32, 0 ≤ k.toInt → k.toInt ≤ 127 → (sgb c = k ↔ c = k) := fun k k0 k1 => sgn_eq hc k0 k1
  have h1 := hs 102 (by decide) (by decide)
  have h2 := hs 105 (by decide) (by decide)
  have h3 := hs 110 (by decide) (by decide)
  have h4 := hs 112 (by decide) (by decide)
  have h5 := hs 116 (by decide) (by decide)
  have h6 := hs 118 (by decide) (by decide)
  have h7 := hs 119 (by decide) (by decide)
  unfold X8_place X8_place_0
  by_cases q1 : c = 102
  · rw [if_pos (h1.mpr q1), q1]; rfl
  rw [if_neg (fun x => q1 (h1.mp x))]
  by_cases q2 : c = 105
  · rw [if_pos (h2.mpr q2), q2]; rfl
  rw [if_neg (fun x => q2 (h2.mp x))]
  by_cases q3 : c = 110
  · rw [if_pos (h3.mpr q3), q3]; rfl
  rw [if_neg (fun x => q3 (h3.mp x))]
  by_cases q4 : c = 112
  · rw [if_pos (h4.mpr q4), q4]; rfl
  rw [if_neg (fun x => q4 (h4.mp x))]
  by_cases q5 : c = 116
  · rw [if_pos (h5.mpr q5), q5]; rfl
  rw [if_neg (fun x => q5 (h5.mp x))]
  by_cases q6 : c = 118
  · rw [if_pos (h6.mpr q6), q6]; rfl
  rw [if_neg (fun x => q6 (h6.mp x))]
  by_cases q7 : c = 119
  · rw [if_pos (h7.mpr q7), q7]; rfl
  rw [if_neg (fun x => q7 (h7.mp x))]
  have : ltr c = none := by
    unfold ltr
    rw [if_neg q7, if_neg q6, if_neg q3, if_neg q5, if_neg q2, if_neg q1, if_neg q4]
  unfold ixL
  rw [this]
theorem sgn_cmp {c : Int32} (h : by9 c ∨ c = -1) : (60 ≤ sgb c ∧ sgb c ≤ 62) ↔ (60 ≤ c ∧ c ≤ 62) := by
  have e60 : (60 : Int32).toInt = 60 := rfl
  have e62 : (62 : Int32).toInt = 62 := rfl
  rcases h with h | h
  · unfold by9 at h
    unfold sgb
    simp only [zi_le, e60, e62]
    by_cases q : c.toInt ≤ 127
    · rw [by_low h.1 q]
    · rw [by_high (by omega) h.2]
      omega
  · subst h
    rw [sgn_m1]
theorem sgn_cm {c : Int32} (h : 60 ≤ c ∧ c ≤ 62) : sgb c = c := by
  have e60 : (60 : Int32).toInt = 60 := rfl
  have e62 : (62 : Int32).toInt = 62 := rfl
  have h1 := zi_le.mp h.1
  have h2 := zi_le.mp h.2
  exact by_low (by omega) (by omega)
/-- a test: it fails at its fault, or it is put and then all that is whole -/
theorem r_takesTest {M : MS} {bs : List Int32} {fr p o : Nat} {W : List Int32} {ts : List Tk} (c : Nat) (hS : rS M bs fr p W o ts) (hpl : p ≤ bs.length) (hl : fr + ts.length < 500) : ((pTest bs p).1 = false → ∃ M', X8_takesTest M = some (0, M') ∧ (M'.1 3).toInt = (pTest bs p).2.1 ∧ frQ c fr M M') ∧ ((pTest bs p).1 = true → ∃ M', X8_takesTest M = zg ((X8_whole_0 FU M').bind fun r7 => some (1, r7.2)) ∧ rS M' bs fr (pTest bs p).2.1 W o (ts ++ (pTest bs p).2.2) ∧ frQ c fr M M') := by
  have hT := hS.1
  have hp := hS.2.1
  have h100 := hT.2.1
  have e0 : (0 : Int32).toInt = 0 := rfl
  have hb := rT_by hT p
  unfold X8_takesTest X8_takesTest_0
  rw [rn_ hT hp, bsm]
  dsimp only
  rw [r_place _ hb, bsm]
  dsimp only
  cases hlt : ltr (byA bs p) with
  | none =>
    have hix : ixL (byA bs p) = -1 := by unfold ixL; rw [hlt]
    have ht : pTest bs p = (false, p, []) := by unfold pTest; rw [hlt]
    rw [hix, if_neg (by decide), ht]
    exact ⟨fun _ => ⟨M, zg_z _ _ (.inl rfl), hp, frQ.rfl⟩, fun c => by cases c⟩
  | some f =>
    have hix : ixL (byA bs p) = nI f := by unfold ixL; rw [hlt]
    obtain ⟨f1, f2⟩ := ltr_ok hlt
    have l1 := byA_lt (rfl : byA bs p = byA bs p) f2
    have g1 : frD M (si M 3 (M.1 3 + 1)) := fM_si (by decide)
    have hp1 : ((si M 3 (M.1 3 + 1)).1 3).toInt = ((p + 1 : Nat) : Int) := by
      show (M.1 3 + 1).toInt = _
      rw [zi_inc hp (by omega) (by omega)]
      omega
    have hT1 := rT_D hT g1
    rw [hix, if_pos (by rw [zi_le, q_i (by omega)]; omega), rn_ hT1 hp1, bsm]
    dsimp only
    rw [r_in, bsm]
    dsimp only
    rw [i01]
    have hcm := sgn_cmp (rT_by hT (p + 1))
    by_cases q : 60 ≤ byA bs (p + 1) ∧ byA bs (p + 1) ≤ 62
    · obtain ⟨k1, k2, k3⟩ := cmp_ok q
      have l2 := byA_lt (rfl : byA bs (p + 1) = byA bs (p + 1)) k1
      have g2 : frD M (si (si M 3 (M.1 3 + 1)) 3 ((si M 3 (M.1 3 + 1)).1 3 + 1)) := frD.trans g1 (fM_si (by decide))
      have hp2 : ((si (si M 3 (M.1 3 + 1)) 3 ((si M 3 (M.1 3 + 1)).1 3 + 1)).1 3).toInt = ((p + 2 : Nat) : Int) := by
        show ((si M 3 (M.1 3 + 1)).1 3 + 1).toInt = _
        rw [zi_inc hp1 (by omega) (by omega)]
        omega
      obtain ⟨M3, i1, i2, i3, i4⟩ := r_takesNumber (rT_D hT g2) hp2 (by omega)
      rw [if_pos (hcm.mpr q), i1, bsm]
      dsimp only
      rw [i01]
      have g3 := frD.trans g2 i4
      by_cases q2 : p + 2 < (pNum bs 3 (p + 2) 0).1
      · have ht : pTest bs p = (true, (pNum bs 3 (p + 2) 0).1, [(f, (byA bs (p + 1)).toInt.toNat - 60, (pNum bs 3 (p + 2) 0).2)]) := by
          unfold pTest
          rw [hlt]
          dsimp only
          rw [if_pos q, if_pos q2]
        have n3 : (pNum bs 3 (p + 2) 0).2 < 1000 := (pNum_ok bs 3 (p + 2) 0 0 (by decide) (by omega)).2.2
        have h4 : M3.1 4 = nI (pNum bs 3 (p + 2) 0).2 := zi_eq.mpr (by rw [i3 q2, q_i (by omega)])
        have hS3 : rS M3 bs fr (pNum bs 3 (p + 2) 0).1 W o ts := rS_D hS g3 i2
        obtain ⟨M4, j1, j2, j3⟩ := r_put c hS3 hl (f, (byA bs (p + 1)).toInt.toNat - 60, (pNum bs 3 (p + 2) 0).2) (x := ((10000 * nI f) + (1000 * (sgb (byA bs (p + 1)) - 60))) + M3.1 4) (by
          rw [sgn_cm q, h4, (tr_num (t := (f, (byA bs (p + 1)).toInt.toNat - 60, (pNum bs 3 (p + 2) 0).2)) ⟨by show f ≤ 9; omega, k2, by show (pNum bs 3 (p + 2) 0).2 ≤ 999; omega⟩ f1).1]
          have e2 : byA bs (p + 1) - 60 = nI ((byA bs (p + 1)).toInt.toNat - 60) := by
            conv => lhs; rw [k3]
            exact (q_sub (a := 60 + ((byA bs (p + 1)).toInt.toNat - 60)) (b := 60) (by omega) (by omega)).trans (by rw [Nat.add_sub_cancel_left])
          rw [e2, show (10000 : Int32) = nI 10000 from rfl, show (1000 : Int32) = nI 1000 from rfl, q_mul (by omega) (by omega) (by omega), q_mul (by omega) (by omega) (by omega)]
          dsimp only
          apply zi_eq.mpr
          rw [zi_add (by rw [zi_add (by rw [q_i (by omega), q_i (by omega)]; omega) (by rw [q_i (by omega), q_i (by omega)]; omega), q_i (by omega), q_i (by omega), q_i (by omega)]; omega) (by rw [zi_add (by rw [q_i (by omega), q_i (by omega)]; omega) (by rw [q_i (by omega), q_i (by omega)]; omega), q_i (by omega), q_i (by omega), q_i (by omega)]; omega), zi_add (by rw [q_i (by omega), q_i (by omega)]; omega) (by rw [q_i (by omega), q_i (by omega)]; omega), q_i (by omega), q_i (by omega), q_i (by omega), q_i (by omega)]
          omega)
        rw [ht, if_pos q2, j1, bsm]
        refine ⟨(fun c => by cases c), fun _ => ⟨M4, rfl, j2, frQ.trans (frD_Q g3) j3⟩⟩
      · have ht : pTest bs p = (false, p + 2, []) := by
          unfold pTest
          rw [hlt]
          dsimp only
          rw [if_pos q, if_neg q2]
        have hge := (pNum_ok bs 3 (p + 2) 0 0 (by decide) (by omega)).1
        rw [ht, if_neg q2]
        refine ⟨fun _ => ⟨M3, zg_z _ _ (.inl rfl), ?_, frD_Q g3⟩, fun c => by cases c⟩
        rw [i2]
        show _ = ((p + 2 : Nat) : Int)
        omega
    · have ht : pTest bs p = (false, p + 1, []) := by
        unfold pTest
        rw [hlt]
        dsimp only
        rw [if_neg q]
      rw [ht, if_neg (fun x => q (hcm.mp x))]
      exact ⟨fun _ => ⟨_, zg_z _ _ (.inl rfl), hp1, frD_Q g1⟩, fun c => by cases c⟩
