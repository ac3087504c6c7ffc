/-! ===== the reference reads a bar's whole: what waits against parts within parts ===== -/
def K8 (ci : Int32) (wf fn : Nat) (M : MS) : Option (Int32 × MS) := (X8_whole_0 wf M).bind fun r => X8_takesE_22 fn r.2 ci 0
def F8 (ci : Int32) (fn : Nat) (M : MS) (b : Int32) : Option (Int32 × MS) := (mAs M 13 ci (M.1 16)).bind fun S3 => if (S3.1 17) = 0 then some (1, S3) else if b = 41 then (X8_whole (si (si (si S3 17 ((S3.1 17) - 1)) 18 (((si S3 17 ((S3.1 17) - 1)).1 18) - 1)) 3 (((si (si S3 17 ((S3.1 17) - 1)) 18 (((si S3 17 ((S3.1 17) - 1)).1 18) - 1)).1 3) + 1))).bind fun r4 => X8_takesE_22 fn r4.2 ci 0 else some (0, S3)
def rPart (bs : List Int32) (c fr : Nat) (ci : Int32) (o : Nat) (pt : Nat → Rs) : Prop := ∀ (p fn : Nat) (M : MS) (W : List Int32) (ts : List Tk), rS M bs fr p W o ts → p ≤ bs.length → W.length ≤ p → fr + ts.length + 2 ≤ 400 + p → bs.length < fn + p → ((pt p).1 = false → ∃ M', X8_takesE_22 fn M ci 1 = some (0, M') ∧ (M'.1 3).toInt = (pt p).2.1 ∧ frQ c fr M M') ∧ ((pt p).1 = true → ∃ M' wf fn', X8_takesE_22 fn M ci 1 = K8 ci wf fn' M' ∧ rS M' bs fr (pt p).2.1 W o (ts ++ (pt p).2.2) ∧ frQ c fr M M' ∧ W.length < wf ∧ bs.length < fn' + (pt p).2.1)
/-- one more waits -/
theorem r_push {M : MS} {bs : List Int32} {fr p o : Nat} {W : List Int32} {ts : List Tk} (c : Nat) (hS : rS M bs fr p W o ts) (hp : p < 1000) (hW : W.length ≤ 100) (x : Int32) : ∃ S1, mAs M 15 (M.1 17) x = some S1 ∧ rS (si (si S1 17 (S1.1 17 + 1)) 3 ((si S1 17 (S1.1 17 + 1)).1 3 + 1)) bs fr (p + 1) (W ++ [x]) o ts ∧ frQ c fr M (si (si S1 17 (S1.1 17 + 1)) 3 ((si S1 17 (S1.1 17 + 1)).1 3 + 1)) := by
  obtain ⟨h1, h2, h3, h4, h5, h6, h7⟩ := hS
  refine ⟨sa M 15 (upd (M.2.1 15) W.length x), mAs_ok (j := 15) h3 (by show _ < 101; omega), ⟨h1, ?_, ?_, kW_push h4, h5, h6, h7⟩, fM.trans (fM_sa (by decide)) (fM.trans (fM_si (by decide)) (fM_si (by decide))), fun _ _ => rfl, fun _ _ => rfl⟩
  · show (M.1 3 + 1).toInt = _
    rw [zi_inc h2 (by omega) (by omega)]
    omega
  · show (M.1 17 + 1).toInt = _
    rw [zi_inc h3 (by omega) (by omega), len1]
    omega
theorem r_testP {M : MS} {bs : List Int32} {c fr p o fn : Nat} {W : List Int32} {ts : List Tk} {ci : Int32} (hS : rS M bs fr p W o ts) (hpl : p ≤ bs.length) (hW : W.length ≤ p) (hl : fr + ts.length + 2 ≤ 400 + p) (hf : bs.length < fn + p) (h33 : ¬ byA bs p = 33) (h40 : ¬ byA bs p = 40) : ((pTest bs p).1 = false → ∃ M', X8_takesE_22 fn M ci 1 = some (0, M') ∧ (M'.1 3).toInt = (pTest bs p).2.1 ∧ frQ c fr M M') ∧ ((pTest bs p).1 = true → ∃ M' wf fn', X8_takesE_22 fn M ci 1 = K8 ci wf fn' M' ∧ rS M' bs fr (pTest bs p).2.1 W o (ts ++ (pTest bs p).2.2) ∧ frQ c fr M M' ∧ W.length < wf ∧ bs.length < fn' + (pTest bs p).2.1) := by
  obtain ⟨fn, rfl⟩ : ∃ q, fn = q + 1 := ⟨fn - 1, by omega⟩
  have hT := hS.1
  have h100 := hT.2.1
  have hb := rT_by hT p
  obtain ⟨t1, t2⟩ := r_takesTest c hS hpl (by omega)
  have start : X8_takesE_22 (fn + 1) M ci 1 = (X8_takesTest M).bind fun r9 => if r9.1 = 0 then some (0, r9.2) else X8_takesE_22 fn r9.2 ci 0 := by
    rw [X8_takesE_22, rn_ hT hS.2.1, bsm]
    dsimp only
    rw [if_neg (show ¬ (1 : Int32) = 0 by decide), if_neg (fun x => h33 ((sgn_eq hb (by decide) (by decide)).mp x)), if_neg (fun x => h40 ((sgn_eq hb (by decide) (by decide)).mp x))]
  obtain ⟨k1, k2, k3⟩ := pTest_ok bs p hpl
  refine ⟨fun h => ?_, fun h => ?_⟩
  · obtain ⟨M', a1, a2, a3⟩ := t1 h
    exact ⟨M', by rw [start, a1, bsm, if_pos rfl], a2, a3⟩
  · obtain ⟨M', a1, a2, a3⟩ := t2 h
    have k3 := k3 h
    refine ⟨M', FU, fn, ?_, a2, a3, by unfold FU; omega, by omega⟩
    rw [start, a1]
    unfold K8
    cases hw : X8_whole_0 FU M' with
    | none => rfl
    | some r7 =>
      rw [bsm, zg_z _ _ (.inr rfl), bsm, bsm]
      dsimp only
      rw [if_neg (by decide)]
theorem rEith {bs : List Int32} {c fr : Nat} {ci : Int32} {o E : Nat} {pt : Nat → Rs} (hE : E ≤ 20) (hpt : ∀ p, p ≤ bs.length → rsOk bs E p (pt p)) (hP : rPart bs c fr ci o pt) {B : List Int32} (hB : bas B) : ∀ (k p fn : Nat) (ja jo : Bool) (M : MS) (ts : List Tk), rS M bs fr p (B ++ joL jo ++ jaL ja) o ts → p ≤ bs.length → B.length + bnt ja + bnt jo ≤ p → fr + ts.length + bnt ja + bnt jo + 2 ≤ 400 + p → bs.length < fn + p → bs.length < k + p → ((pEi bs pt k p ja jo).1 = false → ∃ M', X8_takesE_22 fn M ci 1 = some (0, M') ∧ (M'.1 3).toInt = (pEi bs pt k p ja jo).2.1 ∧ frQ c fr M M') ∧ ((pEi bs pt k p ja jo).1 = true → ∃ M' fn', X8_takesE_22 fn M ci 1 = F8 ci fn' M' (sgb (byA bs (pEi bs pt k p ja jo).2.1)) ∧ rS M' bs fr (pEi bs pt k p ja jo).2.1 B o (ts ++ (pEi bs pt k p ja jo).2.2) ∧ frQ c fr M M' ∧ bs.length ≤ fn' + (pEi bs pt k p ja jo).2.1)
  | 0, p, fn, ja, jo, M, ts, hS, hpl, hW, hl, hf, hk => by omega
  | k + 1, p, fn, ja, jo, M, ts, hS, hpl, hW, hl, hf, hk => by
    have hT := hS.1
    have h100 := hT.2.1
    have lJ : (B ++ joL jo ++ jaL ja).length = B.length + bnt jo + bnt ja := by
      rw [List.length_append, List.length_append]
      cases ja <;> cases jo <;> rfl
    obtain ⟨p1, p2, p3⟩ := hpt p hpl
    obtain ⟨c1', c2'⟩ := hP p fn M _ ts hS hpl (by omega) (by omega) hf
    unfold pEi
    generalize hr : pt p = r at p1 p2 p3 c1' c2' ⊢
    obtain ⟨ok, q, us⟩ := r
    dsimp only at p1 p2 p3 c1' c2' ⊢
    cases ok with
    | false =>
      rw [if_pos rfl]
      exact ⟨fun _ => c1' rfl, (fun x => by cases x)⟩
    | true =>
      obtain ⟨p4, p5, p6⟩ := p3 rfl
      obtain ⟨M1, wf, fn1, a1, a2, a3, a4, a5⟩ := c2' rfl
      rw [if_neg (by decide), a1]
      obtain ⟨wf, rfl⟩ : ∃ z, wf = z + 1 := ⟨wf - 1, by omega⟩
      obtain ⟨fn1, rfl⟩ : ∃ z, fn1 = z + 1 := ⟨fn1 - 1, by omega⟩
      have hstop : X8_whole_0 (wf + 1) M1 = some ((), M1) := by
        refine wh_stop wf a2 (by omega) ?_
        cases ja with
        | true => exact .inr ⟨B ++ joL jo, 38, rfl, by decide⟩
        | false =>
          have e1 : B ++ joL jo ++ jaL false = B ++ joL jo := List.append_nil _
          rw [e1]
          cases jo with
          | true => exact .inr ⟨B, 124, rfl, by decide⟩
          | false =>
            have e2 : B ++ joL false = B := List.append_nil _
            rw [e2]
            rcases hB with h | ⟨B', h⟩
            · exact .inl h
            · exact .inr ⟨B', 40, h, by decide⟩
      have hT1 := a2.1
      have hq := a2.2.1
      have hb := rT_by hT1 q
      have start : K8 ci (wf + 1) (fn1 + 1) M1 = if sgb (byA bs q) = 38 then X8_takesE_122 (X8_takesE_22 fn1) M1 ci (sgb (byA bs q)) else if sgb (byA bs q) = 124 then X8_takesE_122 (X8_takesE_22 fn1) M1 ci (sgb (byA bs q)) else (X8_settle M1 124).bind fun r2 => F8 ci fn1 r2.2 (sgb (byA bs q)) := by
        unfold K8 F8
        rw [hstop, bsm, X8_takesE_22, rn_ hT1 hq, bsm]
        dsimp only
        rw [if_pos rfl]
      rw [start]
      have hlt : (ts ++ us).length = ts.length + us.length := List.length_append
      have b1 : bnt true = 1 := rfl
      have b0 : bnt false = 0 := rfl
      have hja : ∀ ja : Bool, bnt ja ≤ 1 := fun ja => by cases ja <;> decide
      have := hja ja
      have := hja jo
      have lA : ∀ vs : List Tk, (vs ++ jaT ja).length = vs.length + bnt ja := fun vs => by
        rw [List.length_append]
        cases ja <;> rfl
      have lO : ∀ vs : List Tk, (vs ++ joT jo).length = vs.length + bnt jo := fun vs => by
        rw [List.length_append]
        cases jo <;> rfl
      have lOW : (B ++ joL jo).length = B.length + bnt jo := by
        rw [List.length_append]
        cases jo <;> rfl
      by_cases q38 : byA bs q = 38
      · have hql := byA_lt q38 (by decide)
        rw [if_pos ((sgn_eq hb (by decide) (by decide)).mpr q38), if_pos q38, (sgn_eq hb (by decide) (by decide)).mpr q38]
        obtain ⟨M2, s1, s2, s3⟩ := settle_and c hB a2 (by omega) (by omega)
        obtain ⟨S1, u1, u2, u3⟩ := r_push c s2 (by omega) (by omega) 38
        unfold X8_takesE_122
        rw [s1, bsm]
        dsimp only
        rw [u1, bsm]
        obtain ⟨i1, i2⟩ := rEith hE hpt hP hB k (q + 1) fn1 true jo _ ((ts ++ us) ++ jaT ja) u2 (by omega) (by omega) (by rw [lA, hlt]; omega) (by omega) (by omega)
        generalize pEi bs pt k (q + 1) true jo = s at i1 i2 ⊢
        obtain ⟨v1, v2, v3⟩ := s
        dsimp only at i1 i2 ⊢
        have f3 : frQ c fr M (si (si S1 17 (S1.1 17 + 1)) 3 ((si S1 17 (S1.1 17 + 1)).1 3 + 1)) := frQ.trans a3 (frQ.trans s3 u3)
        refine ⟨fun h => ?_, fun h => ?_⟩
        · obtain ⟨M', x1, x2, x3⟩ := i1 h
          exact ⟨M', x1, x2, frQ.trans f3 x3⟩
        · obtain ⟨M', fn', x1, x2, x3, x4⟩ := i2 h
          refine ⟨M', fn', x1, ?_, frQ.trans f3 x3, x4⟩
          rw [List.append_assoc, List.append_assoc, ← List.append_assoc us] at x2
          exact x2
      · rw [if_neg (fun x => q38 ((sgn_eq hb (by decide) (by decide)).mp x)), if_neg q38]
        obtain ⟨M2, s1, s2, s3⟩ := settle_or c hB a2 (by omega) (by omega)
        by_cases q124 : byA bs q = 124
        · have hql := byA_lt q124 (by decide)
          rw [if_pos ((sgn_eq hb (by decide) (by decide)).mpr q124), if_pos q124, (sgn_eq hb (by decide) (by decide)).mpr q124]
          obtain ⟨S1, u1, u2, u3⟩ := r_push c s2 (by omega) (by omega) 124
          unfold X8_takesE_122
          rw [s1, bsm]
          dsimp only
          rw [u1, bsm]
          have u2 : rS (si (si S1 17 (S1.1 17 + 1)) 3 ((si S1 17 (S1.1 17 + 1)).1 3 + 1)) bs fr (q + 1) (B ++ joL true ++ jaL false) o (((ts ++ us) ++ jaT ja) ++ joT jo) := by
            have e : B ++ joL true ++ jaL false = B ++ [124] := List.append_nil _
            rw [e]
            exact u2
          obtain ⟨i1, i2⟩ := rEith hE hpt hP hB k (q + 1) fn1 false true _ (((ts ++ us) ++ jaT ja) ++ joT jo) u2 (by omega) (by omega) (by rw [lO, lA, hlt]; omega) (by omega) (by omega)
          generalize pEi bs pt k (q + 1) false true = s at i1 i2 ⊢
          obtain ⟨v1, v2, v3⟩ := s
          dsimp only at i1 i2 ⊢
          have f3 : frQ c fr M (si (si S1 17 (S1.1 17 + 1)) 3 ((si S1 17 (S1.1 17 + 1)).1 3 + 1)) := frQ.trans a3 (frQ.trans s3 u3)
          refine ⟨fun h => ?_, fun h => ?_⟩
          · obtain ⟨M', x1, x2, x3⟩ := i1 h
            exact ⟨M', x1, x2, frQ.trans f3 x3⟩
          · obtain ⟨M', fn', x1, x2, x3, x4⟩ := i2 h
            refine ⟨M', fn', x1, ?_, frQ.trans f3 x3, x4⟩
            rw [List.append_assoc, List.append_assoc, List.append_assoc, ← List.append_assoc (jaT ja), ← List.append_assoc us, ← List.append_assoc us] at x2
            exact x2
        · rw [if_neg (fun x => q124 ((sgn_eq hb (by decide) (by decide)).mp x)), if_neg q124, s1, bsm]
          dsimp only
          refine ⟨(fun x => by cases x), fun _ => ⟨M2, fn1, rfl, ?_, frQ.trans a3 s3, by omega⟩⟩
          rw [List.append_assoc, List.append_assoc, ← List.append_assoc us] at s2
          exact s2
theorem F8_end {M : MS} {bs : List Int32} {c fr p o : Nat} {ts : List Tk} {ci b : Int32} (fn : Nat) (hci : ci.toInt = c) (hc : c < 40) (hS : rS M bs fr p [] o ts) : F8 ci fn M b = some (1, sa M 13 (upd (M.2.1 13) c (M.1 16))) := by
  unfold F8
  have h17 : (sa M 13 (upd (M.2.1 13) c (M.1 16))).1 17 = 0 := zi_eq.mpr hS.2.2.1
  rw [mAs_ok (j := 13) hci (by show c < 40; omega), bsm, if_pos h17]
theorem rPt_all {bs : List Int32} {c fr : Nat} {ci : Int32} (hci : ci.toInt = c) (hc : c < 40) : ∀ r, r ≤ 4 → rPart bs c fr ci (4 - r) (pPt bs r)
  | 0, hr => by
    intro p fn M W ts hS hpl hW hl hf
    have hT := hS.1
    have h100 := hT.2.1
    have hb := rT_by hT p
    unfold pPt
    by_cases q : byA bs p = 33 ∨ byA bs p = 40
    · obtain ⟨fn, rfl⟩ : ∃ z, fn = z + 1 := ⟨fn - 1, by omega⟩
      have h18 : M.1 18 = 4 := zi_eq.mpr hS.2.2.2.2.1
      rw [if_pos q]
      refine ⟨fun _ => ⟨M, ?_, hS.2.1, frQ.rfl⟩, (fun x => by cases x)⟩
      rw [X8_takesE_22, rn_ hT hS.2.1, bsm]
      dsimp only
      rw [if_neg (show ¬ (1 : Int32) = 0 by decide)]
      unfold X8_takesE_43
      rw [if_pos h18]
      by_cases q1 : byA bs p = 33
      · rw [if_pos ((sgn_eq hb (by decide) (by decide)).mpr q1)]
      · rw [if_neg (fun x => q1 ((sgn_eq hb (by decide) (by decide)).mp x)), if_pos ((sgn_eq hb (by decide) (by decide)).mpr (q.resolve_left q1))]
    · rw [if_neg q]
      exact r_testP hS hpl hW hl hf (fun x => q (.inl x)) (fun x => q (.inr x))
  | r + 1, hr => by
    intro p fn M W ts hS hpl hW hl hf
    have hT := hS.1
    have h100 := hT.2.1
    have hb := rT_by hT p
    have ih := rPt_all (bs := bs) (fr := fr) hci hc r (by omega)
    have e4 : (4 : Int32).toInt = 4 := rfl
    have h18 : ¬ M.1 18 = 4 := fun x => by
      have h := hS.2.2.2.2.1
      rw [x, e4] at h
      omega
    unfold pPt
    -- one more of the two
    have open1 : ∀ x : Int32, p < bs.length → ∃ S1, X8_takesE_43 (X8_takesE_22 (fn - 1)) M ci 1 x = X8_takesE_22 (fn - 1) S1 ci 1 ∧ rS S1 bs fr (p + 1) (W ++ [x]) (4 - r) ts ∧ frQ c fr M S1 := by
      intro x hx
      obtain ⟨h1, h2, h3, h4, h5, h6, h7⟩ := id hS
      have hS0 : rS (si M 18 (M.1 18 + 1)) bs fr p W (4 - r) ts := ⟨h1, h2, h3, h4, by
        show (M.1 18 + 1).toInt = _
        rw [zi_inc h5 (by omega) (by omega)]
        omega, h6, h7⟩
      obtain ⟨S1, u1, u2, u3⟩ := r_push c hS0 (by omega) (by omega) x
      refine ⟨_, ?_, u2, frQ.trans ⟨fM_si (by decide), fun _ _ => rfl, fun _ _ => rfl⟩ u3⟩
      unfold X8_takesE_43
      rw [if_neg h18, u1, bsm]
    have hfn : fn = (fn - 1) + 1 := by omega
    by_cases q1 : byA bs p = 33
    · have hq := byA_lt q1 (by decide)
      rw [if_pos q1]
      obtain ⟨S1, o1, o2, o3⟩ := open1 33 hq
      have start : X8_takesE_22 fn M ci 1 = X8_takesE_22 (fn - 1) S1 ci 1 := by
        rw [hfn, X8_takesE_22, rn_ hT hS.2.1, bsm, show fn - 1 + 1 - 1 = fn - 1 by omega]
        dsimp only
        rw [if_neg (show ¬ (1 : Int32) = 0 by decide), (sgn_eq hb (by decide) (by decide)).mpr q1, if_pos rfl, o1]
      rw [start]
      obtain ⟨z1, z2, z3⟩ := pPt_ok bs r (p + 1) (by omega) (by omega)
      obtain ⟨i1, i2⟩ := ih (p + 1) (fn - 1) S1 (W ++ [33]) ts o2 (by omega) (by rw [len1]; omega) (by omega) (by omega)
      generalize pPt bs r (p + 1) = s at z1 z2 z3 i1 i2 ⊢
      obtain ⟨v1, v2, v3⟩ := s
      dsimp only at z1 z2 z3 i1 i2 ⊢
      cases v1 with
      | false =>
        rw [if_neg (by decide)]
        obtain ⟨M', x1, x2, x3⟩ := i1 rfl
        exact ⟨fun _ => ⟨M', x1, x2, frQ.trans o3 x3⟩, (fun x => by cases x)⟩
      | true =>
        obtain ⟨z4, z5, z6⟩ := z3 rfl
        rw [if_pos rfl]
        obtain ⟨M', wf, fn', x1, x2, x3, x4, x5⟩ := i2 rfl
        rw [len1] at x4
        obtain ⟨wf, rfl⟩ : ∃ z, wf = z + 1 := ⟨wf - 1, by omega⟩
        have x2 : rS M' bs fr v2 (W ++ [33]) ((4 - (r + 1)) + 1) (ts ++ v3) := by
          rw [show 4 - (r + 1) + 1 = 4 - r by omega]
          exact x2
        obtain ⟨M2, w1, w2, w3⟩ := wh_pop c wf x2 (by omega) (by rw [List.length_append]; omega) (by omega)
        refine ⟨(fun x => by cases x), fun _ => ⟨M2, wf, fn', ?_, ?_, frQ.trans o3 (frQ.trans x3 w3), by omega, x5⟩⟩
        · rw [x1]
          unfold K8
          rw [w1]
        · rw [List.append_assoc] at w2
          exact w2
    · rw [if_neg q1]
      by_cases q2 : byA bs p = 40
      · have hq := byA_lt q2 (by decide)
        rw [if_pos q2]
        obtain ⟨S1, o1, o2, o3⟩ := open1 40 hq
        have start : X8_takesE_22 fn M ci 1 = X8_takesE_22 (fn - 1) S1 ci 1 := by
          rw [hfn, X8_takesE_22, rn_ hT hS.2.1, bsm, show fn - 1 + 1 - 1 = fn - 1 by omega]
          dsimp only
          rw [if_neg (show ¬ (1 : Int32) = 0 by decide), (sgn_eq hb (by decide) (by decide)).mpr q2, if_neg (by decide), if_pos rfl, o1]
        rw [start]
        have hB : bas (W ++ [40]) := .inr ⟨W, rfl⟩
        have b0 : bnt false = 0 := rfl
        have oo : rS S1 bs fr (p + 1) ((W ++ [40]) ++ joL false ++ jaL false) (4 - r) ts := by
          have e : (W ++ [40]) ++ joL false ++ jaL false = W ++ [40] := by
            show (W ++ [40]) ++ [] ++ [] = _
            rw [List.append_nil, List.append_nil]
          rw [e]
          exact o2
        obtain ⟨z1, z2, z3⟩ := pEi_ok (bs := bs) (pt := pPt bs r) (D := 1 + 2 * r) (by omega) (fun p hp => pPt_ok bs r p (by omega) hp) 100 (p + 1) false false (by omega)
        obtain ⟨i1, i2⟩ := rEith (E := 1 + 2 * r) (by omega) (fun p hp => pPt_ok bs r p (by omega) hp) ih hB 100 (p + 1) (fn - 1) false false S1 ts oo (by omega) (by rw [len1]; omega) (by omega) (by omega) (by omega)
        generalize pEi bs (pPt bs r) 100 (p + 1) false false = s at z1 z2 z3 i1 i2 ⊢
        obtain ⟨v1, v2, v3⟩ := s
        dsimp only at z1 z2 z3 i1 i2 ⊢
        cases v1 with
        | false =>
          rw [if_neg (by decide)]
          obtain ⟨M', x1, x2, x3⟩ := i1 rfl
          exact ⟨fun _ => ⟨M', x1, x2, frQ.trans o3 x3⟩, (fun x => by cases x)⟩
        | true =>
          obtain ⟨z4, z5, z6⟩ := z3 rfl
          rw [if_pos rfl]
          obtain ⟨M', fn', x1, x2, x3, x4⟩ := i2 rfl
          obtain ⟨h1, h2, h3, h4, h5, h6, h7⟩ := id x2
          have hb2 := rT_by hT v2
          rw [len1] at h3
          have e0 : (0 : Int32).toInt = 0 := rfl
          have e1 : (1 : Int32).toInt = 1 := rfl
          have f1 : frQ c fr M (sa M' 13 (upd (M'.2.1 13) c (M'.1 16))) := frQ.trans o3 (frQ.trans x3 ⟨fM_sa (by decide), fun _ _ => rfl, fun k hk => by
            show upd (M'.2.1 13) c (M'.1 16) k = _
            unfold upd
            rw [if_neg hk]⟩)
          have h17 : ¬ (sa M' 13 (upd (M'.2.1 13) c (M'.1 16))).1 17 = 0 := fun x => by
            have x : M'.1 17 = 0 := x
            rw [x] at h3
            omega
          have hF : F8 ci fn' M' (sgb (byA bs v2)) = if sgb (byA bs v2) = 41 then K8 ci FU fn' (si (si (si (sa M' 13 (upd (M'.2.1 13) c (M'.1 16))) 17 ((sa M' 13 (upd (M'.2.1 13) c (M'.1 16))).1 17 - 1)) 18 ((si (sa M' 13 (upd (M'.2.1 13) c (M'.1 16))) 17 ((sa M' 13 (upd (M'.2.1 13) c (M'.1 16))).1 17 - 1)).1 18 - 1)) 3 ((si (si (sa M' 13 (upd (M'.2.1 13) c (M'.1 16))) 17 ((sa M' 13 (upd (M'.2.1 13) c (M'.1 16))).1 17 - 1)) 18 ((si (sa M' 13 (upd (M'.2.1 13) c (M'.1 16))) 17 ((sa M' 13 (upd (M'.2.1 13) c (M'.1 16))).1 17 - 1)).1 18 - 1)).1 3 + 1)) else some (0, sa M' 13 (upd (M'.2.1 13) c (M'.1 16))) := by
            unfold F8
            rw [mAs_ok (j := 13) hci (by show c < 40; omega), bsm, if_neg h17]
            rfl
          rw [x1, hF]
          by_cases q3 : byA bs v2 = 41
          · have hq3 := byA_lt q3 (by decide)
            rw [if_pos ((sgn_eq hb2 (by decide) (by decide)).mpr q3), if_pos q3]
            refine ⟨(fun x => by cases x), fun _ => ⟨_, FU, fn', rfl, ⟨h1, ?_, ?_, kW_pre h4, ?_, h6, h7⟩, frQ.trans f1 ⟨fM.trans (fM_si (by decide)) (fM.trans (fM_si (by decide)) (fM_si (by decide))), fun _ _ => rfl, fun _ _ => rfl⟩, by unfold FU; omega, by show bs.length < fn' + (v2 + 1); omega⟩⟩
            · show (M'.1 3 + 1).toInt = ((v2 + 1 : Nat) : Int)
              rw [zi_inc h2 (by omega) (by omega)]
              omega
            · show (M'.1 17 - 1).toInt = _
              rw [zi_sub (by omega) (by omega)]
              omega
            · show (M'.1 18 - 1).toInt = _
              rw [zi_sub (by omega) (by omega)]
              omega
          · rw [if_neg (fun x => q3 ((sgn_eq hb2 (by decide) (by decide)).mp x)), if_neg q3]
            exact ⟨fun _ => ⟨_, rfl, h2, f1⟩, (fun x => by cases x)⟩
      · rw [if_neg q2]
        exact r_testP hS hpl hW hl hf q1 q2
