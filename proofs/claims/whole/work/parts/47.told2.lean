theorem dV_cO {α : Type} {S : AH} {a r : Nat} {ps : List Int32} {o : Option α} (h : dV S a r ps) : cO S a 2 o = o := by
  obtain ⟨f, sz, h1, h2, h3, h4, h5⟩ := h
  exact e_cO h1
theorem k_setD {S : AH} {a r : Nat} {dn cur : List Dt} {l6 v : Int32} (wh : Int32) (F : Dt → Dt) (hd : dV S a r ((dn ++ cur).map dpk)) (hf : l6.toInt = dn.length) (hz : ∀ z ∈ cur, ((dpk z &&& (((31 : Int32) <<< (wh &&& 31)) ^^^ (-1))) ||| (v <<< (wh &&& 31))) = dpk (F z)) : ∃ S', cO S a 2 (X2_setDigit S a l6 wh v) = some ((), S') ∧ dV S' a r ((dn ++ cur.map F).map dpk) ∧ hF S S' [a, r] := by
  have hl := dV_len hd
  simp only [List.length_map, List.length_append] at hl
  have e0 : (0 : Int32).toInt = 0 := rfl
  obtain ⟨S1, h1, h2, h3⟩ := sd_loop wh v F cur dn FU S l6 hd hf (by unfold FU; omega) hz
  refine ⟨S1, ?_, h2, h3⟩
  rw [dV_cO hd]
  unfold X2_setDigit X2_setDigit_0
  rw [if_neg (by rw [zi_lt]; omega)]
  exact h1
theorem k_setLong {S : AH} {a r : Nat} {dn cur : List Dt} {l6 v : Int32} (hd : dV S a r ((dn ++ cur).map dpk)) (ho : ∀ z ∈ cur, okD z) (hv : in2 v 10) (hf : l6.toInt = dn.length) : ∃ S', cO S a 2 (X2_setLong S a l6 v) = some ((), S') ∧ dV S' a r ((dn ++ cur.map (sLng v)).map dpk) ∧ hF S S' [a, r] := by
  obtain ⟨S1, h1, h2, h3⟩ := k_setD (v := v) 0 (sLng v) hd hf (fun z hz => dpk_lng (ho z hz) hv)
  refine ⟨S1, ?_, h2, h3⟩
  rw [dV_cO hd]
  unfold X2_setLong X2_setLong_0
  rw [h1, bsm]
theorem k_setFar {S : AH} {a r : Nat} {dn cur : List Dt} {l6 v : Int32} (hd : dV S a r ((dn ++ cur).map dpk)) (ho : ∀ z ∈ cur, okD z) (hv : in2 v 10) (hf : l6.toInt = dn.length) : ∃ S', cO S a 2 (X2_setFar S a l6 v) = some ((), S') ∧ dV S' a r ((dn ++ cur.map (sFar v)).map dpk) ∧ hF S S' [a, r] := by
  obtain ⟨S1, h1, h2, h3⟩ := k_setD (v := v) 5 (sFar v) hd hf (fun z hz => dpk_far (ho z hz) hv)
  refine ⟨S1, ?_, h2, h3⟩
  rw [dV_cO hd]
  unfold X2_setFar X2_setFar_0
  rw [h1, bsm]
theorem k_addThing {S : AH} {a r : Nat} {ds : List Dt} (hd : dV S a r (ds.map dpk)) (hl : ds.length < 12) (x1 x2 x3 x4 : Int32) : ∃ S', cO S a 2 (X2_addThing S a x1 x2 x3 x4) = some ((), S') ∧ dV S' a r ((ds ++ [(x1, x2, x3, x4, 10, 10)]).map dpk) ∧ hF S S' [a, r] := by
  obtain ⟨S1, h1, h2, h3⟩ := dV_add hd (by rw [List.length_map]; exact hl) (dpk (x1, x2, x3, x4, 10, 10))
  refine ⟨S1, ?_, by rw [List.map_append]; exact h2, h3⟩
  rw [dV_cO hd]
  unfold X2_addThing X2_addThing_0
  rw [← dpk_thing, h1, bsm]
theorem k_addPay {S : AH} {a r : Nat} {ds : List Dt} (hd : dV S a r (ds.map dpk)) (hl : ds.length < 12) (x1 x2 x4 : Int32) : ∃ S', cO S a 2 (X2_addPay S a x1 x2 x4) = some ((), S') ∧ dV S' a r ((ds ++ [(x1, x2, 0, 10 + x4, 0, 0)]).map dpk) ∧ hF S S' [a, r] := by
  obtain ⟨S1, h1, h2, h3⟩ := dV_add hd (by rw [List.length_map]; exact hl) (dpk (x1, x2, 0, 10 + x4, 0, 0))
  refine ⟨S1, ?_, by rw [List.map_append]; exact h2, h3⟩
  rw [dV_cO hd]
  unfold X2_addPay X2_addPay_0
  rw [← dpk_pay, h1, bsm]
def tDs (s : tS) : List Dt := s.2.2.2.1 ++ s.2.2.2.2
theorem td_step {S : AH} {b aw a r : Nat} {st y l6 : Int32} {zl : List Wd} {w : Wd} {k fn : Nat} {s : tS} (hw : wV S b aw zl) (hk : zl[k]? = some w) (hl : zl.length ≤ 12) (hok : okW w) (hy : y.toInt = k) (hd : dV S a r ((tDs s).map dpk)) (hs : okS s) (hlen : (tDs s).length ≤ k) (hf : l6.toInt = s.2.2.2.1.length) (hbit : ¬ bt st k) : ∃ S1 q, X1_tellDuties_18 (fn + 1) S b st (some a) s.1 s.2.1 s.2.2.1 l6 y = X1_tellDuties_18 fn S1 b st (some a) (tst s w).1 (tst s w).2.1 (tst s w).2.2.1 q (y + 1) ∧ dV S1 a r ((tDs (tst s w)).map dpk) ∧ q.toInt = (tst s w).2.2.2.1.length ∧ hF S S1 [a, r] ∧ (tDs (tst s w)).length ≤ k + 1 := by
  obtain ⟨s1, s2, s3, dn, cur⟩ := s
  obtain ⟨o1, o2, o3, o4⟩ := hs
  unfold tDs at *
  dsimp only at *
  have hkl := (List.getElem?_eq_some_iff.mp hk).1
  obtain ⟨g1, g2⟩ := td_len hw
  have g3 := td_word hw hk hy
  have hn := wd_num hok
  have hyk := i_nat hy (by omega)
  have hfig : in2 w.2 10 := ⟨hok.2.1, by have := hok.2.2; omega⟩
  have oc : ∀ z ∈ cur, okD z := fun z hz => o4 z (List.mem_append_right _ hz)
  rw [X1_tellDuties_18]
  unfold X1_tellDuties_270
  rw [g1, bsm, g2, bsm, if_neg (by rw [zi_le, zo (by omega), hy]; omega), if_pos (by rw [hyk]; exact bt_0 hbit), bsm, g3, bsm, bsm, g3, bsm, hn.2, hn.1]
  by_cases h97 : w.1 = 97
  · have et : tst (s1, s2, s3, dn, cur) w = (0, s2, 0, dn ++ cur, []) := by
      unfold tst
      rw [h97]
      rfl
    rw [if_pos h97, et, bsm, dV_size hd, bsm]
    refine ⟨S, _, rfl, by dsimp only; rw [List.append_nil]; exact hd, ?_, hF.rfl, by dsimp only; rw [List.append_nil]; omega⟩
    rw [zo (by rw [List.length_map]; omega), List.length_map]
  rw [if_neg h97]
  by_cases h98 : w.1 = 98
  · have et : tst (s1, s2, s3, dn, cur) w = (1, s2, 0, dn ++ cur, []) := by
      unfold tst
      rw [h98]
      rfl
    rw [if_pos h98, et, bsm, dV_size hd, bsm]
    refine ⟨S, _, rfl, by dsimp only; rw [List.append_nil]; exact hd, ?_, hF.rfl, by dsimp only; rw [List.append_nil]; omega⟩
    rw [zo (by rw [List.length_map]; omega), List.length_map]
  rw [if_neg h98]
  by_cases h102 : w.1 = 102
  · have et : tst (s1, s2, s3, dn, cur) w = (s1, s2, s3, dn, cur.map (sLng w.2)) := by
      unfold tst
      rw [h102]
      rfl
    obtain ⟨S1, b1, b2, b3⟩ := k_setLong hd oc hfig hf
    rw [if_pos h102, et, bsm, b1, bsm]
    exact ⟨S1, _, rfl, b2, hf, b3, by simp only [List.length_append, List.length_map] at hlen ⊢; omega⟩
  rw [if_neg h102]
  by_cases h105 : w.1 = 105
  · have et : tst (s1, s2, s3, dn, cur) w = (s1, s2, s3, dn, cur.map (sFar w.2)) := by
      unfold tst
      rw [h105]
      rfl
    obtain ⟨S1, b1, b2, b3⟩ := k_setFar hd oc hfig hf
    rw [if_pos h105, et, bsm, b1, bsm]
    exact ⟨S1, _, rfl, b2, hf, b3, by simp only [List.length_append, List.length_map] at hlen ⊢; omega⟩
  rw [if_neg h105]
  by_cases h109 : w.1 = 109
  · have et : tst (s1, s2, s3, dn, cur) w = (s1, 1, s3, dn, cur) := by
      unfold tst
      rw [h109]
      rfl
    rw [if_pos h109, et]
    exact ⟨S, _, rfl, hd, hf, hF.rfl, by dsimp only; omega⟩
  rw [if_neg h109]
  by_cases h110 : w.1 = 110
  · have et : tst (s1, s2, s3, dn, cur) w = (s1, s2, 1, dn, cur) := by
      unfold tst
      rw [h110]
      rfl
    rw [if_pos h110, et]
    exact ⟨S, _, rfl, hd, hf, hF.rfl, by dsimp only; omega⟩
  rw [if_neg h110]
  by_cases h112 : w.1 = 112
  · have et : tst (s1, s2, s3, dn, cur) w = (s1, s2, s3, dn, cur ++ [(s1, s2, 0, 10 + w.2, 0, 0)]) := by
      unfold tst
      rw [h112]
      rfl
    obtain ⟨S1, b1, b2, b3⟩ := k_addPay hd (by omega) s1 s2 w.2
    rw [if_pos h112, et, bsm, b1, bsm]
    exact ⟨S1, _, rfl, by dsimp only; rw [← List.append_assoc]; exact b2, hf, b3, by simp only [List.length_append, List.length_cons, List.length_nil] at hlen ⊢; omega⟩
  rw [if_neg h112]
  by_cases h119 : w.1 = 119
  · obtain ⟨S1, b1, b2, b3⟩ := k_addThing hd (by omega) s1 s2 s3 w.2
    rw [if_pos h119, tst_w _ w h119, bsm, b1, bsm]
    exact ⟨S1, _, rfl, by dsimp only; rw [← List.append_assoc]; exact b2, hf, b3, by simp only [List.length_append, List.length_cons, List.length_nil] at hlen ⊢; omega⟩
  rw [if_neg h119]
  by_cases h121 : w.1 = 121
  · have et : tst (s1, s2, s3, dn, cur) w = (s1, 0, s3, dn, cur) := by
      unfold tst
      rw [h121]
      rfl
    rw [if_pos h121, et]
    exact ⟨S, _, rfl, hd, hf, hF.rfl, by dsimp only; omega⟩
  rw [if_neg h121]
  have et : tst (s1, s2, s3, dn, cur) w = (s1, s2, s3, dn, cur) := by
    unfold tst
    rw [if_neg h97, if_neg h98, if_neg h102, if_neg h105, if_neg h109, if_neg h110, if_neg h112, if_neg h119, if_neg h121]
  rw [et]
  exact ⟨S, _, rfl, hd, hf, hF.rfl, by dsimp only; omega⟩
theorem td_loop {b aw a r : Nat} {st : Int32} {zl : List Wd} (hl : zl.length ≤ 12) (hok : ∀ w ∈ zl, okW w) (hb1 : b ≠ a) (hb2 : b ≠ r) (hb3 : aw ≠ a) (hb4 : aw ≠ r) : ∀ (rest : List Wd) (k fn : Nat) (S : AH) (s : tS) (y l6 : Int32), wV S b aw zl → zl.drop k = rest → rest.length < fn → y.toInt = k → dV S a r ((tDs s).map dpk) → okS s → (tDs s).length ≤ k → l6.toInt = s.2.2.2.1.length → ∃ S', X1_tellDuties_18 fn S b st (some a) s.1 s.2.1 s.2.2.1 l6 y = some ((), S') ∧ dV S' a r ((tDs (tlF s (lfI st k rest))).map dpk) ∧ okS (tlF s (lfI st k rest)) ∧ hF S S' [a, r]
  | [], k, fn, S, s, y, l6, hw, hdr, hf, hy, hd, hs, hlen, h6 => by
    obtain ⟨fn, rfl⟩ : ∃ q, fn = q + 1 := ⟨fn - 1, by omega⟩
    have hk := List.drop_eq_nil_iff.mp hdr
    obtain ⟨g1, g2⟩ := td_len hw
    refine ⟨S, ?_, hd, hs, hF.rfl⟩
    unfold X1_tellDuties_18
    rw [g1, bsm, g2, bsm, if_pos (by rw [zi_le, zo (by omega), hy]; omega)]
  | w :: rest, k, fn, S, s, y, l6, hw, hdr, hf, hy, hd, hs, hlen, h6 => by
    simp only [List.length_cons] at hf
    obtain ⟨fn, rfl⟩ : ∃ q, fn = q + 1 := ⟨fn - 1, by omega⟩
    have hk : zl[k]? = some w := by
      have e := congrArg (fun q => q[0]?) hdr
      simpa [List.getElem?_drop] using e
    have hdr2 : zl.drop (k + 1) = rest := by
      have e := congrArg (List.drop 1) hdr
      simpa [List.drop_drop, Nat.add_comm] using e
    have hkl := (List.getElem?_eq_some_iff.mp hk).1
    have hwk := hok w (List.mem_of_getElem? hk)
    have hy2 : (y + 1).toInt = ((k + 1 : Nat) : Int) := by
      rw [zi_inc hy (by omega) (by omega)]
      omega
    unfold lfI
    by_cases hb : bt st k
    · rw [if_pos hb]
      obtain ⟨S', e1, e2⟩ := td_loop hl hok hb1 hb2 hb3 hb4 rest (k + 1) fn S s (y + 1) l6 hw hdr2 (by omega) hy2 hd hs (by omega) h6
      refine ⟨S', ?_, e2⟩
      obtain ⟨g1, g2⟩ := td_len hw
      have hyk := i_nat hy (by omega)
      unfold X1_tellDuties_18 X1_tellDuties_270
      rw [g1, bsm, g2, bsm, if_neg (by rw [zi_le, zo (by omega), hy]; omega), if_neg (by rw [hyk]; exact bt_1 hb)]
      exact e1
    · rw [if_neg hb, tlF_cons]
      obtain ⟨S1, q, e1, e2, e3, e4, e5⟩ := td_step (fn := fn) hw hk hl hwk hy hd hs hlen h6 hb
      have hw1 : wV S1 b aw zl := wV_frame hw (e4.2 b (by simp [hb1, hb2])) (e4.2 aw (by simp [hb3, hb4]))
      obtain ⟨S2, f1, f2, f3, f4⟩ := td_loop hl hok hb1 hb2 hb3 hb4 rest (k + 1) fn S1 (tst s w) (y + 1) q hw1 hdr2 (by omega) hy2 e2 (tst_ok hs hwk) e5 e3
      exact ⟨S2, e1.trans f1, f2, f3, hF.trans e4 f4⟩
theorem k_tell {S : AH} {b aw a r : Nat} {st : Int32} {zl : List Wd} {ps : List Int32} {ds : List Dt} (hl : zl.length ≤ 12) (hok : ∀ w ∈ zl, okW w) (hb1 : b ≠ a) (hb2 : b ≠ r) (hb3 : aw ≠ a) (hb4 : aw ≠ r) (hw : wV S b aw zl) (hd : dV S a r ps) (hp : pAll 13 (lfI st 0 zl) = some ds) : ∃ S', cO S b 1 (X1_tellDuties S b st (some a)) = some ((), S') ∧ dV S' a r (ds.map dpk) ∧ (∀ z ∈ ds, okD z) ∧ hF S S' [a, r] := by
  obtain ⟨S1, h1, h2, h3⟩ := dV_clear hd
  have i0 : in2 0 1 := ⟨by decide, by decide⟩
  have hw1 : wV S1 b aw zl := wV_frame hw (h3.2 b (by simp [hb1, hb2])) (h3.2 aw (by simp [hb3, hb4]))
  obtain ⟨S2, f1, f2, f3, f4⟩ := td_loop (st := st) hl hok hb1 hb2 hb3 hb4 zl 0 FU S1 (0, 0, 0, [], []) 0 0 hw1 rfl (by unfold FU; omega) rfl h2 ⟨i0, i0, i0, fun z hz => by cases hz⟩ (Nat.zero_le _) rfl
  have e := all_tell 13 (lfI st 0 zl) (0, 0, 0, [], []) ds hp
  have e2 : tDs (tlF (0, 0, 0, [], []) (lfI st 0 zl)) = ds := e
  rw [e2] at f2
  refine ⟨S2, ?_, f2, fun z hz => f3.2.2.2 z (by rw [e]; exact hz), hF.trans h3 f4⟩
  rw [wV_cO hw]
  unfold X1_tellDuties X1_tellDuties_0
  rw [bsm, h1, bsm]
  exact f1
