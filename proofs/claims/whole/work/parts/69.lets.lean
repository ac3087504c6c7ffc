/-! ===== sense, and which sets a kind lets ===== -/
def snB (zl : List Wd) (st : Int32) : Bool := match rdS zl 0 with
  | none => false
  | some wh => match rdS zl st with
    | none => false
    | some ds => ds.all (fun z => wh.any (fun w => decide (w = z)))
def ofB (P : Int32 → Bool) (st : Int32) : Nat → List Wd → Bool
  | _, [] => true
  | k, w :: t => if bt st k ∧ P w.1 = false then false else ofB P st (k + 1) t
def clB (st : Int32) : Nat → Int32 → List Wd → Bool
  | _, _, [] => true
  | k, pv, w :: t => if w.1 ≠ 59 ∧ pv ≠ 59 ∧ ¬ (bt st k ↔ bt st (k - 1)) then false else clB st (k + 1) w.1 t
def isIt (c : Int32) : Bool := decide (c = 119) || decide (c = 38) || decide (c = 44)
def isNu (c : Int32) : Bool := decide (c = 105) || decide (c = 102)
def ltB (kind : Nat) (zl : List Wd) (st : Int32) : Bool := match kind with
  | 0 => true
  | 1 => true
  | 2 => ofB isIt st 0 zl
  | 3 => (match zl with
    | [] => true
    | w :: t => clB st 1 w.1 t)
  | 4 => ofB isNu st 0 zl
  | 5 => decide ((st &&& (st + 1)) = 0)
  | _ => snB zl st
theorem k_cont2 {S : AH} {d dr : Nat} {wh : List Dt} (hV : dV S d dr (wh.map dpk)) (hok : ∀ z ∈ wh, okD z) {z : Dt} (hz : okD z) : ∀ (us : List Dt) (k fn : Nat) (y : Int32), wh.drop k = us → us.length < fn → y.toInt = k → X2_contains_2 fn S d (dpk z) y = some (b01 (us.any (fun w => decide (w = z))), S)
  | [], k, fn, y, hd, hf, hy => by
    obtain ⟨fn, rfl⟩ : ∃ q, fn = q + 1 := ⟨fn - 1, by omega⟩
    have hk := List.drop_eq_nil_iff.mp hd
    have hl := dV_len hV
    rw [List.length_map] at hl
    rw [X2_contains_2, dV_sz hV, bsm, List.length_map, if_pos (by rw [zi_le, zo (by omega)]; omega)]
    rfl
  | w :: us, k, fn, y, hd, hf, hy => by
    simp only [List.length_cons] at hf
    obtain ⟨fn, rfl⟩ : ∃ q, fn = q + 1 := ⟨fn - 1, by omega⟩
    have hl := dV_len hV
    rw [List.length_map] at hl
    obtain ⟨d1, d2, d3, d4⟩ := map_drop hd
    have hw := hok w (List.mem_of_getElem? d4)
    have ih := k_cont2 hV hok hz us (k + 1) fn (y + 1) d2 (by omega) (by rw [zi_inc hy (by omega) (by omega)]; omega)
    rw [X2_contains_2, dV_sz hV, bsm, List.length_map, if_neg (by rw [zi_le, zo (by omega)]; omega), dV_at hV hy, bsm, d1, List.any_cons]
    by_cases q : w = z
    · rw [if_pos (show dpk w = dpk z by rw [q]), decide_eq_true q]
      rfl
    · rw [if_neg (show ¬ dpk w = dpk z from fun c => q (dpk_inj hw hz c)), decide_eq_false q, Bool.false_or]
      exact ih
theorem k_cont {S : AH} {d dr : Nat} {wh : List Dt} (hV : dV S d dr (wh.map dpk)) (hok : ∀ z ∈ wh, okD z) {z : Dt} (hz : okD z) : cO S d 2 (X2_contains S d (dpk z)) = some (b01 (wh.any (fun w => decide (w = z))), S) := by
  have hl := dV_len hV
  rw [List.length_map] at hl
  rw [dV_cO hV]
  unfold X2_contains X2_contains_0
  rw [k_cont2 hV hok hz wh 0 FU 0 rfl (by unfold FU; omega) rfl, zg_b]
theorem k_allin2 {S : AH} {a r d dr : Nat} {ds wh : List Dt} (hA : dV S a r (ds.map dpk)) (hV : dV S d dr (wh.map dpk)) (hok : ∀ z ∈ wh, okD z) (hds : ∀ z ∈ ds, okD z) : ∀ (us : List Dt) (k fn : Nat) (y : Int32), ds.drop k = us → us.length < fn → y.toInt = k → X2_isAllIn_2 fn S a (some d) y = some (b01 (us.all (fun z => wh.any (fun w => decide (w = z)))), S)
  | [], k, fn, y, hd, hf, hy => by
    obtain ⟨fn, rfl⟩ : ∃ q, fn = q + 1 := ⟨fn - 1, by omega⟩
    have hk := List.drop_eq_nil_iff.mp hd
    have hl := dV_len hA
    rw [List.length_map] at hl
    rw [X2_isAllIn_2, dV_sz hA, bsm, List.length_map, if_pos (by rw [zi_le, zo (by omega)]; omega)]
    rfl
  | z :: us, k, fn, y, hd, hf, hy => by
    simp only [List.length_cons] at hf
    obtain ⟨fn, rfl⟩ : ∃ q, fn = q + 1 := ⟨fn - 1, by omega⟩
    have hl := dV_len hA
    rw [List.length_map] at hl
    obtain ⟨d1, d2, d3, d4⟩ := map_drop hd
    have hz := hds z (List.mem_of_getElem? d4)
    have ih := k_allin2 hA hV hok hds us (k + 1) fn (y + 1) d2 (by omega) (by rw [zi_inc hy (by omega) (by omega)]; omega)
    rw [X2_isAllIn_2, dV_sz hA, bsm, List.length_map, if_neg (by rw [zi_le, zo (by omega)]; omega), dV_at hA hy, bsm, d1, bsm]
    dsimp only
    rw [k_cont hV hok hz, bsm, b01_i, List.all_cons]
    cases wh.any (fun w => decide (w = z)) with
    | true =>
      rw [if_pos rfl, Bool.true_and]
      exact ih
    | false =>
      rw [if_neg (by decide), Bool.false_and]
      rfl
theorem k_allin {S : AH} {a r d dr : Nat} {ds wh : List Dt} (hA : dV S a r (ds.map dpk)) (hV : dV S d dr (wh.map dpk)) (hok : ∀ z ∈ wh, okD z) (hds : ∀ z ∈ ds, okD z) : cO S a 2 (X2_isAllIn S a (some d)) = some (b01 (ds.all (fun z => wh.any (fun w => decide (w = z)))), S) := by
  have hl := dV_len hA
  rw [List.length_map] at hl
  rw [dV_cO hA]
  unfold X2_isAllIn X2_isAllIn_0
  rw [k_allin2 hA hV hok hds ds 0 FU 0 rfl (by unfold FU; omega) rfl, zg_b]
theorem k_sense {C : CS} {M2 : MS} {D : List va_E} {ob : Nat} {zl : List Wd} {st : Int32} (hC : lf12 C) (hB : BVD D ob zl) (hk : okB zl) (hin : inS zl st) : ∃ C', cO (mh (ccells C) M2 D) 0 7 (X7_keepsSense (mh (ccells C) M2 D) 0 (some ob) st) = some (b01 (snB zl st), mh (ccells C') M2 D) ∧ frC C C' := by
  have hc : ∀ o : Option (Int32 × AH), cO (mh (ccells C) M2 D) 0 7 o = o := fun _ => rfl
  rw [hc]
  unfold X7_keepsSense X7_keepsSense_0 X7_keepsSense_16 snB
  rw [bsm, v_readable hB hk C M2 0, bsm, i01]
  dsimp only
  cases h0 : rdS zl 0 with
  | none =>
    rw [if_neg (fun c => by cases c.2)]
    exact ⟨C, zg_b false _, frC.rfl hC⟩
  | some wh =>
    rw [if_pos ⟨inS_0 hk, rfl⟩, v_readable hB hk C M2 st, bsm, i01]
    dsimp only
    cases hs : rdS zl st with
    | none =>
      rw [if_neg (fun c => by cases c.2)]
      exact ⟨C, zg_b false _, frC.rfl hC⟩
    | some ds =>
      obtain ⟨C', t1, t2, t3, t4⟩ := v_tell (M := M2) hC hB hk hs
      obtain ⟨d, dr, v1, v2⟩ := v_whole hB
      rw [if_pos ⟨hin, rfl⟩, left_q, bsm, t1, bsm]
      dsimp only
      rw [left_q, bsm, v1 C' M2, bsm, prs, bsm, k_allin (lV_dV t3 M2 D) (v2 wh h0 C' M2) (rdS_ok hk h0) t4, bsm]
      exact ⟨C', zg_b _ _, t2⟩
theorem isIt_if {α : Type} (c : Int32) (a b : α) : (if c = 119 then a else if c = 38 then a else if c = 44 then a else b) = if isIt c = true then a else b := by
  unfold isIt
  by_cases h1 : c = 119
  · rw [if_pos h1, decide_eq_true h1]
    rfl
  · rw [if_neg h1, decide_eq_false h1]
    by_cases h2 : c = 38
    · rw [if_pos h2, decide_eq_true h2]
      rfl
    · rw [if_neg h2, decide_eq_false h2]
      by_cases h3 : c = 44
      · rw [if_pos h3, decide_eq_true h3]
        rfl
      · rw [if_neg h3, decide_eq_false h3]
        rfl
theorem isNu_if {α : Type} (c : Int32) (a b : α) : (if c = 105 then a else if c = 102 then a else b) = if isNu c = true then a else b := by
  unfold isNu
  by_cases h1 : c = 105
  · rw [if_pos h1, decide_eq_true h1]
    rfl
  · rw [if_neg h1, decide_eq_false h1]
    by_cases h2 : c = 102
    · rw [if_pos h2, decide_eq_true h2]
      rfl
    · rw [if_neg h2, decide_eq_false h2]
      rfl
theorem k_items2 {S : AH} {b aw : Nat} {zl : List Wd} {st : Int32} (hw : wV S b aw zl) (hl : zl.length ≤ 12) (hok : ∀ w ∈ zl, okW w) : ∀ (us : List Wd) (k fn : Nat) (y : Int32), zl.drop k = us → us.length < fn → y.toInt = k → X1_isOfItems_2 fn S b st y = some (b01 (ofB isIt st k us), S)
  | [], k, fn, y, hd, hf, hy => by
    obtain ⟨fn, rfl⟩ : ∃ q, fn = q + 1 := ⟨fn - 1, by omega⟩
    have hk := List.drop_eq_nil_iff.mp hd
    obtain ⟨g1, g2⟩ := td_len hw
    rw [X1_isOfItems_2, g1, bsm, g2, bsm, if_pos (by rw [zi_le, zo (by omega)]; omega)]
    rfl
  | w :: us, k, fn, y, hd, hf, hy => by
    simp only [List.length_cons] at hf
    obtain ⟨fn, rfl⟩ : ∃ q, fn = q + 1 := ⟨fn - 1, by omega⟩
    obtain ⟨g1, g2⟩ := td_len hw
    obtain ⟨d1, d2, d3⟩ := drop_c hd
    have hyk := i_nat hy (by omega)
    have ih := k_items2 (st := st) hw hl hok us (k + 1) fn (y + 1) d2 (by omega) (by rw [zi_inc hy (by omega) (by omega)]; omega)
    rw [X1_isOfItems_2, g1, bsm, g2, bsm, if_neg (by rw [zi_le, zo (by omega)]; omega), bsm, td_word hw d1 hy, bsm, (wd_num (hok w (List.mem_of_getElem? d1))).1, isIt_if]
    unfold ofB X1_isOfItems_49
    by_cases q : bt st k
    · rw [if_neg (by rw [hyk]; exact bt_1 q)]
      cases q2 : isIt w.1 with
      | true =>
        rw [if_pos rfl, if_neg (fun c => by cases c.2)]
        exact ih
      | false =>
        rw [if_neg (by decide), if_pos ⟨q, rfl⟩]
        rfl
    · rw [if_pos (by rw [hyk]; exact bt_0 q), if_neg (fun c => q c.1)]
      exact ih
theorem k_numbers2 {S : AH} {b aw : Nat} {zl : List Wd} {st : Int32} (hw : wV S b aw zl) (hl : zl.length ≤ 12) (hok : ∀ w ∈ zl, okW w) : ∀ (us : List Wd) (k fn : Nat) (y : Int32), zl.drop k = us → us.length < fn → y.toInt = k → X1_isOfNumbers_2 fn S b st y = some (b01 (ofB isNu st k us), S)
  | [], k, fn, y, hd, hf, hy => by
    obtain ⟨fn, rfl⟩ : ∃ q, fn = q + 1 := ⟨fn - 1, by omega⟩
    have hk := List.drop_eq_nil_iff.mp hd
    obtain ⟨g1, g2⟩ := td_len hw
    rw [X1_isOfNumbers_2, g1, bsm, g2, bsm, if_pos (by rw [zi_le, zo (by omega)]; omega)]
    rfl
  | w :: us, k, fn, y, hd, hf, hy => by
    simp only [List.length_cons] at hf
    obtain ⟨fn, rfl⟩ : ∃ q, fn = q + 1 := ⟨fn - 1, by omega⟩
    obtain ⟨g1, g2⟩ := td_len hw
    obtain ⟨d1, d2, d3⟩ := drop_c hd
    have hyk := i_nat hy (by omega)
    have ih := k_numbers2 (st := st) hw hl hok us (k + 1) fn (y + 1) d2 (by omega) (by rw [zi_inc hy (by omega) (by omega)]; omega)
    rw [X1_isOfNumbers_2, g1, bsm, g2, bsm, if_neg (by rw [zi_le, zo (by omega)]; omega), bsm, td_word hw d1 hy, bsm, (wd_num (hok w (List.mem_of_getElem? d1))).1, isNu_if]
    unfold ofB X1_isOfNumbers_43
    by_cases q : bt st k
    · rw [if_neg (by rw [hyk]; exact bt_1 q)]
      cases q2 : isNu w.1 with
      | true =>
        rw [if_pos rfl, if_neg (fun c => by cases c.2)]
        exact ih
      | false =>
        rw [if_neg (by decide), if_pos ⟨q, rfl⟩]
        rfl
    · rw [if_pos (by rw [hyk]; exact bt_0 q), if_neg (fun c => q c.1)]
      exact ih
theorem bt_eq (st : Int32) (j k : Nat) : (((st >>> (Int32.ofNat j &&& 31)) &&& 1) = ((st >>> (Int32.ofNat k &&& 31)) &&& 1)) ↔ (bt st j ↔ bt st k) := by
  constructor
  · intro h
    show (_ = (1 : Int32)) ↔ (_ = (1 : Int32))
    rw [h]
  · intro h
    by_cases q : bt st j
    · have q1 : ((st >>> (Int32.ofNat j &&& 31)) &&& 1) = 1 := q
      have q2 : ((st >>> (Int32.ofNat k &&& 31)) &&& 1) = 1 := h.mp q
      rw [q1, q2]
    · rw [bt_0 q, bt_0 (fun c => q (h.mpr c))]
theorem k_clauses2 {S : AH} {b aw : Nat} {zl : List Wd} {st : Int32} (hw : wV S b aw zl) (hl : zl.length ≤ 12) (hok : ∀ w ∈ zl, okW w) : ∀ (us : List Wd) (k fn : Nat) (y : Int32) (pv : Wd), zl.drop (k + 1) = us → zl[k]? = some pv → us.length < fn → y.toInt = ((k + 1 : Nat) : Int) → X1_isOfClauses_2 fn S b st y = some (b01 (clB st (k + 1) pv.1 us), S)
  | [], k, fn, y, pv, hd, hp, hf, hy => by
    obtain ⟨fn, rfl⟩ : ∃ q, fn = q + 1 := ⟨fn - 1, by omega⟩
    have hk := List.drop_eq_nil_iff.mp hd
    obtain ⟨g1, g2⟩ := td_len hw
    rw [X1_isOfClauses_2, g1, bsm, g2, bsm, if_pos (by rw [zi_le, zo (by omega)]; omega)]
    rfl
  | w :: us, k, fn, y, pv, hd, hp, hf, hy => by
    simp only [List.length_cons] at hf
    obtain ⟨fn, rfl⟩ : ∃ q, fn = q + 1 := ⟨fn - 1, by omega⟩
    obtain ⟨g1, g2⟩ := td_len hw
    obtain ⟨d1, d2, d3⟩ := drop_c hd
    have e1 : (1 : Int32).toInt = 1 := rfl
    have hyk := i_nat hy (by omega)
    have hy1 : (y - 1).toInt = k := by
      rw [zi_sub (by omega) (by omega), e1]
      omega
    have hyk1 := i_nat hy1 (by omega)
    have ih := k_clauses2 (st := st) hw hl hok us (k + 1) fn (y + 1) w d2 d1 (by omega) (by rw [zi_inc hy (by omega) (by omega)]; omega)
    rw [X1_isOfClauses_2, g1, bsm, g2, bsm, if_neg (by rw [zi_le, zo (by omega)]; omega), bsm, td_word hw d1 hy, bsm, (wd_num (hok w (List.mem_of_getElem? d1))).1]
    unfold clB X1_isOfClauses_45 X1_isOfClauses_46 X1_isOfClauses_68
    by_cases q1 : w.1 = 59
    · rw [if_pos q1, if_pos rfl, if_neg (fun c => c.1 q1)]
      exact ih
    · rw [if_neg q1, bsm, td_word hw hp hy1, bsm, (wd_num (hok pv (List.mem_of_getElem? hp))).1]
      by_cases q2 : pv.1 = 59
      · rw [if_pos q2, if_pos rfl, if_neg (fun c => c.2.1 q2)]
        exact ih
      · rw [if_neg q2, if_neg (show ¬ (1 : Int32) = 0 by decide), hyk1]
        have e2 := bt_eq st (k + 1) k
        by_cases q3 : bt st (k + 1) ↔ bt st k
        · rw [if_pos (by rw [hyk]; exact e2.mpr q3), if_neg (fun c => c.2.2 q3)]
          exact ih
        · rw [if_neg (by rw [hyk]; exact fun c => q3 (e2.mp c)), if_pos ⟨q1, q2, q3⟩]
          rfl
theorem k_let {C : CS} {M2 : MS} {D : List va_E} {ob kind : Nat} {zl : List Wd} {st : Int32} (hC : lf12 C) (hB : BVD D ob zl) (hk : okB zl) (hin : inS zl st) (hkd : kind < 7) : ∃ C', cO (mh (ccells C) M2 D) 0 7 (X7_isLet (mh (ccells C) M2 D) 0 (nI kind) (some ob) st) = some (b01 (ltB kind zl st), mh (ccells C') M2 D) ∧ frC C C' := by
  have hc : ∀ o : Option (Int32 × AH), cO (mh (ccells C) M2 D) 0 7 o = o := fun _ => rfl
  obtain ⟨w, s, r, d, dr, f, g, hm, -, h1, h2, h3, -⟩ := hB C M2
  have hw : wV (mh (ccells C) M2 D) ob w zl := ⟨_, f, h1, rfl, h2, h3⟩
  have hl := hk.1
  rw [hc]
  unfold X7_isLet X7_isLet_0 X7_isLet_79
  rcases (show kind = 0 ∨ kind = 1 ∨ kind = 2 ∨ kind = 3 ∨ kind = 4 ∨ kind = 5 ∨ kind = 6 by omega) with rfl | rfl | rfl | rfl | rfl | rfl | rfl
  · rw [if_pos (by decide)]
    exact ⟨C, zg_b true _, frC.rfl hC⟩
  · rw [if_neg (by decide), if_pos (by decide)]
    exact ⟨C, zg_b true _, frC.rfl hC⟩
  · rw [if_neg (by decide), if_neg (by decide), if_pos (by decide), bsm, wV_cO hw]
    unfold X1_isOfItems X1_isOfItems_0
    rw [k_items2 hw hl hk.2.2 zl 0 FU 0 rfl (by unfold FU; omega) rfl, zg_b, bsm]
    exact ⟨C, zg_b _ _, frC.rfl hC⟩
  · rw [if_neg (by decide), if_neg (by decide), if_neg (by decide), if_pos (by decide), bsm, wV_cO hw]
    unfold X1_isOfClauses X1_isOfClauses_0
    match zl, hw, hl, hk with
    | [], hw, hl, hk => exact absurd rfl hk.2.1
    | v :: t, hw, hl, hk =>
      rw [k_clauses2 hw hl hk.2.2 t 0 FU 1 v rfl rfl (by simp only [List.length_cons] at hl; unfold FU; omega) rfl, zg_b, bsm]
      exact ⟨C, zg_b _ _, frC.rfl hC⟩
  · rw [if_neg (by decide), if_neg (by decide), if_neg (by decide), if_neg (by decide), if_pos (by decide), bsm, wV_cO hw]
    unfold X1_isOfNumbers X1_isOfNumbers_0
    rw [k_numbers2 hw hl hk.2.2 zl 0 FU 0 rfl (by unfold FU; omega) rfl, zg_b, bsm]
    exact ⟨C, zg_b _ _, frC.rfl hC⟩
  · rw [if_neg (by decide), if_neg (by decide), if_neg (by decide), if_neg (by decide), if_neg (by decide), if_pos (by decide)]
    unfold ltB
    by_cases q : (st &&& (st + 1)) = 0
    · rw [if_pos q, decide_eq_true q]
      exact ⟨C, zg_b true _, frC.rfl hC⟩
    · rw [if_neg q, decide_eq_false q]
      exact ⟨C, zg_b false _, frC.rfl hC⟩
  · obtain ⟨C', a1, a2⟩ := k_sense (M2 := M2) hC hB hk hin
    rw [if_neg (by decide), if_neg (by decide), if_neg (by decide), if_neg (by decide), if_neg (by decide), if_neg (by decide), if_pos (by decide), a1, bsm]
    exact ⟨C', zg_b _ _, a2⟩
