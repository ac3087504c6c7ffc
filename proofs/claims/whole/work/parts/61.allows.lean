/-! ===== the class: a law over a row of duties ===== -/
/-- a law's clause: 0 bar, 1 give, 2 most, 3 sense; its number; its steps -/
abbrev Cz : Type := Nat × Nat × List Tk
def kSt : Bool → List Cz → List Tk
  | _, [] => []
  | fi, c :: cs => if c.1 = 0 then c.2.2 ++ (if fi = true then [] else [(9, 0, 0)]) ++ kSt false cs else kSt fi cs
def moS (m : Int32) (c : Cz) : Int32 := if c.1 = 2 then (if m = -1 then nI c.2.1 else if nI c.2.1 < m then nI c.2.1 else m) else m
def kMo (cs : List Cz) : Int32 := cs.foldl moS (-1)
def hasK (k : Nat) (cs : List Cz) : Bool := cs.any (fun c => c.1 == k)
def b01 (b : Bool) : Int32 := if b = true then 1 else 0
def okL (cs : List Cz) : Prop := 1 ≤ cs.length ∧ cs.length ≤ 8 ∧ (∀ c ∈ cs, c.1 ≤ 3 ∧ c.2.1 ≤ 999 ∧ (c.1 = 0 → okc 11 c.2.2)) ∧ (kSt true cs).length ≤ 100
def LV (S : AH) (lo : Nat) (cs : List Cz) : Prop := ∃ st, 54 ≤ lo ∧ 54 ≤ st ∧ S[lo]? = some (.inr (3, [.ref st, .int (b01 (hasK 1 cs)), .int (b01 (hasK 3 cs)), .int (kMo cs)])) ∧ stV S lo st (kSt true cs)
def vl (ev : Tk → Bool) (ts : List Tk) : Bool := match runT ev [] ts with
  | some (v :: _) => v
  | _ => false
def bvS (ev : Tk → Bool) (cs : List Cz) : Bool := cs.any (fun c => c.1 == 0 && vl ev c.2.2)
theorem vl_run {D : Nat} {ts : List Tk} (h : okc D ts) (hD : D ≤ 30) (ev : Tk → Bool) (st : List Bool) (hs : st.length + D ≤ 31) : runT ev st ts = some (vl ev ts :: st) := by
  obtain ⟨v, hv⟩ := h.2 ev
  have e : vl ev ts = v := by
    unfold vl
    rw [hv [] (by simp only [List.length_nil]; omega)]
  rw [e, hv st hs]
theorem kSt_f {ev : Tk → Bool} : ∀ (cs : List Cz) (acc : Bool), (∀ c ∈ cs, c.1 = 0 → okc 11 c.2.2) → runT ev [acc] (kSt false cs) = some [acc || bvS ev cs]
  | [], acc, h => by
    show some [acc] = some [acc || false]
    rw [Bool.or_false]
  | c :: cs, acc, h => by
    have ih := fun a => kSt_f (ev := ev) cs a (fun d hd => h d (List.mem_cons_of_mem _ hd))
    unfold kSt
    have e : bvS ev (c :: cs) = ((c.1 == 0 && vl ev c.2.2) || bvS ev cs) := rfl
    rw [e]
    by_cases q : c.1 = 0
    · rw [if_pos q, if_neg (by decide), runT_app, runT_app, vl_run (h c List.mem_cons_self q) (by omega) ev [acc] (by simp only [List.length_cons, List.length_nil]; omega), Option.bind_some]
      show (some [acc || vl ev c.2.2]).bind _ = _
      rw [Option.bind_some, ih, q]
      show some [(acc || vl ev c.2.2) || bvS ev cs] = some [acc || (vl ev c.2.2 || bvS ev cs)]
      rw [Bool.or_assoc]
    · rw [if_neg q, ih, beq_eq_false_iff_ne.mpr q, Bool.false_and, Bool.false_or]
theorem kSt_t {ev : Tk → Bool} : ∀ (cs : List Cz), (∀ c ∈ cs, c.1 = 0 → okc 11 c.2.2) → (hasK 0 cs = true → runT ev [] (kSt true cs) = some [bvS ev cs]) ∧ (hasK 0 cs = false → kSt true cs = [] ∧ bvS ev cs = false)
  | [], h => ⟨(fun q => by cases q), fun _ => ⟨rfl, rfl⟩⟩
  | c :: cs, h => by
    obtain ⟨i1, i2⟩ := kSt_t (ev := ev) cs (fun d hd => h d (List.mem_cons_of_mem _ hd))
    have e : bvS ev (c :: cs) = ((c.1 == 0 && vl ev c.2.2) || bvS ev cs) := rfl
    have e2 : hasK 0 (c :: cs) = ((c.1 == 0) || hasK 0 cs) := rfl
    unfold kSt
    rw [e, e2]
    by_cases q : c.1 = 0
    · rw [q]
      refine ⟨fun _ => ?_, fun z => by cases z⟩
      rw [if_pos rfl, if_pos rfl, List.append_nil, runT_app, vl_run (h c List.mem_cons_self q) (by omega) ev [] (by simp only [List.length_nil]; omega), Option.bind_some, kSt_f cs _ (fun d hd => h d (List.mem_cons_of_mem _ hd))]
      rfl
    · rw [if_neg q, beq_eq_false_iff_ne.mpr q, Bool.false_and, Bool.false_or, Bool.false_or]
      exact ⟨i1, i2⟩
def brd (z : Dt) (paid : Int32) (cs : List Cz) : Bool := bvS (evT z paid) cs
theorem k_bars {S : AH} {lo : Nat} {cs : List Cz} {z : Dt} {paid : Int32} (hL : LV S lo cs) (hk : okL cs) (hz : okD z) : cO S lo 3 (X3_bars S lo (dpk z) paid) = some (b01 (brd z paid cs), S) := by
  obtain ⟨st, -, -, h1, h2⟩ := hL
  have hok : ∀ c ∈ cs, c.1 = 0 → okc 11 c.2.2 := fun c hc => (hk.2.2.1 c hc).2.2
  obtain ⟨k1, k2⟩ := kSt_t (ev := evT z paid) cs hok
  have htk : ∀ t ∈ kSt true cs, tkOk t := by
    have gen : ∀ (l : List Cz) (fi : Bool), (∀ c ∈ l, c.1 = 0 → okc 11 c.2.2) → ∀ t ∈ kSt fi l, tkOk t := by
      intro l
      induction l with
      | nil => exact fun fi h t ht => by cases ht
      | cons c l ih =>
        intro fi h t ht
        unfold kSt at ht
        by_cases q : c.1 = 0
        · rw [if_pos q] at ht
          rcases List.mem_append.mp ht with a | a
          · rcases List.mem_append.mp a with a | a
            · exact (h c List.mem_cons_self q).1 t a
            · cases fi with
              | true => cases a
              | false =>
                rw [List.mem_singleton.mp a]
                exact ⟨by decide, by decide, by decide⟩
          · exact ih false (fun d hd => h d (List.mem_cons_of_mem _ hd)) t a
        · rw [if_neg q] at ht
          exact ih fi (fun d hd => h d (List.mem_cons_of_mem _ hd)) t ht
    exact gen cs true hok
  rw [e_cO h1]
  unfold X3_bars X3_bars_0
  cases q : hasK 0 cs with
  | true =>
    have e := k_bars5 (paid := paid) h2 hk.2.2.2 htk hz (kSt true cs) 0 FU 0 0 [] [bvS (evT z paid) cs] rfl (by have := hk.2.2.2; unfold FU; omega) rfl ⟨Nat.zero_le _, fun i v hv => by cases hv⟩ (k1 q) (by simp)
    rw [e]
    unfold brd b01
    show zg (some (if bvS (evT z paid) cs = true then 1 else 0, S)) = _
    cases bvS (evT z paid) cs with
    | true => exact zg_z _ _ (.inr rfl)
    | false => exact zg_z _ _ (.inl rfl)
  | false =>
    obtain ⟨e1, e2⟩ := k2 q
    unfold brd
    rw [e2]
    obtain ⟨fs, f, a1, a2, a3, a4⟩ := h2
    rw [e1] at a3
    show zg (X3_bars_5 (4999 + 1) S lo (dpk z) paid 0 0) = _
    rw [X3_bars_5, e_gQ a1 a2, bsm, e_aN a3 (by omega), bsm, if_pos (by rw [zi_le, zo (by simp only [List.length_nil]; omega)]; decide), if_neg (show ¬ ((0 : Int32) &&& 1) = 1 by decide)]
    exact zg_z _ _ (.inl rfl)
-- the row of duties, summed
def pdF (who : Int32) : Int32 → List Dt → Int32
  | acc, [] => acc
  | acc, z :: ds => pdF who (if z.1 = who then acc else if z.2.1 = 1 then (if z.2.2.2.1 < 10 then acc else acc + (z.2.2.2.1 - 10)) else acc) ds
theorem map_drop {ds us : List Dt} {z : Dt} {k : Nat} (h : ds.drop k = z :: us) : (ds.map dpk).getD k 0 = dpk z ∧ ds.drop (k + 1) = us ∧ ds.length = k + 1 + us.length ∧ ds[k]? = some z := by
  obtain ⟨h1, h2, h3⟩ := drop_c h
  refine ⟨?_, h2, h3, h1⟩
  rw [List.getD_eq_getElem?_getD, List.getElem?_map, h1]
  rfl
theorem k_paid4 {S : AH} {a r : Nat} {ds : List Dt} (hV : dV S a r (ds.map dpk)) (hok : ∀ z ∈ ds, okD z) (who : Int32) : ∀ (us : List Dt) (k fn : Nat) (l2 l3 : Int32), ds.drop k = us → us.length < fn → l3.toInt = k → X2_paidTo_4 fn S a who l2 l3 = some (pdF who l2 us, S)
  | [], k, fn, l2, l3, hd, hf, h3 => by
    obtain ⟨fn, rfl⟩ : ∃ q, fn = q + 1 := ⟨fn - 1, by omega⟩
    have hk := List.drop_eq_nil_iff.mp hd
    have hl := dV_len hV
    rw [List.length_map] at hl
    rw [X2_paidTo_4, dV_sz hV, bsm, List.length_map, if_pos (by rw [zi_le, zo (by omega)]; omega)]
    rfl
  | z :: us, k, fn, l2, l3, hd, hf, h3 => by
    simp only [List.length_cons] at hf
    obtain ⟨fn, rfl⟩ : ∃ q, fn = q + 1 := ⟨fn - 1, by omega⟩
    have hl := dV_len hV
    rw [List.length_map] at hl
    obtain ⟨d1, d2, d3, d4⟩ := map_drop hd
    obtain ⟨g1, g2, g3, g4, g5, g6⟩ := dg_all (hok z (List.mem_of_getElem? d4))
    have hi : (l3 + 1).toInt = ((k + 1 : Nat) : Int) := by
      rw [zi_inc h3 (by omega) (by omega)]
      omega
    have ih := fun x => k_paid4 hV hok who us (k + 1) fn x (l3 + 1) d2 (by omega) hi
    rw [X2_paidTo_4, dV_sz hV, bsm, List.length_map, if_neg (by rw [zi_le, zo (by omega)]; omega), dV_at hV h3, bsm, d1]
    unfold X2_digit X2_digit_0
    rw [bsm, g1]
    unfold pdF X2_paidTo_45 X2_paidTo_46 X2_paidTo_78
    by_cases q1 : z.1 = who
    · rw [if_pos q1, if_pos q1, if_pos rfl]
      exact ih _
    · rw [if_neg q1, if_neg q1, bsm, g2]
      by_cases q2 : z.2.1 = 1
      · rw [if_pos q2, if_pos q2, if_neg (by decide)]
        unfold X2_digit X2_digit_0
        rw [bsm, g4]
        by_cases q3 : z.2.2.2.1 < 10
        · rw [if_pos q3, if_pos q3]
          exact ih _
        · rw [if_neg q3, if_neg q3, bsm]
          exact ih _
      · rw [if_neg q2, if_neg q2, if_pos rfl]
        exact ih _
theorem k_paid {S : AH} {a r : Nat} {ds : List Dt} (hV : dV S a r (ds.map dpk)) (hok : ∀ z ∈ ds, okD z) (who : Int32) : cO S a 2 (X2_paidTo S a who) = some (pdF who 0 ds, S) := by
  have hl := dV_len hV
  rw [List.length_map] at hl
  rw [dV_cO hV]
  exact k_paid4 hV hok who ds 0 FU 0 0 rfl (by unfold FU; omega) rfl
def gvF (who : Int32) : List Dt → Bool
  | [] => false
  | z :: ds => if z.1 = who ∧ z.2.1 = 1 ∧ z.2.2.1 = 0 then true else gvF who ds
theorem k_given2 {S : AH} {a r : Nat} {ds : List Dt} (hV : dV S a r (ds.map dpk)) (hok : ∀ z ∈ ds, okD z) (who : Int32) : ∀ (us : List Dt) (k fn : Nat) (l3 : Int32), ds.drop k = us → us.length < fn → l3.toInt = k → X2_isGivenBy_2 fn S a who l3 = some (b01 (gvF who us), S)
  | [], k, fn, l3, hd, hf, h3 => by
    obtain ⟨fn, rfl⟩ : ∃ q, fn = q + 1 := ⟨fn - 1, by omega⟩
    have hk := List.drop_eq_nil_iff.mp hd
    have hl := dV_len hV
    rw [List.length_map] at hl
    rw [X2_isGivenBy_2, dV_sz hV, bsm, List.length_map, if_pos (by rw [zi_le, zo (by omega)]; omega)]
    rfl
  | z :: us, k, fn, l3, hd, hf, h3 => by
    simp only [List.length_cons] at hf
    obtain ⟨fn, rfl⟩ : ∃ q, fn = q + 1 := ⟨fn - 1, by omega⟩
    have hl := dV_len hV
    rw [List.length_map] at hl
    obtain ⟨d1, d2, d3, d4⟩ := map_drop hd
    obtain ⟨g1, g2, g3, g4, g5, g6⟩ := dg_all (hok z (List.mem_of_getElem? d4))
    have hi : (l3 + 1).toInt = ((k + 1 : Nat) : Int) := by
      rw [zi_inc h3 (by omega) (by omega)]
      omega
    have ih := k_given2 hV hok who us (k + 1) fn (l3 + 1) d2 (by omega) hi
    rw [X2_isGivenBy_2, dV_sz hV, bsm, List.length_map, if_neg (by rw [zi_le, zo (by omega)]; omega), dV_at hV h3, bsm, d1]
    unfold X2_digit X2_digit_0
    rw [bsm, g1]
    unfold gvF X2_isGivenBy_47
    by_cases q1 : z.1 = who
    · rw [if_pos q1, bsm, g2]
      by_cases q2 : z.2.1 = 1
      · rw [if_pos q2, bsm, g3]
        by_cases q3 : z.2.2.1 = 0
        · rw [if_pos q3, if_pos ⟨q1, q2, q3⟩]
          rfl
        · rw [if_neg q3, if_neg (fun c => q3 c.2.2)]
          exact ih
      · rw [if_neg q2, if_neg (fun c => q2 c.2.1)]
        exact ih
    · rw [if_neg q1, if_neg (fun c => q1 c.1)]
      exact ih
theorem zg_b {α : Type} (b : Bool) (S : α) : zg (some (b01 b, S)) = some (b01 b, S) := by
  cases b with
  | true => exact zg_z _ _ (.inr rfl)
  | false => exact zg_z _ _ (.inl rfl)
theorem k_given {S : AH} {a r : Nat} {ds : List Dt} (hV : dV S a r (ds.map dpk)) (hok : ∀ z ∈ ds, okD z) (who : Int32) : cO S a 2 (X2_isGivenBy S a who) = some (b01 (gvF who ds), S) := by
  have hl := dV_len hV
  rw [List.length_map] at hl
  rw [dV_cO hV]
  unfold X2_isGivenBy X2_isGivenBy_0
  rw [k_given2 hV hok who ds 0 FU 0 rfl (by unfold FU; omega) rfl, zg_b]
def lnF : Int32 → List Dt → Int32
  | acc, [] => acc
  | acc, z :: ds => lnF (acc + (if z.2.2.1 = 1 then z.2.2.2.2.2 else 0)) ds
theorem k_longs4 {S : AH} {a r : Nat} {ds : List Dt} (hV : dV S a r (ds.map dpk)) (hok : ∀ z ∈ ds, okD z) : ∀ (us : List Dt) (k fn : Nat) (l2 l3 : Int32), ds.drop k = us → us.length < fn → l3.toInt = k → X2_longsOfNots_4 fn S a l2 l3 = some (lnF l2 us, S)
  | [], k, fn, l2, l3, hd, hf, h3 => by
    obtain ⟨fn, rfl⟩ : ∃ q, fn = q + 1 := ⟨fn - 1, by omega⟩
    have hk := List.drop_eq_nil_iff.mp hd
    have hl := dV_len hV
    rw [List.length_map] at hl
    rw [X2_longsOfNots_4, dV_sz hV, bsm, List.length_map, if_pos (by rw [zi_le, zo (by omega)]; omega)]
    rfl
  | z :: us, k, fn, l2, l3, hd, hf, h3 => by
    simp only [List.length_cons] at hf
    obtain ⟨fn, rfl⟩ : ∃ q, fn = q + 1 := ⟨fn - 1, by omega⟩
    have hl := dV_len hV
    rw [List.length_map] at hl
    obtain ⟨d1, d2, d3, d4⟩ := map_drop hd
    obtain ⟨g1, g2, g3, g4, g5, g6⟩ := dg_all (hok z (List.mem_of_getElem? d4))
    have hi : (l3 + 1).toInt = ((k + 1 : Nat) : Int) := by
      rw [zi_inc h3 (by omega) (by omega)]
      omega
    have ih := fun x => k_longs4 hV hok us (k + 1) fn x (l3 + 1) d2 (by omega) hi
    rw [X2_longsOfNots_4, dV_sz hV, bsm, List.length_map, if_neg (by rw [zi_le, zo (by omega)]; omega), dV_at hV h3, bsm, d1]
    unfold X2_digit X2_digit_0
    rw [bsm, g3]
    unfold lnF X2_longsOfNots_40
    by_cases q1 : z.2.2.1 = 1
    · rw [if_pos q1, if_pos q1, dV_at hV h3, bsm, d1, bsm, g6]
      exact ih _
    · rw [if_neg q1, if_neg q1]
      exact ih _
theorem k_longs {S : AH} {a r : Nat} {ds : List Dt} (hV : dV S a r (ds.map dpk)) (hok : ∀ z ∈ ds, okD z) : cO S a 2 (X2_longsOfNots S a) = some (lnF 0 ds, S) := by
  have hl := dV_len hV
  rw [List.length_map] at hl
  rw [dV_cO hV]
  exact k_longs4 hV hok ds 0 FU 0 0 rfl (by unfold FU; omega) rfl
