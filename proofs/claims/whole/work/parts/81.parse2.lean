def bnt (b : Bool) : Nat := if b = true then 1 else 0
def jst (ja jo : Bool) (a o : Bool) : List Bool := (if ja = true then [a] else []) ++ (if jo = true then [o] else [])
/-- code that goes on where an and, an or still wait -/
def okj (D : Nat) (ja jo : Bool) (ts : List Tk) : Prop := (∀ t ∈ ts, tkOk t) ∧ ∀ (ev : Tk → Bool) (a o : Bool), ∃ v, ∀ st : List Bool, st.length + D ≤ 31 → runT ev (jst ja jo a o ++ st) ts = some (v :: st)
theorem tk8 : tkOk (8, 0, 0) := ⟨by decide, by decide, by decide⟩
theorem tk9 : tkOk (9, 0, 0) := ⟨by decide, by decide, by decide⟩
theorem run_and (ev : Tk → Bool) (ja jo a o v : Bool) (st : List Bool) : runT ev (v :: (jst ja jo a o ++ st)) (if ja = true then [(8, 0, 0)] else []) = some (jst true jo (if ja = true then a && v else v) o ++ st) := by
  cases ja <;> rfl
theorem run_or (ev : Tk → Bool) (jo a o : Bool) (st : List Bool) : runT ev (jst true jo a o ++ st) (if jo = true then [(9, 0, 0)] else []) = some ((if jo = true then o || a else a) :: st) := by
  cases jo <;> rfl
theorem mem_if {b : Bool} {t u : Tk} (h : t ∈ (if b = true then [u] else [])) : t = u := by
  cases b with
  | true => exact List.mem_singleton.mp h
  | false => cases h
theorem pEi_ok {bs : List Int32} {pt : Nat → Rs} {D : Nat} (hD : D ≤ 20) (hpt : ∀ p, p ≤ bs.length → rsOk bs D p (pt p)) : ∀ (k p : Nat) (ja jo : Bool), p ≤ bs.length → p ≤ (pEi bs pt k p ja jo).2.1 ∧ (pEi bs pt k p ja jo).2.1 ≤ bs.length ∧ ((pEi bs pt k p ja jo).1 = true → p + (pEi bs pt k p ja jo).2.2.length ≤ (pEi bs pt k p ja jo).2.1 + bnt ja + bnt jo ∧ 1 ≤ (pEi bs pt k p ja jo).2.2.length ∧ okj (D + 2) ja jo (pEi bs pt k p ja jo).2.2)
  | 0, p, ja, jo, hp => ⟨Nat.le_refl _, hp, (fun c => by cases c)⟩
  | k + 1, p, ja, jo, hp => by
    obtain ⟨p1, p2, p3⟩ := hpt p hp
    unfold pEi
    generalize hr : pt p = r at p1 p2 p3 ⊢
    obtain ⟨ok, q, ts⟩ := r
    dsimp only at p1 p2 p3 ⊢
    cases ok with
    | false =>
      rw [if_pos rfl]
      exact ⟨p1, p2, (fun c => by cases c)⟩
    | true =>
      obtain ⟨p4, p5, p6⟩ := p3 rfl
      rw [if_neg (by decide)]
      have l1 : (if ja = true then [((8, 0, 0) : Tk)] else []).length = bnt ja := by cases ja <;> rfl
      have l2 : (if jo = true then [((9, 0, 0) : Tk)] else []).length = bnt jo := by cases jo <;> rfl
      have lj : ∀ a o, (jst ja jo a o).length ≤ 2 := fun a o => by cases ja <;> cases jo <;> simp [jst]
      have r1 : ∀ (ev : Tk → Bool) (a o : Bool), ∃ x, ∀ st : List Bool, st.length + (D + 2) ≤ 31 → runT ev (jst ja jo a o ++ st) (ts ++ (if ja = true then [(8, 0, 0)] else [])) = some (jst true jo x o ++ st) := fun ev a o => by
        obtain ⟨v, hv⟩ := p6.2 ev
        refine ⟨if ja = true then a && v else v, fun st hs => ?_⟩
        have := lj a o
        rw [runT_app, hv _ (by rw [List.length_append]; omega), Option.bind_some, run_and]
      have m1 : ∀ t ∈ ts ++ (if ja = true then [(8, 0, 0)] else []), tkOk t := fun t ht => by
        rcases List.mem_append.mp ht with c | c
        · exact p6.1 t c
        · rw [mem_if c]
          exact tk8
      by_cases q38 : byA bs q = 38
      · have hq := byA_lt q38 (by decide)
        rw [if_pos q38]
        obtain ⟨i1, i2, i3⟩ := pEi_ok hD hpt k (q + 1) true jo (by omega)
        generalize pEi bs pt k (q + 1) true jo = s at i1 i2 i3 ⊢
        obtain ⟨s1, s2, s3⟩ := s
        dsimp only at i1 i2 i3 ⊢
        refine ⟨by omega, i2, fun c => ?_⟩
        obtain ⟨i4, i5, i6⟩ := i3 c
        have b1 : bnt true = 1 := rfl
        refine ⟨?_, ?_, fun t ht => ?_, fun ev a o => ?_⟩
        · rw [List.length_append, List.length_append, l1]
          omega
        · rw [List.length_append]
          omega
        · rcases List.mem_append.mp ht with d | d
          · exact m1 t d
          · exact i6.1 t d
        · obtain ⟨x, hx⟩ := r1 ev a o
          obtain ⟨v, hv⟩ := i6.2 ev x o
          exact ⟨v, fun st hs => by rw [runT_app, hx st hs, Option.bind_some, hv st hs]⟩
      · rw [if_neg q38]
        have r2 : ∀ (ev : Tk → Bool) (a o : Bool), ∃ y, ∀ st : List Bool, st.length + (D + 2) ≤ 31 → runT ev (jst ja jo a o ++ st) ((ts ++ (if ja = true then [(8, 0, 0)] else [])) ++ (if jo = true then [(9, 0, 0)] else [])) = some (y :: st) := fun ev a o => by
          obtain ⟨x, hx⟩ := r1 ev a o
          exact ⟨if jo = true then o || x else x, fun st hs => by rw [runT_app, hx st hs, Option.bind_some, run_or]⟩
        have m2 : ∀ t ∈ (ts ++ (if ja = true then [(8, 0, 0)] else [])) ++ (if jo = true then [(9, 0, 0)] else []), tkOk t := fun t ht => by
          rcases List.mem_append.mp ht with c | c
          · exact m1 t c
          · rw [mem_if c]
            exact tk9
        by_cases q124 : byA bs q = 124
        · have hq := byA_lt q124 (by decide)
          rw [if_pos q124]
          obtain ⟨i1, i2, i3⟩ := pEi_ok hD hpt k (q + 1) false true (by omega)
          generalize pEi bs pt k (q + 1) false true = s at i1 i2 i3 ⊢
          obtain ⟨s1, s2, s3⟩ := s
          dsimp only at i1 i2 i3 ⊢
          refine ⟨by omega, i2, fun c => ?_⟩
          obtain ⟨i4, i5, i6⟩ := i3 c
          have b1 : bnt true = 1 := rfl
          have b0 : bnt false = 0 := rfl
          refine ⟨?_, ?_, fun t ht => ?_, fun ev a o => ?_⟩
          · rw [List.length_append, List.length_append, List.length_append, l1, l2]
            omega
          · rw [List.length_append]
            omega
          · rcases List.mem_append.mp ht with d | d
            · exact m2 t d
            · exact i6.1 t d
          · obtain ⟨y, hy⟩ := r2 ev a o
            obtain ⟨v, hv⟩ := i6.2 ev false y
            exact ⟨v, fun st hs => by
              rw [runT_app, hy st hs, Option.bind_some]
              exact hv st hs⟩
        · rw [if_neg q124]
          dsimp only
          refine ⟨p1, p2, fun _ => ⟨?_, ?_, m2, r2⟩⟩
          · rw [List.length_append, List.length_append, l1, l2]
            omega
          · rw [List.length_append, List.length_append]
            omega
theorem okj_ff {D : Nat} {ts : List Tk} (h : okj D false false ts) : okc D ts := ⟨h.1, fun ev => by
  obtain ⟨v, hv⟩ := h.2 ev false false
  exact ⟨v, hv⟩⟩
theorem pPt_ok (bs : List Int32) : ∀ (r p : Nat), r ≤ 4 → p ≤ bs.length → rsOk bs (1 + 2 * r) p (pPt bs r p)
  | 0, p, hr, hp => by
    unfold pPt
    by_cases q : byA bs p = 33 ∨ byA bs p = 40
    · rw [if_pos q]
      exact ⟨Nat.le_refl _, hp, (fun c => by cases c)⟩
    · rw [if_neg q]
      exact pTest_ok bs p hp
  | r + 1, p, hr, hp => by
    unfold pPt
    by_cases q : byA bs p = 33
    · have hq := byA_lt q (by decide)
      rw [if_pos q]
      obtain ⟨i1, i2, i3⟩ := pPt_ok bs r (p + 1) (by omega) (by omega)
      generalize pPt bs r (p + 1) = s at i1 i2 i3 ⊢
      obtain ⟨s1, s2, s3⟩ := s
      dsimp only at i1 i2 i3 ⊢
      cases s1 with
      | false =>
        rw [if_neg (by decide)]
        exact ⟨by show p ≤ s2; omega, i2, (fun c => by cases c)⟩
      | true =>
        obtain ⟨i4, i5, i6⟩ := i3 rfl
        rw [if_pos rfl]
        refine ⟨by show p ≤ s2; omega, i2, fun _ => ⟨?_, ?_, okc_mono (okc_not i6) (by omega)⟩⟩
        · show p + (s3 ++ [(7, 0, 0)]).length ≤ s2
          rw [List.length_append]
          simp only [List.length_cons, List.length_nil]
          omega
        · show 1 ≤ (s3 ++ [(7, 0, 0)]).length
          rw [List.length_append]
          omega
    · rw [if_neg q]
      by_cases q2 : byA bs p = 40
      · have hq := byA_lt q2 (by decide)
        rw [if_pos q2]
        obtain ⟨i1, i2, i3⟩ := pEi_ok (bs := bs) (pt := pPt bs r) (D := 1 + 2 * r) (by omega) (fun p hp => pPt_ok bs r p (by omega) hp) 100 (p + 1) false false (by omega)
        generalize pEi bs (pPt bs r) 100 (p + 1) false false = s at i1 i2 i3 ⊢
        obtain ⟨s1, s2, s3⟩ := s
        dsimp only at i1 i2 i3 ⊢
        cases s1 with
        | false =>
          rw [if_neg (by decide)]
          exact ⟨by show p ≤ s2; omega, i2, (fun c => by cases c)⟩
        | true =>
          obtain ⟨i4, i5, i6⟩ := i3 rfl
          have b0 : bnt false = 0 := rfl
          rw [if_pos rfl]
          by_cases q3 : byA bs s2 = 41
          · have hq3 := byA_lt q3 (by decide)
            rw [if_pos q3]
            refine ⟨by show p ≤ s2 + 1; omega, by show s2 + 1 ≤ bs.length; omega, fun _ => ⟨?_, i5, okc_mono (okj_ff i6) (by omega)⟩⟩
            show p + s3.length ≤ s2 + 1
            omega
          · rw [if_neg q3]
            exact ⟨by show p ≤ s2; omega, i2, (fun c => by cases c)⟩
      · rw [if_neg q2]
        have := pTest_ok bs p hp
        exact ⟨this.1, this.2.1, fun c => ⟨(this.2.2 c).1, (this.2.2 c).2.1, okc_mono (this.2.2 c).2.2 (by omega)⟩⟩
theorem pNm_ok (bs : List Int32) : ∀ (cs : List Int32) (p : Nat), (∀ c ∈ cs, c ≠ -1) → p ≤ bs.length → p ≤ (pNm bs cs p).2 ∧ (pNm bs cs p).2 ≤ bs.length ∧ ((pNm bs cs p).1 = true → (pNm bs cs p).2 = p + cs.length)
  | [], p, h, hp => ⟨Nat.le_refl _, hp, fun _ => rfl⟩
  | c :: cs, p, h, hp => by
    unfold pNm
    by_cases q : byA bs p = c
    · have hq := byA_lt q (h c List.mem_cons_self)
      rw [if_pos q]
      obtain ⟨i1, i2, i3⟩ := pNm_ok bs cs (p + 1) (fun d hd => h d (List.mem_cons_of_mem _ hd)) (by omega)
      exact ⟨by omega, i2, fun e => by rw [i3 e, List.length_cons]; omega⟩
    · rw [if_neg q]
      exact ⟨Nat.le_refl _, hp, (fun c => by cases c)⟩
