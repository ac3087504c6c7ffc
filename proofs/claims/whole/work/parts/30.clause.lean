/-! ===== one clause, and all of them: the descent and the automaton answer alike ===== -/
abbrev Dt : Type := Int32 × Int32 × Int32 × Int32 × Int32 × Int32
theorem rnA_2 {zl : List Wd} (h : zl ≠ []) (h1 : hdA zl ≠ 110) (h2 : hdA zl ≠ 112) : rnA 2 zl = rnA 3 zl := by
  cases zl with
  | nil => exact absurd rfl h
  | cons w zl =>
    have h1 : w.1 ≠ 110 := h1
    have h2 : w.1 ≠ 112 := h2
    have e : dst 2 w.1 = dst 3 w.1 := by
      unfold dst
      simp (config := {decide := true}) only [if_neg h1, if_neg h2, if_true, if_false, ite_self]
    rw [rnA_cons, rnA_cons, e]
/-- behind the things: FAR, then LONG -/
def pFig (x : Int32) (zl : List Wd) : Int32 × List Wd := match zl with
  | [] => (10, [])
  | w :: rest => if w.1 = x then (w.2, rest) else (10, w :: rest)
def dtOf (a b c f g : Int32) (t : Int32) : Dt := (a, b, c, t, f, g)
/-- behind who and verb: who, must -/
def pBody (a b : Int32) (zl : List Wd) : Option (List Dt × List Wd) := match zl with
  | [] => none
  | w :: rest => if w.1 = 112 then some ([(a, b, 0, 10 + w.2, 0, 0)], rest) else
    (pTh false (if w.1 = 110 then rest else w :: rest)).map fun r => (r.1.map (dtOf a b (if w.1 = 110 then 1 else 0) (pFig 105 r.2.2).1 (pFig 102 (pFig 105 r.2.2).2).1), (pFig 102 (pFig 105 r.2.2).2).2)
def pCl (zl : List Wd) : Option (List Dt × List Wd) := match zl with
  | w :: v :: rest => if (w.1 = 97 ∨ w.1 = 98) ∧ (v.1 = 109 ∨ v.1 = 121) then pBody (w.1 - 97) (if v.1 = 109 then 1 else 0) rest else none
  | _ => none
/-- a state behind a clause: at the end of the row it reads; an END goes on; all else is dead -/
def fin (s : Int32) (rest : List Wd) : Prop := 6 ≤ s.toInt ∧ ∀ w t, rest = w :: t → (w.1 = 59 → dst s w.1 = 0) ∧ (w.1 ≠ 59 → dst s w.1 = -1)
theorem fin_9 (rest : List Wd) : fin 9 rest := ⟨by decide, fun w t _ => ⟨fun h => by rw [h]; rfl, fun h => by
  unfold dst
  simp (config := {decide := true}) only [if_neg h, if_true, if_false, ite_self]⟩⟩
theorem fin_8 {rest : List Wd} (h2 : hdA rest ≠ 102) : fin 8 rest := ⟨by decide, fun w t e => ⟨fun h => by rw [h]; rfl, fun h => by
  subst e
  have h2 : w.1 ≠ 102 := h2
  unfold dst
  simp (config := {decide := true}) only [if_neg h, if_neg h2, if_true, if_false, ite_self]⟩⟩
theorem fin_7 {rest : List Wd} (h1 : hdA rest ≠ 105) (h2 : hdA rest ≠ 102) : fin 7 rest := ⟨by decide, fun w t e => ⟨fun h => by rw [h]; rfl, fun h => by
  subst e
  have h1 : w.1 ≠ 105 := h1
  have h2 : w.1 ≠ 102 := h2
  unfold dst
  simp (config := {decide := true}) only [if_neg h, if_neg h1, if_neg h2, if_true, if_false, ite_self]⟩⟩
theorem fin_6 {rest : List Wd} (h1 : hdA rest ≠ 105) (h2 : hdA rest ≠ 102) (h3 : hdA rest ≠ 44) (h4 : hdA rest ≠ 38) : fin 6 rest := ⟨by decide, fun w t e => ⟨fun h => by rw [h]; rfl, fun h => by
  subst e
  have h1 : w.1 ≠ 105 := h1
  have h2 : w.1 ≠ 102 := h2
  have h3 : w.1 ≠ 44 := h3
  have h4 : w.1 ≠ 38 := h4
  unfold dst
  simp (config := {decide := true}) only [if_neg h, if_neg h1, if_neg h2, if_neg h3, if_neg h4, if_true, if_false, ite_self]⟩⟩
theorem pFig_y (x : Int32) (w : Wd) (rest : List Wd) (h : w.1 = x) : pFig x (w :: rest) = (w.2, rest) := if_pos h
theorem pFig_n (x : Int32) (zl : List Wd) (h : hdA zl ≠ x) : pFig x zl = (10, zl) := by
  cases zl with
  | nil => rfl
  | cons w t => exact if_neg h
/-- behind the things, the state and the row come to the end of the clause -/
theorem tail_run {s : Int32} {zl : List Wd} (hs : s = 7 ∨ s = 6 ∧ hdA zl ≠ 44 ∧ hdA zl ≠ 38) : ∃ s2, rnA s zl = rnA s2 (pFig 102 (pFig 105 zl).2).2 ∧ fin s2 (pFig 102 (pFig 105 zl).2).2 ∧ (pFig 102 (pFig 105 zl).2).2.length ≤ zl.length := by
  have d8 : s = 7 ∨ s = 6 → dst s 105 = 8 ∧ dst s 102 = 9 := fun h => by rcases h with rfl | rfl <;> exact ⟨rfl, rfl⟩
  have hs' : s = 7 ∨ s = 6 := hs.imp id (fun h => h.1)
  by_cases h1 : hdA zl = 105
  · cases zl with
    | nil => cases h1
    | cons w t =>
      have h1 : w.1 = 105 := h1
      rw [pFig_y 105 w t h1, rnA_cons, h1, (d8 hs').1]
      dsimp only
      by_cases h2 : hdA t = 102
      · cases t with
        | nil => cases h2
        | cons v t =>
          have h2 : v.1 = 102 := h2
          rw [pFig_y 102 v t h2, rnA_cons, h2]
          exact ⟨9, rfl, fin_9 _, by simp only [List.length_cons]; omega⟩
      · rw [pFig_n 102 t h2]
        exact ⟨8, rfl, fin_8 h2, by simp only [List.length_cons]; omega⟩
  · rw [pFig_n 105 zl h1]
    dsimp only
    by_cases h2 : hdA zl = 102
    · cases zl with
      | nil => cases h2
      | cons v t =>
        have h2 : v.1 = 102 := h2
        rw [pFig_y 102 v t h2, rnA_cons, h2, (d8 hs').2]
        exact ⟨9, rfl, fin_9 _, by simp only [List.length_cons]; omega⟩
    · rw [pFig_n 102 zl h2]
      rcases hs with rfl | ⟨rfl, h3, h4⟩
      · exact ⟨7, rfl, fin_7 h1 h2, Nat.le_refl _⟩
      · exact ⟨6, rfl, fin_6 h1 h2 h3 h4, Nat.le_refl _⟩
theorem body_run (a b : Int32) (zl : List Wd) : (pBody a b zl = none → (rnA 2 zl).toInt < 6) ∧ ∀ ds rest, pBody a b zl = some (ds, rest) → ∃ s2, rnA 2 zl = rnA s2 rest ∧ fin s2 rest ∧ rest.length < zl.length := by
  cases zl with
  | nil => exact ⟨fun _ => by decide, fun ds rest e => by cases e⟩
  | cons w t =>
    unfold pBody
    dsimp only
    by_cases h : w.1 = 112
    · rw [if_pos h, rnA_cons, h]
      refine ⟨(fun e => by cases e), fun ds rest e => ?_⟩
      cases e
      exact ⟨9, rfl, fin_9 _, by simp⟩
    · rw [if_neg h]
      have key : ∀ zq : List Wd, rnA 2 (w :: t) = rnA 3 zq → zq.length ≤ (w :: t).length → ∀ c : Int32, (((pTh false zq).map fun r => (r.1.map (dtOf a b c (pFig 105 r.2.2).1 (pFig 102 (pFig 105 r.2.2).2).1), (pFig 102 (pFig 105 r.2.2).2).2)) = none → (rnA 2 (w :: t)).toInt < 6) ∧ ∀ ds rest, ((pTh false zq).map fun r => (r.1.map (dtOf a b c (pFig 105 r.2.2).1 (pFig 102 (pFig 105 r.2.2).2).1), (pFig 102 (pFig 105 r.2.2).2).2)) = some (ds, rest) → ∃ s2, rnA 2 (w :: t) = rnA s2 rest ∧ fin s2 rest ∧ rest.length < (w :: t).length := by
        intro zq e1 e2 c
        obtain ⟨p, q⟩ := th_run false zq 3 (.inr (.inl rfl)) (by decide)
        cases hq : pTh false zq with
        | none => exact ⟨fun _ => by rw [e1]; exact p hq, fun ds rest e => by cases e⟩
        | some r =>
          obtain ⟨r1, r2, r3⟩ := r
          obtain ⟨c1, c2, c3⟩ := q _ _ _ hq
          refine ⟨(fun e => by cases e), fun ds rest e => ?_⟩
          cases e
          obtain ⟨s2, b1, b2, b3⟩ := tail_run (s := if r2 = true then 7 else 6) (zl := r3) (by
            cases r2 with
            | true => exact .inl rfl
            | false => exact .inr ⟨rfl, (c2 rfl).1, (c2 rfl).2⟩)
          exact ⟨s2, by rw [e1, c1, b1], b2, by
            have b3 : (pFig 102 (pFig 105 r3).2).2.length ≤ r3.length := b3
            show (pFig 102 (pFig 105 r3).2).2.length < _
            omega⟩
      by_cases h1 : w.1 = 110
      · rw [if_pos h1, if_pos h1]
        exact key t (by rw [rnA_cons, h1]; rfl) (by simp) 1
      · rw [if_neg h1, if_neg h1]
        exact key (w :: t) (rnA_2 (by simp) h1 h) (Nat.le_refl _) 0
theorem cl_run (zl : List Wd) : (pCl zl = none → (rnA 0 zl).toInt < 6) ∧ ∀ ds rest, pCl zl = some (ds, rest) → ∃ s2, rnA 0 zl = rnA s2 rest ∧ fin s2 rest ∧ rest.length < zl.length := by
  have d0 : ∀ x : Int32, x ≠ 97 → x ≠ 98 → dst 0 x = -1 := fun x h1 h2 => by
    unfold dst
    simp (config := {decide := true}) only [if_neg h1, if_neg h2, if_true, if_false, ite_self]
  have d1 : ∀ x : Int32, x ≠ 109 → x ≠ 121 → dst 1 x = -1 := fun x h1 h2 => by
    unfold dst
    simp (config := {decide := true}) only [if_neg h1, if_neg h2, if_true, if_false, ite_self]
  have dm : (-1 : Int32).toInt < 6 := by decide
  match zl with
  | [] => exact ⟨fun _ => by decide, fun ds rest e => by cases e⟩
  | [w] =>
    refine ⟨fun _ => ?_, fun ds rest e => by cases e⟩
    rw [rnA_cons]
    by_cases h : w.1 = 97
    · rw [h]; decide
    · by_cases h' : w.1 = 98
      · rw [h']; decide
      · rw [d0 _ h h']; decide
  | w :: v :: t =>
    unfold pCl
    dsimp only
    by_cases h : w.1 = 97 ∨ w.1 = 98
    · have e1 : dst 0 w.1 = 1 := by rcases h with h | h <;> rw [h] <;> rfl
      by_cases h2 : v.1 = 109 ∨ v.1 = 121
      · have e2 : dst 1 v.1 = 2 := by rcases h2 with h | h <;> rw [h] <;> rfl
        rw [if_pos ⟨h, h2⟩, rnA_cons, rnA_cons, e1, e2]
        obtain ⟨p, q⟩ := body_run (w.1 - 97) (if v.1 = 109 then 1 else 0) t
        refine ⟨p, fun ds rest e => ?_⟩
        obtain ⟨s2, b1, b2, b3⟩ := q ds rest e
        exact ⟨s2, b1, b2, by simp only [List.length_cons]; omega⟩
      · rw [if_neg (fun c => h2 c.2), rnA_cons, rnA_cons, e1, d1 _ (fun c => h2 (.inl c)) (fun c => h2 (.inr c)), rnA_dead]
        exact ⟨fun _ => dm, fun ds rest e => by cases e⟩
    · rw [if_neg (fun c => h c.1), rnA_cons, d0 _ (fun c => h (.inl c)) (fun c => h (.inr c)), rnA_dead]
      exact ⟨fun _ => dm, fun ds rest e => by cases e⟩
