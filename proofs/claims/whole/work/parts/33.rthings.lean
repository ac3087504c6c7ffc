theorem r_stay {M : MS} {bs : Nat} {zl : List Wd} {ds : List Dt} (h : pst M bs zl ds) : pst (si M 29 (M.1 29 + 0)) bs zl ds := by
  obtain ⟨p, n, h1, h2⟩ := h
  refine ⟨p, n, ?_, h2⟩
  show (M.1 29 + 0).toInt = p
  rw [Int32.add_zero]
  exact h1
def fr0 (M M' : MS) : Prop := fM M M' [28, 29] [21, 22, 23, 24, 25, 26] []
theorem fr0_si {M : MS} {v : Int32} : fr0 M (si M 29 v) := fM_si (by decide)
theorem fr0_du {M M' : MS} (h : fM M M' [28] [21, 22, 23, 24, 25, 26] []) : fr0 M M' := ⟨fun k q => h.1 k (fun c => q (by simp only [List.mem_cons, List.not_mem_nil, or_false] at c ⊢; exact .inl c)), h.2⟩
def rTh (M : MS) (bs : Nat) (zl : List Wd) (ds : List Dt) (a b c : Int32) (la : Bool) (res : Option (Int32 × MS)) : Prop := (pTh la zl = none → ∃ M', res = some (0, M') ∧ fr0 M M') ∧ ∀ fs la2 rest, pTh la zl = some (fs, la2, rest) → ∃ M', res = some (1, M') ∧ pst M' bs rest (ds ++ fs.map (dtOf a b c 0 0)) ∧ fr0 M M'
theorem th_end {M : MS} {bs : Nat} {zl : List Wd} {ds : List Dt} (h : pst M bs zl ds) (a b c : Int32) (rc : Nat) : ∃ M', X8_readsThings_60 (X8_readsThings_6 (rc + 1)) M a b c = some (1, M') ∧ pst M' bs zl ds ∧ fr0 M M' := by
  unfold X8_readsThings_60 X8_readsThings_61 X8_readsThings_77 X8_readsThings_94
  rw [r_ahead h, Option.bind_some]
  dsimp only
  refine ⟨si M 29 (M.1 29 + 0), ?_, r_stay h, fr0_si⟩
  by_cases q : hdA zl = 38
  · rw [if_pos q, if_pos rfl]
    unfold X8_readsThings_6
    rw [if_pos rfl]
  · rw [if_neg q, if_pos rfl]
    unfold X8_readsThings_6
    rw [if_pos rfl]
theorem th_more {M : MS} {bs : Nat} {w : Wd} {zl : List Wd} {ds : List Dt} (h : pst M bs (w :: zl) ds) (a b c : Int32) (rc : Nat) : X8_readsThings_56 (X8_readsThings_6 rc) M a b c = X8_readsThings_6 rc (si M 29 (M.1 29 + 1)) a b c 1 (if w.1 = 38 then 1 else 0) := by
  unfold X8_readsThings_56 X8_readsThings_61 X8_readsThings_77 X8_readsThings_94
  rw [r_ahead h, Option.bind_some]
  show (if w.1 = 38 then _ else _) = _
  have z1 : ¬ (1 : Int32) = 0 := by decide
  by_cases q : w.1 = 38
  · rw [if_pos q, if_pos q, if_neg z1]
  · rw [if_neg q, if_neg q, if_neg z1]
theorem th_one {M : MS} {bs : Nat} {w : Wd} {zl : List Wd} {ds : List Dt} (h : pst M bs (w :: zl) ds) (hw : w.1 = 119) (a b c l5 : Int32) (rc : Nat) : ∃ M', X8_readsThings_6 (rc + 1) M a b c 1 l5 = (if l5 = 0 then (X8_ahead M').bind fun r4 => if r4.1 = 44 then X8_readsThings_56 (X8_readsThings_6 rc) r4.2 a b c else (X8_ahead r4.2).bind fun r5 => if r5.1 = 38 then X8_readsThings_56 (X8_readsThings_6 rc) r5.2 a b c else X8_readsThings_60 (X8_readsThings_6 rc) r5.2 a b c else X8_readsThings_60 (X8_readsThings_6 rc) M' a b c) ∧ pst M' bs zl (ds ++ [dtOf a b c 0 0 w.2]) ∧ fr0 M M' := by
  obtain ⟨M1, e1, e2, e3, e4⟩ := r_figure h
  obtain ⟨M2, f1, f2, f3⟩ := r_duty e3 e4 a b c w.2
  refine ⟨M2, ?_, f2, fM.trans (by rw [e2]; exact fr0_si) (fr0_du f3)⟩
  rw [X8_readsThings_6, if_neg (show ¬ (1 : Int32) = 0 by decide), r_ahead h, Option.bind_some, if_pos (show hdA (w :: zl) = 119 from hw), e1, Option.bind_some]
  dsimp only
  rw [f1, Option.bind_some]
theorem th_none {M : MS} {bs : Nat} {zl : List Wd} {ds : List Dt} (h : pst M bs zl ds) (hw : hdA zl ≠ 119) (a b c l5 : Int32) (rc : Nat) : X8_readsThings_6 (rc + 1) M a b c 1 l5 = some (0, M) := by
  rw [X8_readsThings_6, if_neg (show ¬ (1 : Int32) = 0 by decide), r_ahead h, Option.bind_some, if_neg hw]
theorem r_things : ∀ (la : Bool) (zl : List Wd) (M : MS) (bs : Nat) (ds : List Dt) (a b c : Int32) (fn : Nat), pst M bs zl ds → zl.length + 1 < fn → rTh M bs zl ds a b c la (X8_readsThings_6 fn M a b c 1 (if la = true then 1 else 0))
  | la, [], M, bs, ds, a, b, c, fn, h, hf => by
    obtain ⟨fn, rfl⟩ : ∃ q, fn = q + 1 := ⟨fn - 1, by omega⟩
    exact ⟨fun _ => ⟨M, th_none h (by decide) a b c _ fn, fM.rfl⟩, fun fs la2 rest e => by cases e⟩
  | la, [w], M, bs, ds, a, b, c, fn, h, hf => by
    obtain ⟨fn, rfl⟩ : ∃ q, fn = q + 1 + 1 := ⟨fn - 2, by simp only [List.length_cons] at hf; omega⟩
    unfold rTh pTh
    by_cases hw : w.1 = 119
    · rw [if_pos hw]
      refine ⟨(fun e => by cases e), fun fs la2 rest e => ?_⟩
      cases e
      obtain ⟨M1, e1, e2, e3⟩ := th_one h hw a b c (if la = true then 1 else 0) (fn + 1)
      obtain ⟨M2, f1, f2, f3⟩ := th_end e2 a b c fn
      refine ⟨M2, ?_, f2, fM.trans e3 f3⟩
      rw [e1]
      cases la with
      | true => rw [if_pos rfl, if_neg (show ¬ (1 : Int32) = 0 by decide)]; exact f1
      | false =>
        rw [if_neg (show ¬ (false = true) by decide), if_pos rfl, r_ahead e2, Option.bind_some]
        dsimp only
        rw [if_neg (show ¬ hdA [] = 44 by decide), r_ahead e2, Option.bind_some]
        dsimp only
        rw [if_neg (show ¬ hdA [] = 38 by decide)]
        exact f1
    · rw [if_neg hw]
      exact ⟨fun _ => ⟨M, th_none h hw a b c _ _, fM.rfl⟩, fun fs la2 rest e => by cases e⟩
  | la, w :: v :: zl, M, bs, ds, a, b, c, fn, h, hf => by
    simp only [List.length_cons] at hf
    obtain ⟨fn, rfl⟩ : ∃ q, fn = q + 1 + 1 := ⟨fn - 2, by omega⟩
    unfold rTh pTh
    by_cases hw : w.1 = 119
    · rw [if_pos hw]
      obtain ⟨M1, e1, e2, e3⟩ := th_one h hw a b c (if la = true then 1 else 0) (fn + 1)
      rw [e1]
      by_cases h1 : la = false ∧ (v.1 = 44 ∨ v.1 = 38)
      · obtain ⟨rfl, h1⟩ := h1
        have g1 : (if false = true then (1 : Int32) else 0) = 0 := rfl
        rw [g1, if_pos rfl, r_ahead e2, Option.bind_some]
        dsimp only
        have st : ∀ lb : Bool, (if v.1 = 38 then (1 : Int32) else 0) = (if lb = true then 1 else 0) → ((pTh lb zl).map (fun r => (w.2 :: r.1, r.2)) = none → ∃ M', X8_readsThings_56 (X8_readsThings_6 (fn + 1)) M1 a b c = some (0, M') ∧ fr0 M M') ∧ ∀ fs la2 rest, (pTh lb zl).map (fun r => (w.2 :: r.1, r.2)) = some (fs, la2, rest) → ∃ M', X8_readsThings_56 (X8_readsThings_6 (fn + 1)) M1 a b c = some (1, M') ∧ pst M' bs rest (ds ++ fs.map (dtOf a b c 0 0)) ∧ fr0 M M' := by
          intro lb hlb
          rw [th_more e2, hlb]
          obtain ⟨p, q⟩ := r_things lb zl (si M1 29 (M1.1 29 + 1)) bs _ a b c (fn + 1) (r_skip e2) (by omega)
          cases hq : pTh lb zl with
          | none =>
            obtain ⟨M2, b1, b2⟩ := p hq
            exact ⟨fun _ => ⟨M2, b1, fM.trans (fM.trans e3 fr0_si) b2⟩, fun fs la2 rest e => by cases e⟩
          | some r =>
            obtain ⟨r1, r2, r3⟩ := r
            refine ⟨(fun e => by cases e), fun fs la2 rest e => ?_⟩
            cases e
            obtain ⟨M2, b1, b2, b3⟩ := q _ _ _ hq
            refine ⟨M2, b1, ?_, fM.trans (fM.trans e3 fr0_si) b3⟩
            rw [List.append_assoc] at b2
            exact b2
        by_cases h2 : v.1 = 44
        · rw [if_pos (show hdA (v :: zl) = 44 from h2), if_pos ⟨rfl, h2⟩]
          exact st false (by rw [h2]; rfl)
        · have h3 : v.1 = 38 := h1.resolve_left h2
          rw [if_neg (show ¬ hdA (v :: zl) = 44 from h2), if_neg (fun c => h2 c.2), if_pos ⟨rfl, h3⟩, r_ahead e2, Option.bind_some]
          dsimp only
          rw [if_pos (show hdA (v :: zl) = 38 from h3)]
          exact st true (by rw [h3]; rfl)
      · rw [if_neg (fun c => h1 ⟨c.1, .inl c.2⟩), if_neg (fun c => h1 ⟨c.1, .inr c.2⟩)]
        refine ⟨(fun e => by cases e), fun fs la2 rest e => ?_⟩
        cases e
        obtain ⟨M2, f1, f2, f3⟩ := th_end e2 a b c fn
        refine ⟨M2, ?_, f2, fM.trans e3 f3⟩
        cases la with
        | true => rw [if_pos rfl, if_neg (show ¬ (1 : Int32) = 0 by decide)]; exact f1
        | false =>
          rw [if_neg (show ¬ (false = true) by decide), if_pos rfl, r_ahead e2, Option.bind_some]
          dsimp only
          rw [if_neg (show ¬ hdA (v :: zl) = 44 from fun c => h1 ⟨rfl, .inl c⟩), r_ahead e2, Option.bind_some]
          dsimp only
          rw [if_neg (show ¬ hdA (v :: zl) = 38 from fun c => h1 ⟨rfl, .inr c⟩)]
          exact f1
    · rw [if_neg hw]
      exact ⟨fun _ => ⟨M, th_none h hw a b c _ _, fM.rfl⟩, fun fs la2 rest e => by cases e⟩
