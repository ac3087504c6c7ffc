theorem r_fig {M : MS} {bs : Nat} {zl : List Wd} {ds : List Dt} (h : pst M bs zl ds) (x : Int32) : (hdA zl = x → zl ≠ [] → ∃ M', X8_figureNow M = some ((pFig x zl).1, M') ∧ pst M' bs (pFig x zl).2 ds ∧ fr0 M M') ∧ (hdA zl ≠ x → pFig x zl = (10, zl)) := by
  refine ⟨fun e hn => ?_, fun e => pFig_n x zl e⟩
  cases zl with
  | nil => exact absurd rfl hn
  | cons w t =>
    obtain ⟨M', e1, e2, e3, -⟩ := r_figure h
    rw [pFig_y x w t e]
    exact ⟨M', e1, e3, by rw [e2]; exact fr0_si⟩
theorem hd_ne {zl : List Wd} {x : Int32} (h : hdA zl = x) (hx : x ≠ -1) : zl ≠ [] := fun e => by subst e; exact hx h.symm
theorem r_181 {a b c f g : Int32} {fs : List Int32} {M : MS} {bs : Nat} {zl : List Wd} {ds : List Dt} {y : Int32} (h : pst M bs zl (ds ++ fs.map (dtOf a b c 0 0))) (hy : y.toInt = ds.length) : ∃ M', X8_readsClause_181 M g y f = some (1, M') ∧ pst M' bs zl (ds ++ fs.map (dtOf a b c f g)) ∧ fr0 M M' := by
  unfold X8_readsClause_181
  obtain ⟨p, n, -, -, -, -, -, -, -, h8, -, -⟩ := id h
  have hl : (ds ++ fs.map (dtOf a b c 0 0)).length = ds.length + fs.length := by simp
  exact r_187 a b c f g fs M bs zl ds y FU h hy (by unfold FU; omega)
theorem r_161 {a b c f : Int32} {fs : List Int32} {M : MS} {bs : Nat} {zl : List Wd} {ds : List Dt} {y : Int32} (h : pst M bs zl (ds ++ fs.map (dtOf a b c 0 0))) (hy : y.toInt = ds.length) : ∃ M', X8_readsClause_161 M f y = some (1, M') ∧ pst M' bs (pFig 102 zl).2 (ds ++ fs.map (dtOf a b c f (pFig 102 zl).1)) ∧ fr0 M M' := by
  unfold X8_readsClause_161
  rw [r_ahead h, Option.bind_some]
  dsimp only
  by_cases q : hdA zl = 102
  · obtain ⟨M1, e1, e2, e3⟩ := (r_fig h 102).1 q (hd_ne q (by decide))
    rw [if_pos q, e1, Option.bind_some]
    obtain ⟨M2, b1, b2, b3⟩ := r_181 (f := f) (g := (pFig 102 zl).1) e2 hy
    exact ⟨M2, b1, b2, fM.trans e3 b3⟩
  · rw [if_neg q, (r_fig h 102).2 q]
    exact r_181 h hy
theorem r_114 {a b c : Int32} {M : MS} {bs : Nat} {zl zq : List Wd} {ds : List Dt} {s0 : Int32} (hp : pst (si M 29 (M.1 29 + s0)) bs zq ds) (hl : zq.length ≤ 12) (hc : c = s0) : (pTh false zq = none → ∃ M', X8_readsClause_114 M s0 a b = some (0, M') ∧ fr0 M M') ∧ ∀ fs la2 rest, pTh false zq = some (fs, la2, rest) → ∃ M', X8_readsClause_114 M s0 a b = some (1, M') ∧ pst M' bs (pFig 102 (pFig 105 rest).2).2 (ds ++ fs.map (dtOf a b c (pFig 105 rest).1 (pFig 102 (pFig 105 rest).2).1)) ∧ fr0 M M' := by
  subst hc
  obtain ⟨p, q⟩ := r_things false zq _ bs ds a b c FU hp (by unfold FU; omega)
  have g0 : (if false = true then (1 : Int32) else 0) = 0 := rfl
  rw [g0] at p q
  unfold X8_readsClause_114 X8_readsThings X8_readsThings_0 zg
  obtain ⟨-, -, -, -, -, -, -, -, hy, -⟩ := id hp
  refine ⟨fun e => ?_, fun fs la2 rest e => ?_⟩
  · obtain ⟨M1, e1, e2⟩ := p e
    rw [e1, Option.bind_some]
    dsimp only
    rw [if_pos (.inl rfl), Option.bind_some]
    dsimp only
    rw [if_pos rfl]
    exact ⟨M1, rfl, fM.trans fr0_si e2⟩
  · obtain ⟨M1, e1, e2, e3⟩ := q _ _ _ e
    rw [e1, Option.bind_some]
    dsimp only
    rw [if_pos (.inr rfl), Option.bind_some]
    dsimp only
    rw [if_neg (show ¬ (1 : Int32) = 0 by decide), r_ahead e2, Option.bind_some]
    dsimp only
    by_cases q5 : hdA rest = 105
    · obtain ⟨M2, f1, f2, f3⟩ := (r_fig e2 105).1 q5 (hd_ne q5 (by decide))
      rw [if_pos q5, f1, Option.bind_some]
      obtain ⟨M3, b1, b2, b3⟩ := r_161 (f := (pFig 105 rest).1) f2 hy
      exact ⟨M3, b1, b2, fM.trans fr0_si (fM.trans e3 (fM.trans f3 b3))⟩
    · rw [if_neg q5, (r_fig e2 105).2 q5]
      obtain ⟨M3, b1, b2, b3⟩ := r_161 (f := 10) e2 hy
      exact ⟨M3, b1, b2, fM.trans fr0_si (fM.trans e3 b3)⟩
