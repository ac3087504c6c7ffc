theorem pst_len {M : MS} {bs : Nat} {zl : List Wd} {ds : List Dt} (h : pst M bs zl ds) : ds.length + zl.length ≤ 12 := by
  obtain ⟨p, n, -, -, -, -, -, -, -, h8, -, -⟩ := h
  exact h8
/-- behind the verb: the place is one before zl -/
theorem r_64 {a b : Int32} {M : MS} {bs : Nat} {zl : List Wd} {ds : List Dt} (h : pst (si M 29 (M.1 29 + 1)) bs zl ds) : (pBody a b zl = none → ∃ M', X8_readsClause_64 M b a = some (0, M') ∧ fr0 M M') ∧ ∀ ds1 rest, pBody a b zl = some (ds1, rest) → ∃ M', X8_readsClause_64 M b a = some (1, M') ∧ pst M' bs rest (ds ++ ds1) ∧ fr0 M M' := by
  unfold X8_readsClause_64
  rw [r_ahead h, Option.bind_some]
  dsimp only
  have hlen := pst_len h
  have key : ∀ (s0 : Int32) (zq : List Wd), pst (si (si M 29 (M.1 29 + 1)) 29 ((si M 29 (M.1 29 + 1)).1 29 + s0)) bs zq ds → (((pTh false zq).map fun r => (r.1.map (dtOf a b s0 (pFig 105 r.2.2).1 (pFig 102 (pFig 105 r.2.2).2).1), (pFig 102 (pFig 105 r.2.2).2).2)) = none → ∃ M', X8_readsClause_114 (si M 29 (M.1 29 + 1)) s0 a b = some (0, M') ∧ fr0 M M') ∧ ∀ ds1 rest, ((pTh false zq).map fun r => (r.1.map (dtOf a b s0 (pFig 105 r.2.2).1 (pFig 102 (pFig 105 r.2.2).2).1), (pFig 102 (pFig 105 r.2.2).2).2)) = some (ds1, rest) → ∃ M', X8_readsClause_114 (si M 29 (M.1 29 + 1)) s0 a b = some (1, M') ∧ pst M' bs rest (ds ++ ds1) ∧ fr0 M M' := by
    intro s0 zq hp
    have hl2 := pst_len hp
    obtain ⟨p, q⟩ := r_114 (a := a) (b := b) (c := s0) (zl := zl) hp (by omega) rfl
    cases hq : pTh false zq with
    | none =>
      obtain ⟨M', e1, e2⟩ := p hq
      exact ⟨fun _ => ⟨M', e1, fM.trans fr0_si e2⟩, fun ds1 rest e => by cases e⟩
    | some r =>
      obtain ⟨r1, r2, r3⟩ := r
      refine ⟨(fun e => by cases e), fun ds1 rest e => ?_⟩
      cases e
      obtain ⟨M', e1, e2, e3⟩ := q _ _ _ hq
      exact ⟨M', e1, e2, fM.trans fr0_si e3⟩
  cases zl with
  | nil =>
    rw [if_neg (show ¬ hdA [] = 112 by decide), r_ahead h, Option.bind_some]
    dsimp only
    rw [if_neg (show ¬ hdA [] = 110 by decide)]
    obtain ⟨p, q⟩ := key 0 [] (r_stay h)
    exact ⟨fun _ => p rfl, fun ds1 rest e => by cases e⟩
  | cons w t =>
    unfold pBody
    dsimp only
    by_cases q : w.1 = 112
    · obtain ⟨M1, e1, e2, e3, e4⟩ := r_figure h
      rw [if_pos (show hdA (w :: t) = 112 from q), if_pos q, e1, Option.bind_some]
      dsimp only
      obtain ⟨M2, f1, f2, f3⟩ := r_duty e3 e4 a b 0 (10 + w.2)
      rw [f1, Option.bind_some]
      refine ⟨(fun e => by cases e), fun ds1 rest e => ?_⟩
      cases e
      have w0 : fr0 M (si M 29 (M.1 29 + 1)) := fr0_si
      have w1 : fr0 (si M 29 (M.1 29 + 1)) M1 := by
        rw [e2]
        exact fr0_si
      exact ⟨M2, rfl, f2, fM.trans w0 (fM.trans w1 (fr0_du f3))⟩
    · rw [if_neg (show ¬ hdA (w :: t) = 112 from q), if_neg q, r_ahead h, Option.bind_some]
      dsimp only
      by_cases q1 : w.1 = 110
      · rw [if_pos (show hdA (w :: t) = 110 from q1), if_pos q1, if_pos q1]
        exact key 1 t (r_skip h)
      · rw [if_neg (show ¬ hdA (w :: t) = 110 from q1), if_neg q1, if_neg q1]
        exact key 0 (w :: t) (r_stay h)
theorem in01 {x : Int32} : (0 ≤ x - 97 ∧ x - 97 ≤ 1) ↔ (x = 97 ∨ x = 98) := by
  constructor
  · intro h
    have h0 : 0 ≤ (x - 97).toInt := zi_le.mp h.1
    have h1 : (x - 97).toInt ≤ 1 := zi_le.mp h.2
    have e : x = x - 97 + 97 := (Int32.sub_add_cancel x 97).symm
    by_cases q : (x - 97).toInt = 0
    · exact .inl (by rw [e, show x - 97 = 0 from zi_eq.mpr q]; rfl)
    · exact .inr (by rw [e, show x - 97 = 1 from zi_eq.mpr (show (x - 97).toInt = 1 by omega)]; rfl)
  · rintro (rfl | rfl) <;> exact ⟨by decide, by decide⟩
theorem zg_z {α : Type} (x : Int32) (S : α) (h : x = 0 ∨ x = 1) : zg (some (x, S)) = some (x, S) := by
  unfold zg
  rw [Option.bind_some]
  exact if_pos h
theorem r_clause {M : MS} {bs : Nat} {zl : List Wd} {ds : List Dt} (h : pst M bs zl ds) : (pCl zl = none → ∃ M', X8_readsClause M = some (0, M') ∧ fr0 M M') ∧ ∀ ds1 rest, pCl zl = some (ds1, rest) → ∃ M', X8_readsClause M = some (1, M') ∧ pst M' bs rest (ds ++ ds1) ∧ fr0 M M' := by
  have z1 : ¬ (1 : Int32) = 0 := by decide
  unfold X8_readsClause X8_readsClause_0
  rw [r_ahead h, Option.bind_some, r_in, Option.bind_some]
  dsimp only
  by_cases q : hdA zl = 97 ∨ hdA zl = 98
  · rw [if_pos (in01.mpr q), if_neg z1]
    cases zl with
    | nil => rcases q with q | q <;> cases q
    | cons w t =>
      have q : w.1 = 97 ∨ w.1 = 98 := q
      have h1 := r_skip h
      have two : ∀ (b : Int32) (t2 : List Wd), pst (si (si M 29 (M.1 29 + 1)) 29 ((si M 29 (M.1 29 + 1)).1 29 + 1)) bs t2 ds → (pBody (w.1 - 97) b t2 = none → ∃ M', zg (X8_readsClause_64 (si M 29 (M.1 29 + 1)) b (w.1 - 97)) = some (0, M') ∧ fr0 M M') ∧ ∀ ds1 rest, pBody (w.1 - 97) b t2 = some (ds1, rest) → ∃ M', zg (X8_readsClause_64 (si M 29 (M.1 29 + 1)) b (w.1 - 97)) = some (1, M') ∧ pst M' bs rest (ds ++ ds1) ∧ fr0 M M' := by
        intro b t2 hp
        obtain ⟨p1, p2⟩ := r_64 (a := w.1 - 97) (b := b) hp
        refine ⟨fun e => ?_, fun ds1 rest e => ?_⟩
        · obtain ⟨M', e1, e2⟩ := p1 e
          exact ⟨M', by rw [e1]; exact zg_z _ _ (.inl rfl), fM.trans fr0_si e2⟩
        · obtain ⟨M', e1, e2, e3⟩ := p2 ds1 rest e
          exact ⟨M', by rw [e1]; exact zg_z _ _ (.inr rfl), e2, fM.trans fr0_si e3⟩
      rw [r_ahead h1, Option.bind_some]
      dsimp only
      cases t with
      | nil =>
        rw [if_neg (show ¬ hdA [] = 109 by decide), r_ahead h1, Option.bind_some]
        dsimp only
        rw [if_neg (show ¬ hdA [] = 121 by decide), zg_z _ _ (.inl rfl)]
        exact ⟨fun _ => ⟨_, rfl, fr0_si⟩, fun ds1 rest e => by cases e⟩
      | cons v t2 =>
        have h2 := r_skip h1
        unfold pCl X8_readsClause_50
        dsimp only
        by_cases q1 : v.1 = 109
        · rw [if_pos (show hdA (v :: t2) = 109 from q1), if_pos ⟨q, .inl q1⟩, if_pos q1, r_ahead h1, Option.bind_some]
          dsimp only
          rw [if_pos (show hdA (v :: t2) = 109 from q1)]
          exact two 1 t2 h2
        · rw [if_neg (show ¬ hdA (v :: t2) = 109 from q1), r_ahead h1, Option.bind_some]
          dsimp only
          by_cases q2 : v.1 = 121
          · rw [if_pos (show hdA (v :: t2) = 121 from q2), if_pos ⟨q, .inr q2⟩, if_neg q1, r_ahead h1, Option.bind_some]
            dsimp only
            rw [if_neg (show ¬ hdA (v :: t2) = 109 from q1)]
            exact two 0 t2 h2
          · rw [if_neg (show ¬ hdA (v :: t2) = 121 from q2), if_neg (fun c => c.2.elim q1 q2), zg_z _ _ (.inl rfl)]
            exact ⟨fun _ => ⟨_, rfl, fr0_si⟩, fun ds1 rest e => by cases e⟩
  · rw [if_neg (fun c => q (in01.mp c)), if_pos rfl, zg_z _ _ (.inl rfl)]
    have e0 : pCl zl = none := by
      match zl, q with
      | [], _ => rfl
      | [w], _ => rfl
      | w :: v :: t, q => exact if_neg (fun c => q c.1)
    exact ⟨fun _ => ⟨M, rfl, fM.rfl⟩, fun ds1 rest e => by rw [e0] at e; cases e⟩
