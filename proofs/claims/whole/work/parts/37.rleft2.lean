theorem pst_end {M : MS} {bs : Nat} {zl : List Wd} {ds : List Dt} (h : pst M bs zl ds) : M.1 29 = M.1 27 ↔ zl = [] := by
  obtain ⟨p, n, h1, h2, -, -, -, h6, -, -, -, -⟩ := h
  constructor
  · intro e
    rw [e, h2] at h1
    exact List.length_eq_zero_iff.mp (by omega)
  · intro e
    subst e
    have h6 : p + 0 = n := h6
    exact zi_eq.mpr (by omega)
theorem r_73 : ∀ (n : Nat) (zl : List Wd) (M : MS) (bs : Nat) (ds : List Dt) (fn : Nat), pst M bs zl ds → zl.length < n → n ≤ fn → (pAll n zl = none → ∃ M', X8_readsLeft_73 fn M = some (0, M') ∧ fr0 M M') ∧ ∀ ds1, pAll n zl = some ds1 → ∃ M', X8_readsLeft_73 fn M = some (1, M') ∧ pst M' bs [] (ds ++ ds1) ∧ fr0 M M'
  | 0, zl, M, bs, ds, fn, h, hn, hf => by omega
  | n + 1, zl, M, bs, ds, fn, h, hn, hf => by
    obtain ⟨fn, rfl⟩ : ∃ q, fn = q + 1 := ⟨fn - 1, by omega⟩
    obtain ⟨p, q⟩ := r_clause h
    have z1 : ¬ (1 : Int32) = 0 := by decide
    unfold pAll X8_readsLeft_73
    cases hq : pCl zl with
    | none =>
      obtain ⟨M1, e1, e2⟩ := p hq
      rw [e1, Option.bind_some]
      dsimp only
      rw [if_pos rfl]
      exact ⟨fun _ => ⟨M1, rfl, e2⟩, fun ds1 e => by cases e⟩
    | some r =>
      obtain ⟨dq, rest⟩ := r
      obtain ⟨M1, e1, e2, e3⟩ := q _ _ hq
      obtain ⟨-, -, -, hlen⟩ := (cl_run zl).2 _ _ hq
      rw [e1, Option.bind_some]
      dsimp only
      rw [if_neg z1]
      cases rest with
      | nil =>
        rw [if_pos ((pst_end e2).mpr rfl)]
        refine ⟨(fun e => by cases e), fun ds1 e => ?_⟩
        cases e
        exact ⟨M1, rfl, e2, e3⟩
      | cons w t =>
        rw [if_neg (fun c => by cases (pst_end e2).mp c), r_ahead e2, Option.bind_some]
        dsimp only
        by_cases hw : w.1 = 59
        · rw [if_pos hw, if_pos (show hdA (w :: t) = 59 from hw)]
          simp only [List.length_cons] at hlen
          obtain ⟨p2, q2⟩ := r_73 n t _ bs _ fn (r_skip e2) (by omega) (by omega)
          cases hz : pAll n t with
          | none =>
            obtain ⟨M2, f1, f2⟩ := p2 hz
            exact ⟨fun _ => ⟨M2, f1, fM.trans e3 (fM.trans fr0_si f2)⟩, fun ds1 e => by cases e⟩
          | some z =>
            refine ⟨(fun e => by cases e), fun ds1 e => ?_⟩
            cases e
            obtain ⟨M2, f1, f2, f3⟩ := q2 z hz
            rw [List.append_assoc] at f2
            exact ⟨M2, f1, f2, fM.trans e3 (fM.trans fr0_si f3)⟩
        · rw [if_neg hw, if_neg (show ¬ hdA (w :: t) = 59 from hw)]
          exact ⟨fun _ => ⟨M1, rfl, e3⟩, fun ds1 e => by cases e⟩
