theorem pst_set {M : MS} {bs : Nat} {zl : List Wd} {ds es : List Dt} {z : Dt} {k : Nat} (h : pst M bs zl (ds ++ z :: es)) (hk : ds.length = k) (f g : Int32) : pst (sa (sa M 25 (upd (M.2.1 25) k f)) 26 (upd (M.2.1 26) k g)) bs zl ((ds ++ [(z.1, z.2.1, z.2.2.1, z.2.2.2.1, f, g)]) ++ es) := by
  obtain ⟨p, n, h1, h2, h3, h4, h5, h6, h7, h8, h9, h10⟩ := h
  have hl : ((ds ++ [(z.1, z.2.1, z.2.2.1, z.2.2.2.1, f, g)]) ++ es).length = (ds ++ z :: es).length := by simp
  refine ⟨p, n, h1, h2, h3, h4, h5, h6, by rw [hl]; exact h7, by rw [hl]; exact h8, h9, fun i v hv => ?_⟩
  show v = (M.2.1 21 i, M.2.1 22 i, M.2.1 23 i, M.2.1 24 i, upd (M.2.1 25) k f i, upd (M.2.1 26) k g i)
  unfold upd
  rw [List.append_assoc] at hv
  by_cases e : i = k
  · subst e
    rw [List.getElem?_append_right (by omega), hk, Nat.sub_self] at hv
    have hz := h10 i z (by rw [List.getElem?_append_right (by omega), hk, Nat.sub_self]; rfl)
    cases hv
    simp only [if_true]
    rw [hz]
  · simp only [if_neg e]
    refine h10 i v ?_
    by_cases e2 : i < k
    · rw [List.getElem?_append_left (by omega)] at hv ⊢
      exact hv
    · rw [List.getElem?_append_right (by omega)] at hv ⊢
      obtain ⟨q, hq⟩ : ∃ q, i - ds.length = q + 1 := ⟨i - ds.length - 1, by omega⟩
      rw [hq] at hv ⊢
      exact hv
theorem r_187 (a b c f g : Int32) : ∀ (fs : List Int32) (M : MS) (bs : Nat) (zl : List Wd) (ds : List Dt) (y : Int32) (fn : Nat), pst M bs zl (ds ++ fs.map (dtOf a b c 0 0)) → y.toInt = ds.length → fs.length < fn → ∃ M', X8_readsClause_187 fn M f g y = some (1, M') ∧ pst M' bs zl (ds ++ fs.map (dtOf a b c f g)) ∧ fr0 M M'
  | [], M, bs, zl, ds, y, fn, h, hy, hf => by
    obtain ⟨fn, rfl⟩ : ∃ q, fn = q + 1 := ⟨fn - 1, by omega⟩
    obtain ⟨p, n, h1, h2, h3, h4, h5, h6, h7, h8⟩ := id h
    refine ⟨M, ?_, h, fM.rfl⟩
    unfold X8_readsClause_187
    rw [if_pos (zi_le.mpr (by rw [h7, hy]; simp))]
  | t :: fs, M, bs, zl, ds, y, fn, h, hy, hf => by
    simp only [List.length_cons] at hf
    obtain ⟨fn, rfl⟩ : ∃ q, fn = q + 1 := ⟨fn - 1, by omega⟩
    obtain ⟨p, n, h1, h2, h3, h4, h5, h6, h7, h8, -, -⟩ := id h
    have hl : (ds ++ (t :: fs).map (dtOf a b c 0 0)).length = ds.length + (fs.length + 1) := by simp
    rw [hl] at h7 h8
    have h := pst_set (es := fs.map (dtOf a b c 0 0)) (z := dtOf a b c 0 0 t) h rfl f g
    obtain ⟨M', e1, e2, e3⟩ := r_187 a b c f g fs _ bs zl _ (y + 1) fn h (by rw [zi_inc hy (by omega) (by omega), List.length_append]; simp) (by omega)
    refine ⟨M', ?_, ?_, fM.trans (fM.trans (fM_sa (by decide)) (fM_sa (by decide))) e3⟩
    · unfold X8_readsClause_187
      rw [if_neg (fun c => by have := zi_le.mp c; omega), mAs_ok (j := 25) (q := ds.length) hy (by show ds.length < 12; omega), Option.bind_some, mAs_ok (j := 26) (q := ds.length) hy (by show ds.length < 12; omega), Option.bind_some]
      exact e1
    · rw [List.append_assoc] at e2
      exact e2
