/-! ===== all clauses; what they tell ===== -/
def pAll : Nat → List Wd → Option (List Dt)
  | 0, _ => none
  | n + 1, zl => match pCl zl with
    | none => none
    | some r => match r.2 with
      | [] => some r.1
      | w :: t => if w.1 = 59 then (pAll n t).map (fun q => r.1 ++ q) else none
theorem all_run : ∀ (n : Nat) (zl : List Wd), zl.length < n → ((pAll n zl = none → (rnA 0 zl).toInt < 6) ∧ ∀ ds, pAll n zl = some ds → 6 ≤ (rnA 0 zl).toInt)
  | 0, zl, h => by omega
  | n + 1, zl, h => by
    obtain ⟨p, q⟩ := cl_run zl
    unfold pAll
    cases hq : pCl zl with
    | none => exact ⟨fun _ => p hq, fun ds e => by cases e⟩
    | some r =>
      obtain ⟨ds1, rest⟩ := r
      obtain ⟨s2, b1, b2, b3⟩ := q ds1 rest hq
      dsimp only
      cases rest with
      | nil =>
        refine ⟨(fun e => by cases e), fun ds e => ?_⟩
        rw [b1, rnA_nil]
        exact b2.1
      | cons w t =>
        dsimp only
        obtain ⟨f1, f2⟩ := b2.2 w t rfl
        by_cases hw : w.1 = 59
        · rw [if_pos hw, b1, rnA_cons, f1 hw]
          simp only [List.length_cons] at b3
          obtain ⟨p2, q2⟩ := all_run n t (by omega)
          cases hz : pAll n t with
          | none => exact ⟨fun _ => p2 hz, fun ds e => by cases e⟩
          | some z => exact ⟨(fun e => by cases e), fun ds e => q2 z hz⟩
        · rw [if_neg hw, b1, rnA_cons, f2 hw, rnA_dead]
          exact ⟨fun _ => by decide, fun ds e => by cases e⟩
/-- the telling goes word by word: whose, must, not, the clauses before, the clause now -/
abbrev tS : Type := Int32 × Int32 × Int32 × List Dt × List Dt
def sFar (x : Int32) (z : Dt) : Dt := (z.1, z.2.1, z.2.2.1, z.2.2.2.1, x, z.2.2.2.2.2)
def sLng (x : Int32) (z : Dt) : Dt := (z.1, z.2.1, z.2.2.1, z.2.2.2.1, z.2.2.2.2.1, x)
def tst (s : tS) (w : Wd) : tS :=
  if w.1 = 97 then (0, s.2.1, 0, s.2.2.2.1 ++ s.2.2.2.2, [])
  else if w.1 = 98 then (1, s.2.1, 0, s.2.2.2.1 ++ s.2.2.2.2, [])
  else if w.1 = 102 then (s.1, s.2.1, s.2.2.1, s.2.2.2.1, s.2.2.2.2.map (sLng w.2))
  else if w.1 = 105 then (s.1, s.2.1, s.2.2.1, s.2.2.2.1, s.2.2.2.2.map (sFar w.2))
  else if w.1 = 109 then (s.1, 1, s.2.2)
  else if w.1 = 110 then (s.1, s.2.1, 1, s.2.2.2)
  else if w.1 = 112 then (s.1, s.2.1, s.2.2.1, s.2.2.2.1, s.2.2.2.2 ++ [(s.1, s.2.1, 0, 10 + w.2, 0, 0)])
  else if w.1 = 119 then (s.1, s.2.1, s.2.2.1, s.2.2.2.1, s.2.2.2.2 ++ [(s.1, s.2.1, s.2.2.1, w.2, 10, 10)])
  else if w.1 = 121 then (s.1, 0, s.2.2)
  else s
def tlF (s : tS) (zl : List Wd) : tS := zl.foldl tst s
theorem tlF_cons (s : tS) (w : Wd) (zl : List Wd) : tlF s (w :: zl) = tlF (tst s w) zl := rfl
theorem tst_w (s : tS) (w : Wd) (h : w.1 = 119) : tst s w = (s.1, s.2.1, s.2.2.1, s.2.2.2.1, s.2.2.2.2 ++ [(s.1, s.2.1, s.2.2.1, w.2, 10, 10)]) := by
  unfold tst
  rw [h]
  rfl
theorem tst_o (s : tS) (w : Wd) (h : w.1 = 44 ∨ w.1 = 38 ∨ w.1 = 59) : tst s w = s := by
  unfold tst
  rcases h with h | h | h <;> rw [h] <;> rfl
theorem th_tell : ∀ (la : Bool) (zl : List Wd) (s : tS) (fs : List Int32) (la2 : Bool) (rest : List Wd), pTh la zl = some (fs, la2, rest) → tlF s zl = tlF (s.1, s.2.1, s.2.2.1, s.2.2.2.1, s.2.2.2.2 ++ fs.map (dtOf s.1 s.2.1 s.2.2.1 10 10)) rest
  | la, [], s, fs, la2, rest, e => by cases e
  | la, [w], s, fs, la2, rest, e => by
    unfold pTh at e
    by_cases hw : w.1 = 119
    · rw [if_pos hw] at e
      cases e
      rw [tlF_cons, tst_w s w hw]
      rfl
    · rw [if_neg hw] at e
      cases e
  | la, w :: v :: zl, s, fs, la2, rest, e => by
    unfold pTh at e
    by_cases hw : w.1 = 119
    · rw [if_pos hw] at e
      rw [tlF_cons, tst_w s w hw]
      by_cases h1 : la = false ∧ v.1 = 44
      · rw [if_pos h1] at e
        cases hq : pTh false zl with
        | none => rw [hq] at e; cases e
        | some r =>
          rw [hq] at e
          obtain ⟨r1, r2, r3⟩ := r
          cases e
          rw [tlF_cons, tst_o _ v (.inl h1.2), th_tell false zl _ _ _ _ hq]
          dsimp only
          rw [List.map_cons, List.append_assoc]
          rfl
      · rw [if_neg h1] at e
        by_cases h2 : la = false ∧ v.1 = 38
        · rw [if_pos h2] at e
          cases hq : pTh true zl with
          | none => rw [hq] at e; cases e
          | some r =>
            rw [hq] at e
            obtain ⟨r1, r2, r3⟩ := r
            cases e
            rw [tlF_cons, tst_o _ v (.inr (.inl h2.2)), th_tell true zl _ _ _ _ hq]
            dsimp only
            rw [List.map_cons, List.append_assoc]
            rfl
        · rw [if_neg h2] at e
          cases e
          rfl
    · rw [if_neg hw] at e
      cases e
theorem far_tell (s : tS) (zl : List Wd) (a b c f g : Int32) (fs : List Int32) : tlF (s.1, s.2.1, s.2.2.1, s.2.2.2.1, fs.map (dtOf a b c 10 g)) zl = tlF (s.1, s.2.1, s.2.2.1, s.2.2.2.1, fs.map (dtOf a b c (pFig 105 zl).1 g)) (pFig 105 zl).2 := by
  by_cases h : hdA zl = 105
  · cases zl with
    | nil => cases h
    | cons w t =>
      have h : w.1 = 105 := h
      rw [pFig_y 105 w t h, tlF_cons]
      have e : tst (s.1, s.2.1, s.2.2.1, s.2.2.2.1, fs.map (dtOf a b c 10 g)) w = (s.1, s.2.1, s.2.2.1, s.2.2.2.1, fs.map (dtOf a b c w.2 g)) := by
        unfold tst
        rw [h]
        show (s.1, s.2.1, s.2.2.1, s.2.2.2.1, (fs.map (dtOf a b c 10 g)).map (sFar w.2)) = _
        rw [List.map_map]
        rfl
      rw [e]
  · rw [pFig_n 105 zl h]
theorem lng_tell (s : tS) (zl : List Wd) (a b c f : Int32) (fs : List Int32) : tlF (s.1, s.2.1, s.2.2.1, s.2.2.2.1, fs.map (dtOf a b c f 10)) zl = tlF (s.1, s.2.1, s.2.2.1, s.2.2.2.1, fs.map (dtOf a b c f (pFig 102 zl).1)) (pFig 102 zl).2 := by
  by_cases h : hdA zl = 102
  · cases zl with
    | nil => cases h
    | cons w t =>
      have h : w.1 = 102 := h
      rw [pFig_y 102 w t h, tlF_cons]
      have e : tst (s.1, s.2.1, s.2.2.1, s.2.2.2.1, fs.map (dtOf a b c f 10)) w = (s.1, s.2.1, s.2.2.1, s.2.2.2.1, fs.map (dtOf a b c f w.2)) := by
        unfold tst
        rw [h]
        show (s.1, s.2.1, s.2.2.1, s.2.2.2.1, (fs.map (dtOf a b c f 10)).map (sLng w.2)) = _
        rw [List.map_map]
        rfl
      rw [e]
  · rw [pFig_n 102 zl h]
theorem body_tell (a b : Int32) (zl : List Wd) (dn : List Dt) (ds : List Dt) (rest : List Wd) (e : pBody a b zl = some (ds, rest)) : ∃ c, tlF (a, b, 0, dn, []) zl = tlF (a, b, c, dn, ds) rest := by
  cases zl with
  | nil => cases e
  | cons w t =>
    unfold pBody at e
    dsimp only at e
    by_cases h : w.1 = 112
    · rw [if_pos h] at e
      cases e
      refine ⟨0, ?_⟩
      rw [tlF_cons]
      unfold tst
      rw [h]
      rfl
    · rw [if_neg h] at e
      have key : ∀ (c : Int32) (zq : List Wd), ((pTh false zq).map fun r => (r.1.map (dtOf a b c (pFig 105 r.2.2).1 (pFig 102 (pFig 105 r.2.2).2).1), (pFig 102 (pFig 105 r.2.2).2).2)) = some (ds, rest) → tlF (a, b, c, dn, []) zq = tlF (a, b, c, dn, ds) rest := by
        intro c zq e
        cases hq : pTh false zq with
        | none => rw [hq] at e; cases e
        | some r =>
          rw [hq] at e
          obtain ⟨r1, r2, r3⟩ := r
          cases e
          rw [th_tell false zq _ _ _ _ hq]
          exact (far_tell (a, b, c, dn, []) r3 a b c 10 10 r1).trans (lng_tell (a, b, c, dn, []) (pFig 105 r3).2 a b c (pFig 105 r3).1 r1)
      by_cases h1 : w.1 = 110
      · rw [if_pos h1, if_pos h1] at e
        refine ⟨1, ?_⟩
        rw [tlF_cons]
        have e2 : tst (a, b, 0, dn, []) w = (a, b, 1, dn, []) := by
          unfold tst
          rw [h1]
          rfl
        rw [e2]
        exact key 1 t e
      · rw [if_neg h1, if_neg h1] at e
        exact ⟨0, key 0 (w :: t) e⟩
theorem cl_tell (zl : List Wd) (s : tS) (ds : List Dt) (rest : List Wd) (e : pCl zl = some (ds, rest)) : ∃ a b c, tlF s zl = tlF (a, b, c, s.2.2.2.1 ++ s.2.2.2.2, ds) rest := by
  match zl, e with
  | [], e => cases e
  | [w], e => cases e
  | w :: v :: t, e =>
    unfold pCl at e
    dsimp only at e
    by_cases h : (w.1 = 97 ∨ w.1 = 98) ∧ (v.1 = 109 ∨ v.1 = 121)
    · rw [if_pos h] at e
      obtain ⟨c, hc⟩ := body_tell _ _ t (s.2.2.2.1 ++ s.2.2.2.2) ds rest e
      refine ⟨w.1 - 97, if v.1 = 109 then 1 else 0, c, ?_⟩
      rw [← hc, tlF_cons, tlF_cons]
      have e2 : tst (tst s w) v = (w.1 - 97, if v.1 = 109 then 1 else 0, 0, s.2.2.2.1 ++ s.2.2.2.2, []) := by
        unfold tst
        rcases h.1 with h1 | h1 <;> rcases h.2 with h2 | h2 <;> rw [h1, h2] <;> rfl
      rw [e2]
    · rw [if_neg h] at e
      cases e
theorem all_tell : ∀ (n : Nat) (zl : List Wd) (s : tS) (ds : List Dt), pAll n zl = some ds → (tlF s zl).2.2.2.1 ++ (tlF s zl).2.2.2.2 = s.2.2.2.1 ++ s.2.2.2.2 ++ ds
  | 0, zl, s, ds, e => by cases e
  | n + 1, zl, s, ds, e => by
    unfold pAll at e
    cases hq : pCl zl with
    | none => rw [hq] at e; cases e
    | some r =>
      rw [hq] at e
      obtain ⟨ds1, rest⟩ := r
      obtain ⟨a, b, c, h1⟩ := cl_tell zl s ds1 rest hq
      dsimp only at e
      rw [h1]
      cases rest with
      | nil =>
        cases e
        rfl
      | cons w t =>
        dsimp only at e
        by_cases hw : w.1 = 59
        · rw [if_pos hw] at e
          cases hz : pAll n t with
          | none => rw [hz] at e; cases e
          | some z =>
            rw [hz] at e
            cases e
            rw [tlF_cons, tst_o _ w (.inr (.inr hw)), all_tell n t _ z hz]
            exact List.append_assoc _ _ _
        · rw [if_neg hw] at e
          cases e
