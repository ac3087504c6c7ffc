/-! ===== the grammar of what is left: the automaton and the descent, on lists of words ===== -/
abbrev Wd : Type := Int32 × Int32
def dst (s x : Int32) : Int32 :=
  if x = 38 then (if s = 6 then 4 else -1) else if x = 44 then (if s = 6 then 5 else -1) else if x = 59 then (if s < 6 then -1 else 0) else if x = 97 then (if s = 0 then 1 else -1) else if x = 98 then (if s = 0 then 1 else -1) else if x = 102 then (if s < 6 then -1 else if 9 ≤ s then -1 else 9) else if x = 105 then (if s = 6 then 8 else if s = 7 then 8 else -1) else if x = 109 then (if s = 1 then 2 else -1) else if x = 110 then (if s = 2 then 3 else -1) else if x = 112 then (if s = 2 then 9 else -1) else if x = 119 then (if s = 4 then 7 else if s = 2 then 6 else if s = 3 then 6 else if s = 5 then 6 else -1) else if x = 121 then (if s = 1 then 2 else -1) else -1
def rnA (s : Int32) (zl : List Wd) : Int32 := zl.foldl (fun s w => dst s w.1) s
theorem rnA_nil (s : Int32) : rnA s [] = s := rfl
theorem rnA_cons (s : Int32) (w : Wd) (zl : List Wd) : rnA s (w :: zl) = rnA (dst s w.1) zl := rfl
theorem dst_dead (x : Int32) : dst (-1) x = -1 := by
  unfold dst
  simp (config := {decide := true}) only [if_true, if_false, ite_self]
theorem rnA_dead : ∀ zl : List Wd, rnA (-1) zl = -1
  | [] => rfl
  | w :: zl => by rw [rnA_cons, dst_dead]; exact rnA_dead zl
theorem ite_sm {c : Prop} [Decidable c] (a b : Int32) (S : AH) : (if c then some (a, S) else some (b, S)) = some (if c then a else b, S) := by by_cases h : c <;> simp only [h, if_true, if_false]
theorem k_stateAfter (S : AH) (s x : Int32) : X1_stateAfter S s x = some (dst s x, S) := by
  unfold X1_stateAfter X1_stateAfter_0 X1_stateAfterThing X1_stateAfterThing_0 X1_stateAfter_117 X1_stateAfter_128 X1_stateAfter_139 X1_stateAfter_151 X1_stateAfter_168 X1_stateAfter_180 X1_stateAfter_193 X1_stateAfter_199 X1_stateAfter_217 X1_stateAfter_218 X1_stateAfter_230 X1_stateAfterThing_23 X1_stateAfterThing_29 dst
  simp only [ite_sm, Option.bind_some]
/-- the letter at the front, -1 where there is none -/
def hdA (zl : List Wd) : Int32 := match zl with
  | [] => -1
  | w :: _ => w.1
/-- things: their figures, whether the last came behind an &, what is left -/
def pTh : Bool → List Wd → Option (List Int32 × Bool × List Wd)
  | _, [] => none
  | la, [w] => if w.1 = 119 then some ([w.2], la, []) else none
  | la, w :: v :: zl => if w.1 = 119 then (if la = false ∧ v.1 = 44 then (pTh false zl).map (fun r => (w.2 :: r.1, r.2)) else if la = false ∧ v.1 = 38 then (pTh true zl).map (fun r => (w.2 :: r.1, r.2)) else some ([w.2], la, v :: zl)) else none
def sTh (la : Bool) (s : Int32) : Prop := if la = true then s = 4 else s = 2 ∨ s = 3 ∨ s = 5
theorem sTh_w {la : Bool} {s : Int32} (h : sTh la s) : dst s 119 = if la = true then 7 else 6 := by
  unfold sTh at h
  cases la with
  | true => rw [if_pos rfl] at h; subst h; rfl
  | false =>
    rw [if_neg (by decide)] at h
    rcases h with rfl | rfl | rfl <;> rfl
theorem sTh_o {la : Bool} {s x : Int32} (h : sTh la s) (hx : x ≠ 119) (hs : s ≠ 2) : dst s x = -1 := by
  have h : s = 4 ∨ s = 3 ∨ s = 5 := by
    unfold sTh at h
    cases la with
    | true => rw [if_pos rfl] at h; exact .inl h
    | false =>
      rw [if_neg (by decide)] at h
      rcases h with h | h | h
      · exact absurd h hs
      · exact .inr (.inl h)
      · exact .inr (.inr h)
  unfold dst
  rcases h with rfl | rfl | rfl <;> simp (config := {decide := true}) only [if_neg hx, if_true, if_false, ite_self]
theorem th_run : ∀ (la : Bool) (zl : List Wd) (s : Int32), sTh la s → s ≠ 2 → (pTh la zl = none → (rnA s zl).toInt < 6) ∧ ∀ fs la2 rest, pTh la zl = some (fs, la2, rest) → rnA s zl = rnA (if la2 = true then 7 else 6) rest ∧ (la2 = false → hdA rest ≠ 44 ∧ hdA rest ≠ 38) ∧ rest.length < zl.length
  | la, [], s, h, hs => ⟨fun _ => by
      rw [rnA_nil]
      unfold sTh at h
      cases la with
      | true => rw [if_pos rfl] at h; subst h; decide
      | false =>
        rw [if_neg (by decide)] at h
        rcases h with rfl | rfl | rfl <;> decide, fun fs la2 rest e => by cases e⟩
  | la, [w], s, h, hs => by
      unfold pTh
      by_cases hw : w.1 = 119
      · rw [if_pos hw]
        refine ⟨(fun e => by cases e), fun fs la2 rest e => ?_⟩
        cases e
        rw [rnA_cons, hw, sTh_w h]
        exact ⟨rfl, fun _ => ⟨by decide, by decide⟩, by simp⟩
      · rw [if_neg hw]
        refine ⟨fun _ => ?_, fun fs la2 rest e => by cases e⟩
        rw [rnA_cons, sTh_o h hw hs, rnA_dead]
        decide
  | la, w :: v :: zl, s, h, hs => by
      unfold pTh
      by_cases hw : w.1 = 119
      · rw [if_pos hw, rnA_cons, hw, sTh_w h]
        by_cases h1 : la = false ∧ v.1 = 44
        · obtain ⟨rfl, h1⟩ := h1
          rw [if_pos ⟨rfl, h1⟩, rnA_cons, h1]
          have e5 : dst (if false = true then 7 else 6) 44 = 5 := rfl
          rw [e5]
          obtain ⟨a, b⟩ := th_run false zl 5 (.inr (.inr rfl)) (by decide)
          refine ⟨fun e => a (by cases hq : pTh false zl with | none => rfl | some r => rw [hq] at e; cases e), fun fs la2 rest e => ?_⟩
          cases hq : pTh false zl with
          | none => rw [hq] at e; cases e
          | some r =>
            rw [hq] at e
            obtain ⟨r1, r2, r3⟩ := r
            cases e
            obtain ⟨c1, c2, c3⟩ := b _ _ _ hq
            exact ⟨c1, c2, by simp only [List.length_cons]; omega⟩
        · rw [if_neg h1]
          by_cases h2 : la = false ∧ v.1 = 38
          · obtain ⟨rfl, h2⟩ := h2
            rw [if_pos ⟨rfl, h2⟩, rnA_cons, h2]
            have e5 : dst (if false = true then 7 else 6) 38 = 4 := rfl
            rw [e5]
            obtain ⟨a, b⟩ := th_run true zl 4 rfl (by decide)
            refine ⟨fun e => a (by cases hq : pTh true zl with | none => rfl | some r => rw [hq] at e; cases e), fun fs la2 rest e => ?_⟩
            cases hq : pTh true zl with
            | none => rw [hq] at e; cases e
            | some r =>
              rw [hq] at e
              obtain ⟨r1, r2, r3⟩ := r
              cases e
              obtain ⟨c1, c2, c3⟩ := b _ _ _ hq
              exact ⟨c1, c2, by simp only [List.length_cons]; omega⟩
          · rw [if_neg h2]
            refine ⟨(fun e => by cases e), fun fs la2 rest e => ?_⟩
            cases e
            exact ⟨rfl, fun q => ⟨fun c => h1 ⟨q, c⟩, fun c => h2 ⟨q, c⟩⟩, by simp⟩
      · rw [if_neg hw]
        refine ⟨fun _ => ?_, fun fs la2 rest e => by cases e⟩
        rw [rnA_cons, sTh_o h hw hs, rnA_dead]
        decide
