/-! ===== the text as a list of bytes, on both sides; what a bargain's text reads as ===== -/
def tV (S : AH) (bs : List Int32) : Prop := ∃ (f : Nat → Int32) (sz : Int32), S[1]? = some (.inr (6, [.ref 2, .int sz])) ∧ S[2]? = some (.inl (0, (100, .inl f))) ∧ sz.toInt = bs.length ∧ bs.length ≤ 100 ∧ ∀ (i : Nat) (x : Int32), bs[i]? = some x → f i = x
theorem tV_size {S : AH} {bs : List Int32} (h : tV S bs) : cO S 1 6 (X6_size S 1) = some (Int32.ofNat bs.length, S) := by
  obtain ⟨f, sz, h1, h2, h3, h4, h5⟩ := h
  rw [e_cO h1]
  unfold X6_size X6_size_0
  rw [e_gI h1 rfl, bsm, zi_eq.mpr (h3.trans (zo (by omega)).symm)]
theorem tV_at {S : AH} {bs : List Int32} (h : tV S bs) {i : Int32} {k : Nat} (hi : i.toInt = k) : cO S 1 6 (X6_at S 1 i) = some (bs.getD k (-1), S) := by
  obtain ⟨f, sz, h1, h2, h3, h4, h5⟩ := h
  rw [e_cO h1]
  have e0 : (0 : Int32).toInt = 0 := rfl
  unfold X6_at X6_at_0 X6_at_30 X6_at_31
  rw [if_neg (by rw [zi_lt]; omega), e_gI h1 rfl, bsm]
  by_cases q : k < bs.length
  · rw [if_neg (by rw [zi_le]; omega), e_gQ h1 rfl, bsm, e_aN h2 (by omega), bsm, if_neg (by rw [zi_le, zo (by omega)]; omega), bsm, e_aA h2 hi (by omega), bsm, h5 k _ (List.getElem?_eq_getElem q), List.getD_eq_getElem?_getD, List.getElem?_eq_getElem q]
    rfl
  · rw [if_pos (by rw [zi_le]; omega), List.getD_eq_getElem?_getD, List.getElem?_eq_none (by omega)]
    rfl
theorem tV_len {S : AH} {bs : List Int32} (h : tV S bs) : bs.length ≤ 100 := by
  obtain ⟨f, sz, h1, h2, h3, h4, h5⟩ := h
  exact h4
theorem tV_frame {S S' : AH} {bs : List Int32} (h : tV S bs) (h1 : S'[1]? = S[1]?) (h2 : S'[2]? = S[2]?) : tV S' bs := by
  obtain ⟨f, sz, q1, q2, q3⟩ := h
  exact ⟨f, sz, h1.trans q1, h2.trans q2, q3⟩
theorem k_isFigure (S : AH) (x : Int32) : X6_isFigure S x = some (if 48 ≤ x ∧ x ≤ 57 then 1 else 0, S) := by
  unfold X6_isFigure X6_isFigure_0 X6_isFigure_16 X6_isFigure_17
  by_cases h1 : x < 48
  · rw [if_pos h1, if_neg (fun c => by have := zi_lt.mp h1; have := zi_le.mp c.1; omega)]
    exact zg_z _ _ (.inl rfl)
  · rw [if_neg h1]
    have h1 := mt zi_lt.mpr h1
    by_cases h2 : 57 < x
    · rw [if_pos h2, if_neg (fun c => by have := zi_lt.mp h2; have := zi_le.mp c.2; omega)]
      exact zg_z _ _ (.inl rfl)
    · have h2 := mt zi_lt.mpr h2
      rw [if_neg (mt zi_lt.mp h2), if_pos ⟨zi_le.mpr (by omega), zi_le.mpr (by omega)⟩]
      exact zg_z _ _ (.inr rfl)
def by9 (x : Int32) : Prop := 0 ≤ x.toInt ∧ x.toInt ≤ 255
def sgb (x : Int32) : Int32 := x.toInt8.toInt32
theorem sgn_m1 : sgb (-1) = -1 := rfl
/-- the reference's text -/
def rT (M : MS) (bs : List Int32) : Prop := (M.1 2).toInt = bs.length ∧ bs.length ≤ 100 ∧ (∀ x ∈ bs, by9 x) ∧ ∀ (i : Nat) (x : Int32), bs[i]? = some x → M.2.1 5 i = sgb x
theorem rT_next {M : MS} {bs : List Int32} (h : rT M bs) {p : Nat} (hp : (M.1 3).toInt = p) : X8_next M = some (sgb (bs.getD p (-1)), M) := by
  obtain ⟨h1, h2, h3, h4⟩ := h
  have hz := zi_n (M.1 3)
  rw [r_next M (by omega) (by omega), List.getD_eq_getElem?_getD]
  by_cases q : p < bs.length
  · rw [if_pos (by omega), show (M.1 3).toNatClampNeg = p by omega, h4 p _ (List.getElem?_eq_getElem q), List.getElem?_eq_getElem q]
    rfl
  · rw [if_neg (by omega), List.getElem?_eq_none (by omega)]
    rfl
theorem sgn_eq {c k : Int32} (h : by9 c ∨ c = -1) (k0 : 0 ≤ k.toInt) (k1 : k.toInt ≤ 127) : sgb c = k ↔ c = k := by
  rcases h with h | h
  · exact by_eq h.1 h.2 k0 k1
  · subst h
    rw [sgn_m1]
theorem getD_by {bs : List Int32} (h : ∀ x ∈ bs, by9 x) (p : Nat) : by9 (bs.getD p (-1)) ∨ bs.getD p (-1) = -1 := by
  rw [List.getD_eq_getElem?_getD]
  cases e : bs[p]? with
  | none => exact .inr rfl
  | some x => exact .inl (h x (List.mem_of_getElem? e))
theorem sgn_dig {c : Int32} (h : by9 c ∨ c = -1) : (48 ≤ sgb c ∧ sgb c ≤ 57) ↔ (48 ≤ c ∧ c ≤ 57) := by
  have e48 : (48 : Int32).toInt = 48 := rfl
  have e57 : (57 : Int32).toInt = 57 := rfl
  rcases h with h | h
  · unfold by9 at h
    unfold sgb
    simp only [zi_le, e48, e57]
    by_cases q : c.toInt ≤ 127
    · rw [by_low h.1 q]
    · rw [by_high (by omega) h.2]
      omega
  · subst h
    rw [sgn_m1]
theorem sgn_dg {c : Int32} (h : 48 ≤ c ∧ c ≤ 57) : sgb c = c := by
  have e48 : (48 : Int32).toInt = 48 := rfl
  have e57 : (57 : Int32).toInt = 57 := rfl
  have h1 := zi_le.mp h.1
  have h2 := zi_le.mp h.2
  exact by_low (by omega) (by omega)
theorem sgn_fgr {c : Int32} (h : by9 c ∨ c = -1) : fgr (sgb c) ↔ fgr c := by
  unfold fgr
  rw [sgn_eq h (by decide) (by decide), sgn_eq h (by decide) (by decide), sgn_eq h (by decide) (by decide), sgn_eq h (by decide) (by decide)]
theorem sgn_bre {c : Int32} (h : by9 c ∨ c = -1) : bre (sgb c) ↔ bre c := by
  unfold bre
  rw [sgn_eq h (by decide) (by decide), sgn_eq h (by decide) (by decide), sgn_eq h (by decide) (by decide), sgn_eq h (by decide) (by decide), sgn_eq h (by decide) (by decide), sgn_eq h (by decide) (by decide), sgn_eq h (by decide) (by decide), sgn_eq h (by decide) (by decide)]
theorem sgn_let {c : Int32} (h : bre c ∨ fgr c) : sgb c = c := by
  rcases h with h | h
  · rcases h with rfl | rfl | rfl | rfl | rfl | rfl | rfl | rfl <;> rfl
  · rcases h with rfl | rfl | rfl | rfl <;> rfl
abbrev isf (d : Int32) : Prop := 48 ≤ d ∧ d ≤ 57
/-- words of a text, n more of them at most: the fault (-1: none), the words -/
def pWd : Nat → Nat → List Int32 → Int × List Wd
  | 0, p, _ => (p, [])
  | _ + 1, p, [] => (p, [])
  | n + 1, p, [c] => if fgr c then ((p : Int) + 1, []) else if bre c then (-1, [(c, 0)]) else (p, [])
  | n + 1, p, c :: d :: t => if fgr c then (if isf d then (if t = [] then (-1, [(c, d - 48)]) else ((pWd n (p + 2) t).1, (c, d - 48) :: (pWd n (p + 2) t).2)) else ((p : Int) + 1, [])) else if bre c then ((pWd n (p + 1) (d :: t)).1, (c, 0) :: (pWd n (p + 1) (d :: t)).2) else (p, [])
def enW (zl : List Wd) : List Int32 := zl.flatMap (fun w => if fgr w.1 then [w.1, w.2 + 48] else [w.1])
theorem enW_c (w : Wd) (zl : List Wd) : enW (w :: zl) = (if fgr w.1 then [w.1, w.2 + 48] else [w.1]) ++ enW zl := rfl
theorem fgr_ok {c : Int32} (h : fgr c) (d : Int32) (hd : isf d) : okW (c, d - 48) := by
  refine ⟨.inr h, ?_⟩
  have e48 : (48 : Int32).toInt = 48 := rfl
  have e57 : (57 : Int32).toInt = 57 := rfl
  have h1 := zi_le.mp hd.1
  have h2 := zi_le.mp hd.2
  show 0 ≤ (d - 48).toInt ∧ (d - 48).toInt ≤ 9
  rw [zi_sub (by omega) (by omega)]
  omega
theorem in09 (c : Int32) : in2 ((c, (0 : Int32)) : Wd).2 9 := ⟨Int.le_refl 0, by show (0 : Int32).toInt ≤ 9; decide⟩
theorem pWd_ok : ∀ (n p : Nat) (bs : List Int32), (pWd n p bs).1 = -1 → bs = enW (pWd n p bs).2 ∧ (pWd n p bs).2.length ≤ n ∧ (pWd n p bs).2 ≠ [] ∧ (∀ w ∈ (pWd n p bs).2, okW w ∧ (¬ fgr w.1 → w.2 = 0))
  | 0, p, bs, h => by
    unfold pWd at h
    dsimp only at h
    omega
  | n + 1, p, [], h => by
    unfold pWd at h
    dsimp only at h
    omega
  | n + 1, p, [c], h => by
    unfold pWd at h ⊢
    by_cases h1 : fgr c
    · rw [if_pos h1] at h
      dsimp only at h
      omega
    · rw [if_neg h1] at h ⊢
      by_cases h2 : bre c
      · rw [if_pos h2]
        dsimp only
        rw [enW_c, if_neg h1]
        exact ⟨rfl, by simp, by simp, fun w hw => by rw [List.mem_singleton.mp hw]; exact ⟨⟨.inl h2, in09 c⟩, fun _ => rfl⟩⟩
      · rw [if_neg h2] at h
        dsimp only at h
        omega
  | n + 1, p, c :: d :: t, h => by
    unfold pWd at h ⊢
    by_cases h1 : fgr c
    · rw [if_pos h1] at h ⊢
      by_cases h3 : isf d
      · rw [if_pos h3] at h ⊢
        by_cases h4 : t = []
        · rw [if_pos h4]
          dsimp only
          rw [enW_c, if_pos h1, h4]
          refine ⟨?_, by simp, by simp, fun w hw => by rw [List.mem_singleton.mp hw]; exact ⟨fgr_ok h1 d h3, fun c => absurd h1 c⟩⟩
          show [c, d] = [c, d - 48 + 48] ++ []
          rw [Int32.sub_add_cancel]
          rfl
        · rw [if_neg h4] at h ⊢
          obtain ⟨a1, a2, a3, a4⟩ := pWd_ok n (p + 2) t h
          dsimp only at h ⊢
          rw [enW_c, if_pos h1, ← a1]
          refine ⟨?_, by simp only [List.length_cons]; omega, by simp, fun w hw => ?_⟩
          · show c :: d :: t = [c, d - 48 + 48] ++ t
            rw [Int32.sub_add_cancel]
            rfl
          · rcases List.mem_cons.mp hw with q | q
            · rw [q]; exact ⟨fgr_ok h1 d h3, fun c => absurd h1 c⟩
            · exact a4 w q
      · rw [if_neg h3] at h
        dsimp only at h
        omega
    · rw [if_neg h1] at h ⊢
      by_cases h2 : bre c
      · rw [if_pos h2] at h ⊢
        obtain ⟨a1, a2, a3, a4⟩ := pWd_ok n (p + 1) (d :: t) h
        dsimp only at h ⊢
        rw [enW_c, if_neg h1, ← a1]
        refine ⟨rfl, by simp only [List.length_cons]; omega, by simp, fun w hw => ?_⟩
        rcases List.mem_cons.mp hw with q | q
        · rw [q]; exact ⟨⟨.inl h2, in09 c⟩, fun _ => rfl⟩
        · exact a4 w q
      · rw [if_neg h2] at h
        dsimp only at h
        omega
