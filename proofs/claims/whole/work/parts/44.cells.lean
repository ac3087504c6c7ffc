/-! ===== cells read and set, as rewriting rows; cells made later; the row of duties as a view ===== -/
theorem bsm {α β : Type} (a : α) (f : α → Option β) : (some a).bind f = f a := (Option.bind_some a f).trans (Eq.refl _)
theorem prs {α β γ : Type} (a : α) (b : β) (f : α → β → γ) : prp (a, b) f = f a b := (prp_of a b f).trans (Eq.refl _)
theorem ifs {α : Type} (a : Nat) (x : α) (f : Nat → α) : ifn (some a) x f = f a := (ifn_some a x f).trans (Eq.refl _)
theorem ifz {α : Type} (x : α) (f : Nat → α) : ifn none x f = x := (ifn_none x f).trans (Eq.refl _)
theorem e_cO {α : Type} {S : AH} {b ci : Nat} {fs : List Value} {o : Option α} (h : S[b]? = some (.inr (ci, fs))) : cO S b ci o = o := by
  unfold cO isO
  rw [h]
  simp
theorem e_gI {S : AH} {a ci j : Nat} {fs : List Value} {x : Int32} (h : S[a]? = some (.inr (ci, fs))) (hf : fs[j]? = some (.int x)) : gI S a ci j = some x := by
  unfold gI gF
  rw [h]
  dsimp only
  rw [if_pos rfl, hf]
  rfl
theorem e_gQ {S : AH} {a ci j b : Nat} {fs : List Value} (h : S[a]? = some (.inr (ci, fs))) (hf : fs[j]? = some (.ref b)) : gQ S a ci j = some (some b) := by
  unfold gQ gF
  rw [h]
  dsimp only
  rw [if_pos rfl, hf]
  rfl
theorem e_sI {S : AH} {a ci j : Nat} {fs : List Value} {x : Int32} (h : S[a]? = some (.inr (ci, fs))) (hj : j < fs.length) : sI S a ci j x = some (S.set a (.inr (ci, fs.set j (.int x)))) := by
  unfold sI sF
  rw [h]
  dsimp only
  rw [if_pos ⟨rfl, hj⟩]
theorem e_sQ {S : AH} {a ci j b : Nat} {fs : List Value} (h : S[a]? = some (.inr (ci, fs))) (hj : j < fs.length) : sQ S a ci j (some b) = some (S.set a (.inr (ci, fs.set j (.ref b)))) := by
  unfold sQ sF
  rw [h]
  dsimp only
  rw [if_pos ⟨rfl, hj⟩]
  rfl
theorem e_aA {t a N q : Nat} {S : AH} {f : Nat → Int32} {i : Int32} (h : S[a]? = some (.inl (t, (N, .inl f)))) (hi : i.toInt = q) (hq : q < N) : aA t S (some a) i = some (f q) := by
  unfold aA
  rw [Option.bind_some, h]
  dsimp only
  have hz := zi_n i
  rw [if_pos ⟨rfl, ix_ok (by omega) (by omega)⟩, show i.toNatClampNeg = q by omega]
theorem e_aN {t a N : Nat} {S : AH} {x} (h : S[a]? = some (.inl (t, (N, x)))) (ht : t < 7) : aN S (some a) = some (Int32.ofNat N) := by
  unfold aN
  rw [Option.bind_some, h]
  dsimp only
  rw [if_pos ht]
theorem e_uA {t a N q : Nat} {S : AH} {f : Nat → Int32} {i x : Int32} (h : S[a]? = some (.inl (t, (N, .inl f)))) (hi : i.toInt = q) (hq : q < N) : uA t S (some a) i x = some (S.set a (.inl (t, (N, .inl (upd f q x))))) := by
  unfold uA
  rw [Option.bind_some, h]
  dsimp only
  have hz := zi_n i
  rw [if_pos ⟨rfl, ix_ok (by omega) (by omega)⟩, show i.toNatClampNeg = q by omega]
theorem zo {n : Nat} (h : n < 2147483648) : (Int32.ofNat n).toInt = n := Int32.toInt_ofNat_of_lt h
theorem mc_len (M : MS) : (mcells M).length = 28 := rfl
/-- a cell made later, wherever the others stand -/
def dG (D : List va_E) (a : Nat) (c : va_E) : Prop := ∃ k, a = 54 + k ∧ D[k]? = some c
theorem dG_get {D : List va_E} {a : Nat} {c : va_E} (h : dG D a c) (C : CS) (M : MS) : (mh (ccells C) M D)[a]? = some c := by
  obtain ⟨k, rfl, h⟩ := h
  unfold mh
  rw [List.getElem?_append_right (by rw [cc_len]; omega), cc_len, List.getElem?_append_right (by rw [mc_len]; omega), mc_len, show 54 + k - 26 - 28 = k by omega]
  exact h
theorem dG_ge {D : List va_E} {a : Nat} {c : va_E} (h : dG D a c) : 54 ≤ a := by
  obtain ⟨k, rfl, -⟩ := h
  omega
theorem dG_app {D X : List va_E} {a : Nat} {c : va_E} (h : dG D a c) : dG (D ++ X) a c := by
  obtain ⟨k, rfl, h⟩ := h
  refine ⟨k, rfl, ?_⟩
  have hl := (List.getElem?_eq_some_iff.mp h).1
  rw [List.getElem?_append_left hl]
  exact h
theorem mh_len (C : CS) (M : MS) (D : List va_E) : (mh (ccells C) M D).length = 54 + D.length := by
  unfold mh
  rw [List.length_append, List.length_append, cc_len, mc_len]
  omega
theorem mh_low (C : CS) (M : MS) (D X : List va_E) {k : Nat} (h : k < 54 + D.length) : (mh (ccells C) M (D ++ X))[k]? = (mh (ccells C) M D)[k]? := by
  have e : mh (ccells C) M (D ++ X) = mh (ccells C) M D ++ X := by
    unfold mh
    rw [List.append_assoc, List.append_assoc]
  rw [e, List.getElem?_append_left (by rw [mh_len]; exact h)]
theorem mh_app (C : CS) (M : MS) (D X : List va_E) : mh (ccells C) M D ++ X = mh (ccells C) M (D ++ X) := by
  unfold mh
  rw [List.append_assoc, List.append_assoc]
/-- a heap of which only some cells changed -/
def hF (S S' : AH) (xs : List Nat) : Prop := S'.length = S.length ∧ ∀ k, k ∉ xs → S'[k]? = S[k]?
theorem hF.rfl {S : AH} {xs : List Nat} : hF S S xs := ⟨Eq.refl _, fun _ _ => Eq.refl _⟩
theorem hF.trans {S S1 S2 : AH} {xs : List Nat} (h : hF S S1 xs) (h2 : hF S1 S2 xs) : hF S S2 xs := ⟨h2.1.trans h.1, fun k q => (h2.2 k q).trans (h.2 k q)⟩
theorem hF_set {S : AH} {a : Nat} {c : va_E} {xs : List Nat} (h : a ∈ xs) : hF S (S.set a c) xs := ⟨List.length_set, fun k q => List.getElem?_set_ne (fun e : a = k => q (e ▸ h))⟩
theorem set_at {S : AH} {a : Nat} {c c0 : va_E} (h : S[a]? = some c0) : (S.set a c)[a]? = some c := by
  rw [List.getElem?_set_self (List.getElem?_eq_some_iff.mp h).1]
theorem set_ne {S : AH} {a b : Nat} {c : va_E} (h : a ≠ b) : (S.set a c)[b]? = S[b]? := List.getElem?_set_ne h
/-- only the row of what is left changed: the class's cells again -/
theorem mh_left {C : CS} {M : MS} {D : List va_E} {S' : AH} {sz : Int32} {f : Nat → Int32} (hh : hF (mh (ccells C) M D) S' [12, 13]) (h11 : S'[12]? = some (.inr (2, [.ref 13, .int sz]))) (h12 : S'[13]? = some (.inl (0, (12, .inl f)))) : S' = mh (ccells (c1 (c2 C 4 f) 14 sz)) M D := by
  apply List.ext_getElem?
  intro i
  have e : mh (ccells (c1 (c2 C 4 f) 14 sz)) M D = ((mh (ccells C) M D).set 12 (.inr (2, [.ref 13, .int sz]))).set 13 (.inl (0, (12, .inl f))) := rfl
  by_cases h1 : i = 12
  · subst h1
    exact h11
  · by_cases h2 : i = 13
    · subst h2
      exact h12
    · rw [hh.2 i (by simp only [List.mem_cons, List.not_mem_nil, or_false]; omega), e, List.getElem?_set_ne (by omega), List.getElem?_set_ne (by omega)]
/-- a row of duties at a, its numbers at r: what it holds -/
def dV (S : AH) (a r : Nat) (ps : List Int32) : Prop := ∃ (f : Nat → Int32) (sz : Int32), S[a]? = some (.inr (2, [.ref r, .int sz])) ∧ S[r]? = some (.inl (0, (12, .inl f))) ∧ sz.toInt = ps.length ∧ ps.length ≤ 12 ∧ ∀ (i : Nat) (x : Int32), ps[i]? = some x → f i = x
theorem dV_size {S : AH} {a r : Nat} {ps : List Int32} (h : dV S a r ps) : cO S a 2 (X2_size S a) = some (Int32.ofNat ps.length, S) := by
  obtain ⟨f, sz, h1, h2, h3, h4, h5⟩ := h
  rw [e_cO h1]
  unfold X2_size X2_size_0
  rw [e_gI h1 rfl, bsm, zi_eq.mpr (h3.trans (zo (by omega)).symm)]
theorem dV_sz {S : AH} {a r : Nat} {ps : List Int32} (h : dV S a r ps) : gI S a 2 1 = some (Int32.ofNat ps.length) := by
  obtain ⟨f, sz, h1, h2, h3, h4, h5⟩ := h
  rw [e_gI h1 rfl, zi_eq.mpr (h3.trans (zo (by omega)).symm)]
theorem dV_at {S : AH} {a r : Nat} {ps : List Int32} (h : dV S a r ps) {i : Int32} {k : Nat} (hi : i.toInt = k) : cO S a 2 (X2_at S a i) = some (ps.getD k 0, S) := by
  obtain ⟨f, sz, h1, h2, h3, h4, h5⟩ := h
  rw [e_cO h1]
  have e0 : (0 : Int32).toInt = 0 := rfl
  unfold X2_at X2_at_0 X2_at_30 X2_at_31
  rw [if_neg (by rw [zi_lt]; omega), e_gI h1 rfl, bsm]
  by_cases q : k < ps.length
  · rw [if_neg (by rw [zi_le]; omega), e_gQ h1 rfl, bsm, e_aN h2 (by omega), bsm, if_neg (by rw [zi_le, zo (by omega)]; omega), bsm, e_aA h2 hi (by omega), bsm, h5 k _ (List.getElem?_eq_getElem q), List.getD_eq_getElem?_getD, List.getElem?_eq_getElem q]
    rfl
  · rw [if_pos (by rw [zi_le]; omega), List.getD_eq_getElem?_getD, List.getElem?_eq_none (by omega)]
    rfl
theorem dV_len {S : AH} {a r : Nat} {ps : List Int32} (h : dV S a r ps) : ps.length ≤ 12 := by
  obtain ⟨f, sz, h1, h2, h3, h4, h5⟩ := h
  exact h4
theorem dV_add {S : AH} {a r : Nat} {ps : List Int32} (h : dV S a r ps) (hl : ps.length < 12) (x : Int32) : ∃ S', cO S a 2 (X2_add S a x) = some ((), S') ∧ dV S' a r (ps ++ [x]) ∧ hF S S' [a, r] := by
  obtain ⟨f, sz, h1, h2, h3, h4, h5⟩ := h
  have e0 : (0 : Int32).toInt = 0 := rfl
  have hne : r ≠ a := fun e => by rw [e, h1] at h2; cases h2
  have g1 : (S.set r (.inl (0, (12, .inl (upd f ps.length x)))))[a]? = some (.inr (2, [.ref r, .int sz])) := by rw [set_ne hne]; exact h1
  refine ⟨(S.set r (.inl (0, (12, .inl (upd f ps.length x))))).set a (.inr (2, [.ref r, .int (sz + 1)])), ?_, ⟨upd f ps.length x, sz + 1, set_at g1, ?_, ?_, ?_, fun i y hy => ?_⟩, hF.trans (hF_set (by simp)) (hF_set (by simp))⟩
  · rw [e_cO h1]
    unfold X2_add X2_add_0 X2_add_39
    rw [e_gI h1 rfl, bsm, if_neg (by rw [zi_lt]; omega), bsm, e_gQ h1 rfl, bsm, e_aN h2 (by omega), bsm, if_neg (by rw [zi_le, zo (by omega)]; omega), bsm, bsm, e_uA h2 h3 hl, bsm, e_gI g1 rfl, bsm, e_sI g1 (Nat.lt_succ_self 1), bsm]
    rfl
  · rw [set_ne (Ne.symm hne)]
    exact set_at h2
  · rw [zi_inc h3 (by omega) (by omega), List.length_append]
    simp
  · rw [List.length_append]
    simp only [List.length_cons, List.length_nil]
    omega
  · unfold upd
    by_cases e : i = ps.length
    · subst e
      rw [List.getElem?_append_right (Nat.le_refl _), Nat.sub_self] at hy
      cases hy
      exact if_pos rfl
    · rw [if_neg e]
      by_cases e2 : i < ps.length
      · rw [List.getElem?_append_left e2] at hy
        exact h5 i y hy
      · rw [List.getElem?_eq_none (by rw [List.length_append]; simp only [List.length_cons, List.length_nil]; omega)] at hy
        cases hy
theorem dV_clear {S : AH} {a r : Nat} {ps : List Int32} (h : dV S a r ps) : ∃ S', cO S a 2 (X2_clear S a) = some ((), S') ∧ dV S' a r [] ∧ hF S S' [a, r] := by
  obtain ⟨f, sz, h1, h2, h3, h4, h5⟩ := h
  have hne : a ≠ r := fun e => by rw [← e, h1] at h2; cases h2
  refine ⟨S.set a (.inr (2, [.ref r, .int 0])), ?_, ⟨f, 0, set_at h1, ?_, rfl, Nat.zero_le _, fun i y hy => by cases hy⟩, hF_set (by simp)⟩
  · rw [e_cO h1]
    unfold X2_clear X2_clear_0
    rw [e_sI h1 (Nat.lt_succ_self 1), bsm]
    rfl
  · rw [set_ne hne]
    exact h2
theorem dV_frame {S S' : AH} {a r : Nat} {ps : List Int32} (h : dV S a r ps) (h1 : S'[a]? = S[a]?) (h2 : S'[r]? = S[r]?) : dV S' a r ps := by
  obtain ⟨f, sz, q1, q2, q3⟩ := h
  exact ⟨f, sz, h1.trans q1, h2.trans q2, q3⟩
