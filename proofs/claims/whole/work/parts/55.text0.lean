/-! ===== text(0): a bargain more on both sides ===== -/
theorem mh_hi (C : CS) (M : MS) (D : List va_E) {k : Nat} (h : 54 ≤ k) : (mh (ccells C) M D)[k]? = D[k - 54]? := by
  unfold mh
  rw [List.getElem?_append_right (by rw [cc_len]; omega), cc_len, List.getElem?_append_right (by rw [mc_len]; omega), mc_len, show k - 26 - 28 = k - 54 by omega]
def BVD (D : List va_E) (b : Nat) (zl : List Wd) : Prop := ∀ (C : CS) (M : MS), BV (mh (ccells C) M D) b zl
theorem BVD_of {C : CS} {M : MS} {D : List va_E} {b : Nat} {zl : List Wd} (h : BV (mh (ccells C) M D) b zl) : BVD D b zl := fun C2 M2 => BV_frame h (fun k hk _ => by rw [mh_hi C2 M2 D hk, mh_hi C M D hk])
theorem BVD_app {D X : List va_E} {b : Nat} {zl : List Wd} (h : BVD D b zl) : BVD (D ++ X) b zl := fun C M => BV_frame (h C M) (fun k _ hl => mh_low C M D X (by rw [mh_len] at hl; exact hl))
def okB (zl : List Wd) : Prop := zl.length ≤ 12 ∧ zl ≠ [] ∧ ∀ w ∈ zl, okW w
def iBs (n7 : Int32) (row : Nat → Option Nat) (D : List va_E) (M : MS) : Prop := n7 = M.1 0 ∧ 0 ≤ n7.toInt ∧ n7.toInt ≤ 6 ∧ (∀ b : Nat, (b : Int) < n7.toInt → ∃ zl ob, okB zl ∧ row b = some ob ∧ BVD D ob zl ∧ rBg M b zl) ∧ ∀ b : Nat, n7.toInt ≤ (b : Int) → row b = none
theorem rBg_M {M M' : MS} {b : Nat} {zl : List Wd} (h6 : M'.2.1 6 = M.2.1 6) (h7 : M'.2.1 7 = M.2.1 7) (h8 : M'.2.1 8 = M.2.1 8) (h : rBg M b zl) : rBg M' b zl := by
  unfold rBg at h ⊢
  rw [h6, h7, h8]
  exact h
theorem iBs_M {n7 : Int32} {row : Nat → Option Nat} {D : List va_E} {M M' : MS} (h0 : M'.1 0 = M.1 0) (h6 : M'.2.1 6 = M.2.1 6) (h7 : M'.2.1 7 = M.2.1 7) (h8 : M'.2.1 8 = M.2.1 8) (h : iBs n7 row D M) : iBs n7 row D M' := by
  obtain ⟨a1, a2, a3, a4, a5⟩ := h
  refine ⟨a1.trans h0.symm, a2, a3, fun b hb => ?_, a5⟩
  obtain ⟨zl, ob, b1, b2, b3, b4⟩ := a4 b hb
  exact ⟨zl, ob, b1, b2, b3, rBg_M h6 h7 h8 b4⟩
theorem iBs_app {n7 : Int32} {row : Nat → Option Nat} {D X : List va_E} {M : MS} (h : iBs n7 row D M) : iBs n7 row (D ++ X) M := by
  obtain ⟨a1, a2, a3, a4, a5⟩ := h
  refine ⟨a1, a2, a3, fun b hb => ?_, a5⟩
  obtain ⟨zl, ob, b1, b2, b3, b4⟩ := a4 b hb
  exact ⟨zl, ob, b1, b2, BVD_app b3, b4⟩
theorem rBg_frW {M M' : MS} {b b2 : Nat} {zl : List Wd} (h : frW b M M') (hne : b2 ≠ b) (hl : zl.length ≤ 12) (hB : rBg M b2 zl) : rBg M' b2 zl := by
  obtain ⟨h1, h2, h3⟩ := h
  refine ⟨by rw [h2 b2 hne]; exact hB.1, fun i w hw => ?_⟩
  have hi := (List.getElem?_eq_some_iff.mp hw).1
  obtain ⟨e6, e7⟩ := h3 (12 * b2 + i) (by omega)
  rw [e6, e7]
  exact hB.2 i w hw
theorem range_get (f : Nat → Int32) (n i : Nat) (x : Int32) (h : ((List.range n).map f)[i]? = some x) : i < n ∧ x = f i := by
  rw [List.getElem?_map] at h
  by_cases q : i < n
  · rw [List.getElem?_range q] at h
    exact ⟨q, (Option.some.inj h).symm⟩
  · rw [List.getElem?_eq_none (by rw [List.length_range]; omega)] at h
    cases h
/-- both sides' text as one list of bytes -/
theorem tx_V {C : CS} {M : MS} (h : iTx (C.1 2) (C.2.1 0) (M.1 2) (M.2.1 5)) : ∃ bs : List Int32, (∀ (C' : CS) (M2 : MS) (D : List va_E), C'.1 2 = C.1 2 → C'.2.1 0 = C.2.1 0 → tV (mh (ccells C') M2 D) bs) ∧ rT M bs := by
  obtain ⟨h1, h2, h3, h4⟩ := h
  have hl : ((List.range (C.1 2).toInt.toNat).map (C.2.1 0)).length = (C.1 2).toInt.toNat := by rw [List.length_map, List.length_range]
  refine ⟨(List.range (C.1 2).toInt.toNat).map (C.2.1 0), fun C' M2 D e1 e2 => ?_, ?_, by omega, fun x hx => ?_, fun i x hx => ?_⟩
  · refine ⟨C'.2.1 0, C'.1 2, rfl, rfl, by rw [e1]; omega, by omega, fun i x hx => ?_⟩
    rw [e2]
    exact (range_get _ _ _ _ hx).2.symm
  · rw [← h1]
    omega
  · obtain ⟨i, hi, rfl⟩ := List.mem_map.mp hx
    have hi := List.mem_range.mp hi
    have := h4 i (by omega)
    exact ⟨this.1, this.2.1⟩
  · obtain ⟨hi, rfl⟩ := range_get _ _ _ _ hx
    exact (h4 i (by omega)).2.2
theorem app_of {S S' : AH} {n : Nat} (hl : S'.length = S.length + n) (h : ∀ k, k < S.length → S'[k]? = S[k]?) : ∃ X : AH, S' = S ++ X := by
  refine ⟨S'.drop S.length, ?_⟩
  apply List.ext_getElem?
  intro i
  by_cases q : i < S.length
  · rw [List.getElem?_append_left q]
    exact h i q
  · rw [List.getElem?_append_right (by omega), List.getElem?_drop, show S.length + (i - S.length) = i by omega]
theorem BV_obj {S : AH} {b : Nat} {zl : List Wd} (h : BV S b zl) : ∃ fs, S[b]? = some (.inr (1, fs)) := by
  obtain ⟨w, s, r, d, dr, f, g, hm, -, h1, -⟩ := h
  exact ⟨_, h1⟩
theorem k_addB {C : CS} {M2 : MS} {D : List va_E} {bs : List Int32} {zl : List Wd} (hT : tV (mh (ccells C) M2 D) bs) (hb : bs = enW zl) (hl : zl.length ≤ 12) (hok : ∀ w ∈ zl, okW w ∧ (¬ fgr w.1 → w.2 = 0)) (h0 : 0 ≤ (C.1 0).toInt) (h6 : (C.1 0).toInt < 6) : ∃ X ob, cO (mh (ccells C) M2 D) 0 7 (X7_addBargain (mh (ccells C) M2 D) 0) = some (C.1 0, mh (ccells (c1 (c4 C 0 (va_up (C.2.2.2.1 0) (C.1 0).toNatClampNeg (some ob))) 0 (C.1 0 + 1))) M2 (D ++ X)) ∧ BVD (D ++ X) ob zl := by
  have e0 : (0 : Int32).toInt = 0 := rfl
  have e6 : (6 : Int32).toInt = 6 := rfl
  have hlen := mh_len C M2 D
  obtain ⟨S', i1, i2, i3, i4⟩ := k_init hT (by omega) hb hl hok
  obtain ⟨X, hX⟩ := app_of i2 i3
  rw [mh_app] at hX
  subst hX
  refine ⟨X, (mh (ccells C) M2 D).length, ?_, BVD_of i4⟩
  obtain ⟨fs, ho⟩ := BV_obj i4
  have g1 : gI (mh (ccells C) M2 D) 0 7 8 = some (C.1 0) := rfl
  have g2 : gQ (mh (ccells C) M2 D) 0 7 2 = some (some 6) := rfl
  have g3 : aN (mh (ccells C) M2 D) (some 6) = some 6 := rfl
  have g4 : gQ (nwO 1 (mh (ccells C) M2 D)) 0 7 0 = some (some 1) := by
    unfold nwO
    rw [mh_app]
    rfl
  have hc : cO (mh (ccells C) M2 D) 0 7 (X7_addBargain (mh (ccells C) M2 D) 0) = X7_addBargain (mh (ccells C) M2 D) 0 := rfl
  rw [hc]
  unfold X7_addBargain X7_addBargain_0 X7_addBargain_45
  rw [g1, bsm, if_neg (by rw [zi_lt]; omega), g2, bsm, g3, bsm, if_neg (by rw [zi_le]; omega), bsm, g4, bsm, i1, bsm]
  have hio : isO (mh (ccells C) M2 (D ++ X)) (mh (ccells C) M2 D).length 1 = true := by
    unfold isO
    rw [ho]
    rfl
  have hix : ixOk (C.1 0) 6 = true := ix_ok h0 h6
  have u1 : uQ 4 1 (mh (ccells C) M2 (D ++ X)) (some 6) (C.1 0) (mh (ccells C) M2 D).length = some (mh (ccells (c4 C 0 (va_up (C.2.2.2.1 0) (C.1 0).toNatClampNeg (some (mh (ccells C) M2 D).length)))) M2 (D ++ X)) := by
    show (if _ = _ ∧ _ ∧ _ then _ else _) = _
    rw [if_pos ⟨rfl, hix, hio⟩]
    rfl
  rw [u1, bsm]
  rfl
