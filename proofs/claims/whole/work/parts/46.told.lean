/-! ===== the class tells what is left: a row of duties ===== -/
theorem dV_put {S : AH} {a r : Nat} {ps : List Int32} (h : dV S a r ps) {i : Int32} {k : Nat} (x : Int32) (hi : i.toInt = k) (hk : k < ps.length) : ∃ S', gQ S a 2 0 = some (some r) ∧ aN S (some r) = some (Int32.ofNat 12) ∧ aA 0 S (some r) i = some (ps.getD k 0) ∧ uA 0 S (some r) i x = some S' ∧ dV S' a r (ps.set k x) ∧ hF S S' [a, r] := by
  obtain ⟨f, sz, h1, h2, h3, h4, h5⟩ := h
  have hne : r ≠ a := fun e => by rw [e, h1] at h2; cases h2
  refine ⟨S.set r (.inl (0, (12, .inl (upd f k x)))), e_gQ h1 rfl, e_aN h2 (by omega), ?_, e_uA h2 hi (by omega), ⟨upd f k x, sz, ?_, set_at h2, ?_, ?_, fun j y hy => ?_⟩, hF_set (by simp)⟩
  · rw [e_aA h2 hi (by omega), h5 k _ (List.getElem?_eq_getElem hk), List.getD_eq_getElem?_getD, List.getElem?_eq_getElem hk]
    rfl
  · rw [set_ne hne]
    exact h1
  · rw [List.length_set]
    exact h3
  · rw [List.length_set]
    exact h4
  · unfold upd
    rw [List.getElem?_set] at hy
    by_cases e : j = k
    · subst e
      rw [if_pos rfl, if_pos hk] at hy
      cases hy
      exact if_pos rfl
    · rw [if_neg e]
      rw [if_neg (fun c => e c.symm)] at hy
      exact h5 j y hy
theorem sd_loop {a r : Nat} (wh v : Int32) (F : Dt → Dt) : ∀ (rest pre : List Dt) (fn : Nat) (S : AH) (y : Int32), dV S a r ((pre ++ rest).map dpk) → y.toInt = pre.length → rest.length < fn → (∀ z ∈ rest, ((dpk z &&& (((31 : Int32) <<< (wh &&& 31)) ^^^ (-1))) ||| (v <<< (wh &&& 31))) = dpk (F z)) → ∃ S', X2_setDigit_7 fn S a wh v y = some ((), S') ∧ dV S' a r ((pre ++ rest.map F).map dpk) ∧ hF S S' [a, r]
  | [], pre, fn, S, y, h, hy, hf, hz => by
    obtain ⟨fn, rfl⟩ : ∃ q, fn = q + 1 := ⟨fn - 1, by omega⟩
    refine ⟨S, ?_, h, hF.rfl⟩
    unfold X2_setDigit_7 X2_setDigit_57
    have hl := dV_len h
    rw [dV_sz h, bsm, if_pos (by rw [zi_le, zo (by omega), hy]; simp)]
  | z :: rest, pre, fn, S, y, h, hy, hf, hz => by
    simp only [List.length_cons] at hf
    obtain ⟨fn, rfl⟩ : ∃ q, fn = q + 1 := ⟨fn - 1, by omega⟩
    have hl := dV_len h
    have hk : pre.length < ((pre ++ z :: rest).map dpk).length := by simp
    obtain ⟨S1, g1, g2, g3, g4, g5, g6⟩ := dV_put h (dpk (F z)) hy hk
    have e1 : ((pre ++ z :: rest).map dpk).getD pre.length 0 = dpk z := by simp [List.getD_eq_getElem?_getD]
    have e2 : ((pre ++ z :: rest).map dpk).set pre.length (dpk (F z)) = ((pre ++ [F z]) ++ rest).map dpk := by
      simp [List.map_append, List.set_append]
    rw [e2] at g5
    obtain ⟨S2, b1, b2, b3⟩ := sd_loop wh v F rest (pre ++ [F z]) fn S1 (y + 1) g5 (by rw [zi_inc hy (by omega) (by omega)]; simp) (by omega) (fun w hw => hz w (List.mem_cons_of_mem _ hw))
    refine ⟨S2, ?_, ?_, hF.trans g6 b3⟩
    · unfold X2_setDigit_7
      rw [dV_sz h, bsm, if_neg (by rw [zi_le, zo (by omega), hy]; omega), g1, bsm, g2, bsm, if_neg (by rw [zi_le, zo (by omega), hy]; omega), bsm, bsm, g3, bsm, e1, hz z List.mem_cons_self, g4, bsm]
      exact b1
    · rw [List.append_assoc] at b2
      exact b2
/-- the words of a bargain object -/
def wV (S : AH) (b w : Nat) (zl : List Wd) : Prop := ∃ (fs : List Value) (f : Nat → Int32), S[b]? = some (.inr (1, fs)) ∧ fs[0]? = some (.ref w) ∧ S[w]? = some (.inl (0, (zl.length, .inl f))) ∧ ∀ (i : Nat) (v : Wd), zl[i]? = some v → f i = 100 * v.1 + v.2
def okW (w : Wd) : Prop := (bre w.1 ∨ fgr w.1) ∧ in2 w.2 9
theorem okW_n {w : Wd} (h : okW w) : ∃ a b : Nat, a < 128 ∧ b < 10 ∧ w = (nI a, nI b) := by
  obtain ⟨h1, h2⟩ := h
  obtain ⟨b, hb, e2, -⟩ := q_n (k := 9) h2.1 h2.2
  have h1 : ∃ a : Nat, a < 128 ∧ w.1 = nI a := by
    rcases h1 with h1 | h1
    · rcases h1 with e | e | e | e | e | e | e | e
      · exact ⟨97, by omega, e⟩
      · exact ⟨98, by omega, e⟩
      · exact ⟨109, by omega, e⟩
      · exact ⟨121, by omega, e⟩
      · exact ⟨110, by omega, e⟩
      · exact ⟨38, by omega, e⟩
      · exact ⟨44, by omega, e⟩
      · exact ⟨59, by omega, e⟩
    · rcases h1 with e | e | e | e
      · exact ⟨119, by omega, e⟩
      · exact ⟨105, by omega, e⟩
      · exact ⟨102, by omega, e⟩
      · exact ⟨112, by omega, e⟩
  obtain ⟨a, ha, e1⟩ := h1
  exact ⟨a, b, ha, by omega, by rw [← e1, ← e2]⟩
theorem wd_all : ∀ a, a < 128 → ∀ b, b < 10 → (100 * nI a + nI b) / 100 = nI a ∧ (100 * nI a + nI b) - (100 * nI a + nI b) / 100 * 100 = nI b := by decide +kernel
theorem wd_num {w : Wd} (h : okW w) : (100 * w.1 + w.2) / 100 = w.1 ∧ (100 * w.1 + w.2) - (100 * w.1 + w.2) / 100 * 100 = w.2 := by
  obtain ⟨a, b, ha, hb, rfl⟩ := okW_n h
  exact wd_all a ha b hb
def okS (s : tS) : Prop := in2 s.1 1 ∧ in2 s.2.1 1 ∧ in2 s.2.2.1 1 ∧ ∀ z ∈ s.2.2.2.1 ++ s.2.2.2.2, okD z
theorem sLng_ok {z : Dt} {v : Int32} (h : okD z) (hv : in2 v 10) : okD (sLng v z) := ⟨h.1, h.2.1, h.2.2.1, h.2.2.2.1, h.2.2.2.2.1, hv⟩
theorem sFar_ok {z : Dt} {v : Int32} (h : okD z) (hv : in2 v 10) : okD (sFar v z) := ⟨h.1, h.2.1, h.2.2.1, h.2.2.2.1, hv, h.2.2.2.2.2⟩
theorem tst_ok {s : tS} {w : Wd} (hs : okS s) (hw : okW w) : okS (tst s w) := by
  obtain ⟨h1, h2, h3, h4⟩ := hs
  have i0 : in2 0 1 := ⟨by decide, by decide⟩
  have i1 : in2 1 1 := ⟨by decide, by decide⟩
  have hf : in2 w.2 10 := ⟨hw.2.1, by have := hw.2.2; omega⟩
  have hp : in2 (10 + w.2) 19 := by
    have e10 : (10 : Int32).toInt = 10 := rfl
    have := hw.2
    unfold in2 at this ⊢
    rw [zi_add (by omega) (by omega)]
    omega
  have mp : ∀ (F : Dt → Dt), (∀ z, okD z → okD (F z)) → ∀ z ∈ s.2.2.2.1 ++ s.2.2.2.2.map F, okD z := fun F hF z hz => by
    rcases List.mem_append.mp hz with q | q
    · exact h4 z (List.mem_append_left _ q)
    · obtain ⟨v, hv, rfl⟩ := List.mem_map.mp q
      exact hF v (h4 v (List.mem_append_right _ hv))
  have ap : ∀ x, okD x → ∀ z ∈ s.2.2.2.1 ++ (s.2.2.2.2 ++ [x]), okD z := fun x hx z hz => by
    rw [← List.append_assoc] at hz
    rcases List.mem_append.mp hz with q | q
    · exact h4 z q
    · rw [List.mem_singleton.mp q]
      exact hx
  have o10 : in2 10 10 := ⟨by decide, by decide⟩
  have o0 : in2 0 10 := ⟨by decide, by decide⟩
  unfold tst
  split
  · exact ⟨i0, h2, i0, by rw [List.append_nil]; exact h4⟩
  · split
    · exact ⟨i1, h2, i0, by rw [List.append_nil]; exact h4⟩
    · split
      · exact ⟨h1, h2, h3, mp _ (fun z hz => sLng_ok hz hf)⟩
      · split
        · exact ⟨h1, h2, h3, mp _ (fun z hz => sFar_ok hz hf)⟩
        · split
          · exact ⟨h1, i1, h3, h4⟩
          · split
            · exact ⟨h1, h2, i1, h4⟩
            · split
              · exact ⟨h1, h2, h3, ap _ ⟨h1, h2, i0, hp, o0, o0⟩⟩
              · split
                · exact ⟨h1, h2, h3, ap _ ⟨h1, h2, h3, ⟨hf.1, by have := hf.2; show w.2.toInt ≤ 19; omega⟩, o10, o10⟩⟩
                · split
                  · exact ⟨h1, i0, h3, h4⟩
                  · exact ⟨h1, h2, h3, h4⟩
theorem bt_0 {st : Int32} {k : Nat} (h : ¬ bt st k) : ((st >>> (Int32.ofNat k &&& 31)) &&& 1) = 0 := by
  have e := pk_and (st >>> (Int32.ofNat k &&& 31)) (m := 1) 1 rfl
  have h : ¬ ((st >>> (Int32.ofNat k &&& 31)) &&& 1) = 1 := h
  rw [e] at h ⊢
  generalize (st >>> (Int32.ofNat k &&& 31)).toBitVec.toNat = q at h ⊢
  rcases (show q % 2 ^ 1 = 0 ∨ q % 2 ^ 1 = 1 by omega) with c | c
  · rw [c]; rfl
  · rw [c] at h; exact absurd rfl h
theorem bt_1 {st : Int32} {k : Nat} (h : bt st k) : ¬ ((st >>> (Int32.ofNat k &&& 31)) &&& 1) = 0 := by
  have h : ((st >>> (Int32.ofNat k &&& 31)) &&& 1) = 1 := h
  rw [h]
  decide
def lfI (st : Int32) : Nat → List Wd → List Wd
  | _, [] => []
  | k, w :: t => if bt st k then lfI st (k + 1) t else w :: lfI st (k + 1) t
theorem td_len {S : AH} {b w : Nat} {zl : List Wd} (h : wV S b w zl) : gQ S b 1 0 = some (some w) ∧ aN S (some w) = some (Int32.ofNat zl.length) := by
  obtain ⟨fs, f, h1, h2, h3, h4⟩ := h
  exact ⟨e_gQ h1 h2, e_aN h3 (by omega)⟩
theorem td_word {S : AH} {b w k : Nat} {zl : List Wd} {v : Wd} {y : Int32} (h : wV S b w zl) (hk : zl[k]? = some v) (hy : y.toInt = k) : aA 0 S (some w) y = some (100 * v.1 + v.2) := by
  obtain ⟨fs, f, h1, h2, h3, h4⟩ := h
  have hl := (List.getElem?_eq_some_iff.mp hk).1
  rw [e_aA h3 hy hl, h4 k v hk]
theorem wV_frame {S S' : AH} {b w : Nat} {zl : List Wd} (h : wV S b w zl) (h1 : S'[b]? = S[b]?) (h2 : S'[w]? = S[w]?) : wV S' b w zl := by
  obtain ⟨fs, f, q1, q2, q3, q4⟩ := h
  exact ⟨fs, f, h1.trans q1, q2, h2.trans q3, q4⟩
theorem wV_cO {α : Type} {S : AH} {b w : Nat} {zl : List Wd} {o : Option α} (h : wV S b w zl) : cO S b 1 o = o := by
  obtain ⟨fs, f, q1, q2, q3, q4⟩ := h
  exact e_cO q1
