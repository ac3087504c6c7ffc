def frL (M M' : MS) : Prop := fM M M' [27, 28, 29, 30] [20, 21, 22, 23, 24, 25, 26] []
theorem fM_mono {M M' : MS} {a b c a2 b2 c2 : List Nat} (h : fM M M' a b c) (ha : ∀ k ∈ a, k ∈ a2) (hb : ∀ k ∈ b, k ∈ b2) (hc : ∀ k ∈ c, k ∈ c2) : fM M M' a2 b2 c2 := ⟨fun k q => h.1 k (fun e => q (ha k e)), fun k q => h.2.1 k (fun e => q (hb k e)), fun k q => h.2.2 k (fun e => q (hc k e))⟩
theorem r_left {M : MS} {x st : Int32} {b n : Nat} (hb : b < 6) (hn : n ≤ 12) (hx : x.toInt = b) (h8 : (M.2.1 8 b).toInt = n) : (pAll 13 (lwL (M.2.1 6) (M.2.1 7) b st 0 n) = none → ∃ M', X8_readsLeft M x st = some (0, M') ∧ frL M M') ∧ ∀ ds, pAll 13 (lwL (M.2.1 6) (M.2.1 7) b st 0 n) = some ds → ∃ M', X8_readsLeft M x st = some (1, M') ∧ pst M' (12 * b) [] ds ∧ frL M M' := by
  have e12 : (12 : Int32).toInt = 12 := rfl
  have h30 : (12 * x).toInt = ((12 * b : Nat) : Int) := by
    rw [zi_mul (by rw [e12]; omega) (by rw [e12]; omega), e12]
    omega
  obtain ⟨M1, e1, e2, e3⟩ := r_15 b n hb hn st x hx n 0 FU (si (si M 30 (12 * x)) 27 0) [] 0 (by omega) (by unfold FU; omega) rfl h8 h30 rfl (Nat.le_refl _) (fun i w hw => by cases hw)
  have hl := lwL_len (M.2.1 6) (M.2.1 7) b st n 0
  obtain ⟨p, q⟩ := r_73 13 _ M1 (12 * b) [] FU e2 (by show (lwL (M.2.1 6) (M.2.1 7) b st 0 n).length < 13; omega) (by unfold FU; omega)
  have f0 : frL M (si (si M 30 (12 * x)) 27 0) := fM.trans (fM_si (by decide)) (fM_si (by decide))
  have f1 : frL (si (si M 30 (12 * x)) 27 0) M1 := fM_mono e3 (by decide) (by decide) (by decide)
  unfold X8_readsLeft X8_readsLeft_0
  rw [e1]
  refine ⟨fun e => ?_, fun ds e => ?_⟩
  · obtain ⟨M2, g1, g2⟩ := p e
    rw [g1]
    exact ⟨M2, zg_z _ _ (.inl rfl), fM.trans f0 (fM.trans f1 (fM_mono g2 (by decide) (by decide) (by decide)))⟩
  · obtain ⟨M2, g1, g2, g3⟩ := q ds e
    rw [g1]
    exact ⟨M2, zg_z _ _ (.inr rfl), g2, fM.trans f0 (fM.trans f1 (fM_mono g3 (by decide) (by decide) (by decide)))⟩
