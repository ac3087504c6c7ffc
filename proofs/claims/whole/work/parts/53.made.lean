/-! ===== the bargain's constructor; the row of bargains ===== -/
theorem k_dInit (S : AH) : ∃ S', X2_init (nwO 2 S) S.length = some ((), S') ∧ S'.length = S.length + 2 ∧ (∀ k, k < S.length → S'[k]? = S[k]?) ∧ dV S' S.length (S.length + 1) [] := by
  have a1 : (nwO 2 S)[S.length]? = some (.inr (2, [.null, .int 0])) := app_at S _
  have l1 : (nwO 2 S).length = S.length + 1 := by
    unfold nwO
    rw [List.length_append]
    rfl
  have a2 : (nwO 2 S ++ [.inl (0, (12, .inl (fun _ => 0)))])[S.length]? = some (.inr (2, [.null, .int 0])) := by
    rw [app_lo (by omega)]
    exact a1
  refine ⟨(nwO 2 S ++ [(.inl (0, (12, .inl (fun _ => 0))) : va_E)]).set S.length (.inr (2, [.ref (S.length + 1), .int 0])), ?_, ?_, fun k hk => ?_, ⟨fun _ => 0, 0, set_at a2, ?_, rfl, Nat.zero_le _, fun i x hx => by cases hx⟩⟩
  · unfold X2_init X2_init_0
    rw [show (12 : Int32) = nI 12 from rfl, e_nwA (nwO 2 S) (Nat.le_refl 12) (by omega), bsm, prs, l1, e_sQ a2 (Nat.zero_lt_succ 1), bsm]
    rfl
  · rw [List.length_set, List.length_append, l1]
    rfl
  · rw [set_ne (by omega), app_lo (by omega)]
    unfold nwO
    rw [app_lo hk]
  · rw [set_ne (by omega), ← l1]
    exact app_at _ _
theorem rd_iff (zl : List Wd) (hl : zl.length ≤ 12) (st : Int32) : (pAll 13 (lfI st 0 zl) = none → (rnA 0 (lfI st 0 zl)).toInt < 6) ∧ ∀ ds, pAll 13 (lfI st 0 zl) = some ds → 6 ≤ (rnA 0 (lfI st 0 zl)).toInt := by
  have hn : ∀ (l : List Wd) (k : Nat), (lfI st k l).length ≤ l.length := by
    intro l
    induction l with
    | nil => exact fun k => Nat.le_refl _
    | cons w t ih =>
      intro k
      unfold lfI
      have := ih (k + 1)
      by_cases h : bt st k
      · rw [if_pos h, List.length_cons]; omega
      · rw [if_neg h, List.length_cons, List.length_cons]; omega
  have := hn zl 0
  exact all_run 13 (lfI st 0 zl) (by omega)
theorem e_set {S : AH} {b : Nat} {x y z t : Value} (h : S[b]? = some (.inr (1, [x, y, z, t]))) (j : Nat) (hj : j < 4) (a : Nat) : sQ S b 1 j (some a) = some (S.set b (.inr (1, [x, y, z, t].set j (.ref a)))) := e_sQ h hj
theorem k_readable {S : AH} {b s n : Nat} {g : Nat → Int32} {fs : List Value} {y : Int32} {k : Nat} (h : S[b]? = some (.inr (1, fs))) (hf : fs[1]? = some (.ref s)) (hs : S[s]? = some (.inl (2, (n, .inl g)))) (hn : n < 2147483648) (hy : y.toInt = k) (hk : k < n) : cO S b 1 (X1_isReadable S b y) = some (if 6 ≤ g k then 1 else 0, S) := by
  have e0 : (0 : Int32).toInt = 0 := rfl
  have e6 : (6 : Int32).toInt = 6 := rfl
  rw [e_cO h]
  unfold X1_isReadable X1_isReadable_0 X1_isReadable_28 X1_isReadable_29
  rw [if_neg (by rw [zi_lt]; omega), e_gQ h hf, bsm, e_aN hs (by omega), bsm, if_neg (by rw [zi_le, zo hn]; omega), bsm, e_aA hs hy hk, bsm]
  by_cases q : g k < 6
  · have q2 := zi_lt.mp q
    rw [if_pos q, if_neg (by rw [zi_le]; omega)]
    exact zg_z _ _ (.inl rfl)
  · have q2 := mt zi_lt.mpr q
    rw [if_neg q, if_pos (by rw [zi_le]; omega)]
    exact zg_z _ _ (.inr rfl)
theorem k_init {S : AH} {bs : List Int32} {zl : List Wd} (hT : tV S bs) (hS : 54 ≤ S.length) (hb : bs = enW zl) (hl : zl.length ≤ 12) (hok : ∀ w ∈ zl, okW w ∧ (¬ fgr w.1 → w.2 = 0)) : ∃ S', X1_init (nwO 1 S) S.length (some 1) = some ((), S') ∧ S'.length = S.length + 6 ∧ (∀ k, k < S.length → S'[k]? = S[k]?) ∧ BV S' S.length zl := by
  have l0 : (nwO 1 S).length = S.length + 1 := by
    unfold nwO
    rw [List.length_append]
    rfl
  have a0 : (nwO 1 S)[S.length]? = some (.inr (1, [.null, .null, .null, .null])) := app_at S _
  have lo0 : ∀ k, k < S.length → (nwO 1 S)[k]? = S[k]? := fun k hk => app_lo hk
  generalize hL : S.length = L at *
  generalize nwO 1 S = S1 at *
  have hp3 : (2 : Nat) ^ zl.length ≤ 2 ^ 12 := Nat.pow_le_pow_right (by omega) (by omega)
  have hp0 : 0 < (2 : Nat) ^ zl.length := Nat.two_pow_pos _
  obtain ⟨S2, i1, i2, i3, i4⟩ := k_dInit S1
  rw [l0] at i1 i2 i3 i4
  have b2 : S2[L]? = some (.inr (1, [.null, .null, .null, .null])) := by rw [i3 L (by omega)]; exact a0
  have T2 : tV S2 bs := tV_frame hT (by rw [i3 1 (by omega), lo0 1 (by omega)]) (by rw [i3 2 (by omega), lo0 2 (by omega)])
  have e3 := e_set b2 3 (by omega) (L + 1)
  have b3 := set_at (c := .inr (1, [.null, .null, .null, .ref (L + 1)])) b2
  have n3 : ∀ k, k ≠ L → (S2.set L (.inr (1, [.null, .null, .null, .ref (L + 1)])))[k]? = S2[k]? := fun k hk => set_ne (Ne.symm hk)
  have m3 : (S2.set L (.inr (1, [.null, .null, .null, .ref (L + 1)]))).length = L + 3 := by rw [List.length_set, i2]
  have e3 : sQ S2 L 1 3 (some (L + 1)) = some (S2.set L (.inr (1, [.null, .null, .null, .ref (L + 1)]))) := e3
  generalize S2.set L (.inr (1, [.null, .null, .null, .ref (L + 1)])) = S3 at *
  have T3 : tV S3 bs := tV_frame T2 (n3 1 (by omega)) (n3 2 (by omega))
  obtain ⟨S4, f, j1, j2, j3, j4, j5⟩ := k_wordsOf T3 (by omega) hb hl hok
  rw [m3] at j1 j2 j3 j4
  have b4 : S4[L]? = some (.inr (1, [.null, .null, .null, .ref (L + 1)])) := by rw [j4 L (by omega)]; exact b3
  have e5 : sQ S4 L 1 0 (some (L + 3)) = some (S4.set L (.inr (1, [.ref (L + 3), .null, .null, .ref (L + 1)]))) := e_set b4 0 (by omega) (L + 3)
  have b5 := set_at (c := .inr (1, [.ref (L + 3), .null, .null, .ref (L + 1)])) b4
  have n5 : ∀ k, k ≠ L → (S4.set L (.inr (1, [.ref (L + 3), .null, .null, .ref (L + 1)])))[k]? = S4[k]? := fun k hk => set_ne (Ne.symm hk)
  have m5 : (S4.set L (.inr (1, [.ref (L + 3), .null, .null, .ref (L + 1)]))).length = L + 4 := by rw [List.length_set, j3]
  generalize S4.set L (.inr (1, [.ref (L + 3), .null, .null, .ref (L + 1)])) = S5 at *
  have w5 : S5[L + 3]? = some (.inl (0, (zl.length, .inl f))) := by rw [n5 (L + 3) (by omega)]; exact j2
  obtain ⟨S6, g, q1, q2, q3, q4, q5⟩ := k_statesOf (fun w hw => (hok w hw).1) hl j5 w5
  rw [m5] at q1 q2 q3 q4
  have b6 : S6[L]? = some (.inr (1, [.ref (L + 3), .null, .null, .ref (L + 1)])) := by rw [q4 L (by omega)]; exact b5
  have e7 : sQ S6 L 1 1 (some (L + 4)) = some (S6.set L (.inr (1, [.ref (L + 3), .ref (L + 4), .null, .ref (L + 1)]))) := e_set b6 1 (by omega) (L + 4)
  have b7 := set_at (c := .inr (1, [.ref (L + 3), .ref (L + 4), .null, .ref (L + 1)])) b6
  have n7 : ∀ k, k ≠ L → (S6.set L (.inr (1, [.ref (L + 3), .ref (L + 4), .null, .ref (L + 1)])))[k]? = S6[k]? := fun k hk => set_ne (Ne.symm hk)
  have m7 : (S6.set L (.inr (1, [.ref (L + 3), .ref (L + 4), .null, .ref (L + 1)]))).length = L + 5 := by rw [List.length_set, q3]
  generalize S6.set L (.inr (1, [.ref (L + 3), .ref (L + 4), .null, .ref (L + 1)])) = S7 at *
  have s7 : S7[L + 4]? = some (.inl (2, (2 ^ zl.length, .inl g))) := by rw [n7 (L + 4) (by omega)]; exact q2
  obtain ⟨S8, h, r1, r2, r3, r4, r5⟩ := k_readingsOf (by omega) s7
  have hRD : rdF (fun s => decide (6 ≤ (g s).toInt)) (2 ^ zl.length) = RDs zl := by
    unfold RDs rdF
    apply List.filter_congr
    intro x hx
    rw [q5 x (List.mem_range.mp hx)]
  rw [m7] at r1 r2 r3 r4
  rw [hRD] at r2 r5
  have b8 : S8[L]? = some (.inr (1, [.ref (L + 3), .ref (L + 4), .null, .ref (L + 1)])) := by rw [r4 L (by omega)]; exact b7
  have e9 : sQ S8 L 1 2 (some (L + 5)) = some (S8.set L (.inr (1, [.ref (L + 3), .ref (L + 4), .ref (L + 5), .ref (L + 1)]))) := e_set b8 2 (by omega) (L + 5)
  have b9 := set_at (c := .inr (1, [.ref (L + 3), .ref (L + 4), .ref (L + 5), .ref (L + 1)])) b8
  have n9 : ∀ k, k ≠ L → (S8.set L (.inr (1, [.ref (L + 3), .ref (L + 4), .ref (L + 5), .ref (L + 1)])))[k]? = S8[k]? := fun k hk => set_ne (Ne.symm hk)
  have m9 : (S8.set L (.inr (1, [.ref (L + 3), .ref (L + 4), .ref (L + 5), .ref (L + 1)]))).length = L + 6 := by rw [List.length_set, r3]
  generalize S8.set L (.inr (1, [.ref (L + 3), .ref (L + 4), .ref (L + 5), .ref (L + 1)])) = S9 at *
  have lo9 : ∀ k, k < L → S9[k]? = S[k]? := fun k hk => by
    rw [n9 k (by omega), r4 k (by omega), n7 k (by omega), q4 k (by omega), n5 k (by omega), j4 k (by omega), n3 k (by omega), i3 k (by omega), lo0 k hk]
  have w9 : S9[L + 3]? = some (.inl (0, (zl.length, .inl f))) := by rw [n9 (L + 3) (by omega), r4 (L + 3) (by omega), n7 (L + 3) (by omega), q4 (L + 3) (by omega), w5]
  have s9 : S9[L + 4]? = some (.inl (2, (2 ^ zl.length, .inl g))) := by rw [n9 (L + 4) (by omega), r4 (L + 4) (by omega), s7]
  have r9 : S9[L + 5]? = some (.inl (0, ((RDs zl).length, .inl h))) := by rw [n9 (L + 5) (by omega), r2]
  have d9 : dV S9 (L + 1) (L + 1 + 1) [] := dV_frame i4 (by rw [n9 (L + 1) (by omega), r4 (L + 1) (by omega), n7 (L + 1) (by omega), q4 (L + 1) (by omega), n5 (L + 1) (by omega), j4 (L + 1) (by omega), n3 (L + 1) (by omega)]) (by rw [n9 (L + 1 + 1) (by omega), r4 (L + 1 + 1) (by omega), n7 (L + 1 + 1) (by omega), q4 (L + 1 + 1) (by omega), n5 (L + 1 + 1) (by omega), j4 (L + 1 + 1) (by omega), n3 (L + 1 + 1) (by omega)])
  have base : X1_init S1 L (some 1) = (cO S9 L 1 (X1_isReadable S9 L 0)).bind fun r14 => if r14.1 = 0 then X1_init_62 r14.2 L else (gQ r14.2 L 1 3).bind fun x15 => (cO r14.2 L 1 (X1_tellDuties r14.2 L 0 x15)).bind fun r16 => X1_init_62 r16.2 L := by
    unfold X1_init X1_init_0
    rw [l0, i1, bsm, e3, bsm, j1, bsm, prs, e5, bsm, e_gQ b5 rfl, bsm, q1, bsm, prs, e7, bsm, e_gQ b7 rfl, bsm, r1, bsm, prs, e9, bsm]
  have hst0 : g 0 = rnA 0 (lfI 0 0 zl) := q5 0 hp0
  obtain ⟨rn, rs⟩ := rd_iff zl hl 0
  have e6 : (6 : Int32).toInt = 6 := rfl
  rw [base, k_readable b9 rfl s9 (by omega) (show (0 : Int32).toInt = ((0 : Nat) : Int) from rfl) hp0, bsm, i01, hst0]
  cases hp : pAll 13 (lfI 0 0 zl) with
  | none =>
    have := rn hp
    rw [if_neg (by rw [zi_le]; omega)]
    exact ⟨S9, rfl, m9, lo9, L + 3, L + 4, L + 5, L + 1, L + 1 + 1, f, g, h, by omega, b9, w9, j5, s9, q5, r9, r5, fun ds hd => by rw [hp] at hd; cases hd⟩
  | some ds =>
    have := rs ds hp
    rw [if_pos (by rw [zi_le]; omega)]
    dsimp only
    rw [e_gQ b9 rfl, bsm]
    have hw9 : wV S9 L (L + 3) zl := ⟨_, f, b9, rfl, w9, j5⟩
    obtain ⟨S', t1, t2, t3, t4⟩ := k_tell hl (fun w hw => (hok w hw).1) (show L ≠ L + 1 by omega) (show L ≠ L + 1 + 1 by omega) (show L + 3 ≠ L + 1 by omega) (show L + 3 ≠ L + 1 + 1 by omega) hw9 d9 hp
    rw [t1, bsm]
    have hh : ∀ k, k ≠ L + 1 → k ≠ L + 1 + 1 → S'[k]? = S9[k]? := fun k x1 x2 => t4.2 k (by simp [x1, x2])
    refine ⟨S', rfl, by rw [t4.1, m9], fun k hk => by rw [hh k (by omega) (by omega), lo9 k hk], L + 3, L + 4, L + 5, L + 1, L + 1 + 1, f, g, h, by omega, ?_, ?_, j5, ?_, q5, ?_, r5, fun ds2 hd => ?_⟩
    · rw [hh L (by omega) (by omega)]
      exact b9
    · rw [hh (L + 3) (by omega) (by omega)]
      exact w9
    · rw [hh (L + 4) (by omega) (by omega)]
      exact s9
    · rw [hh (L + 5) (by omega) (by omega)]
      exact r9
    · rw [hp] at hd
      cases hd
      exact t2
