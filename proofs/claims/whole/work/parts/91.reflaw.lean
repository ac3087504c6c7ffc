/-! ===== the reference reads a clause, a law ===== -/
def frEE (c sg : Nat) (M M' : MS) : Prop := fM M M' [3, 4, 16, 17, 18] [12, 13, 14, 15] [] ∧ (∀ k, k < sg → M'.2.1 14 k = M.2.1 14 k) ∧ ∀ k, k ≠ c → M'.2.1 12 k = M.2.1 12 k ∧ M'.2.1 13 k = M.2.1 13 k
theorem r_takesE {M : MS} {bs : List Int32} {p c sg : Nat} {ci : Int32} (hT : rT M bs) (hp : (M.1 3).toInt = p) (hpl : p ≤ bs.length) (hp1 : 1 ≤ p) (hsg : (M.1 16).toInt = sg) (hsg2 : sg + 2 ≤ 400 + p) (hci : ci.toInt = c) (hc : c < 40) : ∃ M', X8_takesE M ci = some (b01 (pEi bs (pPt bs 4) 100 p false false).1, M') ∧ (M'.1 3).toInt = (pEi bs (pPt bs 4) 100 p false false).2.1 ∧ frEE c sg M M' ∧ ((pEi bs (pPt bs 4) 100 p false false).1 = true → (M'.1 16).toInt = ((sg + (pEi bs (pPt bs 4) 100 p false false).2.2.length : Nat) : Int) ∧ (M'.2.1 12 c).toInt = sg ∧ cdR M' c sg (pEi bs (pPt bs 4) 100 p false false).2.2) := by
  have h100 := hT.2.1
  have hm : mAs (si (si M 17 0) 18 0) 12 ci ((si (si M 17 0) 18 0).1 16) = some (sa (si (si M 17 0) 18 0) 12 (upd (M.2.1 12) c (M.1 16))) := mAs_ok (j := 12) hci (by show c < 40; omega)
  have f0 : frEE c sg M (sa (si (si M 17 0) 18 0) 12 (upd (M.2.1 12) c (M.1 16))) := ⟨fM.trans (fM.trans (fM_si (by decide)) (fM_si (by decide))) (fM_sa (by decide)), fun _ _ => rfl, fun k hk => ⟨by
    show upd (M.2.1 12) c (M.1 16) k = _
    unfold upd
    rw [if_neg hk], rfl⟩⟩
  have h12 : (sa (si (si M 17 0) 18 0) 12 (upd (M.2.1 12) c (M.1 16))).2.1 12 c = M.1 16 := by
    show upd (M.2.1 12) c (M.1 16) c = _
    unfold upd
    rw [if_pos rfl]
  have hS : rS (sa (si (si M 17 0) 18 0) 12 (upd (M.2.1 12) c (M.1 16))) bs sg p ([] ++ joL false ++ jaL false) (4 - 4) [] := ⟨hT, hp, rfl, (fun j v h => by cases h), rfl, hsg, (fun j t h => by cases h)⟩
  generalize sa (si (si M 17 0) 18 0) 12 (upd (M.2.1 12) c (M.1 16)) = S1 at hm f0 h12 hS
  have b0 : bnt false = 0 := rfl
  have fQ : ∀ S2 : MS, frQ c sg S1 S2 → frEE c sg M S2 ∧ S2.2.1 12 c = M.1 16 := fun S2 h => ⟨⟨fM.trans f0.1 (fM_mono h.1 (by decide) (by decide) (by simp)), fun k hk => (h.2.1 k hk).trans (f0.2.1 k hk), fun k hk => ⟨by rw [h.1.2.1 12 (by decide)]; exact (f0.2.2 k hk).1, (h.2.2 k hk).trans (f0.2.2 k hk).2⟩⟩, by rw [h.1.2.1 12 (by decide)]; exact h12⟩
  obtain ⟨i1, i2⟩ := rEith (bs := bs) (c := c) (fr := sg) (ci := ci) (o := 4 - 4) (E := 1 + 2 * 4) (pt := pPt bs 4) (by omega) (fun p hp => pPt_ok bs 4 p (by omega) hp) (rPt_all hci hc 4 (Nat.le_refl 4)) (B := []) (.inl rfl) 100 p FU false false S1 [] hS hpl (by simp [b0]) (by simp only [List.length_nil]; omega) (by unfold FU; omega) (by omega)
  unfold X8_takesE X8_takesE_0
  rw [hm, bsm]
  have hle := (pEi4_ok bs p hpl).2.2
  have hle2 := (pEi4_ok bs p hpl).2.1
  generalize pEi bs (pPt bs 4) 100 p false false = s at i1 i2 hle hle2 ⊢
  obtain ⟨v1, v2, v3⟩ := s
  dsimp only at i1 i2 hle hle2 ⊢
  cases v1 with
  | false =>
    obtain ⟨M', x1, x2, x3⟩ := i1 rfl
    exact ⟨M', by rw [x1]; exact zg_z _ _ (.inl rfl), x2, (fQ M' x3).1, (fun x => by cases x)⟩
  | true =>
    obtain ⟨M', fn', x1, x2, x3, x4⟩ := i2 rfl
    obtain ⟨h1, h2, h3, h4, h5, h6, h7⟩ := id x2
    rw [List.nil_append] at h6 h7
    have hle := (hle rfl).1
    obtain ⟨g1, g2⟩ := fQ M' x3
    refine ⟨sa M' 13 (upd (M'.2.1 13) c (M'.1 16)), by rw [x1, F8_end fn' hci hc x2]; exact zg_z _ _ (.inr rfl), h2, ⟨fM.trans g1.1 (fM_sa (by decide)), g1.2.1, fun k hk => ⟨(g1.2.2 k hk).1, ?_⟩⟩, fun _ => ⟨h6, ?_, ?_, ?_, h7⟩⟩
    · show upd (M'.2.1 13) c (M'.1 16) k = _
      unfold upd
      rw [if_neg hk]
      exact (g1.2.2 k hk).2
    · show (M'.2.1 12 c).toInt = _
      rw [g2]
      exact hsg
    · show (upd (M'.2.1 13) c (M'.1 16) c).toInt = _
      unfold upd
      rw [if_pos rfl]
      exact h6
    · omega
def frC8 (c sg : Nat) (M M' : MS) : Prop := fM M M' [3, 4, 16, 17, 18] [10, 11, 12, 13, 14, 15] [] ∧ (∀ k, k < sg → M'.2.1 14 k = M.2.1 14 k) ∧ ∀ k, k ≠ c → M'.2.1 10 k = M.2.1 10 k ∧ M'.2.1 11 k = M.2.1 11 k ∧ M'.2.1 12 k = M.2.1 12 k ∧ M'.2.1 13 k = M.2.1 13 k
theorem frC8.rfl {c sg : Nat} {M : MS} : frC8 c sg M M := ⟨fM.rfl, fun _ _ => Eq.refl _, fun _ _ => ⟨Eq.refl _, Eq.refl _, Eq.refl _, Eq.refl _⟩⟩
theorem frC8.trans {c sg : Nat} {M M1 M2 : MS} (h : frC8 c sg M M1) (h2 : frC8 c sg M1 M2) : frC8 c sg M M2 := ⟨fM.trans h.1 h2.1, fun k q => (h2.2.1 k q).trans (h.2.1 k q), fun k q => ⟨(h2.2.2 k q).1.trans (h.2.2 k q).1, (h2.2.2 k q).2.1.trans (h.2.2 k q).2.1, (h2.2.2 k q).2.2.1.trans (h.2.2 k q).2.2.1, (h2.2.2 k q).2.2.2.trans (h.2.2 k q).2.2.2⟩⟩
theorem frEE_8 {c sg : Nat} {M M' : MS} (h : frEE c sg M M') : frC8 c sg M M' := ⟨fM_mono h.1 (by decide) (by decide) (by simp), h.2.1, fun k q => ⟨by rw [h.1.2.1 10 (by decide)], by rw [h.1.2.1 11 (by decide)], (h.2.2 k q).1, (h.2.2 k q).2⟩⟩
theorem frD_8 {c sg : Nat} {M M' : MS} (h : frD M M') : frC8 c sg M M' := ⟨fM_mono h (by decide) (by simp) (by simp), fun k _ => by rw [h.2.1 14 (by simp)], fun k _ => ⟨by rw [h.2.1 10 (by simp)], by rw [h.2.1 11 (by simp)], by rw [h.2.1 12 (by simp)], by rw [h.2.1 13 (by simp)]⟩⟩
theorem fr8_10 (M : MS) (c sg : Nat) (v : Int32) : frC8 c sg M (sa M 10 (upd (M.2.1 10) c v)) := ⟨fM_sa (by decide), fun _ _ => rfl, fun k hk => ⟨by
  show upd (M.2.1 10) c v k = _
  unfold upd
  rw [if_neg hk], rfl, rfl, rfl⟩⟩
theorem fr8_11 (M : MS) (c sg : Nat) (v : Int32) : frC8 c sg M (sa M 11 (upd (M.2.1 11) c v)) := ⟨fM_sa (by decide), fun _ _ => rfl, fun k hk => ⟨rfl, by
  show upd (M.2.1 11) c v k = _
  unfold upd
  rw [if_neg hk], rfl, rfl⟩⟩
/-- a clause as the reference keeps it -/
def clR (M : MS) (c sg : Nat) (z : Cz) : Prop := M.2.1 10 c = nI z.1 ∧ (z.1 = 2 → M.2.1 11 c = nI z.2.1) ∧ (z.1 = 0 → (M.2.1 12 c).toInt = sg ∧ cdR M c sg z.2.2) ∧ (M.1 16).toInt = ((sg + z.2.2.length : Nat) : Int)
theorem upd_s {f : Nat → Int32} {k : Nat} {v : Int32} : upd f k v k = v := by
  unfold upd
  rw [if_pos rfl]
theorem r_lclause {M : MS} {bs : List Int32} {p c sg : Nat} {ci : Int32} (hT : rT M bs) (hp : (M.1 3).toInt = p) (hpl : p ≤ bs.length) (hsg : (M.1 16).toInt = sg) (hsg2 : sg ≤ 400 + p) (hci : ci.toInt = c) (hc : c < 40) : ∃ M', X8_takesClause M ci = some (b01 (pCz bs p).1, M') ∧ (M'.1 3).toInt = (pCz bs p).2.1 ∧ frC8 c sg M M' ∧ ((pCz bs p).1 = true → clR M' c sg (pCz bs p).2.2) := by
  have h100 := hT.2.1
  have hb := rT_by hT p
  have e3 : (3 : Int32).toInt = 3 := rfl
  unfold X8_takesClause X8_takesClause_0 pCz
  rw [rn_ hT hp, bsm]
  dsimp only
  have m10 : ∀ v : Int32, mAs M 10 ci v = some (sa M 10 (upd (M.2.1 10) c v)) := fun v => mAs_ok (j := 10) hci (by show c < 40; omega)
  have sp0 : (32 : Int32).toInt = 32 := rfl
  by_cases q1 : byA bs p = 98
  · rw [if_pos ((sgn_eq hb (by decide) (by decide)).mpr q1), if_pos q1, m10, bsm]
    obtain ⟨n1, n2, n3⟩ := pNm_ok bs [98, 97, 114, 32] p (by decide) hpl
    obtain ⟨k1, k2, k3⟩ := pNm_ok bs [98, 97, 114] p (by decide) hpl
    have happ := pNm_app bs 32 [98, 97, 114] p
    have happ : pNm bs [98, 97, 114, 32] p = _ := happ
    obtain ⟨M1, i1, i2, i3⟩ := r_takesWord (M := sa M 10 (upd (M.2.1 10) c 0)) (n := 3) wd_bar rfl hT hp hpl
    have g1 : frC8 c sg M M1 := frC8.trans (fr8_10 M c sg 0) (frD_8 i3)
    unfold X8_takesClause_79 X8_takesClause_80
    rw [i1, bsm]
    dsimp only
    rw [b01_i]
    by_cases w : (pNm bs [98, 97, 114] p).1 = true
    · rw [if_pos w] at happ
      have hT1 := rT_D (M := sa M 10 (upd (M.2.1 10) c 0)) hT i3
      rw [if_pos w, r_takes hT1 i2 (by decide) (by decide)]
      have k3 := k3 w
      by_cases w2 : byA bs (pNm bs [98, 97, 114] p).2 = 32
      · have hq := byA_lt w2 (by decide)
        have hval : pNm bs [98, 97, 114, 32] p = (true, (pNm bs [98, 97, 114] p).2 + 1) := by
          rw [happ]
          exact if_pos w2
        rw [if_pos w2, bsm, hval]
        dsimp only
        rw [if_neg (by decide), if_pos rfl]
        have g2 : frD M1 (si M1 3 (M1.1 3 + 1)) := fM_si (by decide)
        have h16 : ((si M1 3 (M1.1 3 + 1)).1 16).toInt = sg := by
          show (M1.1 16).toInt = _
          rw [i3.1 16 (by decide)]
          exact hsg
        have k3 : (pNm bs [98, 97, 114] p).2 = p + 3 := k3
        obtain ⟨M2, j1, j2, j3, j4⟩ := r_takesE (M := si M1 3 (M1.1 3 + 1)) (p := (pNm bs [98, 97, 114] p).2 + 1) (sg := sg) (rT_D hT1 g2) (by
          show (M1.1 3 + 1).toInt = _
          rw [zi_inc i2 (by omega) (by omega)]
          omega) (by omega) (by omega) h16 (by omega) hci hc
        rw [j1, bsm]
        generalize pEi bs (pPt bs 4) 100 ((pNm bs [98, 97, 114] p).2 + 1) false false = s at j2 j4 ⊢
        obtain ⟨v1, v2, v3⟩ := s
        dsimp only at j2 j4 ⊢
        rw [b01_i]
        have g3 : frC8 c sg M M2 := frC8.trans g1 (frC8.trans (frD_8 g2) (frEE_8 j3))
        cases v1 with
        | false =>
          rw [if_neg (by decide)]
          exact ⟨M2, zg_z _ _ (.inl rfl), j2, g3, (fun x => by cases x)⟩
        | true =>
          rw [if_pos rfl]
          obtain ⟨j5, j6, j7⟩ := j4 rfl
          refine ⟨M2, zg_z _ _ (.inr rfl), j2, g3, fun _ => ⟨?_, fun x => absurd x (show ¬ (0 : Nat) = 2 by decide), fun _ => ⟨j6, j7⟩, j5⟩⟩
          rw [j3.1.2.1 10 (by decide), g2.2.1 10 (by simp), i3.2.1 10 (by simp)]
          exact upd_s
      · have hval : pNm bs [98, 97, 114, 32] p = (false, (pNm bs [98, 97, 114] p).2) := by
          rw [happ]
          exact if_neg w2
        rw [if_neg w2, bsm, hval]
        dsimp only
        rw [if_pos rfl, if_neg (by decide)]
        exact ⟨M1, zg_z _ _ (.inl rfl), i2, g1, (fun x => by cases x)⟩
    · rw [if_neg w] at happ
      rw [if_neg w, happ]
      dsimp only
      rw [if_neg (by decide)]
      exact ⟨M1, zg_z _ _ (.inl rfl), i2, g1, (fun x => by cases x)⟩
  rw [if_neg (fun x => q1 ((sgn_eq hb (by decide) (by decide)).mp x)), if_neg q1]
  by_cases q2 : byA bs p = 103
  · rw [if_pos ((sgn_eq hb (by decide) (by decide)).mpr q2), if_pos q2, m10, bsm]
    obtain ⟨M1, i1, i2, i3⟩ := r_takesWord (M := sa M 10 (upd (M.2.1 10) c 1)) (n := 4) wd_give rfl hT hp hpl
    rw [i1, bsm]
    refine ⟨M1, by rw [zg_b], i2, frC8.trans (fr8_10 M c sg 1) (frD_8 i3), fun _ => ⟨?_, fun x => absurd x (by dsimp only; decide), fun x => absurd x (by dsimp only; decide), ?_⟩⟩
    · rw [i3.2.1 10 (by simp)]
      exact upd_s
    · rw [i3.1 16 (by decide)]
      exact hsg
  rw [if_neg (fun x => q2 ((sgn_eq hb (by decide) (by decide)).mp x)), if_neg q2]
  by_cases q3 : byA bs p = 109
  · rw [if_pos ((sgn_eq hb (by decide) (by decide)).mpr q3), if_pos q3, m10, bsm]
    obtain ⟨n1, n2, n3⟩ := pNm_ok bs [109, 111, 115, 116, 32] p (by decide) hpl
    obtain ⟨k1, k2, k3⟩ := pNm_ok bs [109, 111, 115, 116] p (by decide) hpl
    have happ : pNm bs [109, 111, 115, 116, 32] p = _ := pNm_app bs 32 [109, 111, 115, 116] p
    obtain ⟨M1, i1, i2, i3⟩ := r_takesWord (M := sa M 10 (upd (M.2.1 10) c 2)) (n := 4) wd_most rfl hT hp hpl
    have g1 : frC8 c sg M M1 := frC8.trans (fr8_10 M c sg 2) (frD_8 i3)
    unfold X8_takesClause_129
    rw [i1, bsm]
    dsimp only
    rw [b01_i]
    by_cases w : (pNm bs [109, 111, 115, 116] p).1 = true
    · rw [if_pos w] at happ
      have hT1 := rT_D (M := sa M 10 (upd (M.2.1 10) c 2)) hT i3
      rw [if_pos w, r_takes hT1 i2 (by decide) (by decide)]
      by_cases w2 : byA bs (pNm bs [109, 111, 115, 116] p).2 = 32
      · have hq := byA_lt w2 (by decide)
        have hval : pNm bs [109, 111, 115, 116, 32] p = (true, (pNm bs [109, 111, 115, 116] p).2 + 1) := by
          rw [happ]
          exact if_pos w2
        rw [if_pos w2, bsm, hval]
        dsimp only
        rw [if_neg (show ¬ (1 : Int32) = 0 by decide), if_pos rfl]
        have g2 : frD M1 (si M1 3 (M1.1 3 + 1)) := fM_si (by decide)
        obtain ⟨M2, j1, j2, j3, j4⟩ := r_takesNumber (M := si M1 3 (M1.1 3 + 1)) (p := (pNm bs [109, 111, 115, 116] p).2 + 1) (rT_D hT1 g2) (by
          show (M1.1 3 + 1).toInt = _
          rw [zi_inc i2 (by omega) (by omega)]
          omega) (by omega)
        have g3 : frD (sa M 10 (upd (M.2.1 10) c 2)) M2 := frD.trans i3 (frD.trans g2 j4)
        have n5 : (pNum bs 3 ((pNm bs [109, 111, 115, 116] p).2 + 1) 0).2 < 1000 := (pNum_ok bs 3 ((pNm bs [109, 111, 115, 116] p).2 + 1) 0 0 (by decide) (by omega)).2.2
        have n6 := (pNum_ok bs 3 ((pNm bs [109, 111, 115, 116] p).2 + 1) 0 0 (by decide) (by omega)).1
        rw [j1, bsm]
        dsimp only
        rw [i01]
        by_cases w3 : (pNm bs [109, 111, 115, 116] p).2 + 1 < (pNum bs 3 ((pNm bs [109, 111, 115, 116] p).2 + 1) 0).1
        · rw [if_pos w3, if_pos w3, mAs_ok (j := 11) hci (by show c < 40; omega), bsm]
          refine ⟨_, zg_z _ _ (.inr rfl), j2, frC8.trans (fr8_10 M c sg 2) (frC8.trans (frD_8 g3) (fr8_11 M2 c sg _)), fun _ => ⟨?_, fun _ => ?_, fun x => absurd x (by dsimp only; omega), ?_⟩⟩
          · show M2.2.1 10 c = _
            rw [g3.2.1 10 (by simp)]
            exact upd_s
          · show upd (M2.2.1 11) c (M2.1 4) c = _
            rw [upd_s]
            exact zi_eq.mpr (by rw [j3 w3]; exact (q_i (by omega)).symm)
          · show (M2.1 16).toInt = _
            rw [g3.1 16 (by decide)]
            exact hsg
        · rw [if_neg w3, if_neg w3]
          refine ⟨M2, zg_z _ _ (.inl rfl), ?_, frC8.trans (fr8_10 M c sg 2) (frD_8 g3), (fun x => by cases x)⟩
          rw [j2]
          show ((pNum bs 3 ((pNm bs [109, 111, 115, 116] p).2 + 1) 0).1 : Int) = (((pNm bs [109, 111, 115, 116] p).2 + 1 : Nat) : Int)
          omega
      · have hval : pNm bs [109, 111, 115, 116, 32] p = (false, (pNm bs [109, 111, 115, 116] p).2) := by
          rw [happ]
          exact if_neg w2
        rw [if_neg w2, bsm, hval]
        dsimp only
        rw [if_pos rfl, if_neg (by decide)]
        exact ⟨M1, zg_z _ _ (.inl rfl), i2, g1, (fun x => by cases x)⟩
    · rw [if_neg w] at happ
      rw [if_neg w, happ]
      dsimp only
      rw [if_neg (by decide)]
      exact ⟨M1, zg_z _ _ (.inl rfl), i2, g1, (fun x => by cases x)⟩
  rw [if_neg (fun x => q3 ((sgn_eq hb (by decide) (by decide)).mp x)), if_neg q3, m10, bsm]
  obtain ⟨M1, i1, i2, i3⟩ := r_takesWord (M := sa M 10 (upd (M.2.1 10) c 3)) (n := 5) wd_sense rfl hT hp hpl
  have g1 : frC8 c sg M M1 := frC8.trans (fr8_10 M c sg 3) (frD_8 i3)
  rw [i1, bsm]
  by_cases q4 : byA bs p = 115
  · rw [if_pos q4]
    refine ⟨M1, by rw [zg_b], i2, g1, fun _ => ⟨?_, fun x => absurd x (by dsimp only; decide), fun x => absurd x (by dsimp only; decide), ?_⟩⟩
    · rw [i3.2.1 10 (by simp)]
      exact upd_s
    · rw [i3.1 16 (by decide)]
      exact hsg
  · have hn : pNm bs [115, 101, 110, 115, 101] p = (false, p) := by
      unfold pNm
      rw [if_neg q4]
    rw [hn] at i2 ⊢
    rw [if_neg q4]
    exact ⟨M1, zg_z _ _ (.inl rfl), i2, g1, (fun x => by cases x)⟩
