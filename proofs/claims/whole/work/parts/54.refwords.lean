/-! ===== the reference reads a bargain's text ===== -/
def rBg (M : MS) (b : Nat) (zl : List Wd) : Prop := (M.2.1 8 b).toInt = zl.length ∧ ∀ (i : Nat) (w : Wd), zl[i]? = some w → w = (M.2.1 6 (12 * b + i), M.2.1 7 (12 * b + i))
def frW (b : Nat) (M M' : MS) : Prop := fM M M' [3] [6, 7, 8] [] ∧ (∀ k, k ≠ b → M'.2.1 8 k = M.2.1 8 k) ∧ ∀ k, (k < 12 * b ∨ 12 * b + 12 ≤ k) → M'.2.1 6 k = M.2.1 6 k ∧ M'.2.1 7 k = M.2.1 7 k
theorem frW.rfl {b : Nat} {M : MS} : frW b M M := ⟨fM.rfl, fun _ _ => Eq.refl _, fun _ _ => ⟨Eq.refl _, Eq.refl _⟩⟩
theorem frW.trans {b : Nat} {M M1 M2 : MS} (h : frW b M M1) (h2 : frW b M1 M2) : frW b M M2 := ⟨fM.trans h.1 h2.1, fun k q => (h2.2.1 k q).trans (h.2.1 k q), fun k q => ⟨(h2.2.2 k q).1.trans (h.2.2 k q).1, (h2.2.2 k q).2.trans (h.2.2 k q).2⟩⟩
def wSt (M : MS) (b j : Nat) (c f d : Int32) : MS := sa (si (sa (sa M 6 (upd (M.2.1 6) (12 * b + j) c)) 7 (upd (M.2.1 7) (12 * b + j) f)) 3 (M.1 3 + d)) 8 (upd (M.2.1 8) b (M.2.1 8 b + 1))
theorem r_isDigit {M : MS} {bs : List Int32} (h : rT M bs) {p : Nat} (hp : (M.1 3).toInt = p) : X8_isDigit M = some (if isf (bs.getD p (-1)) then 1 else 0, M) := by
  unfold X8_isDigit X8_isDigit_0
  rw [rT_next h hp, bsm, r_in, bsm]
  have e := sgn_dig (getD_by h.2.2.1 p)
  by_cases q : isf (bs.getD p (-1))
  · rw [if_pos q, if_pos (e.mpr q)]
    exact zg_z _ _ (.inr rfl)
  · rw [if_neg q, if_neg (fun c => q (e.mp c))]
    exact zg_z _ _ (.inl rfl)
theorem gw_73 {M : MS} {bs : List Int32} {b q j adv : Nat} {x c f : Int32} {rec : MS → Int32 → Option (Int32 × MS)} (hT : rT M bs) (hb : b < 6) (hx : x.toInt = b) (hq : (M.1 3).toInt = q) (hj : (M.2.1 8 b).toInt = j) (hj2 : j < 12) (hq2 : q ≤ 100) (hc : (¬ fgr c ∧ f = 0 ∧ adv = 0) ∨ (fgr c ∧ sgb (bs.getD q (-1)) - 48 = f ∧ adv = 1)) : X8_goesWords_73 rec M x c = if q + adv < bs.length then rec (wSt M b j c f (Int32.ofNat adv)) x else some (1, wSt M b j c f (Int32.ofNat adv)) := by
  have e12 : (12 : Int32).toInt = 12 := rfl
  have hx12 : (12 * x).toInt = 12 * b := by
    rw [zi_mul (by rw [e12]; omega) (by rw [e12]; omega), e12, hx]
  have hix : (12 * x + M.2.1 8 b).toInt = ((12 * b + j : Nat) : Int) := by
    rw [zi_add (by omega) (by omega)]
    omega
  have fin : ∀ (s2 : Int32) (M1 : MS), s2.toInt = adv → M1.2.1 8 = M.2.1 8 → M1.1 2 = M.1 2 → M1.1 3 = M.1 3 → sa (si M1 3 (M1.1 3 + s2)) 8 (upd (M1.2.1 8) b (M1.2.1 8 b + 1)) = wSt M b j c f (Int32.ofNat adv) → X8_goesWords_135 rec M1 (M1.1 3) s2 x = if q + adv < bs.length then rec (wSt M b j c f (Int32.ofNat adv)) x else some (1, wSt M b j c f (Int32.ofNat adv)) := by
    intro s2 M1 h2 h8 hf h3 hw
    unfold X8_goesWords_135
    have ha : adv ≤ 1 := by rcases hc with h | h <;> omega
    rw [mA_ok (M := si M1 3 (M1.1 3 + s2)) (j := 8) (q := b) hx (by show b < 6; omega), bsm, mAs_ok (M := si M1 3 (M1.1 3 + s2)) (j := 8) (q := b) hx (by show b < 6; omega), bsm]
    have e1 : (sa (si M1 3 (M1.1 3 + s2)) 8 (upd ((si M1 3 (M1.1 3 + s2)).2.1 8) b ((si M1 3 (M1.1 3 + s2)).2.1 8 b + 1))) = wSt M b j c f (Int32.ofNat adv) := hw
    rw [e1]
    have e2 : ((wSt M b j c f (Int32.ofNat adv)).1 3).toInt = ((q + adv : Nat) : Int) := by
      show (M.1 3 + Int32.ofNat adv).toInt = _
      rw [zi_add (by rw [zo (by omega)]; omega) (by rw [zo (by omega)]; omega), zo (by omega)]
      omega
    have e3 : ((wSt M b j c f (Int32.ofNat adv)).1 2).toInt = bs.length := hT.1
    by_cases qq : q + adv < bs.length
    · rw [if_pos qq, if_pos (by rw [zi_lt, e2, e3]; omega)]
    · rw [if_neg qq, if_neg (by rw [zi_lt, e2, e3]; omega)]
  unfold X8_goesWords_73
  rw [mA_ok (j := 8) (q := b) hx (by show b < 6; omega), bsm, mAs_ok (j := 6) (q := 12 * b + j) hix (by show _ < 72; omega), bsm, r_isFigured, bsm, i01]
  rcases hc with ⟨c1, c2, c3⟩ | ⟨c1, c2, c3⟩
  · subst c2
    subst c3
    rw [if_neg c1]
    unfold X8_goesWords_116
    dsimp only
    rw [mAs_ok (j := 7) (q := 12 * b + j) hix (by show _ < 72; omega), bsm, r_isFigured, bsm, i01, if_neg c1]
    exact fin 0 _ rfl rfl rfl rfl rfl
  · subst c2
    subst c3
    rw [if_pos c1]
    have hT2 : rT (sa M 6 (upd (M.2.1 6) (12 * b + j) c)) bs := hT
    rw [rT_next hT2 hq, bsm]
    unfold X8_goesWords_116
    dsimp only
    rw [mAs_ok (j := 7) (q := 12 * b + j) hix (by show _ < 72; omega), bsm, r_isFigured, bsm, i01, if_pos c1]
    exact fin 1 _ rfl rfl rfl rfl rfl
theorem wSt_ok {M : MS} {b j : Nat} {c f d : Int32} {zs : List Wd} (hz : zs.length = j) (hj2 : j < 12) (hj : (M.2.1 8 b).toInt = j) (h : ∀ (i : Nat) (w : Wd), zs[i]? = some w → w = (M.2.1 6 (12 * b + i), M.2.1 7 (12 * b + i))) : rBg (wSt M b j c f d) b (zs ++ [(c, f)]) ∧ frW b M (wSt M b j c f d) := by
  refine ⟨⟨?_, fun i w hw => ?_⟩, ⟨fM.trans (fM.trans (fM.trans (fM_sa (by decide)) (fM_sa (by decide))) (fM_si (by decide))) (fM_sa (by decide)), fun k hk => ?_, fun k hk => ⟨?_, ?_⟩⟩⟩
  · show (upd (M.2.1 8) b (M.2.1 8 b + 1) b).toInt = _
    unfold upd
    rw [if_pos rfl, zi_inc hj (by omega) (by omega), List.length_append, hz]
    rfl
  · show w = (upd (M.2.1 6) (12 * b + j) c (12 * b + i), upd (M.2.1 7) (12 * b + j) f (12 * b + i))
    unfold upd
    by_cases e : i = j
    · rw [if_pos (by omega), if_pos (by omega)]
      rw [e, List.getElem?_append_right (by omega), hz, Nat.sub_self] at hw
      cases hw
      rfl
    · rw [if_neg (by omega), if_neg (by omega)]
      by_cases e2 : i < j
      · rw [List.getElem?_append_left (by omega)] at hw
        exact h i w hw
      · rw [List.getElem?_eq_none (by rw [List.length_append]; simp only [List.length_cons, List.length_nil]; omega)] at hw
        cases hw
  · show upd (M.2.1 8) b (M.2.1 8 b + 1) k = _
    unfold upd
    rw [if_neg hk]
  · show upd (M.2.1 6) (12 * b + j) c k = _
    unfold upd
    rw [if_neg (by omega)]
  · show upd (M.2.1 7) (12 * b + j) f k = _
    unfold upd
    rw [if_neg (by omega)]
theorem gw_12 {bs : List Int32} {b : Nat} (hb : b < 6) {x : Int32} (hx : x.toInt = b) : ∀ (n p : Nat) (bz : List Int32) (fn : Nat) (M : MS) (zs : List Wd), rT M bs → bs.drop p = bz → zs.length + n = 12 → n < fn → p ≤ 100 → (M.1 3).toInt = p → rBg M b zs → ∃ M', X8_goesWords_12 fn M x = some (if (pWd n p bz).1 = -1 then 1 else 0, M') ∧ ((pWd n p bz).1 ≠ -1 → (M'.1 3).toInt = (pWd n p bz).1) ∧ ((pWd n p bz).1 = -1 → rBg M' b (zs ++ (pWd n p bz).2)) ∧ frW b M M'
  | 0, p, bz, fn, M, zs, hT, hd, hn, hf, hp, h3, hB => by
    obtain ⟨fn, rfl⟩ : ∃ q, fn = q + 1 := ⟨fn - 1, by omega⟩
    unfold pWd
    dsimp only
    refine ⟨M, ?_, fun _ => h3, fun c => by omega, frW.rfl⟩
    rw [X8_goesWords_12, rT_next hT h3, bsm, mA_ok (j := 8) (q := b) hx (by show b < 6; omega), bsm, if_pos (zi_eq.mpr (by rw [hB.1]; show _ = (12 : Int); omega)), if_neg (by omega)]
    rfl
  | n + 1, p, bz, fn, M, zs, hT, hd, hn, hf, hp, h3, hB => by
    obtain ⟨fn, rfl⟩ : ∃ q, fn = q + 1 := ⟨fn - 1, by omega⟩
    have hne : ¬ M.2.1 8 b = 12 := fun c => by
      have c := congrArg Int32.toInt c
      rw [hB.1] at c
      have : (12 : Int32).toInt = 12 := rfl
      omega
    have hcb := getD_by hT.2.2.1 p
    have start : X8_goesWords_12 (fn + 1) M x = if bre (bs.getD p (-1)) ∨ fgr (bs.getD p (-1)) then X8_goesWords_46 (X8_goesWords_12 fn) M x (sgb (bs.getD p (-1))) else some (0, M) := by
      rw [X8_goesWords_12, rT_next hT h3, bsm, mA_ok (j := 8) (q := b) hx (by show b < 6; omega), bsm, if_neg hne, r_isBare, bsm, i01]
      by_cases g : bre (bs.getD p (-1))
      · have hg : bre (bs.getD p (-1)) ∨ fgr (bs.getD p (-1)) := .inl g
        rw [if_pos ((sgn_bre hcb).mpr g), if_pos hg]
      · rw [if_neg (fun c => g ((sgn_bre hcb).mp c)), r_isFigured, bsm, i01]
        by_cases g2 : fgr (bs.getD p (-1))
        · have hg : bre (bs.getD p (-1)) ∨ fgr (bs.getD p (-1)) := .inr g2
          rw [if_pos ((sgn_fgr hcb).mpr g2), if_pos hg]
        · have hg : ¬ (bre (bs.getD p (-1)) ∨ fgr (bs.getD p (-1))) := fun c => c.elim g g2
          rw [if_neg (fun c => g2 ((sgn_fgr hcb).mp c)), if_neg hg]
          rfl
    have fail : ∀ {A : List Int32}, A = A → ¬ (bre (bs.getD p (-1)) ∨ fgr (bs.getD p (-1))) → X8_goesWords_12 (fn + 1) M x = some (0, M) := fun _ g => by rw [start, if_neg g]
    -- behind the letter
    have go : ∀ c t, bz = c :: t → bre c ∨ fgr c → X8_goesWords_12 (fn + 1) M x = X8_goesWords_46 (X8_goesWords_12 fn) M x c := fun c t e g => by
      have d1 := (drop_hd (hd.trans e)).1
      rw [start, d1, if_pos g, sgn_let g]
    have h31 : ((si M 3 (M.1 3 + 1)).1 3).toInt = ((p + 1 : Nat) : Int) := by
      show (M.1 3 + 1).toInt = _
      rw [zi_inc h3 (by omega) (by omega)]
      omega
    have fr1 : frW b M (si M 3 (M.1 3 + 1)) := ⟨fM_si (by decide), fun _ _ => rfl, fun _ _ => ⟨rfl, rfl⟩⟩
    have hB1 : rBg (si M 3 (M.1 3 + 1)) b zs := hB
    have hT1 : rT (si M 3 (M.1 3 + 1)) bs := hT
    match bz, hd, go with
    | [], hd, go =>
      unfold pWd
      dsimp only
      refine ⟨M, ?_, fun _ => h3, fun c => by omega, frW.rfl⟩
      rw [fail (A := []) rfl (by rw [(drop_nl hd).1]; exact bre_m1), if_neg (by omega)]
    | c :: t, hd, go =>
      obtain ⟨d1, d2, d3⟩ := drop_hd hd
      have hlT := hT.2.1
      by_cases g : fgr c
      · have pq : ∃ d t2, (isf (bs.getD (p + 1) (-1)) → t = d :: t2 ∧ bs.getD (p + 1) (-1) = d ∧ bs.drop (p + 2) = t2 ∧ bs.length = p + 2 + t2.length) := by
          cases t with
          | nil => exact ⟨0, [], fun q => by rw [(drop_nl d2).1] at q; exact absurd q isf_m1⟩
          | cons d t2 =>
            obtain ⟨d4, d5, d6⟩ := drop_hd d2
            exact ⟨d, t2, fun _ => ⟨rfl, d4, d5, d6⟩⟩
        have e46 : X8_goesWords_46 (X8_goesWords_12 fn) M x c = if isf (bs.getD (p + 1) (-1)) then X8_goesWords_73 (X8_goesWords_12 fn) (si M 3 (M.1 3 + 1)) x c else some (0, si M 3 (M.1 3 + 1)) := by
          unfold X8_goesWords_46
          rw [r_isFigured, bsm, i01, if_pos g, r_isDigit hT1 h31, bsm, i01]
        rw [go c t rfl (.inr g), e46]
        by_cases g3 : isf (bs.getD (p + 1) (-1))
        · obtain ⟨d, t2, hq⟩ := pq
          obtain ⟨rfl, d4, d5, d6⟩ := hq g3
          rw [if_pos g3]
          rw [d4] at g3
          obtain ⟨w1, w2⟩ := wSt_ok (M := si M 3 (M.1 3 + 1)) (c := c) (f := d - 48) (d := 1) (zs := zs) rfl (by omega) hB1.1 hB1.2
          rw [gw_73 (rec := X8_goesWords_12 fn) hT1 hb hx h31 hB1.1 (by omega) (by omega) (.inr ⟨g, by rw [d4, sgn_dg g3], rfl⟩)]
          unfold pWd
          rw [if_pos g, if_pos g3]
          by_cases g4 : t2 = []
          · subst g4
            rw [if_neg (by simp only [List.length_nil] at d6; omega), if_pos rfl]
            exact ⟨_, rfl, fun c => absurd rfl c, fun _ => w1, frW.trans fr1 w2⟩
          · have hpos : 0 < t2.length := List.length_pos_iff.mpr g4
            rw [if_pos (by omega), if_neg g4]
            dsimp only
            obtain ⟨M', b1, b2, b3, b4⟩ := gw_12 hb hx n (p + 2) t2 fn (wSt (si M 3 (M.1 3 + 1)) b zs.length c (d - 48) 1) (zs ++ [(c, d - 48)]) hT d5 (by rw [List.length_append]; simp only [List.length_cons, List.length_nil]; omega) (by omega) (by omega) (by
              show (M.1 3 + 1 + 1).toInt = _
              have h31 : (M.1 3 + 1).toInt = ((p + 1 : Nat) : Int) := h31
              rw [zi_inc h31 (by omega) (by omega)]
              omega) w1
            rw [List.append_assoc] at b3
            exact ⟨M', b1, b2, b3, frW.trans fr1 (frW.trans w2 b4)⟩
        · rw [if_neg g3]
          have ev : pWd (n + 1) p (c :: t) = ((p : Int) + 1, []) := by
            cases t with
            | nil => unfold pWd; rw [if_pos g]
            | cons d t2 =>
              rw [(drop_hd d2).1] at g3
              unfold pWd
              rw [if_pos g, if_neg g3]
          rw [ev]
          dsimp only
          rw [if_neg (by omega)]
          exact ⟨_, rfl, fun _ => by rw [h31]; rfl, fun c => by omega, fr1⟩
      · by_cases g2 : bre c
        · have e46 : X8_goesWords_46 (X8_goesWords_12 fn) M x c = X8_goesWords_73 (X8_goesWords_12 fn) (si M 3 (M.1 3 + 1)) x c := by
            unfold X8_goesWords_46
            rw [r_isFigured, bsm, i01, if_neg g]
          obtain ⟨w1, w2⟩ := wSt_ok (M := si M 3 (M.1 3 + 1)) (c := c) (f := 0) (d := 0) (zs := zs) rfl (by omega) hB1.1 hB1.2
          rw [go c t rfl (.inl g2), e46, gw_73 (rec := X8_goesWords_12 fn) hT1 hb hx h31 hB1.1 (by omega) (by omega) (.inl ⟨g, rfl, rfl⟩)]
          cases t with
          | nil =>
            unfold pWd
            rw [if_neg g, if_pos g2, if_neg (by simp only [List.length_nil] at d3; omega)]
            exact ⟨_, rfl, fun c => absurd rfl c, fun _ => w1, frW.trans fr1 w2⟩
          | cons d t2 =>
            unfold pWd
            rw [if_neg g, if_pos g2, if_pos (by simp only [List.length_cons] at d3; omega)]
            dsimp only
            obtain ⟨M', b1, b2, b3, b4⟩ := gw_12 hb hx n (p + 1) (d :: t2) fn (wSt (si M 3 (M.1 3 + 1)) b zs.length c 0 0) (zs ++ [(c, 0)]) hT d2 (by rw [List.length_append]; simp only [List.length_cons, List.length_nil]; omega) (by omega) (by omega) (by
              show (M.1 3 + 1 + 0).toInt = _
              rw [Int32.add_zero]
              exact h31) w1
            rw [List.append_assoc] at b3
            exact ⟨M', b1, b2, b3, frW.trans fr1 (frW.trans w2 b4)⟩
        · have ev : pWd (n + 1) p (c :: t) = ((p : Int), []) := by
            cases t with
            | nil => unfold pWd; rw [if_neg g, if_neg g2]
            | cons d t2 => unfold pWd; rw [if_neg g, if_neg g2]
          rw [ev]
          dsimp only
          rw [if_neg (by omega), fail (A := []) rfl (by rw [d1]; exact fun q => q.elim g2 g)]
          exact ⟨M, rfl, fun _ => h3, fun c => by omega, frW.rfl⟩
theorem r_goesW {M : MS} {bs : List Int32} {b : Nat} (hb : b < 6) {x : Int32} (hx : x.toInt = b) (hT : rT M bs) : ∃ M', X8_goesWords M x = some (if (pWd 12 0 bs).1 = -1 then 1 else 0, M') ∧ ((pWd 12 0 bs).1 ≠ -1 → (M'.1 3).toInt = (pWd 12 0 bs).1) ∧ ((pWd 12 0 bs).1 = -1 → rBg M' b (pWd 12 0 bs).2) ∧ frW b M M' := by
  have f0 : frW b M (sa (si M 3 0) 8 (upd (M.2.1 8) b 0)) := ⟨fM.trans (fM_si (by decide)) (fM_sa (by decide)), fun k hk => by
    show upd (M.2.1 8) b 0 k = _
    unfold upd
    rw [if_neg hk], fun _ _ => ⟨rfl, rfl⟩⟩
  obtain ⟨M', b1, b2, b3, b4⟩ := gw_12 hb hx 12 0 bs FU (sa (si M 3 0) 8 (upd (M.2.1 8) b 0)) [] hT rfl rfl (by unfold FU; omega) (by omega) rfl ⟨by
    show (upd (M.2.1 8) b 0 b).toInt = _
    unfold upd
    rw [if_pos rfl]
    rfl, fun i w hw => by cases hw⟩
  refine ⟨M', ?_, b2, b3, frW.trans f0 b4⟩
  unfold X8_goesWords X8_goesWords_0
  rw [mAs_ok (M := si M 3 0) (j := 8) (q := b) hx (by show b < 6; omega), bsm]
  have e : X8_goesWords_12 FU (sa (si M 3 0) 8 (upd ((si M 3 0).2.1 8) b 0)) x = _ := b1
  rw [e]
  by_cases q : (pWd 12 0 bs).1 = -1
  · rw [if_pos q]
    exact zg_z _ _ (.inr rfl)
  · rw [if_neg q]
    exact zg_z _ _ (.inl rfl)
