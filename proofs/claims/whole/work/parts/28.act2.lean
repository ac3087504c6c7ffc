theorem tgt_c {k : Int32} {L B : Nat} {a f x : Int32} {g g' : MS → Option (Int32 × MS)} (e : ∀ M, g M = g' M) (h : tgt k L B a f x g) : tgt k L B a f x g' := by
  have q : g = g' := funext e
  rw [← q]
  exact h
theorem tgt_w {k : Int32} {L B L2 B2 : Nat} {a f x : Int32} {g : MS → Option (Int32 × MS)} (h : tgt k L B a f x g) (h1 : L ≤ L2) (h2 : B ≤ B2) : tgt k L2 B2 a f x g := by
  intro fn d C M M2 D b hf hd hL hB q
  obtain ⟨r, C', M', a1, a2, a3, a4⟩ := h fn d C M M2 D b (by omega) hd (by omega) (by omega) q
  exact ⟨r, C', M', a1, a2, ⟨a3.1, by have := a3.2.1; omega, a3.2.2⟩, a4⟩
theorem bid (o : Option (Int32 × MS)) : (o.bind fun r => some (r.1, r.2)) = o := by cases o <;> rfl
theorem ws_c (M : MS) (x : Int32) : ((X8_body M 20).bind fun r1 => ((fun M => X8_plainStrikes M (x * 3)) r1.2).bind fun r2 => some (r2.1, r2.2)) = X8_wordsStrikes M x := rfl
theorem tg_ws {k fr x : Int32} (hb : ∀ S, X0_bodyFrom S fr 0 = some (20, S)) : tgt k 2 2 0 fr x (fun M => X8_wordsStrikes M x) := tgt_c (fun M => ws_c M x) (tg20 hb (tg10 (fun _ => rfl)))
theorem tg_st {k : Int32} (hk : 0 ≤ k ∧ k ≤ 6) (x : Int32) : tgt k 3 3 0 k x (fun M => X8_strikes M k x) := by
  rcases k7_of hk with rfl | rfl | rfl | rfl | rfl | rfl | rfl
  · exact tgt_w (tgt_c (fun M => (bid (X8_plainStrikes M x)).symm) (tg10 (fun _ => rfl))) (by omega) (by omega)
  · exact tgt_w (tgt_c (fun M => (bid (X8_wordsStrikes M x)).symm) (tg_ws (fun _ => rfl))) (by omega) (by omega)
  · exact tgt_w (tgt_c (fun M => (bid (X8_plainStrikes M x)).symm) (tg10 (fun _ => rfl))) (by omega) (by omega)
  · exact tgt_w (tgt_c (fun M => (bid (X8_plainStrikes M x)).symm) (tg10 (fun _ => rfl))) (by omega) (by omega)
  · exact tgt_w (tgt_c (fun M => (bid (X8_wordsStrikes M x)).symm) (tg_ws (fun _ => rfl))) (by omega) (by omega)
  · exact tgt_w (tgt_c (fun M => rfl) (tg61 (fun _ => rfl) (tg10 (fun _ => rfl)))) (by omega) (by omega)
  · exact tgt_w (tgt_c (fun M => (bid (X8_wordsStrikes M x)).symm) (tg_ws (fun _ => rfl))) (by omega) (by omega)
theorem tg_pl {k fr : Int32} (hk : 0 ≤ k ∧ k ≤ 6) (hb : ∀ S, X0_bodyFrom S fr 1 = some (11, S)) (x : Int32) : tgt k 4 4 1 fr x (fun M => X8_plainLeaves M k x) := tgt_c (fun M => rfl) (tg11 hb (tg_st hk x))
theorem tg_lv {k : Int32} (hk : 0 ≤ k ∧ k ≤ 6) (x : Int32) : tgt k 9 9 1 k x (fun M => X8_leaves M k x) := by
  rcases k7_of hk with rfl | rfl | rfl | rfl | rfl | rfl | rfl
  · exact tgt_w (tgt_c (fun M => (bid (X8_plainLeaves M 0 x)).symm) (tg_pl hk (fun _ => rfl) x)) (by omega) (by omega)
  · exact tgt_w (tgt_c (fun M => (bid (X8_plainLeaves M 1 x)).symm) (tg_pl hk (fun _ => rfl) x)) (by omega) (by omega)
  · exact tgt_w (tgt_c (fun M => rfl) (tg30 (fun _ => rfl) (tg_pl hk (fun _ => rfl) x))) (by omega) (by omega)
  · exact tgt_w (tgt_c (fun M => rfl) (tg41 (fun _ => rfl) (tg_pl hk (fun _ => rfl) x))) (by omega) (by omega)
  · exact tgt_w (tgt_c (fun M => rfl) (tg50 (fun _ => rfl) (tg_pl hk (fun _ => rfl) x) (tg_ws (fun _ => rfl)))) (by omega) (by omega)
  · exact tgt_w (tgt_c (fun M => rfl) (tg41 (fun _ => rfl) (tg_pl hk (fun _ => rfl) x))) (by omega) (by omega)
  · exact tgt_w (tgt_c (fun M => (bid (X8_plainLeaves M 6 x)).symm) (tg_pl hk (fun _ => rfl) x)) (by omega) (by omega)
theorem tg_pt {k fr : Int32} (hk : 0 ≤ k ∧ k ≤ 6) (hb : ∀ S, X0_bodyFrom S fr 2 = some (12, S)) (x : Int32) : tgt k 10 10 2 fr x (fun M => X8_plainTells M k x) := tgt_c (fun M => rfl) (tg12 hb (tg_lv hk x))
theorem tg_ct {k : Int32} (hk : 0 ≤ k ∧ k ≤ 6) (x : Int32) : tgt k 14 14 2 3 x (fun M => X8_clausesTells M k x) := tgt_c (fun M => rfl) (tg40 (fun _ => rfl) (tg_pt hk (fun _ => rfl) x) (tg_st hk 1))
theorem tg_tl {k : Int32} (hk : 0 ≤ k ∧ k ≤ 6) (x : Int32) : tgt k 24 24 2 k x (fun M => X8_tells M k x) := by
  rcases k7_of hk with rfl | rfl | rfl | rfl | rfl | rfl | rfl
  · exact tgt_w (tgt_c (fun M => (bid (X8_plainTells M 0 x)).symm) (tg_pt hk (fun _ => rfl) x)) (by omega) (by omega)
  · exact tgt_w (tgt_c (fun M => (bid (X8_plainTells M 1 x)).symm) (tg_pt hk (fun _ => rfl) x)) (by omega) (by omega)
  · exact tgt_w (tgt_c (fun M => (bid (X8_plainTells M 2 x)).symm) (tg_pt hk (fun _ => rfl) x)) (by omega) (by omega)
  · exact tgt_w (tgt_c (fun M => (bid (X8_clausesTells M 3 x)).symm) (tg_ct hk x)) (by omega) (by omega)
  · exact tgt_w (tgt_c (fun M => (bid (X8_plainTells M 4 x)).symm) (tg_pt hk (fun _ => rfl) x)) (by omega) (by omega)
  · exact tgt_w (tgt_c (fun M => rfl) (tg60 (fun _ => rfl) (tg_lv hk x) (tg_ct hk x))) (by omega) (by omega)
  · exact tgt_w (tgt_c (fun M => rfl) (tg70 (g := fun y M => X8_plainTells M 6 y) (fun _ => rfl) (fun y => tg_pt hk (fun _ => rfl) y))) (by omega) (by omega)
theorem o_act (C : CS) (M M2 : MS) (D : List va_E) (k a x : Int32) (h0 : C.1 0 = M.1 0) (h1 : C.1 1 = M.1 1) : ∃ r C' M', X7_act (mh (ccells C) M2 D) 0 k a x = some (r, mh (ccells C') M2 D) ∧ X8_act M k a x = some (r, M') ∧ iAc (C'.1 10) (C'.2.1 3) (M'.1 37) (M'.2.1 38) ∧ aFr C C' M M' := by
  have e0 : (0 : Int32).toInt = 0 := rfl
  have e3 : (3 : Int32).toInt = 3 := rfl
  have e2 : (2 : Int32).toInt = 2 := rfl
  have z1 : ¬ (1 : Int32) = 0 := by decide
  have g2 : gI (mh (ccells C) M2 D) 0 7 8 = some (C.1 0) := rfl
  have g3 : gI (mh (ccells C) M2 D) 0 7 9 = some (C.1 1) := rfl
  have g5 : gQ (mh (ccells C) M2 D) 0 7 6 = some (some 10) := rfl
  have g6 : sI (mh (ccells C) M2 D) 10 0 1 0 = some (mh (ccells (c1 C 10 0)) M2 D) := rfl
  have iA : iAc 0 (C.2.1 3) 0 (M.2.1 38) := ⟨rfl, by decide, by decide, fun i _ hi => by omega⟩
  have stop : ∃ r C' M', some ((0 : Int32), mh (ccells (c1 C 10 0)) M2 D) = some (r, mh (ccells C') M2 D) ∧ some ((0 : Int32), si M 37 0) = some (r, M') ∧ iAc (C'.1 10) (C'.2.1 3) (M'.1 37) (M'.2.1 38) ∧ aFr C C' M M' := ⟨_, _, _, rfl, rfl, iA, fC_c1 (by decide), rfl, fM_si (by decide)⟩
  unfold X7_act X7_act_0 X0_begin X0_begin_0 X0_begin_21 X8_act X8_act_0 X8_act_23 X8_act_58
  rw [g5, g2, g3, r_isKind]
  simp only [Option.bind_some, cO9, g6, k_isKind]
  by_cases hk : 0 ≤ k ∧ k ≤ 6
  · rw [if_pos hk, if_neg z1, if_neg z1, r_in, Option.bind_some]
    dsimp only
    by_cases q0 : a < 0
    · have := ng_n q0
      rw [if_pos q0, if_neg (show ¬ (0 ≤ a ∧ a ≤ 2) from fun c => by have := zi_le.mp c.1; omega), if_pos (show (0 : Int32) = 0 from rfl)]
      exact stop
    · have p0 := nn_n q0
      rw [if_neg q0]
      by_cases q1 : a < 3
      · have p1 := zi_lt.mp q1
        rw [if_pos q1, if_pos (show 0 ≤ a ∧ a ≤ 2 from ⟨zi_le.mpr (by omega), zi_le.mpr (by omega)⟩), if_neg z1]
        have w1 : sI (mh (ccells (c1 C 10 0)) M2 D) 10 0 2 k = some (mh (ccells (c1 (c1 C 10 0) 11 k)) M2 D) := rfl
        have w2 : sI (mh (ccells (c1 (c1 C 10 0) 11 k)) M2 D) 10 0 3 (C.1 0) = some (mh (ccells (c1 (c1 (c1 C 10 0) 11 k) 12 (C.1 0))) M2 D) := rfl
        have w3 : sI (mh (ccells (c1 (c1 (c1 C 10 0) 11 k) 12 (C.1 0))) M2 D) 10 0 4 (C.1 1) = some (mh (ccells (c1 (c1 (c1 (c1 C 10 0) 11 k) 12 (C.1 0)) 13 (C.1 1))) M2 D) := rfl
        simp only [w1, w2, w3, Option.bind_some, cO9]
        have rl : aRl k 0 (c1 (c1 (c1 (c1 C 10 0) 11 k) 12 (C.1 0)) 13 (C.1 1)) (si M 37 0) := ⟨iA, show (0 : Int32).toInt ≤ ((0 : Nat) : Int) by decide, rfl, h0, h1⟩
        have fr : aFr C (c1 (c1 (c1 (c1 C 10 0) 11 k) 12 (C.1 0)) 13 (C.1 1)) M (si M 37 0) := ⟨fC.trans (fC.trans (fC.trans (fC_c1 (by decide)) (fC_c1 (by decide))) (fC_c1 (by decide))) (fC_c1 (by decide)), rfl, fM_si (by decide)⟩
        unfold X0_runK
        by_cases a0 : a = 0
        · subst a0
          obtain ⟨r, C', M', b1, b2, b3, b4⟩ := tg_st hk x 40 0 _ _ M2 D 0 (by omega) (by decide) (by decide) (by omega) rl
          have b2 : X8_strikes (si M 37 0) k x = some (r, M') := b2
          rw [if_pos rfl, b1, b2]
          exact ⟨r, C', M', rfl, rfl, b3.1, fr.trans b4⟩
        · rw [if_neg a0]
          by_cases a1 : a = 1
          · subst a1
            obtain ⟨r, C', M', b1, b2, b3, b4⟩ := tg_lv hk x 40 0 _ _ M2 D 0 (by omega) (by decide) (by decide) (by omega) rl
            have b2 : X8_leaves (si M 37 0) k x = some (r, M') := b2
            rw [if_pos rfl, b1, b2]
            exact ⟨r, C', M', rfl, rfl, b3.1, fr.trans b4⟩
          · have n0 : a.toInt ≠ 0 := fun c => a0 (zi_eq.mpr c)
            have n1 : a.toInt ≠ 1 := fun c => a1 (zi_eq.mpr c)
            have a2 : a = 2 := zi_eq.mpr (show a.toInt = 2 by omega)
            subst a2
            obtain ⟨r, C', M', b1, b2, b3, b4⟩ := tg_tl hk x 40 0 _ _ M2 D 0 (by omega) (by decide) (by decide) (by omega) rl
            have b2 : X8_tells (si M 37 0) k x = some (r, M') := b2
            rw [if_neg a1, b1, b2]
            exact ⟨r, C', M', rfl, rfl, b3.1, fr.trans b4⟩
      · have p1 := mt zi_lt.mpr q1
        rw [if_neg q1, if_neg (show ¬ (0 ≤ a ∧ a ≤ 2) from fun c => by have := zi_le.mp c.2; omega), if_pos (show (0 : Int32) = 0 from rfl)]
        exact stop
  · rw [if_neg hk, if_pos (show (0 : Int32) = 0 from rfl), if_pos (show (0 : Int32) = 0 from rfl)]
    exact stop
