/-! ===== act ===== -/
def aRl (k : Int32) (b : Nat) (C : CS) (M : MS) : Prop := iAc (C.1 10) (C.2.1 3) (M.1 37) (M.2.1 38) ∧ (C.1 10).toInt ≤ b ∧ C.1 11 = k ∧ C.1 12 = M.1 0 ∧ C.1 13 = M.1 1
def aFr (C C' : CS) (M M' : MS) : Prop := fC C C' [10, 11, 12, 13] [3] [] [] ∧ C'.2.2.2.2 = C.2.2.2.2 ∧ fM M M' [37] [38] []
theorem aFr.trans {C C' C2 : CS} {M M' M2 : MS} (h : aFr C C' M M') (h2 : aFr C' C2 M' M2) : aFr C C2 M M2 := ⟨fC.trans h.1 h2.1, h2.2.1.trans h.2.1, fM.trans h.2.2 h2.2.2⟩
def tgt (k : Int32) (L B : Nat) (act fr x : Int32) (g : MS → Option (Int32 × MS)) : Prop := ∀ (f : Nat) (d : Int32) (C : CS) (M M2 : MS) (D : List va_E) (b : Nat), L ≤ f → 0 ≤ d.toInt → d.toInt + L ≤ 31 → b + B ≤ 1000 → aRl k b C M → ∃ r C' M', X0_runR f (mh (ccells C) M2 D) 10 act fr x d = some (r, mh (ccells C') M2 D) ∧ g M = some (r, M') ∧ aRl k (b + B) C' M' ∧ aFr C C' M M'
theorem e_keep {k : Int32} {b : Nat} {C : CS} {M : MS} (M2 : MS) (D : List va_E) (h : aRl k b C M) (hb : b < 1000) (bb : Int32) : ∃ C' M', cO (mh (ccells C) M2 D) 10 0 (X0_keep (mh (ccells C) M2 D) 10 bb) = some ((), mh (ccells C') M2 D) ∧ X8_body M bb = some ((), M') ∧ aRl k (b + 1) C' M' ∧ aFr C C' M M' ∧ M'.1 0 = M.1 0 ∧ M'.1 1 = M.1 1 := by
  obtain ⟨⟨r1, r2, r3, r4⟩, r5, r6, r7, r8⟩ := h
  have e0 : (0 : Int32).toInt = 0 := rfl
  have e20 : (20 : Int32).toInt = 20 := rfl
  have g0 : isO (mh (ccells C) M2 D) 10 0 = true := rfl
  have g7 : gI (mh (ccells C) M2 D) 10 0 1 = some (C.1 10) := rfl
  have g8 : gQ (mh (ccells C) M2 D) 10 0 0 = some (some 11) := rfl
  have g9 : aN (mh (ccells C) M2 D) (some 11) = some 20 := rfl
  have hi := zi_inc (a := C.1 10) rfl (by omega) (by omega)
  unfold cO X0_keep X0_keep_0 X0_keep_29 X8_body X8_body_0 X8_body_19
  rw [if_pos g0]
  simp only [g7, g8, g9, Option.bind_some]
  rw [if_neg (show ¬ C.1 10 < 0 from fun c => by have := zi_lt.mp c; omega)]
  by_cases h : 20 ≤ C.1 10
  · rw [if_pos h, ← r1, if_pos h]
    refine ⟨c1 C 10 (C.1 10 + 1), si M 37 (C.1 10 + 1), rfl, rfl, ⟨⟨rfl, ?_, ?_, fun i hi2 hi3 => ?_⟩, ?_, r6, r7, r8⟩, ⟨fC_c1 (by decide), rfl, fM_si (by decide)⟩, rfl, rfl⟩
    · show 0 ≤ (C.1 10 + 1).toInt; omega
    · show (C.1 10 + 1).toInt ≤ _; omega
    · have := zi_le.mp h
      exact r4 i hi2 (by omega)
    · show (C.1 10 + 1).toInt ≤ _; omega
  · have h2 := mt zi_le.mpr h
    have k1 : ixOk (C.1 10) 20 = true := ix_ok r2 (by omega)
    have g5 : uA 0 (mh (ccells C) M2 D) (some 11) (C.1 10) bb = some (mh (ccells (c2 C 3 (upd (C.2.1 3) (C.1 10).toNatClampNeg bb))) M2 D) := by
      show (if _ = _ ∧ _ then _ else _) = _
      rw [if_pos ⟨rfl, k1⟩]
      rfl
    have g6 : mAs M 38 (C.1 10) bb = some (sa M 38 (upd (M.2.1 38) (C.1 10).toNatClampNeg bb)) := by
      unfold mAs
      exact if_pos k1
    rw [if_neg h, ← r1, if_neg h, g5, g6, Option.bind_some, Option.bind_some]
    have hz := zi_n (C.1 10)
    refine ⟨c1 (c2 C 3 (upd (C.2.1 3) (C.1 10).toNatClampNeg bb)) 10 (C.1 10 + 1), si (sa M 38 (upd (M.2.1 38) (C.1 10).toNatClampNeg bb)) 37 (C.1 10 + 1), rfl, ?_, ⟨⟨rfl, ?_, ?_, fun i hi2 hi3 => ?_⟩, ?_, r6, r7, r8⟩, ⟨fC.trans (fC_c2 (by decide)) (fC_c1 (by decide)), rfl, fM.trans (fM_sa (by decide)) (fM_si (by decide))⟩, rfl, rfl⟩
    · rw [r1]; rfl
    · show 0 ≤ (C.1 10 + 1).toInt; omega
    · show (C.1 10 + 1).toInt ≤ _; omega
    · have hi3 : (i : Int) < (C.1 10 + 1).toInt := hi3
      show upd (C.2.1 3) (C.1 10).toNatClampNeg bb i = upd (M.2.1 38) (C.1 10).toNatClampNeg bb i
      unfold upd
      by_cases q : i = (C.1 10).toNatClampNeg
      · rw [if_pos q, if_pos q]
      · rw [if_neg q, if_neg q]
        exact r4 i hi2 (by omega)
    · show (C.1 10 + 1).toInt ≤ _; omega
theorem run_d {d : Int32} (h1 : d.toInt ≤ 30) : d ≤ 30 := zi_le.mpr (show d.toInt ≤ 30 from h1)
theorem run_d1 {d : Int32} (h0 : 0 ≤ d.toInt) (h1 : d.toInt ≤ 30) : (d + 1).toInt = d.toInt + 1 := zi_inc rfl (by omega) (by omega)
theorem n9 (C : CS) (M : MS) (D : List va_E) : gI (mh (ccells C) M D) 10 0 2 = some (C.1 11) ∧ gI (mh (ccells C) M D) 10 0 3 = some (C.1 12) ∧ gI (mh (ccells C) M D) 10 0 4 = some (C.1 13) ∧ isO (mh (ccells C) M D) 10 0 = true := ⟨rfl, rfl, rfl, rfl⟩
theorem cO9 {α : Type} (C : CS) (M : MS) (D : List va_E) (o : Option α) : cO (mh (ccells C) M D) 10 0 o = o := if_pos rfl
theorem tg10 {k act fr x : Int32} (hb : ∀ S, X0_bodyFrom S fr act = some (10, S)) : tgt k 1 1 act fr x (fun M => X8_plainStrikes M x) := by
  intro f d C M M2 D b hf hd hL hB h
  obtain ⟨f, rfl⟩ : ∃ q, f = q + 1 := ⟨f - 1, by omega⟩
  obtain ⟨C1, M1, e7, e8, h1, fr1, m0, m1⟩ := e_keep M2 D h (by omega) 10
  refine ⟨x + C1.1 12, C1, M1, ?_, ?_, h1, fr1⟩
  · show X0_run_0 _ _ _ _ _ _ _ = _
    unfold X0_run_0
    rw [if_pos (run_d (by omega)), hb, Option.bind_some]
    dsimp only
    rw [e7, Option.bind_some, if_pos rfl]
    dsimp only
    rw [(n9 C1 M2 D).2.1, Option.bind_some]
  · unfold X8_plainStrikes X8_plainStrikes_0
    dsimp only
    rw [e8, Option.bind_some, h1.2.2.2.1]
theorem tg11 {k act fr x : Int32} {L B : Nat} {g : MS → Option (Int32 × MS)} (hb : ∀ S, X0_bodyFrom S fr act = some (11, S)) (hin : tgt k L B 0 k x g) : tgt k (L + 1) (B + 1) act fr x (fun M => (X8_body M 11).bind fun r1 => (g r1.2).bind fun r2 => some (r2.1 - r2.2.1 1, r2.2)) := by
  intro f d C M M2 D b hf hd hL hB h
  obtain ⟨f, rfl⟩ : ∃ q, f = q + 1 := ⟨f - 1, by omega⟩
  obtain ⟨C1, M1, e7, e8, h1, fr1, m0, m1⟩ := e_keep M2 D h (by omega) 11
  have d1 := run_d1 hd (by omega)
  obtain ⟨r, C2, M3, a7, a8, h2, fr2⟩ := hin f (d + 1) C1 M1 M2 D (b + 1) (by omega) (by omega) (by omega) (by omega) h1
  refine ⟨r - C2.1 13, C2, M3, ?_, ?_, by rw [show b + (B + 1) = b + 1 + B by omega]; exact h2, fr1.trans fr2⟩
  · show X0_run_0 _ _ _ _ _ _ _ = _
    unfold X0_run_0
    rw [if_pos (run_d (by omega)), hb, Option.bind_some]
    dsimp only
    rw [e7, Option.bind_some]
    simp (config := {decide := true}) only [if_true, if_false]
    rw [(n9 C1 M2 D).1, Option.bind_some, h1.2.2.1, cO9, a7, Option.bind_some]
    dsimp only
    rw [(n9 C2 M2 D).2.2.1, Option.bind_some]
  · dsimp only
    rw [e8, Option.bind_some]
    dsimp only
    rw [a8, Option.bind_some, h2.2.2.2.2]
theorem tg12 {k act fr x : Int32} {L B : Nat} {g : MS → Option (Int32 × MS)} (hb : ∀ S, X0_bodyFrom S fr act = some (12, S)) (hin : tgt k L B 1 k x g) : tgt k (L + 1) (B + 1) act fr x (fun M => (X8_body M 12).bind fun r1 => (g r1.2).bind fun r2 => some (r2.1 * 2, r2.2)) := by
  intro f d C M M2 D b hf hd hL hB h
  obtain ⟨f, rfl⟩ : ∃ q, f = q + 1 := ⟨f - 1, by omega⟩
  obtain ⟨C1, M1, e7, e8, h1, fr1, m0, m1⟩ := e_keep M2 D h (by omega) 12
  have d1 := run_d1 hd (by omega)
  obtain ⟨r, C2, M3, a7, a8, h2, fr2⟩ := hin f (d + 1) C1 M1 M2 D (b + 1) (by omega) (by omega) (by omega) (by omega) h1
  refine ⟨r * 2, C2, M3, ?_, ?_, by rw [show b + (B + 1) = b + 1 + B by omega]; exact h2, fr1.trans fr2⟩
  · show X0_run_0 _ _ _ _ _ _ _ = _
    unfold X0_run_0
    rw [if_pos (run_d (by omega)), hb, Option.bind_some]
    dsimp only
    rw [e7, Option.bind_some]
    simp (config := {decide := true}) only [if_true, if_false]
    rw [(n9 C1 M2 D).1, Option.bind_some, h1.2.2.1, cO9, a7, Option.bind_some]
  · dsimp only
    rw [e8, Option.bind_some]
    dsimp only
    rw [a8, Option.bind_some]
theorem tg20 {k act fr x : Int32} {L B : Nat} {g : MS → Option (Int32 × MS)} (hb : ∀ S, X0_bodyFrom S fr act = some (20, S)) (hin : tgt k L B 0 0 (x * 3) g) : tgt k (L + 1) (B + 1) act fr x (fun M => (X8_body M 20).bind fun r1 => (g r1.2).bind fun r2 => some (r2.1, r2.2)) := by
  intro f d C M M2 D b hf hd hL hB h
  obtain ⟨f, rfl⟩ : ∃ q, f = q + 1 := ⟨f - 1, by omega⟩
  obtain ⟨C1, M1, e7, e8, h1, fr1, m0, m1⟩ := e_keep M2 D h (by omega) 20
  have d1 := run_d1 hd (by omega)
  obtain ⟨r, C2, M3, a7, a8, h2, fr2⟩ := hin f (d + 1) C1 M1 M2 D (b + 1) (by omega) (by omega) (by omega) (by omega) h1
  refine ⟨r, C2, M3, ?_, ?_, by rw [show b + (B + 1) = b + 1 + B by omega]; exact h2, fr1.trans fr2⟩
  · show X0_run_0 _ _ _ _ _ _ _ = _
    unfold X0_run_0
    rw [if_pos (run_d (by omega)), hb, Option.bind_some]
    dsimp only
    rw [e7, Option.bind_some]
    simp (config := {decide := true}) only [if_true, if_false]
    rw [cO9, a7, Option.bind_some]
  · dsimp only
    rw [e8, Option.bind_some]
    dsimp only
    rw [a8, Option.bind_some]
theorem tg30 {k act fr x : Int32} {L B : Nat} {g : MS → Option (Int32 × MS)} (hb : ∀ S, X0_bodyFrom S fr act = some (30, S)) (hin : tgt k L B 1 0 x g) : tgt k (L + 1) (B + 1) act fr x (fun M => (X8_body M 30).bind fun r1 => (g r1.2).bind fun r2 => some (r2.1 ^^^ 5, r2.2)) := by
  intro f d C M M2 D b hf hd hL hB h
  obtain ⟨f, rfl⟩ : ∃ q, f = q + 1 := ⟨f - 1, by omega⟩
  obtain ⟨C1, M1, e7, e8, h1, fr1, m0, m1⟩ := e_keep M2 D h (by omega) 30
  have d1 := run_d1 hd (by omega)
  obtain ⟨r, C2, M3, a7, a8, h2, fr2⟩ := hin f (d + 1) C1 M1 M2 D (b + 1) (by omega) (by omega) (by omega) (by omega) h1
  refine ⟨r ^^^ 5, C2, M3, ?_, ?_, by rw [show b + (B + 1) = b + 1 + B by omega]; exact h2, fr1.trans fr2⟩
  · show X0_run_0 _ _ _ _ _ _ _ = _
    unfold X0_run_0
    rw [if_pos (run_d (by omega)), hb, Option.bind_some]
    dsimp only
    rw [e7, Option.bind_some]
    simp (config := {decide := true}) only [if_true, if_false]
    rw [cO9, a7, Option.bind_some]
  · dsimp only
    rw [e8, Option.bind_some]
    dsimp only
    rw [a8, Option.bind_some]
theorem tg41 {k act fr x : Int32} {L B : Nat} {g : MS → Option (Int32 × MS)} (hb : ∀ S, X0_bodyFrom S fr act = some (41, S)) (hin : tgt k L B 1 0 x g) : tgt k (L + 1) (B + 1) act fr x (fun M => (X8_body M 41).bind fun r1 => (g r1.2).bind fun r2 => some (-r2.1, r2.2)) := by
  intro f d C M M2 D b hf hd hL hB h
  obtain ⟨f, rfl⟩ : ∃ q, f = q + 1 := ⟨f - 1, by omega⟩
  obtain ⟨C1, M1, e7, e8, h1, fr1, m0, m1⟩ := e_keep M2 D h (by omega) 41
  have d1 := run_d1 hd (by omega)
  obtain ⟨r, C2, M3, a7, a8, h2, fr2⟩ := hin f (d + 1) C1 M1 M2 D (b + 1) (by omega) (by omega) (by omega) (by omega) h1
  refine ⟨-r, C2, M3, ?_, ?_, by rw [show b + (B + 1) = b + 1 + B by omega]; exact h2, fr1.trans fr2⟩
  · show X0_run_0 _ _ _ _ _ _ _ = _
    unfold X0_run_0
    rw [if_pos (run_d (by omega)), hb, Option.bind_some]
    dsimp only
    rw [e7, Option.bind_some]
    simp (config := {decide := true}) only [if_true, if_false]
    rw [cO9, a7, Option.bind_some]
  · dsimp only
    rw [e8, Option.bind_some]
    dsimp only
    rw [a8, Option.bind_some]
theorem tg61 {k act fr x : Int32} {L B : Nat} {g : MS → Option (Int32 × MS)} (hb : ∀ S, X0_bodyFrom S fr act = some (61, S)) (hin : tgt k L B 0 3 x g) : tgt k (L + 1) (B + 1) act fr x (fun M => (X8_body M 61).bind fun r1 => (g r1.2).bind fun r2 => some (r2.1 ^^^ r2.2.1 1, r2.2)) := by
  intro f d C M M2 D b hf hd hL hB h
  obtain ⟨f, rfl⟩ : ∃ q, f = q + 1 := ⟨f - 1, by omega⟩
  obtain ⟨C1, M1, e7, e8, h1, fr1, m0, m1⟩ := e_keep M2 D h (by omega) 61
  have d1 := run_d1 hd (by omega)
  obtain ⟨r, C2, M3, a7, a8, h2, fr2⟩ := hin f (d + 1) C1 M1 M2 D (b + 1) (by omega) (by omega) (by omega) (by omega) h1
  refine ⟨r ^^^ C2.1 13, C2, M3, ?_, ?_, by rw [show b + (B + 1) = b + 1 + B by omega]; exact h2, fr1.trans fr2⟩
  · show X0_run_0 _ _ _ _ _ _ _ = _
    unfold X0_run_0
    rw [if_pos (run_d (by omega)), hb, Option.bind_some]
    dsimp only
    rw [e7, Option.bind_some]
    simp (config := {decide := true}) only [if_true, if_false]
    rw [cO9, a7, Option.bind_some]
    dsimp only
    rw [(n9 C2 M2 D).2.2.1, Option.bind_some]
  · dsimp only
    rw [e8, Option.bind_some]
    dsimp only
    rw [a8, Option.bind_some, h2.2.2.2.2]
theorem tg70 {k act fr x : Int32} {L B : Nat} {g : Int32 → MS → Option (Int32 × MS)} (hb : ∀ S, X0_bodyFrom S fr act = some (70, S)) (hin : ∀ y : Int32, tgt k L B 2 1 y (g y)) : tgt k (L + 1) (B + 1) act fr x (fun M => (X8_body M 70).bind fun r1 => (g (x - r1.2.1 0) r1.2).bind fun r2 => some (r2.1, r2.2)) := by
  intro f d C M M2 D b hf hd hL hB h
  obtain ⟨f, rfl⟩ : ∃ q, f = q + 1 := ⟨f - 1, by omega⟩
  obtain ⟨C1, M1, e7, e8, h1, fr1, m0, m1⟩ := e_keep M2 D h (by omega) 70
  have d1 := run_d1 hd (by omega)
  obtain ⟨r, C2, M3, a7, a8, h2, fr2⟩ := hin (x - M1.1 0) f (d + 1) C1 M1 M2 D (b + 1) (by omega) (by omega) (by omega) (by omega) h1
  refine ⟨r, C2, M3, ?_, ?_, by rw [show b + (B + 1) = b + 1 + B by omega]; exact h2, fr1.trans fr2⟩
  · show X0_run_0 _ _ _ _ _ _ _ = _
    unfold X0_run_0
    rw [if_pos (run_d (by omega)), hb, Option.bind_some]
    dsimp only
    rw [e7, Option.bind_some]
    simp (config := {decide := true}) only [if_true, if_false]
    rw [(n9 C1 M2 D).2.1, Option.bind_some, h1.2.2.2.1, cO9, a7, Option.bind_some]
  · dsimp only
    rw [e8, Option.bind_some]
    dsimp only
    rw [a8, Option.bind_some]
theorem tg40 {k act fr x : Int32} {L B L2 B2 : Nat} {g g2 : MS → Option (Int32 × MS)} (hb : ∀ S, X0_bodyFrom S fr act = some (40, S)) (hin : tgt k L B 2 0 x g) (hin2 : tgt k L2 B2 0 k 1 g2) : tgt k (L + L2 + 1) (B + B2 + 1) act fr x (fun M => (X8_body M 40).bind fun r1 => (g r1.2).bind fun r2 => (g2 r2.2).bind fun r3 => some (r2.1 + r3.1, r3.2)) := by
  intro f d C M M2 D b hf hd hL hB h
  obtain ⟨f, rfl⟩ : ∃ q, f = q + 1 := ⟨f - 1, by omega⟩
  obtain ⟨C1, M1, e7, e8, h1, fr1, m0, m1⟩ := e_keep M2 D h (by omega) 40
  have d1 := run_d1 hd (by omega)
  obtain ⟨r, C2, M3, a7, a8, h2, fr2⟩ := hin f (d + 1) C1 M1 M2 D (b + 1) (by omega) (by omega) (by omega) (by omega) h1
  obtain ⟨w, C3, M4, b7, b8, h3, fr3⟩ := hin2 f (d + 1) C2 M3 M2 D (b + 1 + B) (by omega) (by omega) (by omega) (by omega) h2
  refine ⟨r + w, C3, M4, ?_, ?_, by rw [show b + (B + B2 + 1) = b + 1 + B + B2 by omega]; exact h3, (fr1.trans fr2).trans fr3⟩
  · show X0_run_0 _ _ _ _ _ _ _ = _
    unfold X0_run_0
    rw [if_pos (run_d (by omega)), hb, Option.bind_some]
    dsimp only
    rw [e7, Option.bind_some]
    simp (config := {decide := true}) only [if_true, if_false]
    rw [cO9, a7, Option.bind_some]
    dsimp only
    rw [(n9 C2 M2 D).1, Option.bind_some, h2.2.2.1, cO9, b7, Option.bind_some]
  · dsimp only
    rw [e8, Option.bind_some]
    dsimp only
    rw [a8, Option.bind_some]
    dsimp only
    rw [b8, Option.bind_some]
theorem tg50 {k act fr x : Int32} {L B L2 B2 : Nat} {g g2 : MS → Option (Int32 × MS)} (hb : ∀ S, X0_bodyFrom S fr act = some (50, S)) (hin : tgt k L B 1 1 x g) (hin2 : tgt k L2 B2 0 1 2 g2) : tgt k (L + L2 + 1) (B + B2 + 1) act fr x (fun M => (X8_body M 50).bind fun r1 => (g r1.2).bind fun r2 => (g2 r2.2).bind fun r3 => some (r2.1 + r3.1, r3.2)) := by
  intro f d C M M2 D b hf hd hL hB h
  obtain ⟨f, rfl⟩ : ∃ q, f = q + 1 := ⟨f - 1, by omega⟩
  obtain ⟨C1, M1, e7, e8, h1, fr1, m0, m1⟩ := e_keep M2 D h (by omega) 50
  have d1 := run_d1 hd (by omega)
  obtain ⟨r, C2, M3, a7, a8, h2, fr2⟩ := hin f (d + 1) C1 M1 M2 D (b + 1) (by omega) (by omega) (by omega) (by omega) h1
  obtain ⟨w, C3, M4, b7, b8, h3, fr3⟩ := hin2 f (d + 1) C2 M3 M2 D (b + 1 + B) (by omega) (by omega) (by omega) (by omega) h2
  refine ⟨r + w, C3, M4, ?_, ?_, by rw [show b + (B + B2 + 1) = b + 1 + B + B2 by omega]; exact h3, (fr1.trans fr2).trans fr3⟩
  · show X0_run_0 _ _ _ _ _ _ _ = _
    unfold X0_run_0
    rw [if_pos (run_d (by omega)), hb, Option.bind_some]
    dsimp only
    rw [e7, Option.bind_some]
    simp (config := {decide := true}) only [if_true, if_false]
    rw [cO9, a7, Option.bind_some]
    dsimp only
    rw [cO9, b7, Option.bind_some]
  · dsimp only
    rw [e8, Option.bind_some]
    dsimp only
    rw [a8, Option.bind_some]
    dsimp only
    rw [b8, Option.bind_some]
theorem tg60 {k act fr x : Int32} {L B L2 B2 : Nat} {g g2 : MS → Option (Int32 × MS)} (hb : ∀ S, X0_bodyFrom S fr act = some (60, S)) (hin : tgt k L B 1 k x g) (hin2 : tgt k L2 B2 2 3 x g2) : tgt k (L + L2 + 1) (B + B2 + 1) act fr x (fun M => (X8_body M 60).bind fun r1 => (g r1.2).bind fun r2 => (g2 r2.2).bind fun r3 => some (r2.1 - r3.1, r3.2)) := by
  intro f d C M M2 D b hf hd hL hB h
  obtain ⟨f, rfl⟩ : ∃ q, f = q + 1 := ⟨f - 1, by omega⟩
  obtain ⟨C1, M1, e7, e8, h1, fr1, m0, m1⟩ := e_keep M2 D h (by omega) 60
  have d1 := run_d1 hd (by omega)
  obtain ⟨r, C2, M3, a7, a8, h2, fr2⟩ := hin f (d + 1) C1 M1 M2 D (b + 1) (by omega) (by omega) (by omega) (by omega) h1
  obtain ⟨w, C3, M4, b7, b8, h3, fr3⟩ := hin2 f (d + 1) C2 M3 M2 D (b + 1 + B) (by omega) (by omega) (by omega) (by omega) h2
  refine ⟨r - w, C3, M4, ?_, ?_, by rw [show b + (B + B2 + 1) = b + 1 + B + B2 by omega]; exact h3, (fr1.trans fr2).trans fr3⟩
  · show X0_run_0 _ _ _ _ _ _ _ = _
    unfold X0_run_0
    rw [if_pos (run_d (by omega)), hb, Option.bind_some]
    dsimp only
    rw [e7, Option.bind_some]
    simp (config := {decide := true}) only [if_true, if_false]
    rw [(n9 C1 M2 D).1, Option.bind_some, h1.2.2.1, cO9, a7, Option.bind_some]
    dsimp only
    rw [cO9, b7, Option.bind_some]
  · dsimp only
    rw [e8, Option.bind_some]
    dsimp only
    rw [a8, Option.bind_some]
    dsimp only
    rw [b8, Option.bind_some]
