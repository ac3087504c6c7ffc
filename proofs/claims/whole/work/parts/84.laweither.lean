/-! ===== the class: parts joined, parts within parts ===== -/
theorem k_ei7 {bs : List Int32} {pt : Nat → Rs} {E : Nat} {pf : AH → Nat → Int32 → Option (Int32 × AH)} {l1 : Int32} (M : MS) (D : List va_E) (hE : E ≤ 20) (hpt : ∀ p, p ≤ bs.length → rsOk bs E p (pt p)) (hpf : ∀ (C : CS) (p : Nat) (ts : List Tk), kX C bs → (C.1 4).toInt = p → p ≤ bs.length → kTs C ts → ts.length ≤ p → kRes bs M D C ts (pt p) (pf (mh (ccells C) M D) 3 l1)) : ∀ (k p fn : Nat) (ja jo : Bool) (C : CS) (ts : List Tk) (l4 : Int32), kX C bs → (C.1 4).toInt = p → p ≤ bs.length → kTs C ts → ts.length + bnt ja + bnt jo ≤ p → l4.toInt = 100 - (k : Int) → k ≤ 100 → k < fn → kRes bs M D C ts (pEi bs pt k p ja jo) (X4_either_7 pf fn (mh (ccells C) M D) 3 l1 (b01 ja) (b01 jo) l4)
  | 0, p, fn, ja, jo, C, ts, l4, hX, hp, hpl, ht, hl, h4, hk, hf => by
    obtain ⟨fn, rfl⟩ : ∃ q, fn = q + 1 := ⟨fn - 1, by omega⟩
    have e100 : (100 : Int32).toInt = 100 := rfl
    unfold X4_either_7 pEi
    rw [if_pos (by rw [zi_le]; omega)]
    exact ⟨C, rfl, hp, frE.rfl, fun c => by cases c⟩
  | k + 1, p, fn, ja, jo, C, ts, l4, hX, hp, hpl, ht, hl, h4, hk, hf => by
    obtain ⟨fn, rfl⟩ : ∃ q, fn = q + 1 := ⟨fn - 1, by omega⟩
    have e100 : (100 : Int32).toInt = 100 := rfl
    have h100 := hX.2.2.1
    have h41 : (l4 + 1).toInt = 100 - (k : Int) := by
      rw [zi_inc h4 (by omega) (by omega)]
      omega
    obtain ⟨p1, p2, p3⟩ := hpt p hpl
    obtain ⟨C1, i1, i2, i3, i4⟩ := hpf C p ts hX hp hpl ht (by omega)
    rw [X4_either_7, if_neg (by rw [zi_le]; omega), z_cO, i1, bsm, pEi]
    dsimp only
    generalize hr : pt p = r at p1 p2 p3 i2 i4 ⊢
    obtain ⟨ok, q, us⟩ := r
    dsimp only at p1 p2 p3 i2 i4 ⊢
    rw [b01_i]
    cases ok with
    | false =>
      rw [if_pos rfl, if_neg (by decide)]
      exact ⟨C1, rfl, i2, i3, fun c => by cases c⟩
    | true =>
      obtain ⟨p4, p5, p6⟩ := p3 rfl
      have ht1 := i4 rfl
      have hX1 := kX_E hX i3
      rw [if_pos rfl, if_neg (by decide), b01_i]
      have b1 : bnt true = 1 := rfl
      have b0 : bnt false = 0 := rfl
      -- the and that waits
      have A : ∃ C2, (if ja = true then (cO (mh (ccells C1) M D) 3 4 (X4_addStep (mh (ccells C1) M D) 3 (-2))).bind fun r2 => X4_either_35 pf (X4_either_7 pf fn) r2.2 3 l1 (b01 jo) l4 else X4_either_35 pf (X4_either_7 pf fn) (mh (ccells C1) M D) 3 l1 (b01 jo) l4) = X4_either_35 pf (X4_either_7 pf fn) (mh (ccells C2) M D) 3 l1 (b01 jo) l4 ∧ kTs C2 (ts ++ (us ++ (if ja = true then [(8, 0, 0)] else []))) ∧ frE C C2 ∧ (C2.1 4).toInt = q := by
        cases ja with
        | false =>
          rw [if_neg (by decide), if_neg (by decide), List.append_nil]
          exact ⟨C1, rfl, ht1, i3, i2⟩
        | true =>
          obtain ⟨C2, j1, j2, j3, j4, j5⟩ := k_addStep M D ht1 (by rw [List.length_append]; omega) (8, 0, 0) (-2) rfl
          rw [if_pos rfl, if_pos rfl, z_cO, j1, bsm, ← List.append_assoc]
          exact ⟨C2, rfl, j2, frE.trans i3 j3, by rw [j4]; exact i2⟩
      obtain ⟨C2, a1, a2, a3, a4⟩ := A
      rw [a1]
      have hX2 := kX_E hX a3
      have lA : (us ++ (if ja = true then [((8, 0, 0) : Tk)] else [])).length = us.length + bnt ja := by
        rw [List.length_append]
        cases ja <;> rfl
      unfold X4_either_35
      rw [z_cO, k_sign M D hX2 a4]
      have hX3 := kX_E hX2 (frE_4 C2 (C2.1 4 + 1))
      have hq1 : ((c1 C2 4 (C2.1 4 + 1)).1 4).toInt = (((q + 1 : Nat) : Int)) := by
        show (C2.1 4 + 1).toInt = _
        rw [zi_inc a4 (by omega) (by omega)]
        omega
      have kt4 : ∀ (B : CS) (v : Int32) (ws : List Tk), kTs B ws → kTs (c1 B 4 v) ws := fun B v ws h => h
      by_cases q38 : byA bs q = 38
      · have hq := byA_lt q38 (by decide)
        rw [if_pos q38, if_pos q38, bsm]
        dsimp only
        rw [if_neg (show ¬ (1 : Int32) = 0 by decide)]
        unfold X4_either_73
        obtain ⟨C4, m1, m2, m3, m4⟩ := k_ei7 M D hE hpt hpf k (q + 1) fn true jo (c1 C2 4 (C2.1 4 + 1)) (ts ++ (us ++ (if ja = true then [(8, 0, 0)] else []))) (l4 + 1) hX3 hq1 (by omega) (kt4 _ _ _ a2) (by rw [List.length_append, lA]; omega) h41 (by omega) (by omega)
        refine ⟨C4, m1, m2, frE.trans a3 (frE.trans (frE_4 _ _) m3), fun c => ?_⟩
        have := m4 c
        rw [List.append_assoc] at this
        exact this
      · rw [if_neg q38, if_neg q38, bsm]
        dsimp only
        rw [if_pos rfl, b01_i]
        -- the or that waits
        have B : ∀ (C3 : CS), X4_either_60 pf (X4_either_7 pf fn) (mh (ccells C3) M D) 3 l1 0 l4 = X4_either_60 pf (X4_either_7 pf fn) (mh (ccells C3) M D) 3 l1 (b01 false) l4 := fun _ => rfl
        have A2 : byA bs q = 124 ∨ True → ∃ C3, (if jo = true then (cO (mh (ccells C2) M D) 3 4 (X4_addStep (mh (ccells C2) M D) 3 (-3))).bind fun r2 => X4_either_60 pf (X4_either_7 pf fn) r2.2 3 l1 0 l4 else X4_either_60 pf (X4_either_7 pf fn) (mh (ccells C2) M D) 3 l1 0 l4) = X4_either_60 pf (X4_either_7 pf fn) (mh (ccells C3) M D) 3 l1 (b01 false) l4 ∧ kTs C3 (ts ++ ((us ++ (if ja = true then [(8, 0, 0)] else [])) ++ (if jo = true then [(9, 0, 0)] else []))) ∧ frE C C3 ∧ (C3.1 4).toInt = q := by
          intro _
          cases jo with
          | false =>
            rw [if_neg (by decide), if_neg (show ¬ (false = true) by decide), List.append_nil]
            exact ⟨C2, rfl, a2, a3, a4⟩
          | true =>
            obtain ⟨C3, j1, j2, j3, j4, j5⟩ := k_addStep M D a2 (by rw [List.length_append, lA]; omega) (9, 0, 0) (-3) rfl
            rw [if_pos rfl, if_pos (show true = true from rfl), z_cO, j1, bsm, ← List.append_assoc]
            exact ⟨C3, rfl, j2, frE.trans a3 j3, by rw [j4]; exact a4⟩
        obtain ⟨C3, o1, o2, o3, o4⟩ := A2 (.inr trivial)
        rw [o1]
        have hX4 := kX_E hX o3
        have lB : ((us ++ (if ja = true then [((8, 0, 0) : Tk)] else [])) ++ (if jo = true then [((9, 0, 0) : Tk)] else [])).length = us.length + bnt ja + bnt jo := by
          rw [List.length_append, lA]
          cases jo <;> rfl
        unfold X4_either_60
        rw [z_cO, k_sign M D hX4 o4]
        by_cases q124 : byA bs q = 124
        · have hq := byA_lt q124 (by decide)
          have hq2 : ((c1 C3 4 (C3.1 4 + 1)).1 4).toInt = (((q + 1 : Nat) : Int)) := by
            show (C3.1 4 + 1).toInt = _
            rw [zi_inc o4 (by omega) (by omega)]
            omega
          rw [if_pos q124, if_pos q124, bsm]
          dsimp only
          rw [if_neg (show ¬ (1 : Int32) = 0 by decide)]
          unfold X4_either_73
          obtain ⟨C4, m1, m2, m3, m4⟩ := k_ei7 M D hE hpt hpf k (q + 1) fn false true (c1 C3 4 (C3.1 4 + 1)) (ts ++ ((us ++ (if ja = true then [(8, 0, 0)] else [])) ++ (if jo = true then [(9, 0, 0)] else []))) (l4 + 1) (kX_E hX4 (frE_4 _ _)) hq2 (by omega) (kt4 _ _ _ o2) (by rw [List.length_append, lB]; omega) h41 (by omega) (by omega)
          refine ⟨C4, m1, m2, frE.trans o3 (frE.trans (frE_4 _ _) m3), fun c => ?_⟩
          have := m4 c
          rw [List.append_assoc] at this
          exact this
        · rw [if_neg q124, if_neg q124, bsm]
          dsimp only
          rw [if_pos rfl]
          exact ⟨C3, rfl, o4, o3, fun _ => o2⟩
theorem kRes_z {bs : List Int32} {M : MS} {D : List va_E} {C : CS} {ts : List Tk} {r : Rs} {res : Option (Int32 × AH)} (h : kRes bs M D C ts r res) : kRes bs M D C ts r (zg res) := by
  obtain ⟨C', h1, h2⟩ := h
  exact ⟨C', by rw [h1, zg_b], h2⟩
theorem k_ep {bs : List Int32} (M : MS) (D : List va_E) : ∀ (r n p : Nat) (C : CS) (ts : List Tk), r ≤ 4 → 2 * r < n → kX C bs → (C.1 4).toInt = p → p ≤ bs.length → kTs C ts → ts.length ≤ p → kRes bs M D C ts (pPt bs r p) (X4_ep n false (mh (ccells C) M D) 3 (nI (4 - r)))
  | 0, n, p, C, ts, hr, hn, hX, hp, hpl, ht, hl => by
    obtain ⟨n, rfl⟩ : ∃ q, n = q + 1 := ⟨n - 1, by omega⟩
    unfold X4_ep X4_part X4_part_0 pPt
    rw [z_cO, k_lat M D hX hp, bsm]
    dsimp only
    by_cases q : byA bs p = 33 ∨ byA bs p = 40
    · rw [if_pos q]
      have go : ∀ (f g : AH → Nat → Int32 → Option (Int32 × AH)) (x : Int32), X4_part_22 f g (mh (ccells C) M D) 3 (nI (4 - 0)) x = some (b01 false, mh (ccells C) M D) := by
        intro f g x
        unfold X4_part_22
        rw [if_neg (by decide)]
        rfl
      by_cases q1 : byA bs p = 33
      · rw [if_pos q1, go]
        exact kRes_z ⟨C, rfl, hp, frE.rfl, fun c => by cases c⟩
      · rw [if_neg q1, if_pos (q.resolve_left q1), go]
        exact kRes_z ⟨C, rfl, hp, frE.rfl, fun c => by cases c⟩
    · rw [if_neg q, if_neg (fun c => q (.inl c)), if_neg (fun c => q (.inr c)), z_cO]
      obtain ⟨C', h1, h2⟩ := k_test M D hX hp hpl ht hl
      rw [h1, bsm]
      exact kRes_z ⟨C', rfl, h2⟩
  | r + 1, n, p, C, ts, hr, hn, hX, hp, hpl, ht, hl => by
    obtain ⟨n, rfl⟩ : ∃ q, n = q + 1 := ⟨n - 1, by omega⟩
    have h100 := hX.2.2.1
    have hlt : nI (4 - (r + 1)) < 4 := by
      rw [zi_lt, q_i (by omega)]
      have : (4 : Int32).toInt = 4 := rfl
      omega
    have hin : nI (4 - (r + 1)) + 1 = nI (4 - r) := by
      rcases (show r = 0 ∨ r = 1 ∨ r = 2 ∨ r = 3 by omega) with rfl | rfl | rfl | rfl <;> rfl
    have hX1 := kX_E hX (frE_4 C (C.1 4 + 1))
    unfold X4_ep X4_part X4_part_0 pPt
    rw [z_cO, k_lat M D hX hp, bsm]
    dsimp only
    have hp1 : p < bs.length → ((c1 C 4 (C.1 4 + 1)).1 4).toInt = ((p + 1 : Nat) : Int) := fun _ => by
      show (C.1 4 + 1).toInt = _
      rw [zi_inc hp (by omega) (by omega)]
      omega
    by_cases q1 : byA bs p = 33
    · have hq := byA_lt q1 (by decide)
      rw [if_pos q1, if_pos q1]
      obtain ⟨i1, i2, i3⟩ := pPt_ok bs r (p + 1) (by omega) (by omega)
      obtain ⟨C1, j1, j2, j3, j4⟩ := k_ep M D r n (p + 1) (c1 C 4 (C.1 4 + 1)) ts (by omega) (by omega) hX1 (hp1 hq) (by omega) ht (by omega)
      unfold X4_part_22 X4_part_92 X4_part_93
      rw [if_pos hlt, g_4, bsm, s_4, bsm, if_neg (show ¬ byA bs p = 40 by rw [q1]; decide), z_cO]
      dsimp only
      rw [hin, j1, bsm]
      generalize pPt bs r (p + 1) = s at i1 i2 i3 j2 j4 ⊢
      obtain ⟨s1, s2, s3⟩ := s
      dsimp only at i1 i2 i3 j2 j4 ⊢
      rw [b01_i]
      have f1 : frE C C1 := frE.trans (frE_4 _ _) j3
      cases s1 with
      | false =>
        rw [if_neg (by decide), if_neg (by decide)]
        exact kRes_z ⟨C1, rfl, j2, f1, fun c => by cases c⟩
      | true =>
        obtain ⟨i4, i5, i6⟩ := i3 rfl
        obtain ⟨C2, m1, m2, m3, m4, m5⟩ := k_addStep M D (j4 rfl) (by rw [List.length_append]; omega) (7, 0, 0) (-1) rfl
        rw [if_pos rfl, if_pos rfl, z_cO, m1, bsm]
        dsimp only
        rw [if_neg (by decide)]
        refine kRes_z ⟨C2, rfl, by rw [m4]; exact j2, frE.trans f1 m3, fun _ => ?_⟩
        rw [List.append_assoc] at m2
        exact m2
    · rw [if_neg q1, if_neg q1]
      by_cases q2 : byA bs p = 40
      · have hq := byA_lt q2 (by decide)
        rw [if_pos q2, if_pos q2]
        obtain ⟨i1, i2, i3⟩ := pEi_ok (bs := bs) (pt := pPt bs r) (D := 1 + 2 * r) (by omega) (fun p hp => pPt_ok bs r p (by omega) hp) 100 (p + 1) false false (by omega)
        obtain ⟨n, rfl⟩ : ∃ q, n = q + 1 := ⟨n - 1, by omega⟩
        obtain ⟨C1, j1, j2, j3, j4⟩ := k_ei7 (pf := fun S a x => X4_ep n false S a x) (l1 := nI (4 - r)) M D (E := 1 + 2 * r) (by omega) (fun p hp => pPt_ok bs r p (by omega) hp) (fun C p ts a b c d e => k_ep M D r n p C ts (by omega) (by omega) a b c d e) 100 (p + 1) FU false false (c1 C 4 (C.1 4 + 1)) ts 0 hX1 (hp1 hq) (by omega) ht (by have : bnt false = 0 := rfl; omega) rfl (by omega) (by unfold FU; omega)
        have je : X4_ep (n + 1) true (mh (ccells (c1 C 4 (C.1 4 + 1))) M D) 3 (nI (4 - r)) = some (b01 (pEi bs (pPt bs r) 100 (p + 1) false false).1, mh (ccells C1) M D) := by
          rw [X4_ep]
          unfold X4_either X4_either_0
          have j1 : X4_either_7 (fun S a x => X4_ep n false S a x) FU (mh (ccells (c1 C 4 (C.1 4 + 1))) M D) 3 (nI (4 - r)) 0 0 0 = _ := j1
          rw [j1, zg_b]
        unfold X4_part_22 X4_part_68 X4_part_69
        rw [if_pos hlt, g_4, bsm, s_4, bsm, if_pos q2, z_cO]
        dsimp only
        rw [hin, je, bsm]
        generalize pEi bs (pPt bs r) 100 (p + 1) false false = s at i1 i2 i3 j2 j4 ⊢
        obtain ⟨s1, s2, s3⟩ := s
        dsimp only at i1 i2 i3 j2 j4 ⊢
        rw [b01_i]
        have f1 : frE C C1 := frE.trans (frE_4 _ _) j3
        cases s1 with
        | false =>
          rw [if_neg (by decide), if_neg (by decide)]
          exact kRes_z ⟨C1, rfl, j2, f1, fun c => by cases c⟩
        | true =>
          have hX2 := kX_E hX f1
          rw [if_pos rfl, if_pos rfl, z_cO, k_sign M D hX2 j2]
          by_cases q3 : byA bs s2 = 41
          · have hq3 := byA_lt q3 (by decide)
            rw [if_pos q3, if_pos q3, bsm]
            dsimp only
            rw [if_neg (by decide)]
            refine kRes_z ⟨c1 C1 4 (C1.1 4 + 1), rfl, ?_, frE.trans f1 (frE_4 _ _), fun _ => j4 rfl⟩
            show (C1.1 4 + 1).toInt = ((s2 + 1 : Nat) : Int)
            rw [zi_inc j2 (by omega) (by omega)]
            omega
          · rw [if_neg q3, if_neg q3, bsm]
            dsimp only
            rw [if_pos rfl]
            exact kRes_z ⟨C1, rfl, j2, f1, fun c => by cases c⟩
      · rw [if_neg q2, if_neg q2, z_cO]
        obtain ⟨C', h1, h2⟩ := k_test M D hX hp hpl ht hl
        rw [h1, bsm]
        exact kRes_z ⟨C', rfl, h2⟩
theorem k_eitherK {C : CS} {bs : List Int32} {p : Nat} {ts : List Tk} (M : MS) (D : List va_E) (hX : kX C bs) (hp : (C.1 4).toInt = p) (hpl : p ≤ bs.length) (ht : kTs C ts) (hl : ts.length ≤ p) : kRes bs M D C ts (pEi bs (pPt bs 4) 100 p false false) (X4_eitherK (mh (ccells C) M D) 3 0) := by
  have j := k_ei7 (pf := fun S a x => X4_ep 19 false S a x) (l1 := nI (4 - 4)) M D (E := 1 + 2 * 4) (by omega) (fun p hp => pPt_ok bs 4 p (by omega) hp) (fun C p ts a b c d e => k_ep M D 4 19 p C ts (by omega) (by omega) a b c d e) 100 p FU false false C ts 0 hX hp hpl ht (by have : bnt false = 0 := rfl; omega) rfl (by omega) (by unfold FU; omega)
  unfold X4_eitherK
  rw [X4_ep]
  unfold X4_either X4_either_0
  exact kRes_z j
