/-! ===== the class: a law more ===== -/
theorem k_lawRead {C : CS} {cs : List Cz} (M : MS) (D : List va_E) (hC : kCl C cs) (hl : (kSt true cs).length ≤ 100) : ∃ X, X4_lawRead (mh (ccells C) M D) 3 = some (some (mh (ccells C) M D).length.succ, mh (ccells C) M (D ++ X)) ∧ X.length = 2 ∧ LVD (D ++ X) (mh (ccells C) M D).length.succ cs := by
  obtain ⟨b1, b2, b3, b4, b5, b6⟩ := id hC
  have e0 : (0 : Int32).toInt = 0 := rfl
  have e100 : (100 : Int32).toInt = 100 := rfl
  have hlen := mh_len C M D
  have h3 : C.1 3 = nI (kSt true cs).length := zi_eq.mpr (by rw [b5, q_i (by omega)])
  generalize hts : kSt true cs = ts at *
  have hsz : (if 0 < (if (100 : Int32) < C.1 3 then 100 else C.1 3) then (if (100 : Int32) < C.1 3 then 100 else C.1 3) else 0) = nI ts.length := by
    rw [if_neg (show ¬ (100 : Int32) < C.1 3 by rw [zi_lt, h3, q_i (by omega)]; omega), h3]
    by_cases q : 0 < nI ts.length
    · rw [if_pos q]
    · rw [if_neg q]
      have q := mt zi_lt.mpr q
      apply zi_eq.mpr
      rw [q_i (by omega)] at q ⊢
      omega
  have hL : (mh (ccells C) M D).length = 54 + D.length := hlen
  generalize hLd : (mh (ccells C) M D).length = L at *
  have hv : ∀ k : Nat, k < L → (mh (ccells C) M D)[k]? = (mh (ccells C) M D)[k]? := fun _ _ => rfl
  let A0 : va_E := .inl (0, (ts.length, .inl (fun _ => 0)))
  let A1 : va_E := .inl (0, (ts.length, .inl (va_cpy (C.2.1 1) (fun _ => 0) 0 0 ts.length)))
  have a0 : (mh (ccells C) M (D ++ [A0]))[L]? = some A0 := by
    rw [← mh_app, ← hLd]
    exact app_at _ _
  have a1 : (mh (ccells C) M (D ++ [A0])).set L A1 = mh (ccells C) M (D ++ [A1]) := by
    rw [← mh_app, ← mh_app, List.set_append_right _ _ (by omega), hLd, Nat.sub_self]
    rfl
  have c4' : (mh (ccells C) M (D ++ [A0]))[5]? = some (.inl (0, (100, .inl (C.2.1 1)))) := c_4 C M _
  have hcp : cpI (mh (ccells C) M (D ++ [A0])) (some 5) 0 (some L) 0 (nI ts.length) = some (mh (ccells C) M (D ++ [A1])) := by
    unfold cpI
    have a0' : (mh (ccells C) M (D ++ [A0]))[L]? = some (.inl (0, (ts.length, .inl (fun _ => 0)))) := a0
    rw [bsm, bsm, c4', a0']
    dsimp only
    have hz := zi_n (nI ts.length)
    have hz0 := zi_n 0
    have e := q_i (n := ts.length) (by omega)
    rw [if_pos ⟨⟨rfl, rfl⟩, ⟨by decide, by decide, by rw [zi_lt]; omega⟩, by omega, by omega⟩, show (nI ts.length).toNatClampNeg = ts.length by omega, show (0 : Int32).toNatClampNeg = 0 from rfl]
    exact congrArg some a1
  have l1 : (mh (ccells C) M (D ++ [A1])).length = L + 1 := by
    rw [mh_len, List.length_append]
    simp only [List.length_cons, List.length_nil]
    omega
  let O0 : va_E := .inr (3, [.null, .int 0, .int 0, .int 0])
  let O1 : va_E := .inr (3, [.ref L, .int 0, .int 0, .int 0])
  let O2 : va_E := .inr (3, [.ref L, .int (b01 (hasK 1 cs)), .int 0, .int 0])
  let O3 : va_E := .inr (3, [.ref L, .int (b01 (hasK 1 cs)), .int (b01 (hasK 3 cs)), .int 0])
  let O4 : va_E := .inr (3, [.ref L, .int (b01 (hasK 1 cs)), .int (b01 (hasK 3 cs)), .int (kMo cs)])
  have hn : nwO 3 (mh (ccells C) M (D ++ [A1])) = mh (ccells C) M (D ++ [A1, O0]) := by
    unfold nwO
    rw [mh_app, List.append_assoc]
    rfl
  have ob : ∀ c : va_E, (mh (ccells C) M (D ++ [A1, c]))[L + 1]? = some c := fun c => by
    have : D ++ [A1, c] = (D ++ [A1]) ++ [c] := by rw [List.append_assoc]; rfl
    rw [this, ← mh_app, ← l1]
    exact app_at _ _
  have os : ∀ c d : va_E, (mh (ccells C) M (D ++ [A1, c])).set (L + 1) d = mh (ccells C) M (D ++ [A1, d]) := fun c d => by
    have e1 : D ++ [A1, c] = (D ++ [A1]) ++ [c] := by rw [List.append_assoc]; rfl
    have e2 : D ++ [A1, d] = (D ++ [A1]) ++ [d] := by rw [List.append_assoc]; rfl
    rw [e1, e2, ← mh_app C M (D ++ [A1]), ← mh_app C M (D ++ [A1]), List.set_append_right _ _ (by omega), l1, Nat.sub_self]
    rfl
  have bz : ∀ b : Bool, b01 b = 0 ∨ b01 b = 1 := fun b => by cases b <;> simp [b01]
  have s1 : sQ (mh (ccells C) M (D ++ [A1, O0])) (L + 1) 3 0 (some L) = some (mh (ccells C) M (D ++ [A1, O1])) := by
    rw [e_sQ (ob O0) (show 0 < 4 by decide)]
    exact congrArg some (os O0 O1)
  have s2 : sZ (mh (ccells C) M (D ++ [A1, O1])) (L + 1) 3 1 (C.1 7) = some (mh (ccells C) M (D ++ [A1, O2])) := by
    unfold sZ sF
    rw [b2, if_pos (bz _), ob O1]
    exact congrArg some (os O1 O2)
  have s3 : sZ (mh (ccells C) M (D ++ [A1, O2])) (L + 1) 3 2 (C.1 8) = some (mh (ccells C) M (D ++ [A1, O3])) := by
    unfold sZ sF
    rw [b3, if_pos (bz _), ob O2]
    exact congrArg some (os O2 O3)
  have s4 : sI (mh (ccells C) M (D ++ [A1, O3])) (L + 1) 3 3 (C.1 9) = some (mh (ccells C) M (D ++ [A1, O4])) := by
    rw [b4, e_sI (ob O3) (show 3 < 4 by decide)]
    exact congrArg some (os O3 O4)
  have hL1 : 54 ≤ L + 1 := by omega
  have hL2 : 54 ≤ L := by omega
  refine ⟨[A1, O4], ?_, rfl, LVD_of (C := C) (M := M) (b := L + 1) ⟨L, hL1, hL2, ob O4, _, va_cpy (C.2.1 1) (fun _ => 0) 0 0 ts.length, ob O4, rfl, ?_, fun i t ht => ?_⟩⟩
  · have nw : nwA 0 100 (mh (ccells C) M D) (nI ts.length) = some (L, mh (ccells C) M (D ++ [A0])) := by
      rw [e_nwA _ hl (by omega), hLd, mh_app]
    have aL : aN (mh (ccells C) M (D ++ [A0])) (some L) = some (nI ts.length) := e_aN a0 (by decide)
    unfold X4_lawRead X4_lawRead_0
    rw [g_3, bsm, g_st, bsm, n_st, bsm, hsz, nw, bsm, prs, g_st, bsm, aL, bsm, hcp, bsm, hn, g_7, bsm, g_8, bsm, g_9, bsm, l1]
    unfold X3_init X3_init_0
    rw [s1, bsm, s2, bsm, s3, bsm, s4, bsm, bsm]
  · rw [hts]
    have : D ++ [A1, O4] = (D ++ [A1]) ++ [O4] := by rw [List.append_assoc]; rfl
    rw [this, mh_low C M (D ++ [A1]) [O4] (by rw [List.length_append]; simp only [List.length_cons, List.length_nil]; omega), ← mh_app, ← hLd]
    exact app_at _ _
  · rw [hts] at ht
    have hi := (List.getElem?_eq_some_iff.mp ht).1
    unfold va_cpy
    rw [if_pos ⟨Nat.zero_le _, by omega⟩, Nat.zero_add, Nat.sub_zero]
    exact b6 i t ht
theorem k_addL {C : CS} {cs : List Cz} (M2 : MS) (D : List va_E) (hC : kCl C cs) (hl : (kSt true cs).length ≤ 100) (h0 : 0 ≤ (C.1 1).toInt) (h5 : (C.1 1).toInt < 5) : ∃ X ob, cO (mh (ccells C) M2 D) 0 7 (X7_addLaw (mh (ccells C) M2 D) 0) = some (C.1 1, mh (ccells (c1 (c4 C 1 (va_up (C.2.2.2.1 1) (C.1 1).toNatClampNeg (some ob))) 1 (C.1 1 + 1))) M2 (D ++ X)) ∧ LVD (D ++ X) ob cs := by
  have e0 : (0 : Int32).toInt = 0 := rfl
  have e5 : (5 : Int32).toInt = 5 := rfl
  obtain ⟨X, i1, i2, i3⟩ := k_lawRead M2 D hC hl
  refine ⟨X, (mh (ccells C) M2 D).length.succ, ?_, i3⟩
  obtain ⟨st, o1, o2, o3, o4⟩ := i3 C M2
  have g1 : gI (mh (ccells C) M2 D) 0 7 9 = some (C.1 1) := rfl
  have g2 : gQ (mh (ccells C) M2 D) 0 7 3 = some (some 7) := rfl
  have g3 : aN (mh (ccells C) M2 D) (some 7) = some 5 := rfl
  have g4 : gQ (mh (ccells C) M2 D) 0 7 1 = some (some 3) := rfl
  have hc : cO (mh (ccells C) M2 D) 0 7 (X7_addLaw (mh (ccells C) M2 D) 0) = X7_addLaw (mh (ccells C) M2 D) 0 := rfl
  rw [hc]
  unfold X7_addLaw X7_addLaw_0 X7_addLaw_41
  rw [g1, bsm, if_neg (by rw [zi_lt]; omega), g2, bsm, g3, bsm, if_neg (by rw [zi_le]; omega), bsm, g4, bsm, bsm, z_cO, i1, bsm, prs, bsm]
  have hio : isO (mh (ccells C) M2 (D ++ X)) (mh (ccells C) M2 D).length.succ 3 = true := by
    unfold isO
    rw [o3]
    rfl
  have hix : ixOk (C.1 1) 5 = true := ix_ok h0 h5
  have u1 : uQ 5 3 (mh (ccells C) M2 (D ++ X)) (some 7) (C.1 1) (mh (ccells C) M2 D).length.succ = some (mh (ccells (c4 C 1 (va_up (C.2.2.2.1 1) (C.1 1).toNatClampNeg (some (mh (ccells C) M2 D).length.succ)))) M2 (D ++ X)) := by
    show (if _ = _ ∧ _ ∧ _ then _ else _) = _
    rw [if_pos ⟨rfl, hix, hio⟩]
    rfl
  rw [u1, bsm]
  rfl
