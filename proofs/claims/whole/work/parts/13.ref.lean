/-! ===== the reference's methods as functions of numbers, by program out of their decode rows ===== -/
theorem ks_0 : mkS 0 := by simp [mkS]
theorem ks_1 : mkS 1 := by simp [mkS]
theorem ks_2 : mkS 2 := by simp [mkS]
theorem ks_3 : mkS 3 := by simp [mkS]
theorem ks_4 : mkS 4 := by simp [mkS]
theorem ki_5 : mkI 5 := by simp [mkI]
theorem ki_6 : mkI 6 := by simp [mkI]
theorem ki_7 : mkI 7 := by simp [mkI]
theorem ki_8 : mkI 8 := by simp [mkI]
theorem ki_9 : mkI 9 := by simp [mkI]
theorem ki_10 : mkI 10 := by simp [mkI]
theorem ki_11 : mkI 11 := by simp [mkI]
theorem ki_12 : mkI 12 := by simp [mkI]
theorem ki_13 : mkI 13 := by simp [mkI]
theorem ki_14 : mkI 14 := by simp [mkI]
theorem ki_15 : mkI 15 := by simp [mkI]
theorem ks_16 : mkS 16 := by simp [mkS]
theorem ks_17 : mkS 17 := by simp [mkS]
theorem ks_18 : mkS 18 := by simp [mkS]
theorem ki_19 : mkI 19 := by simp [mkI]
theorem ki_20 : mkI 20 := by simp [mkI]
theorem ki_21 : mkI 21 := by simp [mkI]
theorem ki_22 : mkI 22 := by simp [mkI]
theorem ki_23 : mkI 23 := by simp [mkI]
theorem ki_24 : mkI 24 := by simp [mkI]
theorem ki_25 : mkI 25 := by simp [mkI]
theorem ki_26 : mkI 26 := by simp [mkI]
theorem ks_27 : mkS 27 := by simp [mkS]
theorem ks_28 : mkS 28 := by simp [mkS]
theorem ks_29 : mkS 29 := by simp [mkS]
theorem ks_30 : mkS 30 := by simp [mkS]
theorem kz_31 : mkZ 31 := by simp [mkZ]
theorem kj_32 : mkJ 32 := by simp [mkJ]
theorem ks_33 : mkS 33 := by simp [mkS]
theorem kz_34 : mkZ 34 := by simp [mkZ]
theorem ks_35 : mkS 35 := by simp [mkS]
theorem ks_36 : mkS 36 := by simp [mkS]
theorem ks_37 : mkS 37 := by simp [mkS]
theorem ki_38 : mkI 38 := by simp [mkI]
theorem ki_39 : mkI 39 := by simp [mkI]
theorem ki_40 : mkI 40 := by simp [mkI]
theorem kj_41 : mkJ 41 := by simp [mkJ]
theorem kj_42 : mkJ 42 := by simp [mkJ]
-- PencilStrikesModel.in(III)Z
def X8_in_15 (S : MS) (s0 : Int32) : Option (Int32 × MS) :=
  some (s0, S)
def X8_in_14 (S : MS) : Option (Int32 × MS) :=
  X8_in_15 S 0
def X8_in_0 (S : MS) (l1 : Int32) (l2 : Int32) (l3 : Int32) : Option (Int32 × MS) :=
  if l1 < l2 then
    X8_in_14 S
  else
    if l3 < l1 then
      X8_in_14 S
    else
      X8_in_15 S 1
def X8_in (S : MS) (l1 : Int32) (l2 : Int32) (l3 : Int32) : Option (Int32 × MS) := zg (X8_in_0 S l1 l2 l3)
set_option maxHeartbeats 4000000 in
theorem sX8_in_15 {l : Launch} {g : gE} {d MC MS' k n : Nat} {A D : List va_E} (hA : A.length = 26) (hd : 0 ≤ d) (hk : k ≤ MC) (hn : n ≤ MS') {r : Int32 × MS} {S : MS} {s0 : Int32} (hf : X8_in_15 S s0 = some r) : AW l g d RX8 cX8_in 4 "in" MC MS' (Qr (some (.int r.1)) (mh A r.2 D)) k n 15 [none, none, none, none] [.int s0] (mh A S D) := by
  unfold X8_in_15 at hf
  have hf := Option.some.inj hf
  subst hf
  exact a_ireturn (pc := 15) dX8_in_15 hk hn ⟨rfl, rfl⟩
set_option maxHeartbeats 4000000 in
theorem sX8_in_14 {l : Launch} {g : gE} {d MC MS' k n : Nat} {A D : List va_E} (hA : A.length = 26) (hd : 0 ≤ d) (hk : k ≤ MC) (hn : n ≤ MS') {r : Int32 × MS} {S : MS} (hf : X8_in_14 S = some r) : AW l g d RX8 cX8_in 4 "in" MC MS' (Qr (some (.int r.1)) (mh A r.2 D)) k n 14 [none, none, none, none] [] (mh A S D) := by
  unfold X8_in_14 at hf
  refine a_iconst (pc := 14) 0 dX8_in_14 rfl ?_
  exact sX8_in_15 hA hd hk hn hf
set_option maxHeartbeats 4000000 in
theorem sX8_in_0 {l : Launch} {g : gE} {d MC MS' k n : Nat} {A D : List va_E} (hA : A.length = 26) (hd : 0 ≤ d) (hk : k ≤ MC) (hn : n ≤ MS') {r : Int32 × MS} {S : MS} {l1 : Int32} {l2 : Int32} {l3 : Int32} (hf : X8_in_0 S l1 l2 l3 = some r) : AW l g d RX8 cX8_in 4 "in" MC MS' (Qr (some (.int r.1)) (mh A r.2 D)) k n 0 [none, some (.int l1), some (.int l2), some (.int l3)] [] (mh A S D) := by
  unfold X8_in_0 at hf
  refine a_iload_n (pc := 0) dX8_in_0 rfl ?_
  refine a_iload_n (pc := 1) dX8_in_1 rfl ?_
  refine a_icmp_lt (pc := 2) 14 dX8_in_2 (by decide) (fun c2 => ?_) (fun c2 => ?_)
  · have hf := (if_pos c2).symm.trans hf
    refine a_sub (sub_k (sub_d (sub_d (sub_d sub_n)))) ?_
    exact sX8_in_14 hA hd hk hn hf
  · have hf := (if_neg c2).symm.trans hf
    refine a_iload_n (pc := 5) dX8_in_5 rfl ?_
    refine a_iload_n (pc := 6) dX8_in_6 rfl ?_
    refine a_icmp_gt (pc := 7) 14 dX8_in_7 (by decide) (fun c1 => ?_) (fun c1 => ?_)
    · have hf := (if_pos c1).symm.trans hf
      refine a_sub (sub_k (sub_d (sub_d (sub_d sub_n)))) ?_
      exact sX8_in_14 hA hd hk hn hf
    · have hf := (if_neg c1).symm.trans hf
      refine a_iconst (pc := 10) 1 dX8_in_10 rfl ?_
      refine a_goto (pc := 11) 15 dX8_in_11 (by decide) ?_
      refine a_sub (sub_k (sub_d (sub_d (sub_d sub_n)))) ?_
      exact sX8_in_15 hA hd hk hn hf
set_option maxHeartbeats 4000000 in
theorem mX8_in {l : Launch} {g : gE} {d : Nat} {A D : List va_E} (hA : A.length = 26) (hd : 0 ≤ d) {r : Int32 × MS} {S : MS} {l1 : Int32} {l2 : Int32} {l3 : Int32} (hf : X8_in S l1 l2 l3 = some r) : AM l g d yX8_in cX8_in 4 (some .boolean) 0 0 [.ref 26, .int l1, .int l2, .int l3] (mh A S D) (Qr (some (.int r.1)) (mh A r.2 D)) := by
  refine AM.of rfl (by exact Nat.le_of_ble_eq_true rfl) (fun v h' q => by obtain ⟨rfl, -⟩ := q; refine ⟨_, rfl, ?_⟩; rcases (zg_of hf).2 with e | e <;> rw [e] <;> rfl) (fun ls e => ?_)
  have e2 : aBeg [.ref 26, .int l1, .int l2, .int l3] 4 = [some (.ref 26), some (.int l1), some (.int l2), some (.int l3)] := rfl
  rw [e2] at e
  subst e
  refine a_sub (sub_d (sub_k (sub_k (sub_k (sub_n))))) ?_
  exact sX8_in_0 hA hd (Nat.le_refl _) (Nat.le_refl _) ((zg_of hf).1)
-- PencilStrikesModel.feed(II)I
def X8_feed_31 : Nat → MS → Int32 → Int32 → Option (Int32 × MS)
  | 0, _, _, _ => none
  | fn + 1, S, l1, l3 =>
    if l3 < 0 then
      some ((S.1 2), S)
    else
      (mAs S 5 (S.1 2) (((l1 >>> ((8 * l3) &&& 31))).toInt8.toInt32)).bind fun S1 =>
      X8_feed_31 fn (si S1 2 ((S1.1 2) + 1)) l1 (l3 + (-1))
def X8_feed_0 (S : MS) (l1 : Int32) (l2 : Int32) : Option (Int32 × MS) :=
  (X8_in S l2 0 4).bind fun r1 =>
  if r1.1 = 0 then
    some ((-2), r1.2)
  else
    if ((r1.2.1 2) + l2) ≤ 100 then
      X8_feed_31 FU r1.2 l1 (l2 - 1)
    else
      some ((-4), r1.2)
def X8_feed (S : MS) (l1 : Int32) (l2 : Int32) : Option (Int32 × MS) := X8_feed_0 S l1 l2
set_option maxHeartbeats 4000000 in
theorem sX8_feed_31 {l : Launch} {g : gE} {d MC MS' k n : Nat} {A D : List va_E} (hA : A.length = 26) (hd : 1 ≤ d) (hk : k ≤ MC) (hn : n ≤ MS') {r : Int32 × MS} : ∀ (fn : Nat) (S : MS) (l1 : Int32) (l3 : Int32), X8_feed_31 fn S l1 l3 = some r → AW l g d RX8 cX8_feed 4 "feed" MC MS' (Qr (some (.int r.1)) (mh A r.2 D)) k n 31 [some (.ref 26), some (.int l1), none, some (.int l3)] [] (mh A S D) := by
  intro fn
  induction fn with
  | zero =>
    intro S l1 l3 hf
    rw [X8_feed_31] at hf
    cases hf
  | succ fn ih =>
    intro S l1 l3 hf
    rw [X8_feed_31] at hf
    refine a_iload_n (pc := 31) dX8_feed_31 rfl ?_
    refine a_if_lt (pc := 32) 67 dX8_feed_32 (by decide) (fun c2 => ?_) (fun c2 => ?_)
    · have hf := (if_pos c2).symm.trans hf
      refine a_aload_n (pc := 67) dX8_feed_67 rfl (isRv_r _) ?_
      refine m_getS (pc := 68) hA dX8_feed_68 fl_X8_16 ks_2 ?_
      have hf := Option.some.inj hf
      subst hf
      exact a_ireturn (pc := 71) dX8_feed_71 hk hn ⟨rfl, rfl⟩
    · have hf := (if_neg c2).symm.trans hf
      refine a_aload_n (pc := 35) dX8_feed_35 rfl (isRv_r _) ?_
      refine m_getA (pc := 36) 27 hA dX8_feed_36 fl_X8_25 (Or.inl ki_5) rfl ?_
      refine a_aload_n (pc := 39) dX8_feed_39 rfl (isRv_r _) ?_
      refine m_getS (pc := 40) hA dX8_feed_40 fl_X8_16 ks_2 ?_
      refine a_iload_n (pc := 43) dX8_feed_43 rfl ?_
      refine a_bipush (pc := 44) 8 dX8_feed_44 rfl ?_
      refine a_iload_n (pc := 46) dX8_feed_46 rfl ?_
      refine a_imul (pc := 47) dX8_feed_47 ?_
      refine a_ishr (pc := 48) dX8_feed_48 ?_
      refine a_i2b (pc := 49) dX8_feed_49 ?_
      obtain ⟨S1, hS1, hf⟩ := Option.bind_eq_some_iff.mp hf
      refine m_ast (pc := 50) 27 hA dX8_feed_50 ki_5 rfl hS1 ?_
      refine a_aload_n (pc := 51) dX8_feed_51 rfl (isRv_r _) ?_
      refine a_dup (pc := 52) dX8_feed_52 rfl ?_
      refine m_getS (pc := 53) hA dX8_feed_53 fl_X8_16 ks_2 ?_
      refine a_iconst (pc := 56) 1 dX8_feed_56 rfl ?_
      refine a_iadd (pc := 57) dX8_feed_57 ?_
      refine m_putS (pc := 58) hA dX8_feed_58 fl_X8_16 ks_2 ?_
      refine a_iinc (pc := 61) (ls' := [some (.ref 26), some (.int l1), none, some (.int (l3 + (-1)))]) (l3 + (-1)) dX8_feed_61 rfl rfl (by decide) rfl ?_
      refine a_goto (pc := 64) 31 dX8_feed_64 (by decide) ?_
      exact ih (si S1 2 ((S1.1 2) + 1)) l1 (l3 + (-1)) hf
set_option maxHeartbeats 4000000 in
theorem sX8_feed_0 {l : Launch} {g : gE} {d MC MS' k n : Nat} {A D : List va_E} (hA : A.length = 26) (hd : 1 ≤ d) (hk : k ≤ MC) (hn : n ≤ MS') {r : Int32 × MS} {S : MS} {l1 : Int32} {l2 : Int32} (hf : X8_feed_0 S l1 l2 = some r) : AW l g d RX8 cX8_feed 4 "feed" MC MS' (Qr (some (.int r.1)) (mh A r.2 D)) k n 0 [some (.ref 26), some (.int l1), some (.int l2), none] [] (mh A S D) := by
  unfold X8_feed_0 at hf
  refine a_aload_n (pc := 0) dX8_feed_0 rfl (isRv_r _) ?_
  refine a_iload_n (pc := 1) dX8_feed_1 rfl ?_
  refine a_iconst (pc := 2) 0 dX8_feed_2 rfl ?_
  refine a_iconst (pc := 3) 4 dX8_feed_3 rfl ?_
  obtain ⟨r1, hr1, hf⟩ := Option.bind_eq_some_iff.mp hf
  refine m_call (pc := 4) (.int (r1.1)) [.int l2, .int 0, .int 4] [] hA dX8_feed_4 ml_X8_142 mv_X8_in rfl rfl (by omega) (mX8_in hA (by omega) hr1) rfl (Nat.le_of_ble_eq_true rfl) hk hn ?_
  refine a_if_ne (pc := 7) 13 dX8_feed_7 (by decide) (fun c3 => ?_) (fun c3 => ?_)
  · have hf := (if_neg c3).symm.trans hf
    refine a_aload_n (pc := 13) dX8_feed_13 rfl (isRv_r _) ?_
    refine m_getS (pc := 14) hA dX8_feed_14 fl_X8_16 ks_2 ?_
    refine a_iload_n (pc := 17) dX8_feed_17 rfl ?_
    refine a_iadd (pc := 18) dX8_feed_18 ?_
    refine a_bipush (pc := 19) 100 dX8_feed_19 rfl ?_
    refine a_icmp_le (pc := 21) 27 dX8_feed_21 (by decide) (fun c2 => ?_) (fun c2 => ?_)
    · have hf := (if_pos c2).symm.trans hf
      refine a_iload_n (pc := 27) dX8_feed_27 rfl ?_
      refine a_iconst (pc := 28) 1 dX8_feed_28 rfl ?_
      refine a_isub (pc := 29) dX8_feed_29 ?_
      refine a_istore_n (pc := 30) (ls' := [some (.ref 26), some (.int l1), some (.int l2), some (.int (l2 - 1))]) dX8_feed_30 (by decide) rfl ?_
      refine a_sub (sub_k (sub_k (sub_d (sub_k sub_n)))) ?_
      exact sX8_feed_31 hA hd hk hn FU r1.2 l1 (l2 - 1) hf
    · have hf := (if_neg c2).symm.trans hf
      refine a_bipush (pc := 24) (-4) dX8_feed_24 rfl ?_
      have hf := Option.some.inj hf
      subst hf
      exact a_ireturn (pc := 26) dX8_feed_26 hk hn ⟨rfl, rfl⟩
  · have hf := (if_pos c3).symm.trans hf
    refine a_bipush (pc := 10) (-2) dX8_feed_10 rfl ?_
    have hf := Option.some.inj hf
    subst hf
    exact a_ireturn (pc := 12) dX8_feed_12 hk hn ⟨rfl, rfl⟩
set_option maxHeartbeats 4000000 in
theorem mX8_feed {l : Launch} {g : gE} {d : Nat} {A D : List va_E} (hA : A.length = 26) (hd : 1 ≤ d) {r : Int32 × MS} {S : MS} {l1 : Int32} {l2 : Int32} (hf : X8_feed S l1 l2 = some r) : AM l g d yX8_feed cX8_feed 4 (some .int) 0 0 [.ref 26, .int l1, .int l2] (mh A S D) (Qr (some (.int r.1)) (mh A r.2 D)) := by
  refine AM.of rfl (by exact Nat.le_of_ble_eq_true rfl) (fun v h' q => by obtain ⟨rfl, -⟩ := q; exact ⟨_, rfl, rfl⟩) (fun ls e => ?_)
  have e2 : aBeg [.ref 26, .int l1, .int l2] 4 = [some (.ref 26), some (.int l1), some (.int l2), none] := rfl
  rw [e2] at e
  subst e
  refine a_sub (sub_k (sub_k (sub_k (sub_k (sub_n))))) ?_
  exact sX8_feed_0 hA hd (Nat.le_refl _) (Nat.le_refl _) (hf)
-- PencilStrikesModel.next()I
def X8_next_24 (S : MS) (s0 : Int32) : Option (Int32 × MS) :=
  some (s0, S)
def X8_next_0 (S : MS) : Option (Int32 × MS) :=
  if (S.1 2) ≤ (S.1 3) then
    X8_next_24 S (-1)
  else
    (mA S 5 (S.1 3)).bind fun x1 =>
    X8_next_24 S x1
def X8_next (S : MS) : Option (Int32 × MS) := X8_next_0 S
set_option maxHeartbeats 4000000 in
theorem sX8_next_24 {l : Launch} {g : gE} {d MC MS' k n : Nat} {A D : List va_E} (hA : A.length = 26) (hd : 0 ≤ d) (hk : k ≤ MC) (hn : n ≤ MS') {r : Int32 × MS} {S : MS} {s0 : Int32} (hf : X8_next_24 S s0 = some r) : AW l g d RX8 cX8_next 1 "next" MC MS' (Qr (some (.int r.1)) (mh A r.2 D)) k n 24 [none] [.int s0] (mh A S D) := by
  unfold X8_next_24 at hf
  have hf := Option.some.inj hf
  subst hf
  exact a_ireturn (pc := 24) dX8_next_24 hk hn ⟨rfl, rfl⟩
set_option maxHeartbeats 4000000 in
theorem sX8_next_0 {l : Launch} {g : gE} {d MC MS' k n : Nat} {A D : List va_E} (hA : A.length = 26) (hd : 0 ≤ d) (hk : k ≤ MC) (hn : n ≤ MS') {r : Int32 × MS} {S : MS} (hf : X8_next_0 S = some r) : AW l g d RX8 cX8_next 1 "next" MC MS' (Qr (some (.int r.1)) (mh A r.2 D)) k n 0 [some (.ref 26)] [] (mh A S D) := by
  unfold X8_next_0 at hf
  refine a_aload_n (pc := 0) dX8_next_0 rfl (isRv_r _) ?_
  refine m_getS (pc := 1) hA dX8_next_1 fl_X8_19 ks_3 ?_
  refine a_aload_n (pc := 4) dX8_next_4 rfl (isRv_r _) ?_
  refine m_getS (pc := 5) hA dX8_next_5 fl_X8_16 ks_2 ?_
  refine a_icmp_ge (pc := 8) 23 dX8_next_8 (by decide) (fun c2 => ?_) (fun c2 => ?_)
  · have hf := (if_pos c2).symm.trans hf
    refine a_iconst (pc := 23) (-1) dX8_next_23 rfl ?_
    refine a_sub (sub_d sub_n) ?_
    exact sX8_next_24 hA hd hk hn hf
  · have hf := (if_neg c2).symm.trans hf
    refine a_aload_n (pc := 11) dX8_next_11 rfl (isRv_r _) ?_
    refine m_getA (pc := 12) 27 hA dX8_next_12 fl_X8_25 (Or.inl ki_5) rfl ?_
    refine a_aload_n (pc := 15) dX8_next_15 rfl (isRv_r _) ?_
    refine m_getS (pc := 16) hA dX8_next_16 fl_X8_19 ks_3 ?_
    obtain ⟨x1, hx1, hf⟩ := Option.bind_eq_some_iff.mp hf
    refine m_ald (pc := 19) 27 hA dX8_next_19 ki_5 rfl hx1 ?_
    refine a_goto (pc := 20) 24 dX8_next_20 (by decide) ?_
    refine a_sub (sub_d sub_n) ?_
    exact sX8_next_24 hA hd hk hn hf
set_option maxHeartbeats 4000000 in
theorem mX8_next {l : Launch} {g : gE} {d : Nat} {A D : List va_E} (hA : A.length = 26) (hd : 0 ≤ d) {r : Int32 × MS} {S : MS} (hf : X8_next S = some r) : AM l g d yX8_next cX8_next 1 (some .int) 0 0 [.ref 26] (mh A S D) (Qr (some (.int r.1)) (mh A r.2 D)) := by
  refine AM.of rfl (by exact Nat.le_of_ble_eq_true rfl) (fun v h' q => by obtain ⟨rfl, -⟩ := q; exact ⟨_, rfl, rfl⟩) (fun ls e => ?_)
  have e2 : aBeg [.ref 26] 1 = [some (.ref 26)] := rfl
  rw [e2] at e
  subst e
  refine a_sub (sub_k (sub_n)) ?_
  exact sX8_next_0 hA hd (Nat.le_refl _) (Nat.le_refl _) (hf)
-- PencilStrikesModel.takes(I)Z
def X8_takes_0 (S : MS) (l1 : Int32) : Option (Int32 × MS) :=
  (X8_next S).bind fun r1 =>
  if r1.1 = l1 then
    some (1, (si r1.2 3 ((r1.2.1 3) + 1)))
  else
    some (0, r1.2)
def X8_takes (S : MS) (l1 : Int32) : Option (Int32 × MS) := zg (X8_takes_0 S l1)
set_option maxHeartbeats 4000000 in
theorem sX8_takes_0 {l : Launch} {g : gE} {d MC MS' k n : Nat} {A D : List va_E} (hA : A.length = 26) (hd : 1 ≤ d) (hk : k ≤ MC) (hn : n ≤ MS') {r : Int32 × MS} {S : MS} {l1 : Int32} (hf : X8_takes_0 S l1 = some r) : AW l g d RX8 cX8_takes 2 "takes" MC MS' (Qr (some (.int r.1)) (mh A r.2 D)) k n 0 [some (.ref 26), some (.int l1)] [] (mh A S D) := by
  unfold X8_takes_0 at hf
  refine a_aload_n (pc := 0) dX8_takes_0 rfl (isRv_r _) ?_
  obtain ⟨r1, hr1, hf⟩ := Option.bind_eq_some_iff.mp hf
  refine m_call (pc := 1) (.int (r1.1)) [] [] hA dX8_takes_1 ml_X8_146 mv_X8_next rfl rfl (by omega) (mX8_next hA (by omega) hr1) rfl (Nat.le_of_ble_eq_true rfl) hk hn ?_
  refine a_iload_n (pc := 4) dX8_takes_4 rfl ?_
  refine a_icmp_eq (pc := 5) 10 dX8_takes_5 (by decide) (fun c2 => ?_) (fun c2 => ?_)
  · have hf := (if_pos c2).symm.trans hf
    refine a_aload_n (pc := 10) dX8_takes_10 rfl (isRv_r _) ?_
    refine a_dup (pc := 11) dX8_takes_11 rfl ?_
    refine m_getS (pc := 12) hA dX8_takes_12 fl_X8_19 ks_3 ?_
    refine a_iconst (pc := 15) 1 dX8_takes_15 rfl ?_
    refine a_iadd (pc := 16) dX8_takes_16 ?_
    refine m_putS (pc := 17) hA dX8_takes_17 fl_X8_19 ks_3 ?_
    refine a_iconst (pc := 20) 1 dX8_takes_20 rfl ?_
    have hf := Option.some.inj hf
    subst hf
    exact a_ireturn (pc := 21) dX8_takes_21 hk hn ⟨rfl, rfl⟩
  · have hf := (if_neg c2).symm.trans hf
    refine a_iconst (pc := 8) 0 dX8_takes_8 rfl ?_
    have hf := Option.some.inj hf
    subst hf
    exact a_ireturn (pc := 9) dX8_takes_9 hk hn ⟨rfl, rfl⟩
set_option maxHeartbeats 4000000 in
theorem mX8_takes {l : Launch} {g : gE} {d : Nat} {A D : List va_E} (hA : A.length = 26) (hd : 1 ≤ d) {r : Int32 × MS} {S : MS} {l1 : Int32} (hf : X8_takes S l1 = some r) : AM l g d yX8_takes cX8_takes 2 (some .boolean) 0 0 [.ref 26, .int l1] (mh A S D) (Qr (some (.int r.1)) (mh A r.2 D)) := by
  refine AM.of rfl (by exact Nat.le_of_ble_eq_true rfl) (fun v h' q => by obtain ⟨rfl, -⟩ := q; refine ⟨_, rfl, ?_⟩; rcases (zg_of hf).2 with e | e <;> rw [e] <;> rfl) (fun ls e => ?_)
  have e2 : aBeg [.ref 26, .int l1] 2 = [some (.ref 26), some (.int l1)] := rfl
  rw [e2] at e
  subst e
  refine a_sub (sub_k (sub_k (sub_n))) ?_
  exact sX8_takes_0 hA hd (Nat.le_refl _) (Nat.le_refl _) ((zg_of hf).1)
-- PencilStrikesModel.put(I)V
def X8_put_0 (S : MS) (l1 : Int32) : Option (Unit × MS) :=
  (mAs S 14 (S.1 16) l1).bind fun S1 =>
  some ((), (si S1 16 ((S1.1 16) + 1)))
def X8_put (S : MS) (l1 : Int32) : Option (Unit × MS) := X8_put_0 S l1
set_option maxHeartbeats 4000000 in
theorem sX8_put_0 {l : Launch} {g : gE} {d MC MS' k n : Nat} {A D : List va_E} (hA : A.length = 26) (hd : 0 ≤ d) (hk : k ≤ MC) (hn : n ≤ MS') {r : Unit × MS} {S : MS} {l1 : Int32} (hf : X8_put_0 S l1 = some r) : AW l g d RX8 cX8_put 2 "put" MC MS' (Qr (none) (mh A r.2 D)) k n 0 [some (.ref 26), some (.int l1)] [] (mh A S D) := by
  unfold X8_put_0 at hf
  refine a_aload_n (pc := 0) dX8_put_0 rfl (isRv_r _) ?_
  refine m_getA (pc := 1) 36 hA dX8_put_1 fl_X8_53 (Or.inl ki_14) rfl ?_
  refine a_aload_n (pc := 4) dX8_put_4 rfl (isRv_r _) ?_
  refine m_getS (pc := 5) hA dX8_put_5 fl_X8_59 ks_16 ?_
  refine a_iload_n (pc := 8) dX8_put_8 rfl ?_
  obtain ⟨S1, hS1, hf⟩ := Option.bind_eq_some_iff.mp hf
  refine m_ast (pc := 9) 36 hA dX8_put_9 ki_14 rfl hS1 ?_
  refine a_aload_n (pc := 10) dX8_put_10 rfl (isRv_r _) ?_
  refine a_dup (pc := 11) dX8_put_11 rfl ?_
  refine m_getS (pc := 12) hA dX8_put_12 fl_X8_59 ks_16 ?_
  refine a_iconst (pc := 15) 1 dX8_put_15 rfl ?_
  refine a_iadd (pc := 16) dX8_put_16 ?_
  refine m_putS (pc := 17) hA dX8_put_17 fl_X8_59 ks_16 ?_
  have hf := Option.some.inj hf
  subst hf
  exact a_return (pc := 20) dX8_put_20 hk hn ⟨rfl, rfl⟩
set_option maxHeartbeats 4000000 in
theorem mX8_put {l : Launch} {g : gE} {d : Nat} {A D : List va_E} (hA : A.length = 26) (hd : 0 ≤ d) {r : Unit × MS} {S : MS} {l1 : Int32} (hf : X8_put S l1 = some r) : AM l g d yX8_put cX8_put 2 none 0 0 [.ref 26, .int l1] (mh A S D) (Qr (none) (mh A r.2 D)) := by
  refine AM.of rfl (by exact Nat.le_of_ble_eq_true rfl) (fun v h' q => by obtain ⟨rfl, -⟩ := q; rfl) (fun ls e => ?_)
  have e2 : aBeg [.ref 26, .int l1] 2 = [some (.ref 26), some (.int l1)] := rfl
  rw [e2] at e
  subst e
  refine a_sub (sub_k (sub_k (sub_n))) ?_
  exact sX8_put_0 hA hd (Nat.le_refl _) (Nat.le_refl _) (hf)
-- PencilStrikesModel.settle(I)V
def X8_settle_45 (rec0 : MS → Int32 → Option (Unit × MS)) (S : MS) (l1 : Int32) : Option (Unit × MS) :=
  (mA (si S 17 ((S.1 17) - 1)) 15 ((si S 17 ((S.1 17) - 1)).1 17)).bind fun x1 =>
  (X8_put (si S 17 ((S.1 17) - 1)) ((-x1))).bind fun r2 =>
  rec0 r2.2 l1
def X8_settle_72 (S : MS) : Option (Unit × MS) :=
  some ((), S)
def X8_settle_0 : Nat → MS → Int32 → Option (Unit × MS)
  | 0, _, _ => none
  | fn + 1, S, l1 =>
    if (S.1 17) ≤ 0 then
      X8_settle_72 S
    else
      (mA S 15 ((S.1 17) - 1)).bind fun x1 =>
      if x1 = 38 then
        X8_settle_45 (X8_settle_0 fn) S l1
      else
        (mA S 15 ((S.1 17) - 1)).bind fun x2 =>
        if x2 = 124 then
          if l1 = 38 then
            X8_settle_72 S
          else
            X8_settle_45 (X8_settle_0 fn) S l1
        else
          X8_settle_72 S
def X8_settle (S : MS) (l1 : Int32) : Option (Unit × MS) := X8_settle_0 FU S l1
set_option maxHeartbeats 4000000 in
theorem sX8_settle_45 {l : Launch} {g : gE} {d MC MS' k n : Nat} {A D : List va_E} (hA : A.length = 26) (hd : 1 ≤ d) (hk : k ≤ MC) (hn : n ≤ MS') {r : Unit × MS} {rec0 : MS → Int32 → Option (Unit × MS)} (hlp0 : ∀ (S : MS) (l1 : Int32), rec0 S l1 = some r → AW l g d RX8 cX8_settle 2 "settle" MC MS' (Qr (none) (mh A r.2 D)) k n 0 [some (.ref 26), some (.int l1)] [] (mh A S D)) {S : MS} {l1 : Int32} (hf : X8_settle_45 rec0 S l1 = some r) : AW l g d RX8 cX8_settle 2 "settle" MC MS' (Qr (none) (mh A r.2 D)) k n 45 [some (.ref 26), some (.int l1)] [] (mh A S D) := by
  unfold X8_settle_45 at hf
  refine a_aload_n (pc := 45) dX8_settle_45 rfl (isRv_r _) ?_
  refine a_dup (pc := 46) dX8_settle_46 rfl ?_
  refine m_getS (pc := 47) hA dX8_settle_47 fl_X8_62 ks_17 ?_
  refine a_iconst (pc := 50) 1 dX8_settle_50 rfl ?_
  refine a_isub (pc := 51) dX8_settle_51 ?_
  refine m_putS (pc := 52) hA dX8_settle_52 fl_X8_62 ks_17 ?_
  refine a_aload_n (pc := 55) dX8_settle_55 rfl (isRv_r _) ?_
  refine a_aload_n (pc := 56) dX8_settle_56 rfl (isRv_r _) ?_
  refine m_getA (pc := 57) 37 hA dX8_settle_57 fl_X8_56 (Or.inl ki_15) rfl ?_
  refine a_aload_n (pc := 60) dX8_settle_60 rfl (isRv_r _) ?_
  refine m_getS (pc := 61) hA dX8_settle_61 fl_X8_62 ks_17 ?_
  obtain ⟨x1, hx1, hf⟩ := Option.bind_eq_some_iff.mp hf
  refine m_ald (pc := 64) 37 hA dX8_settle_64 ki_15 rfl hx1 ?_
  refine a_ineg (pc := 65) dX8_settle_65 ?_
  obtain ⟨r2, hr2, hf⟩ := Option.bind_eq_some_iff.mp hf
  refine m_callv (pc := 66) [.int ((-x1))] [] hA dX8_settle_66 ml_X8_164 mv_X8_put rfl rfl (by omega) (mX8_put hA (by omega) hr2) rfl (Nat.le_of_ble_eq_true rfl) hk hn ?_
  refine a_goto (pc := 69) 0 dX8_settle_69 (by decide) ?_
  exact hlp0 r2.2 l1 hf
set_option maxHeartbeats 4000000 in
theorem sX8_settle_72 {l : Launch} {g : gE} {d MC MS' k n : Nat} {A D : List va_E} (hA : A.length = 26) (hd : 1 ≤ d) (hk : k ≤ MC) (hn : n ≤ MS') {r : Unit × MS} {S : MS} (hf : X8_settle_72 S = some r) : AW l g d RX8 cX8_settle 2 "settle" MC MS' (Qr (none) (mh A r.2 D)) k n 72 [none, none] [] (mh A S D) := by
  unfold X8_settle_72 at hf
  have hf := Option.some.inj hf
  subst hf
  exact a_return (pc := 72) dX8_settle_72 hk hn ⟨rfl, rfl⟩
set_option maxHeartbeats 4000000 in
theorem sX8_settle_0 {l : Launch} {g : gE} {d MC MS' k n : Nat} {A D : List va_E} (hA : A.length = 26) (hd : 1 ≤ d) (hk : k ≤ MC) (hn : n ≤ MS') {r : Unit × MS} : ∀ (fn : Nat) (S : MS) (l1 : Int32), X8_settle_0 fn S l1 = some r → AW l g d RX8 cX8_settle 2 "settle" MC MS' (Qr (none) (mh A r.2 D)) k n 0 [some (.ref 26), some (.int l1)] [] (mh A S D) := by
  intro fn
  induction fn with
  | zero =>
    intro S l1 hf
    rw [X8_settle_0] at hf
    cases hf
  | succ fn ih =>
    intro S l1 hf
    rw [X8_settle_0] at hf
    refine a_aload_n (pc := 0) dX8_settle_0 rfl (isRv_r _) ?_
    refine m_getS (pc := 1) hA dX8_settle_1 fl_X8_62 ks_17 ?_
    refine a_if_le (pc := 4) 72 dX8_settle_4 (by decide) (fun c6 => ?_) (fun c6 => ?_)
    · have hf := (if_pos c6).symm.trans hf
      refine a_sub (sub_d (sub_d sub_n)) ?_
      exact sX8_settle_72 hA hd hk hn hf
    · have hf := (if_neg c6).symm.trans hf
      refine a_aload_n (pc := 7) dX8_settle_7 rfl (isRv_r _) ?_
      refine m_getA (pc := 8) 37 hA dX8_settle_8 fl_X8_56 (Or.inl ki_15) rfl ?_
      refine a_aload_n (pc := 11) dX8_settle_11 rfl (isRv_r _) ?_
      refine m_getS (pc := 12) hA dX8_settle_12 fl_X8_62 ks_17 ?_
      refine a_iconst (pc := 15) 1 dX8_settle_15 rfl ?_
      refine a_isub (pc := 16) dX8_settle_16 ?_
      obtain ⟨x1, hx1, hf⟩ := Option.bind_eq_some_iff.mp hf
      refine m_ald (pc := 17) 37 hA dX8_settle_17 ki_15 rfl hx1 ?_
      refine a_bipush (pc := 18) 38 dX8_settle_18 rfl ?_
      refine a_icmp_eq (pc := 20) 45 dX8_settle_20 (by decide) (fun c5 => ?_) (fun c5 => ?_)
      · have hf := (if_pos c5).symm.trans hf
        exact sX8_settle_45 hA hd hk hn ih hf
      · have hf := (if_neg c5).symm.trans hf
        refine a_aload_n (pc := 23) dX8_settle_23 rfl (isRv_r _) ?_
        refine m_getA (pc := 24) 37 hA dX8_settle_24 fl_X8_56 (Or.inl ki_15) rfl ?_
        refine a_aload_n (pc := 27) dX8_settle_27 rfl (isRv_r _) ?_
        refine m_getS (pc := 28) hA dX8_settle_28 fl_X8_62 ks_17 ?_
        refine a_iconst (pc := 31) 1 dX8_settle_31 rfl ?_
        refine a_isub (pc := 32) dX8_settle_32 ?_
        obtain ⟨x2, hx2, hf⟩ := Option.bind_eq_some_iff.mp hf
        refine m_ald (pc := 33) 37 hA dX8_settle_33 ki_15 rfl hx2 ?_
        refine a_bipush (pc := 34) 124 dX8_settle_34 rfl ?_
        refine a_icmp_ne (pc := 36) 72 dX8_settle_36 (by decide) (fun c4 => ?_) (fun c4 => ?_)
        · have hf := (if_neg c4).symm.trans hf
          refine a_sub (sub_d (sub_d sub_n)) ?_
          exact sX8_settle_72 hA hd hk hn hf
        · have hf := (if_pos c4).symm.trans hf
          refine a_iload_n (pc := 39) dX8_settle_39 rfl ?_
          refine a_bipush (pc := 40) 38 dX8_settle_40 rfl ?_
          refine a_icmp_eq (pc := 42) 72 dX8_settle_42 (by decide) (fun c3 => ?_) (fun c3 => ?_)
          · have hf := (if_pos c3).symm.trans hf
            refine a_sub (sub_d (sub_d sub_n)) ?_
            exact sX8_settle_72 hA hd hk hn hf
          · have hf := (if_neg c3).symm.trans hf
            exact sX8_settle_45 hA hd hk hn ih hf
set_option maxHeartbeats 4000000 in
theorem mX8_settle {l : Launch} {g : gE} {d : Nat} {A D : List va_E} (hA : A.length = 26) (hd : 1 ≤ d) {r : Unit × MS} {S : MS} {l1 : Int32} (hf : X8_settle S l1 = some r) : AM l g d yX8_settle cX8_settle 2 none 0 0 [.ref 26, .int l1] (mh A S D) (Qr (none) (mh A r.2 D)) := by
  refine AM.of rfl (by exact Nat.le_of_ble_eq_true rfl) (fun v h' q => by obtain ⟨rfl, -⟩ := q; rfl) (fun ls e => ?_)
  have e2 : aBeg [.ref 26, .int l1] 2 = [some (.ref 26), some (.int l1)] := rfl
  rw [e2] at e
  subst e
  refine a_sub (sub_k (sub_k (sub_n))) ?_
  exact sX8_settle_0 hA hd (Nat.le_refl _) (Nat.le_refl _) FU S l1 (hf)
-- PencilStrikesModel.place(I)I
def X8_place_0 (S : MS) (l1 : Int32) : Option (Int32 × MS) :=
  if l1 = 102 then
    some (5, S)
  else
    if l1 = 105 then
      some (4, S)
    else
      if l1 = 110 then
        some (2, S)
      else
        if l1 = 112 then
          some (6, S)
        else
          if l1 = 116 then
            some (3, S)
          else
            if l1 = 118 then
              some (1, S)
            else
              if l1 = 119 then
                some (0, S)
              else
                some ((-1), S)
def X8_place (S : MS) (l1 : Int32) : Option (Int32 × MS) := X8_place_0 S l1
set_option maxHeartbeats 4000000 in
theorem sX8_place_0 {l : Launch} {g : gE} {d MC MS' k n : Nat} {A D : List va_E} (hA : A.length = 26) (hd : 0 ≤ d) (hk : k ≤ MC) (hn : n ≤ MS') {r : Int32 × MS} {S : MS} {l1 : Int32} (hf : X8_place_0 S l1 = some r) : AW l g d RX8 cX8_place 2 "place" MC MS' (Qr (some (.int r.1)) (mh A r.2 D)) k n 0 [none, some (.int l1)] [] (mh A S D) := by
  unfold X8_place_0 at hf
  refine a_iload_n (pc := 0) dX8_place_0 rfl ?_
  by_cases c1_0 : l1 = 102
  · have hf := (if_pos c1_0).symm.trans hf
    refine a_tableIn (pc := 1) 98 dX8_place_1 (by rw [c1_0]; decide) (by rw [c1_0]; decide) (off := 97) (by rw [c1_0]; rfl) (by decide) ?_
    refine a_iconst (pc := 98) 5 dX8_place_98 rfl ?_
    have hf := Option.some.inj hf
    subst hf
    exact a_ireturn (pc := 99) dX8_place_99 hk hn ⟨rfl, rfl⟩
  · have hf := (if_neg c1_0).symm.trans hf
    by_cases c1_1 : l1 = 105
    · have hf := (if_pos c1_1).symm.trans hf
      refine a_tableIn (pc := 1) 96 dX8_place_1 (by rw [c1_1]; decide) (by rw [c1_1]; decide) (off := 95) (by rw [c1_1]; rfl) (by decide) ?_
      refine a_iconst (pc := 96) 4 dX8_place_96 rfl ?_
      have hf := Option.some.inj hf
      subst hf
      exact a_ireturn (pc := 97) dX8_place_97 hk hn ⟨rfl, rfl⟩
    · have hf := (if_neg c1_1).symm.trans hf
      by_cases c1_2 : l1 = 110
      · have hf := (if_pos c1_2).symm.trans hf
        refine a_tableIn (pc := 1) 92 dX8_place_1 (by rw [c1_2]; decide) (by rw [c1_2]; decide) (off := 91) (by rw [c1_2]; rfl) (by decide) ?_
        refine a_iconst (pc := 92) 2 dX8_place_92 rfl ?_
        have hf := Option.some.inj hf
        subst hf
        exact a_ireturn (pc := 93) dX8_place_93 hk hn ⟨rfl, rfl⟩
      · have hf := (if_neg c1_2).symm.trans hf
        by_cases c1_3 : l1 = 112
        · have hf := (if_pos c1_3).symm.trans hf
          refine a_tableIn (pc := 1) 100 dX8_place_1 (by rw [c1_3]; decide) (by rw [c1_3]; decide) (off := 99) (by rw [c1_3]; rfl) (by decide) ?_
          refine a_bipush (pc := 100) 6 dX8_place_100 rfl ?_
          have hf := Option.some.inj hf
          subst hf
          exact a_ireturn (pc := 102) dX8_place_102 hk hn ⟨rfl, rfl⟩
        · have hf := (if_neg c1_3).symm.trans hf
          by_cases c1_4 : l1 = 116
          · have hf := (if_pos c1_4).symm.trans hf
            refine a_tableIn (pc := 1) 94 dX8_place_1 (by rw [c1_4]; decide) (by rw [c1_4]; decide) (off := 93) (by rw [c1_4]; rfl) (by decide) ?_
            refine a_iconst (pc := 94) 3 dX8_place_94 rfl ?_
            have hf := Option.some.inj hf
            subst hf
            exact a_ireturn (pc := 95) dX8_place_95 hk hn ⟨rfl, rfl⟩
          · have hf := (if_neg c1_4).symm.trans hf
            by_cases c1_5 : l1 = 118
            · have hf := (if_pos c1_5).symm.trans hf
              refine a_tableIn (pc := 1) 90 dX8_place_1 (by rw [c1_5]; decide) (by rw [c1_5]; decide) (off := 89) (by rw [c1_5]; rfl) (by decide) ?_
              refine a_iconst (pc := 90) 1 dX8_place_90 rfl ?_
              have hf := Option.some.inj hf
              subst hf
              exact a_ireturn (pc := 91) dX8_place_91 hk hn ⟨rfl, rfl⟩
            · have hf := (if_neg c1_5).symm.trans hf
              by_cases c1_6 : l1 = 119
              · have hf := (if_pos c1_6).symm.trans hf
                refine a_tableIn (pc := 1) 88 dX8_place_1 (by rw [c1_6]; decide) (by rw [c1_6]; decide) (off := 87) (by rw [c1_6]; rfl) (by decide) ?_
                refine a_iconst (pc := 88) 0 dX8_place_88 rfl ?_
                have hf := Option.some.inj hf
                subst hf
                exact a_ireturn (pc := 89) dX8_place_89 hk hn ⟨rfl, rfl⟩
              · have hf := (if_neg c1_6).symm.trans hf
                have hkd : AW l g d RX8 cX8_place 2 "place" MC MS' (Qr (some (.int r.1)) (mh A r.2 D)) k n 103 [none, some (.int l1)] [] (mh A S D) := by
                  refine a_iconst (pc := 103) (-1) dX8_place_103 rfl ?_
                  have hf := Option.some.inj hf
                  subst hf
                  exact a_ireturn (pc := 104) dX8_place_104 hk hn ⟨rfl, rfl⟩
                by_cases h1l : (l1).toInt < 102
                · exact a_tableOut (pc := 1) 103 dX8_place_1 (Or.inl h1l) (by decide) hkd
                by_cases h1h : 119 < (l1).toInt
                · exact a_tableOut (pc := 1) 103 dX8_place_1 (Or.inr h1h) (by decide) hkd
                have h1a : (l1).toInt = 102 ∨ (l1).toInt = 103 ∨ (l1).toInt = 104 ∨ (l1).toInt = 105 ∨ (l1).toInt = 106 ∨ (l1).toInt = 107 ∨ (l1).toInt = 108 ∨ (l1).toInt = 109 ∨ (l1).toInt = 110 ∨ (l1).toInt = 111 ∨ (l1).toInt = 112 ∨ (l1).toInt = 113 ∨ (l1).toInt = 114 ∨ (l1).toInt = 115 ∨ (l1).toInt = 116 ∨ (l1).toInt = 117 ∨ (l1).toInt = 118 ∨ (l1).toInt = 119 := by omega
                rcases h1a with h1a | h1a | h1a | h1a | h1a | h1a | h1a | h1a | h1a | h1a | h1a | h1a | h1a | h1a | h1a | h1a | h1a | h1a
                · exact absurd (Int32.toInt_inj.mp (h1a.trans rfl)) c1_0
                · exact a_tableIn (pc := 1) 103 dX8_place_1 h1l h1h (by rw [h1a]; rfl) (by decide) hkd
                · exact a_tableIn (pc := 1) 103 dX8_place_1 h1l h1h (by rw [h1a]; rfl) (by decide) hkd
                · exact absurd (Int32.toInt_inj.mp (h1a.trans rfl)) c1_1
                · exact a_tableIn (pc := 1) 103 dX8_place_1 h1l h1h (by rw [h1a]; rfl) (by decide) hkd
                · exact a_tableIn (pc := 1) 103 dX8_place_1 h1l h1h (by rw [h1a]; rfl) (by decide) hkd
                · exact a_tableIn (pc := 1) 103 dX8_place_1 h1l h1h (by rw [h1a]; rfl) (by decide) hkd
                · exact a_tableIn (pc := 1) 103 dX8_place_1 h1l h1h (by rw [h1a]; rfl) (by decide) hkd
                · exact absurd (Int32.toInt_inj.mp (h1a.trans rfl)) c1_2
                · exact a_tableIn (pc := 1) 103 dX8_place_1 h1l h1h (by rw [h1a]; rfl) (by decide) hkd
                · exact absurd (Int32.toInt_inj.mp (h1a.trans rfl)) c1_3
                · exact a_tableIn (pc := 1) 103 dX8_place_1 h1l h1h (by rw [h1a]; rfl) (by decide) hkd
                · exact a_tableIn (pc := 1) 103 dX8_place_1 h1l h1h (by rw [h1a]; rfl) (by decide) hkd
                · exact a_tableIn (pc := 1) 103 dX8_place_1 h1l h1h (by rw [h1a]; rfl) (by decide) hkd
                · exact absurd (Int32.toInt_inj.mp (h1a.trans rfl)) c1_4
                · exact a_tableIn (pc := 1) 103 dX8_place_1 h1l h1h (by rw [h1a]; rfl) (by decide) hkd
                · exact absurd (Int32.toInt_inj.mp (h1a.trans rfl)) c1_5
                · exact absurd (Int32.toInt_inj.mp (h1a.trans rfl)) c1_6
set_option maxHeartbeats 4000000 in
theorem mX8_place {l : Launch} {g : gE} {d : Nat} {A D : List va_E} (hA : A.length = 26) (hd : 0 ≤ d) {r : Int32 × MS} {S : MS} {l1 : Int32} (hf : X8_place S l1 = some r) : AM l g d yX8_place cX8_place 2 (some .int) 0 0 [.ref 26, .int l1] (mh A S D) (Qr (some (.int r.1)) (mh A r.2 D)) := by
  refine AM.of rfl (by exact Nat.le_of_ble_eq_true rfl) (fun v h' q => by obtain ⟨rfl, -⟩ := q; exact ⟨_, rfl, rfl⟩) (fun ls e => ?_)
  have e2 : aBeg [.ref 26, .int l1] 2 = [some (.ref 26), some (.int l1)] := rfl
  rw [e2] at e
  subst e
  refine a_sub (sub_d (sub_k (sub_n))) ?_
  exact sX8_place_0 hA hd (Nat.le_refl _) (Nat.le_refl _) (hf)
-- PencilStrikesModel.isDigit()Z
def X8_isDigit_0 (S : MS) : Option (Int32 × MS) :=
  (X8_next S).bind fun r1 =>
  (X8_in r1.2 r1.1 48 57).bind fun r2 =>
  some (r2.1, r2.2)
def X8_isDigit (S : MS) : Option (Int32 × MS) := zg (X8_isDigit_0 S)
set_option maxHeartbeats 4000000 in
theorem sX8_isDigit_0 {l : Launch} {g : gE} {d MC MS' k n : Nat} {A D : List va_E} (hA : A.length = 26) (hd : 1 ≤ d) (hk : k ≤ MC) (hn : n ≤ MS') {r : Int32 × MS} {S : MS} (hf : X8_isDigit_0 S = some r) : AW l g d RX8 cX8_isDigit 1 "isDigit" MC MS' (Qr (some (.int r.1)) (mh A r.2 D)) k n 0 [some (.ref 26)] [] (mh A S D) := by
  unfold X8_isDigit_0 at hf
  refine a_aload_n (pc := 0) dX8_isDigit_0 rfl (isRv_r _) ?_
  refine a_aload_n (pc := 1) dX8_isDigit_1 rfl (isRv_r _) ?_
  obtain ⟨r1, hr1, hf⟩ := Option.bind_eq_some_iff.mp hf
  refine m_call (pc := 2) (.int (r1.1)) [] [.ref 26] hA dX8_isDigit_2 ml_X8_146 mv_X8_next rfl rfl (by omega) (mX8_next hA (by omega) hr1) rfl (Nat.le_of_ble_eq_true rfl) hk hn ?_
  refine a_bipush (pc := 5) 48 dX8_isDigit_5 rfl ?_
  refine a_bipush (pc := 7) 57 dX8_isDigit_7 rfl ?_
  obtain ⟨r2, hr2, hf⟩ := Option.bind_eq_some_iff.mp hf
  refine m_call (pc := 9) (.int (r2.1)) [.int (r1.1), .int 48, .int 57] [] hA dX8_isDigit_9 ml_X8_142 mv_X8_in rfl rfl (by omega) (mX8_in hA (by omega) hr2) rfl (Nat.le_of_ble_eq_true rfl) hk hn ?_
  have hf := Option.some.inj hf
  subst hf
  exact a_ireturn (pc := 12) dX8_isDigit_12 hk hn ⟨rfl, rfl⟩
set_option maxHeartbeats 4000000 in
theorem mX8_isDigit {l : Launch} {g : gE} {d : Nat} {A D : List va_E} (hA : A.length = 26) (hd : 1 ≤ d) {r : Int32 × MS} {S : MS} (hf : X8_isDigit S = some r) : AM l g d yX8_isDigit cX8_isDigit 1 (some .boolean) 0 0 [.ref 26] (mh A S D) (Qr (some (.int r.1)) (mh A r.2 D)) := by
  refine AM.of rfl (by exact Nat.le_of_ble_eq_true rfl) (fun v h' q => by obtain ⟨rfl, -⟩ := q; refine ⟨_, rfl, ?_⟩; rcases (zg_of hf).2 with e | e <;> rw [e] <;> rfl) (fun ls e => ?_)
  have e2 : aBeg [.ref 26] 1 = [some (.ref 26)] := rfl
  rw [e2] at e
  subst e
  refine a_sub (sub_k (sub_n)) ?_
  exact sX8_isDigit_0 hA hd (Nat.le_refl _) (Nat.le_refl _) ((zg_of hf).1)
-- PencilStrikesModel.takesNumber()Z
def X8_takesNumber_63 (S : MS) : Option (Int32 × MS) :=
  some (1, S)
def X8_takesNumber_16 : Nat → MS → Int32 → Option (Int32 × MS)
  | 0, _, _ => none
  | fn + 1, S, l1 =>
    if 3 ≤ l1 then
      X8_takesNumber_63 S
    else
      (X8_isDigit S).bind fun r1 =>
      if r1.1 = 0 then
        X8_takesNumber_63 r1.2
      else
        (X8_next r1.2).bind fun r2 =>
        X8_takesNumber_16 fn (si (si r2.2 4 (((10 * (r1.2.1 4)) + r2.1) - 48)) 3 (((si r2.2 4 (((10 * (r1.2.1 4)) + r2.1) - 48)).1 3) + 1)) (l1 + 1)
def X8_takesNumber_0 (S : MS) : Option (Int32 × MS) :=
  (X8_isDigit S).bind fun r1 =>
  if r1.1 = 0 then
    some (0, r1.2)
  else
    X8_takesNumber_16 FU (si r1.2 4 0) 0
def X8_takesNumber (S : MS) : Option (Int32 × MS) := zg (X8_takesNumber_0 S)
set_option maxHeartbeats 4000000 in
theorem sX8_takesNumber_63 {l : Launch} {g : gE} {d MC MS' k n : Nat} {A D : List va_E} (hA : A.length = 26) (hd : 2 ≤ d) (hk : k ≤ MC) (hn : n ≤ MS') {r : Int32 × MS} {S : MS} (hf : X8_takesNumber_63 S = some r) : AW l g d RX8 cX8_takesNumber 2 "takesNumber" MC MS' (Qr (some (.int r.1)) (mh A r.2 D)) k n 63 [none, none] [] (mh A S D) := by
  unfold X8_takesNumber_63 at hf
  refine a_iconst (pc := 63) 1 dX8_takesNumber_63 rfl ?_
  have hf := Option.some.inj hf
  subst hf
  exact a_ireturn (pc := 64) dX8_takesNumber_64 hk hn ⟨rfl, rfl⟩
set_option maxHeartbeats 4000000 in
theorem sX8_takesNumber_16 {l : Launch} {g : gE} {d MC MS' k n : Nat} {A D : List va_E} (hA : A.length = 26) (hd : 2 ≤ d) (hk : k ≤ MC) (hn : n ≤ MS') {r : Int32 × MS} : ∀ (fn : Nat) (S : MS) (l1 : Int32), X8_takesNumber_16 fn S l1 = some r → AW l g d RX8 cX8_takesNumber 2 "takesNumber" MC MS' (Qr (some (.int r.1)) (mh A r.2 D)) k n 16 [some (.ref 26), some (.int l1)] [] (mh A S D) := by
  intro fn
  induction fn with
  | zero =>
    intro S l1 hf
    rw [X8_takesNumber_16] at hf
    cases hf
  | succ fn ih =>
    intro S l1 hf
    rw [X8_takesNumber_16] at hf
    refine a_iload_n (pc := 16) dX8_takesNumber_16 rfl ?_
    refine a_iconst (pc := 17) 3 dX8_takesNumber_17 rfl ?_
    refine a_icmp_ge (pc := 18) 63 dX8_takesNumber_18 (by decide) (fun c4 => ?_) (fun c4 => ?_)
    · have hf := (if_pos c4).symm.trans hf
      refine a_sub (sub_d (sub_d sub_n)) ?_
      exact sX8_takesNumber_63 hA hd hk hn hf
    · have hf := (if_neg c4).symm.trans hf
      refine a_aload_n (pc := 21) dX8_takesNumber_21 rfl (isRv_r _) ?_
      obtain ⟨r1, hr1, hf⟩ := Option.bind_eq_some_iff.mp hf
      refine m_call (pc := 22) (.int (r1.1)) [] [] hA dX8_takesNumber_22 ml_X8_157 mv_X8_isDigit rfl rfl (by omega) (mX8_isDigit hA (by omega) hr1) rfl (Nat.le_of_ble_eq_true rfl) hk hn ?_
      refine a_if_eq (pc := 25) 63 dX8_takesNumber_25 (by decide) (fun c3 => ?_) (fun c3 => ?_)
      · have hf := (if_pos c3).symm.trans hf
        refine a_sub (sub_d (sub_d sub_n)) ?_
        exact sX8_takesNumber_63 hA hd hk hn hf
      · have hf := (if_neg c3).symm.trans hf
        refine a_aload_n (pc := 28) dX8_takesNumber_28 rfl (isRv_r _) ?_
        refine a_bipush (pc := 29) 10 dX8_takesNumber_29 rfl ?_
        refine a_aload_n (pc := 31) dX8_takesNumber_31 rfl (isRv_r _) ?_
        refine m_getS (pc := 32) hA dX8_takesNumber_32 fl_X8_22 ks_4 ?_
        refine a_imul (pc := 35) dX8_takesNumber_35 ?_
        refine a_aload_n (pc := 36) dX8_takesNumber_36 rfl (isRv_r _) ?_
        obtain ⟨r2, hr2, hf⟩ := Option.bind_eq_some_iff.mp hf
        refine m_call (pc := 37) (.int (r2.1)) [] [.int (10 * (r1.2.1 4)), .ref 26] hA dX8_takesNumber_37 ml_X8_146 mv_X8_next rfl rfl (by omega) (mX8_next hA (by omega) hr2) rfl (Nat.le_of_ble_eq_true rfl) hk hn ?_
        refine a_iadd (pc := 40) dX8_takesNumber_40 ?_
        refine a_bipush (pc := 41) 48 dX8_takesNumber_41 rfl ?_
        refine a_isub (pc := 43) dX8_takesNumber_43 ?_
        refine m_putS (pc := 44) hA dX8_takesNumber_44 fl_X8_22 ks_4 ?_
        refine a_aload_n (pc := 47) dX8_takesNumber_47 rfl (isRv_r _) ?_
        refine a_dup (pc := 48) dX8_takesNumber_48 rfl ?_
        refine m_getS (pc := 49) hA dX8_takesNumber_49 fl_X8_19 ks_3 ?_
        refine a_iconst (pc := 52) 1 dX8_takesNumber_52 rfl ?_
        refine a_iadd (pc := 53) dX8_takesNumber_53 ?_
        refine m_putS (pc := 54) hA dX8_takesNumber_54 fl_X8_19 ks_3 ?_
        refine a_iinc (pc := 57) (ls' := [some (.ref 26), some (.int (l1 + 1))]) (l1 + 1) dX8_takesNumber_57 rfl rfl (by decide) rfl ?_
        refine a_goto (pc := 60) 16 dX8_takesNumber_60 (by decide) ?_
        exact ih (si (si r2.2 4 (((10 * (r1.2.1 4)) + r2.1) - 48)) 3 (((si r2.2 4 (((10 * (r1.2.1 4)) + r2.1) - 48)).1 3) + 1)) (l1 + 1) hf
set_option maxHeartbeats 4000000 in
theorem sX8_takesNumber_0 {l : Launch} {g : gE} {d MC MS' k n : Nat} {A D : List va_E} (hA : A.length = 26) (hd : 2 ≤ d) (hk : k ≤ MC) (hn : n ≤ MS') {r : Int32 × MS} {S : MS} (hf : X8_takesNumber_0 S = some r) : AW l g d RX8 cX8_takesNumber 2 "takesNumber" MC MS' (Qr (some (.int r.1)) (mh A r.2 D)) k n 0 [some (.ref 26), none] [] (mh A S D) := by
  unfold X8_takesNumber_0 at hf
  refine a_aload_n (pc := 0) dX8_takesNumber_0 rfl (isRv_r _) ?_
  obtain ⟨r1, hr1, hf⟩ := Option.bind_eq_some_iff.mp hf
  refine m_call (pc := 1) (.int (r1.1)) [] [] hA dX8_takesNumber_1 ml_X8_157 mv_X8_isDigit rfl rfl (by omega) (mX8_isDigit hA (by omega) hr1) rfl (Nat.le_of_ble_eq_true rfl) hk hn ?_
  refine a_if_ne (pc := 4) 9 dX8_takesNumber_4 (by decide) (fun c2 => ?_) (fun c2 => ?_)
  · have hf := (if_neg c2).symm.trans hf
    refine a_aload_n (pc := 9) dX8_takesNumber_9 rfl (isRv_r _) ?_
    refine a_iconst (pc := 10) 0 dX8_takesNumber_10 rfl ?_
    refine m_putS (pc := 11) hA dX8_takesNumber_11 fl_X8_22 ks_4 ?_
    refine a_iconst (pc := 14) 0 dX8_takesNumber_14 rfl ?_
    refine a_istore_n (pc := 15) (ls' := [some (.ref 26), some (.int 0)]) dX8_takesNumber_15 (by decide) rfl ?_
    exact sX8_takesNumber_16 hA hd hk hn FU (si r1.2 4 0) 0 hf
  · have hf := (if_pos c2).symm.trans hf
    refine a_iconst (pc := 7) 0 dX8_takesNumber_7 rfl ?_
    have hf := Option.some.inj hf
    subst hf
    exact a_ireturn (pc := 8) dX8_takesNumber_8 hk hn ⟨rfl, rfl⟩
set_option maxHeartbeats 4000000 in
theorem mX8_takesNumber {l : Launch} {g : gE} {d : Nat} {A D : List va_E} (hA : A.length = 26) (hd : 2 ≤ d) {r : Int32 × MS} {S : MS} (hf : X8_takesNumber S = some r) : AM l g d yX8_takesNumber cX8_takesNumber 2 (some .boolean) 0 0 [.ref 26] (mh A S D) (Qr (some (.int r.1)) (mh A r.2 D)) := by
  refine AM.of rfl (by exact Nat.le_of_ble_eq_true rfl) (fun v h' q => by obtain ⟨rfl, -⟩ := q; refine ⟨_, rfl, ?_⟩; rcases (zg_of hf).2 with e | e <;> rw [e] <;> rfl) (fun ls e => ?_)
  have e2 : aBeg [.ref 26] 2 = [some (.ref 26), none] := rfl
  rw [e2] at e
  subst e
  refine a_sub (sub_k (sub_k (sub_n))) ?_
  exact sX8_takesNumber_0 hA hd (Nat.le_refl _) (Nat.le_refl _) ((zg_of hf).1)
-- PencilStrikesModel.whole()V
def X8_whole_52 (S : MS) : Option (Unit × MS) :=
  some ((), S)
def X8_whole_0 : Nat → MS → Option (Unit × MS)
  | 0, _ => none
  | fn + 1, S =>
    if (S.1 17) ≤ 0 then
      X8_whole_52 S
    else
      (mA S 15 ((S.1 17) - 1)).bind fun x1 =>
      if x1 = 33 then
        (X8_put S (-33)).bind fun r2 =>
        X8_whole_0 fn (si (si r2.2 17 ((r2.2.1 17) - 1)) 18 (((si r2.2 17 ((r2.2.1 17) - 1)).1 18) - 1))
      else
        X8_whole_52 S
def X8_whole (S : MS) : Option (Unit × MS) := X8_whole_0 FU S
set_option maxHeartbeats 4000000 in
theorem sX8_whole_52 {l : Launch} {g : gE} {d MC MS' k n : Nat} {A D : List va_E} (hA : A.length = 26) (hd : 1 ≤ d) (hk : k ≤ MC) (hn : n ≤ MS') {r : Unit × MS} {S : MS} (hf : X8_whole_52 S = some r) : AW l g d RX8 cX8_whole 1 "whole" MC MS' (Qr (none) (mh A r.2 D)) k n 52 [none] [] (mh A S D) := by
  unfold X8_whole_52 at hf
  have hf := Option.some.inj hf
  subst hf
  exact a_return (pc := 52) dX8_whole_52 hk hn ⟨rfl, rfl⟩
set_option maxHeartbeats 4000000 in
theorem sX8_whole_0 {l : Launch} {g : gE} {d MC MS' k n : Nat} {A D : List va_E} (hA : A.length = 26) (hd : 1 ≤ d) (hk : k ≤ MC) (hn : n ≤ MS') {r : Unit × MS} : ∀ (fn : Nat) (S : MS) , X8_whole_0 fn S = some r → AW l g d RX8 cX8_whole 1 "whole" MC MS' (Qr (none) (mh A r.2 D)) k n 0 [some (.ref 26)] [] (mh A S D) := by
  intro fn
  induction fn with
  | zero =>
    intro S hf
    rw [X8_whole_0] at hf
    cases hf
  | succ fn ih =>
    intro S hf
    rw [X8_whole_0] at hf
    refine a_aload_n (pc := 0) dX8_whole_0 rfl (isRv_r _) ?_
    refine m_getS (pc := 1) hA dX8_whole_1 fl_X8_62 ks_17 ?_
    refine a_if_le (pc := 4) 52 dX8_whole_4 (by decide) (fun c4 => ?_) (fun c4 => ?_)
    · have hf := (if_pos c4).symm.trans hf
      refine a_sub (sub_d sub_n) ?_
      exact sX8_whole_52 hA hd hk hn hf
    · have hf := (if_neg c4).symm.trans hf
      refine a_aload_n (pc := 7) dX8_whole_7 rfl (isRv_r _) ?_
      refine m_getA (pc := 8) 37 hA dX8_whole_8 fl_X8_56 (Or.inl ki_15) rfl ?_
      refine a_aload_n (pc := 11) dX8_whole_11 rfl (isRv_r _) ?_
      refine m_getS (pc := 12) hA dX8_whole_12 fl_X8_62 ks_17 ?_
      refine a_iconst (pc := 15) 1 dX8_whole_15 rfl ?_
      refine a_isub (pc := 16) dX8_whole_16 ?_
      obtain ⟨x1, hx1, hf⟩ := Option.bind_eq_some_iff.mp hf
      refine m_ald (pc := 17) 37 hA dX8_whole_17 ki_15 rfl hx1 ?_
      refine a_bipush (pc := 18) 33 dX8_whole_18 rfl ?_
      refine a_icmp_ne (pc := 20) 52 dX8_whole_20 (by decide) (fun c3 => ?_) (fun c3 => ?_)
      · have hf := (if_neg c3).symm.trans hf
        refine a_sub (sub_d sub_n) ?_
        exact sX8_whole_52 hA hd hk hn hf
      · have hf := (if_pos c3).symm.trans hf
        refine a_aload_n (pc := 23) dX8_whole_23 rfl (isRv_r _) ?_
        refine a_bipush (pc := 24) (-33) dX8_whole_24 rfl ?_
        obtain ⟨r2, hr2, hf⟩ := Option.bind_eq_some_iff.mp hf
        refine m_callv (pc := 26) [.int (-33)] [] hA dX8_whole_26 ml_X8_164 mv_X8_put rfl rfl (by omega) (mX8_put hA (by omega) hr2) rfl (Nat.le_of_ble_eq_true rfl) hk hn ?_
        refine a_aload_n (pc := 29) dX8_whole_29 rfl (isRv_r _) ?_
        refine a_dup (pc := 30) dX8_whole_30 rfl ?_
        refine m_getS (pc := 31) hA dX8_whole_31 fl_X8_62 ks_17 ?_
        refine a_iconst (pc := 34) 1 dX8_whole_34 rfl ?_
        refine a_isub (pc := 35) dX8_whole_35 ?_
        refine m_putS (pc := 36) hA dX8_whole_36 fl_X8_62 ks_17 ?_
        refine a_aload_n (pc := 39) dX8_whole_39 rfl (isRv_r _) ?_
        refine a_dup (pc := 40) dX8_whole_40 rfl ?_
        refine m_getS (pc := 41) hA dX8_whole_41 fl_X8_65 ks_18 ?_
        refine a_iconst (pc := 44) 1 dX8_whole_44 rfl ?_
        refine a_isub (pc := 45) dX8_whole_45 ?_
        refine m_putS (pc := 46) hA dX8_whole_46 fl_X8_65 ks_18 ?_
        refine a_goto (pc := 49) 0 dX8_whole_49 (by decide) ?_
        exact ih (si (si r2.2 17 ((r2.2.1 17) - 1)) 18 (((si r2.2 17 ((r2.2.1 17) - 1)).1 18) - 1)) hf
set_option maxHeartbeats 4000000 in
theorem mX8_whole {l : Launch} {g : gE} {d : Nat} {A D : List va_E} (hA : A.length = 26) (hd : 1 ≤ d) {r : Unit × MS} {S : MS} (hf : X8_whole S = some r) : AM l g d yX8_whole cX8_whole 1 none 0 0 [.ref 26] (mh A S D) (Qr (none) (mh A r.2 D)) := by
  refine AM.of rfl (by exact Nat.le_of_ble_eq_true rfl) (fun v h' q => by obtain ⟨rfl, -⟩ := q; rfl) (fun ls e => ?_)
  have e2 : aBeg [.ref 26] 1 = [some (.ref 26)] := rfl
  rw [e2] at e
  subst e
  refine a_sub (sub_k (sub_n)) ?_
  exact sX8_whole_0 hA hd (Nat.le_refl _) (Nat.le_refl _) FU S (hf)
-- PencilStrikesModel.takesTest()Z
def X8_takesTest_0 (S : MS) : Option (Int32 × MS) :=
  (X8_next S).bind fun r1 =>
  (X8_place r1.2 r1.1).bind fun r2 =>
  if 0 ≤ r2.1 then
    (X8_next (si r2.2 3 ((r2.2.1 3) + 1))).bind fun r3 =>
    (X8_in r3.2 r3.1 60 62).bind fun r4 =>
    if r4.1 = 0 then
      some (0, r4.2)
    else
      (X8_takesNumber (si r4.2 3 ((r4.2.1 3) + 1))).bind fun r5 =>
      if r5.1 = 0 then
        some (0, r5.2)
      else
        (X8_put r5.2 (((10000 * r2.1) + (1000 * (r3.1 - 60))) + (r5.2.1 4))).bind fun r6 =>
        (X8_whole r6.2).bind fun r7 =>
        some (1, r7.2)
  else
    some (0, r2.2)
def X8_takesTest (S : MS) : Option (Int32 × MS) := zg (X8_takesTest_0 S)
set_option maxHeartbeats 4000000 in
theorem sX8_takesTest_0 {l : Launch} {g : gE} {d MC MS' k n : Nat} {A D : List va_E} (hA : A.length = 26) (hd : 3 ≤ d) (hk : k ≤ MC) (hn : n ≤ MS') {r : Int32 × MS} {S : MS} (hf : X8_takesTest_0 S = some r) : AW l g d RX8 cX8_takesTest 3 "takesTest" MC MS' (Qr (some (.int r.1)) (mh A r.2 D)) k n 0 [some (.ref 26), none, none] [] (mh A S D) := by
  unfold X8_takesTest_0 at hf
  refine a_aload_n (pc := 0) dX8_takesTest_0 rfl (isRv_r _) ?_
  refine a_aload_n (pc := 1) dX8_takesTest_1 rfl (isRv_r _) ?_
  obtain ⟨r1, hr1, hf⟩ := Option.bind_eq_some_iff.mp hf
  refine m_call (pc := 2) (.int (r1.1)) [] [.ref 26] hA dX8_takesTest_2 ml_X8_146 mv_X8_next rfl rfl (by omega) (mX8_next hA (by omega) hr1) rfl (Nat.le_of_ble_eq_true rfl) hk hn ?_
  obtain ⟨r2, hr2, hf⟩ := Option.bind_eq_some_iff.mp hf
  refine m_call (pc := 5) (.int (r2.1)) [.int (r1.1)] [] hA dX8_takesTest_5 ml_X8_168 mv_X8_place rfl rfl (by omega) (mX8_place hA (by omega) hr2) rfl (Nat.le_of_ble_eq_true rfl) hk hn ?_
  refine a_istore_n (pc := 8) (ls' := [some (.ref 26), some (.int (r2.1)), none]) dX8_takesTest_8 (by decide) rfl ?_
  refine a_iload_n (pc := 9) dX8_takesTest_9 rfl ?_
  refine a_if_ge (pc := 10) 15 dX8_takesTest_10 (by decide) (fun c10 => ?_) (fun c10 => ?_)
  · have hf := (if_pos c10).symm.trans hf
    refine a_aload_n (pc := 15) dX8_takesTest_15 rfl (isRv_r _) ?_
    refine a_dup (pc := 16) dX8_takesTest_16 rfl ?_
    refine m_getS (pc := 17) hA dX8_takesTest_17 fl_X8_19 ks_3 ?_
    refine a_iconst (pc := 20) 1 dX8_takesTest_20 rfl ?_
    refine a_iadd (pc := 21) dX8_takesTest_21 ?_
    refine m_putS (pc := 22) hA dX8_takesTest_22 fl_X8_19 ks_3 ?_
    refine a_aload_n (pc := 25) dX8_takesTest_25 rfl (isRv_r _) ?_
    obtain ⟨r3, hr3, hf⟩ := Option.bind_eq_some_iff.mp hf
    refine m_call (pc := 26) (.int (r3.1)) [] [] hA dX8_takesTest_26 ml_X8_146 mv_X8_next rfl rfl (by omega) (mX8_next hA (by omega) hr3) rfl (Nat.le_of_ble_eq_true rfl) hk hn ?_
    refine a_istore_n (pc := 29) (ls' := [some (.ref 26), some (.int (r2.1)), some (.int (r3.1))]) dX8_takesTest_29 (by decide) rfl ?_
    refine a_aload_n (pc := 30) dX8_takesTest_30 rfl (isRv_r _) ?_
    refine a_iload_n (pc := 31) dX8_takesTest_31 rfl ?_
    refine a_bipush (pc := 32) 60 dX8_takesTest_32 rfl ?_
    refine a_bipush (pc := 34) 62 dX8_takesTest_34 rfl ?_
    obtain ⟨r4, hr4, hf⟩ := Option.bind_eq_some_iff.mp hf
    refine m_call (pc := 36) (.int (r4.1)) [.int (r3.1), .int 60, .int 62] [] hA dX8_takesTest_36 ml_X8_142 mv_X8_in rfl rfl (by omega) (mX8_in hA (by omega) hr4) rfl (Nat.le_of_ble_eq_true rfl) hk hn ?_
    refine a_if_ne (pc := 39) 44 dX8_takesTest_39 (by decide) (fun c9 => ?_) (fun c9 => ?_)
    · have hf := (if_neg c9).symm.trans hf
      refine a_aload_n (pc := 44) dX8_takesTest_44 rfl (isRv_r _) ?_
      refine a_dup (pc := 45) dX8_takesTest_45 rfl ?_
      refine m_getS (pc := 46) hA dX8_takesTest_46 fl_X8_19 ks_3 ?_
      refine a_iconst (pc := 49) 1 dX8_takesTest_49 rfl ?_
      refine a_iadd (pc := 50) dX8_takesTest_50 ?_
      refine m_putS (pc := 51) hA dX8_takesTest_51 fl_X8_19 ks_3 ?_
      refine a_aload_n (pc := 54) dX8_takesTest_54 rfl (isRv_r _) ?_
      obtain ⟨r5, hr5, hf⟩ := Option.bind_eq_some_iff.mp hf
      refine m_call (pc := 55) (.int (r5.1)) [] [] hA dX8_takesTest_55 ml_X8_172 mv_X8_takesNumber rfl rfl (by omega) (mX8_takesNumber hA (by omega) hr5) rfl (Nat.le_of_ble_eq_true rfl) hk hn ?_
      refine a_if_ne (pc := 58) 63 dX8_takesTest_58 (by decide) (fun c8 => ?_) (fun c8 => ?_)
      · have hf := (if_neg c8).symm.trans hf
        refine a_aload_n (pc := 63) dX8_takesTest_63 rfl (isRv_r _) ?_
        refine a_sipush (pc := 64) 10000 dX8_takesTest_64 rfl ?_
        refine a_iload_n (pc := 67) dX8_takesTest_67 rfl ?_
        refine a_imul (pc := 68) dX8_takesTest_68 ?_
        refine a_sipush (pc := 69) 1000 dX8_takesTest_69 rfl ?_
        refine a_iload_n (pc := 72) dX8_takesTest_72 rfl ?_
        refine a_bipush (pc := 73) 60 dX8_takesTest_73 rfl ?_
        refine a_isub (pc := 75) dX8_takesTest_75 ?_
        refine a_imul (pc := 76) dX8_takesTest_76 ?_
        refine a_iadd (pc := 77) dX8_takesTest_77 ?_
        refine a_aload_n (pc := 78) dX8_takesTest_78 rfl (isRv_r _) ?_
        refine m_getS (pc := 79) hA dX8_takesTest_79 fl_X8_22 ks_4 ?_
        refine a_iadd (pc := 82) dX8_takesTest_82 ?_
        obtain ⟨r6, hr6, hf⟩ := Option.bind_eq_some_iff.mp hf
        refine m_callv (pc := 83) [.int (((10000 * r2.1) + (1000 * (r3.1 - 60))) + (r5.2.1 4))] [] hA dX8_takesTest_83 ml_X8_164 mv_X8_put rfl rfl (by omega) (mX8_put hA (by omega) hr6) rfl (Nat.le_of_ble_eq_true rfl) hk hn ?_
        refine a_aload_n (pc := 86) dX8_takesTest_86 rfl (isRv_r _) ?_
        obtain ⟨r7, hr7, hf⟩ := Option.bind_eq_some_iff.mp hf
        refine m_callv (pc := 87) [] [] hA dX8_takesTest_87 ml_X8_175 mv_X8_whole rfl rfl (by omega) (mX8_whole hA (by omega) hr7) rfl (Nat.le_of_ble_eq_true rfl) hk hn ?_
        refine a_iconst (pc := 90) 1 dX8_takesTest_90 rfl ?_
        have hf := Option.some.inj hf
        subst hf
        exact a_ireturn (pc := 91) dX8_takesTest_91 hk hn ⟨rfl, rfl⟩
      · have hf := (if_pos c8).symm.trans hf
        refine a_iconst (pc := 61) 0 dX8_takesTest_61 rfl ?_
        have hf := Option.some.inj hf
        subst hf
        exact a_ireturn (pc := 62) dX8_takesTest_62 hk hn ⟨rfl, rfl⟩
    · have hf := (if_pos c9).symm.trans hf
      refine a_iconst (pc := 42) 0 dX8_takesTest_42 rfl ?_
      have hf := Option.some.inj hf
      subst hf
      exact a_ireturn (pc := 43) dX8_takesTest_43 hk hn ⟨rfl, rfl⟩
  · have hf := (if_neg c10).symm.trans hf
    refine a_iconst (pc := 13) 0 dX8_takesTest_13 rfl ?_
    have hf := Option.some.inj hf
    subst hf
    exact a_ireturn (pc := 14) dX8_takesTest_14 hk hn ⟨rfl, rfl⟩
set_option maxHeartbeats 4000000 in
theorem mX8_takesTest {l : Launch} {g : gE} {d : Nat} {A D : List va_E} (hA : A.length = 26) (hd : 3 ≤ d) {r : Int32 × MS} {S : MS} (hf : X8_takesTest S = some r) : AM l g d yX8_takesTest cX8_takesTest 3 (some .boolean) 0 0 [.ref 26] (mh A S D) (Qr (some (.int r.1)) (mh A r.2 D)) := by
  refine AM.of rfl (by exact Nat.le_of_ble_eq_true rfl) (fun v h' q => by obtain ⟨rfl, -⟩ := q; refine ⟨_, rfl, ?_⟩; rcases (zg_of hf).2 with e | e <;> rw [e] <;> rfl) (fun ls e => ?_)
  have e2 : aBeg [.ref 26] 3 = [some (.ref 26), none, none] := rfl
  rw [e2] at e
  subst e
  refine a_sub (sub_k (sub_k (sub_k (sub_n)))) ?_
  exact sX8_takesTest_0 hA hd (Nat.le_refl _) (Nat.le_refl _) ((zg_of hf).1)
-- PencilStrikesModel.takesE(I)Z
def X8_takesE_43 (rec22 : MS → Int32 → Int32 → Option (Int32 × MS)) (S : MS) (l1 : Int32) (l2 : Int32) (l3 : Int32) : Option (Int32 × MS) :=
  if (S.1 18) = 4 then
    some (0, S)
  else
    (mAs (si S 18 ((S.1 18) + 1)) 15 ((si S 18 ((S.1 18) + 1)).1 17) l3).bind fun S1 =>
    rec22 (si (si S1 17 ((S1.1 17) + 1)) 3 (((si S1 17 ((S1.1 17) + 1)).1 3) + 1)) l1 l2
def X8_takesE_122 (rec22 : MS → Int32 → Int32 → Option (Int32 × MS)) (S : MS) (l1 : Int32) (l3 : Int32) : Option (Int32 × MS) :=
  (X8_settle S l3).bind fun r1 =>
  (mAs r1.2 15 (r1.2.1 17) l3).bind fun S2 =>
  rec22 (si (si S2 17 ((S2.1 17) + 1)) 3 (((si S2 17 ((S2.1 17) + 1)).1 3) + 1)) l1 1
def X8_takesE_22 : Nat → MS → Int32 → Int32 → Option (Int32 × MS)
  | 0, _, _, _ => none
  | fn + 1, S, l1, l2 =>
    (X8_next S).bind fun r1 =>
    if l2 = 0 then
      if r1.1 = 38 then
        X8_takesE_122 (X8_takesE_22 fn) r1.2 l1 r1.1
      else
        if r1.1 = 124 then
          X8_takesE_122 (X8_takesE_22 fn) r1.2 l1 r1.1
        else
          (X8_settle r1.2 124).bind fun r2 =>
          (mAs r2.2 13 l1 (r2.2.1 16)).bind fun S3 =>
          if (S3.1 17) = 0 then
            some (1, S3)
          else
            if r1.1 = 41 then
              (X8_whole (si (si (si S3 17 ((S3.1 17) - 1)) 18 (((si S3 17 ((S3.1 17) - 1)).1 18) - 1)) 3 (((si (si S3 17 ((S3.1 17) - 1)) 18 (((si S3 17 ((S3.1 17) - 1)).1 18) - 1)).1 3) + 1))).bind fun r4 =>
              X8_takesE_22 fn r4.2 l1 l2
            else
              some (0, S3)
    else
      if r1.1 = 33 then
        X8_takesE_43 (X8_takesE_22 fn) r1.2 l1 l2 r1.1
      else
        if r1.1 = 40 then
          X8_takesE_43 (X8_takesE_22 fn) r1.2 l1 l2 r1.1
        else
          (X8_takesTest r1.2).bind fun r9 =>
          if r9.1 = 0 then
            some (0, r9.2)
          else
            X8_takesE_22 fn r9.2 l1 0
def X8_takesE_0 (S : MS) (l1 : Int32) : Option (Int32 × MS) :=
  (mAs (si (si S 17 0) 18 0) 12 l1 ((si (si S 17 0) 18 0).1 16)).bind fun S1 =>
  X8_takesE_22 FU S1 l1 1
def X8_takesE (S : MS) (l1 : Int32) : Option (Int32 × MS) := zg (X8_takesE_0 S l1)
set_option maxHeartbeats 4000000 in
theorem sX8_takesE_43 {l : Launch} {g : gE} {d MC MS' k n : Nat} {A D : List va_E} (hA : A.length = 26) (hd : 4 ≤ d) (hk : k ≤ MC) (hn : n ≤ MS') {r : Int32 × MS} {rec22 : MS → Int32 → Int32 → Option (Int32 × MS)} (hlp22 : ∀ (S : MS) (l1 : Int32) (l2 : Int32), rec22 S l1 l2 = some r → AW l g d RX8 cX8_takesE 4 "takesE" MC MS' (Qr (some (.int r.1)) (mh A r.2 D)) k n 22 [some (.ref 26), some (.int l1), some (.int l2), none] [] (mh A S D)) {S : MS} {l1 : Int32} {l2 : Int32} {l3 : Int32} (hf : X8_takesE_43 rec22 S l1 l2 l3 = some r) : AW l g d RX8 cX8_takesE 4 "takesE" MC MS' (Qr (some (.int r.1)) (mh A r.2 D)) k n 43 [some (.ref 26), some (.int l1), some (.int l2), some (.int l3)] [] (mh A S D) := by
  unfold X8_takesE_43 at hf
  refine a_aload_n (pc := 43) dX8_takesE_43 rfl (isRv_r _) ?_
  refine m_getS (pc := 44) hA dX8_takesE_44 fl_X8_65 ks_18 ?_
  refine a_iconst (pc := 47) 4 dX8_takesE_47 rfl ?_
  refine a_icmp_ne (pc := 48) 53 dX8_takesE_48 (by decide) (fun c2 => ?_) (fun c2 => ?_)
  · have hf := (if_neg c2).symm.trans hf
    refine a_aload_n (pc := 53) dX8_takesE_53 rfl (isRv_r _) ?_
    refine a_dup (pc := 54) dX8_takesE_54 rfl ?_
    refine m_getS (pc := 55) hA dX8_takesE_55 fl_X8_65 ks_18 ?_
    refine a_iconst (pc := 58) 1 dX8_takesE_58 rfl ?_
    refine a_iadd (pc := 59) dX8_takesE_59 ?_
    refine m_putS (pc := 60) hA dX8_takesE_60 fl_X8_65 ks_18 ?_
    refine a_aload_n (pc := 63) dX8_takesE_63 rfl (isRv_r _) ?_
    refine m_getA (pc := 64) 37 hA dX8_takesE_64 fl_X8_56 (Or.inl ki_15) rfl ?_
    refine a_aload_n (pc := 67) dX8_takesE_67 rfl (isRv_r _) ?_
    refine m_getS (pc := 68) hA dX8_takesE_68 fl_X8_62 ks_17 ?_
    refine a_iload_n (pc := 71) dX8_takesE_71 rfl ?_
    obtain ⟨S1, hS1, hf⟩ := Option.bind_eq_some_iff.mp hf
    refine m_ast (pc := 72) 37 hA dX8_takesE_72 ki_15 rfl hS1 ?_
    refine a_aload_n (pc := 73) dX8_takesE_73 rfl (isRv_r _) ?_
    refine a_dup (pc := 74) dX8_takesE_74 rfl ?_
    refine m_getS (pc := 75) hA dX8_takesE_75 fl_X8_62 ks_17 ?_
    refine a_iconst (pc := 78) 1 dX8_takesE_78 rfl ?_
    refine a_iadd (pc := 79) dX8_takesE_79 ?_
    refine m_putS (pc := 80) hA dX8_takesE_80 fl_X8_62 ks_17 ?_
    refine a_aload_n (pc := 83) dX8_takesE_83 rfl (isRv_r _) ?_
    refine a_dup (pc := 84) dX8_takesE_84 rfl ?_
    refine m_getS (pc := 85) hA dX8_takesE_85 fl_X8_19 ks_3 ?_
    refine a_iconst (pc := 88) 1 dX8_takesE_88 rfl ?_
    refine a_iadd (pc := 89) dX8_takesE_89 ?_
    refine m_putS (pc := 90) hA dX8_takesE_90 fl_X8_19 ks_3 ?_
    refine a_goto (pc := 93) 22 dX8_takesE_93 (by decide) ?_
    refine a_sub (sub_k (sub_k (sub_k (sub_d sub_n)))) ?_
    exact hlp22 (si (si S1 17 ((S1.1 17) + 1)) 3 (((si S1 17 ((S1.1 17) + 1)).1 3) + 1)) l1 l2 hf
  · have hf := (if_pos c2).symm.trans hf
    refine a_iconst (pc := 51) 0 dX8_takesE_51 rfl ?_
    have hf := Option.some.inj hf
    subst hf
    exact a_ireturn (pc := 52) dX8_takesE_52 hk hn ⟨rfl, rfl⟩
set_option maxHeartbeats 4000000 in
theorem sX8_takesE_122 {l : Launch} {g : gE} {d MC MS' k n : Nat} {A D : List va_E} (hA : A.length = 26) (hd : 4 ≤ d) (hk : k ≤ MC) (hn : n ≤ MS') {r : Int32 × MS} {rec22 : MS → Int32 → Int32 → Option (Int32 × MS)} (hlp22 : ∀ (S : MS) (l1 : Int32) (l2 : Int32), rec22 S l1 l2 = some r → AW l g d RX8 cX8_takesE 4 "takesE" MC MS' (Qr (some (.int r.1)) (mh A r.2 D)) k n 22 [some (.ref 26), some (.int l1), some (.int l2), none] [] (mh A S D)) {S : MS} {l1 : Int32} {l3 : Int32} (hf : X8_takesE_122 rec22 S l1 l3 = some r) : AW l g d RX8 cX8_takesE 4 "takesE" MC MS' (Qr (some (.int r.1)) (mh A r.2 D)) k n 122 [some (.ref 26), some (.int l1), none, some (.int l3)] [] (mh A S D) := by
  unfold X8_takesE_122 at hf
  refine a_aload_n (pc := 122) dX8_takesE_122 rfl (isRv_r _) ?_
  refine a_iload_n (pc := 123) dX8_takesE_123 rfl ?_
  obtain ⟨r1, hr1, hf⟩ := Option.bind_eq_some_iff.mp hf
  refine m_callv (pc := 124) [.int l3] [] hA dX8_takesE_124 ml_X8_181 mv_X8_settle rfl rfl (by omega) (mX8_settle hA (by omega) hr1) rfl (Nat.le_of_ble_eq_true rfl) hk hn ?_
  refine a_aload_n (pc := 127) dX8_takesE_127 rfl (isRv_r _) ?_
  refine m_getA (pc := 128) 37 hA dX8_takesE_128 fl_X8_56 (Or.inl ki_15) rfl ?_
  refine a_aload_n (pc := 131) dX8_takesE_131 rfl (isRv_r _) ?_
  refine m_getS (pc := 132) hA dX8_takesE_132 fl_X8_62 ks_17 ?_
  refine a_iload_n (pc := 135) dX8_takesE_135 rfl ?_
  obtain ⟨S2, hS2, hf⟩ := Option.bind_eq_some_iff.mp hf
  refine m_ast (pc := 136) 37 hA dX8_takesE_136 ki_15 rfl hS2 ?_
  refine a_aload_n (pc := 137) dX8_takesE_137 rfl (isRv_r _) ?_
  refine a_dup (pc := 138) dX8_takesE_138 rfl ?_
  refine m_getS (pc := 139) hA dX8_takesE_139 fl_X8_62 ks_17 ?_
  refine a_iconst (pc := 142) 1 dX8_takesE_142 rfl ?_
  refine a_iadd (pc := 143) dX8_takesE_143 ?_
  refine m_putS (pc := 144) hA dX8_takesE_144 fl_X8_62 ks_17 ?_
  refine a_iconst (pc := 147) 1 dX8_takesE_147 rfl ?_
  refine a_istore_n (pc := 148) (ls' := [some (.ref 26), some (.int l1), some (.int 1), some (.int l3)]) dX8_takesE_148 (by decide) rfl ?_
  refine a_aload_n (pc := 149) dX8_takesE_149 rfl (isRv_r _) ?_
  refine a_dup (pc := 150) dX8_takesE_150 rfl ?_
  refine m_getS (pc := 151) hA dX8_takesE_151 fl_X8_19 ks_3 ?_
  refine a_iconst (pc := 154) 1 dX8_takesE_154 rfl ?_
  refine a_iadd (pc := 155) dX8_takesE_155 ?_
  refine m_putS (pc := 156) hA dX8_takesE_156 fl_X8_19 ks_3 ?_
  refine a_goto (pc := 159) 22 dX8_takesE_159 (by decide) ?_
  refine a_sub (sub_k (sub_k (sub_k (sub_d sub_n)))) ?_
  exact hlp22 (si (si S2 17 ((S2.1 17) + 1)) 3 (((si S2 17 ((S2.1 17) + 1)).1 3) + 1)) l1 1 hf
set_option maxHeartbeats 4000000 in
theorem sX8_takesE_22 {l : Launch} {g : gE} {d MC MS' k n : Nat} {A D : List va_E} (hA : A.length = 26) (hd : 4 ≤ d) (hk : k ≤ MC) (hn : n ≤ MS') {r : Int32 × MS} : ∀ (fn : Nat) (S : MS) (l1 : Int32) (l2 : Int32), X8_takesE_22 fn S l1 l2 = some r → AW l g d RX8 cX8_takesE 4 "takesE" MC MS' (Qr (some (.int r.1)) (mh A r.2 D)) k n 22 [some (.ref 26), some (.int l1), some (.int l2), none] [] (mh A S D) := by
  intro fn
  induction fn with
  | zero =>
    intro S l1 l2 hf
    rw [X8_takesE_22] at hf
    cases hf
  | succ fn ih =>
    intro S l1 l2 hf
    rw [X8_takesE_22] at hf
    refine a_aload_n (pc := 22) dX8_takesE_22 rfl (isRv_r _) ?_
    obtain ⟨r1, hr1, hf⟩ := Option.bind_eq_some_iff.mp hf
    refine m_call (pc := 23) (.int (r1.1)) [] [] hA dX8_takesE_23 ml_X8_146 mv_X8_next rfl rfl (by omega) (mX8_next hA (by omega) hr1) rfl (Nat.le_of_ble_eq_true rfl) hk hn ?_
    refine a_istore_n (pc := 26) (ls' := [some (.ref 26), some (.int l1), some (.int l2), some (.int (r1.1))]) dX8_takesE_26 (by decide) rfl ?_
    refine a_iload_n (pc := 27) dX8_takesE_27 rfl ?_
    refine a_if_eq (pc := 28) 110 dX8_takesE_28 (by decide) (fun c13 => ?_) (fun c13 => ?_)
    · have hf := (if_pos c13).symm.trans hf
      refine a_iload_n (pc := 110) dX8_takesE_110 rfl ?_
      refine a_bipush (pc := 111) 38 dX8_takesE_111 rfl ?_
      refine a_icmp_eq (pc := 113) 122 dX8_takesE_113 (by decide) (fun c8 => ?_) (fun c8 => ?_)
      · have hf := (if_pos c8).symm.trans hf
        refine a_sub (sub_k (sub_k (sub_d (sub_k sub_n)))) ?_
        exact sX8_takesE_122 hA hd hk hn ih hf
      · have hf := (if_neg c8).symm.trans hf
        refine a_iload_n (pc := 116) dX8_takesE_116 rfl ?_
        refine a_bipush (pc := 117) 124 dX8_takesE_117 rfl ?_
        refine a_icmp_ne (pc := 119) 162 dX8_takesE_119 (by decide) (fun c7 => ?_) (fun c7 => ?_)
        · have hf := (if_neg c7).symm.trans hf
          refine a_aload_n (pc := 162) dX8_takesE_162 rfl (isRv_r _) ?_
          refine a_bipush (pc := 163) 124 dX8_takesE_163 rfl ?_
          obtain ⟨r2, hr2, hf⟩ := Option.bind_eq_some_iff.mp hf
          refine m_callv (pc := 165) [.int 124] [] hA dX8_takesE_165 ml_X8_181 mv_X8_settle rfl rfl (by omega) (mX8_settle hA (by omega) hr2) rfl (Nat.le_of_ble_eq_true rfl) hk hn ?_
          refine a_aload_n (pc := 168) dX8_takesE_168 rfl (isRv_r _) ?_
          refine m_getA (pc := 169) 35 hA dX8_takesE_169 fl_X8_50 (Or.inl ki_13) rfl ?_
          refine a_iload_n (pc := 172) dX8_takesE_172 rfl ?_
          refine a_aload_n (pc := 173) dX8_takesE_173 rfl (isRv_r _) ?_
          refine m_getS (pc := 174) hA dX8_takesE_174 fl_X8_59 ks_16 ?_
          obtain ⟨S3, hS3, hf⟩ := Option.bind_eq_some_iff.mp hf
          refine m_ast (pc := 177) 35 hA dX8_takesE_177 ki_13 rfl hS3 ?_
          refine a_aload_n (pc := 178) dX8_takesE_178 rfl (isRv_r _) ?_
          refine m_getS (pc := 179) hA dX8_takesE_179 fl_X8_62 ks_17 ?_
          refine a_if_ne (pc := 182) 187 dX8_takesE_182 (by decide) (fun c6 => ?_) (fun c6 => ?_)
          · have hf := (if_neg c6).symm.trans hf
            refine a_iload_n (pc := 187) dX8_takesE_187 rfl ?_
            refine a_bipush (pc := 188) 41 dX8_takesE_188 rfl ?_
            refine a_icmp_eq (pc := 190) 195 dX8_takesE_190 (by decide) (fun c5 => ?_) (fun c5 => ?_)
            · have hf := (if_pos c5).symm.trans hf
              refine a_aload_n (pc := 195) dX8_takesE_195 rfl (isRv_r _) ?_
              refine a_dup (pc := 196) dX8_takesE_196 rfl ?_
              refine m_getS (pc := 197) hA dX8_takesE_197 fl_X8_62 ks_17 ?_
              refine a_iconst (pc := 200) 1 dX8_takesE_200 rfl ?_
              refine a_isub (pc := 201) dX8_takesE_201 ?_
              refine m_putS (pc := 202) hA dX8_takesE_202 fl_X8_62 ks_17 ?_
              refine a_aload_n (pc := 205) dX8_takesE_205 rfl (isRv_r _) ?_
              refine a_dup (pc := 206) dX8_takesE_206 rfl ?_
              refine m_getS (pc := 207) hA dX8_takesE_207 fl_X8_65 ks_18 ?_
              refine a_iconst (pc := 210) 1 dX8_takesE_210 rfl ?_
              refine a_isub (pc := 211) dX8_takesE_211 ?_
              refine m_putS (pc := 212) hA dX8_takesE_212 fl_X8_65 ks_18 ?_
              refine a_aload_n (pc := 215) dX8_takesE_215 rfl (isRv_r _) ?_
              refine a_dup (pc := 216) dX8_takesE_216 rfl ?_
              refine m_getS (pc := 217) hA dX8_takesE_217 fl_X8_19 ks_3 ?_
              refine a_iconst (pc := 220) 1 dX8_takesE_220 rfl ?_
              refine a_iadd (pc := 221) dX8_takesE_221 ?_
              refine m_putS (pc := 222) hA dX8_takesE_222 fl_X8_19 ks_3 ?_
              refine a_aload_n (pc := 225) dX8_takesE_225 rfl (isRv_r _) ?_
              obtain ⟨r4, hr4, hf⟩ := Option.bind_eq_some_iff.mp hf
              refine m_callv (pc := 226) [] [] hA dX8_takesE_226 ml_X8_175 mv_X8_whole rfl rfl (by omega) (mX8_whole hA (by omega) hr4) rfl (Nat.le_of_ble_eq_true rfl) hk hn ?_
              refine a_goto (pc := 229) 22 dX8_takesE_229 (by decide) ?_
              refine a_sub (sub_k (sub_k (sub_k (sub_d sub_n)))) ?_
              exact ih r4.2 l1 l2 hf
            · have hf := (if_neg c5).symm.trans hf
              refine a_iconst (pc := 193) 0 dX8_takesE_193 rfl ?_
              have hf := Option.some.inj hf
              subst hf
              exact a_ireturn (pc := 194) dX8_takesE_194 hk hn ⟨rfl, rfl⟩
          · have hf := (if_pos c6).symm.trans hf
            refine a_iconst (pc := 185) 1 dX8_takesE_185 rfl ?_
            have hf := Option.some.inj hf
            subst hf
            exact a_ireturn (pc := 186) dX8_takesE_186 hk hn ⟨rfl, rfl⟩
        · have hf := (if_pos c7).symm.trans hf
          refine a_sub (sub_k (sub_k (sub_d (sub_k sub_n)))) ?_
          exact sX8_takesE_122 hA hd hk hn ih hf
    · have hf := (if_neg c13).symm.trans hf
      refine a_iload_n (pc := 31) dX8_takesE_31 rfl ?_
      refine a_bipush (pc := 32) 33 dX8_takesE_32 rfl ?_
      refine a_icmp_eq (pc := 34) 43 dX8_takesE_34 (by decide) (fun c12 => ?_) (fun c12 => ?_)
      · have hf := (if_pos c12).symm.trans hf
        exact sX8_takesE_43 hA hd hk hn ih hf
      · have hf := (if_neg c12).symm.trans hf
        refine a_iload_n (pc := 37) dX8_takesE_37 rfl ?_
        refine a_bipush (pc := 38) 40 dX8_takesE_38 rfl ?_
        refine a_icmp_ne (pc := 40) 96 dX8_takesE_40 (by decide) (fun c11 => ?_) (fun c11 => ?_)
        · have hf := (if_neg c11).symm.trans hf
          refine a_aload_n (pc := 96) dX8_takesE_96 rfl (isRv_r _) ?_
          obtain ⟨r9, hr9, hf⟩ := Option.bind_eq_some_iff.mp hf
          refine m_call (pc := 97) (.int (r9.1)) [] [] hA dX8_takesE_97 ml_X8_178 mv_X8_takesTest rfl rfl (by omega) (mX8_takesTest hA (by omega) hr9) rfl (Nat.le_of_ble_eq_true rfl) hk hn ?_
          refine a_if_eq (pc := 100) 108 dX8_takesE_100 (by decide) (fun c10 => ?_) (fun c10 => ?_)
          · have hf := (if_pos c10).symm.trans hf
            refine a_iconst (pc := 108) 0 dX8_takesE_108 rfl ?_
            have hf := Option.some.inj hf
            subst hf
            exact a_ireturn (pc := 109) dX8_takesE_109 hk hn ⟨rfl, rfl⟩
          · have hf := (if_neg c10).symm.trans hf
            refine a_iconst (pc := 103) 0 dX8_takesE_103 rfl ?_
            refine a_istore_n (pc := 104) (ls' := [some (.ref 26), some (.int l1), some (.int 0), some (.int (r1.1))]) dX8_takesE_104 (by decide) rfl ?_
            refine a_goto (pc := 105) 22 dX8_takesE_105 (by decide) ?_
            refine a_sub (sub_k (sub_k (sub_k (sub_d sub_n)))) ?_
            exact ih r9.2 l1 0 hf
        · have hf := (if_pos c11).symm.trans hf
          exact sX8_takesE_43 hA hd hk hn ih hf
set_option maxHeartbeats 4000000 in
theorem sX8_takesE_0 {l : Launch} {g : gE} {d MC MS' k n : Nat} {A D : List va_E} (hA : A.length = 26) (hd : 4 ≤ d) (hk : k ≤ MC) (hn : n ≤ MS') {r : Int32 × MS} {S : MS} {l1 : Int32} (hf : X8_takesE_0 S l1 = some r) : AW l g d RX8 cX8_takesE 4 "takesE" MC MS' (Qr (some (.int r.1)) (mh A r.2 D)) k n 0 [some (.ref 26), some (.int l1), none, none] [] (mh A S D) := by
  unfold X8_takesE_0 at hf
  refine a_aload_n (pc := 0) dX8_takesE_0 rfl (isRv_r _) ?_
  refine a_iconst (pc := 1) 0 dX8_takesE_1 rfl ?_
  refine m_putS (pc := 2) hA dX8_takesE_2 fl_X8_62 ks_17 ?_
  refine a_aload_n (pc := 5) dX8_takesE_5 rfl (isRv_r _) ?_
  refine a_iconst (pc := 6) 0 dX8_takesE_6 rfl ?_
  refine m_putS (pc := 7) hA dX8_takesE_7 fl_X8_65 ks_18 ?_
  refine a_aload_n (pc := 10) dX8_takesE_10 rfl (isRv_r _) ?_
  refine m_getA (pc := 11) 34 hA dX8_takesE_11 fl_X8_47 (Or.inl ki_12) rfl ?_
  refine a_iload_n (pc := 14) dX8_takesE_14 rfl ?_
  refine a_aload_n (pc := 15) dX8_takesE_15 rfl (isRv_r _) ?_
  refine m_getS (pc := 16) hA dX8_takesE_16 fl_X8_59 ks_16 ?_
  obtain ⟨S1, hS1, hf⟩ := Option.bind_eq_some_iff.mp hf
  refine m_ast (pc := 19) 34 hA dX8_takesE_19 ki_12 rfl hS1 ?_
  refine a_iconst (pc := 20) 1 dX8_takesE_20 rfl ?_
  refine a_istore_n (pc := 21) (ls' := [some (.ref 26), some (.int l1), some (.int 1), none]) dX8_takesE_21 (by decide) rfl ?_
  exact sX8_takesE_22 hA hd hk hn FU S1 l1 1 hf
set_option maxHeartbeats 4000000 in
theorem mX8_takesE {l : Launch} {g : gE} {d : Nat} {A D : List va_E} (hA : A.length = 26) (hd : 4 ≤ d) {r : Int32 × MS} {S : MS} {l1 : Int32} (hf : X8_takesE S l1 = some r) : AM l g d yX8_takesE cX8_takesE 4 (some .boolean) 0 0 [.ref 26, .int l1] (mh A S D) (Qr (some (.int r.1)) (mh A r.2 D)) := by
  refine AM.of rfl (by exact Nat.le_of_ble_eq_true rfl) (fun v h' q => by obtain ⟨rfl, -⟩ := q; refine ⟨_, rfl, ?_⟩; rcases (zg_of hf).2 with e | e <;> rw [e] <;> rfl) (fun ls e => ?_)
  have e2 : aBeg [.ref 26, .int l1] 4 = [some (.ref 26), some (.int l1), none, none] := rfl
  rw [e2] at e
  subst e
  refine a_sub (sub_k (sub_k (sub_k (sub_k (sub_n))))) ?_
  exact sX8_takesE_0 hA hd (Nat.le_refl _) (Nat.le_refl _) ((zg_of hf).1)
-- PencilStrikesModel.takesWord(II)Z
def X8_takesWord_4 : Nat → MS → Int32 → Int32 → Option (Int32 × MS)
  | 0, _, _, _ => none
  | fn + 1, S, l1, l3 =>
    if l3 < 0 then
      some (1, S)
    else
      (X8_takes S (96 + ((l1 >>> ((5 * l3) &&& 31)) &&& 31))).bind fun r1 =>
      if r1.1 = 0 then
        some (0, r1.2)
      else
        X8_takesWord_4 fn r1.2 l1 (l3 + (-1))
def X8_takesWord_0 (S : MS) (l1 : Int32) (l2 : Int32) : Option (Int32 × MS) :=
  X8_takesWord_4 FU S l1 (l2 - 1)
def X8_takesWord (S : MS) (l1 : Int32) (l2 : Int32) : Option (Int32 × MS) := zg (X8_takesWord_0 S l1 l2)
set_option maxHeartbeats 4000000 in
theorem sX8_takesWord_4 {l : Launch} {g : gE} {d MC MS' k n : Nat} {A D : List va_E} (hA : A.length = 26) (hd : 2 ≤ d) (hk : k ≤ MC) (hn : n ≤ MS') {r : Int32 × MS} : ∀ (fn : Nat) (S : MS) (l1 : Int32) (l3 : Int32), X8_takesWord_4 fn S l1 l3 = some r → AW l g d RX8 cX8_takesWord 4 "takesWord" MC MS' (Qr (some (.int r.1)) (mh A r.2 D)) k n 4 [some (.ref 26), some (.int l1), none, some (.int l3)] [] (mh A S D) := by
  intro fn
  induction fn with
  | zero =>
    intro S l1 l3 hf
    rw [X8_takesWord_4] at hf
    cases hf
  | succ fn ih =>
    intro S l1 l3 hf
    rw [X8_takesWord_4] at hf
    refine a_iload_n (pc := 4) dX8_takesWord_4 rfl ?_
    refine a_if_lt (pc := 5) 34 dX8_takesWord_5 (by decide) (fun c3 => ?_) (fun c3 => ?_)
    · have hf := (if_pos c3).symm.trans hf
      refine a_iconst (pc := 34) 1 dX8_takesWord_34 rfl ?_
      have hf := Option.some.inj hf
      subst hf
      exact a_ireturn (pc := 35) dX8_takesWord_35 hk hn ⟨rfl, rfl⟩
    · have hf := (if_neg c3).symm.trans hf
      refine a_aload_n (pc := 8) dX8_takesWord_8 rfl (isRv_r _) ?_
      refine a_bipush (pc := 9) 96 dX8_takesWord_9 rfl ?_
      refine a_iload_n (pc := 11) dX8_takesWord_11 rfl ?_
      refine a_iconst (pc := 12) 5 dX8_takesWord_12 rfl ?_
      refine a_iload_n (pc := 13) dX8_takesWord_13 rfl ?_
      refine a_imul (pc := 14) dX8_takesWord_14 ?_
      refine a_ishr (pc := 15) dX8_takesWord_15 ?_
      refine a_bipush (pc := 16) 31 dX8_takesWord_16 rfl ?_
      refine a_iand (pc := 18) dX8_takesWord_18 ?_
      refine a_iadd (pc := 19) dX8_takesWord_19 ?_
      obtain ⟨r1, hr1, hf⟩ := Option.bind_eq_some_iff.mp hf
      refine m_call (pc := 20) (.int (r1.1)) [.int (96 + ((l1 >>> ((5 * l3) &&& 31)) &&& 31))] [] hA dX8_takesWord_20 ml_X8_161 mv_X8_takes rfl rfl (by omega) (mX8_takes hA (by omega) hr1) rfl (Nat.le_of_ble_eq_true rfl) hk hn ?_
      refine a_if_ne (pc := 23) 28 dX8_takesWord_23 (by decide) (fun c2 => ?_) (fun c2 => ?_)
      · have hf := (if_neg c2).symm.trans hf
        refine a_iinc (pc := 28) (ls' := [some (.ref 26), some (.int l1), none, some (.int (l3 + (-1)))]) (l3 + (-1)) dX8_takesWord_28 rfl rfl (by decide) rfl ?_
        refine a_goto (pc := 31) 4 dX8_takesWord_31 (by decide) ?_
        exact ih r1.2 l1 (l3 + (-1)) hf
      · have hf := (if_pos c2).symm.trans hf
        refine a_iconst (pc := 26) 0 dX8_takesWord_26 rfl ?_
        have hf := Option.some.inj hf
        subst hf
        exact a_ireturn (pc := 27) dX8_takesWord_27 hk hn ⟨rfl, rfl⟩
set_option maxHeartbeats 4000000 in
theorem sX8_takesWord_0 {l : Launch} {g : gE} {d MC MS' k n : Nat} {A D : List va_E} (hA : A.length = 26) (hd : 2 ≤ d) (hk : k ≤ MC) (hn : n ≤ MS') {r : Int32 × MS} {S : MS} {l1 : Int32} {l2 : Int32} (hf : X8_takesWord_0 S l1 l2 = some r) : AW l g d RX8 cX8_takesWord 4 "takesWord" MC MS' (Qr (some (.int r.1)) (mh A r.2 D)) k n 0 [some (.ref 26), some (.int l1), some (.int l2), none] [] (mh A S D) := by
  unfold X8_takesWord_0 at hf
  refine a_iload_n (pc := 0) dX8_takesWord_0 rfl ?_
  refine a_iconst (pc := 1) 1 dX8_takesWord_1 rfl ?_
  refine a_isub (pc := 2) dX8_takesWord_2 ?_
  refine a_istore_n (pc := 3) (ls' := [some (.ref 26), some (.int l1), some (.int l2), some (.int (l2 - 1))]) dX8_takesWord_3 (by decide) rfl ?_
  refine a_sub (sub_k (sub_k (sub_d (sub_k sub_n)))) ?_
  exact sX8_takesWord_4 hA hd hk hn FU S l1 (l2 - 1) hf
set_option maxHeartbeats 4000000 in
theorem mX8_takesWord {l : Launch} {g : gE} {d : Nat} {A D : List va_E} (hA : A.length = 26) (hd : 2 ≤ d) {r : Int32 × MS} {S : MS} {l1 : Int32} {l2 : Int32} (hf : X8_takesWord S l1 l2 = some r) : AM l g d yX8_takesWord cX8_takesWord 4 (some .boolean) 0 0 [.ref 26, .int l1, .int l2] (mh A S D) (Qr (some (.int r.1)) (mh A r.2 D)) := by
  refine AM.of rfl (by exact Nat.le_of_ble_eq_true rfl) (fun v h' q => by obtain ⟨rfl, -⟩ := q; refine ⟨_, rfl, ?_⟩; rcases (zg_of hf).2 with e | e <;> rw [e] <;> rfl) (fun ls e => ?_)
  have e2 : aBeg [.ref 26, .int l1, .int l2] 4 = [some (.ref 26), some (.int l1), some (.int l2), none] := rfl
  rw [e2] at e
  subst e
  refine a_sub (sub_k (sub_k (sub_k (sub_k (sub_n))))) ?_
  exact sX8_takesWord_0 hA hd (Nat.le_refl _) (Nat.le_refl _) ((zg_of hf).1)
-- PencilStrikesModel.takesClause(I)Z
def X8_takesClause_80 (S : MS) (s0 : Int32) : Option (Int32 × MS) :=
  some (s0, S)
def X8_takesClause_79 (S : MS) : Option (Int32 × MS) :=
  X8_takesClause_80 S 0
def X8_takesClause_129 (S : MS) : Option (Int32 × MS) :=
  some (0, S)
def X8_takesClause_0 (S : MS) (l1 : Int32) : Option (Int32 × MS) :=
  (X8_next S).bind fun r1 =>
  if r1.1 = 98 then
    (mAs r1.2 10 l1 0).bind fun S4 =>
    (X8_takesWord S4 2098 3).bind fun r5 =>
    if r5.1 = 0 then
      X8_takesClause_79 r5.2
    else
      (X8_takes r5.2 32).bind fun r6 =>
      if r6.1 = 0 then
        X8_takesClause_79 r6.2
      else
        (X8_takesE r6.2 l1).bind fun r7 =>
        if r7.1 = 0 then
          X8_takesClause_79 r7.2
        else
          X8_takesClause_80 r7.2 1
  else
    if r1.1 = 103 then
      (mAs r1.2 10 l1 1).bind fun S11 =>
      (X8_takesWord S11 239301 4).bind fun r12 =>
      some (r12.1, r12.2)
    else
      if r1.1 = 109 then
        (mAs r1.2 10 l1 2).bind fun S13 =>
        (X8_takesWord S13 441972 4).bind fun r14 =>
        if r14.1 = 0 then
          X8_takesClause_129 r14.2
        else
          (X8_takes r14.2 32).bind fun r15 =>
          if r15.1 = 0 then
            X8_takesClause_129 r15.2
          else
            (X8_takesNumber r15.2).bind fun r16 =>
            if r16.1 = 0 then
              X8_takesClause_129 r16.2
            else
              (mAs r16.2 11 l1 (r16.2.1 4)).bind fun S17 =>
              some (1, S17)
      else
        (mAs r1.2 10 l1 3).bind fun S2 =>
        (X8_takesWord S2 20101733 5).bind fun r3 =>
        some (r3.1, r3.2)
def X8_takesClause (S : MS) (l1 : Int32) : Option (Int32 × MS) := zg (X8_takesClause_0 S l1)
set_option maxHeartbeats 4000000 in
theorem sX8_takesClause_80 {l : Launch} {g : gE} {d MC MS' k n : Nat} {A D : List va_E} (hA : A.length = 26) (hd : 5 ≤ d) (hk : k ≤ MC) (hn : n ≤ MS') {r : Int32 × MS} {S : MS} {s0 : Int32} (hf : X8_takesClause_80 S s0 = some r) : AW l g d RX8 cX8_takesClause 2 "takesClause" MC MS' (Qr (some (.int r.1)) (mh A r.2 D)) k n 80 [none, none] [.int s0] (mh A S D) := by
  unfold X8_takesClause_80 at hf
  have hf := Option.some.inj hf
  subst hf
  exact a_ireturn (pc := 80) dX8_takesClause_80 hk hn ⟨rfl, rfl⟩
set_option maxHeartbeats 4000000 in
theorem sX8_takesClause_79 {l : Launch} {g : gE} {d MC MS' k n : Nat} {A D : List va_E} (hA : A.length = 26) (hd : 5 ≤ d) (hk : k ≤ MC) (hn : n ≤ MS') {r : Int32 × MS} {S : MS} (hf : X8_takesClause_79 S = some r) : AW l g d RX8 cX8_takesClause 2 "takesClause" MC MS' (Qr (some (.int r.1)) (mh A r.2 D)) k n 79 [none, none] [] (mh A S D) := by
  unfold X8_takesClause_79 at hf
  refine a_iconst (pc := 79) 0 dX8_takesClause_79 rfl ?_
  exact sX8_takesClause_80 hA hd hk hn hf
set_option maxHeartbeats 4000000 in
theorem sX8_takesClause_129 {l : Launch} {g : gE} {d MC MS' k n : Nat} {A D : List va_E} (hA : A.length = 26) (hd : 5 ≤ d) (hk : k ≤ MC) (hn : n ≤ MS') {r : Int32 × MS} {S : MS} (hf : X8_takesClause_129 S = some r) : AW l g d RX8 cX8_takesClause 2 "takesClause" MC MS' (Qr (some (.int r.1)) (mh A r.2 D)) k n 129 [none, none] [] (mh A S D) := by
  unfold X8_takesClause_129 at hf
  refine a_iconst (pc := 129) 0 dX8_takesClause_129 rfl ?_
  have hf := Option.some.inj hf
  subst hf
  exact a_ireturn (pc := 130) dX8_takesClause_130 hk hn ⟨rfl, rfl⟩
set_option maxHeartbeats 4000000 in
theorem sX8_takesClause_0 {l : Launch} {g : gE} {d MC MS' k n : Nat} {A D : List va_E} (hA : A.length = 26) (hd : 5 ≤ d) (hk : k ≤ MC) (hn : n ≤ MS') {r : Int32 × MS} {S : MS} {l1 : Int32} (hf : X8_takesClause_0 S l1 = some r) : AW l g d RX8 cX8_takesClause 2 "takesClause" MC MS' (Qr (some (.int r.1)) (mh A r.2 D)) k n 0 [some (.ref 26), some (.int l1)] [] (mh A S D) := by
  unfold X8_takesClause_0 at hf
  refine a_aload_n (pc := 0) dX8_takesClause_0 rfl (isRv_r _) ?_
  obtain ⟨r1, hr1, hf⟩ := Option.bind_eq_some_iff.mp hf
  refine m_call (pc := 1) (.int (r1.1)) [] [] hA dX8_takesClause_1 ml_X8_146 mv_X8_next rfl rfl (by omega) (mX8_next hA (by omega) hr1) rfl (Nat.le_of_ble_eq_true rfl) hk hn ?_
  by_cases c21_0 : r1.1 = 98
  · have hf := (if_pos c21_0).symm.trans hf
    refine a_lookup (pc := 4) 40 dX8_takesClause_4 (by decide) (by show (4 : Int) + Op.lookupswitch.offset [(98, 36), (103, 77), (109, 92)] 139 _ = _; rw [c21_0]; rfl) ?_
    refine a_aload_n (pc := 40) dX8_takesClause_40 rfl (isRv_r _) ?_
    refine m_getA (pc := 41) 32 hA dX8_takesClause_41 fl_X8_41 (Or.inl ki_10) rfl ?_
    refine a_iload_n (pc := 44) dX8_takesClause_44 rfl ?_
    refine a_iconst (pc := 45) 0 dX8_takesClause_45 rfl ?_
    obtain ⟨S4, hS4, hf⟩ := Option.bind_eq_some_iff.mp hf
    refine m_ast (pc := 46) 32 hA dX8_takesClause_46 ki_10 rfl hS4 ?_
    refine a_aload_n (pc := 47) dX8_takesClause_47 rfl (isRv_r _) ?_
    refine a_sipush (pc := 48) 2098 dX8_takesClause_48 rfl ?_
    refine a_iconst (pc := 51) 3 dX8_takesClause_51 rfl ?_
    obtain ⟨r5, hr5, hf⟩ := Option.bind_eq_some_iff.mp hf
    refine m_call (pc := 52) (.int (r5.1)) [.int 2098, .int 3] [] hA dX8_takesClause_52 ml_X8_184 mv_X8_takesWord rfl rfl (by omega) (mX8_takesWord hA (by omega) hr5) rfl (Nat.le_of_ble_eq_true rfl) hk hn ?_
    refine a_if_eq (pc := 55) 79 dX8_takesClause_55 (by decide) (fun c10 => ?_) (fun c10 => ?_)
    · have hf := (if_pos c10).symm.trans hf
      refine a_sub (sub_d (sub_d sub_n)) ?_
      exact sX8_takesClause_79 hA hd hk hn hf
    · have hf := (if_neg c10).symm.trans hf
      refine a_aload_n (pc := 58) dX8_takesClause_58 rfl (isRv_r _) ?_
      refine a_bipush (pc := 59) 32 dX8_takesClause_59 rfl ?_
      obtain ⟨r6, hr6, hf⟩ := Option.bind_eq_some_iff.mp hf
      refine m_call (pc := 61) (.int (r6.1)) [.int 32] [] hA dX8_takesClause_61 ml_X8_161 mv_X8_takes rfl rfl (by omega) (mX8_takes hA (by omega) hr6) rfl (Nat.le_of_ble_eq_true rfl) hk hn ?_
      refine a_if_eq (pc := 64) 79 dX8_takesClause_64 (by decide) (fun c9 => ?_) (fun c9 => ?_)
      · have hf := (if_pos c9).symm.trans hf
        refine a_sub (sub_d (sub_d sub_n)) ?_
        exact sX8_takesClause_79 hA hd hk hn hf
      · have hf := (if_neg c9).symm.trans hf
        refine a_aload_n (pc := 67) dX8_takesClause_67 rfl (isRv_r _) ?_
        refine a_iload_n (pc := 68) dX8_takesClause_68 rfl ?_
        obtain ⟨r7, hr7, hf⟩ := Option.bind_eq_some_iff.mp hf
        refine m_call (pc := 69) (.int (r7.1)) [.int l1] [] hA dX8_takesClause_69 ml_X8_188 mv_X8_takesE rfl rfl (by omega) (mX8_takesE hA (by omega) hr7) rfl (Nat.le_of_ble_eq_true rfl) hk hn ?_
        refine a_if_eq (pc := 72) 79 dX8_takesClause_72 (by decide) (fun c8 => ?_) (fun c8 => ?_)
        · have hf := (if_pos c8).symm.trans hf
          refine a_sub (sub_d (sub_d sub_n)) ?_
          exact sX8_takesClause_79 hA hd hk hn hf
        · have hf := (if_neg c8).symm.trans hf
          refine a_iconst (pc := 75) 1 dX8_takesClause_75 rfl ?_
          refine a_goto (pc := 76) 80 dX8_takesClause_76 (by decide) ?_
          refine a_sub (sub_d (sub_d sub_n)) ?_
          exact sX8_takesClause_80 hA hd hk hn hf
  · have hf := (if_neg c21_0).symm.trans hf
    by_cases c21_1 : r1.1 = 103
    · have hf := (if_pos c21_1).symm.trans hf
      refine a_lookup (pc := 4) 81 dX8_takesClause_4 (by decide) (by show (4 : Int) + Op.lookupswitch.offset [(98, 36), (103, 77), (109, 92)] 139 _ = _; rw [lv_osw (a := 98) c21_0 rfl, c21_1]; rfl) ?_
      refine a_aload_n (pc := 81) dX8_takesClause_81 rfl (isRv_r _) ?_
      refine m_getA (pc := 82) 32 hA dX8_takesClause_82 fl_X8_41 (Or.inl ki_10) rfl ?_
      refine a_iload_n (pc := 85) dX8_takesClause_85 rfl ?_
      refine a_iconst (pc := 86) 1 dX8_takesClause_86 rfl ?_
      obtain ⟨S11, hS11, hf⟩ := Option.bind_eq_some_iff.mp hf
      refine m_ast (pc := 87) 32 hA dX8_takesClause_87 ki_10 rfl hS11 ?_
      refine a_aload_n (pc := 88) dX8_takesClause_88 rfl (isRv_r _) ?_
      refine a_ldc (pc := 89) 239301 dX8_takesClause_89 kc_X8_191 ?_
      refine a_iconst (pc := 91) 4 dX8_takesClause_91 rfl ?_
      obtain ⟨r12, hr12, hf⟩ := Option.bind_eq_some_iff.mp hf
      refine m_call (pc := 92) (.int (r12.1)) [.int 239301, .int 4] [] hA dX8_takesClause_92 ml_X8_184 mv_X8_takesWord rfl rfl (by omega) (mX8_takesWord hA (by omega) hr12) rfl (Nat.le_of_ble_eq_true rfl) hk hn ?_
      have hf := Option.some.inj hf
      subst hf
      exact a_ireturn (pc := 95) dX8_takesClause_95 hk hn ⟨rfl, rfl⟩
    · have hf := (if_neg c21_1).symm.trans hf
      by_cases c21_2 : r1.1 = 109
      · have hf := (if_pos c21_2).symm.trans hf
        refine a_lookup (pc := 4) 96 dX8_takesClause_4 (by decide) (by show (4 : Int) + Op.lookupswitch.offset [(98, 36), (103, 77), (109, 92)] 139 _ = _; rw [lv_osw (a := 98) c21_0 rfl, lv_osw (a := 103) c21_1 rfl, c21_2]; rfl) ?_
        refine a_aload_n (pc := 96) dX8_takesClause_96 rfl (isRv_r _) ?_
        refine m_getA (pc := 97) 32 hA dX8_takesClause_97 fl_X8_41 (Or.inl ki_10) rfl ?_
        refine a_iload_n (pc := 100) dX8_takesClause_100 rfl ?_
        refine a_iconst (pc := 101) 2 dX8_takesClause_101 rfl ?_
        obtain ⟨S13, hS13, hf⟩ := Option.bind_eq_some_iff.mp hf
        refine m_ast (pc := 102) 32 hA dX8_takesClause_102 ki_10 rfl hS13 ?_
        refine a_aload_n (pc := 103) dX8_takesClause_103 rfl (isRv_r _) ?_
        refine a_ldc (pc := 104) 441972 dX8_takesClause_104 kc_X8_192 ?_
        refine a_iconst (pc := 106) 4 dX8_takesClause_106 rfl ?_
        obtain ⟨r14, hr14, hf⟩ := Option.bind_eq_some_iff.mp hf
        refine m_call (pc := 107) (.int (r14.1)) [.int 441972, .int 4] [] hA dX8_takesClause_107 ml_X8_184 mv_X8_takesWord rfl rfl (by omega) (mX8_takesWord hA (by omega) hr14) rfl (Nat.le_of_ble_eq_true rfl) hk hn ?_
        refine a_if_eq (pc := 110) 129 dX8_takesClause_110 (by decide) (fun c20 => ?_) (fun c20 => ?_)
        · have hf := (if_pos c20).symm.trans hf
          refine a_sub (sub_d (sub_d sub_n)) ?_
          exact sX8_takesClause_129 hA hd hk hn hf
        · have hf := (if_neg c20).symm.trans hf
          refine a_aload_n (pc := 113) dX8_takesClause_113 rfl (isRv_r _) ?_
          refine a_bipush (pc := 114) 32 dX8_takesClause_114 rfl ?_
          obtain ⟨r15, hr15, hf⟩ := Option.bind_eq_some_iff.mp hf
          refine m_call (pc := 116) (.int (r15.1)) [.int 32] [] hA dX8_takesClause_116 ml_X8_161 mv_X8_takes rfl rfl (by omega) (mX8_takes hA (by omega) hr15) rfl (Nat.le_of_ble_eq_true rfl) hk hn ?_
          refine a_if_eq (pc := 119) 129 dX8_takesClause_119 (by decide) (fun c19 => ?_) (fun c19 => ?_)
          · have hf := (if_pos c19).symm.trans hf
            refine a_sub (sub_d (sub_d sub_n)) ?_
            exact sX8_takesClause_129 hA hd hk hn hf
          · have hf := (if_neg c19).symm.trans hf
            refine a_aload_n (pc := 122) dX8_takesClause_122 rfl (isRv_r _) ?_
            obtain ⟨r16, hr16, hf⟩ := Option.bind_eq_some_iff.mp hf
            refine m_call (pc := 123) (.int (r16.1)) [] [] hA dX8_takesClause_123 ml_X8_172 mv_X8_takesNumber rfl rfl (by omega) (mX8_takesNumber hA (by omega) hr16) rfl (Nat.le_of_ble_eq_true rfl) hk hn ?_
            refine a_if_ne (pc := 126) 131 dX8_takesClause_126 (by decide) (fun c18 => ?_) (fun c18 => ?_)
            · have hf := (if_neg c18).symm.trans hf
              refine a_aload_n (pc := 131) dX8_takesClause_131 rfl (isRv_r _) ?_
              refine m_getA (pc := 132) 33 hA dX8_takesClause_132 fl_X8_44 (Or.inl ki_11) rfl ?_
              refine a_iload_n (pc := 135) dX8_takesClause_135 rfl ?_
              refine a_aload_n (pc := 136) dX8_takesClause_136 rfl (isRv_r _) ?_
              refine m_getS (pc := 137) hA dX8_takesClause_137 fl_X8_22 ks_4 ?_
              obtain ⟨S17, hS17, hf⟩ := Option.bind_eq_some_iff.mp hf
              refine m_ast (pc := 140) 33 hA dX8_takesClause_140 ki_11 rfl hS17 ?_
              refine a_iconst (pc := 141) 1 dX8_takesClause_141 rfl ?_
              have hf := Option.some.inj hf
              subst hf
              exact a_ireturn (pc := 142) dX8_takesClause_142 hk hn ⟨rfl, rfl⟩
            · have hf := (if_pos c18).symm.trans hf
              refine a_sub (sub_d (sub_d sub_n)) ?_
              exact sX8_takesClause_129 hA hd hk hn hf
      · have hf := (if_neg c21_2).symm.trans hf
        refine a_lookup (pc := 4) 143 dX8_takesClause_4 (by decide) (by show (4 : Int) + Op.lookupswitch.offset [(98, 36), (103, 77), (109, 92)] 139 _ = _; rw [lv_osw (a := 98) c21_0 rfl, lv_osw (a := 103) c21_1 rfl, lv_osw (a := 109) c21_2 rfl]; rfl) ?_
        refine a_aload_n (pc := 143) dX8_takesClause_143 rfl (isRv_r _) ?_
        refine m_getA (pc := 144) 32 hA dX8_takesClause_144 fl_X8_41 (Or.inl ki_10) rfl ?_
        refine a_iload_n (pc := 147) dX8_takesClause_147 rfl ?_
        refine a_iconst (pc := 148) 3 dX8_takesClause_148 rfl ?_
        obtain ⟨S2, hS2, hf⟩ := Option.bind_eq_some_iff.mp hf
        refine m_ast (pc := 149) 32 hA dX8_takesClause_149 ki_10 rfl hS2 ?_
        refine a_aload_n (pc := 150) dX8_takesClause_150 rfl (isRv_r _) ?_
        refine a_ldc (pc := 151) 20101733 dX8_takesClause_151 kc_X8_193 ?_
        refine a_iconst (pc := 153) 5 dX8_takesClause_153 rfl ?_
        obtain ⟨r3, hr3, hf⟩ := Option.bind_eq_some_iff.mp hf
        refine m_call (pc := 154) (.int (r3.1)) [.int 20101733, .int 5] [] hA dX8_takesClause_154 ml_X8_184 mv_X8_takesWord rfl rfl (by omega) (mX8_takesWord hA (by omega) hr3) rfl (Nat.le_of_ble_eq_true rfl) hk hn ?_
        have hf := Option.some.inj hf
        subst hf
        exact a_ireturn (pc := 157) dX8_takesClause_157 hk hn ⟨rfl, rfl⟩
set_option maxHeartbeats 4000000 in
theorem mX8_takesClause {l : Launch} {g : gE} {d : Nat} {A D : List va_E} (hA : A.length = 26) (hd : 5 ≤ d) {r : Int32 × MS} {S : MS} {l1 : Int32} (hf : X8_takesClause S l1 = some r) : AM l g d yX8_takesClause cX8_takesClause 2 (some .boolean) 0 0 [.ref 26, .int l1] (mh A S D) (Qr (some (.int r.1)) (mh A r.2 D)) := by
  refine AM.of rfl (by exact Nat.le_of_ble_eq_true rfl) (fun v h' q => by obtain ⟨rfl, -⟩ := q; refine ⟨_, rfl, ?_⟩; rcases (zg_of hf).2 with e | e <;> rw [e] <;> rfl) (fun ls e => ?_)
  have e2 : aBeg [.ref 26, .int l1] 2 = [some (.ref 26), some (.int l1)] := rfl
  rw [e2] at e
  subst e
  refine a_sub (sub_k (sub_k (sub_n))) ?_
  exact sX8_takesClause_0 hA hd (Nat.le_refl _) (Nat.le_refl _) ((zg_of hf).1)
-- PencilStrikesModel.goesLaw(I)Z
def X8_goesLaw_68 (S : MS) : Option (Int32 × MS) :=
  some (0, S)
def X8_goesLaw_15 : Nat → MS → Int32 → Int32 → Option (Int32 × MS)
  | 0, _, _, _ => none
  | fn + 1, S, l1, l2 =>
    (X8_takesClause S ((8 * l1) + l2)).bind fun r1 =>
    if r1.1 = 0 then
      some (0, r1.2)
    else
      (mAs r1.2 9 l1 (l2 + 1)).bind fun S2 =>
      if (S2.1 3) = (S2.1 2) then
        some (1, S2)
      else
        if (l2 + 1) = 8 then
          X8_goesLaw_68 S2
        else
          (X8_takes S2 59).bind fun r3 =>
          if r3.1 = 0 then
            X8_goesLaw_68 r3.2
          else
            X8_goesLaw_15 fn r3.2 l1 (l2 + 1)
def X8_goesLaw_0 (S : MS) (l1 : Int32) : Option (Int32 × MS) :=
  X8_goesLaw_15 FU (si (si S 3 0) 16 (100 * l1)) l1 0
def X8_goesLaw (S : MS) (l1 : Int32) : Option (Int32 × MS) := zg (X8_goesLaw_0 S l1)
set_option maxHeartbeats 4000000 in
theorem sX8_goesLaw_68 {l : Launch} {g : gE} {d MC MS' k n : Nat} {A D : List va_E} (hA : A.length = 26) (hd : 6 ≤ d) (hk : k ≤ MC) (hn : n ≤ MS') {r : Int32 × MS} {S : MS} (hf : X8_goesLaw_68 S = some r) : AW l g d RX8 cX8_goesLaw 3 "goesLaw" MC MS' (Qr (some (.int r.1)) (mh A r.2 D)) k n 68 [none, none, none] [] (mh A S D) := by
  unfold X8_goesLaw_68 at hf
  refine a_iconst (pc := 68) 0 dX8_goesLaw_68 rfl ?_
  have hf := Option.some.inj hf
  subst hf
  exact a_ireturn (pc := 69) dX8_goesLaw_69 hk hn ⟨rfl, rfl⟩
set_option maxHeartbeats 4000000 in
theorem sX8_goesLaw_15 {l : Launch} {g : gE} {d MC MS' k n : Nat} {A D : List va_E} (hA : A.length = 26) (hd : 6 ≤ d) (hk : k ≤ MC) (hn : n ≤ MS') {r : Int32 × MS} : ∀ (fn : Nat) (S : MS) (l1 : Int32) (l2 : Int32), X8_goesLaw_15 fn S l1 l2 = some r → AW l g d RX8 cX8_goesLaw 3 "goesLaw" MC MS' (Qr (some (.int r.1)) (mh A r.2 D)) k n 15 [some (.ref 26), some (.int l1), some (.int l2)] [] (mh A S D) := by
  intro fn
  induction fn with
  | zero =>
    intro S l1 l2 hf
    rw [X8_goesLaw_15] at hf
    cases hf
  | succ fn ih =>
    intro S l1 l2 hf
    rw [X8_goesLaw_15] at hf
    refine a_aload_n (pc := 15) dX8_goesLaw_15 rfl (isRv_r _) ?_
    refine a_bipush (pc := 16) 8 dX8_goesLaw_16 rfl ?_
    refine a_iload_n (pc := 18) dX8_goesLaw_18 rfl ?_
    refine a_imul (pc := 19) dX8_goesLaw_19 ?_
    refine a_iload_n (pc := 20) dX8_goesLaw_20 rfl ?_
    refine a_iadd (pc := 21) dX8_goesLaw_21 ?_
    obtain ⟨r1, hr1, hf⟩ := Option.bind_eq_some_iff.mp hf
    refine m_call (pc := 22) (.int (r1.1)) [.int ((8 * l1) + l2)] [] hA dX8_goesLaw_22 ml_X8_194 mv_X8_takesClause rfl rfl (by omega) (mX8_takesClause hA (by omega) hr1) rfl (Nat.le_of_ble_eq_true rfl) hk hn ?_
    refine a_if_ne (pc := 25) 30 dX8_goesLaw_25 (by decide) (fun c7 => ?_) (fun c7 => ?_)
    · have hf := (if_neg c7).symm.trans hf
      refine a_iinc (pc := 30) (ls' := [some (.ref 26), some (.int l1), some (.int (l2 + 1))]) (l2 + 1) dX8_goesLaw_30 rfl rfl (by decide) rfl ?_
      refine a_aload_n (pc := 33) dX8_goesLaw_33 rfl (isRv_r _) ?_
      refine m_getA (pc := 34) 31 hA dX8_goesLaw_34 fl_X8_38 (Or.inl ki_9) rfl ?_
      refine a_iload_n (pc := 37) dX8_goesLaw_37 rfl ?_
      refine a_iload_n (pc := 38) dX8_goesLaw_38 rfl ?_
      obtain ⟨S2, hS2, hf⟩ := Option.bind_eq_some_iff.mp hf
      refine m_ast (pc := 39) 31 hA dX8_goesLaw_39 ki_9 rfl hS2 ?_
      refine a_aload_n (pc := 40) dX8_goesLaw_40 rfl (isRv_r _) ?_
      refine m_getS (pc := 41) hA dX8_goesLaw_41 fl_X8_19 ks_3 ?_
      refine a_aload_n (pc := 44) dX8_goesLaw_44 rfl (isRv_r _) ?_
      refine m_getS (pc := 45) hA dX8_goesLaw_45 fl_X8_16 ks_2 ?_
      refine a_icmp_ne (pc := 48) 53 dX8_goesLaw_48 (by decide) (fun c6 => ?_) (fun c6 => ?_)
      · have hf := (if_neg c6).symm.trans hf
        refine a_iload_n (pc := 53) dX8_goesLaw_53 rfl ?_
        refine a_bipush (pc := 54) 8 dX8_goesLaw_54 rfl ?_
        refine a_icmp_eq (pc := 56) 68 dX8_goesLaw_56 (by decide) (fun c5 => ?_) (fun c5 => ?_)
        · have hf := (if_pos c5).symm.trans hf
          refine a_sub (sub_d (sub_d (sub_d sub_n))) ?_
          exact sX8_goesLaw_68 hA hd hk hn hf
        · have hf := (if_neg c5).symm.trans hf
          refine a_aload_n (pc := 59) dX8_goesLaw_59 rfl (isRv_r _) ?_
          refine a_bipush (pc := 60) 59 dX8_goesLaw_60 rfl ?_
          obtain ⟨r3, hr3, hf⟩ := Option.bind_eq_some_iff.mp hf
          refine m_call (pc := 62) (.int (r3.1)) [.int 59] [] hA dX8_goesLaw_62 ml_X8_161 mv_X8_takes rfl rfl (by omega) (mX8_takes hA (by omega) hr3) rfl (Nat.le_of_ble_eq_true rfl) hk hn ?_
          refine a_if_ne (pc := 65) 15 dX8_goesLaw_65 (by decide) (fun c4 => ?_) (fun c4 => ?_)
          · have hf := (if_neg c4).symm.trans hf
            exact ih r3.2 l1 (l2 + 1) hf
          · have hf := (if_pos c4).symm.trans hf
            refine a_sub (sub_d (sub_d (sub_d sub_n))) ?_
            exact sX8_goesLaw_68 hA hd hk hn hf
      · have hf := (if_pos c6).symm.trans hf
        refine a_iconst (pc := 51) 1 dX8_goesLaw_51 rfl ?_
        have hf := Option.some.inj hf
        subst hf
        exact a_ireturn (pc := 52) dX8_goesLaw_52 hk hn ⟨rfl, rfl⟩
    · have hf := (if_pos c7).symm.trans hf
      refine a_iconst (pc := 28) 0 dX8_goesLaw_28 rfl ?_
      have hf := Option.some.inj hf
      subst hf
      exact a_ireturn (pc := 29) dX8_goesLaw_29 hk hn ⟨rfl, rfl⟩
set_option maxHeartbeats 4000000 in
theorem sX8_goesLaw_0 {l : Launch} {g : gE} {d MC MS' k n : Nat} {A D : List va_E} (hA : A.length = 26) (hd : 6 ≤ d) (hk : k ≤ MC) (hn : n ≤ MS') {r : Int32 × MS} {S : MS} {l1 : Int32} (hf : X8_goesLaw_0 S l1 = some r) : AW l g d RX8 cX8_goesLaw 3 "goesLaw" MC MS' (Qr (some (.int r.1)) (mh A r.2 D)) k n 0 [some (.ref 26), some (.int l1), none] [] (mh A S D) := by
  unfold X8_goesLaw_0 at hf
  refine a_aload_n (pc := 0) dX8_goesLaw_0 rfl (isRv_r _) ?_
  refine a_iconst (pc := 1) 0 dX8_goesLaw_1 rfl ?_
  refine m_putS (pc := 2) hA dX8_goesLaw_2 fl_X8_19 ks_3 ?_
  refine a_aload_n (pc := 5) dX8_goesLaw_5 rfl (isRv_r _) ?_
  refine a_bipush (pc := 6) 100 dX8_goesLaw_6 rfl ?_
  refine a_iload_n (pc := 8) dX8_goesLaw_8 rfl ?_
  refine a_imul (pc := 9) dX8_goesLaw_9 ?_
  refine m_putS (pc := 10) hA dX8_goesLaw_10 fl_X8_59 ks_16 ?_
  refine a_iconst (pc := 13) 0 dX8_goesLaw_13 rfl ?_
  refine a_istore_n (pc := 14) (ls' := [some (.ref 26), some (.int l1), some (.int 0)]) dX8_goesLaw_14 (by decide) rfl ?_
  exact sX8_goesLaw_15 hA hd hk hn FU (si (si S 3 0) 16 (100 * l1)) l1 0 hf
set_option maxHeartbeats 4000000 in
theorem mX8_goesLaw {l : Launch} {g : gE} {d : Nat} {A D : List va_E} (hA : A.length = 26) (hd : 6 ≤ d) {r : Int32 × MS} {S : MS} {l1 : Int32} (hf : X8_goesLaw S l1 = some r) : AM l g d yX8_goesLaw cX8_goesLaw 3 (some .boolean) 0 0 [.ref 26, .int l1] (mh A S D) (Qr (some (.int r.1)) (mh A r.2 D)) := by
  refine AM.of rfl (by exact Nat.le_of_ble_eq_true rfl) (fun v h' q => by obtain ⟨rfl, -⟩ := q; refine ⟨_, rfl, ?_⟩; rcases (zg_of hf).2 with e | e <;> rw [e] <;> rfl) (fun ls e => ?_)
  have e2 : aBeg [.ref 26, .int l1] 3 = [some (.ref 26), some (.int l1), none] := rfl
  rw [e2] at e
  subst e
  refine a_sub (sub_k (sub_k (sub_k (sub_n)))) ?_
  exact sX8_goesLaw_0 hA hd (Nat.le_refl _) (Nat.le_refl _) ((zg_of hf).1)
-- PencilStrikesModel.isBare(I)Z
def X8_isBare_53 (S : MS) (s0 : Int32) : Option (Int32 × MS) :=
  some (s0, S)
def X8_isBare_48 (S : MS) : Option (Int32 × MS) :=
  X8_isBare_53 S 1
def X8_isBare_0 (S : MS) (l1 : Int32) : Option (Int32 × MS) :=
  if l1 = 97 then
    X8_isBare_48 S
  else
    if l1 = 98 then
      X8_isBare_48 S
    else
      if l1 = 109 then
        X8_isBare_48 S
      else
        if l1 = 121 then
          X8_isBare_48 S
        else
          if l1 = 110 then
            X8_isBare_48 S
          else
            if l1 = 38 then
              X8_isBare_48 S
            else
              if l1 = 44 then
                X8_isBare_48 S
              else
                if l1 = 59 then
                  X8_isBare_48 S
                else
                  X8_isBare_53 S 0
def X8_isBare (S : MS) (l1 : Int32) : Option (Int32 × MS) := zg (X8_isBare_0 S l1)
set_option maxHeartbeats 4000000 in
theorem sX8_isBare_53 {l : Launch} {g : gE} {d MC MS' k n : Nat} {A D : List va_E} (hA : A.length = 26) (hd : 0 ≤ d) (hk : k ≤ MC) (hn : n ≤ MS') {r : Int32 × MS} {S : MS} {s0 : Int32} (hf : X8_isBare_53 S s0 = some r) : AW l g d RX8 cX8_isBare 2 "isBare" MC MS' (Qr (some (.int r.1)) (mh A r.2 D)) k n 53 [none, none] [.int s0] (mh A S D) := by
  unfold X8_isBare_53 at hf
  have hf := Option.some.inj hf
  subst hf
  exact a_ireturn (pc := 53) dX8_isBare_53 hk hn ⟨rfl, rfl⟩
set_option maxHeartbeats 4000000 in
theorem sX8_isBare_48 {l : Launch} {g : gE} {d MC MS' k n : Nat} {A D : List va_E} (hA : A.length = 26) (hd : 0 ≤ d) (hk : k ≤ MC) (hn : n ≤ MS') {r : Int32 × MS} {S : MS} (hf : X8_isBare_48 S = some r) : AW l g d RX8 cX8_isBare 2 "isBare" MC MS' (Qr (some (.int r.1)) (mh A r.2 D)) k n 48 [none, none] [] (mh A S D) := by
  unfold X8_isBare_48 at hf
  refine a_iconst (pc := 48) 1 dX8_isBare_48 rfl ?_
  refine a_goto (pc := 49) 53 dX8_isBare_49 (by decide) ?_
  exact sX8_isBare_53 hA hd hk hn hf
set_option maxHeartbeats 4000000 in
theorem sX8_isBare_0 {l : Launch} {g : gE} {d MC MS' k n : Nat} {A D : List va_E} (hA : A.length = 26) (hd : 0 ≤ d) (hk : k ≤ MC) (hn : n ≤ MS') {r : Int32 × MS} {S : MS} {l1 : Int32} (hf : X8_isBare_0 S l1 = some r) : AW l g d RX8 cX8_isBare 2 "isBare" MC MS' (Qr (some (.int r.1)) (mh A r.2 D)) k n 0 [none, some (.int l1)] [] (mh A S D) := by
  unfold X8_isBare_0 at hf
  refine a_iload_n (pc := 0) dX8_isBare_0 rfl ?_
  refine a_bipush (pc := 1) 97 dX8_isBare_1 rfl ?_
  refine a_icmp_eq (pc := 3) 48 dX8_isBare_3 (by decide) (fun c8 => ?_) (fun c8 => ?_)
  · have hf := (if_pos c8).symm.trans hf
    refine a_sub (sub_k (sub_d sub_n)) ?_
    exact sX8_isBare_48 hA hd hk hn hf
  · have hf := (if_neg c8).symm.trans hf
    refine a_iload_n (pc := 6) dX8_isBare_6 rfl ?_
    refine a_bipush (pc := 7) 98 dX8_isBare_7 rfl ?_
    refine a_icmp_eq (pc := 9) 48 dX8_isBare_9 (by decide) (fun c7 => ?_) (fun c7 => ?_)
    · have hf := (if_pos c7).symm.trans hf
      refine a_sub (sub_k (sub_d sub_n)) ?_
      exact sX8_isBare_48 hA hd hk hn hf
    · have hf := (if_neg c7).symm.trans hf
      refine a_iload_n (pc := 12) dX8_isBare_12 rfl ?_
      refine a_bipush (pc := 13) 109 dX8_isBare_13 rfl ?_
      refine a_icmp_eq (pc := 15) 48 dX8_isBare_15 (by decide) (fun c6 => ?_) (fun c6 => ?_)
      · have hf := (if_pos c6).symm.trans hf
        refine a_sub (sub_k (sub_d sub_n)) ?_
        exact sX8_isBare_48 hA hd hk hn hf
      · have hf := (if_neg c6).symm.trans hf
        refine a_iload_n (pc := 18) dX8_isBare_18 rfl ?_
        refine a_bipush (pc := 19) 121 dX8_isBare_19 rfl ?_
        refine a_icmp_eq (pc := 21) 48 dX8_isBare_21 (by decide) (fun c5 => ?_) (fun c5 => ?_)
        · have hf := (if_pos c5).symm.trans hf
          refine a_sub (sub_k (sub_d sub_n)) ?_
          exact sX8_isBare_48 hA hd hk hn hf
        · have hf := (if_neg c5).symm.trans hf
          refine a_iload_n (pc := 24) dX8_isBare_24 rfl ?_
          refine a_bipush (pc := 25) 110 dX8_isBare_25 rfl ?_
          refine a_icmp_eq (pc := 27) 48 dX8_isBare_27 (by decide) (fun c4 => ?_) (fun c4 => ?_)
          · have hf := (if_pos c4).symm.trans hf
            refine a_sub (sub_k (sub_d sub_n)) ?_
            exact sX8_isBare_48 hA hd hk hn hf
          · have hf := (if_neg c4).symm.trans hf
            refine a_iload_n (pc := 30) dX8_isBare_30 rfl ?_
            refine a_bipush (pc := 31) 38 dX8_isBare_31 rfl ?_
            refine a_icmp_eq (pc := 33) 48 dX8_isBare_33 (by decide) (fun c3 => ?_) (fun c3 => ?_)
            · have hf := (if_pos c3).symm.trans hf
              refine a_sub (sub_k (sub_d sub_n)) ?_
              exact sX8_isBare_48 hA hd hk hn hf
            · have hf := (if_neg c3).symm.trans hf
              refine a_iload_n (pc := 36) dX8_isBare_36 rfl ?_
              refine a_bipush (pc := 37) 44 dX8_isBare_37 rfl ?_
              refine a_icmp_eq (pc := 39) 48 dX8_isBare_39 (by decide) (fun c2 => ?_) (fun c2 => ?_)
              · have hf := (if_pos c2).symm.trans hf
                refine a_sub (sub_k (sub_d sub_n)) ?_
                exact sX8_isBare_48 hA hd hk hn hf
              · have hf := (if_neg c2).symm.trans hf
                refine a_iload_n (pc := 42) dX8_isBare_42 rfl ?_
                refine a_bipush (pc := 43) 59 dX8_isBare_43 rfl ?_
                refine a_icmp_ne (pc := 45) 52 dX8_isBare_45 (by decide) (fun c1 => ?_) (fun c1 => ?_)
                · have hf := (if_neg c1).symm.trans hf
                  refine a_iconst (pc := 52) 0 dX8_isBare_52 rfl ?_
                  refine a_sub (sub_k (sub_d sub_n)) ?_
                  exact sX8_isBare_53 hA hd hk hn hf
                · have hf := (if_pos c1).symm.trans hf
                  refine a_sub (sub_k (sub_d sub_n)) ?_
                  exact sX8_isBare_48 hA hd hk hn hf
set_option maxHeartbeats 4000000 in
theorem mX8_isBare {l : Launch} {g : gE} {d : Nat} {A D : List va_E} (hA : A.length = 26) (hd : 0 ≤ d) {r : Int32 × MS} {S : MS} {l1 : Int32} (hf : X8_isBare S l1 = some r) : AM l g d yX8_isBare cX8_isBare 2 (some .boolean) 0 0 [.ref 26, .int l1] (mh A S D) (Qr (some (.int r.1)) (mh A r.2 D)) := by
  refine AM.of rfl (by exact Nat.le_of_ble_eq_true rfl) (fun v h' q => by obtain ⟨rfl, -⟩ := q; refine ⟨_, rfl, ?_⟩; rcases (zg_of hf).2 with e | e <;> rw [e] <;> rfl) (fun ls e => ?_)
  have e2 : aBeg [.ref 26, .int l1] 2 = [some (.ref 26), some (.int l1)] := rfl
  rw [e2] at e
  subst e
  refine a_sub (sub_d (sub_k (sub_n))) ?_
  exact sX8_isBare_0 hA hd (Nat.le_refl _) (Nat.le_refl _) ((zg_of hf).1)
-- PencilStrikesModel.isFigured(I)Z
def X8_isFigured_29 (S : MS) (s0 : Int32) : Option (Int32 × MS) :=
  some (s0, S)
def X8_isFigured_24 (S : MS) : Option (Int32 × MS) :=
  X8_isFigured_29 S 1
def X8_isFigured_0 (S : MS) (l1 : Int32) : Option (Int32 × MS) :=
  if l1 = 119 then
    X8_isFigured_24 S
  else
    if l1 = 105 then
      X8_isFigured_24 S
    else
      if l1 = 102 then
        X8_isFigured_24 S
      else
        if l1 = 112 then
          X8_isFigured_24 S
        else
          X8_isFigured_29 S 0
def X8_isFigured (S : MS) (l1 : Int32) : Option (Int32 × MS) := zg (X8_isFigured_0 S l1)
set_option maxHeartbeats 4000000 in
theorem sX8_isFigured_29 {l : Launch} {g : gE} {d MC MS' k n : Nat} {A D : List va_E} (hA : A.length = 26) (hd : 0 ≤ d) (hk : k ≤ MC) (hn : n ≤ MS') {r : Int32 × MS} {S : MS} {s0 : Int32} (hf : X8_isFigured_29 S s0 = some r) : AW l g d RX8 cX8_isFigured 2 "isFigured" MC MS' (Qr (some (.int r.1)) (mh A r.2 D)) k n 29 [none, none] [.int s0] (mh A S D) := by
  unfold X8_isFigured_29 at hf
  have hf := Option.some.inj hf
  subst hf
  exact a_ireturn (pc := 29) dX8_isFigured_29 hk hn ⟨rfl, rfl⟩
set_option maxHeartbeats 4000000 in
theorem sX8_isFigured_24 {l : Launch} {g : gE} {d MC MS' k n : Nat} {A D : List va_E} (hA : A.length = 26) (hd : 0 ≤ d) (hk : k ≤ MC) (hn : n ≤ MS') {r : Int32 × MS} {S : MS} (hf : X8_isFigured_24 S = some r) : AW l g d RX8 cX8_isFigured 2 "isFigured" MC MS' (Qr (some (.int r.1)) (mh A r.2 D)) k n 24 [none, none] [] (mh A S D) := by
  unfold X8_isFigured_24 at hf
  refine a_iconst (pc := 24) 1 dX8_isFigured_24 rfl ?_
  refine a_goto (pc := 25) 29 dX8_isFigured_25 (by decide) ?_
  exact sX8_isFigured_29 hA hd hk hn hf
set_option maxHeartbeats 4000000 in
theorem sX8_isFigured_0 {l : Launch} {g : gE} {d MC MS' k n : Nat} {A D : List va_E} (hA : A.length = 26) (hd : 0 ≤ d) (hk : k ≤ MC) (hn : n ≤ MS') {r : Int32 × MS} {S : MS} {l1 : Int32} (hf : X8_isFigured_0 S l1 = some r) : AW l g d RX8 cX8_isFigured 2 "isFigured" MC MS' (Qr (some (.int r.1)) (mh A r.2 D)) k n 0 [none, some (.int l1)] [] (mh A S D) := by
  unfold X8_isFigured_0 at hf
  refine a_iload_n (pc := 0) dX8_isFigured_0 rfl ?_
  refine a_bipush (pc := 1) 119 dX8_isFigured_1 rfl ?_
  refine a_icmp_eq (pc := 3) 24 dX8_isFigured_3 (by decide) (fun c4 => ?_) (fun c4 => ?_)
  · have hf := (if_pos c4).symm.trans hf
    refine a_sub (sub_k (sub_d sub_n)) ?_
    exact sX8_isFigured_24 hA hd hk hn hf
  · have hf := (if_neg c4).symm.trans hf
    refine a_iload_n (pc := 6) dX8_isFigured_6 rfl ?_
    refine a_bipush (pc := 7) 105 dX8_isFigured_7 rfl ?_
    refine a_icmp_eq (pc := 9) 24 dX8_isFigured_9 (by decide) (fun c3 => ?_) (fun c3 => ?_)
    · have hf := (if_pos c3).symm.trans hf
      refine a_sub (sub_k (sub_d sub_n)) ?_
      exact sX8_isFigured_24 hA hd hk hn hf
    · have hf := (if_neg c3).symm.trans hf
      refine a_iload_n (pc := 12) dX8_isFigured_12 rfl ?_
      refine a_bipush (pc := 13) 102 dX8_isFigured_13 rfl ?_
      refine a_icmp_eq (pc := 15) 24 dX8_isFigured_15 (by decide) (fun c2 => ?_) (fun c2 => ?_)
      · have hf := (if_pos c2).symm.trans hf
        refine a_sub (sub_k (sub_d sub_n)) ?_
        exact sX8_isFigured_24 hA hd hk hn hf
      · have hf := (if_neg c2).symm.trans hf
        refine a_iload_n (pc := 18) dX8_isFigured_18 rfl ?_
        refine a_bipush (pc := 19) 112 dX8_isFigured_19 rfl ?_
        refine a_icmp_ne (pc := 21) 28 dX8_isFigured_21 (by decide) (fun c1 => ?_) (fun c1 => ?_)
        · have hf := (if_neg c1).symm.trans hf
          refine a_iconst (pc := 28) 0 dX8_isFigured_28 rfl ?_
          refine a_sub (sub_k (sub_d sub_n)) ?_
          exact sX8_isFigured_29 hA hd hk hn hf
        · have hf := (if_pos c1).symm.trans hf
          refine a_sub (sub_k (sub_d sub_n)) ?_
          exact sX8_isFigured_24 hA hd hk hn hf
set_option maxHeartbeats 4000000 in
theorem mX8_isFigured {l : Launch} {g : gE} {d : Nat} {A D : List va_E} (hA : A.length = 26) (hd : 0 ≤ d) {r : Int32 × MS} {S : MS} {l1 : Int32} (hf : X8_isFigured S l1 = some r) : AM l g d yX8_isFigured cX8_isFigured 2 (some .boolean) 0 0 [.ref 26, .int l1] (mh A S D) (Qr (some (.int r.1)) (mh A r.2 D)) := by
  refine AM.of rfl (by exact Nat.le_of_ble_eq_true rfl) (fun v h' q => by obtain ⟨rfl, -⟩ := q; refine ⟨_, rfl, ?_⟩; rcases (zg_of hf).2 with e | e <;> rw [e] <;> rfl) (fun ls e => ?_)
  have e2 : aBeg [.ref 26, .int l1] 2 = [some (.ref 26), some (.int l1)] := rfl
  rw [e2] at e
  subst e
  refine a_sub (sub_d (sub_k (sub_n))) ?_
  exact sX8_isFigured_0 hA hd (Nat.le_refl _) (Nat.le_refl _) ((zg_of hf).1)
-- PencilStrikesModel.goesWords(I)Z
def X8_goesWords_44 (S : MS) : Option (Int32 × MS) :=
  some (0, S)
def X8_goesWords_135 (rec12 : MS → Int32 → Option (Int32 × MS)) (S : MS) (s1 : Int32) (s2 : Int32) (l1 : Int32) : Option (Int32 × MS) :=
  (mA (si S 3 (s1 + s2)) 8 l1).bind fun x1 =>
  (mAs (si S 3 (s1 + s2)) 8 l1 (x1 + 1)).bind fun S2 =>
  if (S2.1 3) < (S2.1 2) then
    rec12 S2 l1
  else
    some (1, S2)
def X8_goesWords_116 (rec12 : MS → Int32 → Option (Int32 × MS)) (S : MS) (s1 : Int32) (s2 : Int32) (l1 : Int32) (l2 : Int32) : Option (Int32 × MS) :=
  (mAs S 7 s1 s2).bind fun S1 =>
  (X8_isFigured S1 l2).bind fun r2 =>
  if r2.1 = 0 then
    X8_goesWords_135 rec12 r2.2 (S1.1 3) 0 l1
  else
    X8_goesWords_135 rec12 r2.2 (S1.1 3) 1 l1
def X8_goesWords_73 (rec12 : MS → Int32 → Option (Int32 × MS)) (S : MS) (l1 : Int32) (l2 : Int32) : Option (Int32 × MS) :=
  (mA S 8 l1).bind fun x1 =>
  (mAs S 6 ((12 * l1) + x1) l2).bind fun S2 =>
  (X8_isFigured S2 l2).bind fun r3 =>
  if r3.1 = 0 then
    X8_goesWords_116 rec12 r3.2 ((12 * l1) + x1) 0 l1 l2
  else
    (X8_next r3.2).bind fun r4 =>
    X8_goesWords_116 rec12 r4.2 ((12 * l1) + x1) (r4.1 - 48) l1 l2
def X8_goesWords_46 (rec12 : MS → Int32 → Option (Int32 × MS)) (S : MS) (l1 : Int32) (l2 : Int32) : Option (Int32 × MS) :=
  (X8_isFigured (si S 3 ((S.1 3) + 1)) l2).bind fun r1 =>
  if r1.1 = 0 then
    X8_goesWords_73 rec12 r1.2 l1 l2
  else
    (X8_isDigit r1.2).bind fun r2 =>
    if r2.1 = 0 then
      some (0, r2.2)
    else
      X8_goesWords_73 rec12 r2.2 l1 l2
def X8_goesWords_12 : Nat → MS → Int32 → Option (Int32 × MS)
  | 0, _, _ => none
  | fn + 1, S, l1 =>
    (X8_next S).bind fun r1 =>
    (mA r1.2 8 l1).bind fun x2 =>
    if x2 = 12 then
      X8_goesWords_44 r1.2
    else
      (X8_isBare r1.2 r1.1).bind fun r3 =>
      if r3.1 = 0 then
        (X8_isFigured r3.2 r1.1).bind fun r4 =>
        if r4.1 = 0 then
          X8_goesWords_44 r4.2
        else
          X8_goesWords_46 (X8_goesWords_12 fn) r4.2 l1 r1.1
      else
        X8_goesWords_46 (X8_goesWords_12 fn) r3.2 l1 r1.1
def X8_goesWords_0 (S : MS) (l1 : Int32) : Option (Int32 × MS) :=
  (mAs (si S 3 0) 8 l1 0).bind fun S1 =>
  X8_goesWords_12 FU S1 l1
def X8_goesWords (S : MS) (l1 : Int32) : Option (Int32 × MS) := zg (X8_goesWords_0 S l1)
set_option maxHeartbeats 4000000 in
theorem sX8_goesWords_44 {l : Launch} {g : gE} {d MC MS' k n : Nat} {A D : List va_E} (hA : A.length = 26) (hd : 2 ≤ d) (hk : k ≤ MC) (hn : n ≤ MS') {r : Int32 × MS} {S : MS} (hf : X8_goesWords_44 S = some r) : AW l g d RX8 cX8_goesWords 4 "goesWords" MC MS' (Qr (some (.int r.1)) (mh A r.2 D)) k n 44 [none, none, none, none] [] (mh A S D) := by
  unfold X8_goesWords_44 at hf
  refine a_iconst (pc := 44) 0 dX8_goesWords_44 rfl ?_
  have hf := Option.some.inj hf
  subst hf
  exact a_ireturn (pc := 45) dX8_goesWords_45 hk hn ⟨rfl, rfl⟩
set_option maxHeartbeats 4000000 in
theorem sX8_goesWords_135 {l : Launch} {g : gE} {d MC MS' k n : Nat} {A D : List va_E} (hA : A.length = 26) (hd : 2 ≤ d) (hk : k ≤ MC) (hn : n ≤ MS') {r : Int32 × MS} {rec12 : MS → Int32 → Option (Int32 × MS)} (hlp12 : ∀ (S : MS) (l1 : Int32), rec12 S l1 = some r → AW l g d RX8 cX8_goesWords 4 "goesWords" MC MS' (Qr (some (.int r.1)) (mh A r.2 D)) k n 12 [some (.ref 26), some (.int l1), none, none] [] (mh A S D)) {S : MS} {s1 : Int32} {s2 : Int32} {l1 : Int32} (hf : X8_goesWords_135 rec12 S s1 s2 l1 = some r) : AW l g d RX8 cX8_goesWords 4 "goesWords" MC MS' (Qr (some (.int r.1)) (mh A r.2 D)) k n 135 [some (.ref 26), some (.int l1), none, none] [.int s2, .int s1, .ref 26] (mh A S D) := by
  unfold X8_goesWords_135 at hf
  refine a_iadd (pc := 135) dX8_goesWords_135 ?_
  refine m_putS (pc := 136) hA dX8_goesWords_136 fl_X8_19 ks_3 ?_
  refine a_aload_n (pc := 139) dX8_goesWords_139 rfl (isRv_r _) ?_
  refine m_getA (pc := 140) 30 hA dX8_goesWords_140 fl_X8_35 (Or.inl ki_8) rfl ?_
  refine a_iload_n (pc := 143) dX8_goesWords_143 rfl ?_
  refine a_dup2 (pc := 144) dX8_goesWords_144 rfl rfl ?_
  obtain ⟨x1, hx1, hf⟩ := Option.bind_eq_some_iff.mp hf
  refine m_ald (pc := 145) 30 hA dX8_goesWords_145 ki_8 rfl hx1 ?_
  refine a_iconst (pc := 146) 1 dX8_goesWords_146 rfl ?_
  refine a_iadd (pc := 147) dX8_goesWords_147 ?_
  obtain ⟨S2, hS2, hf⟩ := Option.bind_eq_some_iff.mp hf
  refine m_ast (pc := 148) 30 hA dX8_goesWords_148 ki_8 rfl hS2 ?_
  refine a_aload_n (pc := 149) dX8_goesWords_149 rfl (isRv_r _) ?_
  refine m_getS (pc := 150) hA dX8_goesWords_150 fl_X8_19 ks_3 ?_
  refine a_aload_n (pc := 153) dX8_goesWords_153 rfl (isRv_r _) ?_
  refine m_getS (pc := 154) hA dX8_goesWords_154 fl_X8_16 ks_2 ?_
  refine a_icmp_lt (pc := 157) 12 dX8_goesWords_157 (by decide) (fun c3 => ?_) (fun c3 => ?_)
  · have hf := (if_pos c3).symm.trans hf
    exact hlp12 S2 l1 hf
  · have hf := (if_neg c3).symm.trans hf
    refine a_iconst (pc := 160) 1 dX8_goesWords_160 rfl ?_
    have hf := Option.some.inj hf
    subst hf
    exact a_ireturn (pc := 161) dX8_goesWords_161 hk hn ⟨rfl, rfl⟩
set_option maxHeartbeats 4000000 in
theorem sX8_goesWords_116 {l : Launch} {g : gE} {d MC MS' k n : Nat} {A D : List va_E} (hA : A.length = 26) (hd : 2 ≤ d) (hk : k ≤ MC) (hn : n ≤ MS') {r : Int32 × MS} {rec12 : MS → Int32 → Option (Int32 × MS)} (hlp12 : ∀ (S : MS) (l1 : Int32), rec12 S l1 = some r → AW l g d RX8 cX8_goesWords 4 "goesWords" MC MS' (Qr (some (.int r.1)) (mh A r.2 D)) k n 12 [some (.ref 26), some (.int l1), none, none] [] (mh A S D)) {S : MS} {s1 : Int32} {s2 : Int32} {l1 : Int32} {l2 : Int32} (hf : X8_goesWords_116 rec12 S s1 s2 l1 l2 = some r) : AW l g d RX8 cX8_goesWords 4 "goesWords" MC MS' (Qr (some (.int r.1)) (mh A r.2 D)) k n 116 [some (.ref 26), some (.int l1), some (.int l2), none] [.int s2, .int s1, .ref 29] (mh A S D) := by
  unfold X8_goesWords_116 at hf
  obtain ⟨S1, hS1, hf⟩ := Option.bind_eq_some_iff.mp hf
  refine m_ast (pc := 116) 29 hA dX8_goesWords_116 ki_7 rfl hS1 ?_
  refine a_aload_n (pc := 117) dX8_goesWords_117 rfl (isRv_r _) ?_
  refine a_dup (pc := 118) dX8_goesWords_118 rfl ?_
  refine m_getS (pc := 119) hA dX8_goesWords_119 fl_X8_19 ks_3 ?_
  refine a_aload_n (pc := 122) dX8_goesWords_122 rfl (isRv_r _) ?_
  refine a_iload_n (pc := 123) dX8_goesWords_123 rfl ?_
  obtain ⟨r2, hr2, hf⟩ := Option.bind_eq_some_iff.mp hf
  refine m_call (pc := 124) (.int (r2.1)) [.int l2] [.int (S1.1 3), .ref 26] hA dX8_goesWords_124 ml_X8_154 mv_X8_isFigured rfl rfl (by omega) (mX8_isFigured hA (by omega) hr2) rfl (Nat.le_of_ble_eq_true rfl) hk hn ?_
  refine a_if_eq (pc := 127) 134 dX8_goesWords_127 (by decide) (fun c3 => ?_) (fun c3 => ?_)
  · have hf := (if_pos c3).symm.trans hf
    refine a_iconst (pc := 134) 0 dX8_goesWords_134 rfl ?_
    refine a_sub (sub_k (sub_k (sub_d (sub_k sub_n)))) ?_
    exact sX8_goesWords_135 hA hd hk hn hlp12 hf
  · have hf := (if_neg c3).symm.trans hf
    refine a_iconst (pc := 130) 1 dX8_goesWords_130 rfl ?_
    refine a_goto (pc := 131) 135 dX8_goesWords_131 (by decide) ?_
    refine a_sub (sub_k (sub_k (sub_d (sub_k sub_n)))) ?_
    exact sX8_goesWords_135 hA hd hk hn hlp12 hf
set_option maxHeartbeats 4000000 in
theorem sX8_goesWords_73 {l : Launch} {g : gE} {d MC MS' k n : Nat} {A D : List va_E} (hA : A.length = 26) (hd : 2 ≤ d) (hk : k ≤ MC) (hn : n ≤ MS') {r : Int32 × MS} {rec12 : MS → Int32 → Option (Int32 × MS)} (hlp12 : ∀ (S : MS) (l1 : Int32), rec12 S l1 = some r → AW l g d RX8 cX8_goesWords 4 "goesWords" MC MS' (Qr (some (.int r.1)) (mh A r.2 D)) k n 12 [some (.ref 26), some (.int l1), none, none] [] (mh A S D)) {S : MS} {l1 : Int32} {l2 : Int32} (hf : X8_goesWords_73 rec12 S l1 l2 = some r) : AW l g d RX8 cX8_goesWords 4 "goesWords" MC MS' (Qr (some (.int r.1)) (mh A r.2 D)) k n 73 [some (.ref 26), some (.int l1), some (.int l2), none] [] (mh A S D) := by
  unfold X8_goesWords_73 at hf
  refine a_bipush (pc := 73) 12 dX8_goesWords_73 rfl ?_
  refine a_iload_n (pc := 75) dX8_goesWords_75 rfl ?_
  refine a_imul (pc := 76) dX8_goesWords_76 ?_
  refine a_aload_n (pc := 77) dX8_goesWords_77 rfl (isRv_r _) ?_
  refine m_getA (pc := 78) 30 hA dX8_goesWords_78 fl_X8_35 (Or.inl ki_8) rfl ?_
  refine a_iload_n (pc := 81) dX8_goesWords_81 rfl ?_
  obtain ⟨x1, hx1, hf⟩ := Option.bind_eq_some_iff.mp hf
  refine m_ald (pc := 82) 30 hA dX8_goesWords_82 ki_8 rfl hx1 ?_
  refine a_iadd (pc := 83) dX8_goesWords_83 ?_
  refine a_istore_n (pc := 84) (ls' := [some (.ref 26), some (.int l1), some (.int l2), some (.int ((12 * l1) + x1))]) dX8_goesWords_84 (by decide) rfl ?_
  refine a_aload_n (pc := 85) dX8_goesWords_85 rfl (isRv_r _) ?_
  refine m_getA (pc := 86) 28 hA dX8_goesWords_86 fl_X8_29 (Or.inl ki_6) rfl ?_
  refine a_iload_n (pc := 89) dX8_goesWords_89 rfl ?_
  refine a_iload_n (pc := 90) dX8_goesWords_90 rfl ?_
  obtain ⟨S2, hS2, hf⟩ := Option.bind_eq_some_iff.mp hf
  refine m_ast (pc := 91) 28 hA dX8_goesWords_91 ki_6 rfl hS2 ?_
  refine a_aload_n (pc := 92) dX8_goesWords_92 rfl (isRv_r _) ?_
  refine m_getA (pc := 93) 29 hA dX8_goesWords_93 fl_X8_32 (Or.inl ki_7) rfl ?_
  refine a_iload_n (pc := 96) dX8_goesWords_96 rfl ?_
  refine a_aload_n (pc := 97) dX8_goesWords_97 rfl (isRv_r _) ?_
  refine a_iload_n (pc := 98) dX8_goesWords_98 rfl ?_
  obtain ⟨r3, hr3, hf⟩ := Option.bind_eq_some_iff.mp hf
  refine m_call (pc := 99) (.int (r3.1)) [.int l2] [.int ((12 * l1) + x1), .ref 29] hA dX8_goesWords_99 ml_X8_154 mv_X8_isFigured rfl rfl (by omega) (mX8_isFigured hA (by omega) hr3) rfl (Nat.le_of_ble_eq_true rfl) hk hn ?_
  refine a_if_eq (pc := 102) 115 dX8_goesWords_102 (by decide) (fun c5 => ?_) (fun c5 => ?_)
  · have hf := (if_pos c5).symm.trans hf
    refine a_iconst (pc := 115) 0 dX8_goesWords_115 rfl ?_
    refine a_sub (sub_k (sub_k (sub_k (sub_d sub_n)))) ?_
    exact sX8_goesWords_116 hA hd hk hn hlp12 hf
  · have hf := (if_neg c5).symm.trans hf
    refine a_aload_n (pc := 105) dX8_goesWords_105 rfl (isRv_r _) ?_
    obtain ⟨r4, hr4, hf⟩ := Option.bind_eq_some_iff.mp hf
    refine m_call (pc := 106) (.int (r4.1)) [] [.int ((12 * l1) + x1), .ref 29] hA dX8_goesWords_106 ml_X8_146 mv_X8_next rfl rfl (by omega) (mX8_next hA (by omega) hr4) rfl (Nat.le_of_ble_eq_true rfl) hk hn ?_
    refine a_bipush (pc := 109) 48 dX8_goesWords_109 rfl ?_
    refine a_isub (pc := 111) dX8_goesWords_111 ?_
    refine a_goto (pc := 112) 116 dX8_goesWords_112 (by decide) ?_
    refine a_sub (sub_k (sub_k (sub_k (sub_d sub_n)))) ?_
    exact sX8_goesWords_116 hA hd hk hn hlp12 hf
set_option maxHeartbeats 4000000 in
theorem sX8_goesWords_46 {l : Launch} {g : gE} {d MC MS' k n : Nat} {A D : List va_E} (hA : A.length = 26) (hd : 2 ≤ d) (hk : k ≤ MC) (hn : n ≤ MS') {r : Int32 × MS} {rec12 : MS → Int32 → Option (Int32 × MS)} (hlp12 : ∀ (S : MS) (l1 : Int32), rec12 S l1 = some r → AW l g d RX8 cX8_goesWords 4 "goesWords" MC MS' (Qr (some (.int r.1)) (mh A r.2 D)) k n 12 [some (.ref 26), some (.int l1), none, none] [] (mh A S D)) {S : MS} {l1 : Int32} {l2 : Int32} (hf : X8_goesWords_46 rec12 S l1 l2 = some r) : AW l g d RX8 cX8_goesWords 4 "goesWords" MC MS' (Qr (some (.int r.1)) (mh A r.2 D)) k n 46 [some (.ref 26), some (.int l1), some (.int l2), none] [] (mh A S D) := by
  unfold X8_goesWords_46 at hf
  refine a_aload_n (pc := 46) dX8_goesWords_46 rfl (isRv_r _) ?_
  refine a_dup (pc := 47) dX8_goesWords_47 rfl ?_
  refine m_getS (pc := 48) hA dX8_goesWords_48 fl_X8_19 ks_3 ?_
  refine a_iconst (pc := 51) 1 dX8_goesWords_51 rfl ?_
  refine a_iadd (pc := 52) dX8_goesWords_52 ?_
  refine m_putS (pc := 53) hA dX8_goesWords_53 fl_X8_19 ks_3 ?_
  refine a_aload_n (pc := 56) dX8_goesWords_56 rfl (isRv_r _) ?_
  refine a_iload_n (pc := 57) dX8_goesWords_57 rfl ?_
  obtain ⟨r1, hr1, hf⟩ := Option.bind_eq_some_iff.mp hf
  refine m_call (pc := 58) (.int (r1.1)) [.int l2] [] hA dX8_goesWords_58 ml_X8_154 mv_X8_isFigured rfl rfl (by omega) (mX8_isFigured hA (by omega) hr1) rfl (Nat.le_of_ble_eq_true rfl) hk hn ?_
  refine a_if_eq (pc := 61) 73 dX8_goesWords_61 (by decide) (fun c4 => ?_) (fun c4 => ?_)
  · have hf := (if_pos c4).symm.trans hf
    exact sX8_goesWords_73 hA hd hk hn hlp12 hf
  · have hf := (if_neg c4).symm.trans hf
    refine a_aload_n (pc := 64) dX8_goesWords_64 rfl (isRv_r _) ?_
    obtain ⟨r2, hr2, hf⟩ := Option.bind_eq_some_iff.mp hf
    refine m_call (pc := 65) (.int (r2.1)) [] [] hA dX8_goesWords_65 ml_X8_157 mv_X8_isDigit rfl rfl (by omega) (mX8_isDigit hA (by omega) hr2) rfl (Nat.le_of_ble_eq_true rfl) hk hn ?_
    refine a_if_ne (pc := 68) 73 dX8_goesWords_68 (by decide) (fun c3 => ?_) (fun c3 => ?_)
    · have hf := (if_neg c3).symm.trans hf
      exact sX8_goesWords_73 hA hd hk hn hlp12 hf
    · have hf := (if_pos c3).symm.trans hf
      refine a_iconst (pc := 71) 0 dX8_goesWords_71 rfl ?_
      have hf := Option.some.inj hf
      subst hf
      exact a_ireturn (pc := 72) dX8_goesWords_72 hk hn ⟨rfl, rfl⟩
set_option maxHeartbeats 4000000 in
theorem sX8_goesWords_12 {l : Launch} {g : gE} {d MC MS' k n : Nat} {A D : List va_E} (hA : A.length = 26) (hd : 2 ≤ d) (hk : k ≤ MC) (hn : n ≤ MS') {r : Int32 × MS} : ∀ (fn : Nat) (S : MS) (l1 : Int32), X8_goesWords_12 fn S l1 = some r → AW l g d RX8 cX8_goesWords 4 "goesWords" MC MS' (Qr (some (.int r.1)) (mh A r.2 D)) k n 12 [some (.ref 26), some (.int l1), none, none] [] (mh A S D) := by
  intro fn
  induction fn with
  | zero =>
    intro S l1 hf
    rw [X8_goesWords_12] at hf
    cases hf
  | succ fn ih =>
    intro S l1 hf
    rw [X8_goesWords_12] at hf
    refine a_aload_n (pc := 12) dX8_goesWords_12 rfl (isRv_r _) ?_
    obtain ⟨r1, hr1, hf⟩ := Option.bind_eq_some_iff.mp hf
    refine m_call (pc := 13) (.int (r1.1)) [] [] hA dX8_goesWords_13 ml_X8_146 mv_X8_next rfl rfl (by omega) (mX8_next hA (by omega) hr1) rfl (Nat.le_of_ble_eq_true rfl) hk hn ?_
    refine a_istore_n (pc := 16) (ls' := [some (.ref 26), some (.int l1), some (.int (r1.1)), none]) dX8_goesWords_16 (by decide) rfl ?_
    refine a_aload_n (pc := 17) dX8_goesWords_17 rfl (isRv_r _) ?_
    refine m_getA (pc := 18) 30 hA dX8_goesWords_18 fl_X8_35 (Or.inl ki_8) rfl ?_
    refine a_iload_n (pc := 21) dX8_goesWords_21 rfl ?_
    obtain ⟨x2, hx2, hf⟩ := Option.bind_eq_some_iff.mp hf
    refine m_ald (pc := 22) 30 hA dX8_goesWords_22 ki_8 rfl hx2 ?_
    refine a_bipush (pc := 23) 12 dX8_goesWords_23 rfl ?_
    refine a_icmp_eq (pc := 25) 44 dX8_goesWords_25 (by decide) (fun c7 => ?_) (fun c7 => ?_)
    · have hf := (if_pos c7).symm.trans hf
      refine a_sub (sub_d (sub_d (sub_d (sub_k sub_n)))) ?_
      exact sX8_goesWords_44 hA hd hk hn hf
    · have hf := (if_neg c7).symm.trans hf
      refine a_aload_n (pc := 28) dX8_goesWords_28 rfl (isRv_r _) ?_
      refine a_iload_n (pc := 29) dX8_goesWords_29 rfl ?_
      obtain ⟨r3, hr3, hf⟩ := Option.bind_eq_some_iff.mp hf
      refine m_call (pc := 30) (.int (r3.1)) [.int (r1.1)] [] hA dX8_goesWords_30 ml_X8_150 mv_X8_isBare rfl rfl (by omega) (mX8_isBare hA (by omega) hr3) rfl (Nat.le_of_ble_eq_true rfl) hk hn ?_
      refine a_if_ne (pc := 33) 46 dX8_goesWords_33 (by decide) (fun c6 => ?_) (fun c6 => ?_)
      · have hf := (if_neg c6).symm.trans hf
        exact sX8_goesWords_46 hA hd hk hn ih hf
      · have hf := (if_pos c6).symm.trans hf
        refine a_aload_n (pc := 36) dX8_goesWords_36 rfl (isRv_r _) ?_
        refine a_iload_n (pc := 37) dX8_goesWords_37 rfl ?_
        obtain ⟨r4, hr4, hf⟩ := Option.bind_eq_some_iff.mp hf
        refine m_call (pc := 38) (.int (r4.1)) [.int (r1.1)] [] hA dX8_goesWords_38 ml_X8_154 mv_X8_isFigured rfl rfl (by omega) (mX8_isFigured hA (by omega) hr4) rfl (Nat.le_of_ble_eq_true rfl) hk hn ?_
        refine a_if_ne (pc := 41) 46 dX8_goesWords_41 (by decide) (fun c5 => ?_) (fun c5 => ?_)
        · have hf := (if_neg c5).symm.trans hf
          exact sX8_goesWords_46 hA hd hk hn ih hf
        · have hf := (if_pos c5).symm.trans hf
          refine a_sub (sub_d (sub_d (sub_d (sub_k sub_n)))) ?_
          exact sX8_goesWords_44 hA hd hk hn hf
set_option maxHeartbeats 4000000 in
theorem sX8_goesWords_0 {l : Launch} {g : gE} {d MC MS' k n : Nat} {A D : List va_E} (hA : A.length = 26) (hd : 2 ≤ d) (hk : k ≤ MC) (hn : n ≤ MS') {r : Int32 × MS} {S : MS} {l1 : Int32} (hf : X8_goesWords_0 S l1 = some r) : AW l g d RX8 cX8_goesWords 4 "goesWords" MC MS' (Qr (some (.int r.1)) (mh A r.2 D)) k n 0 [some (.ref 26), some (.int l1), none, none] [] (mh A S D) := by
  unfold X8_goesWords_0 at hf
  refine a_aload_n (pc := 0) dX8_goesWords_0 rfl (isRv_r _) ?_
  refine a_iconst (pc := 1) 0 dX8_goesWords_1 rfl ?_
  refine m_putS (pc := 2) hA dX8_goesWords_2 fl_X8_19 ks_3 ?_
  refine a_aload_n (pc := 5) dX8_goesWords_5 rfl (isRv_r _) ?_
  refine m_getA (pc := 6) 30 hA dX8_goesWords_6 fl_X8_35 (Or.inl ki_8) rfl ?_
  refine a_iload_n (pc := 9) dX8_goesWords_9 rfl ?_
  refine a_iconst (pc := 10) 0 dX8_goesWords_10 rfl ?_
  obtain ⟨S1, hS1, hf⟩ := Option.bind_eq_some_iff.mp hf
  refine m_ast (pc := 11) 30 hA dX8_goesWords_11 ki_8 rfl hS1 ?_
  exact sX8_goesWords_12 hA hd hk hn FU S1 l1 hf
set_option maxHeartbeats 4000000 in
theorem mX8_goesWords {l : Launch} {g : gE} {d : Nat} {A D : List va_E} (hA : A.length = 26) (hd : 2 ≤ d) {r : Int32 × MS} {S : MS} {l1 : Int32} (hf : X8_goesWords S l1 = some r) : AM l g d yX8_goesWords cX8_goesWords 4 (some .boolean) 0 0 [.ref 26, .int l1] (mh A S D) (Qr (some (.int r.1)) (mh A r.2 D)) := by
  refine AM.of rfl (by exact Nat.le_of_ble_eq_true rfl) (fun v h' q => by obtain ⟨rfl, -⟩ := q; refine ⟨_, rfl, ?_⟩; rcases (zg_of hf).2 with e | e <;> rw [e] <;> rfl) (fun ls e => ?_)
  have e2 : aBeg [.ref 26, .int l1] 4 = [some (.ref 26), some (.int l1), none, none] := rfl
  rw [e2] at e
  subst e
  refine a_sub (sub_k (sub_k (sub_k (sub_k (sub_n))))) ?_
  exact sX8_goesWords_0 hA hd (Nat.le_refl _) (Nat.le_refl _) ((zg_of hf).1)
-- PencilStrikesModel.text(I)I
def X8_text_36 (S : MS) : Option (Int32 × MS) :=
  some ((-4), S)
def X8_text_127 (S : MS) (s0 : Int32) : Option (Int32 × MS) :=
  some (s0, S)
def X8_text_94 (S : MS) (s1 : Int32) (s2 : Int32) (l1 : Int32) : Option (Int32 × MS) :=
  if l1 = 0 then
    X8_text_127 (si (si S 0 (s1 + s2)) 1 (((si S 0 (s1 + s2)).1 1) + l1)) (((si (si S 0 (s1 + s2)) 1 (((si S 0 (s1 + s2)).1 1) + l1)).1 0) - 1)
  else
    X8_text_127 (si (si S 0 (s1 + s2)) 1 (((si S 0 (s1 + s2)).1 1) + l1)) (((si (si S 0 (s1 + s2)) 1 (((si S 0 (s1 + s2)).1 1) + l1)).1 1) - 1)
def X8_text_62 (S : MS) (s0 : Int32) (l1 : Int32) : Option (Int32 × MS) :=
  if s0 = 0 then
    some (((-10) - ((si S 2 0).1 3)), (si S 2 0))
  else
    if l1 = 0 then
      X8_text_94 (si S 2 0) ((si S 2 0).1 0) 1 l1
    else
      X8_text_94 (si S 2 0) ((si S 2 0).1 0) 0 l1
def X8_text_39 (S : MS) (l1 : Int32) : Option (Int32 × MS) :=
  if l1 = 0 then
    (X8_goesWords S (S.1 0)).bind fun r2 =>
    X8_text_62 r2.2 r2.1 l1
  else
    (X8_goesLaw S (S.1 1)).bind fun r1 =>
    X8_text_62 r1.2 r1.1 l1
def X8_text_0 (S : MS) (l1 : Int32) : Option (Int32 × MS) :=
  (X8_in S l1 0 1).bind fun r1 =>
  if r1.1 = 0 then
    some ((-1), r1.2)
  else
    if l1 = 0 then
      if (r1.2.1 0) = 6 then
        X8_text_36 r1.2
      else
        X8_text_39 r1.2 l1
    else
      if (r1.2.1 1) = 5 then
        X8_text_36 r1.2
      else
        X8_text_39 r1.2 l1
def X8_text (S : MS) (l1 : Int32) : Option (Int32 × MS) := X8_text_0 S l1
set_option maxHeartbeats 4000000 in
theorem sX8_text_36 {l : Launch} {g : gE} {d MC MS' k n : Nat} {A D : List va_E} (hA : A.length = 26) (hd : 7 ≤ d) (hk : k ≤ MC) (hn : n ≤ MS') {r : Int32 × MS} {S : MS} (hf : X8_text_36 S = some r) : AW l g d RX8 cX8_text 3 "text" MC MS' (Qr (some (.int r.1)) (mh A r.2 D)) k n 36 [none, none, none] [] (mh A S D) := by
  unfold X8_text_36 at hf
  refine a_bipush (pc := 36) (-4) dX8_text_36 rfl ?_
  have hf := Option.some.inj hf
  subst hf
  exact a_ireturn (pc := 38) dX8_text_38 hk hn ⟨rfl, rfl⟩
set_option maxHeartbeats 4000000 in
theorem sX8_text_127 {l : Launch} {g : gE} {d MC MS' k n : Nat} {A D : List va_E} (hA : A.length = 26) (hd : 7 ≤ d) (hk : k ≤ MC) (hn : n ≤ MS') {r : Int32 × MS} {S : MS} {s0 : Int32} (hf : X8_text_127 S s0 = some r) : AW l g d RX8 cX8_text 3 "text" MC MS' (Qr (some (.int r.1)) (mh A r.2 D)) k n 127 [none, none, none] [.int s0] (mh A S D) := by
  unfold X8_text_127 at hf
  have hf := Option.some.inj hf
  subst hf
  exact a_ireturn (pc := 127) dX8_text_127 hk hn ⟨rfl, rfl⟩
set_option maxHeartbeats 4000000 in
theorem sX8_text_94 {l : Launch} {g : gE} {d MC MS' k n : Nat} {A D : List va_E} (hA : A.length = 26) (hd : 7 ≤ d) (hk : k ≤ MC) (hn : n ≤ MS') {r : Int32 × MS} {S : MS} {s1 : Int32} {s2 : Int32} {l1 : Int32} (hf : X8_text_94 S s1 s2 l1 = some r) : AW l g d RX8 cX8_text 3 "text" MC MS' (Qr (some (.int r.1)) (mh A r.2 D)) k n 94 [some (.ref 26), some (.int l1), none] [.int s2, .int s1, .ref 26] (mh A S D) := by
  unfold X8_text_94 at hf
  refine a_iadd (pc := 94) dX8_text_94 ?_
  refine m_putS (pc := 95) hA dX8_text_95 fl_X8_7 ks_0 ?_
  refine a_aload_n (pc := 98) dX8_text_98 rfl (isRv_r _) ?_
  refine a_dup (pc := 99) dX8_text_99 rfl ?_
  refine m_getS (pc := 100) hA dX8_text_100 fl_X8_13 ks_1 ?_
  refine a_iload_n (pc := 103) dX8_text_103 rfl ?_
  refine a_iadd (pc := 104) dX8_text_104 ?_
  refine m_putS (pc := 105) hA dX8_text_105 fl_X8_13 ks_1 ?_
  refine a_iload_n (pc := 108) dX8_text_108 rfl ?_
  refine a_if_ne (pc := 109) 121 dX8_text_109 (by decide) (fun c1 => ?_) (fun c1 => ?_)
  · have hf := (if_neg c1).symm.trans hf
    refine a_aload_n (pc := 121) dX8_text_121 rfl (isRv_r _) ?_
    refine m_getS (pc := 122) hA dX8_text_122 fl_X8_13 ks_1 ?_
    refine a_iconst (pc := 125) 1 dX8_text_125 rfl ?_
    refine a_isub (pc := 126) dX8_text_126 ?_
    refine a_sub (sub_d (sub_d (sub_k sub_n))) ?_
    exact sX8_text_127 hA hd hk hn hf
  · have hf := (if_pos c1).symm.trans hf
    refine a_aload_n (pc := 112) dX8_text_112 rfl (isRv_r _) ?_
    refine m_getS (pc := 113) hA dX8_text_113 fl_X8_7 ks_0 ?_
    refine a_iconst (pc := 116) 1 dX8_text_116 rfl ?_
    refine a_isub (pc := 117) dX8_text_117 ?_
    refine a_goto (pc := 118) 127 dX8_text_118 (by decide) ?_
    refine a_sub (sub_d (sub_d (sub_k sub_n))) ?_
    exact sX8_text_127 hA hd hk hn hf
set_option maxHeartbeats 4000000 in
theorem sX8_text_62 {l : Launch} {g : gE} {d MC MS' k n : Nat} {A D : List va_E} (hA : A.length = 26) (hd : 7 ≤ d) (hk : k ≤ MC) (hn : n ≤ MS') {r : Int32 × MS} {S : MS} {s0 : Int32} {l1 : Int32} (hf : X8_text_62 S s0 l1 = some r) : AW l g d RX8 cX8_text 3 "text" MC MS' (Qr (some (.int r.1)) (mh A r.2 D)) k n 62 [some (.ref 26), some (.int l1), none] [.int s0] (mh A S D) := by
  unfold X8_text_62 at hf
  refine a_istore_n (pc := 62) (ls' := [some (.ref 26), some (.int l1), some (.int s0)]) dX8_text_62 (by decide) rfl ?_
  refine a_aload_n (pc := 63) dX8_text_63 rfl (isRv_r _) ?_
  refine a_iconst (pc := 64) 0 dX8_text_64 rfl ?_
  refine m_putS (pc := 65) hA dX8_text_65 fl_X8_16 ks_2 ?_
  refine a_iload_n (pc := 68) dX8_text_68 rfl ?_
  refine a_if_ne (pc := 69) 80 dX8_text_69 (by decide) (fun c2 => ?_) (fun c2 => ?_)
  · have hf := (if_neg c2).symm.trans hf
    refine a_aload_n (pc := 80) dX8_text_80 rfl (isRv_r _) ?_
    refine a_dup (pc := 81) dX8_text_81 rfl ?_
    refine m_getS (pc := 82) hA dX8_text_82 fl_X8_7 ks_0 ?_
    refine a_iload_n (pc := 85) dX8_text_85 rfl ?_
    refine a_if_ne (pc := 86) 93 dX8_text_86 (by decide) (fun c1 => ?_) (fun c1 => ?_)
    · have hf := (if_neg c1).symm.trans hf
      refine a_iconst (pc := 93) 0 dX8_text_93 rfl ?_
      refine a_sub (sub_k (sub_k (sub_d sub_n))) ?_
      exact sX8_text_94 hA hd hk hn hf
    · have hf := (if_pos c1).symm.trans hf
      refine a_iconst (pc := 89) 1 dX8_text_89 rfl ?_
      refine a_goto (pc := 90) 94 dX8_text_90 (by decide) ?_
      refine a_sub (sub_k (sub_k (sub_d sub_n))) ?_
      exact sX8_text_94 hA hd hk hn hf
  · have hf := (if_pos c2).symm.trans hf
    refine a_bipush (pc := 72) (-10) dX8_text_72 rfl ?_
    refine a_aload_n (pc := 74) dX8_text_74 rfl (isRv_r _) ?_
    refine m_getS (pc := 75) hA dX8_text_75 fl_X8_19 ks_3 ?_
    refine a_isub (pc := 78) dX8_text_78 ?_
    have hf := Option.some.inj hf
    subst hf
    exact a_ireturn (pc := 79) dX8_text_79 hk hn ⟨rfl, rfl⟩
set_option maxHeartbeats 4000000 in
theorem sX8_text_39 {l : Launch} {g : gE} {d MC MS' k n : Nat} {A D : List va_E} (hA : A.length = 26) (hd : 7 ≤ d) (hk : k ≤ MC) (hn : n ≤ MS') {r : Int32 × MS} {S : MS} {l1 : Int32} (hf : X8_text_39 S l1 = some r) : AW l g d RX8 cX8_text 3 "text" MC MS' (Qr (some (.int r.1)) (mh A r.2 D)) k n 39 [some (.ref 26), some (.int l1), none] [] (mh A S D) := by
  unfold X8_text_39 at hf
  refine a_iload_n (pc := 39) dX8_text_39 rfl ?_
  refine a_if_ne (pc := 40) 54 dX8_text_40 (by decide) (fun c3 => ?_) (fun c3 => ?_)
  · have hf := (if_neg c3).symm.trans hf
    refine a_aload_n (pc := 54) dX8_text_54 rfl (isRv_r _) ?_
    refine a_aload_n (pc := 55) dX8_text_55 rfl (isRv_r _) ?_
    refine m_getS (pc := 56) hA dX8_text_56 fl_X8_13 ks_1 ?_
    obtain ⟨r1, hr1, hf⟩ := Option.bind_eq_some_iff.mp hf
    refine m_call (pc := 59) (.int (r1.1)) [.int (S.1 1)] [] hA dX8_text_59 ml_X8_200 mv_X8_goesLaw rfl rfl (by omega) (mX8_goesLaw hA (by omega) hr1) rfl (Nat.le_of_ble_eq_true rfl) hk hn ?_
    exact sX8_text_62 hA hd hk hn hf
  · have hf := (if_pos c3).symm.trans hf
    refine a_aload_n (pc := 43) dX8_text_43 rfl (isRv_r _) ?_
    refine a_aload_n (pc := 44) dX8_text_44 rfl (isRv_r _) ?_
    refine m_getS (pc := 45) hA dX8_text_45 fl_X8_7 ks_0 ?_
    obtain ⟨r2, hr2, hf⟩ := Option.bind_eq_some_iff.mp hf
    refine m_call (pc := 48) (.int (r2.1)) [.int (S.1 0)] [] hA dX8_text_48 ml_X8_197 mv_X8_goesWords rfl rfl (by omega) (mX8_goesWords hA (by omega) hr2) rfl (Nat.le_of_ble_eq_true rfl) hk hn ?_
    refine a_goto (pc := 51) 62 dX8_text_51 (by decide) ?_
    exact sX8_text_62 hA hd hk hn hf
set_option maxHeartbeats 4000000 in
theorem sX8_text_0 {l : Launch} {g : gE} {d MC MS' k n : Nat} {A D : List va_E} (hA : A.length = 26) (hd : 7 ≤ d) (hk : k ≤ MC) (hn : n ≤ MS') {r : Int32 × MS} {S : MS} {l1 : Int32} (hf : X8_text_0 S l1 = some r) : AW l g d RX8 cX8_text 3 "text" MC MS' (Qr (some (.int r.1)) (mh A r.2 D)) k n 0 [some (.ref 26), some (.int l1), none] [] (mh A S D) := by
  unfold X8_text_0 at hf
  refine a_aload_n (pc := 0) dX8_text_0 rfl (isRv_r _) ?_
  refine a_iload_n (pc := 1) dX8_text_1 rfl ?_
  refine a_iconst (pc := 2) 0 dX8_text_2 rfl ?_
  refine a_iconst (pc := 3) 1 dX8_text_3 rfl ?_
  obtain ⟨r1, hr1, hf⟩ := Option.bind_eq_some_iff.mp hf
  refine m_call (pc := 4) (.int (r1.1)) [.int l1, .int 0, .int 1] [] hA dX8_text_4 ml_X8_142 mv_X8_in rfl rfl (by omega) (mX8_in hA (by omega) hr1) rfl (Nat.le_of_ble_eq_true rfl) hk hn ?_
  refine a_if_ne (pc := 7) 12 dX8_text_7 (by decide) (fun c5 => ?_) (fun c5 => ?_)
  · have hf := (if_neg c5).symm.trans hf
    refine a_iload_n (pc := 12) dX8_text_12 rfl ?_
    refine a_if_ne (pc := 13) 28 dX8_text_13 (by decide) (fun c4 => ?_) (fun c4 => ?_)
    · have hf := (if_neg c4).symm.trans hf
      refine a_aload_n (pc := 28) dX8_text_28 rfl (isRv_r _) ?_
      refine m_getS (pc := 29) hA dX8_text_29 fl_X8_13 ks_1 ?_
      refine a_iconst (pc := 32) 5 dX8_text_32 rfl ?_
      refine a_icmp_ne (pc := 33) 39 dX8_text_33 (by decide) (fun c2 => ?_) (fun c2 => ?_)
      · have hf := (if_neg c2).symm.trans hf
        exact sX8_text_39 hA hd hk hn hf
      · have hf := (if_pos c2).symm.trans hf
        refine a_sub (sub_d (sub_d (sub_k sub_n))) ?_
        exact sX8_text_36 hA hd hk hn hf
    · have hf := (if_pos c4).symm.trans hf
      refine a_aload_n (pc := 16) dX8_text_16 rfl (isRv_r _) ?_
      refine m_getS (pc := 17) hA dX8_text_17 fl_X8_7 ks_0 ?_
      refine a_bipush (pc := 20) 6 dX8_text_20 rfl ?_
      refine a_icmp_ne (pc := 22) 39 dX8_text_22 (by decide) (fun c3 => ?_) (fun c3 => ?_)
      · have hf := (if_neg c3).symm.trans hf
        exact sX8_text_39 hA hd hk hn hf
      · have hf := (if_pos c3).symm.trans hf
        refine a_goto (pc := 25) 36 dX8_text_25 (by decide) ?_
        refine a_sub (sub_d (sub_d (sub_k sub_n))) ?_
        exact sX8_text_36 hA hd hk hn hf
  · have hf := (if_pos c5).symm.trans hf
    refine a_iconst (pc := 10) (-1) dX8_text_10 rfl ?_
    have hf := Option.some.inj hf
    subst hf
    exact a_ireturn (pc := 11) dX8_text_11 hk hn ⟨rfl, rfl⟩
set_option maxHeartbeats 4000000 in
theorem mX8_text {l : Launch} {g : gE} {d : Nat} {A D : List va_E} (hA : A.length = 26) (hd : 7 ≤ d) {r : Int32 × MS} {S : MS} {l1 : Int32} (hf : X8_text S l1 = some r) : AM l g d yX8_text cX8_text 3 (some .int) 0 0 [.ref 26, .int l1] (mh A S D) (Qr (some (.int r.1)) (mh A r.2 D)) := by
  refine AM.of rfl (by exact Nat.le_of_ble_eq_true rfl) (fun v h' q => by obtain ⟨rfl, -⟩ := q; exact ⟨_, rfl, rfl⟩) (fun ls e => ?_)
  have e2 : aBeg [.ref 26, .int l1] 3 = [some (.ref 26), some (.int l1), none] := rfl
  rw [e2] at e
  subst e
  refine a_sub (sub_k (sub_k (sub_k (sub_n)))) ?_
  exact sX8_text_0 hA hd (Nat.le_refl _) (Nat.le_refl _) (hf)
-- PencilStrikesModel.isBargain(I)Z
def X8_isBargain_0 (S : MS) (l1 : Int32) : Option (Int32 × MS) :=
  (X8_in S l1 0 ((S.1 0) - 1)).bind fun r1 =>
  some (r1.1, r1.2)
def X8_isBargain (S : MS) (l1 : Int32) : Option (Int32 × MS) := zg (X8_isBargain_0 S l1)
set_option maxHeartbeats 4000000 in
theorem sX8_isBargain_0 {l : Launch} {g : gE} {d MC MS' k n : Nat} {A D : List va_E} (hA : A.length = 26) (hd : 1 ≤ d) (hk : k ≤ MC) (hn : n ≤ MS') {r : Int32 × MS} {S : MS} {l1 : Int32} (hf : X8_isBargain_0 S l1 = some r) : AW l g d RX8 cX8_isBargain 2 "isBargain" MC MS' (Qr (some (.int r.1)) (mh A r.2 D)) k n 0 [some (.ref 26), some (.int l1)] [] (mh A S D) := by
  unfold X8_isBargain_0 at hf
  refine a_aload_n (pc := 0) dX8_isBargain_0 rfl (isRv_r _) ?_
  refine a_iload_n (pc := 1) dX8_isBargain_1 rfl ?_
  refine a_iconst (pc := 2) 0 dX8_isBargain_2 rfl ?_
  refine a_aload_n (pc := 3) dX8_isBargain_3 rfl (isRv_r _) ?_
  refine m_getS (pc := 4) hA dX8_isBargain_4 fl_X8_7 ks_0 ?_
  refine a_iconst (pc := 7) 1 dX8_isBargain_7 rfl ?_
  refine a_isub (pc := 8) dX8_isBargain_8 ?_
  obtain ⟨r1, hr1, hf⟩ := Option.bind_eq_some_iff.mp hf
  refine m_call (pc := 9) (.int (r1.1)) [.int l1, .int 0, .int ((S.1 0) - 1)] [] hA dX8_isBargain_9 ml_X8_142 mv_X8_in rfl rfl (by omega) (mX8_in hA (by omega) hr1) rfl (Nat.le_of_ble_eq_true rfl) hk hn ?_
  have hf := Option.some.inj hf
  subst hf
  exact a_ireturn (pc := 12) dX8_isBargain_12 hk hn ⟨rfl, rfl⟩
set_option maxHeartbeats 4000000 in
theorem mX8_isBargain {l : Launch} {g : gE} {d : Nat} {A D : List va_E} (hA : A.length = 26) (hd : 1 ≤ d) {r : Int32 × MS} {S : MS} {l1 : Int32} (hf : X8_isBargain S l1 = some r) : AM l g d yX8_isBargain cX8_isBargain 2 (some .boolean) 0 0 [.ref 26, .int l1] (mh A S D) (Qr (some (.int r.1)) (mh A r.2 D)) := by
  refine AM.of rfl (by exact Nat.le_of_ble_eq_true rfl) (fun v h' q => by obtain ⟨rfl, -⟩ := q; refine ⟨_, rfl, ?_⟩; rcases (zg_of hf).2 with e | e <;> rw [e] <;> rfl) (fun ls e => ?_)
  have e2 : aBeg [.ref 26, .int l1] 2 = [some (.ref 26), some (.int l1)] := rfl
  rw [e2] at e
  subst e
  refine a_sub (sub_k (sub_k (sub_n))) ?_
  exact sX8_isBargain_0 hA hd (Nat.le_refl _) (Nat.le_refl _) ((zg_of hf).1)
-- PencilStrikesModel.word(II)I
def X8_word_25 (S : MS) : Option (Int32 × MS) :=
  some ((-1), S)
def X8_word_66 (S : MS) (s0 : Int32) : Option (Int32 × MS) :=
  some (s0, S)
def X8_word_0 (S : MS) (l1 : Int32) (l2 : Int32) : Option (Int32 × MS) :=
  (X8_isBargain S l1).bind fun r1 =>
  if r1.1 = 0 then
    X8_word_25 r1.2
  else
    (mA r1.2 8 l1).bind fun x2 =>
    (X8_in r1.2 l2 (-1) (x2 - 1)).bind fun r3 =>
    if r3.1 = 0 then
      X8_word_25 r3.2
    else
      if 0 ≤ l2 then
        (mA r3.2 6 ((12 * l1) + l2)).bind fun x4 =>
        (mA r3.2 7 ((12 * l1) + l2)).bind fun x5 =>
        X8_word_66 r3.2 ((100 * x4) + x5)
      else
        (mA r3.2 8 l1).bind fun x6 =>
        X8_word_66 r3.2 x6
def X8_word (S : MS) (l1 : Int32) (l2 : Int32) : Option (Int32 × MS) := X8_word_0 S l1 l2
set_option maxHeartbeats 4000000 in
theorem sX8_word_25 {l : Launch} {g : gE} {d MC MS' k n : Nat} {A D : List va_E} (hA : A.length = 26) (hd : 2 ≤ d) (hk : k ≤ MC) (hn : n ≤ MS') {r : Int32 × MS} {S : MS} (hf : X8_word_25 S = some r) : AW l g d RX8 cX8_word 3 "word" MC MS' (Qr (some (.int r.1)) (mh A r.2 D)) k n 25 [none, none, none] [] (mh A S D) := by
  unfold X8_word_25 at hf
  refine a_iconst (pc := 25) (-1) dX8_word_25 rfl ?_
  have hf := Option.some.inj hf
  subst hf
  exact a_ireturn (pc := 26) dX8_word_26 hk hn ⟨rfl, rfl⟩
set_option maxHeartbeats 4000000 in
theorem sX8_word_66 {l : Launch} {g : gE} {d MC MS' k n : Nat} {A D : List va_E} (hA : A.length = 26) (hd : 2 ≤ d) (hk : k ≤ MC) (hn : n ≤ MS') {r : Int32 × MS} {S : MS} {s0 : Int32} (hf : X8_word_66 S s0 = some r) : AW l g d RX8 cX8_word 3 "word" MC MS' (Qr (some (.int r.1)) (mh A r.2 D)) k n 66 [none, none, none] [.int s0] (mh A S D) := by
  unfold X8_word_66 at hf
  have hf := Option.some.inj hf
  subst hf
  exact a_ireturn (pc := 66) dX8_word_66 hk hn ⟨rfl, rfl⟩
set_option maxHeartbeats 4000000 in
theorem sX8_word_0 {l : Launch} {g : gE} {d MC MS' k n : Nat} {A D : List va_E} (hA : A.length = 26) (hd : 2 ≤ d) (hk : k ≤ MC) (hn : n ≤ MS') {r : Int32 × MS} {S : MS} {l1 : Int32} {l2 : Int32} (hf : X8_word_0 S l1 l2 = some r) : AW l g d RX8 cX8_word 3 "word" MC MS' (Qr (some (.int r.1)) (mh A r.2 D)) k n 0 [some (.ref 26), some (.int l1), some (.int l2)] [] (mh A S D) := by
  unfold X8_word_0 at hf
  refine a_aload_n (pc := 0) dX8_word_0 rfl (isRv_r _) ?_
  refine a_iload_n (pc := 1) dX8_word_1 rfl ?_
  obtain ⟨r1, hr1, hf⟩ := Option.bind_eq_some_iff.mp hf
  refine m_call (pc := 2) (.int (r1.1)) [.int l1] [] hA dX8_word_2 ml_X8_203 mv_X8_isBargain rfl rfl (by omega) (mX8_isBargain hA (by omega) hr1) rfl (Nat.le_of_ble_eq_true rfl) hk hn ?_
  refine a_if_eq (pc := 5) 25 dX8_word_5 (by decide) (fun c9 => ?_) (fun c9 => ?_)
  · have hf := (if_pos c9).symm.trans hf
    refine a_sub (sub_d (sub_d (sub_d sub_n))) ?_
    exact sX8_word_25 hA hd hk hn hf
  · have hf := (if_neg c9).symm.trans hf
    refine a_aload_n (pc := 8) dX8_word_8 rfl (isRv_r _) ?_
    refine a_iload_n (pc := 9) dX8_word_9 rfl ?_
    refine a_iconst (pc := 10) (-1) dX8_word_10 rfl ?_
    refine a_aload_n (pc := 11) dX8_word_11 rfl (isRv_r _) ?_
    refine m_getA (pc := 12) 30 hA dX8_word_12 fl_X8_35 (Or.inl ki_8) rfl ?_
    refine a_iload_n (pc := 15) dX8_word_15 rfl ?_
    obtain ⟨x2, hx2, hf⟩ := Option.bind_eq_some_iff.mp hf
    refine m_ald (pc := 16) 30 hA dX8_word_16 ki_8 rfl hx2 ?_
    refine a_iconst (pc := 17) 1 dX8_word_17 rfl ?_
    refine a_isub (pc := 18) dX8_word_18 ?_
    obtain ⟨r3, hr3, hf⟩ := Option.bind_eq_some_iff.mp hf
    refine m_call (pc := 19) (.int (r3.1)) [.int l2, .int (-1), .int (x2 - 1)] [] hA dX8_word_19 ml_X8_142 mv_X8_in rfl rfl (by omega) (mX8_in hA (by omega) hr3) rfl (Nat.le_of_ble_eq_true rfl) hk hn ?_
    refine a_if_ne (pc := 22) 27 dX8_word_22 (by decide) (fun c8 => ?_) (fun c8 => ?_)
    · have hf := (if_neg c8).symm.trans hf
      refine a_iload_n (pc := 27) dX8_word_27 rfl ?_
      refine a_if_ge (pc := 28) 40 dX8_word_28 (by decide) (fun c7 => ?_) (fun c7 => ?_)
      · have hf := (if_pos c7).symm.trans hf
        refine a_bipush (pc := 40) 100 dX8_word_40 rfl ?_
        refine a_aload_n (pc := 42) dX8_word_42 rfl (isRv_r _) ?_
        refine m_getA (pc := 43) 28 hA dX8_word_43 fl_X8_29 (Or.inl ki_6) rfl ?_
        refine a_bipush (pc := 46) 12 dX8_word_46 rfl ?_
        refine a_iload_n (pc := 48) dX8_word_48 rfl ?_
        refine a_imul (pc := 49) dX8_word_49 ?_
        refine a_iload_n (pc := 50) dX8_word_50 rfl ?_
        refine a_iadd (pc := 51) dX8_word_51 ?_
        obtain ⟨x4, hx4, hf⟩ := Option.bind_eq_some_iff.mp hf
        refine m_ald (pc := 52) 28 hA dX8_word_52 ki_6 rfl hx4 ?_
        refine a_imul (pc := 53) dX8_word_53 ?_
        refine a_aload_n (pc := 54) dX8_word_54 rfl (isRv_r _) ?_
        refine m_getA (pc := 55) 29 hA dX8_word_55 fl_X8_32 (Or.inl ki_7) rfl ?_
        refine a_bipush (pc := 58) 12 dX8_word_58 rfl ?_
        refine a_iload_n (pc := 60) dX8_word_60 rfl ?_
        refine a_imul (pc := 61) dX8_word_61 ?_
        refine a_iload_n (pc := 62) dX8_word_62 rfl ?_
        refine a_iadd (pc := 63) dX8_word_63 ?_
        obtain ⟨x5, hx5, hf⟩ := Option.bind_eq_some_iff.mp hf
        refine m_ald (pc := 64) 29 hA dX8_word_64 ki_7 rfl hx5 ?_
        refine a_iadd (pc := 65) dX8_word_65 ?_
        refine a_sub (sub_d (sub_d (sub_d sub_n))) ?_
        exact sX8_word_66 hA hd hk hn hf
      · have hf := (if_neg c7).symm.trans hf
        refine a_aload_n (pc := 31) dX8_word_31 rfl (isRv_r _) ?_
        refine m_getA (pc := 32) 30 hA dX8_word_32 fl_X8_35 (Or.inl ki_8) rfl ?_
        refine a_iload_n (pc := 35) dX8_word_35 rfl ?_
        obtain ⟨x6, hx6, hf⟩ := Option.bind_eq_some_iff.mp hf
        refine m_ald (pc := 36) 30 hA dX8_word_36 ki_8 rfl hx6 ?_
        refine a_goto (pc := 37) 66 dX8_word_37 (by decide) ?_
        refine a_sub (sub_d (sub_d (sub_d sub_n))) ?_
        exact sX8_word_66 hA hd hk hn hf
    · have hf := (if_pos c8).symm.trans hf
      refine a_sub (sub_d (sub_d (sub_d sub_n))) ?_
      exact sX8_word_25 hA hd hk hn hf
set_option maxHeartbeats 4000000 in
theorem mX8_word {l : Launch} {g : gE} {d : Nat} {A D : List va_E} (hA : A.length = 26) (hd : 2 ≤ d) {r : Int32 × MS} {S : MS} {l1 : Int32} {l2 : Int32} (hf : X8_word S l1 l2 = some r) : AM l g d yX8_word cX8_word 3 (some .int) 0 0 [.ref 26, .int l1, .int l2] (mh A S D) (Qr (some (.int r.1)) (mh A r.2 D)) := by
  refine AM.of rfl (by exact Nat.le_of_ble_eq_true rfl) (fun v h' q => by obtain ⟨rfl, -⟩ := q; exact ⟨_, rfl, rfl⟩) (fun ls e => ?_)
  have e2 : aBeg [.ref 26, .int l1, .int l2] 3 = [some (.ref 26), some (.int l1), some (.int l2)] := rfl
  rw [e2] at e
  subst e
  refine a_sub (sub_k (sub_k (sub_k (sub_n)))) ?_
  exact sX8_word_0 hA hd (Nat.le_refl _) (Nat.le_refl _) (hf)
-- PencilStrikesModel.price(II)I
def X8_price_0 (S : MS) (l1 : Int32) (l2 : Int32) : Option (Int32 × MS) :=
  (X8_in S l1 0 9).bind fun r1 =>
  if r1.1 = 0 then
    some ((-1), r1.2)
  else
    (X8_in r1.2 l2 0 99).bind fun r2 =>
    if r2.1 = 0 then
      some ((-2), r2.2)
    else
      (mA r2.2 19 l1).bind fun x3 =>
      (mAs r2.2 19 l1 l2).bind fun S4 =>
      some (x3, S4)
def X8_price (S : MS) (l1 : Int32) (l2 : Int32) : Option (Int32 × MS) := X8_price_0 S l1 l2
set_option maxHeartbeats 4000000 in
theorem sX8_price_0 {l : Launch} {g : gE} {d MC MS' k n : Nat} {A D : List va_E} (hA : A.length = 26) (hd : 1 ≤ d) (hk : k ≤ MC) (hn : n ≤ MS') {r : Int32 × MS} {S : MS} {l1 : Int32} {l2 : Int32} (hf : X8_price_0 S l1 l2 = some r) : AW l g d RX8 cX8_price 4 "price" MC MS' (Qr (some (.int r.1)) (mh A r.2 D)) k n 0 [some (.ref 26), some (.int l1), some (.int l2), none] [] (mh A S D) := by
  unfold X8_price_0 at hf
  refine a_aload_n (pc := 0) dX8_price_0 rfl (isRv_r _) ?_
  refine a_iload_n (pc := 1) dX8_price_1 rfl ?_
  refine a_iconst (pc := 2) 0 dX8_price_2 rfl ?_
  refine a_bipush (pc := 3) 9 dX8_price_3 rfl ?_
  obtain ⟨r1, hr1, hf⟩ := Option.bind_eq_some_iff.mp hf
  refine m_call (pc := 5) (.int (r1.1)) [.int l1, .int 0, .int 9] [] hA dX8_price_5 ml_X8_142 mv_X8_in rfl rfl (by omega) (mX8_in hA (by omega) hr1) rfl (Nat.le_of_ble_eq_true rfl) hk hn ?_
  refine a_if_ne (pc := 8) 13 dX8_price_8 (by decide) (fun c6 => ?_) (fun c6 => ?_)
  · have hf := (if_neg c6).symm.trans hf
    refine a_aload_n (pc := 13) dX8_price_13 rfl (isRv_r _) ?_
    refine a_iload_n (pc := 14) dX8_price_14 rfl ?_
    refine a_iconst (pc := 15) 0 dX8_price_15 rfl ?_
    refine a_bipush (pc := 16) 99 dX8_price_16 rfl ?_
    obtain ⟨r2, hr2, hf⟩ := Option.bind_eq_some_iff.mp hf
    refine m_call (pc := 18) (.int (r2.1)) [.int l2, .int 0, .int 99] [] hA dX8_price_18 ml_X8_142 mv_X8_in rfl rfl (by omega) (mX8_in hA (by omega) hr2) rfl (Nat.le_of_ble_eq_true rfl) hk hn ?_
    refine a_if_ne (pc := 21) 27 dX8_price_21 (by decide) (fun c5 => ?_) (fun c5 => ?_)
    · have hf := (if_neg c5).symm.trans hf
      refine a_aload_n (pc := 27) dX8_price_27 rfl (isRv_r _) ?_
      refine m_getA (pc := 28) 38 hA dX8_price_28 fl_X8_68 (Or.inl ki_19) rfl ?_
      refine a_iload_n (pc := 31) dX8_price_31 rfl ?_
      obtain ⟨x3, hx3, hf⟩ := Option.bind_eq_some_iff.mp hf
      refine m_ald (pc := 32) 38 hA dX8_price_32 ki_19 rfl hx3 ?_
      refine a_istore_n (pc := 33) (ls' := [some (.ref 26), some (.int l1), some (.int l2), some (.int x3)]) dX8_price_33 (by decide) rfl ?_
      refine a_aload_n (pc := 34) dX8_price_34 rfl (isRv_r _) ?_
      refine m_getA (pc := 35) 38 hA dX8_price_35 fl_X8_68 (Or.inl ki_19) rfl ?_
      refine a_iload_n (pc := 38) dX8_price_38 rfl ?_
      refine a_iload_n (pc := 39) dX8_price_39 rfl ?_
      obtain ⟨S4, hS4, hf⟩ := Option.bind_eq_some_iff.mp hf
      refine m_ast (pc := 40) 38 hA dX8_price_40 ki_19 rfl hS4 ?_
      refine a_iload_n (pc := 41) dX8_price_41 rfl ?_
      have hf := Option.some.inj hf
      subst hf
      exact a_ireturn (pc := 42) dX8_price_42 hk hn ⟨rfl, rfl⟩
    · have hf := (if_pos c5).symm.trans hf
      refine a_bipush (pc := 24) (-2) dX8_price_24 rfl ?_
      have hf := Option.some.inj hf
      subst hf
      exact a_ireturn (pc := 26) dX8_price_26 hk hn ⟨rfl, rfl⟩
  · have hf := (if_pos c6).symm.trans hf
    refine a_iconst (pc := 11) (-1) dX8_price_11 rfl ?_
    have hf := Option.some.inj hf
    subst hf
    exact a_ireturn (pc := 12) dX8_price_12 hk hn ⟨rfl, rfl⟩
set_option maxHeartbeats 4000000 in
theorem mX8_price {l : Launch} {g : gE} {d : Nat} {A D : List va_E} (hA : A.length = 26) (hd : 1 ≤ d) {r : Int32 × MS} {S : MS} {l1 : Int32} {l2 : Int32} (hf : X8_price S l1 l2 = some r) : AM l g d yX8_price cX8_price 4 (some .int) 0 0 [.ref 26, .int l1, .int l2] (mh A S D) (Qr (some (.int r.1)) (mh A r.2 D)) := by
  refine AM.of rfl (by exact Nat.le_of_ble_eq_true rfl) (fun v h' q => by obtain ⟨rfl, -⟩ := q; exact ⟨_, rfl, rfl⟩) (fun ls e => ?_)
  have e2 : aBeg [.ref 26, .int l1, .int l2] 4 = [some (.ref 26), some (.int l1), some (.int l2), none] := rfl
  rw [e2] at e
  subst e
  refine a_sub (sub_k (sub_k (sub_k (sub_k (sub_n))))) ?_
  exact sX8_price_0 hA hd (Nat.le_refl _) (Nat.le_refl _) (hf)
-- PencilStrikesModel.isSet(II)Z
def X8_isSet_0 (S : MS) (l1 : Int32) (l2 : Int32) : Option (Int32 × MS) :=
  (mA S 8 l1).bind fun x1 =>
  (X8_in S l2 0 (((1 : Int32) <<< (x1 &&& 31)) - 1)).bind fun r2 =>
  some (r2.1, r2.2)
def X8_isSet (S : MS) (l1 : Int32) (l2 : Int32) : Option (Int32 × MS) := zg (X8_isSet_0 S l1 l2)
set_option maxHeartbeats 4000000 in
theorem sX8_isSet_0 {l : Launch} {g : gE} {d MC MS' k n : Nat} {A D : List va_E} (hA : A.length = 26) (hd : 1 ≤ d) (hk : k ≤ MC) (hn : n ≤ MS') {r : Int32 × MS} {S : MS} {l1 : Int32} {l2 : Int32} (hf : X8_isSet_0 S l1 l2 = some r) : AW l g d RX8 cX8_isSet 3 "isSet" MC MS' (Qr (some (.int r.1)) (mh A r.2 D)) k n 0 [some (.ref 26), some (.int l1), some (.int l2)] [] (mh A S D) := by
  unfold X8_isSet_0 at hf
  refine a_aload_n (pc := 0) dX8_isSet_0 rfl (isRv_r _) ?_
  refine a_iload_n (pc := 1) dX8_isSet_1 rfl ?_
  refine a_iconst (pc := 2) 0 dX8_isSet_2 rfl ?_
  refine a_iconst (pc := 3) 1 dX8_isSet_3 rfl ?_
  refine a_aload_n (pc := 4) dX8_isSet_4 rfl (isRv_r _) ?_
  refine m_getA (pc := 5) 30 hA dX8_isSet_5 fl_X8_35 (Or.inl ki_8) rfl ?_
  refine a_iload_n (pc := 8) dX8_isSet_8 rfl ?_
  obtain ⟨x1, hx1, hf⟩ := Option.bind_eq_some_iff.mp hf
  refine m_ald (pc := 9) 30 hA dX8_isSet_9 ki_8 rfl hx1 ?_
  refine a_ishl (pc := 10) dX8_isSet_10 ?_
  refine a_iconst (pc := 11) 1 dX8_isSet_11 rfl ?_
  refine a_isub (pc := 12) dX8_isSet_12 ?_
  obtain ⟨r2, hr2, hf⟩ := Option.bind_eq_some_iff.mp hf
  refine m_call (pc := 13) (.int (r2.1)) [.int l2, .int 0, .int (((1 : Int32) <<< (x1 &&& 31)) - 1)] [] hA dX8_isSet_13 ml_X8_142 mv_X8_in rfl rfl (by omega) (mX8_in hA (by omega) hr2) rfl (Nat.le_of_ble_eq_true rfl) hk hn ?_
  have hf := Option.some.inj hf
  subst hf
  exact a_ireturn (pc := 16) dX8_isSet_16 hk hn ⟨rfl, rfl⟩
set_option maxHeartbeats 4000000 in
theorem mX8_isSet {l : Launch} {g : gE} {d : Nat} {A D : List va_E} (hA : A.length = 26) (hd : 1 ≤ d) {r : Int32 × MS} {S : MS} {l1 : Int32} {l2 : Int32} (hf : X8_isSet S l1 l2 = some r) : AM l g d yX8_isSet cX8_isSet 3 (some .boolean) 0 0 [.ref 26, .int l1, .int l2] (mh A S D) (Qr (some (.int r.1)) (mh A r.2 D)) := by
  refine AM.of rfl (by exact Nat.le_of_ble_eq_true rfl) (fun v h' q => by obtain ⟨rfl, -⟩ := q; refine ⟨_, rfl, ?_⟩; rcases (zg_of hf).2 with e | e <;> rw [e] <;> rfl) (fun ls e => ?_)
  have e2 : aBeg [.ref 26, .int l1, .int l2] 3 = [some (.ref 26), some (.int l1), some (.int l2)] := rfl
  rw [e2] at e
  subst e
  refine a_sub (sub_k (sub_k (sub_k (sub_n)))) ?_
  exact sX8_isSet_0 hA hd (Nat.le_refl _) (Nat.le_refl _) ((zg_of hf).1)
-- PencilStrikesModel.ahead()I
def X8_ahead_34 (S : MS) (s0 : Int32) : Option (Int32 × MS) :=
  some (s0, S)
def X8_ahead_0 (S : MS) : Option (Int32 × MS) :=
  if (S.1 27) ≤ (S.1 29) then
    X8_ahead_34 S (-1)
  else
    (mA S 20 (S.1 29)).bind fun x1 =>
    (mA S 6 ((S.1 30) + x1)).bind fun x2 =>
    X8_ahead_34 S x2
def X8_ahead (S : MS) : Option (Int32 × MS) := X8_ahead_0 S
set_option maxHeartbeats 4000000 in
theorem sX8_ahead_34 {l : Launch} {g : gE} {d MC MS' k n : Nat} {A D : List va_E} (hA : A.length = 26) (hd : 0 ≤ d) (hk : k ≤ MC) (hn : n ≤ MS') {r : Int32 × MS} {S : MS} {s0 : Int32} (hf : X8_ahead_34 S s0 = some r) : AW l g d RX8 cX8_ahead 1 "ahead" MC MS' (Qr (some (.int r.1)) (mh A r.2 D)) k n 34 [none] [.int s0] (mh A S D) := by
  unfold X8_ahead_34 at hf
  have hf := Option.some.inj hf
  subst hf
  exact a_ireturn (pc := 34) dX8_ahead_34 hk hn ⟨rfl, rfl⟩
set_option maxHeartbeats 4000000 in
theorem sX8_ahead_0 {l : Launch} {g : gE} {d MC MS' k n : Nat} {A D : List va_E} (hA : A.length = 26) (hd : 0 ≤ d) (hk : k ≤ MC) (hn : n ≤ MS') {r : Int32 × MS} {S : MS} (hf : X8_ahead_0 S = some r) : AW l g d RX8 cX8_ahead 1 "ahead" MC MS' (Qr (some (.int r.1)) (mh A r.2 D)) k n 0 [some (.ref 26)] [] (mh A S D) := by
  unfold X8_ahead_0 at hf
  refine a_aload_n (pc := 0) dX8_ahead_0 rfl (isRv_r _) ?_
  refine m_getS (pc := 1) hA dX8_ahead_1 fl_X8_98 ks_29 ?_
  refine a_aload_n (pc := 4) dX8_ahead_4 rfl (isRv_r _) ?_
  refine m_getS (pc := 5) hA dX8_ahead_5 fl_X8_92 ks_27 ?_
  refine a_icmp_ge (pc := 8) 33 dX8_ahead_8 (by decide) (fun c3 => ?_) (fun c3 => ?_)
  · have hf := (if_pos c3).symm.trans hf
    refine a_iconst (pc := 33) (-1) dX8_ahead_33 rfl ?_
    refine a_sub (sub_d sub_n) ?_
    exact sX8_ahead_34 hA hd hk hn hf
  · have hf := (if_neg c3).symm.trans hf
    refine a_aload_n (pc := 11) dX8_ahead_11 rfl (isRv_r _) ?_
    refine m_getA (pc := 12) 28 hA dX8_ahead_12 fl_X8_29 (Or.inl ki_6) rfl ?_
    refine a_aload_n (pc := 15) dX8_ahead_15 rfl (isRv_r _) ?_
    refine m_getS (pc := 16) hA dX8_ahead_16 fl_X8_101 ks_30 ?_
    refine a_aload_n (pc := 19) dX8_ahead_19 rfl (isRv_r _) ?_
    refine m_getA (pc := 20) 39 hA dX8_ahead_20 fl_X8_71 (Or.inl ki_20) rfl ?_
    refine a_aload_n (pc := 23) dX8_ahead_23 rfl (isRv_r _) ?_
    refine m_getS (pc := 24) hA dX8_ahead_24 fl_X8_98 ks_29 ?_
    obtain ⟨x1, hx1, hf⟩ := Option.bind_eq_some_iff.mp hf
    refine m_ald (pc := 27) 39 hA dX8_ahead_27 ki_20 rfl hx1 ?_
    refine a_iadd (pc := 28) dX8_ahead_28 ?_
    obtain ⟨x2, hx2, hf⟩ := Option.bind_eq_some_iff.mp hf
    refine m_ald (pc := 29) 28 hA dX8_ahead_29 ki_6 rfl hx2 ?_
    refine a_goto (pc := 30) 34 dX8_ahead_30 (by decide) ?_
    refine a_sub (sub_d sub_n) ?_
    exact sX8_ahead_34 hA hd hk hn hf
set_option maxHeartbeats 4000000 in
theorem mX8_ahead {l : Launch} {g : gE} {d : Nat} {A D : List va_E} (hA : A.length = 26) (hd : 0 ≤ d) {r : Int32 × MS} {S : MS} (hf : X8_ahead S = some r) : AM l g d yX8_ahead cX8_ahead 1 (some .int) 0 0 [.ref 26] (mh A S D) (Qr (some (.int r.1)) (mh A r.2 D)) := by
  refine AM.of rfl (by exact Nat.le_of_ble_eq_true rfl) (fun v h' q => by obtain ⟨rfl, -⟩ := q; exact ⟨_, rfl, rfl⟩) (fun ls e => ?_)
  have e2 : aBeg [.ref 26] 1 = [some (.ref 26)] := rfl
  rw [e2] at e
  subst e
  refine a_sub (sub_k (sub_n)) ?_
  exact sX8_ahead_0 hA hd (Nat.le_refl _) (Nat.le_refl _) (hf)
-- PencilStrikesModel.has(II)Z
def X8_has_14 (S : MS) (s0 : Int32) : Option (Int32 × MS) :=
  some (s0, S)
def X8_has_0 (S : MS) (l1 : Int32) (l2 : Int32) : Option (Int32 × MS) :=
  if ((l1 >>> (l2 &&& 31)) &&& 1) = 1 then
    X8_has_14 S 1
  else
    X8_has_14 S 0
def X8_has (S : MS) (l1 : Int32) (l2 : Int32) : Option (Int32 × MS) := zg (X8_has_0 S l1 l2)
set_option maxHeartbeats 4000000 in
theorem sX8_has_14 {l : Launch} {g : gE} {d MC MS' k n : Nat} {A D : List va_E} (hA : A.length = 26) (hd : 0 ≤ d) (hk : k ≤ MC) (hn : n ≤ MS') {r : Int32 × MS} {S : MS} {s0 : Int32} (hf : X8_has_14 S s0 = some r) : AW l g d RX8 cX8_has 3 "has" MC MS' (Qr (some (.int r.1)) (mh A r.2 D)) k n 14 [none, none, none] [.int s0] (mh A S D) := by
  unfold X8_has_14 at hf
  have hf := Option.some.inj hf
  subst hf
  exact a_ireturn (pc := 14) dX8_has_14 hk hn ⟨rfl, rfl⟩
set_option maxHeartbeats 4000000 in
theorem sX8_has_0 {l : Launch} {g : gE} {d MC MS' k n : Nat} {A D : List va_E} (hA : A.length = 26) (hd : 0 ≤ d) (hk : k ≤ MC) (hn : n ≤ MS') {r : Int32 × MS} {S : MS} {l1 : Int32} {l2 : Int32} (hf : X8_has_0 S l1 l2 = some r) : AW l g d RX8 cX8_has 3 "has" MC MS' (Qr (some (.int r.1)) (mh A r.2 D)) k n 0 [none, some (.int l1), some (.int l2)] [] (mh A S D) := by
  unfold X8_has_0 at hf
  refine a_iload_n (pc := 0) dX8_has_0 rfl ?_
  refine a_iload_n (pc := 1) dX8_has_1 rfl ?_
  refine a_ishr (pc := 2) dX8_has_2 ?_
  refine a_iconst (pc := 3) 1 dX8_has_3 rfl ?_
  refine a_iand (pc := 4) dX8_has_4 ?_
  refine a_iconst (pc := 5) 1 dX8_has_5 rfl ?_
  refine a_icmp_ne (pc := 6) 13 dX8_has_6 (by decide) (fun c1 => ?_) (fun c1 => ?_)
  · have hf := (if_neg c1).symm.trans hf
    refine a_iconst (pc := 13) 0 dX8_has_13 rfl ?_
    refine a_sub (sub_k (sub_d (sub_d sub_n))) ?_
    exact sX8_has_14 hA hd hk hn hf
  · have hf := (if_pos c1).symm.trans hf
    refine a_iconst (pc := 9) 1 dX8_has_9 rfl ?_
    refine a_goto (pc := 10) 14 dX8_has_10 (by decide) ?_
    refine a_sub (sub_k (sub_d (sub_d sub_n))) ?_
    exact sX8_has_14 hA hd hk hn hf
set_option maxHeartbeats 4000000 in
theorem mX8_has {l : Launch} {g : gE} {d : Nat} {A D : List va_E} (hA : A.length = 26) (hd : 0 ≤ d) {r : Int32 × MS} {S : MS} {l1 : Int32} {l2 : Int32} (hf : X8_has S l1 l2 = some r) : AM l g d yX8_has cX8_has 3 (some .boolean) 0 0 [.ref 26, .int l1, .int l2] (mh A S D) (Qr (some (.int r.1)) (mh A r.2 D)) := by
  refine AM.of rfl (by exact Nat.le_of_ble_eq_true rfl) (fun v h' q => by obtain ⟨rfl, -⟩ := q; refine ⟨_, rfl, ?_⟩; rcases (zg_of hf).2 with e | e <;> rw [e] <;> rfl) (fun ls e => ?_)
  have e2 : aBeg [.ref 26, .int l1, .int l2] 3 = [some (.ref 26), some (.int l1), some (.int l2)] := rfl
  rw [e2] at e
  subst e
  refine a_sub (sub_d (sub_k (sub_k (sub_n)))) ?_
  exact sX8_has_0 hA hd (Nat.le_refl _) (Nat.le_refl _) ((zg_of hf).1)
-- PencilStrikesModel.duty(IIII)V
def X8_duty_0 (S : MS) (l1 : Int32) (l2 : Int32) (l3 : Int32) (l4 : Int32) : Option (Unit × MS) :=
  (mAs S 21 (S.1 28) l1).bind fun S1 =>
  (mAs S1 22 (S1.1 28) l2).bind fun S2 =>
  (mAs S2 23 (S2.1 28) l3).bind fun S3 =>
  (mAs S3 24 (S3.1 28) l4).bind fun S4 =>
  (mAs S4 25 (S4.1 28) 0).bind fun S5 =>
  (mAs S5 26 (S5.1 28) 0).bind fun S6 =>
  some ((), (si S6 28 ((S6.1 28) + 1)))
def X8_duty (S : MS) (l1 : Int32) (l2 : Int32) (l3 : Int32) (l4 : Int32) : Option (Unit × MS) := X8_duty_0 S l1 l2 l3 l4
set_option maxHeartbeats 4000000 in
theorem sX8_duty_0 {l : Launch} {g : gE} {d MC MS' k n : Nat} {A D : List va_E} (hA : A.length = 26) (hd : 0 ≤ d) (hk : k ≤ MC) (hn : n ≤ MS') {r : Unit × MS} {S : MS} {l1 : Int32} {l2 : Int32} {l3 : Int32} {l4 : Int32} (hf : X8_duty_0 S l1 l2 l3 l4 = some r) : AW l g d RX8 cX8_duty 5 "duty" MC MS' (Qr (none) (mh A r.2 D)) k n 0 [some (.ref 26), some (.int l1), some (.int l2), some (.int l3), some (.int l4)] [] (mh A S D) := by
  unfold X8_duty_0 at hf
  refine a_aload_n (pc := 0) dX8_duty_0 rfl (isRv_r _) ?_
  refine m_getA (pc := 1) 40 hA dX8_duty_1 fl_X8_74 (Or.inl ki_21) rfl ?_
  refine a_aload_n (pc := 4) dX8_duty_4 rfl (isRv_r _) ?_
  refine m_getS (pc := 5) hA dX8_duty_5 fl_X8_95 ks_28 ?_
  refine a_iload_n (pc := 8) dX8_duty_8 rfl ?_
  obtain ⟨S1, hS1, hf⟩ := Option.bind_eq_some_iff.mp hf
  refine m_ast (pc := 9) 40 hA dX8_duty_9 ki_21 rfl hS1 ?_
  refine a_aload_n (pc := 10) dX8_duty_10 rfl (isRv_r _) ?_
  refine m_getA (pc := 11) 41 hA dX8_duty_11 fl_X8_77 (Or.inl ki_22) rfl ?_
  refine a_aload_n (pc := 14) dX8_duty_14 rfl (isRv_r _) ?_
  refine m_getS (pc := 15) hA dX8_duty_15 fl_X8_95 ks_28 ?_
  refine a_iload_n (pc := 18) dX8_duty_18 rfl ?_
  obtain ⟨S2, hS2, hf⟩ := Option.bind_eq_some_iff.mp hf
  refine m_ast (pc := 19) 41 hA dX8_duty_19 ki_22 rfl hS2 ?_
  refine a_aload_n (pc := 20) dX8_duty_20 rfl (isRv_r _) ?_
  refine m_getA (pc := 21) 42 hA dX8_duty_21 fl_X8_80 (Or.inl ki_23) rfl ?_
  refine a_aload_n (pc := 24) dX8_duty_24 rfl (isRv_r _) ?_
  refine m_getS (pc := 25) hA dX8_duty_25 fl_X8_95 ks_28 ?_
  refine a_iload_n (pc := 28) dX8_duty_28 rfl ?_
  obtain ⟨S3, hS3, hf⟩ := Option.bind_eq_some_iff.mp hf
  refine m_ast (pc := 29) 42 hA dX8_duty_29 ki_23 rfl hS3 ?_
  refine a_aload_n (pc := 30) dX8_duty_30 rfl (isRv_r _) ?_
  refine m_getA (pc := 31) 43 hA dX8_duty_31 fl_X8_83 (Or.inl ki_24) rfl ?_
  refine a_aload_n (pc := 34) dX8_duty_34 rfl (isRv_r _) ?_
  refine m_getS (pc := 35) hA dX8_duty_35 fl_X8_95 ks_28 ?_
  refine a_iload (pc := 38) dX8_duty_38 rfl ?_
  obtain ⟨S4, hS4, hf⟩ := Option.bind_eq_some_iff.mp hf
  refine m_ast (pc := 40) 43 hA dX8_duty_40 ki_24 rfl hS4 ?_
  refine a_aload_n (pc := 41) dX8_duty_41 rfl (isRv_r _) ?_
  refine m_getA (pc := 42) 44 hA dX8_duty_42 fl_X8_86 (Or.inl ki_25) rfl ?_
  refine a_aload_n (pc := 45) dX8_duty_45 rfl (isRv_r _) ?_
  refine m_getS (pc := 46) hA dX8_duty_46 fl_X8_95 ks_28 ?_
  refine a_iconst (pc := 49) 0 dX8_duty_49 rfl ?_
  obtain ⟨S5, hS5, hf⟩ := Option.bind_eq_some_iff.mp hf
  refine m_ast (pc := 50) 44 hA dX8_duty_50 ki_25 rfl hS5 ?_
  refine a_aload_n (pc := 51) dX8_duty_51 rfl (isRv_r _) ?_
  refine m_getA (pc := 52) 45 hA dX8_duty_52 fl_X8_89 (Or.inl ki_26) rfl ?_
  refine a_aload_n (pc := 55) dX8_duty_55 rfl (isRv_r _) ?_
  refine m_getS (pc := 56) hA dX8_duty_56 fl_X8_95 ks_28 ?_
  refine a_iconst (pc := 59) 0 dX8_duty_59 rfl ?_
  obtain ⟨S6, hS6, hf⟩ := Option.bind_eq_some_iff.mp hf
  refine m_ast (pc := 60) 45 hA dX8_duty_60 ki_26 rfl hS6 ?_
  refine a_aload_n (pc := 61) dX8_duty_61 rfl (isRv_r _) ?_
  refine a_dup (pc := 62) dX8_duty_62 rfl ?_
  refine m_getS (pc := 63) hA dX8_duty_63 fl_X8_95 ks_28 ?_
  refine a_iconst (pc := 66) 1 dX8_duty_66 rfl ?_
  refine a_iadd (pc := 67) dX8_duty_67 ?_
  refine m_putS (pc := 68) hA dX8_duty_68 fl_X8_95 ks_28 ?_
  have hf := Option.some.inj hf
  subst hf
  exact a_return (pc := 71) dX8_duty_71 hk hn ⟨rfl, rfl⟩
set_option maxHeartbeats 4000000 in
theorem mX8_duty {l : Launch} {g : gE} {d : Nat} {A D : List va_E} (hA : A.length = 26) (hd : 0 ≤ d) {r : Unit × MS} {S : MS} {l1 : Int32} {l2 : Int32} {l3 : Int32} {l4 : Int32} (hf : X8_duty S l1 l2 l3 l4 = some r) : AM l g d yX8_duty cX8_duty 5 none 0 0 [.ref 26, .int l1, .int l2, .int l3, .int l4] (mh A S D) (Qr (none) (mh A r.2 D)) := by
  refine AM.of rfl (by exact Nat.le_of_ble_eq_true rfl) (fun v h' q => by obtain ⟨rfl, -⟩ := q; rfl) (fun ls e => ?_)
  have e2 : aBeg [.ref 26, .int l1, .int l2, .int l3, .int l4] 5 = [some (.ref 26), some (.int l1), some (.int l2), some (.int l3), some (.int l4)] := rfl
  rw [e2] at e
  subst e
  refine a_sub (sub_k (sub_k (sub_k (sub_k (sub_k (sub_n)))))) ?_
  exact sX8_duty_0 hA hd (Nat.le_refl _) (Nat.le_refl _) (hf)
-- PencilStrikesModel.figureNow()I
def X8_figureNow_0 (S : MS) : Option (Int32 × MS) :=
  (mA S 20 (S.1 29)).bind fun x1 =>
  (mA S 7 ((S.1 30) + x1)).bind fun x2 =>
  some (x2, (si S 29 ((S.1 29) + 1)))
def X8_figureNow (S : MS) : Option (Int32 × MS) := X8_figureNow_0 S
set_option maxHeartbeats 4000000 in
theorem sX8_figureNow_0 {l : Launch} {g : gE} {d MC MS' k n : Nat} {A D : List va_E} (hA : A.length = 26) (hd : 0 ≤ d) (hk : k ≤ MC) (hn : n ≤ MS') {r : Int32 × MS} {S : MS} (hf : X8_figureNow_0 S = some r) : AW l g d RX8 cX8_figureNow 2 "figureNow" MC MS' (Qr (some (.int r.1)) (mh A r.2 D)) k n 0 [some (.ref 26), none] [] (mh A S D) := by
  unfold X8_figureNow_0 at hf
  refine a_aload_n (pc := 0) dX8_figureNow_0 rfl (isRv_r _) ?_
  refine m_getA (pc := 1) 29 hA dX8_figureNow_1 fl_X8_32 (Or.inl ki_7) rfl ?_
  refine a_aload_n (pc := 4) dX8_figureNow_4 rfl (isRv_r _) ?_
  refine m_getS (pc := 5) hA dX8_figureNow_5 fl_X8_101 ks_30 ?_
  refine a_aload_n (pc := 8) dX8_figureNow_8 rfl (isRv_r _) ?_
  refine m_getA (pc := 9) 39 hA dX8_figureNow_9 fl_X8_71 (Or.inl ki_20) rfl ?_
  refine a_aload_n (pc := 12) dX8_figureNow_12 rfl (isRv_r _) ?_
  refine m_getS (pc := 13) hA dX8_figureNow_13 fl_X8_98 ks_29 ?_
  obtain ⟨x1, hx1, hf⟩ := Option.bind_eq_some_iff.mp hf
  refine m_ald (pc := 16) 39 hA dX8_figureNow_16 ki_20 rfl hx1 ?_
  refine a_iadd (pc := 17) dX8_figureNow_17 ?_
  obtain ⟨x2, hx2, hf⟩ := Option.bind_eq_some_iff.mp hf
  refine m_ald (pc := 18) 29 hA dX8_figureNow_18 ki_7 rfl hx2 ?_
  refine a_istore_n (pc := 19) (ls' := [some (.ref 26), some (.int x2)]) dX8_figureNow_19 (by decide) rfl ?_
  refine a_aload_n (pc := 20) dX8_figureNow_20 rfl (isRv_r _) ?_
  refine a_dup (pc := 21) dX8_figureNow_21 rfl ?_
  refine m_getS (pc := 22) hA dX8_figureNow_22 fl_X8_98 ks_29 ?_
  refine a_iconst (pc := 25) 1 dX8_figureNow_25 rfl ?_
  refine a_iadd (pc := 26) dX8_figureNow_26 ?_
  refine m_putS (pc := 27) hA dX8_figureNow_27 fl_X8_98 ks_29 ?_
  refine a_iload_n (pc := 30) dX8_figureNow_30 rfl ?_
  have hf := Option.some.inj hf
  subst hf
  exact a_ireturn (pc := 31) dX8_figureNow_31 hk hn ⟨rfl, rfl⟩
set_option maxHeartbeats 4000000 in
theorem mX8_figureNow {l : Launch} {g : gE} {d : Nat} {A D : List va_E} (hA : A.length = 26) (hd : 0 ≤ d) {r : Int32 × MS} {S : MS} (hf : X8_figureNow S = some r) : AM l g d yX8_figureNow cX8_figureNow 2 (some .int) 0 0 [.ref 26] (mh A S D) (Qr (some (.int r.1)) (mh A r.2 D)) := by
  refine AM.of rfl (by exact Nat.le_of_ble_eq_true rfl) (fun v h' q => by obtain ⟨rfl, -⟩ := q; exact ⟨_, rfl, rfl⟩) (fun ls e => ?_)
  have e2 : aBeg [.ref 26] 2 = [some (.ref 26), none] := rfl
  rw [e2] at e
  subst e
  refine a_sub (sub_k (sub_k (sub_n))) ?_
  exact sX8_figureNow_0 hA hd (Nat.le_refl _) (Nat.le_refl _) (hf)
-- PencilStrikesModel.readsThings(III)Z
def X8_readsThings_94 (rec6 : MS → Int32 → Int32 → Int32 → Int32 → Int32 → Option (Int32 × MS)) (S : MS) (s1 : Int32) (s2 : Int32) (l1 : Int32) (l2 : Int32) (l3 : Int32) (l4 : Int32) (l5 : Int32) : Option (Int32 × MS) :=
  rec6 (si S 29 (s1 + s2)) l1 l2 l3 l4 l5
def X8_readsThings_77 (rec6 : MS → Int32 → Int32 → Int32 → Int32 → Int32 → Option (Int32 × MS)) (S : MS) (s0 : Int32) (l1 : Int32) (l2 : Int32) (l3 : Int32) (l4 : Int32) : Option (Int32 × MS) :=
  if l4 = 0 then
    X8_readsThings_94 rec6 S (S.1 29) 0 l1 l2 l3 l4 s0
  else
    X8_readsThings_94 rec6 S (S.1 29) 1 l1 l2 l3 l4 s0
def X8_readsThings_61 (rec6 : MS → Int32 → Int32 → Int32 → Int32 → Int32 → Option (Int32 × MS)) (S : MS) (s0 : Int32) (l1 : Int32) (l2 : Int32) (l3 : Int32) : Option (Int32 × MS) :=
  (X8_ahead S).bind fun r1 =>
  if r1.1 = 38 then
    X8_readsThings_77 rec6 r1.2 1 l1 l2 l3 s0
  else
    X8_readsThings_77 rec6 r1.2 0 l1 l2 l3 s0
def X8_readsThings_56 (rec6 : MS → Int32 → Int32 → Int32 → Int32 → Int32 → Option (Int32 × MS)) (S : MS) (l1 : Int32) (l2 : Int32) (l3 : Int32) : Option (Int32 × MS) :=
  X8_readsThings_61 rec6 S 1 l1 l2 l3
def X8_readsThings_60 (rec6 : MS → Int32 → Int32 → Int32 → Int32 → Int32 → Option (Int32 × MS)) (S : MS) (l1 : Int32) (l2 : Int32) (l3 : Int32) : Option (Int32 × MS) :=
  X8_readsThings_61 rec6 S 0 l1 l2 l3
def X8_readsThings_6 : Nat → MS → Int32 → Int32 → Int32 → Int32 → Int32 → Option (Int32 × MS)
  | 0, _, _, _, _, _, _ => none
  | fn + 1, S, l1, l2, l3, l4, l5 =>
    if l4 = 0 then
      some (1, S)
    else
      (X8_ahead S).bind fun r1 =>
      if r1.1 = 119 then
        (X8_figureNow r1.2).bind fun r2 =>
        (X8_duty r2.2 l1 l2 l3 r2.1).bind fun r3 =>
        if l5 = 0 then
          (X8_ahead r3.2).bind fun r4 =>
          if r4.1 = 44 then
            X8_readsThings_56 (X8_readsThings_6 fn) r4.2 l1 l2 l3
          else
            (X8_ahead r4.2).bind fun r5 =>
            if r5.1 = 38 then
              X8_readsThings_56 (X8_readsThings_6 fn) r5.2 l1 l2 l3
            else
              X8_readsThings_60 (X8_readsThings_6 fn) r5.2 l1 l2 l3
        else
          X8_readsThings_60 (X8_readsThings_6 fn) r3.2 l1 l2 l3
      else
        some (0, r1.2)
def X8_readsThings_0 (S : MS) (l1 : Int32) (l2 : Int32) (l3 : Int32) : Option (Int32 × MS) :=
  X8_readsThings_6 FU S l1 l2 l3 1 0
def X8_readsThings (S : MS) (l1 : Int32) (l2 : Int32) (l3 : Int32) : Option (Int32 × MS) := zg (X8_readsThings_0 S l1 l2 l3)
set_option maxHeartbeats 4000000 in
theorem sX8_readsThings_94 {l : Launch} {g : gE} {d MC MS' k n : Nat} {A D : List va_E} (hA : A.length = 26) (hd : 1 ≤ d) (hk : k ≤ MC) (hn : n ≤ MS') {r : Int32 × MS} {rec6 : MS → Int32 → Int32 → Int32 → Int32 → Int32 → Option (Int32 × MS)} (hlp6 : ∀ (S : MS) (l1 : Int32) (l2 : Int32) (l3 : Int32) (l4 : Int32) (l5 : Int32), rec6 S l1 l2 l3 l4 l5 = some r → AW l g d RX8 cX8_readsThings 6 "readsThings" MC MS' (Qr (some (.int r.1)) (mh A r.2 D)) k n 6 [some (.ref 26), some (.int l1), some (.int l2), some (.int l3), some (.int l4), some (.int l5)] [] (mh A S D)) {S : MS} {s1 : Int32} {s2 : Int32} {l1 : Int32} {l2 : Int32} {l3 : Int32} {l4 : Int32} {l5 : Int32} (hf : X8_readsThings_94 rec6 S s1 s2 l1 l2 l3 l4 l5 = some r) : AW l g d RX8 cX8_readsThings 6 "readsThings" MC MS' (Qr (some (.int r.1)) (mh A r.2 D)) k n 94 [some (.ref 26), some (.int l1), some (.int l2), some (.int l3), some (.int l4), some (.int l5)] [.int s2, .int s1, .ref 26] (mh A S D) := by
  unfold X8_readsThings_94 at hf
  refine a_iadd (pc := 94) dX8_readsThings_94 ?_
  refine m_putS (pc := 95) hA dX8_readsThings_95 fl_X8_98 ks_29 ?_
  refine a_goto (pc := 98) 6 dX8_readsThings_98 (by decide) ?_
  exact hlp6 (si S 29 (s1 + s2)) l1 l2 l3 l4 l5 hf
set_option maxHeartbeats 4000000 in
theorem sX8_readsThings_77 {l : Launch} {g : gE} {d MC MS' k n : Nat} {A D : List va_E} (hA : A.length = 26) (hd : 1 ≤ d) (hk : k ≤ MC) (hn : n ≤ MS') {r : Int32 × MS} {rec6 : MS → Int32 → Int32 → Int32 → Int32 → Int32 → Option (Int32 × MS)} (hlp6 : ∀ (S : MS) (l1 : Int32) (l2 : Int32) (l3 : Int32) (l4 : Int32) (l5 : Int32), rec6 S l1 l2 l3 l4 l5 = some r → AW l g d RX8 cX8_readsThings 6 "readsThings" MC MS' (Qr (some (.int r.1)) (mh A r.2 D)) k n 6 [some (.ref 26), some (.int l1), some (.int l2), some (.int l3), some (.int l4), some (.int l5)] [] (mh A S D)) {S : MS} {s0 : Int32} {l1 : Int32} {l2 : Int32} {l3 : Int32} {l4 : Int32} (hf : X8_readsThings_77 rec6 S s0 l1 l2 l3 l4 = some r) : AW l g d RX8 cX8_readsThings 6 "readsThings" MC MS' (Qr (some (.int r.1)) (mh A r.2 D)) k n 77 [some (.ref 26), some (.int l1), some (.int l2), some (.int l3), some (.int l4), none] [.int s0] (mh A S D) := by
  unfold X8_readsThings_77 at hf
  refine a_istore (pc := 77) (ls' := [some (.ref 26), some (.int l1), some (.int l2), some (.int l3), some (.int l4), some (.int s0)]) dX8_readsThings_77 (by decide) rfl ?_
  refine a_aload_n (pc := 79) dX8_readsThings_79 rfl (isRv_r _) ?_
  refine a_dup (pc := 80) dX8_readsThings_80 rfl ?_
  refine m_getS (pc := 81) hA dX8_readsThings_81 fl_X8_98 ks_29 ?_
  refine a_iload (pc := 84) dX8_readsThings_84 rfl ?_
  refine a_if_eq (pc := 86) 93 dX8_readsThings_86 (by decide) (fun c1 => ?_) (fun c1 => ?_)
  · have hf := (if_pos c1).symm.trans hf
    refine a_iconst (pc := 93) 0 dX8_readsThings_93 rfl ?_
    exact sX8_readsThings_94 hA hd hk hn hlp6 hf
  · have hf := (if_neg c1).symm.trans hf
    refine a_iconst (pc := 89) 1 dX8_readsThings_89 rfl ?_
    refine a_goto (pc := 90) 94 dX8_readsThings_90 (by decide) ?_
    exact sX8_readsThings_94 hA hd hk hn hlp6 hf
set_option maxHeartbeats 4000000 in
theorem sX8_readsThings_61 {l : Launch} {g : gE} {d MC MS' k n : Nat} {A D : List va_E} (hA : A.length = 26) (hd : 1 ≤ d) (hk : k ≤ MC) (hn : n ≤ MS') {r : Int32 × MS} {rec6 : MS → Int32 → Int32 → Int32 → Int32 → Int32 → Option (Int32 × MS)} (hlp6 : ∀ (S : MS) (l1 : Int32) (l2 : Int32) (l3 : Int32) (l4 : Int32) (l5 : Int32), rec6 S l1 l2 l3 l4 l5 = some r → AW l g d RX8 cX8_readsThings 6 "readsThings" MC MS' (Qr (some (.int r.1)) (mh A r.2 D)) k n 6 [some (.ref 26), some (.int l1), some (.int l2), some (.int l3), some (.int l4), some (.int l5)] [] (mh A S D)) {S : MS} {s0 : Int32} {l1 : Int32} {l2 : Int32} {l3 : Int32} (hf : X8_readsThings_61 rec6 S s0 l1 l2 l3 = some r) : AW l g d RX8 cX8_readsThings 6 "readsThings" MC MS' (Qr (some (.int r.1)) (mh A r.2 D)) k n 61 [some (.ref 26), some (.int l1), some (.int l2), some (.int l3), none, none] [.int s0] (mh A S D) := by
  unfold X8_readsThings_61 at hf
  refine a_istore (pc := 61) (ls' := [some (.ref 26), some (.int l1), some (.int l2), some (.int l3), some (.int s0), none]) dX8_readsThings_61 (by decide) rfl ?_
  refine a_aload_n (pc := 63) dX8_readsThings_63 rfl (isRv_r _) ?_
  obtain ⟨r1, hr1, hf⟩ := Option.bind_eq_some_iff.mp hf
  refine m_call (pc := 64) (.int (r1.1)) [] [] hA dX8_readsThings_64 ml_X8_206 mv_X8_ahead rfl rfl (by omega) (mX8_ahead hA (by omega) hr1) rfl (Nat.le_of_ble_eq_true rfl) hk hn ?_
  refine a_bipush (pc := 67) 38 dX8_readsThings_67 rfl ?_
  refine a_icmp_ne (pc := 69) 76 dX8_readsThings_69 (by decide) (fun c2 => ?_) (fun c2 => ?_)
  · have hf := (if_neg c2).symm.trans hf
    refine a_iconst (pc := 76) 0 dX8_readsThings_76 rfl ?_
    exact sX8_readsThings_77 hA hd hk hn hlp6 hf
  · have hf := (if_pos c2).symm.trans hf
    refine a_iconst (pc := 72) 1 dX8_readsThings_72 rfl ?_
    refine a_goto (pc := 73) 77 dX8_readsThings_73 (by decide) ?_
    exact sX8_readsThings_77 hA hd hk hn hlp6 hf
set_option maxHeartbeats 4000000 in
theorem sX8_readsThings_56 {l : Launch} {g : gE} {d MC MS' k n : Nat} {A D : List va_E} (hA : A.length = 26) (hd : 1 ≤ d) (hk : k ≤ MC) (hn : n ≤ MS') {r : Int32 × MS} {rec6 : MS → Int32 → Int32 → Int32 → Int32 → Int32 → Option (Int32 × MS)} (hlp6 : ∀ (S : MS) (l1 : Int32) (l2 : Int32) (l3 : Int32) (l4 : Int32) (l5 : Int32), rec6 S l1 l2 l3 l4 l5 = some r → AW l g d RX8 cX8_readsThings 6 "readsThings" MC MS' (Qr (some (.int r.1)) (mh A r.2 D)) k n 6 [some (.ref 26), some (.int l1), some (.int l2), some (.int l3), some (.int l4), some (.int l5)] [] (mh A S D)) {S : MS} {l1 : Int32} {l2 : Int32} {l3 : Int32} (hf : X8_readsThings_56 rec6 S l1 l2 l3 = some r) : AW l g d RX8 cX8_readsThings 6 "readsThings" MC MS' (Qr (some (.int r.1)) (mh A r.2 D)) k n 56 [some (.ref 26), some (.int l1), some (.int l2), some (.int l3), none, none] [] (mh A S D) := by
  unfold X8_readsThings_56 at hf
  refine a_iconst (pc := 56) 1 dX8_readsThings_56 rfl ?_
  refine a_goto (pc := 57) 61 dX8_readsThings_57 (by decide) ?_
  exact sX8_readsThings_61 hA hd hk hn hlp6 hf
set_option maxHeartbeats 4000000 in
theorem sX8_readsThings_60 {l : Launch} {g : gE} {d MC MS' k n : Nat} {A D : List va_E} (hA : A.length = 26) (hd : 1 ≤ d) (hk : k ≤ MC) (hn : n ≤ MS') {r : Int32 × MS} {rec6 : MS → Int32 → Int32 → Int32 → Int32 → Int32 → Option (Int32 × MS)} (hlp6 : ∀ (S : MS) (l1 : Int32) (l2 : Int32) (l3 : Int32) (l4 : Int32) (l5 : Int32), rec6 S l1 l2 l3 l4 l5 = some r → AW l g d RX8 cX8_readsThings 6 "readsThings" MC MS' (Qr (some (.int r.1)) (mh A r.2 D)) k n 6 [some (.ref 26), some (.int l1), some (.int l2), some (.int l3), some (.int l4), some (.int l5)] [] (mh A S D)) {S : MS} {l1 : Int32} {l2 : Int32} {l3 : Int32} (hf : X8_readsThings_60 rec6 S l1 l2 l3 = some r) : AW l g d RX8 cX8_readsThings 6 "readsThings" MC MS' (Qr (some (.int r.1)) (mh A r.2 D)) k n 60 [some (.ref 26), some (.int l1), some (.int l2), some (.int l3), none, none] [] (mh A S D) := by
  unfold X8_readsThings_60 at hf
  refine a_iconst (pc := 60) 0 dX8_readsThings_60 rfl ?_
  exact sX8_readsThings_61 hA hd hk hn hlp6 hf
set_option maxHeartbeats 4000000 in
theorem sX8_readsThings_6 {l : Launch} {g : gE} {d MC MS' k n : Nat} {A D : List va_E} (hA : A.length = 26) (hd : 1 ≤ d) (hk : k ≤ MC) (hn : n ≤ MS') {r : Int32 × MS} : ∀ (fn : Nat) (S : MS) (l1 : Int32) (l2 : Int32) (l3 : Int32) (l4 : Int32) (l5 : Int32), X8_readsThings_6 fn S l1 l2 l3 l4 l5 = some r → AW l g d RX8 cX8_readsThings 6 "readsThings" MC MS' (Qr (some (.int r.1)) (mh A r.2 D)) k n 6 [some (.ref 26), some (.int l1), some (.int l2), some (.int l3), some (.int l4), some (.int l5)] [] (mh A S D) := by
  intro fn
  induction fn with
  | zero =>
    intro S l1 l2 l3 l4 l5 hf
    rw [X8_readsThings_6] at hf
    cases hf
  | succ fn ih =>
    intro S l1 l2 l3 l4 l5 hf
    rw [X8_readsThings_6] at hf
    refine a_iload (pc := 6) dX8_readsThings_6 rfl ?_
    refine a_if_eq (pc := 8) 101 dX8_readsThings_8 (by decide) (fun c10 => ?_) (fun c10 => ?_)
    · have hf := (if_pos c10).symm.trans hf
      refine a_iconst (pc := 101) 1 dX8_readsThings_101 rfl ?_
      have hf := Option.some.inj hf
      subst hf
      exact a_ireturn (pc := 102) dX8_readsThings_102 hk hn ⟨rfl, rfl⟩
    · have hf := (if_neg c10).symm.trans hf
      refine a_aload_n (pc := 11) dX8_readsThings_11 rfl (isRv_r _) ?_
      obtain ⟨r1, hr1, hf⟩ := Option.bind_eq_some_iff.mp hf
      refine m_call (pc := 12) (.int (r1.1)) [] [] hA dX8_readsThings_12 ml_X8_206 mv_X8_ahead rfl rfl (by omega) (mX8_ahead hA (by omega) hr1) rfl (Nat.le_of_ble_eq_true rfl) hk hn ?_
      refine a_bipush (pc := 15) 119 dX8_readsThings_15 rfl ?_
      refine a_icmp_eq (pc := 17) 22 dX8_readsThings_17 (by decide) (fun c9 => ?_) (fun c9 => ?_)
      · have hf := (if_pos c9).symm.trans hf
        refine a_aload_n (pc := 22) dX8_readsThings_22 rfl (isRv_r _) ?_
        refine a_iload_n (pc := 23) dX8_readsThings_23 rfl ?_
        refine a_iload_n (pc := 24) dX8_readsThings_24 rfl ?_
        refine a_iload_n (pc := 25) dX8_readsThings_25 rfl ?_
        refine a_aload_n (pc := 26) dX8_readsThings_26 rfl (isRv_r _) ?_
        obtain ⟨r2, hr2, hf⟩ := Option.bind_eq_some_iff.mp hf
        refine m_call (pc := 27) (.int (r2.1)) [] [.int l3, .int l2, .int l1, .ref 26] hA dX8_readsThings_27 ml_X8_209 mv_X8_figureNow rfl rfl (by omega) (mX8_figureNow hA (by omega) hr2) rfl (Nat.le_of_ble_eq_true rfl) hk hn ?_
        obtain ⟨r3, hr3, hf⟩ := Option.bind_eq_some_iff.mp hf
        refine m_callv (pc := 30) [.int l1, .int l2, .int l3, .int (r2.1)] [] hA dX8_readsThings_30 ml_X8_212 mv_X8_duty rfl rfl (by omega) (mX8_duty hA (by omega) hr3) rfl (Nat.le_of_ble_eq_true rfl) hk hn ?_
        refine a_iload (pc := 33) dX8_readsThings_33 rfl ?_
        refine a_if_ne (pc := 35) 60 dX8_readsThings_35 (by decide) (fun c8 => ?_) (fun c8 => ?_)
        · have hf := (if_neg c8).symm.trans hf
          refine a_sub (sub_k (sub_k (sub_k (sub_k (sub_d (sub_d sub_n)))))) ?_
          exact sX8_readsThings_60 hA hd hk hn ih hf
        · have hf := (if_pos c8).symm.trans hf
          refine a_aload_n (pc := 38) dX8_readsThings_38 rfl (isRv_r _) ?_
          obtain ⟨r4, hr4, hf⟩ := Option.bind_eq_some_iff.mp hf
          refine m_call (pc := 39) (.int (r4.1)) [] [] hA dX8_readsThings_39 ml_X8_206 mv_X8_ahead rfl rfl (by omega) (mX8_ahead hA (by omega) hr4) rfl (Nat.le_of_ble_eq_true rfl) hk hn ?_
          refine a_bipush (pc := 42) 44 dX8_readsThings_42 rfl ?_
          refine a_icmp_eq (pc := 44) 56 dX8_readsThings_44 (by decide) (fun c7 => ?_) (fun c7 => ?_)
          · have hf := (if_pos c7).symm.trans hf
            refine a_sub (sub_k (sub_k (sub_k (sub_k (sub_d (sub_d sub_n)))))) ?_
            exact sX8_readsThings_56 hA hd hk hn ih hf
          · have hf := (if_neg c7).symm.trans hf
            refine a_aload_n (pc := 47) dX8_readsThings_47 rfl (isRv_r _) ?_
            obtain ⟨r5, hr5, hf⟩ := Option.bind_eq_some_iff.mp hf
            refine m_call (pc := 48) (.int (r5.1)) [] [] hA dX8_readsThings_48 ml_X8_206 mv_X8_ahead rfl rfl (by omega) (mX8_ahead hA (by omega) hr5) rfl (Nat.le_of_ble_eq_true rfl) hk hn ?_
            refine a_bipush (pc := 51) 38 dX8_readsThings_51 rfl ?_
            refine a_icmp_ne (pc := 53) 60 dX8_readsThings_53 (by decide) (fun c6 => ?_) (fun c6 => ?_)
            · have hf := (if_neg c6).symm.trans hf
              refine a_sub (sub_k (sub_k (sub_k (sub_k (sub_d (sub_d sub_n)))))) ?_
              exact sX8_readsThings_60 hA hd hk hn ih hf
            · have hf := (if_pos c6).symm.trans hf
              refine a_sub (sub_k (sub_k (sub_k (sub_k (sub_d (sub_d sub_n)))))) ?_
              exact sX8_readsThings_56 hA hd hk hn ih hf
      · have hf := (if_neg c9).symm.trans hf
        refine a_iconst (pc := 20) 0 dX8_readsThings_20 rfl ?_
        have hf := Option.some.inj hf
        subst hf
        exact a_ireturn (pc := 21) dX8_readsThings_21 hk hn ⟨rfl, rfl⟩
set_option maxHeartbeats 4000000 in
theorem sX8_readsThings_0 {l : Launch} {g : gE} {d MC MS' k n : Nat} {A D : List va_E} (hA : A.length = 26) (hd : 1 ≤ d) (hk : k ≤ MC) (hn : n ≤ MS') {r : Int32 × MS} {S : MS} {l1 : Int32} {l2 : Int32} {l3 : Int32} (hf : X8_readsThings_0 S l1 l2 l3 = some r) : AW l g d RX8 cX8_readsThings 6 "readsThings" MC MS' (Qr (some (.int r.1)) (mh A r.2 D)) k n 0 [some (.ref 26), some (.int l1), some (.int l2), some (.int l3), none, none] [] (mh A S D) := by
  unfold X8_readsThings_0 at hf
  refine a_iconst (pc := 0) 1 dX8_readsThings_0 rfl ?_
  refine a_istore (pc := 1) (ls' := [some (.ref 26), some (.int l1), some (.int l2), some (.int l3), some (.int 1), none]) dX8_readsThings_1 (by decide) rfl ?_
  refine a_iconst (pc := 3) 0 dX8_readsThings_3 rfl ?_
  refine a_istore (pc := 4) (ls' := [some (.ref 26), some (.int l1), some (.int l2), some (.int l3), some (.int 1), some (.int 0)]) dX8_readsThings_4 (by decide) rfl ?_
  exact sX8_readsThings_6 hA hd hk hn FU S l1 l2 l3 1 0 hf
set_option maxHeartbeats 4000000 in
theorem mX8_readsThings {l : Launch} {g : gE} {d : Nat} {A D : List va_E} (hA : A.length = 26) (hd : 1 ≤ d) {r : Int32 × MS} {S : MS} {l1 : Int32} {l2 : Int32} {l3 : Int32} (hf : X8_readsThings S l1 l2 l3 = some r) : AM l g d yX8_readsThings cX8_readsThings 6 (some .boolean) 0 0 [.ref 26, .int l1, .int l2, .int l3] (mh A S D) (Qr (some (.int r.1)) (mh A r.2 D)) := by
  refine AM.of rfl (by exact Nat.le_of_ble_eq_true rfl) (fun v h' q => by obtain ⟨rfl, -⟩ := q; refine ⟨_, rfl, ?_⟩; rcases (zg_of hf).2 with e | e <;> rw [e] <;> rfl) (fun ls e => ?_)
  have e2 : aBeg [.ref 26, .int l1, .int l2, .int l3] 6 = [some (.ref 26), some (.int l1), some (.int l2), some (.int l3), none, none] := rfl
  rw [e2] at e
  subst e
  refine a_sub (sub_k (sub_k (sub_k (sub_k (sub_k (sub_k (sub_n))))))) ?_
  exact sX8_readsThings_0 hA hd (Nat.le_refl _) (Nat.le_refl _) ((zg_of hf).1)
-- PencilStrikesModel.readsClause()Z
def X8_readsClause_187 : Nat → MS → Int32 → Int32 → Int32 → Option (Int32 × MS)
  | 0, _, _, _, _ => none
  | fn + 1, S, l5, l6, l7 =>
    if (S.1 28) ≤ l7 then
      some (1, S)
    else
      (mAs S 25 l7 l5).bind fun S1 =>
      (mAs S1 26 l7 l6).bind fun S2 =>
      X8_readsClause_187 fn S2 l5 l6 (l7 + 1)
def X8_readsClause_181 (S : MS) (s0 : Int32) (l4 : Int32) (l5 : Int32) : Option (Int32 × MS) :=
  X8_readsClause_187 FU S l5 s0 l4
def X8_readsClause_161 (S : MS) (s0 : Int32) (l4 : Int32) : Option (Int32 × MS) :=
  (X8_ahead S).bind fun r1 =>
  if r1.1 = 102 then
    (X8_figureNow r1.2).bind fun r2 =>
    X8_readsClause_181 r2.2 r2.1 l4 s0
  else
    X8_readsClause_181 r1.2 10 l4 s0
def X8_readsClause_114 (S : MS) (s0 : Int32) (l1 : Int32) (l2 : Int32) : Option (Int32 × MS) :=
  (X8_readsThings (si S 29 ((S.1 29) + s0)) l1 l2 s0).bind fun r1 =>
  if r1.1 = 0 then
    some (0, r1.2)
  else
    (X8_ahead r1.2).bind fun r2 =>
    if r2.1 = 105 then
      (X8_figureNow r2.2).bind fun r3 =>
      X8_readsClause_161 r3.2 r3.1 ((si S 29 ((S.1 29) + s0)).1 28)
    else
      X8_readsClause_161 r2.2 10 ((si S 29 ((S.1 29) + s0)).1 28)
def X8_readsClause_64 (S : MS) (s0 : Int32) (l1 : Int32) : Option (Int32 × MS) :=
  (X8_ahead (si S 29 ((S.1 29) + 1))).bind fun r1 =>
  if r1.1 = 112 then
    (X8_figureNow r1.2).bind fun r4 =>
    (X8_duty r4.2 l1 s0 0 (10 + r4.1)).bind fun r5 =>
    some (1, r5.2)
  else
    (X8_ahead r1.2).bind fun r2 =>
    if r2.1 = 110 then
      X8_readsClause_114 r2.2 1 l1 s0
    else
      X8_readsClause_114 r2.2 0 l1 s0
def X8_readsClause_50 (S : MS) (l1 : Int32) : Option (Int32 × MS) :=
  (X8_ahead S).bind fun r1 =>
  if r1.1 = 109 then
    X8_readsClause_64 r1.2 1 l1
  else
    X8_readsClause_64 r1.2 0 l1
def X8_readsClause_0 (S : MS) : Option (Int32 × MS) :=
  (X8_ahead S).bind fun r1 =>
  (X8_in r1.2 (r1.1 - 97) 0 1).bind fun r2 =>
  if r2.1 = 0 then
    some (0, r2.2)
  else
    (X8_ahead (si r2.2 29 ((r2.2.1 29) + 1))).bind fun r3 =>
    if r3.1 = 109 then
      X8_readsClause_50 r3.2 (r1.1 - 97)
    else
      (X8_ahead r3.2).bind fun r4 =>
      if r4.1 = 121 then
        X8_readsClause_50 r4.2 (r1.1 - 97)
      else
        some (0, r4.2)
def X8_readsClause (S : MS) : Option (Int32 × MS) := zg (X8_readsClause_0 S)
set_option maxHeartbeats 4000000 in
theorem sX8_readsClause_187 {l : Launch} {g : gE} {d MC MS' k n : Nat} {A D : List va_E} (hA : A.length = 26) (hd : 2 ≤ d) (hk : k ≤ MC) (hn : n ≤ MS') {r : Int32 × MS} : ∀ (fn : Nat) (S : MS) (l5 : Int32) (l6 : Int32) (l7 : Int32), X8_readsClause_187 fn S l5 l6 l7 = some r → AW l g d RX8 cX8_readsClause 8 "readsClause" MC MS' (Qr (some (.int r.1)) (mh A r.2 D)) k n 187 [some (.ref 26), none, none, none, none, some (.int l5), some (.int l6), some (.int l7)] [] (mh A S D) := by
  intro fn
  induction fn with
  | zero =>
    intro S l5 l6 l7 hf
    rw [X8_readsClause_187] at hf
    cases hf
  | succ fn ih =>
    intro S l5 l6 l7 hf
    rw [X8_readsClause_187] at hf
    refine a_iload (pc := 187) dX8_readsClause_187 rfl ?_
    refine a_aload_n (pc := 189) dX8_readsClause_189 rfl (isRv_r _) ?_
    refine m_getS (pc := 190) hA dX8_readsClause_190 fl_X8_95 ks_28 ?_
    refine a_icmp_ge (pc := 193) 220 dX8_readsClause_193 (by decide) (fun c3 => ?_) (fun c3 => ?_)
    · have hf := (if_pos c3).symm.trans hf
      refine a_iconst (pc := 220) 1 dX8_readsClause_220 rfl ?_
      have hf := Option.some.inj hf
      subst hf
      exact a_ireturn (pc := 221) dX8_readsClause_221 hk hn ⟨rfl, rfl⟩
    · have hf := (if_neg c3).symm.trans hf
      refine a_aload_n (pc := 196) dX8_readsClause_196 rfl (isRv_r _) ?_
      refine m_getA (pc := 197) 44 hA dX8_readsClause_197 fl_X8_86 (Or.inl ki_25) rfl ?_
      refine a_iload (pc := 200) dX8_readsClause_200 rfl ?_
      refine a_iload (pc := 202) dX8_readsClause_202 rfl ?_
      obtain ⟨S1, hS1, hf⟩ := Option.bind_eq_some_iff.mp hf
      refine m_ast (pc := 204) 44 hA dX8_readsClause_204 ki_25 rfl hS1 ?_
      refine a_aload_n (pc := 205) dX8_readsClause_205 rfl (isRv_r _) ?_
      refine m_getA (pc := 206) 45 hA dX8_readsClause_206 fl_X8_89 (Or.inl ki_26) rfl ?_
      refine a_iload (pc := 209) dX8_readsClause_209 rfl ?_
      refine a_iload (pc := 211) dX8_readsClause_211 rfl ?_
      obtain ⟨S2, hS2, hf⟩ := Option.bind_eq_some_iff.mp hf
      refine m_ast (pc := 213) 45 hA dX8_readsClause_213 ki_26 rfl hS2 ?_
      refine a_iinc (pc := 214) (ls' := [some (.ref 26), none, none, none, none, some (.int l5), some (.int l6), some (.int (l7 + 1))]) (l7 + 1) dX8_readsClause_214 rfl rfl (by decide) rfl ?_
      refine a_goto (pc := 217) 187 dX8_readsClause_217 (by decide) ?_
      exact ih S2 l5 l6 (l7 + 1) hf
set_option maxHeartbeats 4000000 in
theorem sX8_readsClause_181 {l : Launch} {g : gE} {d MC MS' k n : Nat} {A D : List va_E} (hA : A.length = 26) (hd : 2 ≤ d) (hk : k ≤ MC) (hn : n ≤ MS') {r : Int32 × MS} {S : MS} {s0 : Int32} {l4 : Int32} {l5 : Int32} (hf : X8_readsClause_181 S s0 l4 l5 = some r) : AW l g d RX8 cX8_readsClause 8 "readsClause" MC MS' (Qr (some (.int r.1)) (mh A r.2 D)) k n 181 [some (.ref 26), none, none, none, some (.int l4), some (.int l5), none, none] [.int s0] (mh A S D) := by
  unfold X8_readsClause_181 at hf
  refine a_istore (pc := 181) (ls' := [some (.ref 26), none, none, none, some (.int l4), some (.int l5), some (.int s0), none]) dX8_readsClause_181 (by decide) rfl ?_
  refine a_iload (pc := 183) dX8_readsClause_183 rfl ?_
  refine a_istore (pc := 185) (ls' := [some (.ref 26), none, none, none, some (.int l4), some (.int l5), some (.int s0), some (.int l4)]) dX8_readsClause_185 (by decide) rfl ?_
  refine a_sub (sub_k (sub_k (sub_k (sub_k (sub_d (sub_k (sub_k (sub_k sub_n)))))))) ?_
  exact sX8_readsClause_187 hA hd hk hn FU S l5 s0 l4 hf
set_option maxHeartbeats 4000000 in
theorem sX8_readsClause_161 {l : Launch} {g : gE} {d MC MS' k n : Nat} {A D : List va_E} (hA : A.length = 26) (hd : 2 ≤ d) (hk : k ≤ MC) (hn : n ≤ MS') {r : Int32 × MS} {S : MS} {s0 : Int32} {l4 : Int32} (hf : X8_readsClause_161 S s0 l4 = some r) : AW l g d RX8 cX8_readsClause 8 "readsClause" MC MS' (Qr (some (.int r.1)) (mh A r.2 D)) k n 161 [some (.ref 26), none, none, none, some (.int l4), none, none, none] [.int s0] (mh A S D) := by
  unfold X8_readsClause_161 at hf
  refine a_istore (pc := 161) (ls' := [some (.ref 26), none, none, none, some (.int l4), some (.int s0), none, none]) dX8_readsClause_161 (by decide) rfl ?_
  refine a_aload_n (pc := 163) dX8_readsClause_163 rfl (isRv_r _) ?_
  obtain ⟨r1, hr1, hf⟩ := Option.bind_eq_some_iff.mp hf
  refine m_call (pc := 164) (.int (r1.1)) [] [] hA dX8_readsClause_164 ml_X8_206 mv_X8_ahead rfl rfl (by omega) (mX8_ahead hA (by omega) hr1) rfl (Nat.le_of_ble_eq_true rfl) hk hn ?_
  refine a_bipush (pc := 167) 102 dX8_readsClause_167 rfl ?_
  refine a_icmp_ne (pc := 169) 179 dX8_readsClause_169 (by decide) (fun c3 => ?_) (fun c3 => ?_)
  · have hf := (if_neg c3).symm.trans hf
    refine a_bipush (pc := 179) 10 dX8_readsClause_179 rfl ?_
    exact sX8_readsClause_181 hA hd hk hn hf
  · have hf := (if_pos c3).symm.trans hf
    refine a_aload_n (pc := 172) dX8_readsClause_172 rfl (isRv_r _) ?_
    obtain ⟨r2, hr2, hf⟩ := Option.bind_eq_some_iff.mp hf
    refine m_call (pc := 173) (.int (r2.1)) [] [] hA dX8_readsClause_173 ml_X8_209 mv_X8_figureNow rfl rfl (by omega) (mX8_figureNow hA (by omega) hr2) rfl (Nat.le_of_ble_eq_true rfl) hk hn ?_
    refine a_goto (pc := 176) 181 dX8_readsClause_176 (by decide) ?_
    exact sX8_readsClause_181 hA hd hk hn hf
set_option maxHeartbeats 4000000 in
theorem sX8_readsClause_114 {l : Launch} {g : gE} {d MC MS' k n : Nat} {A D : List va_E} (hA : A.length = 26) (hd : 2 ≤ d) (hk : k ≤ MC) (hn : n ≤ MS') {r : Int32 × MS} {S : MS} {s0 : Int32} {l1 : Int32} {l2 : Int32} (hf : X8_readsClause_114 S s0 l1 l2 = some r) : AW l g d RX8 cX8_readsClause 8 "readsClause" MC MS' (Qr (some (.int r.1)) (mh A r.2 D)) k n 114 [some (.ref 26), some (.int l1), some (.int l2), none, none, none, none, none] [.int s0] (mh A S D) := by
  unfold X8_readsClause_114 at hf
  refine a_istore_n (pc := 114) (ls' := [some (.ref 26), some (.int l1), some (.int l2), some (.int s0), none, none, none, none]) dX8_readsClause_114 (by decide) rfl ?_
  refine a_aload_n (pc := 115) dX8_readsClause_115 rfl (isRv_r _) ?_
  refine a_dup (pc := 116) dX8_readsClause_116 rfl ?_
  refine m_getS (pc := 117) hA dX8_readsClause_117 fl_X8_98 ks_29 ?_
  refine a_iload_n (pc := 120) dX8_readsClause_120 rfl ?_
  refine a_iadd (pc := 121) dX8_readsClause_121 ?_
  refine m_putS (pc := 122) hA dX8_readsClause_122 fl_X8_98 ks_29 ?_
  refine a_aload_n (pc := 125) dX8_readsClause_125 rfl (isRv_r _) ?_
  refine m_getS (pc := 126) hA dX8_readsClause_126 fl_X8_95 ks_28 ?_
  refine a_istore (pc := 129) (ls' := [some (.ref 26), some (.int l1), some (.int l2), some (.int s0), some (.int ((si S 29 ((S.1 29) + s0)).1 28)), none, none, none]) dX8_readsClause_129 (by decide) rfl ?_
  refine a_aload_n (pc := 131) dX8_readsClause_131 rfl (isRv_r _) ?_
  refine a_iload_n (pc := 132) dX8_readsClause_132 rfl ?_
  refine a_iload_n (pc := 133) dX8_readsClause_133 rfl ?_
  refine a_iload_n (pc := 134) dX8_readsClause_134 rfl ?_
  obtain ⟨r1, hr1, hf⟩ := Option.bind_eq_some_iff.mp hf
  refine m_call (pc := 135) (.int (r1.1)) [.int l1, .int l2, .int s0] [] hA dX8_readsClause_135 ml_X8_216 mv_X8_readsThings rfl rfl (by omega) (mX8_readsThings hA (by omega) hr1) rfl (Nat.le_of_ble_eq_true rfl) hk hn ?_
  refine a_if_ne (pc := 138) 143 dX8_readsClause_138 (by decide) (fun c5 => ?_) (fun c5 => ?_)
  · have hf := (if_neg c5).symm.trans hf
    refine a_aload_n (pc := 143) dX8_readsClause_143 rfl (isRv_r _) ?_
    obtain ⟨r2, hr2, hf⟩ := Option.bind_eq_some_iff.mp hf
    refine m_call (pc := 144) (.int (r2.1)) [] [] hA dX8_readsClause_144 ml_X8_206 mv_X8_ahead rfl rfl (by omega) (mX8_ahead hA (by omega) hr2) rfl (Nat.le_of_ble_eq_true rfl) hk hn ?_
    refine a_bipush (pc := 147) 105 dX8_readsClause_147 rfl ?_
    refine a_icmp_ne (pc := 149) 159 dX8_readsClause_149 (by decide) (fun c4 => ?_) (fun c4 => ?_)
    · have hf := (if_neg c4).symm.trans hf
      refine a_bipush (pc := 159) 10 dX8_readsClause_159 rfl ?_
      refine a_sub (sub_k (sub_d (sub_d (sub_d (sub_k (sub_k (sub_k (sub_k sub_n)))))))) ?_
      exact sX8_readsClause_161 hA hd hk hn hf
    · have hf := (if_pos c4).symm.trans hf
      refine a_aload_n (pc := 152) dX8_readsClause_152 rfl (isRv_r _) ?_
      obtain ⟨r3, hr3, hf⟩ := Option.bind_eq_some_iff.mp hf
      refine m_call (pc := 153) (.int (r3.1)) [] [] hA dX8_readsClause_153 ml_X8_209 mv_X8_figureNow rfl rfl (by omega) (mX8_figureNow hA (by omega) hr3) rfl (Nat.le_of_ble_eq_true rfl) hk hn ?_
      refine a_goto (pc := 156) 161 dX8_readsClause_156 (by decide) ?_
      refine a_sub (sub_k (sub_d (sub_d (sub_d (sub_k (sub_k (sub_k (sub_k sub_n)))))))) ?_
      exact sX8_readsClause_161 hA hd hk hn hf
  · have hf := (if_pos c5).symm.trans hf
    refine a_iconst (pc := 141) 0 dX8_readsClause_141 rfl ?_
    have hf := Option.some.inj hf
    subst hf
    exact a_ireturn (pc := 142) dX8_readsClause_142 hk hn ⟨rfl, rfl⟩
set_option maxHeartbeats 4000000 in
theorem sX8_readsClause_64 {l : Launch} {g : gE} {d MC MS' k n : Nat} {A D : List va_E} (hA : A.length = 26) (hd : 2 ≤ d) (hk : k ≤ MC) (hn : n ≤ MS') {r : Int32 × MS} {S : MS} {s0 : Int32} {l1 : Int32} (hf : X8_readsClause_64 S s0 l1 = some r) : AW l g d RX8 cX8_readsClause 8 "readsClause" MC MS' (Qr (some (.int r.1)) (mh A r.2 D)) k n 64 [some (.ref 26), some (.int l1), none, none, none, none, none, none] [.int s0] (mh A S D) := by
  unfold X8_readsClause_64 at hf
  refine a_istore_n (pc := 64) (ls' := [some (.ref 26), some (.int l1), some (.int s0), none, none, none, none, none]) dX8_readsClause_64 (by decide) rfl ?_
  refine a_aload_n (pc := 65) dX8_readsClause_65 rfl (isRv_r _) ?_
  refine a_dup (pc := 66) dX8_readsClause_66 rfl ?_
  refine m_getS (pc := 67) hA dX8_readsClause_67 fl_X8_98 ks_29 ?_
  refine a_iconst (pc := 70) 1 dX8_readsClause_70 rfl ?_
  refine a_iadd (pc := 71) dX8_readsClause_71 ?_
  refine m_putS (pc := 72) hA dX8_readsClause_72 fl_X8_98 ks_29 ?_
  refine a_aload_n (pc := 75) dX8_readsClause_75 rfl (isRv_r _) ?_
  obtain ⟨r1, hr1, hf⟩ := Option.bind_eq_some_iff.mp hf
  refine m_call (pc := 76) (.int (r1.1)) [] [] hA dX8_readsClause_76 ml_X8_206 mv_X8_ahead rfl rfl (by omega) (mX8_ahead hA (by omega) hr1) rfl (Nat.le_of_ble_eq_true rfl) hk hn ?_
  refine a_bipush (pc := 79) 112 dX8_readsClause_79 rfl ?_
  refine a_icmp_ne (pc := 81) 100 dX8_readsClause_81 (by decide) (fun c6 => ?_) (fun c6 => ?_)
  · have hf := (if_neg c6).symm.trans hf
    refine a_aload_n (pc := 100) dX8_readsClause_100 rfl (isRv_r _) ?_
    obtain ⟨r2, hr2, hf⟩ := Option.bind_eq_some_iff.mp hf
    refine m_call (pc := 101) (.int (r2.1)) [] [] hA dX8_readsClause_101 ml_X8_206 mv_X8_ahead rfl rfl (by omega) (mX8_ahead hA (by omega) hr2) rfl (Nat.le_of_ble_eq_true rfl) hk hn ?_
    refine a_bipush (pc := 104) 110 dX8_readsClause_104 rfl ?_
    refine a_icmp_ne (pc := 106) 113 dX8_readsClause_106 (by decide) (fun c3 => ?_) (fun c3 => ?_)
    · have hf := (if_neg c3).symm.trans hf
      refine a_iconst (pc := 113) 0 dX8_readsClause_113 rfl ?_
      exact sX8_readsClause_114 hA hd hk hn hf
    · have hf := (if_pos c3).symm.trans hf
      refine a_iconst (pc := 109) 1 dX8_readsClause_109 rfl ?_
      refine a_goto (pc := 110) 114 dX8_readsClause_110 (by decide) ?_
      exact sX8_readsClause_114 hA hd hk hn hf
  · have hf := (if_pos c6).symm.trans hf
    refine a_aload_n (pc := 84) dX8_readsClause_84 rfl (isRv_r _) ?_
    refine a_iload_n (pc := 85) dX8_readsClause_85 rfl ?_
    refine a_iload_n (pc := 86) dX8_readsClause_86 rfl ?_
    refine a_iconst (pc := 87) 0 dX8_readsClause_87 rfl ?_
    refine a_bipush (pc := 88) 10 dX8_readsClause_88 rfl ?_
    refine a_aload_n (pc := 90) dX8_readsClause_90 rfl (isRv_r _) ?_
    obtain ⟨r4, hr4, hf⟩ := Option.bind_eq_some_iff.mp hf
    refine m_call (pc := 91) (.int (r4.1)) [] [.int 10, .int 0, .int s0, .int l1, .ref 26] hA dX8_readsClause_91 ml_X8_209 mv_X8_figureNow rfl rfl (by omega) (mX8_figureNow hA (by omega) hr4) rfl (Nat.le_of_ble_eq_true rfl) hk hn ?_
    refine a_iadd (pc := 94) dX8_readsClause_94 ?_
    obtain ⟨r5, hr5, hf⟩ := Option.bind_eq_some_iff.mp hf
    refine m_callv (pc := 95) [.int l1, .int s0, .int 0, .int (10 + r4.1)] [] hA dX8_readsClause_95 ml_X8_212 mv_X8_duty rfl rfl (by omega) (mX8_duty hA (by omega) hr5) rfl (Nat.le_of_ble_eq_true rfl) hk hn ?_
    refine a_iconst (pc := 98) 1 dX8_readsClause_98 rfl ?_
    have hf := Option.some.inj hf
    subst hf
    exact a_ireturn (pc := 99) dX8_readsClause_99 hk hn ⟨rfl, rfl⟩
set_option maxHeartbeats 4000000 in
theorem sX8_readsClause_50 {l : Launch} {g : gE} {d MC MS' k n : Nat} {A D : List va_E} (hA : A.length = 26) (hd : 2 ≤ d) (hk : k ≤ MC) (hn : n ≤ MS') {r : Int32 × MS} {S : MS} {l1 : Int32} (hf : X8_readsClause_50 S l1 = some r) : AW l g d RX8 cX8_readsClause 8 "readsClause" MC MS' (Qr (some (.int r.1)) (mh A r.2 D)) k n 50 [some (.ref 26), some (.int l1), none, none, none, none, none, none] [] (mh A S D) := by
  unfold X8_readsClause_50 at hf
  refine a_aload_n (pc := 50) dX8_readsClause_50 rfl (isRv_r _) ?_
  obtain ⟨r1, hr1, hf⟩ := Option.bind_eq_some_iff.mp hf
  refine m_call (pc := 51) (.int (r1.1)) [] [] hA dX8_readsClause_51 ml_X8_206 mv_X8_ahead rfl rfl (by omega) (mX8_ahead hA (by omega) hr1) rfl (Nat.le_of_ble_eq_true rfl) hk hn ?_
  refine a_bipush (pc := 54) 109 dX8_readsClause_54 rfl ?_
  refine a_icmp_ne (pc := 56) 63 dX8_readsClause_56 (by decide) (fun c2 => ?_) (fun c2 => ?_)
  · have hf := (if_neg c2).symm.trans hf
    refine a_iconst (pc := 63) 0 dX8_readsClause_63 rfl ?_
    exact sX8_readsClause_64 hA hd hk hn hf
  · have hf := (if_pos c2).symm.trans hf
    refine a_iconst (pc := 59) 1 dX8_readsClause_59 rfl ?_
    refine a_goto (pc := 60) 64 dX8_readsClause_60 (by decide) ?_
    exact sX8_readsClause_64 hA hd hk hn hf
set_option maxHeartbeats 4000000 in
theorem sX8_readsClause_0 {l : Launch} {g : gE} {d MC MS' k n : Nat} {A D : List va_E} (hA : A.length = 26) (hd : 2 ≤ d) (hk : k ≤ MC) (hn : n ≤ MS') {r : Int32 × MS} {S : MS} (hf : X8_readsClause_0 S = some r) : AW l g d RX8 cX8_readsClause 8 "readsClause" MC MS' (Qr (some (.int r.1)) (mh A r.2 D)) k n 0 [some (.ref 26), none, none, none, none, none, none, none] [] (mh A S D) := by
  unfold X8_readsClause_0 at hf
  refine a_aload_n (pc := 0) dX8_readsClause_0 rfl (isRv_r _) ?_
  obtain ⟨r1, hr1, hf⟩ := Option.bind_eq_some_iff.mp hf
  refine m_call (pc := 1) (.int (r1.1)) [] [] hA dX8_readsClause_1 ml_X8_206 mv_X8_ahead rfl rfl (by omega) (mX8_ahead hA (by omega) hr1) rfl (Nat.le_of_ble_eq_true rfl) hk hn ?_
  refine a_bipush (pc := 4) 97 dX8_readsClause_4 rfl ?_
  refine a_isub (pc := 6) dX8_readsClause_6 ?_
  refine a_istore_n (pc := 7) (ls' := [some (.ref 26), some (.int (r1.1 - 97)), none, none, none, none, none, none]) dX8_readsClause_7 (by decide) rfl ?_
  refine a_aload_n (pc := 8) dX8_readsClause_8 rfl (isRv_r _) ?_
  refine a_iload_n (pc := 9) dX8_readsClause_9 rfl ?_
  refine a_iconst (pc := 10) 0 dX8_readsClause_10 rfl ?_
  refine a_iconst (pc := 11) 1 dX8_readsClause_11 rfl ?_
  obtain ⟨r2, hr2, hf⟩ := Option.bind_eq_some_iff.mp hf
  refine m_call (pc := 12) (.int (r2.1)) [.int (r1.1 - 97), .int 0, .int 1] [] hA dX8_readsClause_12 ml_X8_142 mv_X8_in rfl rfl (by omega) (mX8_in hA (by omega) hr2) rfl (Nat.le_of_ble_eq_true rfl) hk hn ?_
  refine a_if_ne (pc := 15) 20 dX8_readsClause_15 (by decide) (fun c7 => ?_) (fun c7 => ?_)
  · have hf := (if_neg c7).symm.trans hf
    refine a_aload_n (pc := 20) dX8_readsClause_20 rfl (isRv_r _) ?_
    refine a_dup (pc := 21) dX8_readsClause_21 rfl ?_
    refine m_getS (pc := 22) hA dX8_readsClause_22 fl_X8_98 ks_29 ?_
    refine a_iconst (pc := 25) 1 dX8_readsClause_25 rfl ?_
    refine a_iadd (pc := 26) dX8_readsClause_26 ?_
    refine m_putS (pc := 27) hA dX8_readsClause_27 fl_X8_98 ks_29 ?_
    refine a_aload_n (pc := 30) dX8_readsClause_30 rfl (isRv_r _) ?_
    obtain ⟨r3, hr3, hf⟩ := Option.bind_eq_some_iff.mp hf
    refine m_call (pc := 31) (.int (r3.1)) [] [] hA dX8_readsClause_31 ml_X8_206 mv_X8_ahead rfl rfl (by omega) (mX8_ahead hA (by omega) hr3) rfl (Nat.le_of_ble_eq_true rfl) hk hn ?_
    refine a_bipush (pc := 34) 109 dX8_readsClause_34 rfl ?_
    refine a_icmp_eq (pc := 36) 50 dX8_readsClause_36 (by decide) (fun c6 => ?_) (fun c6 => ?_)
    · have hf := (if_pos c6).symm.trans hf
      exact sX8_readsClause_50 hA hd hk hn hf
    · have hf := (if_neg c6).symm.trans hf
      refine a_aload_n (pc := 39) dX8_readsClause_39 rfl (isRv_r _) ?_
      obtain ⟨r4, hr4, hf⟩ := Option.bind_eq_some_iff.mp hf
      refine m_call (pc := 40) (.int (r4.1)) [] [] hA dX8_readsClause_40 ml_X8_206 mv_X8_ahead rfl rfl (by omega) (mX8_ahead hA (by omega) hr4) rfl (Nat.le_of_ble_eq_true rfl) hk hn ?_
      refine a_bipush (pc := 43) 121 dX8_readsClause_43 rfl ?_
      refine a_icmp_eq (pc := 45) 50 dX8_readsClause_45 (by decide) (fun c5 => ?_) (fun c5 => ?_)
      · have hf := (if_pos c5).symm.trans hf
        exact sX8_readsClause_50 hA hd hk hn hf
      · have hf := (if_neg c5).symm.trans hf
        refine a_iconst (pc := 48) 0 dX8_readsClause_48 rfl ?_
        have hf := Option.some.inj hf
        subst hf
        exact a_ireturn (pc := 49) dX8_readsClause_49 hk hn ⟨rfl, rfl⟩
  · have hf := (if_pos c7).symm.trans hf
    refine a_iconst (pc := 18) 0 dX8_readsClause_18 rfl ?_
    have hf := Option.some.inj hf
    subst hf
    exact a_ireturn (pc := 19) dX8_readsClause_19 hk hn ⟨rfl, rfl⟩
set_option maxHeartbeats 4000000 in
theorem mX8_readsClause {l : Launch} {g : gE} {d : Nat} {A D : List va_E} (hA : A.length = 26) (hd : 2 ≤ d) {r : Int32 × MS} {S : MS} (hf : X8_readsClause S = some r) : AM l g d yX8_readsClause cX8_readsClause 8 (some .boolean) 0 0 [.ref 26] (mh A S D) (Qr (some (.int r.1)) (mh A r.2 D)) := by
  refine AM.of rfl (by exact Nat.le_of_ble_eq_true rfl) (fun v h' q => by obtain ⟨rfl, -⟩ := q; refine ⟨_, rfl, ?_⟩; rcases (zg_of hf).2 with e | e <;> rw [e] <;> rfl) (fun ls e => ?_)
  have e2 : aBeg [.ref 26] 8 = [some (.ref 26), none, none, none, none, none, none, none] := rfl
  rw [e2] at e
  subst e
  refine a_sub (sub_k (sub_k (sub_k (sub_k (sub_k (sub_k (sub_k (sub_k (sub_n))))))))) ?_
  exact sX8_readsClause_0 hA hd (Nat.le_refl _) (Nat.le_refl _) ((zg_of hf).1)
-- PencilStrikesModel.readsLeft(II)Z
def X8_readsLeft_57 (rec15 : MS → Int32 → Int32 → Int32 → Option (Int32 × MS)) (S : MS) (l1 : Int32) (l2 : Int32) (l3 : Int32) : Option (Int32 × MS) :=
  rec15 S l1 l2 (l3 + 1)
def X8_readsLeft_73 : Nat → MS → Option (Int32 × MS)
  | 0, _ => none
  | fn + 1, S =>
    (X8_readsClause S).bind fun r1 =>
    if r1.1 = 0 then
      some (0, r1.2)
    else
      if (r1.2.1 29) = (r1.2.1 27) then
        some (1, r1.2)
      else
        (X8_ahead r1.2).bind fun r2 =>
        if r2.1 = 59 then
          X8_readsLeft_73 fn (si r2.2 29 ((r2.2.1 29) + 1))
        else
          some (0, r2.2)
def X8_readsLeft_15 : Nat → MS → Int32 → Int32 → Int32 → Option (Int32 × MS)
  | 0, _, _, _, _ => none
  | fn + 1, S, l1, l2, l3 =>
    (mA S 8 l1).bind fun x1 =>
    if x1 ≤ l3 then
      X8_readsLeft_73 FU (si (si S 28 0) 29 0)
    else
      (X8_has S l2 l3).bind fun r2 =>
      if r2.1 = 0 then
        (mAs r2.2 20 (r2.2.1 27) l3).bind fun S3 =>
        X8_readsLeft_57 (X8_readsLeft_15 fn) (si S3 27 ((S3.1 27) + 1)) l1 l2 l3
      else
        X8_readsLeft_57 (X8_readsLeft_15 fn) r2.2 l1 l2 l3
def X8_readsLeft_0 (S : MS) (l1 : Int32) (l2 : Int32) : Option (Int32 × MS) :=
  X8_readsLeft_15 FU (si (si S 30 (12 * l1)) 27 0) l1 l2 0
def X8_readsLeft (S : MS) (l1 : Int32) (l2 : Int32) : Option (Int32 × MS) := zg (X8_readsLeft_0 S l1 l2)
set_option maxHeartbeats 4000000 in
theorem sX8_readsLeft_57 {l : Launch} {g : gE} {d MC MS' k n : Nat} {A D : List va_E} (hA : A.length = 26) (hd : 3 ≤ d) (hk : k ≤ MC) (hn : n ≤ MS') {r : Int32 × MS} {rec15 : MS → Int32 → Int32 → Int32 → Option (Int32 × MS)} (hlp15 : ∀ (S : MS) (l1 : Int32) (l2 : Int32) (l3 : Int32), rec15 S l1 l2 l3 = some r → AW l g d RX8 cX8_readsLeft 4 "readsLeft" MC MS' (Qr (some (.int r.1)) (mh A r.2 D)) k n 15 [some (.ref 26), some (.int l1), some (.int l2), some (.int l3)] [] (mh A S D)) {S : MS} {l1 : Int32} {l2 : Int32} {l3 : Int32} (hf : X8_readsLeft_57 rec15 S l1 l2 l3 = some r) : AW l g d RX8 cX8_readsLeft 4 "readsLeft" MC MS' (Qr (some (.int r.1)) (mh A r.2 D)) k n 57 [some (.ref 26), some (.int l1), some (.int l2), some (.int l3)] [] (mh A S D) := by
  unfold X8_readsLeft_57 at hf
  refine a_iinc (pc := 57) (ls' := [some (.ref 26), some (.int l1), some (.int l2), some (.int (l3 + 1))]) (l3 + 1) dX8_readsLeft_57 rfl rfl (by decide) rfl ?_
  refine a_goto (pc := 60) 15 dX8_readsLeft_60 (by decide) ?_
  exact hlp15 S l1 l2 (l3 + 1) hf
set_option maxHeartbeats 4000000 in
theorem sX8_readsLeft_73 {l : Launch} {g : gE} {d MC MS' k n : Nat} {A D : List va_E} (hA : A.length = 26) (hd : 3 ≤ d) (hk : k ≤ MC) (hn : n ≤ MS') {r : Int32 × MS} : ∀ (fn : Nat) (S : MS) , X8_readsLeft_73 fn S = some r → AW l g d RX8 cX8_readsLeft 4 "readsLeft" MC MS' (Qr (some (.int r.1)) (mh A r.2 D)) k n 73 [some (.ref 26), none, none, none] [] (mh A S D) := by
  intro fn
  induction fn with
  | zero =>
    intro S hf
    rw [X8_readsLeft_73] at hf
    cases hf
  | succ fn ih =>
    intro S hf
    rw [X8_readsLeft_73] at hf
    refine a_aload_n (pc := 73) dX8_readsLeft_73 rfl (isRv_r _) ?_
    obtain ⟨r1, hr1, hf⟩ := Option.bind_eq_some_iff.mp hf
    refine m_call (pc := 74) (.int (r1.1)) [] [] hA dX8_readsLeft_74 ml_X8_222 mv_X8_readsClause rfl rfl (by omega) (mX8_readsClause hA (by omega) hr1) rfl (Nat.le_of_ble_eq_true rfl) hk hn ?_
    refine a_if_ne (pc := 77) 82 dX8_readsLeft_77 (by decide) (fun c5 => ?_) (fun c5 => ?_)
    · have hf := (if_neg c5).symm.trans hf
      refine a_aload_n (pc := 82) dX8_readsLeft_82 rfl (isRv_r _) ?_
      refine m_getS (pc := 83) hA dX8_readsLeft_83 fl_X8_98 ks_29 ?_
      refine a_aload_n (pc := 86) dX8_readsLeft_86 rfl (isRv_r _) ?_
      refine m_getS (pc := 87) hA dX8_readsLeft_87 fl_X8_92 ks_27 ?_
      refine a_icmp_ne (pc := 90) 95 dX8_readsLeft_90 (by decide) (fun c4 => ?_) (fun c4 => ?_)
      · have hf := (if_neg c4).symm.trans hf
        refine a_aload_n (pc := 95) dX8_readsLeft_95 rfl (isRv_r _) ?_
        obtain ⟨r2, hr2, hf⟩ := Option.bind_eq_some_iff.mp hf
        refine m_call (pc := 96) (.int (r2.1)) [] [] hA dX8_readsLeft_96 ml_X8_206 mv_X8_ahead rfl rfl (by omega) (mX8_ahead hA (by omega) hr2) rfl (Nat.le_of_ble_eq_true rfl) hk hn ?_
        refine a_bipush (pc := 99) 59 dX8_readsLeft_99 rfl ?_
        refine a_icmp_eq (pc := 101) 106 dX8_readsLeft_101 (by decide) (fun c3 => ?_) (fun c3 => ?_)
        · have hf := (if_pos c3).symm.trans hf
          refine a_aload_n (pc := 106) dX8_readsLeft_106 rfl (isRv_r _) ?_
          refine a_dup (pc := 107) dX8_readsLeft_107 rfl ?_
          refine m_getS (pc := 108) hA dX8_readsLeft_108 fl_X8_98 ks_29 ?_
          refine a_iconst (pc := 111) 1 dX8_readsLeft_111 rfl ?_
          refine a_iadd (pc := 112) dX8_readsLeft_112 ?_
          refine m_putS (pc := 113) hA dX8_readsLeft_113 fl_X8_98 ks_29 ?_
          refine a_goto (pc := 116) 73 dX8_readsLeft_116 (by decide) ?_
          exact ih (si r2.2 29 ((r2.2.1 29) + 1)) hf
        · have hf := (if_neg c3).symm.trans hf
          refine a_iconst (pc := 104) 0 dX8_readsLeft_104 rfl ?_
          have hf := Option.some.inj hf
          subst hf
          exact a_ireturn (pc := 105) dX8_readsLeft_105 hk hn ⟨rfl, rfl⟩
      · have hf := (if_pos c4).symm.trans hf
        refine a_iconst (pc := 93) 1 dX8_readsLeft_93 rfl ?_
        have hf := Option.some.inj hf
        subst hf
        exact a_ireturn (pc := 94) dX8_readsLeft_94 hk hn ⟨rfl, rfl⟩
    · have hf := (if_pos c5).symm.trans hf
      refine a_iconst (pc := 80) 0 dX8_readsLeft_80 rfl ?_
      have hf := Option.some.inj hf
      subst hf
      exact a_ireturn (pc := 81) dX8_readsLeft_81 hk hn ⟨rfl, rfl⟩
set_option maxHeartbeats 4000000 in
theorem sX8_readsLeft_15 {l : Launch} {g : gE} {d MC MS' k n : Nat} {A D : List va_E} (hA : A.length = 26) (hd : 3 ≤ d) (hk : k ≤ MC) (hn : n ≤ MS') {r : Int32 × MS} : ∀ (fn : Nat) (S : MS) (l1 : Int32) (l2 : Int32) (l3 : Int32), X8_readsLeft_15 fn S l1 l2 l3 = some r → AW l g d RX8 cX8_readsLeft 4 "readsLeft" MC MS' (Qr (some (.int r.1)) (mh A r.2 D)) k n 15 [some (.ref 26), some (.int l1), some (.int l2), some (.int l3)] [] (mh A S D) := by
  intro fn
  induction fn with
  | zero =>
    intro S l1 l2 l3 hf
    rw [X8_readsLeft_15] at hf
    cases hf
  | succ fn ih =>
    intro S l1 l2 l3 hf
    rw [X8_readsLeft_15] at hf
    refine a_iload_n (pc := 15) dX8_readsLeft_15 rfl ?_
    refine a_aload_n (pc := 16) dX8_readsLeft_16 rfl (isRv_r _) ?_
    refine m_getA (pc := 17) 30 hA dX8_readsLeft_17 fl_X8_35 (Or.inl ki_8) rfl ?_
    refine a_iload_n (pc := 20) dX8_readsLeft_20 rfl ?_
    obtain ⟨x1, hx1, hf⟩ := Option.bind_eq_some_iff.mp hf
    refine m_ald (pc := 21) 30 hA dX8_readsLeft_21 ki_8 rfl hx1 ?_
    refine a_icmp_ge (pc := 22) 63 dX8_readsLeft_22 (by decide) (fun c5 => ?_) (fun c5 => ?_)
    · have hf := (if_pos c5).symm.trans hf
      refine a_aload_n (pc := 63) dX8_readsLeft_63 rfl (isRv_r _) ?_
      refine a_iconst (pc := 64) 0 dX8_readsLeft_64 rfl ?_
      refine m_putS (pc := 65) hA dX8_readsLeft_65 fl_X8_95 ks_28 ?_
      refine a_aload_n (pc := 68) dX8_readsLeft_68 rfl (isRv_r _) ?_
      refine a_iconst (pc := 69) 0 dX8_readsLeft_69 rfl ?_
      refine m_putS (pc := 70) hA dX8_readsLeft_70 fl_X8_98 ks_29 ?_
      refine a_sub (sub_k (sub_d (sub_d (sub_d sub_n)))) ?_
      exact sX8_readsLeft_73 hA hd hk hn FU (si (si S 28 0) 29 0) hf
    · have hf := (if_neg c5).symm.trans hf
      refine a_aload_n (pc := 25) dX8_readsLeft_25 rfl (isRv_r _) ?_
      refine a_iload_n (pc := 26) dX8_readsLeft_26 rfl ?_
      refine a_iload_n (pc := 27) dX8_readsLeft_27 rfl ?_
      obtain ⟨r2, hr2, hf⟩ := Option.bind_eq_some_iff.mp hf
      refine m_call (pc := 28) (.int (r2.1)) [.int l2, .int l3] [] hA dX8_readsLeft_28 ml_X8_219 mv_X8_has rfl rfl (by omega) (mX8_has hA (by omega) hr2) rfl (Nat.le_of_ble_eq_true rfl) hk hn ?_
      refine a_if_eq (pc := 31) 37 dX8_readsLeft_31 (by decide) (fun c4 => ?_) (fun c4 => ?_)
      · have hf := (if_pos c4).symm.trans hf
        refine a_aload_n (pc := 37) dX8_readsLeft_37 rfl (isRv_r _) ?_
        refine m_getA (pc := 38) 39 hA dX8_readsLeft_38 fl_X8_71 (Or.inl ki_20) rfl ?_
        refine a_aload_n (pc := 41) dX8_readsLeft_41 rfl (isRv_r _) ?_
        refine m_getS (pc := 42) hA dX8_readsLeft_42 fl_X8_92 ks_27 ?_
        refine a_iload_n (pc := 45) dX8_readsLeft_45 rfl ?_
        obtain ⟨S3, hS3, hf⟩ := Option.bind_eq_some_iff.mp hf
        refine m_ast (pc := 46) 39 hA dX8_readsLeft_46 ki_20 rfl hS3 ?_
        refine a_aload_n (pc := 47) dX8_readsLeft_47 rfl (isRv_r _) ?_
        refine a_dup (pc := 48) dX8_readsLeft_48 rfl ?_
        refine m_getS (pc := 49) hA dX8_readsLeft_49 fl_X8_92 ks_27 ?_
        refine a_iconst (pc := 52) 1 dX8_readsLeft_52 rfl ?_
        refine a_iadd (pc := 53) dX8_readsLeft_53 ?_
        refine m_putS (pc := 54) hA dX8_readsLeft_54 fl_X8_92 ks_27 ?_
        exact sX8_readsLeft_57 hA hd hk hn ih hf
      · have hf := (if_neg c4).symm.trans hf
        refine a_goto (pc := 34) 57 dX8_readsLeft_34 (by decide) ?_
        exact sX8_readsLeft_57 hA hd hk hn ih hf
set_option maxHeartbeats 4000000 in
theorem sX8_readsLeft_0 {l : Launch} {g : gE} {d MC MS' k n : Nat} {A D : List va_E} (hA : A.length = 26) (hd : 3 ≤ d) (hk : k ≤ MC) (hn : n ≤ MS') {r : Int32 × MS} {S : MS} {l1 : Int32} {l2 : Int32} (hf : X8_readsLeft_0 S l1 l2 = some r) : AW l g d RX8 cX8_readsLeft 4 "readsLeft" MC MS' (Qr (some (.int r.1)) (mh A r.2 D)) k n 0 [some (.ref 26), some (.int l1), some (.int l2), none] [] (mh A S D) := by
  unfold X8_readsLeft_0 at hf
  refine a_aload_n (pc := 0) dX8_readsLeft_0 rfl (isRv_r _) ?_
  refine a_bipush (pc := 1) 12 dX8_readsLeft_1 rfl ?_
  refine a_iload_n (pc := 3) dX8_readsLeft_3 rfl ?_
  refine a_imul (pc := 4) dX8_readsLeft_4 ?_
  refine m_putS (pc := 5) hA dX8_readsLeft_5 fl_X8_101 ks_30 ?_
  refine a_aload_n (pc := 8) dX8_readsLeft_8 rfl (isRv_r _) ?_
  refine a_iconst (pc := 9) 0 dX8_readsLeft_9 rfl ?_
  refine m_putS (pc := 10) hA dX8_readsLeft_10 fl_X8_92 ks_27 ?_
  refine a_iconst (pc := 13) 0 dX8_readsLeft_13 rfl ?_
  refine a_istore_n (pc := 14) (ls' := [some (.ref 26), some (.int l1), some (.int l2), some (.int 0)]) dX8_readsLeft_14 (by decide) rfl ?_
  exact sX8_readsLeft_15 hA hd hk hn FU (si (si S 30 (12 * l1)) 27 0) l1 l2 0 hf
set_option maxHeartbeats 4000000 in
theorem mX8_readsLeft {l : Launch} {g : gE} {d : Nat} {A D : List va_E} (hA : A.length = 26) (hd : 3 ≤ d) {r : Int32 × MS} {S : MS} {l1 : Int32} {l2 : Int32} (hf : X8_readsLeft S l1 l2 = some r) : AM l g d yX8_readsLeft cX8_readsLeft 4 (some .boolean) 0 0 [.ref 26, .int l1, .int l2] (mh A S D) (Qr (some (.int r.1)) (mh A r.2 D)) := by
  refine AM.of rfl (by exact Nat.le_of_ble_eq_true rfl) (fun v h' q => by obtain ⟨rfl, -⟩ := q; refine ⟨_, rfl, ?_⟩; rcases (zg_of hf).2 with e | e <;> rw [e] <;> rfl) (fun ls e => ?_)
  have e2 : aBeg [.ref 26, .int l1, .int l2] 4 = [some (.ref 26), some (.int l1), some (.int l2), none] := rfl
  rw [e2] at e
  subst e
  refine a_sub (sub_k (sub_k (sub_k (sub_k (sub_n))))) ?_
  exact sX8_readsLeft_0 hA hd (Nat.le_refl _) (Nat.le_refl _) ((zg_of hf).1)
-- PencilStrikesModel.reads(II)I
def X8_reads_36 (S : MS) (s0 : Int32) : Option (Int32 × MS) :=
  some (s0, S)
def X8_reads_0 (S : MS) (l1 : Int32) (l2 : Int32) : Option (Int32 × MS) :=
  (X8_isBargain S l1).bind fun r1 =>
  if r1.1 = 0 then
    some ((-1), r1.2)
  else
    (X8_isSet r1.2 l1 l2).bind fun r2 =>
    if r2.1 = 0 then
      some ((-2), r2.2)
    else
      (X8_readsLeft r2.2 l1 l2).bind fun r3 =>
      if r3.1 = 0 then
        X8_reads_36 r3.2 0
      else
        X8_reads_36 r3.2 1
def X8_reads (S : MS) (l1 : Int32) (l2 : Int32) : Option (Int32 × MS) := X8_reads_0 S l1 l2
set_option maxHeartbeats 4000000 in
theorem sX8_reads_36 {l : Launch} {g : gE} {d MC MS' k n : Nat} {A D : List va_E} (hA : A.length = 26) (hd : 4 ≤ d) (hk : k ≤ MC) (hn : n ≤ MS') {r : Int32 × MS} {S : MS} {s0 : Int32} (hf : X8_reads_36 S s0 = some r) : AW l g d RX8 cX8_reads 3 "reads" MC MS' (Qr (some (.int r.1)) (mh A r.2 D)) k n 36 [none, none, none] [.int s0] (mh A S D) := by
  unfold X8_reads_36 at hf
  have hf := Option.some.inj hf
  subst hf
  exact a_ireturn (pc := 36) dX8_reads_36 hk hn ⟨rfl, rfl⟩
set_option maxHeartbeats 4000000 in
theorem sX8_reads_0 {l : Launch} {g : gE} {d MC MS' k n : Nat} {A D : List va_E} (hA : A.length = 26) (hd : 4 ≤ d) (hk : k ≤ MC) (hn : n ≤ MS') {r : Int32 × MS} {S : MS} {l1 : Int32} {l2 : Int32} (hf : X8_reads_0 S l1 l2 = some r) : AW l g d RX8 cX8_reads 3 "reads" MC MS' (Qr (some (.int r.1)) (mh A r.2 D)) k n 0 [some (.ref 26), some (.int l1), some (.int l2)] [] (mh A S D) := by
  unfold X8_reads_0 at hf
  refine a_aload_n (pc := 0) dX8_reads_0 rfl (isRv_r _) ?_
  refine a_iload_n (pc := 1) dX8_reads_1 rfl ?_
  obtain ⟨r1, hr1, hf⟩ := Option.bind_eq_some_iff.mp hf
  refine m_call (pc := 2) (.int (r1.1)) [.int l1] [] hA dX8_reads_2 ml_X8_203 mv_X8_isBargain rfl rfl (by omega) (mX8_isBargain hA (by omega) hr1) rfl (Nat.le_of_ble_eq_true rfl) hk hn ?_
  refine a_if_ne (pc := 5) 10 dX8_reads_5 (by decide) (fun c6 => ?_) (fun c6 => ?_)
  · have hf := (if_neg c6).symm.trans hf
    refine a_aload_n (pc := 10) dX8_reads_10 rfl (isRv_r _) ?_
    refine a_iload_n (pc := 11) dX8_reads_11 rfl ?_
    refine a_iload_n (pc := 12) dX8_reads_12 rfl ?_
    obtain ⟨r2, hr2, hf⟩ := Option.bind_eq_some_iff.mp hf
    refine m_call (pc := 13) (.int (r2.1)) [.int l1, .int l2] [] hA dX8_reads_13 ml_X8_227 mv_X8_isSet rfl rfl (by omega) (mX8_isSet hA (by omega) hr2) rfl (Nat.le_of_ble_eq_true rfl) hk hn ?_
    refine a_if_ne (pc := 16) 22 dX8_reads_16 (by decide) (fun c5 => ?_) (fun c5 => ?_)
    · have hf := (if_neg c5).symm.trans hf
      refine a_aload_n (pc := 22) dX8_reads_22 rfl (isRv_r _) ?_
      refine a_iload_n (pc := 23) dX8_reads_23 rfl ?_
      refine a_iload_n (pc := 24) dX8_reads_24 rfl ?_
      obtain ⟨r3, hr3, hf⟩ := Option.bind_eq_some_iff.mp hf
      refine m_call (pc := 25) (.int (r3.1)) [.int l1, .int l2] [] hA dX8_reads_25 ml_X8_230 mv_X8_readsLeft rfl rfl (by omega) (mX8_readsLeft hA (by omega) hr3) rfl (Nat.le_of_ble_eq_true rfl) hk hn ?_
      refine a_if_eq (pc := 28) 35 dX8_reads_28 (by decide) (fun c4 => ?_) (fun c4 => ?_)
      · have hf := (if_pos c4).symm.trans hf
        refine a_iconst (pc := 35) 0 dX8_reads_35 rfl ?_
        refine a_sub (sub_d (sub_d (sub_d sub_n))) ?_
        exact sX8_reads_36 hA hd hk hn hf
      · have hf := (if_neg c4).symm.trans hf
        refine a_iconst (pc := 31) 1 dX8_reads_31 rfl ?_
        refine a_goto (pc := 32) 36 dX8_reads_32 (by decide) ?_
        refine a_sub (sub_d (sub_d (sub_d sub_n))) ?_
        exact sX8_reads_36 hA hd hk hn hf
    · have hf := (if_pos c5).symm.trans hf
      refine a_bipush (pc := 19) (-2) dX8_reads_19 rfl ?_
      have hf := Option.some.inj hf
      subst hf
      exact a_ireturn (pc := 21) dX8_reads_21 hk hn ⟨rfl, rfl⟩
  · have hf := (if_pos c6).symm.trans hf
    refine a_iconst (pc := 8) (-1) dX8_reads_8 rfl ?_
    have hf := Option.some.inj hf
    subst hf
    exact a_ireturn (pc := 9) dX8_reads_9 hk hn ⟨rfl, rfl⟩
set_option maxHeartbeats 4000000 in
theorem mX8_reads {l : Launch} {g : gE} {d : Nat} {A D : List va_E} (hA : A.length = 26) (hd : 4 ≤ d) {r : Int32 × MS} {S : MS} {l1 : Int32} {l2 : Int32} (hf : X8_reads S l1 l2 = some r) : AM l g d yX8_reads cX8_reads 3 (some .int) 0 0 [.ref 26, .int l1, .int l2] (mh A S D) (Qr (some (.int r.1)) (mh A r.2 D)) := by
  refine AM.of rfl (by exact Nat.le_of_ble_eq_true rfl) (fun v h' q => by obtain ⟨rfl, -⟩ := q; exact ⟨_, rfl, rfl⟩) (fun ls e => ?_)
  have e2 : aBeg [.ref 26, .int l1, .int l2] 3 = [some (.ref 26), some (.int l1), some (.int l2)] := rfl
  rw [e2] at e
  subst e
  refine a_sub (sub_k (sub_k (sub_k (sub_n)))) ?_
  exact sX8_reads_0 hA hd (Nat.le_refl _) (Nat.le_refl _) (hf)
-- PencilStrikesModel.dutyOf(I)J
def X8_dutyOf_0 (S : MS) (l1 : Int32) : Option (Int64 × MS) :=
  (mA S 21 l1).bind fun x1 =>
  (mA S 22 l1).bind fun x2 =>
  (mA S 23 l1).bind fun x3 =>
  (mA S 24 l1).bind fun x4 =>
  (mA S 25 l1).bind fun x5 =>
  (mA S 26 l1).bind fun x6 =>
  some ((((32 : Int64) * (((32 : Int64) * (((32 : Int64) * (((32 : Int64) * (((32 : Int64) * ((x1).toInt64)) + ((x2).toInt64))) + ((x3).toInt64))) + ((x4).toInt64))) + ((x5).toInt64))) + ((x6).toInt64)), S)
def X8_dutyOf (S : MS) (l1 : Int32) : Option (Int64 × MS) := X8_dutyOf_0 S l1
set_option maxHeartbeats 4000000 in
theorem sX8_dutyOf_0 {l : Launch} {g : gE} {d MC MS' k n : Nat} {A D : List va_E} (hA : A.length = 26) (hd : 0 ≤ d) (hk : k ≤ MC) (hn : n ≤ MS') {r : Int64 × MS} {S : MS} {l1 : Int32} (hf : X8_dutyOf_0 S l1 = some r) : AW l g d RX8 cX8_dutyOf 4 "dutyOf" MC MS' (Qr (some (.long r.1)) (mh A r.2 D)) k n 0 [some (.ref 26), some (.int l1), none, none] [] (mh A S D) := by
  unfold X8_dutyOf_0 at hf
  refine a_aload_n (pc := 0) dX8_dutyOf_0 rfl (isRv_r _) ?_
  refine m_getA (pc := 1) 40 hA dX8_dutyOf_1 fl_X8_74 (Or.inl ki_21) rfl ?_
  refine a_iload_n (pc := 4) dX8_dutyOf_4 rfl ?_
  obtain ⟨x1, hx1, hf⟩ := Option.bind_eq_some_iff.mp hf
  refine m_ald (pc := 5) 40 hA dX8_dutyOf_5 ki_21 rfl hx1 ?_
  refine a_i2l (pc := 6) dX8_dutyOf_6 ?_
  refine a_lstore_n (pc := 7) (ls' := [some (.ref 26), some (.int l1), some (.long ((x1).toInt64)), none]) dX8_dutyOf_7 (by decide) rfl ?_
  refine a_ldc2 (pc := 8) (32 : Int64) dX8_dutyOf_8 kc_X8_225 ?_
  refine a_lload_n (pc := 11) dX8_dutyOf_11 rfl ?_
  refine a_lmul (pc := 12) dX8_dutyOf_12 ?_
  refine a_aload_n (pc := 13) dX8_dutyOf_13 rfl (isRv_r _) ?_
  refine m_getA (pc := 14) 41 hA dX8_dutyOf_14 fl_X8_77 (Or.inl ki_22) rfl ?_
  refine a_iload_n (pc := 17) dX8_dutyOf_17 rfl ?_
  obtain ⟨x2, hx2, hf⟩ := Option.bind_eq_some_iff.mp hf
  refine m_ald (pc := 18) 41 hA dX8_dutyOf_18 ki_22 rfl hx2 ?_
  refine a_i2l (pc := 19) dX8_dutyOf_19 ?_
  refine a_ladd (pc := 20) dX8_dutyOf_20 ?_
  refine a_lstore_n (pc := 21) (ls' := [some (.ref 26), some (.int l1), some (.long (((32 : Int64) * ((x1).toInt64)) + ((x2).toInt64))), none]) dX8_dutyOf_21 (by decide) rfl ?_
  refine a_ldc2 (pc := 22) (32 : Int64) dX8_dutyOf_22 kc_X8_225 ?_
  refine a_lload_n (pc := 25) dX8_dutyOf_25 rfl ?_
  refine a_lmul (pc := 26) dX8_dutyOf_26 ?_
  refine a_aload_n (pc := 27) dX8_dutyOf_27 rfl (isRv_r _) ?_
  refine m_getA (pc := 28) 42 hA dX8_dutyOf_28 fl_X8_80 (Or.inl ki_23) rfl ?_
  refine a_iload_n (pc := 31) dX8_dutyOf_31 rfl ?_
  obtain ⟨x3, hx3, hf⟩ := Option.bind_eq_some_iff.mp hf
  refine m_ald (pc := 32) 42 hA dX8_dutyOf_32 ki_23 rfl hx3 ?_
  refine a_i2l (pc := 33) dX8_dutyOf_33 ?_
  refine a_ladd (pc := 34) dX8_dutyOf_34 ?_
  refine a_lstore_n (pc := 35) (ls' := [some (.ref 26), some (.int l1), some (.long (((32 : Int64) * (((32 : Int64) * ((x1).toInt64)) + ((x2).toInt64))) + ((x3).toInt64))), none]) dX8_dutyOf_35 (by decide) rfl ?_
  refine a_ldc2 (pc := 36) (32 : Int64) dX8_dutyOf_36 kc_X8_225 ?_
  refine a_lload_n (pc := 39) dX8_dutyOf_39 rfl ?_
  refine a_lmul (pc := 40) dX8_dutyOf_40 ?_
  refine a_aload_n (pc := 41) dX8_dutyOf_41 rfl (isRv_r _) ?_
  refine m_getA (pc := 42) 43 hA dX8_dutyOf_42 fl_X8_83 (Or.inl ki_24) rfl ?_
  refine a_iload_n (pc := 45) dX8_dutyOf_45 rfl ?_
  obtain ⟨x4, hx4, hf⟩ := Option.bind_eq_some_iff.mp hf
  refine m_ald (pc := 46) 43 hA dX8_dutyOf_46 ki_24 rfl hx4 ?_
  refine a_i2l (pc := 47) dX8_dutyOf_47 ?_
  refine a_ladd (pc := 48) dX8_dutyOf_48 ?_
  refine a_lstore_n (pc := 49) (ls' := [some (.ref 26), some (.int l1), some (.long (((32 : Int64) * (((32 : Int64) * (((32 : Int64) * ((x1).toInt64)) + ((x2).toInt64))) + ((x3).toInt64))) + ((x4).toInt64))), none]) dX8_dutyOf_49 (by decide) rfl ?_
  refine a_ldc2 (pc := 50) (32 : Int64) dX8_dutyOf_50 kc_X8_225 ?_
  refine a_lload_n (pc := 53) dX8_dutyOf_53 rfl ?_
  refine a_lmul (pc := 54) dX8_dutyOf_54 ?_
  refine a_aload_n (pc := 55) dX8_dutyOf_55 rfl (isRv_r _) ?_
  refine m_getA (pc := 56) 44 hA dX8_dutyOf_56 fl_X8_86 (Or.inl ki_25) rfl ?_
  refine a_iload_n (pc := 59) dX8_dutyOf_59 rfl ?_
  obtain ⟨x5, hx5, hf⟩ := Option.bind_eq_some_iff.mp hf
  refine m_ald (pc := 60) 44 hA dX8_dutyOf_60 ki_25 rfl hx5 ?_
  refine a_i2l (pc := 61) dX8_dutyOf_61 ?_
  refine a_ladd (pc := 62) dX8_dutyOf_62 ?_
  refine a_lstore_n (pc := 63) (ls' := [some (.ref 26), some (.int l1), some (.long (((32 : Int64) * (((32 : Int64) * (((32 : Int64) * (((32 : Int64) * ((x1).toInt64)) + ((x2).toInt64))) + ((x3).toInt64))) + ((x4).toInt64))) + ((x5).toInt64))), none]) dX8_dutyOf_63 (by decide) rfl ?_
  refine a_ldc2 (pc := 64) (32 : Int64) dX8_dutyOf_64 kc_X8_225 ?_
  refine a_lload_n (pc := 67) dX8_dutyOf_67 rfl ?_
  refine a_lmul (pc := 68) dX8_dutyOf_68 ?_
  refine a_aload_n (pc := 69) dX8_dutyOf_69 rfl (isRv_r _) ?_
  refine m_getA (pc := 70) 45 hA dX8_dutyOf_70 fl_X8_89 (Or.inl ki_26) rfl ?_
  refine a_iload_n (pc := 73) dX8_dutyOf_73 rfl ?_
  obtain ⟨x6, hx6, hf⟩ := Option.bind_eq_some_iff.mp hf
  refine m_ald (pc := 74) 45 hA dX8_dutyOf_74 ki_26 rfl hx6 ?_
  refine a_i2l (pc := 75) dX8_dutyOf_75 ?_
  refine a_ladd (pc := 76) dX8_dutyOf_76 ?_
  have hf := Option.some.inj hf
  subst hf
  exact a_lreturn (pc := 77) dX8_dutyOf_77 hk hn ⟨rfl, rfl⟩
set_option maxHeartbeats 4000000 in
theorem mX8_dutyOf {l : Launch} {g : gE} {d : Nat} {A D : List va_E} (hA : A.length = 26) (hd : 0 ≤ d) {r : Int64 × MS} {S : MS} {l1 : Int32} (hf : X8_dutyOf S l1 = some r) : AM l g d yX8_dutyOf cX8_dutyOf 4 (some .long) 0 0 [.ref 26, .int l1] (mh A S D) (Qr (some (.long r.1)) (mh A r.2 D)) := by
  refine AM.of rfl (by exact Nat.le_of_ble_eq_true rfl) (fun v h' q => by obtain ⟨rfl, -⟩ := q; rfl) (fun ls e => ?_)
  have e2 : aBeg [.ref 26, .int l1] 4 = [some (.ref 26), some (.int l1), none, none] := rfl
  rw [e2] at e
  subst e
  refine a_sub (sub_k (sub_k (sub_k (sub_k (sub_n))))) ?_
  exact sX8_dutyOf_0 hA hd (Nat.le_refl _) (Nat.le_refl _) (hf)
-- PencilStrikesModel.means(III)J
def X8_means_41 (S : MS) : Option (Int64 × MS) :=
  some ((-9223372036854775808 : Int64), S)
def X8_means_62 (S : MS) (s0 : Int64) : Option (Int64 × MS) :=
  some (s0, S)
def X8_means_0 (S : MS) (l1 : Int32) (l2 : Int32) (l3 : Int32) : Option (Int64 × MS) :=
  (X8_isBargain S l1).bind fun r1 =>
  if r1.1 = 0 then
    X8_means_41 r1.2
  else
    (X8_isSet r1.2 l1 l2).bind fun r2 =>
    if r2.1 = 0 then
      X8_means_41 r2.2
    else
      (X8_readsLeft r2.2 l1 l2).bind fun r3 =>
      if r3.1 = 0 then
        X8_means_41 r3.2
      else
        (X8_in r3.2 l3 (-1) ((r3.2.1 28) - 1)).bind fun r4 =>
        if r4.1 = 0 then
          X8_means_41 r4.2
        else
          if 0 ≤ l3 then
            (X8_dutyOf r4.2 l3).bind fun r5 =>
            X8_means_62 r5.2 r5.1
          else
            X8_means_62 r4.2 (((r4.2.1 28)).toInt64)
def X8_means (S : MS) (l1 : Int32) (l2 : Int32) (l3 : Int32) : Option (Int64 × MS) := X8_means_0 S l1 l2 l3
set_option maxHeartbeats 4000000 in
theorem sX8_means_41 {l : Launch} {g : gE} {d MC MS' k n : Nat} {A D : List va_E} (hA : A.length = 26) (hd : 4 ≤ d) (hk : k ≤ MC) (hn : n ≤ MS') {r : Int64 × MS} {S : MS} (hf : X8_means_41 S = some r) : AW l g d RX8 cX8_means 4 "means" MC MS' (Qr (some (.long r.1)) (mh A r.2 D)) k n 41 [none, none, none, none] [] (mh A S D) := by
  unfold X8_means_41 at hf
  refine a_ldc2 (pc := 41) (-9223372036854775808 : Int64) dX8_means_41 kc_X8_233 ?_
  have hf := Option.some.inj hf
  subst hf
  exact a_lreturn (pc := 44) dX8_means_44 hk hn ⟨rfl, rfl⟩
set_option maxHeartbeats 4000000 in
theorem sX8_means_62 {l : Launch} {g : gE} {d MC MS' k n : Nat} {A D : List va_E} (hA : A.length = 26) (hd : 4 ≤ d) (hk : k ≤ MC) (hn : n ≤ MS') {r : Int64 × MS} {S : MS} {s0 : Int64} (hf : X8_means_62 S s0 = some r) : AW l g d RX8 cX8_means 4 "means" MC MS' (Qr (some (.long r.1)) (mh A r.2 D)) k n 62 [none, none, none, none] [.long s0] (mh A S D) := by
  unfold X8_means_62 at hf
  have hf := Option.some.inj hf
  subst hf
  exact a_lreturn (pc := 62) dX8_means_62 hk hn ⟨rfl, rfl⟩
set_option maxHeartbeats 4000000 in
theorem sX8_means_0 {l : Launch} {g : gE} {d MC MS' k n : Nat} {A D : List va_E} (hA : A.length = 26) (hd : 4 ≤ d) (hk : k ≤ MC) (hn : n ≤ MS') {r : Int64 × MS} {S : MS} {l1 : Int32} {l2 : Int32} {l3 : Int32} (hf : X8_means_0 S l1 l2 l3 = some r) : AW l g d RX8 cX8_means 4 "means" MC MS' (Qr (some (.long r.1)) (mh A r.2 D)) k n 0 [some (.ref 26), some (.int l1), some (.int l2), some (.int l3)] [] (mh A S D) := by
  unfold X8_means_0 at hf
  refine a_aload_n (pc := 0) dX8_means_0 rfl (isRv_r _) ?_
  refine a_iload_n (pc := 1) dX8_means_1 rfl ?_
  obtain ⟨r1, hr1, hf⟩ := Option.bind_eq_some_iff.mp hf
  refine m_call (pc := 2) (.int (r1.1)) [.int l1] [] hA dX8_means_2 ml_X8_203 mv_X8_isBargain rfl rfl (by omega) (mX8_isBargain hA (by omega) hr1) rfl (Nat.le_of_ble_eq_true rfl) hk hn ?_
  refine a_if_eq (pc := 5) 41 dX8_means_5 (by decide) (fun c10 => ?_) (fun c10 => ?_)
  · have hf := (if_pos c10).symm.trans hf
    refine a_sub (sub_d (sub_d (sub_d (sub_d sub_n)))) ?_
    exact sX8_means_41 hA hd hk hn hf
  · have hf := (if_neg c10).symm.trans hf
    refine a_aload_n (pc := 8) dX8_means_8 rfl (isRv_r _) ?_
    refine a_iload_n (pc := 9) dX8_means_9 rfl ?_
    refine a_iload_n (pc := 10) dX8_means_10 rfl ?_
    obtain ⟨r2, hr2, hf⟩ := Option.bind_eq_some_iff.mp hf
    refine m_call (pc := 11) (.int (r2.1)) [.int l1, .int l2] [] hA dX8_means_11 ml_X8_227 mv_X8_isSet rfl rfl (by omega) (mX8_isSet hA (by omega) hr2) rfl (Nat.le_of_ble_eq_true rfl) hk hn ?_
    refine a_if_eq (pc := 14) 41 dX8_means_14 (by decide) (fun c9 => ?_) (fun c9 => ?_)
    · have hf := (if_pos c9).symm.trans hf
      refine a_sub (sub_d (sub_d (sub_d (sub_d sub_n)))) ?_
      exact sX8_means_41 hA hd hk hn hf
    · have hf := (if_neg c9).symm.trans hf
      refine a_aload_n (pc := 17) dX8_means_17 rfl (isRv_r _) ?_
      refine a_iload_n (pc := 18) dX8_means_18 rfl ?_
      refine a_iload_n (pc := 19) dX8_means_19 rfl ?_
      obtain ⟨r3, hr3, hf⟩ := Option.bind_eq_some_iff.mp hf
      refine m_call (pc := 20) (.int (r3.1)) [.int l1, .int l2] [] hA dX8_means_20 ml_X8_230 mv_X8_readsLeft rfl rfl (by omega) (mX8_readsLeft hA (by omega) hr3) rfl (Nat.le_of_ble_eq_true rfl) hk hn ?_
      refine a_if_eq (pc := 23) 41 dX8_means_23 (by decide) (fun c8 => ?_) (fun c8 => ?_)
      · have hf := (if_pos c8).symm.trans hf
        refine a_sub (sub_d (sub_d (sub_d (sub_d sub_n)))) ?_
        exact sX8_means_41 hA hd hk hn hf
      · have hf := (if_neg c8).symm.trans hf
        refine a_aload_n (pc := 26) dX8_means_26 rfl (isRv_r _) ?_
        refine a_iload_n (pc := 27) dX8_means_27 rfl ?_
        refine a_iconst (pc := 28) (-1) dX8_means_28 rfl ?_
        refine a_aload_n (pc := 29) dX8_means_29 rfl (isRv_r _) ?_
        refine m_getS (pc := 30) hA dX8_means_30 fl_X8_95 ks_28 ?_
        refine a_iconst (pc := 33) 1 dX8_means_33 rfl ?_
        refine a_isub (pc := 34) dX8_means_34 ?_
        obtain ⟨r4, hr4, hf⟩ := Option.bind_eq_some_iff.mp hf
        refine m_call (pc := 35) (.int (r4.1)) [.int l3, .int (-1), .int ((r3.2.1 28) - 1)] [] hA dX8_means_35 ml_X8_142 mv_X8_in rfl rfl (by omega) (mX8_in hA (by omega) hr4) rfl (Nat.le_of_ble_eq_true rfl) hk hn ?_
        refine a_if_ne (pc := 38) 45 dX8_means_38 (by decide) (fun c7 => ?_) (fun c7 => ?_)
        · have hf := (if_neg c7).symm.trans hf
          refine a_iload_n (pc := 45) dX8_means_45 rfl ?_
          refine a_if_ge (pc := 46) 57 dX8_means_46 (by decide) (fun c6 => ?_) (fun c6 => ?_)
          · have hf := (if_pos c6).symm.trans hf
            refine a_aload_n (pc := 57) dX8_means_57 rfl (isRv_r _) ?_
            refine a_iload_n (pc := 58) dX8_means_58 rfl ?_
            obtain ⟨r5, hr5, hf⟩ := Option.bind_eq_some_iff.mp hf
            refine m_call (pc := 59) (.long (r5.1)) [.int l3] [] hA dX8_means_59 ml_X8_235 mv_X8_dutyOf rfl rfl (by omega) (mX8_dutyOf hA (by omega) hr5) rfl (Nat.le_of_ble_eq_true rfl) hk hn ?_
            refine a_sub (sub_d (sub_d (sub_d (sub_d sub_n)))) ?_
            exact sX8_means_62 hA hd hk hn hf
          · have hf := (if_neg c6).symm.trans hf
            refine a_aload_n (pc := 49) dX8_means_49 rfl (isRv_r _) ?_
            refine m_getS (pc := 50) hA dX8_means_50 fl_X8_95 ks_28 ?_
            refine a_i2l (pc := 53) dX8_means_53 ?_
            refine a_goto (pc := 54) 62 dX8_means_54 (by decide) ?_
            refine a_sub (sub_d (sub_d (sub_d (sub_d sub_n)))) ?_
            exact sX8_means_62 hA hd hk hn hf
        · have hf := (if_pos c7).symm.trans hf
          refine a_sub (sub_d (sub_d (sub_d (sub_d sub_n)))) ?_
          exact sX8_means_41 hA hd hk hn hf
set_option maxHeartbeats 4000000 in
theorem mX8_means {l : Launch} {g : gE} {d : Nat} {A D : List va_E} (hA : A.length = 26) (hd : 4 ≤ d) {r : Int64 × MS} {S : MS} {l1 : Int32} {l2 : Int32} {l3 : Int32} (hf : X8_means S l1 l2 l3 = some r) : AM l g d yX8_means cX8_means 4 (some .long) 0 0 [.ref 26, .int l1, .int l2, .int l3] (mh A S D) (Qr (some (.long r.1)) (mh A r.2 D)) := by
  refine AM.of rfl (by exact Nat.le_of_ble_eq_true rfl) (fun v h' q => by obtain ⟨rfl, -⟩ := q; rfl) (fun ls e => ?_)
  have e2 : aBeg [.ref 26, .int l1, .int l2, .int l3] 4 = [some (.ref 26), some (.int l1), some (.int l2), some (.int l3)] := rfl
  rw [e2] at e
  subst e
  refine a_sub (sub_k (sub_k (sub_k (sub_k (sub_n))))) ?_
  exact sX8_means_0 hA hd (Nat.le_refl _) (Nat.le_refl _) (hf)
-- PencilStrikesModel.isLaw(I)Z
def X8_isLaw_0 (S : MS) (l1 : Int32) : Option (Int32 × MS) :=
  (X8_in S l1 0 ((S.1 1) - 1)).bind fun r1 =>
  some (r1.1, r1.2)
def X8_isLaw (S : MS) (l1 : Int32) : Option (Int32 × MS) := zg (X8_isLaw_0 S l1)
set_option maxHeartbeats 4000000 in
theorem sX8_isLaw_0 {l : Launch} {g : gE} {d MC MS' k n : Nat} {A D : List va_E} (hA : A.length = 26) (hd : 1 ≤ d) (hk : k ≤ MC) (hn : n ≤ MS') {r : Int32 × MS} {S : MS} {l1 : Int32} (hf : X8_isLaw_0 S l1 = some r) : AW l g d RX8 cX8_isLaw 2 "isLaw" MC MS' (Qr (some (.int r.1)) (mh A r.2 D)) k n 0 [some (.ref 26), some (.int l1)] [] (mh A S D) := by
  unfold X8_isLaw_0 at hf
  refine a_aload_n (pc := 0) dX8_isLaw_0 rfl (isRv_r _) ?_
  refine a_iload_n (pc := 1) dX8_isLaw_1 rfl ?_
  refine a_iconst (pc := 2) 0 dX8_isLaw_2 rfl ?_
  refine a_aload_n (pc := 3) dX8_isLaw_3 rfl (isRv_r _) ?_
  refine m_getS (pc := 4) hA dX8_isLaw_4 fl_X8_13 ks_1 ?_
  refine a_iconst (pc := 7) 1 dX8_isLaw_7 rfl ?_
  refine a_isub (pc := 8) dX8_isLaw_8 ?_
  obtain ⟨r1, hr1, hf⟩ := Option.bind_eq_some_iff.mp hf
  refine m_call (pc := 9) (.int (r1.1)) [.int l1, .int 0, .int ((S.1 1) - 1)] [] hA dX8_isLaw_9 ml_X8_142 mv_X8_in rfl rfl (by omega) (mX8_in hA (by omega) hr1) rfl (Nat.le_of_ble_eq_true rfl) hk hn ?_
  have hf := Option.some.inj hf
  subst hf
  exact a_ireturn (pc := 12) dX8_isLaw_12 hk hn ⟨rfl, rfl⟩
set_option maxHeartbeats 4000000 in
theorem mX8_isLaw {l : Launch} {g : gE} {d : Nat} {A D : List va_E} (hA : A.length = 26) (hd : 1 ≤ d) {r : Int32 × MS} {S : MS} {l1 : Int32} (hf : X8_isLaw S l1 = some r) : AM l g d yX8_isLaw cX8_isLaw 2 (some .boolean) 0 0 [.ref 26, .int l1] (mh A S D) (Qr (some (.int r.1)) (mh A r.2 D)) := by
  refine AM.of rfl (by exact Nat.le_of_ble_eq_true rfl) (fun v h' q => by obtain ⟨rfl, -⟩ := q; refine ⟨_, rfl, ?_⟩; rcases (zg_of hf).2 with e | e <;> rw [e] <;> rfl) (fun ls e => ?_)
  have e2 : aBeg [.ref 26, .int l1] 2 = [some (.ref 26), some (.int l1)] := rfl
  rw [e2] at e
  subst e
  refine a_sub (sub_k (sub_k (sub_n))) ?_
  exact sX8_isLaw_0 hA hd (Nat.le_refl _) (Nat.le_refl _) ((zg_of hf).1)
-- PencilStrikesModel.gives(I)Z
def X8_gives_41 (rec2 : MS → Int32 → Int32 → Option (Int32 × MS)) (S : MS) (l1 : Int32) (l2 : Int32) : Option (Int32 × MS) :=
  rec2 S l1 (l2 + 1)
def X8_gives_2 : Nat → MS → Int32 → Int32 → Option (Int32 × MS)
  | 0, _, _, _ => none
  | fn + 1, S, l1, l2 =>
    if (S.1 28) ≤ l2 then
      some (0, S)
    else
      (mA S 21 l2).bind fun x1 =>
      if x1 = l1 then
        (mA S 22 l2).bind fun x2 =>
        if x2 = 1 then
          (mA S 23 l2).bind fun x3 =>
          if x3 = 0 then
            some (1, S)
          else
            X8_gives_41 (X8_gives_2 fn) S l1 l2
        else
          X8_gives_41 (X8_gives_2 fn) S l1 l2
      else
        X8_gives_41 (X8_gives_2 fn) S l1 l2
def X8_gives_0 (S : MS) (l1 : Int32) : Option (Int32 × MS) :=
  X8_gives_2 FU S l1 0
def X8_gives (S : MS) (l1 : Int32) : Option (Int32 × MS) := zg (X8_gives_0 S l1)
set_option maxHeartbeats 4000000 in
theorem sX8_gives_41 {l : Launch} {g : gE} {d MC MS' k n : Nat} {A D : List va_E} (hA : A.length = 26) (hd : 0 ≤ d) (hk : k ≤ MC) (hn : n ≤ MS') {r : Int32 × MS} {rec2 : MS → Int32 → Int32 → Option (Int32 × MS)} (hlp2 : ∀ (S : MS) (l1 : Int32) (l2 : Int32), rec2 S l1 l2 = some r → AW l g d RX8 cX8_gives 3 "gives" MC MS' (Qr (some (.int r.1)) (mh A r.2 D)) k n 2 [some (.ref 26), some (.int l1), some (.int l2)] [] (mh A S D)) {S : MS} {l1 : Int32} {l2 : Int32} (hf : X8_gives_41 rec2 S l1 l2 = some r) : AW l g d RX8 cX8_gives 3 "gives" MC MS' (Qr (some (.int r.1)) (mh A r.2 D)) k n 41 [some (.ref 26), some (.int l1), some (.int l2)] [] (mh A S D) := by
  unfold X8_gives_41 at hf
  refine a_iinc (pc := 41) (ls' := [some (.ref 26), some (.int l1), some (.int (l2 + 1))]) (l2 + 1) dX8_gives_41 rfl rfl (by decide) rfl ?_
  refine a_goto (pc := 44) 2 dX8_gives_44 (by decide) ?_
  exact hlp2 S l1 (l2 + 1) hf
set_option maxHeartbeats 4000000 in
theorem sX8_gives_2 {l : Launch} {g : gE} {d MC MS' k n : Nat} {A D : List va_E} (hA : A.length = 26) (hd : 0 ≤ d) (hk : k ≤ MC) (hn : n ≤ MS') {r : Int32 × MS} : ∀ (fn : Nat) (S : MS) (l1 : Int32) (l2 : Int32), X8_gives_2 fn S l1 l2 = some r → AW l g d RX8 cX8_gives 3 "gives" MC MS' (Qr (some (.int r.1)) (mh A r.2 D)) k n 2 [some (.ref 26), some (.int l1), some (.int l2)] [] (mh A S D) := by
  intro fn
  induction fn with
  | zero =>
    intro S l1 l2 hf
    rw [X8_gives_2] at hf
    cases hf
  | succ fn ih =>
    intro S l1 l2 hf
    rw [X8_gives_2] at hf
    refine a_iload_n (pc := 2) dX8_gives_2 rfl ?_
    refine a_aload_n (pc := 3) dX8_gives_3 rfl (isRv_r _) ?_
    refine m_getS (pc := 4) hA dX8_gives_4 fl_X8_95 ks_28 ?_
    refine a_icmp_ge (pc := 7) 47 dX8_gives_7 (by decide) (fun c7 => ?_) (fun c7 => ?_)
    · have hf := (if_pos c7).symm.trans hf
      refine a_iconst (pc := 47) 0 dX8_gives_47 rfl ?_
      have hf := Option.some.inj hf
      subst hf
      exact a_ireturn (pc := 48) dX8_gives_48 hk hn ⟨rfl, rfl⟩
    · have hf := (if_neg c7).symm.trans hf
      refine a_aload_n (pc := 10) dX8_gives_10 rfl (isRv_r _) ?_
      refine m_getA (pc := 11) 40 hA dX8_gives_11 fl_X8_74 (Or.inl ki_21) rfl ?_
      refine a_iload_n (pc := 14) dX8_gives_14 rfl ?_
      obtain ⟨x1, hx1, hf⟩ := Option.bind_eq_some_iff.mp hf
      refine m_ald (pc := 15) 40 hA dX8_gives_15 ki_21 rfl hx1 ?_
      refine a_iload_n (pc := 16) dX8_gives_16 rfl ?_
      refine a_icmp_ne (pc := 17) 41 dX8_gives_17 (by decide) (fun c6 => ?_) (fun c6 => ?_)
      · have hf := (if_neg c6).symm.trans hf
        exact sX8_gives_41 hA hd hk hn ih hf
      · have hf := (if_pos c6).symm.trans hf
        refine a_aload_n (pc := 20) dX8_gives_20 rfl (isRv_r _) ?_
        refine m_getA (pc := 21) 41 hA dX8_gives_21 fl_X8_77 (Or.inl ki_22) rfl ?_
        refine a_iload_n (pc := 24) dX8_gives_24 rfl ?_
        obtain ⟨x2, hx2, hf⟩ := Option.bind_eq_some_iff.mp hf
        refine m_ald (pc := 25) 41 hA dX8_gives_25 ki_22 rfl hx2 ?_
        refine a_iconst (pc := 26) 1 dX8_gives_26 rfl ?_
        refine a_icmp_ne (pc := 27) 41 dX8_gives_27 (by decide) (fun c5 => ?_) (fun c5 => ?_)
        · have hf := (if_neg c5).symm.trans hf
          exact sX8_gives_41 hA hd hk hn ih hf
        · have hf := (if_pos c5).symm.trans hf
          refine a_aload_n (pc := 30) dX8_gives_30 rfl (isRv_r _) ?_
          refine m_getA (pc := 31) 42 hA dX8_gives_31 fl_X8_80 (Or.inl ki_23) rfl ?_
          refine a_iload_n (pc := 34) dX8_gives_34 rfl ?_
          obtain ⟨x3, hx3, hf⟩ := Option.bind_eq_some_iff.mp hf
          refine m_ald (pc := 35) 42 hA dX8_gives_35 ki_23 rfl hx3 ?_
          refine a_if_ne (pc := 36) 41 dX8_gives_36 (by decide) (fun c4 => ?_) (fun c4 => ?_)
          · have hf := (if_neg c4).symm.trans hf
            exact sX8_gives_41 hA hd hk hn ih hf
          · have hf := (if_pos c4).symm.trans hf
            refine a_iconst (pc := 39) 1 dX8_gives_39 rfl ?_
            have hf := Option.some.inj hf
            subst hf
            exact a_ireturn (pc := 40) dX8_gives_40 hk hn ⟨rfl, rfl⟩
set_option maxHeartbeats 4000000 in
theorem sX8_gives_0 {l : Launch} {g : gE} {d MC MS' k n : Nat} {A D : List va_E} (hA : A.length = 26) (hd : 0 ≤ d) (hk : k ≤ MC) (hn : n ≤ MS') {r : Int32 × MS} {S : MS} {l1 : Int32} (hf : X8_gives_0 S l1 = some r) : AW l g d RX8 cX8_gives 3 "gives" MC MS' (Qr (some (.int r.1)) (mh A r.2 D)) k n 0 [some (.ref 26), some (.int l1), none] [] (mh A S D) := by
  unfold X8_gives_0 at hf
  refine a_iconst (pc := 0) 0 dX8_gives_0 rfl ?_
  refine a_istore_n (pc := 1) (ls' := [some (.ref 26), some (.int l1), some (.int 0)]) dX8_gives_1 (by decide) rfl ?_
  exact sX8_gives_2 hA hd hk hn FU S l1 0 hf
set_option maxHeartbeats 4000000 in
theorem mX8_gives {l : Launch} {g : gE} {d : Nat} {A D : List va_E} (hA : A.length = 26) (hd : 0 ≤ d) {r : Int32 × MS} {S : MS} {l1 : Int32} (hf : X8_gives S l1 = some r) : AM l g d yX8_gives cX8_gives 3 (some .boolean) 0 0 [.ref 26, .int l1] (mh A S D) (Qr (some (.int r.1)) (mh A r.2 D)) := by
  refine AM.of rfl (by exact Nat.le_of_ble_eq_true rfl) (fun v h' q => by obtain ⟨rfl, -⟩ := q; refine ⟨_, rfl, ?_⟩; rcases (zg_of hf).2 with e | e <;> rw [e] <;> rfl) (fun ls e => ?_)
  have e2 : aBeg [.ref 26, .int l1] 3 = [some (.ref 26), some (.int l1), none] := rfl
  rw [e2] at e
  subst e
  refine a_sub (sub_k (sub_k (sub_k (sub_n)))) ?_
  exact sX8_gives_0 hA hd (Nat.le_refl _) (Nat.le_refl _) ((zg_of hf).1)
-- PencilStrikesModel.paidTo(I)I
def X8_paidTo_57 (rec4 : MS → Int32 → Int32 → Int32 → Option (Int32 × MS)) (S : MS) (s0 : Int32) (s1 : Int32) (l1 : Int32) (l3 : Int32) : Option (Int32 × MS) :=
  rec4 S l1 (s0 + s1) (l3 + 1)
def X8_paidTo_56 (rec4 : MS → Int32 → Int32 → Int32 → Option (Int32 × MS)) (S : MS) (s0 : Int32) (l1 : Int32) (l3 : Int32) : Option (Int32 × MS) :=
  X8_paidTo_57 rec4 S s0 0 l1 l3
def X8_paidTo_4 : Nat → MS → Int32 → Int32 → Int32 → Option (Int32 × MS)
  | 0, _, _, _, _ => none
  | fn + 1, S, l1, l2, l3 =>
    if (S.1 28) ≤ l3 then
      some (l2, S)
    else
      (mA S 24 l3).bind fun x1 =>
      if x1 < 10 then
        X8_paidTo_56 (X8_paidTo_4 fn) S l2 l1 l3
      else
        (mA S 21 l3).bind fun x2 =>
        if x2 = l1 then
          X8_paidTo_56 (X8_paidTo_4 fn) S l2 l1 l3
        else
          (mA S 22 l3).bind fun x3 =>
          if x3 = 1 then
            (mA S 24 l3).bind fun x4 =>
            X8_paidTo_57 (X8_paidTo_4 fn) S l2 (x4 - 10) l1 l3
          else
            X8_paidTo_56 (X8_paidTo_4 fn) S l2 l1 l3
def X8_paidTo_0 (S : MS) (l1 : Int32) : Option (Int32 × MS) :=
  X8_paidTo_4 FU S l1 0 0
def X8_paidTo (S : MS) (l1 : Int32) : Option (Int32 × MS) := X8_paidTo_0 S l1
set_option maxHeartbeats 4000000 in
theorem sX8_paidTo_57 {l : Launch} {g : gE} {d MC MS' k n : Nat} {A D : List va_E} (hA : A.length = 26) (hd : 0 ≤ d) (hk : k ≤ MC) (hn : n ≤ MS') {r : Int32 × MS} {rec4 : MS → Int32 → Int32 → Int32 → Option (Int32 × MS)} (hlp4 : ∀ (S : MS) (l1 : Int32) (l2 : Int32) (l3 : Int32), rec4 S l1 l2 l3 = some r → AW l g d RX8 cX8_paidTo 4 "paidTo" MC MS' (Qr (some (.int r.1)) (mh A r.2 D)) k n 4 [some (.ref 26), some (.int l1), some (.int l2), some (.int l3)] [] (mh A S D)) {S : MS} {s0 : Int32} {s1 : Int32} {l1 : Int32} {l3 : Int32} (hf : X8_paidTo_57 rec4 S s0 s1 l1 l3 = some r) : AW l g d RX8 cX8_paidTo 4 "paidTo" MC MS' (Qr (some (.int r.1)) (mh A r.2 D)) k n 57 [some (.ref 26), some (.int l1), none, some (.int l3)] [.int s1, .int s0] (mh A S D) := by
  unfold X8_paidTo_57 at hf
  refine a_iadd (pc := 57) dX8_paidTo_57 ?_
  refine a_istore_n (pc := 58) (ls' := [some (.ref 26), some (.int l1), some (.int (s0 + s1)), some (.int l3)]) dX8_paidTo_58 (by decide) rfl ?_
  refine a_iinc (pc := 59) (ls' := [some (.ref 26), some (.int l1), some (.int (s0 + s1)), some (.int (l3 + 1))]) (l3 + 1) dX8_paidTo_59 rfl rfl (by decide) rfl ?_
  refine a_goto (pc := 62) 4 dX8_paidTo_62 (by decide) ?_
  exact hlp4 S l1 (s0 + s1) (l3 + 1) hf
set_option maxHeartbeats 4000000 in
theorem sX8_paidTo_56 {l : Launch} {g : gE} {d MC MS' k n : Nat} {A D : List va_E} (hA : A.length = 26) (hd : 0 ≤ d) (hk : k ≤ MC) (hn : n ≤ MS') {r : Int32 × MS} {rec4 : MS → Int32 → Int32 → Int32 → Option (Int32 × MS)} (hlp4 : ∀ (S : MS) (l1 : Int32) (l2 : Int32) (l3 : Int32), rec4 S l1 l2 l3 = some r → AW l g d RX8 cX8_paidTo 4 "paidTo" MC MS' (Qr (some (.int r.1)) (mh A r.2 D)) k n 4 [some (.ref 26), some (.int l1), some (.int l2), some (.int l3)] [] (mh A S D)) {S : MS} {s0 : Int32} {l1 : Int32} {l3 : Int32} (hf : X8_paidTo_56 rec4 S s0 l1 l3 = some r) : AW l g d RX8 cX8_paidTo 4 "paidTo" MC MS' (Qr (some (.int r.1)) (mh A r.2 D)) k n 56 [some (.ref 26), some (.int l1), none, some (.int l3)] [.int s0] (mh A S D) := by
  unfold X8_paidTo_56 at hf
  refine a_iconst (pc := 56) 0 dX8_paidTo_56 rfl ?_
  exact sX8_paidTo_57 hA hd hk hn hlp4 hf
set_option maxHeartbeats 4000000 in
theorem sX8_paidTo_4 {l : Launch} {g : gE} {d MC MS' k n : Nat} {A D : List va_E} (hA : A.length = 26) (hd : 0 ≤ d) (hk : k ≤ MC) (hn : n ≤ MS') {r : Int32 × MS} : ∀ (fn : Nat) (S : MS) (l1 : Int32) (l2 : Int32) (l3 : Int32), X8_paidTo_4 fn S l1 l2 l3 = some r → AW l g d RX8 cX8_paidTo 4 "paidTo" MC MS' (Qr (some (.int r.1)) (mh A r.2 D)) k n 4 [some (.ref 26), some (.int l1), some (.int l2), some (.int l3)] [] (mh A S D) := by
  intro fn
  induction fn with
  | zero =>
    intro S l1 l2 l3 hf
    rw [X8_paidTo_4] at hf
    cases hf
  | succ fn ih =>
    intro S l1 l2 l3 hf
    rw [X8_paidTo_4] at hf
    refine a_iload_n (pc := 4) dX8_paidTo_4 rfl ?_
    refine a_aload_n (pc := 5) dX8_paidTo_5 rfl (isRv_r _) ?_
    refine m_getS (pc := 6) hA dX8_paidTo_6 fl_X8_95 ks_28 ?_
    refine a_icmp_ge (pc := 9) 65 dX8_paidTo_9 (by decide) (fun c8 => ?_) (fun c8 => ?_)
    · have hf := (if_pos c8).symm.trans hf
      refine a_iload_n (pc := 65) dX8_paidTo_65 rfl ?_
      have hf := Option.some.inj hf
      subst hf
      exact a_ireturn (pc := 66) dX8_paidTo_66 hk hn ⟨rfl, rfl⟩
    · have hf := (if_neg c8).symm.trans hf
      refine a_iload_n (pc := 12) dX8_paidTo_12 rfl ?_
      refine a_aload_n (pc := 13) dX8_paidTo_13 rfl (isRv_r _) ?_
      refine m_getA (pc := 14) 43 hA dX8_paidTo_14 fl_X8_83 (Or.inl ki_24) rfl ?_
      refine a_iload_n (pc := 17) dX8_paidTo_17 rfl ?_
      obtain ⟨x1, hx1, hf⟩ := Option.bind_eq_some_iff.mp hf
      refine m_ald (pc := 18) 43 hA dX8_paidTo_18 ki_24 rfl hx1 ?_
      refine a_bipush (pc := 19) 10 dX8_paidTo_19 rfl ?_
      refine a_icmp_lt (pc := 21) 56 dX8_paidTo_21 (by decide) (fun c7 => ?_) (fun c7 => ?_)
      · have hf := (if_pos c7).symm.trans hf
        refine a_sub (sub_k (sub_k (sub_d (sub_k sub_n)))) ?_
        exact sX8_paidTo_56 hA hd hk hn ih hf
      · have hf := (if_neg c7).symm.trans hf
        refine a_aload_n (pc := 24) dX8_paidTo_24 rfl (isRv_r _) ?_
        refine m_getA (pc := 25) 40 hA dX8_paidTo_25 fl_X8_74 (Or.inl ki_21) rfl ?_
        refine a_iload_n (pc := 28) dX8_paidTo_28 rfl ?_
        obtain ⟨x2, hx2, hf⟩ := Option.bind_eq_some_iff.mp hf
        refine m_ald (pc := 29) 40 hA dX8_paidTo_29 ki_21 rfl hx2 ?_
        refine a_iload_n (pc := 30) dX8_paidTo_30 rfl ?_
        refine a_icmp_eq (pc := 31) 56 dX8_paidTo_31 (by decide) (fun c6 => ?_) (fun c6 => ?_)
        · have hf := (if_pos c6).symm.trans hf
          refine a_sub (sub_k (sub_k (sub_d (sub_k sub_n)))) ?_
          exact sX8_paidTo_56 hA hd hk hn ih hf
        · have hf := (if_neg c6).symm.trans hf
          refine a_aload_n (pc := 34) dX8_paidTo_34 rfl (isRv_r _) ?_
          refine m_getA (pc := 35) 41 hA dX8_paidTo_35 fl_X8_77 (Or.inl ki_22) rfl ?_
          refine a_iload_n (pc := 38) dX8_paidTo_38 rfl ?_
          obtain ⟨x3, hx3, hf⟩ := Option.bind_eq_some_iff.mp hf
          refine m_ald (pc := 39) 41 hA dX8_paidTo_39 ki_22 rfl hx3 ?_
          refine a_iconst (pc := 40) 1 dX8_paidTo_40 rfl ?_
          refine a_icmp_ne (pc := 41) 56 dX8_paidTo_41 (by decide) (fun c5 => ?_) (fun c5 => ?_)
          · have hf := (if_neg c5).symm.trans hf
            refine a_sub (sub_k (sub_k (sub_d (sub_k sub_n)))) ?_
            exact sX8_paidTo_56 hA hd hk hn ih hf
          · have hf := (if_pos c5).symm.trans hf
            refine a_aload_n (pc := 44) dX8_paidTo_44 rfl (isRv_r _) ?_
            refine m_getA (pc := 45) 43 hA dX8_paidTo_45 fl_X8_83 (Or.inl ki_24) rfl ?_
            refine a_iload_n (pc := 48) dX8_paidTo_48 rfl ?_
            obtain ⟨x4, hx4, hf⟩ := Option.bind_eq_some_iff.mp hf
            refine m_ald (pc := 49) 43 hA dX8_paidTo_49 ki_24 rfl hx4 ?_
            refine a_bipush (pc := 50) 10 dX8_paidTo_50 rfl ?_
            refine a_isub (pc := 52) dX8_paidTo_52 ?_
            refine a_goto (pc := 53) 57 dX8_paidTo_53 (by decide) ?_
            refine a_sub (sub_k (sub_k (sub_d (sub_k sub_n)))) ?_
            exact sX8_paidTo_57 hA hd hk hn ih hf
set_option maxHeartbeats 4000000 in
theorem sX8_paidTo_0 {l : Launch} {g : gE} {d MC MS' k n : Nat} {A D : List va_E} (hA : A.length = 26) (hd : 0 ≤ d) (hk : k ≤ MC) (hn : n ≤ MS') {r : Int32 × MS} {S : MS} {l1 : Int32} (hf : X8_paidTo_0 S l1 = some r) : AW l g d RX8 cX8_paidTo 4 "paidTo" MC MS' (Qr (some (.int r.1)) (mh A r.2 D)) k n 0 [some (.ref 26), some (.int l1), none, none] [] (mh A S D) := by
  unfold X8_paidTo_0 at hf
  refine a_iconst (pc := 0) 0 dX8_paidTo_0 rfl ?_
  refine a_istore_n (pc := 1) (ls' := [some (.ref 26), some (.int l1), some (.int 0), none]) dX8_paidTo_1 (by decide) rfl ?_
  refine a_iconst (pc := 2) 0 dX8_paidTo_2 rfl ?_
  refine a_istore_n (pc := 3) (ls' := [some (.ref 26), some (.int l1), some (.int 0), some (.int 0)]) dX8_paidTo_3 (by decide) rfl ?_
  exact sX8_paidTo_4 hA hd hk hn FU S l1 0 0 hf
set_option maxHeartbeats 4000000 in
theorem mX8_paidTo {l : Launch} {g : gE} {d : Nat} {A D : List va_E} (hA : A.length = 26) (hd : 0 ≤ d) {r : Int32 × MS} {S : MS} {l1 : Int32} (hf : X8_paidTo S l1 = some r) : AM l g d yX8_paidTo cX8_paidTo 4 (some .int) 0 0 [.ref 26, .int l1] (mh A S D) (Qr (some (.int r.1)) (mh A r.2 D)) := by
  refine AM.of rfl (by exact Nat.le_of_ble_eq_true rfl) (fun v h' q => by obtain ⟨rfl, -⟩ := q; exact ⟨_, rfl, rfl⟩) (fun ls e => ?_)
  have e2 : aBeg [.ref 26, .int l1] 4 = [some (.ref 26), some (.int l1), none, none] := rfl
  rw [e2] at e
  subst e
  refine a_sub (sub_k (sub_k (sub_k (sub_k (sub_n))))) ?_
  exact sX8_paidTo_0 hA hd (Nat.le_refl _) (Nat.le_refl _) (hf)
-- PencilStrikesModel.factOf(II)I
def X8_factOf_0 (S : MS) (l1 : Int32) (l2 : Int32) : Option (Int32 × MS) :=
  if l1 = 0 then
    (mA S 21 l2).bind fun x3 =>
    some (x3, S)
  else
    if l1 = 1 then
      (mA S 22 l2).bind fun x4 =>
      some (x4, S)
    else
      if l1 = 2 then
        (mA S 23 l2).bind fun x5 =>
        some (x5, S)
      else
        if l1 = 3 then
          (mA S 24 l2).bind fun x6 =>
          some (x6, S)
        else
          if l1 = 4 then
            (mA S 25 l2).bind fun x7 =>
            some (x7, S)
          else
            if l1 = 5 then
              (mA S 26 l2).bind fun x8 =>
              some (x8, S)
            else
              (mA S 21 l2).bind fun x1 =>
              (X8_paidTo S x1).bind fun r2 =>
              some (r2.1, r2.2)
def X8_factOf (S : MS) (l1 : Int32) (l2 : Int32) : Option (Int32 × MS) := X8_factOf_0 S l1 l2
set_option maxHeartbeats 4000000 in
theorem sX8_factOf_0 {l : Launch} {g : gE} {d MC MS' k n : Nat} {A D : List va_E} (hA : A.length = 26) (hd : 1 ≤ d) (hk : k ≤ MC) (hn : n ≤ MS') {r : Int32 × MS} {S : MS} {l1 : Int32} {l2 : Int32} (hf : X8_factOf_0 S l1 l2 = some r) : AW l g d RX8 cX8_factOf 3 "factOf" MC MS' (Qr (some (.int r.1)) (mh A r.2 D)) k n 0 [some (.ref 26), some (.int l1), some (.int l2)] [] (mh A S D) := by
  unfold X8_factOf_0 at hf
  refine a_iload_n (pc := 0) dX8_factOf_0 rfl ?_
  by_cases c9_0 : l1 = 0
  · have hf := (if_pos c9_0).symm.trans hf
    refine a_tableIn (pc := 1) 40 dX8_factOf_1 (by rw [c9_0]; decide) (by rw [c9_0]; decide) (off := 39) (by rw [c9_0]; rfl) (by decide) ?_
    refine a_aload_n (pc := 40) dX8_factOf_40 rfl (isRv_r _) ?_
    refine m_getA (pc := 41) 40 hA dX8_factOf_41 fl_X8_74 (Or.inl ki_21) rfl ?_
    refine a_iload_n (pc := 44) dX8_factOf_44 rfl ?_
    obtain ⟨x3, hx3, hf⟩ := Option.bind_eq_some_iff.mp hf
    refine m_ald (pc := 45) 40 hA dX8_factOf_45 ki_21 rfl hx3 ?_
    have hf := Option.some.inj hf
    subst hf
    exact a_ireturn (pc := 46) dX8_factOf_46 hk hn ⟨rfl, rfl⟩
  · have hf := (if_neg c9_0).symm.trans hf
    by_cases c9_1 : l1 = 1
    · have hf := (if_pos c9_1).symm.trans hf
      refine a_tableIn (pc := 1) 47 dX8_factOf_1 (by rw [c9_1]; decide) (by rw [c9_1]; decide) (off := 46) (by rw [c9_1]; rfl) (by decide) ?_
      refine a_aload_n (pc := 47) dX8_factOf_47 rfl (isRv_r _) ?_
      refine m_getA (pc := 48) 41 hA dX8_factOf_48 fl_X8_77 (Or.inl ki_22) rfl ?_
      refine a_iload_n (pc := 51) dX8_factOf_51 rfl ?_
      obtain ⟨x4, hx4, hf⟩ := Option.bind_eq_some_iff.mp hf
      refine m_ald (pc := 52) 41 hA dX8_factOf_52 ki_22 rfl hx4 ?_
      have hf := Option.some.inj hf
      subst hf
      exact a_ireturn (pc := 53) dX8_factOf_53 hk hn ⟨rfl, rfl⟩
    · have hf := (if_neg c9_1).symm.trans hf
      by_cases c9_2 : l1 = 2
      · have hf := (if_pos c9_2).symm.trans hf
        refine a_tableIn (pc := 1) 54 dX8_factOf_1 (by rw [c9_2]; decide) (by rw [c9_2]; decide) (off := 53) (by rw [c9_2]; rfl) (by decide) ?_
        refine a_aload_n (pc := 54) dX8_factOf_54 rfl (isRv_r _) ?_
        refine m_getA (pc := 55) 42 hA dX8_factOf_55 fl_X8_80 (Or.inl ki_23) rfl ?_
        refine a_iload_n (pc := 58) dX8_factOf_58 rfl ?_
        obtain ⟨x5, hx5, hf⟩ := Option.bind_eq_some_iff.mp hf
        refine m_ald (pc := 59) 42 hA dX8_factOf_59 ki_23 rfl hx5 ?_
        have hf := Option.some.inj hf
        subst hf
        exact a_ireturn (pc := 60) dX8_factOf_60 hk hn ⟨rfl, rfl⟩
      · have hf := (if_neg c9_2).symm.trans hf
        by_cases c9_3 : l1 = 3
        · have hf := (if_pos c9_3).symm.trans hf
          refine a_tableIn (pc := 1) 61 dX8_factOf_1 (by rw [c9_3]; decide) (by rw [c9_3]; decide) (off := 60) (by rw [c9_3]; rfl) (by decide) ?_
          refine a_aload_n (pc := 61) dX8_factOf_61 rfl (isRv_r _) ?_
          refine m_getA (pc := 62) 43 hA dX8_factOf_62 fl_X8_83 (Or.inl ki_24) rfl ?_
          refine a_iload_n (pc := 65) dX8_factOf_65 rfl ?_
          obtain ⟨x6, hx6, hf⟩ := Option.bind_eq_some_iff.mp hf
          refine m_ald (pc := 66) 43 hA dX8_factOf_66 ki_24 rfl hx6 ?_
          have hf := Option.some.inj hf
          subst hf
          exact a_ireturn (pc := 67) dX8_factOf_67 hk hn ⟨rfl, rfl⟩
        · have hf := (if_neg c9_3).symm.trans hf
          by_cases c9_4 : l1 = 4
          · have hf := (if_pos c9_4).symm.trans hf
            refine a_tableIn (pc := 1) 68 dX8_factOf_1 (by rw [c9_4]; decide) (by rw [c9_4]; decide) (off := 67) (by rw [c9_4]; rfl) (by decide) ?_
            refine a_aload_n (pc := 68) dX8_factOf_68 rfl (isRv_r _) ?_
            refine m_getA (pc := 69) 44 hA dX8_factOf_69 fl_X8_86 (Or.inl ki_25) rfl ?_
            refine a_iload_n (pc := 72) dX8_factOf_72 rfl ?_
            obtain ⟨x7, hx7, hf⟩ := Option.bind_eq_some_iff.mp hf
            refine m_ald (pc := 73) 44 hA dX8_factOf_73 ki_25 rfl hx7 ?_
            have hf := Option.some.inj hf
            subst hf
            exact a_ireturn (pc := 74) dX8_factOf_74 hk hn ⟨rfl, rfl⟩
          · have hf := (if_neg c9_4).symm.trans hf
            by_cases c9_5 : l1 = 5
            · have hf := (if_pos c9_5).symm.trans hf
              refine a_tableIn (pc := 1) 75 dX8_factOf_1 (by rw [c9_5]; decide) (by rw [c9_5]; decide) (off := 74) (by rw [c9_5]; rfl) (by decide) ?_
              refine a_aload_n (pc := 75) dX8_factOf_75 rfl (isRv_r _) ?_
              refine m_getA (pc := 76) 45 hA dX8_factOf_76 fl_X8_89 (Or.inl ki_26) rfl ?_
              refine a_iload_n (pc := 79) dX8_factOf_79 rfl ?_
              obtain ⟨x8, hx8, hf⟩ := Option.bind_eq_some_iff.mp hf
              refine m_ald (pc := 80) 45 hA dX8_factOf_80 ki_26 rfl hx8 ?_
              have hf := Option.some.inj hf
              subst hf
              exact a_ireturn (pc := 81) dX8_factOf_81 hk hn ⟨rfl, rfl⟩
            · have hf := (if_neg c9_5).symm.trans hf
              have hkd : AW l g d RX8 cX8_factOf 3 "factOf" MC MS' (Qr (some (.int r.1)) (mh A r.2 D)) k n 82 [some (.ref 26), some (.int l1), some (.int l2)] [] (mh A S D) := by
                refine a_aload_n (pc := 82) dX8_factOf_82 rfl (isRv_r _) ?_
                refine a_aload_n (pc := 83) dX8_factOf_83 rfl (isRv_r _) ?_
                refine m_getA (pc := 84) 40 hA dX8_factOf_84 fl_X8_74 (Or.inl ki_21) rfl ?_
                refine a_iload_n (pc := 87) dX8_factOf_87 rfl ?_
                obtain ⟨x1, hx1, hf⟩ := Option.bind_eq_some_iff.mp hf
                refine m_ald (pc := 88) 40 hA dX8_factOf_88 ki_21 rfl hx1 ?_
                obtain ⟨r2, hr2, hf⟩ := Option.bind_eq_some_iff.mp hf
                refine m_call (pc := 89) (.int (r2.1)) [.int x1] [] hA dX8_factOf_89 ml_X8_239 mv_X8_paidTo rfl rfl (by omega) (mX8_paidTo hA (by omega) hr2) rfl (Nat.le_of_ble_eq_true rfl) hk hn ?_
                have hf := Option.some.inj hf
                subst hf
                exact a_ireturn (pc := 92) dX8_factOf_92 hk hn ⟨rfl, rfl⟩
              by_cases h9l : (l1).toInt < 0
              · exact a_tableOut (pc := 1) 82 dX8_factOf_1 (Or.inl h9l) (by decide) hkd
              by_cases h9h : 5 < (l1).toInt
              · exact a_tableOut (pc := 1) 82 dX8_factOf_1 (Or.inr h9h) (by decide) hkd
              have h9a : (l1).toInt = 0 ∨ (l1).toInt = 1 ∨ (l1).toInt = 2 ∨ (l1).toInt = 3 ∨ (l1).toInt = 4 ∨ (l1).toInt = 5 := by omega
              rcases h9a with h9a | h9a | h9a | h9a | h9a | h9a
              · exact absurd (Int32.toInt_inj.mp (h9a.trans rfl)) c9_0
              · exact absurd (Int32.toInt_inj.mp (h9a.trans rfl)) c9_1
              · exact absurd (Int32.toInt_inj.mp (h9a.trans rfl)) c9_2
              · exact absurd (Int32.toInt_inj.mp (h9a.trans rfl)) c9_3
              · exact absurd (Int32.toInt_inj.mp (h9a.trans rfl)) c9_4
              · exact absurd (Int32.toInt_inj.mp (h9a.trans rfl)) c9_5
set_option maxHeartbeats 4000000 in
theorem mX8_factOf {l : Launch} {g : gE} {d : Nat} {A D : List va_E} (hA : A.length = 26) (hd : 1 ≤ d) {r : Int32 × MS} {S : MS} {l1 : Int32} {l2 : Int32} (hf : X8_factOf S l1 l2 = some r) : AM l g d yX8_factOf cX8_factOf 3 (some .int) 0 0 [.ref 26, .int l1, .int l2] (mh A S D) (Qr (some (.int r.1)) (mh A r.2 D)) := by
  refine AM.of rfl (by exact Nat.le_of_ble_eq_true rfl) (fun v h' q => by obtain ⟨rfl, -⟩ := q; exact ⟨_, rfl, rfl⟩) (fun ls e => ?_)
  have e2 : aBeg [.ref 26, .int l1, .int l2] 3 = [some (.ref 26), some (.int l1), some (.int l2)] := rfl
  rw [e2] at e
  subst e
  refine a_sub (sub_k (sub_k (sub_k (sub_n)))) ?_
  exact sX8_factOf_0 hA hd (Nat.le_refl _) (Nat.le_refl _) (hf)
-- PencilStrikesModel.holds(II)Z
def X8_holds_241 (rec10 : MS → Int32 → Int32 → Int32 → Int32 → Option (Int32 × MS)) (S : MS) (l1 : Int32) (l2 : Int32) (l3 : Int32) (l4 : Int32) : Option (Int32 × MS) :=
  rec10 S l1 l2 l3 (l4 + 1)
def X8_holds_60 (rec10 : MS → Int32 → Int32 → Int32 → Int32 → Option (Int32 × MS)) (S : MS) (s1 : Int32) (s2 : Int32) (l1 : Int32) (l2 : Int32) (l3 : Int32) (l4 : Int32) : Option (Int32 × MS) :=
  (mAs S 31 s1 (vp_nar .boolean s2)).bind fun S1 =>
  X8_holds_241 rec10 S1 l1 l2 l3 l4
def X8_holds_139 (rec10 : MS → Int32 → Int32 → Int32 → Int32 → Option (Int32 × MS)) (S : MS) (s1 : Int32) (s2 : Int32) (l1 : Int32) (l2 : Int32) (l3 : Int32) (l4 : Int32) : Option (Int32 × MS) :=
  (mAs S 31 s1 (vp_nar .boolean s2)).bind fun S1 =>
  X8_holds_241 rec10 S1 l1 l2 l3 l4
def X8_holds_110 (rec10 : MS → Int32 → Int32 → Int32 → Int32 → Option (Int32 × MS)) (S : MS) (s1 : Int32) (l1 : Int32) (l2 : Int32) (l3 : Int32) (l4 : Int32) : Option (Int32 × MS) :=
  X8_holds_139 rec10 S s1 0 l1 l2 l3 l4
def X8_holds_134 (rec10 : MS → Int32 → Int32 → Int32 → Int32 → Option (Int32 × MS)) (S : MS) (s1 : Int32) (l1 : Int32) (l2 : Int32) (l3 : Int32) (l4 : Int32) : Option (Int32 × MS) :=
  X8_holds_139 rec10 S s1 1 l1 l2 l3 l4
def X8_holds_237 (rec10 : MS → Int32 → Int32 → Int32 → Int32 → Option (Int32 × MS)) (S : MS) (s1 : Int32) (s2 : Int32) (l1 : Int32) (l2 : Int32) (l3 : Int32) (l4 : Int32) : Option (Int32 × MS) :=
  (mAs S 31 s1 (vp_nar .boolean s2)).bind fun S1 =>
  X8_holds_241 rec10 S1 l1 l2 (l3 + 1) l4
def X8_holds_10 : Nat → MS → Int32 → Int32 → Int32 → Int32 → Option (Int32 × MS)
  | 0, _, _, _, _, _ => none
  | fn + 1, S, l1, l2, l3, l4 =>
    (mA S 13 l1).bind fun x1 =>
    if x1 ≤ l4 then
      (mA S 31 0).bind fun x2 =>
      some (x2, S)
    else
      (mA S 14 l4).bind fun x3 =>
      if x3 = (-33) then
        (mA S 31 (l3 - 1)).bind fun x20 =>
        if x20 = 0 then
          X8_holds_60 (X8_holds_10 fn) S (l3 - 1) 1 l1 l2 l3 l4
        else
          X8_holds_60 (X8_holds_10 fn) S (l3 - 1) 0 l1 l2 l3 l4
      else
        if 0 ≤ x3 then
          (X8_factOf S (x3 / 10000) l2).bind fun r4 =>
          if ((x3 / 1000) - (x3 / 1000) / 10 * 10) = 0 then
            if (x3 - x3 / 1000 * 1000) ≤ r4.1 then
              X8_holds_237 (X8_holds_10 fn) r4.2 l3 0 l1 l2 l3 l4
            else
              X8_holds_237 (X8_holds_10 fn) r4.2 l3 1 l1 l2 l3 l4
          else
            if ((x3 / 1000) - (x3 / 1000) / 10 * 10) = 1 then
              if r4.1 = (x3 - x3 / 1000 * 1000) then
                X8_holds_237 (X8_holds_10 fn) r4.2 l3 1 l1 l2 l3 l4
              else
                X8_holds_237 (X8_holds_10 fn) r4.2 l3 0 l1 l2 l3 l4
            else
              if r4.1 ≤ (x3 - x3 / 1000 * 1000) then
                X8_holds_237 (X8_holds_10 fn) r4.2 l3 0 l1 l2 l3 l4
              else
                X8_holds_237 (X8_holds_10 fn) r4.2 l3 1 l1 l2 l3 l4
        else
          if x3 = (-38) then
            (mA S 31 ((l3 + (-1)) - 1)).bind fun x14 =>
            if x14 = 0 then
              X8_holds_110 (X8_holds_10 fn) S ((l3 + (-1)) - 1) l1 l2 (l3 + (-1)) l4
            else
              (mA S 31 (l3 + (-1))).bind fun x15 =>
              if x15 = 0 then
                X8_holds_110 (X8_holds_10 fn) S ((l3 + (-1)) - 1) l1 l2 (l3 + (-1)) l4
              else
                X8_holds_139 (X8_holds_10 fn) S ((l3 + (-1)) - 1) 1 l1 l2 (l3 + (-1)) l4
          else
            (mA S 31 ((l3 + (-1)) - 1)).bind fun x10 =>
            if x10 = 0 then
              (mA S 31 (l3 + (-1))).bind fun x11 =>
              if x11 = 0 then
                X8_holds_139 (X8_holds_10 fn) S ((l3 + (-1)) - 1) 0 l1 l2 (l3 + (-1)) l4
              else
                X8_holds_134 (X8_holds_10 fn) S ((l3 + (-1)) - 1) l1 l2 (l3 + (-1)) l4
            else
              X8_holds_134 (X8_holds_10 fn) S ((l3 + (-1)) - 1) l1 l2 (l3 + (-1)) l4
def X8_holds_0 (S : MS) (l1 : Int32) (l2 : Int32) : Option (Int32 × MS) :=
  (mA S 12 l1).bind fun x1 =>
  X8_holds_10 FU S l1 l2 0 x1
def X8_holds (S : MS) (l1 : Int32) (l2 : Int32) : Option (Int32 × MS) := zg (X8_holds_0 S l1 l2)
set_option maxHeartbeats 4000000 in
theorem sX8_holds_241 {l : Launch} {g : gE} {d MC MS' k n : Nat} {A D : List va_E} (hA : A.length = 26) (hd : 2 ≤ d) (hk : k ≤ MC) (hn : n ≤ MS') {r : Int32 × MS} {rec10 : MS → Int32 → Int32 → Int32 → Int32 → Option (Int32 × MS)} (hlp10 : ∀ (S : MS) (l1 : Int32) (l2 : Int32) (l3 : Int32) (l4 : Int32), rec10 S l1 l2 l3 l4 = some r → AW l g d RX8 cX8_holds 8 "holds" MC MS' (Qr (some (.int r.1)) (mh A r.2 D)) k n 10 [some (.ref 26), some (.int l1), some (.int l2), some (.int l3), some (.int l4), none, none, none] [] (mh A S D)) {S : MS} {l1 : Int32} {l2 : Int32} {l3 : Int32} {l4 : Int32} (hf : X8_holds_241 rec10 S l1 l2 l3 l4 = some r) : AW l g d RX8 cX8_holds 8 "holds" MC MS' (Qr (some (.int r.1)) (mh A r.2 D)) k n 241 [some (.ref 26), some (.int l1), some (.int l2), some (.int l3), some (.int l4), none, none, none] [] (mh A S D) := by
  unfold X8_holds_241 at hf
  refine a_iinc (pc := 241) (ls' := [some (.ref 26), some (.int l1), some (.int l2), some (.int l3), some (.int (l4 + 1)), none, none, none]) (l4 + 1) dX8_holds_241 rfl rfl (by decide) rfl ?_
  refine a_goto (pc := 244) 10 dX8_holds_244 (by decide) ?_
  exact hlp10 S l1 l2 l3 (l4 + 1) hf
set_option maxHeartbeats 4000000 in
theorem sX8_holds_60 {l : Launch} {g : gE} {d MC MS' k n : Nat} {A D : List va_E} (hA : A.length = 26) (hd : 2 ≤ d) (hk : k ≤ MC) (hn : n ≤ MS') {r : Int32 × MS} {rec10 : MS → Int32 → Int32 → Int32 → Int32 → Option (Int32 × MS)} (hlp10 : ∀ (S : MS) (l1 : Int32) (l2 : Int32) (l3 : Int32) (l4 : Int32), rec10 S l1 l2 l3 l4 = some r → AW l g d RX8 cX8_holds 8 "holds" MC MS' (Qr (some (.int r.1)) (mh A r.2 D)) k n 10 [some (.ref 26), some (.int l1), some (.int l2), some (.int l3), some (.int l4), none, none, none] [] (mh A S D)) {S : MS} {s1 : Int32} {s2 : Int32} {l1 : Int32} {l2 : Int32} {l3 : Int32} {l4 : Int32} (hf : X8_holds_60 rec10 S s1 s2 l1 l2 l3 l4 = some r) : AW l g d RX8 cX8_holds 8 "holds" MC MS' (Qr (some (.int r.1)) (mh A r.2 D)) k n 60 [some (.ref 26), some (.int l1), some (.int l2), some (.int l3), some (.int l4), none, none, none] [.int s2, .int s1, .ref 46] (mh A S D) := by
  unfold X8_holds_60 at hf
  obtain ⟨S1, hS1, hf⟩ := Option.bind_eq_some_iff.mp hf
  refine m_zast (pc := 60) 46 hA dX8_holds_60 kz_31 rfl hS1 ?_
  refine a_goto (pc := 61) 241 dX8_holds_61 (by decide) ?_
  exact sX8_holds_241 hA hd hk hn hlp10 hf
set_option maxHeartbeats 4000000 in
theorem sX8_holds_139 {l : Launch} {g : gE} {d MC MS' k n : Nat} {A D : List va_E} (hA : A.length = 26) (hd : 2 ≤ d) (hk : k ≤ MC) (hn : n ≤ MS') {r : Int32 × MS} {rec10 : MS → Int32 → Int32 → Int32 → Int32 → Option (Int32 × MS)} (hlp10 : ∀ (S : MS) (l1 : Int32) (l2 : Int32) (l3 : Int32) (l4 : Int32), rec10 S l1 l2 l3 l4 = some r → AW l g d RX8 cX8_holds 8 "holds" MC MS' (Qr (some (.int r.1)) (mh A r.2 D)) k n 10 [some (.ref 26), some (.int l1), some (.int l2), some (.int l3), some (.int l4), none, none, none] [] (mh A S D)) {S : MS} {s1 : Int32} {s2 : Int32} {l1 : Int32} {l2 : Int32} {l3 : Int32} {l4 : Int32} (hf : X8_holds_139 rec10 S s1 s2 l1 l2 l3 l4 = some r) : AW l g d RX8 cX8_holds 8 "holds" MC MS' (Qr (some (.int r.1)) (mh A r.2 D)) k n 139 [some (.ref 26), some (.int l1), some (.int l2), some (.int l3), some (.int l4), none, none, none] [.int s2, .int s1, .ref 46] (mh A S D) := by
  unfold X8_holds_139 at hf
  obtain ⟨S1, hS1, hf⟩ := Option.bind_eq_some_iff.mp hf
  refine m_zast (pc := 139) 46 hA dX8_holds_139 kz_31 rfl hS1 ?_
  refine a_goto (pc := 140) 241 dX8_holds_140 (by decide) ?_
  exact sX8_holds_241 hA hd hk hn hlp10 hf
set_option maxHeartbeats 4000000 in
theorem sX8_holds_110 {l : Launch} {g : gE} {d MC MS' k n : Nat} {A D : List va_E} (hA : A.length = 26) (hd : 2 ≤ d) (hk : k ≤ MC) (hn : n ≤ MS') {r : Int32 × MS} {rec10 : MS → Int32 → Int32 → Int32 → Int32 → Option (Int32 × MS)} (hlp10 : ∀ (S : MS) (l1 : Int32) (l2 : Int32) (l3 : Int32) (l4 : Int32), rec10 S l1 l2 l3 l4 = some r → AW l g d RX8 cX8_holds 8 "holds" MC MS' (Qr (some (.int r.1)) (mh A r.2 D)) k n 10 [some (.ref 26), some (.int l1), some (.int l2), some (.int l3), some (.int l4), none, none, none] [] (mh A S D)) {S : MS} {s1 : Int32} {l1 : Int32} {l2 : Int32} {l3 : Int32} {l4 : Int32} (hf : X8_holds_110 rec10 S s1 l1 l2 l3 l4 = some r) : AW l g d RX8 cX8_holds 8 "holds" MC MS' (Qr (some (.int r.1)) (mh A r.2 D)) k n 110 [some (.ref 26), some (.int l1), some (.int l2), some (.int l3), some (.int l4), none, none, none] [.int s1, .ref 46] (mh A S D) := by
  unfold X8_holds_110 at hf
  refine a_iconst (pc := 110) 0 dX8_holds_110 rfl ?_
  refine a_goto (pc := 111) 139 dX8_holds_111 (by decide) ?_
  exact sX8_holds_139 hA hd hk hn hlp10 hf
set_option maxHeartbeats 4000000 in
theorem sX8_holds_134 {l : Launch} {g : gE} {d MC MS' k n : Nat} {A D : List va_E} (hA : A.length = 26) (hd : 2 ≤ d) (hk : k ≤ MC) (hn : n ≤ MS') {r : Int32 × MS} {rec10 : MS → Int32 → Int32 → Int32 → Int32 → Option (Int32 × MS)} (hlp10 : ∀ (S : MS) (l1 : Int32) (l2 : Int32) (l3 : Int32) (l4 : Int32), rec10 S l1 l2 l3 l4 = some r → AW l g d RX8 cX8_holds 8 "holds" MC MS' (Qr (some (.int r.1)) (mh A r.2 D)) k n 10 [some (.ref 26), some (.int l1), some (.int l2), some (.int l3), some (.int l4), none, none, none] [] (mh A S D)) {S : MS} {s1 : Int32} {l1 : Int32} {l2 : Int32} {l3 : Int32} {l4 : Int32} (hf : X8_holds_134 rec10 S s1 l1 l2 l3 l4 = some r) : AW l g d RX8 cX8_holds 8 "holds" MC MS' (Qr (some (.int r.1)) (mh A r.2 D)) k n 134 [some (.ref 26), some (.int l1), some (.int l2), some (.int l3), some (.int l4), none, none, none] [.int s1, .ref 46] (mh A S D) := by
  unfold X8_holds_134 at hf
  refine a_iconst (pc := 134) 1 dX8_holds_134 rfl ?_
  refine a_goto (pc := 135) 139 dX8_holds_135 (by decide) ?_
  exact sX8_holds_139 hA hd hk hn hlp10 hf
set_option maxHeartbeats 4000000 in
theorem sX8_holds_237 {l : Launch} {g : gE} {d MC MS' k n : Nat} {A D : List va_E} (hA : A.length = 26) (hd : 2 ≤ d) (hk : k ≤ MC) (hn : n ≤ MS') {r : Int32 × MS} {rec10 : MS → Int32 → Int32 → Int32 → Int32 → Option (Int32 × MS)} (hlp10 : ∀ (S : MS) (l1 : Int32) (l2 : Int32) (l3 : Int32) (l4 : Int32), rec10 S l1 l2 l3 l4 = some r → AW l g d RX8 cX8_holds 8 "holds" MC MS' (Qr (some (.int r.1)) (mh A r.2 D)) k n 10 [some (.ref 26), some (.int l1), some (.int l2), some (.int l3), some (.int l4), none, none, none] [] (mh A S D)) {S : MS} {s1 : Int32} {s2 : Int32} {l1 : Int32} {l2 : Int32} {l3 : Int32} {l4 : Int32} (hf : X8_holds_237 rec10 S s1 s2 l1 l2 l3 l4 = some r) : AW l g d RX8 cX8_holds 8 "holds" MC MS' (Qr (some (.int r.1)) (mh A r.2 D)) k n 237 [some (.ref 26), some (.int l1), some (.int l2), some (.int l3), some (.int l4), none, none, none] [.int s2, .int s1, .ref 46] (mh A S D) := by
  unfold X8_holds_237 at hf
  obtain ⟨S1, hS1, hf⟩ := Option.bind_eq_some_iff.mp hf
  refine m_zast (pc := 237) 46 hA dX8_holds_237 kz_31 rfl hS1 ?_
  refine a_iinc (pc := 238) (ls' := [some (.ref 26), some (.int l1), some (.int l2), some (.int (l3 + 1)), some (.int l4), none, none, none]) (l3 + 1) dX8_holds_238 rfl rfl (by decide) rfl ?_
  exact sX8_holds_241 hA hd hk hn hlp10 hf
set_option maxHeartbeats 4000000 in
theorem sX8_holds_10 {l : Launch} {g : gE} {d MC MS' k n : Nat} {A D : List va_E} (hA : A.length = 26) (hd : 2 ≤ d) (hk : k ≤ MC) (hn : n ≤ MS') {r : Int32 × MS} : ∀ (fn : Nat) (S : MS) (l1 : Int32) (l2 : Int32) (l3 : Int32) (l4 : Int32), X8_holds_10 fn S l1 l2 l3 l4 = some r → AW l g d RX8 cX8_holds 8 "holds" MC MS' (Qr (some (.int r.1)) (mh A r.2 D)) k n 10 [some (.ref 26), some (.int l1), some (.int l2), some (.int l3), some (.int l4), none, none, none] [] (mh A S D) := by
  intro fn
  induction fn with
  | zero =>
    intro S l1 l2 l3 l4 hf
    rw [X8_holds_10] at hf
    cases hf
  | succ fn ih =>
    intro S l1 l2 l3 l4 hf
    rw [X8_holds_10] at hf
    refine a_iload (pc := 10) dX8_holds_10 rfl ?_
    refine a_aload_n (pc := 12) dX8_holds_12 rfl (isRv_r _) ?_
    refine m_getA (pc := 13) 35 hA dX8_holds_13 fl_X8_50 (Or.inl ki_13) rfl ?_
    refine a_iload_n (pc := 16) dX8_holds_16 rfl ?_
    obtain ⟨x1, hx1, hf⟩ := Option.bind_eq_some_iff.mp hf
    refine m_ald (pc := 17) 35 hA dX8_holds_17 ki_13 rfl hx1 ?_
    refine a_icmp_ge (pc := 18) 247 dX8_holds_18 (by decide) (fun c23 => ?_) (fun c23 => ?_)
    · have hf := (if_pos c23).symm.trans hf
      refine a_aload_n (pc := 247) dX8_holds_247 rfl (isRv_r _) ?_
      refine m_getA (pc := 248) 46 hA dX8_holds_248 fl_X8_104 (Or.inr (Or.inl kz_31)) rfl ?_
      refine a_iconst (pc := 251) 0 dX8_holds_251 rfl ?_
      obtain ⟨x2, hx2, hf⟩ := Option.bind_eq_some_iff.mp hf
      refine m_zald (pc := 252) 46 hA dX8_holds_252 kz_31 rfl hx2 ?_
      have hf := Option.some.inj hf
      subst hf
      exact a_ireturn (pc := 253) dX8_holds_253 hk hn ⟨rfl, rfl⟩
    · have hf := (if_neg c23).symm.trans hf
      refine a_aload_n (pc := 21) dX8_holds_21 rfl (isRv_r _) ?_
      refine m_getA (pc := 22) 36 hA dX8_holds_22 fl_X8_53 (Or.inl ki_14) rfl ?_
      refine a_iload (pc := 25) dX8_holds_25 rfl ?_
      obtain ⟨x3, hx3, hf⟩ := Option.bind_eq_some_iff.mp hf
      refine m_ald (pc := 27) 36 hA dX8_holds_27 ki_14 rfl hx3 ?_
      refine a_istore (pc := 28) (ls' := [some (.ref 26), some (.int l1), some (.int l2), some (.int l3), some (.int l4), some (.int x3), none, none]) dX8_holds_28 (by decide) rfl ?_
      refine a_iload (pc := 30) dX8_holds_30 rfl ?_
      refine a_bipush (pc := 32) (-33) dX8_holds_32 rfl ?_
      refine a_icmp_ne (pc := 34) 64 dX8_holds_34 (by decide) (fun c22 => ?_) (fun c22 => ?_)
      · have hf := (if_neg c22).symm.trans hf
        refine a_iload (pc := 64) dX8_holds_64 rfl ?_
        refine a_if_ge (pc := 66) 143 dX8_holds_66 (by decide) (fun c19 => ?_) (fun c19 => ?_)
        · have hf := (if_pos c19).symm.trans hf
          refine a_aload_n (pc := 143) dX8_holds_143 rfl (isRv_r _) ?_
          refine a_iload (pc := 144) dX8_holds_144 rfl ?_
          refine a_sipush (pc := 146) 10000 dX8_holds_146 rfl ?_
          refine a_idiv (pc := 149) dX8_holds_149 (by decide) ?_
          refine a_iload_n (pc := 150) dX8_holds_150 rfl ?_
          obtain ⟨r4, hr4, hf⟩ := Option.bind_eq_some_iff.mp hf
          refine m_call (pc := 151) (.int (r4.1)) [.int (x3 / 10000), .int l2] [] hA dX8_holds_151 ml_X8_242 mv_X8_factOf rfl rfl (by omega) (mX8_factOf hA (by omega) hr4) rfl (Nat.le_of_ble_eq_true rfl) hk hn ?_
          refine a_istore (pc := 154) (ls' := [some (.ref 26), some (.int l1), some (.int l2), some (.int l3), some (.int l4), some (.int x3), some (.int (r4.1)), none]) dX8_holds_154 (by decide) rfl ?_
          refine a_iload (pc := 156) dX8_holds_156 rfl ?_
          refine a_sipush (pc := 158) 1000 dX8_holds_158 rfl ?_
          refine a_idiv (pc := 161) dX8_holds_161 (by decide) ?_
          refine a_bipush (pc := 162) 10 dX8_holds_162 rfl ?_
          refine a_irem (pc := 164) dX8_holds_164 (by decide) ?_
          refine a_istore (pc := 165) (ls' := [some (.ref 26), some (.int l1), some (.int l2), some (.int l3), some (.int l4), some (.int x3), some (.int (r4.1)), some (.int ((x3 / 1000) - (x3 / 1000) / 10 * 10))]) dX8_holds_165 (by decide) rfl ?_
          refine a_aload_n (pc := 167) dX8_holds_167 rfl (isRv_r _) ?_
          refine m_getA (pc := 168) 46 hA dX8_holds_168 fl_X8_104 (Or.inr (Or.inl kz_31)) rfl ?_
          refine a_iload_n (pc := 171) dX8_holds_171 rfl ?_
          refine a_iload (pc := 172) dX8_holds_172 rfl ?_
          refine a_if_ne (pc := 174) 196 dX8_holds_174 (by decide) (fun c9 => ?_) (fun c9 => ?_)
          · have hf := (if_neg c9).symm.trans hf
            refine a_iload (pc := 196) dX8_holds_196 rfl ?_
            refine a_iconst (pc := 198) 1 dX8_holds_198 rfl ?_
            refine a_icmp_ne (pc := 199) 221 dX8_holds_199 (by decide) (fun c7 => ?_) (fun c7 => ?_)
            · have hf := (if_neg c7).symm.trans hf
              refine a_iload (pc := 221) dX8_holds_221 rfl ?_
              refine a_iload (pc := 223) dX8_holds_223 rfl ?_
              refine a_sipush (pc := 225) 1000 dX8_holds_225 rfl ?_
              refine a_irem (pc := 228) dX8_holds_228 (by decide) ?_
              refine a_icmp_le (pc := 229) 236 dX8_holds_229 (by decide) (fun c5 => ?_) (fun c5 => ?_)
              · have hf := (if_pos c5).symm.trans hf
                refine a_iconst (pc := 236) 0 dX8_holds_236 rfl ?_
                refine a_sub (sub_k (sub_k (sub_k (sub_k (sub_k (sub_d (sub_d (sub_d sub_n)))))))) ?_
                exact sX8_holds_237 hA hd hk hn ih hf
              · have hf := (if_neg c5).symm.trans hf
                refine a_iconst (pc := 232) 1 dX8_holds_232 rfl ?_
                refine a_goto (pc := 233) 237 dX8_holds_233 (by decide) ?_
                refine a_sub (sub_k (sub_k (sub_k (sub_k (sub_k (sub_d (sub_d (sub_d sub_n)))))))) ?_
                exact sX8_holds_237 hA hd hk hn ih hf
            · have hf := (if_pos c7).symm.trans hf
              refine a_iload (pc := 202) dX8_holds_202 rfl ?_
              refine a_iload (pc := 204) dX8_holds_204 rfl ?_
              refine a_sipush (pc := 206) 1000 dX8_holds_206 rfl ?_
              refine a_irem (pc := 209) dX8_holds_209 (by decide) ?_
              refine a_icmp_ne (pc := 210) 217 dX8_holds_210 (by decide) (fun c6 => ?_) (fun c6 => ?_)
              · have hf := (if_neg c6).symm.trans hf
                refine a_iconst (pc := 217) 0 dX8_holds_217 rfl ?_
                refine a_goto (pc := 218) 237 dX8_holds_218 (by decide) ?_
                refine a_sub (sub_k (sub_k (sub_k (sub_k (sub_k (sub_d (sub_d (sub_d sub_n)))))))) ?_
                exact sX8_holds_237 hA hd hk hn ih hf
              · have hf := (if_pos c6).symm.trans hf
                refine a_iconst (pc := 213) 1 dX8_holds_213 rfl ?_
                refine a_goto (pc := 214) 237 dX8_holds_214 (by decide) ?_
                refine a_sub (sub_k (sub_k (sub_k (sub_k (sub_k (sub_d (sub_d (sub_d sub_n)))))))) ?_
                exact sX8_holds_237 hA hd hk hn ih hf
          · have hf := (if_pos c9).symm.trans hf
            refine a_iload (pc := 177) dX8_holds_177 rfl ?_
            refine a_iload (pc := 179) dX8_holds_179 rfl ?_
            refine a_sipush (pc := 181) 1000 dX8_holds_181 rfl ?_
            refine a_irem (pc := 184) dX8_holds_184 (by decide) ?_
            refine a_icmp_ge (pc := 185) 192 dX8_holds_185 (by decide) (fun c8 => ?_) (fun c8 => ?_)
            · have hf := (if_pos c8).symm.trans hf
              refine a_iconst (pc := 192) 0 dX8_holds_192 rfl ?_
              refine a_goto (pc := 193) 237 dX8_holds_193 (by decide) ?_
              refine a_sub (sub_k (sub_k (sub_k (sub_k (sub_k (sub_d (sub_d (sub_d sub_n)))))))) ?_
              exact sX8_holds_237 hA hd hk hn ih hf
            · have hf := (if_neg c8).symm.trans hf
              refine a_iconst (pc := 188) 1 dX8_holds_188 rfl ?_
              refine a_goto (pc := 189) 237 dX8_holds_189 (by decide) ?_
              refine a_sub (sub_k (sub_k (sub_k (sub_k (sub_k (sub_d (sub_d (sub_d sub_n)))))))) ?_
              exact sX8_holds_237 hA hd hk hn ih hf
        · have hf := (if_neg c19).symm.trans hf
          refine a_iinc (pc := 69) (ls' := [some (.ref 26), some (.int l1), some (.int l2), some (.int (l3 + (-1))), some (.int l4), some (.int x3), none, none]) (l3 + (-1)) dX8_holds_69 rfl rfl (by decide) rfl ?_
          refine a_aload_n (pc := 72) dX8_holds_72 rfl (isRv_r _) ?_
          refine m_getA (pc := 73) 46 hA dX8_holds_73 fl_X8_104 (Or.inr (Or.inl kz_31)) rfl ?_
          refine a_iload_n (pc := 76) dX8_holds_76 rfl ?_
          refine a_iconst (pc := 77) 1 dX8_holds_77 rfl ?_
          refine a_isub (pc := 78) dX8_holds_78 ?_
          refine a_iload (pc := 79) dX8_holds_79 rfl ?_
          refine a_bipush (pc := 81) (-38) dX8_holds_81 rfl ?_
          refine a_icmp_ne (pc := 83) 114 dX8_holds_83 (by decide) (fun c18 => ?_) (fun c18 => ?_)
          · have hf := (if_neg c18).symm.trans hf
            refine a_aload_n (pc := 114) dX8_holds_114 rfl (isRv_r _) ?_
            refine m_getA (pc := 115) 46 hA dX8_holds_115 fl_X8_104 (Or.inr (Or.inl kz_31)) rfl ?_
            refine a_iload_n (pc := 118) dX8_holds_118 rfl ?_
            refine a_iconst (pc := 119) 1 dX8_holds_119 rfl ?_
            refine a_isub (pc := 120) dX8_holds_120 ?_
            obtain ⟨x10, hx10, hf⟩ := Option.bind_eq_some_iff.mp hf
            refine m_zald (pc := 121) 46 hA dX8_holds_121 kz_31 rfl hx10 ?_
            refine a_if_ne (pc := 122) 134 dX8_holds_122 (by decide) (fun c13 => ?_) (fun c13 => ?_)
            · have hf := (if_neg c13).symm.trans hf
              refine a_sub (sub_k (sub_k (sub_k (sub_k (sub_k (sub_d (sub_k (sub_k sub_n)))))))) ?_
              exact sX8_holds_134 hA hd hk hn ih hf
            · have hf := (if_pos c13).symm.trans hf
              refine a_aload_n (pc := 125) dX8_holds_125 rfl (isRv_r _) ?_
              refine m_getA (pc := 126) 46 hA dX8_holds_126 fl_X8_104 (Or.inr (Or.inl kz_31)) rfl ?_
              refine a_iload_n (pc := 129) dX8_holds_129 rfl ?_
              obtain ⟨x11, hx11, hf⟩ := Option.bind_eq_some_iff.mp hf
              refine m_zald (pc := 130) 46 hA dX8_holds_130 kz_31 rfl hx11 ?_
              refine a_if_eq (pc := 131) 138 dX8_holds_131 (by decide) (fun c12 => ?_) (fun c12 => ?_)
              · have hf := (if_pos c12).symm.trans hf
                refine a_iconst (pc := 138) 0 dX8_holds_138 rfl ?_
                refine a_sub (sub_k (sub_k (sub_k (sub_k (sub_k (sub_d (sub_k (sub_k sub_n)))))))) ?_
                exact sX8_holds_139 hA hd hk hn ih hf
              · have hf := (if_neg c12).symm.trans hf
                refine a_sub (sub_k (sub_k (sub_k (sub_k (sub_k (sub_d (sub_k (sub_k sub_n)))))))) ?_
                exact sX8_holds_134 hA hd hk hn ih hf
          · have hf := (if_pos c18).symm.trans hf
            refine a_aload_n (pc := 86) dX8_holds_86 rfl (isRv_r _) ?_
            refine m_getA (pc := 87) 46 hA dX8_holds_87 fl_X8_104 (Or.inr (Or.inl kz_31)) rfl ?_
            refine a_iload_n (pc := 90) dX8_holds_90 rfl ?_
            refine a_iconst (pc := 91) 1 dX8_holds_91 rfl ?_
            refine a_isub (pc := 92) dX8_holds_92 ?_
            obtain ⟨x14, hx14, hf⟩ := Option.bind_eq_some_iff.mp hf
            refine m_zald (pc := 93) 46 hA dX8_holds_93 kz_31 rfl hx14 ?_
            refine a_if_eq (pc := 94) 110 dX8_holds_94 (by decide) (fun c17 => ?_) (fun c17 => ?_)
            · have hf := (if_pos c17).symm.trans hf
              refine a_sub (sub_k (sub_k (sub_k (sub_k (sub_k (sub_d (sub_k (sub_k sub_n)))))))) ?_
              exact sX8_holds_110 hA hd hk hn ih hf
            · have hf := (if_neg c17).symm.trans hf
              refine a_aload_n (pc := 97) dX8_holds_97 rfl (isRv_r _) ?_
              refine m_getA (pc := 98) 46 hA dX8_holds_98 fl_X8_104 (Or.inr (Or.inl kz_31)) rfl ?_
              refine a_iload_n (pc := 101) dX8_holds_101 rfl ?_
              obtain ⟨x15, hx15, hf⟩ := Option.bind_eq_some_iff.mp hf
              refine m_zald (pc := 102) 46 hA dX8_holds_102 kz_31 rfl hx15 ?_
              refine a_if_eq (pc := 103) 110 dX8_holds_103 (by decide) (fun c16 => ?_) (fun c16 => ?_)
              · have hf := (if_pos c16).symm.trans hf
                refine a_sub (sub_k (sub_k (sub_k (sub_k (sub_k (sub_d (sub_k (sub_k sub_n)))))))) ?_
                exact sX8_holds_110 hA hd hk hn ih hf
              · have hf := (if_neg c16).symm.trans hf
                refine a_iconst (pc := 106) 1 dX8_holds_106 rfl ?_
                refine a_goto (pc := 107) 139 dX8_holds_107 (by decide) ?_
                refine a_sub (sub_k (sub_k (sub_k (sub_k (sub_k (sub_d (sub_k (sub_k sub_n)))))))) ?_
                exact sX8_holds_139 hA hd hk hn ih hf
      · have hf := (if_pos c22).symm.trans hf
        refine a_aload_n (pc := 37) dX8_holds_37 rfl (isRv_r _) ?_
        refine m_getA (pc := 38) 46 hA dX8_holds_38 fl_X8_104 (Or.inr (Or.inl kz_31)) rfl ?_
        refine a_iload_n (pc := 41) dX8_holds_41 rfl ?_
        refine a_iconst (pc := 42) 1 dX8_holds_42 rfl ?_
        refine a_isub (pc := 43) dX8_holds_43 ?_
        refine a_aload_n (pc := 44) dX8_holds_44 rfl (isRv_r _) ?_
        refine m_getA (pc := 45) 46 hA dX8_holds_45 fl_X8_104 (Or.inr (Or.inl kz_31)) rfl ?_
        refine a_iload_n (pc := 48) dX8_holds_48 rfl ?_
        refine a_iconst (pc := 49) 1 dX8_holds_49 rfl ?_
        refine a_isub (pc := 50) dX8_holds_50 ?_
        obtain ⟨x20, hx20, hf⟩ := Option.bind_eq_some_iff.mp hf
        refine m_zald (pc := 51) 46 hA dX8_holds_51 kz_31 rfl hx20 ?_
        refine a_if_ne (pc := 52) 59 dX8_holds_52 (by decide) (fun c21 => ?_) (fun c21 => ?_)
        · have hf := (if_neg c21).symm.trans hf
          refine a_iconst (pc := 59) 0 dX8_holds_59 rfl ?_
          refine a_sub (sub_k (sub_k (sub_k (sub_k (sub_k (sub_d (sub_k (sub_k sub_n)))))))) ?_
          exact sX8_holds_60 hA hd hk hn ih hf
        · have hf := (if_pos c21).symm.trans hf
          refine a_iconst (pc := 55) 1 dX8_holds_55 rfl ?_
          refine a_goto (pc := 56) 60 dX8_holds_56 (by decide) ?_
          refine a_sub (sub_k (sub_k (sub_k (sub_k (sub_k (sub_d (sub_k (sub_k sub_n)))))))) ?_
          exact sX8_holds_60 hA hd hk hn ih hf
set_option maxHeartbeats 4000000 in
theorem sX8_holds_0 {l : Launch} {g : gE} {d MC MS' k n : Nat} {A D : List va_E} (hA : A.length = 26) (hd : 2 ≤ d) (hk : k ≤ MC) (hn : n ≤ MS') {r : Int32 × MS} {S : MS} {l1 : Int32} {l2 : Int32} (hf : X8_holds_0 S l1 l2 = some r) : AW l g d RX8 cX8_holds 8 "holds" MC MS' (Qr (some (.int r.1)) (mh A r.2 D)) k n 0 [some (.ref 26), some (.int l1), some (.int l2), none, none, none, none, none] [] (mh A S D) := by
  unfold X8_holds_0 at hf
  refine a_iconst (pc := 0) 0 dX8_holds_0 rfl ?_
  refine a_istore_n (pc := 1) (ls' := [some (.ref 26), some (.int l1), some (.int l2), some (.int 0), none, none, none, none]) dX8_holds_1 (by decide) rfl ?_
  refine a_aload_n (pc := 2) dX8_holds_2 rfl (isRv_r _) ?_
  refine m_getA (pc := 3) 34 hA dX8_holds_3 fl_X8_47 (Or.inl ki_12) rfl ?_
  refine a_iload_n (pc := 6) dX8_holds_6 rfl ?_
  obtain ⟨x1, hx1, hf⟩ := Option.bind_eq_some_iff.mp hf
  refine m_ald (pc := 7) 34 hA dX8_holds_7 ki_12 rfl hx1 ?_
  refine a_istore (pc := 8) (ls' := [some (.ref 26), some (.int l1), some (.int l2), some (.int 0), some (.int x1), none, none, none]) dX8_holds_8 (by decide) rfl ?_
  exact sX8_holds_10 hA hd hk hn FU S l1 l2 0 x1 hf
set_option maxHeartbeats 4000000 in
theorem mX8_holds {l : Launch} {g : gE} {d : Nat} {A D : List va_E} (hA : A.length = 26) (hd : 2 ≤ d) {r : Int32 × MS} {S : MS} {l1 : Int32} {l2 : Int32} (hf : X8_holds S l1 l2 = some r) : AM l g d yX8_holds cX8_holds 8 (some .boolean) 0 0 [.ref 26, .int l1, .int l2] (mh A S D) (Qr (some (.int r.1)) (mh A r.2 D)) := by
  refine AM.of rfl (by exact Nat.le_of_ble_eq_true rfl) (fun v h' q => by obtain ⟨rfl, -⟩ := q; refine ⟨_, rfl, ?_⟩; rcases (zg_of hf).2 with e | e <;> rw [e] <;> rfl) (fun ls e => ?_)
  have e2 : aBeg [.ref 26, .int l1, .int l2] 8 = [some (.ref 26), some (.int l1), some (.int l2), none, none, none, none, none] := rfl
  rw [e2] at e
  subst e
  refine a_sub (sub_k (sub_k (sub_k (sub_k (sub_k (sub_k (sub_k (sub_k (sub_n))))))))) ?_
  exact sX8_holds_0 hA hd (Nat.le_refl _) (Nat.le_refl _) ((zg_of hf).1)
-- PencilStrikesModel.isBarred(II)Z
def X8_isBarred_40 (rec5 : MS → Int32 → Int32 → Int32 → Option (Int32 × MS)) (S : MS) (l1 : Int32) (l2 : Int32) (l3 : Int32) : Option (Int32 × MS) :=
  rec5 S l1 l2 (l3 + 1)
def X8_isBarred_5 : Nat → MS → Int32 → Int32 → Int32 → Option (Int32 × MS)
  | 0, _, _, _, _ => none
  | fn + 1, S, l1, l2, l3 =>
    (mA S 9 l1).bind fun x1 =>
    if ((8 * l1) + x1) ≤ l3 then
      some (0, S)
    else
      (mA S 10 l3).bind fun x2 =>
      if x2 = 0 then
        (X8_holds S l3 l2).bind fun r3 =>
        if r3.1 = 0 then
          X8_isBarred_40 (X8_isBarred_5 fn) r3.2 l1 l2 l3
        else
          some (1, r3.2)
      else
        X8_isBarred_40 (X8_isBarred_5 fn) S l1 l2 l3
def X8_isBarred_0 (S : MS) (l1 : Int32) (l2 : Int32) : Option (Int32 × MS) :=
  X8_isBarred_5 FU S l1 l2 (8 * l1)
def X8_isBarred (S : MS) (l1 : Int32) (l2 : Int32) : Option (Int32 × MS) := zg (X8_isBarred_0 S l1 l2)
set_option maxHeartbeats 4000000 in
theorem sX8_isBarred_40 {l : Launch} {g : gE} {d MC MS' k n : Nat} {A D : List va_E} (hA : A.length = 26) (hd : 3 ≤ d) (hk : k ≤ MC) (hn : n ≤ MS') {r : Int32 × MS} {rec5 : MS → Int32 → Int32 → Int32 → Option (Int32 × MS)} (hlp5 : ∀ (S : MS) (l1 : Int32) (l2 : Int32) (l3 : Int32), rec5 S l1 l2 l3 = some r → AW l g d RX8 cX8_isBarred 4 "isBarred" MC MS' (Qr (some (.int r.1)) (mh A r.2 D)) k n 5 [some (.ref 26), some (.int l1), some (.int l2), some (.int l3)] [] (mh A S D)) {S : MS} {l1 : Int32} {l2 : Int32} {l3 : Int32} (hf : X8_isBarred_40 rec5 S l1 l2 l3 = some r) : AW l g d RX8 cX8_isBarred 4 "isBarred" MC MS' (Qr (some (.int r.1)) (mh A r.2 D)) k n 40 [some (.ref 26), some (.int l1), some (.int l2), some (.int l3)] [] (mh A S D) := by
  unfold X8_isBarred_40 at hf
  refine a_iinc (pc := 40) (ls' := [some (.ref 26), some (.int l1), some (.int l2), some (.int (l3 + 1))]) (l3 + 1) dX8_isBarred_40 rfl rfl (by decide) rfl ?_
  refine a_goto (pc := 43) 5 dX8_isBarred_43 (by decide) ?_
  exact hlp5 S l1 l2 (l3 + 1) hf
set_option maxHeartbeats 4000000 in
theorem sX8_isBarred_5 {l : Launch} {g : gE} {d MC MS' k n : Nat} {A D : List va_E} (hA : A.length = 26) (hd : 3 ≤ d) (hk : k ≤ MC) (hn : n ≤ MS') {r : Int32 × MS} : ∀ (fn : Nat) (S : MS) (l1 : Int32) (l2 : Int32) (l3 : Int32), X8_isBarred_5 fn S l1 l2 l3 = some r → AW l g d RX8 cX8_isBarred 4 "isBarred" MC MS' (Qr (some (.int r.1)) (mh A r.2 D)) k n 5 [some (.ref 26), some (.int l1), some (.int l2), some (.int l3)] [] (mh A S D) := by
  intro fn
  induction fn with
  | zero =>
    intro S l1 l2 l3 hf
    rw [X8_isBarred_5] at hf
    cases hf
  | succ fn ih =>
    intro S l1 l2 l3 hf
    rw [X8_isBarred_5] at hf
    refine a_iload_n (pc := 5) dX8_isBarred_5 rfl ?_
    refine a_bipush (pc := 6) 8 dX8_isBarred_6 rfl ?_
    refine a_iload_n (pc := 8) dX8_isBarred_8 rfl ?_
    refine a_imul (pc := 9) dX8_isBarred_9 ?_
    refine a_aload_n (pc := 10) dX8_isBarred_10 rfl (isRv_r _) ?_
    refine m_getA (pc := 11) 31 hA dX8_isBarred_11 fl_X8_38 (Or.inl ki_9) rfl ?_
    refine a_iload_n (pc := 14) dX8_isBarred_14 rfl ?_
    obtain ⟨x1, hx1, hf⟩ := Option.bind_eq_some_iff.mp hf
    refine m_ald (pc := 15) 31 hA dX8_isBarred_15 ki_9 rfl hx1 ?_
    refine a_iadd (pc := 16) dX8_isBarred_16 ?_
    refine a_icmp_ge (pc := 17) 46 dX8_isBarred_17 (by decide) (fun c6 => ?_) (fun c6 => ?_)
    · have hf := (if_pos c6).symm.trans hf
      refine a_iconst (pc := 46) 0 dX8_isBarred_46 rfl ?_
      have hf := Option.some.inj hf
      subst hf
      exact a_ireturn (pc := 47) dX8_isBarred_47 hk hn ⟨rfl, rfl⟩
    · have hf := (if_neg c6).symm.trans hf
      refine a_aload_n (pc := 20) dX8_isBarred_20 rfl (isRv_r _) ?_
      refine m_getA (pc := 21) 32 hA dX8_isBarred_21 fl_X8_41 (Or.inl ki_10) rfl ?_
      refine a_iload_n (pc := 24) dX8_isBarred_24 rfl ?_
      obtain ⟨x2, hx2, hf⟩ := Option.bind_eq_some_iff.mp hf
      refine m_ald (pc := 25) 32 hA dX8_isBarred_25 ki_10 rfl hx2 ?_
      refine a_if_ne (pc := 26) 40 dX8_isBarred_26 (by decide) (fun c5 => ?_) (fun c5 => ?_)
      · have hf := (if_neg c5).symm.trans hf
        exact sX8_isBarred_40 hA hd hk hn ih hf
      · have hf := (if_pos c5).symm.trans hf
        refine a_aload_n (pc := 29) dX8_isBarred_29 rfl (isRv_r _) ?_
        refine a_iload_n (pc := 30) dX8_isBarred_30 rfl ?_
        refine a_iload_n (pc := 31) dX8_isBarred_31 rfl ?_
        obtain ⟨r3, hr3, hf⟩ := Option.bind_eq_some_iff.mp hf
        refine m_call (pc := 32) (.int (r3.1)) [.int l3, .int l2] [] hA dX8_isBarred_32 ml_X8_246 mv_X8_holds rfl rfl (by omega) (mX8_holds hA (by omega) hr3) rfl (Nat.le_of_ble_eq_true rfl) hk hn ?_
        refine a_if_eq (pc := 35) 40 dX8_isBarred_35 (by decide) (fun c4 => ?_) (fun c4 => ?_)
        · have hf := (if_pos c4).symm.trans hf
          exact sX8_isBarred_40 hA hd hk hn ih hf
        · have hf := (if_neg c4).symm.trans hf
          refine a_iconst (pc := 38) 1 dX8_isBarred_38 rfl ?_
          have hf := Option.some.inj hf
          subst hf
          exact a_ireturn (pc := 39) dX8_isBarred_39 hk hn ⟨rfl, rfl⟩
set_option maxHeartbeats 4000000 in
theorem sX8_isBarred_0 {l : Launch} {g : gE} {d MC MS' k n : Nat} {A D : List va_E} (hA : A.length = 26) (hd : 3 ≤ d) (hk : k ≤ MC) (hn : n ≤ MS') {r : Int32 × MS} {S : MS} {l1 : Int32} {l2 : Int32} (hf : X8_isBarred_0 S l1 l2 = some r) : AW l g d RX8 cX8_isBarred 4 "isBarred" MC MS' (Qr (some (.int r.1)) (mh A r.2 D)) k n 0 [some (.ref 26), some (.int l1), some (.int l2), none] [] (mh A S D) := by
  unfold X8_isBarred_0 at hf
  refine a_bipush (pc := 0) 8 dX8_isBarred_0 rfl ?_
  refine a_iload_n (pc := 2) dX8_isBarred_2 rfl ?_
  refine a_imul (pc := 3) dX8_isBarred_3 ?_
  refine a_istore_n (pc := 4) (ls' := [some (.ref 26), some (.int l1), some (.int l2), some (.int (8 * l1))]) dX8_isBarred_4 (by decide) rfl ?_
  exact sX8_isBarred_5 hA hd hk hn FU S l1 l2 (8 * l1) hf
set_option maxHeartbeats 4000000 in
theorem mX8_isBarred {l : Launch} {g : gE} {d : Nat} {A D : List va_E} (hA : A.length = 26) (hd : 3 ≤ d) {r : Int32 × MS} {S : MS} {l1 : Int32} {l2 : Int32} (hf : X8_isBarred S l1 l2 = some r) : AM l g d yX8_isBarred cX8_isBarred 4 (some .boolean) 0 0 [.ref 26, .int l1, .int l2] (mh A S D) (Qr (some (.int r.1)) (mh A r.2 D)) := by
  refine AM.of rfl (by exact Nat.le_of_ble_eq_true rfl) (fun v h' q => by obtain ⟨rfl, -⟩ := q; refine ⟨_, rfl, ?_⟩; rcases (zg_of hf).2 with e | e <;> rw [e] <;> rfl) (fun ls e => ?_)
  have e2 : aBeg [.ref 26, .int l1, .int l2] 4 = [some (.ref 26), some (.int l1), some (.int l2), none] := rfl
  rw [e2] at e
  subst e
  refine a_sub (sub_k (sub_k (sub_k (sub_k (sub_n))))) ?_
  exact sX8_isBarred_0 hA hd (Nat.le_refl _) (Nat.le_refl _) ((zg_of hf).1)
-- PencilStrikesModel.isLawful(II)Z
def X8_isLawful_64 (rec32 : MS → Int32 → Int32 → Int32 → Int32 → Option (Int32 × MS)) (S : MS) (s0 : Int32) (s1 : Int32) (l1 : Int32) (l2 : Int32) (l4 : Int32) : Option (Int32 × MS) :=
  rec32 S l1 l2 (s0 + s1) (l4 + 1)
def X8_isLawful_121 (S : MS) : Option (Int32 × MS) :=
  some (0, S)
def X8_isLawful_149 (rec78 : MS → Int32 → Int32 → Int32 → Int32 → Option (Int32 × MS)) (S : MS) (l1 : Int32) (l2 : Int32) (l3 : Int32) (l4 : Int32) : Option (Int32 × MS) :=
  rec78 S l1 l2 l3 (l4 + 1)
def X8_isLawful_123 (rec78 : MS → Int32 → Int32 → Int32 → Int32 → Option (Int32 × MS)) (S : MS) (l1 : Int32) (l2 : Int32) (l3 : Int32) (l4 : Int32) : Option (Int32 × MS) :=
  (mA S 10 l4).bind fun x1 =>
  if x1 = 2 then
    (mA S 11 l4).bind fun x2 =>
    if l3 ≤ (x2 + l2) then
      X8_isLawful_149 rec78 S l1 l2 l3 l4
    else
      some (0, S)
  else
    X8_isLawful_149 rec78 S l1 l2 l3 l4
def X8_isLawful_78 : Nat → MS → Int32 → Int32 → Int32 → Int32 → Option (Int32 × MS)
  | 0, _, _, _, _, _ => none
  | fn + 1, S, l1, l2, l3, l4 =>
    (mA S 9 l1).bind fun x1 =>
    if ((8 * l1) + x1) ≤ l4 then
      some (1, S)
    else
      (mA S 10 l4).bind fun x2 =>
      if x2 = 1 then
        (X8_gives S 0).bind fun r3 =>
        if r3.1 = 0 then
          X8_isLawful_121 r3.2
        else
          (X8_gives r3.2 1).bind fun r4 =>
          if r4.1 = 0 then
            X8_isLawful_121 r4.2
          else
            X8_isLawful_123 (X8_isLawful_78 fn) r4.2 l1 l2 l3 l4
      else
        X8_isLawful_123 (X8_isLawful_78 fn) S l1 l2 l3 l4
def X8_isLawful_32 : Nat → MS → Int32 → Int32 → Int32 → Int32 → Option (Int32 × MS)
  | 0, _, _, _, _, _ => none
  | fn + 1, S, l1, l2, l3, l4 =>
    if (S.1 28) ≤ l4 then
      X8_isLawful_78 FU S l1 l2 l3 (8 * l1)
    else
      (mA S 23 l4).bind fun x1 =>
      if x1 = 1 then
        (mA S 26 l4).bind fun x2 =>
        X8_isLawful_64 (X8_isLawful_32 fn) S l3 x2 l1 l2 l4
      else
        X8_isLawful_64 (X8_isLawful_32 fn) S l3 0 l1 l2 l4
def X8_isLawful_2 : Nat → MS → Int32 → Int32 → Int32 → Option (Int32 × MS)
  | 0, _, _, _, _ => none
  | fn + 1, S, l1, l2, l3 =>
    if (S.1 28) ≤ l3 then
      X8_isLawful_32 FU S l1 l2 0 0
    else
      (X8_isBarred S l1 l3).bind fun r1 =>
      if r1.1 = 0 then
        X8_isLawful_2 fn r1.2 l1 l2 (l3 + 1)
      else
        some (0, r1.2)
def X8_isLawful_0 (S : MS) (l1 : Int32) (l2 : Int32) : Option (Int32 × MS) :=
  X8_isLawful_2 FU S l1 l2 0
def X8_isLawful (S : MS) (l1 : Int32) (l2 : Int32) : Option (Int32 × MS) := zg (X8_isLawful_0 S l1 l2)
set_option maxHeartbeats 4000000 in
theorem sX8_isLawful_64 {l : Launch} {g : gE} {d MC MS' k n : Nat} {A D : List va_E} (hA : A.length = 26) (hd : 4 ≤ d) (hk : k ≤ MC) (hn : n ≤ MS') {r : Int32 × MS} {rec32 : MS → Int32 → Int32 → Int32 → Int32 → Option (Int32 × MS)} (hlp32 : ∀ (S : MS) (l1 : Int32) (l2 : Int32) (l3 : Int32) (l4 : Int32), rec32 S l1 l2 l3 l4 = some r → AW l g d RX8 cX8_isLawful 5 "isLawful" MC MS' (Qr (some (.int r.1)) (mh A r.2 D)) k n 32 [some (.ref 26), some (.int l1), some (.int l2), some (.int l3), some (.int l4)] [] (mh A S D)) {S : MS} {s0 : Int32} {s1 : Int32} {l1 : Int32} {l2 : Int32} {l4 : Int32} (hf : X8_isLawful_64 rec32 S s0 s1 l1 l2 l4 = some r) : AW l g d RX8 cX8_isLawful 5 "isLawful" MC MS' (Qr (some (.int r.1)) (mh A r.2 D)) k n 64 [some (.ref 26), some (.int l1), some (.int l2), none, some (.int l4)] [.int s1, .int s0] (mh A S D) := by
  unfold X8_isLawful_64 at hf
  refine a_iadd (pc := 64) dX8_isLawful_64 ?_
  refine a_istore_n (pc := 65) (ls' := [some (.ref 26), some (.int l1), some (.int l2), some (.int (s0 + s1)), some (.int l4)]) dX8_isLawful_65 (by decide) rfl ?_
  refine a_iinc (pc := 66) (ls' := [some (.ref 26), some (.int l1), some (.int l2), some (.int (s0 + s1)), some (.int (l4 + 1))]) (l4 + 1) dX8_isLawful_66 rfl rfl (by decide) rfl ?_
  refine a_goto (pc := 69) 32 dX8_isLawful_69 (by decide) ?_
  exact hlp32 S l1 l2 (s0 + s1) (l4 + 1) hf
set_option maxHeartbeats 4000000 in
theorem sX8_isLawful_121 {l : Launch} {g : gE} {d MC MS' k n : Nat} {A D : List va_E} (hA : A.length = 26) (hd : 4 ≤ d) (hk : k ≤ MC) (hn : n ≤ MS') {r : Int32 × MS} {S : MS} (hf : X8_isLawful_121 S = some r) : AW l g d RX8 cX8_isLawful 5 "isLawful" MC MS' (Qr (some (.int r.1)) (mh A r.2 D)) k n 121 [none, none, none, none, none] [] (mh A S D) := by
  unfold X8_isLawful_121 at hf
  refine a_iconst (pc := 121) 0 dX8_isLawful_121 rfl ?_
  have hf := Option.some.inj hf
  subst hf
  exact a_ireturn (pc := 122) dX8_isLawful_122 hk hn ⟨rfl, rfl⟩
set_option maxHeartbeats 4000000 in
theorem sX8_isLawful_149 {l : Launch} {g : gE} {d MC MS' k n : Nat} {A D : List va_E} (hA : A.length = 26) (hd : 4 ≤ d) (hk : k ≤ MC) (hn : n ≤ MS') {r : Int32 × MS} {rec78 : MS → Int32 → Int32 → Int32 → Int32 → Option (Int32 × MS)} (hlp78 : ∀ (S : MS) (l1 : Int32) (l2 : Int32) (l3 : Int32) (l4 : Int32), rec78 S l1 l2 l3 l4 = some r → AW l g d RX8 cX8_isLawful 5 "isLawful" MC MS' (Qr (some (.int r.1)) (mh A r.2 D)) k n 78 [some (.ref 26), some (.int l1), some (.int l2), some (.int l3), some (.int l4)] [] (mh A S D)) {S : MS} {l1 : Int32} {l2 : Int32} {l3 : Int32} {l4 : Int32} (hf : X8_isLawful_149 rec78 S l1 l2 l3 l4 = some r) : AW l g d RX8 cX8_isLawful 5 "isLawful" MC MS' (Qr (some (.int r.1)) (mh A r.2 D)) k n 149 [some (.ref 26), some (.int l1), some (.int l2), some (.int l3), some (.int l4)] [] (mh A S D) := by
  unfold X8_isLawful_149 at hf
  refine a_iinc (pc := 149) (ls' := [some (.ref 26), some (.int l1), some (.int l2), some (.int l3), some (.int (l4 + 1))]) (l4 + 1) dX8_isLawful_149 rfl rfl (by decide) rfl ?_
  refine a_goto (pc := 152) 78 dX8_isLawful_152 (by decide) ?_
  exact hlp78 S l1 l2 l3 (l4 + 1) hf
set_option maxHeartbeats 4000000 in
theorem sX8_isLawful_123 {l : Launch} {g : gE} {d MC MS' k n : Nat} {A D : List va_E} (hA : A.length = 26) (hd : 4 ≤ d) (hk : k ≤ MC) (hn : n ≤ MS') {r : Int32 × MS} {rec78 : MS → Int32 → Int32 → Int32 → Int32 → Option (Int32 × MS)} (hlp78 : ∀ (S : MS) (l1 : Int32) (l2 : Int32) (l3 : Int32) (l4 : Int32), rec78 S l1 l2 l3 l4 = some r → AW l g d RX8 cX8_isLawful 5 "isLawful" MC MS' (Qr (some (.int r.1)) (mh A r.2 D)) k n 78 [some (.ref 26), some (.int l1), some (.int l2), some (.int l3), some (.int l4)] [] (mh A S D)) {S : MS} {l1 : Int32} {l2 : Int32} {l3 : Int32} {l4 : Int32} (hf : X8_isLawful_123 rec78 S l1 l2 l3 l4 = some r) : AW l g d RX8 cX8_isLawful 5 "isLawful" MC MS' (Qr (some (.int r.1)) (mh A r.2 D)) k n 123 [some (.ref 26), some (.int l1), some (.int l2), some (.int l3), some (.int l4)] [] (mh A S D) := by
  unfold X8_isLawful_123 at hf
  refine a_aload_n (pc := 123) dX8_isLawful_123 rfl (isRv_r _) ?_
  refine m_getA (pc := 124) 32 hA dX8_isLawful_124 fl_X8_41 (Or.inl ki_10) rfl ?_
  refine a_iload (pc := 127) dX8_isLawful_127 rfl ?_
  obtain ⟨x1, hx1, hf⟩ := Option.bind_eq_some_iff.mp hf
  refine m_ald (pc := 129) 32 hA dX8_isLawful_129 ki_10 rfl hx1 ?_
  refine a_iconst (pc := 130) 2 dX8_isLawful_130 rfl ?_
  refine a_icmp_ne (pc := 131) 149 dX8_isLawful_131 (by decide) (fun c4 => ?_) (fun c4 => ?_)
  · have hf := (if_neg c4).symm.trans hf
    exact sX8_isLawful_149 hA hd hk hn hlp78 hf
  · have hf := (if_pos c4).symm.trans hf
    refine a_iload_n (pc := 134) dX8_isLawful_134 rfl ?_
    refine a_aload_n (pc := 135) dX8_isLawful_135 rfl (isRv_r _) ?_
    refine m_getA (pc := 136) 33 hA dX8_isLawful_136 fl_X8_44 (Or.inl ki_11) rfl ?_
    refine a_iload (pc := 139) dX8_isLawful_139 rfl ?_
    obtain ⟨x2, hx2, hf⟩ := Option.bind_eq_some_iff.mp hf
    refine m_ald (pc := 141) 33 hA dX8_isLawful_141 ki_11 rfl hx2 ?_
    refine a_iload_n (pc := 142) dX8_isLawful_142 rfl ?_
    refine a_iadd (pc := 143) dX8_isLawful_143 ?_
    refine a_icmp_le (pc := 144) 149 dX8_isLawful_144 (by decide) (fun c3 => ?_) (fun c3 => ?_)
    · have hf := (if_pos c3).symm.trans hf
      exact sX8_isLawful_149 hA hd hk hn hlp78 hf
    · have hf := (if_neg c3).symm.trans hf
      refine a_iconst (pc := 147) 0 dX8_isLawful_147 rfl ?_
      have hf := Option.some.inj hf
      subst hf
      exact a_ireturn (pc := 148) dX8_isLawful_148 hk hn ⟨rfl, rfl⟩
set_option maxHeartbeats 4000000 in
theorem sX8_isLawful_78 {l : Launch} {g : gE} {d MC MS' k n : Nat} {A D : List va_E} (hA : A.length = 26) (hd : 4 ≤ d) (hk : k ≤ MC) (hn : n ≤ MS') {r : Int32 × MS} : ∀ (fn : Nat) (S : MS) (l1 : Int32) (l2 : Int32) (l3 : Int32) (l4 : Int32), X8_isLawful_78 fn S l1 l2 l3 l4 = some r → AW l g d RX8 cX8_isLawful 5 "isLawful" MC MS' (Qr (some (.int r.1)) (mh A r.2 D)) k n 78 [some (.ref 26), some (.int l1), some (.int l2), some (.int l3), some (.int l4)] [] (mh A S D) := by
  intro fn
  induction fn with
  | zero =>
    intro S l1 l2 l3 l4 hf
    rw [X8_isLawful_78] at hf
    cases hf
  | succ fn ih =>
    intro S l1 l2 l3 l4 hf
    rw [X8_isLawful_78] at hf
    refine a_iload (pc := 78) dX8_isLawful_78 rfl ?_
    refine a_bipush (pc := 80) 8 dX8_isLawful_80 rfl ?_
    refine a_iload_n (pc := 82) dX8_isLawful_82 rfl ?_
    refine a_imul (pc := 83) dX8_isLawful_83 ?_
    refine a_aload_n (pc := 84) dX8_isLawful_84 rfl (isRv_r _) ?_
    refine m_getA (pc := 85) 31 hA dX8_isLawful_85 fl_X8_38 (Or.inl ki_9) rfl ?_
    refine a_iload_n (pc := 88) dX8_isLawful_88 rfl ?_
    obtain ⟨x1, hx1, hf⟩ := Option.bind_eq_some_iff.mp hf
    refine m_ald (pc := 89) 31 hA dX8_isLawful_89 ki_9 rfl hx1 ?_
    refine a_iadd (pc := 90) dX8_isLawful_90 ?_
    refine a_icmp_ge (pc := 91) 155 dX8_isLawful_91 (by decide) (fun c8 => ?_) (fun c8 => ?_)
    · have hf := (if_pos c8).symm.trans hf
      refine a_iconst (pc := 155) 1 dX8_isLawful_155 rfl ?_
      have hf := Option.some.inj hf
      subst hf
      exact a_ireturn (pc := 156) dX8_isLawful_156 hk hn ⟨rfl, rfl⟩
    · have hf := (if_neg c8).symm.trans hf
      refine a_aload_n (pc := 94) dX8_isLawful_94 rfl (isRv_r _) ?_
      refine m_getA (pc := 95) 32 hA dX8_isLawful_95 fl_X8_41 (Or.inl ki_10) rfl ?_
      refine a_iload (pc := 98) dX8_isLawful_98 rfl ?_
      obtain ⟨x2, hx2, hf⟩ := Option.bind_eq_some_iff.mp hf
      refine m_ald (pc := 100) 32 hA dX8_isLawful_100 ki_10 rfl hx2 ?_
      refine a_iconst (pc := 101) 1 dX8_isLawful_101 rfl ?_
      refine a_icmp_ne (pc := 102) 123 dX8_isLawful_102 (by decide) (fun c7 => ?_) (fun c7 => ?_)
      · have hf := (if_neg c7).symm.trans hf
        exact sX8_isLawful_123 hA hd hk hn ih hf
      · have hf := (if_pos c7).symm.trans hf
        refine a_aload_n (pc := 105) dX8_isLawful_105 rfl (isRv_r _) ?_
        refine a_iconst (pc := 106) 0 dX8_isLawful_106 rfl ?_
        obtain ⟨r3, hr3, hf⟩ := Option.bind_eq_some_iff.mp hf
        refine m_call (pc := 107) (.int (r3.1)) [.int 0] [] hA dX8_isLawful_107 ml_X8_252 mv_X8_gives rfl rfl (by omega) (mX8_gives hA (by omega) hr3) rfl (Nat.le_of_ble_eq_true rfl) hk hn ?_
        refine a_if_eq (pc := 110) 121 dX8_isLawful_110 (by decide) (fun c6 => ?_) (fun c6 => ?_)
        · have hf := (if_pos c6).symm.trans hf
          refine a_sub (sub_d (sub_d (sub_d (sub_d (sub_d sub_n))))) ?_
          exact sX8_isLawful_121 hA hd hk hn hf
        · have hf := (if_neg c6).symm.trans hf
          refine a_aload_n (pc := 113) dX8_isLawful_113 rfl (isRv_r _) ?_
          refine a_iconst (pc := 114) 1 dX8_isLawful_114 rfl ?_
          obtain ⟨r4, hr4, hf⟩ := Option.bind_eq_some_iff.mp hf
          refine m_call (pc := 115) (.int (r4.1)) [.int 1] [] hA dX8_isLawful_115 ml_X8_252 mv_X8_gives rfl rfl (by omega) (mX8_gives hA (by omega) hr4) rfl (Nat.le_of_ble_eq_true rfl) hk hn ?_
          refine a_if_ne (pc := 118) 123 dX8_isLawful_118 (by decide) (fun c5 => ?_) (fun c5 => ?_)
          · have hf := (if_neg c5).symm.trans hf
            exact sX8_isLawful_123 hA hd hk hn ih hf
          · have hf := (if_pos c5).symm.trans hf
            refine a_sub (sub_d (sub_d (sub_d (sub_d (sub_d sub_n))))) ?_
            exact sX8_isLawful_121 hA hd hk hn hf
set_option maxHeartbeats 4000000 in
theorem sX8_isLawful_32 {l : Launch} {g : gE} {d MC MS' k n : Nat} {A D : List va_E} (hA : A.length = 26) (hd : 4 ≤ d) (hk : k ≤ MC) (hn : n ≤ MS') {r : Int32 × MS} : ∀ (fn : Nat) (S : MS) (l1 : Int32) (l2 : Int32) (l3 : Int32) (l4 : Int32), X8_isLawful_32 fn S l1 l2 l3 l4 = some r → AW l g d RX8 cX8_isLawful 5 "isLawful" MC MS' (Qr (some (.int r.1)) (mh A r.2 D)) k n 32 [some (.ref 26), some (.int l1), some (.int l2), some (.int l3), some (.int l4)] [] (mh A S D) := by
  intro fn
  induction fn with
  | zero =>
    intro S l1 l2 l3 l4 hf
    rw [X8_isLawful_32] at hf
    cases hf
  | succ fn ih =>
    intro S l1 l2 l3 l4 hf
    rw [X8_isLawful_32] at hf
    refine a_iload (pc := 32) dX8_isLawful_32 rfl ?_
    refine a_aload_n (pc := 34) dX8_isLawful_34 rfl (isRv_r _) ?_
    refine m_getS (pc := 35) hA dX8_isLawful_35 fl_X8_95 ks_28 ?_
    refine a_icmp_ge (pc := 38) 72 dX8_isLawful_38 (by decide) (fun c4 => ?_) (fun c4 => ?_)
    · have hf := (if_pos c4).symm.trans hf
      refine a_bipush (pc := 72) 8 dX8_isLawful_72 rfl ?_
      refine a_iload_n (pc := 74) dX8_isLawful_74 rfl ?_
      refine a_imul (pc := 75) dX8_isLawful_75 ?_
      refine a_istore (pc := 76) (ls' := [some (.ref 26), some (.int l1), some (.int l2), some (.int l3), some (.int (8 * l1))]) dX8_isLawful_76 (by decide) rfl ?_
      exact sX8_isLawful_78 hA hd hk hn FU S l1 l2 l3 (8 * l1) hf
    · have hf := (if_neg c4).symm.trans hf
      refine a_iload_n (pc := 41) dX8_isLawful_41 rfl ?_
      refine a_aload_n (pc := 42) dX8_isLawful_42 rfl (isRv_r _) ?_
      refine m_getA (pc := 43) 42 hA dX8_isLawful_43 fl_X8_80 (Or.inl ki_23) rfl ?_
      refine a_iload (pc := 46) dX8_isLawful_46 rfl ?_
      obtain ⟨x1, hx1, hf⟩ := Option.bind_eq_some_iff.mp hf
      refine m_ald (pc := 48) 42 hA dX8_isLawful_48 ki_23 rfl hx1 ?_
      refine a_iconst (pc := 49) 1 dX8_isLawful_49 rfl ?_
      refine a_icmp_ne (pc := 50) 63 dX8_isLawful_50 (by decide) (fun c3 => ?_) (fun c3 => ?_)
      · have hf := (if_neg c3).symm.trans hf
        refine a_iconst (pc := 63) 0 dX8_isLawful_63 rfl ?_
        refine a_sub (sub_k (sub_k (sub_k (sub_d (sub_k sub_n))))) ?_
        exact sX8_isLawful_64 hA hd hk hn ih hf
      · have hf := (if_pos c3).symm.trans hf
        refine a_aload_n (pc := 53) dX8_isLawful_53 rfl (isRv_r _) ?_
        refine m_getA (pc := 54) 45 hA dX8_isLawful_54 fl_X8_89 (Or.inl ki_26) rfl ?_
        refine a_iload (pc := 57) dX8_isLawful_57 rfl ?_
        obtain ⟨x2, hx2, hf⟩ := Option.bind_eq_some_iff.mp hf
        refine m_ald (pc := 59) 45 hA dX8_isLawful_59 ki_26 rfl hx2 ?_
        refine a_goto (pc := 60) 64 dX8_isLawful_60 (by decide) ?_
        refine a_sub (sub_k (sub_k (sub_k (sub_d (sub_k sub_n))))) ?_
        exact sX8_isLawful_64 hA hd hk hn ih hf
set_option maxHeartbeats 4000000 in
theorem sX8_isLawful_2 {l : Launch} {g : gE} {d MC MS' k n : Nat} {A D : List va_E} (hA : A.length = 26) (hd : 4 ≤ d) (hk : k ≤ MC) (hn : n ≤ MS') {r : Int32 × MS} : ∀ (fn : Nat) (S : MS) (l1 : Int32) (l2 : Int32) (l3 : Int32), X8_isLawful_2 fn S l1 l2 l3 = some r → AW l g d RX8 cX8_isLawful 5 "isLawful" MC MS' (Qr (some (.int r.1)) (mh A r.2 D)) k n 2 [some (.ref 26), some (.int l1), some (.int l2), some (.int l3), none] [] (mh A S D) := by
  intro fn
  induction fn with
  | zero =>
    intro S l1 l2 l3 hf
    rw [X8_isLawful_2] at hf
    cases hf
  | succ fn ih =>
    intro S l1 l2 l3 hf
    rw [X8_isLawful_2] at hf
    refine a_iload_n (pc := 2) dX8_isLawful_2 rfl ?_
    refine a_aload_n (pc := 3) dX8_isLawful_3 rfl (isRv_r _) ?_
    refine m_getS (pc := 4) hA dX8_isLawful_4 fl_X8_95 ks_28 ?_
    refine a_icmp_ge (pc := 7) 27 dX8_isLawful_7 (by decide) (fun c3 => ?_) (fun c3 => ?_)
    · have hf := (if_pos c3).symm.trans hf
      refine a_iconst (pc := 27) 0 dX8_isLawful_27 rfl ?_
      refine a_istore_n (pc := 28) (ls' := [some (.ref 26), some (.int l1), some (.int l2), some (.int 0), none]) dX8_isLawful_28 (by decide) rfl ?_
      refine a_iconst (pc := 29) 0 dX8_isLawful_29 rfl ?_
      refine a_istore (pc := 30) (ls' := [some (.ref 26), some (.int l1), some (.int l2), some (.int 0), some (.int 0)]) dX8_isLawful_30 (by decide) rfl ?_
      exact sX8_isLawful_32 hA hd hk hn FU S l1 l2 0 0 hf
    · have hf := (if_neg c3).symm.trans hf
      refine a_aload_n (pc := 10) dX8_isLawful_10 rfl (isRv_r _) ?_
      refine a_iload_n (pc := 11) dX8_isLawful_11 rfl ?_
      refine a_iload_n (pc := 12) dX8_isLawful_12 rfl ?_
      obtain ⟨r1, hr1, hf⟩ := Option.bind_eq_some_iff.mp hf
      refine m_call (pc := 13) (.int (r1.1)) [.int l1, .int l3] [] hA dX8_isLawful_13 ml_X8_249 mv_X8_isBarred rfl rfl (by omega) (mX8_isBarred hA (by omega) hr1) rfl (Nat.le_of_ble_eq_true rfl) hk hn ?_
      refine a_if_eq (pc := 16) 21 dX8_isLawful_16 (by decide) (fun c2 => ?_) (fun c2 => ?_)
      · have hf := (if_pos c2).symm.trans hf
        refine a_iinc (pc := 21) (ls' := [some (.ref 26), some (.int l1), some (.int l2), some (.int (l3 + 1)), none]) (l3 + 1) dX8_isLawful_21 rfl rfl (by decide) rfl ?_
        refine a_goto (pc := 24) 2 dX8_isLawful_24 (by decide) ?_
        exact ih r1.2 l1 l2 (l3 + 1) hf
      · have hf := (if_neg c2).symm.trans hf
        refine a_iconst (pc := 19) 0 dX8_isLawful_19 rfl ?_
        have hf := Option.some.inj hf
        subst hf
        exact a_ireturn (pc := 20) dX8_isLawful_20 hk hn ⟨rfl, rfl⟩
set_option maxHeartbeats 4000000 in
theorem sX8_isLawful_0 {l : Launch} {g : gE} {d MC MS' k n : Nat} {A D : List va_E} (hA : A.length = 26) (hd : 4 ≤ d) (hk : k ≤ MC) (hn : n ≤ MS') {r : Int32 × MS} {S : MS} {l1 : Int32} {l2 : Int32} (hf : X8_isLawful_0 S l1 l2 = some r) : AW l g d RX8 cX8_isLawful 5 "isLawful" MC MS' (Qr (some (.int r.1)) (mh A r.2 D)) k n 0 [some (.ref 26), some (.int l1), some (.int l2), none, none] [] (mh A S D) := by
  unfold X8_isLawful_0 at hf
  refine a_iconst (pc := 0) 0 dX8_isLawful_0 rfl ?_
  refine a_istore_n (pc := 1) (ls' := [some (.ref 26), some (.int l1), some (.int l2), some (.int 0), none]) dX8_isLawful_1 (by decide) rfl ?_
  exact sX8_isLawful_2 hA hd hk hn FU S l1 l2 0 hf
set_option maxHeartbeats 4000000 in
theorem mX8_isLawful {l : Launch} {g : gE} {d : Nat} {A D : List va_E} (hA : A.length = 26) (hd : 4 ≤ d) {r : Int32 × MS} {S : MS} {l1 : Int32} {l2 : Int32} (hf : X8_isLawful S l1 l2 = some r) : AM l g d yX8_isLawful cX8_isLawful 5 (some .boolean) 0 0 [.ref 26, .int l1, .int l2] (mh A S D) (Qr (some (.int r.1)) (mh A r.2 D)) := by
  refine AM.of rfl (by exact Nat.le_of_ble_eq_true rfl) (fun v h' q => by obtain ⟨rfl, -⟩ := q; refine ⟨_, rfl, ?_⟩; rcases (zg_of hf).2 with e | e <;> rw [e] <;> rfl) (fun ls e => ?_)
  have e2 : aBeg [.ref 26, .int l1, .int l2] 5 = [some (.ref 26), some (.int l1), some (.int l2), none, none] := rfl
  rw [e2] at e
  subst e
  refine a_sub (sub_k (sub_k (sub_k (sub_k (sub_k (sub_n)))))) ?_
  exact sX8_isLawful_0 hA hd (Nat.le_refl _) (Nat.le_refl _) ((zg_of hf).1)
-- PencilStrikesModel.lawful(III)I
def X8_lawful_16 (S : MS) : Option (Int32 × MS) :=
  some ((-1), S)
def X8_lawful_53 (S : MS) (s0 : Int32) : Option (Int32 × MS) :=
  some (s0, S)
def X8_lawful_52 (S : MS) : Option (Int32 × MS) :=
  X8_lawful_53 S 0
def X8_lawful_0 (S : MS) (l1 : Int32) (l2 : Int32) (l3 : Int32) : Option (Int32 × MS) :=
  (X8_isBargain S l1).bind fun r1 =>
  if r1.1 = 0 then
    X8_lawful_16 r1.2
  else
    (X8_isLaw r1.2 l3).bind fun r2 =>
    if r2.1 = 0 then
      X8_lawful_16 r2.2
    else
      (X8_isSet r2.2 l1 l2).bind fun r3 =>
      if r3.1 = 0 then
        some ((-2), r3.2)
      else
        (X8_readsLeft r3.2 l1 l2).bind fun r4 =>
        if r4.1 = 0 then
          X8_lawful_52 r4.2
        else
          (X8_isLawful r4.2 l3 0).bind fun r5 =>
          if r5.1 = 0 then
            X8_lawful_52 r5.2
          else
            X8_lawful_53 r5.2 1
def X8_lawful (S : MS) (l1 : Int32) (l2 : Int32) (l3 : Int32) : Option (Int32 × MS) := X8_lawful_0 S l1 l2 l3
set_option maxHeartbeats 4000000 in
theorem sX8_lawful_16 {l : Launch} {g : gE} {d MC MS' k n : Nat} {A D : List va_E} (hA : A.length = 26) (hd : 5 ≤ d) (hk : k ≤ MC) (hn : n ≤ MS') {r : Int32 × MS} {S : MS} (hf : X8_lawful_16 S = some r) : AW l g d RX8 cX8_lawful 4 "lawful" MC MS' (Qr (some (.int r.1)) (mh A r.2 D)) k n 16 [none, none, none, none] [] (mh A S D) := by
  unfold X8_lawful_16 at hf
  refine a_iconst (pc := 16) (-1) dX8_lawful_16 rfl ?_
  have hf := Option.some.inj hf
  subst hf
  exact a_ireturn (pc := 17) dX8_lawful_17 hk hn ⟨rfl, rfl⟩
set_option maxHeartbeats 4000000 in
theorem sX8_lawful_53 {l : Launch} {g : gE} {d MC MS' k n : Nat} {A D : List va_E} (hA : A.length = 26) (hd : 5 ≤ d) (hk : k ≤ MC) (hn : n ≤ MS') {r : Int32 × MS} {S : MS} {s0 : Int32} (hf : X8_lawful_53 S s0 = some r) : AW l g d RX8 cX8_lawful 4 "lawful" MC MS' (Qr (some (.int r.1)) (mh A r.2 D)) k n 53 [none, none, none, none] [.int s0] (mh A S D) := by
  unfold X8_lawful_53 at hf
  have hf := Option.some.inj hf
  subst hf
  exact a_ireturn (pc := 53) dX8_lawful_53 hk hn ⟨rfl, rfl⟩
set_option maxHeartbeats 4000000 in
theorem sX8_lawful_52 {l : Launch} {g : gE} {d MC MS' k n : Nat} {A D : List va_E} (hA : A.length = 26) (hd : 5 ≤ d) (hk : k ≤ MC) (hn : n ≤ MS') {r : Int32 × MS} {S : MS} (hf : X8_lawful_52 S = some r) : AW l g d RX8 cX8_lawful 4 "lawful" MC MS' (Qr (some (.int r.1)) (mh A r.2 D)) k n 52 [none, none, none, none] [] (mh A S D) := by
  unfold X8_lawful_52 at hf
  refine a_iconst (pc := 52) 0 dX8_lawful_52 rfl ?_
  exact sX8_lawful_53 hA hd hk hn hf
set_option maxHeartbeats 4000000 in
theorem sX8_lawful_0 {l : Launch} {g : gE} {d MC MS' k n : Nat} {A D : List va_E} (hA : A.length = 26) (hd : 5 ≤ d) (hk : k ≤ MC) (hn : n ≤ MS') {r : Int32 × MS} {S : MS} {l1 : Int32} {l2 : Int32} {l3 : Int32} (hf : X8_lawful_0 S l1 l2 l3 = some r) : AW l g d RX8 cX8_lawful 4 "lawful" MC MS' (Qr (some (.int r.1)) (mh A r.2 D)) k n 0 [some (.ref 26), some (.int l1), some (.int l2), some (.int l3)] [] (mh A S D) := by
  unfold X8_lawful_0 at hf
  refine a_aload_n (pc := 0) dX8_lawful_0 rfl (isRv_r _) ?_
  refine a_iload_n (pc := 1) dX8_lawful_1 rfl ?_
  obtain ⟨r1, hr1, hf⟩ := Option.bind_eq_some_iff.mp hf
  refine m_call (pc := 2) (.int (r1.1)) [.int l1] [] hA dX8_lawful_2 ml_X8_203 mv_X8_isBargain rfl rfl (by omega) (mX8_isBargain hA (by omega) hr1) rfl (Nat.le_of_ble_eq_true rfl) hk hn ?_
  refine a_if_eq (pc := 5) 16 dX8_lawful_5 (by decide) (fun c10 => ?_) (fun c10 => ?_)
  · have hf := (if_pos c10).symm.trans hf
    refine a_sub (sub_d (sub_d (sub_d (sub_d sub_n)))) ?_
    exact sX8_lawful_16 hA hd hk hn hf
  · have hf := (if_neg c10).symm.trans hf
    refine a_aload_n (pc := 8) dX8_lawful_8 rfl (isRv_r _) ?_
    refine a_iload_n (pc := 9) dX8_lawful_9 rfl ?_
    obtain ⟨r2, hr2, hf⟩ := Option.bind_eq_some_iff.mp hf
    refine m_call (pc := 10) (.int (r2.1)) [.int l3] [] hA dX8_lawful_10 ml_X8_255 mv_X8_isLaw rfl rfl (by omega) (mX8_isLaw hA (by omega) hr2) rfl (Nat.le_of_ble_eq_true rfl) hk hn ?_
    refine a_if_ne (pc := 13) 18 dX8_lawful_13 (by decide) (fun c9 => ?_) (fun c9 => ?_)
    · have hf := (if_neg c9).symm.trans hf
      refine a_aload_n (pc := 18) dX8_lawful_18 rfl (isRv_r _) ?_
      refine a_iload_n (pc := 19) dX8_lawful_19 rfl ?_
      refine a_iload_n (pc := 20) dX8_lawful_20 rfl ?_
      obtain ⟨r3, hr3, hf⟩ := Option.bind_eq_some_iff.mp hf
      refine m_call (pc := 21) (.int (r3.1)) [.int l1, .int l2] [] hA dX8_lawful_21 ml_X8_227 mv_X8_isSet rfl rfl (by omega) (mX8_isSet hA (by omega) hr3) rfl (Nat.le_of_ble_eq_true rfl) hk hn ?_
      refine a_if_ne (pc := 24) 30 dX8_lawful_24 (by decide) (fun c8 => ?_) (fun c8 => ?_)
      · have hf := (if_neg c8).symm.trans hf
        refine a_aload_n (pc := 30) dX8_lawful_30 rfl (isRv_r _) ?_
        refine a_iload_n (pc := 31) dX8_lawful_31 rfl ?_
        refine a_iload_n (pc := 32) dX8_lawful_32 rfl ?_
        obtain ⟨r4, hr4, hf⟩ := Option.bind_eq_some_iff.mp hf
        refine m_call (pc := 33) (.int (r4.1)) [.int l1, .int l2] [] hA dX8_lawful_33 ml_X8_230 mv_X8_readsLeft rfl rfl (by omega) (mX8_readsLeft hA (by omega) hr4) rfl (Nat.le_of_ble_eq_true rfl) hk hn ?_
        refine a_if_eq (pc := 36) 52 dX8_lawful_36 (by decide) (fun c7 => ?_) (fun c7 => ?_)
        · have hf := (if_pos c7).symm.trans hf
          refine a_sub (sub_d (sub_d (sub_d (sub_d sub_n)))) ?_
          exact sX8_lawful_52 hA hd hk hn hf
        · have hf := (if_neg c7).symm.trans hf
          refine a_aload_n (pc := 39) dX8_lawful_39 rfl (isRv_r _) ?_
          refine a_iload_n (pc := 40) dX8_lawful_40 rfl ?_
          refine a_iconst (pc := 41) 0 dX8_lawful_41 rfl ?_
          obtain ⟨r5, hr5, hf⟩ := Option.bind_eq_some_iff.mp hf
          refine m_call (pc := 42) (.int (r5.1)) [.int l3, .int 0] [] hA dX8_lawful_42 ml_X8_258 mv_X8_isLawful rfl rfl (by omega) (mX8_isLawful hA (by omega) hr5) rfl (Nat.le_of_ble_eq_true rfl) hk hn ?_
          refine a_if_eq (pc := 45) 52 dX8_lawful_45 (by decide) (fun c6 => ?_) (fun c6 => ?_)
          · have hf := (if_pos c6).symm.trans hf
            refine a_sub (sub_d (sub_d (sub_d (sub_d sub_n)))) ?_
            exact sX8_lawful_52 hA hd hk hn hf
          · have hf := (if_neg c6).symm.trans hf
            refine a_iconst (pc := 48) 1 dX8_lawful_48 rfl ?_
            refine a_goto (pc := 49) 53 dX8_lawful_49 (by decide) ?_
            refine a_sub (sub_d (sub_d (sub_d (sub_d sub_n)))) ?_
            exact sX8_lawful_53 hA hd hk hn hf
      · have hf := (if_pos c8).symm.trans hf
        refine a_bipush (pc := 27) (-2) dX8_lawful_27 rfl ?_
        have hf := Option.some.inj hf
        subst hf
        exact a_ireturn (pc := 29) dX8_lawful_29 hk hn ⟨rfl, rfl⟩
    · have hf := (if_pos c9).symm.trans hf
      refine a_sub (sub_d (sub_d (sub_d (sub_d sub_n)))) ?_
      exact sX8_lawful_16 hA hd hk hn hf
set_option maxHeartbeats 4000000 in
theorem mX8_lawful {l : Launch} {g : gE} {d : Nat} {A D : List va_E} (hA : A.length = 26) (hd : 5 ≤ d) {r : Int32 × MS} {S : MS} {l1 : Int32} {l2 : Int32} {l3 : Int32} (hf : X8_lawful S l1 l2 l3 = some r) : AM l g d yX8_lawful cX8_lawful 4 (some .int) 0 0 [.ref 26, .int l1, .int l2, .int l3] (mh A S D) (Qr (some (.int r.1)) (mh A r.2 D)) := by
  refine AM.of rfl (by exact Nat.le_of_ble_eq_true rfl) (fun v h' q => by obtain ⟨rfl, -⟩ := q; exact ⟨_, rfl, rfl⟩) (fun ls e => ?_)
  have e2 : aBeg [.ref 26, .int l1, .int l2, .int l3] 4 = [some (.ref 26), some (.int l1), some (.int l2), some (.int l3)] := rfl
  rw [e2] at e
  subst e
  refine a_sub (sub_k (sub_k (sub_k (sub_k (sub_n))))) ?_
  exact sX8_lawful_0 hA hd (Nat.le_refl _) (Nat.le_refl _) (hf)
-- PencilStrikesModel.barred(III)I
def X8_barred_16 (S : MS) : Option (Int32 × MS) :=
  some ((-1), S)
def X8_barred_77 (rec48 : MS → Int32 → Int32 → Int32 → Option (Int32 × MS)) (S : MS) (s0 : Int32) (s1 : Int32) (l3 : Int32) (l5 : Int32) : Option (Int32 × MS) :=
  rec48 S l3 (s0 ||| s1) (l5 + 1)
def X8_barred_48 : Nat → MS → Int32 → Int32 → Int32 → Option (Int32 × MS)
  | 0, _, _, _, _ => none
  | fn + 1, S, l3, l4, l5 =>
    if (S.1 28) ≤ l5 then
      some (l4, S)
    else
      (X8_isBarred S l3 l5).bind fun r1 =>
      if r1.1 = 0 then
        X8_barred_77 (X8_barred_48 fn) r1.2 l4 0 l3 l5
      else
        X8_barred_77 (X8_barred_48 fn) r1.2 l4 ((1 : Int32) <<< (l5 &&& 31)) l3 l5
def X8_barred_0 (S : MS) (l1 : Int32) (l2 : Int32) (l3 : Int32) : Option (Int32 × MS) :=
  (X8_isBargain S l1).bind fun r1 =>
  if r1.1 = 0 then
    X8_barred_16 r1.2
  else
    (X8_isLaw r1.2 l3).bind fun r2 =>
    if r2.1 = 0 then
      X8_barred_16 r2.2
    else
      (X8_isSet r2.2 l1 l2).bind fun r3 =>
      if r3.1 = 0 then
        some ((-2), r3.2)
      else
        (X8_readsLeft r3.2 l1 l2).bind fun r4 =>
        if r4.1 = 0 then
          some ((-3), r4.2)
        else
          X8_barred_48 FU r4.2 l3 0 0
def X8_barred (S : MS) (l1 : Int32) (l2 : Int32) (l3 : Int32) : Option (Int32 × MS) := X8_barred_0 S l1 l2 l3
set_option maxHeartbeats 4000000 in
theorem sX8_barred_16 {l : Launch} {g : gE} {d MC MS' k n : Nat} {A D : List va_E} (hA : A.length = 26) (hd : 4 ≤ d) (hk : k ≤ MC) (hn : n ≤ MS') {r : Int32 × MS} {S : MS} (hf : X8_barred_16 S = some r) : AW l g d RX8 cX8_barred 6 "barred" MC MS' (Qr (some (.int r.1)) (mh A r.2 D)) k n 16 [none, none, none, none, none, none] [] (mh A S D) := by
  unfold X8_barred_16 at hf
  refine a_iconst (pc := 16) (-1) dX8_barred_16 rfl ?_
  have hf := Option.some.inj hf
  subst hf
  exact a_ireturn (pc := 17) dX8_barred_17 hk hn ⟨rfl, rfl⟩
set_option maxHeartbeats 4000000 in
theorem sX8_barred_77 {l : Launch} {g : gE} {d MC MS' k n : Nat} {A D : List va_E} (hA : A.length = 26) (hd : 4 ≤ d) (hk : k ≤ MC) (hn : n ≤ MS') {r : Int32 × MS} {rec48 : MS → Int32 → Int32 → Int32 → Option (Int32 × MS)} (hlp48 : ∀ (S : MS) (l3 : Int32) (l4 : Int32) (l5 : Int32), rec48 S l3 l4 l5 = some r → AW l g d RX8 cX8_barred 6 "barred" MC MS' (Qr (some (.int r.1)) (mh A r.2 D)) k n 48 [some (.ref 26), none, none, some (.int l3), some (.int l4), some (.int l5)] [] (mh A S D)) {S : MS} {s0 : Int32} {s1 : Int32} {l3 : Int32} {l5 : Int32} (hf : X8_barred_77 rec48 S s0 s1 l3 l5 = some r) : AW l g d RX8 cX8_barred 6 "barred" MC MS' (Qr (some (.int r.1)) (mh A r.2 D)) k n 77 [some (.ref 26), none, none, some (.int l3), none, some (.int l5)] [.int s1, .int s0] (mh A S D) := by
  unfold X8_barred_77 at hf
  refine a_ior (pc := 77) dX8_barred_77 ?_
  refine a_istore (pc := 78) (ls' := [some (.ref 26), none, none, some (.int l3), some (.int (s0 ||| s1)), some (.int l5)]) dX8_barred_78 (by decide) rfl ?_
  refine a_iinc (pc := 80) (ls' := [some (.ref 26), none, none, some (.int l3), some (.int (s0 ||| s1)), some (.int (l5 + 1))]) (l5 + 1) dX8_barred_80 rfl rfl (by decide) rfl ?_
  refine a_goto (pc := 83) 48 dX8_barred_83 (by decide) ?_
  exact hlp48 S l3 (s0 ||| s1) (l5 + 1) hf
set_option maxHeartbeats 4000000 in
theorem sX8_barred_48 {l : Launch} {g : gE} {d MC MS' k n : Nat} {A D : List va_E} (hA : A.length = 26) (hd : 4 ≤ d) (hk : k ≤ MC) (hn : n ≤ MS') {r : Int32 × MS} : ∀ (fn : Nat) (S : MS) (l3 : Int32) (l4 : Int32) (l5 : Int32), X8_barred_48 fn S l3 l4 l5 = some r → AW l g d RX8 cX8_barred 6 "barred" MC MS' (Qr (some (.int r.1)) (mh A r.2 D)) k n 48 [some (.ref 26), none, none, some (.int l3), some (.int l4), some (.int l5)] [] (mh A S D) := by
  intro fn
  induction fn with
  | zero =>
    intro S l3 l4 l5 hf
    rw [X8_barred_48] at hf
    cases hf
  | succ fn ih =>
    intro S l3 l4 l5 hf
    rw [X8_barred_48] at hf
    refine a_iload (pc := 48) dX8_barred_48 rfl ?_
    refine a_aload_n (pc := 50) dX8_barred_50 rfl (isRv_r _) ?_
    refine m_getS (pc := 51) hA dX8_barred_51 fl_X8_95 ks_28 ?_
    refine a_icmp_ge (pc := 54) 86 dX8_barred_54 (by decide) (fun c3 => ?_) (fun c3 => ?_)
    · have hf := (if_pos c3).symm.trans hf
      refine a_iload (pc := 86) dX8_barred_86 rfl ?_
      have hf := Option.some.inj hf
      subst hf
      exact a_ireturn (pc := 88) dX8_barred_88 hk hn ⟨rfl, rfl⟩
    · have hf := (if_neg c3).symm.trans hf
      refine a_iload (pc := 57) dX8_barred_57 rfl ?_
      refine a_aload_n (pc := 59) dX8_barred_59 rfl (isRv_r _) ?_
      refine a_iload_n (pc := 60) dX8_barred_60 rfl ?_
      refine a_iload (pc := 61) dX8_barred_61 rfl ?_
      obtain ⟨r1, hr1, hf⟩ := Option.bind_eq_some_iff.mp hf
      refine m_call (pc := 63) (.int (r1.1)) [.int l3, .int l5] [.int l4] hA dX8_barred_63 ml_X8_249 mv_X8_isBarred rfl rfl (by omega) (mX8_isBarred hA (by omega) hr1) rfl (Nat.le_of_ble_eq_true rfl) hk hn ?_
      refine a_if_eq (pc := 66) 76 dX8_barred_66 (by decide) (fun c2 => ?_) (fun c2 => ?_)
      · have hf := (if_pos c2).symm.trans hf
        refine a_iconst (pc := 76) 0 dX8_barred_76 rfl ?_
        refine a_sub (sub_k (sub_k (sub_k (sub_k (sub_d (sub_k sub_n)))))) ?_
        exact sX8_barred_77 hA hd hk hn ih hf
      · have hf := (if_neg c2).symm.trans hf
        refine a_iconst (pc := 69) 1 dX8_barred_69 rfl ?_
        refine a_iload (pc := 70) dX8_barred_70 rfl ?_
        refine a_ishl (pc := 72) dX8_barred_72 ?_
        refine a_goto (pc := 73) 77 dX8_barred_73 (by decide) ?_
        refine a_sub (sub_k (sub_k (sub_k (sub_k (sub_d (sub_k sub_n)))))) ?_
        exact sX8_barred_77 hA hd hk hn ih hf
set_option maxHeartbeats 4000000 in
theorem sX8_barred_0 {l : Launch} {g : gE} {d MC MS' k n : Nat} {A D : List va_E} (hA : A.length = 26) (hd : 4 ≤ d) (hk : k ≤ MC) (hn : n ≤ MS') {r : Int32 × MS} {S : MS} {l1 : Int32} {l2 : Int32} {l3 : Int32} (hf : X8_barred_0 S l1 l2 l3 = some r) : AW l g d RX8 cX8_barred 6 "barred" MC MS' (Qr (some (.int r.1)) (mh A r.2 D)) k n 0 [some (.ref 26), some (.int l1), some (.int l2), some (.int l3), none, none] [] (mh A S D) := by
  unfold X8_barred_0 at hf
  refine a_aload_n (pc := 0) dX8_barred_0 rfl (isRv_r _) ?_
  refine a_iload_n (pc := 1) dX8_barred_1 rfl ?_
  obtain ⟨r1, hr1, hf⟩ := Option.bind_eq_some_iff.mp hf
  refine m_call (pc := 2) (.int (r1.1)) [.int l1] [] hA dX8_barred_2 ml_X8_203 mv_X8_isBargain rfl rfl (by omega) (mX8_isBargain hA (by omega) hr1) rfl (Nat.le_of_ble_eq_true rfl) hk hn ?_
  refine a_if_eq (pc := 5) 16 dX8_barred_5 (by decide) (fun c8 => ?_) (fun c8 => ?_)
  · have hf := (if_pos c8).symm.trans hf
    refine a_sub (sub_d (sub_d (sub_d (sub_d (sub_k (sub_k sub_n)))))) ?_
    exact sX8_barred_16 hA hd hk hn hf
  · have hf := (if_neg c8).symm.trans hf
    refine a_aload_n (pc := 8) dX8_barred_8 rfl (isRv_r _) ?_
    refine a_iload_n (pc := 9) dX8_barred_9 rfl ?_
    obtain ⟨r2, hr2, hf⟩ := Option.bind_eq_some_iff.mp hf
    refine m_call (pc := 10) (.int (r2.1)) [.int l3] [] hA dX8_barred_10 ml_X8_255 mv_X8_isLaw rfl rfl (by omega) (mX8_isLaw hA (by omega) hr2) rfl (Nat.le_of_ble_eq_true rfl) hk hn ?_
    refine a_if_ne (pc := 13) 18 dX8_barred_13 (by decide) (fun c7 => ?_) (fun c7 => ?_)
    · have hf := (if_neg c7).symm.trans hf
      refine a_aload_n (pc := 18) dX8_barred_18 rfl (isRv_r _) ?_
      refine a_iload_n (pc := 19) dX8_barred_19 rfl ?_
      refine a_iload_n (pc := 20) dX8_barred_20 rfl ?_
      obtain ⟨r3, hr3, hf⟩ := Option.bind_eq_some_iff.mp hf
      refine m_call (pc := 21) (.int (r3.1)) [.int l1, .int l2] [] hA dX8_barred_21 ml_X8_227 mv_X8_isSet rfl rfl (by omega) (mX8_isSet hA (by omega) hr3) rfl (Nat.le_of_ble_eq_true rfl) hk hn ?_
      refine a_if_ne (pc := 24) 30 dX8_barred_24 (by decide) (fun c6 => ?_) (fun c6 => ?_)
      · have hf := (if_neg c6).symm.trans hf
        refine a_aload_n (pc := 30) dX8_barred_30 rfl (isRv_r _) ?_
        refine a_iload_n (pc := 31) dX8_barred_31 rfl ?_
        refine a_iload_n (pc := 32) dX8_barred_32 rfl ?_
        obtain ⟨r4, hr4, hf⟩ := Option.bind_eq_some_iff.mp hf
        refine m_call (pc := 33) (.int (r4.1)) [.int l1, .int l2] [] hA dX8_barred_33 ml_X8_230 mv_X8_readsLeft rfl rfl (by omega) (mX8_readsLeft hA (by omega) hr4) rfl (Nat.le_of_ble_eq_true rfl) hk hn ?_
        refine a_if_ne (pc := 36) 42 dX8_barred_36 (by decide) (fun c5 => ?_) (fun c5 => ?_)
        · have hf := (if_neg c5).symm.trans hf
          refine a_iconst (pc := 42) 0 dX8_barred_42 rfl ?_
          refine a_istore (pc := 43) (ls' := [some (.ref 26), some (.int l1), some (.int l2), some (.int l3), some (.int 0), none]) dX8_barred_43 (by decide) rfl ?_
          refine a_iconst (pc := 45) 0 dX8_barred_45 rfl ?_
          refine a_istore (pc := 46) (ls' := [some (.ref 26), some (.int l1), some (.int l2), some (.int l3), some (.int 0), some (.int 0)]) dX8_barred_46 (by decide) rfl ?_
          refine a_sub (sub_k (sub_d (sub_d (sub_k (sub_k (sub_k sub_n)))))) ?_
          exact sX8_barred_48 hA hd hk hn FU r4.2 l3 0 0 hf
        · have hf := (if_pos c5).symm.trans hf
          refine a_bipush (pc := 39) (-3) dX8_barred_39 rfl ?_
          have hf := Option.some.inj hf
          subst hf
          exact a_ireturn (pc := 41) dX8_barred_41 hk hn ⟨rfl, rfl⟩
      · have hf := (if_pos c6).symm.trans hf
        refine a_bipush (pc := 27) (-2) dX8_barred_27 rfl ?_
        have hf := Option.some.inj hf
        subst hf
        exact a_ireturn (pc := 29) dX8_barred_29 hk hn ⟨rfl, rfl⟩
    · have hf := (if_pos c7).symm.trans hf
      refine a_sub (sub_d (sub_d (sub_d (sub_d (sub_k (sub_k sub_n)))))) ?_
      exact sX8_barred_16 hA hd hk hn hf
set_option maxHeartbeats 4000000 in
theorem mX8_barred {l : Launch} {g : gE} {d : Nat} {A D : List va_E} (hA : A.length = 26) (hd : 4 ≤ d) {r : Int32 × MS} {S : MS} {l1 : Int32} {l2 : Int32} {l3 : Int32} (hf : X8_barred S l1 l2 l3 = some r) : AM l g d yX8_barred cX8_barred 6 (some .int) 0 0 [.ref 26, .int l1, .int l2, .int l3] (mh A S D) (Qr (some (.int r.1)) (mh A r.2 D)) := by
  refine AM.of rfl (by exact Nat.le_of_ble_eq_true rfl) (fun v h' q => by obtain ⟨rfl, -⟩ := q; exact ⟨_, rfl, rfl⟩) (fun ls e => ?_)
  have e2 : aBeg [.ref 26, .int l1, .int l2, .int l3] 6 = [some (.ref 26), some (.int l1), some (.int l2), some (.int l3), none, none] := rfl
  rw [e2] at e
  subst e
  refine a_sub (sub_k (sub_k (sub_k (sub_k (sub_k (sub_k (sub_n))))))) ?_
  exact sX8_barred_0 hA hd (Nat.le_refl _) (Nat.le_refl _) (hf)
-- PencilStrikesModel.isKind(I)Z
def X8_isKind_0 (S : MS) (l1 : Int32) : Option (Int32 × MS) :=
  (X8_in S l1 0 6).bind fun r1 =>
  some (r1.1, r1.2)
def X8_isKind (S : MS) (l1 : Int32) : Option (Int32 × MS) := zg (X8_isKind_0 S l1)
set_option maxHeartbeats 4000000 in
theorem sX8_isKind_0 {l : Launch} {g : gE} {d MC MS' k n : Nat} {A D : List va_E} (hA : A.length = 26) (hd : 1 ≤ d) (hk : k ≤ MC) (hn : n ≤ MS') {r : Int32 × MS} {S : MS} {l1 : Int32} (hf : X8_isKind_0 S l1 = some r) : AW l g d RX8 cX8_isKind 2 "isKind" MC MS' (Qr (some (.int r.1)) (mh A r.2 D)) k n 0 [some (.ref 26), some (.int l1)] [] (mh A S D) := by
  unfold X8_isKind_0 at hf
  refine a_aload_n (pc := 0) dX8_isKind_0 rfl (isRv_r _) ?_
  refine a_iload_n (pc := 1) dX8_isKind_1 rfl ?_
  refine a_iconst (pc := 2) 0 dX8_isKind_2 rfl ?_
  refine a_bipush (pc := 3) 6 dX8_isKind_3 rfl ?_
  obtain ⟨r1, hr1, hf⟩ := Option.bind_eq_some_iff.mp hf
  refine m_call (pc := 5) (.int (r1.1)) [.int l1, .int 0, .int 6] [] hA dX8_isKind_5 ml_X8_142 mv_X8_in rfl rfl (by omega) (mX8_in hA (by omega) hr1) rfl (Nat.le_of_ble_eq_true rfl) hk hn ?_
  have hf := Option.some.inj hf
  subst hf
  exact a_ireturn (pc := 8) dX8_isKind_8 hk hn ⟨rfl, rfl⟩
set_option maxHeartbeats 4000000 in
theorem mX8_isKind {l : Launch} {g : gE} {d : Nat} {A D : List va_E} (hA : A.length = 26) (hd : 1 ≤ d) {r : Int32 × MS} {S : MS} {l1 : Int32} (hf : X8_isKind S l1 = some r) : AM l g d yX8_isKind cX8_isKind 2 (some .boolean) 0 0 [.ref 26, .int l1] (mh A S D) (Qr (some (.int r.1)) (mh A r.2 D)) := by
  refine AM.of rfl (by exact Nat.le_of_ble_eq_true rfl) (fun v h' q => by obtain ⟨rfl, -⟩ := q; refine ⟨_, rfl, ?_⟩; rcases (zg_of hf).2 with e | e <;> rw [e] <;> rfl) (fun ls e => ?_)
  have e2 : aBeg [.ref 26, .int l1] 2 = [some (.ref 26), some (.int l1)] := rfl
  rw [e2] at e
  subst e
  refine a_sub (sub_k (sub_k (sub_n))) ?_
  exact sX8_isKind_0 hA hd (Nat.le_refl _) (Nat.le_refl _) ((zg_of hf).1)
-- PencilStrikesModel.isOf(II)Z
def X8_isOf_48 (S : MS) (s0 : Int32) : Option (Int32 × MS) :=
  some (s0, S)
def X8_isOf_23 (S : MS) : Option (Int32 × MS) :=
  X8_isOf_48 S 1
def X8_isOf_43 (S : MS) : Option (Int32 × MS) :=
  X8_isOf_48 S 1
def X8_isOf_0 (S : MS) (l1 : Int32) (l2 : Int32) : Option (Int32 × MS) :=
  if l1 = 2 then
    if l2 = 119 then
      X8_isOf_23 S
    else
      if l2 = 38 then
        X8_isOf_23 S
      else
        if l2 = 44 then
          X8_isOf_23 S
        else
          X8_isOf_48 S 0
  else
    if l2 = 105 then
      X8_isOf_43 S
    else
      if l2 = 102 then
        X8_isOf_43 S
      else
        X8_isOf_48 S 0
def X8_isOf (S : MS) (l1 : Int32) (l2 : Int32) : Option (Int32 × MS) := zg (X8_isOf_0 S l1 l2)
set_option maxHeartbeats 4000000 in
theorem sX8_isOf_48 {l : Launch} {g : gE} {d MC MS' k n : Nat} {A D : List va_E} (hA : A.length = 26) (hd : 0 ≤ d) (hk : k ≤ MC) (hn : n ≤ MS') {r : Int32 × MS} {S : MS} {s0 : Int32} (hf : X8_isOf_48 S s0 = some r) : AW l g d RX8 cX8_isOf 3 "isOf" MC MS' (Qr (some (.int r.1)) (mh A r.2 D)) k n 48 [none, none, none] [.int s0] (mh A S D) := by
  unfold X8_isOf_48 at hf
  have hf := Option.some.inj hf
  subst hf
  exact a_ireturn (pc := 48) dX8_isOf_48 hk hn ⟨rfl, rfl⟩
set_option maxHeartbeats 4000000 in
theorem sX8_isOf_23 {l : Launch} {g : gE} {d MC MS' k n : Nat} {A D : List va_E} (hA : A.length = 26) (hd : 0 ≤ d) (hk : k ≤ MC) (hn : n ≤ MS') {r : Int32 × MS} {S : MS} (hf : X8_isOf_23 S = some r) : AW l g d RX8 cX8_isOf 3 "isOf" MC MS' (Qr (some (.int r.1)) (mh A r.2 D)) k n 23 [none, none, none] [] (mh A S D) := by
  unfold X8_isOf_23 at hf
  refine a_iconst (pc := 23) 1 dX8_isOf_23 rfl ?_
  refine a_goto (pc := 24) 48 dX8_isOf_24 (by decide) ?_
  exact sX8_isOf_48 hA hd hk hn hf
set_option maxHeartbeats 4000000 in
theorem sX8_isOf_43 {l : Launch} {g : gE} {d MC MS' k n : Nat} {A D : List va_E} (hA : A.length = 26) (hd : 0 ≤ d) (hk : k ≤ MC) (hn : n ≤ MS') {r : Int32 × MS} {S : MS} (hf : X8_isOf_43 S = some r) : AW l g d RX8 cX8_isOf 3 "isOf" MC MS' (Qr (some (.int r.1)) (mh A r.2 D)) k n 43 [none, none, none] [] (mh A S D) := by
  unfold X8_isOf_43 at hf
  refine a_iconst (pc := 43) 1 dX8_isOf_43 rfl ?_
  refine a_goto (pc := 44) 48 dX8_isOf_44 (by decide) ?_
  exact sX8_isOf_48 hA hd hk hn hf
set_option maxHeartbeats 4000000 in
theorem sX8_isOf_0 {l : Launch} {g : gE} {d MC MS' k n : Nat} {A D : List va_E} (hA : A.length = 26) (hd : 0 ≤ d) (hk : k ≤ MC) (hn : n ≤ MS') {r : Int32 × MS} {S : MS} {l1 : Int32} {l2 : Int32} (hf : X8_isOf_0 S l1 l2 = some r) : AW l g d RX8 cX8_isOf 3 "isOf" MC MS' (Qr (some (.int r.1)) (mh A r.2 D)) k n 0 [none, some (.int l1), some (.int l2)] [] (mh A S D) := by
  unfold X8_isOf_0 at hf
  refine a_iload_n (pc := 0) dX8_isOf_0 rfl ?_
  refine a_iconst (pc := 1) 2 dX8_isOf_1 rfl ?_
  refine a_icmp_ne (pc := 2) 31 dX8_isOf_2 (by decide) (fun c6 => ?_) (fun c6 => ?_)
  · have hf := (if_neg c6).symm.trans hf
    refine a_iload_n (pc := 31) dX8_isOf_31 rfl ?_
    refine a_bipush (pc := 32) 105 dX8_isOf_32 rfl ?_
    refine a_icmp_eq (pc := 34) 43 dX8_isOf_34 (by decide) (fun c2 => ?_) (fun c2 => ?_)
    · have hf := (if_pos c2).symm.trans hf
      refine a_sub (sub_k (sub_d (sub_d sub_n))) ?_
      exact sX8_isOf_43 hA hd hk hn hf
    · have hf := (if_neg c2).symm.trans hf
      refine a_iload_n (pc := 37) dX8_isOf_37 rfl ?_
      refine a_bipush (pc := 38) 102 dX8_isOf_38 rfl ?_
      refine a_icmp_ne (pc := 40) 47 dX8_isOf_40 (by decide) (fun c1 => ?_) (fun c1 => ?_)
      · have hf := (if_neg c1).symm.trans hf
        refine a_iconst (pc := 47) 0 dX8_isOf_47 rfl ?_
        refine a_sub (sub_k (sub_d (sub_d sub_n))) ?_
        exact sX8_isOf_48 hA hd hk hn hf
      · have hf := (if_pos c1).symm.trans hf
        refine a_sub (sub_k (sub_d (sub_d sub_n))) ?_
        exact sX8_isOf_43 hA hd hk hn hf
  · have hf := (if_pos c6).symm.trans hf
    refine a_iload_n (pc := 5) dX8_isOf_5 rfl ?_
    refine a_bipush (pc := 6) 119 dX8_isOf_6 rfl ?_
    refine a_icmp_eq (pc := 8) 23 dX8_isOf_8 (by decide) (fun c5 => ?_) (fun c5 => ?_)
    · have hf := (if_pos c5).symm.trans hf
      refine a_sub (sub_k (sub_d (sub_d sub_n))) ?_
      exact sX8_isOf_23 hA hd hk hn hf
    · have hf := (if_neg c5).symm.trans hf
      refine a_iload_n (pc := 11) dX8_isOf_11 rfl ?_
      refine a_bipush (pc := 12) 38 dX8_isOf_12 rfl ?_
      refine a_icmp_eq (pc := 14) 23 dX8_isOf_14 (by decide) (fun c4 => ?_) (fun c4 => ?_)
      · have hf := (if_pos c4).symm.trans hf
        refine a_sub (sub_k (sub_d (sub_d sub_n))) ?_
        exact sX8_isOf_23 hA hd hk hn hf
      · have hf := (if_neg c4).symm.trans hf
        refine a_iload_n (pc := 17) dX8_isOf_17 rfl ?_
        refine a_bipush (pc := 18) 44 dX8_isOf_18 rfl ?_
        refine a_icmp_ne (pc := 20) 27 dX8_isOf_20 (by decide) (fun c3 => ?_) (fun c3 => ?_)
        · have hf := (if_neg c3).symm.trans hf
          refine a_iconst (pc := 27) 0 dX8_isOf_27 rfl ?_
          refine a_goto (pc := 28) 48 dX8_isOf_28 (by decide) ?_
          refine a_sub (sub_k (sub_d (sub_d sub_n))) ?_
          exact sX8_isOf_48 hA hd hk hn hf
        · have hf := (if_pos c3).symm.trans hf
          refine a_sub (sub_k (sub_d (sub_d sub_n))) ?_
          exact sX8_isOf_23 hA hd hk hn hf
set_option maxHeartbeats 4000000 in
theorem mX8_isOf {l : Launch} {g : gE} {d : Nat} {A D : List va_E} (hA : A.length = 26) (hd : 0 ≤ d) {r : Int32 × MS} {S : MS} {l1 : Int32} {l2 : Int32} (hf : X8_isOf S l1 l2 = some r) : AM l g d yX8_isOf cX8_isOf 3 (some .boolean) 0 0 [.ref 26, .int l1, .int l2] (mh A S D) (Qr (some (.int r.1)) (mh A r.2 D)) := by
  refine AM.of rfl (by exact Nat.le_of_ble_eq_true rfl) (fun v h' q => by obtain ⟨rfl, -⟩ := q; refine ⟨_, rfl, ?_⟩; rcases (zg_of hf).2 with e | e <;> rw [e] <;> rfl) (fun ls e => ?_)
  have e2 : aBeg [.ref 26, .int l1, .int l2] 3 = [some (.ref 26), some (.int l1), some (.int l2)] := rfl
  rw [e2] at e
  subst e
  refine a_sub (sub_d (sub_k (sub_k (sub_n)))) ?_
  exact sX8_isOf_0 hA hd (Nat.le_refl _) (Nat.le_refl _) ((zg_of hf).1)
-- PencilStrikesModel.makesSense(II)Z
def X8_makesSense_16 (S : MS) : Option (Int32 × MS) :=
  some (0, S)
def X8_makesSense_69 (rec20 : MS → Int32 → Option (Int32 × MS)) (rec34 : MS → Int32 → Int32 → Int32 → Option (Int32 × MS)) (S : MS) (s0 : Int32) (l3 : Int32) (l5 : Int32) : Option (Int32 × MS) :=
  rec34 S l3 s0 (l5 + 1)
def X8_makesSense_64 (rec20 : MS → Int32 → Option (Int32 × MS)) (rec34 : MS → Int32 → Int32 → Int32 → Option (Int32 × MS)) (S : MS) (l3 : Int32) (l5 : Int32) : Option (Int32 × MS) :=
  X8_makesSense_69 rec20 rec34 S 1 l3 l5
def X8_makesSense_34 (rec20 : MS → Int32 → Option (Int32 × MS)) : Nat → MS → Int32 → Int32 → Int32 → Option (Int32 × MS)
  | 0, _, _, _, _ => none
  | fn + 1, S, l3, l4, l5 =>
    if (S.1 33) ≤ l5 then
      if l4 = 0 then
        some (0, S)
      else
        rec20 S (l3 + 1)
    else
      if l4 = 0 then
        (mL S 32 l5).bind fun x2 =>
        (X8_dutyOf S l3).bind fun r3 =>
        if (lg_cmp x2 r3.1) = 0 then
          X8_makesSense_64 rec20 (X8_makesSense_34 rec20 fn) r3.2 l3 l5
        else
          X8_makesSense_69 rec20 (X8_makesSense_34 rec20 fn) r3.2 0 l3 l5
      else
        X8_makesSense_64 rec20 (X8_makesSense_34 rec20 fn) S l3 l5
def X8_makesSense_20 : Nat → MS → Int32 → Option (Int32 × MS)
  | 0, _, _ => none
  | fn + 1, S, l3 =>
    if (S.1 28) ≤ l3 then
      some (1, S)
    else
      X8_makesSense_34 (X8_makesSense_20 fn) FU S l3 0 0
def X8_makesSense_0 (S : MS) (l1 : Int32) (l2 : Int32) : Option (Int32 × MS) :=
  if (S.1 33) < 0 then
    X8_makesSense_16 S
  else
    (X8_readsLeft S l1 l2).bind fun r1 =>
    if r1.1 = 0 then
      X8_makesSense_16 r1.2
    else
      X8_makesSense_20 FU r1.2 0
def X8_makesSense (S : MS) (l1 : Int32) (l2 : Int32) : Option (Int32 × MS) := zg (X8_makesSense_0 S l1 l2)
set_option maxHeartbeats 4000000 in
theorem sX8_makesSense_16 {l : Launch} {g : gE} {d MC MS' k n : Nat} {A D : List va_E} (hA : A.length = 26) (hd : 4 ≤ d) (hk : k ≤ MC) (hn : n ≤ MS') {r : Int32 × MS} {S : MS} (hf : X8_makesSense_16 S = some r) : AW l g d RX8 cX8_makesSense 6 "makesSense" MC MS' (Qr (some (.int r.1)) (mh A r.2 D)) k n 16 [none, none, none, none, none, none] [] (mh A S D) := by
  unfold X8_makesSense_16 at hf
  refine a_iconst (pc := 16) 0 dX8_makesSense_16 rfl ?_
  have hf := Option.some.inj hf
  subst hf
  exact a_ireturn (pc := 17) dX8_makesSense_17 hk hn ⟨rfl, rfl⟩
set_option maxHeartbeats 4000000 in
theorem sX8_makesSense_69 {l : Launch} {g : gE} {d MC MS' k n : Nat} {A D : List va_E} (hA : A.length = 26) (hd : 4 ≤ d) (hk : k ≤ MC) (hn : n ≤ MS') {r : Int32 × MS} {rec20 : MS → Int32 → Option (Int32 × MS)} (hlp20 : ∀ (S : MS) (l3 : Int32), rec20 S l3 = some r → AW l g d RX8 cX8_makesSense 6 "makesSense" MC MS' (Qr (some (.int r.1)) (mh A r.2 D)) k n 20 [some (.ref 26), none, none, some (.int l3), none, none] [] (mh A S D)) {rec34 : MS → Int32 → Int32 → Int32 → Option (Int32 × MS)} (hlp34 : ∀ (S : MS) (l3 : Int32) (l4 : Int32) (l5 : Int32), rec34 S l3 l4 l5 = some r → AW l g d RX8 cX8_makesSense 6 "makesSense" MC MS' (Qr (some (.int r.1)) (mh A r.2 D)) k n 34 [some (.ref 26), none, none, some (.int l3), some (.int l4), some (.int l5)] [] (mh A S D)) {S : MS} {s0 : Int32} {l3 : Int32} {l5 : Int32} (hf : X8_makesSense_69 rec20 rec34 S s0 l3 l5 = some r) : AW l g d RX8 cX8_makesSense 6 "makesSense" MC MS' (Qr (some (.int r.1)) (mh A r.2 D)) k n 69 [some (.ref 26), none, none, some (.int l3), none, some (.int l5)] [.int s0] (mh A S D) := by
  unfold X8_makesSense_69 at hf
  refine a_istore (pc := 69) (ls' := [some (.ref 26), none, none, some (.int l3), some (.int s0), some (.int l5)]) dX8_makesSense_69 (by decide) rfl ?_
  refine a_iinc (pc := 71) (ls' := [some (.ref 26), none, none, some (.int l3), some (.int s0), some (.int (l5 + 1))]) (l5 + 1) dX8_makesSense_71 rfl rfl (by decide) rfl ?_
  refine a_goto (pc := 74) 34 dX8_makesSense_74 (by decide) ?_
  exact hlp34 S l3 s0 (l5 + 1) hf
set_option maxHeartbeats 4000000 in
theorem sX8_makesSense_64 {l : Launch} {g : gE} {d MC MS' k n : Nat} {A D : List va_E} (hA : A.length = 26) (hd : 4 ≤ d) (hk : k ≤ MC) (hn : n ≤ MS') {r : Int32 × MS} {rec20 : MS → Int32 → Option (Int32 × MS)} (hlp20 : ∀ (S : MS) (l3 : Int32), rec20 S l3 = some r → AW l g d RX8 cX8_makesSense 6 "makesSense" MC MS' (Qr (some (.int r.1)) (mh A r.2 D)) k n 20 [some (.ref 26), none, none, some (.int l3), none, none] [] (mh A S D)) {rec34 : MS → Int32 → Int32 → Int32 → Option (Int32 × MS)} (hlp34 : ∀ (S : MS) (l3 : Int32) (l4 : Int32) (l5 : Int32), rec34 S l3 l4 l5 = some r → AW l g d RX8 cX8_makesSense 6 "makesSense" MC MS' (Qr (some (.int r.1)) (mh A r.2 D)) k n 34 [some (.ref 26), none, none, some (.int l3), some (.int l4), some (.int l5)] [] (mh A S D)) {S : MS} {l3 : Int32} {l5 : Int32} (hf : X8_makesSense_64 rec20 rec34 S l3 l5 = some r) : AW l g d RX8 cX8_makesSense 6 "makesSense" MC MS' (Qr (some (.int r.1)) (mh A r.2 D)) k n 64 [some (.ref 26), none, none, some (.int l3), none, some (.int l5)] [] (mh A S D) := by
  unfold X8_makesSense_64 at hf
  refine a_iconst (pc := 64) 1 dX8_makesSense_64 rfl ?_
  refine a_goto (pc := 65) 69 dX8_makesSense_65 (by decide) ?_
  exact sX8_makesSense_69 hA hd hk hn hlp20 hlp34 hf
set_option maxHeartbeats 4000000 in
theorem sX8_makesSense_34 {l : Launch} {g : gE} {d MC MS' k n : Nat} {A D : List va_E} (hA : A.length = 26) (hd : 4 ≤ d) (hk : k ≤ MC) (hn : n ≤ MS') {r : Int32 × MS} {rec20 : MS → Int32 → Option (Int32 × MS)} (hlp20 : ∀ (S : MS) (l3 : Int32), rec20 S l3 = some r → AW l g d RX8 cX8_makesSense 6 "makesSense" MC MS' (Qr (some (.int r.1)) (mh A r.2 D)) k n 20 [some (.ref 26), none, none, some (.int l3), none, none] [] (mh A S D)) : ∀ (fn : Nat) (S : MS) (l3 : Int32) (l4 : Int32) (l5 : Int32), X8_makesSense_34 rec20 fn S l3 l4 l5 = some r → AW l g d RX8 cX8_makesSense 6 "makesSense" MC MS' (Qr (some (.int r.1)) (mh A r.2 D)) k n 34 [some (.ref 26), none, none, some (.int l3), some (.int l4), some (.int l5)] [] (mh A S D) := by
  intro fn
  induction fn with
  | zero =>
    intro S l3 l4 l5 hf
    rw [X8_makesSense_34] at hf
    cases hf
  | succ fn ih =>
    intro S l3 l4 l5 hf
    rw [X8_makesSense_34] at hf
    refine a_iload (pc := 34) dX8_makesSense_34 rfl ?_
    refine a_aload_n (pc := 36) dX8_makesSense_36 rfl (isRv_r _) ?_
    refine m_getS (pc := 37) hA dX8_makesSense_37 fl_X8_112 ks_33 ?_
    refine a_icmp_ge (pc := 40) 77 dX8_makesSense_40 (by decide) (fun c6 => ?_) (fun c6 => ?_)
    · have hf := (if_pos c6).symm.trans hf
      refine a_iload (pc := 77) dX8_makesSense_77 rfl ?_
      refine a_if_ne (pc := 79) 84 dX8_makesSense_79 (by decide) (fun c1 => ?_) (fun c1 => ?_)
      · have hf := (if_neg c1).symm.trans hf
        refine a_iinc (pc := 84) (ls' := [some (.ref 26), none, none, some (.int (l3 + 1)), some (.int l4), some (.int l5)]) (l3 + 1) dX8_makesSense_84 rfl rfl (by decide) rfl ?_
        refine a_goto (pc := 87) 20 dX8_makesSense_87 (by decide) ?_
        refine a_sub (sub_k (sub_k (sub_k (sub_k (sub_d (sub_d sub_n)))))) ?_
        exact hlp20 S (l3 + 1) hf
      · have hf := (if_pos c1).symm.trans hf
        refine a_iconst (pc := 82) 0 dX8_makesSense_82 rfl ?_
        have hf := Option.some.inj hf
        subst hf
        exact a_ireturn (pc := 83) dX8_makesSense_83 hk hn ⟨rfl, rfl⟩
    · have hf := (if_neg c6).symm.trans hf
      refine a_iload (pc := 43) dX8_makesSense_43 rfl ?_
      refine a_if_ne (pc := 45) 64 dX8_makesSense_45 (by decide) (fun c5 => ?_) (fun c5 => ?_)
      · have hf := (if_neg c5).symm.trans hf
        refine a_sub (sub_k (sub_k (sub_k (sub_k (sub_d (sub_k sub_n)))))) ?_
        exact sX8_makesSense_64 hA hd hk hn hlp20 ih hf
      · have hf := (if_pos c5).symm.trans hf
        refine a_aload_n (pc := 48) dX8_makesSense_48 rfl (isRv_r _) ?_
        refine m_getA (pc := 49) 47 hA dX8_makesSense_49 fl_X8_108 (Or.inr (Or.inr kj_32)) rfl ?_
        refine a_iload (pc := 52) dX8_makesSense_52 rfl ?_
        obtain ⟨x2, hx2, hf⟩ := Option.bind_eq_some_iff.mp hf
        refine m_lald (pc := 54) 47 hA dX8_makesSense_54 kj_32 rfl hx2 ?_
        refine a_aload_n (pc := 55) dX8_makesSense_55 rfl (isRv_r _) ?_
        refine a_iload_n (pc := 56) dX8_makesSense_56 rfl ?_
        obtain ⟨r3, hr3, hf⟩ := Option.bind_eq_some_iff.mp hf
        refine m_call (pc := 57) (.long (r3.1)) [.int l3] [.long x2] hA dX8_makesSense_57 ml_X8_235 mv_X8_dutyOf rfl rfl (by omega) (mX8_dutyOf hA (by omega) hr3) rfl (Nat.le_of_ble_eq_true rfl) hk hn ?_
        refine a_lcmp (pc := 60) dX8_makesSense_60 ?_
        refine a_if_ne (pc := 61) 68 dX8_makesSense_61 (by decide) (fun c4 => ?_) (fun c4 => ?_)
        · have hf := (if_neg c4).symm.trans hf
          refine a_iconst (pc := 68) 0 dX8_makesSense_68 rfl ?_
          refine a_sub (sub_k (sub_k (sub_k (sub_k (sub_d (sub_k sub_n)))))) ?_
          exact sX8_makesSense_69 hA hd hk hn hlp20 ih hf
        · have hf := (if_pos c4).symm.trans hf
          refine a_sub (sub_k (sub_k (sub_k (sub_k (sub_d (sub_k sub_n)))))) ?_
          exact sX8_makesSense_64 hA hd hk hn hlp20 ih hf
set_option maxHeartbeats 4000000 in
theorem sX8_makesSense_20 {l : Launch} {g : gE} {d MC MS' k n : Nat} {A D : List va_E} (hA : A.length = 26) (hd : 4 ≤ d) (hk : k ≤ MC) (hn : n ≤ MS') {r : Int32 × MS} : ∀ (fn : Nat) (S : MS) (l3 : Int32), X8_makesSense_20 fn S l3 = some r → AW l g d RX8 cX8_makesSense 6 "makesSense" MC MS' (Qr (some (.int r.1)) (mh A r.2 D)) k n 20 [some (.ref 26), none, none, some (.int l3), none, none] [] (mh A S D) := by
  intro fn
  induction fn with
  | zero =>
    intro S l3 hf
    rw [X8_makesSense_20] at hf
    cases hf
  | succ fn ih =>
    intro S l3 hf
    rw [X8_makesSense_20] at hf
    refine a_iload_n (pc := 20) dX8_makesSense_20 rfl ?_
    refine a_aload_n (pc := 21) dX8_makesSense_21 rfl (isRv_r _) ?_
    refine m_getS (pc := 22) hA dX8_makesSense_22 fl_X8_95 ks_28 ?_
    refine a_icmp_ge (pc := 25) 90 dX8_makesSense_25 (by decide) (fun c1 => ?_) (fun c1 => ?_)
    · have hf := (if_pos c1).symm.trans hf
      refine a_iconst (pc := 90) 1 dX8_makesSense_90 rfl ?_
      have hf := Option.some.inj hf
      subst hf
      exact a_ireturn (pc := 91) dX8_makesSense_91 hk hn ⟨rfl, rfl⟩
    · have hf := (if_neg c1).symm.trans hf
      refine a_iconst (pc := 28) 0 dX8_makesSense_28 rfl ?_
      refine a_istore (pc := 29) (ls' := [some (.ref 26), none, none, some (.int l3), some (.int 0), none]) dX8_makesSense_29 (by decide) rfl ?_
      refine a_iconst (pc := 31) 0 dX8_makesSense_31 rfl ?_
      refine a_istore (pc := 32) (ls' := [some (.ref 26), none, none, some (.int l3), some (.int 0), some (.int 0)]) dX8_makesSense_32 (by decide) rfl ?_
      exact sX8_makesSense_34 hA hd hk hn ih FU S l3 0 0 hf
set_option maxHeartbeats 4000000 in
theorem sX8_makesSense_0 {l : Launch} {g : gE} {d MC MS' k n : Nat} {A D : List va_E} (hA : A.length = 26) (hd : 4 ≤ d) (hk : k ≤ MC) (hn : n ≤ MS') {r : Int32 × MS} {S : MS} {l1 : Int32} {l2 : Int32} (hf : X8_makesSense_0 S l1 l2 = some r) : AW l g d RX8 cX8_makesSense 6 "makesSense" MC MS' (Qr (some (.int r.1)) (mh A r.2 D)) k n 0 [some (.ref 26), some (.int l1), some (.int l2), none, none, none] [] (mh A S D) := by
  unfold X8_makesSense_0 at hf
  refine a_aload_n (pc := 0) dX8_makesSense_0 rfl (isRv_r _) ?_
  refine m_getS (pc := 1) hA dX8_makesSense_1 fl_X8_112 ks_33 ?_
  refine a_if_lt (pc := 4) 16 dX8_makesSense_4 (by decide) (fun c3 => ?_) (fun c3 => ?_)
  · have hf := (if_pos c3).symm.trans hf
    refine a_sub (sub_d (sub_d (sub_d (sub_k (sub_k (sub_k sub_n)))))) ?_
    exact sX8_makesSense_16 hA hd hk hn hf
  · have hf := (if_neg c3).symm.trans hf
    refine a_aload_n (pc := 7) dX8_makesSense_7 rfl (isRv_r _) ?_
    refine a_iload_n (pc := 8) dX8_makesSense_8 rfl ?_
    refine a_iload_n (pc := 9) dX8_makesSense_9 rfl ?_
    obtain ⟨r1, hr1, hf⟩ := Option.bind_eq_some_iff.mp hf
    refine m_call (pc := 10) (.int (r1.1)) [.int l1, .int l2] [] hA dX8_makesSense_10 ml_X8_230 mv_X8_readsLeft rfl rfl (by omega) (mX8_readsLeft hA (by omega) hr1) rfl (Nat.le_of_ble_eq_true rfl) hk hn ?_
    refine a_if_ne (pc := 13) 18 dX8_makesSense_13 (by decide) (fun c2 => ?_) (fun c2 => ?_)
    · have hf := (if_neg c2).symm.trans hf
      refine a_iconst (pc := 18) 0 dX8_makesSense_18 rfl ?_
      refine a_istore_n (pc := 19) (ls' := [some (.ref 26), some (.int l1), some (.int l2), some (.int 0), none, none]) dX8_makesSense_19 (by decide) rfl ?_
      refine a_sub (sub_k (sub_d (sub_d (sub_k (sub_k (sub_k sub_n)))))) ?_
      exact sX8_makesSense_20 hA hd hk hn FU r1.2 0 hf
    · have hf := (if_pos c2).symm.trans hf
      refine a_sub (sub_d (sub_d (sub_d (sub_k (sub_k (sub_k sub_n)))))) ?_
      exact sX8_makesSense_16 hA hd hk hn hf
set_option maxHeartbeats 4000000 in
theorem mX8_makesSense {l : Launch} {g : gE} {d : Nat} {A D : List va_E} (hA : A.length = 26) (hd : 4 ≤ d) {r : Int32 × MS} {S : MS} {l1 : Int32} {l2 : Int32} (hf : X8_makesSense S l1 l2 = some r) : AM l g d yX8_makesSense cX8_makesSense 6 (some .boolean) 0 0 [.ref 26, .int l1, .int l2] (mh A S D) (Qr (some (.int r.1)) (mh A r.2 D)) := by
  refine AM.of rfl (by exact Nat.le_of_ble_eq_true rfl) (fun v h' q => by obtain ⟨rfl, -⟩ := q; refine ⟨_, rfl, ?_⟩; rcases (zg_of hf).2 with e | e <;> rw [e] <;> rfl) (fun ls e => ?_)
  have e2 : aBeg [.ref 26, .int l1, .int l2] 6 = [some (.ref 26), some (.int l1), some (.int l2), none, none, none] := rfl
  rw [e2] at e
  subst e
  refine a_sub (sub_k (sub_k (sub_k (sub_k (sub_k (sub_k (sub_n))))))) ?_
  exact sX8_makesSense_0 hA hd (Nat.le_refl _) (Nat.le_refl _) ((zg_of hf).1)
-- PencilStrikesModel.lets(III)Z
def X8_lets_92 (rec53 : MS → Int32 → Int32 → Int32 → Int32 → Int32 → Option (Int32 × MS)) (S : MS) (l1 : Int32) (l2 : Int32) (l3 : Int32) (l4 : Int32) (l5 : Int32) : Option (Int32 × MS) :=
  rec53 S l1 l2 l3 l4 (l5 + 1)
def X8_lets_53 : Nat → MS → Int32 → Int32 → Int32 → Int32 → Int32 → Option (Int32 × MS)
  | 0, _, _, _, _, _, _ => none
  | fn + 1, S, l1, l2, l3, l4, l5 =>
    if l4 ≤ l5 then
      some (1, S)
    else
      (X8_has S l3 l5).bind fun r1 =>
      if r1.1 = 0 then
        X8_lets_92 (X8_lets_53 fn) r1.2 l1 l2 l3 l4 l5
      else
        (mA r1.2 6 ((12 * l2) + l5)).bind fun x2 =>
        (X8_isOf r1.2 l1 x2).bind fun r3 =>
        if r3.1 = 0 then
          some (0, r3.2)
        else
          X8_lets_92 (X8_lets_53 fn) r3.2 l1 l2 l3 l4 l5
def X8_lets_167 (rec103 : MS → Int32 → Int32 → Int32 → Int32 → Option (Int32 × MS)) (S : MS) (l2 : Int32) (l3 : Int32) (l4 : Int32) (l5 : Int32) : Option (Int32 × MS) :=
  rec103 S l2 l3 l4 (l5 + 1)
def X8_lets_103 : Nat → MS → Int32 → Int32 → Int32 → Int32 → Option (Int32 × MS)
  | 0, _, _, _, _, _ => none
  | fn + 1, S, l2, l3, l4, l5 =>
    if l4 ≤ l5 then
      some (1, S)
    else
      (mA S 6 ((12 * l2) + l5)).bind fun x1 =>
      if x1 = 59 then
        X8_lets_167 (X8_lets_103 fn) S l2 l3 l4 l5
      else
        (mA S 6 (((12 * l2) + l5) - 1)).bind fun x2 =>
        if x2 = 59 then
          X8_lets_167 (X8_lets_103 fn) S l2 l3 l4 l5
        else
          (X8_has S l3 l5).bind fun r3 =>
          (X8_has r3.2 l3 (l5 - 1)).bind fun r4 =>
          if r3.1 = r4.1 then
            X8_lets_167 (X8_lets_103 fn) r4.2 l2 l3 l4 l5
          else
            some (0, r4.2)
def X8_lets_188 (S : MS) (s0 : Int32) : Option (Int32 × MS) :=
  some (s0, S)
def X8_lets_0 (S : MS) (l1 : Int32) (l2 : Int32) (l3 : Int32) : Option (Int32 × MS) :=
  (mA S 8 l2).bind fun x1 =>
  if l1 = 0 then
    some (1, S)
  else
    if l1 = 1 then
      some (1, S)
    else
      if l1 = 2 then
        X8_lets_53 FU S l1 l2 l3 x1 0
      else
        if l1 = 3 then
          X8_lets_103 FU S l2 l3 x1 1
        else
          if l1 = 4 then
            X8_lets_53 FU S l1 l2 l3 x1 0
          else
            if l1 = 5 then
              if (l3 &&& (l3 + 1)) = 0 then
                X8_lets_188 S 1
              else
                X8_lets_188 S 0
            else
              (X8_makesSense S l2 l3).bind fun r2 =>
              some (r2.1, r2.2)
def X8_lets (S : MS) (l1 : Int32) (l2 : Int32) (l3 : Int32) : Option (Int32 × MS) := zg (X8_lets_0 S l1 l2 l3)
set_option maxHeartbeats 4000000 in
theorem sX8_lets_92 {l : Launch} {g : gE} {d MC MS' k n : Nat} {A D : List va_E} (hA : A.length = 26) (hd : 5 ≤ d) (hk : k ≤ MC) (hn : n ≤ MS') {r : Int32 × MS} {rec53 : MS → Int32 → Int32 → Int32 → Int32 → Int32 → Option (Int32 × MS)} (hlp53 : ∀ (S : MS) (l1 : Int32) (l2 : Int32) (l3 : Int32) (l4 : Int32) (l5 : Int32), rec53 S l1 l2 l3 l4 l5 = some r → AW l g d RX8 cX8_lets 6 "lets" MC MS' (Qr (some (.int r.1)) (mh A r.2 D)) k n 53 [some (.ref 26), some (.int l1), some (.int l2), some (.int l3), some (.int l4), some (.int l5)] [] (mh A S D)) {S : MS} {l1 : Int32} {l2 : Int32} {l3 : Int32} {l4 : Int32} {l5 : Int32} (hf : X8_lets_92 rec53 S l1 l2 l3 l4 l5 = some r) : AW l g d RX8 cX8_lets 6 "lets" MC MS' (Qr (some (.int r.1)) (mh A r.2 D)) k n 92 [some (.ref 26), some (.int l1), some (.int l2), some (.int l3), some (.int l4), some (.int l5)] [] (mh A S D) := by
  unfold X8_lets_92 at hf
  refine a_iinc (pc := 92) (ls' := [some (.ref 26), some (.int l1), some (.int l2), some (.int l3), some (.int l4), some (.int (l5 + 1))]) (l5 + 1) dX8_lets_92 rfl rfl (by decide) rfl ?_
  refine a_goto (pc := 95) 53 dX8_lets_95 (by decide) ?_
  exact hlp53 S l1 l2 l3 l4 (l5 + 1) hf
set_option maxHeartbeats 4000000 in
theorem sX8_lets_53 {l : Launch} {g : gE} {d MC MS' k n : Nat} {A D : List va_E} (hA : A.length = 26) (hd : 5 ≤ d) (hk : k ≤ MC) (hn : n ≤ MS') {r : Int32 × MS} : ∀ (fn : Nat) (S : MS) (l1 : Int32) (l2 : Int32) (l3 : Int32) (l4 : Int32) (l5 : Int32), X8_lets_53 fn S l1 l2 l3 l4 l5 = some r → AW l g d RX8 cX8_lets 6 "lets" MC MS' (Qr (some (.int r.1)) (mh A r.2 D)) k n 53 [some (.ref 26), some (.int l1), some (.int l2), some (.int l3), some (.int l4), some (.int l5)] [] (mh A S D) := by
  intro fn
  induction fn with
  | zero =>
    intro S l1 l2 l3 l4 l5 hf
    rw [X8_lets_53] at hf
    cases hf
  | succ fn ih =>
    intro S l1 l2 l3 l4 l5 hf
    rw [X8_lets_53] at hf
    refine a_iload (pc := 53) dX8_lets_53 rfl ?_
    refine a_iload (pc := 55) dX8_lets_55 rfl ?_
    refine a_icmp_ge (pc := 57) 98 dX8_lets_57 (by decide) (fun c6 => ?_) (fun c6 => ?_)
    · have hf := (if_pos c6).symm.trans hf
      refine a_iconst (pc := 98) 1 dX8_lets_98 rfl ?_
      have hf := Option.some.inj hf
      subst hf
      exact a_ireturn (pc := 99) dX8_lets_99 hk hn ⟨rfl, rfl⟩
    · have hf := (if_neg c6).symm.trans hf
      refine a_aload_n (pc := 60) dX8_lets_60 rfl (isRv_r _) ?_
      refine a_iload_n (pc := 61) dX8_lets_61 rfl ?_
      refine a_iload (pc := 62) dX8_lets_62 rfl ?_
      obtain ⟨r1, hr1, hf⟩ := Option.bind_eq_some_iff.mp hf
      refine m_call (pc := 64) (.int (r1.1)) [.int l3, .int l5] [] hA dX8_lets_64 ml_X8_219 mv_X8_has rfl rfl (by omega) (mX8_has hA (by omega) hr1) rfl (Nat.le_of_ble_eq_true rfl) hk hn ?_
      refine a_if_eq (pc := 67) 92 dX8_lets_67 (by decide) (fun c5 => ?_) (fun c5 => ?_)
      · have hf := (if_pos c5).symm.trans hf
        exact sX8_lets_92 hA hd hk hn ih hf
      · have hf := (if_neg c5).symm.trans hf
        refine a_aload_n (pc := 70) dX8_lets_70 rfl (isRv_r _) ?_
        refine a_iload_n (pc := 71) dX8_lets_71 rfl ?_
        refine a_aload_n (pc := 72) dX8_lets_72 rfl (isRv_r _) ?_
        refine m_getA (pc := 73) 28 hA dX8_lets_73 fl_X8_29 (Or.inl ki_6) rfl ?_
        refine a_bipush (pc := 76) 12 dX8_lets_76 rfl ?_
        refine a_iload_n (pc := 78) dX8_lets_78 rfl ?_
        refine a_imul (pc := 79) dX8_lets_79 ?_
        refine a_iload (pc := 80) dX8_lets_80 rfl ?_
        refine a_iadd (pc := 82) dX8_lets_82 ?_
        obtain ⟨x2, hx2, hf⟩ := Option.bind_eq_some_iff.mp hf
        refine m_ald (pc := 83) 28 hA dX8_lets_83 ki_6 rfl hx2 ?_
        obtain ⟨r3, hr3, hf⟩ := Option.bind_eq_some_iff.mp hf
        refine m_call (pc := 84) (.int (r3.1)) [.int l1, .int x2] [] hA dX8_lets_84 ml_X8_261 mv_X8_isOf rfl rfl (by omega) (mX8_isOf hA (by omega) hr3) rfl (Nat.le_of_ble_eq_true rfl) hk hn ?_
        refine a_if_ne (pc := 87) 92 dX8_lets_87 (by decide) (fun c4 => ?_) (fun c4 => ?_)
        · have hf := (if_neg c4).symm.trans hf
          exact sX8_lets_92 hA hd hk hn ih hf
        · have hf := (if_pos c4).symm.trans hf
          refine a_iconst (pc := 90) 0 dX8_lets_90 rfl ?_
          have hf := Option.some.inj hf
          subst hf
          exact a_ireturn (pc := 91) dX8_lets_91 hk hn ⟨rfl, rfl⟩
set_option maxHeartbeats 4000000 in
theorem sX8_lets_167 {l : Launch} {g : gE} {d MC MS' k n : Nat} {A D : List va_E} (hA : A.length = 26) (hd : 5 ≤ d) (hk : k ≤ MC) (hn : n ≤ MS') {r : Int32 × MS} {rec103 : MS → Int32 → Int32 → Int32 → Int32 → Option (Int32 × MS)} (hlp103 : ∀ (S : MS) (l2 : Int32) (l3 : Int32) (l4 : Int32) (l5 : Int32), rec103 S l2 l3 l4 l5 = some r → AW l g d RX8 cX8_lets 6 "lets" MC MS' (Qr (some (.int r.1)) (mh A r.2 D)) k n 103 [some (.ref 26), none, some (.int l2), some (.int l3), some (.int l4), some (.int l5)] [] (mh A S D)) {S : MS} {l2 : Int32} {l3 : Int32} {l4 : Int32} {l5 : Int32} (hf : X8_lets_167 rec103 S l2 l3 l4 l5 = some r) : AW l g d RX8 cX8_lets 6 "lets" MC MS' (Qr (some (.int r.1)) (mh A r.2 D)) k n 167 [some (.ref 26), none, some (.int l2), some (.int l3), some (.int l4), some (.int l5)] [] (mh A S D) := by
  unfold X8_lets_167 at hf
  refine a_iinc (pc := 167) (ls' := [some (.ref 26), none, some (.int l2), some (.int l3), some (.int l4), some (.int (l5 + 1))]) (l5 + 1) dX8_lets_167 rfl rfl (by decide) rfl ?_
  refine a_goto (pc := 170) 103 dX8_lets_170 (by decide) ?_
  exact hlp103 S l2 l3 l4 (l5 + 1) hf
set_option maxHeartbeats 4000000 in
theorem sX8_lets_103 {l : Launch} {g : gE} {d MC MS' k n : Nat} {A D : List va_E} (hA : A.length = 26) (hd : 5 ≤ d) (hk : k ≤ MC) (hn : n ≤ MS') {r : Int32 × MS} : ∀ (fn : Nat) (S : MS) (l2 : Int32) (l3 : Int32) (l4 : Int32) (l5 : Int32), X8_lets_103 fn S l2 l3 l4 l5 = some r → AW l g d RX8 cX8_lets 6 "lets" MC MS' (Qr (some (.int r.1)) (mh A r.2 D)) k n 103 [some (.ref 26), none, some (.int l2), some (.int l3), some (.int l4), some (.int l5)] [] (mh A S D) := by
  intro fn
  induction fn with
  | zero =>
    intro S l2 l3 l4 l5 hf
    rw [X8_lets_103] at hf
    cases hf
  | succ fn ih =>
    intro S l2 l3 l4 l5 hf
    rw [X8_lets_103] at hf
    refine a_iload (pc := 103) dX8_lets_103 rfl ?_
    refine a_iload (pc := 105) dX8_lets_105 rfl ?_
    refine a_icmp_ge (pc := 107) 173 dX8_lets_107 (by decide) (fun c8 => ?_) (fun c8 => ?_)
    · have hf := (if_pos c8).symm.trans hf
      refine a_iconst (pc := 173) 1 dX8_lets_173 rfl ?_
      have hf := Option.some.inj hf
      subst hf
      exact a_ireturn (pc := 174) dX8_lets_174 hk hn ⟨rfl, rfl⟩
    · have hf := (if_neg c8).symm.trans hf
      refine a_aload_n (pc := 110) dX8_lets_110 rfl (isRv_r _) ?_
      refine m_getA (pc := 111) 28 hA dX8_lets_111 fl_X8_29 (Or.inl ki_6) rfl ?_
      refine a_bipush (pc := 114) 12 dX8_lets_114 rfl ?_
      refine a_iload_n (pc := 116) dX8_lets_116 rfl ?_
      refine a_imul (pc := 117) dX8_lets_117 ?_
      refine a_iload (pc := 118) dX8_lets_118 rfl ?_
      refine a_iadd (pc := 120) dX8_lets_120 ?_
      obtain ⟨x1, hx1, hf⟩ := Option.bind_eq_some_iff.mp hf
      refine m_ald (pc := 121) 28 hA dX8_lets_121 ki_6 rfl hx1 ?_
      refine a_bipush (pc := 122) 59 dX8_lets_122 rfl ?_
      refine a_icmp_eq (pc := 124) 167 dX8_lets_124 (by decide) (fun c7 => ?_) (fun c7 => ?_)
      · have hf := (if_pos c7).symm.trans hf
        exact sX8_lets_167 hA hd hk hn ih hf
      · have hf := (if_neg c7).symm.trans hf
        refine a_aload_n (pc := 127) dX8_lets_127 rfl (isRv_r _) ?_
        refine m_getA (pc := 128) 28 hA dX8_lets_128 fl_X8_29 (Or.inl ki_6) rfl ?_
        refine a_bipush (pc := 131) 12 dX8_lets_131 rfl ?_
        refine a_iload_n (pc := 133) dX8_lets_133 rfl ?_
        refine a_imul (pc := 134) dX8_lets_134 ?_
        refine a_iload (pc := 135) dX8_lets_135 rfl ?_
        refine a_iadd (pc := 137) dX8_lets_137 ?_
        refine a_iconst (pc := 138) 1 dX8_lets_138 rfl ?_
        refine a_isub (pc := 139) dX8_lets_139 ?_
        obtain ⟨x2, hx2, hf⟩ := Option.bind_eq_some_iff.mp hf
        refine m_ald (pc := 140) 28 hA dX8_lets_140 ki_6 rfl hx2 ?_
        refine a_bipush (pc := 141) 59 dX8_lets_141 rfl ?_
        refine a_icmp_eq (pc := 143) 167 dX8_lets_143 (by decide) (fun c6 => ?_) (fun c6 => ?_)
        · have hf := (if_pos c6).symm.trans hf
          exact sX8_lets_167 hA hd hk hn ih hf
        · have hf := (if_neg c6).symm.trans hf
          refine a_aload_n (pc := 146) dX8_lets_146 rfl (isRv_r _) ?_
          refine a_iload_n (pc := 147) dX8_lets_147 rfl ?_
          refine a_iload (pc := 148) dX8_lets_148 rfl ?_
          obtain ⟨r3, hr3, hf⟩ := Option.bind_eq_some_iff.mp hf
          refine m_call (pc := 150) (.int (r3.1)) [.int l3, .int l5] [] hA dX8_lets_150 ml_X8_219 mv_X8_has rfl rfl (by omega) (mX8_has hA (by omega) hr3) rfl (Nat.le_of_ble_eq_true rfl) hk hn ?_
          refine a_aload_n (pc := 153) dX8_lets_153 rfl (isRv_r _) ?_
          refine a_iload_n (pc := 154) dX8_lets_154 rfl ?_
          refine a_iload (pc := 155) dX8_lets_155 rfl ?_
          refine a_iconst (pc := 157) 1 dX8_lets_157 rfl ?_
          refine a_isub (pc := 158) dX8_lets_158 ?_
          obtain ⟨r4, hr4, hf⟩ := Option.bind_eq_some_iff.mp hf
          refine m_call (pc := 159) (.int (r4.1)) [.int l3, .int (l5 - 1)] [.int (r3.1)] hA dX8_lets_159 ml_X8_219 mv_X8_has rfl rfl (by omega) (mX8_has hA (by omega) hr4) rfl (Nat.le_of_ble_eq_true rfl) hk hn ?_
          refine a_icmp_eq (pc := 162) 167 dX8_lets_162 (by decide) (fun c5 => ?_) (fun c5 => ?_)
          · have hf := (if_pos c5).symm.trans hf
            exact sX8_lets_167 hA hd hk hn ih hf
          · have hf := (if_neg c5).symm.trans hf
            refine a_iconst (pc := 165) 0 dX8_lets_165 rfl ?_
            have hf := Option.some.inj hf
            subst hf
            exact a_ireturn (pc := 166) dX8_lets_166 hk hn ⟨rfl, rfl⟩
set_option maxHeartbeats 4000000 in
theorem sX8_lets_188 {l : Launch} {g : gE} {d MC MS' k n : Nat} {A D : List va_E} (hA : A.length = 26) (hd : 5 ≤ d) (hk : k ≤ MC) (hn : n ≤ MS') {r : Int32 × MS} {S : MS} {s0 : Int32} (hf : X8_lets_188 S s0 = some r) : AW l g d RX8 cX8_lets 6 "lets" MC MS' (Qr (some (.int r.1)) (mh A r.2 D)) k n 188 [none, none, none, none, none, none] [.int s0] (mh A S D) := by
  unfold X8_lets_188 at hf
  have hf := Option.some.inj hf
  subst hf
  exact a_ireturn (pc := 188) dX8_lets_188 hk hn ⟨rfl, rfl⟩
set_option maxHeartbeats 4000000 in
theorem sX8_lets_0 {l : Launch} {g : gE} {d MC MS' k n : Nat} {A D : List va_E} (hA : A.length = 26) (hd : 5 ≤ d) (hk : k ≤ MC) (hn : n ≤ MS') {r : Int32 × MS} {S : MS} {l1 : Int32} {l2 : Int32} {l3 : Int32} (hf : X8_lets_0 S l1 l2 l3 = some r) : AW l g d RX8 cX8_lets 6 "lets" MC MS' (Qr (some (.int r.1)) (mh A r.2 D)) k n 0 [some (.ref 26), some (.int l1), some (.int l2), some (.int l3), none, none] [] (mh A S D) := by
  unfold X8_lets_0 at hf
  refine a_aload_n (pc := 0) dX8_lets_0 rfl (isRv_r _) ?_
  refine m_getA (pc := 1) 30 hA dX8_lets_1 fl_X8_35 (Or.inl ki_8) rfl ?_
  refine a_iload_n (pc := 4) dX8_lets_4 rfl ?_
  obtain ⟨x1, hx1, hf⟩ := Option.bind_eq_some_iff.mp hf
  refine m_ald (pc := 5) 30 hA dX8_lets_5 ki_8 rfl hx1 ?_
  refine a_istore (pc := 6) (ls' := [some (.ref 26), some (.int l1), some (.int l2), some (.int l3), some (.int x1), none]) dX8_lets_6 (by decide) rfl ?_
  refine a_iload_n (pc := 8) dX8_lets_8 rfl ?_
  by_cases c4_0 : l1 = 0
  · have hf := (if_pos c4_0).symm.trans hf
    refine a_tableIn (pc := 9) 48 dX8_lets_9 (by rw [c4_0]; decide) (by rw [c4_0]; decide) (off := 39) (by rw [c4_0]; rfl) (by decide) ?_
    refine a_iconst (pc := 48) 1 dX8_lets_48 rfl ?_
    have hf := Option.some.inj hf
    subst hf
    exact a_ireturn (pc := 49) dX8_lets_49 hk hn ⟨rfl, rfl⟩
  · have hf := (if_neg c4_0).symm.trans hf
    by_cases c4_1 : l1 = 1
    · have hf := (if_pos c4_1).symm.trans hf
      refine a_tableIn (pc := 9) 48 dX8_lets_9 (by rw [c4_1]; decide) (by rw [c4_1]; decide) (off := 39) (by rw [c4_1]; rfl) (by decide) ?_
      refine a_iconst (pc := 48) 1 dX8_lets_48 rfl ?_
      have hf := Option.some.inj hf
      subst hf
      exact a_ireturn (pc := 49) dX8_lets_49 hk hn ⟨rfl, rfl⟩
    · have hf := (if_neg c4_1).symm.trans hf
      by_cases c4_2 : l1 = 2
      · have hf := (if_pos c4_2).symm.trans hf
        refine a_tableIn (pc := 9) 50 dX8_lets_9 (by rw [c4_2]; decide) (by rw [c4_2]; decide) (off := 41) (by rw [c4_2]; rfl) (by decide) ?_
        refine a_iconst (pc := 50) 0 dX8_lets_50 rfl ?_
        refine a_istore (pc := 51) (ls' := [some (.ref 26), some (.int l1), some (.int l2), some (.int l3), some (.int x1), some (.int 0)]) dX8_lets_51 (by decide) rfl ?_
        exact sX8_lets_53 hA hd hk hn FU S l1 l2 l3 x1 0 hf
      · have hf := (if_neg c4_2).symm.trans hf
        by_cases c4_3 : l1 = 3
        · have hf := (if_pos c4_3).symm.trans hf
          refine a_tableIn (pc := 9) 100 dX8_lets_9 (by rw [c4_3]; decide) (by rw [c4_3]; decide) (off := 91) (by rw [c4_3]; rfl) (by decide) ?_
          refine a_iconst (pc := 100) 1 dX8_lets_100 rfl ?_
          refine a_istore (pc := 101) (ls' := [some (.ref 26), some (.int l1), some (.int l2), some (.int l3), some (.int x1), some (.int 1)]) dX8_lets_101 (by decide) rfl ?_
          refine a_sub (sub_k (sub_d (sub_k (sub_k (sub_k (sub_k sub_n)))))) ?_
          exact sX8_lets_103 hA hd hk hn FU S l2 l3 x1 1 hf
        · have hf := (if_neg c4_3).symm.trans hf
          by_cases c4_4 : l1 = 4
          · have hf := (if_pos c4_4).symm.trans hf
            refine a_tableIn (pc := 9) 50 dX8_lets_9 (by rw [c4_4]; decide) (by rw [c4_4]; decide) (off := 41) (by rw [c4_4]; rfl) (by decide) ?_
            refine a_iconst (pc := 50) 0 dX8_lets_50 rfl ?_
            refine a_istore (pc := 51) (ls' := [some (.ref 26), some (.int l1), some (.int l2), some (.int l3), some (.int x1), some (.int 0)]) dX8_lets_51 (by decide) rfl ?_
            exact sX8_lets_53 hA hd hk hn FU S l1 l2 l3 x1 0 hf
          · have hf := (if_neg c4_4).symm.trans hf
            by_cases c4_5 : l1 = 5
            · have hf := (if_pos c4_5).symm.trans hf
              refine a_tableIn (pc := 9) 175 dX8_lets_9 (by rw [c4_5]; decide) (by rw [c4_5]; decide) (off := 166) (by rw [c4_5]; rfl) (by decide) ?_
              refine a_iload_n (pc := 175) dX8_lets_175 rfl ?_
              refine a_iload_n (pc := 176) dX8_lets_176 rfl ?_
              refine a_iconst (pc := 177) 1 dX8_lets_177 rfl ?_
              refine a_iadd (pc := 178) dX8_lets_178 ?_
              refine a_iand (pc := 179) dX8_lets_179 ?_
              refine a_if_ne (pc := 180) 187 dX8_lets_180 (by decide) (fun c3 => ?_) (fun c3 => ?_)
              · have hf := (if_neg c3).symm.trans hf
                refine a_iconst (pc := 187) 0 dX8_lets_187 rfl ?_
                refine a_sub (sub_d (sub_d (sub_d (sub_d (sub_d (sub_k sub_n)))))) ?_
                exact sX8_lets_188 hA hd hk hn hf
              · have hf := (if_pos c3).symm.trans hf
                refine a_iconst (pc := 183) 1 dX8_lets_183 rfl ?_
                refine a_goto (pc := 184) 188 dX8_lets_184 (by decide) ?_
                refine a_sub (sub_d (sub_d (sub_d (sub_d (sub_d (sub_k sub_n)))))) ?_
                exact sX8_lets_188 hA hd hk hn hf
            · have hf := (if_neg c4_5).symm.trans hf
              have hkd : AW l g d RX8 cX8_lets 6 "lets" MC MS' (Qr (some (.int r.1)) (mh A r.2 D)) k n 189 [some (.ref 26), some (.int l1), some (.int l2), some (.int l3), some (.int x1), none] [] (mh A S D) := by
                refine a_aload_n (pc := 189) dX8_lets_189 rfl (isRv_r _) ?_
                refine a_iload_n (pc := 190) dX8_lets_190 rfl ?_
                refine a_iload_n (pc := 191) dX8_lets_191 rfl ?_
                obtain ⟨r2, hr2, hf⟩ := Option.bind_eq_some_iff.mp hf
                refine m_call (pc := 192) (.int (r2.1)) [.int l2, .int l3] [] hA dX8_lets_192 ml_X8_264 mv_X8_makesSense rfl rfl (by omega) (mX8_makesSense hA (by omega) hr2) rfl (Nat.le_of_ble_eq_true rfl) hk hn ?_
                have hf := Option.some.inj hf
                subst hf
                exact a_ireturn (pc := 195) dX8_lets_195 hk hn ⟨rfl, rfl⟩
              by_cases h4l : (l1).toInt < 0
              · exact a_tableOut (pc := 9) 189 dX8_lets_9 (Or.inl h4l) (by decide) hkd
              by_cases h4h : 5 < (l1).toInt
              · exact a_tableOut (pc := 9) 189 dX8_lets_9 (Or.inr h4h) (by decide) hkd
              have h4a : (l1).toInt = 0 ∨ (l1).toInt = 1 ∨ (l1).toInt = 2 ∨ (l1).toInt = 3 ∨ (l1).toInt = 4 ∨ (l1).toInt = 5 := by omega
              rcases h4a with h4a | h4a | h4a | h4a | h4a | h4a
              · exact absurd (Int32.toInt_inj.mp (h4a.trans rfl)) c4_0
              · exact absurd (Int32.toInt_inj.mp (h4a.trans rfl)) c4_1
              · exact absurd (Int32.toInt_inj.mp (h4a.trans rfl)) c4_2
              · exact absurd (Int32.toInt_inj.mp (h4a.trans rfl)) c4_3
              · exact absurd (Int32.toInt_inj.mp (h4a.trans rfl)) c4_4
              · exact absurd (Int32.toInt_inj.mp (h4a.trans rfl)) c4_5
set_option maxHeartbeats 4000000 in
theorem mX8_lets {l : Launch} {g : gE} {d : Nat} {A D : List va_E} (hA : A.length = 26) (hd : 5 ≤ d) {r : Int32 × MS} {S : MS} {l1 : Int32} {l2 : Int32} {l3 : Int32} (hf : X8_lets S l1 l2 l3 = some r) : AM l g d yX8_lets cX8_lets 6 (some .boolean) 0 0 [.ref 26, .int l1, .int l2, .int l3] (mh A S D) (Qr (some (.int r.1)) (mh A r.2 D)) := by
  refine AM.of rfl (by exact Nat.le_of_ble_eq_true rfl) (fun v h' q => by obtain ⟨rfl, -⟩ := q; refine ⟨_, rfl, ?_⟩; rcases (zg_of hf).2 with e | e <;> rw [e] <;> rfl) (fun ls e => ?_)
  have e2 : aBeg [.ref 26, .int l1, .int l2, .int l3] 6 = [some (.ref 26), some (.int l1), some (.int l2), some (.int l3), none, none] := rfl
  rw [e2] at e
  subst e
  refine a_sub (sub_k (sub_k (sub_k (sub_k (sub_k (sub_k (sub_n))))))) ?_
  exact sX8_lets_0 hA hd (Nat.le_refl _) (Nat.le_refl _) ((zg_of hf).1)
-- PencilStrikesModel.readWhole(I)V
def X8_readWhole_23 : Nat → MS → Int32 → Option (Unit × MS)
  | 0, _, _ => none
  | fn + 1, S, l2 =>
    if (S.1 33) ≤ l2 then
      some ((), S)
    else
      (X8_dutyOf S l2).bind fun r1 =>
      (mLs r1.2 32 l2 r1.1).bind fun S2 =>
      X8_readWhole_23 fn S2 (l2 + 1)
def X8_readWhole_18 (S : MS) (s1 : Int32) : Option (Unit × MS) :=
  X8_readWhole_23 FU (si S 33 s1) 0
def X8_readWhole_0 (S : MS) (l1 : Int32) : Option (Unit × MS) :=
  (X8_readsLeft S l1 0).bind fun r1 =>
  if r1.1 = 0 then
    X8_readWhole_18 r1.2 (-1)
  else
    X8_readWhole_18 r1.2 (r1.2.1 28)
def X8_readWhole (S : MS) (l1 : Int32) : Option (Unit × MS) := X8_readWhole_0 S l1
set_option maxHeartbeats 4000000 in
theorem sX8_readWhole_23 {l : Launch} {g : gE} {d MC MS' k n : Nat} {A D : List va_E} (hA : A.length = 26) (hd : 4 ≤ d) (hk : k ≤ MC) (hn : n ≤ MS') {r : Unit × MS} : ∀ (fn : Nat) (S : MS) (l2 : Int32), X8_readWhole_23 fn S l2 = some r → AW l g d RX8 cX8_readWhole 3 "readWhole" MC MS' (Qr (none) (mh A r.2 D)) k n 23 [some (.ref 26), none, some (.int l2)] [] (mh A S D) := by
  intro fn
  induction fn with
  | zero =>
    intro S l2 hf
    rw [X8_readWhole_23] at hf
    cases hf
  | succ fn ih =>
    intro S l2 hf
    rw [X8_readWhole_23] at hf
    refine a_iload_n (pc := 23) dX8_readWhole_23 rfl ?_
    refine a_aload_n (pc := 24) dX8_readWhole_24 rfl (isRv_r _) ?_
    refine m_getS (pc := 25) hA dX8_readWhole_25 fl_X8_112 ks_33 ?_
    refine a_icmp_ge (pc := 28) 48 dX8_readWhole_28 (by decide) (fun c3 => ?_) (fun c3 => ?_)
    · have hf := (if_pos c3).symm.trans hf
      have hf := Option.some.inj hf
      subst hf
      exact a_return (pc := 48) dX8_readWhole_48 hk hn ⟨rfl, rfl⟩
    · have hf := (if_neg c3).symm.trans hf
      refine a_aload_n (pc := 31) dX8_readWhole_31 rfl (isRv_r _) ?_
      refine m_getA (pc := 32) 47 hA dX8_readWhole_32 fl_X8_108 (Or.inr (Or.inr kj_32)) rfl ?_
      refine a_iload_n (pc := 35) dX8_readWhole_35 rfl ?_
      refine a_aload_n (pc := 36) dX8_readWhole_36 rfl (isRv_r _) ?_
      refine a_iload_n (pc := 37) dX8_readWhole_37 rfl ?_
      obtain ⟨r1, hr1, hf⟩ := Option.bind_eq_some_iff.mp hf
      refine m_call (pc := 38) (.long (r1.1)) [.int l2] [.int l2, .ref 47] hA dX8_readWhole_38 ml_X8_235 mv_X8_dutyOf rfl rfl (by omega) (mX8_dutyOf hA (by omega) hr1) rfl (Nat.le_of_ble_eq_true rfl) hk hn ?_
      obtain ⟨S2, hS2, hf⟩ := Option.bind_eq_some_iff.mp hf
      refine m_last (pc := 41) 47 hA dX8_readWhole_41 kj_32 rfl hS2 ?_
      refine a_iinc (pc := 42) (ls' := [some (.ref 26), none, some (.int (l2 + 1))]) (l2 + 1) dX8_readWhole_42 rfl rfl (by decide) rfl ?_
      refine a_goto (pc := 45) 23 dX8_readWhole_45 (by decide) ?_
      exact ih S2 (l2 + 1) hf
set_option maxHeartbeats 4000000 in
theorem sX8_readWhole_18 {l : Launch} {g : gE} {d MC MS' k n : Nat} {A D : List va_E} (hA : A.length = 26) (hd : 4 ≤ d) (hk : k ≤ MC) (hn : n ≤ MS') {r : Unit × MS} {S : MS} {s1 : Int32} (hf : X8_readWhole_18 S s1 = some r) : AW l g d RX8 cX8_readWhole 3 "readWhole" MC MS' (Qr (none) (mh A r.2 D)) k n 18 [some (.ref 26), none, none] [.int s1, .ref 26] (mh A S D) := by
  unfold X8_readWhole_18 at hf
  refine m_putS (pc := 18) hA dX8_readWhole_18 fl_X8_112 ks_33 ?_
  refine a_iconst (pc := 21) 0 dX8_readWhole_21 rfl ?_
  refine a_istore_n (pc := 22) (ls' := [some (.ref 26), none, some (.int 0)]) dX8_readWhole_22 (by decide) rfl ?_
  exact sX8_readWhole_23 hA hd hk hn FU (si S 33 s1) 0 hf
set_option maxHeartbeats 4000000 in
theorem sX8_readWhole_0 {l : Launch} {g : gE} {d MC MS' k n : Nat} {A D : List va_E} (hA : A.length = 26) (hd : 4 ≤ d) (hk : k ≤ MC) (hn : n ≤ MS') {r : Unit × MS} {S : MS} {l1 : Int32} (hf : X8_readWhole_0 S l1 = some r) : AW l g d RX8 cX8_readWhole 3 "readWhole" MC MS' (Qr (none) (mh A r.2 D)) k n 0 [some (.ref 26), some (.int l1), none] [] (mh A S D) := by
  unfold X8_readWhole_0 at hf
  refine a_aload_n (pc := 0) dX8_readWhole_0 rfl (isRv_r _) ?_
  refine a_aload_n (pc := 1) dX8_readWhole_1 rfl (isRv_r _) ?_
  refine a_iload_n (pc := 2) dX8_readWhole_2 rfl ?_
  refine a_iconst (pc := 3) 0 dX8_readWhole_3 rfl ?_
  obtain ⟨r1, hr1, hf⟩ := Option.bind_eq_some_iff.mp hf
  refine m_call (pc := 4) (.int (r1.1)) [.int l1, .int 0] [.ref 26] hA dX8_readWhole_4 ml_X8_230 mv_X8_readsLeft rfl rfl (by omega) (mX8_readsLeft hA (by omega) hr1) rfl (Nat.le_of_ble_eq_true rfl) hk hn ?_
  refine a_if_eq (pc := 7) 17 dX8_readWhole_7 (by decide) (fun c2 => ?_) (fun c2 => ?_)
  · have hf := (if_pos c2).symm.trans hf
    refine a_iconst (pc := 17) (-1) dX8_readWhole_17 rfl ?_
    refine a_sub (sub_k (sub_d (sub_k sub_n))) ?_
    exact sX8_readWhole_18 hA hd hk hn hf
  · have hf := (if_neg c2).symm.trans hf
    refine a_aload_n (pc := 10) dX8_readWhole_10 rfl (isRv_r _) ?_
    refine m_getS (pc := 11) hA dX8_readWhole_11 fl_X8_95 ks_28 ?_
    refine a_goto (pc := 14) 18 dX8_readWhole_14 (by decide) ?_
    refine a_sub (sub_k (sub_d (sub_k sub_n))) ?_
    exact sX8_readWhole_18 hA hd hk hn hf
set_option maxHeartbeats 4000000 in
theorem mX8_readWhole {l : Launch} {g : gE} {d : Nat} {A D : List va_E} (hA : A.length = 26) (hd : 4 ≤ d) {r : Unit × MS} {S : MS} {l1 : Int32} (hf : X8_readWhole S l1 = some r) : AM l g d yX8_readWhole cX8_readWhole 3 none 0 0 [.ref 26, .int l1] (mh A S D) (Qr (none) (mh A r.2 D)) := by
  refine AM.of rfl (by exact Nat.le_of_ble_eq_true rfl) (fun v h' q => by obtain ⟨rfl, -⟩ := q; rfl) (fun ls e => ?_)
  have e2 : aBeg [.ref 26, .int l1] 3 = [some (.ref 26), some (.int l1), none] := rfl
  rw [e2] at e
  subst e
  refine a_sub (sub_k (sub_k (sub_k (sub_n)))) ?_
  exact sX8_readWhole_0 hA hd (Nat.le_refl _) (Nat.le_refl _) (hf)
-- PencilStrikesModel.let(III)I
def X8_let_16 (S : MS) : Option (Int32 × MS) :=
  some ((-1), S)
def X8_let_50 (S : MS) (s0 : Int32) : Option (Int32 × MS) :=
  some (s0, S)
def X8_let_0 (S : MS) (l1 : Int32) (l2 : Int32) (l3 : Int32) : Option (Int32 × MS) :=
  (X8_isKind S l1).bind fun r1 =>
  if r1.1 = 0 then
    X8_let_16 r1.2
  else
    (X8_isBargain r1.2 l2).bind fun r2 =>
    if r2.1 = 0 then
      X8_let_16 r2.2
    else
      (X8_isSet r2.2 l2 l3).bind fun r3 =>
      if r3.1 = 0 then
        some ((-2), r3.2)
      else
        (X8_readWhole r3.2 l2).bind fun r4 =>
        (X8_lets r4.2 l1 l2 l3).bind fun r5 =>
        if r5.1 = 0 then
          X8_let_50 r5.2 0
        else
          X8_let_50 r5.2 1
def X8_let (S : MS) (l1 : Int32) (l2 : Int32) (l3 : Int32) : Option (Int32 × MS) := X8_let_0 S l1 l2 l3
set_option maxHeartbeats 4000000 in
theorem sX8_let_16 {l : Launch} {g : gE} {d MC MS' k n : Nat} {A D : List va_E} (hA : A.length = 26) (hd : 6 ≤ d) (hk : k ≤ MC) (hn : n ≤ MS') {r : Int32 × MS} {S : MS} (hf : X8_let_16 S = some r) : AW l g d RX8 cX8_let 4 "let" MC MS' (Qr (some (.int r.1)) (mh A r.2 D)) k n 16 [none, none, none, none] [] (mh A S D) := by
  unfold X8_let_16 at hf
  refine a_iconst (pc := 16) (-1) dX8_let_16 rfl ?_
  have hf := Option.some.inj hf
  subst hf
  exact a_ireturn (pc := 17) dX8_let_17 hk hn ⟨rfl, rfl⟩
set_option maxHeartbeats 4000000 in
theorem sX8_let_50 {l : Launch} {g : gE} {d MC MS' k n : Nat} {A D : List va_E} (hA : A.length = 26) (hd : 6 ≤ d) (hk : k ≤ MC) (hn : n ≤ MS') {r : Int32 × MS} {S : MS} {s0 : Int32} (hf : X8_let_50 S s0 = some r) : AW l g d RX8 cX8_let 4 "let" MC MS' (Qr (some (.int r.1)) (mh A r.2 D)) k n 50 [none, none, none, none] [.int s0] (mh A S D) := by
  unfold X8_let_50 at hf
  have hf := Option.some.inj hf
  subst hf
  exact a_ireturn (pc := 50) dX8_let_50 hk hn ⟨rfl, rfl⟩
set_option maxHeartbeats 4000000 in
theorem sX8_let_0 {l : Launch} {g : gE} {d MC MS' k n : Nat} {A D : List va_E} (hA : A.length = 26) (hd : 6 ≤ d) (hk : k ≤ MC) (hn : n ≤ MS') {r : Int32 × MS} {S : MS} {l1 : Int32} {l2 : Int32} {l3 : Int32} (hf : X8_let_0 S l1 l2 l3 = some r) : AW l g d RX8 cX8_let 4 "let" MC MS' (Qr (some (.int r.1)) (mh A r.2 D)) k n 0 [some (.ref 26), some (.int l1), some (.int l2), some (.int l3)] [] (mh A S D) := by
  unfold X8_let_0 at hf
  refine a_aload_n (pc := 0) dX8_let_0 rfl (isRv_r _) ?_
  refine a_iload_n (pc := 1) dX8_let_1 rfl ?_
  obtain ⟨r1, hr1, hf⟩ := Option.bind_eq_some_iff.mp hf
  refine m_call (pc := 2) (.int (r1.1)) [.int l1] [] hA dX8_let_2 ml_X8_267 mv_X8_isKind rfl rfl (by omega) (mX8_isKind hA (by omega) hr1) rfl (Nat.le_of_ble_eq_true rfl) hk hn ?_
  refine a_if_eq (pc := 5) 16 dX8_let_5 (by decide) (fun c9 => ?_) (fun c9 => ?_)
  · have hf := (if_pos c9).symm.trans hf
    refine a_sub (sub_d (sub_d (sub_d (sub_d sub_n)))) ?_
    exact sX8_let_16 hA hd hk hn hf
  · have hf := (if_neg c9).symm.trans hf
    refine a_aload_n (pc := 8) dX8_let_8 rfl (isRv_r _) ?_
    refine a_iload_n (pc := 9) dX8_let_9 rfl ?_
    obtain ⟨r2, hr2, hf⟩ := Option.bind_eq_some_iff.mp hf
    refine m_call (pc := 10) (.int (r2.1)) [.int l2] [] hA dX8_let_10 ml_X8_203 mv_X8_isBargain rfl rfl (by omega) (mX8_isBargain hA (by omega) hr2) rfl (Nat.le_of_ble_eq_true rfl) hk hn ?_
    refine a_if_ne (pc := 13) 18 dX8_let_13 (by decide) (fun c8 => ?_) (fun c8 => ?_)
    · have hf := (if_neg c8).symm.trans hf
      refine a_aload_n (pc := 18) dX8_let_18 rfl (isRv_r _) ?_
      refine a_iload_n (pc := 19) dX8_let_19 rfl ?_
      refine a_iload_n (pc := 20) dX8_let_20 rfl ?_
      obtain ⟨r3, hr3, hf⟩ := Option.bind_eq_some_iff.mp hf
      refine m_call (pc := 21) (.int (r3.1)) [.int l2, .int l3] [] hA dX8_let_21 ml_X8_227 mv_X8_isSet rfl rfl (by omega) (mX8_isSet hA (by omega) hr3) rfl (Nat.le_of_ble_eq_true rfl) hk hn ?_
      refine a_if_ne (pc := 24) 30 dX8_let_24 (by decide) (fun c7 => ?_) (fun c7 => ?_)
      · have hf := (if_neg c7).symm.trans hf
        refine a_aload_n (pc := 30) dX8_let_30 rfl (isRv_r _) ?_
        refine a_iload_n (pc := 31) dX8_let_31 rfl ?_
        obtain ⟨r4, hr4, hf⟩ := Option.bind_eq_some_iff.mp hf
        refine m_callv (pc := 32) [.int l2] [] hA dX8_let_32 ml_X8_270 mv_X8_readWhole rfl rfl (by omega) (mX8_readWhole hA (by omega) hr4) rfl (Nat.le_of_ble_eq_true rfl) hk hn ?_
        refine a_aload_n (pc := 35) dX8_let_35 rfl (isRv_r _) ?_
        refine a_iload_n (pc := 36) dX8_let_36 rfl ?_
        refine a_iload_n (pc := 37) dX8_let_37 rfl ?_
        refine a_iload_n (pc := 38) dX8_let_38 rfl ?_
        obtain ⟨r5, hr5, hf⟩ := Option.bind_eq_some_iff.mp hf
        refine m_call (pc := 39) (.int (r5.1)) [.int l1, .int l2, .int l3] [] hA dX8_let_39 ml_X8_273 mv_X8_lets rfl rfl (by omega) (mX8_lets hA (by omega) hr5) rfl (Nat.le_of_ble_eq_true rfl) hk hn ?_
        refine a_if_eq (pc := 42) 49 dX8_let_42 (by decide) (fun c6 => ?_) (fun c6 => ?_)
        · have hf := (if_pos c6).symm.trans hf
          refine a_iconst (pc := 49) 0 dX8_let_49 rfl ?_
          refine a_sub (sub_d (sub_d (sub_d (sub_d sub_n)))) ?_
          exact sX8_let_50 hA hd hk hn hf
        · have hf := (if_neg c6).symm.trans hf
          refine a_iconst (pc := 45) 1 dX8_let_45 rfl ?_
          refine a_goto (pc := 46) 50 dX8_let_46 (by decide) ?_
          refine a_sub (sub_d (sub_d (sub_d (sub_d sub_n)))) ?_
          exact sX8_let_50 hA hd hk hn hf
      · have hf := (if_pos c7).symm.trans hf
        refine a_bipush (pc := 27) (-2) dX8_let_27 rfl ?_
        have hf := Option.some.inj hf
        subst hf
        exact a_ireturn (pc := 29) dX8_let_29 hk hn ⟨rfl, rfl⟩
    · have hf := (if_pos c8).symm.trans hf
      refine a_sub (sub_d (sub_d (sub_d (sub_d sub_n)))) ?_
      exact sX8_let_16 hA hd hk hn hf
set_option maxHeartbeats 4000000 in
theorem mX8_let {l : Launch} {g : gE} {d : Nat} {A D : List va_E} (hA : A.length = 26) (hd : 6 ≤ d) {r : Int32 × MS} {S : MS} {l1 : Int32} {l2 : Int32} {l3 : Int32} (hf : X8_let S l1 l2 l3 = some r) : AM l g d yX8_let cX8_let 4 (some .int) 0 0 [.ref 26, .int l1, .int l2, .int l3] (mh A S D) (Qr (some (.int r.1)) (mh A r.2 D)) := by
  refine AM.of rfl (by exact Nat.le_of_ble_eq_true rfl) (fun v h' q => by obtain ⟨rfl, -⟩ := q; exact ⟨_, rfl, rfl⟩) (fun ls e => ?_)
  have e2 : aBeg [.ref 26, .int l1, .int l2, .int l3] 4 = [some (.ref 26), some (.int l1), some (.int l2), some (.int l3)] := rfl
  rw [e2] at e
  subst e
  refine a_sub (sub_k (sub_k (sub_k (sub_k (sub_n))))) ?_
  exact sX8_let_0 hA hd (Nat.le_refl _) (Nat.le_refl _) (hf)
-- PencilStrikesModel.areGoods(III)Z
def X8_areGoods_29 (S : MS) (s0 : Int32) : Option (Int32 × MS) :=
  some (s0, S)
def X8_areGoods_28 (S : MS) : Option (Int32 × MS) :=
  X8_areGoods_29 S 0
def X8_areGoods_0 (S : MS) (l1 : Int32) (l2 : Int32) (l3 : Int32) : Option (Int32 × MS) :=
  (X8_isKind S l1).bind fun r1 =>
  if r1.1 = 0 then
    X8_areGoods_28 r1.2
  else
    (X8_isBargain r1.2 l2).bind fun r2 =>
    if r2.1 = 0 then
      X8_areGoods_28 r2.2
    else
      (X8_isLaw r2.2 l3).bind fun r3 =>
      if r3.1 = 0 then
        X8_areGoods_28 r3.2
      else
        X8_areGoods_29 r3.2 1
def X8_areGoods (S : MS) (l1 : Int32) (l2 : Int32) (l3 : Int32) : Option (Int32 × MS) := zg (X8_areGoods_0 S l1 l2 l3)
set_option maxHeartbeats 4000000 in
theorem sX8_areGoods_29 {l : Launch} {g : gE} {d MC MS' k n : Nat} {A D : List va_E} (hA : A.length = 26) (hd : 2 ≤ d) (hk : k ≤ MC) (hn : n ≤ MS') {r : Int32 × MS} {S : MS} {s0 : Int32} (hf : X8_areGoods_29 S s0 = some r) : AW l g d RX8 cX8_areGoods 4 "areGoods" MC MS' (Qr (some (.int r.1)) (mh A r.2 D)) k n 29 [none, none, none, none] [.int s0] (mh A S D) := by
  unfold X8_areGoods_29 at hf
  have hf := Option.some.inj hf
  subst hf
  exact a_ireturn (pc := 29) dX8_areGoods_29 hk hn ⟨rfl, rfl⟩
set_option maxHeartbeats 4000000 in
theorem sX8_areGoods_28 {l : Launch} {g : gE} {d MC MS' k n : Nat} {A D : List va_E} (hA : A.length = 26) (hd : 2 ≤ d) (hk : k ≤ MC) (hn : n ≤ MS') {r : Int32 × MS} {S : MS} (hf : X8_areGoods_28 S = some r) : AW l g d RX8 cX8_areGoods 4 "areGoods" MC MS' (Qr (some (.int r.1)) (mh A r.2 D)) k n 28 [none, none, none, none] [] (mh A S D) := by
  unfold X8_areGoods_28 at hf
  refine a_iconst (pc := 28) 0 dX8_areGoods_28 rfl ?_
  exact sX8_areGoods_29 hA hd hk hn hf
set_option maxHeartbeats 4000000 in
theorem sX8_areGoods_0 {l : Launch} {g : gE} {d MC MS' k n : Nat} {A D : List va_E} (hA : A.length = 26) (hd : 2 ≤ d) (hk : k ≤ MC) (hn : n ≤ MS') {r : Int32 × MS} {S : MS} {l1 : Int32} {l2 : Int32} {l3 : Int32} (hf : X8_areGoods_0 S l1 l2 l3 = some r) : AW l g d RX8 cX8_areGoods 4 "areGoods" MC MS' (Qr (some (.int r.1)) (mh A r.2 D)) k n 0 [some (.ref 26), some (.int l1), some (.int l2), some (.int l3)] [] (mh A S D) := by
  unfold X8_areGoods_0 at hf
  refine a_aload_n (pc := 0) dX8_areGoods_0 rfl (isRv_r _) ?_
  refine a_iload_n (pc := 1) dX8_areGoods_1 rfl ?_
  obtain ⟨r1, hr1, hf⟩ := Option.bind_eq_some_iff.mp hf
  refine m_call (pc := 2) (.int (r1.1)) [.int l1] [] hA dX8_areGoods_2 ml_X8_267 mv_X8_isKind rfl rfl (by omega) (mX8_isKind hA (by omega) hr1) rfl (Nat.le_of_ble_eq_true rfl) hk hn ?_
  refine a_if_eq (pc := 5) 28 dX8_areGoods_5 (by decide) (fun c6 => ?_) (fun c6 => ?_)
  · have hf := (if_pos c6).symm.trans hf
    refine a_sub (sub_d (sub_d (sub_d (sub_d sub_n)))) ?_
    exact sX8_areGoods_28 hA hd hk hn hf
  · have hf := (if_neg c6).symm.trans hf
    refine a_aload_n (pc := 8) dX8_areGoods_8 rfl (isRv_r _) ?_
    refine a_iload_n (pc := 9) dX8_areGoods_9 rfl ?_
    obtain ⟨r2, hr2, hf⟩ := Option.bind_eq_some_iff.mp hf
    refine m_call (pc := 10) (.int (r2.1)) [.int l2] [] hA dX8_areGoods_10 ml_X8_203 mv_X8_isBargain rfl rfl (by omega) (mX8_isBargain hA (by omega) hr2) rfl (Nat.le_of_ble_eq_true rfl) hk hn ?_
    refine a_if_eq (pc := 13) 28 dX8_areGoods_13 (by decide) (fun c5 => ?_) (fun c5 => ?_)
    · have hf := (if_pos c5).symm.trans hf
      refine a_sub (sub_d (sub_d (sub_d (sub_d sub_n)))) ?_
      exact sX8_areGoods_28 hA hd hk hn hf
    · have hf := (if_neg c5).symm.trans hf
      refine a_aload_n (pc := 16) dX8_areGoods_16 rfl (isRv_r _) ?_
      refine a_iload_n (pc := 17) dX8_areGoods_17 rfl ?_
      obtain ⟨r3, hr3, hf⟩ := Option.bind_eq_some_iff.mp hf
      refine m_call (pc := 18) (.int (r3.1)) [.int l3] [] hA dX8_areGoods_18 ml_X8_255 mv_X8_isLaw rfl rfl (by omega) (mX8_isLaw hA (by omega) hr3) rfl (Nat.le_of_ble_eq_true rfl) hk hn ?_
      refine a_if_eq (pc := 21) 28 dX8_areGoods_21 (by decide) (fun c4 => ?_) (fun c4 => ?_)
      · have hf := (if_pos c4).symm.trans hf
        refine a_sub (sub_d (sub_d (sub_d (sub_d sub_n)))) ?_
        exact sX8_areGoods_28 hA hd hk hn hf
      · have hf := (if_neg c4).symm.trans hf
        refine a_iconst (pc := 24) 1 dX8_areGoods_24 rfl ?_
        refine a_goto (pc := 25) 29 dX8_areGoods_25 (by decide) ?_
        refine a_sub (sub_d (sub_d (sub_d (sub_d sub_n)))) ?_
        exact sX8_areGoods_29 hA hd hk hn hf
set_option maxHeartbeats 4000000 in
theorem mX8_areGoods {l : Launch} {g : gE} {d : Nat} {A D : List va_E} (hA : A.length = 26) (hd : 2 ≤ d) {r : Int32 × MS} {S : MS} {l1 : Int32} {l2 : Int32} {l3 : Int32} (hf : X8_areGoods S l1 l2 l3 = some r) : AM l g d yX8_areGoods cX8_areGoods 4 (some .boolean) 0 0 [.ref 26, .int l1, .int l2, .int l3] (mh A S D) (Qr (some (.int r.1)) (mh A r.2 D)) := by
  refine AM.of rfl (by exact Nat.le_of_ble_eq_true rfl) (fun v h' q => by obtain ⟨rfl, -⟩ := q; refine ⟨_, rfl, ?_⟩; rcases (zg_of hf).2 with e | e <;> rw [e] <;> rfl) (fun ls e => ?_)
  have e2 : aBeg [.ref 26, .int l1, .int l2, .int l3] 4 = [some (.ref 26), some (.int l1), some (.int l2), some (.int l3)] := rfl
  rw [e2] at e
  subst e
  refine a_sub (sub_k (sub_k (sub_k (sub_k (sub_n))))) ?_
  exact sX8_areGoods_0 hA hd (Nat.le_refl _) (Nat.le_refl _) ((zg_of hf).1)
-- PencilStrikesModel.asksSense(I)Z
def X8_asksSense_5 : Nat → MS → Int32 → Int32 → Option (Int32 × MS)
  | 0, _, _, _ => none
  | fn + 1, S, l1, l2 =>
    (mA S 9 l1).bind fun x1 =>
    if ((8 * l1) + x1) ≤ l2 then
      some (0, S)
    else
      (mA S 10 l2).bind fun x2 =>
      if x2 = 3 then
        some (1, S)
      else
        X8_asksSense_5 fn S l1 (l2 + 1)
def X8_asksSense_0 (S : MS) (l1 : Int32) : Option (Int32 × MS) :=
  X8_asksSense_5 FU S l1 (8 * l1)
def X8_asksSense (S : MS) (l1 : Int32) : Option (Int32 × MS) := zg (X8_asksSense_0 S l1)
set_option maxHeartbeats 4000000 in
theorem sX8_asksSense_5 {l : Launch} {g : gE} {d MC MS' k n : Nat} {A D : List va_E} (hA : A.length = 26) (hd : 0 ≤ d) (hk : k ≤ MC) (hn : n ≤ MS') {r : Int32 × MS} : ∀ (fn : Nat) (S : MS) (l1 : Int32) (l2 : Int32), X8_asksSense_5 fn S l1 l2 = some r → AW l g d RX8 cX8_asksSense 3 "asksSense" MC MS' (Qr (some (.int r.1)) (mh A r.2 D)) k n 5 [some (.ref 26), some (.int l1), some (.int l2)] [] (mh A S D) := by
  intro fn
  induction fn with
  | zero =>
    intro S l1 l2 hf
    rw [X8_asksSense_5] at hf
    cases hf
  | succ fn ih =>
    intro S l1 l2 hf
    rw [X8_asksSense_5] at hf
    refine a_iload_n (pc := 5) dX8_asksSense_5 rfl ?_
    refine a_bipush (pc := 6) 8 dX8_asksSense_6 rfl ?_
    refine a_iload_n (pc := 8) dX8_asksSense_8 rfl ?_
    refine a_imul (pc := 9) dX8_asksSense_9 ?_
    refine a_aload_n (pc := 10) dX8_asksSense_10 rfl (isRv_r _) ?_
    refine m_getA (pc := 11) 31 hA dX8_asksSense_11 fl_X8_38 (Or.inl ki_9) rfl ?_
    refine a_iload_n (pc := 14) dX8_asksSense_14 rfl ?_
    obtain ⟨x1, hx1, hf⟩ := Option.bind_eq_some_iff.mp hf
    refine m_ald (pc := 15) 31 hA dX8_asksSense_15 ki_9 rfl hx1 ?_
    refine a_iadd (pc := 16) dX8_asksSense_16 ?_
    refine a_icmp_ge (pc := 17) 38 dX8_asksSense_17 (by decide) (fun c4 => ?_) (fun c4 => ?_)
    · have hf := (if_pos c4).symm.trans hf
      refine a_iconst (pc := 38) 0 dX8_asksSense_38 rfl ?_
      have hf := Option.some.inj hf
      subst hf
      exact a_ireturn (pc := 39) dX8_asksSense_39 hk hn ⟨rfl, rfl⟩
    · have hf := (if_neg c4).symm.trans hf
      refine a_aload_n (pc := 20) dX8_asksSense_20 rfl (isRv_r _) ?_
      refine m_getA (pc := 21) 32 hA dX8_asksSense_21 fl_X8_41 (Or.inl ki_10) rfl ?_
      refine a_iload_n (pc := 24) dX8_asksSense_24 rfl ?_
      obtain ⟨x2, hx2, hf⟩ := Option.bind_eq_some_iff.mp hf
      refine m_ald (pc := 25) 32 hA dX8_asksSense_25 ki_10 rfl hx2 ?_
      refine a_iconst (pc := 26) 3 dX8_asksSense_26 rfl ?_
      refine a_icmp_ne (pc := 27) 32 dX8_asksSense_27 (by decide) (fun c3 => ?_) (fun c3 => ?_)
      · have hf := (if_neg c3).symm.trans hf
        refine a_iinc (pc := 32) (ls' := [some (.ref 26), some (.int l1), some (.int (l2 + 1))]) (l2 + 1) dX8_asksSense_32 rfl rfl (by decide) rfl ?_
        refine a_goto (pc := 35) 5 dX8_asksSense_35 (by decide) ?_
        exact ih S l1 (l2 + 1) hf
      · have hf := (if_pos c3).symm.trans hf
        refine a_iconst (pc := 30) 1 dX8_asksSense_30 rfl ?_
        have hf := Option.some.inj hf
        subst hf
        exact a_ireturn (pc := 31) dX8_asksSense_31 hk hn ⟨rfl, rfl⟩
set_option maxHeartbeats 4000000 in
theorem sX8_asksSense_0 {l : Launch} {g : gE} {d MC MS' k n : Nat} {A D : List va_E} (hA : A.length = 26) (hd : 0 ≤ d) (hk : k ≤ MC) (hn : n ≤ MS') {r : Int32 × MS} {S : MS} {l1 : Int32} (hf : X8_asksSense_0 S l1 = some r) : AW l g d RX8 cX8_asksSense 3 "asksSense" MC MS' (Qr (some (.int r.1)) (mh A r.2 D)) k n 0 [some (.ref 26), some (.int l1), none] [] (mh A S D) := by
  unfold X8_asksSense_0 at hf
  refine a_bipush (pc := 0) 8 dX8_asksSense_0 rfl ?_
  refine a_iload_n (pc := 2) dX8_asksSense_2 rfl ?_
  refine a_imul (pc := 3) dX8_asksSense_3 ?_
  refine a_istore_n (pc := 4) (ls' := [some (.ref 26), some (.int l1), some (.int (8 * l1))]) dX8_asksSense_4 (by decide) rfl ?_
  exact sX8_asksSense_5 hA hd hk hn FU S l1 (8 * l1) hf
set_option maxHeartbeats 4000000 in
theorem mX8_asksSense {l : Launch} {g : gE} {d : Nat} {A D : List va_E} (hA : A.length = 26) (hd : 0 ≤ d) {r : Int32 × MS} {S : MS} {l1 : Int32} (hf : X8_asksSense S l1 = some r) : AM l g d yX8_asksSense cX8_asksSense 3 (some .boolean) 0 0 [.ref 26, .int l1] (mh A S D) (Qr (some (.int r.1)) (mh A r.2 D)) := by
  refine AM.of rfl (by exact Nat.le_of_ble_eq_true rfl) (fun v h' q => by obtain ⟨rfl, -⟩ := q; refine ⟨_, rfl, ?_⟩; rcases (zg_of hf).2 with e | e <;> rw [e] <;> rfl) (fun ls e => ?_)
  have e2 : aBeg [.ref 26, .int l1] 3 = [some (.ref 26), some (.int l1), none] := rfl
  rw [e2] at e
  subst e
  refine a_sub (sub_k (sub_k (sub_k (sub_n)))) ?_
  exact sX8_asksSense_0 hA hd (Nat.le_refl _) (Nat.le_refl _) ((zg_of hf).1)
-- PencilStrikesModel.findFine(II)V
def X8_findFine_98 (rec41 : MS → Int32 → Int32 → Int32 → Int32 → Option (Unit × MS)) (S : MS) (s1 : Int32) (s2 : Int32) (l1 : Int32) (l2 : Int32) (l3 : Int32) (l4 : Int32) : Option (Unit × MS) :=
  (mAs S 34 s1 (vp_nar .boolean s2)).bind fun S1 =>
  rec41 S1 l1 l2 l3 (l4 + 1)
def X8_findFine_93 (rec41 : MS → Int32 → Int32 → Int32 → Int32 → Option (Unit × MS)) (S : MS) (s1 : Int32) (l1 : Int32) (l2 : Int32) (l3 : Int32) (l4 : Int32) : Option (Unit × MS) :=
  X8_findFine_98 rec41 S s1 1 l1 l2 l3 l4
def X8_findFine_97 (rec41 : MS → Int32 → Int32 → Int32 → Int32 → Option (Unit × MS)) (S : MS) (s1 : Int32) (l1 : Int32) (l2 : Int32) (l3 : Int32) (l4 : Int32) : Option (Unit × MS) :=
  X8_findFine_98 rec41 S s1 0 l1 l2 l3 l4
def X8_findFine_41 : Nat → MS → Int32 → Int32 → Int32 → Int32 → Option (Unit × MS)
  | 0, _, _, _, _, _ => none
  | fn + 1, S, l1, l2, l3, l4 =>
    (mA S 8 l1).bind fun x1 =>
    if ((1 : Int32) <<< (x1 &&& 31)) ≤ l4 then
      some ((), S)
    else
      (X8_readsLeft S l1 l4).bind fun r2 =>
      if r2.1 = 0 then
        X8_findFine_97 (X8_findFine_41 fn) r2.2 l4 l1 l2 l3 l4
      else
        (X8_isLawful r2.2 l2 0).bind fun r3 =>
        if r3.1 = 0 then
          X8_findFine_97 (X8_findFine_41 fn) r3.2 l4 l1 l2 l3 l4
        else
          if l3 = 0 then
            X8_findFine_93 (X8_findFine_41 fn) r3.2 l4 l1 l2 l3 l4
          else
            (X8_makesSense r3.2 l1 l4).bind fun r4 =>
            if r4.1 = 0 then
              X8_findFine_97 (X8_findFine_41 fn) r4.2 l4 l1 l2 l3 l4
            else
              X8_findFine_93 (X8_findFine_41 fn) r4.2 l4 l1 l2 l3 l4
def X8_findFine_22 (S : MS) (l1 : Int32) (l2 : Int32) : Option (Unit × MS) :=
  (X8_asksSense (si (si S 35 l1) 36 l2) l2).bind fun r1 =>
  X8_findFine_41 FU r1.2 l1 l2 r1.1 0
def X8_findFine_0 (S : MS) (l1 : Int32) (l2 : Int32) : Option (Unit × MS) :=
  (X8_readWhole S l1).bind fun r1 =>
  if (r1.2.1 35) = l1 then
    if (r1.2.1 36) = l2 then
      some ((), r1.2)
    else
      X8_findFine_22 r1.2 l1 l2
  else
    X8_findFine_22 r1.2 l1 l2
def X8_findFine (S : MS) (l1 : Int32) (l2 : Int32) : Option (Unit × MS) := X8_findFine_0 S l1 l2
set_option maxHeartbeats 4000000 in
theorem sX8_findFine_98 {l : Launch} {g : gE} {d MC MS' k n : Nat} {A D : List va_E} (hA : A.length = 26) (hd : 5 ≤ d) (hk : k ≤ MC) (hn : n ≤ MS') {r : Unit × MS} {rec41 : MS → Int32 → Int32 → Int32 → Int32 → Option (Unit × MS)} (hlp41 : ∀ (S : MS) (l1 : Int32) (l2 : Int32) (l3 : Int32) (l4 : Int32), rec41 S l1 l2 l3 l4 = some r → AW l g d RX8 cX8_findFine 5 "findFine" MC MS' (Qr (none) (mh A r.2 D)) k n 41 [some (.ref 26), some (.int l1), some (.int l2), some (.int l3), some (.int l4)] [] (mh A S D)) {S : MS} {s1 : Int32} {s2 : Int32} {l1 : Int32} {l2 : Int32} {l3 : Int32} {l4 : Int32} (hf : X8_findFine_98 rec41 S s1 s2 l1 l2 l3 l4 = some r) : AW l g d RX8 cX8_findFine 5 "findFine" MC MS' (Qr (none) (mh A r.2 D)) k n 98 [some (.ref 26), some (.int l1), some (.int l2), some (.int l3), some (.int l4)] [.int s2, .int s1, .ref 48] (mh A S D) := by
  unfold X8_findFine_98 at hf
  obtain ⟨S1, hS1, hf⟩ := Option.bind_eq_some_iff.mp hf
  refine m_zast (pc := 98) 48 hA dX8_findFine_98 kz_34 rfl hS1 ?_
  refine a_iinc (pc := 99) (ls' := [some (.ref 26), some (.int l1), some (.int l2), some (.int l3), some (.int (l4 + 1))]) (l4 + 1) dX8_findFine_99 rfl rfl (by decide) rfl ?_
  refine a_goto (pc := 102) 41 dX8_findFine_102 (by decide) ?_
  exact hlp41 S1 l1 l2 l3 (l4 + 1) hf
set_option maxHeartbeats 4000000 in
theorem sX8_findFine_93 {l : Launch} {g : gE} {d MC MS' k n : Nat} {A D : List va_E} (hA : A.length = 26) (hd : 5 ≤ d) (hk : k ≤ MC) (hn : n ≤ MS') {r : Unit × MS} {rec41 : MS → Int32 → Int32 → Int32 → Int32 → Option (Unit × MS)} (hlp41 : ∀ (S : MS) (l1 : Int32) (l2 : Int32) (l3 : Int32) (l4 : Int32), rec41 S l1 l2 l3 l4 = some r → AW l g d RX8 cX8_findFine 5 "findFine" MC MS' (Qr (none) (mh A r.2 D)) k n 41 [some (.ref 26), some (.int l1), some (.int l2), some (.int l3), some (.int l4)] [] (mh A S D)) {S : MS} {s1 : Int32} {l1 : Int32} {l2 : Int32} {l3 : Int32} {l4 : Int32} (hf : X8_findFine_93 rec41 S s1 l1 l2 l3 l4 = some r) : AW l g d RX8 cX8_findFine 5 "findFine" MC MS' (Qr (none) (mh A r.2 D)) k n 93 [some (.ref 26), some (.int l1), some (.int l2), some (.int l3), some (.int l4)] [.int s1, .ref 48] (mh A S D) := by
  unfold X8_findFine_93 at hf
  refine a_iconst (pc := 93) 1 dX8_findFine_93 rfl ?_
  refine a_goto (pc := 94) 98 dX8_findFine_94 (by decide) ?_
  exact sX8_findFine_98 hA hd hk hn hlp41 hf
set_option maxHeartbeats 4000000 in
theorem sX8_findFine_97 {l : Launch} {g : gE} {d MC MS' k n : Nat} {A D : List va_E} (hA : A.length = 26) (hd : 5 ≤ d) (hk : k ≤ MC) (hn : n ≤ MS') {r : Unit × MS} {rec41 : MS → Int32 → Int32 → Int32 → Int32 → Option (Unit × MS)} (hlp41 : ∀ (S : MS) (l1 : Int32) (l2 : Int32) (l3 : Int32) (l4 : Int32), rec41 S l1 l2 l3 l4 = some r → AW l g d RX8 cX8_findFine 5 "findFine" MC MS' (Qr (none) (mh A r.2 D)) k n 41 [some (.ref 26), some (.int l1), some (.int l2), some (.int l3), some (.int l4)] [] (mh A S D)) {S : MS} {s1 : Int32} {l1 : Int32} {l2 : Int32} {l3 : Int32} {l4 : Int32} (hf : X8_findFine_97 rec41 S s1 l1 l2 l3 l4 = some r) : AW l g d RX8 cX8_findFine 5 "findFine" MC MS' (Qr (none) (mh A r.2 D)) k n 97 [some (.ref 26), some (.int l1), some (.int l2), some (.int l3), some (.int l4)] [.int s1, .ref 48] (mh A S D) := by
  unfold X8_findFine_97 at hf
  refine a_iconst (pc := 97) 0 dX8_findFine_97 rfl ?_
  exact sX8_findFine_98 hA hd hk hn hlp41 hf
set_option maxHeartbeats 4000000 in
theorem sX8_findFine_41 {l : Launch} {g : gE} {d MC MS' k n : Nat} {A D : List va_E} (hA : A.length = 26) (hd : 5 ≤ d) (hk : k ≤ MC) (hn : n ≤ MS') {r : Unit × MS} : ∀ (fn : Nat) (S : MS) (l1 : Int32) (l2 : Int32) (l3 : Int32) (l4 : Int32), X8_findFine_41 fn S l1 l2 l3 l4 = some r → AW l g d RX8 cX8_findFine 5 "findFine" MC MS' (Qr (none) (mh A r.2 D)) k n 41 [some (.ref 26), some (.int l1), some (.int l2), some (.int l3), some (.int l4)] [] (mh A S D) := by
  intro fn
  induction fn with
  | zero =>
    intro S l1 l2 l3 l4 hf
    rw [X8_findFine_41] at hf
    cases hf
  | succ fn ih =>
    intro S l1 l2 l3 l4 hf
    rw [X8_findFine_41] at hf
    refine a_iload (pc := 41) dX8_findFine_41 rfl ?_
    refine a_iconst (pc := 43) 1 dX8_findFine_43 rfl ?_
    refine a_aload_n (pc := 44) dX8_findFine_44 rfl (isRv_r _) ?_
    refine m_getA (pc := 45) 30 hA dX8_findFine_45 fl_X8_35 (Or.inl ki_8) rfl ?_
    refine a_iload_n (pc := 48) dX8_findFine_48 rfl ?_
    obtain ⟨x1, hx1, hf⟩ := Option.bind_eq_some_iff.mp hf
    refine m_ald (pc := 49) 30 hA dX8_findFine_49 ki_8 rfl hx1 ?_
    refine a_ishl (pc := 50) dX8_findFine_50 ?_
    refine a_icmp_ge (pc := 51) 105 dX8_findFine_51 (by decide) (fun c9 => ?_) (fun c9 => ?_)
    · have hf := (if_pos c9).symm.trans hf
      have hf := Option.some.inj hf
      subst hf
      exact a_return (pc := 105) dX8_findFine_105 hk hn ⟨rfl, rfl⟩
    · have hf := (if_neg c9).symm.trans hf
      refine a_aload_n (pc := 54) dX8_findFine_54 rfl (isRv_r _) ?_
      refine m_getA (pc := 55) 48 hA dX8_findFine_55 fl_X8_115 (Or.inr (Or.inl kz_34)) rfl ?_
      refine a_iload (pc := 58) dX8_findFine_58 rfl ?_
      refine a_aload_n (pc := 60) dX8_findFine_60 rfl (isRv_r _) ?_
      refine a_iload_n (pc := 61) dX8_findFine_61 rfl ?_
      refine a_iload (pc := 62) dX8_findFine_62 rfl ?_
      obtain ⟨r2, hr2, hf⟩ := Option.bind_eq_some_iff.mp hf
      refine m_call (pc := 64) (.int (r2.1)) [.int l1, .int l4] [.int l4, .ref 48] hA dX8_findFine_64 ml_X8_230 mv_X8_readsLeft rfl rfl (by omega) (mX8_readsLeft hA (by omega) hr2) rfl (Nat.le_of_ble_eq_true rfl) hk hn ?_
      refine a_if_eq (pc := 67) 97 dX8_findFine_67 (by decide) (fun c8 => ?_) (fun c8 => ?_)
      · have hf := (if_pos c8).symm.trans hf
        exact sX8_findFine_97 hA hd hk hn ih hf
      · have hf := (if_neg c8).symm.trans hf
        refine a_aload_n (pc := 70) dX8_findFine_70 rfl (isRv_r _) ?_
        refine a_iload_n (pc := 71) dX8_findFine_71 rfl ?_
        refine a_iconst (pc := 72) 0 dX8_findFine_72 rfl ?_
        obtain ⟨r3, hr3, hf⟩ := Option.bind_eq_some_iff.mp hf
        refine m_call (pc := 73) (.int (r3.1)) [.int l2, .int 0] [.int l4, .ref 48] hA dX8_findFine_73 ml_X8_258 mv_X8_isLawful rfl rfl (by omega) (mX8_isLawful hA (by omega) hr3) rfl (Nat.le_of_ble_eq_true rfl) hk hn ?_
        refine a_if_eq (pc := 76) 97 dX8_findFine_76 (by decide) (fun c7 => ?_) (fun c7 => ?_)
        · have hf := (if_pos c7).symm.trans hf
          exact sX8_findFine_97 hA hd hk hn ih hf
        · have hf := (if_neg c7).symm.trans hf
          refine a_iload_n (pc := 79) dX8_findFine_79 rfl ?_
          refine a_if_eq (pc := 80) 93 dX8_findFine_80 (by decide) (fun c6 => ?_) (fun c6 => ?_)
          · have hf := (if_pos c6).symm.trans hf
            exact sX8_findFine_93 hA hd hk hn ih hf
          · have hf := (if_neg c6).symm.trans hf
            refine a_aload_n (pc := 83) dX8_findFine_83 rfl (isRv_r _) ?_
            refine a_iload_n (pc := 84) dX8_findFine_84 rfl ?_
            refine a_iload (pc := 85) dX8_findFine_85 rfl ?_
            obtain ⟨r4, hr4, hf⟩ := Option.bind_eq_some_iff.mp hf
            refine m_call (pc := 87) (.int (r4.1)) [.int l1, .int l4] [.int l4, .ref 48] hA dX8_findFine_87 ml_X8_264 mv_X8_makesSense rfl rfl (by omega) (mX8_makesSense hA (by omega) hr4) rfl (Nat.le_of_ble_eq_true rfl) hk hn ?_
            refine a_if_eq (pc := 90) 97 dX8_findFine_90 (by decide) (fun c5 => ?_) (fun c5 => ?_)
            · have hf := (if_pos c5).symm.trans hf
              exact sX8_findFine_97 hA hd hk hn ih hf
            · have hf := (if_neg c5).symm.trans hf
              exact sX8_findFine_93 hA hd hk hn ih hf
set_option maxHeartbeats 4000000 in
theorem sX8_findFine_22 {l : Launch} {g : gE} {d MC MS' k n : Nat} {A D : List va_E} (hA : A.length = 26) (hd : 5 ≤ d) (hk : k ≤ MC) (hn : n ≤ MS') {r : Unit × MS} {S : MS} {l1 : Int32} {l2 : Int32} (hf : X8_findFine_22 S l1 l2 = some r) : AW l g d RX8 cX8_findFine 5 "findFine" MC MS' (Qr (none) (mh A r.2 D)) k n 22 [some (.ref 26), some (.int l1), some (.int l2), none, none] [] (mh A S D) := by
  unfold X8_findFine_22 at hf
  refine a_aload_n (pc := 22) dX8_findFine_22 rfl (isRv_r _) ?_
  refine a_iload_n (pc := 23) dX8_findFine_23 rfl ?_
  refine m_putS (pc := 24) hA dX8_findFine_24 fl_X8_118 ks_35 ?_
  refine a_aload_n (pc := 27) dX8_findFine_27 rfl (isRv_r _) ?_
  refine a_iload_n (pc := 28) dX8_findFine_28 rfl ?_
  refine m_putS (pc := 29) hA dX8_findFine_29 fl_X8_121 ks_36 ?_
  refine a_aload_n (pc := 32) dX8_findFine_32 rfl (isRv_r _) ?_
  refine a_iload_n (pc := 33) dX8_findFine_33 rfl ?_
  obtain ⟨r1, hr1, hf⟩ := Option.bind_eq_some_iff.mp hf
  refine m_call (pc := 34) (.int (r1.1)) [.int l2] [] hA dX8_findFine_34 ml_X8_276 mv_X8_asksSense rfl rfl (by omega) (mX8_asksSense hA (by omega) hr1) rfl (Nat.le_of_ble_eq_true rfl) hk hn ?_
  refine a_istore_n (pc := 37) (ls' := [some (.ref 26), some (.int l1), some (.int l2), some (.int (r1.1)), none]) dX8_findFine_37 (by decide) rfl ?_
  refine a_iconst (pc := 38) 0 dX8_findFine_38 rfl ?_
  refine a_istore (pc := 39) (ls' := [some (.ref 26), some (.int l1), some (.int l2), some (.int (r1.1)), some (.int 0)]) dX8_findFine_39 (by decide) rfl ?_
  exact sX8_findFine_41 hA hd hk hn FU r1.2 l1 l2 r1.1 0 hf
set_option maxHeartbeats 4000000 in
theorem sX8_findFine_0 {l : Launch} {g : gE} {d MC MS' k n : Nat} {A D : List va_E} (hA : A.length = 26) (hd : 5 ≤ d) (hk : k ≤ MC) (hn : n ≤ MS') {r : Unit × MS} {S : MS} {l1 : Int32} {l2 : Int32} (hf : X8_findFine_0 S l1 l2 = some r) : AW l g d RX8 cX8_findFine 5 "findFine" MC MS' (Qr (none) (mh A r.2 D)) k n 0 [some (.ref 26), some (.int l1), some (.int l2), none, none] [] (mh A S D) := by
  unfold X8_findFine_0 at hf
  refine a_aload_n (pc := 0) dX8_findFine_0 rfl (isRv_r _) ?_
  refine a_iload_n (pc := 1) dX8_findFine_1 rfl ?_
  obtain ⟨r1, hr1, hf⟩ := Option.bind_eq_some_iff.mp hf
  refine m_callv (pc := 2) [.int l1] [] hA dX8_findFine_2 ml_X8_270 mv_X8_readWhole rfl rfl (by omega) (mX8_readWhole hA (by omega) hr1) rfl (Nat.le_of_ble_eq_true rfl) hk hn ?_
  refine a_aload_n (pc := 5) dX8_findFine_5 rfl (isRv_r _) ?_
  refine m_getS (pc := 6) hA dX8_findFine_6 fl_X8_118 ks_35 ?_
  refine a_iload_n (pc := 9) dX8_findFine_9 rfl ?_
  refine a_icmp_ne (pc := 10) 22 dX8_findFine_10 (by decide) (fun c3 => ?_) (fun c3 => ?_)
  · have hf := (if_neg c3).symm.trans hf
    exact sX8_findFine_22 hA hd hk hn hf
  · have hf := (if_pos c3).symm.trans hf
    refine a_aload_n (pc := 13) dX8_findFine_13 rfl (isRv_r _) ?_
    refine m_getS (pc := 14) hA dX8_findFine_14 fl_X8_121 ks_36 ?_
    refine a_iload_n (pc := 17) dX8_findFine_17 rfl ?_
    refine a_icmp_ne (pc := 18) 22 dX8_findFine_18 (by decide) (fun c2 => ?_) (fun c2 => ?_)
    · have hf := (if_neg c2).symm.trans hf
      exact sX8_findFine_22 hA hd hk hn hf
    · have hf := (if_pos c2).symm.trans hf
      have hf := Option.some.inj hf
      subst hf
      exact a_return (pc := 21) dX8_findFine_21 hk hn ⟨rfl, rfl⟩
set_option maxHeartbeats 4000000 in
theorem mX8_findFine {l : Launch} {g : gE} {d : Nat} {A D : List va_E} (hA : A.length = 26) (hd : 5 ≤ d) {r : Unit × MS} {S : MS} {l1 : Int32} {l2 : Int32} (hf : X8_findFine S l1 l2 = some r) : AM l g d yX8_findFine cX8_findFine 5 none 0 0 [.ref 26, .int l1, .int l2] (mh A S D) (Qr (none) (mh A r.2 D)) := by
  refine AM.of rfl (by exact Nat.le_of_ble_eq_true rfl) (fun v h' q => by obtain ⟨rfl, -⟩ := q; rfl) (fun ls e => ?_)
  have e2 : aBeg [.ref 26, .int l1, .int l2] 5 = [some (.ref 26), some (.int l1), some (.int l2), none, none] := rfl
  rw [e2] at e
  subst e
  refine a_sub (sub_k (sub_k (sub_k (sub_k (sub_k (sub_n)))))) ?_
  exact sX8_findFine_0 hA hd (Nat.le_refl _) (Nat.le_refl _) (hf)
-- PencilStrikesModel.isGood(III)Z
def X8_isGood_24 (S : MS) (s0 : Int32) : Option (Int32 × MS) :=
  some (s0, S)
def X8_isGood_23 (S : MS) : Option (Int32 × MS) :=
  X8_isGood_24 S 0
def X8_isGood_0 (S : MS) (l1 : Int32) (l2 : Int32) (l3 : Int32) : Option (Int32 × MS) :=
  (mA S 34 l3).bind fun x1 =>
  if x1 = 0 then
    X8_isGood_23 S
  else
    (X8_lets S l1 l2 l3).bind fun r2 =>
    if r2.1 = 0 then
      X8_isGood_23 r2.2
    else
      X8_isGood_24 r2.2 1
def X8_isGood (S : MS) (l1 : Int32) (l2 : Int32) (l3 : Int32) : Option (Int32 × MS) := zg (X8_isGood_0 S l1 l2 l3)
set_option maxHeartbeats 4000000 in
theorem sX8_isGood_24 {l : Launch} {g : gE} {d MC MS' k n : Nat} {A D : List va_E} (hA : A.length = 26) (hd : 6 ≤ d) (hk : k ≤ MC) (hn : n ≤ MS') {r : Int32 × MS} {S : MS} {s0 : Int32} (hf : X8_isGood_24 S s0 = some r) : AW l g d RX8 cX8_isGood 4 "isGood" MC MS' (Qr (some (.int r.1)) (mh A r.2 D)) k n 24 [none, none, none, none] [.int s0] (mh A S D) := by
  unfold X8_isGood_24 at hf
  have hf := Option.some.inj hf
  subst hf
  exact a_ireturn (pc := 24) dX8_isGood_24 hk hn ⟨rfl, rfl⟩
set_option maxHeartbeats 4000000 in
theorem sX8_isGood_23 {l : Launch} {g : gE} {d MC MS' k n : Nat} {A D : List va_E} (hA : A.length = 26) (hd : 6 ≤ d) (hk : k ≤ MC) (hn : n ≤ MS') {r : Int32 × MS} {S : MS} (hf : X8_isGood_23 S = some r) : AW l g d RX8 cX8_isGood 4 "isGood" MC MS' (Qr (some (.int r.1)) (mh A r.2 D)) k n 23 [none, none, none, none] [] (mh A S D) := by
  unfold X8_isGood_23 at hf
  refine a_iconst (pc := 23) 0 dX8_isGood_23 rfl ?_
  exact sX8_isGood_24 hA hd hk hn hf
set_option maxHeartbeats 4000000 in
theorem sX8_isGood_0 {l : Launch} {g : gE} {d MC MS' k n : Nat} {A D : List va_E} (hA : A.length = 26) (hd : 6 ≤ d) (hk : k ≤ MC) (hn : n ≤ MS') {r : Int32 × MS} {S : MS} {l1 : Int32} {l2 : Int32} {l3 : Int32} (hf : X8_isGood_0 S l1 l2 l3 = some r) : AW l g d RX8 cX8_isGood 4 "isGood" MC MS' (Qr (some (.int r.1)) (mh A r.2 D)) k n 0 [some (.ref 26), some (.int l1), some (.int l2), some (.int l3)] [] (mh A S D) := by
  unfold X8_isGood_0 at hf
  refine a_aload_n (pc := 0) dX8_isGood_0 rfl (isRv_r _) ?_
  refine m_getA (pc := 1) 48 hA dX8_isGood_1 fl_X8_115 (Or.inr (Or.inl kz_34)) rfl ?_
  refine a_iload_n (pc := 4) dX8_isGood_4 rfl ?_
  obtain ⟨x1, hx1, hf⟩ := Option.bind_eq_some_iff.mp hf
  refine m_zald (pc := 5) 48 hA dX8_isGood_5 kz_34 rfl hx1 ?_
  refine a_if_eq (pc := 6) 23 dX8_isGood_6 (by decide) (fun c4 => ?_) (fun c4 => ?_)
  · have hf := (if_pos c4).symm.trans hf
    refine a_sub (sub_d (sub_d (sub_d (sub_d sub_n)))) ?_
    exact sX8_isGood_23 hA hd hk hn hf
  · have hf := (if_neg c4).symm.trans hf
    refine a_aload_n (pc := 9) dX8_isGood_9 rfl (isRv_r _) ?_
    refine a_iload_n (pc := 10) dX8_isGood_10 rfl ?_
    refine a_iload_n (pc := 11) dX8_isGood_11 rfl ?_
    refine a_iload_n (pc := 12) dX8_isGood_12 rfl ?_
    obtain ⟨r2, hr2, hf⟩ := Option.bind_eq_some_iff.mp hf
    refine m_call (pc := 13) (.int (r2.1)) [.int l1, .int l2, .int l3] [] hA dX8_isGood_13 ml_X8_273 mv_X8_lets rfl rfl (by omega) (mX8_lets hA (by omega) hr2) rfl (Nat.le_of_ble_eq_true rfl) hk hn ?_
    refine a_if_eq (pc := 16) 23 dX8_isGood_16 (by decide) (fun c3 => ?_) (fun c3 => ?_)
    · have hf := (if_pos c3).symm.trans hf
      refine a_sub (sub_d (sub_d (sub_d (sub_d sub_n)))) ?_
      exact sX8_isGood_23 hA hd hk hn hf
    · have hf := (if_neg c3).symm.trans hf
      refine a_iconst (pc := 19) 1 dX8_isGood_19 rfl ?_
      refine a_goto (pc := 20) 24 dX8_isGood_20 (by decide) ?_
      refine a_sub (sub_d (sub_d (sub_d (sub_d sub_n)))) ?_
      exact sX8_isGood_24 hA hd hk hn hf
set_option maxHeartbeats 4000000 in
theorem mX8_isGood {l : Launch} {g : gE} {d : Nat} {A D : List va_E} (hA : A.length = 26) (hd : 6 ≤ d) {r : Int32 × MS} {S : MS} {l1 : Int32} {l2 : Int32} {l3 : Int32} (hf : X8_isGood S l1 l2 l3 = some r) : AM l g d yX8_isGood cX8_isGood 4 (some .boolean) 0 0 [.ref 26, .int l1, .int l2, .int l3] (mh A S D) (Qr (some (.int r.1)) (mh A r.2 D)) := by
  refine AM.of rfl (by exact Nat.le_of_ble_eq_true rfl) (fun v h' q => by obtain ⟨rfl, -⟩ := q; refine ⟨_, rfl, ?_⟩; rcases (zg_of hf).2 with e | e <;> rw [e] <;> rfl) (fun ls e => ?_)
  have e2 : aBeg [.ref 26, .int l1, .int l2, .int l3] 4 = [some (.ref 26), some (.int l1), some (.int l2), some (.int l3)] := rfl
  rw [e2] at e
  subst e
  refine a_sub (sub_k (sub_k (sub_k (sub_k (sub_n))))) ?_
  exact sX8_isGood_0 hA hd (Nat.le_refl _) (Nat.le_refl _) ((zg_of hf).1)
-- PencilStrikesModel.good(IIII)I
def X8_good_16 (S : MS) : Option (Int32 × MS) :=
  some ((-1), S)
def X8_good_70 (rec30 : MS → Int32 → Int32 → Int32 → Int32 → Int32 → Option (Int32 × MS)) (S : MS) (l1 : Int32) (l2 : Int32) (l4 : Int32) (l5 : Int32) (l6 : Int32) : Option (Int32 × MS) :=
  rec30 S l1 l2 l4 l5 (l6 + 1)
def X8_good_87 (S : MS) (s0 : Int32) : Option (Int32 × MS) :=
  some (s0, S)
def X8_good_30 : Nat → MS → Int32 → Int32 → Int32 → Int32 → Int32 → Option (Int32 × MS)
  | 0, _, _, _, _, _, _ => none
  | fn + 1, S, l1, l2, l4, l5, l6 =>
    (mA S 8 l2).bind fun x1 =>
    if ((1 : Int32) <<< (x1 &&& 31)) ≤ l6 then
      if 0 ≤ l4 then
        X8_good_87 S (-1)
      else
        X8_good_87 S l5
    else
      (X8_isGood S l1 l2 l6).bind fun r3 =>
      if r3.1 = 0 then
        X8_good_70 (X8_good_30 fn) r3.2 l1 l2 l4 l5 l6
      else
        if l5 = l4 then
          some (l6, r3.2)
        else
          X8_good_70 (X8_good_30 fn) r3.2 l1 l2 l4 (l5 + 1) l6
def X8_good_0 (S : MS) (l1 : Int32) (l2 : Int32) (l3 : Int32) (l4 : Int32) : Option (Int32 × MS) :=
  (X8_areGoods S l1 l2 l3).bind fun r1 =>
  if r1.1 = 0 then
    X8_good_16 r1.2
  else
    if (-1) ≤ l4 then
      (X8_findFine r1.2 l2 l3).bind fun r2 =>
      X8_good_30 FU r2.2 l1 l2 l4 0 0
    else
      X8_good_16 r1.2
def X8_good (S : MS) (l1 : Int32) (l2 : Int32) (l3 : Int32) (l4 : Int32) : Option (Int32 × MS) := X8_good_0 S l1 l2 l3 l4
set_option maxHeartbeats 4000000 in
theorem sX8_good_16 {l : Launch} {g : gE} {d MC MS' k n : Nat} {A D : List va_E} (hA : A.length = 26) (hd : 7 ≤ d) (hk : k ≤ MC) (hn : n ≤ MS') {r : Int32 × MS} {S : MS} (hf : X8_good_16 S = some r) : AW l g d RX8 cX8_good 7 "good" MC MS' (Qr (some (.int r.1)) (mh A r.2 D)) k n 16 [none, none, none, none, none, none, none] [] (mh A S D) := by
  unfold X8_good_16 at hf
  refine a_iconst (pc := 16) (-1) dX8_good_16 rfl ?_
  have hf := Option.some.inj hf
  subst hf
  exact a_ireturn (pc := 17) dX8_good_17 hk hn ⟨rfl, rfl⟩
set_option maxHeartbeats 4000000 in
theorem sX8_good_70 {l : Launch} {g : gE} {d MC MS' k n : Nat} {A D : List va_E} (hA : A.length = 26) (hd : 7 ≤ d) (hk : k ≤ MC) (hn : n ≤ MS') {r : Int32 × MS} {rec30 : MS → Int32 → Int32 → Int32 → Int32 → Int32 → Option (Int32 × MS)} (hlp30 : ∀ (S : MS) (l1 : Int32) (l2 : Int32) (l4 : Int32) (l5 : Int32) (l6 : Int32), rec30 S l1 l2 l4 l5 l6 = some r → AW l g d RX8 cX8_good 7 "good" MC MS' (Qr (some (.int r.1)) (mh A r.2 D)) k n 30 [some (.ref 26), some (.int l1), some (.int l2), none, some (.int l4), some (.int l5), some (.int l6)] [] (mh A S D)) {S : MS} {l1 : Int32} {l2 : Int32} {l4 : Int32} {l5 : Int32} {l6 : Int32} (hf : X8_good_70 rec30 S l1 l2 l4 l5 l6 = some r) : AW l g d RX8 cX8_good 7 "good" MC MS' (Qr (some (.int r.1)) (mh A r.2 D)) k n 70 [some (.ref 26), some (.int l1), some (.int l2), none, some (.int l4), some (.int l5), some (.int l6)] [] (mh A S D) := by
  unfold X8_good_70 at hf
  refine a_iinc (pc := 70) (ls' := [some (.ref 26), some (.int l1), some (.int l2), none, some (.int l4), some (.int l5), some (.int (l6 + 1))]) (l6 + 1) dX8_good_70 rfl rfl (by decide) rfl ?_
  refine a_goto (pc := 73) 30 dX8_good_73 (by decide) ?_
  exact hlp30 S l1 l2 l4 l5 (l6 + 1) hf
set_option maxHeartbeats 4000000 in
theorem sX8_good_87 {l : Launch} {g : gE} {d MC MS' k n : Nat} {A D : List va_E} (hA : A.length = 26) (hd : 7 ≤ d) (hk : k ≤ MC) (hn : n ≤ MS') {r : Int32 × MS} {S : MS} {s0 : Int32} (hf : X8_good_87 S s0 = some r) : AW l g d RX8 cX8_good 7 "good" MC MS' (Qr (some (.int r.1)) (mh A r.2 D)) k n 87 [none, none, none, none, none, none, none] [.int s0] (mh A S D) := by
  unfold X8_good_87 at hf
  have hf := Option.some.inj hf
  subst hf
  exact a_ireturn (pc := 87) dX8_good_87 hk hn ⟨rfl, rfl⟩
set_option maxHeartbeats 4000000 in
theorem sX8_good_30 {l : Launch} {g : gE} {d MC MS' k n : Nat} {A D : List va_E} (hA : A.length = 26) (hd : 7 ≤ d) (hk : k ≤ MC) (hn : n ≤ MS') {r : Int32 × MS} : ∀ (fn : Nat) (S : MS) (l1 : Int32) (l2 : Int32) (l4 : Int32) (l5 : Int32) (l6 : Int32), X8_good_30 fn S l1 l2 l4 l5 l6 = some r → AW l g d RX8 cX8_good 7 "good" MC MS' (Qr (some (.int r.1)) (mh A r.2 D)) k n 30 [some (.ref 26), some (.int l1), some (.int l2), none, some (.int l4), some (.int l5), some (.int l6)] [] (mh A S D) := by
  intro fn
  induction fn with
  | zero =>
    intro S l1 l2 l4 l5 l6 hf
    rw [X8_good_30] at hf
    cases hf
  | succ fn ih =>
    intro S l1 l2 l4 l5 l6 hf
    rw [X8_good_30] at hf
    refine a_iload (pc := 30) dX8_good_30 rfl ?_
    refine a_iconst (pc := 32) 1 dX8_good_32 rfl ?_
    refine a_aload_n (pc := 33) dX8_good_33 rfl (isRv_r _) ?_
    refine m_getA (pc := 34) 30 hA dX8_good_34 fl_X8_35 (Or.inl ki_8) rfl ?_
    refine a_iload_n (pc := 37) dX8_good_37 rfl ?_
    obtain ⟨x1, hx1, hf⟩ := Option.bind_eq_some_iff.mp hf
    refine m_ald (pc := 38) 30 hA dX8_good_38 ki_8 rfl hx1 ?_
    refine a_ishl (pc := 39) dX8_good_39 ?_
    refine a_icmp_ge (pc := 40) 76 dX8_good_40 (by decide) (fun c6 => ?_) (fun c6 => ?_)
    · have hf := (if_pos c6).symm.trans hf
      refine a_iload (pc := 76) dX8_good_76 rfl ?_
      refine a_if_ge (pc := 78) 86 dX8_good_78 (by decide) (fun c2 => ?_) (fun c2 => ?_)
      · have hf := (if_pos c2).symm.trans hf
        refine a_iconst (pc := 86) (-1) dX8_good_86 rfl ?_
        refine a_sub (sub_d (sub_d (sub_d (sub_k (sub_d (sub_d (sub_d sub_n))))))) ?_
        exact sX8_good_87 hA hd hk hn hf
      · have hf := (if_neg c2).symm.trans hf
        refine a_iload (pc := 81) dX8_good_81 rfl ?_
        refine a_goto (pc := 83) 87 dX8_good_83 (by decide) ?_
        refine a_sub (sub_d (sub_d (sub_d (sub_k (sub_d (sub_d (sub_d sub_n))))))) ?_
        exact sX8_good_87 hA hd hk hn hf
    · have hf := (if_neg c6).symm.trans hf
      refine a_aload_n (pc := 43) dX8_good_43 rfl (isRv_r _) ?_
      refine a_iload_n (pc := 44) dX8_good_44 rfl ?_
      refine a_iload_n (pc := 45) dX8_good_45 rfl ?_
      refine a_iload (pc := 46) dX8_good_46 rfl ?_
      obtain ⟨r3, hr3, hf⟩ := Option.bind_eq_some_iff.mp hf
      refine m_call (pc := 48) (.int (r3.1)) [.int l1, .int l2, .int l6] [] hA dX8_good_48 ml_X8_286 mv_X8_isGood rfl rfl (by omega) (mX8_isGood hA (by omega) hr3) rfl (Nat.le_of_ble_eq_true rfl) hk hn ?_
      refine a_if_ne (pc := 51) 57 dX8_good_51 (by decide) (fun c5 => ?_) (fun c5 => ?_)
      · have hf := (if_neg c5).symm.trans hf
        refine a_iload (pc := 57) dX8_good_57 rfl ?_
        refine a_iload (pc := 59) dX8_good_59 rfl ?_
        refine a_icmp_ne (pc := 61) 67 dX8_good_61 (by decide) (fun c4 => ?_) (fun c4 => ?_)
        · have hf := (if_neg c4).symm.trans hf
          refine a_iinc (pc := 67) (ls' := [some (.ref 26), some (.int l1), some (.int l2), none, some (.int l4), some (.int (l5 + 1)), some (.int l6)]) (l5 + 1) dX8_good_67 rfl rfl (by decide) rfl ?_
          exact sX8_good_70 hA hd hk hn ih hf
        · have hf := (if_pos c4).symm.trans hf
          refine a_iload (pc := 64) dX8_good_64 rfl ?_
          have hf := Option.some.inj hf
          subst hf
          exact a_ireturn (pc := 66) dX8_good_66 hk hn ⟨rfl, rfl⟩
      · have hf := (if_pos c5).symm.trans hf
        refine a_goto (pc := 54) 70 dX8_good_54 (by decide) ?_
        exact sX8_good_70 hA hd hk hn ih hf
set_option maxHeartbeats 4000000 in
theorem sX8_good_0 {l : Launch} {g : gE} {d MC MS' k n : Nat} {A D : List va_E} (hA : A.length = 26) (hd : 7 ≤ d) (hk : k ≤ MC) (hn : n ≤ MS') {r : Int32 × MS} {S : MS} {l1 : Int32} {l2 : Int32} {l3 : Int32} {l4 : Int32} (hf : X8_good_0 S l1 l2 l3 l4 = some r) : AW l g d RX8 cX8_good 7 "good" MC MS' (Qr (some (.int r.1)) (mh A r.2 D)) k n 0 [some (.ref 26), some (.int l1), some (.int l2), some (.int l3), some (.int l4), none, none] [] (mh A S D) := by
  unfold X8_good_0 at hf
  refine a_aload_n (pc := 0) dX8_good_0 rfl (isRv_r _) ?_
  refine a_iload_n (pc := 1) dX8_good_1 rfl ?_
  refine a_iload_n (pc := 2) dX8_good_2 rfl ?_
  refine a_iload_n (pc := 3) dX8_good_3 rfl ?_
  obtain ⟨r1, hr1, hf⟩ := Option.bind_eq_some_iff.mp hf
  refine m_call (pc := 4) (.int (r1.1)) [.int l1, .int l2, .int l3] [] hA dX8_good_4 ml_X8_279 mv_X8_areGoods rfl rfl (by omega) (mX8_areGoods hA (by omega) hr1) rfl (Nat.le_of_ble_eq_true rfl) hk hn ?_
  refine a_if_eq (pc := 7) 16 dX8_good_7 (by decide) (fun c4 => ?_) (fun c4 => ?_)
  · have hf := (if_pos c4).symm.trans hf
    refine a_sub (sub_d (sub_d (sub_d (sub_d (sub_d (sub_k (sub_k sub_n))))))) ?_
    exact sX8_good_16 hA hd hk hn hf
  · have hf := (if_neg c4).symm.trans hf
    refine a_iload (pc := 10) dX8_good_10 rfl ?_
    refine a_iconst (pc := 12) (-1) dX8_good_12 rfl ?_
    refine a_icmp_ge (pc := 13) 18 dX8_good_13 (by decide) (fun c3 => ?_) (fun c3 => ?_)
    · have hf := (if_pos c3).symm.trans hf
      refine a_aload_n (pc := 18) dX8_good_18 rfl (isRv_r _) ?_
      refine a_iload_n (pc := 19) dX8_good_19 rfl ?_
      refine a_iload_n (pc := 20) dX8_good_20 rfl ?_
      obtain ⟨r2, hr2, hf⟩ := Option.bind_eq_some_iff.mp hf
      refine m_callv (pc := 21) [.int l2, .int l3] [] hA dX8_good_21 ml_X8_282 mv_X8_findFine rfl rfl (by omega) (mX8_findFine hA (by omega) hr2) rfl (Nat.le_of_ble_eq_true rfl) hk hn ?_
      refine a_iconst (pc := 24) 0 dX8_good_24 rfl ?_
      refine a_istore (pc := 25) (ls' := [some (.ref 26), some (.int l1), some (.int l2), some (.int l3), some (.int l4), some (.int 0), none]) dX8_good_25 (by decide) rfl ?_
      refine a_iconst (pc := 27) 0 dX8_good_27 rfl ?_
      refine a_istore (pc := 28) (ls' := [some (.ref 26), some (.int l1), some (.int l2), some (.int l3), some (.int l4), some (.int 0), some (.int 0)]) dX8_good_28 (by decide) rfl ?_
      refine a_sub (sub_k (sub_k (sub_k (sub_d (sub_k (sub_k (sub_k sub_n))))))) ?_
      exact sX8_good_30 hA hd hk hn FU r2.2 l1 l2 l4 0 0 hf
    · have hf := (if_neg c3).symm.trans hf
      refine a_sub (sub_d (sub_d (sub_d (sub_d (sub_d (sub_k (sub_k sub_n))))))) ?_
      exact sX8_good_16 hA hd hk hn hf
set_option maxHeartbeats 4000000 in
theorem mX8_good {l : Launch} {g : gE} {d : Nat} {A D : List va_E} (hA : A.length = 26) (hd : 7 ≤ d) {r : Int32 × MS} {S : MS} {l1 : Int32} {l2 : Int32} {l3 : Int32} {l4 : Int32} (hf : X8_good S l1 l2 l3 l4 = some r) : AM l g d yX8_good cX8_good 7 (some .int) 0 0 [.ref 26, .int l1, .int l2, .int l3, .int l4] (mh A S D) (Qr (some (.int r.1)) (mh A r.2 D)) := by
  refine AM.of rfl (by exact Nat.le_of_ble_eq_true rfl) (fun v h' q => by obtain ⟨rfl, -⟩ := q; exact ⟨_, rfl, rfl⟩) (fun ls e => ?_)
  have e2 : aBeg [.ref 26, .int l1, .int l2, .int l3, .int l4] 7 = [some (.ref 26), some (.int l1), some (.int l2), some (.int l3), some (.int l4), none, none] := rfl
  rw [e2] at e
  subst e
  refine a_sub (sub_k (sub_k (sub_k (sub_k (sub_k (sub_k (sub_k (sub_n)))))))) ?_
  exact sX8_good_0 hA hd (Nat.le_refl _) (Nat.le_refl _) (hf)
-- PencilStrikesModel.nextGood(III)I
def X8_nextGood_5 : Nat → MS → Int32 → Int32 → Int32 → Option (Int32 × MS)
  | 0, _, _, _, _ => none
  | fn + 1, S, l1, l2, l4 =>
    (mA S 8 l2).bind fun x1 =>
    if ((1 : Int32) <<< (x1 &&& 31)) ≤ l4 then
      some ((-5), S)
    else
      (X8_isGood S l1 l2 l4).bind fun r2 =>
      if r2.1 = 0 then
        X8_nextGood_5 fn r2.2 l1 l2 (l4 + 1)
      else
        some (l4, r2.2)
def X8_nextGood_0 (S : MS) (l1 : Int32) (l2 : Int32) (l3 : Int32) : Option (Int32 × MS) :=
  X8_nextGood_5 FU S l1 l2 (l3 + 1)
def X8_nextGood (S : MS) (l1 : Int32) (l2 : Int32) (l3 : Int32) : Option (Int32 × MS) := X8_nextGood_0 S l1 l2 l3
set_option maxHeartbeats 4000000 in
theorem sX8_nextGood_5 {l : Launch} {g : gE} {d MC MS' k n : Nat} {A D : List va_E} (hA : A.length = 26) (hd : 7 ≤ d) (hk : k ≤ MC) (hn : n ≤ MS') {r : Int32 × MS} : ∀ (fn : Nat) (S : MS) (l1 : Int32) (l2 : Int32) (l4 : Int32), X8_nextGood_5 fn S l1 l2 l4 = some r → AW l g d RX8 cX8_nextGood 5 "nextGood" MC MS' (Qr (some (.int r.1)) (mh A r.2 D)) k n 5 [some (.ref 26), some (.int l1), some (.int l2), none, some (.int l4)] [] (mh A S D) := by
  intro fn
  induction fn with
  | zero =>
    intro S l1 l2 l4 hf
    rw [X8_nextGood_5] at hf
    cases hf
  | succ fn ih =>
    intro S l1 l2 l4 hf
    rw [X8_nextGood_5] at hf
    refine a_iload (pc := 5) dX8_nextGood_5 rfl ?_
    refine a_iconst (pc := 7) 1 dX8_nextGood_7 rfl ?_
    refine a_aload_n (pc := 8) dX8_nextGood_8 rfl (isRv_r _) ?_
    refine m_getA (pc := 9) 30 hA dX8_nextGood_9 fl_X8_35 (Or.inl ki_8) rfl ?_
    refine a_iload_n (pc := 12) dX8_nextGood_12 rfl ?_
    obtain ⟨x1, hx1, hf⟩ := Option.bind_eq_some_iff.mp hf
    refine m_ald (pc := 13) 30 hA dX8_nextGood_13 ki_8 rfl hx1 ?_
    refine a_ishl (pc := 14) dX8_nextGood_14 ?_
    refine a_icmp_ge (pc := 15) 38 dX8_nextGood_15 (by decide) (fun c4 => ?_) (fun c4 => ?_)
    · have hf := (if_pos c4).symm.trans hf
      refine a_bipush (pc := 38) (-5) dX8_nextGood_38 rfl ?_
      have hf := Option.some.inj hf
      subst hf
      exact a_ireturn (pc := 40) dX8_nextGood_40 hk hn ⟨rfl, rfl⟩
    · have hf := (if_neg c4).symm.trans hf
      refine a_aload_n (pc := 18) dX8_nextGood_18 rfl (isRv_r _) ?_
      refine a_iload_n (pc := 19) dX8_nextGood_19 rfl ?_
      refine a_iload_n (pc := 20) dX8_nextGood_20 rfl ?_
      refine a_iload (pc := 21) dX8_nextGood_21 rfl ?_
      obtain ⟨r2, hr2, hf⟩ := Option.bind_eq_some_iff.mp hf
      refine m_call (pc := 23) (.int (r2.1)) [.int l1, .int l2, .int l4] [] hA dX8_nextGood_23 ml_X8_286 mv_X8_isGood rfl rfl (by omega) (mX8_isGood hA (by omega) hr2) rfl (Nat.le_of_ble_eq_true rfl) hk hn ?_
      refine a_if_eq (pc := 26) 32 dX8_nextGood_26 (by decide) (fun c3 => ?_) (fun c3 => ?_)
      · have hf := (if_pos c3).symm.trans hf
        refine a_iinc (pc := 32) (ls' := [some (.ref 26), some (.int l1), some (.int l2), none, some (.int (l4 + 1))]) (l4 + 1) dX8_nextGood_32 rfl rfl (by decide) rfl ?_
        refine a_goto (pc := 35) 5 dX8_nextGood_35 (by decide) ?_
        exact ih r2.2 l1 l2 (l4 + 1) hf
      · have hf := (if_neg c3).symm.trans hf
        refine a_iload (pc := 29) dX8_nextGood_29 rfl ?_
        have hf := Option.some.inj hf
        subst hf
        exact a_ireturn (pc := 31) dX8_nextGood_31 hk hn ⟨rfl, rfl⟩
set_option maxHeartbeats 4000000 in
theorem sX8_nextGood_0 {l : Launch} {g : gE} {d MC MS' k n : Nat} {A D : List va_E} (hA : A.length = 26) (hd : 7 ≤ d) (hk : k ≤ MC) (hn : n ≤ MS') {r : Int32 × MS} {S : MS} {l1 : Int32} {l2 : Int32} {l3 : Int32} (hf : X8_nextGood_0 S l1 l2 l3 = some r) : AW l g d RX8 cX8_nextGood 5 "nextGood" MC MS' (Qr (some (.int r.1)) (mh A r.2 D)) k n 0 [some (.ref 26), some (.int l1), some (.int l2), some (.int l3), none] [] (mh A S D) := by
  unfold X8_nextGood_0 at hf
  refine a_iload_n (pc := 0) dX8_nextGood_0 rfl ?_
  refine a_iconst (pc := 1) 1 dX8_nextGood_1 rfl ?_
  refine a_iadd (pc := 2) dX8_nextGood_2 ?_
  refine a_istore (pc := 3) (ls' := [some (.ref 26), some (.int l1), some (.int l2), some (.int l3), some (.int (l3 + 1))]) dX8_nextGood_3 (by decide) rfl ?_
  refine a_sub (sub_k (sub_k (sub_k (sub_d (sub_k sub_n))))) ?_
  exact sX8_nextGood_5 hA hd hk hn FU S l1 l2 (l3 + 1) hf
set_option maxHeartbeats 4000000 in
theorem mX8_nextGood {l : Launch} {g : gE} {d : Nat} {A D : List va_E} (hA : A.length = 26) (hd : 7 ≤ d) {r : Int32 × MS} {S : MS} {l1 : Int32} {l2 : Int32} {l3 : Int32} (hf : X8_nextGood S l1 l2 l3 = some r) : AM l g d yX8_nextGood cX8_nextGood 5 (some .int) 0 0 [.ref 26, .int l1, .int l2, .int l3] (mh A S D) (Qr (some (.int r.1)) (mh A r.2 D)) := by
  refine AM.of rfl (by exact Nat.le_of_ble_eq_true rfl) (fun v h' q => by obtain ⟨rfl, -⟩ := q; exact ⟨_, rfl, rfl⟩) (fun ls e => ?_)
  have e2 : aBeg [.ref 26, .int l1, .int l2, .int l3] 5 = [some (.ref 26), some (.int l1), some (.int l2), some (.int l3), none] := rfl
  rw [e2] at e
  subst e
  refine a_sub (sub_k (sub_k (sub_k (sub_k (sub_k (sub_n)))))) ?_
  exact sX8_nextGood_0 hA hd (Nat.le_refl _) (Nat.le_refl _) (hf)
-- PencilStrikesModel.next(IIII)I
def X8_next__31 (S : MS) (l1 : Int32) (l2 : Int32) (l3 : Int32) (l4 : Int32) : Option (Int32 × MS) :=
  (X8_findFine S l2 l3).bind fun r1 =>
  (X8_nextGood r1.2 l1 l2 l4).bind fun r2 =>
  some (r2.1, r2.2)
def X8_next__0 (S : MS) (l1 : Int32) (l2 : Int32) (l3 : Int32) (l4 : Int32) : Option (Int32 × MS) :=
  (X8_areGoods S l1 l2 l3).bind fun r1 =>
  if r1.1 = 0 then
    some ((-1), r1.2)
  else
    if l4 = (-1) then
      X8_next__31 r1.2 l1 l2 l3 l4
    else
      (X8_isSet r1.2 l2 l4).bind fun r2 =>
      if r2.1 = 0 then
        some ((-2), r2.2)
      else
        X8_next__31 r2.2 l1 l2 l3 l4
def X8_next_ (S : MS) (l1 : Int32) (l2 : Int32) (l3 : Int32) (l4 : Int32) : Option (Int32 × MS) := X8_next__0 S l1 l2 l3 l4
set_option maxHeartbeats 4000000 in
theorem sX8_next__31 {l : Launch} {g : gE} {d MC MS' k n : Nat} {A D : List va_E} (hA : A.length = 26) (hd : 8 ≤ d) (hk : k ≤ MC) (hn : n ≤ MS') {r : Int32 × MS} {S : MS} {l1 : Int32} {l2 : Int32} {l3 : Int32} {l4 : Int32} (hf : X8_next__31 S l1 l2 l3 l4 = some r) : AW l g d RX8 cX8_next_ 5 "next" MC MS' (Qr (some (.int r.1)) (mh A r.2 D)) k n 31 [some (.ref 26), some (.int l1), some (.int l2), some (.int l3), some (.int l4)] [] (mh A S D) := by
  unfold X8_next__31 at hf
  refine a_aload_n (pc := 31) dX8_next__31 rfl (isRv_r _) ?_
  refine a_iload_n (pc := 32) dX8_next__32 rfl ?_
  refine a_iload_n (pc := 33) dX8_next__33 rfl ?_
  obtain ⟨r1, hr1, hf⟩ := Option.bind_eq_some_iff.mp hf
  refine m_callv (pc := 34) [.int l2, .int l3] [] hA dX8_next__34 ml_X8_282 mv_X8_findFine rfl rfl (by omega) (mX8_findFine hA (by omega) hr1) rfl (Nat.le_of_ble_eq_true rfl) hk hn ?_
  refine a_aload_n (pc := 37) dX8_next__37 rfl (isRv_r _) ?_
  refine a_iload_n (pc := 38) dX8_next__38 rfl ?_
  refine a_iload_n (pc := 39) dX8_next__39 rfl ?_
  refine a_iload (pc := 40) dX8_next__40 rfl ?_
  obtain ⟨r2, hr2, hf⟩ := Option.bind_eq_some_iff.mp hf
  refine m_call (pc := 42) (.int (r2.1)) [.int l1, .int l2, .int l4] [] hA dX8_next__42 ml_X8_289 mv_X8_nextGood rfl rfl (by omega) (mX8_nextGood hA (by omega) hr2) rfl (Nat.le_of_ble_eq_true rfl) hk hn ?_
  have hf := Option.some.inj hf
  subst hf
  exact a_ireturn (pc := 45) dX8_next__45 hk hn ⟨rfl, rfl⟩
set_option maxHeartbeats 4000000 in
theorem sX8_next__0 {l : Launch} {g : gE} {d MC MS' k n : Nat} {A D : List va_E} (hA : A.length = 26) (hd : 8 ≤ d) (hk : k ≤ MC) (hn : n ≤ MS') {r : Int32 × MS} {S : MS} {l1 : Int32} {l2 : Int32} {l3 : Int32} {l4 : Int32} (hf : X8_next__0 S l1 l2 l3 l4 = some r) : AW l g d RX8 cX8_next_ 5 "next" MC MS' (Qr (some (.int r.1)) (mh A r.2 D)) k n 0 [some (.ref 26), some (.int l1), some (.int l2), some (.int l3), some (.int l4)] [] (mh A S D) := by
  unfold X8_next__0 at hf
  refine a_aload_n (pc := 0) dX8_next__0 rfl (isRv_r _) ?_
  refine a_iload_n (pc := 1) dX8_next__1 rfl ?_
  refine a_iload_n (pc := 2) dX8_next__2 rfl ?_
  refine a_iload_n (pc := 3) dX8_next__3 rfl ?_
  obtain ⟨r1, hr1, hf⟩ := Option.bind_eq_some_iff.mp hf
  refine m_call (pc := 4) (.int (r1.1)) [.int l1, .int l2, .int l3] [] hA dX8_next__4 ml_X8_279 mv_X8_areGoods rfl rfl (by omega) (mX8_areGoods hA (by omega) hr1) rfl (Nat.le_of_ble_eq_true rfl) hk hn ?_
  refine a_if_ne (pc := 7) 12 dX8_next__7 (by decide) (fun c5 => ?_) (fun c5 => ?_)
  · have hf := (if_neg c5).symm.trans hf
    refine a_iload (pc := 12) dX8_next__12 rfl ?_
    refine a_iconst (pc := 14) (-1) dX8_next__14 rfl ?_
    refine a_icmp_eq (pc := 15) 31 dX8_next__15 (by decide) (fun c4 => ?_) (fun c4 => ?_)
    · have hf := (if_pos c4).symm.trans hf
      exact sX8_next__31 hA hd hk hn hf
    · have hf := (if_neg c4).symm.trans hf
      refine a_aload_n (pc := 18) dX8_next__18 rfl (isRv_r _) ?_
      refine a_iload_n (pc := 19) dX8_next__19 rfl ?_
      refine a_iload (pc := 20) dX8_next__20 rfl ?_
      obtain ⟨r2, hr2, hf⟩ := Option.bind_eq_some_iff.mp hf
      refine m_call (pc := 22) (.int (r2.1)) [.int l2, .int l4] [] hA dX8_next__22 ml_X8_227 mv_X8_isSet rfl rfl (by omega) (mX8_isSet hA (by omega) hr2) rfl (Nat.le_of_ble_eq_true rfl) hk hn ?_
      refine a_if_ne (pc := 25) 31 dX8_next__25 (by decide) (fun c3 => ?_) (fun c3 => ?_)
      · have hf := (if_neg c3).symm.trans hf
        exact sX8_next__31 hA hd hk hn hf
      · have hf := (if_pos c3).symm.trans hf
        refine a_bipush (pc := 28) (-2) dX8_next__28 rfl ?_
        have hf := Option.some.inj hf
        subst hf
        exact a_ireturn (pc := 30) dX8_next__30 hk hn ⟨rfl, rfl⟩
  · have hf := (if_pos c5).symm.trans hf
    refine a_iconst (pc := 10) (-1) dX8_next__10 rfl ?_
    have hf := Option.some.inj hf
    subst hf
    exact a_ireturn (pc := 11) dX8_next__11 hk hn ⟨rfl, rfl⟩
set_option maxHeartbeats 4000000 in
theorem mX8_next_ {l : Launch} {g : gE} {d : Nat} {A D : List va_E} (hA : A.length = 26) (hd : 8 ≤ d) {r : Int32 × MS} {S : MS} {l1 : Int32} {l2 : Int32} {l3 : Int32} {l4 : Int32} (hf : X8_next_ S l1 l2 l3 l4 = some r) : AM l g d yX8_next_ cX8_next_ 5 (some .int) 0 0 [.ref 26, .int l1, .int l2, .int l3, .int l4] (mh A S D) (Qr (some (.int r.1)) (mh A r.2 D)) := by
  refine AM.of rfl (by exact Nat.le_of_ble_eq_true rfl) (fun v h' q => by obtain ⟨rfl, -⟩ := q; exact ⟨_, rfl, rfl⟩) (fun ls e => ?_)
  have e2 : aBeg [.ref 26, .int l1, .int l2, .int l3, .int l4] 5 = [some (.ref 26), some (.int l1), some (.int l2), some (.int l3), some (.int l4)] := rfl
  rw [e2] at e
  subst e
  refine a_sub (sub_k (sub_k (sub_k (sub_k (sub_k (sub_n)))))) ?_
  exact sX8_next__0 hA hd (Nat.le_refl _) (Nat.le_refl _) (hf)
-- PencilStrikesModel.ones(I)I
def X8_ones_4 : Nat → MS → Int32 → Int32 → Option (Int32 × MS)
  | 0, _, _, _ => none
  | fn + 1, S, l2, l3 =>
    if l3 = 0 then
      some (l2, S)
    else
      X8_ones_4 fn S (l2 + 1) (l3 &&& (l3 - 1))
def X8_ones_0 (S : MS) (l1 : Int32) : Option (Int32 × MS) :=
  X8_ones_4 FU S 0 l1
def X8_ones (S : MS) (l1 : Int32) : Option (Int32 × MS) := X8_ones_0 S l1
set_option maxHeartbeats 4000000 in
theorem sX8_ones_4 {l : Launch} {g : gE} {d MC MS' k n : Nat} {A D : List va_E} (hA : A.length = 26) (hd : 0 ≤ d) (hk : k ≤ MC) (hn : n ≤ MS') {r : Int32 × MS} : ∀ (fn : Nat) (S : MS) (l2 : Int32) (l3 : Int32), X8_ones_4 fn S l2 l3 = some r → AW l g d RX8 cX8_ones 4 "ones" MC MS' (Qr (some (.int r.1)) (mh A r.2 D)) k n 4 [none, none, some (.int l2), some (.int l3)] [] (mh A S D) := by
  intro fn
  induction fn with
  | zero =>
    intro S l2 l3 hf
    rw [X8_ones_4] at hf
    cases hf
  | succ fn ih =>
    intro S l2 l3 hf
    rw [X8_ones_4] at hf
    refine a_iload_n (pc := 4) dX8_ones_4 rfl ?_
    refine a_if_eq (pc := 5) 20 dX8_ones_5 (by decide) (fun c1 => ?_) (fun c1 => ?_)
    · have hf := (if_pos c1).symm.trans hf
      refine a_iload_n (pc := 20) dX8_ones_20 rfl ?_
      have hf := Option.some.inj hf
      subst hf
      exact a_ireturn (pc := 21) dX8_ones_21 hk hn ⟨rfl, rfl⟩
    · have hf := (if_neg c1).symm.trans hf
      refine a_iinc (pc := 8) (ls' := [none, none, some (.int (l2 + 1)), some (.int l3)]) (l2 + 1) dX8_ones_8 rfl rfl (by decide) rfl ?_
      refine a_iload_n (pc := 11) dX8_ones_11 rfl ?_
      refine a_iload_n (pc := 12) dX8_ones_12 rfl ?_
      refine a_iconst (pc := 13) 1 dX8_ones_13 rfl ?_
      refine a_isub (pc := 14) dX8_ones_14 ?_
      refine a_iand (pc := 15) dX8_ones_15 ?_
      refine a_istore_n (pc := 16) (ls' := [none, none, some (.int (l2 + 1)), some (.int (l3 &&& (l3 - 1)))]) dX8_ones_16 (by decide) rfl ?_
      refine a_goto (pc := 17) 4 dX8_ones_17 (by decide) ?_
      exact ih S (l2 + 1) (l3 &&& (l3 - 1)) hf
set_option maxHeartbeats 4000000 in
theorem sX8_ones_0 {l : Launch} {g : gE} {d MC MS' k n : Nat} {A D : List va_E} (hA : A.length = 26) (hd : 0 ≤ d) (hk : k ≤ MC) (hn : n ≤ MS') {r : Int32 × MS} {S : MS} {l1 : Int32} (hf : X8_ones_0 S l1 = some r) : AW l g d RX8 cX8_ones 4 "ones" MC MS' (Qr (some (.int r.1)) (mh A r.2 D)) k n 0 [none, some (.int l1), none, none] [] (mh A S D) := by
  unfold X8_ones_0 at hf
  refine a_iconst (pc := 0) 0 dX8_ones_0 rfl ?_
  refine a_istore_n (pc := 1) (ls' := [none, some (.int l1), some (.int 0), none]) dX8_ones_1 (by decide) rfl ?_
  refine a_iload_n (pc := 2) dX8_ones_2 rfl ?_
  refine a_istore_n (pc := 3) (ls' := [none, some (.int l1), some (.int 0), some (.int l1)]) dX8_ones_3 (by decide) rfl ?_
  refine a_sub (sub_k (sub_d (sub_k (sub_k sub_n)))) ?_
  exact sX8_ones_4 hA hd hk hn FU S 0 l1 hf
set_option maxHeartbeats 4000000 in
theorem mX8_ones {l : Launch} {g : gE} {d : Nat} {A D : List va_E} (hA : A.length = 26) (hd : 0 ≤ d) {r : Int32 × MS} {S : MS} {l1 : Int32} (hf : X8_ones S l1 = some r) : AM l g d yX8_ones cX8_ones 4 (some .int) 0 0 [.ref 26, .int l1] (mh A S D) (Qr (some (.int r.1)) (mh A r.2 D)) := by
  refine AM.of rfl (by exact Nat.le_of_ble_eq_true rfl) (fun v h' q => by obtain ⟨rfl, -⟩ := q; exact ⟨_, rfl, rfl⟩) (fun ls e => ?_)
  have e2 : aBeg [.ref 26, .int l1] 4 = [some (.ref 26), some (.int l1), none, none] := rfl
  rw [e2] at e
  subst e
  refine a_sub (sub_d (sub_k (sub_k (sub_k (sub_n))))) ?_
  exact sX8_ones_0 hA hd (Nat.le_refl _) (Nat.le_refl _) (hf)
-- PencilStrikesModel.least(III)I
def X8_least_63 (rec31 : MS → Int32 → Int32 → Int32 → Int32 → Option (Int32 × MS)) (S : MS) (s0 : Int32) (l1 : Int32) (l2 : Int32) (l5 : Int32) : Option (Int32 × MS) :=
  (X8_nextGood S l1 l2 l5).bind fun r1 =>
  rec31 r1.2 l1 l2 s0 r1.1
def X8_least_56 (rec31 : MS → Int32 → Int32 → Int32 → Int32 → Option (Int32 × MS)) (S : MS) (l1 : Int32) (l2 : Int32) (l5 : Int32) : Option (Int32 × MS) :=
  X8_least_63 rec31 S l5 l1 l2 l5
def X8_least_31 : Nat → MS → Int32 → Int32 → Int32 → Int32 → Option (Int32 × MS)
  | 0, _, _, _, _, _ => none
  | fn + 1, S, l1, l2, l4, l5 =>
    if l5 < 0 then
      some (l4, S)
    else
      if l4 < 0 then
        X8_least_56 (X8_least_31 fn) S l1 l2 l5
      else
        (X8_ones S l5).bind fun r1 =>
        (X8_ones r1.2 l4).bind fun r2 =>
        if r2.1 ≤ r1.1 then
          X8_least_63 (X8_least_31 fn) r2.2 l4 l1 l2 l5
        else
          X8_least_56 (X8_least_31 fn) r2.2 l1 l2 l5
def X8_least_0 (S : MS) (l1 : Int32) (l2 : Int32) (l3 : Int32) : Option (Int32 × MS) :=
  (X8_areGoods S l1 l2 l3).bind fun r1 =>
  if r1.1 = 0 then
    some ((-1), r1.2)
  else
    (X8_findFine r1.2 l2 l3).bind fun r2 =>
    (X8_nextGood r2.2 l1 l2 (-1)).bind fun r3 =>
    X8_least_31 FU r3.2 l1 l2 (-5) r3.1
def X8_least (S : MS) (l1 : Int32) (l2 : Int32) (l3 : Int32) : Option (Int32 × MS) := X8_least_0 S l1 l2 l3
set_option maxHeartbeats 4000000 in
theorem sX8_least_63 {l : Launch} {g : gE} {d MC MS' k n : Nat} {A D : List va_E} (hA : A.length = 26) (hd : 8 ≤ d) (hk : k ≤ MC) (hn : n ≤ MS') {r : Int32 × MS} {rec31 : MS → Int32 → Int32 → Int32 → Int32 → Option (Int32 × MS)} (hlp31 : ∀ (S : MS) (l1 : Int32) (l2 : Int32) (l4 : Int32) (l5 : Int32), rec31 S l1 l2 l4 l5 = some r → AW l g d RX8 cX8_least 6 "least" MC MS' (Qr (some (.int r.1)) (mh A r.2 D)) k n 31 [some (.ref 26), some (.int l1), some (.int l2), none, some (.int l4), some (.int l5)] [] (mh A S D)) {S : MS} {s0 : Int32} {l1 : Int32} {l2 : Int32} {l5 : Int32} (hf : X8_least_63 rec31 S s0 l1 l2 l5 = some r) : AW l g d RX8 cX8_least 6 "least" MC MS' (Qr (some (.int r.1)) (mh A r.2 D)) k n 63 [some (.ref 26), some (.int l1), some (.int l2), none, none, some (.int l5)] [.int s0] (mh A S D) := by
  unfold X8_least_63 at hf
  refine a_istore (pc := 63) (ls' := [some (.ref 26), some (.int l1), some (.int l2), none, some (.int s0), some (.int l5)]) dX8_least_63 (by decide) rfl ?_
  refine a_aload_n (pc := 65) dX8_least_65 rfl (isRv_r _) ?_
  refine a_iload_n (pc := 66) dX8_least_66 rfl ?_
  refine a_iload_n (pc := 67) dX8_least_67 rfl ?_
  refine a_iload (pc := 68) dX8_least_68 rfl ?_
  obtain ⟨r1, hr1, hf⟩ := Option.bind_eq_some_iff.mp hf
  refine m_call (pc := 70) (.int (r1.1)) [.int l1, .int l2, .int l5] [] hA dX8_least_70 ml_X8_289 mv_X8_nextGood rfl rfl (by omega) (mX8_nextGood hA (by omega) hr1) rfl (Nat.le_of_ble_eq_true rfl) hk hn ?_
  refine a_istore (pc := 73) (ls' := [some (.ref 26), some (.int l1), some (.int l2), none, some (.int s0), some (.int (r1.1))]) dX8_least_73 (by decide) rfl ?_
  refine a_goto (pc := 75) 31 dX8_least_75 (by decide) ?_
  exact hlp31 r1.2 l1 l2 s0 r1.1 hf
set_option maxHeartbeats 4000000 in
theorem sX8_least_56 {l : Launch} {g : gE} {d MC MS' k n : Nat} {A D : List va_E} (hA : A.length = 26) (hd : 8 ≤ d) (hk : k ≤ MC) (hn : n ≤ MS') {r : Int32 × MS} {rec31 : MS → Int32 → Int32 → Int32 → Int32 → Option (Int32 × MS)} (hlp31 : ∀ (S : MS) (l1 : Int32) (l2 : Int32) (l4 : Int32) (l5 : Int32), rec31 S l1 l2 l4 l5 = some r → AW l g d RX8 cX8_least 6 "least" MC MS' (Qr (some (.int r.1)) (mh A r.2 D)) k n 31 [some (.ref 26), some (.int l1), some (.int l2), none, some (.int l4), some (.int l5)] [] (mh A S D)) {S : MS} {l1 : Int32} {l2 : Int32} {l5 : Int32} (hf : X8_least_56 rec31 S l1 l2 l5 = some r) : AW l g d RX8 cX8_least 6 "least" MC MS' (Qr (some (.int r.1)) (mh A r.2 D)) k n 56 [some (.ref 26), some (.int l1), some (.int l2), none, none, some (.int l5)] [] (mh A S D) := by
  unfold X8_least_56 at hf
  refine a_iload (pc := 56) dX8_least_56 rfl ?_
  refine a_goto (pc := 58) 63 dX8_least_58 (by decide) ?_
  exact sX8_least_63 hA hd hk hn hlp31 hf
set_option maxHeartbeats 4000000 in
theorem sX8_least_31 {l : Launch} {g : gE} {d MC MS' k n : Nat} {A D : List va_E} (hA : A.length = 26) (hd : 8 ≤ d) (hk : k ≤ MC) (hn : n ≤ MS') {r : Int32 × MS} : ∀ (fn : Nat) (S : MS) (l1 : Int32) (l2 : Int32) (l4 : Int32) (l5 : Int32), X8_least_31 fn S l1 l2 l4 l5 = some r → AW l g d RX8 cX8_least 6 "least" MC MS' (Qr (some (.int r.1)) (mh A r.2 D)) k n 31 [some (.ref 26), some (.int l1), some (.int l2), none, some (.int l4), some (.int l5)] [] (mh A S D) := by
  intro fn
  induction fn with
  | zero =>
    intro S l1 l2 l4 l5 hf
    rw [X8_least_31] at hf
    cases hf
  | succ fn ih =>
    intro S l1 l2 l4 l5 hf
    rw [X8_least_31] at hf
    refine a_iload (pc := 31) dX8_least_31 rfl ?_
    refine a_if_lt (pc := 33) 78 dX8_least_33 (by decide) (fun c5 => ?_) (fun c5 => ?_)
    · have hf := (if_pos c5).symm.trans hf
      refine a_iload (pc := 78) dX8_least_78 rfl ?_
      have hf := Option.some.inj hf
      subst hf
      exact a_ireturn (pc := 80) dX8_least_80 hk hn ⟨rfl, rfl⟩
    · have hf := (if_neg c5).symm.trans hf
      refine a_iload (pc := 36) dX8_least_36 rfl ?_
      refine a_if_lt (pc := 38) 56 dX8_least_38 (by decide) (fun c4 => ?_) (fun c4 => ?_)
      · have hf := (if_pos c4).symm.trans hf
        refine a_sub (sub_k (sub_k (sub_k (sub_k (sub_d (sub_k sub_n)))))) ?_
        exact sX8_least_56 hA hd hk hn ih hf
      · have hf := (if_neg c4).symm.trans hf
        refine a_aload_n (pc := 41) dX8_least_41 rfl (isRv_r _) ?_
        refine a_iload (pc := 42) dX8_least_42 rfl ?_
        obtain ⟨r1, hr1, hf⟩ := Option.bind_eq_some_iff.mp hf
        refine m_call (pc := 44) (.int (r1.1)) [.int l5] [] hA dX8_least_44 ml_X8_293 mv_X8_ones rfl rfl (by omega) (mX8_ones hA (by omega) hr1) rfl (Nat.le_of_ble_eq_true rfl) hk hn ?_
        refine a_aload_n (pc := 47) dX8_least_47 rfl (isRv_r _) ?_
        refine a_iload (pc := 48) dX8_least_48 rfl ?_
        obtain ⟨r2, hr2, hf⟩ := Option.bind_eq_some_iff.mp hf
        refine m_call (pc := 50) (.int (r2.1)) [.int l4] [.int (r1.1)] hA dX8_least_50 ml_X8_293 mv_X8_ones rfl rfl (by omega) (mX8_ones hA (by omega) hr2) rfl (Nat.le_of_ble_eq_true rfl) hk hn ?_
        refine a_icmp_ge (pc := 53) 61 dX8_least_53 (by decide) (fun c3 => ?_) (fun c3 => ?_)
        · have hf := (if_pos c3).symm.trans hf
          refine a_iload (pc := 61) dX8_least_61 rfl ?_
          refine a_sub (sub_k (sub_k (sub_k (sub_k (sub_d (sub_k sub_n)))))) ?_
          exact sX8_least_63 hA hd hk hn ih hf
        · have hf := (if_neg c3).symm.trans hf
          refine a_sub (sub_k (sub_k (sub_k (sub_k (sub_d (sub_k sub_n)))))) ?_
          exact sX8_least_56 hA hd hk hn ih hf
set_option maxHeartbeats 4000000 in
theorem sX8_least_0 {l : Launch} {g : gE} {d MC MS' k n : Nat} {A D : List va_E} (hA : A.length = 26) (hd : 8 ≤ d) (hk : k ≤ MC) (hn : n ≤ MS') {r : Int32 × MS} {S : MS} {l1 : Int32} {l2 : Int32} {l3 : Int32} (hf : X8_least_0 S l1 l2 l3 = some r) : AW l g d RX8 cX8_least 6 "least" MC MS' (Qr (some (.int r.1)) (mh A r.2 D)) k n 0 [some (.ref 26), some (.int l1), some (.int l2), some (.int l3), none, none] [] (mh A S D) := by
  unfold X8_least_0 at hf
  refine a_aload_n (pc := 0) dX8_least_0 rfl (isRv_r _) ?_
  refine a_iload_n (pc := 1) dX8_least_1 rfl ?_
  refine a_iload_n (pc := 2) dX8_least_2 rfl ?_
  refine a_iload_n (pc := 3) dX8_least_3 rfl ?_
  obtain ⟨r1, hr1, hf⟩ := Option.bind_eq_some_iff.mp hf
  refine m_call (pc := 4) (.int (r1.1)) [.int l1, .int l2, .int l3] [] hA dX8_least_4 ml_X8_279 mv_X8_areGoods rfl rfl (by omega) (mX8_areGoods hA (by omega) hr1) rfl (Nat.le_of_ble_eq_true rfl) hk hn ?_
  refine a_if_ne (pc := 7) 12 dX8_least_7 (by decide) (fun c4 => ?_) (fun c4 => ?_)
  · have hf := (if_neg c4).symm.trans hf
    refine a_aload_n (pc := 12) dX8_least_12 rfl (isRv_r _) ?_
    refine a_iload_n (pc := 13) dX8_least_13 rfl ?_
    refine a_iload_n (pc := 14) dX8_least_14 rfl ?_
    obtain ⟨r2, hr2, hf⟩ := Option.bind_eq_some_iff.mp hf
    refine m_callv (pc := 15) [.int l2, .int l3] [] hA dX8_least_15 ml_X8_282 mv_X8_findFine rfl rfl (by omega) (mX8_findFine hA (by omega) hr2) rfl (Nat.le_of_ble_eq_true rfl) hk hn ?_
    refine a_bipush (pc := 18) (-5) dX8_least_18 rfl ?_
    refine a_istore (pc := 20) (ls' := [some (.ref 26), some (.int l1), some (.int l2), some (.int l3), some (.int (-5)), none]) dX8_least_20 (by decide) rfl ?_
    refine a_aload_n (pc := 22) dX8_least_22 rfl (isRv_r _) ?_
    refine a_iload_n (pc := 23) dX8_least_23 rfl ?_
    refine a_iload_n (pc := 24) dX8_least_24 rfl ?_
    refine a_iconst (pc := 25) (-1) dX8_least_25 rfl ?_
    obtain ⟨r3, hr3, hf⟩ := Option.bind_eq_some_iff.mp hf
    refine m_call (pc := 26) (.int (r3.1)) [.int l1, .int l2, .int (-1)] [] hA dX8_least_26 ml_X8_289 mv_X8_nextGood rfl rfl (by omega) (mX8_nextGood hA (by omega) hr3) rfl (Nat.le_of_ble_eq_true rfl) hk hn ?_
    refine a_istore (pc := 29) (ls' := [some (.ref 26), some (.int l1), some (.int l2), some (.int l3), some (.int (-5)), some (.int (r3.1))]) dX8_least_29 (by decide) rfl ?_
    refine a_sub (sub_k (sub_k (sub_k (sub_d (sub_k (sub_k sub_n)))))) ?_
    exact sX8_least_31 hA hd hk hn FU r3.2 l1 l2 (-5) r3.1 hf
  · have hf := (if_pos c4).symm.trans hf
    refine a_iconst (pc := 10) (-1) dX8_least_10 rfl ?_
    have hf := Option.some.inj hf
    subst hf
    exact a_ireturn (pc := 11) dX8_least_11 hk hn ⟨rfl, rfl⟩
set_option maxHeartbeats 4000000 in
theorem mX8_least {l : Launch} {g : gE} {d : Nat} {A D : List va_E} (hA : A.length = 26) (hd : 8 ≤ d) {r : Int32 × MS} {S : MS} {l1 : Int32} {l2 : Int32} {l3 : Int32} (hf : X8_least S l1 l2 l3 = some r) : AM l g d yX8_least cX8_least 6 (some .int) 0 0 [.ref 26, .int l1, .int l2, .int l3] (mh A S D) (Qr (some (.int r.1)) (mh A r.2 D)) := by
  refine AM.of rfl (by exact Nat.le_of_ble_eq_true rfl) (fun v h' q => by obtain ⟨rfl, -⟩ := q; exact ⟨_, rfl, rfl⟩) (fun ls e => ?_)
  have e2 : aBeg [.ref 26, .int l1, .int l2, .int l3] 6 = [some (.ref 26), some (.int l1), some (.int l2), some (.int l3), none, none] := rfl
  rw [e2] at e
  subst e
  refine a_sub (sub_k (sub_k (sub_k (sub_k (sub_k (sub_k (sub_n))))))) ?_
  exact sX8_least_0 hA hd (Nat.le_refl _) (Nat.le_refl _) (hf)
-- PencilStrikesModel.inAll(III)I
def X8_inAll_39 : Nat → MS → Int32 → Int32 → Int32 → Int32 → Option (Int32 × MS)
  | 0, _, _, _, _, _ => none
  | fn + 1, S, l1, l2, l4, l5 =>
    if l5 < 0 then
      some (l4, S)
    else
      (X8_nextGood S l1 l2 l5).bind fun r1 =>
      X8_inAll_39 fn r1.2 l1 l2 (l4 &&& l5) r1.1
def X8_inAll_0 (S : MS) (l1 : Int32) (l2 : Int32) (l3 : Int32) : Option (Int32 × MS) :=
  (X8_areGoods S l1 l2 l3).bind fun r1 =>
  if r1.1 = 0 then
    some ((-1), r1.2)
  else
    (X8_findFine r1.2 l2 l3).bind fun r2 =>
    (mA r2.2 8 l2).bind fun x3 =>
    (X8_nextGood r2.2 l1 l2 (-1)).bind fun r4 =>
    X8_inAll_39 FU r4.2 l1 l2 (((1 : Int32) <<< (x3 &&& 31)) - 1) r4.1
def X8_inAll (S : MS) (l1 : Int32) (l2 : Int32) (l3 : Int32) : Option (Int32 × MS) := X8_inAll_0 S l1 l2 l3
set_option maxHeartbeats 4000000 in
theorem sX8_inAll_39 {l : Launch} {g : gE} {d MC MS' k n : Nat} {A D : List va_E} (hA : A.length = 26) (hd : 8 ≤ d) (hk : k ≤ MC) (hn : n ≤ MS') {r : Int32 × MS} : ∀ (fn : Nat) (S : MS) (l1 : Int32) (l2 : Int32) (l4 : Int32) (l5 : Int32), X8_inAll_39 fn S l1 l2 l4 l5 = some r → AW l g d RX8 cX8_inAll 6 "inAll" MC MS' (Qr (some (.int r.1)) (mh A r.2 D)) k n 39 [some (.ref 26), some (.int l1), some (.int l2), none, some (.int l4), some (.int l5)] [] (mh A S D) := by
  intro fn
  induction fn with
  | zero =>
    intro S l1 l2 l4 l5 hf
    rw [X8_inAll_39] at hf
    cases hf
  | succ fn ih =>
    intro S l1 l2 l4 l5 hf
    rw [X8_inAll_39] at hf
    refine a_iload (pc := 39) dX8_inAll_39 rfl ?_
    refine a_if_lt (pc := 41) 64 dX8_inAll_41 (by decide) (fun c2 => ?_) (fun c2 => ?_)
    · have hf := (if_pos c2).symm.trans hf
      refine a_iload (pc := 64) dX8_inAll_64 rfl ?_
      have hf := Option.some.inj hf
      subst hf
      exact a_ireturn (pc := 66) dX8_inAll_66 hk hn ⟨rfl, rfl⟩
    · have hf := (if_neg c2).symm.trans hf
      refine a_iload (pc := 44) dX8_inAll_44 rfl ?_
      refine a_iload (pc := 46) dX8_inAll_46 rfl ?_
      refine a_iand (pc := 48) dX8_inAll_48 ?_
      refine a_istore (pc := 49) (ls' := [some (.ref 26), some (.int l1), some (.int l2), none, some (.int (l4 &&& l5)), some (.int l5)]) dX8_inAll_49 (by decide) rfl ?_
      refine a_aload_n (pc := 51) dX8_inAll_51 rfl (isRv_r _) ?_
      refine a_iload_n (pc := 52) dX8_inAll_52 rfl ?_
      refine a_iload_n (pc := 53) dX8_inAll_53 rfl ?_
      refine a_iload (pc := 54) dX8_inAll_54 rfl ?_
      obtain ⟨r1, hr1, hf⟩ := Option.bind_eq_some_iff.mp hf
      refine m_call (pc := 56) (.int (r1.1)) [.int l1, .int l2, .int l5] [] hA dX8_inAll_56 ml_X8_289 mv_X8_nextGood rfl rfl (by omega) (mX8_nextGood hA (by omega) hr1) rfl (Nat.le_of_ble_eq_true rfl) hk hn ?_
      refine a_istore (pc := 59) (ls' := [some (.ref 26), some (.int l1), some (.int l2), none, some (.int (l4 &&& l5)), some (.int (r1.1))]) dX8_inAll_59 (by decide) rfl ?_
      refine a_goto (pc := 61) 39 dX8_inAll_61 (by decide) ?_
      exact ih r1.2 l1 l2 (l4 &&& l5) r1.1 hf
set_option maxHeartbeats 4000000 in
theorem sX8_inAll_0 {l : Launch} {g : gE} {d MC MS' k n : Nat} {A D : List va_E} (hA : A.length = 26) (hd : 8 ≤ d) (hk : k ≤ MC) (hn : n ≤ MS') {r : Int32 × MS} {S : MS} {l1 : Int32} {l2 : Int32} {l3 : Int32} (hf : X8_inAll_0 S l1 l2 l3 = some r) : AW l g d RX8 cX8_inAll 6 "inAll" MC MS' (Qr (some (.int r.1)) (mh A r.2 D)) k n 0 [some (.ref 26), some (.int l1), some (.int l2), some (.int l3), none, none] [] (mh A S D) := by
  unfold X8_inAll_0 at hf
  refine a_aload_n (pc := 0) dX8_inAll_0 rfl (isRv_r _) ?_
  refine a_iload_n (pc := 1) dX8_inAll_1 rfl ?_
  refine a_iload_n (pc := 2) dX8_inAll_2 rfl ?_
  refine a_iload_n (pc := 3) dX8_inAll_3 rfl ?_
  obtain ⟨r1, hr1, hf⟩ := Option.bind_eq_some_iff.mp hf
  refine m_call (pc := 4) (.int (r1.1)) [.int l1, .int l2, .int l3] [] hA dX8_inAll_4 ml_X8_279 mv_X8_areGoods rfl rfl (by omega) (mX8_areGoods hA (by omega) hr1) rfl (Nat.le_of_ble_eq_true rfl) hk hn ?_
  refine a_if_ne (pc := 7) 12 dX8_inAll_7 (by decide) (fun c5 => ?_) (fun c5 => ?_)
  · have hf := (if_neg c5).symm.trans hf
    refine a_aload_n (pc := 12) dX8_inAll_12 rfl (isRv_r _) ?_
    refine a_iload_n (pc := 13) dX8_inAll_13 rfl ?_
    refine a_iload_n (pc := 14) dX8_inAll_14 rfl ?_
    obtain ⟨r2, hr2, hf⟩ := Option.bind_eq_some_iff.mp hf
    refine m_callv (pc := 15) [.int l2, .int l3] [] hA dX8_inAll_15 ml_X8_282 mv_X8_findFine rfl rfl (by omega) (mX8_findFine hA (by omega) hr2) rfl (Nat.le_of_ble_eq_true rfl) hk hn ?_
    refine a_iconst (pc := 18) 1 dX8_inAll_18 rfl ?_
    refine a_aload_n (pc := 19) dX8_inAll_19 rfl (isRv_r _) ?_
    refine m_getA (pc := 20) 30 hA dX8_inAll_20 fl_X8_35 (Or.inl ki_8) rfl ?_
    refine a_iload_n (pc := 23) dX8_inAll_23 rfl ?_
    obtain ⟨x3, hx3, hf⟩ := Option.bind_eq_some_iff.mp hf
    refine m_ald (pc := 24) 30 hA dX8_inAll_24 ki_8 rfl hx3 ?_
    refine a_ishl (pc := 25) dX8_inAll_25 ?_
    refine a_iconst (pc := 26) 1 dX8_inAll_26 rfl ?_
    refine a_isub (pc := 27) dX8_inAll_27 ?_
    refine a_istore (pc := 28) (ls' := [some (.ref 26), some (.int l1), some (.int l2), some (.int l3), some (.int (((1 : Int32) <<< (x3 &&& 31)) - 1)), none]) dX8_inAll_28 (by decide) rfl ?_
    refine a_aload_n (pc := 30) dX8_inAll_30 rfl (isRv_r _) ?_
    refine a_iload_n (pc := 31) dX8_inAll_31 rfl ?_
    refine a_iload_n (pc := 32) dX8_inAll_32 rfl ?_
    refine a_iconst (pc := 33) (-1) dX8_inAll_33 rfl ?_
    obtain ⟨r4, hr4, hf⟩ := Option.bind_eq_some_iff.mp hf
    refine m_call (pc := 34) (.int (r4.1)) [.int l1, .int l2, .int (-1)] [] hA dX8_inAll_34 ml_X8_289 mv_X8_nextGood rfl rfl (by omega) (mX8_nextGood hA (by omega) hr4) rfl (Nat.le_of_ble_eq_true rfl) hk hn ?_
    refine a_istore (pc := 37) (ls' := [some (.ref 26), some (.int l1), some (.int l2), some (.int l3), some (.int (((1 : Int32) <<< (x3 &&& 31)) - 1)), some (.int (r4.1))]) dX8_inAll_37 (by decide) rfl ?_
    refine a_sub (sub_k (sub_k (sub_k (sub_d (sub_k (sub_k sub_n)))))) ?_
    exact sX8_inAll_39 hA hd hk hn FU r4.2 l1 l2 (((1 : Int32) <<< (x3 &&& 31)) - 1) r4.1 hf
  · have hf := (if_pos c5).symm.trans hf
    refine a_iconst (pc := 10) (-1) dX8_inAll_10 rfl ?_
    have hf := Option.some.inj hf
    subst hf
    exact a_ireturn (pc := 11) dX8_inAll_11 hk hn ⟨rfl, rfl⟩
set_option maxHeartbeats 4000000 in
theorem mX8_inAll {l : Launch} {g : gE} {d : Nat} {A D : List va_E} (hA : A.length = 26) (hd : 8 ≤ d) {r : Int32 × MS} {S : MS} {l1 : Int32} {l2 : Int32} {l3 : Int32} (hf : X8_inAll S l1 l2 l3 = some r) : AM l g d yX8_inAll cX8_inAll 6 (some .int) 0 0 [.ref 26, .int l1, .int l2, .int l3] (mh A S D) (Qr (some (.int r.1)) (mh A r.2 D)) := by
  refine AM.of rfl (by exact Nat.le_of_ble_eq_true rfl) (fun v h' q => by obtain ⟨rfl, -⟩ := q; exact ⟨_, rfl, rfl⟩) (fun ls e => ?_)
  have e2 : aBeg [.ref 26, .int l1, .int l2, .int l3] 6 = [some (.ref 26), some (.int l1), some (.int l2), some (.int l3), none, none] := rfl
  rw [e2] at e
  subst e
  refine a_sub (sub_k (sub_k (sub_k (sub_k (sub_k (sub_k (sub_n))))))) ?_
  exact sX8_inAll_0 hA hd (Nat.le_refl _) (Nat.le_refl _) (hf)
-- PencilStrikesModel.isWholeBut(I)Z
def X8_isWholeBut_58 (rec25 : MS → Int32 → Int32 → Option (Int32 × MS)) (S : MS) (s0 : Int64) (s2 : Int32) (l1 : Int32) (l2 : Int32) : Option (Int32 × MS) :=
  (mL S 32 s2).bind fun x1 =>
  if (lg_cmp s0 x1) = 0 then
    rec25 S l1 (l2 + 1)
  else
    some (0, S)
def X8_isWholeBut_57 (rec25 : MS → Int32 → Int32 → Option (Int32 × MS)) (S : MS) (s0 : Int64) (l1 : Int32) (l2 : Int32) : Option (Int32 × MS) :=
  X8_isWholeBut_58 rec25 S s0 l2 l1 l2
def X8_isWholeBut_25 : Nat → MS → Int32 → Int32 → Option (Int32 × MS)
  | 0, _, _, _ => none
  | fn + 1, S, l1, l2 =>
    if (S.1 28) ≤ l2 then
      some (1, S)
    else
      (X8_dutyOf S l2).bind fun r1 =>
      if l1 < 0 then
        X8_isWholeBut_57 (X8_isWholeBut_25 fn) r1.2 r1.1 l1 l2
      else
        if l2 < l1 then
          X8_isWholeBut_57 (X8_isWholeBut_25 fn) r1.2 r1.1 l1 l2
        else
          X8_isWholeBut_58 (X8_isWholeBut_25 fn) r1.2 r1.1 (l2 + 1) l1 l2
def X8_isWholeBut_17 (S : MS) (s0 : Int32) (s1 : Int32) (s2 : Int32) (l1 : Int32) : Option (Int32 × MS) :=
  if s0 = (s1 - s2) then
    X8_isWholeBut_25 FU S l1 0
  else
    some (0, S)
def X8_isWholeBut_0 (S : MS) (l1 : Int32) : Option (Int32 × MS) :=
  if 0 ≤ l1 then
    X8_isWholeBut_17 S (S.1 28) (S.1 33) 1 l1
  else
    X8_isWholeBut_17 S (S.1 28) (S.1 33) 0 l1
def X8_isWholeBut (S : MS) (l1 : Int32) : Option (Int32 × MS) := zg (X8_isWholeBut_0 S l1)
set_option maxHeartbeats 4000000 in
theorem sX8_isWholeBut_58 {l : Launch} {g : gE} {d MC MS' k n : Nat} {A D : List va_E} (hA : A.length = 26) (hd : 1 ≤ d) (hk : k ≤ MC) (hn : n ≤ MS') {r : Int32 × MS} {rec25 : MS → Int32 → Int32 → Option (Int32 × MS)} (hlp25 : ∀ (S : MS) (l1 : Int32) (l2 : Int32), rec25 S l1 l2 = some r → AW l g d RX8 cX8_isWholeBut 3 "isWholeBut" MC MS' (Qr (some (.int r.1)) (mh A r.2 D)) k n 25 [some (.ref 26), some (.int l1), some (.int l2)] [] (mh A S D)) {S : MS} {s0 : Int64} {s2 : Int32} {l1 : Int32} {l2 : Int32} (hf : X8_isWholeBut_58 rec25 S s0 s2 l1 l2 = some r) : AW l g d RX8 cX8_isWholeBut 3 "isWholeBut" MC MS' (Qr (some (.int r.1)) (mh A r.2 D)) k n 58 [some (.ref 26), some (.int l1), some (.int l2)] [.int s2, .ref 47, .long s0] (mh A S D) := by
  unfold X8_isWholeBut_58 at hf
  obtain ⟨x1, hx1, hf⟩ := Option.bind_eq_some_iff.mp hf
  refine m_lald (pc := 58) 47 hA dX8_isWholeBut_58 kj_32 rfl hx1 ?_
  refine a_lcmp (pc := 59) dX8_isWholeBut_59 ?_
  refine a_if_eq (pc := 60) 65 dX8_isWholeBut_60 (by decide) (fun c2 => ?_) (fun c2 => ?_)
  · have hf := (if_pos c2).symm.trans hf
    refine a_iinc (pc := 65) (ls' := [some (.ref 26), some (.int l1), some (.int (l2 + 1))]) (l2 + 1) dX8_isWholeBut_65 rfl rfl (by decide) rfl ?_
    refine a_goto (pc := 68) 25 dX8_isWholeBut_68 (by decide) ?_
    exact hlp25 S l1 (l2 + 1) hf
  · have hf := (if_neg c2).symm.trans hf
    refine a_iconst (pc := 63) 0 dX8_isWholeBut_63 rfl ?_
    have hf := Option.some.inj hf
    subst hf
    exact a_ireturn (pc := 64) dX8_isWholeBut_64 hk hn ⟨rfl, rfl⟩
set_option maxHeartbeats 4000000 in
theorem sX8_isWholeBut_57 {l : Launch} {g : gE} {d MC MS' k n : Nat} {A D : List va_E} (hA : A.length = 26) (hd : 1 ≤ d) (hk : k ≤ MC) (hn : n ≤ MS') {r : Int32 × MS} {rec25 : MS → Int32 → Int32 → Option (Int32 × MS)} (hlp25 : ∀ (S : MS) (l1 : Int32) (l2 : Int32), rec25 S l1 l2 = some r → AW l g d RX8 cX8_isWholeBut 3 "isWholeBut" MC MS' (Qr (some (.int r.1)) (mh A r.2 D)) k n 25 [some (.ref 26), some (.int l1), some (.int l2)] [] (mh A S D)) {S : MS} {s0 : Int64} {l1 : Int32} {l2 : Int32} (hf : X8_isWholeBut_57 rec25 S s0 l1 l2 = some r) : AW l g d RX8 cX8_isWholeBut 3 "isWholeBut" MC MS' (Qr (some (.int r.1)) (mh A r.2 D)) k n 57 [some (.ref 26), some (.int l1), some (.int l2)] [.ref 47, .long s0] (mh A S D) := by
  unfold X8_isWholeBut_57 at hf
  refine a_iload_n (pc := 57) dX8_isWholeBut_57 rfl ?_
  exact sX8_isWholeBut_58 hA hd hk hn hlp25 hf
set_option maxHeartbeats 4000000 in
theorem sX8_isWholeBut_25 {l : Launch} {g : gE} {d MC MS' k n : Nat} {A D : List va_E} (hA : A.length = 26) (hd : 1 ≤ d) (hk : k ≤ MC) (hn : n ≤ MS') {r : Int32 × MS} : ∀ (fn : Nat) (S : MS) (l1 : Int32) (l2 : Int32), X8_isWholeBut_25 fn S l1 l2 = some r → AW l g d RX8 cX8_isWholeBut 3 "isWholeBut" MC MS' (Qr (some (.int r.1)) (mh A r.2 D)) k n 25 [some (.ref 26), some (.int l1), some (.int l2)] [] (mh A S D) := by
  intro fn
  induction fn with
  | zero =>
    intro S l1 l2 hf
    rw [X8_isWholeBut_25] at hf
    cases hf
  | succ fn ih =>
    intro S l1 l2 hf
    rw [X8_isWholeBut_25] at hf
    refine a_iload_n (pc := 25) dX8_isWholeBut_25 rfl ?_
    refine a_aload_n (pc := 26) dX8_isWholeBut_26 rfl (isRv_r _) ?_
    refine m_getS (pc := 27) hA dX8_isWholeBut_27 fl_X8_95 ks_28 ?_
    refine a_icmp_ge (pc := 30) 71 dX8_isWholeBut_30 (by decide) (fun c4 => ?_) (fun c4 => ?_)
    · have hf := (if_pos c4).symm.trans hf
      refine a_iconst (pc := 71) 1 dX8_isWholeBut_71 rfl ?_
      have hf := Option.some.inj hf
      subst hf
      exact a_ireturn (pc := 72) dX8_isWholeBut_72 hk hn ⟨rfl, rfl⟩
    · have hf := (if_neg c4).symm.trans hf
      refine a_aload_n (pc := 33) dX8_isWholeBut_33 rfl (isRv_r _) ?_
      refine a_iload_n (pc := 34) dX8_isWholeBut_34 rfl ?_
      obtain ⟨r1, hr1, hf⟩ := Option.bind_eq_some_iff.mp hf
      refine m_call (pc := 35) (.long (r1.1)) [.int l2] [] hA dX8_isWholeBut_35 ml_X8_235 mv_X8_dutyOf rfl rfl (by omega) (mX8_dutyOf hA (by omega) hr1) rfl (Nat.le_of_ble_eq_true rfl) hk hn ?_
      refine a_aload_n (pc := 38) dX8_isWholeBut_38 rfl (isRv_r _) ?_
      refine m_getA (pc := 39) 47 hA dX8_isWholeBut_39 fl_X8_108 (Or.inr (Or.inr kj_32)) rfl ?_
      refine a_iload_n (pc := 42) dX8_isWholeBut_42 rfl ?_
      refine a_if_lt (pc := 43) 57 dX8_isWholeBut_43 (by decide) (fun c3 => ?_) (fun c3 => ?_)
      · have hf := (if_pos c3).symm.trans hf
        exact sX8_isWholeBut_57 hA hd hk hn ih hf
      · have hf := (if_neg c3).symm.trans hf
        refine a_iload_n (pc := 46) dX8_isWholeBut_46 rfl ?_
        refine a_iload_n (pc := 47) dX8_isWholeBut_47 rfl ?_
        refine a_icmp_lt (pc := 48) 57 dX8_isWholeBut_48 (by decide) (fun c2 => ?_) (fun c2 => ?_)
        · have hf := (if_pos c2).symm.trans hf
          exact sX8_isWholeBut_57 hA hd hk hn ih hf
        · have hf := (if_neg c2).symm.trans hf
          refine a_iload_n (pc := 51) dX8_isWholeBut_51 rfl ?_
          refine a_iconst (pc := 52) 1 dX8_isWholeBut_52 rfl ?_
          refine a_iadd (pc := 53) dX8_isWholeBut_53 ?_
          refine a_goto (pc := 54) 58 dX8_isWholeBut_54 (by decide) ?_
          exact sX8_isWholeBut_58 hA hd hk hn ih hf
set_option maxHeartbeats 4000000 in
theorem sX8_isWholeBut_17 {l : Launch} {g : gE} {d MC MS' k n : Nat} {A D : List va_E} (hA : A.length = 26) (hd : 1 ≤ d) (hk : k ≤ MC) (hn : n ≤ MS') {r : Int32 × MS} {S : MS} {s0 : Int32} {s1 : Int32} {s2 : Int32} {l1 : Int32} (hf : X8_isWholeBut_17 S s0 s1 s2 l1 = some r) : AW l g d RX8 cX8_isWholeBut 3 "isWholeBut" MC MS' (Qr (some (.int r.1)) (mh A r.2 D)) k n 17 [some (.ref 26), some (.int l1), none] [.int s2, .int s1, .int s0] (mh A S D) := by
  unfold X8_isWholeBut_17 at hf
  refine a_isub (pc := 17) dX8_isWholeBut_17 ?_
  refine a_icmp_eq (pc := 18) 23 dX8_isWholeBut_18 (by decide) (fun c1 => ?_) (fun c1 => ?_)
  · have hf := (if_pos c1).symm.trans hf
    refine a_iconst (pc := 23) 0 dX8_isWholeBut_23 rfl ?_
    refine a_istore_n (pc := 24) (ls' := [some (.ref 26), some (.int l1), some (.int 0)]) dX8_isWholeBut_24 (by decide) rfl ?_
    exact sX8_isWholeBut_25 hA hd hk hn FU S l1 0 hf
  · have hf := (if_neg c1).symm.trans hf
    refine a_iconst (pc := 21) 0 dX8_isWholeBut_21 rfl ?_
    have hf := Option.some.inj hf
    subst hf
    exact a_ireturn (pc := 22) dX8_isWholeBut_22 hk hn ⟨rfl, rfl⟩
set_option maxHeartbeats 4000000 in
theorem sX8_isWholeBut_0 {l : Launch} {g : gE} {d MC MS' k n : Nat} {A D : List va_E} (hA : A.length = 26) (hd : 1 ≤ d) (hk : k ≤ MC) (hn : n ≤ MS') {r : Int32 × MS} {S : MS} {l1 : Int32} (hf : X8_isWholeBut_0 S l1 = some r) : AW l g d RX8 cX8_isWholeBut 3 "isWholeBut" MC MS' (Qr (some (.int r.1)) (mh A r.2 D)) k n 0 [some (.ref 26), some (.int l1), none] [] (mh A S D) := by
  unfold X8_isWholeBut_0 at hf
  refine a_aload_n (pc := 0) dX8_isWholeBut_0 rfl (isRv_r _) ?_
  refine m_getS (pc := 1) hA dX8_isWholeBut_1 fl_X8_95 ks_28 ?_
  refine a_aload_n (pc := 4) dX8_isWholeBut_4 rfl (isRv_r _) ?_
  refine m_getS (pc := 5) hA dX8_isWholeBut_5 fl_X8_112 ks_33 ?_
  refine a_iload_n (pc := 8) dX8_isWholeBut_8 rfl ?_
  refine a_if_ge (pc := 9) 16 dX8_isWholeBut_9 (by decide) (fun c1 => ?_) (fun c1 => ?_)
  · have hf := (if_pos c1).symm.trans hf
    refine a_iconst (pc := 16) 1 dX8_isWholeBut_16 rfl ?_
    exact sX8_isWholeBut_17 hA hd hk hn hf
  · have hf := (if_neg c1).symm.trans hf
    refine a_iconst (pc := 12) 0 dX8_isWholeBut_12 rfl ?_
    refine a_goto (pc := 13) 17 dX8_isWholeBut_13 (by decide) ?_
    exact sX8_isWholeBut_17 hA hd hk hn hf
set_option maxHeartbeats 4000000 in
theorem mX8_isWholeBut {l : Launch} {g : gE} {d : Nat} {A D : List va_E} (hA : A.length = 26) (hd : 1 ≤ d) {r : Int32 × MS} {S : MS} {l1 : Int32} (hf : X8_isWholeBut S l1 = some r) : AM l g d yX8_isWholeBut cX8_isWholeBut 3 (some .boolean) 0 0 [.ref 26, .int l1] (mh A S D) (Qr (some (.int r.1)) (mh A r.2 D)) := by
  refine AM.of rfl (by exact Nat.le_of_ble_eq_true rfl) (fun v h' q => by obtain ⟨rfl, -⟩ := q; refine ⟨_, rfl, ?_⟩; rcases (zg_of hf).2 with e | e <;> rw [e] <;> rfl) (fun ls e => ?_)
  have e2 : aBeg [.ref 26, .int l1] 3 = [some (.ref 26), some (.int l1), none] := rfl
  rw [e2] at e
  subst e
  refine a_sub (sub_k (sub_k (sub_k (sub_n)))) ?_
  exact sX8_isWholeBut_0 hA hd (Nat.le_refl _) (Nat.le_refl _) ((zg_of hf).1)
-- PencilStrikesModel.plain(I)I
def X8_plain_73 (rec29 : MS → Int32 → Int32 → Int32 → Option (Int32 × MS)) (S : MS) (l1 : Int32) (l2 : Int32) (l3 : Int32) : Option (Int32 × MS) :=
  rec29 S l1 l2 (l3 + 1)
def X8_plain_29 : Nat → MS → Int32 → Int32 → Int32 → Option (Int32 × MS)
  | 0, _, _, _, _ => none
  | fn + 1, S, l1, l2, l3 =>
    (mA S 8 l1).bind fun x1 =>
    if ((1 : Int32) <<< (x1 &&& 31)) ≤ l3 then
      some (l2, S)
    else
      (X8_ones S l3).bind fun r2 =>
      (X8_ones r2.2 l2).bind fun r3 =>
      if r2.1 ≤ r3.1 then
        X8_plain_73 (X8_plain_29 fn) r3.2 l1 l2 l3
      else
        (X8_readsLeft r3.2 l1 l3).bind fun r4 =>
        if r4.1 = 0 then
          X8_plain_73 (X8_plain_29 fn) r4.2 l1 l2 l3
        else
          (X8_isWholeBut r4.2 (-1)).bind fun r5 =>
          if r5.1 = 0 then
            X8_plain_73 (X8_plain_29 fn) r5.2 l1 l2 l3
          else
            X8_plain_73 (X8_plain_29 fn) r5.2 l1 l3 l3
def X8_plain_0 (S : MS) (l1 : Int32) : Option (Int32 × MS) :=
  (X8_isBargain S l1).bind fun r1 =>
  if r1.1 = 0 then
    some ((-1), r1.2)
  else
    (X8_readWhole r1.2 l1).bind fun r2 =>
    if 0 ≤ (r2.2.1 33) then
      X8_plain_29 FU r2.2 l1 0 1
    else
      some ((-3), r2.2)
def X8_plain (S : MS) (l1 : Int32) : Option (Int32 × MS) := X8_plain_0 S l1
set_option maxHeartbeats 4000000 in
theorem sX8_plain_73 {l : Launch} {g : gE} {d MC MS' k n : Nat} {A D : List va_E} (hA : A.length = 26) (hd : 5 ≤ d) (hk : k ≤ MC) (hn : n ≤ MS') {r : Int32 × MS} {rec29 : MS → Int32 → Int32 → Int32 → Option (Int32 × MS)} (hlp29 : ∀ (S : MS) (l1 : Int32) (l2 : Int32) (l3 : Int32), rec29 S l1 l2 l3 = some r → AW l g d RX8 cX8_plain 4 "plain" MC MS' (Qr (some (.int r.1)) (mh A r.2 D)) k n 29 [some (.ref 26), some (.int l1), some (.int l2), some (.int l3)] [] (mh A S D)) {S : MS} {l1 : Int32} {l2 : Int32} {l3 : Int32} (hf : X8_plain_73 rec29 S l1 l2 l3 = some r) : AW l g d RX8 cX8_plain 4 "plain" MC MS' (Qr (some (.int r.1)) (mh A r.2 D)) k n 73 [some (.ref 26), some (.int l1), some (.int l2), some (.int l3)] [] (mh A S D) := by
  unfold X8_plain_73 at hf
  refine a_iinc (pc := 73) (ls' := [some (.ref 26), some (.int l1), some (.int l2), some (.int (l3 + 1))]) (l3 + 1) dX8_plain_73 rfl rfl (by decide) rfl ?_
  refine a_goto (pc := 76) 29 dX8_plain_76 (by decide) ?_
  exact hlp29 S l1 l2 (l3 + 1) hf
set_option maxHeartbeats 4000000 in
theorem sX8_plain_29 {l : Launch} {g : gE} {d MC MS' k n : Nat} {A D : List va_E} (hA : A.length = 26) (hd : 5 ≤ d) (hk : k ≤ MC) (hn : n ≤ MS') {r : Int32 × MS} : ∀ (fn : Nat) (S : MS) (l1 : Int32) (l2 : Int32) (l3 : Int32), X8_plain_29 fn S l1 l2 l3 = some r → AW l g d RX8 cX8_plain 4 "plain" MC MS' (Qr (some (.int r.1)) (mh A r.2 D)) k n 29 [some (.ref 26), some (.int l1), some (.int l2), some (.int l3)] [] (mh A S D) := by
  intro fn
  induction fn with
  | zero =>
    intro S l1 l2 l3 hf
    rw [X8_plain_29] at hf
    cases hf
  | succ fn ih =>
    intro S l1 l2 l3 hf
    rw [X8_plain_29] at hf
    refine a_iload_n (pc := 29) dX8_plain_29 rfl ?_
    refine a_iconst (pc := 30) 1 dX8_plain_30 rfl ?_
    refine a_aload_n (pc := 31) dX8_plain_31 rfl (isRv_r _) ?_
    refine m_getA (pc := 32) 30 hA dX8_plain_32 fl_X8_35 (Or.inl ki_8) rfl ?_
    refine a_iload_n (pc := 35) dX8_plain_35 rfl ?_
    obtain ⟨x1, hx1, hf⟩ := Option.bind_eq_some_iff.mp hf
    refine m_ald (pc := 36) 30 hA dX8_plain_36 ki_8 rfl hx1 ?_
    refine a_ishl (pc := 37) dX8_plain_37 ?_
    refine a_icmp_ge (pc := 38) 79 dX8_plain_38 (by decide) (fun c9 => ?_) (fun c9 => ?_)
    · have hf := (if_pos c9).symm.trans hf
      refine a_iload_n (pc := 79) dX8_plain_79 rfl ?_
      have hf := Option.some.inj hf
      subst hf
      exact a_ireturn (pc := 80) dX8_plain_80 hk hn ⟨rfl, rfl⟩
    · have hf := (if_neg c9).symm.trans hf
      refine a_aload_n (pc := 41) dX8_plain_41 rfl (isRv_r _) ?_
      refine a_iload_n (pc := 42) dX8_plain_42 rfl ?_
      obtain ⟨r2, hr2, hf⟩ := Option.bind_eq_some_iff.mp hf
      refine m_call (pc := 43) (.int (r2.1)) [.int l3] [] hA dX8_plain_43 ml_X8_293 mv_X8_ones rfl rfl (by omega) (mX8_ones hA (by omega) hr2) rfl (Nat.le_of_ble_eq_true rfl) hk hn ?_
      refine a_aload_n (pc := 46) dX8_plain_46 rfl (isRv_r _) ?_
      refine a_iload_n (pc := 47) dX8_plain_47 rfl ?_
      obtain ⟨r3, hr3, hf⟩ := Option.bind_eq_some_iff.mp hf
      refine m_call (pc := 48) (.int (r3.1)) [.int l2] [.int (r2.1)] hA dX8_plain_48 ml_X8_293 mv_X8_ones rfl rfl (by omega) (mX8_ones hA (by omega) hr3) rfl (Nat.le_of_ble_eq_true rfl) hk hn ?_
      refine a_icmp_le (pc := 51) 73 dX8_plain_51 (by decide) (fun c8 => ?_) (fun c8 => ?_)
      · have hf := (if_pos c8).symm.trans hf
        exact sX8_plain_73 hA hd hk hn ih hf
      · have hf := (if_neg c8).symm.trans hf
        refine a_aload_n (pc := 54) dX8_plain_54 rfl (isRv_r _) ?_
        refine a_iload_n (pc := 55) dX8_plain_55 rfl ?_
        refine a_iload_n (pc := 56) dX8_plain_56 rfl ?_
        obtain ⟨r4, hr4, hf⟩ := Option.bind_eq_some_iff.mp hf
        refine m_call (pc := 57) (.int (r4.1)) [.int l1, .int l3] [] hA dX8_plain_57 ml_X8_230 mv_X8_readsLeft rfl rfl (by omega) (mX8_readsLeft hA (by omega) hr4) rfl (Nat.le_of_ble_eq_true rfl) hk hn ?_
        refine a_if_eq (pc := 60) 73 dX8_plain_60 (by decide) (fun c7 => ?_) (fun c7 => ?_)
        · have hf := (if_pos c7).symm.trans hf
          exact sX8_plain_73 hA hd hk hn ih hf
        · have hf := (if_neg c7).symm.trans hf
          refine a_aload_n (pc := 63) dX8_plain_63 rfl (isRv_r _) ?_
          refine a_iconst (pc := 64) (-1) dX8_plain_64 rfl ?_
          obtain ⟨r5, hr5, hf⟩ := Option.bind_eq_some_iff.mp hf
          refine m_call (pc := 65) (.int (r5.1)) [.int (-1)] [] hA dX8_plain_65 ml_X8_296 mv_X8_isWholeBut rfl rfl (by omega) (mX8_isWholeBut hA (by omega) hr5) rfl (Nat.le_of_ble_eq_true rfl) hk hn ?_
          refine a_if_eq (pc := 68) 73 dX8_plain_68 (by decide) (fun c6 => ?_) (fun c6 => ?_)
          · have hf := (if_pos c6).symm.trans hf
            exact sX8_plain_73 hA hd hk hn ih hf
          · have hf := (if_neg c6).symm.trans hf
            refine a_iload_n (pc := 71) dX8_plain_71 rfl ?_
            refine a_istore_n (pc := 72) (ls' := [some (.ref 26), some (.int l1), some (.int l3), some (.int l3)]) dX8_plain_72 (by decide) rfl ?_
            exact sX8_plain_73 hA hd hk hn ih hf
set_option maxHeartbeats 4000000 in
theorem sX8_plain_0 {l : Launch} {g : gE} {d MC MS' k n : Nat} {A D : List va_E} (hA : A.length = 26) (hd : 5 ≤ d) (hk : k ≤ MC) (hn : n ≤ MS') {r : Int32 × MS} {S : MS} {l1 : Int32} (hf : X8_plain_0 S l1 = some r) : AW l g d RX8 cX8_plain 4 "plain" MC MS' (Qr (some (.int r.1)) (mh A r.2 D)) k n 0 [some (.ref 26), some (.int l1), none, none] [] (mh A S D) := by
  unfold X8_plain_0 at hf
  refine a_aload_n (pc := 0) dX8_plain_0 rfl (isRv_r _) ?_
  refine a_iload_n (pc := 1) dX8_plain_1 rfl ?_
  obtain ⟨r1, hr1, hf⟩ := Option.bind_eq_some_iff.mp hf
  refine m_call (pc := 2) (.int (r1.1)) [.int l1] [] hA dX8_plain_2 ml_X8_203 mv_X8_isBargain rfl rfl (by omega) (mX8_isBargain hA (by omega) hr1) rfl (Nat.le_of_ble_eq_true rfl) hk hn ?_
  refine a_if_ne (pc := 5) 10 dX8_plain_5 (by decide) (fun c4 => ?_) (fun c4 => ?_)
  · have hf := (if_neg c4).symm.trans hf
    refine a_aload_n (pc := 10) dX8_plain_10 rfl (isRv_r _) ?_
    refine a_iload_n (pc := 11) dX8_plain_11 rfl ?_
    obtain ⟨r2, hr2, hf⟩ := Option.bind_eq_some_iff.mp hf
    refine m_callv (pc := 12) [.int l1] [] hA dX8_plain_12 ml_X8_270 mv_X8_readWhole rfl rfl (by omega) (mX8_readWhole hA (by omega) hr2) rfl (Nat.le_of_ble_eq_true rfl) hk hn ?_
    refine a_aload_n (pc := 15) dX8_plain_15 rfl (isRv_r _) ?_
    refine m_getS (pc := 16) hA dX8_plain_16 fl_X8_112 ks_33 ?_
    refine a_if_ge (pc := 19) 25 dX8_plain_19 (by decide) (fun c3 => ?_) (fun c3 => ?_)
    · have hf := (if_pos c3).symm.trans hf
      refine a_iconst (pc := 25) 0 dX8_plain_25 rfl ?_
      refine a_istore_n (pc := 26) (ls' := [some (.ref 26), some (.int l1), some (.int 0), none]) dX8_plain_26 (by decide) rfl ?_
      refine a_iconst (pc := 27) 1 dX8_plain_27 rfl ?_
      refine a_istore_n (pc := 28) (ls' := [some (.ref 26), some (.int l1), some (.int 0), some (.int 1)]) dX8_plain_28 (by decide) rfl ?_
      exact sX8_plain_29 hA hd hk hn FU r2.2 l1 0 1 hf
    · have hf := (if_neg c3).symm.trans hf
      refine a_bipush (pc := 22) (-3) dX8_plain_22 rfl ?_
      have hf := Option.some.inj hf
      subst hf
      exact a_ireturn (pc := 24) dX8_plain_24 hk hn ⟨rfl, rfl⟩
  · have hf := (if_pos c4).symm.trans hf
    refine a_iconst (pc := 8) (-1) dX8_plain_8 rfl ?_
    have hf := Option.some.inj hf
    subst hf
    exact a_ireturn (pc := 9) dX8_plain_9 hk hn ⟨rfl, rfl⟩
set_option maxHeartbeats 4000000 in
theorem mX8_plain {l : Launch} {g : gE} {d : Nat} {A D : List va_E} (hA : A.length = 26) (hd : 5 ≤ d) {r : Int32 × MS} {S : MS} {l1 : Int32} (hf : X8_plain S l1 = some r) : AM l g d yX8_plain cX8_plain 4 (some .int) 0 0 [.ref 26, .int l1] (mh A S D) (Qr (some (.int r.1)) (mh A r.2 D)) := by
  refine AM.of rfl (by exact Nat.le_of_ble_eq_true rfl) (fun v h' q => by obtain ⟨rfl, -⟩ := q; exact ⟨_, rfl, rfl⟩) (fun ls e => ?_)
  have e2 : aBeg [.ref 26, .int l1] 4 = [some (.ref 26), some (.int l1), none, none] := rfl
  rw [e2] at e
  subst e
  refine a_sub (sub_k (sub_k (sub_k (sub_k (sub_n))))) ?_
  exact sX8_plain_0 hA hd (Nat.le_refl _) (Nat.le_refl _) (hf)
-- PencilStrikesModel.ownSum(I)I
def X8_ownSum_102 (rec4 : MS → Int32 → Int32 → Int32 → Option (Int32 × MS)) (S : MS) (l1 : Int32) (l2 : Int32) (l3 : Int32) : Option (Int32 × MS) :=
  rec4 S l1 l2 (l3 + 1)
def X8_ownSum_100 (rec4 : MS → Int32 → Int32 → Int32 → Option (Int32 × MS)) (S : MS) (s0 : Int32) (s1 : Int32) (l1 : Int32) (l3 : Int32) : Option (Int32 × MS) :=
  X8_ownSum_102 rec4 S l1 (s0 + s1) l3
def X8_ownSum_99 (rec4 : MS → Int32 → Int32 → Int32 → Option (Int32 × MS)) (S : MS) (s0 : Int32) (s1 : Int32) (s2 : Int32) (l1 : Int32) (l3 : Int32) : Option (Int32 × MS) :=
  X8_ownSum_100 rec4 S s0 (s1 * s2) l1 l3
def X8_ownSum_4 : Nat → MS → Int32 → Int32 → Int32 → Option (Int32 × MS)
  | 0, _, _, _, _ => none
  | fn + 1, S, l1, l2, l3 =>
    if (S.1 28) ≤ l3 then
      some (l2, S)
    else
      (mA S 21 l3).bind fun x1 =>
      if x1 = l1 then
        (mA S 22 l3).bind fun x2 =>
        if x2 = 0 then
          X8_ownSum_102 (X8_ownSum_4 fn) S l1 l2 l3
        else
          (mA S 24 l3).bind fun x3 =>
          if x3 < 10 then
            (mA S 24 l3).bind fun x4 =>
            (mA S 19 x4).bind fun x5 =>
            (mA S 26 l3).bind fun x6 =>
            (mA S 23 l3).bind fun x7 =>
            if x7 = 1 then
              (mA S 25 l3).bind fun x8 =>
              X8_ownSum_99 (X8_ownSum_4 fn) S l2 (x5 * x6) x8 l1 l3
            else
              X8_ownSum_99 (X8_ownSum_4 fn) S l2 (x5 * x6) 1 l1 l3
          else
            (mA S 24 l3).bind fun x10 =>
            X8_ownSum_100 (X8_ownSum_4 fn) S l2 (10 * (x10 - 10)) l1 l3
      else
        X8_ownSum_102 (X8_ownSum_4 fn) S l1 l2 l3
def X8_ownSum_0 (S : MS) (l1 : Int32) : Option (Int32 × MS) :=
  X8_ownSum_4 FU S l1 0 0
def X8_ownSum (S : MS) (l1 : Int32) : Option (Int32 × MS) := X8_ownSum_0 S l1
set_option maxHeartbeats 4000000 in
theorem sX8_ownSum_102 {l : Launch} {g : gE} {d MC MS' k n : Nat} {A D : List va_E} (hA : A.length = 26) (hd : 0 ≤ d) (hk : k ≤ MC) (hn : n ≤ MS') {r : Int32 × MS} {rec4 : MS → Int32 → Int32 → Int32 → Option (Int32 × MS)} (hlp4 : ∀ (S : MS) (l1 : Int32) (l2 : Int32) (l3 : Int32), rec4 S l1 l2 l3 = some r → AW l g d RX8 cX8_ownSum 4 "ownSum" MC MS' (Qr (some (.int r.1)) (mh A r.2 D)) k n 4 [some (.ref 26), some (.int l1), some (.int l2), some (.int l3)] [] (mh A S D)) {S : MS} {l1 : Int32} {l2 : Int32} {l3 : Int32} (hf : X8_ownSum_102 rec4 S l1 l2 l3 = some r) : AW l g d RX8 cX8_ownSum 4 "ownSum" MC MS' (Qr (some (.int r.1)) (mh A r.2 D)) k n 102 [some (.ref 26), some (.int l1), some (.int l2), some (.int l3)] [] (mh A S D) := by
  unfold X8_ownSum_102 at hf
  refine a_iinc (pc := 102) (ls' := [some (.ref 26), some (.int l1), some (.int l2), some (.int (l3 + 1))]) (l3 + 1) dX8_ownSum_102 rfl rfl (by decide) rfl ?_
  refine a_goto (pc := 105) 4 dX8_ownSum_105 (by decide) ?_
  exact hlp4 S l1 l2 (l3 + 1) hf
set_option maxHeartbeats 4000000 in
theorem sX8_ownSum_100 {l : Launch} {g : gE} {d MC MS' k n : Nat} {A D : List va_E} (hA : A.length = 26) (hd : 0 ≤ d) (hk : k ≤ MC) (hn : n ≤ MS') {r : Int32 × MS} {rec4 : MS → Int32 → Int32 → Int32 → Option (Int32 × MS)} (hlp4 : ∀ (S : MS) (l1 : Int32) (l2 : Int32) (l3 : Int32), rec4 S l1 l2 l3 = some r → AW l g d RX8 cX8_ownSum 4 "ownSum" MC MS' (Qr (some (.int r.1)) (mh A r.2 D)) k n 4 [some (.ref 26), some (.int l1), some (.int l2), some (.int l3)] [] (mh A S D)) {S : MS} {s0 : Int32} {s1 : Int32} {l1 : Int32} {l3 : Int32} (hf : X8_ownSum_100 rec4 S s0 s1 l1 l3 = some r) : AW l g d RX8 cX8_ownSum 4 "ownSum" MC MS' (Qr (some (.int r.1)) (mh A r.2 D)) k n 100 [some (.ref 26), some (.int l1), none, some (.int l3)] [.int s1, .int s0] (mh A S D) := by
  unfold X8_ownSum_100 at hf
  refine a_iadd (pc := 100) dX8_ownSum_100 ?_
  refine a_istore_n (pc := 101) (ls' := [some (.ref 26), some (.int l1), some (.int (s0 + s1)), some (.int l3)]) dX8_ownSum_101 (by decide) rfl ?_
  exact sX8_ownSum_102 hA hd hk hn hlp4 hf
set_option maxHeartbeats 4000000 in
theorem sX8_ownSum_99 {l : Launch} {g : gE} {d MC MS' k n : Nat} {A D : List va_E} (hA : A.length = 26) (hd : 0 ≤ d) (hk : k ≤ MC) (hn : n ≤ MS') {r : Int32 × MS} {rec4 : MS → Int32 → Int32 → Int32 → Option (Int32 × MS)} (hlp4 : ∀ (S : MS) (l1 : Int32) (l2 : Int32) (l3 : Int32), rec4 S l1 l2 l3 = some r → AW l g d RX8 cX8_ownSum 4 "ownSum" MC MS' (Qr (some (.int r.1)) (mh A r.2 D)) k n 4 [some (.ref 26), some (.int l1), some (.int l2), some (.int l3)] [] (mh A S D)) {S : MS} {s0 : Int32} {s1 : Int32} {s2 : Int32} {l1 : Int32} {l3 : Int32} (hf : X8_ownSum_99 rec4 S s0 s1 s2 l1 l3 = some r) : AW l g d RX8 cX8_ownSum 4 "ownSum" MC MS' (Qr (some (.int r.1)) (mh A r.2 D)) k n 99 [some (.ref 26), some (.int l1), none, some (.int l3)] [.int s2, .int s1, .int s0] (mh A S D) := by
  unfold X8_ownSum_99 at hf
  refine a_imul (pc := 99) dX8_ownSum_99 ?_
  exact sX8_ownSum_100 hA hd hk hn hlp4 hf
set_option maxHeartbeats 4000000 in
theorem sX8_ownSum_4 {l : Launch} {g : gE} {d MC MS' k n : Nat} {A D : List va_E} (hA : A.length = 26) (hd : 0 ≤ d) (hk : k ≤ MC) (hn : n ≤ MS') {r : Int32 × MS} : ∀ (fn : Nat) (S : MS) (l1 : Int32) (l2 : Int32) (l3 : Int32), X8_ownSum_4 fn S l1 l2 l3 = some r → AW l g d RX8 cX8_ownSum 4 "ownSum" MC MS' (Qr (some (.int r.1)) (mh A r.2 D)) k n 4 [some (.ref 26), some (.int l1), some (.int l2), some (.int l3)] [] (mh A S D) := by
  intro fn
  induction fn with
  | zero =>
    intro S l1 l2 l3 hf
    rw [X8_ownSum_4] at hf
    cases hf
  | succ fn ih =>
    intro S l1 l2 l3 hf
    rw [X8_ownSum_4] at hf
    refine a_iload_n (pc := 4) dX8_ownSum_4 rfl ?_
    refine a_aload_n (pc := 5) dX8_ownSum_5 rfl (isRv_r _) ?_
    refine m_getS (pc := 6) hA dX8_ownSum_6 fl_X8_95 ks_28 ?_
    refine a_icmp_ge (pc := 9) 108 dX8_ownSum_9 (by decide) (fun c14 => ?_) (fun c14 => ?_)
    · have hf := (if_pos c14).symm.trans hf
      refine a_iload_n (pc := 108) dX8_ownSum_108 rfl ?_
      have hf := Option.some.inj hf
      subst hf
      exact a_ireturn (pc := 109) dX8_ownSum_109 hk hn ⟨rfl, rfl⟩
    · have hf := (if_neg c14).symm.trans hf
      refine a_aload_n (pc := 12) dX8_ownSum_12 rfl (isRv_r _) ?_
      refine m_getA (pc := 13) 40 hA dX8_ownSum_13 fl_X8_74 (Or.inl ki_21) rfl ?_
      refine a_iload_n (pc := 16) dX8_ownSum_16 rfl ?_
      obtain ⟨x1, hx1, hf⟩ := Option.bind_eq_some_iff.mp hf
      refine m_ald (pc := 17) 40 hA dX8_ownSum_17 ki_21 rfl hx1 ?_
      refine a_iload_n (pc := 18) dX8_ownSum_18 rfl ?_
      refine a_icmp_ne (pc := 19) 102 dX8_ownSum_19 (by decide) (fun c13 => ?_) (fun c13 => ?_)
      · have hf := (if_neg c13).symm.trans hf
        exact sX8_ownSum_102 hA hd hk hn ih hf
      · have hf := (if_pos c13).symm.trans hf
        refine a_aload_n (pc := 22) dX8_ownSum_22 rfl (isRv_r _) ?_
        refine m_getA (pc := 23) 41 hA dX8_ownSum_23 fl_X8_77 (Or.inl ki_22) rfl ?_
        refine a_iload_n (pc := 26) dX8_ownSum_26 rfl ?_
        obtain ⟨x2, hx2, hf⟩ := Option.bind_eq_some_iff.mp hf
        refine m_ald (pc := 27) 41 hA dX8_ownSum_27 ki_22 rfl hx2 ?_
        refine a_if_ne (pc := 28) 34 dX8_ownSum_28 (by decide) (fun c12 => ?_) (fun c12 => ?_)
        · have hf := (if_neg c12).symm.trans hf
          refine a_iload_n (pc := 34) dX8_ownSum_34 rfl ?_
          refine a_aload_n (pc := 35) dX8_ownSum_35 rfl (isRv_r _) ?_
          refine m_getA (pc := 36) 43 hA dX8_ownSum_36 fl_X8_83 (Or.inl ki_24) rfl ?_
          refine a_iload_n (pc := 39) dX8_ownSum_39 rfl ?_
          obtain ⟨x3, hx3, hf⟩ := Option.bind_eq_some_iff.mp hf
          refine m_ald (pc := 40) 43 hA dX8_ownSum_40 ki_24 rfl hx3 ?_
          refine a_bipush (pc := 41) 10 dX8_ownSum_41 rfl ?_
          refine a_icmp_lt (pc := 43) 61 dX8_ownSum_43 (by decide) (fun c11 => ?_) (fun c11 => ?_)
          · have hf := (if_pos c11).symm.trans hf
            refine a_aload_n (pc := 61) dX8_ownSum_61 rfl (isRv_r _) ?_
            refine m_getA (pc := 62) 38 hA dX8_ownSum_62 fl_X8_68 (Or.inl ki_19) rfl ?_
            refine a_aload_n (pc := 65) dX8_ownSum_65 rfl (isRv_r _) ?_
            refine m_getA (pc := 66) 43 hA dX8_ownSum_66 fl_X8_83 (Or.inl ki_24) rfl ?_
            refine a_iload_n (pc := 69) dX8_ownSum_69 rfl ?_
            obtain ⟨x4, hx4, hf⟩ := Option.bind_eq_some_iff.mp hf
            refine m_ald (pc := 70) 43 hA dX8_ownSum_70 ki_24 rfl hx4 ?_
            obtain ⟨x5, hx5, hf⟩ := Option.bind_eq_some_iff.mp hf
            refine m_ald (pc := 71) 38 hA dX8_ownSum_71 ki_19 rfl hx5 ?_
            refine a_aload_n (pc := 72) dX8_ownSum_72 rfl (isRv_r _) ?_
            refine m_getA (pc := 73) 45 hA dX8_ownSum_73 fl_X8_89 (Or.inl ki_26) rfl ?_
            refine a_iload_n (pc := 76) dX8_ownSum_76 rfl ?_
            obtain ⟨x6, hx6, hf⟩ := Option.bind_eq_some_iff.mp hf
            refine m_ald (pc := 77) 45 hA dX8_ownSum_77 ki_26 rfl hx6 ?_
            refine a_imul (pc := 78) dX8_ownSum_78 ?_
            refine a_aload_n (pc := 79) dX8_ownSum_79 rfl (isRv_r _) ?_
            refine m_getA (pc := 80) 42 hA dX8_ownSum_80 fl_X8_80 (Or.inl ki_23) rfl ?_
            refine a_iload_n (pc := 83) dX8_ownSum_83 rfl ?_
            obtain ⟨x7, hx7, hf⟩ := Option.bind_eq_some_iff.mp hf
            refine m_ald (pc := 84) 42 hA dX8_ownSum_84 ki_23 rfl hx7 ?_
            refine a_iconst (pc := 85) 1 dX8_ownSum_85 rfl ?_
            refine a_icmp_ne (pc := 86) 98 dX8_ownSum_86 (by decide) (fun c9 => ?_) (fun c9 => ?_)
            · have hf := (if_neg c9).symm.trans hf
              refine a_iconst (pc := 98) 1 dX8_ownSum_98 rfl ?_
              refine a_sub (sub_k (sub_k (sub_d (sub_k sub_n)))) ?_
              exact sX8_ownSum_99 hA hd hk hn ih hf
            · have hf := (if_pos c9).symm.trans hf
              refine a_aload_n (pc := 89) dX8_ownSum_89 rfl (isRv_r _) ?_
              refine m_getA (pc := 90) 44 hA dX8_ownSum_90 fl_X8_86 (Or.inl ki_25) rfl ?_
              refine a_iload_n (pc := 93) dX8_ownSum_93 rfl ?_
              obtain ⟨x8, hx8, hf⟩ := Option.bind_eq_some_iff.mp hf
              refine m_ald (pc := 94) 44 hA dX8_ownSum_94 ki_25 rfl hx8 ?_
              refine a_goto (pc := 95) 99 dX8_ownSum_95 (by decide) ?_
              refine a_sub (sub_k (sub_k (sub_d (sub_k sub_n)))) ?_
              exact sX8_ownSum_99 hA hd hk hn ih hf
          · have hf := (if_neg c11).symm.trans hf
            refine a_bipush (pc := 46) 10 dX8_ownSum_46 rfl ?_
            refine a_aload_n (pc := 48) dX8_ownSum_48 rfl (isRv_r _) ?_
            refine m_getA (pc := 49) 43 hA dX8_ownSum_49 fl_X8_83 (Or.inl ki_24) rfl ?_
            refine a_iload_n (pc := 52) dX8_ownSum_52 rfl ?_
            obtain ⟨x10, hx10, hf⟩ := Option.bind_eq_some_iff.mp hf
            refine m_ald (pc := 53) 43 hA dX8_ownSum_53 ki_24 rfl hx10 ?_
            refine a_bipush (pc := 54) 10 dX8_ownSum_54 rfl ?_
            refine a_isub (pc := 56) dX8_ownSum_56 ?_
            refine a_imul (pc := 57) dX8_ownSum_57 ?_
            refine a_goto (pc := 58) 100 dX8_ownSum_58 (by decide) ?_
            refine a_sub (sub_k (sub_k (sub_d (sub_k sub_n)))) ?_
            exact sX8_ownSum_100 hA hd hk hn ih hf
        · have hf := (if_pos c12).symm.trans hf
          refine a_goto (pc := 31) 102 dX8_ownSum_31 (by decide) ?_
          exact sX8_ownSum_102 hA hd hk hn ih hf
set_option maxHeartbeats 4000000 in
theorem sX8_ownSum_0 {l : Launch} {g : gE} {d MC MS' k n : Nat} {A D : List va_E} (hA : A.length = 26) (hd : 0 ≤ d) (hk : k ≤ MC) (hn : n ≤ MS') {r : Int32 × MS} {S : MS} {l1 : Int32} (hf : X8_ownSum_0 S l1 = some r) : AW l g d RX8 cX8_ownSum 4 "ownSum" MC MS' (Qr (some (.int r.1)) (mh A r.2 D)) k n 0 [some (.ref 26), some (.int l1), none, none] [] (mh A S D) := by
  unfold X8_ownSum_0 at hf
  refine a_iconst (pc := 0) 0 dX8_ownSum_0 rfl ?_
  refine a_istore_n (pc := 1) (ls' := [some (.ref 26), some (.int l1), some (.int 0), none]) dX8_ownSum_1 (by decide) rfl ?_
  refine a_iconst (pc := 2) 0 dX8_ownSum_2 rfl ?_
  refine a_istore_n (pc := 3) (ls' := [some (.ref 26), some (.int l1), some (.int 0), some (.int 0)]) dX8_ownSum_3 (by decide) rfl ?_
  exact sX8_ownSum_4 hA hd hk hn FU S l1 0 0 hf
set_option maxHeartbeats 4000000 in
theorem mX8_ownSum {l : Launch} {g : gE} {d : Nat} {A D : List va_E} (hA : A.length = 26) (hd : 0 ≤ d) {r : Int32 × MS} {S : MS} {l1 : Int32} (hf : X8_ownSum S l1 = some r) : AM l g d yX8_ownSum cX8_ownSum 4 (some .int) 0 0 [.ref 26, .int l1] (mh A S D) (Qr (some (.int r.1)) (mh A r.2 D)) := by
  refine AM.of rfl (by exact Nat.le_of_ble_eq_true rfl) (fun v h' q => by obtain ⟨rfl, -⟩ := q; exact ⟨_, rfl, rfl⟩) (fun ls e => ?_)
  have e2 : aBeg [.ref 26, .int l1] 4 = [some (.ref 26), some (.int l1), none, none] := rfl
  rw [e2] at e
  subst e
  refine a_sub (sub_k (sub_k (sub_k (sub_k (sub_n))))) ?_
  exact sX8_ownSum_0 hA hd (Nat.le_refl _) (Nat.le_refl _) (hf)
-- PencilStrikesModel.costOf(I)I
def X8_costOf_0 (S : MS) (l1 : Int32) : Option (Int32 × MS) :=
  (X8_ownSum S l1).bind fun r1 =>
  (X8_ownSum r1.2 (1 - l1)).bind fun r2 =>
  some ((r1.1 - (r2.1 / 2)), r2.2)
def X8_costOf (S : MS) (l1 : Int32) : Option (Int32 × MS) := X8_costOf_0 S l1
set_option maxHeartbeats 4000000 in
theorem sX8_costOf_0 {l : Launch} {g : gE} {d MC MS' k n : Nat} {A D : List va_E} (hA : A.length = 26) (hd : 1 ≤ d) (hk : k ≤ MC) (hn : n ≤ MS') {r : Int32 × MS} {S : MS} {l1 : Int32} (hf : X8_costOf_0 S l1 = some r) : AW l g d RX8 cX8_costOf 2 "costOf" MC MS' (Qr (some (.int r.1)) (mh A r.2 D)) k n 0 [some (.ref 26), some (.int l1)] [] (mh A S D) := by
  unfold X8_costOf_0 at hf
  refine a_aload_n (pc := 0) dX8_costOf_0 rfl (isRv_r _) ?_
  refine a_iload_n (pc := 1) dX8_costOf_1 rfl ?_
  obtain ⟨r1, hr1, hf⟩ := Option.bind_eq_some_iff.mp hf
  refine m_call (pc := 2) (.int (r1.1)) [.int l1] [] hA dX8_costOf_2 ml_X8_299 mv_X8_ownSum rfl rfl (by omega) (mX8_ownSum hA (by omega) hr1) rfl (Nat.le_of_ble_eq_true rfl) hk hn ?_
  refine a_aload_n (pc := 5) dX8_costOf_5 rfl (isRv_r _) ?_
  refine a_iconst (pc := 6) 1 dX8_costOf_6 rfl ?_
  refine a_iload_n (pc := 7) dX8_costOf_7 rfl ?_
  refine a_isub (pc := 8) dX8_costOf_8 ?_
  obtain ⟨r2, hr2, hf⟩ := Option.bind_eq_some_iff.mp hf
  refine m_call (pc := 9) (.int (r2.1)) [.int (1 - l1)] [.int (r1.1)] hA dX8_costOf_9 ml_X8_299 mv_X8_ownSum rfl rfl (by omega) (mX8_ownSum hA (by omega) hr2) rfl (Nat.le_of_ble_eq_true rfl) hk hn ?_
  refine a_iconst (pc := 12) 2 dX8_costOf_12 rfl ?_
  refine a_idiv (pc := 13) dX8_costOf_13 (by decide) ?_
  refine a_isub (pc := 14) dX8_costOf_14 ?_
  have hf := Option.some.inj hf
  subst hf
  exact a_ireturn (pc := 15) dX8_costOf_15 hk hn ⟨rfl, rfl⟩
set_option maxHeartbeats 4000000 in
theorem mX8_costOf {l : Launch} {g : gE} {d : Nat} {A D : List va_E} (hA : A.length = 26) (hd : 1 ≤ d) {r : Int32 × MS} {S : MS} {l1 : Int32} (hf : X8_costOf S l1 = some r) : AM l g d yX8_costOf cX8_costOf 2 (some .int) 0 0 [.ref 26, .int l1] (mh A S D) (Qr (some (.int r.1)) (mh A r.2 D)) := by
  refine AM.of rfl (by exact Nat.le_of_ble_eq_true rfl) (fun v h' q => by obtain ⟨rfl, -⟩ := q; exact ⟨_, rfl, rfl⟩) (fun ls e => ?_)
  have e2 : aBeg [.ref 26, .int l1] 2 = [some (.ref 26), some (.int l1)] := rfl
  rw [e2] at e
  subst e
  refine a_sub (sub_k (sub_k (sub_n))) ?_
  exact sX8_costOf_0 hA hd (Nat.le_refl _) (Nat.le_refl _) (hf)
-- PencilStrikesModel.cost(III)J
def X8_cost_36 (S : MS) : Option (Int64 × MS) :=
  some ((-9223372036854775808 : Int64), S)
def X8_cost_0 (S : MS) (l1 : Int32) (l2 : Int32) (l3 : Int32) : Option (Int64 × MS) :=
  (X8_isBargain S l1).bind fun r1 =>
  if r1.1 = 0 then
    X8_cost_36 r1.2
  else
    (X8_isSet r1.2 l1 l2).bind fun r2 =>
    if r2.1 = 0 then
      X8_cost_36 r2.2
    else
      (X8_in r2.2 l3 0 1).bind fun r3 =>
      if r3.1 = 0 then
        X8_cost_36 r3.2
      else
        (X8_readsLeft r3.2 l1 l2).bind fun r4 =>
        if r4.1 = 0 then
          X8_cost_36 r4.2
        else
          (X8_costOf r4.2 l3).bind fun r5 =>
          some (((r5.1).toInt64), r5.2)
def X8_cost (S : MS) (l1 : Int32) (l2 : Int32) (l3 : Int32) : Option (Int64 × MS) := X8_cost_0 S l1 l2 l3
set_option maxHeartbeats 4000000 in
theorem sX8_cost_36 {l : Launch} {g : gE} {d MC MS' k n : Nat} {A D : List va_E} (hA : A.length = 26) (hd : 4 ≤ d) (hk : k ≤ MC) (hn : n ≤ MS') {r : Int64 × MS} {S : MS} (hf : X8_cost_36 S = some r) : AW l g d RX8 cX8_cost 4 "cost" MC MS' (Qr (some (.long r.1)) (mh A r.2 D)) k n 36 [none, none, none, none] [] (mh A S D) := by
  unfold X8_cost_36 at hf
  refine a_ldc2 (pc := 36) (-9223372036854775808 : Int64) dX8_cost_36 kc_X8_233 ?_
  have hf := Option.some.inj hf
  subst hf
  exact a_lreturn (pc := 39) dX8_cost_39 hk hn ⟨rfl, rfl⟩
set_option maxHeartbeats 4000000 in
theorem sX8_cost_0 {l : Launch} {g : gE} {d MC MS' k n : Nat} {A D : List va_E} (hA : A.length = 26) (hd : 4 ≤ d) (hk : k ≤ MC) (hn : n ≤ MS') {r : Int64 × MS} {S : MS} {l1 : Int32} {l2 : Int32} {l3 : Int32} (hf : X8_cost_0 S l1 l2 l3 = some r) : AW l g d RX8 cX8_cost 4 "cost" MC MS' (Qr (some (.long r.1)) (mh A r.2 D)) k n 0 [some (.ref 26), some (.int l1), some (.int l2), some (.int l3)] [] (mh A S D) := by
  unfold X8_cost_0 at hf
  refine a_aload_n (pc := 0) dX8_cost_0 rfl (isRv_r _) ?_
  refine a_iload_n (pc := 1) dX8_cost_1 rfl ?_
  obtain ⟨r1, hr1, hf⟩ := Option.bind_eq_some_iff.mp hf
  refine m_call (pc := 2) (.int (r1.1)) [.int l1] [] hA dX8_cost_2 ml_X8_203 mv_X8_isBargain rfl rfl (by omega) (mX8_isBargain hA (by omega) hr1) rfl (Nat.le_of_ble_eq_true rfl) hk hn ?_
  refine a_if_eq (pc := 5) 36 dX8_cost_5 (by decide) (fun c9 => ?_) (fun c9 => ?_)
  · have hf := (if_pos c9).symm.trans hf
    refine a_sub (sub_d (sub_d (sub_d (sub_d sub_n)))) ?_
    exact sX8_cost_36 hA hd hk hn hf
  · have hf := (if_neg c9).symm.trans hf
    refine a_aload_n (pc := 8) dX8_cost_8 rfl (isRv_r _) ?_
    refine a_iload_n (pc := 9) dX8_cost_9 rfl ?_
    refine a_iload_n (pc := 10) dX8_cost_10 rfl ?_
    obtain ⟨r2, hr2, hf⟩ := Option.bind_eq_some_iff.mp hf
    refine m_call (pc := 11) (.int (r2.1)) [.int l1, .int l2] [] hA dX8_cost_11 ml_X8_227 mv_X8_isSet rfl rfl (by omega) (mX8_isSet hA (by omega) hr2) rfl (Nat.le_of_ble_eq_true rfl) hk hn ?_
    refine a_if_eq (pc := 14) 36 dX8_cost_14 (by decide) (fun c8 => ?_) (fun c8 => ?_)
    · have hf := (if_pos c8).symm.trans hf
      refine a_sub (sub_d (sub_d (sub_d (sub_d sub_n)))) ?_
      exact sX8_cost_36 hA hd hk hn hf
    · have hf := (if_neg c8).symm.trans hf
      refine a_aload_n (pc := 17) dX8_cost_17 rfl (isRv_r _) ?_
      refine a_iload_n (pc := 18) dX8_cost_18 rfl ?_
      refine a_iconst (pc := 19) 0 dX8_cost_19 rfl ?_
      refine a_iconst (pc := 20) 1 dX8_cost_20 rfl ?_
      obtain ⟨r3, hr3, hf⟩ := Option.bind_eq_some_iff.mp hf
      refine m_call (pc := 21) (.int (r3.1)) [.int l3, .int 0, .int 1] [] hA dX8_cost_21 ml_X8_142 mv_X8_in rfl rfl (by omega) (mX8_in hA (by omega) hr3) rfl (Nat.le_of_ble_eq_true rfl) hk hn ?_
      refine a_if_eq (pc := 24) 36 dX8_cost_24 (by decide) (fun c7 => ?_) (fun c7 => ?_)
      · have hf := (if_pos c7).symm.trans hf
        refine a_sub (sub_d (sub_d (sub_d (sub_d sub_n)))) ?_
        exact sX8_cost_36 hA hd hk hn hf
      · have hf := (if_neg c7).symm.trans hf
        refine a_aload_n (pc := 27) dX8_cost_27 rfl (isRv_r _) ?_
        refine a_iload_n (pc := 28) dX8_cost_28 rfl ?_
        refine a_iload_n (pc := 29) dX8_cost_29 rfl ?_
        obtain ⟨r4, hr4, hf⟩ := Option.bind_eq_some_iff.mp hf
        refine m_call (pc := 30) (.int (r4.1)) [.int l1, .int l2] [] hA dX8_cost_30 ml_X8_230 mv_X8_readsLeft rfl rfl (by omega) (mX8_readsLeft hA (by omega) hr4) rfl (Nat.le_of_ble_eq_true rfl) hk hn ?_
        refine a_if_ne (pc := 33) 40 dX8_cost_33 (by decide) (fun c6 => ?_) (fun c6 => ?_)
        · have hf := (if_neg c6).symm.trans hf
          refine a_aload_n (pc := 40) dX8_cost_40 rfl (isRv_r _) ?_
          refine a_iload_n (pc := 41) dX8_cost_41 rfl ?_
          obtain ⟨r5, hr5, hf⟩ := Option.bind_eq_some_iff.mp hf
          refine m_call (pc := 42) (.int (r5.1)) [.int l3] [] hA dX8_cost_42 ml_X8_302 mv_X8_costOf rfl rfl (by omega) (mX8_costOf hA (by omega) hr5) rfl (Nat.le_of_ble_eq_true rfl) hk hn ?_
          refine a_i2l (pc := 45) dX8_cost_45 ?_
          have hf := Option.some.inj hf
          subst hf
          exact a_lreturn (pc := 46) dX8_cost_46 hk hn ⟨rfl, rfl⟩
        · have hf := (if_pos c6).symm.trans hf
          refine a_sub (sub_d (sub_d (sub_d (sub_d sub_n)))) ?_
          exact sX8_cost_36 hA hd hk hn hf
set_option maxHeartbeats 4000000 in
theorem mX8_cost {l : Launch} {g : gE} {d : Nat} {A D : List va_E} (hA : A.length = 26) (hd : 4 ≤ d) {r : Int64 × MS} {S : MS} {l1 : Int32} {l2 : Int32} {l3 : Int32} (hf : X8_cost S l1 l2 l3 = some r) : AM l g d yX8_cost cX8_cost 4 (some .long) 0 0 [.ref 26, .int l1, .int l2, .int l3] (mh A S D) (Qr (some (.long r.1)) (mh A r.2 D)) := by
  refine AM.of rfl (by exact Nat.le_of_ble_eq_true rfl) (fun v h' q => by obtain ⟨rfl, -⟩ := q; rfl) (fun ls e => ?_)
  have e2 : aBeg [.ref 26, .int l1, .int l2, .int l3] 4 = [some (.ref 26), some (.int l1), some (.int l2), some (.int l3)] := rfl
  rw [e2] at e
  subst e
  refine a_sub (sub_k (sub_k (sub_k (sub_k (sub_n))))) ?_
  exact sX8_cost_0 hA hd (Nat.le_refl _) (Nat.le_refl _) (hf)
-- PencilStrikesModel.weigh(III)I
def X8_weigh_57 (S : MS) (s0 : Int32) : Option (Int32 × MS) :=
  some (s0, S)
def X8_weigh_49 (S : MS) (l5 : Int32) : Option (Int32 × MS) :=
  X8_weigh_57 S l5
def X8_weigh_32 (S : MS) (s0 : Int32) (l3 : Int32) (l4 : Int32) : Option (Int32 × MS) :=
  if l4 = 0 then
    X8_weigh_49 S s0
  else
    if l3 < 2 then
      X8_weigh_49 S s0
    else
      if s0 < 0 then
        X8_weigh_57 S ((-s0))
      else
        X8_weigh_49 S s0
def X8_weigh_0 (S : MS) (l1 : Int32) (l2 : Int32) (l3 : Int32) : Option (Int32 × MS) :=
  (X8_readsLeft S l1 l2).bind fun r1 =>
  if 2 ≤ l3 then
    (X8_costOf r1.2 0).bind fun r2 =>
    (X8_costOf r2.2 1).bind fun r3 =>
    X8_weigh_32 r3.2 (r2.1 - r3.1) l3 r1.1
  else
    (X8_costOf r1.2 l3).bind fun r4 =>
    X8_weigh_32 r4.2 r4.1 l3 r1.1
def X8_weigh (S : MS) (l1 : Int32) (l2 : Int32) (l3 : Int32) : Option (Int32 × MS) := X8_weigh_0 S l1 l2 l3
set_option maxHeartbeats 4000000 in
theorem sX8_weigh_57 {l : Launch} {g : gE} {d MC MS' k n : Nat} {A D : List va_E} (hA : A.length = 26) (hd : 4 ≤ d) (hk : k ≤ MC) (hn : n ≤ MS') {r : Int32 × MS} {S : MS} {s0 : Int32} (hf : X8_weigh_57 S s0 = some r) : AW l g d RX8 cX8_weigh 6 "weigh" MC MS' (Qr (some (.int r.1)) (mh A r.2 D)) k n 57 [none, none, none, none, none, none] [.int s0] (mh A S D) := by
  unfold X8_weigh_57 at hf
  have hf := Option.some.inj hf
  subst hf
  exact a_ireturn (pc := 57) dX8_weigh_57 hk hn ⟨rfl, rfl⟩
set_option maxHeartbeats 4000000 in
theorem sX8_weigh_49 {l : Launch} {g : gE} {d MC MS' k n : Nat} {A D : List va_E} (hA : A.length = 26) (hd : 4 ≤ d) (hk : k ≤ MC) (hn : n ≤ MS') {r : Int32 × MS} {S : MS} {l5 : Int32} (hf : X8_weigh_49 S l5 = some r) : AW l g d RX8 cX8_weigh 6 "weigh" MC MS' (Qr (some (.int r.1)) (mh A r.2 D)) k n 49 [none, none, none, none, none, some (.int l5)] [] (mh A S D) := by
  unfold X8_weigh_49 at hf
  refine a_iload (pc := 49) dX8_weigh_49 rfl ?_
  refine a_goto (pc := 51) 57 dX8_weigh_51 (by decide) ?_
  refine a_sub (sub_k (sub_k (sub_k (sub_k (sub_k (sub_d sub_n)))))) ?_
  exact sX8_weigh_57 hA hd hk hn hf
set_option maxHeartbeats 4000000 in
theorem sX8_weigh_32 {l : Launch} {g : gE} {d MC MS' k n : Nat} {A D : List va_E} (hA : A.length = 26) (hd : 4 ≤ d) (hk : k ≤ MC) (hn : n ≤ MS') {r : Int32 × MS} {S : MS} {s0 : Int32} {l3 : Int32} {l4 : Int32} (hf : X8_weigh_32 S s0 l3 l4 = some r) : AW l g d RX8 cX8_weigh 6 "weigh" MC MS' (Qr (some (.int r.1)) (mh A r.2 D)) k n 32 [none, none, none, some (.int l3), some (.int l4), none] [.int s0] (mh A S D) := by
  unfold X8_weigh_32 at hf
  refine a_istore (pc := 32) (ls' := [none, none, none, some (.int l3), some (.int l4), some (.int s0)]) dX8_weigh_32 (by decide) rfl ?_
  refine a_iload (pc := 34) dX8_weigh_34 rfl ?_
  refine a_if_eq (pc := 36) 49 dX8_weigh_36 (by decide) (fun c3 => ?_) (fun c3 => ?_)
  · have hf := (if_pos c3).symm.trans hf
    refine a_sub (sub_k (sub_k (sub_k (sub_d (sub_d (sub_k sub_n)))))) ?_
    exact sX8_weigh_49 hA hd hk hn hf
  · have hf := (if_neg c3).symm.trans hf
    refine a_iload_n (pc := 39) dX8_weigh_39 rfl ?_
    refine a_iconst (pc := 40) 2 dX8_weigh_40 rfl ?_
    refine a_icmp_lt (pc := 41) 49 dX8_weigh_41 (by decide) (fun c2 => ?_) (fun c2 => ?_)
    · have hf := (if_pos c2).symm.trans hf
      refine a_sub (sub_k (sub_k (sub_k (sub_d (sub_d (sub_k sub_n)))))) ?_
      exact sX8_weigh_49 hA hd hk hn hf
    · have hf := (if_neg c2).symm.trans hf
      refine a_iload (pc := 44) dX8_weigh_44 rfl ?_
      refine a_if_lt (pc := 46) 54 dX8_weigh_46 (by decide) (fun c1 => ?_) (fun c1 => ?_)
      · have hf := (if_pos c1).symm.trans hf
        refine a_iload (pc := 54) dX8_weigh_54 rfl ?_
        refine a_ineg (pc := 56) dX8_weigh_56 ?_
        refine a_sub (sub_k (sub_k (sub_k (sub_d (sub_d (sub_d sub_n)))))) ?_
        exact sX8_weigh_57 hA hd hk hn hf
      · have hf := (if_neg c1).symm.trans hf
        refine a_sub (sub_k (sub_k (sub_k (sub_d (sub_d (sub_k sub_n)))))) ?_
        exact sX8_weigh_49 hA hd hk hn hf
set_option maxHeartbeats 4000000 in
theorem sX8_weigh_0 {l : Launch} {g : gE} {d MC MS' k n : Nat} {A D : List va_E} (hA : A.length = 26) (hd : 4 ≤ d) (hk : k ≤ MC) (hn : n ≤ MS') {r : Int32 × MS} {S : MS} {l1 : Int32} {l2 : Int32} {l3 : Int32} (hf : X8_weigh_0 S l1 l2 l3 = some r) : AW l g d RX8 cX8_weigh 6 "weigh" MC MS' (Qr (some (.int r.1)) (mh A r.2 D)) k n 0 [some (.ref 26), some (.int l1), some (.int l2), some (.int l3), none, none] [] (mh A S D) := by
  unfold X8_weigh_0 at hf
  refine a_aload_n (pc := 0) dX8_weigh_0 rfl (isRv_r _) ?_
  refine a_iload_n (pc := 1) dX8_weigh_1 rfl ?_
  refine a_iload_n (pc := 2) dX8_weigh_2 rfl ?_
  obtain ⟨r1, hr1, hf⟩ := Option.bind_eq_some_iff.mp hf
  refine m_call (pc := 3) (.int (r1.1)) [.int l1, .int l2] [] hA dX8_weigh_3 ml_X8_230 mv_X8_readsLeft rfl rfl (by omega) (mX8_readsLeft hA (by omega) hr1) rfl (Nat.le_of_ble_eq_true rfl) hk hn ?_
  refine a_istore (pc := 6) (ls' := [some (.ref 26), some (.int l1), some (.int l2), some (.int l3), some (.int (r1.1)), none]) dX8_weigh_6 (by decide) rfl ?_
  refine a_iload_n (pc := 8) dX8_weigh_8 rfl ?_
  refine a_iconst (pc := 9) 2 dX8_weigh_9 rfl ?_
  refine a_icmp_ge (pc := 10) 21 dX8_weigh_10 (by decide) (fun c5 => ?_) (fun c5 => ?_)
  · have hf := (if_pos c5).symm.trans hf
    refine a_aload_n (pc := 21) dX8_weigh_21 rfl (isRv_r _) ?_
    refine a_iconst (pc := 22) 0 dX8_weigh_22 rfl ?_
    obtain ⟨r2, hr2, hf⟩ := Option.bind_eq_some_iff.mp hf
    refine m_call (pc := 23) (.int (r2.1)) [.int 0] [] hA dX8_weigh_23 ml_X8_302 mv_X8_costOf rfl rfl (by omega) (mX8_costOf hA (by omega) hr2) rfl (Nat.le_of_ble_eq_true rfl) hk hn ?_
    refine a_aload_n (pc := 26) dX8_weigh_26 rfl (isRv_r _) ?_
    refine a_iconst (pc := 27) 1 dX8_weigh_27 rfl ?_
    obtain ⟨r3, hr3, hf⟩ := Option.bind_eq_some_iff.mp hf
    refine m_call (pc := 28) (.int (r3.1)) [.int 1] [.int (r2.1)] hA dX8_weigh_28 ml_X8_302 mv_X8_costOf rfl rfl (by omega) (mX8_costOf hA (by omega) hr3) rfl (Nat.le_of_ble_eq_true rfl) hk hn ?_
    refine a_isub (pc := 31) dX8_weigh_31 ?_
    refine a_sub (sub_d (sub_d (sub_d (sub_k (sub_k (sub_k sub_n)))))) ?_
    exact sX8_weigh_32 hA hd hk hn hf
  · have hf := (if_neg c5).symm.trans hf
    refine a_aload_n (pc := 13) dX8_weigh_13 rfl (isRv_r _) ?_
    refine a_iload_n (pc := 14) dX8_weigh_14 rfl ?_
    obtain ⟨r4, hr4, hf⟩ := Option.bind_eq_some_iff.mp hf
    refine m_call (pc := 15) (.int (r4.1)) [.int l3] [] hA dX8_weigh_15 ml_X8_302 mv_X8_costOf rfl rfl (by omega) (mX8_costOf hA (by omega) hr4) rfl (Nat.le_of_ble_eq_true rfl) hk hn ?_
    refine a_goto (pc := 18) 32 dX8_weigh_18 (by decide) ?_
    refine a_sub (sub_d (sub_d (sub_d (sub_k (sub_k (sub_k sub_n)))))) ?_
    exact sX8_weigh_32 hA hd hk hn hf
set_option maxHeartbeats 4000000 in
theorem mX8_weigh {l : Launch} {g : gE} {d : Nat} {A D : List va_E} (hA : A.length = 26) (hd : 4 ≤ d) {r : Int32 × MS} {S : MS} {l1 : Int32} {l2 : Int32} {l3 : Int32} (hf : X8_weigh S l1 l2 l3 = some r) : AM l g d yX8_weigh cX8_weigh 6 (some .int) 0 0 [.ref 26, .int l1, .int l2, .int l3] (mh A S D) (Qr (some (.int r.1)) (mh A r.2 D)) := by
  refine AM.of rfl (by exact Nat.le_of_ble_eq_true rfl) (fun v h' q => by obtain ⟨rfl, -⟩ := q; exact ⟨_, rfl, rfl⟩) (fun ls e => ?_)
  have e2 : aBeg [.ref 26, .int l1, .int l2, .int l3] 6 = [some (.ref 26), some (.int l1), some (.int l2), some (.int l3), none, none] := rfl
  rw [e2] at e
  subst e
  refine a_sub (sub_k (sub_k (sub_k (sub_k (sub_k (sub_k (sub_n))))))) ?_
  exact sX8_weigh_0 hA hd (Nat.le_refl _) (Nat.le_refl _) (hf)
-- PencilStrikesModel.dear(IIII)I
def X8_dear_21 (S : MS) : Option (Int32 × MS) :=
  some ((-1), S)
def X8_dear_106 (rec45 : MS → Int32 → Int32 → Int32 → Int32 → Int32 → Int32 → Option (Int32 × MS)) (S : MS) (l1 : Int32) (l2 : Int32) (l4 : Int32) (l5 : Int32) (l6 : Int32) (l7 : Int32) : Option (Int32 × MS) :=
  (X8_nextGood S l1 l2 l7).bind fun r1 =>
  rec45 r1.2 l1 l2 l4 l5 l6 r1.1
def X8_dear_98 (rec45 : MS → Int32 → Int32 → Int32 → Int32 → Int32 → Int32 → Option (Int32 × MS)) (S : MS) (l1 : Int32) (l2 : Int32) (l4 : Int32) (l7 : Int32) (l8 : Int32) : Option (Int32 × MS) :=
  X8_dear_106 rec45 S l1 l2 l4 l7 l8 l7
def X8_dear_45 : Nat → MS → Int32 → Int32 → Int32 → Int32 → Int32 → Int32 → Option (Int32 × MS)
  | 0, _, _, _, _, _, _, _ => none
  | fn + 1, S, l1, l2, l4, l5, l6, l7 =>
    if l7 < 0 then
      some (l5, S)
    else
      (X8_weigh S l2 l7 l4).bind fun r1 =>
      if l5 < 0 then
        X8_dear_98 (X8_dear_45 fn) r1.2 l1 l2 l4 l7 r1.1
      else
        if l6 < r1.1 then
          X8_dear_106 (X8_dear_45 fn) r1.2 l1 l2 l4 l5 l6 l7
        else
          if r1.1 = l6 then
            (X8_ones r1.2 l7).bind fun r2 =>
            (X8_ones r2.2 l5).bind fun r3 =>
            if r2.1 < r3.1 then
              X8_dear_98 (X8_dear_45 fn) r3.2 l1 l2 l4 l7 r1.1
            else
              X8_dear_106 (X8_dear_45 fn) r3.2 l1 l2 l4 l5 l6 l7
          else
            X8_dear_98 (X8_dear_45 fn) r1.2 l1 l2 l4 l7 r1.1
def X8_dear_0 (S : MS) (l1 : Int32) (l2 : Int32) (l3 : Int32) (l4 : Int32) : Option (Int32 × MS) :=
  (X8_areGoods S l1 l2 l3).bind fun r1 =>
  if r1.1 = 0 then
    X8_dear_21 r1.2
  else
    (X8_in r1.2 l4 0 2).bind fun r2 =>
    if r2.1 = 0 then
      X8_dear_21 r2.2
    else
      (X8_findFine r2.2 l2 l3).bind fun r3 =>
      (X8_nextGood r3.2 l1 l2 (-1)).bind fun r4 =>
      X8_dear_45 FU r4.2 l1 l2 l4 (-5) 0 r4.1
def X8_dear (S : MS) (l1 : Int32) (l2 : Int32) (l3 : Int32) (l4 : Int32) : Option (Int32 × MS) := X8_dear_0 S l1 l2 l3 l4
set_option maxHeartbeats 4000000 in
theorem sX8_dear_21 {l : Launch} {g : gE} {d MC MS' k n : Nat} {A D : List va_E} (hA : A.length = 26) (hd : 8 ≤ d) (hk : k ≤ MC) (hn : n ≤ MS') {r : Int32 × MS} {S : MS} (hf : X8_dear_21 S = some r) : AW l g d RX8 cX8_dear 9 "dear" MC MS' (Qr (some (.int r.1)) (mh A r.2 D)) k n 21 [none, none, none, none, none, none, none, none, none] [] (mh A S D) := by
  unfold X8_dear_21 at hf
  refine a_iconst (pc := 21) (-1) dX8_dear_21 rfl ?_
  have hf := Option.some.inj hf
  subst hf
  exact a_ireturn (pc := 22) dX8_dear_22 hk hn ⟨rfl, rfl⟩
set_option maxHeartbeats 4000000 in
theorem sX8_dear_106 {l : Launch} {g : gE} {d MC MS' k n : Nat} {A D : List va_E} (hA : A.length = 26) (hd : 8 ≤ d) (hk : k ≤ MC) (hn : n ≤ MS') {r : Int32 × MS} {rec45 : MS → Int32 → Int32 → Int32 → Int32 → Int32 → Int32 → Option (Int32 × MS)} (hlp45 : ∀ (S : MS) (l1 : Int32) (l2 : Int32) (l4 : Int32) (l5 : Int32) (l6 : Int32) (l7 : Int32), rec45 S l1 l2 l4 l5 l6 l7 = some r → AW l g d RX8 cX8_dear 9 "dear" MC MS' (Qr (some (.int r.1)) (mh A r.2 D)) k n 45 [some (.ref 26), some (.int l1), some (.int l2), none, some (.int l4), some (.int l5), some (.int l6), some (.int l7), none] [] (mh A S D)) {S : MS} {l1 : Int32} {l2 : Int32} {l4 : Int32} {l5 : Int32} {l6 : Int32} {l7 : Int32} (hf : X8_dear_106 rec45 S l1 l2 l4 l5 l6 l7 = some r) : AW l g d RX8 cX8_dear 9 "dear" MC MS' (Qr (some (.int r.1)) (mh A r.2 D)) k n 106 [some (.ref 26), some (.int l1), some (.int l2), none, some (.int l4), some (.int l5), some (.int l6), some (.int l7), none] [] (mh A S D) := by
  unfold X8_dear_106 at hf
  refine a_aload_n (pc := 106) dX8_dear_106 rfl (isRv_r _) ?_
  refine a_iload_n (pc := 107) dX8_dear_107 rfl ?_
  refine a_iload_n (pc := 108) dX8_dear_108 rfl ?_
  refine a_iload (pc := 109) dX8_dear_109 rfl ?_
  obtain ⟨r1, hr1, hf⟩ := Option.bind_eq_some_iff.mp hf
  refine m_call (pc := 111) (.int (r1.1)) [.int l1, .int l2, .int l7] [] hA dX8_dear_111 ml_X8_289 mv_X8_nextGood rfl rfl (by omega) (mX8_nextGood hA (by omega) hr1) rfl (Nat.le_of_ble_eq_true rfl) hk hn ?_
  refine a_istore (pc := 114) (ls' := [some (.ref 26), some (.int l1), some (.int l2), none, some (.int l4), some (.int l5), some (.int l6), some (.int (r1.1)), none]) dX8_dear_114 (by decide) rfl ?_
  refine a_goto (pc := 116) 45 dX8_dear_116 (by decide) ?_
  exact hlp45 r1.2 l1 l2 l4 l5 l6 r1.1 hf
set_option maxHeartbeats 4000000 in
theorem sX8_dear_98 {l : Launch} {g : gE} {d MC MS' k n : Nat} {A D : List va_E} (hA : A.length = 26) (hd : 8 ≤ d) (hk : k ≤ MC) (hn : n ≤ MS') {r : Int32 × MS} {rec45 : MS → Int32 → Int32 → Int32 → Int32 → Int32 → Int32 → Option (Int32 × MS)} (hlp45 : ∀ (S : MS) (l1 : Int32) (l2 : Int32) (l4 : Int32) (l5 : Int32) (l6 : Int32) (l7 : Int32), rec45 S l1 l2 l4 l5 l6 l7 = some r → AW l g d RX8 cX8_dear 9 "dear" MC MS' (Qr (some (.int r.1)) (mh A r.2 D)) k n 45 [some (.ref 26), some (.int l1), some (.int l2), none, some (.int l4), some (.int l5), some (.int l6), some (.int l7), none] [] (mh A S D)) {S : MS} {l1 : Int32} {l2 : Int32} {l4 : Int32} {l7 : Int32} {l8 : Int32} (hf : X8_dear_98 rec45 S l1 l2 l4 l7 l8 = some r) : AW l g d RX8 cX8_dear 9 "dear" MC MS' (Qr (some (.int r.1)) (mh A r.2 D)) k n 98 [some (.ref 26), some (.int l1), some (.int l2), none, some (.int l4), none, none, some (.int l7), some (.int l8)] [] (mh A S D) := by
  unfold X8_dear_98 at hf
  refine a_iload (pc := 98) dX8_dear_98 rfl ?_
  refine a_istore (pc := 100) (ls' := [some (.ref 26), some (.int l1), some (.int l2), none, some (.int l4), some (.int l7), none, some (.int l7), some (.int l8)]) dX8_dear_100 (by decide) rfl ?_
  refine a_iload (pc := 102) dX8_dear_102 rfl ?_
  refine a_istore (pc := 104) (ls' := [some (.ref 26), some (.int l1), some (.int l2), none, some (.int l4), some (.int l7), some (.int l8), some (.int l7), some (.int l8)]) dX8_dear_104 (by decide) rfl ?_
  refine a_sub (sub_k (sub_k (sub_k (sub_k (sub_k (sub_k (sub_k (sub_k (sub_d sub_n))))))))) ?_
  exact sX8_dear_106 hA hd hk hn hlp45 hf
set_option maxHeartbeats 4000000 in
theorem sX8_dear_45 {l : Launch} {g : gE} {d MC MS' k n : Nat} {A D : List va_E} (hA : A.length = 26) (hd : 8 ≤ d) (hk : k ≤ MC) (hn : n ≤ MS') {r : Int32 × MS} : ∀ (fn : Nat) (S : MS) (l1 : Int32) (l2 : Int32) (l4 : Int32) (l5 : Int32) (l6 : Int32) (l7 : Int32), X8_dear_45 fn S l1 l2 l4 l5 l6 l7 = some r → AW l g d RX8 cX8_dear 9 "dear" MC MS' (Qr (some (.int r.1)) (mh A r.2 D)) k n 45 [some (.ref 26), some (.int l1), some (.int l2), none, some (.int l4), some (.int l5), some (.int l6), some (.int l7), none] [] (mh A S D) := by
  intro fn
  induction fn with
  | zero =>
    intro S l1 l2 l4 l5 l6 l7 hf
    rw [X8_dear_45] at hf
    cases hf
  | succ fn ih =>
    intro S l1 l2 l4 l5 l6 l7 hf
    rw [X8_dear_45] at hf
    refine a_iload (pc := 45) dX8_dear_45 rfl ?_
    refine a_if_lt (pc := 47) 119 dX8_dear_47 (by decide) (fun c8 => ?_) (fun c8 => ?_)
    · have hf := (if_pos c8).symm.trans hf
      refine a_iload (pc := 119) dX8_dear_119 rfl ?_
      have hf := Option.some.inj hf
      subst hf
      exact a_ireturn (pc := 121) dX8_dear_121 hk hn ⟨rfl, rfl⟩
    · have hf := (if_neg c8).symm.trans hf
      refine a_aload_n (pc := 50) dX8_dear_50 rfl (isRv_r _) ?_
      refine a_iload_n (pc := 51) dX8_dear_51 rfl ?_
      refine a_iload (pc := 52) dX8_dear_52 rfl ?_
      refine a_iload (pc := 54) dX8_dear_54 rfl ?_
      obtain ⟨r1, hr1, hf⟩ := Option.bind_eq_some_iff.mp hf
      refine m_call (pc := 56) (.int (r1.1)) [.int l2, .int l7, .int l4] [] hA dX8_dear_56 ml_X8_305 mv_X8_weigh rfl rfl (by omega) (mX8_weigh hA (by omega) hr1) rfl (Nat.le_of_ble_eq_true rfl) hk hn ?_
      refine a_istore (pc := 59) (ls' := [some (.ref 26), some (.int l1), some (.int l2), none, some (.int l4), some (.int l5), some (.int l6), some (.int l7), some (.int (r1.1))]) dX8_dear_59 (by decide) rfl ?_
      refine a_iload (pc := 61) dX8_dear_61 rfl ?_
      refine a_if_lt (pc := 63) 98 dX8_dear_63 (by decide) (fun c7 => ?_) (fun c7 => ?_)
      · have hf := (if_pos c7).symm.trans hf
        refine a_sub (sub_k (sub_k (sub_k (sub_k (sub_k (sub_d (sub_d (sub_k (sub_k sub_n))))))))) ?_
        exact sX8_dear_98 hA hd hk hn ih hf
      · have hf := (if_neg c7).symm.trans hf
        refine a_iload (pc := 66) dX8_dear_66 rfl ?_
        refine a_iload (pc := 68) dX8_dear_68 rfl ?_
        refine a_icmp_gt (pc := 70) 106 dX8_dear_70 (by decide) (fun c6 => ?_) (fun c6 => ?_)
        · have hf := (if_pos c6).symm.trans hf
          refine a_sub (sub_k (sub_k (sub_k (sub_k (sub_k (sub_k (sub_k (sub_k (sub_d sub_n))))))))) ?_
          exact sX8_dear_106 hA hd hk hn ih hf
        · have hf := (if_neg c6).symm.trans hf
          refine a_iload (pc := 73) dX8_dear_73 rfl ?_
          refine a_iload (pc := 75) dX8_dear_75 rfl ?_
          refine a_icmp_ne (pc := 77) 98 dX8_dear_77 (by decide) (fun c5 => ?_) (fun c5 => ?_)
          · have hf := (if_neg c5).symm.trans hf
            refine a_sub (sub_k (sub_k (sub_k (sub_k (sub_k (sub_d (sub_d (sub_k (sub_k sub_n))))))))) ?_
            exact sX8_dear_98 hA hd hk hn ih hf
          · have hf := (if_pos c5).symm.trans hf
            refine a_aload_n (pc := 80) dX8_dear_80 rfl (isRv_r _) ?_
            refine a_iload (pc := 81) dX8_dear_81 rfl ?_
            obtain ⟨r2, hr2, hf⟩ := Option.bind_eq_some_iff.mp hf
            refine m_call (pc := 83) (.int (r2.1)) [.int l7] [] hA dX8_dear_83 ml_X8_293 mv_X8_ones rfl rfl (by omega) (mX8_ones hA (by omega) hr2) rfl (Nat.le_of_ble_eq_true rfl) hk hn ?_
            refine a_aload_n (pc := 86) dX8_dear_86 rfl (isRv_r _) ?_
            refine a_iload (pc := 87) dX8_dear_87 rfl ?_
            obtain ⟨r3, hr3, hf⟩ := Option.bind_eq_some_iff.mp hf
            refine m_call (pc := 89) (.int (r3.1)) [.int l5] [.int (r2.1)] hA dX8_dear_89 ml_X8_293 mv_X8_ones rfl rfl (by omega) (mX8_ones hA (by omega) hr3) rfl (Nat.le_of_ble_eq_true rfl) hk hn ?_
            refine a_icmp_lt (pc := 92) 98 dX8_dear_92 (by decide) (fun c4 => ?_) (fun c4 => ?_)
            · have hf := (if_pos c4).symm.trans hf
              refine a_sub (sub_k (sub_k (sub_k (sub_k (sub_k (sub_d (sub_d (sub_k (sub_k sub_n))))))))) ?_
              exact sX8_dear_98 hA hd hk hn ih hf
            · have hf := (if_neg c4).symm.trans hf
              refine a_goto (pc := 95) 106 dX8_dear_95 (by decide) ?_
              refine a_sub (sub_k (sub_k (sub_k (sub_k (sub_k (sub_k (sub_k (sub_k (sub_d sub_n))))))))) ?_
              exact sX8_dear_106 hA hd hk hn ih hf
set_option maxHeartbeats 4000000 in
theorem sX8_dear_0 {l : Launch} {g : gE} {d MC MS' k n : Nat} {A D : List va_E} (hA : A.length = 26) (hd : 8 ≤ d) (hk : k ≤ MC) (hn : n ≤ MS') {r : Int32 × MS} {S : MS} {l1 : Int32} {l2 : Int32} {l3 : Int32} {l4 : Int32} (hf : X8_dear_0 S l1 l2 l3 l4 = some r) : AW l g d RX8 cX8_dear 9 "dear" MC MS' (Qr (some (.int r.1)) (mh A r.2 D)) k n 0 [some (.ref 26), some (.int l1), some (.int l2), some (.int l3), some (.int l4), none, none, none, none] [] (mh A S D) := by
  unfold X8_dear_0 at hf
  refine a_aload_n (pc := 0) dX8_dear_0 rfl (isRv_r _) ?_
  refine a_iload_n (pc := 1) dX8_dear_1 rfl ?_
  refine a_iload_n (pc := 2) dX8_dear_2 rfl ?_
  refine a_iload_n (pc := 3) dX8_dear_3 rfl ?_
  obtain ⟨r1, hr1, hf⟩ := Option.bind_eq_some_iff.mp hf
  refine m_call (pc := 4) (.int (r1.1)) [.int l1, .int l2, .int l3] [] hA dX8_dear_4 ml_X8_279 mv_X8_areGoods rfl rfl (by omega) (mX8_areGoods hA (by omega) hr1) rfl (Nat.le_of_ble_eq_true rfl) hk hn ?_
  refine a_if_eq (pc := 7) 21 dX8_dear_7 (by decide) (fun c6 => ?_) (fun c6 => ?_)
  · have hf := (if_pos c6).symm.trans hf
    refine a_sub (sub_d (sub_d (sub_d (sub_d (sub_d (sub_k (sub_k (sub_k (sub_k sub_n))))))))) ?_
    exact sX8_dear_21 hA hd hk hn hf
  · have hf := (if_neg c6).symm.trans hf
    refine a_aload_n (pc := 10) dX8_dear_10 rfl (isRv_r _) ?_
    refine a_iload (pc := 11) dX8_dear_11 rfl ?_
    refine a_iconst (pc := 13) 0 dX8_dear_13 rfl ?_
    refine a_iconst (pc := 14) 2 dX8_dear_14 rfl ?_
    obtain ⟨r2, hr2, hf⟩ := Option.bind_eq_some_iff.mp hf
    refine m_call (pc := 15) (.int (r2.1)) [.int l4, .int 0, .int 2] [] hA dX8_dear_15 ml_X8_142 mv_X8_in rfl rfl (by omega) (mX8_in hA (by omega) hr2) rfl (Nat.le_of_ble_eq_true rfl) hk hn ?_
    refine a_if_ne (pc := 18) 23 dX8_dear_18 (by decide) (fun c5 => ?_) (fun c5 => ?_)
    · have hf := (if_neg c5).symm.trans hf
      refine a_aload_n (pc := 23) dX8_dear_23 rfl (isRv_r _) ?_
      refine a_iload_n (pc := 24) dX8_dear_24 rfl ?_
      refine a_iload_n (pc := 25) dX8_dear_25 rfl ?_
      obtain ⟨r3, hr3, hf⟩ := Option.bind_eq_some_iff.mp hf
      refine m_callv (pc := 26) [.int l2, .int l3] [] hA dX8_dear_26 ml_X8_282 mv_X8_findFine rfl rfl (by omega) (mX8_findFine hA (by omega) hr3) rfl (Nat.le_of_ble_eq_true rfl) hk hn ?_
      refine a_bipush (pc := 29) (-5) dX8_dear_29 rfl ?_
      refine a_istore (pc := 31) (ls' := [some (.ref 26), some (.int l1), some (.int l2), some (.int l3), some (.int l4), some (.int (-5)), none, none, none]) dX8_dear_31 (by decide) rfl ?_
      refine a_iconst (pc := 33) 0 dX8_dear_33 rfl ?_
      refine a_istore (pc := 34) (ls' := [some (.ref 26), some (.int l1), some (.int l2), some (.int l3), some (.int l4), some (.int (-5)), some (.int 0), none, none]) dX8_dear_34 (by decide) rfl ?_
      refine a_aload_n (pc := 36) dX8_dear_36 rfl (isRv_r _) ?_
      refine a_iload_n (pc := 37) dX8_dear_37 rfl ?_
      refine a_iload_n (pc := 38) dX8_dear_38 rfl ?_
      refine a_iconst (pc := 39) (-1) dX8_dear_39 rfl ?_
      obtain ⟨r4, hr4, hf⟩ := Option.bind_eq_some_iff.mp hf
      refine m_call (pc := 40) (.int (r4.1)) [.int l1, .int l2, .int (-1)] [] hA dX8_dear_40 ml_X8_289 mv_X8_nextGood rfl rfl (by omega) (mX8_nextGood hA (by omega) hr4) rfl (Nat.le_of_ble_eq_true rfl) hk hn ?_
      refine a_istore (pc := 43) (ls' := [some (.ref 26), some (.int l1), some (.int l2), some (.int l3), some (.int l4), some (.int (-5)), some (.int 0), some (.int (r4.1)), none]) dX8_dear_43 (by decide) rfl ?_
      refine a_sub (sub_k (sub_k (sub_k (sub_d (sub_k (sub_k (sub_k (sub_k (sub_k sub_n))))))))) ?_
      exact sX8_dear_45 hA hd hk hn FU r4.2 l1 l2 l4 (-5) 0 r4.1 hf
    · have hf := (if_pos c5).symm.trans hf
      refine a_sub (sub_d (sub_d (sub_d (sub_d (sub_d (sub_k (sub_k (sub_k (sub_k sub_n))))))))) ?_
      exact sX8_dear_21 hA hd hk hn hf
set_option maxHeartbeats 4000000 in
theorem mX8_dear {l : Launch} {g : gE} {d : Nat} {A D : List va_E} (hA : A.length = 26) (hd : 8 ≤ d) {r : Int32 × MS} {S : MS} {l1 : Int32} {l2 : Int32} {l3 : Int32} {l4 : Int32} (hf : X8_dear S l1 l2 l3 l4 = some r) : AM l g d yX8_dear cX8_dear 9 (some .int) 0 0 [.ref 26, .int l1, .int l2, .int l3, .int l4] (mh A S D) (Qr (some (.int r.1)) (mh A r.2 D)) := by
  refine AM.of rfl (by exact Nat.le_of_ble_eq_true rfl) (fun v h' q => by obtain ⟨rfl, -⟩ := q; exact ⟨_, rfl, rfl⟩) (fun ls e => ?_)
  have e2 : aBeg [.ref 26, .int l1, .int l2, .int l3, .int l4] 9 = [some (.ref 26), some (.int l1), some (.int l2), some (.int l3), some (.int l4), none, none, none, none] := rfl
  rw [e2] at e
  subst e
  refine a_sub (sub_k (sub_k (sub_k (sub_k (sub_k (sub_k (sub_k (sub_k (sub_k (sub_n)))))))))) ?_
  exact sX8_dear_0 hA hd (Nat.le_refl _) (Nat.le_refl _) (hf)
-- PencilStrikesModel.aloneOf(II)I
def X8_aloneOf_85 (rec5 : MS → Int32 → Int32 → Int32 → Int32 → Option (Int32 × MS)) (rec58 : MS → Int32 → Int32 → Int32 → Int32 → Int32 → Option (Int32 × MS)) (S : MS) (s0 : Int32) (s1 : Int32) (l1 : Int32) (l2 : Int32) (l4 : Int32) (l5 : Int32) : Option (Int32 × MS) :=
  rec58 S l1 l2 (s0 ||| s1) l4 (l5 + 1)
def X8_aloneOf_93 (rec5 : MS → Int32 → Int32 → Int32 → Int32 → Option (Int32 × MS)) (S : MS) (l1 : Int32) (l2 : Int32) (l3 : Int32) (l4 : Int32) : Option (Int32 × MS) :=
  rec5 S l1 l2 l3 (l4 + 1)
def X8_aloneOf_58 (rec5 : MS → Int32 → Int32 → Int32 → Int32 → Option (Int32 × MS)) : Nat → MS → Int32 → Int32 → Int32 → Int32 → Int32 → Option (Int32 × MS)
  | 0, _, _, _, _, _, _ => none
  | fn + 1, S, l1, l2, l3, l4, l5 =>
    if (S.1 33) ≤ l5 then
      X8_aloneOf_93 rec5 S l1 l2 l3 l4
    else
      (X8_isWholeBut S l5).bind fun r1 =>
      if r1.1 = 0 then
        X8_aloneOf_85 rec5 (X8_aloneOf_58 rec5 fn) r1.2 l3 0 l1 l2 l4 l5
      else
        X8_aloneOf_85 rec5 (X8_aloneOf_58 rec5 fn) r1.2 l3 ((1 : Int32) <<< (l5 &&& 31)) l1 l2 l4 l5
def X8_aloneOf_5 : Nat → MS → Int32 → Int32 → Int32 → Int32 → Option (Int32 × MS)
  | 0, _, _, _, _, _ => none
  | fn + 1, S, l1, l2, l3, l4 =>
    (mA S 8 l2).bind fun x1 =>
    if ((1 : Int32) <<< (x1 &&& 31)) ≤ l4 then
      some (l3, S)
    else
      (X8_lets S l1 l2 l4).bind fun r2 =>
      if r2.1 = 0 then
        X8_aloneOf_93 (X8_aloneOf_5 fn) r2.2 l1 l2 l3 l4
      else
        (X8_readsLeft r2.2 l2 l4).bind fun r3 =>
        if r3.1 = 0 then
          X8_aloneOf_93 (X8_aloneOf_5 fn) r3.2 l1 l2 l3 l4
        else
          if (r3.2.1 28) = ((r3.2.1 33) - 1) then
            X8_aloneOf_58 (X8_aloneOf_5 fn) FU r3.2 l1 l2 l3 l4 0
          else
            X8_aloneOf_93 (X8_aloneOf_5 fn) r3.2 l1 l2 l3 l4
def X8_aloneOf_0 (S : MS) (l1 : Int32) (l2 : Int32) : Option (Int32 × MS) :=
  X8_aloneOf_5 FU S l1 l2 0 0
def X8_aloneOf (S : MS) (l1 : Int32) (l2 : Int32) : Option (Int32 × MS) := X8_aloneOf_0 S l1 l2
set_option maxHeartbeats 4000000 in
theorem sX8_aloneOf_85 {l : Launch} {g : gE} {d MC MS' k n : Nat} {A D : List va_E} (hA : A.length = 26) (hd : 6 ≤ d) (hk : k ≤ MC) (hn : n ≤ MS') {r : Int32 × MS} {rec5 : MS → Int32 → Int32 → Int32 → Int32 → Option (Int32 × MS)} (hlp5 : ∀ (S : MS) (l1 : Int32) (l2 : Int32) (l3 : Int32) (l4 : Int32), rec5 S l1 l2 l3 l4 = some r → AW l g d RX8 cX8_aloneOf 6 "aloneOf" MC MS' (Qr (some (.int r.1)) (mh A r.2 D)) k n 5 [some (.ref 26), some (.int l1), some (.int l2), some (.int l3), some (.int l4), none] [] (mh A S D)) {rec58 : MS → Int32 → Int32 → Int32 → Int32 → Int32 → Option (Int32 × MS)} (hlp58 : ∀ (S : MS) (l1 : Int32) (l2 : Int32) (l3 : Int32) (l4 : Int32) (l5 : Int32), rec58 S l1 l2 l3 l4 l5 = some r → AW l g d RX8 cX8_aloneOf 6 "aloneOf" MC MS' (Qr (some (.int r.1)) (mh A r.2 D)) k n 58 [some (.ref 26), some (.int l1), some (.int l2), some (.int l3), some (.int l4), some (.int l5)] [] (mh A S D)) {S : MS} {s0 : Int32} {s1 : Int32} {l1 : Int32} {l2 : Int32} {l4 : Int32} {l5 : Int32} (hf : X8_aloneOf_85 rec5 rec58 S s0 s1 l1 l2 l4 l5 = some r) : AW l g d RX8 cX8_aloneOf 6 "aloneOf" MC MS' (Qr (some (.int r.1)) (mh A r.2 D)) k n 85 [some (.ref 26), some (.int l1), some (.int l2), none, some (.int l4), some (.int l5)] [.int s1, .int s0] (mh A S D) := by
  unfold X8_aloneOf_85 at hf
  refine a_ior (pc := 85) dX8_aloneOf_85 ?_
  refine a_istore_n (pc := 86) (ls' := [some (.ref 26), some (.int l1), some (.int l2), some (.int (s0 ||| s1)), some (.int l4), some (.int l5)]) dX8_aloneOf_86 (by decide) rfl ?_
  refine a_iinc (pc := 87) (ls' := [some (.ref 26), some (.int l1), some (.int l2), some (.int (s0 ||| s1)), some (.int l4), some (.int (l5 + 1))]) (l5 + 1) dX8_aloneOf_87 rfl rfl (by decide) rfl ?_
  refine a_goto (pc := 90) 58 dX8_aloneOf_90 (by decide) ?_
  exact hlp58 S l1 l2 (s0 ||| s1) l4 (l5 + 1) hf
set_option maxHeartbeats 4000000 in
theorem sX8_aloneOf_93 {l : Launch} {g : gE} {d MC MS' k n : Nat} {A D : List va_E} (hA : A.length = 26) (hd : 6 ≤ d) (hk : k ≤ MC) (hn : n ≤ MS') {r : Int32 × MS} {rec5 : MS → Int32 → Int32 → Int32 → Int32 → Option (Int32 × MS)} (hlp5 : ∀ (S : MS) (l1 : Int32) (l2 : Int32) (l3 : Int32) (l4 : Int32), rec5 S l1 l2 l3 l4 = some r → AW l g d RX8 cX8_aloneOf 6 "aloneOf" MC MS' (Qr (some (.int r.1)) (mh A r.2 D)) k n 5 [some (.ref 26), some (.int l1), some (.int l2), some (.int l3), some (.int l4), none] [] (mh A S D)) {S : MS} {l1 : Int32} {l2 : Int32} {l3 : Int32} {l4 : Int32} (hf : X8_aloneOf_93 rec5 S l1 l2 l3 l4 = some r) : AW l g d RX8 cX8_aloneOf 6 "aloneOf" MC MS' (Qr (some (.int r.1)) (mh A r.2 D)) k n 93 [some (.ref 26), some (.int l1), some (.int l2), some (.int l3), some (.int l4), none] [] (mh A S D) := by
  unfold X8_aloneOf_93 at hf
  refine a_iinc (pc := 93) (ls' := [some (.ref 26), some (.int l1), some (.int l2), some (.int l3), some (.int (l4 + 1)), none]) (l4 + 1) dX8_aloneOf_93 rfl rfl (by decide) rfl ?_
  refine a_goto (pc := 96) 5 dX8_aloneOf_96 (by decide) ?_
  exact hlp5 S l1 l2 l3 (l4 + 1) hf
set_option maxHeartbeats 4000000 in
theorem sX8_aloneOf_58 {l : Launch} {g : gE} {d MC MS' k n : Nat} {A D : List va_E} (hA : A.length = 26) (hd : 6 ≤ d) (hk : k ≤ MC) (hn : n ≤ MS') {r : Int32 × MS} {rec5 : MS → Int32 → Int32 → Int32 → Int32 → Option (Int32 × MS)} (hlp5 : ∀ (S : MS) (l1 : Int32) (l2 : Int32) (l3 : Int32) (l4 : Int32), rec5 S l1 l2 l3 l4 = some r → AW l g d RX8 cX8_aloneOf 6 "aloneOf" MC MS' (Qr (some (.int r.1)) (mh A r.2 D)) k n 5 [some (.ref 26), some (.int l1), some (.int l2), some (.int l3), some (.int l4), none] [] (mh A S D)) : ∀ (fn : Nat) (S : MS) (l1 : Int32) (l2 : Int32) (l3 : Int32) (l4 : Int32) (l5 : Int32), X8_aloneOf_58 rec5 fn S l1 l2 l3 l4 l5 = some r → AW l g d RX8 cX8_aloneOf 6 "aloneOf" MC MS' (Qr (some (.int r.1)) (mh A r.2 D)) k n 58 [some (.ref 26), some (.int l1), some (.int l2), some (.int l3), some (.int l4), some (.int l5)] [] (mh A S D) := by
  intro fn
  induction fn with
  | zero =>
    intro S l1 l2 l3 l4 l5 hf
    rw [X8_aloneOf_58] at hf
    cases hf
  | succ fn ih =>
    intro S l1 l2 l3 l4 l5 hf
    rw [X8_aloneOf_58] at hf
    refine a_iload (pc := 58) dX8_aloneOf_58 rfl ?_
    refine a_aload_n (pc := 60) dX8_aloneOf_60 rfl (isRv_r _) ?_
    refine m_getS (pc := 61) hA dX8_aloneOf_61 fl_X8_112 ks_33 ?_
    refine a_icmp_ge (pc := 64) 93 dX8_aloneOf_64 (by decide) (fun c3 => ?_) (fun c3 => ?_)
    · have hf := (if_pos c3).symm.trans hf
      refine a_sub (sub_k (sub_k (sub_k (sub_k (sub_k (sub_d sub_n)))))) ?_
      exact sX8_aloneOf_93 hA hd hk hn hlp5 hf
    · have hf := (if_neg c3).symm.trans hf
      refine a_iload_n (pc := 67) dX8_aloneOf_67 rfl ?_
      refine a_aload_n (pc := 68) dX8_aloneOf_68 rfl (isRv_r _) ?_
      refine a_iload (pc := 69) dX8_aloneOf_69 rfl ?_
      obtain ⟨r1, hr1, hf⟩ := Option.bind_eq_some_iff.mp hf
      refine m_call (pc := 71) (.int (r1.1)) [.int l5] [.int l3] hA dX8_aloneOf_71 ml_X8_296 mv_X8_isWholeBut rfl rfl (by omega) (mX8_isWholeBut hA (by omega) hr1) rfl (Nat.le_of_ble_eq_true rfl) hk hn ?_
      refine a_if_eq (pc := 74) 84 dX8_aloneOf_74 (by decide) (fun c2 => ?_) (fun c2 => ?_)
      · have hf := (if_pos c2).symm.trans hf
        refine a_iconst (pc := 84) 0 dX8_aloneOf_84 rfl ?_
        refine a_sub (sub_k (sub_k (sub_k (sub_d (sub_k (sub_k sub_n)))))) ?_
        exact sX8_aloneOf_85 hA hd hk hn hlp5 ih hf
      · have hf := (if_neg c2).symm.trans hf
        refine a_iconst (pc := 77) 1 dX8_aloneOf_77 rfl ?_
        refine a_iload (pc := 78) dX8_aloneOf_78 rfl ?_
        refine a_ishl (pc := 80) dX8_aloneOf_80 ?_
        refine a_goto (pc := 81) 85 dX8_aloneOf_81 (by decide) ?_
        refine a_sub (sub_k (sub_k (sub_k (sub_d (sub_k (sub_k sub_n)))))) ?_
        exact sX8_aloneOf_85 hA hd hk hn hlp5 ih hf
set_option maxHeartbeats 4000000 in
theorem sX8_aloneOf_5 {l : Launch} {g : gE} {d MC MS' k n : Nat} {A D : List va_E} (hA : A.length = 26) (hd : 6 ≤ d) (hk : k ≤ MC) (hn : n ≤ MS') {r : Int32 × MS} : ∀ (fn : Nat) (S : MS) (l1 : Int32) (l2 : Int32) (l3 : Int32) (l4 : Int32), X8_aloneOf_5 fn S l1 l2 l3 l4 = some r → AW l g d RX8 cX8_aloneOf 6 "aloneOf" MC MS' (Qr (some (.int r.1)) (mh A r.2 D)) k n 5 [some (.ref 26), some (.int l1), some (.int l2), some (.int l3), some (.int l4), none] [] (mh A S D) := by
  intro fn
  induction fn with
  | zero =>
    intro S l1 l2 l3 l4 hf
    rw [X8_aloneOf_5] at hf
    cases hf
  | succ fn ih =>
    intro S l1 l2 l3 l4 hf
    rw [X8_aloneOf_5] at hf
    refine a_iload (pc := 5) dX8_aloneOf_5 rfl ?_
    refine a_iconst (pc := 7) 1 dX8_aloneOf_7 rfl ?_
    refine a_aload_n (pc := 8) dX8_aloneOf_8 rfl (isRv_r _) ?_
    refine m_getA (pc := 9) 30 hA dX8_aloneOf_9 fl_X8_35 (Or.inl ki_8) rfl ?_
    refine a_iload_n (pc := 12) dX8_aloneOf_12 rfl ?_
    obtain ⟨x1, hx1, hf⟩ := Option.bind_eq_some_iff.mp hf
    refine m_ald (pc := 13) 30 hA dX8_aloneOf_13 ki_8 rfl hx1 ?_
    refine a_ishl (pc := 14) dX8_aloneOf_14 ?_
    refine a_icmp_ge (pc := 15) 99 dX8_aloneOf_15 (by decide) (fun c7 => ?_) (fun c7 => ?_)
    · have hf := (if_pos c7).symm.trans hf
      refine a_iload_n (pc := 99) dX8_aloneOf_99 rfl ?_
      have hf := Option.some.inj hf
      subst hf
      exact a_ireturn (pc := 100) dX8_aloneOf_100 hk hn ⟨rfl, rfl⟩
    · have hf := (if_neg c7).symm.trans hf
      refine a_aload_n (pc := 18) dX8_aloneOf_18 rfl (isRv_r _) ?_
      refine a_iload_n (pc := 19) dX8_aloneOf_19 rfl ?_
      refine a_iload_n (pc := 20) dX8_aloneOf_20 rfl ?_
      refine a_iload (pc := 21) dX8_aloneOf_21 rfl ?_
      obtain ⟨r2, hr2, hf⟩ := Option.bind_eq_some_iff.mp hf
      refine m_call (pc := 23) (.int (r2.1)) [.int l1, .int l2, .int l4] [] hA dX8_aloneOf_23 ml_X8_273 mv_X8_lets rfl rfl (by omega) (mX8_lets hA (by omega) hr2) rfl (Nat.le_of_ble_eq_true rfl) hk hn ?_
      refine a_if_eq (pc := 26) 93 dX8_aloneOf_26 (by decide) (fun c6 => ?_) (fun c6 => ?_)
      · have hf := (if_pos c6).symm.trans hf
        exact sX8_aloneOf_93 hA hd hk hn ih hf
      · have hf := (if_neg c6).symm.trans hf
        refine a_aload_n (pc := 29) dX8_aloneOf_29 rfl (isRv_r _) ?_
        refine a_iload_n (pc := 30) dX8_aloneOf_30 rfl ?_
        refine a_iload (pc := 31) dX8_aloneOf_31 rfl ?_
        obtain ⟨r3, hr3, hf⟩ := Option.bind_eq_some_iff.mp hf
        refine m_call (pc := 33) (.int (r3.1)) [.int l2, .int l4] [] hA dX8_aloneOf_33 ml_X8_230 mv_X8_readsLeft rfl rfl (by omega) (mX8_readsLeft hA (by omega) hr3) rfl (Nat.le_of_ble_eq_true rfl) hk hn ?_
        refine a_if_eq (pc := 36) 93 dX8_aloneOf_36 (by decide) (fun c5 => ?_) (fun c5 => ?_)
        · have hf := (if_pos c5).symm.trans hf
          exact sX8_aloneOf_93 hA hd hk hn ih hf
        · have hf := (if_neg c5).symm.trans hf
          refine a_aload_n (pc := 39) dX8_aloneOf_39 rfl (isRv_r _) ?_
          refine m_getS (pc := 40) hA dX8_aloneOf_40 fl_X8_95 ks_28 ?_
          refine a_aload_n (pc := 43) dX8_aloneOf_43 rfl (isRv_r _) ?_
          refine m_getS (pc := 44) hA dX8_aloneOf_44 fl_X8_112 ks_33 ?_
          refine a_iconst (pc := 47) 1 dX8_aloneOf_47 rfl ?_
          refine a_isub (pc := 48) dX8_aloneOf_48 ?_
          refine a_icmp_eq (pc := 49) 55 dX8_aloneOf_49 (by decide) (fun c4 => ?_) (fun c4 => ?_)
          · have hf := (if_pos c4).symm.trans hf
            refine a_iconst (pc := 55) 0 dX8_aloneOf_55 rfl ?_
            refine a_istore (pc := 56) (ls' := [some (.ref 26), some (.int l1), some (.int l2), some (.int l3), some (.int l4), some (.int 0)]) dX8_aloneOf_56 (by decide) rfl ?_
            exact sX8_aloneOf_58 hA hd hk hn ih FU r3.2 l1 l2 l3 l4 0 hf
          · have hf := (if_neg c4).symm.trans hf
            refine a_goto (pc := 52) 93 dX8_aloneOf_52 (by decide) ?_
            exact sX8_aloneOf_93 hA hd hk hn ih hf
set_option maxHeartbeats 4000000 in
theorem sX8_aloneOf_0 {l : Launch} {g : gE} {d MC MS' k n : Nat} {A D : List va_E} (hA : A.length = 26) (hd : 6 ≤ d) (hk : k ≤ MC) (hn : n ≤ MS') {r : Int32 × MS} {S : MS} {l1 : Int32} {l2 : Int32} (hf : X8_aloneOf_0 S l1 l2 = some r) : AW l g d RX8 cX8_aloneOf 6 "aloneOf" MC MS' (Qr (some (.int r.1)) (mh A r.2 D)) k n 0 [some (.ref 26), some (.int l1), some (.int l2), none, none, none] [] (mh A S D) := by
  unfold X8_aloneOf_0 at hf
  refine a_iconst (pc := 0) 0 dX8_aloneOf_0 rfl ?_
  refine a_istore_n (pc := 1) (ls' := [some (.ref 26), some (.int l1), some (.int l2), some (.int 0), none, none]) dX8_aloneOf_1 (by decide) rfl ?_
  refine a_iconst (pc := 2) 0 dX8_aloneOf_2 rfl ?_
  refine a_istore (pc := 3) (ls' := [some (.ref 26), some (.int l1), some (.int l2), some (.int 0), some (.int 0), none]) dX8_aloneOf_3 (by decide) rfl ?_
  exact sX8_aloneOf_5 hA hd hk hn FU S l1 l2 0 0 hf
set_option maxHeartbeats 4000000 in
theorem mX8_aloneOf {l : Launch} {g : gE} {d : Nat} {A D : List va_E} (hA : A.length = 26) (hd : 6 ≤ d) {r : Int32 × MS} {S : MS} {l1 : Int32} {l2 : Int32} (hf : X8_aloneOf S l1 l2 = some r) : AM l g d yX8_aloneOf cX8_aloneOf 6 (some .int) 0 0 [.ref 26, .int l1, .int l2] (mh A S D) (Qr (some (.int r.1)) (mh A r.2 D)) := by
  refine AM.of rfl (by exact Nat.le_of_ble_eq_true rfl) (fun v h' q => by obtain ⟨rfl, -⟩ := q; exact ⟨_, rfl, rfl⟩) (fun ls e => ?_)
  have e2 : aBeg [.ref 26, .int l1, .int l2] 6 = [some (.ref 26), some (.int l1), some (.int l2), none, none, none] := rfl
  rw [e2] at e
  subst e
  refine a_sub (sub_k (sub_k (sub_k (sub_k (sub_k (sub_k (sub_n))))))) ?_
  exact sX8_aloneOf_0 hA hd (Nat.le_refl _) (Nat.le_refl _) (hf)
-- PencilStrikesModel.alone(II)I
def X8_alone_16 (S : MS) : Option (Int32 × MS) :=
  some ((-1), S)
def X8_alone_41 (S : MS) (s0 : Int32) : Option (Int32 × MS) :=
  some (s0, S)
def X8_alone_0 (S : MS) (l1 : Int32) (l2 : Int32) : Option (Int32 × MS) :=
  (X8_isKind S l1).bind fun r1 =>
  if r1.1 = 0 then
    X8_alone_16 r1.2
  else
    (X8_isBargain r1.2 l2).bind fun r2 =>
    if r2.1 = 0 then
      X8_alone_16 r2.2
    else
      (X8_readWhole r2.2 l2).bind fun r3 =>
      if 0 ≤ (r3.2.1 33) then
        (X8_aloneOf r3.2 l1 l2).bind fun r4 =>
        X8_alone_41 r4.2 r4.1
      else
        X8_alone_41 r3.2 (-3)
def X8_alone (S : MS) (l1 : Int32) (l2 : Int32) : Option (Int32 × MS) := X8_alone_0 S l1 l2
set_option maxHeartbeats 4000000 in
theorem sX8_alone_16 {l : Launch} {g : gE} {d MC MS' k n : Nat} {A D : List va_E} (hA : A.length = 26) (hd : 7 ≤ d) (hk : k ≤ MC) (hn : n ≤ MS') {r : Int32 × MS} {S : MS} (hf : X8_alone_16 S = some r) : AW l g d RX8 cX8_alone 3 "alone" MC MS' (Qr (some (.int r.1)) (mh A r.2 D)) k n 16 [none, none, none] [] (mh A S D) := by
  unfold X8_alone_16 at hf
  refine a_iconst (pc := 16) (-1) dX8_alone_16 rfl ?_
  have hf := Option.some.inj hf
  subst hf
  exact a_ireturn (pc := 17) dX8_alone_17 hk hn ⟨rfl, rfl⟩
set_option maxHeartbeats 4000000 in
theorem sX8_alone_41 {l : Launch} {g : gE} {d MC MS' k n : Nat} {A D : List va_E} (hA : A.length = 26) (hd : 7 ≤ d) (hk : k ≤ MC) (hn : n ≤ MS') {r : Int32 × MS} {S : MS} {s0 : Int32} (hf : X8_alone_41 S s0 = some r) : AW l g d RX8 cX8_alone 3 "alone" MC MS' (Qr (some (.int r.1)) (mh A r.2 D)) k n 41 [none, none, none] [.int s0] (mh A S D) := by
  unfold X8_alone_41 at hf
  have hf := Option.some.inj hf
  subst hf
  exact a_ireturn (pc := 41) dX8_alone_41 hk hn ⟨rfl, rfl⟩
set_option maxHeartbeats 4000000 in
theorem sX8_alone_0 {l : Launch} {g : gE} {d MC MS' k n : Nat} {A D : List va_E} (hA : A.length = 26) (hd : 7 ≤ d) (hk : k ≤ MC) (hn : n ≤ MS') {r : Int32 × MS} {S : MS} {l1 : Int32} {l2 : Int32} (hf : X8_alone_0 S l1 l2 = some r) : AW l g d RX8 cX8_alone 3 "alone" MC MS' (Qr (some (.int r.1)) (mh A r.2 D)) k n 0 [some (.ref 26), some (.int l1), some (.int l2)] [] (mh A S D) := by
  unfold X8_alone_0 at hf
  refine a_aload_n (pc := 0) dX8_alone_0 rfl (isRv_r _) ?_
  refine a_iload_n (pc := 1) dX8_alone_1 rfl ?_
  obtain ⟨r1, hr1, hf⟩ := Option.bind_eq_some_iff.mp hf
  refine m_call (pc := 2) (.int (r1.1)) [.int l1] [] hA dX8_alone_2 ml_X8_267 mv_X8_isKind rfl rfl (by omega) (mX8_isKind hA (by omega) hr1) rfl (Nat.le_of_ble_eq_true rfl) hk hn ?_
  refine a_if_eq (pc := 5) 16 dX8_alone_5 (by decide) (fun c7 => ?_) (fun c7 => ?_)
  · have hf := (if_pos c7).symm.trans hf
    refine a_sub (sub_d (sub_d (sub_d sub_n))) ?_
    exact sX8_alone_16 hA hd hk hn hf
  · have hf := (if_neg c7).symm.trans hf
    refine a_aload_n (pc := 8) dX8_alone_8 rfl (isRv_r _) ?_
    refine a_iload_n (pc := 9) dX8_alone_9 rfl ?_
    obtain ⟨r2, hr2, hf⟩ := Option.bind_eq_some_iff.mp hf
    refine m_call (pc := 10) (.int (r2.1)) [.int l2] [] hA dX8_alone_10 ml_X8_203 mv_X8_isBargain rfl rfl (by omega) (mX8_isBargain hA (by omega) hr2) rfl (Nat.le_of_ble_eq_true rfl) hk hn ?_
    refine a_if_ne (pc := 13) 18 dX8_alone_13 (by decide) (fun c6 => ?_) (fun c6 => ?_)
    · have hf := (if_neg c6).symm.trans hf
      refine a_aload_n (pc := 18) dX8_alone_18 rfl (isRv_r _) ?_
      refine a_iload_n (pc := 19) dX8_alone_19 rfl ?_
      obtain ⟨r3, hr3, hf⟩ := Option.bind_eq_some_iff.mp hf
      refine m_callv (pc := 20) [.int l2] [] hA dX8_alone_20 ml_X8_270 mv_X8_readWhole rfl rfl (by omega) (mX8_readWhole hA (by omega) hr3) rfl (Nat.le_of_ble_eq_true rfl) hk hn ?_
      refine a_aload_n (pc := 23) dX8_alone_23 rfl (isRv_r _) ?_
      refine m_getS (pc := 24) hA dX8_alone_24 fl_X8_112 ks_33 ?_
      refine a_if_ge (pc := 27) 35 dX8_alone_27 (by decide) (fun c5 => ?_) (fun c5 => ?_)
      · have hf := (if_pos c5).symm.trans hf
        refine a_aload_n (pc := 35) dX8_alone_35 rfl (isRv_r _) ?_
        refine a_iload_n (pc := 36) dX8_alone_36 rfl ?_
        refine a_iload_n (pc := 37) dX8_alone_37 rfl ?_
        obtain ⟨r4, hr4, hf⟩ := Option.bind_eq_some_iff.mp hf
        refine m_call (pc := 38) (.int (r4.1)) [.int l1, .int l2] [] hA dX8_alone_38 ml_X8_308 mv_X8_aloneOf rfl rfl (by omega) (mX8_aloneOf hA (by omega) hr4) rfl (Nat.le_of_ble_eq_true rfl) hk hn ?_
        refine a_sub (sub_d (sub_d (sub_d sub_n))) ?_
        exact sX8_alone_41 hA hd hk hn hf
      · have hf := (if_neg c5).symm.trans hf
        refine a_bipush (pc := 30) (-3) dX8_alone_30 rfl ?_
        refine a_goto (pc := 32) 41 dX8_alone_32 (by decide) ?_
        refine a_sub (sub_d (sub_d (sub_d sub_n))) ?_
        exact sX8_alone_41 hA hd hk hn hf
    · have hf := (if_pos c6).symm.trans hf
      refine a_sub (sub_d (sub_d (sub_d sub_n))) ?_
      exact sX8_alone_16 hA hd hk hn hf
set_option maxHeartbeats 4000000 in
theorem mX8_alone {l : Launch} {g : gE} {d : Nat} {A D : List va_E} (hA : A.length = 26) (hd : 7 ≤ d) {r : Int32 × MS} {S : MS} {l1 : Int32} {l2 : Int32} (hf : X8_alone S l1 l2 = some r) : AM l g d yX8_alone cX8_alone 3 (some .int) 0 0 [.ref 26, .int l1, .int l2] (mh A S D) (Qr (some (.int r.1)) (mh A r.2 D)) := by
  refine AM.of rfl (by exact Nat.le_of_ble_eq_true rfl) (fun v h' q => by obtain ⟨rfl, -⟩ := q; exact ⟨_, rfl, rfl⟩) (fun ls e => ?_)
  have e2 : aBeg [.ref 26, .int l1, .int l2] 3 = [some (.ref 26), some (.int l1), some (.int l2)] := rfl
  rw [e2] at e
  subst e
  refine a_sub (sub_k (sub_k (sub_k (sub_n)))) ?_
  exact sX8_alone_0 hA hd (Nat.le_refl _) (Nat.le_refl _) (hf)
-- PencilStrikesModel.apart(III)I
def X8_apart_62 (rec33 : MS → Int32 → Int32 → Int32 → Int32 → Int32 → Option (Int32 × MS)) (S : MS) (s0 : Int32) (s1 : Int32) (l1 : Int32) (l2 : Int32) (l3 : Int32) (l5 : Int32) : Option (Int32 × MS) :=
  rec33 S l1 l2 l3 (s0 ||| s1) (l5 + 1)
def X8_apart_155 (rec85 : MS → Int32 → Int32 → Int32 → Int32 → Option (Int32 × MS)) (rec97 : MS → Int32 → Int32 → Int32 → Int32 → Int32 → Option (Int32 × MS)) (S : MS) (s0 : Int32) (s1 : Int32) (l4 : Int32) (l5 : Int32) (l7 : Int32) (l8 : Int32) : Option (Int32 × MS) :=
  rec97 S l4 l5 (s0 + s1) l7 (l8 + 1)
def X8_apart_150 (rec85 : MS → Int32 → Int32 → Int32 → Int32 → Option (Int32 × MS)) (rec97 : MS → Int32 → Int32 → Int32 → Int32 → Int32 → Option (Int32 × MS)) (S : MS) (s0 : Int32) (l4 : Int32) (l5 : Int32) (l7 : Int32) (l8 : Int32) : Option (Int32 × MS) :=
  X8_apart_155 rec85 rec97 S s0 1 l4 l5 l7 l8
def X8_apart_154 (rec85 : MS → Int32 → Int32 → Int32 → Int32 → Option (Int32 × MS)) (rec97 : MS → Int32 → Int32 → Int32 → Int32 → Int32 → Option (Int32 × MS)) (S : MS) (s0 : Int32) (l4 : Int32) (l5 : Int32) (l7 : Int32) (l8 : Int32) : Option (Int32 × MS) :=
  X8_apart_155 rec85 rec97 S s0 0 l4 l5 l7 l8
def X8_apart_97 (rec85 : MS → Int32 → Int32 → Int32 → Int32 → Option (Int32 × MS)) : Nat → MS → Int32 → Int32 → Int32 → Int32 → Int32 → Option (Int32 × MS)
  | 0, _, _, _, _, _, _ => none
  | fn + 1, S, l4, l5, l6, l7, l8 =>
    if l7 ≤ l8 then
      rec85 S l4 l5 l6 (l7 + 1)
    else
      (X8_has S l4 l7).bind fun r1 =>
      if r1.1 = 0 then
        X8_apart_154 rec85 (X8_apart_97 rec85 fn) r1.2 l6 l4 l5 l7 l8
      else
        (X8_has r1.2 l4 l8).bind fun r2 =>
        if r2.1 = 0 then
          X8_apart_154 rec85 (X8_apart_97 rec85 fn) r2.2 l6 l4 l5 l7 l8
        else
          (X8_has r2.2 l5 l7).bind fun r3 =>
          if r3.1 = 0 then
            X8_apart_150 rec85 (X8_apart_97 rec85 fn) r3.2 l6 l4 l5 l7 l8
          else
            (X8_has r3.2 l5 l8).bind fun r4 =>
            if r4.1 = 0 then
              X8_apart_150 rec85 (X8_apart_97 rec85 fn) r4.2 l6 l4 l5 l7 l8
            else
              X8_apart_154 rec85 (X8_apart_97 rec85 fn) r4.2 l6 l4 l5 l7 l8
def X8_apart_85 : Nat → MS → Int32 → Int32 → Int32 → Int32 → Option (Int32 × MS)
  | 0, _, _, _, _, _ => none
  | fn + 1, S, l4, l5, l6, l7 =>
    if (S.1 33) ≤ l7 then
      some (l6, S)
    else
      X8_apart_97 (X8_apart_85 fn) FU S l4 l5 l6 l7 0
def X8_apart_33 : Nat → MS → Int32 → Int32 → Int32 → Int32 → Int32 → Option (Int32 × MS)
  | 0, _, _, _, _, _, _ => none
  | fn + 1, S, l1, l2, l3, l4, l5 =>
    if (S.1 28) ≤ l5 then
      (X8_aloneOf S l1 l2).bind fun r1 =>
      X8_apart_85 FU r1.2 l4 r1.1 0 0
    else
      (X8_isBarred S l3 l5).bind fun r2 =>
      if r2.1 = 0 then
        X8_apart_62 (X8_apart_33 fn) r2.2 l4 0 l1 l2 l3 l5
      else
        X8_apart_62 (X8_apart_33 fn) r2.2 l4 ((1 : Int32) <<< (l5 &&& 31)) l1 l2 l3 l5
def X8_apart_0 (S : MS) (l1 : Int32) (l2 : Int32) (l3 : Int32) : Option (Int32 × MS) :=
  (X8_areGoods S l1 l2 l3).bind fun r1 =>
  if r1.1 = 0 then
    some ((-1), r1.2)
  else
    (X8_readWhole r1.2 l2).bind fun r2 =>
    if 0 ≤ (r2.2.1 33) then
      X8_apart_33 FU r2.2 l1 l2 l3 0 0
    else
      some ((-3), r2.2)
def X8_apart (S : MS) (l1 : Int32) (l2 : Int32) (l3 : Int32) : Option (Int32 × MS) := X8_apart_0 S l1 l2 l3
set_option maxHeartbeats 4000000 in
theorem sX8_apart_62 {l : Launch} {g : gE} {d MC MS' k n : Nat} {A D : List va_E} (hA : A.length = 26) (hd : 7 ≤ d) (hk : k ≤ MC) (hn : n ≤ MS') {r : Int32 × MS} {rec33 : MS → Int32 → Int32 → Int32 → Int32 → Int32 → Option (Int32 × MS)} (hlp33 : ∀ (S : MS) (l1 : Int32) (l2 : Int32) (l3 : Int32) (l4 : Int32) (l5 : Int32), rec33 S l1 l2 l3 l4 l5 = some r → AW l g d RX8 cX8_apart 9 "apart" MC MS' (Qr (some (.int r.1)) (mh A r.2 D)) k n 33 [some (.ref 26), some (.int l1), some (.int l2), some (.int l3), some (.int l4), some (.int l5), none, none, none] [] (mh A S D)) {S : MS} {s0 : Int32} {s1 : Int32} {l1 : Int32} {l2 : Int32} {l3 : Int32} {l5 : Int32} (hf : X8_apart_62 rec33 S s0 s1 l1 l2 l3 l5 = some r) : AW l g d RX8 cX8_apart 9 "apart" MC MS' (Qr (some (.int r.1)) (mh A r.2 D)) k n 62 [some (.ref 26), some (.int l1), some (.int l2), some (.int l3), none, some (.int l5), none, none, none] [.int s1, .int s0] (mh A S D) := by
  unfold X8_apart_62 at hf
  refine a_ior (pc := 62) dX8_apart_62 ?_
  refine a_istore (pc := 63) (ls' := [some (.ref 26), some (.int l1), some (.int l2), some (.int l3), some (.int (s0 ||| s1)), some (.int l5), none, none, none]) dX8_apart_63 (by decide) rfl ?_
  refine a_iinc (pc := 65) (ls' := [some (.ref 26), some (.int l1), some (.int l2), some (.int l3), some (.int (s0 ||| s1)), some (.int (l5 + 1)), none, none, none]) (l5 + 1) dX8_apart_65 rfl rfl (by decide) rfl ?_
  refine a_goto (pc := 68) 33 dX8_apart_68 (by decide) ?_
  exact hlp33 S l1 l2 l3 (s0 ||| s1) (l5 + 1) hf
set_option maxHeartbeats 4000000 in
theorem sX8_apart_155 {l : Launch} {g : gE} {d MC MS' k n : Nat} {A D : List va_E} (hA : A.length = 26) (hd : 7 ≤ d) (hk : k ≤ MC) (hn : n ≤ MS') {r : Int32 × MS} {rec85 : MS → Int32 → Int32 → Int32 → Int32 → Option (Int32 × MS)} (hlp85 : ∀ (S : MS) (l4 : Int32) (l5 : Int32) (l6 : Int32) (l7 : Int32), rec85 S l4 l5 l6 l7 = some r → AW l g d RX8 cX8_apart 9 "apart" MC MS' (Qr (some (.int r.1)) (mh A r.2 D)) k n 85 [some (.ref 26), none, none, none, some (.int l4), some (.int l5), some (.int l6), some (.int l7), none] [] (mh A S D)) {rec97 : MS → Int32 → Int32 → Int32 → Int32 → Int32 → Option (Int32 × MS)} (hlp97 : ∀ (S : MS) (l4 : Int32) (l5 : Int32) (l6 : Int32) (l7 : Int32) (l8 : Int32), rec97 S l4 l5 l6 l7 l8 = some r → AW l g d RX8 cX8_apart 9 "apart" MC MS' (Qr (some (.int r.1)) (mh A r.2 D)) k n 97 [some (.ref 26), none, none, none, some (.int l4), some (.int l5), some (.int l6), some (.int l7), some (.int l8)] [] (mh A S D)) {S : MS} {s0 : Int32} {s1 : Int32} {l4 : Int32} {l5 : Int32} {l7 : Int32} {l8 : Int32} (hf : X8_apart_155 rec85 rec97 S s0 s1 l4 l5 l7 l8 = some r) : AW l g d RX8 cX8_apart 9 "apart" MC MS' (Qr (some (.int r.1)) (mh A r.2 D)) k n 155 [some (.ref 26), none, none, none, some (.int l4), some (.int l5), none, some (.int l7), some (.int l8)] [.int s1, .int s0] (mh A S D) := by
  unfold X8_apart_155 at hf
  refine a_iadd (pc := 155) dX8_apart_155 ?_
  refine a_istore (pc := 156) (ls' := [some (.ref 26), none, none, none, some (.int l4), some (.int l5), some (.int (s0 + s1)), some (.int l7), some (.int l8)]) dX8_apart_156 (by decide) rfl ?_
  refine a_iinc (pc := 158) (ls' := [some (.ref 26), none, none, none, some (.int l4), some (.int l5), some (.int (s0 + s1)), some (.int l7), some (.int (l8 + 1))]) (l8 + 1) dX8_apart_158 rfl rfl (by decide) rfl ?_
  refine a_goto (pc := 161) 97 dX8_apart_161 (by decide) ?_
  exact hlp97 S l4 l5 (s0 + s1) l7 (l8 + 1) hf
set_option maxHeartbeats 4000000 in
theorem sX8_apart_150 {l : Launch} {g : gE} {d MC MS' k n : Nat} {A D : List va_E} (hA : A.length = 26) (hd : 7 ≤ d) (hk : k ≤ MC) (hn : n ≤ MS') {r : Int32 × MS} {rec85 : MS → Int32 → Int32 → Int32 → Int32 → Option (Int32 × MS)} (hlp85 : ∀ (S : MS) (l4 : Int32) (l5 : Int32) (l6 : Int32) (l7 : Int32), rec85 S l4 l5 l6 l7 = some r → AW l g d RX8 cX8_apart 9 "apart" MC MS' (Qr (some (.int r.1)) (mh A r.2 D)) k n 85 [some (.ref 26), none, none, none, some (.int l4), some (.int l5), some (.int l6), some (.int l7), none] [] (mh A S D)) {rec97 : MS → Int32 → Int32 → Int32 → Int32 → Int32 → Option (Int32 × MS)} (hlp97 : ∀ (S : MS) (l4 : Int32) (l5 : Int32) (l6 : Int32) (l7 : Int32) (l8 : Int32), rec97 S l4 l5 l6 l7 l8 = some r → AW l g d RX8 cX8_apart 9 "apart" MC MS' (Qr (some (.int r.1)) (mh A r.2 D)) k n 97 [some (.ref 26), none, none, none, some (.int l4), some (.int l5), some (.int l6), some (.int l7), some (.int l8)] [] (mh A S D)) {S : MS} {s0 : Int32} {l4 : Int32} {l5 : Int32} {l7 : Int32} {l8 : Int32} (hf : X8_apart_150 rec85 rec97 S s0 l4 l5 l7 l8 = some r) : AW l g d RX8 cX8_apart 9 "apart" MC MS' (Qr (some (.int r.1)) (mh A r.2 D)) k n 150 [some (.ref 26), none, none, none, some (.int l4), some (.int l5), none, some (.int l7), some (.int l8)] [.int s0] (mh A S D) := by
  unfold X8_apart_150 at hf
  refine a_iconst (pc := 150) 1 dX8_apart_150 rfl ?_
  refine a_goto (pc := 151) 155 dX8_apart_151 (by decide) ?_
  exact sX8_apart_155 hA hd hk hn hlp85 hlp97 hf
set_option maxHeartbeats 4000000 in
theorem sX8_apart_154 {l : Launch} {g : gE} {d MC MS' k n : Nat} {A D : List va_E} (hA : A.length = 26) (hd : 7 ≤ d) (hk : k ≤ MC) (hn : n ≤ MS') {r : Int32 × MS} {rec85 : MS → Int32 → Int32 → Int32 → Int32 → Option (Int32 × MS)} (hlp85 : ∀ (S : MS) (l4 : Int32) (l5 : Int32) (l6 : Int32) (l7 : Int32), rec85 S l4 l5 l6 l7 = some r → AW l g d RX8 cX8_apart 9 "apart" MC MS' (Qr (some (.int r.1)) (mh A r.2 D)) k n 85 [some (.ref 26), none, none, none, some (.int l4), some (.int l5), some (.int l6), some (.int l7), none] [] (mh A S D)) {rec97 : MS → Int32 → Int32 → Int32 → Int32 → Int32 → Option (Int32 × MS)} (hlp97 : ∀ (S : MS) (l4 : Int32) (l5 : Int32) (l6 : Int32) (l7 : Int32) (l8 : Int32), rec97 S l4 l5 l6 l7 l8 = some r → AW l g d RX8 cX8_apart 9 "apart" MC MS' (Qr (some (.int r.1)) (mh A r.2 D)) k n 97 [some (.ref 26), none, none, none, some (.int l4), some (.int l5), some (.int l6), some (.int l7), some (.int l8)] [] (mh A S D)) {S : MS} {s0 : Int32} {l4 : Int32} {l5 : Int32} {l7 : Int32} {l8 : Int32} (hf : X8_apart_154 rec85 rec97 S s0 l4 l5 l7 l8 = some r) : AW l g d RX8 cX8_apart 9 "apart" MC MS' (Qr (some (.int r.1)) (mh A r.2 D)) k n 154 [some (.ref 26), none, none, none, some (.int l4), some (.int l5), none, some (.int l7), some (.int l8)] [.int s0] (mh A S D) := by
  unfold X8_apart_154 at hf
  refine a_iconst (pc := 154) 0 dX8_apart_154 rfl ?_
  exact sX8_apart_155 hA hd hk hn hlp85 hlp97 hf
set_option maxHeartbeats 4000000 in
theorem sX8_apart_97 {l : Launch} {g : gE} {d MC MS' k n : Nat} {A D : List va_E} (hA : A.length = 26) (hd : 7 ≤ d) (hk : k ≤ MC) (hn : n ≤ MS') {r : Int32 × MS} {rec85 : MS → Int32 → Int32 → Int32 → Int32 → Option (Int32 × MS)} (hlp85 : ∀ (S : MS) (l4 : Int32) (l5 : Int32) (l6 : Int32) (l7 : Int32), rec85 S l4 l5 l6 l7 = some r → AW l g d RX8 cX8_apart 9 "apart" MC MS' (Qr (some (.int r.1)) (mh A r.2 D)) k n 85 [some (.ref 26), none, none, none, some (.int l4), some (.int l5), some (.int l6), some (.int l7), none] [] (mh A S D)) : ∀ (fn : Nat) (S : MS) (l4 : Int32) (l5 : Int32) (l6 : Int32) (l7 : Int32) (l8 : Int32), X8_apart_97 rec85 fn S l4 l5 l6 l7 l8 = some r → AW l g d RX8 cX8_apart 9 "apart" MC MS' (Qr (some (.int r.1)) (mh A r.2 D)) k n 97 [some (.ref 26), none, none, none, some (.int l4), some (.int l5), some (.int l6), some (.int l7), some (.int l8)] [] (mh A S D) := by
  intro fn
  induction fn with
  | zero =>
    intro S l4 l5 l6 l7 l8 hf
    rw [X8_apart_97] at hf
    cases hf
  | succ fn ih =>
    intro S l4 l5 l6 l7 l8 hf
    rw [X8_apart_97] at hf
    refine a_iload (pc := 97) dX8_apart_97 rfl ?_
    refine a_iload (pc := 99) dX8_apart_99 rfl ?_
    refine a_icmp_ge (pc := 101) 164 dX8_apart_101 (by decide) (fun c9 => ?_) (fun c9 => ?_)
    · have hf := (if_pos c9).symm.trans hf
      refine a_iinc (pc := 164) (ls' := [some (.ref 26), none, none, none, some (.int l4), some (.int l5), some (.int l6), some (.int (l7 + 1)), some (.int l8)]) (l7 + 1) dX8_apart_164 rfl rfl (by decide) rfl ?_
      refine a_goto (pc := 167) 85 dX8_apart_167 (by decide) ?_
      refine a_sub (sub_k (sub_k (sub_k (sub_k (sub_k (sub_k (sub_k (sub_k (sub_d sub_n))))))))) ?_
      exact hlp85 S l4 l5 l6 (l7 + 1) hf
    · have hf := (if_neg c9).symm.trans hf
      refine a_iload (pc := 104) dX8_apart_104 rfl ?_
      refine a_aload_n (pc := 106) dX8_apart_106 rfl (isRv_r _) ?_
      refine a_iload (pc := 107) dX8_apart_107 rfl ?_
      refine a_iload (pc := 109) dX8_apart_109 rfl ?_
      obtain ⟨r1, hr1, hf⟩ := Option.bind_eq_some_iff.mp hf
      refine m_call (pc := 111) (.int (r1.1)) [.int l4, .int l7] [.int l6] hA dX8_apart_111 ml_X8_219 mv_X8_has rfl rfl (by omega) (mX8_has hA (by omega) hr1) rfl (Nat.le_of_ble_eq_true rfl) hk hn ?_
      refine a_if_eq (pc := 114) 154 dX8_apart_114 (by decide) (fun c8 => ?_) (fun c8 => ?_)
      · have hf := (if_pos c8).symm.trans hf
        refine a_sub (sub_k (sub_k (sub_k (sub_k (sub_k (sub_k (sub_d (sub_k (sub_k sub_n))))))))) ?_
        exact sX8_apart_154 hA hd hk hn hlp85 ih hf
      · have hf := (if_neg c8).symm.trans hf
        refine a_aload_n (pc := 117) dX8_apart_117 rfl (isRv_r _) ?_
        refine a_iload (pc := 118) dX8_apart_118 rfl ?_
        refine a_iload (pc := 120) dX8_apart_120 rfl ?_
        obtain ⟨r2, hr2, hf⟩ := Option.bind_eq_some_iff.mp hf
        refine m_call (pc := 122) (.int (r2.1)) [.int l4, .int l8] [.int l6] hA dX8_apart_122 ml_X8_219 mv_X8_has rfl rfl (by omega) (mX8_has hA (by omega) hr2) rfl (Nat.le_of_ble_eq_true rfl) hk hn ?_
        refine a_if_eq (pc := 125) 154 dX8_apart_125 (by decide) (fun c7 => ?_) (fun c7 => ?_)
        · have hf := (if_pos c7).symm.trans hf
          refine a_sub (sub_k (sub_k (sub_k (sub_k (sub_k (sub_k (sub_d (sub_k (sub_k sub_n))))))))) ?_
          exact sX8_apart_154 hA hd hk hn hlp85 ih hf
        · have hf := (if_neg c7).symm.trans hf
          refine a_aload_n (pc := 128) dX8_apart_128 rfl (isRv_r _) ?_
          refine a_iload (pc := 129) dX8_apart_129 rfl ?_
          refine a_iload (pc := 131) dX8_apart_131 rfl ?_
          obtain ⟨r3, hr3, hf⟩ := Option.bind_eq_some_iff.mp hf
          refine m_call (pc := 133) (.int (r3.1)) [.int l5, .int l7] [.int l6] hA dX8_apart_133 ml_X8_219 mv_X8_has rfl rfl (by omega) (mX8_has hA (by omega) hr3) rfl (Nat.le_of_ble_eq_true rfl) hk hn ?_
          refine a_if_eq (pc := 136) 150 dX8_apart_136 (by decide) (fun c6 => ?_) (fun c6 => ?_)
          · have hf := (if_pos c6).symm.trans hf
            refine a_sub (sub_k (sub_k (sub_k (sub_k (sub_k (sub_k (sub_d (sub_k (sub_k sub_n))))))))) ?_
            exact sX8_apart_150 hA hd hk hn hlp85 ih hf
          · have hf := (if_neg c6).symm.trans hf
            refine a_aload_n (pc := 139) dX8_apart_139 rfl (isRv_r _) ?_
            refine a_iload (pc := 140) dX8_apart_140 rfl ?_
            refine a_iload (pc := 142) dX8_apart_142 rfl ?_
            obtain ⟨r4, hr4, hf⟩ := Option.bind_eq_some_iff.mp hf
            refine m_call (pc := 144) (.int (r4.1)) [.int l5, .int l8] [.int l6] hA dX8_apart_144 ml_X8_219 mv_X8_has rfl rfl (by omega) (mX8_has hA (by omega) hr4) rfl (Nat.le_of_ble_eq_true rfl) hk hn ?_
            refine a_if_ne (pc := 147) 154 dX8_apart_147 (by decide) (fun c5 => ?_) (fun c5 => ?_)
            · have hf := (if_neg c5).symm.trans hf
              refine a_sub (sub_k (sub_k (sub_k (sub_k (sub_k (sub_k (sub_d (sub_k (sub_k sub_n))))))))) ?_
              exact sX8_apart_154 hA hd hk hn hlp85 ih hf
            · have hf := (if_pos c5).symm.trans hf
              refine a_sub (sub_k (sub_k (sub_k (sub_k (sub_k (sub_k (sub_d (sub_k (sub_k sub_n))))))))) ?_
              exact sX8_apart_150 hA hd hk hn hlp85 ih hf
set_option maxHeartbeats 4000000 in
theorem sX8_apart_85 {l : Launch} {g : gE} {d MC MS' k n : Nat} {A D : List va_E} (hA : A.length = 26) (hd : 7 ≤ d) (hk : k ≤ MC) (hn : n ≤ MS') {r : Int32 × MS} : ∀ (fn : Nat) (S : MS) (l4 : Int32) (l5 : Int32) (l6 : Int32) (l7 : Int32), X8_apart_85 fn S l4 l5 l6 l7 = some r → AW l g d RX8 cX8_apart 9 "apart" MC MS' (Qr (some (.int r.1)) (mh A r.2 D)) k n 85 [some (.ref 26), none, none, none, some (.int l4), some (.int l5), some (.int l6), some (.int l7), none] [] (mh A S D) := by
  intro fn
  induction fn with
  | zero =>
    intro S l4 l5 l6 l7 hf
    rw [X8_apart_85] at hf
    cases hf
  | succ fn ih =>
    intro S l4 l5 l6 l7 hf
    rw [X8_apart_85] at hf
    refine a_iload (pc := 85) dX8_apart_85 rfl ?_
    refine a_aload_n (pc := 87) dX8_apart_87 rfl (isRv_r _) ?_
    refine m_getS (pc := 88) hA dX8_apart_88 fl_X8_112 ks_33 ?_
    refine a_icmp_ge (pc := 91) 170 dX8_apart_91 (by decide) (fun c1 => ?_) (fun c1 => ?_)
    · have hf := (if_pos c1).symm.trans hf
      refine a_iload (pc := 170) dX8_apart_170 rfl ?_
      have hf := Option.some.inj hf
      subst hf
      exact a_ireturn (pc := 172) dX8_apart_172 hk hn ⟨rfl, rfl⟩
    · have hf := (if_neg c1).symm.trans hf
      refine a_iconst (pc := 94) 0 dX8_apart_94 rfl ?_
      refine a_istore (pc := 95) (ls' := [some (.ref 26), none, none, none, some (.int l4), some (.int l5), some (.int l6), some (.int l7), some (.int 0)]) dX8_apart_95 (by decide) rfl ?_
      exact sX8_apart_97 hA hd hk hn ih FU S l4 l5 l6 l7 0 hf
set_option maxHeartbeats 4000000 in
theorem sX8_apart_33 {l : Launch} {g : gE} {d MC MS' k n : Nat} {A D : List va_E} (hA : A.length = 26) (hd : 7 ≤ d) (hk : k ≤ MC) (hn : n ≤ MS') {r : Int32 × MS} : ∀ (fn : Nat) (S : MS) (l1 : Int32) (l2 : Int32) (l3 : Int32) (l4 : Int32) (l5 : Int32), X8_apart_33 fn S l1 l2 l3 l4 l5 = some r → AW l g d RX8 cX8_apart 9 "apart" MC MS' (Qr (some (.int r.1)) (mh A r.2 D)) k n 33 [some (.ref 26), some (.int l1), some (.int l2), some (.int l3), some (.int l4), some (.int l5), none, none, none] [] (mh A S D) := by
  intro fn
  induction fn with
  | zero =>
    intro S l1 l2 l3 l4 l5 hf
    rw [X8_apart_33] at hf
    cases hf
  | succ fn ih =>
    intro S l1 l2 l3 l4 l5 hf
    rw [X8_apart_33] at hf
    refine a_iload (pc := 33) dX8_apart_33 rfl ?_
    refine a_aload_n (pc := 35) dX8_apart_35 rfl (isRv_r _) ?_
    refine m_getS (pc := 36) hA dX8_apart_36 fl_X8_95 ks_28 ?_
    refine a_icmp_ge (pc := 39) 71 dX8_apart_39 (by decide) (fun c4 => ?_) (fun c4 => ?_)
    · have hf := (if_pos c4).symm.trans hf
      refine a_aload_n (pc := 71) dX8_apart_71 rfl (isRv_r _) ?_
      refine a_iload_n (pc := 72) dX8_apart_72 rfl ?_
      refine a_iload_n (pc := 73) dX8_apart_73 rfl ?_
      obtain ⟨r1, hr1, hf⟩ := Option.bind_eq_some_iff.mp hf
      refine m_call (pc := 74) (.int (r1.1)) [.int l1, .int l2] [] hA dX8_apart_74 ml_X8_308 mv_X8_aloneOf rfl rfl (by omega) (mX8_aloneOf hA (by omega) hr1) rfl (Nat.le_of_ble_eq_true rfl) hk hn ?_
      refine a_istore (pc := 77) (ls' := [some (.ref 26), some (.int l1), some (.int l2), some (.int l3), some (.int l4), some (.int (r1.1)), none, none, none]) dX8_apart_77 (by decide) rfl ?_
      refine a_iconst (pc := 79) 0 dX8_apart_79 rfl ?_
      refine a_istore (pc := 80) (ls' := [some (.ref 26), some (.int l1), some (.int l2), some (.int l3), some (.int l4), some (.int (r1.1)), some (.int 0), none, none]) dX8_apart_80 (by decide) rfl ?_
      refine a_iconst (pc := 82) 0 dX8_apart_82 rfl ?_
      refine a_istore (pc := 83) (ls' := [some (.ref 26), some (.int l1), some (.int l2), some (.int l3), some (.int l4), some (.int (r1.1)), some (.int 0), some (.int 0), none]) dX8_apart_83 (by decide) rfl ?_
      refine a_sub (sub_k (sub_d (sub_d (sub_d (sub_k (sub_k (sub_k (sub_k (sub_k sub_n))))))))) ?_
      exact sX8_apart_85 hA hd hk hn FU r1.2 l4 r1.1 0 0 hf
    · have hf := (if_neg c4).symm.trans hf
      refine a_iload (pc := 42) dX8_apart_42 rfl ?_
      refine a_aload_n (pc := 44) dX8_apart_44 rfl (isRv_r _) ?_
      refine a_iload_n (pc := 45) dX8_apart_45 rfl ?_
      refine a_iload (pc := 46) dX8_apart_46 rfl ?_
      obtain ⟨r2, hr2, hf⟩ := Option.bind_eq_some_iff.mp hf
      refine m_call (pc := 48) (.int (r2.1)) [.int l3, .int l5] [.int l4] hA dX8_apart_48 ml_X8_249 mv_X8_isBarred rfl rfl (by omega) (mX8_isBarred hA (by omega) hr2) rfl (Nat.le_of_ble_eq_true rfl) hk hn ?_
      refine a_if_eq (pc := 51) 61 dX8_apart_51 (by decide) (fun c3 => ?_) (fun c3 => ?_)
      · have hf := (if_pos c3).symm.trans hf
        refine a_iconst (pc := 61) 0 dX8_apart_61 rfl ?_
        refine a_sub (sub_k (sub_k (sub_k (sub_k (sub_d (sub_k (sub_k (sub_k (sub_k sub_n))))))))) ?_
        exact sX8_apart_62 hA hd hk hn ih hf
      · have hf := (if_neg c3).symm.trans hf
        refine a_iconst (pc := 54) 1 dX8_apart_54 rfl ?_
        refine a_iload (pc := 55) dX8_apart_55 rfl ?_
        refine a_ishl (pc := 57) dX8_apart_57 ?_
        refine a_goto (pc := 58) 62 dX8_apart_58 (by decide) ?_
        refine a_sub (sub_k (sub_k (sub_k (sub_k (sub_d (sub_k (sub_k (sub_k (sub_k sub_n))))))))) ?_
        exact sX8_apart_62 hA hd hk hn ih hf
set_option maxHeartbeats 4000000 in
theorem sX8_apart_0 {l : Launch} {g : gE} {d MC MS' k n : Nat} {A D : List va_E} (hA : A.length = 26) (hd : 7 ≤ d) (hk : k ≤ MC) (hn : n ≤ MS') {r : Int32 × MS} {S : MS} {l1 : Int32} {l2 : Int32} {l3 : Int32} (hf : X8_apart_0 S l1 l2 l3 = some r) : AW l g d RX8 cX8_apart 9 "apart" MC MS' (Qr (some (.int r.1)) (mh A r.2 D)) k n 0 [some (.ref 26), some (.int l1), some (.int l2), some (.int l3), none, none, none, none, none] [] (mh A S D) := by
  unfold X8_apart_0 at hf
  refine a_aload_n (pc := 0) dX8_apart_0 rfl (isRv_r _) ?_
  refine a_iload_n (pc := 1) dX8_apart_1 rfl ?_
  refine a_iload_n (pc := 2) dX8_apart_2 rfl ?_
  refine a_iload_n (pc := 3) dX8_apart_3 rfl ?_
  obtain ⟨r1, hr1, hf⟩ := Option.bind_eq_some_iff.mp hf
  refine m_call (pc := 4) (.int (r1.1)) [.int l1, .int l2, .int l3] [] hA dX8_apart_4 ml_X8_279 mv_X8_areGoods rfl rfl (by omega) (mX8_areGoods hA (by omega) hr1) rfl (Nat.le_of_ble_eq_true rfl) hk hn ?_
  refine a_if_ne (pc := 7) 12 dX8_apart_7 (by decide) (fun c4 => ?_) (fun c4 => ?_)
  · have hf := (if_neg c4).symm.trans hf
    refine a_aload_n (pc := 12) dX8_apart_12 rfl (isRv_r _) ?_
    refine a_iload_n (pc := 13) dX8_apart_13 rfl ?_
    obtain ⟨r2, hr2, hf⟩ := Option.bind_eq_some_iff.mp hf
    refine m_callv (pc := 14) [.int l2] [] hA dX8_apart_14 ml_X8_270 mv_X8_readWhole rfl rfl (by omega) (mX8_readWhole hA (by omega) hr2) rfl (Nat.le_of_ble_eq_true rfl) hk hn ?_
    refine a_aload_n (pc := 17) dX8_apart_17 rfl (isRv_r _) ?_
    refine m_getS (pc := 18) hA dX8_apart_18 fl_X8_112 ks_33 ?_
    refine a_if_ge (pc := 21) 27 dX8_apart_21 (by decide) (fun c3 => ?_) (fun c3 => ?_)
    · have hf := (if_pos c3).symm.trans hf
      refine a_iconst (pc := 27) 0 dX8_apart_27 rfl ?_
      refine a_istore (pc := 28) (ls' := [some (.ref 26), some (.int l1), some (.int l2), some (.int l3), some (.int 0), none, none, none, none]) dX8_apart_28 (by decide) rfl ?_
      refine a_iconst (pc := 30) 0 dX8_apart_30 rfl ?_
      refine a_istore (pc := 31) (ls' := [some (.ref 26), some (.int l1), some (.int l2), some (.int l3), some (.int 0), some (.int 0), none, none, none]) dX8_apart_31 (by decide) rfl ?_
      exact sX8_apart_33 hA hd hk hn FU r2.2 l1 l2 l3 0 0 hf
    · have hf := (if_neg c3).symm.trans hf
      refine a_bipush (pc := 24) (-3) dX8_apart_24 rfl ?_
      have hf := Option.some.inj hf
      subst hf
      exact a_ireturn (pc := 26) dX8_apart_26 hk hn ⟨rfl, rfl⟩
  · have hf := (if_pos c4).symm.trans hf
    refine a_iconst (pc := 10) (-1) dX8_apart_10 rfl ?_
    have hf := Option.some.inj hf
    subst hf
    exact a_ireturn (pc := 11) dX8_apart_11 hk hn ⟨rfl, rfl⟩
set_option maxHeartbeats 4000000 in
theorem mX8_apart {l : Launch} {g : gE} {d : Nat} {A D : List va_E} (hA : A.length = 26) (hd : 7 ≤ d) {r : Int32 × MS} {S : MS} {l1 : Int32} {l2 : Int32} {l3 : Int32} (hf : X8_apart S l1 l2 l3 = some r) : AM l g d yX8_apart cX8_apart 9 (some .int) 0 0 [.ref 26, .int l1, .int l2, .int l3] (mh A S D) (Qr (some (.int r.1)) (mh A r.2 D)) := by
  refine AM.of rfl (by exact Nat.le_of_ble_eq_true rfl) (fun v h' q => by obtain ⟨rfl, -⟩ := q; exact ⟨_, rfl, rfl⟩) (fun ls e => ?_)
  have e2 : aBeg [.ref 26, .int l1, .int l2, .int l3] 9 = [some (.ref 26), some (.int l1), some (.int l2), some (.int l3), none, none, none, none, none] := rfl
  rw [e2] at e
  subst e
  refine a_sub (sub_k (sub_k (sub_k (sub_k (sub_k (sub_k (sub_k (sub_k (sub_k (sub_n)))))))))) ?_
  exact sX8_apart_0 hA hd (Nat.le_refl _) (Nat.le_refl _) (hf)
-- PencilStrikesModel.saves(II)I
def X8_saves_16 (S : MS) : Option (Int32 × MS) :=
  some ((-1), S)
def X8_saves_32 : Nat → MS → Int32 → Int32 → Option (Int32 × MS)
  | 0, _, _, _ => none
  | fn + 1, S, l2, l3 =>
    if 61 ≤ l3 then
      some ((-5), S)
    else
      (X8_isLawful S l2 l3).bind fun r1 =>
      if r1.1 = 0 then
        X8_saves_32 fn r1.2 l2 (l3 + 1)
      else
        some (l3, r1.2)
def X8_saves_0 (S : MS) (l1 : Int32) (l2 : Int32) : Option (Int32 × MS) :=
  (X8_isBargain S l1).bind fun r1 =>
  if r1.1 = 0 then
    X8_saves_16 r1.2
  else
    (X8_isLaw r1.2 l2).bind fun r2 =>
    if r2.1 = 0 then
      X8_saves_16 r2.2
    else
      (X8_readsLeft r2.2 l1 0).bind fun r3 =>
      if r3.1 = 0 then
        some ((-5), r3.2)
      else
        X8_saves_32 FU r3.2 l2 0
def X8_saves (S : MS) (l1 : Int32) (l2 : Int32) : Option (Int32 × MS) := X8_saves_0 S l1 l2
set_option maxHeartbeats 4000000 in
theorem sX8_saves_16 {l : Launch} {g : gE} {d MC MS' k n : Nat} {A D : List va_E} (hA : A.length = 26) (hd : 5 ≤ d) (hk : k ≤ MC) (hn : n ≤ MS') {r : Int32 × MS} {S : MS} (hf : X8_saves_16 S = some r) : AW l g d RX8 cX8_saves 4 "saves" MC MS' (Qr (some (.int r.1)) (mh A r.2 D)) k n 16 [none, none, none, none] [] (mh A S D) := by
  unfold X8_saves_16 at hf
  refine a_iconst (pc := 16) (-1) dX8_saves_16 rfl ?_
  have hf := Option.some.inj hf
  subst hf
  exact a_ireturn (pc := 17) dX8_saves_17 hk hn ⟨rfl, rfl⟩
set_option maxHeartbeats 4000000 in
theorem sX8_saves_32 {l : Launch} {g : gE} {d MC MS' k n : Nat} {A D : List va_E} (hA : A.length = 26) (hd : 5 ≤ d) (hk : k ≤ MC) (hn : n ≤ MS') {r : Int32 × MS} : ∀ (fn : Nat) (S : MS) (l2 : Int32) (l3 : Int32), X8_saves_32 fn S l2 l3 = some r → AW l g d RX8 cX8_saves 4 "saves" MC MS' (Qr (some (.int r.1)) (mh A r.2 D)) k n 32 [some (.ref 26), none, some (.int l2), some (.int l3)] [] (mh A S D) := by
  intro fn
  induction fn with
  | zero =>
    intro S l2 l3 hf
    rw [X8_saves_32] at hf
    cases hf
  | succ fn ih =>
    intro S l2 l3 hf
    rw [X8_saves_32] at hf
    refine a_iload_n (pc := 32) dX8_saves_32 rfl ?_
    refine a_bipush (pc := 33) 61 dX8_saves_33 rfl ?_
    refine a_icmp_ge (pc := 35) 55 dX8_saves_35 (by decide) (fun c3 => ?_) (fun c3 => ?_)
    · have hf := (if_pos c3).symm.trans hf
      refine a_bipush (pc := 55) (-5) dX8_saves_55 rfl ?_
      have hf := Option.some.inj hf
      subst hf
      exact a_ireturn (pc := 57) dX8_saves_57 hk hn ⟨rfl, rfl⟩
    · have hf := (if_neg c3).symm.trans hf
      refine a_aload_n (pc := 38) dX8_saves_38 rfl (isRv_r _) ?_
      refine a_iload_n (pc := 39) dX8_saves_39 rfl ?_
      refine a_iload_n (pc := 40) dX8_saves_40 rfl ?_
      obtain ⟨r1, hr1, hf⟩ := Option.bind_eq_some_iff.mp hf
      refine m_call (pc := 41) (.int (r1.1)) [.int l2, .int l3] [] hA dX8_saves_41 ml_X8_258 mv_X8_isLawful rfl rfl (by omega) (mX8_isLawful hA (by omega) hr1) rfl (Nat.le_of_ble_eq_true rfl) hk hn ?_
      refine a_if_eq (pc := 44) 49 dX8_saves_44 (by decide) (fun c2 => ?_) (fun c2 => ?_)
      · have hf := (if_pos c2).symm.trans hf
        refine a_iinc (pc := 49) (ls' := [some (.ref 26), none, some (.int l2), some (.int (l3 + 1))]) (l3 + 1) dX8_saves_49 rfl rfl (by decide) rfl ?_
        refine a_goto (pc := 52) 32 dX8_saves_52 (by decide) ?_
        exact ih r1.2 l2 (l3 + 1) hf
      · have hf := (if_neg c2).symm.trans hf
        refine a_iload_n (pc := 47) dX8_saves_47 rfl ?_
        have hf := Option.some.inj hf
        subst hf
        exact a_ireturn (pc := 48) dX8_saves_48 hk hn ⟨rfl, rfl⟩
set_option maxHeartbeats 4000000 in
theorem sX8_saves_0 {l : Launch} {g : gE} {d MC MS' k n : Nat} {A D : List va_E} (hA : A.length = 26) (hd : 5 ≤ d) (hk : k ≤ MC) (hn : n ≤ MS') {r : Int32 × MS} {S : MS} {l1 : Int32} {l2 : Int32} (hf : X8_saves_0 S l1 l2 = some r) : AW l g d RX8 cX8_saves 4 "saves" MC MS' (Qr (some (.int r.1)) (mh A r.2 D)) k n 0 [some (.ref 26), some (.int l1), some (.int l2), none] [] (mh A S D) := by
  unfold X8_saves_0 at hf
  refine a_aload_n (pc := 0) dX8_saves_0 rfl (isRv_r _) ?_
  refine a_iload_n (pc := 1) dX8_saves_1 rfl ?_
  obtain ⟨r1, hr1, hf⟩ := Option.bind_eq_some_iff.mp hf
  refine m_call (pc := 2) (.int (r1.1)) [.int l1] [] hA dX8_saves_2 ml_X8_203 mv_X8_isBargain rfl rfl (by omega) (mX8_isBargain hA (by omega) hr1) rfl (Nat.le_of_ble_eq_true rfl) hk hn ?_
  refine a_if_eq (pc := 5) 16 dX8_saves_5 (by decide) (fun c6 => ?_) (fun c6 => ?_)
  · have hf := (if_pos c6).symm.trans hf
    refine a_sub (sub_d (sub_d (sub_d (sub_k sub_n)))) ?_
    exact sX8_saves_16 hA hd hk hn hf
  · have hf := (if_neg c6).symm.trans hf
    refine a_aload_n (pc := 8) dX8_saves_8 rfl (isRv_r _) ?_
    refine a_iload_n (pc := 9) dX8_saves_9 rfl ?_
    obtain ⟨r2, hr2, hf⟩ := Option.bind_eq_some_iff.mp hf
    refine m_call (pc := 10) (.int (r2.1)) [.int l2] [] hA dX8_saves_10 ml_X8_255 mv_X8_isLaw rfl rfl (by omega) (mX8_isLaw hA (by omega) hr2) rfl (Nat.le_of_ble_eq_true rfl) hk hn ?_
    refine a_if_ne (pc := 13) 18 dX8_saves_13 (by decide) (fun c5 => ?_) (fun c5 => ?_)
    · have hf := (if_neg c5).symm.trans hf
      refine a_aload_n (pc := 18) dX8_saves_18 rfl (isRv_r _) ?_
      refine a_iload_n (pc := 19) dX8_saves_19 rfl ?_
      refine a_iconst (pc := 20) 0 dX8_saves_20 rfl ?_
      obtain ⟨r3, hr3, hf⟩ := Option.bind_eq_some_iff.mp hf
      refine m_call (pc := 21) (.int (r3.1)) [.int l1, .int 0] [] hA dX8_saves_21 ml_X8_230 mv_X8_readsLeft rfl rfl (by omega) (mX8_readsLeft hA (by omega) hr3) rfl (Nat.le_of_ble_eq_true rfl) hk hn ?_
      refine a_if_ne (pc := 24) 30 dX8_saves_24 (by decide) (fun c4 => ?_) (fun c4 => ?_)
      · have hf := (if_neg c4).symm.trans hf
        refine a_iconst (pc := 30) 0 dX8_saves_30 rfl ?_
        refine a_istore_n (pc := 31) (ls' := [some (.ref 26), some (.int l1), some (.int l2), some (.int 0)]) dX8_saves_31 (by decide) rfl ?_
        refine a_sub (sub_k (sub_d (sub_k (sub_k sub_n)))) ?_
        exact sX8_saves_32 hA hd hk hn FU r3.2 l2 0 hf
      · have hf := (if_pos c4).symm.trans hf
        refine a_bipush (pc := 27) (-5) dX8_saves_27 rfl ?_
        have hf := Option.some.inj hf
        subst hf
        exact a_ireturn (pc := 29) dX8_saves_29 hk hn ⟨rfl, rfl⟩
    · have hf := (if_pos c5).symm.trans hf
      refine a_sub (sub_d (sub_d (sub_d (sub_k sub_n)))) ?_
      exact sX8_saves_16 hA hd hk hn hf
set_option maxHeartbeats 4000000 in
theorem mX8_saves {l : Launch} {g : gE} {d : Nat} {A D : List va_E} (hA : A.length = 26) (hd : 5 ≤ d) {r : Int32 × MS} {S : MS} {l1 : Int32} {l2 : Int32} (hf : X8_saves S l1 l2 = some r) : AM l g d yX8_saves cX8_saves 4 (some .int) 0 0 [.ref 26, .int l1, .int l2] (mh A S D) (Qr (some (.int r.1)) (mh A r.2 D)) := by
  refine AM.of rfl (by exact Nat.le_of_ble_eq_true rfl) (fun v h' q => by obtain ⟨rfl, -⟩ := q; exact ⟨_, rfl, rfl⟩) (fun ls e => ?_)
  have e2 : aBeg [.ref 26, .int l1, .int l2] 4 = [some (.ref 26), some (.int l1), some (.int l2), none] := rfl
  rw [e2] at e
  subst e
  refine a_sub (sub_k (sub_k (sub_k (sub_k (sub_n))))) ?_
  exact sX8_saves_0 hA hd (Nat.le_refl _) (Nat.le_refl _) (hf)
-- PencilStrikesModel.isTape(I)Z
def X8_isTape_0 (S : MS) (l1 : Int32) : Option (Int32 × MS) :=
  (X8_in S l1 0 5).bind fun r1 =>
  some (r1.1, r1.2)
def X8_isTape (S : MS) (l1 : Int32) : Option (Int32 × MS) := zg (X8_isTape_0 S l1)
set_option maxHeartbeats 4000000 in
theorem sX8_isTape_0 {l : Launch} {g : gE} {d MC MS' k n : Nat} {A D : List va_E} (hA : A.length = 26) (hd : 1 ≤ d) (hk : k ≤ MC) (hn : n ≤ MS') {r : Int32 × MS} {S : MS} {l1 : Int32} (hf : X8_isTape_0 S l1 = some r) : AW l g d RX8 cX8_isTape 2 "isTape" MC MS' (Qr (some (.int r.1)) (mh A r.2 D)) k n 0 [some (.ref 26), some (.int l1)] [] (mh A S D) := by
  unfold X8_isTape_0 at hf
  refine a_aload_n (pc := 0) dX8_isTape_0 rfl (isRv_r _) ?_
  refine a_iload_n (pc := 1) dX8_isTape_1 rfl ?_
  refine a_iconst (pc := 2) 0 dX8_isTape_2 rfl ?_
  refine a_iconst (pc := 3) 5 dX8_isTape_3 rfl ?_
  obtain ⟨r1, hr1, hf⟩ := Option.bind_eq_some_iff.mp hf
  refine m_call (pc := 4) (.int (r1.1)) [.int l1, .int 0, .int 5] [] hA dX8_isTape_4 ml_X8_142 mv_X8_in rfl rfl (by omega) (mX8_in hA (by omega) hr1) rfl (Nat.le_of_ble_eq_true rfl) hk hn ?_
  have hf := Option.some.inj hf
  subst hf
  exact a_ireturn (pc := 7) dX8_isTape_7 hk hn ⟨rfl, rfl⟩
set_option maxHeartbeats 4000000 in
theorem mX8_isTape {l : Launch} {g : gE} {d : Nat} {A D : List va_E} (hA : A.length = 26) (hd : 1 ≤ d) {r : Int32 × MS} {S : MS} {l1 : Int32} (hf : X8_isTape S l1 = some r) : AM l g d yX8_isTape cX8_isTape 2 (some .boolean) 0 0 [.ref 26, .int l1] (mh A S D) (Qr (some (.int r.1)) (mh A r.2 D)) := by
  refine AM.of rfl (by exact Nat.le_of_ble_eq_true rfl) (fun v h' q => by obtain ⟨rfl, -⟩ := q; refine ⟨_, rfl, ?_⟩; rcases (zg_of hf).2 with e | e <;> rw [e] <;> rfl) (fun ls e => ?_)
  have e2 : aBeg [.ref 26, .int l1] 2 = [some (.ref 26), some (.int l1)] := rfl
  rw [e2] at e
  subst e
  refine a_sub (sub_k (sub_k (sub_n))) ?_
  exact sX8_isTape_0 hA hd (Nat.le_refl _) (Nat.le_refl _) ((zg_of hf).1)
-- PencilStrikesModel.table(IIIII)I
def X8_table_20 (S : MS) : Option (Int32 × MS) :=
  some ((-1), S)
def X8_table_101 (S : MS) (l6 : Int32) : Option (Int32 × MS) :=
  some ((1000 + l6), S)
def X8_table_65 : Nat → MS → Int32 → Int32 → Int32 → Int32 → Int32 → Int32 → Option (Int32 × MS)
  | 0, _, _, _, _, _, _, _ => none
  | fn + 1, S, l1, l2, l3, l4, l6, l7 =>
    if 0 ≤ l7 then
      (mA S 39 l1).bind fun x1 =>
      if x1 < 0 then
        X8_table_101 S l6
      else
        if l2 < 0 then
          X8_table_101 S l6
        else
          (mA S 40 l1).bind fun x2 =>
          if l2 ≤ ((x2 - l6) - 1) then
            (mL S 41 (((60 * l1) + l2) + l6)).bind fun x3 =>
            if (lg_cmp x3 ((l7).toInt64)) = 0 then
              (X8_nextGood S l3 l4 l7).bind fun r4 =>
              X8_table_65 fn r4.2 l1 l2 l3 l4 (l6 + 1) r4.1
            else
              some (l6, S)
          else
            X8_table_101 S l6
    else
      some (l6, S)
def X8_table_44 (S : MS) (l1 : Int32) (l2 : Int32) (l3 : Int32) (l4 : Int32) (l5 : Int32) : Option (Int32 × MS) :=
  (X8_findFine S l4 l5).bind fun r1 =>
  (X8_nextGood r1.2 l3 l4 (-1)).bind fun r2 =>
  X8_table_65 FU r2.2 l1 l2 l3 l4 0 r2.1
def X8_table_0 (S : MS) (l1 : Int32) (l2 : Int32) (l3 : Int32) (l4 : Int32) (l5 : Int32) : Option (Int32 × MS) :=
  (X8_isTape S l1).bind fun r1 =>
  if r1.1 = 0 then
    X8_table_20 r1.2
  else
    (X8_areGoods r1.2 l3 l4 l5).bind fun r2 =>
    if r2.1 = 0 then
      X8_table_20 r2.2
    else
      (mA r2.2 39 l1).bind fun x3 =>
      if x3 < 0 then
        X8_table_44 r2.2 l1 l2 l3 l4 l5
      else
        (mA r2.2 39 l1).bind fun x4 =>
        if x4 = 1 then
          X8_table_44 r2.2 l1 l2 l3 l4 l5
        else
          some ((-12), r2.2)
def X8_table (S : MS) (l1 : Int32) (l2 : Int32) (l3 : Int32) (l4 : Int32) (l5 : Int32) : Option (Int32 × MS) := X8_table_0 S l1 l2 l3 l4 l5
set_option maxHeartbeats 4000000 in
theorem sX8_table_20 {l : Launch} {g : gE} {d MC MS' k n : Nat} {A D : List va_E} (hA : A.length = 26) (hd : 8 ≤ d) (hk : k ≤ MC) (hn : n ≤ MS') {r : Int32 × MS} {S : MS} (hf : X8_table_20 S = some r) : AW l g d RX8 cX8_table 8 "table" MC MS' (Qr (some (.int r.1)) (mh A r.2 D)) k n 20 [none, none, none, none, none, none, none, none] [] (mh A S D) := by
  unfold X8_table_20 at hf
  refine a_iconst (pc := 20) (-1) dX8_table_20 rfl ?_
  have hf := Option.some.inj hf
  subst hf
  exact a_ireturn (pc := 21) dX8_table_21 hk hn ⟨rfl, rfl⟩
set_option maxHeartbeats 4000000 in
theorem sX8_table_101 {l : Launch} {g : gE} {d MC MS' k n : Nat} {A D : List va_E} (hA : A.length = 26) (hd : 8 ≤ d) (hk : k ≤ MC) (hn : n ≤ MS') {r : Int32 × MS} {S : MS} {l6 : Int32} (hf : X8_table_101 S l6 = some r) : AW l g d RX8 cX8_table 8 "table" MC MS' (Qr (some (.int r.1)) (mh A r.2 D)) k n 101 [none, none, none, none, none, none, some (.int l6), none] [] (mh A S D) := by
  unfold X8_table_101 at hf
  refine a_sipush (pc := 101) 1000 dX8_table_101 rfl ?_
  refine a_iload (pc := 104) dX8_table_104 rfl ?_
  refine a_iadd (pc := 106) dX8_table_106 ?_
  have hf := Option.some.inj hf
  subst hf
  exact a_ireturn (pc := 107) dX8_table_107 hk hn ⟨rfl, rfl⟩
set_option maxHeartbeats 4000000 in
theorem sX8_table_65 {l : Launch} {g : gE} {d MC MS' k n : Nat} {A D : List va_E} (hA : A.length = 26) (hd : 8 ≤ d) (hk : k ≤ MC) (hn : n ≤ MS') {r : Int32 × MS} : ∀ (fn : Nat) (S : MS) (l1 : Int32) (l2 : Int32) (l3 : Int32) (l4 : Int32) (l6 : Int32) (l7 : Int32), X8_table_65 fn S l1 l2 l3 l4 l6 l7 = some r → AW l g d RX8 cX8_table 8 "table" MC MS' (Qr (some (.int r.1)) (mh A r.2 D)) k n 65 [some (.ref 26), some (.int l1), some (.int l2), some (.int l3), some (.int l4), none, some (.int l6), some (.int l7)] [] (mh A S D) := by
  intro fn
  induction fn with
  | zero =>
    intro S l1 l2 l3 l4 l6 l7 hf
    rw [X8_table_65] at hf
    cases hf
  | succ fn ih =>
    intro S l1 l2 l3 l4 l6 l7 hf
    rw [X8_table_65] at hf
    refine a_iload (pc := 65) dX8_table_65 rfl ?_
    refine a_if_ge (pc := 67) 73 dX8_table_67 (by decide) (fun c9 => ?_) (fun c9 => ?_)
    · have hf := (if_pos c9).symm.trans hf
      refine a_aload_n (pc := 73) dX8_table_73 rfl (isRv_r _) ?_
      refine m_getA (pc := 74) 50 hA dX8_table_74 fl_X8_130 (Or.inl ki_39) rfl ?_
      refine a_iload_n (pc := 77) dX8_table_77 rfl ?_
      obtain ⟨x1, hx1, hf⟩ := Option.bind_eq_some_iff.mp hf
      refine m_ald (pc := 78) 50 hA dX8_table_78 ki_39 rfl hx1 ?_
      refine a_if_lt (pc := 79) 101 dX8_table_79 (by decide) (fun c8 => ?_) (fun c8 => ?_)
      · have hf := (if_pos c8).symm.trans hf
        refine a_sub (sub_d (sub_d (sub_d (sub_d (sub_d (sub_k (sub_k (sub_d sub_n)))))))) ?_
        exact sX8_table_101 hA hd hk hn hf
      · have hf := (if_neg c8).symm.trans hf
        refine a_iload_n (pc := 82) dX8_table_82 rfl ?_
        refine a_if_lt (pc := 83) 101 dX8_table_83 (by decide) (fun c7 => ?_) (fun c7 => ?_)
        · have hf := (if_pos c7).symm.trans hf
          refine a_sub (sub_d (sub_d (sub_d (sub_d (sub_d (sub_k (sub_k (sub_d sub_n)))))))) ?_
          exact sX8_table_101 hA hd hk hn hf
        · have hf := (if_neg c7).symm.trans hf
          refine a_iload_n (pc := 86) dX8_table_86 rfl ?_
          refine a_aload_n (pc := 87) dX8_table_87 rfl (isRv_r _) ?_
          refine m_getA (pc := 88) 51 hA dX8_table_88 fl_X8_133 (Or.inl ki_40) rfl ?_
          refine a_iload_n (pc := 91) dX8_table_91 rfl ?_
          obtain ⟨x2, hx2, hf⟩ := Option.bind_eq_some_iff.mp hf
          refine m_ald (pc := 92) 51 hA dX8_table_92 ki_40 rfl hx2 ?_
          refine a_iload (pc := 93) dX8_table_93 rfl ?_
          refine a_isub (pc := 95) dX8_table_95 ?_
          refine a_iconst (pc := 96) 1 dX8_table_96 rfl ?_
          refine a_isub (pc := 97) dX8_table_97 ?_
          refine a_icmp_le (pc := 98) 108 dX8_table_98 (by decide) (fun c6 => ?_) (fun c6 => ?_)
          · have hf := (if_pos c6).symm.trans hf
            refine a_aload_n (pc := 108) dX8_table_108 rfl (isRv_r _) ?_
            refine m_getA (pc := 109) 52 hA dX8_table_109 fl_X8_136 (Or.inr (Or.inr kj_41)) rfl ?_
            refine a_bipush (pc := 112) 60 dX8_table_112 rfl ?_
            refine a_iload_n (pc := 114) dX8_table_114 rfl ?_
            refine a_imul (pc := 115) dX8_table_115 ?_
            refine a_iload_n (pc := 116) dX8_table_116 rfl ?_
            refine a_iadd (pc := 117) dX8_table_117 ?_
            refine a_iload (pc := 118) dX8_table_118 rfl ?_
            refine a_iadd (pc := 120) dX8_table_120 ?_
            obtain ⟨x3, hx3, hf⟩ := Option.bind_eq_some_iff.mp hf
            refine m_lald (pc := 121) 52 hA dX8_table_121 kj_41 rfl hx3 ?_
            refine a_iload (pc := 122) dX8_table_122 rfl ?_
            refine a_i2l (pc := 124) dX8_table_124 ?_
            refine a_lcmp (pc := 125) dX8_table_125 ?_
            refine a_if_eq (pc := 126) 132 dX8_table_126 (by decide) (fun c5 => ?_) (fun c5 => ?_)
            · have hf := (if_pos c5).symm.trans hf
              refine a_iinc (pc := 132) (ls' := [some (.ref 26), some (.int l1), some (.int l2), some (.int l3), some (.int l4), none, some (.int (l6 + 1)), some (.int l7)]) (l6 + 1) dX8_table_132 rfl rfl (by decide) rfl ?_
              refine a_aload_n (pc := 135) dX8_table_135 rfl (isRv_r _) ?_
              refine a_iload_n (pc := 136) dX8_table_136 rfl ?_
              refine a_iload (pc := 137) dX8_table_137 rfl ?_
              refine a_iload (pc := 139) dX8_table_139 rfl ?_
              obtain ⟨r4, hr4, hf⟩ := Option.bind_eq_some_iff.mp hf
              refine m_call (pc := 141) (.int (r4.1)) [.int l3, .int l4, .int l7] [] hA dX8_table_141 ml_X8_289 mv_X8_nextGood rfl rfl (by omega) (mX8_nextGood hA (by omega) hr4) rfl (Nat.le_of_ble_eq_true rfl) hk hn ?_
              refine a_istore (pc := 144) (ls' := [some (.ref 26), some (.int l1), some (.int l2), some (.int l3), some (.int l4), none, some (.int (l6 + 1)), some (.int (r4.1))]) dX8_table_144 (by decide) rfl ?_
              refine a_goto (pc := 146) 65 dX8_table_146 (by decide) ?_
              exact ih r4.2 l1 l2 l3 l4 (l6 + 1) r4.1 hf
            · have hf := (if_neg c5).symm.trans hf
              refine a_iload (pc := 129) dX8_table_129 rfl ?_
              have hf := Option.some.inj hf
              subst hf
              exact a_ireturn (pc := 131) dX8_table_131 hk hn ⟨rfl, rfl⟩
          · have hf := (if_neg c6).symm.trans hf
            refine a_sub (sub_d (sub_d (sub_d (sub_d (sub_d (sub_k (sub_k (sub_d sub_n)))))))) ?_
            exact sX8_table_101 hA hd hk hn hf
    · have hf := (if_neg c9).symm.trans hf
      refine a_iload (pc := 70) dX8_table_70 rfl ?_
      have hf := Option.some.inj hf
      subst hf
      exact a_ireturn (pc := 72) dX8_table_72 hk hn ⟨rfl, rfl⟩
set_option maxHeartbeats 4000000 in
theorem sX8_table_44 {l : Launch} {g : gE} {d MC MS' k n : Nat} {A D : List va_E} (hA : A.length = 26) (hd : 8 ≤ d) (hk : k ≤ MC) (hn : n ≤ MS') {r : Int32 × MS} {S : MS} {l1 : Int32} {l2 : Int32} {l3 : Int32} {l4 : Int32} {l5 : Int32} (hf : X8_table_44 S l1 l2 l3 l4 l5 = some r) : AW l g d RX8 cX8_table 8 "table" MC MS' (Qr (some (.int r.1)) (mh A r.2 D)) k n 44 [some (.ref 26), some (.int l1), some (.int l2), some (.int l3), some (.int l4), some (.int l5), none, none] [] (mh A S D) := by
  unfold X8_table_44 at hf
  refine a_aload_n (pc := 44) dX8_table_44 rfl (isRv_r _) ?_
  refine a_iload (pc := 45) dX8_table_45 rfl ?_
  refine a_iload (pc := 47) dX8_table_47 rfl ?_
  obtain ⟨r1, hr1, hf⟩ := Option.bind_eq_some_iff.mp hf
  refine m_callv (pc := 49) [.int l4, .int l5] [] hA dX8_table_49 ml_X8_282 mv_X8_findFine rfl rfl (by omega) (mX8_findFine hA (by omega) hr1) rfl (Nat.le_of_ble_eq_true rfl) hk hn ?_
  refine a_iconst (pc := 52) 0 dX8_table_52 rfl ?_
  refine a_istore (pc := 53) (ls' := [some (.ref 26), some (.int l1), some (.int l2), some (.int l3), some (.int l4), some (.int l5), some (.int 0), none]) dX8_table_53 (by decide) rfl ?_
  refine a_aload_n (pc := 55) dX8_table_55 rfl (isRv_r _) ?_
  refine a_iload_n (pc := 56) dX8_table_56 rfl ?_
  refine a_iload (pc := 57) dX8_table_57 rfl ?_
  refine a_iconst (pc := 59) (-1) dX8_table_59 rfl ?_
  obtain ⟨r2, hr2, hf⟩ := Option.bind_eq_some_iff.mp hf
  refine m_call (pc := 60) (.int (r2.1)) [.int l3, .int l4, .int (-1)] [] hA dX8_table_60 ml_X8_289 mv_X8_nextGood rfl rfl (by omega) (mX8_nextGood hA (by omega) hr2) rfl (Nat.le_of_ble_eq_true rfl) hk hn ?_
  refine a_istore (pc := 63) (ls' := [some (.ref 26), some (.int l1), some (.int l2), some (.int l3), some (.int l4), some (.int l5), some (.int 0), some (.int (r2.1))]) dX8_table_63 (by decide) rfl ?_
  refine a_sub (sub_k (sub_k (sub_k (sub_k (sub_k (sub_d (sub_k (sub_k sub_n)))))))) ?_
  exact sX8_table_65 hA hd hk hn FU r2.2 l1 l2 l3 l4 0 r2.1 hf
set_option maxHeartbeats 4000000 in
theorem sX8_table_0 {l : Launch} {g : gE} {d MC MS' k n : Nat} {A D : List va_E} (hA : A.length = 26) (hd : 8 ≤ d) (hk : k ≤ MC) (hn : n ≤ MS') {r : Int32 × MS} {S : MS} {l1 : Int32} {l2 : Int32} {l3 : Int32} {l4 : Int32} {l5 : Int32} (hf : X8_table_0 S l1 l2 l3 l4 l5 = some r) : AW l g d RX8 cX8_table 8 "table" MC MS' (Qr (some (.int r.1)) (mh A r.2 D)) k n 0 [some (.ref 26), some (.int l1), some (.int l2), some (.int l3), some (.int l4), some (.int l5), none, none] [] (mh A S D) := by
  unfold X8_table_0 at hf
  refine a_aload_n (pc := 0) dX8_table_0 rfl (isRv_r _) ?_
  refine a_iload_n (pc := 1) dX8_table_1 rfl ?_
  obtain ⟨r1, hr1, hf⟩ := Option.bind_eq_some_iff.mp hf
  refine m_call (pc := 2) (.int (r1.1)) [.int l1] [] hA dX8_table_2 ml_X8_311 mv_X8_isTape rfl rfl (by omega) (mX8_isTape hA (by omega) hr1) rfl (Nat.le_of_ble_eq_true rfl) hk hn ?_
  refine a_if_eq (pc := 5) 20 dX8_table_5 (by decide) (fun c8 => ?_) (fun c8 => ?_)
  · have hf := (if_pos c8).symm.trans hf
    refine a_sub (sub_d (sub_d (sub_d (sub_d (sub_d (sub_d (sub_k (sub_k sub_n)))))))) ?_
    exact sX8_table_20 hA hd hk hn hf
  · have hf := (if_neg c8).symm.trans hf
    refine a_aload_n (pc := 8) dX8_table_8 rfl (isRv_r _) ?_
    refine a_iload_n (pc := 9) dX8_table_9 rfl ?_
    refine a_iload (pc := 10) dX8_table_10 rfl ?_
    refine a_iload (pc := 12) dX8_table_12 rfl ?_
    obtain ⟨r2, hr2, hf⟩ := Option.bind_eq_some_iff.mp hf
    refine m_call (pc := 14) (.int (r2.1)) [.int l3, .int l4, .int l5] [] hA dX8_table_14 ml_X8_279 mv_X8_areGoods rfl rfl (by omega) (mX8_areGoods hA (by omega) hr2) rfl (Nat.le_of_ble_eq_true rfl) hk hn ?_
    refine a_if_ne (pc := 17) 22 dX8_table_17 (by decide) (fun c7 => ?_) (fun c7 => ?_)
    · have hf := (if_neg c7).symm.trans hf
      refine a_aload_n (pc := 22) dX8_table_22 rfl (isRv_r _) ?_
      refine m_getA (pc := 23) 50 hA dX8_table_23 fl_X8_130 (Or.inl ki_39) rfl ?_
      refine a_iload_n (pc := 26) dX8_table_26 rfl ?_
      obtain ⟨x3, hx3, hf⟩ := Option.bind_eq_some_iff.mp hf
      refine m_ald (pc := 27) 50 hA dX8_table_27 ki_39 rfl hx3 ?_
      refine a_if_lt (pc := 28) 44 dX8_table_28 (by decide) (fun c6 => ?_) (fun c6 => ?_)
      · have hf := (if_pos c6).symm.trans hf
        exact sX8_table_44 hA hd hk hn hf
      · have hf := (if_neg c6).symm.trans hf
        refine a_aload_n (pc := 31) dX8_table_31 rfl (isRv_r _) ?_
        refine m_getA (pc := 32) 50 hA dX8_table_32 fl_X8_130 (Or.inl ki_39) rfl ?_
        refine a_iload_n (pc := 35) dX8_table_35 rfl ?_
        obtain ⟨x4, hx4, hf⟩ := Option.bind_eq_some_iff.mp hf
        refine m_ald (pc := 36) 50 hA dX8_table_36 ki_39 rfl hx4 ?_
        refine a_iconst (pc := 37) 1 dX8_table_37 rfl ?_
        refine a_icmp_eq (pc := 38) 44 dX8_table_38 (by decide) (fun c5 => ?_) (fun c5 => ?_)
        · have hf := (if_pos c5).symm.trans hf
          exact sX8_table_44 hA hd hk hn hf
        · have hf := (if_neg c5).symm.trans hf
          refine a_bipush (pc := 41) (-12) dX8_table_41 rfl ?_
          have hf := Option.some.inj hf
          subst hf
          exact a_ireturn (pc := 43) dX8_table_43 hk hn ⟨rfl, rfl⟩
    · have hf := (if_pos c7).symm.trans hf
      refine a_sub (sub_d (sub_d (sub_d (sub_d (sub_d (sub_d (sub_k (sub_k sub_n)))))))) ?_
      exact sX8_table_20 hA hd hk hn hf
set_option maxHeartbeats 4000000 in
theorem mX8_table {l : Launch} {g : gE} {d : Nat} {A D : List va_E} (hA : A.length = 26) (hd : 8 ≤ d) {r : Int32 × MS} {S : MS} {l1 : Int32} {l2 : Int32} {l3 : Int32} {l4 : Int32} {l5 : Int32} (hf : X8_table S l1 l2 l3 l4 l5 = some r) : AM l g d yX8_table cX8_table 8 (some .int) 0 0 [.ref 26, .int l1, .int l2, .int l3, .int l4, .int l5] (mh A S D) (Qr (some (.int r.1)) (mh A r.2 D)) := by
  refine AM.of rfl (by exact Nat.le_of_ble_eq_true rfl) (fun v h' q => by obtain ⟨rfl, -⟩ := q; exact ⟨_, rfl, rfl⟩) (fun ls e => ?_)
  have e2 : aBeg [.ref 26, .int l1, .int l2, .int l3, .int l4, .int l5] 8 = [some (.ref 26), some (.int l1), some (.int l2), some (.int l3), some (.int l4), some (.int l5), none, none] := rfl
  rw [e2] at e
  subst e
  refine a_sub (sub_k (sub_k (sub_k (sub_k (sub_k (sub_k (sub_k (sub_k (sub_n))))))))) ?_
  exact sX8_table_0 hA hd (Nat.le_refl _) (Nat.le_refl _) (hf)
-- PencilStrikesModel.body(I)V
def X8_body_19 (S : MS) : Option (Unit × MS) :=
  some ((), (si S 37 ((S.1 37) + 1)))
def X8_body_0 (S : MS) (l1 : Int32) : Option (Unit × MS) :=
  if 20 ≤ (S.1 37) then
    X8_body_19 S
  else
    (mAs S 38 (S.1 37) l1).bind fun S1 =>
    X8_body_19 S1
def X8_body (S : MS) (l1 : Int32) : Option (Unit × MS) := X8_body_0 S l1
set_option maxHeartbeats 4000000 in
theorem sX8_body_19 {l : Launch} {g : gE} {d MC MS' k n : Nat} {A D : List va_E} (hA : A.length = 26) (hd : 0 ≤ d) (hk : k ≤ MC) (hn : n ≤ MS') {r : Unit × MS} {S : MS} (hf : X8_body_19 S = some r) : AW l g d RX8 cX8_body 2 "body" MC MS' (Qr (none) (mh A r.2 D)) k n 19 [some (.ref 26), none] [] (mh A S D) := by
  unfold X8_body_19 at hf
  refine a_aload_n (pc := 19) dX8_body_19 rfl (isRv_r _) ?_
  refine a_dup (pc := 20) dX8_body_20 rfl ?_
  refine m_getS (pc := 21) hA dX8_body_21 fl_X8_124 ks_37 ?_
  refine a_iconst (pc := 24) 1 dX8_body_24 rfl ?_
  refine a_iadd (pc := 25) dX8_body_25 ?_
  refine m_putS (pc := 26) hA dX8_body_26 fl_X8_124 ks_37 ?_
  have hf := Option.some.inj hf
  subst hf
  exact a_return (pc := 29) dX8_body_29 hk hn ⟨rfl, rfl⟩
set_option maxHeartbeats 4000000 in
theorem sX8_body_0 {l : Launch} {g : gE} {d MC MS' k n : Nat} {A D : List va_E} (hA : A.length = 26) (hd : 0 ≤ d) (hk : k ≤ MC) (hn : n ≤ MS') {r : Unit × MS} {S : MS} {l1 : Int32} (hf : X8_body_0 S l1 = some r) : AW l g d RX8 cX8_body 2 "body" MC MS' (Qr (none) (mh A r.2 D)) k n 0 [some (.ref 26), some (.int l1)] [] (mh A S D) := by
  unfold X8_body_0 at hf
  refine a_aload_n (pc := 0) dX8_body_0 rfl (isRv_r _) ?_
  refine m_getS (pc := 1) hA dX8_body_1 fl_X8_124 ks_37 ?_
  refine a_bipush (pc := 4) 20 dX8_body_4 rfl ?_
  refine a_icmp_ge (pc := 6) 19 dX8_body_6 (by decide) (fun c2 => ?_) (fun c2 => ?_)
  · have hf := (if_pos c2).symm.trans hf
    refine a_sub (sub_k (sub_d sub_n)) ?_
    exact sX8_body_19 hA hd hk hn hf
  · have hf := (if_neg c2).symm.trans hf
    refine a_aload_n (pc := 9) dX8_body_9 rfl (isRv_r _) ?_
    refine m_getA (pc := 10) 49 hA dX8_body_10 fl_X8_127 (Or.inl ki_38) rfl ?_
    refine a_aload_n (pc := 13) dX8_body_13 rfl (isRv_r _) ?_
    refine m_getS (pc := 14) hA dX8_body_14 fl_X8_124 ks_37 ?_
    refine a_iload_n (pc := 17) dX8_body_17 rfl ?_
    obtain ⟨S1, hS1, hf⟩ := Option.bind_eq_some_iff.mp hf
    refine m_ast (pc := 18) 49 hA dX8_body_18 ki_38 rfl hS1 ?_
    refine a_sub (sub_k (sub_d sub_n)) ?_
    exact sX8_body_19 hA hd hk hn hf
set_option maxHeartbeats 4000000 in
theorem mX8_body {l : Launch} {g : gE} {d : Nat} {A D : List va_E} (hA : A.length = 26) (hd : 0 ≤ d) {r : Unit × MS} {S : MS} {l1 : Int32} (hf : X8_body S l1 = some r) : AM l g d yX8_body cX8_body 2 none 0 0 [.ref 26, .int l1] (mh A S D) (Qr (none) (mh A r.2 D)) := by
  refine AM.of rfl (by exact Nat.le_of_ble_eq_true rfl) (fun v h' q => by obtain ⟨rfl, -⟩ := q; rfl) (fun ls e => ?_)
  have e2 : aBeg [.ref 26, .int l1] 2 = [some (.ref 26), some (.int l1)] := rfl
  rw [e2] at e
  subst e
  refine a_sub (sub_k (sub_k (sub_n))) ?_
  exact sX8_body_0 hA hd (Nat.le_refl _) (Nat.le_refl _) (hf)
-- PencilStrikesModel.isUnder(II)Z
def X8_isUnder_40 (S : MS) (s0 : Int32) : Option (Int32 × MS) :=
  some (s0, S)
def X8_isUnder_35 (S : MS) : Option (Int32 × MS) :=
  X8_isUnder_40 S 1
def X8_isUnder_39 (S : MS) : Option (Int32 × MS) :=
  X8_isUnder_40 S 0
def X8_isUnder_25 (S : MS) (l1 : Int32) (l2 : Int32) : Option (Int32 × MS) :=
  if l2 = 3 then
    if l1 = 5 then
      X8_isUnder_35 S
    else
      X8_isUnder_39 S
  else
    X8_isUnder_39 S
def X8_isUnder_0 (S : MS) (l1 : Int32) (l2 : Int32) : Option (Int32 × MS) :=
  if l2 = 0 then
    X8_isUnder_35 S
  else
    if l1 = l2 then
      X8_isUnder_35 S
    else
      if l2 = 1 then
        if l1 = 4 then
          X8_isUnder_35 S
        else
          if l1 = 6 then
            X8_isUnder_35 S
          else
            X8_isUnder_25 S l1 l2
      else
        X8_isUnder_25 S l1 l2
def X8_isUnder (S : MS) (l1 : Int32) (l2 : Int32) : Option (Int32 × MS) := zg (X8_isUnder_0 S l1 l2)
set_option maxHeartbeats 4000000 in
theorem sX8_isUnder_40 {l : Launch} {g : gE} {d MC MS' k n : Nat} {A D : List va_E} (hA : A.length = 26) (hd : 0 ≤ d) (hk : k ≤ MC) (hn : n ≤ MS') {r : Int32 × MS} {S : MS} {s0 : Int32} (hf : X8_isUnder_40 S s0 = some r) : AW l g d RX8 cX8_isUnder 3 "isUnder" MC MS' (Qr (some (.int r.1)) (mh A r.2 D)) k n 40 [none, none, none] [.int s0] (mh A S D) := by
  unfold X8_isUnder_40 at hf
  have hf := Option.some.inj hf
  subst hf
  exact a_ireturn (pc := 40) dX8_isUnder_40 hk hn ⟨rfl, rfl⟩
set_option maxHeartbeats 4000000 in
theorem sX8_isUnder_35 {l : Launch} {g : gE} {d MC MS' k n : Nat} {A D : List va_E} (hA : A.length = 26) (hd : 0 ≤ d) (hk : k ≤ MC) (hn : n ≤ MS') {r : Int32 × MS} {S : MS} (hf : X8_isUnder_35 S = some r) : AW l g d RX8 cX8_isUnder 3 "isUnder" MC MS' (Qr (some (.int r.1)) (mh A r.2 D)) k n 35 [none, none, none] [] (mh A S D) := by
  unfold X8_isUnder_35 at hf
  refine a_iconst (pc := 35) 1 dX8_isUnder_35 rfl ?_
  refine a_goto (pc := 36) 40 dX8_isUnder_36 (by decide) ?_
  exact sX8_isUnder_40 hA hd hk hn hf
set_option maxHeartbeats 4000000 in
theorem sX8_isUnder_39 {l : Launch} {g : gE} {d MC MS' k n : Nat} {A D : List va_E} (hA : A.length = 26) (hd : 0 ≤ d) (hk : k ≤ MC) (hn : n ≤ MS') {r : Int32 × MS} {S : MS} (hf : X8_isUnder_39 S = some r) : AW l g d RX8 cX8_isUnder 3 "isUnder" MC MS' (Qr (some (.int r.1)) (mh A r.2 D)) k n 39 [none, none, none] [] (mh A S D) := by
  unfold X8_isUnder_39 at hf
  refine a_iconst (pc := 39) 0 dX8_isUnder_39 rfl ?_
  exact sX8_isUnder_40 hA hd hk hn hf
set_option maxHeartbeats 4000000 in
theorem sX8_isUnder_25 {l : Launch} {g : gE} {d MC MS' k n : Nat} {A D : List va_E} (hA : A.length = 26) (hd : 0 ≤ d) (hk : k ≤ MC) (hn : n ≤ MS') {r : Int32 × MS} {S : MS} {l1 : Int32} {l2 : Int32} (hf : X8_isUnder_25 S l1 l2 = some r) : AW l g d RX8 cX8_isUnder 3 "isUnder" MC MS' (Qr (some (.int r.1)) (mh A r.2 D)) k n 25 [none, some (.int l1), some (.int l2)] [] (mh A S D) := by
  unfold X8_isUnder_25 at hf
  refine a_iload_n (pc := 25) dX8_isUnder_25 rfl ?_
  refine a_iconst (pc := 26) 3 dX8_isUnder_26 rfl ?_
  refine a_icmp_ne (pc := 27) 39 dX8_isUnder_27 (by decide) (fun c2 => ?_) (fun c2 => ?_)
  · have hf := (if_neg c2).symm.trans hf
    refine a_sub (sub_k (sub_d (sub_d sub_n))) ?_
    exact sX8_isUnder_39 hA hd hk hn hf
  · have hf := (if_pos c2).symm.trans hf
    refine a_iload_n (pc := 30) dX8_isUnder_30 rfl ?_
    refine a_iconst (pc := 31) 5 dX8_isUnder_31 rfl ?_
    refine a_icmp_ne (pc := 32) 39 dX8_isUnder_32 (by decide) (fun c1 => ?_) (fun c1 => ?_)
    · have hf := (if_neg c1).symm.trans hf
      refine a_sub (sub_k (sub_d (sub_d sub_n))) ?_
      exact sX8_isUnder_39 hA hd hk hn hf
    · have hf := (if_pos c1).symm.trans hf
      refine a_sub (sub_k (sub_d (sub_d sub_n))) ?_
      exact sX8_isUnder_35 hA hd hk hn hf
set_option maxHeartbeats 4000000 in
theorem sX8_isUnder_0 {l : Launch} {g : gE} {d MC MS' k n : Nat} {A D : List va_E} (hA : A.length = 26) (hd : 0 ≤ d) (hk : k ≤ MC) (hn : n ≤ MS') {r : Int32 × MS} {S : MS} {l1 : Int32} {l2 : Int32} (hf : X8_isUnder_0 S l1 l2 = some r) : AW l g d RX8 cX8_isUnder 3 "isUnder" MC MS' (Qr (some (.int r.1)) (mh A r.2 D)) k n 0 [none, some (.int l1), some (.int l2)] [] (mh A S D) := by
  unfold X8_isUnder_0 at hf
  refine a_iload_n (pc := 0) dX8_isUnder_0 rfl ?_
  refine a_if_eq (pc := 1) 35 dX8_isUnder_1 (by decide) (fun c5 => ?_) (fun c5 => ?_)
  · have hf := (if_pos c5).symm.trans hf
    refine a_sub (sub_k (sub_d (sub_d sub_n))) ?_
    exact sX8_isUnder_35 hA hd hk hn hf
  · have hf := (if_neg c5).symm.trans hf
    refine a_iload_n (pc := 4) dX8_isUnder_4 rfl ?_
    refine a_iload_n (pc := 5) dX8_isUnder_5 rfl ?_
    refine a_icmp_eq (pc := 6) 35 dX8_isUnder_6 (by decide) (fun c4 => ?_) (fun c4 => ?_)
    · have hf := (if_pos c4).symm.trans hf
      refine a_sub (sub_k (sub_d (sub_d sub_n))) ?_
      exact sX8_isUnder_35 hA hd hk hn hf
    · have hf := (if_neg c4).symm.trans hf
      refine a_iload_n (pc := 9) dX8_isUnder_9 rfl ?_
      refine a_iconst (pc := 10) 1 dX8_isUnder_10 rfl ?_
      refine a_icmp_ne (pc := 11) 25 dX8_isUnder_11 (by decide) (fun c3 => ?_) (fun c3 => ?_)
      · have hf := (if_neg c3).symm.trans hf
        exact sX8_isUnder_25 hA hd hk hn hf
      · have hf := (if_pos c3).symm.trans hf
        refine a_iload_n (pc := 14) dX8_isUnder_14 rfl ?_
        refine a_iconst (pc := 15) 4 dX8_isUnder_15 rfl ?_
        refine a_icmp_eq (pc := 16) 35 dX8_isUnder_16 (by decide) (fun c2 => ?_) (fun c2 => ?_)
        · have hf := (if_pos c2).symm.trans hf
          refine a_sub (sub_k (sub_d (sub_d sub_n))) ?_
          exact sX8_isUnder_35 hA hd hk hn hf
        · have hf := (if_neg c2).symm.trans hf
          refine a_iload_n (pc := 19) dX8_isUnder_19 rfl ?_
          refine a_bipush (pc := 20) 6 dX8_isUnder_20 rfl ?_
          refine a_icmp_eq (pc := 22) 35 dX8_isUnder_22 (by decide) (fun c1 => ?_) (fun c1 => ?_)
          · have hf := (if_pos c1).symm.trans hf
            refine a_sub (sub_k (sub_d (sub_d sub_n))) ?_
            exact sX8_isUnder_35 hA hd hk hn hf
          · have hf := (if_neg c1).symm.trans hf
            exact sX8_isUnder_25 hA hd hk hn hf
set_option maxHeartbeats 4000000 in
theorem mX8_isUnder {l : Launch} {g : gE} {d : Nat} {A D : List va_E} (hA : A.length = 26) (hd : 0 ≤ d) {r : Int32 × MS} {S : MS} {l1 : Int32} {l2 : Int32} (hf : X8_isUnder S l1 l2 = some r) : AM l g d yX8_isUnder cX8_isUnder 3 (some .boolean) 0 0 [.ref 26, .int l1, .int l2] (mh A S D) (Qr (some (.int r.1)) (mh A r.2 D)) := by
  refine AM.of rfl (by exact Nat.le_of_ble_eq_true rfl) (fun v h' q => by obtain ⟨rfl, -⟩ := q; refine ⟨_, rfl, ?_⟩; rcases (zg_of hf).2 with e | e <;> rw [e] <;> rfl) (fun ls e => ?_)
  have e2 : aBeg [.ref 26, .int l1, .int l2] 3 = [some (.ref 26), some (.int l1), some (.int l2)] := rfl
  rw [e2] at e
  subst e
  refine a_sub (sub_d (sub_k (sub_k (sub_n)))) ?_
  exact sX8_isUnder_0 hA hd (Nat.le_refl _) (Nat.le_refl _) ((zg_of hf).1)
-- PencilStrikesModel.plainStrikes(I)I
def X8_plainStrikes_0 (S : MS) (l1 : Int32) : Option (Int32 × MS) :=
  (X8_body S 10).bind fun r1 =>
  some ((l1 + (r1.2.1 0)), r1.2)
def X8_plainStrikes (S : MS) (l1 : Int32) : Option (Int32 × MS) := X8_plainStrikes_0 S l1
set_option maxHeartbeats 4000000 in
theorem sX8_plainStrikes_0 {l : Launch} {g : gE} {d MC MS' k n : Nat} {A D : List va_E} (hA : A.length = 26) (hd : 1 ≤ d) (hk : k ≤ MC) (hn : n ≤ MS') {r : Int32 × MS} {S : MS} {l1 : Int32} (hf : X8_plainStrikes_0 S l1 = some r) : AW l g d RX8 cX8_plainStrikes 2 "plainStrikes" MC MS' (Qr (some (.int r.1)) (mh A r.2 D)) k n 0 [some (.ref 26), some (.int l1)] [] (mh A S D) := by
  unfold X8_plainStrikes_0 at hf
  refine a_aload_n (pc := 0) dX8_plainStrikes_0 rfl (isRv_r _) ?_
  refine a_bipush (pc := 1) 10 dX8_plainStrikes_1 rfl ?_
  obtain ⟨r1, hr1, hf⟩ := Option.bind_eq_some_iff.mp hf
  refine m_callv (pc := 3) [.int 10] [] hA dX8_plainStrikes_3 ml_X8_314 mv_X8_body rfl rfl (by omega) (mX8_body hA (by omega) hr1) rfl (Nat.le_of_ble_eq_true rfl) hk hn ?_
  refine a_iload_n (pc := 6) dX8_plainStrikes_6 rfl ?_
  refine a_aload_n (pc := 7) dX8_plainStrikes_7 rfl (isRv_r _) ?_
  refine m_getS (pc := 8) hA dX8_plainStrikes_8 fl_X8_7 ks_0 ?_
  refine a_iadd (pc := 11) dX8_plainStrikes_11 ?_
  have hf := Option.some.inj hf
  subst hf
  exact a_ireturn (pc := 12) dX8_plainStrikes_12 hk hn ⟨rfl, rfl⟩
set_option maxHeartbeats 4000000 in
theorem mX8_plainStrikes {l : Launch} {g : gE} {d : Nat} {A D : List va_E} (hA : A.length = 26) (hd : 1 ≤ d) {r : Int32 × MS} {S : MS} {l1 : Int32} (hf : X8_plainStrikes S l1 = some r) : AM l g d yX8_plainStrikes cX8_plainStrikes 2 (some .int) 0 0 [.ref 26, .int l1] (mh A S D) (Qr (some (.int r.1)) (mh A r.2 D)) := by
  refine AM.of rfl (by exact Nat.le_of_ble_eq_true rfl) (fun v h' q => by obtain ⟨rfl, -⟩ := q; exact ⟨_, rfl, rfl⟩) (fun ls e => ?_)
  have e2 : aBeg [.ref 26, .int l1] 2 = [some (.ref 26), some (.int l1)] := rfl
  rw [e2] at e
  subst e
  refine a_sub (sub_k (sub_k (sub_n))) ?_
  exact sX8_plainStrikes_0 hA hd (Nat.le_refl _) (Nat.le_refl _) (hf)
-- PencilStrikesModel.wordsStrikes(I)I
def X8_wordsStrikes_0 (S : MS) (l1 : Int32) : Option (Int32 × MS) :=
  (X8_body S 20).bind fun r1 =>
  (X8_plainStrikes r1.2 (l1 * 3)).bind fun r2 =>
  some (r2.1, r2.2)
def X8_wordsStrikes (S : MS) (l1 : Int32) : Option (Int32 × MS) := X8_wordsStrikes_0 S l1
set_option maxHeartbeats 4000000 in
theorem sX8_wordsStrikes_0 {l : Launch} {g : gE} {d MC MS' k n : Nat} {A D : List va_E} (hA : A.length = 26) (hd : 2 ≤ d) (hk : k ≤ MC) (hn : n ≤ MS') {r : Int32 × MS} {S : MS} {l1 : Int32} (hf : X8_wordsStrikes_0 S l1 = some r) : AW l g d RX8 cX8_wordsStrikes 2 "wordsStrikes" MC MS' (Qr (some (.int r.1)) (mh A r.2 D)) k n 0 [some (.ref 26), some (.int l1)] [] (mh A S D) := by
  unfold X8_wordsStrikes_0 at hf
  refine a_aload_n (pc := 0) dX8_wordsStrikes_0 rfl (isRv_r _) ?_
  refine a_bipush (pc := 1) 20 dX8_wordsStrikes_1 rfl ?_
  obtain ⟨r1, hr1, hf⟩ := Option.bind_eq_some_iff.mp hf
  refine m_callv (pc := 3) [.int 20] [] hA dX8_wordsStrikes_3 ml_X8_314 mv_X8_body rfl rfl (by omega) (mX8_body hA (by omega) hr1) rfl (Nat.le_of_ble_eq_true rfl) hk hn ?_
  refine a_aload_n (pc := 6) dX8_wordsStrikes_6 rfl (isRv_r _) ?_
  refine a_iload_n (pc := 7) dX8_wordsStrikes_7 rfl ?_
  refine a_iconst (pc := 8) 3 dX8_wordsStrikes_8 rfl ?_
  refine a_imul (pc := 9) dX8_wordsStrikes_9 ?_
  obtain ⟨r2, hr2, hf⟩ := Option.bind_eq_some_iff.mp hf
  refine m_call (pc := 10) (.int (r2.1)) [.int (l1 * 3)] [] hA dX8_wordsStrikes_10 ml_X8_317 mv_X8_plainStrikes rfl rfl (by omega) (mX8_plainStrikes hA (by omega) hr2) rfl (Nat.le_of_ble_eq_true rfl) hk hn ?_
  have hf := Option.some.inj hf
  subst hf
  exact a_ireturn (pc := 13) dX8_wordsStrikes_13 hk hn ⟨rfl, rfl⟩
set_option maxHeartbeats 4000000 in
theorem mX8_wordsStrikes {l : Launch} {g : gE} {d : Nat} {A D : List va_E} (hA : A.length = 26) (hd : 2 ≤ d) {r : Int32 × MS} {S : MS} {l1 : Int32} (hf : X8_wordsStrikes S l1 = some r) : AM l g d yX8_wordsStrikes cX8_wordsStrikes 2 (some .int) 0 0 [.ref 26, .int l1] (mh A S D) (Qr (some (.int r.1)) (mh A r.2 D)) := by
  refine AM.of rfl (by exact Nat.le_of_ble_eq_true rfl) (fun v h' q => by obtain ⟨rfl, -⟩ := q; exact ⟨_, rfl, rfl⟩) (fun ls e => ?_)
  have e2 : aBeg [.ref 26, .int l1] 2 = [some (.ref 26), some (.int l1)] := rfl
  rw [e2] at e
  subst e
  refine a_sub (sub_k (sub_k (sub_n))) ?_
  exact sX8_wordsStrikes_0 hA hd (Nat.le_refl _) (Nat.le_refl _) (hf)
-- PencilStrikesModel.strikes(II)I
def X8_strikes_0 (S : MS) (l1 : Int32) (l2 : Int32) : Option (Int32 × MS) :=
  (X8_isUnder S l1 1).bind fun r1 =>
  if r1.1 = 0 then
    if l1 = 5 then
      (X8_body r1.2 61).bind fun r3 =>
      (X8_plainStrikes r3.2 l2).bind fun r4 =>
      some ((r4.1 ^^^ (r4.2.1 1)), r4.2)
    else
      (X8_plainStrikes r1.2 l2).bind fun r2 =>
      some (r2.1, r2.2)
  else
    (X8_wordsStrikes r1.2 l2).bind fun r6 =>
    some (r6.1, r6.2)
def X8_strikes (S : MS) (l1 : Int32) (l2 : Int32) : Option (Int32 × MS) := X8_strikes_0 S l1 l2
set_option maxHeartbeats 4000000 in
theorem sX8_strikes_0 {l : Launch} {g : gE} {d MC MS' k n : Nat} {A D : List va_E} (hA : A.length = 26) (hd : 3 ≤ d) (hk : k ≤ MC) (hn : n ≤ MS') {r : Int32 × MS} {S : MS} {l1 : Int32} {l2 : Int32} (hf : X8_strikes_0 S l1 l2 = some r) : AW l g d RX8 cX8_strikes 3 "strikes" MC MS' (Qr (some (.int r.1)) (mh A r.2 D)) k n 0 [some (.ref 26), some (.int l1), some (.int l2)] [] (mh A S D) := by
  unfold X8_strikes_0 at hf
  refine a_aload_n (pc := 0) dX8_strikes_0 rfl (isRv_r _) ?_
  refine a_iload_n (pc := 1) dX8_strikes_1 rfl ?_
  refine a_iconst (pc := 2) 1 dX8_strikes_2 rfl ?_
  obtain ⟨r1, hr1, hf⟩ := Option.bind_eq_some_iff.mp hf
  refine m_call (pc := 3) (.int (r1.1)) [.int l1, .int 1] [] hA dX8_strikes_3 ml_X8_320 mv_X8_isUnder rfl rfl (by omega) (mX8_isUnder hA (by omega) hr1) rfl (Nat.le_of_ble_eq_true rfl) hk hn ?_
  refine a_if_eq (pc := 6) 15 dX8_strikes_6 (by decide) (fun c7 => ?_) (fun c7 => ?_)
  · have hf := (if_pos c7).symm.trans hf
    refine a_iload_n (pc := 15) dX8_strikes_15 rfl ?_
    refine a_iconst (pc := 16) 5 dX8_strikes_16 rfl ?_
    refine a_icmp_ne (pc := 17) 37 dX8_strikes_17 (by decide) (fun c5 => ?_) (fun c5 => ?_)
    · have hf := (if_neg c5).symm.trans hf
      refine a_aload_n (pc := 37) dX8_strikes_37 rfl (isRv_r _) ?_
      refine a_iload_n (pc := 38) dX8_strikes_38 rfl ?_
      obtain ⟨r2, hr2, hf⟩ := Option.bind_eq_some_iff.mp hf
      refine m_call (pc := 39) (.int (r2.1)) [.int l2] [] hA dX8_strikes_39 ml_X8_317 mv_X8_plainStrikes rfl rfl (by omega) (mX8_plainStrikes hA (by omega) hr2) rfl (Nat.le_of_ble_eq_true rfl) hk hn ?_
      have hf := Option.some.inj hf
      subst hf
      exact a_ireturn (pc := 42) dX8_strikes_42 hk hn ⟨rfl, rfl⟩
    · have hf := (if_pos c5).symm.trans hf
      refine a_aload_n (pc := 20) dX8_strikes_20 rfl (isRv_r _) ?_
      refine a_bipush (pc := 21) 61 dX8_strikes_21 rfl ?_
      obtain ⟨r3, hr3, hf⟩ := Option.bind_eq_some_iff.mp hf
      refine m_callv (pc := 23) [.int 61] [] hA dX8_strikes_23 ml_X8_314 mv_X8_body rfl rfl (by omega) (mX8_body hA (by omega) hr3) rfl (Nat.le_of_ble_eq_true rfl) hk hn ?_
      refine a_aload_n (pc := 26) dX8_strikes_26 rfl (isRv_r _) ?_
      refine a_iload_n (pc := 27) dX8_strikes_27 rfl ?_
      obtain ⟨r4, hr4, hf⟩ := Option.bind_eq_some_iff.mp hf
      refine m_call (pc := 28) (.int (r4.1)) [.int l2] [] hA dX8_strikes_28 ml_X8_317 mv_X8_plainStrikes rfl rfl (by omega) (mX8_plainStrikes hA (by omega) hr4) rfl (Nat.le_of_ble_eq_true rfl) hk hn ?_
      refine a_aload_n (pc := 31) dX8_strikes_31 rfl (isRv_r _) ?_
      refine m_getS (pc := 32) hA dX8_strikes_32 fl_X8_13 ks_1 ?_
      refine a_ixor (pc := 35) dX8_strikes_35 ?_
      have hf := Option.some.inj hf
      subst hf
      exact a_ireturn (pc := 36) dX8_strikes_36 hk hn ⟨rfl, rfl⟩
  · have hf := (if_neg c7).symm.trans hf
    refine a_aload_n (pc := 9) dX8_strikes_9 rfl (isRv_r _) ?_
    refine a_iload_n (pc := 10) dX8_strikes_10 rfl ?_
    obtain ⟨r6, hr6, hf⟩ := Option.bind_eq_some_iff.mp hf
    refine m_call (pc := 11) (.int (r6.1)) [.int l2] [] hA dX8_strikes_11 ml_X8_323 mv_X8_wordsStrikes rfl rfl (by omega) (mX8_wordsStrikes hA (by omega) hr6) rfl (Nat.le_of_ble_eq_true rfl) hk hn ?_
    have hf := Option.some.inj hf
    subst hf
    exact a_ireturn (pc := 14) dX8_strikes_14 hk hn ⟨rfl, rfl⟩
set_option maxHeartbeats 4000000 in
theorem mX8_strikes {l : Launch} {g : gE} {d : Nat} {A D : List va_E} (hA : A.length = 26) (hd : 3 ≤ d) {r : Int32 × MS} {S : MS} {l1 : Int32} {l2 : Int32} (hf : X8_strikes S l1 l2 = some r) : AM l g d yX8_strikes cX8_strikes 3 (some .int) 0 0 [.ref 26, .int l1, .int l2] (mh A S D) (Qr (some (.int r.1)) (mh A r.2 D)) := by
  refine AM.of rfl (by exact Nat.le_of_ble_eq_true rfl) (fun v h' q => by obtain ⟨rfl, -⟩ := q; exact ⟨_, rfl, rfl⟩) (fun ls e => ?_)
  have e2 : aBeg [.ref 26, .int l1, .int l2] 3 = [some (.ref 26), some (.int l1), some (.int l2)] := rfl
  rw [e2] at e
  subst e
  refine a_sub (sub_k (sub_k (sub_k (sub_n)))) ?_
  exact sX8_strikes_0 hA hd (Nat.le_refl _) (Nat.le_refl _) (hf)
-- PencilStrikesModel.plainLeaves(II)I
def X8_plainLeaves_0 (S : MS) (l1 : Int32) (l2 : Int32) : Option (Int32 × MS) :=
  (X8_body S 11).bind fun r1 =>
  (X8_strikes r1.2 l1 l2).bind fun r2 =>
  some ((r2.1 - (r2.2.1 1)), r2.2)
def X8_plainLeaves (S : MS) (l1 : Int32) (l2 : Int32) : Option (Int32 × MS) := X8_plainLeaves_0 S l1 l2
set_option maxHeartbeats 4000000 in
theorem sX8_plainLeaves_0 {l : Launch} {g : gE} {d MC MS' k n : Nat} {A D : List va_E} (hA : A.length = 26) (hd : 4 ≤ d) (hk : k ≤ MC) (hn : n ≤ MS') {r : Int32 × MS} {S : MS} {l1 : Int32} {l2 : Int32} (hf : X8_plainLeaves_0 S l1 l2 = some r) : AW l g d RX8 cX8_plainLeaves 3 "plainLeaves" MC MS' (Qr (some (.int r.1)) (mh A r.2 D)) k n 0 [some (.ref 26), some (.int l1), some (.int l2)] [] (mh A S D) := by
  unfold X8_plainLeaves_0 at hf
  refine a_aload_n (pc := 0) dX8_plainLeaves_0 rfl (isRv_r _) ?_
  refine a_bipush (pc := 1) 11 dX8_plainLeaves_1 rfl ?_
  obtain ⟨r1, hr1, hf⟩ := Option.bind_eq_some_iff.mp hf
  refine m_callv (pc := 3) [.int 11] [] hA dX8_plainLeaves_3 ml_X8_314 mv_X8_body rfl rfl (by omega) (mX8_body hA (by omega) hr1) rfl (Nat.le_of_ble_eq_true rfl) hk hn ?_
  refine a_aload_n (pc := 6) dX8_plainLeaves_6 rfl (isRv_r _) ?_
  refine a_iload_n (pc := 7) dX8_plainLeaves_7 rfl ?_
  refine a_iload_n (pc := 8) dX8_plainLeaves_8 rfl ?_
  obtain ⟨r2, hr2, hf⟩ := Option.bind_eq_some_iff.mp hf
  refine m_call (pc := 9) (.int (r2.1)) [.int l1, .int l2] [] hA dX8_plainLeaves_9 ml_X8_326 mv_X8_strikes rfl rfl (by omega) (mX8_strikes hA (by omega) hr2) rfl (Nat.le_of_ble_eq_true rfl) hk hn ?_
  refine a_aload_n (pc := 12) dX8_plainLeaves_12 rfl (isRv_r _) ?_
  refine m_getS (pc := 13) hA dX8_plainLeaves_13 fl_X8_13 ks_1 ?_
  refine a_isub (pc := 16) dX8_plainLeaves_16 ?_
  have hf := Option.some.inj hf
  subst hf
  exact a_ireturn (pc := 17) dX8_plainLeaves_17 hk hn ⟨rfl, rfl⟩
set_option maxHeartbeats 4000000 in
theorem mX8_plainLeaves {l : Launch} {g : gE} {d : Nat} {A D : List va_E} (hA : A.length = 26) (hd : 4 ≤ d) {r : Int32 × MS} {S : MS} {l1 : Int32} {l2 : Int32} (hf : X8_plainLeaves S l1 l2 = some r) : AM l g d yX8_plainLeaves cX8_plainLeaves 3 (some .int) 0 0 [.ref 26, .int l1, .int l2] (mh A S D) (Qr (some (.int r.1)) (mh A r.2 D)) := by
  refine AM.of rfl (by exact Nat.le_of_ble_eq_true rfl) (fun v h' q => by obtain ⟨rfl, -⟩ := q; exact ⟨_, rfl, rfl⟩) (fun ls e => ?_)
  have e2 : aBeg [.ref 26, .int l1, .int l2] 3 = [some (.ref 26), some (.int l1), some (.int l2)] := rfl
  rw [e2] at e
  subst e
  refine a_sub (sub_k (sub_k (sub_k (sub_n)))) ?_
  exact sX8_plainLeaves_0 hA hd (Nat.le_refl _) (Nat.le_refl _) (hf)
-- PencilStrikesModel.leaves(II)I
def X8_leaves_0 (S : MS) (l1 : Int32) (l2 : Int32) : Option (Int32 × MS) :=
  if l1 = 2 then
    (X8_body S 30).bind fun r2 =>
    (X8_plainLeaves r2.2 l1 l2).bind fun r3 =>
    some ((r3.1 ^^^ 5), r3.2)
  else
    if l1 = 3 then
      (X8_body S 41).bind fun r4 =>
      (X8_plainLeaves r4.2 l1 l2).bind fun r5 =>
      some (((-r5.1)), r5.2)
    else
      if l1 = 4 then
        (X8_body S 50).bind fun r6 =>
        (X8_plainLeaves r6.2 l1 l2).bind fun r7 =>
        (X8_wordsStrikes r7.2 2).bind fun r8 =>
        some ((r7.1 + r8.1), r8.2)
      else
        if l1 = 5 then
          (X8_body S 41).bind fun r9 =>
          (X8_plainLeaves r9.2 l1 l2).bind fun r10 =>
          some (((-r10.1)), r10.2)
        else
          (X8_plainLeaves S l1 l2).bind fun r1 =>
          some (r1.1, r1.2)
def X8_leaves (S : MS) (l1 : Int32) (l2 : Int32) : Option (Int32 × MS) := X8_leaves_0 S l1 l2
set_option maxHeartbeats 4000000 in
theorem sX8_leaves_0 {l : Launch} {g : gE} {d MC MS' k n : Nat} {A D : List va_E} (hA : A.length = 26) (hd : 5 ≤ d) (hk : k ≤ MC) (hn : n ≤ MS') {r : Int32 × MS} {S : MS} {l1 : Int32} {l2 : Int32} (hf : X8_leaves_0 S l1 l2 = some r) : AW l g d RX8 cX8_leaves 4 "leaves" MC MS' (Qr (some (.int r.1)) (mh A r.2 D)) k n 0 [some (.ref 26), some (.int l1), some (.int l2), none] [] (mh A S D) := by
  unfold X8_leaves_0 at hf
  refine a_iload_n (pc := 0) dX8_leaves_0 rfl ?_
  by_cases c11_0 : l1 = 2
  · have hf := (if_pos c11_0).symm.trans hf
    refine a_tableIn (pc := 1) 32 dX8_leaves_1 (by rw [c11_0]; decide) (by rw [c11_0]; decide) (off := 31) (by rw [c11_0]; rfl) (by decide) ?_
    refine a_aload_n (pc := 32) dX8_leaves_32 rfl (isRv_r _) ?_
    refine a_bipush (pc := 33) 30 dX8_leaves_33 rfl ?_
    obtain ⟨r2, hr2, hf⟩ := Option.bind_eq_some_iff.mp hf
    refine m_callv (pc := 35) [.int 30] [] hA dX8_leaves_35 ml_X8_314 mv_X8_body rfl rfl (by omega) (mX8_body hA (by omega) hr2) rfl (Nat.le_of_ble_eq_true rfl) hk hn ?_
    refine a_aload_n (pc := 38) dX8_leaves_38 rfl (isRv_r _) ?_
    refine a_iload_n (pc := 39) dX8_leaves_39 rfl ?_
    refine a_iload_n (pc := 40) dX8_leaves_40 rfl ?_
    obtain ⟨r3, hr3, hf⟩ := Option.bind_eq_some_iff.mp hf
    refine m_call (pc := 41) (.int (r3.1)) [.int l1, .int l2] [] hA dX8_leaves_41 ml_X8_329 mv_X8_plainLeaves rfl rfl (by omega) (mX8_plainLeaves hA (by omega) hr3) rfl (Nat.le_of_ble_eq_true rfl) hk hn ?_
    refine a_iconst (pc := 44) 5 dX8_leaves_44 rfl ?_
    refine a_ixor (pc := 45) dX8_leaves_45 ?_
    have hf := Option.some.inj hf
    subst hf
    exact a_ireturn (pc := 46) dX8_leaves_46 hk hn ⟨rfl, rfl⟩
  · have hf := (if_neg c11_0).symm.trans hf
    by_cases c11_1 : l1 = 3
    · have hf := (if_pos c11_1).symm.trans hf
      refine a_tableIn (pc := 1) 47 dX8_leaves_1 (by rw [c11_1]; decide) (by rw [c11_1]; decide) (off := 46) (by rw [c11_1]; rfl) (by decide) ?_
      refine a_aload_n (pc := 47) dX8_leaves_47 rfl (isRv_r _) ?_
      refine a_bipush (pc := 48) 41 dX8_leaves_48 rfl ?_
      obtain ⟨r4, hr4, hf⟩ := Option.bind_eq_some_iff.mp hf
      refine m_callv (pc := 50) [.int 41] [] hA dX8_leaves_50 ml_X8_314 mv_X8_body rfl rfl (by omega) (mX8_body hA (by omega) hr4) rfl (Nat.le_of_ble_eq_true rfl) hk hn ?_
      refine a_aload_n (pc := 53) dX8_leaves_53 rfl (isRv_r _) ?_
      refine a_iload_n (pc := 54) dX8_leaves_54 rfl ?_
      refine a_iload_n (pc := 55) dX8_leaves_55 rfl ?_
      obtain ⟨r5, hr5, hf⟩ := Option.bind_eq_some_iff.mp hf
      refine m_call (pc := 56) (.int (r5.1)) [.int l1, .int l2] [] hA dX8_leaves_56 ml_X8_329 mv_X8_plainLeaves rfl rfl (by omega) (mX8_plainLeaves hA (by omega) hr5) rfl (Nat.le_of_ble_eq_true rfl) hk hn ?_
      refine a_ineg (pc := 59) dX8_leaves_59 ?_
      have hf := Option.some.inj hf
      subst hf
      exact a_ireturn (pc := 60) dX8_leaves_60 hk hn ⟨rfl, rfl⟩
    · have hf := (if_neg c11_1).symm.trans hf
      by_cases c11_2 : l1 = 4
      · have hf := (if_pos c11_2).symm.trans hf
        refine a_tableIn (pc := 1) 61 dX8_leaves_1 (by rw [c11_2]; decide) (by rw [c11_2]; decide) (off := 60) (by rw [c11_2]; rfl) (by decide) ?_
        refine a_aload_n (pc := 61) dX8_leaves_61 rfl (isRv_r _) ?_
        refine a_bipush (pc := 62) 50 dX8_leaves_62 rfl ?_
        obtain ⟨r6, hr6, hf⟩ := Option.bind_eq_some_iff.mp hf
        refine m_callv (pc := 64) [.int 50] [] hA dX8_leaves_64 ml_X8_314 mv_X8_body rfl rfl (by omega) (mX8_body hA (by omega) hr6) rfl (Nat.le_of_ble_eq_true rfl) hk hn ?_
        refine a_aload_n (pc := 67) dX8_leaves_67 rfl (isRv_r _) ?_
        refine a_iload_n (pc := 68) dX8_leaves_68 rfl ?_
        refine a_iload_n (pc := 69) dX8_leaves_69 rfl ?_
        obtain ⟨r7, hr7, hf⟩ := Option.bind_eq_some_iff.mp hf
        refine m_call (pc := 70) (.int (r7.1)) [.int l1, .int l2] [] hA dX8_leaves_70 ml_X8_329 mv_X8_plainLeaves rfl rfl (by omega) (mX8_plainLeaves hA (by omega) hr7) rfl (Nat.le_of_ble_eq_true rfl) hk hn ?_
        refine a_istore_n (pc := 73) (ls' := [some (.ref 26), some (.int l1), some (.int l2), some (.int (r7.1))]) dX8_leaves_73 (by decide) rfl ?_
        refine a_iload_n (pc := 74) dX8_leaves_74 rfl ?_
        refine a_aload_n (pc := 75) dX8_leaves_75 rfl (isRv_r _) ?_
        refine a_iconst (pc := 76) 2 dX8_leaves_76 rfl ?_
        obtain ⟨r8, hr8, hf⟩ := Option.bind_eq_some_iff.mp hf
        refine m_call (pc := 77) (.int (r8.1)) [.int 2] [.int (r7.1)] hA dX8_leaves_77 ml_X8_323 mv_X8_wordsStrikes rfl rfl (by omega) (mX8_wordsStrikes hA (by omega) hr8) rfl (Nat.le_of_ble_eq_true rfl) hk hn ?_
        refine a_iadd (pc := 80) dX8_leaves_80 ?_
        have hf := Option.some.inj hf
        subst hf
        exact a_ireturn (pc := 81) dX8_leaves_81 hk hn ⟨rfl, rfl⟩
      · have hf := (if_neg c11_2).symm.trans hf
        by_cases c11_3 : l1 = 5
        · have hf := (if_pos c11_3).symm.trans hf
          refine a_tableIn (pc := 1) 47 dX8_leaves_1 (by rw [c11_3]; decide) (by rw [c11_3]; decide) (off := 46) (by rw [c11_3]; rfl) (by decide) ?_
          refine a_aload_n (pc := 47) dX8_leaves_47 rfl (isRv_r _) ?_
          refine a_bipush (pc := 48) 41 dX8_leaves_48 rfl ?_
          obtain ⟨r9, hr9, hf⟩ := Option.bind_eq_some_iff.mp hf
          refine m_callv (pc := 50) [.int 41] [] hA dX8_leaves_50 ml_X8_314 mv_X8_body rfl rfl (by omega) (mX8_body hA (by omega) hr9) rfl (Nat.le_of_ble_eq_true rfl) hk hn ?_
          refine a_aload_n (pc := 53) dX8_leaves_53 rfl (isRv_r _) ?_
          refine a_iload_n (pc := 54) dX8_leaves_54 rfl ?_
          refine a_iload_n (pc := 55) dX8_leaves_55 rfl ?_
          obtain ⟨r10, hr10, hf⟩ := Option.bind_eq_some_iff.mp hf
          refine m_call (pc := 56) (.int (r10.1)) [.int l1, .int l2] [] hA dX8_leaves_56 ml_X8_329 mv_X8_plainLeaves rfl rfl (by omega) (mX8_plainLeaves hA (by omega) hr10) rfl (Nat.le_of_ble_eq_true rfl) hk hn ?_
          refine a_ineg (pc := 59) dX8_leaves_59 ?_
          have hf := Option.some.inj hf
          subst hf
          exact a_ireturn (pc := 60) dX8_leaves_60 hk hn ⟨rfl, rfl⟩
        · have hf := (if_neg c11_3).symm.trans hf
          have hkd : AW l g d RX8 cX8_leaves 4 "leaves" MC MS' (Qr (some (.int r.1)) (mh A r.2 D)) k n 82 [some (.ref 26), some (.int l1), some (.int l2), none] [] (mh A S D) := by
            refine a_aload_n (pc := 82) dX8_leaves_82 rfl (isRv_r _) ?_
            refine a_iload_n (pc := 83) dX8_leaves_83 rfl ?_
            refine a_iload_n (pc := 84) dX8_leaves_84 rfl ?_
            obtain ⟨r1, hr1, hf⟩ := Option.bind_eq_some_iff.mp hf
            refine m_call (pc := 85) (.int (r1.1)) [.int l1, .int l2] [] hA dX8_leaves_85 ml_X8_329 mv_X8_plainLeaves rfl rfl (by omega) (mX8_plainLeaves hA (by omega) hr1) rfl (Nat.le_of_ble_eq_true rfl) hk hn ?_
            have hf := Option.some.inj hf
            subst hf
            exact a_ireturn (pc := 88) dX8_leaves_88 hk hn ⟨rfl, rfl⟩
          by_cases h11l : (l1).toInt < 2
          · exact a_tableOut (pc := 1) 82 dX8_leaves_1 (Or.inl h11l) (by decide) hkd
          by_cases h11h : 5 < (l1).toInt
          · exact a_tableOut (pc := 1) 82 dX8_leaves_1 (Or.inr h11h) (by decide) hkd
          have h11a : (l1).toInt = 2 ∨ (l1).toInt = 3 ∨ (l1).toInt = 4 ∨ (l1).toInt = 5 := by omega
          rcases h11a with h11a | h11a | h11a | h11a
          · exact absurd (Int32.toInt_inj.mp (h11a.trans rfl)) c11_0
          · exact absurd (Int32.toInt_inj.mp (h11a.trans rfl)) c11_1
          · exact absurd (Int32.toInt_inj.mp (h11a.trans rfl)) c11_2
          · exact absurd (Int32.toInt_inj.mp (h11a.trans rfl)) c11_3
set_option maxHeartbeats 4000000 in
theorem mX8_leaves {l : Launch} {g : gE} {d : Nat} {A D : List va_E} (hA : A.length = 26) (hd : 5 ≤ d) {r : Int32 × MS} {S : MS} {l1 : Int32} {l2 : Int32} (hf : X8_leaves S l1 l2 = some r) : AM l g d yX8_leaves cX8_leaves 4 (some .int) 0 0 [.ref 26, .int l1, .int l2] (mh A S D) (Qr (some (.int r.1)) (mh A r.2 D)) := by
  refine AM.of rfl (by exact Nat.le_of_ble_eq_true rfl) (fun v h' q => by obtain ⟨rfl, -⟩ := q; exact ⟨_, rfl, rfl⟩) (fun ls e => ?_)
  have e2 : aBeg [.ref 26, .int l1, .int l2] 4 = [some (.ref 26), some (.int l1), some (.int l2), none] := rfl
  rw [e2] at e
  subst e
  refine a_sub (sub_k (sub_k (sub_k (sub_k (sub_n))))) ?_
  exact sX8_leaves_0 hA hd (Nat.le_refl _) (Nat.le_refl _) (hf)
-- PencilStrikesModel.plainTells(II)I
def X8_plainTells_0 (S : MS) (l1 : Int32) (l2 : Int32) : Option (Int32 × MS) :=
  (X8_body S 12).bind fun r1 =>
  (X8_leaves r1.2 l1 l2).bind fun r2 =>
  some ((r2.1 * 2), r2.2)
def X8_plainTells (S : MS) (l1 : Int32) (l2 : Int32) : Option (Int32 × MS) := X8_plainTells_0 S l1 l2
set_option maxHeartbeats 4000000 in
theorem sX8_plainTells_0 {l : Launch} {g : gE} {d MC MS' k n : Nat} {A D : List va_E} (hA : A.length = 26) (hd : 6 ≤ d) (hk : k ≤ MC) (hn : n ≤ MS') {r : Int32 × MS} {S : MS} {l1 : Int32} {l2 : Int32} (hf : X8_plainTells_0 S l1 l2 = some r) : AW l g d RX8 cX8_plainTells 3 "plainTells" MC MS' (Qr (some (.int r.1)) (mh A r.2 D)) k n 0 [some (.ref 26), some (.int l1), some (.int l2)] [] (mh A S D) := by
  unfold X8_plainTells_0 at hf
  refine a_aload_n (pc := 0) dX8_plainTells_0 rfl (isRv_r _) ?_
  refine a_bipush (pc := 1) 12 dX8_plainTells_1 rfl ?_
  obtain ⟨r1, hr1, hf⟩ := Option.bind_eq_some_iff.mp hf
  refine m_callv (pc := 3) [.int 12] [] hA dX8_plainTells_3 ml_X8_314 mv_X8_body rfl rfl (by omega) (mX8_body hA (by omega) hr1) rfl (Nat.le_of_ble_eq_true rfl) hk hn ?_
  refine a_aload_n (pc := 6) dX8_plainTells_6 rfl (isRv_r _) ?_
  refine a_iload_n (pc := 7) dX8_plainTells_7 rfl ?_
  refine a_iload_n (pc := 8) dX8_plainTells_8 rfl ?_
  obtain ⟨r2, hr2, hf⟩ := Option.bind_eq_some_iff.mp hf
  refine m_call (pc := 9) (.int (r2.1)) [.int l1, .int l2] [] hA dX8_plainTells_9 ml_X8_332 mv_X8_leaves rfl rfl (by omega) (mX8_leaves hA (by omega) hr2) rfl (Nat.le_of_ble_eq_true rfl) hk hn ?_
  refine a_iconst (pc := 12) 2 dX8_plainTells_12 rfl ?_
  refine a_imul (pc := 13) dX8_plainTells_13 ?_
  have hf := Option.some.inj hf
  subst hf
  exact a_ireturn (pc := 14) dX8_plainTells_14 hk hn ⟨rfl, rfl⟩
set_option maxHeartbeats 4000000 in
theorem mX8_plainTells {l : Launch} {g : gE} {d : Nat} {A D : List va_E} (hA : A.length = 26) (hd : 6 ≤ d) {r : Int32 × MS} {S : MS} {l1 : Int32} {l2 : Int32} (hf : X8_plainTells S l1 l2 = some r) : AM l g d yX8_plainTells cX8_plainTells 3 (some .int) 0 0 [.ref 26, .int l1, .int l2] (mh A S D) (Qr (some (.int r.1)) (mh A r.2 D)) := by
  refine AM.of rfl (by exact Nat.le_of_ble_eq_true rfl) (fun v h' q => by obtain ⟨rfl, -⟩ := q; exact ⟨_, rfl, rfl⟩) (fun ls e => ?_)
  have e2 : aBeg [.ref 26, .int l1, .int l2] 3 = [some (.ref 26), some (.int l1), some (.int l2)] := rfl
  rw [e2] at e
  subst e
  refine a_sub (sub_k (sub_k (sub_k (sub_n)))) ?_
  exact sX8_plainTells_0 hA hd (Nat.le_refl _) (Nat.le_refl _) (hf)
-- PencilStrikesModel.clausesTells(II)I
def X8_clausesTells_0 (S : MS) (l1 : Int32) (l2 : Int32) : Option (Int32 × MS) :=
  (X8_body S 40).bind fun r1 =>
  (X8_plainTells r1.2 l1 l2).bind fun r2 =>
  (X8_strikes r2.2 l1 1).bind fun r3 =>
  some ((r2.1 + r3.1), r3.2)
def X8_clausesTells (S : MS) (l1 : Int32) (l2 : Int32) : Option (Int32 × MS) := X8_clausesTells_0 S l1 l2
set_option maxHeartbeats 4000000 in
theorem sX8_clausesTells_0 {l : Launch} {g : gE} {d MC MS' k n : Nat} {A D : List va_E} (hA : A.length = 26) (hd : 7 ≤ d) (hk : k ≤ MC) (hn : n ≤ MS') {r : Int32 × MS} {S : MS} {l1 : Int32} {l2 : Int32} (hf : X8_clausesTells_0 S l1 l2 = some r) : AW l g d RX8 cX8_clausesTells 4 "clausesTells" MC MS' (Qr (some (.int r.1)) (mh A r.2 D)) k n 0 [some (.ref 26), some (.int l1), some (.int l2), none] [] (mh A S D) := by
  unfold X8_clausesTells_0 at hf
  refine a_aload_n (pc := 0) dX8_clausesTells_0 rfl (isRv_r _) ?_
  refine a_bipush (pc := 1) 40 dX8_clausesTells_1 rfl ?_
  obtain ⟨r1, hr1, hf⟩ := Option.bind_eq_some_iff.mp hf
  refine m_callv (pc := 3) [.int 40] [] hA dX8_clausesTells_3 ml_X8_314 mv_X8_body rfl rfl (by omega) (mX8_body hA (by omega) hr1) rfl (Nat.le_of_ble_eq_true rfl) hk hn ?_
  refine a_aload_n (pc := 6) dX8_clausesTells_6 rfl (isRv_r _) ?_
  refine a_iload_n (pc := 7) dX8_clausesTells_7 rfl ?_
  refine a_iload_n (pc := 8) dX8_clausesTells_8 rfl ?_
  obtain ⟨r2, hr2, hf⟩ := Option.bind_eq_some_iff.mp hf
  refine m_call (pc := 9) (.int (r2.1)) [.int l1, .int l2] [] hA dX8_clausesTells_9 ml_X8_335 mv_X8_plainTells rfl rfl (by omega) (mX8_plainTells hA (by omega) hr2) rfl (Nat.le_of_ble_eq_true rfl) hk hn ?_
  refine a_istore_n (pc := 12) (ls' := [some (.ref 26), some (.int l1), some (.int l2), some (.int (r2.1))]) dX8_clausesTells_12 (by decide) rfl ?_
  refine a_iload_n (pc := 13) dX8_clausesTells_13 rfl ?_
  refine a_aload_n (pc := 14) dX8_clausesTells_14 rfl (isRv_r _) ?_
  refine a_iload_n (pc := 15) dX8_clausesTells_15 rfl ?_
  refine a_iconst (pc := 16) 1 dX8_clausesTells_16 rfl ?_
  obtain ⟨r3, hr3, hf⟩ := Option.bind_eq_some_iff.mp hf
  refine m_call (pc := 17) (.int (r3.1)) [.int l1, .int 1] [.int (r2.1)] hA dX8_clausesTells_17 ml_X8_326 mv_X8_strikes rfl rfl (by omega) (mX8_strikes hA (by omega) hr3) rfl (Nat.le_of_ble_eq_true rfl) hk hn ?_
  refine a_iadd (pc := 20) dX8_clausesTells_20 ?_
  have hf := Option.some.inj hf
  subst hf
  exact a_ireturn (pc := 21) dX8_clausesTells_21 hk hn ⟨rfl, rfl⟩
set_option maxHeartbeats 4000000 in
theorem mX8_clausesTells {l : Launch} {g : gE} {d : Nat} {A D : List va_E} (hA : A.length = 26) (hd : 7 ≤ d) {r : Int32 × MS} {S : MS} {l1 : Int32} {l2 : Int32} (hf : X8_clausesTells S l1 l2 = some r) : AM l g d yX8_clausesTells cX8_clausesTells 4 (some .int) 0 0 [.ref 26, .int l1, .int l2] (mh A S D) (Qr (some (.int r.1)) (mh A r.2 D)) := by
  refine AM.of rfl (by exact Nat.le_of_ble_eq_true rfl) (fun v h' q => by obtain ⟨rfl, -⟩ := q; exact ⟨_, rfl, rfl⟩) (fun ls e => ?_)
  have e2 : aBeg [.ref 26, .int l1, .int l2] 4 = [some (.ref 26), some (.int l1), some (.int l2), none] := rfl
  rw [e2] at e
  subst e
  refine a_sub (sub_k (sub_k (sub_k (sub_k (sub_n))))) ?_
  exact sX8_clausesTells_0 hA hd (Nat.le_refl _) (Nat.le_refl _) (hf)
-- PencilStrikesModel.tells(II)I
def X8_tells_0 (S : MS) (l1 : Int32) (l2 : Int32) : Option (Int32 × MS) :=
  if l1 = 3 then
    (X8_clausesTells S l1 l2).bind fun r2 =>
    some (r2.1, r2.2)
  else
    if l1 = 5 then
      (X8_body S 60).bind fun r3 =>
      (X8_leaves r3.2 l1 l2).bind fun r4 =>
      (X8_clausesTells r4.2 l1 l2).bind fun r5 =>
      some ((r4.1 - r5.1), r5.2)
    else
      if l1 = 6 then
        (X8_body S 70).bind fun r6 =>
        (X8_plainTells r6.2 l1 (l2 - (r6.2.1 0))).bind fun r7 =>
        some (r7.1, r7.2)
      else
        (X8_plainTells S l1 l2).bind fun r1 =>
        some (r1.1, r1.2)
def X8_tells (S : MS) (l1 : Int32) (l2 : Int32) : Option (Int32 × MS) := X8_tells_0 S l1 l2
set_option maxHeartbeats 4000000 in
theorem sX8_tells_0 {l : Launch} {g : gE} {d MC MS' k n : Nat} {A D : List va_E} (hA : A.length = 26) (hd : 8 ≤ d) (hk : k ≤ MC) (hn : n ≤ MS') {r : Int32 × MS} {S : MS} {l1 : Int32} {l2 : Int32} (hf : X8_tells_0 S l1 l2 = some r) : AW l g d RX8 cX8_tells 4 "tells" MC MS' (Qr (some (.int r.1)) (mh A r.2 D)) k n 0 [some (.ref 26), some (.int l1), some (.int l2), none] [] (mh A S D) := by
  unfold X8_tells_0 at hf
  refine a_iload_n (pc := 0) dX8_tells_0 rfl ?_
  by_cases c8_0 : l1 = 3
  · have hf := (if_pos c8_0).symm.trans hf
    refine a_tableIn (pc := 1) 32 dX8_tells_1 (by rw [c8_0]; decide) (by rw [c8_0]; decide) (off := 31) (by rw [c8_0]; rfl) (by decide) ?_
    refine a_aload_n (pc := 32) dX8_tells_32 rfl (isRv_r _) ?_
    refine a_iload_n (pc := 33) dX8_tells_33 rfl ?_
    refine a_iload_n (pc := 34) dX8_tells_34 rfl ?_
    obtain ⟨r2, hr2, hf⟩ := Option.bind_eq_some_iff.mp hf
    refine m_call (pc := 35) (.int (r2.1)) [.int l1, .int l2] [] hA dX8_tells_35 ml_X8_338 mv_X8_clausesTells rfl rfl (by omega) (mX8_clausesTells hA (by omega) hr2) rfl (Nat.le_of_ble_eq_true rfl) hk hn ?_
    have hf := Option.some.inj hf
    subst hf
    exact a_ireturn (pc := 38) dX8_tells_38 hk hn ⟨rfl, rfl⟩
  · have hf := (if_neg c8_0).symm.trans hf
    by_cases c8_1 : l1 = 5
    · have hf := (if_pos c8_1).symm.trans hf
      refine a_tableIn (pc := 1) 39 dX8_tells_1 (by rw [c8_1]; decide) (by rw [c8_1]; decide) (off := 38) (by rw [c8_1]; rfl) (by decide) ?_
      refine a_aload_n (pc := 39) dX8_tells_39 rfl (isRv_r _) ?_
      refine a_bipush (pc := 40) 60 dX8_tells_40 rfl ?_
      obtain ⟨r3, hr3, hf⟩ := Option.bind_eq_some_iff.mp hf
      refine m_callv (pc := 42) [.int 60] [] hA dX8_tells_42 ml_X8_314 mv_X8_body rfl rfl (by omega) (mX8_body hA (by omega) hr3) rfl (Nat.le_of_ble_eq_true rfl) hk hn ?_
      refine a_aload_n (pc := 45) dX8_tells_45 rfl (isRv_r _) ?_
      refine a_iload_n (pc := 46) dX8_tells_46 rfl ?_
      refine a_iload_n (pc := 47) dX8_tells_47 rfl ?_
      obtain ⟨r4, hr4, hf⟩ := Option.bind_eq_some_iff.mp hf
      refine m_call (pc := 48) (.int (r4.1)) [.int l1, .int l2] [] hA dX8_tells_48 ml_X8_332 mv_X8_leaves rfl rfl (by omega) (mX8_leaves hA (by omega) hr4) rfl (Nat.le_of_ble_eq_true rfl) hk hn ?_
      refine a_istore_n (pc := 51) (ls' := [some (.ref 26), some (.int l1), some (.int l2), some (.int (r4.1))]) dX8_tells_51 (by decide) rfl ?_
      refine a_iload_n (pc := 52) dX8_tells_52 rfl ?_
      refine a_aload_n (pc := 53) dX8_tells_53 rfl (isRv_r _) ?_
      refine a_iload_n (pc := 54) dX8_tells_54 rfl ?_
      refine a_iload_n (pc := 55) dX8_tells_55 rfl ?_
      obtain ⟨r5, hr5, hf⟩ := Option.bind_eq_some_iff.mp hf
      refine m_call (pc := 56) (.int (r5.1)) [.int l1, .int l2] [.int (r4.1)] hA dX8_tells_56 ml_X8_338 mv_X8_clausesTells rfl rfl (by omega) (mX8_clausesTells hA (by omega) hr5) rfl (Nat.le_of_ble_eq_true rfl) hk hn ?_
      refine a_isub (pc := 59) dX8_tells_59 ?_
      have hf := Option.some.inj hf
      subst hf
      exact a_ireturn (pc := 60) dX8_tells_60 hk hn ⟨rfl, rfl⟩
    · have hf := (if_neg c8_1).symm.trans hf
      by_cases c8_2 : l1 = 6
      · have hf := (if_pos c8_2).symm.trans hf
        refine a_tableIn (pc := 1) 61 dX8_tells_1 (by rw [c8_2]; decide) (by rw [c8_2]; decide) (off := 60) (by rw [c8_2]; rfl) (by decide) ?_
        refine a_aload_n (pc := 61) dX8_tells_61 rfl (isRv_r _) ?_
        refine a_bipush (pc := 62) 70 dX8_tells_62 rfl ?_
        obtain ⟨r6, hr6, hf⟩ := Option.bind_eq_some_iff.mp hf
        refine m_callv (pc := 64) [.int 70] [] hA dX8_tells_64 ml_X8_314 mv_X8_body rfl rfl (by omega) (mX8_body hA (by omega) hr6) rfl (Nat.le_of_ble_eq_true rfl) hk hn ?_
        refine a_aload_n (pc := 67) dX8_tells_67 rfl (isRv_r _) ?_
        refine a_iload_n (pc := 68) dX8_tells_68 rfl ?_
        refine a_iload_n (pc := 69) dX8_tells_69 rfl ?_
        refine a_aload_n (pc := 70) dX8_tells_70 rfl (isRv_r _) ?_
        refine m_getS (pc := 71) hA dX8_tells_71 fl_X8_7 ks_0 ?_
        refine a_isub (pc := 74) dX8_tells_74 ?_
        obtain ⟨r7, hr7, hf⟩ := Option.bind_eq_some_iff.mp hf
        refine m_call (pc := 75) (.int (r7.1)) [.int l1, .int (l2 - (r6.2.1 0))] [] hA dX8_tells_75 ml_X8_335 mv_X8_plainTells rfl rfl (by omega) (mX8_plainTells hA (by omega) hr7) rfl (Nat.le_of_ble_eq_true rfl) hk hn ?_
        have hf := Option.some.inj hf
        subst hf
        exact a_ireturn (pc := 78) dX8_tells_78 hk hn ⟨rfl, rfl⟩
      · have hf := (if_neg c8_2).symm.trans hf
        have hkd : AW l g d RX8 cX8_tells 4 "tells" MC MS' (Qr (some (.int r.1)) (mh A r.2 D)) k n 79 [some (.ref 26), some (.int l1), some (.int l2), none] [] (mh A S D) := by
          refine a_aload_n (pc := 79) dX8_tells_79 rfl (isRv_r _) ?_
          refine a_iload_n (pc := 80) dX8_tells_80 rfl ?_
          refine a_iload_n (pc := 81) dX8_tells_81 rfl ?_
          obtain ⟨r1, hr1, hf⟩ := Option.bind_eq_some_iff.mp hf
          refine m_call (pc := 82) (.int (r1.1)) [.int l1, .int l2] [] hA dX8_tells_82 ml_X8_335 mv_X8_plainTells rfl rfl (by omega) (mX8_plainTells hA (by omega) hr1) rfl (Nat.le_of_ble_eq_true rfl) hk hn ?_
          have hf := Option.some.inj hf
          subst hf
          exact a_ireturn (pc := 85) dX8_tells_85 hk hn ⟨rfl, rfl⟩
        by_cases h8l : (l1).toInt < 3
        · exact a_tableOut (pc := 1) 79 dX8_tells_1 (Or.inl h8l) (by decide) hkd
        by_cases h8h : 6 < (l1).toInt
        · exact a_tableOut (pc := 1) 79 dX8_tells_1 (Or.inr h8h) (by decide) hkd
        have h8a : (l1).toInt = 3 ∨ (l1).toInt = 4 ∨ (l1).toInt = 5 ∨ (l1).toInt = 6 := by omega
        rcases h8a with h8a | h8a | h8a | h8a
        · exact absurd (Int32.toInt_inj.mp (h8a.trans rfl)) c8_0
        · exact a_tableIn (pc := 1) 79 dX8_tells_1 h8l h8h (by rw [h8a]; rfl) (by decide) hkd
        · exact absurd (Int32.toInt_inj.mp (h8a.trans rfl)) c8_1
        · exact absurd (Int32.toInt_inj.mp (h8a.trans rfl)) c8_2
set_option maxHeartbeats 4000000 in
theorem mX8_tells {l : Launch} {g : gE} {d : Nat} {A D : List va_E} (hA : A.length = 26) (hd : 8 ≤ d) {r : Int32 × MS} {S : MS} {l1 : Int32} {l2 : Int32} (hf : X8_tells S l1 l2 = some r) : AM l g d yX8_tells cX8_tells 4 (some .int) 0 0 [.ref 26, .int l1, .int l2] (mh A S D) (Qr (some (.int r.1)) (mh A r.2 D)) := by
  refine AM.of rfl (by exact Nat.le_of_ble_eq_true rfl) (fun v h' q => by obtain ⟨rfl, -⟩ := q; exact ⟨_, rfl, rfl⟩) (fun ls e => ?_)
  have e2 : aBeg [.ref 26, .int l1, .int l2] 4 = [some (.ref 26), some (.int l1), some (.int l2), none] := rfl
  rw [e2] at e
  subst e
  refine a_sub (sub_k (sub_k (sub_k (sub_k (sub_n))))) ?_
  exact sX8_tells_0 hA hd (Nat.le_refl _) (Nat.le_refl _) (hf)
-- PencilStrikesModel.act(III)I
def X8_act_23 (S : MS) : Option (Int32 × MS) :=
  some (0, S)
def X8_act_58 (S : MS) (s0 : Int32) : Option (Int32 × MS) :=
  some (s0, S)
def X8_act_0 (S : MS) (l1 : Int32) (l2 : Int32) (l3 : Int32) : Option (Int32 × MS) :=
  (X8_isKind (si S 37 0) l1).bind fun r1 =>
  if r1.1 = 0 then
    X8_act_23 r1.2
  else
    (X8_in r1.2 l2 0 2).bind fun r2 =>
    if r2.1 = 0 then
      X8_act_23 r2.2
    else
      if l2 = 0 then
        (X8_strikes r2.2 l1 l3).bind fun r6 =>
        X8_act_58 r6.2 r6.1
      else
        if l2 = 1 then
          (X8_leaves r2.2 l1 l3).bind fun r4 =>
          X8_act_58 r4.2 r4.1
        else
          (X8_tells r2.2 l1 l3).bind fun r3 =>
          X8_act_58 r3.2 r3.1
def X8_act (S : MS) (l1 : Int32) (l2 : Int32) (l3 : Int32) : Option (Int32 × MS) := X8_act_0 S l1 l2 l3
set_option maxHeartbeats 4000000 in
theorem sX8_act_23 {l : Launch} {g : gE} {d MC MS' k n : Nat} {A D : List va_E} (hA : A.length = 26) (hd : 9 ≤ d) (hk : k ≤ MC) (hn : n ≤ MS') {r : Int32 × MS} {S : MS} (hf : X8_act_23 S = some r) : AW l g d RX8 cX8_act 4 "act" MC MS' (Qr (some (.int r.1)) (mh A r.2 D)) k n 23 [none, none, none, none] [] (mh A S D) := by
  unfold X8_act_23 at hf
  refine a_iconst (pc := 23) 0 dX8_act_23 rfl ?_
  have hf := Option.some.inj hf
  subst hf
  exact a_ireturn (pc := 24) dX8_act_24 hk hn ⟨rfl, rfl⟩
set_option maxHeartbeats 4000000 in
theorem sX8_act_58 {l : Launch} {g : gE} {d MC MS' k n : Nat} {A D : List va_E} (hA : A.length = 26) (hd : 9 ≤ d) (hk : k ≤ MC) (hn : n ≤ MS') {r : Int32 × MS} {S : MS} {s0 : Int32} (hf : X8_act_58 S s0 = some r) : AW l g d RX8 cX8_act 4 "act" MC MS' (Qr (some (.int r.1)) (mh A r.2 D)) k n 58 [none, none, none, none] [.int s0] (mh A S D) := by
  unfold X8_act_58 at hf
  have hf := Option.some.inj hf
  subst hf
  exact a_ireturn (pc := 58) dX8_act_58 hk hn ⟨rfl, rfl⟩
set_option maxHeartbeats 4000000 in
theorem sX8_act_0 {l : Launch} {g : gE} {d MC MS' k n : Nat} {A D : List va_E} (hA : A.length = 26) (hd : 9 ≤ d) (hk : k ≤ MC) (hn : n ≤ MS') {r : Int32 × MS} {S : MS} {l1 : Int32} {l2 : Int32} {l3 : Int32} (hf : X8_act_0 S l1 l2 l3 = some r) : AW l g d RX8 cX8_act 4 "act" MC MS' (Qr (some (.int r.1)) (mh A r.2 D)) k n 0 [some (.ref 26), some (.int l1), some (.int l2), some (.int l3)] [] (mh A S D) := by
  unfold X8_act_0 at hf
  refine a_aload_n (pc := 0) dX8_act_0 rfl (isRv_r _) ?_
  refine a_iconst (pc := 1) 0 dX8_act_1 rfl ?_
  refine m_putS (pc := 2) hA dX8_act_2 fl_X8_124 ks_37 ?_
  refine a_aload_n (pc := 5) dX8_act_5 rfl (isRv_r _) ?_
  refine a_iload_n (pc := 6) dX8_act_6 rfl ?_
  obtain ⟨r1, hr1, hf⟩ := Option.bind_eq_some_iff.mp hf
  refine m_call (pc := 7) (.int (r1.1)) [.int l1] [] hA dX8_act_7 ml_X8_267 mv_X8_isKind rfl rfl (by omega) (mX8_isKind hA (by omega) hr1) rfl (Nat.le_of_ble_eq_true rfl) hk hn ?_
  refine a_if_eq (pc := 10) 23 dX8_act_10 (by decide) (fun c9 => ?_) (fun c9 => ?_)
  · have hf := (if_pos c9).symm.trans hf
    refine a_sub (sub_d (sub_d (sub_d (sub_d sub_n)))) ?_
    exact sX8_act_23 hA hd hk hn hf
  · have hf := (if_neg c9).symm.trans hf
    refine a_aload_n (pc := 13) dX8_act_13 rfl (isRv_r _) ?_
    refine a_iload_n (pc := 14) dX8_act_14 rfl ?_
    refine a_iconst (pc := 15) 0 dX8_act_15 rfl ?_
    refine a_iconst (pc := 16) 2 dX8_act_16 rfl ?_
    obtain ⟨r2, hr2, hf⟩ := Option.bind_eq_some_iff.mp hf
    refine m_call (pc := 17) (.int (r2.1)) [.int l2, .int 0, .int 2] [] hA dX8_act_17 ml_X8_142 mv_X8_in rfl rfl (by omega) (mX8_in hA (by omega) hr2) rfl (Nat.le_of_ble_eq_true rfl) hk hn ?_
    refine a_if_ne (pc := 20) 25 dX8_act_20 (by decide) (fun c8 => ?_) (fun c8 => ?_)
    · have hf := (if_neg c8).symm.trans hf
      refine a_iload_n (pc := 25) dX8_act_25 rfl ?_
      refine a_if_ne (pc := 26) 38 dX8_act_26 (by decide) (fun c7 => ?_) (fun c7 => ?_)
      · have hf := (if_neg c7).symm.trans hf
        refine a_iload_n (pc := 38) dX8_act_38 rfl ?_
        refine a_iconst (pc := 39) 1 dX8_act_39 rfl ?_
        refine a_icmp_ne (pc := 40) 52 dX8_act_40 (by decide) (fun c5 => ?_) (fun c5 => ?_)
        · have hf := (if_neg c5).symm.trans hf
          refine a_aload_n (pc := 52) dX8_act_52 rfl (isRv_r _) ?_
          refine a_iload_n (pc := 53) dX8_act_53 rfl ?_
          refine a_iload_n (pc := 54) dX8_act_54 rfl ?_
          obtain ⟨r3, hr3, hf⟩ := Option.bind_eq_some_iff.mp hf
          refine m_call (pc := 55) (.int (r3.1)) [.int l1, .int l3] [] hA dX8_act_55 ml_X8_341 mv_X8_tells rfl rfl (by omega) (mX8_tells hA (by omega) hr3) rfl (Nat.le_of_ble_eq_true rfl) hk hn ?_
          refine a_sub (sub_d (sub_d (sub_d (sub_d sub_n)))) ?_
          exact sX8_act_58 hA hd hk hn hf
        · have hf := (if_pos c5).symm.trans hf
          refine a_aload_n (pc := 43) dX8_act_43 rfl (isRv_r _) ?_
          refine a_iload_n (pc := 44) dX8_act_44 rfl ?_
          refine a_iload_n (pc := 45) dX8_act_45 rfl ?_
          obtain ⟨r4, hr4, hf⟩ := Option.bind_eq_some_iff.mp hf
          refine m_call (pc := 46) (.int (r4.1)) [.int l1, .int l3] [] hA dX8_act_46 ml_X8_332 mv_X8_leaves rfl rfl (by omega) (mX8_leaves hA (by omega) hr4) rfl (Nat.le_of_ble_eq_true rfl) hk hn ?_
          refine a_goto (pc := 49) 58 dX8_act_49 (by decide) ?_
          refine a_sub (sub_d (sub_d (sub_d (sub_d sub_n)))) ?_
          exact sX8_act_58 hA hd hk hn hf
      · have hf := (if_pos c7).symm.trans hf
        refine a_aload_n (pc := 29) dX8_act_29 rfl (isRv_r _) ?_
        refine a_iload_n (pc := 30) dX8_act_30 rfl ?_
        refine a_iload_n (pc := 31) dX8_act_31 rfl ?_
        obtain ⟨r6, hr6, hf⟩ := Option.bind_eq_some_iff.mp hf
        refine m_call (pc := 32) (.int (r6.1)) [.int l1, .int l3] [] hA dX8_act_32 ml_X8_326 mv_X8_strikes rfl rfl (by omega) (mX8_strikes hA (by omega) hr6) rfl (Nat.le_of_ble_eq_true rfl) hk hn ?_
        refine a_goto (pc := 35) 58 dX8_act_35 (by decide) ?_
        refine a_sub (sub_d (sub_d (sub_d (sub_d sub_n)))) ?_
        exact sX8_act_58 hA hd hk hn hf
    · have hf := (if_pos c8).symm.trans hf
      refine a_sub (sub_d (sub_d (sub_d (sub_d sub_n)))) ?_
      exact sX8_act_23 hA hd hk hn hf
set_option maxHeartbeats 4000000 in
theorem mX8_act {l : Launch} {g : gE} {d : Nat} {A D : List va_E} (hA : A.length = 26) (hd : 9 ≤ d) {r : Int32 × MS} {S : MS} {l1 : Int32} {l2 : Int32} {l3 : Int32} (hf : X8_act S l1 l2 l3 = some r) : AM l g d yX8_act cX8_act 4 (some .int) 0 0 [.ref 26, .int l1, .int l2, .int l3] (mh A S D) (Qr (some (.int r.1)) (mh A r.2 D)) := by
  refine AM.of rfl (by exact Nat.le_of_ble_eq_true rfl) (fun v h' q => by obtain ⟨rfl, -⟩ := q; exact ⟨_, rfl, rfl⟩) (fun ls e => ?_)
  have e2 : aBeg [.ref 26, .int l1, .int l2, .int l3] 4 = [some (.ref 26), some (.int l1), some (.int l2), some (.int l3)] := rfl
  rw [e2] at e
  subst e
  refine a_sub (sub_k (sub_k (sub_k (sub_k (sub_n))))) ?_
  exact sX8_act_0 hA hd (Nat.le_refl _) (Nat.le_refl _) (hf)
-- PencilStrikesModel.trace(I)I
def X8_trace_29 (S : MS) (s0 : Int32) : Option (Int32 × MS) :=
  some (s0, S)
def X8_trace_28 (S : MS) : Option (Int32 × MS) :=
  X8_trace_29 S (-1)
def X8_trace_0 (S : MS) (l1 : Int32) : Option (Int32 × MS) :=
  (X8_in S l1 0 19).bind fun r1 =>
  if r1.1 = 0 then
    X8_trace_28 r1.2
  else
    if (r1.2.1 37) ≤ l1 then
      X8_trace_28 r1.2
    else
      (mA r1.2 38 l1).bind fun x2 =>
      X8_trace_29 r1.2 x2
def X8_trace (S : MS) (l1 : Int32) : Option (Int32 × MS) := X8_trace_0 S l1
set_option maxHeartbeats 4000000 in
theorem sX8_trace_29 {l : Launch} {g : gE} {d MC MS' k n : Nat} {A D : List va_E} (hA : A.length = 26) (hd : 1 ≤ d) (hk : k ≤ MC) (hn : n ≤ MS') {r : Int32 × MS} {S : MS} {s0 : Int32} (hf : X8_trace_29 S s0 = some r) : AW l g d RX8 cX8_trace 2 "trace" MC MS' (Qr (some (.int r.1)) (mh A r.2 D)) k n 29 [none, none] [.int s0] (mh A S D) := by
  unfold X8_trace_29 at hf
  have hf := Option.some.inj hf
  subst hf
  exact a_ireturn (pc := 29) dX8_trace_29 hk hn ⟨rfl, rfl⟩
set_option maxHeartbeats 4000000 in
theorem sX8_trace_28 {l : Launch} {g : gE} {d MC MS' k n : Nat} {A D : List va_E} (hA : A.length = 26) (hd : 1 ≤ d) (hk : k ≤ MC) (hn : n ≤ MS') {r : Int32 × MS} {S : MS} (hf : X8_trace_28 S = some r) : AW l g d RX8 cX8_trace 2 "trace" MC MS' (Qr (some (.int r.1)) (mh A r.2 D)) k n 28 [none, none] [] (mh A S D) := by
  unfold X8_trace_28 at hf
  refine a_iconst (pc := 28) (-1) dX8_trace_28 rfl ?_
  exact sX8_trace_29 hA hd hk hn hf
set_option maxHeartbeats 4000000 in
theorem sX8_trace_0 {l : Launch} {g : gE} {d MC MS' k n : Nat} {A D : List va_E} (hA : A.length = 26) (hd : 1 ≤ d) (hk : k ≤ MC) (hn : n ≤ MS') {r : Int32 × MS} {S : MS} {l1 : Int32} (hf : X8_trace_0 S l1 = some r) : AW l g d RX8 cX8_trace 2 "trace" MC MS' (Qr (some (.int r.1)) (mh A r.2 D)) k n 0 [some (.ref 26), some (.int l1)] [] (mh A S D) := by
  unfold X8_trace_0 at hf
  refine a_aload_n (pc := 0) dX8_trace_0 rfl (isRv_r _) ?_
  refine a_iload_n (pc := 1) dX8_trace_1 rfl ?_
  refine a_iconst (pc := 2) 0 dX8_trace_2 rfl ?_
  refine a_bipush (pc := 3) 19 dX8_trace_3 rfl ?_
  obtain ⟨r1, hr1, hf⟩ := Option.bind_eq_some_iff.mp hf
  refine m_call (pc := 5) (.int (r1.1)) [.int l1, .int 0, .int 19] [] hA dX8_trace_5 ml_X8_142 mv_X8_in rfl rfl (by omega) (mX8_in hA (by omega) hr1) rfl (Nat.le_of_ble_eq_true rfl) hk hn ?_
  refine a_if_eq (pc := 8) 28 dX8_trace_8 (by decide) (fun c4 => ?_) (fun c4 => ?_)
  · have hf := (if_pos c4).symm.trans hf
    refine a_sub (sub_d (sub_d sub_n)) ?_
    exact sX8_trace_28 hA hd hk hn hf
  · have hf := (if_neg c4).symm.trans hf
    refine a_iload_n (pc := 11) dX8_trace_11 rfl ?_
    refine a_aload_n (pc := 12) dX8_trace_12 rfl (isRv_r _) ?_
    refine m_getS (pc := 13) hA dX8_trace_13 fl_X8_124 ks_37 ?_
    refine a_icmp_ge (pc := 16) 28 dX8_trace_16 (by decide) (fun c3 => ?_) (fun c3 => ?_)
    · have hf := (if_pos c3).symm.trans hf
      refine a_sub (sub_d (sub_d sub_n)) ?_
      exact sX8_trace_28 hA hd hk hn hf
    · have hf := (if_neg c3).symm.trans hf
      refine a_aload_n (pc := 19) dX8_trace_19 rfl (isRv_r _) ?_
      refine m_getA (pc := 20) 49 hA dX8_trace_20 fl_X8_127 (Or.inl ki_38) rfl ?_
      refine a_iload_n (pc := 23) dX8_trace_23 rfl ?_
      obtain ⟨x2, hx2, hf⟩ := Option.bind_eq_some_iff.mp hf
      refine m_ald (pc := 24) 49 hA dX8_trace_24 ki_38 rfl hx2 ?_
      refine a_goto (pc := 25) 29 dX8_trace_25 (by decide) ?_
      refine a_sub (sub_d (sub_d sub_n)) ?_
      exact sX8_trace_29 hA hd hk hn hf
set_option maxHeartbeats 4000000 in
theorem mX8_trace {l : Launch} {g : gE} {d : Nat} {A D : List va_E} (hA : A.length = 26) (hd : 1 ≤ d) {r : Int32 × MS} {S : MS} {l1 : Int32} (hf : X8_trace S l1 = some r) : AM l g d yX8_trace cX8_trace 2 (some .int) 0 0 [.ref 26, .int l1] (mh A S D) (Qr (some (.int r.1)) (mh A r.2 D)) := by
  refine AM.of rfl (by exact Nat.le_of_ble_eq_true rfl) (fun v h' q => by obtain ⟨rfl, -⟩ := q; exact ⟨_, rfl, rfl⟩) (fun ls e => ?_)
  have e2 : aBeg [.ref 26, .int l1] 2 = [some (.ref 26), some (.int l1)] := rfl
  rw [e2] at e
  subst e
  refine a_sub (sub_k (sub_k (sub_n))) ?_
  exact sX8_trace_0 hA hd (Nat.le_refl _) (Nat.le_refl _) (hf)
-- PencilStrikesModel.taken(II)I
def X8_taken_37 (S : MS) (s0 : Int32) : Option (Int32 × MS) :=
  some (s0, S)
def X8_taken_0 (S : MS) (l1 : Int32) (l2 : Int32) : Option (Int32 × MS) :=
  (X8_isKind S l2).bind fun r1 =>
  if r1.1 = 0 then
    some ((-2), r1.2)
  else
    (X8_isKind r1.2 l1).bind fun r2 =>
    if r2.1 = 0 then
      some ((-11), r2.2)
    else
      (X8_isUnder r2.2 l1 l2).bind fun r3 =>
      if r3.1 = 0 then
        X8_taken_37 r3.2 (-12)
      else
        X8_taken_37 r3.2 l1
def X8_taken (S : MS) (l1 : Int32) (l2 : Int32) : Option (Int32 × MS) := X8_taken_0 S l1 l2
set_option maxHeartbeats 4000000 in
theorem sX8_taken_37 {l : Launch} {g : gE} {d MC MS' k n : Nat} {A D : List va_E} (hA : A.length = 26) (hd : 2 ≤ d) (hk : k ≤ MC) (hn : n ≤ MS') {r : Int32 × MS} {S : MS} {s0 : Int32} (hf : X8_taken_37 S s0 = some r) : AW l g d RX8 cX8_taken 3 "taken" MC MS' (Qr (some (.int r.1)) (mh A r.2 D)) k n 37 [none, none, none] [.int s0] (mh A S D) := by
  unfold X8_taken_37 at hf
  have hf := Option.some.inj hf
  subst hf
  exact a_ireturn (pc := 37) dX8_taken_37 hk hn ⟨rfl, rfl⟩
set_option maxHeartbeats 4000000 in
theorem sX8_taken_0 {l : Launch} {g : gE} {d MC MS' k n : Nat} {A D : List va_E} (hA : A.length = 26) (hd : 2 ≤ d) (hk : k ≤ MC) (hn : n ≤ MS') {r : Int32 × MS} {S : MS} {l1 : Int32} {l2 : Int32} (hf : X8_taken_0 S l1 l2 = some r) : AW l g d RX8 cX8_taken 3 "taken" MC MS' (Qr (some (.int r.1)) (mh A r.2 D)) k n 0 [some (.ref 26), some (.int l1), some (.int l2)] [] (mh A S D) := by
  unfold X8_taken_0 at hf
  refine a_aload_n (pc := 0) dX8_taken_0 rfl (isRv_r _) ?_
  refine a_iload_n (pc := 1) dX8_taken_1 rfl ?_
  obtain ⟨r1, hr1, hf⟩ := Option.bind_eq_some_iff.mp hf
  refine m_call (pc := 2) (.int (r1.1)) [.int l2] [] hA dX8_taken_2 ml_X8_267 mv_X8_isKind rfl rfl (by omega) (mX8_isKind hA (by omega) hr1) rfl (Nat.le_of_ble_eq_true rfl) hk hn ?_
  refine a_if_ne (pc := 5) 11 dX8_taken_5 (by decide) (fun c6 => ?_) (fun c6 => ?_)
  · have hf := (if_neg c6).symm.trans hf
    refine a_aload_n (pc := 11) dX8_taken_11 rfl (isRv_r _) ?_
    refine a_iload_n (pc := 12) dX8_taken_12 rfl ?_
    obtain ⟨r2, hr2, hf⟩ := Option.bind_eq_some_iff.mp hf
    refine m_call (pc := 13) (.int (r2.1)) [.int l1] [] hA dX8_taken_13 ml_X8_267 mv_X8_isKind rfl rfl (by omega) (mX8_isKind hA (by omega) hr2) rfl (Nat.le_of_ble_eq_true rfl) hk hn ?_
    refine a_if_ne (pc := 16) 22 dX8_taken_16 (by decide) (fun c5 => ?_) (fun c5 => ?_)
    · have hf := (if_neg c5).symm.trans hf
      refine a_aload_n (pc := 22) dX8_taken_22 rfl (isRv_r _) ?_
      refine a_iload_n (pc := 23) dX8_taken_23 rfl ?_
      refine a_iload_n (pc := 24) dX8_taken_24 rfl ?_
      obtain ⟨r3, hr3, hf⟩ := Option.bind_eq_some_iff.mp hf
      refine m_call (pc := 25) (.int (r3.1)) [.int l1, .int l2] [] hA dX8_taken_25 ml_X8_320 mv_X8_isUnder rfl rfl (by omega) (mX8_isUnder hA (by omega) hr3) rfl (Nat.le_of_ble_eq_true rfl) hk hn ?_
      refine a_if_eq (pc := 28) 35 dX8_taken_28 (by decide) (fun c4 => ?_) (fun c4 => ?_)
      · have hf := (if_pos c4).symm.trans hf
        refine a_bipush (pc := 35) (-12) dX8_taken_35 rfl ?_
        refine a_sub (sub_d (sub_d (sub_d sub_n))) ?_
        exact sX8_taken_37 hA hd hk hn hf
      · have hf := (if_neg c4).symm.trans hf
        refine a_iload_n (pc := 31) dX8_taken_31 rfl ?_
        refine a_goto (pc := 32) 37 dX8_taken_32 (by decide) ?_
        refine a_sub (sub_d (sub_d (sub_d sub_n))) ?_
        exact sX8_taken_37 hA hd hk hn hf
    · have hf := (if_pos c5).symm.trans hf
      refine a_bipush (pc := 19) (-11) dX8_taken_19 rfl ?_
      have hf := Option.some.inj hf
      subst hf
      exact a_ireturn (pc := 21) dX8_taken_21 hk hn ⟨rfl, rfl⟩
  · have hf := (if_pos c6).symm.trans hf
    refine a_bipush (pc := 8) (-2) dX8_taken_8 rfl ?_
    have hf := Option.some.inj hf
    subst hf
    exact a_ireturn (pc := 10) dX8_taken_10 hk hn ⟨rfl, rfl⟩
set_option maxHeartbeats 4000000 in
theorem mX8_taken {l : Launch} {g : gE} {d : Nat} {A D : List va_E} (hA : A.length = 26) (hd : 2 ≤ d) {r : Int32 × MS} {S : MS} {l1 : Int32} {l2 : Int32} (hf : X8_taken S l1 l2 = some r) : AM l g d yX8_taken cX8_taken 3 (some .int) 0 0 [.ref 26, .int l1, .int l2] (mh A S D) (Qr (some (.int r.1)) (mh A r.2 D)) := by
  refine AM.of rfl (by exact Nat.le_of_ble_eq_true rfl) (fun v h' q => by obtain ⟨rfl, -⟩ := q; exact ⟨_, rfl, rfl⟩) (fun ls e => ?_)
  have e2 : aBeg [.ref 26, .int l1, .int l2] 3 = [some (.ref 26), some (.int l1), some (.int l2)] := rfl
  rw [e2] at e
  subst e
  refine a_sub (sub_k (sub_k (sub_k (sub_n)))) ?_
  exact sX8_taken_0 hA hd (Nat.le_refl _) (Nat.le_refl _) (hf)
-- PencilStrikesModel.count(I)I
def X8_count_0 (S : MS) (l1 : Int32) : Option (Int32 × MS) :=
  if l1 = 0 then
    some ((S.1 0), S)
  else
    if l1 = 1 then
      some ((S.1 1), S)
    else
      if l1 = 2 then
        some ((S.1 2), S)
      else
        if l1 = 3 then
          some ((S.1 37), S)
        else
          some ((-2), S)
def X8_count (S : MS) (l1 : Int32) : Option (Int32 × MS) := X8_count_0 S l1
set_option maxHeartbeats 4000000 in
theorem sX8_count_0 {l : Launch} {g : gE} {d MC MS' k n : Nat} {A D : List va_E} (hA : A.length = 26) (hd : 0 ≤ d) (hk : k ≤ MC) (hn : n ≤ MS') {r : Int32 × MS} {S : MS} {l1 : Int32} (hf : X8_count_0 S l1 = some r) : AW l g d RX8 cX8_count 2 "count" MC MS' (Qr (some (.int r.1)) (mh A r.2 D)) k n 0 [some (.ref 26), some (.int l1)] [] (mh A S D) := by
  unfold X8_count_0 at hf
  refine a_iload_n (pc := 0) dX8_count_0 rfl ?_
  by_cases c1_0 : l1 = 0
  · have hf := (if_pos c1_0).symm.trans hf
    refine a_tableIn (pc := 1) 32 dX8_count_1 (by rw [c1_0]; decide) (by rw [c1_0]; decide) (off := 31) (by rw [c1_0]; rfl) (by decide) ?_
    refine a_aload_n (pc := 32) dX8_count_32 rfl (isRv_r _) ?_
    refine m_getS (pc := 33) hA dX8_count_33 fl_X8_7 ks_0 ?_
    have hf := Option.some.inj hf
    subst hf
    exact a_ireturn (pc := 36) dX8_count_36 hk hn ⟨rfl, rfl⟩
  · have hf := (if_neg c1_0).symm.trans hf
    by_cases c1_1 : l1 = 1
    · have hf := (if_pos c1_1).symm.trans hf
      refine a_tableIn (pc := 1) 37 dX8_count_1 (by rw [c1_1]; decide) (by rw [c1_1]; decide) (off := 36) (by rw [c1_1]; rfl) (by decide) ?_
      refine a_aload_n (pc := 37) dX8_count_37 rfl (isRv_r _) ?_
      refine m_getS (pc := 38) hA dX8_count_38 fl_X8_13 ks_1 ?_
      have hf := Option.some.inj hf
      subst hf
      exact a_ireturn (pc := 41) dX8_count_41 hk hn ⟨rfl, rfl⟩
    · have hf := (if_neg c1_1).symm.trans hf
      by_cases c1_2 : l1 = 2
      · have hf := (if_pos c1_2).symm.trans hf
        refine a_tableIn (pc := 1) 42 dX8_count_1 (by rw [c1_2]; decide) (by rw [c1_2]; decide) (off := 41) (by rw [c1_2]; rfl) (by decide) ?_
        refine a_aload_n (pc := 42) dX8_count_42 rfl (isRv_r _) ?_
        refine m_getS (pc := 43) hA dX8_count_43 fl_X8_16 ks_2 ?_
        have hf := Option.some.inj hf
        subst hf
        exact a_ireturn (pc := 46) dX8_count_46 hk hn ⟨rfl, rfl⟩
      · have hf := (if_neg c1_2).symm.trans hf
        by_cases c1_3 : l1 = 3
        · have hf := (if_pos c1_3).symm.trans hf
          refine a_tableIn (pc := 1) 47 dX8_count_1 (by rw [c1_3]; decide) (by rw [c1_3]; decide) (off := 46) (by rw [c1_3]; rfl) (by decide) ?_
          refine a_aload_n (pc := 47) dX8_count_47 rfl (isRv_r _) ?_
          refine m_getS (pc := 48) hA dX8_count_48 fl_X8_124 ks_37 ?_
          have hf := Option.some.inj hf
          subst hf
          exact a_ireturn (pc := 51) dX8_count_51 hk hn ⟨rfl, rfl⟩
        · have hf := (if_neg c1_3).symm.trans hf
          have hkd : AW l g d RX8 cX8_count 2 "count" MC MS' (Qr (some (.int r.1)) (mh A r.2 D)) k n 52 [some (.ref 26), some (.int l1)] [] (mh A S D) := by
            refine a_bipush (pc := 52) (-2) dX8_count_52 rfl ?_
            have hf := Option.some.inj hf
            subst hf
            exact a_ireturn (pc := 54) dX8_count_54 hk hn ⟨rfl, rfl⟩
          by_cases h1l : (l1).toInt < 0
          · exact a_tableOut (pc := 1) 52 dX8_count_1 (Or.inl h1l) (by decide) hkd
          by_cases h1h : 3 < (l1).toInt
          · exact a_tableOut (pc := 1) 52 dX8_count_1 (Or.inr h1h) (by decide) hkd
          have h1a : (l1).toInt = 0 ∨ (l1).toInt = 1 ∨ (l1).toInt = 2 ∨ (l1).toInt = 3 := by omega
          rcases h1a with h1a | h1a | h1a | h1a
          · exact absurd (Int32.toInt_inj.mp (h1a.trans rfl)) c1_0
          · exact absurd (Int32.toInt_inj.mp (h1a.trans rfl)) c1_1
          · exact absurd (Int32.toInt_inj.mp (h1a.trans rfl)) c1_2
          · exact absurd (Int32.toInt_inj.mp (h1a.trans rfl)) c1_3
set_option maxHeartbeats 4000000 in
theorem mX8_count {l : Launch} {g : gE} {d : Nat} {A D : List va_E} (hA : A.length = 26) (hd : 0 ≤ d) {r : Int32 × MS} {S : MS} {l1 : Int32} (hf : X8_count S l1 = some r) : AM l g d yX8_count cX8_count 2 (some .int) 0 0 [.ref 26, .int l1] (mh A S D) (Qr (some (.int r.1)) (mh A r.2 D)) := by
  refine AM.of rfl (by exact Nat.le_of_ble_eq_true rfl) (fun v h' q => by obtain ⟨rfl, -⟩ := q; exact ⟨_, rfl, rfl⟩) (fun ls e => ?_)
  have e2 : aBeg [.ref 26, .int l1] 2 = [some (.ref 26), some (.int l1)] := rfl
  rw [e2] at e
  subst e
  refine a_sub (sub_k (sub_k (sub_n))) ?_
  exact sX8_count_0 hA hd (Nat.le_refl _) (Nat.le_refl _) (hf)
-- PencilStrikesModel.tape(III)I
def X8_tape_30 (S : MS) : Option (Int32 × MS) :=
  some ((-2), S)
def X8_tape_69 : Nat → MS → Int32 → Int32 → Option (Int32 × MS)
  | 0, _, _, _ => none
  | fn + 1, S, l1, l4 =>
    if 60 ≤ l4 then
      some (1, S)
    else
      (mLs S 41 ((60 * l1) + l4) (0 : Int64)).bind fun S1 =>
      X8_tape_69 fn S1 l1 (l4 + 1)
def X8_tape_65 (S : MS) (s1 : Int32) (s2 : Int32) (l1 : Int32) : Option (Int32 × MS) :=
  (mAs S 40 s1 s2).bind fun S1 =>
  X8_tape_69 FU S1 l1 0
def X8_tape_44 (S : MS) (l1 : Int32) (l2 : Int32) (l3 : Int32) : Option (Int32 × MS) :=
  (mAs S 39 l1 l2).bind fun S1 =>
  if 0 ≤ l2 then
    X8_tape_65 S1 l1 l3 l1
  else
    X8_tape_65 S1 l1 0 l1
def X8_tape_33 (S : MS) (l1 : Int32) (l2 : Int32) (l3 : Int32) : Option (Int32 × MS) :=
  if l2 < 0 then
    X8_tape_44 S l1 l2 l3
  else
    if 0 ≤ l3 then
      X8_tape_44 S l1 l2 l3
    else
      some ((-14), S)
def X8_tape_0 (S : MS) (l1 : Int32) (l2 : Int32) (l3 : Int32) : Option (Int32 × MS) :=
  (X8_isTape S l1).bind fun r1 =>
  if r1.1 = 0 then
    some ((-1), r1.2)
  else
    (X8_in r1.2 l2 (-1) 4).bind fun r2 =>
    if r2.1 = 0 then
      X8_tape_30 r2.2
    else
      if l2 < 0 then
        X8_tape_33 r2.2 l1 l2 l3
      else
        if l3 ≤ 60 then
          X8_tape_33 r2.2 l1 l2 l3
        else
          X8_tape_30 r2.2
def X8_tape (S : MS) (l1 : Int32) (l2 : Int32) (l3 : Int32) : Option (Int32 × MS) := X8_tape_0 S l1 l2 l3
set_option maxHeartbeats 4000000 in
theorem sX8_tape_30 {l : Launch} {g : gE} {d MC MS' k n : Nat} {A D : List va_E} (hA : A.length = 26) (hd : 2 ≤ d) (hk : k ≤ MC) (hn : n ≤ MS') {r : Int32 × MS} {S : MS} (hf : X8_tape_30 S = some r) : AW l g d RX8 cX8_tape 5 "tape" MC MS' (Qr (some (.int r.1)) (mh A r.2 D)) k n 30 [none, none, none, none, none] [] (mh A S D) := by
  unfold X8_tape_30 at hf
  refine a_bipush (pc := 30) (-2) dX8_tape_30 rfl ?_
  have hf := Option.some.inj hf
  subst hf
  exact a_ireturn (pc := 32) dX8_tape_32 hk hn ⟨rfl, rfl⟩
set_option maxHeartbeats 4000000 in
theorem sX8_tape_69 {l : Launch} {g : gE} {d MC MS' k n : Nat} {A D : List va_E} (hA : A.length = 26) (hd : 2 ≤ d) (hk : k ≤ MC) (hn : n ≤ MS') {r : Int32 × MS} : ∀ (fn : Nat) (S : MS) (l1 : Int32) (l4 : Int32), X8_tape_69 fn S l1 l4 = some r → AW l g d RX8 cX8_tape 5 "tape" MC MS' (Qr (some (.int r.1)) (mh A r.2 D)) k n 69 [some (.ref 26), some (.int l1), none, none, some (.int l4)] [] (mh A S D) := by
  intro fn
  induction fn with
  | zero =>
    intro S l1 l4 hf
    rw [X8_tape_69] at hf
    cases hf
  | succ fn ih =>
    intro S l1 l4 hf
    rw [X8_tape_69] at hf
    refine a_iload (pc := 69) dX8_tape_69 rfl ?_
    refine a_bipush (pc := 71) 60 dX8_tape_71 rfl ?_
    refine a_icmp_ge (pc := 73) 95 dX8_tape_73 (by decide) (fun c2 => ?_) (fun c2 => ?_)
    · have hf := (if_pos c2).symm.trans hf
      refine a_iconst (pc := 95) 1 dX8_tape_95 rfl ?_
      have hf := Option.some.inj hf
      subst hf
      exact a_ireturn (pc := 96) dX8_tape_96 hk hn ⟨rfl, rfl⟩
    · have hf := (if_neg c2).symm.trans hf
      refine a_aload_n (pc := 76) dX8_tape_76 rfl (isRv_r _) ?_
      refine m_getA (pc := 77) 52 hA dX8_tape_77 fl_X8_136 (Or.inr (Or.inr kj_41)) rfl ?_
      refine a_bipush (pc := 80) 60 dX8_tape_80 rfl ?_
      refine a_iload_n (pc := 82) dX8_tape_82 rfl ?_
      refine a_imul (pc := 83) dX8_tape_83 ?_
      refine a_iload (pc := 84) dX8_tape_84 rfl ?_
      refine a_iadd (pc := 86) dX8_tape_86 ?_
      refine a_lconst (pc := 87) 0 dX8_tape_87 rfl ?_
      obtain ⟨S1, hS1, hf⟩ := Option.bind_eq_some_iff.mp hf
      refine m_last (pc := 88) 52 hA dX8_tape_88 kj_41 rfl hS1 ?_
      refine a_iinc (pc := 89) (ls' := [some (.ref 26), some (.int l1), none, none, some (.int (l4 + 1))]) (l4 + 1) dX8_tape_89 rfl rfl (by decide) rfl ?_
      refine a_goto (pc := 92) 69 dX8_tape_92 (by decide) ?_
      exact ih S1 l1 (l4 + 1) hf
set_option maxHeartbeats 4000000 in
theorem sX8_tape_65 {l : Launch} {g : gE} {d MC MS' k n : Nat} {A D : List va_E} (hA : A.length = 26) (hd : 2 ≤ d) (hk : k ≤ MC) (hn : n ≤ MS') {r : Int32 × MS} {S : MS} {s1 : Int32} {s2 : Int32} {l1 : Int32} (hf : X8_tape_65 S s1 s2 l1 = some r) : AW l g d RX8 cX8_tape 5 "tape" MC MS' (Qr (some (.int r.1)) (mh A r.2 D)) k n 65 [some (.ref 26), some (.int l1), none, none, none] [.int s2, .int s1, .ref 51] (mh A S D) := by
  unfold X8_tape_65 at hf
  obtain ⟨S1, hS1, hf⟩ := Option.bind_eq_some_iff.mp hf
  refine m_ast (pc := 65) 51 hA dX8_tape_65 ki_40 rfl hS1 ?_
  refine a_iconst (pc := 66) 0 dX8_tape_66 rfl ?_
  refine a_istore (pc := 67) (ls' := [some (.ref 26), some (.int l1), none, none, some (.int 0)]) dX8_tape_67 (by decide) rfl ?_
  exact sX8_tape_69 hA hd hk hn FU S1 l1 0 hf
set_option maxHeartbeats 4000000 in
theorem sX8_tape_44 {l : Launch} {g : gE} {d MC MS' k n : Nat} {A D : List va_E} (hA : A.length = 26) (hd : 2 ≤ d) (hk : k ≤ MC) (hn : n ≤ MS') {r : Int32 × MS} {S : MS} {l1 : Int32} {l2 : Int32} {l3 : Int32} (hf : X8_tape_44 S l1 l2 l3 = some r) : AW l g d RX8 cX8_tape 5 "tape" MC MS' (Qr (some (.int r.1)) (mh A r.2 D)) k n 44 [some (.ref 26), some (.int l1), some (.int l2), some (.int l3), none] [] (mh A S D) := by
  unfold X8_tape_44 at hf
  refine a_aload_n (pc := 44) dX8_tape_44 rfl (isRv_r _) ?_
  refine m_getA (pc := 45) 50 hA dX8_tape_45 fl_X8_130 (Or.inl ki_39) rfl ?_
  refine a_iload_n (pc := 48) dX8_tape_48 rfl ?_
  refine a_iload_n (pc := 49) dX8_tape_49 rfl ?_
  obtain ⟨S1, hS1, hf⟩ := Option.bind_eq_some_iff.mp hf
  refine m_ast (pc := 50) 50 hA dX8_tape_50 ki_39 rfl hS1 ?_
  refine a_aload_n (pc := 51) dX8_tape_51 rfl (isRv_r _) ?_
  refine m_getA (pc := 52) 51 hA dX8_tape_52 fl_X8_133 (Or.inl ki_40) rfl ?_
  refine a_iload_n (pc := 55) dX8_tape_55 rfl ?_
  refine a_iload_n (pc := 56) dX8_tape_56 rfl ?_
  refine a_if_ge (pc := 57) 64 dX8_tape_57 (by decide) (fun c2 => ?_) (fun c2 => ?_)
  · have hf := (if_pos c2).symm.trans hf
    refine a_iload_n (pc := 64) dX8_tape_64 rfl ?_
    refine a_sub (sub_k (sub_k (sub_d (sub_d (sub_k sub_n))))) ?_
    exact sX8_tape_65 hA hd hk hn hf
  · have hf := (if_neg c2).symm.trans hf
    refine a_iconst (pc := 60) 0 dX8_tape_60 rfl ?_
    refine a_goto (pc := 61) 65 dX8_tape_61 (by decide) ?_
    refine a_sub (sub_k (sub_k (sub_d (sub_d (sub_k sub_n))))) ?_
    exact sX8_tape_65 hA hd hk hn hf
set_option maxHeartbeats 4000000 in
theorem sX8_tape_33 {l : Launch} {g : gE} {d MC MS' k n : Nat} {A D : List va_E} (hA : A.length = 26) (hd : 2 ≤ d) (hk : k ≤ MC) (hn : n ≤ MS') {r : Int32 × MS} {S : MS} {l1 : Int32} {l2 : Int32} {l3 : Int32} (hf : X8_tape_33 S l1 l2 l3 = some r) : AW l g d RX8 cX8_tape 5 "tape" MC MS' (Qr (some (.int r.1)) (mh A r.2 D)) k n 33 [some (.ref 26), some (.int l1), some (.int l2), some (.int l3), none] [] (mh A S D) := by
  unfold X8_tape_33 at hf
  refine a_iload_n (pc := 33) dX8_tape_33 rfl ?_
  refine a_if_lt (pc := 34) 44 dX8_tape_34 (by decide) (fun c2 => ?_) (fun c2 => ?_)
  · have hf := (if_pos c2).symm.trans hf
    exact sX8_tape_44 hA hd hk hn hf
  · have hf := (if_neg c2).symm.trans hf
    refine a_iload_n (pc := 37) dX8_tape_37 rfl ?_
    refine a_if_ge (pc := 38) 44 dX8_tape_38 (by decide) (fun c1 => ?_) (fun c1 => ?_)
    · have hf := (if_pos c1).symm.trans hf
      exact sX8_tape_44 hA hd hk hn hf
    · have hf := (if_neg c1).symm.trans hf
      refine a_bipush (pc := 41) (-14) dX8_tape_41 rfl ?_
      have hf := Option.some.inj hf
      subst hf
      exact a_ireturn (pc := 43) dX8_tape_43 hk hn ⟨rfl, rfl⟩
set_option maxHeartbeats 4000000 in
theorem sX8_tape_0 {l : Launch} {g : gE} {d MC MS' k n : Nat} {A D : List va_E} (hA : A.length = 26) (hd : 2 ≤ d) (hk : k ≤ MC) (hn : n ≤ MS') {r : Int32 × MS} {S : MS} {l1 : Int32} {l2 : Int32} {l3 : Int32} (hf : X8_tape_0 S l1 l2 l3 = some r) : AW l g d RX8 cX8_tape 5 "tape" MC MS' (Qr (some (.int r.1)) (mh A r.2 D)) k n 0 [some (.ref 26), some (.int l1), some (.int l2), some (.int l3), none] [] (mh A S D) := by
  unfold X8_tape_0 at hf
  refine a_aload_n (pc := 0) dX8_tape_0 rfl (isRv_r _) ?_
  refine a_iload_n (pc := 1) dX8_tape_1 rfl ?_
  obtain ⟨r1, hr1, hf⟩ := Option.bind_eq_some_iff.mp hf
  refine m_call (pc := 2) (.int (r1.1)) [.int l1] [] hA dX8_tape_2 ml_X8_311 mv_X8_isTape rfl rfl (by omega) (mX8_isTape hA (by omega) hr1) rfl (Nat.le_of_ble_eq_true rfl) hk hn ?_
  refine a_if_ne (pc := 5) 10 dX8_tape_5 (by decide) (fun c6 => ?_) (fun c6 => ?_)
  · have hf := (if_neg c6).symm.trans hf
    refine a_aload_n (pc := 10) dX8_tape_10 rfl (isRv_r _) ?_
    refine a_iload_n (pc := 11) dX8_tape_11 rfl ?_
    refine a_iconst (pc := 12) (-1) dX8_tape_12 rfl ?_
    refine a_iconst (pc := 13) 4 dX8_tape_13 rfl ?_
    obtain ⟨r2, hr2, hf⟩ := Option.bind_eq_some_iff.mp hf
    refine m_call (pc := 14) (.int (r2.1)) [.int l2, .int (-1), .int 4] [] hA dX8_tape_14 ml_X8_142 mv_X8_in rfl rfl (by omega) (mX8_in hA (by omega) hr2) rfl (Nat.le_of_ble_eq_true rfl) hk hn ?_
    refine a_if_eq (pc := 17) 30 dX8_tape_17 (by decide) (fun c5 => ?_) (fun c5 => ?_)
    · have hf := (if_pos c5).symm.trans hf
      refine a_sub (sub_d (sub_d (sub_d (sub_d (sub_k sub_n))))) ?_
      exact sX8_tape_30 hA hd hk hn hf
    · have hf := (if_neg c5).symm.trans hf
      refine a_iload_n (pc := 20) dX8_tape_20 rfl ?_
      refine a_if_lt (pc := 21) 33 dX8_tape_21 (by decide) (fun c4 => ?_) (fun c4 => ?_)
      · have hf := (if_pos c4).symm.trans hf
        exact sX8_tape_33 hA hd hk hn hf
      · have hf := (if_neg c4).symm.trans hf
        refine a_iload_n (pc := 24) dX8_tape_24 rfl ?_
        refine a_bipush (pc := 25) 60 dX8_tape_25 rfl ?_
        refine a_icmp_le (pc := 27) 33 dX8_tape_27 (by decide) (fun c3 => ?_) (fun c3 => ?_)
        · have hf := (if_pos c3).symm.trans hf
          exact sX8_tape_33 hA hd hk hn hf
        · have hf := (if_neg c3).symm.trans hf
          refine a_sub (sub_d (sub_d (sub_d (sub_d (sub_k sub_n))))) ?_
          exact sX8_tape_30 hA hd hk hn hf
  · have hf := (if_pos c6).symm.trans hf
    refine a_iconst (pc := 8) (-1) dX8_tape_8 rfl ?_
    have hf := Option.some.inj hf
    subst hf
    exact a_ireturn (pc := 9) dX8_tape_9 hk hn ⟨rfl, rfl⟩
set_option maxHeartbeats 4000000 in
theorem mX8_tape {l : Launch} {g : gE} {d : Nat} {A D : List va_E} (hA : A.length = 26) (hd : 2 ≤ d) {r : Int32 × MS} {S : MS} {l1 : Int32} {l2 : Int32} {l3 : Int32} (hf : X8_tape S l1 l2 l3 = some r) : AM l g d yX8_tape cX8_tape 5 (some .int) 0 0 [.ref 26, .int l1, .int l2, .int l3] (mh A S D) (Qr (some (.int r.1)) (mh A r.2 D)) := by
  refine AM.of rfl (by exact Nat.le_of_ble_eq_true rfl) (fun v h' q => by obtain ⟨rfl, -⟩ := q; exact ⟨_, rfl, rfl⟩) (fun ls e => ?_)
  have e2 : aBeg [.ref 26, .int l1, .int l2, .int l3] 5 = [some (.ref 26), some (.int l1), some (.int l2), some (.int l3), none] := rfl
  rw [e2] at e
  subst e
  refine a_sub (sub_k (sub_k (sub_k (sub_k (sub_k (sub_n)))))) ?_
  exact sX8_tape_0 hA hd (Nat.le_refl _) (Nat.le_refl _) (hf)
-- PencilStrikesModel.narrow(IJ)J
def X8_narrow_54 (S : MS) (s0 : Int64) : Option (Int64 × MS) :=
  some (s0, S)
def X8_narrow_0 (S : MS) (l1 : Int32) (l2 : Int64) : Option (Int64 × MS) :=
  if l1 = 0 then
    X8_narrow_54 S ((((((l2).toInt32)).toInt8.toInt32)).toInt64)
  else
    if l1 = 1 then
      X8_narrow_54 S ((((((l2).toInt32)).toInt16.toInt32)).toInt64)
    else
      if l1 = 2 then
        X8_narrow_54 S ((((l2).toInt32)).toInt64)
      else
        if l1 = 4 then
          if (lg_cmp l2 (0 : Int64)) = 0 then
            X8_narrow_54 S (0 : Int64)
          else
            X8_narrow_54 S (1 : Int64)
        else
          X8_narrow_54 S l2
def X8_narrow (S : MS) (l1 : Int32) (l2 : Int64) : Option (Int64 × MS) := X8_narrow_0 S l1 l2
set_option maxHeartbeats 4000000 in
theorem sX8_narrow_54 {l : Launch} {g : gE} {d MC MS' k n : Nat} {A D : List va_E} (hA : A.length = 26) (hd : 0 ≤ d) (hk : k ≤ MC) (hn : n ≤ MS') {r : Int64 × MS} {S : MS} {s0 : Int64} (hf : X8_narrow_54 S s0 = some r) : AW l g d RX8 cX8_narrow 4 "narrow" MC MS' (Qr (some (.long r.1)) (mh A r.2 D)) k n 54 [none, none, none, none] [.long s0] (mh A S D) := by
  unfold X8_narrow_54 at hf
  have hf := Option.some.inj hf
  subst hf
  exact a_lreturn (pc := 54) dX8_narrow_54 hk hn ⟨rfl, rfl⟩
set_option maxHeartbeats 4000000 in
theorem sX8_narrow_0 {l : Launch} {g : gE} {d MC MS' k n : Nat} {A D : List va_E} (hA : A.length = 26) (hd : 0 ≤ d) (hk : k ≤ MC) (hn : n ≤ MS') {r : Int64 × MS} {S : MS} {l1 : Int32} {l2 : Int64} (hf : X8_narrow_0 S l1 l2 = some r) : AW l g d RX8 cX8_narrow 4 "narrow" MC MS' (Qr (some (.long r.1)) (mh A r.2 D)) k n 0 [none, some (.int l1), some (.long l2), none] [] (mh A S D) := by
  unfold X8_narrow_0 at hf
  refine a_iload_n (pc := 0) dX8_narrow_0 rfl ?_
  refine a_if_ne (pc := 1) 11 dX8_narrow_1 (by decide) (fun c5 => ?_) (fun c5 => ?_)
  · have hf := (if_neg c5).symm.trans hf
    refine a_iload_n (pc := 11) dX8_narrow_11 rfl ?_
    refine a_iconst (pc := 12) 1 dX8_narrow_12 rfl ?_
    refine a_icmp_ne (pc := 13) 23 dX8_narrow_13 (by decide) (fun c4 => ?_) (fun c4 => ?_)
    · have hf := (if_neg c4).symm.trans hf
      refine a_iload_n (pc := 23) dX8_narrow_23 rfl ?_
      refine a_iconst (pc := 24) 2 dX8_narrow_24 rfl ?_
      refine a_icmp_ne (pc := 25) 34 dX8_narrow_25 (by decide) (fun c3 => ?_) (fun c3 => ?_)
      · have hf := (if_neg c3).symm.trans hf
        refine a_iload_n (pc := 34) dX8_narrow_34 rfl ?_
        refine a_iconst (pc := 35) 4 dX8_narrow_35 rfl ?_
        refine a_icmp_ne (pc := 36) 53 dX8_narrow_36 (by decide) (fun c2 => ?_) (fun c2 => ?_)
        · have hf := (if_neg c2).symm.trans hf
          refine a_lload_n (pc := 53) dX8_narrow_53 rfl ?_
          refine a_sub (sub_k (sub_d (sub_d (sub_k sub_n)))) ?_
          exact sX8_narrow_54 hA hd hk hn hf
        · have hf := (if_pos c2).symm.trans hf
          refine a_lload_n (pc := 39) dX8_narrow_39 rfl ?_
          refine a_lconst (pc := 40) 0 dX8_narrow_40 rfl ?_
          refine a_lcmp (pc := 41) dX8_narrow_41 ?_
          refine a_if_eq (pc := 42) 49 dX8_narrow_42 (by decide) (fun c1 => ?_) (fun c1 => ?_)
          · have hf := (if_pos c1).symm.trans hf
            refine a_lconst (pc := 49) 0 dX8_narrow_49 rfl ?_
            refine a_goto (pc := 50) 54 dX8_narrow_50 (by decide) ?_
            refine a_sub (sub_k (sub_d (sub_d (sub_k sub_n)))) ?_
            exact sX8_narrow_54 hA hd hk hn hf
          · have hf := (if_neg c1).symm.trans hf
            refine a_lconst (pc := 45) 1 dX8_narrow_45 rfl ?_
            refine a_goto (pc := 46) 54 dX8_narrow_46 (by decide) ?_
            refine a_sub (sub_k (sub_d (sub_d (sub_k sub_n)))) ?_
            exact sX8_narrow_54 hA hd hk hn hf
      · have hf := (if_pos c3).symm.trans hf
        refine a_lload_n (pc := 28) dX8_narrow_28 rfl ?_
        refine a_l2i (pc := 29) dX8_narrow_29 ?_
        refine a_i2l (pc := 30) dX8_narrow_30 ?_
        refine a_goto (pc := 31) 54 dX8_narrow_31 (by decide) ?_
        refine a_sub (sub_k (sub_d (sub_d (sub_k sub_n)))) ?_
        exact sX8_narrow_54 hA hd hk hn hf
    · have hf := (if_pos c4).symm.trans hf
      refine a_lload_n (pc := 16) dX8_narrow_16 rfl ?_
      refine a_l2i (pc := 17) dX8_narrow_17 ?_
      refine a_i2s (pc := 18) dX8_narrow_18 ?_
      refine a_i2l (pc := 19) dX8_narrow_19 ?_
      refine a_goto (pc := 20) 54 dX8_narrow_20 (by decide) ?_
      refine a_sub (sub_k (sub_d (sub_d (sub_k sub_n)))) ?_
      exact sX8_narrow_54 hA hd hk hn hf
  · have hf := (if_pos c5).symm.trans hf
    refine a_lload_n (pc := 4) dX8_narrow_4 rfl ?_
    refine a_l2i (pc := 5) dX8_narrow_5 ?_
    refine a_i2b (pc := 6) dX8_narrow_6 ?_
    refine a_i2l (pc := 7) dX8_narrow_7 ?_
    refine a_goto (pc := 8) 54 dX8_narrow_8 (by decide) ?_
    refine a_sub (sub_k (sub_d (sub_d (sub_k sub_n)))) ?_
    exact sX8_narrow_54 hA hd hk hn hf
set_option maxHeartbeats 4000000 in
theorem mX8_narrow {l : Launch} {g : gE} {d : Nat} {A D : List va_E} (hA : A.length = 26) (hd : 0 ≤ d) {r : Int64 × MS} {S : MS} {l1 : Int32} {l2 : Int64} (hf : X8_narrow S l1 l2 = some r) : AM l g d yX8_narrow cX8_narrow 4 (some .long) 0 0 [.ref 26, .int l1, .long l2] (mh A S D) (Qr (some (.long r.1)) (mh A r.2 D)) := by
  refine AM.of rfl (by exact Nat.le_of_ble_eq_true rfl) (fun v h' q => by obtain ⟨rfl, -⟩ := q; rfl) (fun ls e => ?_)
  have e2 : aBeg [.ref 26, .int l1, .long l2] 4 = [some (.ref 26), some (.int l1), some (.long l2), none] := rfl
  rw [e2] at e
  subst e
  refine a_sub (sub_d (sub_k (sub_k (sub_k (sub_n))))) ?_
  exact sX8_narrow_0 hA hd (Nat.le_refl _) (Nat.le_refl _) (hf)
-- PencilStrikesModel.item(IIJ)I
def X8_item_0 (S : MS) (l1 : Int32) (l2 : Int32) (l3 : Int64) : Option (Int32 × MS) :=
  (X8_isTape S l1).bind fun r1 =>
  if r1.1 = 0 then
    some ((-1), r1.2)
  else
    (mA r1.2 39 l1).bind fun x2 =>
    if 0 ≤ x2 then
      (mA r1.2 40 l1).bind fun x3 =>
      (X8_in r1.2 l2 0 (x3 - 1)).bind fun r4 =>
      if r4.1 = 0 then
        some ((-13), r4.2)
      else
        (mA r4.2 39 l1).bind fun x5 =>
        (X8_narrow r4.2 x5 l3).bind fun r6 =>
        (mLs r6.2 41 ((60 * l1) + l2) r6.1).bind fun S7 =>
        some (1, S7)
    else
      some ((-11), r1.2)
def X8_item (S : MS) (l1 : Int32) (l2 : Int32) (l3 : Int64) : Option (Int32 × MS) := X8_item_0 S l1 l2 l3
set_option maxHeartbeats 4000000 in
theorem sX8_item_0 {l : Launch} {g : gE} {d MC MS' k n : Nat} {A D : List va_E} (hA : A.length = 26) (hd : 2 ≤ d) (hk : k ≤ MC) (hn : n ≤ MS') {r : Int32 × MS} {S : MS} {l1 : Int32} {l2 : Int32} {l3 : Int64} (hf : X8_item_0 S l1 l2 l3 = some r) : AW l g d RX8 cX8_item 5 "item" MC MS' (Qr (some (.int r.1)) (mh A r.2 D)) k n 0 [some (.ref 26), some (.int l1), some (.int l2), some (.long l3), none] [] (mh A S D) := by
  unfold X8_item_0 at hf
  refine a_aload_n (pc := 0) dX8_item_0 rfl (isRv_r _) ?_
  refine a_iload_n (pc := 1) dX8_item_1 rfl ?_
  obtain ⟨r1, hr1, hf⟩ := Option.bind_eq_some_iff.mp hf
  refine m_call (pc := 2) (.int (r1.1)) [.int l1] [] hA dX8_item_2 ml_X8_311 mv_X8_isTape rfl rfl (by omega) (mX8_isTape hA (by omega) hr1) rfl (Nat.le_of_ble_eq_true rfl) hk hn ?_
  refine a_if_ne (pc := 5) 10 dX8_item_5 (by decide) (fun c10 => ?_) (fun c10 => ?_)
  · have hf := (if_neg c10).symm.trans hf
    refine a_aload_n (pc := 10) dX8_item_10 rfl (isRv_r _) ?_
    refine m_getA (pc := 11) 50 hA dX8_item_11 fl_X8_130 (Or.inl ki_39) rfl ?_
    refine a_iload_n (pc := 14) dX8_item_14 rfl ?_
    obtain ⟨x2, hx2, hf⟩ := Option.bind_eq_some_iff.mp hf
    refine m_ald (pc := 15) 50 hA dX8_item_15 ki_39 rfl hx2 ?_
    refine a_if_ge (pc := 16) 22 dX8_item_16 (by decide) (fun c9 => ?_) (fun c9 => ?_)
    · have hf := (if_pos c9).symm.trans hf
      refine a_aload_n (pc := 22) dX8_item_22 rfl (isRv_r _) ?_
      refine a_iload_n (pc := 23) dX8_item_23 rfl ?_
      refine a_iconst (pc := 24) 0 dX8_item_24 rfl ?_
      refine a_aload_n (pc := 25) dX8_item_25 rfl (isRv_r _) ?_
      refine m_getA (pc := 26) 51 hA dX8_item_26 fl_X8_133 (Or.inl ki_40) rfl ?_
      refine a_iload_n (pc := 29) dX8_item_29 rfl ?_
      obtain ⟨x3, hx3, hf⟩ := Option.bind_eq_some_iff.mp hf
      refine m_ald (pc := 30) 51 hA dX8_item_30 ki_40 rfl hx3 ?_
      refine a_iconst (pc := 31) 1 dX8_item_31 rfl ?_
      refine a_isub (pc := 32) dX8_item_32 ?_
      obtain ⟨r4, hr4, hf⟩ := Option.bind_eq_some_iff.mp hf
      refine m_call (pc := 33) (.int (r4.1)) [.int l2, .int 0, .int (x3 - 1)] [] hA dX8_item_33 ml_X8_142 mv_X8_in rfl rfl (by omega) (mX8_in hA (by omega) hr4) rfl (Nat.le_of_ble_eq_true rfl) hk hn ?_
      refine a_if_ne (pc := 36) 42 dX8_item_36 (by decide) (fun c8 => ?_) (fun c8 => ?_)
      · have hf := (if_neg c8).symm.trans hf
        refine a_aload_n (pc := 42) dX8_item_42 rfl (isRv_r _) ?_
        refine m_getA (pc := 43) 52 hA dX8_item_43 fl_X8_136 (Or.inr (Or.inr kj_41)) rfl ?_
        refine a_bipush (pc := 46) 60 dX8_item_46 rfl ?_
        refine a_iload_n (pc := 48) dX8_item_48 rfl ?_
        refine a_imul (pc := 49) dX8_item_49 ?_
        refine a_iload_n (pc := 50) dX8_item_50 rfl ?_
        refine a_iadd (pc := 51) dX8_item_51 ?_
        refine a_aload_n (pc := 52) dX8_item_52 rfl (isRv_r _) ?_
        refine a_aload_n (pc := 53) dX8_item_53 rfl (isRv_r _) ?_
        refine m_getA (pc := 54) 50 hA dX8_item_54 fl_X8_130 (Or.inl ki_39) rfl ?_
        refine a_iload_n (pc := 57) dX8_item_57 rfl ?_
        obtain ⟨x5, hx5, hf⟩ := Option.bind_eq_some_iff.mp hf
        refine m_ald (pc := 58) 50 hA dX8_item_58 ki_39 rfl hx5 ?_
        refine a_lload_n (pc := 59) dX8_item_59 rfl ?_
        obtain ⟨r6, hr6, hf⟩ := Option.bind_eq_some_iff.mp hf
        refine m_call (pc := 60) (.long (r6.1)) [.int x5, .long l3] [.int ((60 * l1) + l2), .ref 52] hA dX8_item_60 ml_X8_344 mv_X8_narrow rfl rfl (by omega) (mX8_narrow hA (by omega) hr6) rfl (Nat.le_of_ble_eq_true rfl) hk hn ?_
        obtain ⟨S7, hS7, hf⟩ := Option.bind_eq_some_iff.mp hf
        refine m_last (pc := 63) 52 hA dX8_item_63 kj_41 rfl hS7 ?_
        refine a_iconst (pc := 64) 1 dX8_item_64 rfl ?_
        have hf := Option.some.inj hf
        subst hf
        exact a_ireturn (pc := 65) dX8_item_65 hk hn ⟨rfl, rfl⟩
      · have hf := (if_pos c8).symm.trans hf
        refine a_bipush (pc := 39) (-13) dX8_item_39 rfl ?_
        have hf := Option.some.inj hf
        subst hf
        exact a_ireturn (pc := 41) dX8_item_41 hk hn ⟨rfl, rfl⟩
    · have hf := (if_neg c9).symm.trans hf
      refine a_bipush (pc := 19) (-11) dX8_item_19 rfl ?_
      have hf := Option.some.inj hf
      subst hf
      exact a_ireturn (pc := 21) dX8_item_21 hk hn ⟨rfl, rfl⟩
  · have hf := (if_pos c10).symm.trans hf
    refine a_iconst (pc := 8) (-1) dX8_item_8 rfl ?_
    have hf := Option.some.inj hf
    subst hf
    exact a_ireturn (pc := 9) dX8_item_9 hk hn ⟨rfl, rfl⟩
set_option maxHeartbeats 4000000 in
theorem mX8_item {l : Launch} {g : gE} {d : Nat} {A D : List va_E} (hA : A.length = 26) (hd : 2 ≤ d) {r : Int32 × MS} {S : MS} {l1 : Int32} {l2 : Int32} {l3 : Int64} (hf : X8_item S l1 l2 l3 = some r) : AM l g d yX8_item cX8_item 5 (some .int) 0 0 [.ref 26, .int l1, .int l2, .long l3] (mh A S D) (Qr (some (.int r.1)) (mh A r.2 D)) := by
  refine AM.of rfl (by exact Nat.le_of_ble_eq_true rfl) (fun v h' q => by obtain ⟨rfl, -⟩ := q; exact ⟨_, rfl, rfl⟩) (fun ls e => ?_)
  have e2 : aBeg [.ref 26, .int l1, .int l2, .long l3] 5 = [some (.ref 26), some (.int l1), some (.int l2), some (.long l3), none] := rfl
  rw [e2] at e
  subst e
  refine a_sub (sub_k (sub_k (sub_k (sub_k (sub_k (sub_n)))))) ?_
  exact sX8_item_0 hA hd (Nat.le_refl _) (Nat.le_refl _) (hf)
-- PencilStrikesModel.read(II)J
def X8_read_51 (S : MS) (s0 : Int64) : Option (Int64 × MS) :=
  some (s0, S)
def X8_read_34 (S : MS) : Option (Int64 × MS) :=
  X8_read_51 S (-9223372036854775808 : Int64)
def X8_read_0 (S : MS) (l1 : Int32) (l2 : Int32) : Option (Int64 × MS) :=
  (X8_isTape S l1).bind fun r1 =>
  if r1.1 = 0 then
    X8_read_34 r1.2
  else
    (mA r1.2 39 l1).bind fun x2 =>
    if x2 < 0 then
      X8_read_34 r1.2
    else
      (mA r1.2 40 l1).bind fun x3 =>
      (X8_in r1.2 l2 0 (x3 - 1)).bind fun r4 =>
      if r4.1 = 0 then
        X8_read_34 r4.2
      else
        (mL r4.2 41 ((60 * l1) + l2)).bind fun x5 =>
        X8_read_51 r4.2 x5
def X8_read (S : MS) (l1 : Int32) (l2 : Int32) : Option (Int64 × MS) := X8_read_0 S l1 l2
set_option maxHeartbeats 4000000 in
theorem sX8_read_51 {l : Launch} {g : gE} {d MC MS' k n : Nat} {A D : List va_E} (hA : A.length = 26) (hd : 2 ≤ d) (hk : k ≤ MC) (hn : n ≤ MS') {r : Int64 × MS} {S : MS} {s0 : Int64} (hf : X8_read_51 S s0 = some r) : AW l g d RX8 cX8_read 3 "read" MC MS' (Qr (some (.long r.1)) (mh A r.2 D)) k n 51 [none, none, none] [.long s0] (mh A S D) := by
  unfold X8_read_51 at hf
  have hf := Option.some.inj hf
  subst hf
  exact a_lreturn (pc := 51) dX8_read_51 hk hn ⟨rfl, rfl⟩
set_option maxHeartbeats 4000000 in
theorem sX8_read_34 {l : Launch} {g : gE} {d MC MS' k n : Nat} {A D : List va_E} (hA : A.length = 26) (hd : 2 ≤ d) (hk : k ≤ MC) (hn : n ≤ MS') {r : Int64 × MS} {S : MS} (hf : X8_read_34 S = some r) : AW l g d RX8 cX8_read 3 "read" MC MS' (Qr (some (.long r.1)) (mh A r.2 D)) k n 34 [none, none, none] [] (mh A S D) := by
  unfold X8_read_34 at hf
  refine a_ldc2 (pc := 34) (-9223372036854775808 : Int64) dX8_read_34 kc_X8_233 ?_
  refine a_goto (pc := 37) 51 dX8_read_37 (by decide) ?_
  exact sX8_read_51 hA hd hk hn hf
set_option maxHeartbeats 4000000 in
theorem sX8_read_0 {l : Launch} {g : gE} {d MC MS' k n : Nat} {A D : List va_E} (hA : A.length = 26) (hd : 2 ≤ d) (hk : k ≤ MC) (hn : n ≤ MS') {r : Int64 × MS} {S : MS} {l1 : Int32} {l2 : Int32} (hf : X8_read_0 S l1 l2 = some r) : AW l g d RX8 cX8_read 3 "read" MC MS' (Qr (some (.long r.1)) (mh A r.2 D)) k n 0 [some (.ref 26), some (.int l1), some (.int l2)] [] (mh A S D) := by
  unfold X8_read_0 at hf
  refine a_aload_n (pc := 0) dX8_read_0 rfl (isRv_r _) ?_
  refine a_iload_n (pc := 1) dX8_read_1 rfl ?_
  obtain ⟨r1, hr1, hf⟩ := Option.bind_eq_some_iff.mp hf
  refine m_call (pc := 2) (.int (r1.1)) [.int l1] [] hA dX8_read_2 ml_X8_311 mv_X8_isTape rfl rfl (by omega) (mX8_isTape hA (by omega) hr1) rfl (Nat.le_of_ble_eq_true rfl) hk hn ?_
  refine a_if_eq (pc := 5) 34 dX8_read_5 (by decide) (fun c8 => ?_) (fun c8 => ?_)
  · have hf := (if_pos c8).symm.trans hf
    refine a_sub (sub_d (sub_d (sub_d sub_n))) ?_
    exact sX8_read_34 hA hd hk hn hf
  · have hf := (if_neg c8).symm.trans hf
    refine a_aload_n (pc := 8) dX8_read_8 rfl (isRv_r _) ?_
    refine m_getA (pc := 9) 50 hA dX8_read_9 fl_X8_130 (Or.inl ki_39) rfl ?_
    refine a_iload_n (pc := 12) dX8_read_12 rfl ?_
    obtain ⟨x2, hx2, hf⟩ := Option.bind_eq_some_iff.mp hf
    refine m_ald (pc := 13) 50 hA dX8_read_13 ki_39 rfl hx2 ?_
    refine a_if_lt (pc := 14) 34 dX8_read_14 (by decide) (fun c7 => ?_) (fun c7 => ?_)
    · have hf := (if_pos c7).symm.trans hf
      refine a_sub (sub_d (sub_d (sub_d sub_n))) ?_
      exact sX8_read_34 hA hd hk hn hf
    · have hf := (if_neg c7).symm.trans hf
      refine a_aload_n (pc := 17) dX8_read_17 rfl (isRv_r _) ?_
      refine a_iload_n (pc := 18) dX8_read_18 rfl ?_
      refine a_iconst (pc := 19) 0 dX8_read_19 rfl ?_
      refine a_aload_n (pc := 20) dX8_read_20 rfl (isRv_r _) ?_
      refine m_getA (pc := 21) 51 hA dX8_read_21 fl_X8_133 (Or.inl ki_40) rfl ?_
      refine a_iload_n (pc := 24) dX8_read_24 rfl ?_
      obtain ⟨x3, hx3, hf⟩ := Option.bind_eq_some_iff.mp hf
      refine m_ald (pc := 25) 51 hA dX8_read_25 ki_40 rfl hx3 ?_
      refine a_iconst (pc := 26) 1 dX8_read_26 rfl ?_
      refine a_isub (pc := 27) dX8_read_27 ?_
      obtain ⟨r4, hr4, hf⟩ := Option.bind_eq_some_iff.mp hf
      refine m_call (pc := 28) (.int (r4.1)) [.int l2, .int 0, .int (x3 - 1)] [] hA dX8_read_28 ml_X8_142 mv_X8_in rfl rfl (by omega) (mX8_in hA (by omega) hr4) rfl (Nat.le_of_ble_eq_true rfl) hk hn ?_
      refine a_if_ne (pc := 31) 40 dX8_read_31 (by decide) (fun c6 => ?_) (fun c6 => ?_)
      · have hf := (if_neg c6).symm.trans hf
        refine a_aload_n (pc := 40) dX8_read_40 rfl (isRv_r _) ?_
        refine m_getA (pc := 41) 52 hA dX8_read_41 fl_X8_136 (Or.inr (Or.inr kj_41)) rfl ?_
        refine a_bipush (pc := 44) 60 dX8_read_44 rfl ?_
        refine a_iload_n (pc := 46) dX8_read_46 rfl ?_
        refine a_imul (pc := 47) dX8_read_47 ?_
        refine a_iload_n (pc := 48) dX8_read_48 rfl ?_
        refine a_iadd (pc := 49) dX8_read_49 ?_
        obtain ⟨x5, hx5, hf⟩ := Option.bind_eq_some_iff.mp hf
        refine m_lald (pc := 50) 52 hA dX8_read_50 kj_41 rfl hx5 ?_
        refine a_sub (sub_d (sub_d (sub_d sub_n))) ?_
        exact sX8_read_51 hA hd hk hn hf
      · have hf := (if_pos c6).symm.trans hf
        refine a_sub (sub_d (sub_d (sub_d sub_n))) ?_
        exact sX8_read_34 hA hd hk hn hf
set_option maxHeartbeats 4000000 in
theorem mX8_read {l : Launch} {g : gE} {d : Nat} {A D : List va_E} (hA : A.length = 26) (hd : 2 ≤ d) {r : Int64 × MS} {S : MS} {l1 : Int32} {l2 : Int32} (hf : X8_read S l1 l2 = some r) : AM l g d yX8_read cX8_read 3 (some .long) 0 0 [.ref 26, .int l1, .int l2] (mh A S D) (Qr (some (.long r.1)) (mh A r.2 D)) := by
  refine AM.of rfl (by exact Nat.le_of_ble_eq_true rfl) (fun v h' q => by obtain ⟨rfl, -⟩ := q; rfl) (fun ls e => ?_)
  have e2 : aBeg [.ref 26, .int l1, .int l2] 3 = [some (.ref 26), some (.int l1), some (.int l2)] := rfl
  rw [e2] at e
  subst e
  refine a_sub (sub_k (sub_k (sub_k (sub_n)))) ?_
  exact sX8_read_0 hA hd (Nat.le_refl _) (Nat.le_refl _) (hf)
-- PencilStrikesModel.shift(IIIII)I
def X8_shift_16 (S : MS) : Option (Int32 × MS) :=
  some ((-1), S)
def X8_shift_36 (S : MS) : Option (Int32 × MS) :=
  some ((-11), S)
def X8_shift_98 (S : MS) : Option (Int32 × MS) :=
  some ((-13), S)
def X8_shift_141 : Nat → MS → Int32 → Int32 → Int32 → Int32 → Option (Int32 × MS)
  | 0, _, _, _, _, _ => none
  | fn + 1, S, l3, l4, l5, l6 =>
    if l5 ≤ l6 then
      some (l5, S)
    else
      (mL S 42 l6).bind fun x1 =>
      (mLs S 41 (((60 * l3) + l4) + l6) x1).bind fun S2 =>
      X8_shift_141 fn S2 l3 l4 l5 (l6 + 1)
def X8_shift_104 : Nat → MS → Int32 → Int32 → Int32 → Int32 → Int32 → Int32 → Option (Int32 × MS)
  | 0, _, _, _, _, _, _, _ => none
  | fn + 1, S, l1, l2, l3, l4, l5, l6 =>
    if l5 ≤ l6 then
      X8_shift_141 FU S l3 l4 l5 0
    else
      (mL S 41 (((60 * l1) + l2) + l6)).bind fun x1 =>
      (mLs S 42 l6 x1).bind fun S2 =>
      X8_shift_104 fn S2 l1 l2 l3 l4 l5 (l6 + 1)
def X8_shift_0 (S : MS) (l1 : Int32) (l2 : Int32) (l3 : Int32) (l4 : Int32) (l5 : Int32) : Option (Int32 × MS) :=
  (X8_isTape S l1).bind fun r1 =>
  if r1.1 = 0 then
    X8_shift_16 r1.2
  else
    (X8_isTape r1.2 l3).bind fun r2 =>
    if r2.1 = 0 then
      X8_shift_16 r2.2
    else
      (mA r2.2 39 l1).bind fun x3 =>
      if x3 < 0 then
        X8_shift_36 r2.2
      else
        (mA r2.2 39 l3).bind fun x4 =>
        if 0 ≤ x4 then
          (mA r2.2 39 l1).bind fun x5 =>
          (mA r2.2 39 l3).bind fun x6 =>
          if x5 = x6 then
            if l5 < 0 then
              X8_shift_98 r2.2
            else
              if l2 < 0 then
                X8_shift_98 r2.2
              else
                if l4 < 0 then
                  X8_shift_98 r2.2
                else
                  (mA r2.2 40 l1).bind fun x7 =>
                  if (x7 - l5) < l2 then
                    X8_shift_98 r2.2
                  else
                    (mA r2.2 40 l3).bind fun x8 =>
                    if l4 ≤ (x8 - l5) then
                      X8_shift_104 FU r2.2 l1 l2 l3 l4 l5 0
                    else
                      X8_shift_98 r2.2
          else
            some ((-12), r2.2)
        else
          X8_shift_36 r2.2
def X8_shift (S : MS) (l1 : Int32) (l2 : Int32) (l3 : Int32) (l4 : Int32) (l5 : Int32) : Option (Int32 × MS) := X8_shift_0 S l1 l2 l3 l4 l5
set_option maxHeartbeats 4000000 in
theorem sX8_shift_16 {l : Launch} {g : gE} {d MC MS' k n : Nat} {A D : List va_E} (hA : A.length = 26) (hd : 2 ≤ d) (hk : k ≤ MC) (hn : n ≤ MS') {r : Int32 × MS} {S : MS} (hf : X8_shift_16 S = some r) : AW l g d RX8 cX8_shift 7 "shift" MC MS' (Qr (some (.int r.1)) (mh A r.2 D)) k n 16 [none, none, none, none, none, none, none] [] (mh A S D) := by
  unfold X8_shift_16 at hf
  refine a_iconst (pc := 16) (-1) dX8_shift_16 rfl ?_
  have hf := Option.some.inj hf
  subst hf
  exact a_ireturn (pc := 17) dX8_shift_17 hk hn ⟨rfl, rfl⟩
set_option maxHeartbeats 4000000 in
theorem sX8_shift_36 {l : Launch} {g : gE} {d MC MS' k n : Nat} {A D : List va_E} (hA : A.length = 26) (hd : 2 ≤ d) (hk : k ≤ MC) (hn : n ≤ MS') {r : Int32 × MS} {S : MS} (hf : X8_shift_36 S = some r) : AW l g d RX8 cX8_shift 7 "shift" MC MS' (Qr (some (.int r.1)) (mh A r.2 D)) k n 36 [none, none, none, none, none, none, none] [] (mh A S D) := by
  unfold X8_shift_36 at hf
  refine a_bipush (pc := 36) (-11) dX8_shift_36 rfl ?_
  have hf := Option.some.inj hf
  subst hf
  exact a_ireturn (pc := 38) dX8_shift_38 hk hn ⟨rfl, rfl⟩
set_option maxHeartbeats 4000000 in
theorem sX8_shift_98 {l : Launch} {g : gE} {d MC MS' k n : Nat} {A D : List va_E} (hA : A.length = 26) (hd : 2 ≤ d) (hk : k ≤ MC) (hn : n ≤ MS') {r : Int32 × MS} {S : MS} (hf : X8_shift_98 S = some r) : AW l g d RX8 cX8_shift 7 "shift" MC MS' (Qr (some (.int r.1)) (mh A r.2 D)) k n 98 [none, none, none, none, none, none, none] [] (mh A S D) := by
  unfold X8_shift_98 at hf
  refine a_bipush (pc := 98) (-13) dX8_shift_98 rfl ?_
  have hf := Option.some.inj hf
  subst hf
  exact a_ireturn (pc := 100) dX8_shift_100 hk hn ⟨rfl, rfl⟩
set_option maxHeartbeats 4000000 in
theorem sX8_shift_141 {l : Launch} {g : gE} {d MC MS' k n : Nat} {A D : List va_E} (hA : A.length = 26) (hd : 2 ≤ d) (hk : k ≤ MC) (hn : n ≤ MS') {r : Int32 × MS} : ∀ (fn : Nat) (S : MS) (l3 : Int32) (l4 : Int32) (l5 : Int32) (l6 : Int32), X8_shift_141 fn S l3 l4 l5 l6 = some r → AW l g d RX8 cX8_shift 7 "shift" MC MS' (Qr (some (.int r.1)) (mh A r.2 D)) k n 141 [some (.ref 26), none, none, some (.int l3), some (.int l4), some (.int l5), some (.int l6)] [] (mh A S D) := by
  intro fn
  induction fn with
  | zero =>
    intro S l3 l4 l5 l6 hf
    rw [X8_shift_141] at hf
    cases hf
  | succ fn ih =>
    intro S l3 l4 l5 l6 hf
    rw [X8_shift_141] at hf
    refine a_iload (pc := 141) dX8_shift_141 rfl ?_
    refine a_iload (pc := 143) dX8_shift_143 rfl ?_
    refine a_icmp_ge (pc := 145) 176 dX8_shift_145 (by decide) (fun c3 => ?_) (fun c3 => ?_)
    · have hf := (if_pos c3).symm.trans hf
      refine a_iload (pc := 176) dX8_shift_176 rfl ?_
      have hf := Option.some.inj hf
      subst hf
      exact a_ireturn (pc := 178) dX8_shift_178 hk hn ⟨rfl, rfl⟩
    · have hf := (if_neg c3).symm.trans hf
      refine a_aload_n (pc := 148) dX8_shift_148 rfl (isRv_r _) ?_
      refine m_getA (pc := 149) 52 hA dX8_shift_149 fl_X8_136 (Or.inr (Or.inr kj_41)) rfl ?_
      refine a_bipush (pc := 152) 60 dX8_shift_152 rfl ?_
      refine a_iload_n (pc := 154) dX8_shift_154 rfl ?_
      refine a_imul (pc := 155) dX8_shift_155 ?_
      refine a_iload (pc := 156) dX8_shift_156 rfl ?_
      refine a_iadd (pc := 158) dX8_shift_158 ?_
      refine a_iload (pc := 159) dX8_shift_159 rfl ?_
      refine a_iadd (pc := 161) dX8_shift_161 ?_
      refine a_aload_n (pc := 162) dX8_shift_162 rfl (isRv_r _) ?_
      refine m_getA (pc := 163) 53 hA dX8_shift_163 fl_X8_139 (Or.inr (Or.inr kj_42)) rfl ?_
      refine a_iload (pc := 166) dX8_shift_166 rfl ?_
      obtain ⟨x1, hx1, hf⟩ := Option.bind_eq_some_iff.mp hf
      refine m_lald (pc := 168) 53 hA dX8_shift_168 kj_42 rfl hx1 ?_
      obtain ⟨S2, hS2, hf⟩ := Option.bind_eq_some_iff.mp hf
      refine m_last (pc := 169) 52 hA dX8_shift_169 kj_41 rfl hS2 ?_
      refine a_iinc (pc := 170) (ls' := [some (.ref 26), none, none, some (.int l3), some (.int l4), some (.int l5), some (.int (l6 + 1))]) (l6 + 1) dX8_shift_170 rfl rfl (by decide) rfl ?_
      refine a_goto (pc := 173) 141 dX8_shift_173 (by decide) ?_
      exact ih S2 l3 l4 l5 (l6 + 1) hf
set_option maxHeartbeats 4000000 in
theorem sX8_shift_104 {l : Launch} {g : gE} {d MC MS' k n : Nat} {A D : List va_E} (hA : A.length = 26) (hd : 2 ≤ d) (hk : k ≤ MC) (hn : n ≤ MS') {r : Int32 × MS} : ∀ (fn : Nat) (S : MS) (l1 : Int32) (l2 : Int32) (l3 : Int32) (l4 : Int32) (l5 : Int32) (l6 : Int32), X8_shift_104 fn S l1 l2 l3 l4 l5 l6 = some r → AW l g d RX8 cX8_shift 7 "shift" MC MS' (Qr (some (.int r.1)) (mh A r.2 D)) k n 104 [some (.ref 26), some (.int l1), some (.int l2), some (.int l3), some (.int l4), some (.int l5), some (.int l6)] [] (mh A S D) := by
  intro fn
  induction fn with
  | zero =>
    intro S l1 l2 l3 l4 l5 l6 hf
    rw [X8_shift_104] at hf
    cases hf
  | succ fn ih =>
    intro S l1 l2 l3 l4 l5 l6 hf
    rw [X8_shift_104] at hf
    refine a_iload (pc := 104) dX8_shift_104 rfl ?_
    refine a_iload (pc := 106) dX8_shift_106 rfl ?_
    refine a_icmp_ge (pc := 108) 138 dX8_shift_108 (by decide) (fun c3 => ?_) (fun c3 => ?_)
    · have hf := (if_pos c3).symm.trans hf
      refine a_iconst (pc := 138) 0 dX8_shift_138 rfl ?_
      refine a_istore (pc := 139) (ls' := [some (.ref 26), some (.int l1), some (.int l2), some (.int l3), some (.int l4), some (.int l5), some (.int 0)]) dX8_shift_139 (by decide) rfl ?_
      refine a_sub (sub_k (sub_d (sub_d (sub_k (sub_k (sub_k (sub_k sub_n))))))) ?_
      exact sX8_shift_141 hA hd hk hn FU S l3 l4 l5 0 hf
    · have hf := (if_neg c3).symm.trans hf
      refine a_aload_n (pc := 111) dX8_shift_111 rfl (isRv_r _) ?_
      refine m_getA (pc := 112) 53 hA dX8_shift_112 fl_X8_139 (Or.inr (Or.inr kj_42)) rfl ?_
      refine a_iload (pc := 115) dX8_shift_115 rfl ?_
      refine a_aload_n (pc := 117) dX8_shift_117 rfl (isRv_r _) ?_
      refine m_getA (pc := 118) 52 hA dX8_shift_118 fl_X8_136 (Or.inr (Or.inr kj_41)) rfl ?_
      refine a_bipush (pc := 121) 60 dX8_shift_121 rfl ?_
      refine a_iload_n (pc := 123) dX8_shift_123 rfl ?_
      refine a_imul (pc := 124) dX8_shift_124 ?_
      refine a_iload_n (pc := 125) dX8_shift_125 rfl ?_
      refine a_iadd (pc := 126) dX8_shift_126 ?_
      refine a_iload (pc := 127) dX8_shift_127 rfl ?_
      refine a_iadd (pc := 129) dX8_shift_129 ?_
      obtain ⟨x1, hx1, hf⟩ := Option.bind_eq_some_iff.mp hf
      refine m_lald (pc := 130) 52 hA dX8_shift_130 kj_41 rfl hx1 ?_
      obtain ⟨S2, hS2, hf⟩ := Option.bind_eq_some_iff.mp hf
      refine m_last (pc := 131) 53 hA dX8_shift_131 kj_42 rfl hS2 ?_
      refine a_iinc (pc := 132) (ls' := [some (.ref 26), some (.int l1), some (.int l2), some (.int l3), some (.int l4), some (.int l5), some (.int (l6 + 1))]) (l6 + 1) dX8_shift_132 rfl rfl (by decide) rfl ?_
      refine a_goto (pc := 135) 104 dX8_shift_135 (by decide) ?_
      exact ih S2 l1 l2 l3 l4 l5 (l6 + 1) hf
set_option maxHeartbeats 4000000 in
theorem sX8_shift_0 {l : Launch} {g : gE} {d MC MS' k n : Nat} {A D : List va_E} (hA : A.length = 26) (hd : 2 ≤ d) (hk : k ≤ MC) (hn : n ≤ MS') {r : Int32 × MS} {S : MS} {l1 : Int32} {l2 : Int32} {l3 : Int32} {l4 : Int32} {l5 : Int32} (hf : X8_shift_0 S l1 l2 l3 l4 l5 = some r) : AW l g d RX8 cX8_shift 7 "shift" MC MS' (Qr (some (.int r.1)) (mh A r.2 D)) k n 0 [some (.ref 26), some (.int l1), some (.int l2), some (.int l3), some (.int l4), some (.int l5), none] [] (mh A S D) := by
  unfold X8_shift_0 at hf
  refine a_aload_n (pc := 0) dX8_shift_0 rfl (isRv_r _) ?_
  refine a_iload_n (pc := 1) dX8_shift_1 rfl ?_
  obtain ⟨r1, hr1, hf⟩ := Option.bind_eq_some_iff.mp hf
  refine m_call (pc := 2) (.int (r1.1)) [.int l1] [] hA dX8_shift_2 ml_X8_311 mv_X8_isTape rfl rfl (by omega) (mX8_isTape hA (by omega) hr1) rfl (Nat.le_of_ble_eq_true rfl) hk hn ?_
  refine a_if_eq (pc := 5) 16 dX8_shift_5 (by decide) (fun c18 => ?_) (fun c18 => ?_)
  · have hf := (if_pos c18).symm.trans hf
    refine a_sub (sub_d (sub_d (sub_d (sub_d (sub_d (sub_d (sub_k sub_n))))))) ?_
    exact sX8_shift_16 hA hd hk hn hf
  · have hf := (if_neg c18).symm.trans hf
    refine a_aload_n (pc := 8) dX8_shift_8 rfl (isRv_r _) ?_
    refine a_iload_n (pc := 9) dX8_shift_9 rfl ?_
    obtain ⟨r2, hr2, hf⟩ := Option.bind_eq_some_iff.mp hf
    refine m_call (pc := 10) (.int (r2.1)) [.int l3] [] hA dX8_shift_10 ml_X8_311 mv_X8_isTape rfl rfl (by omega) (mX8_isTape hA (by omega) hr2) rfl (Nat.le_of_ble_eq_true rfl) hk hn ?_
    refine a_if_ne (pc := 13) 18 dX8_shift_13 (by decide) (fun c17 => ?_) (fun c17 => ?_)
    · have hf := (if_neg c17).symm.trans hf
      refine a_aload_n (pc := 18) dX8_shift_18 rfl (isRv_r _) ?_
      refine m_getA (pc := 19) 50 hA dX8_shift_19 fl_X8_130 (Or.inl ki_39) rfl ?_
      refine a_iload_n (pc := 22) dX8_shift_22 rfl ?_
      obtain ⟨x3, hx3, hf⟩ := Option.bind_eq_some_iff.mp hf
      refine m_ald (pc := 23) 50 hA dX8_shift_23 ki_39 rfl hx3 ?_
      refine a_if_lt (pc := 24) 36 dX8_shift_24 (by decide) (fun c16 => ?_) (fun c16 => ?_)
      · have hf := (if_pos c16).symm.trans hf
        refine a_sub (sub_d (sub_d (sub_d (sub_d (sub_d (sub_d (sub_k sub_n))))))) ?_
        exact sX8_shift_36 hA hd hk hn hf
      · have hf := (if_neg c16).symm.trans hf
        refine a_aload_n (pc := 27) dX8_shift_27 rfl (isRv_r _) ?_
        refine m_getA (pc := 28) 50 hA dX8_shift_28 fl_X8_130 (Or.inl ki_39) rfl ?_
        refine a_iload_n (pc := 31) dX8_shift_31 rfl ?_
        obtain ⟨x4, hx4, hf⟩ := Option.bind_eq_some_iff.mp hf
        refine m_ald (pc := 32) 50 hA dX8_shift_32 ki_39 rfl hx4 ?_
        refine a_if_ge (pc := 33) 39 dX8_shift_33 (by decide) (fun c15 => ?_) (fun c15 => ?_)
        · have hf := (if_pos c15).symm.trans hf
          refine a_aload_n (pc := 39) dX8_shift_39 rfl (isRv_r _) ?_
          refine m_getA (pc := 40) 50 hA dX8_shift_40 fl_X8_130 (Or.inl ki_39) rfl ?_
          refine a_iload_n (pc := 43) dX8_shift_43 rfl ?_
          obtain ⟨x5, hx5, hf⟩ := Option.bind_eq_some_iff.mp hf
          refine m_ald (pc := 44) 50 hA dX8_shift_44 ki_39 rfl hx5 ?_
          refine a_aload_n (pc := 45) dX8_shift_45 rfl (isRv_r _) ?_
          refine m_getA (pc := 46) 50 hA dX8_shift_46 fl_X8_130 (Or.inl ki_39) rfl ?_
          refine a_iload_n (pc := 49) dX8_shift_49 rfl ?_
          obtain ⟨x6, hx6, hf⟩ := Option.bind_eq_some_iff.mp hf
          refine m_ald (pc := 50) 50 hA dX8_shift_50 ki_39 rfl hx6 ?_
          refine a_icmp_eq (pc := 51) 57 dX8_shift_51 (by decide) (fun c14 => ?_) (fun c14 => ?_)
          · have hf := (if_pos c14).symm.trans hf
            refine a_iload (pc := 57) dX8_shift_57 rfl ?_
            refine a_if_lt (pc := 59) 98 dX8_shift_59 (by decide) (fun c13 => ?_) (fun c13 => ?_)
            · have hf := (if_pos c13).symm.trans hf
              refine a_sub (sub_d (sub_d (sub_d (sub_d (sub_d (sub_d (sub_k sub_n))))))) ?_
              exact sX8_shift_98 hA hd hk hn hf
            · have hf := (if_neg c13).symm.trans hf
              refine a_iload_n (pc := 62) dX8_shift_62 rfl ?_
              refine a_if_lt (pc := 63) 98 dX8_shift_63 (by decide) (fun c12 => ?_) (fun c12 => ?_)
              · have hf := (if_pos c12).symm.trans hf
                refine a_sub (sub_d (sub_d (sub_d (sub_d (sub_d (sub_d (sub_k sub_n))))))) ?_
                exact sX8_shift_98 hA hd hk hn hf
              · have hf := (if_neg c12).symm.trans hf
                refine a_iload (pc := 66) dX8_shift_66 rfl ?_
                refine a_if_lt (pc := 68) 98 dX8_shift_68 (by decide) (fun c11 => ?_) (fun c11 => ?_)
                · have hf := (if_pos c11).symm.trans hf
                  refine a_sub (sub_d (sub_d (sub_d (sub_d (sub_d (sub_d (sub_k sub_n))))))) ?_
                  exact sX8_shift_98 hA hd hk hn hf
                · have hf := (if_neg c11).symm.trans hf
                  refine a_iload_n (pc := 71) dX8_shift_71 rfl ?_
                  refine a_aload_n (pc := 72) dX8_shift_72 rfl (isRv_r _) ?_
                  refine m_getA (pc := 73) 51 hA dX8_shift_73 fl_X8_133 (Or.inl ki_40) rfl ?_
                  refine a_iload_n (pc := 76) dX8_shift_76 rfl ?_
                  obtain ⟨x7, hx7, hf⟩ := Option.bind_eq_some_iff.mp hf
                  refine m_ald (pc := 77) 51 hA dX8_shift_77 ki_40 rfl hx7 ?_
                  refine a_iload (pc := 78) dX8_shift_78 rfl ?_
                  refine a_isub (pc := 80) dX8_shift_80 ?_
                  refine a_icmp_gt (pc := 81) 98 dX8_shift_81 (by decide) (fun c10 => ?_) (fun c10 => ?_)
                  · have hf := (if_pos c10).symm.trans hf
                    refine a_sub (sub_d (sub_d (sub_d (sub_d (sub_d (sub_d (sub_k sub_n))))))) ?_
                    exact sX8_shift_98 hA hd hk hn hf
                  · have hf := (if_neg c10).symm.trans hf
                    refine a_iload (pc := 84) dX8_shift_84 rfl ?_
                    refine a_aload_n (pc := 86) dX8_shift_86 rfl (isRv_r _) ?_
                    refine m_getA (pc := 87) 51 hA dX8_shift_87 fl_X8_133 (Or.inl ki_40) rfl ?_
                    refine a_iload_n (pc := 90) dX8_shift_90 rfl ?_
                    obtain ⟨x8, hx8, hf⟩ := Option.bind_eq_some_iff.mp hf
                    refine m_ald (pc := 91) 51 hA dX8_shift_91 ki_40 rfl hx8 ?_
                    refine a_iload (pc := 92) dX8_shift_92 rfl ?_
                    refine a_isub (pc := 94) dX8_shift_94 ?_
                    refine a_icmp_le (pc := 95) 101 dX8_shift_95 (by decide) (fun c9 => ?_) (fun c9 => ?_)
                    · have hf := (if_pos c9).symm.trans hf
                      refine a_iconst (pc := 101) 0 dX8_shift_101 rfl ?_
                      refine a_istore (pc := 102) (ls' := [some (.ref 26), some (.int l1), some (.int l2), some (.int l3), some (.int l4), some (.int l5), some (.int 0)]) dX8_shift_102 (by decide) rfl ?_
                      exact sX8_shift_104 hA hd hk hn FU r2.2 l1 l2 l3 l4 l5 0 hf
                    · have hf := (if_neg c9).symm.trans hf
                      refine a_sub (sub_d (sub_d (sub_d (sub_d (sub_d (sub_d (sub_k sub_n))))))) ?_
                      exact sX8_shift_98 hA hd hk hn hf
          · have hf := (if_neg c14).symm.trans hf
            refine a_bipush (pc := 54) (-12) dX8_shift_54 rfl ?_
            have hf := Option.some.inj hf
            subst hf
            exact a_ireturn (pc := 56) dX8_shift_56 hk hn ⟨rfl, rfl⟩
        · have hf := (if_neg c15).symm.trans hf
          refine a_sub (sub_d (sub_d (sub_d (sub_d (sub_d (sub_d (sub_k sub_n))))))) ?_
          exact sX8_shift_36 hA hd hk hn hf
    · have hf := (if_pos c17).symm.trans hf
      refine a_sub (sub_d (sub_d (sub_d (sub_d (sub_d (sub_d (sub_k sub_n))))))) ?_
      exact sX8_shift_16 hA hd hk hn hf
set_option maxHeartbeats 4000000 in
theorem mX8_shift {l : Launch} {g : gE} {d : Nat} {A D : List va_E} (hA : A.length = 26) (hd : 2 ≤ d) {r : Int32 × MS} {S : MS} {l1 : Int32} {l2 : Int32} {l3 : Int32} {l4 : Int32} {l5 : Int32} (hf : X8_shift S l1 l2 l3 l4 l5 = some r) : AM l g d yX8_shift cX8_shift 7 (some .int) 0 0 [.ref 26, .int l1, .int l2, .int l3, .int l4, .int l5] (mh A S D) (Qr (some (.int r.1)) (mh A r.2 D)) := by
  refine AM.of rfl (by exact Nat.le_of_ble_eq_true rfl) (fun v h' q => by obtain ⟨rfl, -⟩ := q; exact ⟨_, rfl, rfl⟩) (fun ls e => ?_)
  have e2 : aBeg [.ref 26, .int l1, .int l2, .int l3, .int l4, .int l5] 7 = [some (.ref 26), some (.int l1), some (.int l2), some (.int l3), some (.int l4), some (.int l5), none] := rfl
  rw [e2] at e
  subst e
  refine a_sub (sub_k (sub_k (sub_k (sub_k (sub_k (sub_k (sub_k (sub_n)))))))) ?_
  exact sX8_shift_0 hA hd (Nat.le_refl _) (Nat.le_refl _) (hf)

