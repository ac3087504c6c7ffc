/-! ===== the class's methods as functions of numbers, by program out of their decode rows ===== -/
-- PencilStrikes$Acts.<init>()V
def X0_init_0 (S : AH) (a0 : Nat) : Option (Unit × AH) :=
  (nwA 0 20 S 20).bind fun zw1 => prp zw1 fun zb2 S3 =>
  (sQ S3 a0 0 0 (some zb2)).bind fun S4 =>
  some ((), S4)
def X0_init (S : AH) (a0 : Nat) : Option (Unit × AH) := X0_init_0 S a0
set_option maxHeartbeats 4000000 in
theorem sX0_init_0 {l : Launch} {g : gE} {d MC MS' k n : Nat} {a0 : Nat} (hd : 0 ≤ d) (hk : k + 1 ≤ MC) (hn : n + 20 ≤ MS') {r : Unit × AH} {S : AH} (hf : X0_init_0 S a0 = some r) : AW l g d RX0 cX0_init 1 "<init>" MC MS' (Qr (none) r.2) k n 0 [some (.ref a0)] [] S := by
  unfold X0_init_0 at hf
  refine a_aload_n (pc := 0) dX0_init_0 rfl (isRv_r _) ?_
  refine a_objInit (pc := 1) dX0_init_1 ml_X0_3 (Nat.le_of_ble_eq_true rfl) ?_
  refine a_aload_n (pc := 4) dX0_init_4 rfl (isRv_r _) ?_
  refine a_bipush (pc := 5) 20 dX0_init_5 rfl ?_
  obtain ⟨zw1, hzw1, hf⟩ := Option.bind_eq_some_iff.mp hf
  obtain ⟨zb2, S3⟩ := zw1
  have hf := (prp_of _ _ _).symm.trans hf
  refine g_newI (pc := 7) (B := 20) dX0_init_7 (by decide) hzw1 (by omega) (by omega) ?_
  obtain ⟨S4, hS4, hf⟩ := Option.bind_eq_some_iff.mp hf
  refine g_putQF (pc := 9) dX0_init_9 fl_X0_11 rfl rfl rfl (Or.inr ⟨_, rfl⟩) hS4 ?_
  have hf := Option.some.inj hf
  subst hf
  exact a_return (pc := 12) dX0_init_12 (by omega) (by omega) ⟨rfl, rfl⟩
set_option maxHeartbeats 4000000 in
theorem mX0_init {l : Launch} {g : gE} {d : Nat} {a0 : Nat} (hd : 0 ≤ d) {r : Unit × AH} {S : AH} (hf : X0_init S a0 = some r) : AM l g d yX0_init cX0_init 1 none 1 20 [.ref a0] S (Qr (none) r.2) := by
  refine AM.of rfl (by exact Nat.le_of_ble_eq_true rfl) (fun v h' q => by obtain ⟨rfl, -⟩ := q; rfl) (fun ls e => ?_)
  have e2 : aBeg [.ref a0] 1 = [some (.ref a0)] := rfl
  rw [e2] at e
  subst e
  refine a_sub (sub_k (sub_n)) ?_
  exact sX0_init_0 hd (by omega) (by omega) (hf)

-- PencilStrikes$Duties.<init>()V
def X2_init_0 (S : AH) (a0 : Nat) : Option (Unit × AH) :=
  (nwA 0 12 S 12).bind fun zw1 => prp zw1 fun zb2 S3 =>
  (sQ S3 a0 2 0 (some zb2)).bind fun S4 =>
  some ((), S4)
def X2_init (S : AH) (a0 : Nat) : Option (Unit × AH) := X2_init_0 S a0
set_option maxHeartbeats 4000000 in
theorem sX2_init_0 {l : Launch} {g : gE} {d MC MS' k n : Nat} {a0 : Nat} (hd : 0 ≤ d) (hk : k + 1 ≤ MC) (hn : n + 12 ≤ MS') {r : Unit × AH} {S : AH} (hf : X2_init_0 S a0 = some r) : AW l g d RX2 cX2_init 1 "<init>" MC MS' (Qr (none) r.2) k n 0 [some (.ref a0)] [] S := by
  unfold X2_init_0 at hf
  refine a_aload_n (pc := 0) dX2_init_0 rfl (isRv_r _) ?_
  refine a_objInit (pc := 1) dX2_init_1 ml_X2_3 (Nat.le_of_ble_eq_true rfl) ?_
  refine a_aload_n (pc := 4) dX2_init_4 rfl (isRv_r _) ?_
  refine a_bipush (pc := 5) 12 dX2_init_5 rfl ?_
  obtain ⟨zw1, hzw1, hf⟩ := Option.bind_eq_some_iff.mp hf
  obtain ⟨zb2, S3⟩ := zw1
  have hf := (prp_of _ _ _).symm.trans hf
  refine g_newI (pc := 7) (B := 12) dX2_init_7 (by decide) hzw1 (by omega) (by omega) ?_
  obtain ⟨S4, hS4, hf⟩ := Option.bind_eq_some_iff.mp hf
  refine g_putQF (pc := 9) dX2_init_9 fl_X2_9 rfl rfl rfl (Or.inr ⟨_, rfl⟩) hS4 ?_
  have hf := Option.some.inj hf
  subst hf
  exact a_return (pc := 12) dX2_init_12 (by omega) (by omega) ⟨rfl, rfl⟩
set_option maxHeartbeats 4000000 in
theorem mX2_init {l : Launch} {g : gE} {d : Nat} {a0 : Nat} (hd : 0 ≤ d) {r : Unit × AH} {S : AH} (hf : X2_init S a0 = some r) : AM l g d yX2_init cX2_init 1 none 1 12 [.ref a0] S (Qr (none) r.2) := by
  refine AM.of rfl (by exact Nat.le_of_ble_eq_true rfl) (fun v h' q => by obtain ⟨rfl, -⟩ := q; rfl) (fun ls e => ?_)
  have e2 : aBeg [.ref a0] 1 = [some (.ref a0)] := rfl
  rw [e2] at e
  subst e
  refine a_sub (sub_k (sub_n)) ?_
  exact sX2_init_0 hd (by omega) (by omega) (hf)

-- PencilStrikes$LawReader.<init>()V
def X4_init_0 (S : AH) (a0 : Nat) : Option (Unit × AH) :=
  (nwA 0 100 S 100).bind fun zw1 => prp zw1 fun zb2 S3 =>
  (sQ S3 a0 4 0 (some zb2)).bind fun S4 =>
  (nwA 0 100 S4 100).bind fun zw5 => prp zw5 fun zb6 S7 =>
  (sQ S7 a0 4 1 (some zb6)).bind fun S8 =>
  some ((), S8)
def X4_init (S : AH) (a0 : Nat) : Option (Unit × AH) := X4_init_0 S a0
set_option maxHeartbeats 4000000 in
theorem sX4_init_0 {l : Launch} {g : gE} {d MC MS' k n : Nat} {a0 : Nat} (hd : 0 ≤ d) (hk : k + 2 ≤ MC) (hn : n + 200 ≤ MS') {r : Unit × AH} {S : AH} (hf : X4_init_0 S a0 = some r) : AW l g d RX4 cX4_init 1 "<init>" MC MS' (Qr (none) r.2) k n 0 [some (.ref a0)] [] S := by
  unfold X4_init_0 at hf
  refine a_aload_n (pc := 0) dX4_init_0 rfl (isRv_r _) ?_
  refine a_objInit (pc := 1) dX4_init_1 ml_X4_3 (Nat.le_of_ble_eq_true rfl) ?_
  refine a_aload_n (pc := 4) dX4_init_4 rfl (isRv_r _) ?_
  refine a_bipush (pc := 5) 100 dX4_init_5 rfl ?_
  obtain ⟨zw1, hzw1, hf⟩ := Option.bind_eq_some_iff.mp hf
  obtain ⟨zb2, S3⟩ := zw1
  have hf := (prp_of _ _ _).symm.trans hf
  refine g_newI (pc := 7) (B := 100) dX4_init_7 (by decide) hzw1 (by omega) (by omega) ?_
  obtain ⟨S4, hS4, hf⟩ := Option.bind_eq_some_iff.mp hf
  refine g_putQF (pc := 9) dX4_init_9 fl_X4_9 rfl rfl rfl (Or.inr ⟨_, rfl⟩) hS4 ?_
  refine a_aload_n (pc := 12) dX4_init_12 rfl (isRv_r _) ?_
  refine a_bipush (pc := 13) 100 dX4_init_13 rfl ?_
  obtain ⟨zw5, hzw5, hf⟩ := Option.bind_eq_some_iff.mp hf
  obtain ⟨zb6, S7⟩ := zw5
  have hf := (prp_of _ _ _).symm.trans hf
  refine g_newI (pc := 15) (B := 100) dX4_init_15 (by decide) hzw5 (by omega) (by omega) ?_
  obtain ⟨S8, hS8, hf⟩ := Option.bind_eq_some_iff.mp hf
  refine g_putQF (pc := 17) dX4_init_17 fl_X4_15 rfl rfl rfl (Or.inr ⟨_, rfl⟩) hS8 ?_
  have hf := Option.some.inj hf
  subst hf
  exact a_return (pc := 20) dX4_init_20 (by omega) (by omega) ⟨rfl, rfl⟩
set_option maxHeartbeats 4000000 in
theorem mX4_init {l : Launch} {g : gE} {d : Nat} {a0 : Nat} (hd : 0 ≤ d) {r : Unit × AH} {S : AH} (hf : X4_init S a0 = some r) : AM l g d yX4_init cX4_init 1 none 2 200 [.ref a0] S (Qr (none) r.2) := by
  refine AM.of rfl (by exact Nat.le_of_ble_eq_true rfl) (fun v h' q => by obtain ⟨rfl, -⟩ := q; rfl) (fun ls e => ?_)
  have e2 : aBeg [.ref a0] 1 = [some (.ref a0)] := rfl
  rw [e2] at e
  subst e
  refine a_sub (sub_k (sub_n)) ?_
  exact sX4_init_0 hd (by omega) (by omega) (hf)

-- PencilStrikes$Tape.<init>()V
def X5_init_0 (S : AH) (a0 : Nat) : Option (Unit × AH) :=
  (nwL 60 S 60).bind fun zw1 => prp zw1 fun zb2 S3 =>
  (sQ S3 a0 5 0 (some zb2)).bind fun S4 =>
  (sI S4 a0 5 1 (-1)).bind fun S5 =>
  some ((), S5)
def X5_init (S : AH) (a0 : Nat) : Option (Unit × AH) := X5_init_0 S a0
set_option maxHeartbeats 4000000 in
theorem sX5_init_0 {l : Launch} {g : gE} {d MC MS' k n : Nat} {a0 : Nat} (hd : 0 ≤ d) (hk : k + 1 ≤ MC) (hn : n + 60 ≤ MS') {r : Unit × AH} {S : AH} (hf : X5_init_0 S a0 = some r) : AW l g d RX5 cX5_init 1 "<init>" MC MS' (Qr (none) r.2) k n 0 [some (.ref a0)] [] S := by
  unfold X5_init_0 at hf
  refine a_aload_n (pc := 0) dX5_init_0 rfl (isRv_r _) ?_
  refine a_objInit (pc := 1) dX5_init_1 ml_X5_3 (Nat.le_of_ble_eq_true rfl) ?_
  refine a_aload_n (pc := 4) dX5_init_4 rfl (isRv_r _) ?_
  refine a_bipush (pc := 5) 60 dX5_init_5 rfl ?_
  obtain ⟨zw1, hzw1, hf⟩ := Option.bind_eq_some_iff.mp hf
  obtain ⟨zb2, S3⟩ := zw1
  have hf := (prp_of _ _ _).symm.trans hf
  refine g_newJ (pc := 7) (B := 60) dX5_init_7 (by decide) hzw1 (by omega) (by omega) ?_
  obtain ⟨S4, hS4, hf⟩ := Option.bind_eq_some_iff.mp hf
  refine g_putQF (pc := 9) dX5_init_9 fl_X5_9 rfl rfl rfl (Or.inr ⟨_, rfl⟩) hS4 ?_
  refine a_aload_n (pc := 12) dX5_init_12 rfl (isRv_r _) ?_
  refine a_iconst (pc := 13) (-1) dX5_init_13 rfl ?_
  obtain ⟨S5, hS5, hf⟩ := Option.bind_eq_some_iff.mp hf
  refine g_putI (pc := 14) dX5_init_14 fl_X5_15 rfl rfl hS5 ?_
  have hf := Option.some.inj hf
  subst hf
  exact a_return (pc := 17) dX5_init_17 (by omega) (by omega) ⟨rfl, rfl⟩
set_option maxHeartbeats 4000000 in
theorem mX5_init {l : Launch} {g : gE} {d : Nat} {a0 : Nat} (hd : 0 ≤ d) {r : Unit × AH} {S : AH} (hf : X5_init S a0 = some r) : AM l g d yX5_init cX5_init 1 none 1 60 [.ref a0] S (Qr (none) r.2) := by
  refine AM.of rfl (by exact Nat.le_of_ble_eq_true rfl) (fun v h' q => by obtain ⟨rfl, -⟩ := q; rfl) (fun ls e => ?_)
  have e2 : aBeg [.ref a0] 1 = [some (.ref a0)] := rfl
  rw [e2] at e
  subst e
  refine a_sub (sub_k (sub_n)) ?_
  exact sX5_init_0 hd (by omega) (by omega) (hf)

-- PencilStrikes$Text.<init>()V
def X6_init_0 (S : AH) (a0 : Nat) : Option (Unit × AH) :=
  (nwA 0 100 S 100).bind fun zw1 => prp zw1 fun zb2 S3 =>
  (sQ S3 a0 6 0 (some zb2)).bind fun S4 =>
  some ((), S4)
def X6_init (S : AH) (a0 : Nat) : Option (Unit × AH) := X6_init_0 S a0
set_option maxHeartbeats 4000000 in
theorem sX6_init_0 {l : Launch} {g : gE} {d MC MS' k n : Nat} {a0 : Nat} (hd : 0 ≤ d) (hk : k + 1 ≤ MC) (hn : n + 100 ≤ MS') {r : Unit × AH} {S : AH} (hf : X6_init_0 S a0 = some r) : AW l g d RX6 cX6_init 1 "<init>" MC MS' (Qr (none) r.2) k n 0 [some (.ref a0)] [] S := by
  unfold X6_init_0 at hf
  refine a_aload_n (pc := 0) dX6_init_0 rfl (isRv_r _) ?_
  refine a_objInit (pc := 1) dX6_init_1 ml_X6_3 (Nat.le_of_ble_eq_true rfl) ?_
  refine a_aload_n (pc := 4) dX6_init_4 rfl (isRv_r _) ?_
  refine a_bipush (pc := 5) 100 dX6_init_5 rfl ?_
  obtain ⟨zw1, hzw1, hf⟩ := Option.bind_eq_some_iff.mp hf
  obtain ⟨zb2, S3⟩ := zw1
  have hf := (prp_of _ _ _).symm.trans hf
  refine g_newI (pc := 7) (B := 100) dX6_init_7 (by decide) hzw1 (by omega) (by omega) ?_
  obtain ⟨S4, hS4, hf⟩ := Option.bind_eq_some_iff.mp hf
  refine g_putQF (pc := 9) dX6_init_9 fl_X6_9 rfl rfl rfl (Or.inr ⟨_, rfl⟩) hS4 ?_
  have hf := Option.some.inj hf
  subst hf
  exact a_return (pc := 12) dX6_init_12 (by omega) (by omega) ⟨rfl, rfl⟩
set_option maxHeartbeats 4000000 in
theorem mX6_init {l : Launch} {g : gE} {d : Nat} {a0 : Nat} (hd : 0 ≤ d) {r : Unit × AH} {S : AH} (hf : X6_init S a0 = some r) : AM l g d yX6_init cX6_init 1 none 1 100 [.ref a0] S (Qr (none) r.2) := by
  refine AM.of rfl (by exact Nat.le_of_ble_eq_true rfl) (fun v h' q => by obtain ⟨rfl, -⟩ := q; rfl) (fun ls e => ?_)
  have e2 : aBeg [.ref a0] 1 = [some (.ref a0)] := rfl
  rw [e2] at e
  subst e
  refine a_sub (sub_k (sub_n)) ?_
  exact sX6_init_0 hd (by omega) (by omega) (hf)

-- PencilStrikes$Text.add(I)V
def X6_add_39 (S : AH) (a0 : Nat) : Option (Unit × AH) :=
  some ((), S)
def X6_add_0 (S : AH) (a0 : Nat) (l1 : Int32) : Option (Unit × AH) :=
  (gI S a0 6 1).bind fun x1 =>
  if x1 < 0 then
    X6_add_39 S a0
  else
    (gI S a0 6 1).bind fun x2 =>
    (gQ S a0 6 0).bind fun x3 =>
    (aN S x3).bind fun x4 =>
    if x4 ≤ x2 then
      X6_add_39 S a0
    else
      (gQ S a0 6 0).bind fun x5 =>
      (gI S a0 6 1).bind fun x6 =>
      (uA 0 S x5 x6 l1).bind fun S7 =>
      (gI S7 a0 6 1).bind fun x8 =>
      (sI S7 a0 6 1 (x8 + 1)).bind fun S9 =>
      X6_add_39 S9 a0
def X6_add (S : AH) (a0 : Nat) (l1 : Int32) : Option (Unit × AH) := X6_add_0 S a0 l1
set_option maxHeartbeats 4000000 in
theorem sX6_add_39 {l : Launch} {g : gE} {d MC MS' k n : Nat} {a0 : Nat} (hd : 0 ≤ d) (hk : k ≤ MC) (hn : n ≤ MS') {r : Unit × AH} {S : AH} (hf : X6_add_39 S a0 = some r) : AW l g d RX6 cX6_add 2 "add" MC MS' (Qr (none) r.2) k n 39 [none, none] [] S := by
  unfold X6_add_39 at hf
  have hf := Option.some.inj hf
  subst hf
  exact a_return (pc := 39) dX6_add_39 hk hn ⟨rfl, rfl⟩
set_option maxHeartbeats 4000000 in
theorem sX6_add_0 {l : Launch} {g : gE} {d MC MS' k n : Nat} {a0 : Nat} (hd : 0 ≤ d) (hk : k ≤ MC) (hn : n ≤ MS') {r : Unit × AH} {S : AH} {l1 : Int32} (hf : X6_add_0 S a0 l1 = some r) : AW l g d RX6 cX6_add 2 "add" MC MS' (Qr (none) r.2) k n 0 [some (.ref a0), some (.int l1)] [] S := by
  unfold X6_add_0 at hf
  refine a_aload_n (pc := 0) dX6_add_0 rfl (isRv_r _) ?_
  obtain ⟨x1, hx1, hf⟩ := Option.bind_eq_some_iff.mp hf
  refine g_getI (pc := 1) dX6_add_1 fl_X6_15 hx1 ?_
  refine a_if_lt (pc := 4) 39 dX6_add_4 (by decide) (fun c11 => ?_) (fun c11 => ?_)
  · have hf := (if_pos c11).symm.trans hf
    refine a_sub (sub_d (sub_d sub_n)) ?_
    exact sX6_add_39 hd hk hn hf
  · have hf := (if_neg c11).symm.trans hf
    refine a_aload_n (pc := 7) dX6_add_7 rfl (isRv_r _) ?_
    obtain ⟨x2, hx2, hf⟩ := Option.bind_eq_some_iff.mp hf
    refine g_getI (pc := 8) dX6_add_8 fl_X6_15 hx2 ?_
    refine a_aload_n (pc := 11) dX6_add_11 rfl (isRv_r _) ?_
    obtain ⟨x3, hx3, hf⟩ := Option.bind_eq_some_iff.mp hf
    refine g_getQ (pc := 12) dX6_add_12 fl_X6_9 hx3 ?_
    obtain ⟨x4, hx4, hf⟩ := Option.bind_eq_some_iff.mp hf
    refine g_alen (pc := 15) dX6_add_15 hx4 ?_
    refine a_icmp_ge (pc := 16) 39 dX6_add_16 (by decide) (fun c10 => ?_) (fun c10 => ?_)
    · have hf := (if_pos c10).symm.trans hf
      refine a_sub (sub_d (sub_d sub_n)) ?_
      exact sX6_add_39 hd hk hn hf
    · have hf := (if_neg c10).symm.trans hf
      refine a_aload_n (pc := 19) dX6_add_19 rfl (isRv_r _) ?_
      obtain ⟨x5, hx5, hf⟩ := Option.bind_eq_some_iff.mp hf
      refine g_getQ (pc := 20) dX6_add_20 fl_X6_9 hx5 ?_
      refine a_aload_n (pc := 23) dX6_add_23 rfl (isRv_r _) ?_
      obtain ⟨x6, hx6, hf⟩ := Option.bind_eq_some_iff.mp hf
      refine g_getI (pc := 24) dX6_add_24 fl_X6_15 hx6 ?_
      refine a_iload_n (pc := 27) dX6_add_27 rfl ?_
      obtain ⟨S7, hS7, hf⟩ := Option.bind_eq_some_iff.mp hf
      refine g_iast (pc := 28) dX6_add_28 hS7 ?_
      refine a_aload_n (pc := 29) dX6_add_29 rfl (isRv_r _) ?_
      refine a_dup (pc := 30) dX6_add_30 rfl ?_
      obtain ⟨x8, hx8, hf⟩ := Option.bind_eq_some_iff.mp hf
      refine g_getI (pc := 31) dX6_add_31 fl_X6_15 hx8 ?_
      refine a_iconst (pc := 34) 1 dX6_add_34 rfl ?_
      refine a_iadd (pc := 35) dX6_add_35 ?_
      obtain ⟨S9, hS9, hf⟩ := Option.bind_eq_some_iff.mp hf
      refine g_putI (pc := 36) dX6_add_36 fl_X6_15 rfl rfl hS9 ?_
      refine a_sub (sub_d (sub_d sub_n)) ?_
      exact sX6_add_39 hd hk hn hf
set_option maxHeartbeats 4000000 in
theorem mX6_add {l : Launch} {g : gE} {d : Nat} {a0 : Nat} (hd : 0 ≤ d) {r : Unit × AH} {S : AH} {l1 : Int32} (hf : X6_add S a0 l1 = some r) : AM l g d yX6_add cX6_add 2 none 0 0 [.ref a0, .int l1] S (Qr (none) r.2) := by
  refine AM.of rfl (by exact Nat.le_of_ble_eq_true rfl) (fun v h' q => by obtain ⟨rfl, -⟩ := q; rfl) (fun ls e => ?_)
  have e2 : aBeg [.ref a0, .int l1] 2 = [some (.ref a0), some (.int l1)] := rfl
  rw [e2] at e
  subst e
  refine a_sub (sub_k (sub_k (sub_n))) ?_
  exact sX6_add_0 hd (Nat.le_refl _) (Nat.le_refl _) (hf)

-- PencilStrikes$Text.size()I
def X6_size_0 (S : AH) (a0 : Nat) : Option (Int32 × AH) :=
  (gI S a0 6 1).bind fun x1 =>
  some (x1, S)
def X6_size (S : AH) (a0 : Nat) : Option (Int32 × AH) := X6_size_0 S a0
set_option maxHeartbeats 4000000 in
theorem sX6_size_0 {l : Launch} {g : gE} {d MC MS' k n : Nat} {a0 : Nat} (hd : 0 ≤ d) (hk : k ≤ MC) (hn : n ≤ MS') {r : Int32 × AH} {S : AH} (hf : X6_size_0 S a0 = some r) : AW l g d RX6 cX6_size 1 "size" MC MS' (Qr (some (.int r.1)) r.2) k n 0 [some (.ref a0)] [] S := by
  unfold X6_size_0 at hf
  refine a_aload_n (pc := 0) dX6_size_0 rfl (isRv_r _) ?_
  obtain ⟨x1, hx1, hf⟩ := Option.bind_eq_some_iff.mp hf
  refine g_getI (pc := 1) dX6_size_1 fl_X6_15 hx1 ?_
  have hf := Option.some.inj hf
  subst hf
  exact a_ireturn (pc := 4) dX6_size_4 hk hn ⟨rfl, rfl⟩
set_option maxHeartbeats 4000000 in
theorem mX6_size {l : Launch} {g : gE} {d : Nat} {a0 : Nat} (hd : 0 ≤ d) {r : Int32 × AH} {S : AH} (hf : X6_size S a0 = some r) : AM l g d yX6_size cX6_size 1 (some .int) 0 0 [.ref a0] S (Qr (some (.int r.1)) r.2) := by
  refine AM.of rfl (by exact Nat.le_of_ble_eq_true rfl) (fun v h' q => by obtain ⟨rfl, -⟩ := q; exact ⟨_, rfl, rfl⟩) (fun ls e => ?_)
  have e2 : aBeg [.ref a0] 1 = [some (.ref a0)] := rfl
  rw [e2] at e
  subst e
  refine a_sub (sub_k (sub_n)) ?_
  exact sX6_size_0 hd (Nat.le_refl _) (Nat.le_refl _) (hf)

-- PencilStrikes.feed(II)I
def X7_feed_9 (S : AH) (a0 : Nat) : Option (Int32 × AH) :=
  some ((-2), S)
def X7_feed_33 : Nat → AH → Nat → Int32 → Int32 → Option (Int32 × AH)
  | 0, _, _, _, _ => none
  | fn + 1, S, a0, l1, l3 =>
    if l3 < 0 then
      (gQ S a0 7 0).bind fun x1 =>
      (x1).bind fun a2 =>
      (cO S a2 6 (X6_size S a2)).bind fun r3 =>
      some (r3.1, r3.2)
    else
      (gQ S a0 7 0).bind fun x4 =>
      (x4).bind fun a5 =>
      (cO S a5 6 (X6_add S a5 ((l1 >>> ((8 * l3) &&& 31)) &&& 255))).bind fun r6 =>
      X7_feed_33 fn r6.2 a0 l1 (l3 + (-1))
def X7_feed_0 (S : AH) (a0 : Nat) (l1 : Int32) (l2 : Int32) : Option (Int32 × AH) :=
  if l2 < 0 then
    X7_feed_9 S a0
  else
    if l2 ≤ 4 then
      (gQ S a0 7 0).bind fun x1 =>
      (x1).bind fun a2 =>
      (cO S a2 6 (X6_size S a2)).bind fun r3 =>
      if (r3.1 + l2) ≤ 100 then
        X7_feed_33 FU r3.2 a0 l1 (l2 - 1)
      else
        some ((-4), r3.2)
    else
      X7_feed_9 S a0
def X7_feed (S : AH) (a0 : Nat) (l1 : Int32) (l2 : Int32) : Option (Int32 × AH) := X7_feed_0 S a0 l1 l2
set_option maxHeartbeats 4000000 in
theorem sX7_feed_9 {l : Launch} {g : gE} {d MC MS' k n : Nat} {a0 : Nat} (hd : 1 ≤ d) (hk : k ≤ MC) (hn : n ≤ MS') {r : Int32 × AH} {S : AH} (hf : X7_feed_9 S a0 = some r) : AW l g d RX7 cX7_feed 4 "feed" MC MS' (Qr (some (.int r.1)) r.2) k n 9 [none, none, none, none] [] S := by
  unfold X7_feed_9 at hf
  refine a_bipush (pc := 9) (-2) dX7_feed_9 rfl ?_
  have hf := Option.some.inj hf
  subst hf
  exact a_ireturn (pc := 11) dX7_feed_11 hk hn ⟨rfl, rfl⟩
set_option maxHeartbeats 4000000 in
theorem sX7_feed_33 {l : Launch} {g : gE} {d MC MS' k n : Nat} {a0 : Nat} (hd : 1 ≤ d) (hk : k ≤ MC) (hn : n ≤ MS') {r : Int32 × AH} : ∀ (fn : Nat) (S : AH) (l1 : Int32) (l3 : Int32), X7_feed_33 fn S a0 l1 l3 = some r → AW l g d RX7 cX7_feed 4 "feed" MC MS' (Qr (some (.int r.1)) r.2) k n 33 [some (.ref a0), some (.int l1), none, some (.int l3)] [] S := by
  intro fn
  induction fn with
  | zero =>
    intro S l1 l3 hf
    rw [X7_feed_33] at hf
    cases hf
  | succ fn ih =>
    intro S l1 l3 hf
    rw [X7_feed_33] at hf
    refine a_iload_n (pc := 33) dX7_feed_33 rfl ?_
    refine a_if_lt (pc := 34) 60 dX7_feed_34 (by decide) (fun c7 => ?_) (fun c7 => ?_)
    · have hf := (if_pos c7).symm.trans hf
      refine a_aload_n (pc := 60) dX7_feed_60 rfl (isRv_r _) ?_
      obtain ⟨x1, hx1, hf⟩ := Option.bind_eq_some_iff.mp hf
      refine g_getQ (pc := 61) dX7_feed_61 fl_X7_12 hx1 ?_
      obtain ⟨a2, ha2, hf⟩ := Option.bind_eq_some_iff.mp hf
      rw [ha2]
      obtain ⟨r3, hr3, hf⟩ := Option.bind_eq_some_iff.mp hf
      obtain ⟨hor3, hr3⟩ := cO_of hr3
      refine g_call (pc := 64) (mc := 0) (ms := 0) (.int r3.1) [] [] dX7_feed_64 ml_X7_62 mv_X6_size hor3 (by decide) rfl rfl (by omega) (mX6_size (by omega) hr3) rfl (Nat.le_of_ble_eq_true rfl) hk hn ?_
      have hf := Option.some.inj hf
      subst hf
      exact a_ireturn (pc := 67) dX7_feed_67 hk hn ⟨rfl, rfl⟩
    · have hf := (if_neg c7).symm.trans hf
      refine a_aload_n (pc := 37) dX7_feed_37 rfl (isRv_r _) ?_
      obtain ⟨x4, hx4, hf⟩ := Option.bind_eq_some_iff.mp hf
      refine g_getQ (pc := 38) dX7_feed_38 fl_X7_12 hx4 ?_
      refine a_iload_n (pc := 41) dX7_feed_41 rfl ?_
      refine a_bipush (pc := 42) 8 dX7_feed_42 rfl ?_
      refine a_iload_n (pc := 44) dX7_feed_44 rfl ?_
      refine a_imul (pc := 45) dX7_feed_45 ?_
      refine a_ishr (pc := 46) dX7_feed_46 ?_
      refine a_sipush (pc := 47) 255 dX7_feed_47 rfl ?_
      refine a_iand (pc := 50) dX7_feed_50 ?_
      obtain ⟨a5, ha5, hf⟩ := Option.bind_eq_some_iff.mp hf
      rw [ha5]
      obtain ⟨r6, hr6, hf⟩ := Option.bind_eq_some_iff.mp hf
      obtain ⟨hor6, hr6⟩ := cO_of hr6
      refine g_callv (pc := 51) (mc := 0) (ms := 0) [.int ((l1 >>> ((8 * l3) &&& 31)) &&& 255)] [] dX7_feed_51 ml_X7_66 mv_X6_add hor6 (by decide) rfl rfl (by omega) (mX6_add (by omega) hr6) rfl (Nat.le_of_ble_eq_true rfl) hk hn ?_
      refine a_iinc (pc := 54) (ls' := [some (.ref a0), some (.int l1), none, some (.int (l3 + (-1)))]) (l3 + (-1)) dX7_feed_54 rfl rfl (by decide) rfl ?_
      refine a_goto (pc := 57) 33 dX7_feed_57 (by decide) ?_
      exact ih r6.2 l1 (l3 + (-1)) hf
set_option maxHeartbeats 4000000 in
theorem sX7_feed_0 {l : Launch} {g : gE} {d MC MS' k n : Nat} {a0 : Nat} (hd : 1 ≤ d) (hk : k ≤ MC) (hn : n ≤ MS') {r : Int32 × AH} {S : AH} {l1 : Int32} {l2 : Int32} (hf : X7_feed_0 S a0 l1 l2 = some r) : AW l g d RX7 cX7_feed 4 "feed" MC MS' (Qr (some (.int r.1)) r.2) k n 0 [some (.ref a0), some (.int l1), some (.int l2), none] [] S := by
  unfold X7_feed_0 at hf
  refine a_iload_n (pc := 0) dX7_feed_0 rfl ?_
  refine a_if_lt (pc := 1) 9 dX7_feed_1 (by decide) (fun c6 => ?_) (fun c6 => ?_)
  · have hf := (if_pos c6).symm.trans hf
    refine a_sub (sub_d (sub_d (sub_d (sub_k sub_n)))) ?_
    exact sX7_feed_9 hd hk hn hf
  · have hf := (if_neg c6).symm.trans hf
    refine a_iload_n (pc := 4) dX7_feed_4 rfl ?_
    refine a_iconst (pc := 5) 4 dX7_feed_5 rfl ?_
    refine a_icmp_le (pc := 6) 12 dX7_feed_6 (by decide) (fun c5 => ?_) (fun c5 => ?_)
    · have hf := (if_pos c5).symm.trans hf
      refine a_aload_n (pc := 12) dX7_feed_12 rfl (isRv_r _) ?_
      obtain ⟨x1, hx1, hf⟩ := Option.bind_eq_some_iff.mp hf
      refine g_getQ (pc := 13) dX7_feed_13 fl_X7_12 hx1 ?_
      obtain ⟨a2, ha2, hf⟩ := Option.bind_eq_some_iff.mp hf
      rw [ha2]
      obtain ⟨r3, hr3, hf⟩ := Option.bind_eq_some_iff.mp hf
      obtain ⟨hor3, hr3⟩ := cO_of hr3
      refine g_call (pc := 16) (mc := 0) (ms := 0) (.int r3.1) [] [] dX7_feed_16 ml_X7_62 mv_X6_size hor3 (by decide) rfl rfl (by omega) (mX6_size (by omega) hr3) rfl (Nat.le_of_ble_eq_true rfl) hk hn ?_
      refine a_iload_n (pc := 19) dX7_feed_19 rfl ?_
      refine a_iadd (pc := 20) dX7_feed_20 ?_
      refine a_bipush (pc := 21) 100 dX7_feed_21 rfl ?_
      refine a_icmp_le (pc := 23) 29 dX7_feed_23 (by decide) (fun c4 => ?_) (fun c4 => ?_)
      · have hf := (if_pos c4).symm.trans hf
        refine a_iload_n (pc := 29) dX7_feed_29 rfl ?_
        refine a_iconst (pc := 30) 1 dX7_feed_30 rfl ?_
        refine a_isub (pc := 31) dX7_feed_31 ?_
        refine a_istore_n (pc := 32) (ls' := [some (.ref a0), some (.int l1), some (.int l2), some (.int (l2 - 1))]) dX7_feed_32 (by decide) rfl ?_
        refine a_sub (sub_k (sub_k (sub_d (sub_k sub_n)))) ?_
        exact sX7_feed_33 hd hk hn FU r3.2 l1 (l2 - 1) hf
      · have hf := (if_neg c4).symm.trans hf
        refine a_bipush (pc := 26) (-4) dX7_feed_26 rfl ?_
        have hf := Option.some.inj hf
        subst hf
        exact a_ireturn (pc := 28) dX7_feed_28 hk hn ⟨rfl, rfl⟩
    · have hf := (if_neg c5).symm.trans hf
      refine a_sub (sub_d (sub_d (sub_d (sub_k sub_n)))) ?_
      exact sX7_feed_9 hd hk hn hf
set_option maxHeartbeats 4000000 in
theorem mX7_feed {l : Launch} {g : gE} {d : Nat} {a0 : Nat} (hd : 1 ≤ d) {r : Int32 × AH} {S : AH} {l1 : Int32} {l2 : Int32} (hf : X7_feed S a0 l1 l2 = some r) : AM l g d yX7_feed cX7_feed 4 (some .int) 0 0 [.ref a0, .int l1, .int l2] S (Qr (some (.int r.1)) r.2) := by
  refine AM.of rfl (by exact Nat.le_of_ble_eq_true rfl) (fun v h' q => by obtain ⟨rfl, -⟩ := q; exact ⟨_, rfl, rfl⟩) (fun ls e => ?_)
  have e2 : aBeg [.ref a0, .int l1, .int l2] 4 = [some (.ref a0), some (.int l1), some (.int l2), none] := rfl
  rw [e2] at e
  subst e
  refine a_sub (sub_k (sub_k (sub_k (sub_k (sub_n))))) ?_
  exact sX7_feed_0 hd (Nat.le_refl _) (Nat.le_refl _) (hf)

-- PencilStrikes$Bargain.takesFigure(I)Z
def X1_takesFigure_29 (S : AH) (s0 : Int32) : Option (Int32 × AH) :=
  some (s0, S)
def X1_takesFigure_24 (S : AH) : Option (Int32 × AH) :=
  X1_takesFigure_29 S 1
def X1_takesFigure_0 (S : AH) (l0 : Int32) : Option (Int32 × AH) :=
  if l0 = 119 then
    X1_takesFigure_24 S
  else
    if l0 = 105 then
      X1_takesFigure_24 S
    else
      if l0 = 102 then
        X1_takesFigure_24 S
      else
        if l0 = 112 then
          X1_takesFigure_24 S
        else
          X1_takesFigure_29 S 0
def X1_takesFigure (S : AH) (l0 : Int32) : Option (Int32 × AH) := zg (X1_takesFigure_0 S l0)
set_option maxHeartbeats 4000000 in
theorem sX1_takesFigure_29 {l : Launch} {g : gE} {d MC MS' k n : Nat} (hd : 0 ≤ d) (hk : k ≤ MC) (hn : n ≤ MS') {r : Int32 × AH} {S : AH} {s0 : Int32} (hf : X1_takesFigure_29 S s0 = some r) : AW l g d RX1 cX1_takesFigure 1 "takesFigure" MC MS' (Qr (some (.int r.1)) r.2) k n 29 [none] [.int s0] S := by
  unfold X1_takesFigure_29 at hf
  have hf := Option.some.inj hf
  subst hf
  exact a_ireturn (pc := 29) dX1_takesFigure_29 hk hn ⟨rfl, rfl⟩
set_option maxHeartbeats 4000000 in
theorem sX1_takesFigure_24 {l : Launch} {g : gE} {d MC MS' k n : Nat} (hd : 0 ≤ d) (hk : k ≤ MC) (hn : n ≤ MS') {r : Int32 × AH} {S : AH} (hf : X1_takesFigure_24 S = some r) : AW l g d RX1 cX1_takesFigure 1 "takesFigure" MC MS' (Qr (some (.int r.1)) r.2) k n 24 [none] [] S := by
  unfold X1_takesFigure_24 at hf
  refine a_iconst (pc := 24) 1 dX1_takesFigure_24 rfl ?_
  refine a_goto (pc := 25) 29 dX1_takesFigure_25 (by decide) ?_
  exact sX1_takesFigure_29 hd hk hn hf
set_option maxHeartbeats 4000000 in
theorem sX1_takesFigure_0 {l : Launch} {g : gE} {d MC MS' k n : Nat} (hd : 0 ≤ d) (hk : k ≤ MC) (hn : n ≤ MS') {r : Int32 × AH} {S : AH} {l0 : Int32} (hf : X1_takesFigure_0 S l0 = some r) : AW l g d RX1 cX1_takesFigure 1 "takesFigure" MC MS' (Qr (some (.int r.1)) r.2) k n 0 [some (.int l0)] [] S := by
  unfold X1_takesFigure_0 at hf
  refine a_iload_n (pc := 0) dX1_takesFigure_0 rfl ?_
  refine a_bipush (pc := 1) 119 dX1_takesFigure_1 rfl ?_
  refine a_icmp_eq (pc := 3) 24 dX1_takesFigure_3 (by decide) (fun c4 => ?_) (fun c4 => ?_)
  · have hf := (if_pos c4).symm.trans hf
    refine a_sub (sub_d sub_n) ?_
    exact sX1_takesFigure_24 hd hk hn hf
  · have hf := (if_neg c4).symm.trans hf
    refine a_iload_n (pc := 6) dX1_takesFigure_6 rfl ?_
    refine a_bipush (pc := 7) 105 dX1_takesFigure_7 rfl ?_
    refine a_icmp_eq (pc := 9) 24 dX1_takesFigure_9 (by decide) (fun c3 => ?_) (fun c3 => ?_)
    · have hf := (if_pos c3).symm.trans hf
      refine a_sub (sub_d sub_n) ?_
      exact sX1_takesFigure_24 hd hk hn hf
    · have hf := (if_neg c3).symm.trans hf
      refine a_iload_n (pc := 12) dX1_takesFigure_12 rfl ?_
      refine a_bipush (pc := 13) 102 dX1_takesFigure_13 rfl ?_
      refine a_icmp_eq (pc := 15) 24 dX1_takesFigure_15 (by decide) (fun c2 => ?_) (fun c2 => ?_)
      · have hf := (if_pos c2).symm.trans hf
        refine a_sub (sub_d sub_n) ?_
        exact sX1_takesFigure_24 hd hk hn hf
      · have hf := (if_neg c2).symm.trans hf
        refine a_iload_n (pc := 18) dX1_takesFigure_18 rfl ?_
        refine a_bipush (pc := 19) 112 dX1_takesFigure_19 rfl ?_
        refine a_icmp_ne (pc := 21) 28 dX1_takesFigure_21 (by decide) (fun c1 => ?_) (fun c1 => ?_)
        · have hf := (if_neg c1).symm.trans hf
          refine a_iconst (pc := 28) 0 dX1_takesFigure_28 rfl ?_
          refine a_sub (sub_d sub_n) ?_
          exact sX1_takesFigure_29 hd hk hn hf
        · have hf := (if_pos c1).symm.trans hf
          refine a_sub (sub_d sub_n) ?_
          exact sX1_takesFigure_24 hd hk hn hf
set_option maxHeartbeats 4000000 in
theorem mX1_takesFigure {l : Launch} {g : gE} {d : Nat} (hd : 0 ≤ d) {r : Int32 × AH} {S : AH} {l0 : Int32} (hf : X1_takesFigure S l0 = some r) : AM l g d yX1_takesFigure cX1_takesFigure 1 (some .boolean) 0 0 [.int l0] S (Qr (some (.int r.1)) r.2) := by
  refine AM.of rfl (by exact Nat.le_of_ble_eq_true rfl) (fun v h' q => by obtain ⟨rfl, -⟩ := q; refine ⟨_, rfl, ?_⟩; rcases (zg_of hf).2 with e | e <;> rw [e] <;> rfl) (fun ls e => ?_)
  have e2 : aBeg [.int l0] 1 = [some (.int l0)] := rfl
  rw [e2] at e
  subst e
  refine a_sub (sub_k (sub_n)) ?_
  exact sX1_takesFigure_0 hd (Nat.le_refl _) (Nat.le_refl _) ((zg_of hf).1)

-- PencilStrikes$Bargain.isLetter(I)Z
def X1_isLetter_0 (S : AH) (l0 : Int32) : Option (Int32 × AH) :=
  if l0 = 38 then
    some (1, S)
  else
    if l0 = 44 then
      some (1, S)
    else
      if l0 = 59 then
        some (1, S)
      else
        if l0 = 97 then
          some (1, S)
        else
          if l0 = 98 then
            some (1, S)
          else
            if l0 = 109 then
              some (1, S)
            else
              if l0 = 110 then
                some (1, S)
              else
                if l0 = 121 then
                  some (1, S)
                else
                  (X1_takesFigure S l0).bind fun r1 =>
                  some (r1.1, r1.2)
def X1_isLetter (S : AH) (l0 : Int32) : Option (Int32 × AH) := zg (X1_isLetter_0 S l0)
set_option maxHeartbeats 4000000 in
theorem sX1_isLetter_0 {l : Launch} {g : gE} {d MC MS' k n : Nat} (hd : 1 ≤ d) (hk : k ≤ MC) (hn : n ≤ MS') {r : Int32 × AH} {S : AH} {l0 : Int32} (hf : X1_isLetter_0 S l0 = some r) : AW l g d RX1 cX1_isLetter 1 "isLetter" MC MS' (Qr (some (.int r.1)) r.2) k n 0 [some (.int l0)] [] S := by
  unfold X1_isLetter_0 at hf
  refine a_iload_n (pc := 0) dX1_isLetter_0 rfl ?_
  by_cases c2_0 : l0 = 38
  · have hf := (if_pos c2_0).symm.trans hf
    refine a_lookup (pc := 1) 76 dX1_isLetter_1 (by decide) (by show (1 : Int) + Op.lookupswitch.offset [(38, 75), (44, 75), (59, 75), (97, 75), (98, 75), (109, 75), (110, 75), (121, 75)] 77 _ = _; rw [c2_0]; rfl) ?_
    refine a_iconst (pc := 76) 1 dX1_isLetter_76 rfl ?_
    have hf := Option.some.inj hf
    subst hf
    exact a_ireturn (pc := 77) dX1_isLetter_77 hk hn ⟨rfl, rfl⟩
  · have hf := (if_neg c2_0).symm.trans hf
    by_cases c2_1 : l0 = 44
    · have hf := (if_pos c2_1).symm.trans hf
      refine a_lookup (pc := 1) 76 dX1_isLetter_1 (by decide) (by show (1 : Int) + Op.lookupswitch.offset [(38, 75), (44, 75), (59, 75), (97, 75), (98, 75), (109, 75), (110, 75), (121, 75)] 77 _ = _; rw [lv_osw (a := 38) c2_0 rfl, c2_1]; rfl) ?_
      refine a_iconst (pc := 76) 1 dX1_isLetter_76 rfl ?_
      have hf := Option.some.inj hf
      subst hf
      exact a_ireturn (pc := 77) dX1_isLetter_77 hk hn ⟨rfl, rfl⟩
    · have hf := (if_neg c2_1).symm.trans hf
      by_cases c2_2 : l0 = 59
      · have hf := (if_pos c2_2).symm.trans hf
        refine a_lookup (pc := 1) 76 dX1_isLetter_1 (by decide) (by show (1 : Int) + Op.lookupswitch.offset [(38, 75), (44, 75), (59, 75), (97, 75), (98, 75), (109, 75), (110, 75), (121, 75)] 77 _ = _; rw [lv_osw (a := 38) c2_0 rfl, lv_osw (a := 44) c2_1 rfl, c2_2]; rfl) ?_
        refine a_iconst (pc := 76) 1 dX1_isLetter_76 rfl ?_
        have hf := Option.some.inj hf
        subst hf
        exact a_ireturn (pc := 77) dX1_isLetter_77 hk hn ⟨rfl, rfl⟩
      · have hf := (if_neg c2_2).symm.trans hf
        by_cases c2_3 : l0 = 97
        · have hf := (if_pos c2_3).symm.trans hf
          refine a_lookup (pc := 1) 76 dX1_isLetter_1 (by decide) (by show (1 : Int) + Op.lookupswitch.offset [(38, 75), (44, 75), (59, 75), (97, 75), (98, 75), (109, 75), (110, 75), (121, 75)] 77 _ = _; rw [lv_osw (a := 38) c2_0 rfl, lv_osw (a := 44) c2_1 rfl, lv_osw (a := 59) c2_2 rfl, c2_3]; rfl) ?_
          refine a_iconst (pc := 76) 1 dX1_isLetter_76 rfl ?_
          have hf := Option.some.inj hf
          subst hf
          exact a_ireturn (pc := 77) dX1_isLetter_77 hk hn ⟨rfl, rfl⟩
        · have hf := (if_neg c2_3).symm.trans hf
          by_cases c2_4 : l0 = 98
          · have hf := (if_pos c2_4).symm.trans hf
            refine a_lookup (pc := 1) 76 dX1_isLetter_1 (by decide) (by show (1 : Int) + Op.lookupswitch.offset [(38, 75), (44, 75), (59, 75), (97, 75), (98, 75), (109, 75), (110, 75), (121, 75)] 77 _ = _; rw [lv_osw (a := 38) c2_0 rfl, lv_osw (a := 44) c2_1 rfl, lv_osw (a := 59) c2_2 rfl, lv_osw (a := 97) c2_3 rfl, c2_4]; rfl) ?_
            refine a_iconst (pc := 76) 1 dX1_isLetter_76 rfl ?_
            have hf := Option.some.inj hf
            subst hf
            exact a_ireturn (pc := 77) dX1_isLetter_77 hk hn ⟨rfl, rfl⟩
          · have hf := (if_neg c2_4).symm.trans hf
            by_cases c2_5 : l0 = 109
            · have hf := (if_pos c2_5).symm.trans hf
              refine a_lookup (pc := 1) 76 dX1_isLetter_1 (by decide) (by show (1 : Int) + Op.lookupswitch.offset [(38, 75), (44, 75), (59, 75), (97, 75), (98, 75), (109, 75), (110, 75), (121, 75)] 77 _ = _; rw [lv_osw (a := 38) c2_0 rfl, lv_osw (a := 44) c2_1 rfl, lv_osw (a := 59) c2_2 rfl, lv_osw (a := 97) c2_3 rfl, lv_osw (a := 98) c2_4 rfl, c2_5]; rfl) ?_
              refine a_iconst (pc := 76) 1 dX1_isLetter_76 rfl ?_
              have hf := Option.some.inj hf
              subst hf
              exact a_ireturn (pc := 77) dX1_isLetter_77 hk hn ⟨rfl, rfl⟩
            · have hf := (if_neg c2_5).symm.trans hf
              by_cases c2_6 : l0 = 110
              · have hf := (if_pos c2_6).symm.trans hf
                refine a_lookup (pc := 1) 76 dX1_isLetter_1 (by decide) (by show (1 : Int) + Op.lookupswitch.offset [(38, 75), (44, 75), (59, 75), (97, 75), (98, 75), (109, 75), (110, 75), (121, 75)] 77 _ = _; rw [lv_osw (a := 38) c2_0 rfl, lv_osw (a := 44) c2_1 rfl, lv_osw (a := 59) c2_2 rfl, lv_osw (a := 97) c2_3 rfl, lv_osw (a := 98) c2_4 rfl, lv_osw (a := 109) c2_5 rfl, c2_6]; rfl) ?_
                refine a_iconst (pc := 76) 1 dX1_isLetter_76 rfl ?_
                have hf := Option.some.inj hf
                subst hf
                exact a_ireturn (pc := 77) dX1_isLetter_77 hk hn ⟨rfl, rfl⟩
              · have hf := (if_neg c2_6).symm.trans hf
                by_cases c2_7 : l0 = 121
                · have hf := (if_pos c2_7).symm.trans hf
                  refine a_lookup (pc := 1) 76 dX1_isLetter_1 (by decide) (by show (1 : Int) + Op.lookupswitch.offset [(38, 75), (44, 75), (59, 75), (97, 75), (98, 75), (109, 75), (110, 75), (121, 75)] 77 _ = _; rw [lv_osw (a := 38) c2_0 rfl, lv_osw (a := 44) c2_1 rfl, lv_osw (a := 59) c2_2 rfl, lv_osw (a := 97) c2_3 rfl, lv_osw (a := 98) c2_4 rfl, lv_osw (a := 109) c2_5 rfl, lv_osw (a := 110) c2_6 rfl, c2_7]; rfl) ?_
                  refine a_iconst (pc := 76) 1 dX1_isLetter_76 rfl ?_
                  have hf := Option.some.inj hf
                  subst hf
                  exact a_ireturn (pc := 77) dX1_isLetter_77 hk hn ⟨rfl, rfl⟩
                · have hf := (if_neg c2_7).symm.trans hf
                  refine a_lookup (pc := 1) 78 dX1_isLetter_1 (by decide) (by show (1 : Int) + Op.lookupswitch.offset [(38, 75), (44, 75), (59, 75), (97, 75), (98, 75), (109, 75), (110, 75), (121, 75)] 77 _ = _; rw [lv_osw (a := 38) c2_0 rfl, lv_osw (a := 44) c2_1 rfl, lv_osw (a := 59) c2_2 rfl, lv_osw (a := 97) c2_3 rfl, lv_osw (a := 98) c2_4 rfl, lv_osw (a := 109) c2_5 rfl, lv_osw (a := 110) c2_6 rfl, lv_osw (a := 121) c2_7 rfl]; rfl) ?_
                  refine a_iload_n (pc := 78) dX1_isLetter_78 rfl ?_
                  obtain ⟨r1, hr1, hf⟩ := Option.bind_eq_some_iff.mp hf
                  refine g_calls (pc := 79) (mc := 0) (ms := 0) (.int r1.1) [.int l0] [] dX1_isLetter_79 ml_X1_58 ms_X1_takesFigure rfl (by omega) (mX1_takesFigure (by omega) hr1) rfl (Nat.le_of_ble_eq_true rfl) hk hn ?_
                  have hf := Option.some.inj hf
                  subst hf
                  exact a_ireturn (pc := 82) dX1_isLetter_82 hk hn ⟨rfl, rfl⟩
set_option maxHeartbeats 4000000 in
theorem mX1_isLetter {l : Launch} {g : gE} {d : Nat} (hd : 1 ≤ d) {r : Int32 × AH} {S : AH} {l0 : Int32} (hf : X1_isLetter S l0 = some r) : AM l g d yX1_isLetter cX1_isLetter 1 (some .boolean) 0 0 [.int l0] S (Qr (some (.int r.1)) r.2) := by
  refine AM.of rfl (by exact Nat.le_of_ble_eq_true rfl) (fun v h' q => by obtain ⟨rfl, -⟩ := q; refine ⟨_, rfl, ?_⟩; rcases (zg_of hf).2 with e | e <;> rw [e] <;> rfl) (fun ls e => ?_)
  have e2 : aBeg [.int l0] 1 = [some (.int l0)] := rfl
  rw [e2] at e
  subst e
  refine a_sub (sub_k (sub_n)) ?_
  exact sX1_isLetter_0 hd (Nat.le_refl _) (Nat.le_refl _) ((zg_of hf).1)

-- PencilStrikes$Text.at(I)I
def X6_at_31 (S : AH) (a0 : Nat) (s0 : Int32) : Option (Int32 × AH) :=
  some (s0, S)
def X6_at_30 (S : AH) (a0 : Nat) : Option (Int32 × AH) :=
  X6_at_31 S a0 (-1)
def X6_at_0 (S : AH) (a0 : Nat) (l1 : Int32) : Option (Int32 × AH) :=
  if l1 < 0 then
    X6_at_30 S a0
  else
    (gI S a0 6 1).bind fun x1 =>
    if x1 ≤ l1 then
      X6_at_30 S a0
    else
      (gQ S a0 6 0).bind fun x2 =>
      (aN S x2).bind fun x3 =>
      if x3 ≤ l1 then
        X6_at_30 S a0
      else
        (gQ S a0 6 0).bind fun x4 =>
        (aA 0 S x4 l1).bind fun x5 =>
        X6_at_31 S a0 x5
def X6_at (S : AH) (a0 : Nat) (l1 : Int32) : Option (Int32 × AH) := X6_at_0 S a0 l1
set_option maxHeartbeats 4000000 in
theorem sX6_at_31 {l : Launch} {g : gE} {d MC MS' k n : Nat} {a0 : Nat} (hd : 0 ≤ d) (hk : k ≤ MC) (hn : n ≤ MS') {r : Int32 × AH} {S : AH} {s0 : Int32} (hf : X6_at_31 S a0 s0 = some r) : AW l g d RX6 cX6_at 2 "at" MC MS' (Qr (some (.int r.1)) r.2) k n 31 [none, none] [.int s0] S := by
  unfold X6_at_31 at hf
  have hf := Option.some.inj hf
  subst hf
  exact a_ireturn (pc := 31) dX6_at_31 hk hn ⟨rfl, rfl⟩
set_option maxHeartbeats 4000000 in
theorem sX6_at_30 {l : Launch} {g : gE} {d MC MS' k n : Nat} {a0 : Nat} (hd : 0 ≤ d) (hk : k ≤ MC) (hn : n ≤ MS') {r : Int32 × AH} {S : AH} (hf : X6_at_30 S a0 = some r) : AW l g d RX6 cX6_at 2 "at" MC MS' (Qr (some (.int r.1)) r.2) k n 30 [none, none] [] S := by
  unfold X6_at_30 at hf
  refine a_iconst (pc := 30) (-1) dX6_at_30 rfl ?_
  exact sX6_at_31 hd hk hn hf
set_option maxHeartbeats 4000000 in
theorem sX6_at_0 {l : Launch} {g : gE} {d MC MS' k n : Nat} {a0 : Nat} (hd : 0 ≤ d) (hk : k ≤ MC) (hn : n ≤ MS') {r : Int32 × AH} {S : AH} {l1 : Int32} (hf : X6_at_0 S a0 l1 = some r) : AW l g d RX6 cX6_at 2 "at" MC MS' (Qr (some (.int r.1)) r.2) k n 0 [some (.ref a0), some (.int l1)] [] S := by
  unfold X6_at_0 at hf
  refine a_iload_n (pc := 0) dX6_at_0 rfl ?_
  refine a_if_lt (pc := 1) 30 dX6_at_1 (by decide) (fun c8 => ?_) (fun c8 => ?_)
  · have hf := (if_pos c8).symm.trans hf
    refine a_sub (sub_d (sub_d sub_n)) ?_
    exact sX6_at_30 hd hk hn hf
  · have hf := (if_neg c8).symm.trans hf
    refine a_iload_n (pc := 4) dX6_at_4 rfl ?_
    refine a_aload_n (pc := 5) dX6_at_5 rfl (isRv_r _) ?_
    obtain ⟨x1, hx1, hf⟩ := Option.bind_eq_some_iff.mp hf
    refine g_getI (pc := 6) dX6_at_6 fl_X6_15 hx1 ?_
    refine a_icmp_ge (pc := 9) 30 dX6_at_9 (by decide) (fun c7 => ?_) (fun c7 => ?_)
    · have hf := (if_pos c7).symm.trans hf
      refine a_sub (sub_d (sub_d sub_n)) ?_
      exact sX6_at_30 hd hk hn hf
    · have hf := (if_neg c7).symm.trans hf
      refine a_iload_n (pc := 12) dX6_at_12 rfl ?_
      refine a_aload_n (pc := 13) dX6_at_13 rfl (isRv_r _) ?_
      obtain ⟨x2, hx2, hf⟩ := Option.bind_eq_some_iff.mp hf
      refine g_getQ (pc := 14) dX6_at_14 fl_X6_9 hx2 ?_
      obtain ⟨x3, hx3, hf⟩ := Option.bind_eq_some_iff.mp hf
      refine g_alen (pc := 17) dX6_at_17 hx3 ?_
      refine a_icmp_ge (pc := 18) 30 dX6_at_18 (by decide) (fun c6 => ?_) (fun c6 => ?_)
      · have hf := (if_pos c6).symm.trans hf
        refine a_sub (sub_d (sub_d sub_n)) ?_
        exact sX6_at_30 hd hk hn hf
      · have hf := (if_neg c6).symm.trans hf
        refine a_aload_n (pc := 21) dX6_at_21 rfl (isRv_r _) ?_
        obtain ⟨x4, hx4, hf⟩ := Option.bind_eq_some_iff.mp hf
        refine g_getQ (pc := 22) dX6_at_22 fl_X6_9 hx4 ?_
        refine a_iload_n (pc := 25) dX6_at_25 rfl ?_
        obtain ⟨x5, hx5, hf⟩ := Option.bind_eq_some_iff.mp hf
        refine g_iald (pc := 26) dX6_at_26 hx5 ?_
        refine a_goto (pc := 27) 31 dX6_at_27 (by decide) ?_
        refine a_sub (sub_d (sub_d sub_n)) ?_
        exact sX6_at_31 hd hk hn hf
set_option maxHeartbeats 4000000 in
theorem mX6_at {l : Launch} {g : gE} {d : Nat} {a0 : Nat} (hd : 0 ≤ d) {r : Int32 × AH} {S : AH} {l1 : Int32} (hf : X6_at S a0 l1 = some r) : AM l g d yX6_at cX6_at 2 (some .int) 0 0 [.ref a0, .int l1] S (Qr (some (.int r.1)) r.2) := by
  refine AM.of rfl (by exact Nat.le_of_ble_eq_true rfl) (fun v h' q => by obtain ⟨rfl, -⟩ := q; exact ⟨_, rfl, rfl⟩) (fun ls e => ?_)
  have e2 : aBeg [.ref a0, .int l1] 2 = [some (.ref a0), some (.int l1)] := rfl
  rw [e2] at e
  subst e
  refine a_sub (sub_k (sub_k (sub_n))) ?_
  exact sX6_at_0 hd (Nat.le_refl _) (Nat.le_refl _) (hf)

-- PencilStrikes$Text.isFigure(I)Z
def X6_isFigure_17 (S : AH) (s0 : Int32) : Option (Int32 × AH) :=
  some (s0, S)
def X6_isFigure_16 (S : AH) : Option (Int32 × AH) :=
  X6_isFigure_17 S 0
def X6_isFigure_0 (S : AH) (l0 : Int32) : Option (Int32 × AH) :=
  if l0 < 48 then
    X6_isFigure_16 S
  else
    if 57 < l0 then
      X6_isFigure_16 S
    else
      X6_isFigure_17 S 1
def X6_isFigure (S : AH) (l0 : Int32) : Option (Int32 × AH) := zg (X6_isFigure_0 S l0)
set_option maxHeartbeats 4000000 in
theorem sX6_isFigure_17 {l : Launch} {g : gE} {d MC MS' k n : Nat} (hd : 0 ≤ d) (hk : k ≤ MC) (hn : n ≤ MS') {r : Int32 × AH} {S : AH} {s0 : Int32} (hf : X6_isFigure_17 S s0 = some r) : AW l g d RX6 cX6_isFigure 1 "isFigure" MC MS' (Qr (some (.int r.1)) r.2) k n 17 [none] [.int s0] S := by
  unfold X6_isFigure_17 at hf
  have hf := Option.some.inj hf
  subst hf
  exact a_ireturn (pc := 17) dX6_isFigure_17 hk hn ⟨rfl, rfl⟩
set_option maxHeartbeats 4000000 in
theorem sX6_isFigure_16 {l : Launch} {g : gE} {d MC MS' k n : Nat} (hd : 0 ≤ d) (hk : k ≤ MC) (hn : n ≤ MS') {r : Int32 × AH} {S : AH} (hf : X6_isFigure_16 S = some r) : AW l g d RX6 cX6_isFigure 1 "isFigure" MC MS' (Qr (some (.int r.1)) r.2) k n 16 [none] [] S := by
  unfold X6_isFigure_16 at hf
  refine a_iconst (pc := 16) 0 dX6_isFigure_16 rfl ?_
  exact sX6_isFigure_17 hd hk hn hf
set_option maxHeartbeats 4000000 in
theorem sX6_isFigure_0 {l : Launch} {g : gE} {d MC MS' k n : Nat} (hd : 0 ≤ d) (hk : k ≤ MC) (hn : n ≤ MS') {r : Int32 × AH} {S : AH} {l0 : Int32} (hf : X6_isFigure_0 S l0 = some r) : AW l g d RX6 cX6_isFigure 1 "isFigure" MC MS' (Qr (some (.int r.1)) r.2) k n 0 [some (.int l0)] [] S := by
  unfold X6_isFigure_0 at hf
  refine a_iload_n (pc := 0) dX6_isFigure_0 rfl ?_
  refine a_bipush (pc := 1) 48 dX6_isFigure_1 rfl ?_
  refine a_icmp_lt (pc := 3) 16 dX6_isFigure_3 (by decide) (fun c2 => ?_) (fun c2 => ?_)
  · have hf := (if_pos c2).symm.trans hf
    refine a_sub (sub_d sub_n) ?_
    exact sX6_isFigure_16 hd hk hn hf
  · have hf := (if_neg c2).symm.trans hf
    refine a_iload_n (pc := 6) dX6_isFigure_6 rfl ?_
    refine a_bipush (pc := 7) 57 dX6_isFigure_7 rfl ?_
    refine a_icmp_gt (pc := 9) 16 dX6_isFigure_9 (by decide) (fun c1 => ?_) (fun c1 => ?_)
    · have hf := (if_pos c1).symm.trans hf
      refine a_sub (sub_d sub_n) ?_
      exact sX6_isFigure_16 hd hk hn hf
    · have hf := (if_neg c1).symm.trans hf
      refine a_iconst (pc := 12) 1 dX6_isFigure_12 rfl ?_
      refine a_goto (pc := 13) 17 dX6_isFigure_13 (by decide) ?_
      refine a_sub (sub_d sub_n) ?_
      exact sX6_isFigure_17 hd hk hn hf
set_option maxHeartbeats 4000000 in
theorem mX6_isFigure {l : Launch} {g : gE} {d : Nat} (hd : 0 ≤ d) {r : Int32 × AH} {S : AH} {l0 : Int32} (hf : X6_isFigure S l0 = some r) : AM l g d yX6_isFigure cX6_isFigure 1 (some .boolean) 0 0 [.int l0] S (Qr (some (.int r.1)) r.2) := by
  refine AM.of rfl (by exact Nat.le_of_ble_eq_true rfl) (fun v h' q => by obtain ⟨rfl, -⟩ := q; refine ⟨_, rfl, ?_⟩; rcases (zg_of hf).2 with e | e <;> rw [e] <;> rfl) (fun ls e => ?_)
  have e2 : aBeg [.int l0] 1 = [some (.int l0)] := rfl
  rw [e2] at e
  subst e
  refine a_sub (sub_k (sub_n)) ?_
  exact sX6_isFigure_0 hd (Nat.le_refl _) (Nat.le_refl _) ((zg_of hf).1)

-- PencilStrikes$Bargain.faultOf(LPencilStrikes$Text;)I
def X1_faultOf_51 (rec4 : AH → Option Nat → Int32 → Int32 → Option (Int32 × AH)) (S : AH) (l0 : Option Nat) (l1 : Int32) (l2 : Int32) : Option (Int32 × AH) :=
  (l0).bind fun a1 =>
  (cO S a1 6 (X6_size S a1)).bind fun r2 =>
  if l1 < r2.1 then
    rec4 r2.2 (some a1) l1 (l2 + 1)
  else
    some ((-1), r2.2)
def X1_faultOf_4 : Nat → AH → Option Nat → Int32 → Int32 → Option (Int32 × AH)
  | 0, _, _, _, _ => none
  | fn + 1, S, l0, l1, l2 =>
    if 12 ≤ l2 then
      some (l1, S)
    else
      (l0).bind fun a1 =>
      (cO S a1 6 (X6_at S a1 l1)).bind fun r2 =>
      (X1_isLetter r2.2 r2.1).bind fun r3 =>
      if r3.1 = 0 then
        some (l1, r3.2)
      else
        (X1_takesFigure r3.2 r2.1).bind fun r4 =>
        if r4.1 = 0 then
          X1_faultOf_51 (X1_faultOf_4 fn) r4.2 (some a1) (l1 + 1) l2
        else
          (cO r4.2 a1 6 (X6_at r4.2 a1 (l1 + 1))).bind fun r5 =>
          (X6_isFigure r5.2 r5.1).bind fun r6 =>
          if r6.1 = 0 then
            some ((l1 + 1), r6.2)
          else
            X1_faultOf_51 (X1_faultOf_4 fn) r6.2 (some a1) ((l1 + 1) + 1) l2
def X1_faultOf_0 (S : AH) (l0 : Option Nat) : Option (Int32 × AH) :=
  X1_faultOf_4 FU S l0 0 0
def X1_faultOf (S : AH) (l0 : Option Nat) : Option (Int32 × AH) := X1_faultOf_0 S l0
set_option maxHeartbeats 4000000 in
theorem sX1_faultOf_51 {l : Launch} {g : gE} {d MC MS' k n : Nat} (hd : 2 ≤ d) (hk : k ≤ MC) (hn : n ≤ MS') {r : Int32 × AH} {rec4 : AH → Option Nat → Int32 → Int32 → Option (Int32 × AH)} (hlp4 : ∀ (S : AH) (l0 : Option Nat) (l1 : Int32) (l2 : Int32), rec4 S l0 l1 l2 = some r → AW l g d RX1 cX1_faultOf 4 "faultOf" MC MS' (Qr (some (.int r.1)) r.2) k n 4 [some (va_rf l0), some (.int l1), some (.int l2), none] [] S) {S : AH} {l0 : Option Nat} {l1 : Int32} {l2 : Int32} (hf : X1_faultOf_51 rec4 S l0 l1 l2 = some r) : AW l g d RX1 cX1_faultOf 4 "faultOf" MC MS' (Qr (some (.int r.1)) r.2) k n 51 [some (va_rf l0), some (.int l1), some (.int l2), none] [] S := by
  unfold X1_faultOf_51 at hf
  refine a_iload_n (pc := 51) dX1_faultOf_51 rfl ?_
  refine a_aload_n (pc := 52) dX1_faultOf_52 rfl (isRv_rf _) ?_
  obtain ⟨a1, ha1, hf⟩ := Option.bind_eq_some_iff.mp hf
  rw [ha1]
  obtain ⟨r2, hr2, hf⟩ := Option.bind_eq_some_iff.mp hf
  obtain ⟨hor2, hr2⟩ := cO_of hr2
  refine g_call (pc := 53) (mc := 0) (ms := 0) (.int r2.1) [] [.int l1] dX1_faultOf_53 ml_X1_64 mv_X6_size hor2 (by decide) rfl rfl (by omega) (mX6_size (by omega) hr2) rfl (Nat.le_of_ble_eq_true rfl) hk hn ?_
  refine a_icmp_lt (pc := 56) 61 dX1_faultOf_56 (by decide) (fun c3 => ?_) (fun c3 => ?_)
  · have hf := (if_pos c3).symm.trans hf
    refine a_iinc (pc := 61) (ls' := [some (.ref a1), some (.int l1), some (.int (l2 + 1)), none]) (l2 + 1) dX1_faultOf_61 rfl rfl (by decide) rfl ?_
    refine a_goto (pc := 64) 4 dX1_faultOf_64 (by decide) ?_
    exact hlp4 r2.2 (some a1) l1 (l2 + 1) hf
  · have hf := (if_neg c3).symm.trans hf
    refine a_iconst (pc := 59) (-1) dX1_faultOf_59 rfl ?_
    have hf := Option.some.inj hf
    subst hf
    exact a_ireturn (pc := 60) dX1_faultOf_60 hk hn ⟨rfl, rfl⟩
set_option maxHeartbeats 4000000 in
theorem sX1_faultOf_4 {l : Launch} {g : gE} {d MC MS' k n : Nat} (hd : 2 ≤ d) (hk : k ≤ MC) (hn : n ≤ MS') {r : Int32 × AH} : ∀ (fn : Nat) (S : AH) (l0 : Option Nat) (l1 : Int32) (l2 : Int32), X1_faultOf_4 fn S l0 l1 l2 = some r → AW l g d RX1 cX1_faultOf 4 "faultOf" MC MS' (Qr (some (.int r.1)) r.2) k n 4 [some (va_rf l0), some (.int l1), some (.int l2), none] [] S := by
  intro fn
  induction fn with
  | zero =>
    intro S l0 l1 l2 hf
    rw [X1_faultOf_4] at hf
    cases hf
  | succ fn ih =>
    intro S l0 l1 l2 hf
    rw [X1_faultOf_4] at hf
    refine a_iload_n (pc := 4) dX1_faultOf_4 rfl ?_
    refine a_bipush (pc := 5) 12 dX1_faultOf_5 rfl ?_
    refine a_icmp_ge (pc := 7) 67 dX1_faultOf_7 (by decide) (fun c10 => ?_) (fun c10 => ?_)
    · have hf := (if_pos c10).symm.trans hf
      refine a_iload_n (pc := 67) dX1_faultOf_67 rfl ?_
      have hf := Option.some.inj hf
      subst hf
      exact a_ireturn (pc := 68) dX1_faultOf_68 hk hn ⟨rfl, rfl⟩
    · have hf := (if_neg c10).symm.trans hf
      refine a_aload_n (pc := 10) dX1_faultOf_10 rfl (isRv_rf _) ?_
      refine a_iload_n (pc := 11) dX1_faultOf_11 rfl ?_
      obtain ⟨a1, ha1, hf⟩ := Option.bind_eq_some_iff.mp hf
      rw [ha1]
      obtain ⟨r2, hr2, hf⟩ := Option.bind_eq_some_iff.mp hf
      obtain ⟨hor2, hr2⟩ := cO_of hr2
      refine g_call (pc := 12) (mc := 0) (ms := 0) (.int r2.1) [.int l1] [] dX1_faultOf_12 ml_X1_49 mv_X6_at hor2 (by decide) rfl rfl (by omega) (mX6_at (by omega) hr2) rfl (Nat.le_of_ble_eq_true rfl) hk hn ?_
      refine a_istore_n (pc := 15) (ls' := [some (.ref a1), some (.int l1), some (.int l2), some (.int (r2.1))]) dX1_faultOf_15 (by decide) rfl ?_
      refine a_iload_n (pc := 16) dX1_faultOf_16 rfl ?_
      obtain ⟨r3, hr3, hf⟩ := Option.bind_eq_some_iff.mp hf
      refine g_calls (pc := 17) (mc := 0) (ms := 0) (.int r3.1) [.int (r2.1)] [] dX1_faultOf_17 ml_X1_55 ms_X1_isLetter rfl (by omega) (mX1_isLetter (by omega) hr3) rfl (Nat.le_of_ble_eq_true rfl) hk hn ?_
      refine a_if_ne (pc := 20) 25 dX1_faultOf_20 (by decide) (fun c9 => ?_) (fun c9 => ?_)
      · have hf := (if_neg c9).symm.trans hf
        refine a_iinc (pc := 25) (ls' := [some (.ref a1), some (.int (l1 + 1)), some (.int l2), some (.int (r2.1))]) (l1 + 1) dX1_faultOf_25 rfl rfl (by decide) rfl ?_
        refine a_iload_n (pc := 28) dX1_faultOf_28 rfl ?_
        obtain ⟨r4, hr4, hf⟩ := Option.bind_eq_some_iff.mp hf
        refine g_calls (pc := 29) (mc := 0) (ms := 0) (.int r4.1) [.int (r2.1)] [] dX1_faultOf_29 ml_X1_58 ms_X1_takesFigure rfl (by omega) (mX1_takesFigure (by omega) hr4) rfl (Nat.le_of_ble_eq_true rfl) hk hn ?_
        refine a_if_eq (pc := 32) 51 dX1_faultOf_32 (by decide) (fun c8 => ?_) (fun c8 => ?_)
        · have hf := (if_pos c8).symm.trans hf
          refine a_sub (sub_k (sub_k (sub_k (sub_d sub_n)))) ?_
          exact sX1_faultOf_51 hd hk hn ih hf
        · have hf := (if_neg c8).symm.trans hf
          refine a_aload_n (pc := 35) dX1_faultOf_35 rfl (isRv_r _) ?_
          refine a_iload_n (pc := 36) dX1_faultOf_36 rfl ?_
          obtain ⟨r5, hr5, hf⟩ := Option.bind_eq_some_iff.mp hf
          obtain ⟨hor5, hr5⟩ := cO_of hr5
          refine g_call (pc := 37) (mc := 0) (ms := 0) (.int r5.1) [.int (l1 + 1)] [] dX1_faultOf_37 ml_X1_49 mv_X6_at hor5 (by decide) rfl rfl (by omega) (mX6_at (by omega) hr5) rfl (Nat.le_of_ble_eq_true rfl) hk hn ?_
          obtain ⟨r6, hr6, hf⟩ := Option.bind_eq_some_iff.mp hf
          refine g_calls (pc := 40) (mc := 0) (ms := 0) (.int r6.1) [.int (r5.1)] [] dX1_faultOf_40 ml_X1_61 ms_X6_isFigure rfl (by omega) (mX6_isFigure (by omega) hr6) rfl (Nat.le_of_ble_eq_true rfl) hk hn ?_
          refine a_if_ne (pc := 43) 48 dX1_faultOf_43 (by decide) (fun c7 => ?_) (fun c7 => ?_)
          · have hf := (if_neg c7).symm.trans hf
            refine a_iinc (pc := 48) (ls' := [some (.ref a1), some (.int ((l1 + 1) + 1)), some (.int l2), some (.int (r2.1))]) ((l1 + 1) + 1) dX1_faultOf_48 rfl rfl (by decide) rfl ?_
            refine a_sub (sub_k (sub_k (sub_k (sub_d sub_n)))) ?_
            exact sX1_faultOf_51 hd hk hn ih hf
          · have hf := (if_pos c7).symm.trans hf
            refine a_iload_n (pc := 46) dX1_faultOf_46 rfl ?_
            have hf := Option.some.inj hf
            subst hf
            exact a_ireturn (pc := 47) dX1_faultOf_47 hk hn ⟨rfl, rfl⟩
      · have hf := (if_pos c9).symm.trans hf
        refine a_iload_n (pc := 23) dX1_faultOf_23 rfl ?_
        have hf := Option.some.inj hf
        subst hf
        exact a_ireturn (pc := 24) dX1_faultOf_24 hk hn ⟨rfl, rfl⟩
set_option maxHeartbeats 4000000 in
theorem sX1_faultOf_0 {l : Launch} {g : gE} {d MC MS' k n : Nat} (hd : 2 ≤ d) (hk : k ≤ MC) (hn : n ≤ MS') {r : Int32 × AH} {S : AH} {l0 : Option Nat} (hf : X1_faultOf_0 S l0 = some r) : AW l g d RX1 cX1_faultOf 4 "faultOf" MC MS' (Qr (some (.int r.1)) r.2) k n 0 [some (va_rf l0), none, none, none] [] S := by
  unfold X1_faultOf_0 at hf
  refine a_iconst (pc := 0) 0 dX1_faultOf_0 rfl ?_
  refine a_istore_n (pc := 1) (ls' := [some (va_rf l0), some (.int 0), none, none]) dX1_faultOf_1 (by decide) (aSet_ref rfl (va_rf_cat _) rfl) ?_
  refine a_iconst (pc := 2) 0 dX1_faultOf_2 rfl ?_
  refine a_istore_n (pc := 3) (ls' := [some (va_rf l0), some (.int 0), some (.int 0), none]) dX1_faultOf_3 (by decide) rfl ?_
  exact sX1_faultOf_4 hd hk hn FU S l0 0 0 hf
set_option maxHeartbeats 4000000 in
theorem mX1_faultOf {l : Launch} {g : gE} {d : Nat} (hd : 2 ≤ d) {r : Int32 × AH} {S : AH} {l0 : Option Nat} (hf : X1_faultOf S l0 = some r) : AM l g d yX1_faultOf cX1_faultOf 4 (some .int) 0 0 [va_rf l0] S (Qr (some (.int r.1)) r.2) := by
  refine AM.of rfl (by cases l0 <;> exact Nat.le_of_ble_eq_true rfl) (fun v h' q => by obtain ⟨rfl, -⟩ := q; exact ⟨_, rfl, rfl⟩) (fun ls e => ?_)
  have e2 : aBeg [va_rf l0] 4 = [some (va_rf l0), none, none, none] := (by cases l0 <;> rfl)
  rw [e2] at e
  subst e
  refine a_sub (sub_k (sub_k (sub_k (sub_k (sub_n))))) ?_
  exact sX1_faultOf_0 hd (Nat.le_refl _) (Nat.le_refl _) (hf)

-- PencilStrikes$LawReader.at()I
def X4_at_43 (S : AH) (a0 : Nat) (s0 : Int32) : Option (Int32 × AH) :=
  some (s0, S)
def X4_at_42 (S : AH) (a0 : Nat) : Option (Int32 × AH) :=
  X4_at_43 S a0 (-1)
def X4_at_0 (S : AH) (a0 : Nat) : Option (Int32 × AH) :=
  (gI S a0 4 4).bind fun x1 =>
  if x1 < 0 then
    X4_at_42 S a0
  else
    (gI S a0 4 4).bind fun x2 =>
    (gI S a0 4 2).bind fun x3 =>
    if x3 ≤ x2 then
      X4_at_42 S a0
    else
      (gI S a0 4 4).bind fun x4 =>
      (gQ S a0 4 0).bind fun x5 =>
      (aN S x5).bind fun x6 =>
      if x6 ≤ x4 then
        X4_at_42 S a0
      else
        (gQ S a0 4 0).bind fun x7 =>
        (gI S a0 4 4).bind fun x8 =>
        (aA 0 S x7 x8).bind fun x9 =>
        X4_at_43 S a0 x9
def X4_at (S : AH) (a0 : Nat) : Option (Int32 × AH) := X4_at_0 S a0
set_option maxHeartbeats 4000000 in
theorem sX4_at_43 {l : Launch} {g : gE} {d MC MS' k n : Nat} {a0 : Nat} (hd : 0 ≤ d) (hk : k ≤ MC) (hn : n ≤ MS') {r : Int32 × AH} {S : AH} {s0 : Int32} (hf : X4_at_43 S a0 s0 = some r) : AW l g d RX4 cX4_at 1 "at" MC MS' (Qr (some (.int r.1)) r.2) k n 43 [none] [.int s0] S := by
  unfold X4_at_43 at hf
  have hf := Option.some.inj hf
  subst hf
  exact a_ireturn (pc := 43) dX4_at_43 hk hn ⟨rfl, rfl⟩
set_option maxHeartbeats 4000000 in
theorem sX4_at_42 {l : Launch} {g : gE} {d MC MS' k n : Nat} {a0 : Nat} (hd : 0 ≤ d) (hk : k ≤ MC) (hn : n ≤ MS') {r : Int32 × AH} {S : AH} (hf : X4_at_42 S a0 = some r) : AW l g d RX4 cX4_at 1 "at" MC MS' (Qr (some (.int r.1)) r.2) k n 42 [none] [] S := by
  unfold X4_at_42 at hf
  refine a_iconst (pc := 42) (-1) dX4_at_42 rfl ?_
  exact sX4_at_43 hd hk hn hf
set_option maxHeartbeats 4000000 in
theorem sX4_at_0 {l : Launch} {g : gE} {d MC MS' k n : Nat} {a0 : Nat} (hd : 0 ≤ d) (hk : k ≤ MC) (hn : n ≤ MS') {r : Int32 × AH} {S : AH} (hf : X4_at_0 S a0 = some r) : AW l g d RX4 cX4_at 1 "at" MC MS' (Qr (some (.int r.1)) r.2) k n 0 [some (.ref a0)] [] S := by
  unfold X4_at_0 at hf
  refine a_aload_n (pc := 0) dX4_at_0 rfl (isRv_r _) ?_
  obtain ⟨x1, hx1, hf⟩ := Option.bind_eq_some_iff.mp hf
  refine g_getI (pc := 1) dX4_at_1 fl_X4_28 hx1 ?_
  refine a_if_lt (pc := 4) 42 dX4_at_4 (by decide) (fun c12 => ?_) (fun c12 => ?_)
  · have hf := (if_pos c12).symm.trans hf
    refine a_sub (sub_d sub_n) ?_
    exact sX4_at_42 hd hk hn hf
  · have hf := (if_neg c12).symm.trans hf
    refine a_aload_n (pc := 7) dX4_at_7 rfl (isRv_r _) ?_
    obtain ⟨x2, hx2, hf⟩ := Option.bind_eq_some_iff.mp hf
    refine g_getI (pc := 8) dX4_at_8 fl_X4_28 hx2 ?_
    refine a_aload_n (pc := 11) dX4_at_11 rfl (isRv_r _) ?_
    obtain ⟨x3, hx3, hf⟩ := Option.bind_eq_some_iff.mp hf
    refine g_getI (pc := 12) dX4_at_12 fl_X4_24 hx3 ?_
    refine a_icmp_ge (pc := 15) 42 dX4_at_15 (by decide) (fun c11 => ?_) (fun c11 => ?_)
    · have hf := (if_pos c11).symm.trans hf
      refine a_sub (sub_d sub_n) ?_
      exact sX4_at_42 hd hk hn hf
    · have hf := (if_neg c11).symm.trans hf
      refine a_aload_n (pc := 18) dX4_at_18 rfl (isRv_r _) ?_
      obtain ⟨x4, hx4, hf⟩ := Option.bind_eq_some_iff.mp hf
      refine g_getI (pc := 19) dX4_at_19 fl_X4_28 hx4 ?_
      refine a_aload_n (pc := 22) dX4_at_22 rfl (isRv_r _) ?_
      obtain ⟨x5, hx5, hf⟩ := Option.bind_eq_some_iff.mp hf
      refine g_getQ (pc := 23) dX4_at_23 fl_X4_9 hx5 ?_
      obtain ⟨x6, hx6, hf⟩ := Option.bind_eq_some_iff.mp hf
      refine g_alen (pc := 26) dX4_at_26 hx6 ?_
      refine a_icmp_ge (pc := 27) 42 dX4_at_27 (by decide) (fun c10 => ?_) (fun c10 => ?_)
      · have hf := (if_pos c10).symm.trans hf
        refine a_sub (sub_d sub_n) ?_
        exact sX4_at_42 hd hk hn hf
      · have hf := (if_neg c10).symm.trans hf
        refine a_aload_n (pc := 30) dX4_at_30 rfl (isRv_r _) ?_
        obtain ⟨x7, hx7, hf⟩ := Option.bind_eq_some_iff.mp hf
        refine g_getQ (pc := 31) dX4_at_31 fl_X4_9 hx7 ?_
        refine a_aload_n (pc := 34) dX4_at_34 rfl (isRv_r _) ?_
        obtain ⟨x8, hx8, hf⟩ := Option.bind_eq_some_iff.mp hf
        refine g_getI (pc := 35) dX4_at_35 fl_X4_28 hx8 ?_
        obtain ⟨x9, hx9, hf⟩ := Option.bind_eq_some_iff.mp hf
        refine g_iald (pc := 38) dX4_at_38 hx9 ?_
        refine a_goto (pc := 39) 43 dX4_at_39 (by decide) ?_
        refine a_sub (sub_d sub_n) ?_
        exact sX4_at_43 hd hk hn hf
set_option maxHeartbeats 4000000 in
theorem mX4_at {l : Launch} {g : gE} {d : Nat} {a0 : Nat} (hd : 0 ≤ d) {r : Int32 × AH} {S : AH} (hf : X4_at S a0 = some r) : AM l g d yX4_at cX4_at 1 (some .int) 0 0 [.ref a0] S (Qr (some (.int r.1)) r.2) := by
  refine AM.of rfl (by exact Nat.le_of_ble_eq_true rfl) (fun v h' q => by obtain ⟨rfl, -⟩ := q; exact ⟨_, rfl, rfl⟩) (fun ls e => ?_)
  have e2 : aBeg [.ref a0] 1 = [some (.ref a0)] := rfl
  rw [e2] at e
  subst e
  refine a_sub (sub_k (sub_n)) ?_
  exact sX4_at_0 hd (Nat.le_refl _) (Nat.le_refl _) (hf)

-- PencilStrikes$LawReader.addStep(I)Z
def X4_addStep_39 (S : AH) (a0 : Nat) : Option (Int32 × AH) :=
  some (1, S)
def X4_addStep_0 (S : AH) (a0 : Nat) (l1 : Int32) : Option (Int32 × AH) :=
  (gI S a0 4 3).bind fun x1 =>
  if x1 < 0 then
    X4_addStep_39 S a0
  else
    (gI S a0 4 3).bind fun x2 =>
    (gQ S a0 4 1).bind fun x3 =>
    (aN S x3).bind fun x4 =>
    if x4 ≤ x2 then
      X4_addStep_39 S a0
    else
      (gQ S a0 4 1).bind fun x5 =>
      (gI S a0 4 3).bind fun x6 =>
      (uA 0 S x5 x6 l1).bind fun S7 =>
      (gI S7 a0 4 3).bind fun x8 =>
      (sI S7 a0 4 3 (x8 + 1)).bind fun S9 =>
      X4_addStep_39 S9 a0
def X4_addStep (S : AH) (a0 : Nat) (l1 : Int32) : Option (Int32 × AH) := zg (X4_addStep_0 S a0 l1)
set_option maxHeartbeats 4000000 in
theorem sX4_addStep_39 {l : Launch} {g : gE} {d MC MS' k n : Nat} {a0 : Nat} (hd : 0 ≤ d) (hk : k ≤ MC) (hn : n ≤ MS') {r : Int32 × AH} {S : AH} (hf : X4_addStep_39 S a0 = some r) : AW l g d RX4 cX4_addStep 2 "addStep" MC MS' (Qr (some (.int r.1)) r.2) k n 39 [none, none] [] S := by
  unfold X4_addStep_39 at hf
  refine a_iconst (pc := 39) 1 dX4_addStep_39 rfl ?_
  have hf := Option.some.inj hf
  subst hf
  exact a_ireturn (pc := 40) dX4_addStep_40 hk hn ⟨rfl, rfl⟩
set_option maxHeartbeats 4000000 in
theorem sX4_addStep_0 {l : Launch} {g : gE} {d MC MS' k n : Nat} {a0 : Nat} (hd : 0 ≤ d) (hk : k ≤ MC) (hn : n ≤ MS') {r : Int32 × AH} {S : AH} {l1 : Int32} (hf : X4_addStep_0 S a0 l1 = some r) : AW l g d RX4 cX4_addStep 2 "addStep" MC MS' (Qr (some (.int r.1)) r.2) k n 0 [some (.ref a0), some (.int l1)] [] S := by
  unfold X4_addStep_0 at hf
  refine a_aload_n (pc := 0) dX4_addStep_0 rfl (isRv_r _) ?_
  obtain ⟨x1, hx1, hf⟩ := Option.bind_eq_some_iff.mp hf
  refine g_getI (pc := 1) dX4_addStep_1 fl_X4_31 hx1 ?_
  refine a_if_lt (pc := 4) 39 dX4_addStep_4 (by decide) (fun c11 => ?_) (fun c11 => ?_)
  · have hf := (if_pos c11).symm.trans hf
    refine a_sub (sub_d (sub_d sub_n)) ?_
    exact sX4_addStep_39 hd hk hn hf
  · have hf := (if_neg c11).symm.trans hf
    refine a_aload_n (pc := 7) dX4_addStep_7 rfl (isRv_r _) ?_
    obtain ⟨x2, hx2, hf⟩ := Option.bind_eq_some_iff.mp hf
    refine g_getI (pc := 8) dX4_addStep_8 fl_X4_31 hx2 ?_
    refine a_aload_n (pc := 11) dX4_addStep_11 rfl (isRv_r _) ?_
    obtain ⟨x3, hx3, hf⟩ := Option.bind_eq_some_iff.mp hf
    refine g_getQ (pc := 12) dX4_addStep_12 fl_X4_15 hx3 ?_
    obtain ⟨x4, hx4, hf⟩ := Option.bind_eq_some_iff.mp hf
    refine g_alen (pc := 15) dX4_addStep_15 hx4 ?_
    refine a_icmp_ge (pc := 16) 39 dX4_addStep_16 (by decide) (fun c10 => ?_) (fun c10 => ?_)
    · have hf := (if_pos c10).symm.trans hf
      refine a_sub (sub_d (sub_d sub_n)) ?_
      exact sX4_addStep_39 hd hk hn hf
    · have hf := (if_neg c10).symm.trans hf
      refine a_aload_n (pc := 19) dX4_addStep_19 rfl (isRv_r _) ?_
      obtain ⟨x5, hx5, hf⟩ := Option.bind_eq_some_iff.mp hf
      refine g_getQ (pc := 20) dX4_addStep_20 fl_X4_15 hx5 ?_
      refine a_aload_n (pc := 23) dX4_addStep_23 rfl (isRv_r _) ?_
      obtain ⟨x6, hx6, hf⟩ := Option.bind_eq_some_iff.mp hf
      refine g_getI (pc := 24) dX4_addStep_24 fl_X4_31 hx6 ?_
      refine a_iload_n (pc := 27) dX4_addStep_27 rfl ?_
      obtain ⟨S7, hS7, hf⟩ := Option.bind_eq_some_iff.mp hf
      refine g_iast (pc := 28) dX4_addStep_28 hS7 ?_
      refine a_aload_n (pc := 29) dX4_addStep_29 rfl (isRv_r _) ?_
      refine a_dup (pc := 30) dX4_addStep_30 rfl ?_
      obtain ⟨x8, hx8, hf⟩ := Option.bind_eq_some_iff.mp hf
      refine g_getI (pc := 31) dX4_addStep_31 fl_X4_31 hx8 ?_
      refine a_iconst (pc := 34) 1 dX4_addStep_34 rfl ?_
      refine a_iadd (pc := 35) dX4_addStep_35 ?_
      obtain ⟨S9, hS9, hf⟩ := Option.bind_eq_some_iff.mp hf
      refine g_putI (pc := 36) dX4_addStep_36 fl_X4_31 rfl rfl hS9 ?_
      refine a_sub (sub_d (sub_d sub_n)) ?_
      exact sX4_addStep_39 hd hk hn hf
set_option maxHeartbeats 4000000 in
theorem mX4_addStep {l : Launch} {g : gE} {d : Nat} {a0 : Nat} (hd : 0 ≤ d) {r : Int32 × AH} {S : AH} {l1 : Int32} (hf : X4_addStep S a0 l1 = some r) : AM l g d yX4_addStep cX4_addStep 2 (some .boolean) 0 0 [.ref a0, .int l1] S (Qr (some (.int r.1)) r.2) := by
  refine AM.of rfl (by exact Nat.le_of_ble_eq_true rfl) (fun v h' q => by obtain ⟨rfl, -⟩ := q; refine ⟨_, rfl, ?_⟩; rcases (zg_of hf).2 with e | e <;> rw [e] <;> rfl) (fun ls e => ?_)
  have e2 : aBeg [.ref a0, .int l1] 2 = [some (.ref a0), some (.int l1)] := rfl
  rw [e2] at e
  subst e
  refine a_sub (sub_k (sub_k (sub_n))) ?_
  exact sX4_addStep_0 hd (Nat.le_refl _) (Nat.le_refl _) ((zg_of hf).1)

-- PencilStrikes$LawReader.barEnds()Z
def X4_barEnds_25 (S : AH) (a0 : Nat) : Option (Int32 × AH) :=
  some (1, S)
def X4_barEnds_0 (S : AH) (a0 : Nat) : Option (Int32 × AH) :=
  (gI S a0 4 6).bind fun x1 =>
  (sI S a0 4 6 (x1 + 1)).bind fun S2 =>
  (gI S2 a0 4 6).bind fun x3 =>
  if x3 ≤ 1 then
    X4_barEnds_25 S2 a0
  else
    (cO S2 a0 4 (X4_addStep S2 a0 (-3))).bind fun r4 =>
    X4_barEnds_25 r4.2 a0
def X4_barEnds (S : AH) (a0 : Nat) : Option (Int32 × AH) := zg (X4_barEnds_0 S a0)
set_option maxHeartbeats 4000000 in
theorem sX4_barEnds_25 {l : Launch} {g : gE} {d MC MS' k n : Nat} {a0 : Nat} (hd : 1 ≤ d) (hk : k ≤ MC) (hn : n ≤ MS') {r : Int32 × AH} {S : AH} (hf : X4_barEnds_25 S a0 = some r) : AW l g d RX4 cX4_barEnds 1 "barEnds" MC MS' (Qr (some (.int r.1)) r.2) k n 25 [none] [] S := by
  unfold X4_barEnds_25 at hf
  refine a_iconst (pc := 25) 1 dX4_barEnds_25 rfl ?_
  have hf := Option.some.inj hf
  subst hf
  exact a_ireturn (pc := 26) dX4_barEnds_26 hk hn ⟨rfl, rfl⟩
set_option maxHeartbeats 4000000 in
theorem sX4_barEnds_0 {l : Launch} {g : gE} {d MC MS' k n : Nat} {a0 : Nat} (hd : 1 ≤ d) (hk : k ≤ MC) (hn : n ≤ MS') {r : Int32 × AH} {S : AH} (hf : X4_barEnds_0 S a0 = some r) : AW l g d RX4 cX4_barEnds 1 "barEnds" MC MS' (Qr (some (.int r.1)) r.2) k n 0 [some (.ref a0)] [] S := by
  unfold X4_barEnds_0 at hf
  refine a_aload_n (pc := 0) dX4_barEnds_0 rfl (isRv_r _) ?_
  refine a_dup (pc := 1) dX4_barEnds_1 rfl ?_
  obtain ⟨x1, hx1, hf⟩ := Option.bind_eq_some_iff.mp hf
  refine g_getI (pc := 2) dX4_barEnds_2 fl_X4_34 hx1 ?_
  refine a_iconst (pc := 5) 1 dX4_barEnds_5 rfl ?_
  refine a_iadd (pc := 6) dX4_barEnds_6 ?_
  obtain ⟨S2, hS2, hf⟩ := Option.bind_eq_some_iff.mp hf
  refine g_putI (pc := 7) dX4_barEnds_7 fl_X4_34 rfl rfl hS2 ?_
  refine a_aload_n (pc := 10) dX4_barEnds_10 rfl (isRv_r _) ?_
  obtain ⟨x3, hx3, hf⟩ := Option.bind_eq_some_iff.mp hf
  refine g_getI (pc := 11) dX4_barEnds_11 fl_X4_34 hx3 ?_
  refine a_iconst (pc := 14) 1 dX4_barEnds_14 rfl ?_
  refine a_icmp_le (pc := 15) 25 dX4_barEnds_15 (by decide) (fun c5 => ?_) (fun c5 => ?_)
  · have hf := (if_pos c5).symm.trans hf
    refine a_sub (sub_d sub_n) ?_
    exact sX4_barEnds_25 hd hk hn hf
  · have hf := (if_neg c5).symm.trans hf
    refine a_aload_n (pc := 18) dX4_barEnds_18 rfl (isRv_r _) ?_
    refine a_bipush (pc := 19) (-3) dX4_barEnds_19 rfl ?_
    obtain ⟨r4, hr4, hf⟩ := Option.bind_eq_some_iff.mp hf
    obtain ⟨hor4, hr4⟩ := cO_of hr4
    refine g_call (pc := 21) (mc := 0) (ms := 0) (.int r4.1) [.int (-3)] [] dX4_barEnds_21 ml_X4_101 mv_X4_addStep hor4 (by decide) rfl rfl (by omega) (mX4_addStep (by omega) hr4) rfl (Nat.le_of_ble_eq_true rfl) hk hn ?_
    refine a_pop (pc := 24) dX4_barEnds_24 rfl ?_
    refine a_sub (sub_d sub_n) ?_
    exact sX4_barEnds_25 hd hk hn hf
set_option maxHeartbeats 4000000 in
theorem mX4_barEnds {l : Launch} {g : gE} {d : Nat} {a0 : Nat} (hd : 1 ≤ d) {r : Int32 × AH} {S : AH} (hf : X4_barEnds S a0 = some r) : AM l g d yX4_barEnds cX4_barEnds 1 (some .boolean) 0 0 [.ref a0] S (Qr (some (.int r.1)) r.2) := by
  refine AM.of rfl (by exact Nat.le_of_ble_eq_true rfl) (fun v h' q => by obtain ⟨rfl, -⟩ := q; refine ⟨_, rfl, ?_⟩; rcases (zg_of hf).2 with e | e <;> rw [e] <;> rfl) (fun ls e => ?_)
  have e2 : aBeg [.ref a0] 1 = [some (.ref a0)] := rfl
  rw [e2] at e
  subst e
  refine a_sub (sub_k (sub_n)) ?_
  exact sX4_barEnds_0 hd (Nat.le_refl _) (Nat.le_refl _) ((zg_of hf).1)

-- PencilStrikes$LawReader.sign(I)Z
def X4_sign_0 (S : AH) (a0 : Nat) (l1 : Int32) : Option (Int32 × AH) :=
  (cO S a0 4 (X4_at S a0)).bind fun r1 =>
  if r1.1 = l1 then
    (gI r1.2 a0 4 4).bind fun x2 =>
    (sI r1.2 a0 4 4 (x2 + 1)).bind fun S3 =>
    some (1, S3)
  else
    some (0, r1.2)
def X4_sign (S : AH) (a0 : Nat) (l1 : Int32) : Option (Int32 × AH) := zg (X4_sign_0 S a0 l1)
set_option maxHeartbeats 4000000 in
theorem sX4_sign_0 {l : Launch} {g : gE} {d MC MS' k n : Nat} {a0 : Nat} (hd : 1 ≤ d) (hk : k ≤ MC) (hn : n ≤ MS') {r : Int32 × AH} {S : AH} {l1 : Int32} (hf : X4_sign_0 S a0 l1 = some r) : AW l g d RX4 cX4_sign 2 "sign" MC MS' (Qr (some (.int r.1)) r.2) k n 0 [some (.ref a0), some (.int l1)] [] S := by
  unfold X4_sign_0 at hf
  refine a_aload_n (pc := 0) dX4_sign_0 rfl (isRv_r _) ?_
  obtain ⟨r1, hr1, hf⟩ := Option.bind_eq_some_iff.mp hf
  obtain ⟨hor1, hr1⟩ := cO_of hr1
  refine g_call (pc := 1) (mc := 0) (ms := 0) (.int r1.1) [] [] dX4_sign_1 ml_X4_53 mv_X4_at hor1 (by decide) rfl rfl (by omega) (mX4_at (by omega) hr1) rfl (Nat.le_of_ble_eq_true rfl) hk hn ?_
  refine a_iload_n (pc := 4) dX4_sign_4 rfl ?_
  refine a_icmp_eq (pc := 5) 10 dX4_sign_5 (by decide) (fun c4 => ?_) (fun c4 => ?_)
  · have hf := (if_pos c4).symm.trans hf
    refine a_aload_n (pc := 10) dX4_sign_10 rfl (isRv_r _) ?_
    refine a_dup (pc := 11) dX4_sign_11 rfl ?_
    obtain ⟨x2, hx2, hf⟩ := Option.bind_eq_some_iff.mp hf
    refine g_getI (pc := 12) dX4_sign_12 fl_X4_28 hx2 ?_
    refine a_iconst (pc := 15) 1 dX4_sign_15 rfl ?_
    refine a_iadd (pc := 16) dX4_sign_16 ?_
    obtain ⟨S3, hS3, hf⟩ := Option.bind_eq_some_iff.mp hf
    refine g_putI (pc := 17) dX4_sign_17 fl_X4_28 rfl rfl hS3 ?_
    refine a_iconst (pc := 20) 1 dX4_sign_20 rfl ?_
    have hf := Option.some.inj hf
    subst hf
    exact a_ireturn (pc := 21) dX4_sign_21 hk hn ⟨rfl, rfl⟩
  · have hf := (if_neg c4).symm.trans hf
    refine a_iconst (pc := 8) 0 dX4_sign_8 rfl ?_
    have hf := Option.some.inj hf
    subst hf
    exact a_ireturn (pc := 9) dX4_sign_9 hk hn ⟨rfl, rfl⟩
set_option maxHeartbeats 4000000 in
theorem mX4_sign {l : Launch} {g : gE} {d : Nat} {a0 : Nat} (hd : 1 ≤ d) {r : Int32 × AH} {S : AH} {l1 : Int32} (hf : X4_sign S a0 l1 = some r) : AM l g d yX4_sign cX4_sign 2 (some .boolean) 0 0 [.ref a0, .int l1] S (Qr (some (.int r.1)) r.2) := by
  refine AM.of rfl (by exact Nat.le_of_ble_eq_true rfl) (fun v h' q => by obtain ⟨rfl, -⟩ := q; refine ⟨_, rfl, ?_⟩; rcases (zg_of hf).2 with e | e <;> rw [e] <;> rfl) (fun ls e => ?_)
  have e2 : aBeg [.ref a0, .int l1] 2 = [some (.ref a0), some (.int l1)] := rfl
  rw [e2] at e
  subst e
  refine a_sub (sub_k (sub_k (sub_n))) ?_
  exact sX4_sign_0 hd (Nat.le_refl _) (Nat.le_refl _) ((zg_of hf).1)

-- java/lang/String.isLatin1()Z
def J0_isLatin1_aae02_18 (S : AH) (s0 : Int32) : Option (Int32 × AH) :=
  some (s0, S)
def J0_isLatin1_aae02_17 (S : AH) : Option (Int32 × AH) :=
  J0_isLatin1_aae02_18 S 0
def J0_isLatin1_aae02_0 (S : AH) (l0 : Nat) : Option (Int32 × AH) :=
  if (1 : Int32) = 0 then
    J0_isLatin1_aae02_17 S
  else
    if (0 : Int32) = 0 then
      J0_isLatin1_aae02_18 S 1
    else
      J0_isLatin1_aae02_17 S
def J0_isLatin1_aae02 (S : AH) (l0 : Nat) : Option (Int32 × AH) := zg (J0_isLatin1_aae02_0 S l0)
set_option maxHeartbeats 4000000 in
theorem sJ0_isLatin1_aae02_18 {l : Launch} {g : gE} {d MC MS' k n : Nat} (hd : 0 ≤ d) (hk : k ≤ MC) (hn : n ≤ MS') {r : Int32 × AH} {S : AH} {s0 : Int32} (hf : J0_isLatin1_aae02_18 S s0 = some r) : AW l g d RJ0 cJ0_isLatin1_aae02 1 "isLatin1" MC MS' (Qr (some (.int r.1)) r.2) k n 18 [none] [.int s0] S := by
  unfold J0_isLatin1_aae02_18 at hf
  have hf := Option.some.inj hf
  subst hf
  exact a_ireturn (pc := 18) dJ0_isLatin1_aae02_18 hk hn ⟨rfl, rfl⟩
set_option maxHeartbeats 4000000 in
theorem sJ0_isLatin1_aae02_17 {l : Launch} {g : gE} {d MC MS' k n : Nat} (hd : 0 ≤ d) (hk : k ≤ MC) (hn : n ≤ MS') {r : Int32 × AH} {S : AH} (hf : J0_isLatin1_aae02_17 S = some r) : AW l g d RJ0 cJ0_isLatin1_aae02 1 "isLatin1" MC MS' (Qr (some (.int r.1)) r.2) k n 17 [none] [] S := by
  unfold J0_isLatin1_aae02_17 at hf
  refine a_iconst (pc := 17) 0 dJ0_isLatin1_aae02_17 rfl ?_
  exact sJ0_isLatin1_aae02_18 hd hk hn hf
set_option maxHeartbeats 4000000 in
theorem sJ0_isLatin1_aae02_0 {l : Launch} {g : gE} {d MC MS' k n : Nat} (hd : 0 ≤ d) (hk : k ≤ MC) (hn : n ≤ MS') {r : Int32 × AH} {S : AH} {l0 : Nat} (hq_l0 : l0 < 5) (hf : J0_isLatin1_aae02_0 S l0 = some r) : AW l g d RJ0 cJ0_isLatin1_aae02 1 "isLatin1" MC MS' (Qr (some (.int r.1)) r.2) k n 0 [some (.retAddr (2 + l0))] [] S := by
  unfold J0_isLatin1_aae02_0 at hf
  refine a_getsC (pc := 0) dJ0_isLatin1_aae02_0 fo_J0_38 ?_
  refine a_if_eq (pc := 3) 17 dJ0_isLatin1_aae02_3 (by decide) (fun c2 => ?_) (fun c2 => ?_)
  · have hf := (if_pos c2).symm.trans hf
    refine a_sub (sub_d sub_n) ?_
    exact sJ0_isLatin1_aae02_17 hd hk hn hf
  · have hf := (if_neg c2).symm.trans hf
    refine a_aload_n (pc := 6) dJ0_isLatin1_aae02_6 rfl (isRv_o _) ?_
    refine a_getfC (pc := 7) l0 (by omega) dJ0_isLatin1_aae02_7 fo_J0_15 ?_
    refine a_if_ne (pc := 10) 17 dJ0_isLatin1_aae02_10 (by decide) (fun c1 => ?_) (fun c1 => ?_)
    · have hf := (if_neg c1).symm.trans hf
      refine a_sub (sub_d sub_n) ?_
      exact sJ0_isLatin1_aae02_17 hd hk hn hf
    · have hf := (if_pos c1).symm.trans hf
      refine a_iconst (pc := 13) 1 dJ0_isLatin1_aae02_13 rfl ?_
      refine a_goto (pc := 14) 18 dJ0_isLatin1_aae02_14 (by decide) ?_
      refine a_sub (sub_d sub_n) ?_
      exact sJ0_isLatin1_aae02_18 hd hk hn hf
set_option maxHeartbeats 4000000 in
theorem mJ0_isLatin1_aae02 {l : Launch} {g : gE} {d : Nat} (hd : 0 ≤ d) {r : Int32 × AH} {S : AH} {l0 : Nat} (hq_l0 : l0 < 5) (hf : J0_isLatin1_aae02 S l0 = some r) : AM l g d yJ0_isLatin1_aae02 cJ0_isLatin1_aae02 1 (some .boolean) 0 0 [.retAddr (2 + l0)] S (Qr (some (.int r.1)) r.2) := by
  refine AM.of rfl (by exact Nat.le_of_ble_eq_true rfl) (fun v h' q => by obtain ⟨rfl, -⟩ := q; refine ⟨_, rfl, ?_⟩; rcases (zg_of hf).2 with e | e <;> rw [e] <;> rfl) (fun ls e => ?_)
  have e2 : aBeg [.retAddr (2 + l0)] 1 = [some (.retAddr (2 + l0))] := rfl
  rw [e2] at e
  subst e
  refine a_sub (sub_k (sub_n)) ?_
  exact sJ0_isLatin1_aae02_0 hd (Nat.le_refl _) (Nat.le_refl _) (by omega) ((zg_of hf).1)

-- java/lang/String.coder()B
def J0_coder_7d493_14 (S : AH) (s0 : Int32) : Option (Int32 × AH) :=
  some (s0, S)
def J0_coder_7d493_0 (S : AH) (l0 : Nat) : Option (Int32 × AH) :=
  if (1 : Int32) = 0 then
    J0_coder_7d493_14 S 1
  else
    J0_coder_7d493_14 S 0
def J0_coder_7d493 (S : AH) (l0 : Nat) : Option (Int32 × AH) := ng .byte (J0_coder_7d493_0 S l0)
set_option maxHeartbeats 4000000 in
theorem sJ0_coder_7d493_14 {l : Launch} {g : gE} {d MC MS' k n : Nat} (hd : 0 ≤ d) (hk : k ≤ MC) (hn : n ≤ MS') {r : Int32 × AH} {S : AH} {s0 : Int32} (hf : J0_coder_7d493_14 S s0 = some r) : AW l g d RJ0 cJ0_coder_7d493 1 "coder" MC MS' (Qr (some (.int r.1)) r.2) k n 14 [none] [.int s0] S := by
  unfold J0_coder_7d493_14 at hf
  have hf := Option.some.inj hf
  subst hf
  exact a_ireturn (pc := 14) dJ0_coder_7d493_14 hk hn ⟨rfl, rfl⟩
set_option maxHeartbeats 4000000 in
theorem sJ0_coder_7d493_0 {l : Launch} {g : gE} {d MC MS' k n : Nat} (hd : 0 ≤ d) (hk : k ≤ MC) (hn : n ≤ MS') {r : Int32 × AH} {S : AH} {l0 : Nat} (hq_l0 : l0 < 5) (hf : J0_coder_7d493_0 S l0 = some r) : AW l g d RJ0 cJ0_coder_7d493 1 "coder" MC MS' (Qr (some (.int r.1)) r.2) k n 0 [some (.retAddr (2 + l0))] [] S := by
  unfold J0_coder_7d493_0 at hf
  refine a_getsC (pc := 0) dJ0_coder_7d493_0 fo_J0_38 ?_
  refine a_if_eq (pc := 3) 13 dJ0_coder_7d493_3 (by decide) (fun c1 => ?_) (fun c1 => ?_)
  · have hf := (if_pos c1).symm.trans hf
    refine a_iconst (pc := 13) 1 dJ0_coder_7d493_13 rfl ?_
    refine a_sub (sub_d sub_n) ?_
    exact sJ0_coder_7d493_14 hd hk hn hf
  · have hf := (if_neg c1).symm.trans hf
    refine a_aload_n (pc := 6) dJ0_coder_7d493_6 rfl (isRv_o _) ?_
    refine a_getfC (pc := 7) l0 (by omega) dJ0_coder_7d493_7 fo_J0_15 ?_
    refine a_goto (pc := 10) 14 dJ0_coder_7d493_10 (by decide) ?_
    refine a_sub (sub_d sub_n) ?_
    exact sJ0_coder_7d493_14 hd hk hn hf
set_option maxHeartbeats 4000000 in
theorem mJ0_coder_7d493 {l : Launch} {g : gE} {d : Nat} (hd : 0 ≤ d) {r : Int32 × AH} {S : AH} {l0 : Nat} (hq_l0 : l0 < 5) (hf : J0_coder_7d493 S l0 = some r) : AM l g d yJ0_coder_7d493 cJ0_coder_7d493 1 (some .byte) 0 0 [.retAddr (2 + l0)] S (Qr (some (.int r.1)) r.2) := by
  refine AM.of rfl (by exact Nat.le_of_ble_eq_true rfl) (fun v h' q => by obtain ⟨rfl, -⟩ := q; exact ⟨_, rfl, (ng_of hf).2⟩) (fun ls e => ?_)
  have e2 : aBeg [.retAddr (2 + l0)] 1 = [some (.retAddr (2 + l0))] := rfl
  rw [e2] at e
  subst e
  refine a_sub (sub_k (sub_n)) ?_
  exact sJ0_coder_7d493_0 hd (Nat.le_refl _) (Nat.le_refl _) (by omega) ((ng_of hf).1)

-- java/lang/String.length()I
def J0_length_8abf5_0 (S : AH) (l0 : Nat) : Option (Int32 × AH) :=
  (J0_coder_7d493 S l0).bind fun r1 =>
  some (((Int32.ofNat (sLen.getD l0 0)) >>> (r1.1 &&& 31)), r1.2)
def J0_length_8abf5 (S : AH) (l0 : Nat) : Option (Int32 × AH) := J0_length_8abf5_0 S l0
set_option maxHeartbeats 4000000 in
theorem sJ0_length_8abf5_0 {l : Launch} {g : gE} {d MC MS' k n : Nat} (hd : 1 ≤ d) (hk : k ≤ MC) (hn : n ≤ MS') {r : Int32 × AH} {S : AH} {l0 : Nat} (hq_l0 : l0 < 5) (hf : J0_length_8abf5_0 S l0 = some r) : AW l g d RJ0 cJ0_length_8abf5 1 "length" MC MS' (Qr (some (.int r.1)) r.2) k n 0 [some (.retAddr (2 + l0))] [] S := by
  unfold J0_length_8abf5_0 at hf
  refine a_aload_n (pc := 0) dJ0_length_8abf5_0 rfl (isRv_o _) ?_
  refine a_getfV (pc := 1) l0 (by omega) dJ0_length_8abf5_1 fo_J0_9 ?_
  refine a_lenB (pc := 4) l0 (by omega) (Int32.ofNat (sLen.getD l0 0)) rfl dJ0_length_8abf5_4 ?_
  refine a_aload_n (pc := 5) dJ0_length_8abf5_5 rfl (isRv_o _) ?_
  obtain ⟨r1, hr1, hf⟩ := Option.bind_eq_some_iff.mp hf
  refine g_callQ (pc := 6) (mc := 0) (ms := 0) l0 (.int r1.1) [] [.int (Int32.ofNat (sLen.getD l0 0))] dJ0_length_8abf5_6 ml_J0_335 mv_J0_coder_7d493 (by omega) rfl rfl (by omega) (mJ0_coder_7d493 (by omega) (by omega) hr1) rfl (Nat.le_of_ble_eq_true rfl) hk hn ?_
  refine a_ishr (pc := 9) dJ0_length_8abf5_9 ?_
  have hf := Option.some.inj hf
  subst hf
  exact a_ireturn (pc := 10) dJ0_length_8abf5_10 hk hn ⟨rfl, rfl⟩
set_option maxHeartbeats 4000000 in
theorem mJ0_length_8abf5 {l : Launch} {g : gE} {d : Nat} (hd : 1 ≤ d) {r : Int32 × AH} {S : AH} {l0 : Nat} (hq_l0 : l0 < 5) (hf : J0_length_8abf5 S l0 = some r) : AM l g d yJ0_length_8abf5 cJ0_length_8abf5 1 (some .int) 0 0 [.retAddr (2 + l0)] S (Qr (some (.int r.1)) r.2) := by
  refine AM.of rfl (by exact Nat.le_of_ble_eq_true rfl) (fun v h' q => by obtain ⟨rfl, -⟩ := q; exact ⟨_, rfl, rfl⟩) (fun ls e => ?_)
  have e2 : aBeg [.retAddr (2 + l0)] 1 = [some (.retAddr (2 + l0))] := rfl
  rw [e2] at e
  subst e
  refine a_sub (sub_k (sub_n)) ?_
  exact sJ0_length_8abf5_0 hd (Nat.le_refl _) (Nat.le_refl _) (by omega) (hf)

-- java/lang/StringLatin1.canEncode(I)Z
def J1_canEncode_9a6ad_16 (S : AH) (s0 : Int32) : Option (Int32 × AH) :=
  some (s0, S)
def J1_canEncode_9a6ad_15 (S : AH) : Option (Int32 × AH) :=
  J1_canEncode_9a6ad_16 S 0
def J1_canEncode_9a6ad_0 (S : AH) (l0 : Int32) : Option (Int32 × AH) :=
  if l0 < 0 then
    J1_canEncode_9a6ad_15 S
  else
    if 255 < l0 then
      J1_canEncode_9a6ad_15 S
    else
      J1_canEncode_9a6ad_16 S 1
def J1_canEncode_9a6ad (S : AH) (l0 : Int32) : Option (Int32 × AH) := zg (J1_canEncode_9a6ad_0 S l0)
set_option maxHeartbeats 4000000 in
theorem sJ1_canEncode_9a6ad_16 {l : Launch} {g : gE} {d MC MS' k n : Nat} (hd : 0 ≤ d) (hk : k ≤ MC) (hn : n ≤ MS') {r : Int32 × AH} {S : AH} {s0 : Int32} (hf : J1_canEncode_9a6ad_16 S s0 = some r) : AW l g d RJ1 cJ1_canEncode_9a6ad 1 "canEncode" MC MS' (Qr (some (.int r.1)) r.2) k n 16 [none] [.int s0] S := by
  unfold J1_canEncode_9a6ad_16 at hf
  have hf := Option.some.inj hf
  subst hf
  exact a_ireturn (pc := 16) dJ1_canEncode_9a6ad_16 hk hn ⟨rfl, rfl⟩
set_option maxHeartbeats 4000000 in
theorem sJ1_canEncode_9a6ad_15 {l : Launch} {g : gE} {d MC MS' k n : Nat} (hd : 0 ≤ d) (hk : k ≤ MC) (hn : n ≤ MS') {r : Int32 × AH} {S : AH} (hf : J1_canEncode_9a6ad_15 S = some r) : AW l g d RJ1 cJ1_canEncode_9a6ad 1 "canEncode" MC MS' (Qr (some (.int r.1)) r.2) k n 15 [none] [] S := by
  unfold J1_canEncode_9a6ad_15 at hf
  refine a_iconst (pc := 15) 0 dJ1_canEncode_9a6ad_15 rfl ?_
  exact sJ1_canEncode_9a6ad_16 hd hk hn hf
set_option maxHeartbeats 4000000 in
theorem sJ1_canEncode_9a6ad_0 {l : Launch} {g : gE} {d MC MS' k n : Nat} (hd : 0 ≤ d) (hk : k ≤ MC) (hn : n ≤ MS') {r : Int32 × AH} {S : AH} {l0 : Int32} (hf : J1_canEncode_9a6ad_0 S l0 = some r) : AW l g d RJ1 cJ1_canEncode_9a6ad 1 "canEncode" MC MS' (Qr (some (.int r.1)) r.2) k n 0 [some (.int l0)] [] S := by
  unfold J1_canEncode_9a6ad_0 at hf
  refine a_iload_n (pc := 0) dJ1_canEncode_9a6ad_0 rfl ?_
  refine a_if_lt (pc := 1) 15 dJ1_canEncode_9a6ad_1 (by decide) (fun c2 => ?_) (fun c2 => ?_)
  · have hf := (if_pos c2).symm.trans hf
    refine a_sub (sub_d sub_n) ?_
    exact sJ1_canEncode_9a6ad_15 hd hk hn hf
  · have hf := (if_neg c2).symm.trans hf
    refine a_iload_n (pc := 4) dJ1_canEncode_9a6ad_4 rfl ?_
    refine a_sipush (pc := 5) 255 dJ1_canEncode_9a6ad_5 rfl ?_
    refine a_icmp_gt (pc := 8) 15 dJ1_canEncode_9a6ad_8 (by decide) (fun c1 => ?_) (fun c1 => ?_)
    · have hf := (if_pos c1).symm.trans hf
      refine a_sub (sub_d sub_n) ?_
      exact sJ1_canEncode_9a6ad_15 hd hk hn hf
    · have hf := (if_neg c1).symm.trans hf
      refine a_iconst (pc := 11) 1 dJ1_canEncode_9a6ad_11 rfl ?_
      refine a_goto (pc := 12) 16 dJ1_canEncode_9a6ad_12 (by decide) ?_
      refine a_sub (sub_d sub_n) ?_
      exact sJ1_canEncode_9a6ad_16 hd hk hn hf
set_option maxHeartbeats 4000000 in
theorem mJ1_canEncode_9a6ad {l : Launch} {g : gE} {d : Nat} (hd : 0 ≤ d) {r : Int32 × AH} {S : AH} {l0 : Int32} (hf : J1_canEncode_9a6ad S l0 = some r) : AM l g d yJ1_canEncode_9a6ad cJ1_canEncode_9a6ad 1 (some .boolean) 0 0 [.int l0] S (Qr (some (.int r.1)) r.2) := by
  refine AM.of rfl (by exact Nat.le_of_ble_eq_true rfl) (fun v h' q => by obtain ⟨rfl, -⟩ := q; refine ⟨_, rfl, ?_⟩; rcases (zg_of hf).2 with e | e <;> rw [e] <;> rfl) (fun ls e => ?_)
  have e2 : aBeg [.int l0] 1 = [some (.int l0)] := rfl
  rw [e2] at e
  subst e
  refine a_sub (sub_k (sub_n)) ?_
  exact sJ1_canEncode_9a6ad_0 hd (Nat.le_refl _) (Nat.le_refl _) ((zg_of hf).1)

-- java/lang/StringLatin1.indexOfChar([BIII)I
def J1_indexOfChar_4cfef_7 : Nat → AH → Nat → Int32 → Int32 → Int32 → Option (Int32 × AH)
  | 0, _, _, _, _, _ => none
  | fn + 1, S, l0, l3, l4, l5 =>
    if l3 ≤ l5 then
      some ((-1), S)
    else
      (sB l0 l5).bind fun x1 =>
      if x1 = l4 then
        some (l5, S)
      else
        J1_indexOfChar_4cfef_7 fn S l0 l3 l4 (l5 + 1)
def J1_indexOfChar_4cfef_0 (S : AH) (l0 : Nat) (l1 : Int32) (l2 : Int32) (l3 : Int32) : Option (Int32 × AH) :=
  J1_indexOfChar_4cfef_7 FU S l0 l3 ((l1).toInt8.toInt32) l2
def J1_indexOfChar_4cfef (S : AH) (l0 : Nat) (l1 : Int32) (l2 : Int32) (l3 : Int32) : Option (Int32 × AH) := J1_indexOfChar_4cfef_0 S l0 l1 l2 l3
set_option maxHeartbeats 4000000 in
theorem sJ1_indexOfChar_4cfef_7 {l : Launch} {g : gE} {d MC MS' k n : Nat} (hd : 0 ≤ d) (hk : k ≤ MC) (hn : n ≤ MS') {r : Int32 × AH} : ∀ (fn : Nat) (S : AH) (l0 : Nat) (l3 : Int32) (l4 : Int32) (l5 : Int32), l0 < 5 → J1_indexOfChar_4cfef_7 fn S l0 l3 l4 l5 = some r → AW l g d RJ1 cJ1_indexOfChar_4cfef 6 "indexOfChar" MC MS' (Qr (some (.int r.1)) r.2) k n 7 [some (.retAddr (7 + l0)), none, none, some (.int l3), some (.int l4), some (.int l5)] [] S := by
  intro fn
  induction fn with
  | zero =>
    intro S l0 l3 l4 l5 hq_l0 hf
    rw [J1_indexOfChar_4cfef_7] at hf
    cases hf
  | succ fn ih =>
    intro S l0 l3 l4 l5 hq_l0 hf
    rw [J1_indexOfChar_4cfef_7] at hf
    refine a_iload (pc := 7) dJ1_indexOfChar_4cfef_7 rfl ?_
    refine a_iload_n (pc := 9) dJ1_indexOfChar_4cfef_9 rfl ?_
    refine a_icmp_ge (pc := 10) 31 dJ1_indexOfChar_4cfef_10 (by decide) (fun c3 => ?_) (fun c3 => ?_)
    · have hf := (if_pos c3).symm.trans hf
      refine a_iconst (pc := 31) (-1) dJ1_indexOfChar_4cfef_31 rfl ?_
      have hf := Option.some.inj hf
      subst hf
      exact a_ireturn (pc := 32) dJ1_indexOfChar_4cfef_32 hk hn ⟨rfl, rfl⟩
    · have hf := (if_neg c3).symm.trans hf
      refine a_aload_n (pc := 13) dJ1_indexOfChar_4cfef_13 rfl (isRv_o _) ?_
      refine a_iload (pc := 14) dJ1_indexOfChar_4cfef_14 rfl ?_
      obtain ⟨x1, hx1, hf⟩ := Option.bind_eq_some_iff.mp hf
      refine g_oldB (pc := 16) l0 (by omega) dJ1_indexOfChar_4cfef_16 hx1 ?_
      refine a_iload (pc := 17) dJ1_indexOfChar_4cfef_17 rfl ?_
      refine a_icmp_ne (pc := 19) 25 dJ1_indexOfChar_4cfef_19 (by decide) (fun c2 => ?_) (fun c2 => ?_)
      · have hf := (if_neg c2).symm.trans hf
        refine a_iinc (pc := 25) (ls' := [some (.retAddr (7 + l0)), none, none, some (.int l3), some (.int l4), some (.int (l5 + 1))]) (l5 + 1) dJ1_indexOfChar_4cfef_25 rfl rfl (by decide) rfl ?_
        refine a_goto (pc := 28) 7 dJ1_indexOfChar_4cfef_28 (by decide) ?_
        exact ih S l0 l3 l4 (l5 + 1) (by omega) hf
      · have hf := (if_pos c2).symm.trans hf
        refine a_iload (pc := 22) dJ1_indexOfChar_4cfef_22 rfl ?_
        have hf := Option.some.inj hf
        subst hf
        exact a_ireturn (pc := 24) dJ1_indexOfChar_4cfef_24 hk hn ⟨rfl, rfl⟩
set_option maxHeartbeats 4000000 in
theorem sJ1_indexOfChar_4cfef_0 {l : Launch} {g : gE} {d MC MS' k n : Nat} (hd : 0 ≤ d) (hk : k ≤ MC) (hn : n ≤ MS') {r : Int32 × AH} {S : AH} {l0 : Nat} {l1 : Int32} {l2 : Int32} {l3 : Int32} (hq_l0 : l0 < 5) (hf : J1_indexOfChar_4cfef_0 S l0 l1 l2 l3 = some r) : AW l g d RJ1 cJ1_indexOfChar_4cfef 6 "indexOfChar" MC MS' (Qr (some (.int r.1)) r.2) k n 0 [some (.retAddr (7 + l0)), some (.int l1), some (.int l2), some (.int l3), none, none] [] S := by
  unfold J1_indexOfChar_4cfef_0 at hf
  refine a_iload_n (pc := 0) dJ1_indexOfChar_4cfef_0 rfl ?_
  refine a_i2b (pc := 1) dJ1_indexOfChar_4cfef_1 ?_
  refine a_istore (pc := 2) (ls' := [some (.retAddr (7 + l0)), some (.int l1), some (.int l2), some (.int l3), some (.int ((l1).toInt8.toInt32)), none]) dJ1_indexOfChar_4cfef_2 (by decide) rfl ?_
  refine a_iload_n (pc := 4) dJ1_indexOfChar_4cfef_4 rfl ?_
  refine a_istore (pc := 5) (ls' := [some (.retAddr (7 + l0)), some (.int l1), some (.int l2), some (.int l3), some (.int ((l1).toInt8.toInt32)), some (.int l2)]) dJ1_indexOfChar_4cfef_5 (by decide) rfl ?_
  refine a_sub (sub_k (sub_d (sub_d (sub_k (sub_k (sub_k sub_n)))))) ?_
  exact sJ1_indexOfChar_4cfef_7 hd hk hn FU S l0 l3 ((l1).toInt8.toInt32) l2 (by omega) hf
set_option maxHeartbeats 4000000 in
theorem mJ1_indexOfChar_4cfef {l : Launch} {g : gE} {d : Nat} (hd : 0 ≤ d) {r : Int32 × AH} {S : AH} {l0 : Nat} {l1 : Int32} {l2 : Int32} {l3 : Int32} (hq_l0 : l0 < 5) (hf : J1_indexOfChar_4cfef S l0 l1 l2 l3 = some r) : AM l g d yJ1_indexOfChar_4cfef cJ1_indexOfChar_4cfef 6 (some .int) 0 0 [.retAddr (7 + l0), .int l1, .int l2, .int l3] S (Qr (some (.int r.1)) r.2) := by
  refine AM.of rfl (by exact Nat.le_of_ble_eq_true rfl) (fun v h' q => by obtain ⟨rfl, -⟩ := q; exact ⟨_, rfl, rfl⟩) (fun ls e => ?_)
  have e2 : aBeg [.retAddr (7 + l0), .int l1, .int l2, .int l3] 6 = [some (.retAddr (7 + l0)), some (.int l1), some (.int l2), some (.int l3), none, none] := rfl
  rw [e2] at e
  subst e
  refine a_sub (sub_k (sub_k (sub_k (sub_k (sub_k (sub_k (sub_n))))))) ?_
  exact sJ1_indexOfChar_4cfef_0 hd (Nat.le_refl _) (Nat.le_refl _) (by omega) (hf)

-- java/lang/StringLatin1.indexOf([BIII)I
def J1_indexOf_4cfef_0 (S : AH) (l0 : Nat) (l1 : Int32) (l2 : Int32) (l3 : Int32) : Option (Int32 × AH) :=
  (J1_canEncode_9a6ad S l1).bind fun r1 =>
  if r1.1 = 0 then
    some ((-1), r1.2)
  else
    if (if l2 < 0 then 0 else l2) < (if (Int32.ofNat (sLen.getD l0 0)) < l3 then (Int32.ofNat (sLen.getD l0 0)) else l3) then
      (J1_indexOfChar_4cfef r1.2 l0 l1 (if l2 < 0 then 0 else l2) (if (Int32.ofNat (sLen.getD l0 0)) < l3 then (Int32.ofNat (sLen.getD l0 0)) else l3)).bind fun r4 =>
      some (r4.1, r4.2)
    else
      some ((-1), r1.2)
def J1_indexOf_4cfef (S : AH) (l0 : Nat) (l1 : Int32) (l2 : Int32) (l3 : Int32) : Option (Int32 × AH) := J1_indexOf_4cfef_0 S l0 l1 l2 l3
set_option maxHeartbeats 4000000 in
theorem sJ1_indexOf_4cfef_0 {l : Launch} {g : gE} {d MC MS' k n : Nat} (hd : 1 ≤ d) (hk : k ≤ MC) (hn : n ≤ MS') {r : Int32 × AH} {S : AH} {l0 : Nat} {l1 : Int32} {l2 : Int32} {l3 : Int32} (hq_l0 : l0 < 5) (hf : J1_indexOf_4cfef_0 S l0 l1 l2 l3 = some r) : AW l g d RJ1 cJ1_indexOf_4cfef 4 "indexOf" MC MS' (Qr (some (.int r.1)) r.2) k n 0 [some (.retAddr (7 + l0)), some (.int l1), some (.int l2), some (.int l3)] [] S := by
  unfold J1_indexOf_4cfef_0 at hf
  refine a_iload_n (pc := 0) dJ1_indexOf_4cfef_0 rfl ?_
  obtain ⟨r1, hr1, hf⟩ := Option.bind_eq_some_iff.mp hf
  refine g_calls (pc := 1) (mc := 0) (ms := 0) (.int r1.1) [.int l1] [] dJ1_indexOf_4cfef_1 ml_J1_88 ms_J1_canEncode_9a6ad rfl (by omega) (mJ1_canEncode_9a6ad (by omega) hr1) rfl (Nat.le_of_ble_eq_true rfl) hk hn ?_
  refine a_if_ne (pc := 4) 9 dJ1_indexOf_4cfef_4 (by decide) (fun c6 => ?_) (fun c6 => ?_)
  · have hf := (if_neg c6).symm.trans hf
    refine a_iload_n (pc := 9) dJ1_indexOf_4cfef_9 rfl ?_
    refine a_iconst (pc := 10) 0 dJ1_indexOf_4cfef_10 rfl ?_
    refine a_mmax (pc := 11) dJ1_indexOf_4cfef_11 ml_J1_92 (Nat.le_of_ble_eq_true rfl) hk hn ?_
    refine a_istore_n (pc := 14) (ls' := [some (.retAddr (7 + l0)), some (.int l1), some (.int (if l2 < 0 then 0 else l2)), some (.int l3)]) dJ1_indexOf_4cfef_14 (by decide) rfl ?_
    refine a_iload_n (pc := 15) dJ1_indexOf_4cfef_15 rfl ?_
    refine a_aload_n (pc := 16) dJ1_indexOf_4cfef_16 rfl (isRv_o _) ?_
    refine a_lenB (pc := 17) l0 (by omega) (Int32.ofNat (sLen.getD l0 0)) rfl dJ1_indexOf_4cfef_17 ?_
    refine a_mmin (pc := 18) dJ1_indexOf_4cfef_18 ml_J1_38 (Nat.le_of_ble_eq_true rfl) hk hn ?_
    refine a_istore_n (pc := 21) (ls' := [some (.retAddr (7 + l0)), some (.int l1), some (.int (if l2 < 0 then 0 else l2)), some (.int (if (Int32.ofNat (sLen.getD l0 0)) < l3 then (Int32.ofNat (sLen.getD l0 0)) else l3))]) dJ1_indexOf_4cfef_21 (by decide) rfl ?_
    refine a_iload_n (pc := 22) dJ1_indexOf_4cfef_22 rfl ?_
    refine a_iload_n (pc := 23) dJ1_indexOf_4cfef_23 rfl ?_
    refine a_icmp_lt (pc := 24) 29 dJ1_indexOf_4cfef_24 (by decide) (fun c5 => ?_) (fun c5 => ?_)
    · have hf := (if_pos c5).symm.trans hf
      refine a_aload_n (pc := 29) dJ1_indexOf_4cfef_29 rfl (isRv_o _) ?_
      refine a_iload_n (pc := 30) dJ1_indexOf_4cfef_30 rfl ?_
      refine a_iload_n (pc := 31) dJ1_indexOf_4cfef_31 rfl ?_
      refine a_iload_n (pc := 32) dJ1_indexOf_4cfef_32 rfl ?_
      obtain ⟨r4, hr4, hf⟩ := Option.bind_eq_some_iff.mp hf
      refine g_calls (pc := 33) (mc := 0) (ms := 0) (.int r4.1) [.retAddr (7 + l0), .int l1, .int (if l2 < 0 then 0 else l2), .int (if (Int32.ofNat (sLen.getD l0 0)) < l3 then (Int32.ofNat (sLen.getD l0 0)) else l3)] [] dJ1_indexOf_4cfef_33 ml_J1_95 ms_J1_indexOfChar_4cfef rfl (by omega) (mJ1_indexOfChar_4cfef (by omega) (by omega) hr4) rfl (Nat.le_of_ble_eq_true rfl) hk hn ?_
      have hf := Option.some.inj hf
      subst hf
      exact a_ireturn (pc := 36) dJ1_indexOf_4cfef_36 hk hn ⟨rfl, rfl⟩
    · have hf := (if_neg c5).symm.trans hf
      refine a_iconst (pc := 27) (-1) dJ1_indexOf_4cfef_27 rfl ?_
      have hf := Option.some.inj hf
      subst hf
      exact a_ireturn (pc := 28) dJ1_indexOf_4cfef_28 hk hn ⟨rfl, rfl⟩
  · have hf := (if_pos c6).symm.trans hf
    refine a_iconst (pc := 7) (-1) dJ1_indexOf_4cfef_7 rfl ?_
    have hf := Option.some.inj hf
    subst hf
    exact a_ireturn (pc := 8) dJ1_indexOf_4cfef_8 hk hn ⟨rfl, rfl⟩
set_option maxHeartbeats 4000000 in
theorem mJ1_indexOf_4cfef {l : Launch} {g : gE} {d : Nat} (hd : 1 ≤ d) {r : Int32 × AH} {S : AH} {l0 : Nat} {l1 : Int32} {l2 : Int32} {l3 : Int32} (hq_l0 : l0 < 5) (hf : J1_indexOf_4cfef S l0 l1 l2 l3 = some r) : AM l g d yJ1_indexOf_4cfef cJ1_indexOf_4cfef 4 (some .int) 0 0 [.retAddr (7 + l0), .int l1, .int l2, .int l3] S (Qr (some (.int r.1)) r.2) := by
  refine AM.of rfl (by exact Nat.le_of_ble_eq_true rfl) (fun v h' q => by obtain ⟨rfl, -⟩ := q; exact ⟨_, rfl, rfl⟩) (fun ls e => ?_)
  have e2 : aBeg [.retAddr (7 + l0), .int l1, .int l2, .int l3] 4 = [some (.retAddr (7 + l0)), some (.int l1), some (.int l2), some (.int l3)] := rfl
  rw [e2] at e
  subst e
  refine a_sub (sub_k (sub_k (sub_k (sub_k (sub_n))))) ?_
  exact sJ1_indexOf_4cfef_0 hd (Nat.le_refl _) (Nat.le_refl _) (by omega) (hf)

-- java/lang/String.indexOf(II)I
def J0_indexOf_7cf53_36 (S : AH) (s0 : Int32) : Option (Int32 × AH) :=
  some (s0, S)
def J0_indexOf_7cf53_0 (S : AH) (l0 : Nat) (l1 : Int32) (l2 : Int32) : Option (Int32 × AH) :=
  (J0_isLatin1_aae02 S l0).bind fun r1 =>
  if r1.1 = 0 then
    (J0_length_8abf5 r1.2 l0).bind fun r2 =>
    none
  else
    (J0_length_8abf5 r1.2 l0).bind fun r3 =>
    (J1_indexOf_4cfef r3.2 l0 l1 l2 r3.1).bind fun r4 =>
    J0_indexOf_7cf53_36 r4.2 r4.1
def J0_indexOf_7cf53 (S : AH) (l0 : Nat) (l1 : Int32) (l2 : Int32) : Option (Int32 × AH) := J0_indexOf_7cf53_0 S l0 l1 l2
set_option maxHeartbeats 4000000 in
theorem sJ0_indexOf_7cf53_36 {l : Launch} {g : gE} {d MC MS' k n : Nat} (hd : 2 ≤ d) (hk : k ≤ MC) (hn : n ≤ MS') {r : Int32 × AH} {S : AH} {s0 : Int32} (hf : J0_indexOf_7cf53_36 S s0 = some r) : AW l g d RJ0 cJ0_indexOf_7cf53 3 "indexOf" MC MS' (Qr (some (.int r.1)) r.2) k n 36 [none, none, none] [.int s0] S := by
  unfold J0_indexOf_7cf53_36 at hf
  have hf := Option.some.inj hf
  subst hf
  exact a_ireturn (pc := 36) dJ0_indexOf_7cf53_36 hk hn ⟨rfl, rfl⟩
set_option maxHeartbeats 4000000 in
theorem sJ0_indexOf_7cf53_0 {l : Launch} {g : gE} {d MC MS' k n : Nat} (hd : 2 ≤ d) (hk : k ≤ MC) (hn : n ≤ MS') {r : Int32 × AH} {S : AH} {l0 : Nat} {l1 : Int32} {l2 : Int32} (hq_l0 : l0 < 5) (hf : J0_indexOf_7cf53_0 S l0 l1 l2 = some r) : AW l g d RJ0 cJ0_indexOf_7cf53 3 "indexOf" MC MS' (Qr (some (.int r.1)) r.2) k n 0 [some (.retAddr (2 + l0)), some (.int l1), some (.int l2)] [] S := by
  unfold J0_indexOf_7cf53_0 at hf
  refine a_aload_n (pc := 0) dJ0_indexOf_7cf53_0 rfl (isRv_o _) ?_
  obtain ⟨r1, hr1, hf⟩ := Option.bind_eq_some_iff.mp hf
  refine g_callQ (pc := 1) (mc := 0) (ms := 0) l0 (.int r1.1) [] [] dJ0_indexOf_7cf53_1 ml_J0_492 mv_J0_isLatin1_aae02 (by omega) rfl rfl (by omega) (mJ0_isLatin1_aae02 (by omega) (by omega) hr1) rfl (Nat.le_of_ble_eq_true rfl) hk hn ?_
  refine a_if_eq (pc := 4) 23 dJ0_indexOf_7cf53_4 (by decide) (fun c5 => ?_) (fun c5 => ?_)
  · have hf := (if_pos c5).symm.trans hf
    refine a_aload_n (pc := 23) dJ0_indexOf_7cf53_23 rfl (isRv_o _) ?_
    refine a_getfV (pc := 24) l0 (by omega) dJ0_indexOf_7cf53_24 fo_J0_9 ?_
    refine a_iload_n (pc := 27) dJ0_indexOf_7cf53_27 rfl ?_
    refine a_iload_n (pc := 28) dJ0_indexOf_7cf53_28 rfl ?_
    refine a_aload_n (pc := 29) dJ0_indexOf_7cf53_29 rfl (isRv_o _) ?_
    obtain ⟨r2, hr2, hf⟩ := Option.bind_eq_some_iff.mp hf
    refine g_callQ (pc := 30) (mc := 0) (ms := 0) l0 (.int r2.1) [] [.int l2, .int l1, .retAddr (7 + l0)] dJ0_indexOf_7cf53_30 ml_J0_505 mv_J0_length_8abf5 (by omega) rfl rfl (by omega) (mJ0_length_8abf5 (by omega) (by omega) hr2) rfl (Nat.le_of_ble_eq_true rfl) hk hn ?_
    cases hf
  · have hf := (if_neg c5).symm.trans hf
    refine a_aload_n (pc := 7) dJ0_indexOf_7cf53_7 rfl (isRv_o _) ?_
    refine a_getfV (pc := 8) l0 (by omega) dJ0_indexOf_7cf53_8 fo_J0_9 ?_
    refine a_iload_n (pc := 11) dJ0_indexOf_7cf53_11 rfl ?_
    refine a_iload_n (pc := 12) dJ0_indexOf_7cf53_12 rfl ?_
    refine a_aload_n (pc := 13) dJ0_indexOf_7cf53_13 rfl (isRv_o _) ?_
    obtain ⟨r3, hr3, hf⟩ := Option.bind_eq_some_iff.mp hf
    refine g_callQ (pc := 14) (mc := 0) (ms := 0) l0 (.int r3.1) [] [.int l2, .int l1, .retAddr (7 + l0)] dJ0_indexOf_7cf53_14 ml_J0_505 mv_J0_length_8abf5 (by omega) rfl rfl (by omega) (mJ0_length_8abf5 (by omega) (by omega) hr3) rfl (Nat.le_of_ble_eq_true rfl) hk hn ?_
    obtain ⟨r4, hr4, hf⟩ := Option.bind_eq_some_iff.mp hf
    refine g_calls (pc := 17) (mc := 0) (ms := 0) (.int r4.1) [.retAddr (7 + l0), .int l1, .int l2, .int (r3.1)] [] dJ0_indexOf_7cf53_17 ml_J0_637 ms_J1_indexOf_4cfef rfl (by omega) (mJ1_indexOf_4cfef (by omega) (by omega) hr4) rfl (Nat.le_of_ble_eq_true rfl) hk hn ?_
    refine a_goto (pc := 20) 36 dJ0_indexOf_7cf53_20 (by decide) ?_
    refine a_sub (sub_d (sub_d (sub_d sub_n))) ?_
    exact sJ0_indexOf_7cf53_36 hd hk hn hf
set_option maxHeartbeats 4000000 in
theorem mJ0_indexOf_7cf53 {l : Launch} {g : gE} {d : Nat} (hd : 2 ≤ d) {r : Int32 × AH} {S : AH} {l0 : Nat} {l1 : Int32} {l2 : Int32} (hq_l0 : l0 < 5) (hf : J0_indexOf_7cf53 S l0 l1 l2 = some r) : AM l g d yJ0_indexOf_7cf53 cJ0_indexOf_7cf53 3 (some .int) 0 0 [.retAddr (2 + l0), .int l1, .int l2] S (Qr (some (.int r.1)) r.2) := by
  refine AM.of rfl (by exact Nat.le_of_ble_eq_true rfl) (fun v h' q => by obtain ⟨rfl, -⟩ := q; exact ⟨_, rfl, rfl⟩) (fun ls e => ?_)
  have e2 : aBeg [.retAddr (2 + l0), .int l1, .int l2] 3 = [some (.retAddr (2 + l0)), some (.int l1), some (.int l2)] := rfl
  rw [e2] at e
  subst e
  refine a_sub (sub_k (sub_k (sub_k (sub_n)))) ?_
  exact sJ0_indexOf_7cf53_0 hd (Nat.le_refl _) (Nat.le_refl _) (by omega) (hf)

-- java/lang/String.indexOf(I)I
def J0_indexOf_0f7a4_0 (S : AH) (l0 : Nat) (l1 : Int32) : Option (Int32 × AH) :=
  (J0_indexOf_7cf53 S l0 l1 0).bind fun r1 =>
  some (r1.1, r1.2)
def J0_indexOf_0f7a4 (S : AH) (l0 : Nat) (l1 : Int32) : Option (Int32 × AH) := J0_indexOf_0f7a4_0 S l0 l1
set_option maxHeartbeats 4000000 in
theorem sJ0_indexOf_0f7a4_0 {l : Launch} {g : gE} {d MC MS' k n : Nat} (hd : 3 ≤ d) (hk : k ≤ MC) (hn : n ≤ MS') {r : Int32 × AH} {S : AH} {l0 : Nat} {l1 : Int32} (hq_l0 : l0 < 5) (hf : J0_indexOf_0f7a4_0 S l0 l1 = some r) : AW l g d RJ0 cJ0_indexOf_0f7a4 2 "indexOf" MC MS' (Qr (some (.int r.1)) r.2) k n 0 [some (.retAddr (2 + l0)), some (.int l1)] [] S := by
  unfold J0_indexOf_0f7a4_0 at hf
  refine a_aload_n (pc := 0) dJ0_indexOf_0f7a4_0 rfl (isRv_o _) ?_
  refine a_iload_n (pc := 1) dJ0_indexOf_0f7a4_1 rfl ?_
  refine a_iconst (pc := 2) 0 dJ0_indexOf_0f7a4_2 rfl ?_
  obtain ⟨r1, hr1, hf⟩ := Option.bind_eq_some_iff.mp hf
  refine g_callQ (pc := 3) (mc := 0) (ms := 0) l0 (.int r1.1) [.int l1, .int 0] [] dJ0_indexOf_0f7a4_3 ml_J0_633 mv_J0_indexOf_7cf53 (by omega) rfl rfl (by omega) (mJ0_indexOf_7cf53 (by omega) (by omega) hr1) rfl (Nat.le_of_ble_eq_true rfl) hk hn ?_
  have hf := Option.some.inj hf
  subst hf
  exact a_ireturn (pc := 6) dJ0_indexOf_0f7a4_6 hk hn ⟨rfl, rfl⟩
set_option maxHeartbeats 4000000 in
theorem mJ0_indexOf_0f7a4 {l : Launch} {g : gE} {d : Nat} (hd : 3 ≤ d) {r : Int32 × AH} {S : AH} {l0 : Nat} {l1 : Int32} (hq_l0 : l0 < 5) (hf : J0_indexOf_0f7a4 S l0 l1 = some r) : AM l g d yJ0_indexOf_0f7a4 cJ0_indexOf_0f7a4 2 (some .int) 0 0 [.retAddr (2 + l0), .int l1] S (Qr (some (.int r.1)) r.2) := by
  refine AM.of rfl (by exact Nat.le_of_ble_eq_true rfl) (fun v h' q => by obtain ⟨rfl, -⟩ := q; exact ⟨_, rfl, rfl⟩) (fun ls e => ?_)
  have e2 : aBeg [.retAddr (2 + l0), .int l1] 2 = [some (.retAddr (2 + l0)), some (.int l1)] := rfl
  rw [e2] at e
  subst e
  refine a_sub (sub_k (sub_k (sub_n))) ?_
  exact sJ0_indexOf_0f7a4_0 hd (Nat.le_refl _) (Nat.le_refl _) (by omega) (hf)

-- PencilStrikes$Law.testStep(III)I
def X3_testStep_0 (S : AH) (l0 : Int32) (l1 : Int32) (l2 : Int32) : Option (Int32 × AH) :=
  some (((((l0 <<< ((8 : Int32) &&& 31)) ||| l1) <<< ((10 : Int32) &&& 31)) ||| l2), S)
def X3_testStep (S : AH) (l0 : Int32) (l1 : Int32) (l2 : Int32) : Option (Int32 × AH) := X3_testStep_0 S l0 l1 l2
set_option maxHeartbeats 4000000 in
theorem sX3_testStep_0 {l : Launch} {g : gE} {d MC MS' k n : Nat} (hd : 0 ≤ d) (hk : k ≤ MC) (hn : n ≤ MS') {r : Int32 × AH} {S : AH} {l0 : Int32} {l1 : Int32} {l2 : Int32} (hf : X3_testStep_0 S l0 l1 l2 = some r) : AW l g d RX3 cX3_testStep 3 "testStep" MC MS' (Qr (some (.int r.1)) r.2) k n 0 [some (.int l0), some (.int l1), some (.int l2)] [] S := by
  unfold X3_testStep_0 at hf
  refine a_iload_n (pc := 0) dX3_testStep_0 rfl ?_
  refine a_bipush (pc := 1) 8 dX3_testStep_1 rfl ?_
  refine a_ishl (pc := 3) dX3_testStep_3 ?_
  refine a_iload_n (pc := 4) dX3_testStep_4 rfl ?_
  refine a_ior (pc := 5) dX3_testStep_5 ?_
  refine a_bipush (pc := 6) 10 dX3_testStep_6 rfl ?_
  refine a_ishl (pc := 8) dX3_testStep_8 ?_
  refine a_iload_n (pc := 9) dX3_testStep_9 rfl ?_
  refine a_ior (pc := 10) dX3_testStep_10 ?_
  have hf := Option.some.inj hf
  subst hf
  exact a_ireturn (pc := 11) dX3_testStep_11 hk hn ⟨rfl, rfl⟩
set_option maxHeartbeats 4000000 in
theorem mX3_testStep {l : Launch} {g : gE} {d : Nat} (hd : 0 ≤ d) {r : Int32 × AH} {S : AH} {l0 : Int32} {l1 : Int32} {l2 : Int32} (hf : X3_testStep S l0 l1 l2 = some r) : AM l g d yX3_testStep cX3_testStep 3 (some .int) 0 0 [.int l0, .int l1, .int l2] S (Qr (some (.int r.1)) r.2) := by
  refine AM.of rfl (by exact Nat.le_of_ble_eq_true rfl) (fun v h' q => by obtain ⟨rfl, -⟩ := q; exact ⟨_, rfl, rfl⟩) (fun ls e => ?_)
  have e2 : aBeg [.int l0, .int l1, .int l2] 3 = [some (.int l0), some (.int l1), some (.int l2)] := rfl
  rw [e2] at e
  subst e
  refine a_sub (sub_k (sub_k (sub_k (sub_n)))) ?_
  exact sX3_testStep_0 hd (Nat.le_refl _) (Nat.le_refl _) (hf)

-- PencilStrikes$LawReader.figures()Z
def X4_figures_66 (S : AH) (a0 : Nat) (s0 : Int32) : Option (Int32 × AH) :=
  some (s0, S)
def X4_figures_57 (S : AH) (a0 : Nat) (l1 : Int32) : Option (Int32 × AH) :=
  if l1 ≤ 0 then
    X4_figures_66 S a0 0
  else
    X4_figures_66 S a0 1
def X4_figures_7 : Nat → AH → Nat → Int32 → Option (Int32 × AH)
  | 0, _, _, _ => none
  | fn + 1, S, a0, l1 =>
    if 3 ≤ l1 then
      X4_figures_57 S a0 l1
    else
      (cO S a0 4 (X4_at S a0)).bind fun r1 =>
      (X6_isFigure r1.2 r1.1).bind fun r2 =>
      if r2.1 = 0 then
        X4_figures_57 r2.2 a0 l1
      else
        (gI r2.2 a0 4 5).bind fun x3 =>
        (cO r2.2 a0 4 (X4_at r2.2 a0)).bind fun r4 =>
        (sI r4.2 a0 4 5 (((10 * x3) + r4.1) - 48)).bind fun S5 =>
        (gI S5 a0 4 4).bind fun x6 =>
        (sI S5 a0 4 4 (x6 + 1)).bind fun S7 =>
        X4_figures_7 fn S7 a0 (l1 + 1)
def X4_figures_0 (S : AH) (a0 : Nat) : Option (Int32 × AH) :=
  (sI S a0 4 5 0).bind fun S1 =>
  X4_figures_7 FU S1 a0 0
def X4_figures (S : AH) (a0 : Nat) : Option (Int32 × AH) := zg (X4_figures_0 S a0)
set_option maxHeartbeats 4000000 in
theorem sX4_figures_66 {l : Launch} {g : gE} {d MC MS' k n : Nat} {a0 : Nat} (hd : 1 ≤ d) (hk : k ≤ MC) (hn : n ≤ MS') {r : Int32 × AH} {S : AH} {s0 : Int32} (hf : X4_figures_66 S a0 s0 = some r) : AW l g d RX4 cX4_figures 2 "figures" MC MS' (Qr (some (.int r.1)) r.2) k n 66 [none, none] [.int s0] S := by
  unfold X4_figures_66 at hf
  have hf := Option.some.inj hf
  subst hf
  exact a_ireturn (pc := 66) dX4_figures_66 hk hn ⟨rfl, rfl⟩
set_option maxHeartbeats 4000000 in
theorem sX4_figures_57 {l : Launch} {g : gE} {d MC MS' k n : Nat} {a0 : Nat} (hd : 1 ≤ d) (hk : k ≤ MC) (hn : n ≤ MS') {r : Int32 × AH} {S : AH} {l1 : Int32} (hf : X4_figures_57 S a0 l1 = some r) : AW l g d RX4 cX4_figures 2 "figures" MC MS' (Qr (some (.int r.1)) r.2) k n 57 [none, some (.int l1)] [] S := by
  unfold X4_figures_57 at hf
  refine a_iload_n (pc := 57) dX4_figures_57 rfl ?_
  refine a_if_le (pc := 58) 65 dX4_figures_58 (by decide) (fun c1 => ?_) (fun c1 => ?_)
  · have hf := (if_pos c1).symm.trans hf
    refine a_iconst (pc := 65) 0 dX4_figures_65 rfl ?_
    refine a_sub (sub_k (sub_d sub_n)) ?_
    exact sX4_figures_66 hd hk hn hf
  · have hf := (if_neg c1).symm.trans hf
    refine a_iconst (pc := 61) 1 dX4_figures_61 rfl ?_
    refine a_goto (pc := 62) 66 dX4_figures_62 (by decide) ?_
    refine a_sub (sub_k (sub_d sub_n)) ?_
    exact sX4_figures_66 hd hk hn hf
set_option maxHeartbeats 4000000 in
theorem sX4_figures_7 {l : Launch} {g : gE} {d MC MS' k n : Nat} {a0 : Nat} (hd : 1 ≤ d) (hk : k ≤ MC) (hn : n ≤ MS') {r : Int32 × AH} : ∀ (fn : Nat) (S : AH) (l1 : Int32), X4_figures_7 fn S a0 l1 = some r → AW l g d RX4 cX4_figures 2 "figures" MC MS' (Qr (some (.int r.1)) r.2) k n 7 [some (.ref a0), some (.int l1)] [] S := by
  intro fn
  induction fn with
  | zero =>
    intro S l1 hf
    rw [X4_figures_7] at hf
    cases hf
  | succ fn ih =>
    intro S l1 hf
    rw [X4_figures_7] at hf
    refine a_iload_n (pc := 7) dX4_figures_7 rfl ?_
    refine a_iconst (pc := 8) 3 dX4_figures_8 rfl ?_
    refine a_icmp_ge (pc := 9) 57 dX4_figures_9 (by decide) (fun c9 => ?_) (fun c9 => ?_)
    · have hf := (if_pos c9).symm.trans hf
      refine a_sub (sub_d (sub_k sub_n)) ?_
      exact sX4_figures_57 hd hk hn hf
    · have hf := (if_neg c9).symm.trans hf
      refine a_aload_n (pc := 12) dX4_figures_12 rfl (isRv_r _) ?_
      obtain ⟨r1, hr1, hf⟩ := Option.bind_eq_some_iff.mp hf
      obtain ⟨hor1, hr1⟩ := cO_of hr1
      refine g_call (pc := 13) (mc := 0) (ms := 0) (.int r1.1) [] [] dX4_figures_13 ml_X4_53 mv_X4_at hor1 (by decide) rfl rfl (by omega) (mX4_at (by omega) hr1) rfl (Nat.le_of_ble_eq_true rfl) hk hn ?_
      obtain ⟨r2, hr2, hf⟩ := Option.bind_eq_some_iff.mp hf
      refine g_calls (pc := 16) (mc := 0) (ms := 0) (.int r2.1) [.int (r1.1)] [] dX4_figures_16 ml_X4_132 ms_X6_isFigure rfl (by omega) (mX6_isFigure (by omega) hr2) rfl (Nat.le_of_ble_eq_true rfl) hk hn ?_
      refine a_if_eq (pc := 19) 57 dX4_figures_19 (by decide) (fun c8 => ?_) (fun c8 => ?_)
      · have hf := (if_pos c8).symm.trans hf
        refine a_sub (sub_d (sub_k sub_n)) ?_
        exact sX4_figures_57 hd hk hn hf
      · have hf := (if_neg c8).symm.trans hf
        refine a_aload_n (pc := 22) dX4_figures_22 rfl (isRv_r _) ?_
        refine a_bipush (pc := 23) 10 dX4_figures_23 rfl ?_
        refine a_aload_n (pc := 25) dX4_figures_25 rfl (isRv_r _) ?_
        obtain ⟨x3, hx3, hf⟩ := Option.bind_eq_some_iff.mp hf
        refine g_getI (pc := 26) dX4_figures_26 fl_X4_104 hx3 ?_
        refine a_imul (pc := 29) dX4_figures_29 ?_
        refine a_aload_n (pc := 30) dX4_figures_30 rfl (isRv_r _) ?_
        obtain ⟨r4, hr4, hf⟩ := Option.bind_eq_some_iff.mp hf
        obtain ⟨hor4, hr4⟩ := cO_of hr4
        refine g_call (pc := 31) (mc := 0) (ms := 0) (.int r4.1) [] [.int (10 * x3), .ref a0] dX4_figures_31 ml_X4_53 mv_X4_at hor4 (by decide) rfl rfl (by omega) (mX4_at (by omega) hr4) rfl (Nat.le_of_ble_eq_true rfl) hk hn ?_
        refine a_iadd (pc := 34) dX4_figures_34 ?_
        refine a_bipush (pc := 35) 48 dX4_figures_35 rfl ?_
        refine a_isub (pc := 37) dX4_figures_37 ?_
        obtain ⟨S5, hS5, hf⟩ := Option.bind_eq_some_iff.mp hf
        refine g_putI (pc := 38) dX4_figures_38 fl_X4_104 rfl rfl hS5 ?_
        refine a_aload_n (pc := 41) dX4_figures_41 rfl (isRv_r _) ?_
        refine a_dup (pc := 42) dX4_figures_42 rfl ?_
        obtain ⟨x6, hx6, hf⟩ := Option.bind_eq_some_iff.mp hf
        refine g_getI (pc := 43) dX4_figures_43 fl_X4_28 hx6 ?_
        refine a_iconst (pc := 46) 1 dX4_figures_46 rfl ?_
        refine a_iadd (pc := 47) dX4_figures_47 ?_
        obtain ⟨S7, hS7, hf⟩ := Option.bind_eq_some_iff.mp hf
        refine g_putI (pc := 48) dX4_figures_48 fl_X4_28 rfl rfl hS7 ?_
        refine a_iinc (pc := 51) (ls' := [some (.ref a0), some (.int (l1 + 1))]) (l1 + 1) dX4_figures_51 rfl rfl (by decide) rfl ?_
        refine a_goto (pc := 54) 7 dX4_figures_54 (by decide) ?_
        exact ih S7 (l1 + 1) hf
set_option maxHeartbeats 4000000 in
theorem sX4_figures_0 {l : Launch} {g : gE} {d MC MS' k n : Nat} {a0 : Nat} (hd : 1 ≤ d) (hk : k ≤ MC) (hn : n ≤ MS') {r : Int32 × AH} {S : AH} (hf : X4_figures_0 S a0 = some r) : AW l g d RX4 cX4_figures 2 "figures" MC MS' (Qr (some (.int r.1)) r.2) k n 0 [some (.ref a0), none] [] S := by
  unfold X4_figures_0 at hf
  refine a_aload_n (pc := 0) dX4_figures_0 rfl (isRv_r _) ?_
  refine a_iconst (pc := 1) 0 dX4_figures_1 rfl ?_
  obtain ⟨S1, hS1, hf⟩ := Option.bind_eq_some_iff.mp hf
  refine g_putI (pc := 2) dX4_figures_2 fl_X4_104 rfl rfl hS1 ?_
  refine a_iconst (pc := 5) 0 dX4_figures_5 rfl ?_
  refine a_istore_n (pc := 6) (ls' := [some (.ref a0), some (.int 0)]) dX4_figures_6 (by decide) rfl ?_
  exact sX4_figures_7 hd hk hn FU S1 0 hf
set_option maxHeartbeats 4000000 in
theorem mX4_figures {l : Launch} {g : gE} {d : Nat} {a0 : Nat} (hd : 1 ≤ d) {r : Int32 × AH} {S : AH} (hf : X4_figures S a0 = some r) : AM l g d yX4_figures cX4_figures 2 (some .boolean) 0 0 [.ref a0] S (Qr (some (.int r.1)) r.2) := by
  refine AM.of rfl (by exact Nat.le_of_ble_eq_true rfl) (fun v h' q => by obtain ⟨rfl, -⟩ := q; refine ⟨_, rfl, ?_⟩; rcases (zg_of hf).2 with e | e <;> rw [e] <;> rfl) (fun ls e => ?_)
  have e2 : aBeg [.ref a0] 2 = [some (.ref a0), none] := rfl
  rw [e2] at e
  subst e
  refine a_sub (sub_k (sub_k (sub_n))) ?_
  exact sX4_figures_0 hd (Nat.le_refl _) (Nat.le_refl _) ((zg_of hf).1)

-- PencilStrikes$LawReader.test()Z
def X4_test_101 (S : AH) (a0 : Nat) (s0 : Int32) : Option (Int32 × AH) :=
  some (s0, S)
def X4_test_100 (S : AH) (a0 : Nat) : Option (Int32 × AH) :=
  X4_test_101 S a0 0
def X4_test_63 (S : AH) (a0 : Nat) (l1 : Int32) (l2 : Int32) : Option (Int32 × AH) :=
  (gI S a0 4 4).bind fun x1 =>
  (sI S a0 4 4 (x1 + 1)).bind fun S2 =>
  (cO S2 a0 4 (X4_figures S2 a0)).bind fun r3 =>
  if r3.1 = 0 then
    X4_test_100 r3.2 a0
  else
    (gI r3.2 a0 4 5).bind fun x4 =>
    (X3_testStep r3.2 l1 l2 x4).bind fun r5 =>
    (cO r5.2 a0 4 (X4_addStep r5.2 a0 r5.1)).bind fun r6 =>
    if r6.1 = 0 then
      X4_test_100 r6.2 a0
    else
      X4_test_101 r6.2 a0 1
def X4_test_21 (S : AH) (a0 : Nat) (s0 : Int32) : Option (Int32 × AH) :=
  if 0 ≤ s0 then
    (gI S a0 4 4).bind fun x1 =>
    (sI S a0 4 4 (x1 + 1)).bind fun S2 =>
    (cO S2 a0 4 (X4_at S2 a0)).bind fun r3 =>
    if r3.1 = 60 then
      X4_test_63 r3.2 a0 s0 r3.1
    else
      if r3.1 = 61 then
        X4_test_63 r3.2 a0 s0 r3.1
      else
        if r3.1 = 62 then
          X4_test_63 r3.2 a0 s0 r3.1
        else
          some (0, r3.2)
  else
    some (0, S)
def X4_test_0 (S : AH) (a0 : Nat) : Option (Int32 × AH) :=
  (cO S a0 4 (X4_at S a0)).bind fun r1 =>
  if 0 ≤ r1.1 then
    (cO r1.2 a0 4 (X4_at r1.2 a0)).bind fun r2 =>
    (J0_indexOf_0f7a4 r2.2 4 (((r2.1).toUInt32 % 65536).toInt32)).bind fun r3 =>
    X4_test_21 r3.2 a0 r3.1
  else
    X4_test_21 r1.2 a0 (-1)
def X4_test (S : AH) (a0 : Nat) : Option (Int32 × AH) := zg (X4_test_0 S a0)
set_option maxHeartbeats 4000000 in
theorem sX4_test_101 {l : Launch} {g : gE} {d MC MS' k n : Nat} {a0 : Nat} (hd : 4 ≤ d) (hk : k ≤ MC) (hn : n ≤ MS') {r : Int32 × AH} {S : AH} {s0 : Int32} (hf : X4_test_101 S a0 s0 = some r) : AW l g d RX4 cX4_test 3 "test" MC MS' (Qr (some (.int r.1)) r.2) k n 101 [none, none, none] [.int s0] S := by
  unfold X4_test_101 at hf
  have hf := Option.some.inj hf
  subst hf
  exact a_ireturn (pc := 101) dX4_test_101 hk hn ⟨rfl, rfl⟩
set_option maxHeartbeats 4000000 in
theorem sX4_test_100 {l : Launch} {g : gE} {d MC MS' k n : Nat} {a0 : Nat} (hd : 4 ≤ d) (hk : k ≤ MC) (hn : n ≤ MS') {r : Int32 × AH} {S : AH} (hf : X4_test_100 S a0 = some r) : AW l g d RX4 cX4_test 3 "test" MC MS' (Qr (some (.int r.1)) r.2) k n 100 [none, none, none] [] S := by
  unfold X4_test_100 at hf
  refine a_iconst (pc := 100) 0 dX4_test_100 rfl ?_
  exact sX4_test_101 hd hk hn hf
set_option maxHeartbeats 4000000 in
theorem sX4_test_63 {l : Launch} {g : gE} {d MC MS' k n : Nat} {a0 : Nat} (hd : 4 ≤ d) (hk : k ≤ MC) (hn : n ≤ MS') {r : Int32 × AH} {S : AH} {l1 : Int32} {l2 : Int32} (hf : X4_test_63 S a0 l1 l2 = some r) : AW l g d RX4 cX4_test 3 "test" MC MS' (Qr (some (.int r.1)) r.2) k n 63 [some (.ref a0), some (.int l1), some (.int l2)] [] S := by
  unfold X4_test_63 at hf
  refine a_aload_n (pc := 63) dX4_test_63 rfl (isRv_r _) ?_
  refine a_dup (pc := 64) dX4_test_64 rfl ?_
  obtain ⟨x1, hx1, hf⟩ := Option.bind_eq_some_iff.mp hf
  refine g_getI (pc := 65) dX4_test_65 fl_X4_28 hx1 ?_
  refine a_iconst (pc := 68) 1 dX4_test_68 rfl ?_
  refine a_iadd (pc := 69) dX4_test_69 ?_
  obtain ⟨S2, hS2, hf⟩ := Option.bind_eq_some_iff.mp hf
  refine g_putI (pc := 70) dX4_test_70 fl_X4_28 rfl rfl hS2 ?_
  refine a_aload_n (pc := 73) dX4_test_73 rfl (isRv_r _) ?_
  obtain ⟨r3, hr3, hf⟩ := Option.bind_eq_some_iff.mp hf
  obtain ⟨hor3, hr3⟩ := cO_of hr3
  refine g_call (pc := 74) (mc := 0) (ms := 0) (.int r3.1) [] [] dX4_test_74 ml_X4_94 mv_X4_figures hor3 (by decide) rfl rfl (by omega) (mX4_figures (by omega) hr3) rfl (Nat.le_of_ble_eq_true rfl) hk hn ?_
  refine a_if_eq (pc := 77) 100 dX4_test_77 (by decide) (fun c8 => ?_) (fun c8 => ?_)
  · have hf := (if_pos c8).symm.trans hf
    refine a_sub (sub_d (sub_d (sub_d sub_n))) ?_
    exact sX4_test_100 hd hk hn hf
  · have hf := (if_neg c8).symm.trans hf
    refine a_aload_n (pc := 80) dX4_test_80 rfl (isRv_r _) ?_
    refine a_iload_n (pc := 81) dX4_test_81 rfl ?_
    refine a_iload_n (pc := 82) dX4_test_82 rfl ?_
    refine a_aload_n (pc := 83) dX4_test_83 rfl (isRv_r _) ?_
    obtain ⟨x4, hx4, hf⟩ := Option.bind_eq_some_iff.mp hf
    refine g_getI (pc := 84) dX4_test_84 fl_X4_104 hx4 ?_
    obtain ⟨r5, hr5, hf⟩ := Option.bind_eq_some_iff.mp hf
    refine g_calls (pc := 87) (mc := 0) (ms := 0) (.int r5.1) [.int l1, .int l2, .int x4] [.ref a0] dX4_test_87 ml_X4_128 ms_X3_testStep rfl (by omega) (mX3_testStep (by omega) hr5) rfl (Nat.le_of_ble_eq_true rfl) hk hn ?_
    obtain ⟨r6, hr6, hf⟩ := Option.bind_eq_some_iff.mp hf
    obtain ⟨hor6, hr6⟩ := cO_of hr6
    refine g_call (pc := 90) (mc := 0) (ms := 0) (.int r6.1) [.int (r5.1)] [] dX4_test_90 ml_X4_101 mv_X4_addStep hor6 (by decide) rfl rfl (by omega) (mX4_addStep (by omega) hr6) rfl (Nat.le_of_ble_eq_true rfl) hk hn ?_
    refine a_if_eq (pc := 93) 100 dX4_test_93 (by decide) (fun c7 => ?_) (fun c7 => ?_)
    · have hf := (if_pos c7).symm.trans hf
      refine a_sub (sub_d (sub_d (sub_d sub_n))) ?_
      exact sX4_test_100 hd hk hn hf
    · have hf := (if_neg c7).symm.trans hf
      refine a_iconst (pc := 96) 1 dX4_test_96 rfl ?_
      refine a_goto (pc := 97) 101 dX4_test_97 (by decide) ?_
      refine a_sub (sub_d (sub_d (sub_d sub_n))) ?_
      exact sX4_test_101 hd hk hn hf
set_option maxHeartbeats 4000000 in
theorem sX4_test_21 {l : Launch} {g : gE} {d MC MS' k n : Nat} {a0 : Nat} (hd : 4 ≤ d) (hk : k ≤ MC) (hn : n ≤ MS') {r : Int32 × AH} {S : AH} {s0 : Int32} (hf : X4_test_21 S a0 s0 = some r) : AW l g d RX4 cX4_test 3 "test" MC MS' (Qr (some (.int r.1)) r.2) k n 21 [some (.ref a0), none, none] [.int s0] S := by
  unfold X4_test_21 at hf
  refine a_istore_n (pc := 21) (ls' := [some (.ref a0), some (.int s0), none]) dX4_test_21 (by decide) rfl ?_
  refine a_iload_n (pc := 22) dX4_test_22 rfl ?_
  refine a_if_ge (pc := 23) 28 dX4_test_23 (by decide) (fun c7 => ?_) (fun c7 => ?_)
  · have hf := (if_pos c7).symm.trans hf
    refine a_aload_n (pc := 28) dX4_test_28 rfl (isRv_r _) ?_
    refine a_dup (pc := 29) dX4_test_29 rfl ?_
    obtain ⟨x1, hx1, hf⟩ := Option.bind_eq_some_iff.mp hf
    refine g_getI (pc := 30) dX4_test_30 fl_X4_28 hx1 ?_
    refine a_iconst (pc := 33) 1 dX4_test_33 rfl ?_
    refine a_iadd (pc := 34) dX4_test_34 ?_
    obtain ⟨S2, hS2, hf⟩ := Option.bind_eq_some_iff.mp hf
    refine g_putI (pc := 35) dX4_test_35 fl_X4_28 rfl rfl hS2 ?_
    refine a_aload_n (pc := 38) dX4_test_38 rfl (isRv_r _) ?_
    obtain ⟨r3, hr3, hf⟩ := Option.bind_eq_some_iff.mp hf
    obtain ⟨hor3, hr3⟩ := cO_of hr3
    refine g_call (pc := 39) (mc := 0) (ms := 0) (.int r3.1) [] [] dX4_test_39 ml_X4_53 mv_X4_at hor3 (by decide) rfl rfl (by omega) (mX4_at (by omega) hr3) rfl (Nat.le_of_ble_eq_true rfl) hk hn ?_
    refine a_istore_n (pc := 42) (ls' := [some (.ref a0), some (.int s0), some (.int (r3.1))]) dX4_test_42 (by decide) rfl ?_
    refine a_iload_n (pc := 43) dX4_test_43 rfl ?_
    refine a_bipush (pc := 44) 60 dX4_test_44 rfl ?_
    refine a_icmp_eq (pc := 46) 63 dX4_test_46 (by decide) (fun c6 => ?_) (fun c6 => ?_)
    · have hf := (if_pos c6).symm.trans hf
      exact sX4_test_63 hd hk hn hf
    · have hf := (if_neg c6).symm.trans hf
      refine a_iload_n (pc := 49) dX4_test_49 rfl ?_
      refine a_bipush (pc := 50) 61 dX4_test_50 rfl ?_
      refine a_icmp_eq (pc := 52) 63 dX4_test_52 (by decide) (fun c5 => ?_) (fun c5 => ?_)
      · have hf := (if_pos c5).symm.trans hf
        exact sX4_test_63 hd hk hn hf
      · have hf := (if_neg c5).symm.trans hf
        refine a_iload_n (pc := 55) dX4_test_55 rfl ?_
        refine a_bipush (pc := 56) 62 dX4_test_56 rfl ?_
        refine a_icmp_eq (pc := 58) 63 dX4_test_58 (by decide) (fun c4 => ?_) (fun c4 => ?_)
        · have hf := (if_pos c4).symm.trans hf
          exact sX4_test_63 hd hk hn hf
        · have hf := (if_neg c4).symm.trans hf
          refine a_iconst (pc := 61) 0 dX4_test_61 rfl ?_
          have hf := Option.some.inj hf
          subst hf
          exact a_ireturn (pc := 62) dX4_test_62 hk hn ⟨rfl, rfl⟩
  · have hf := (if_neg c7).symm.trans hf
    refine a_iconst (pc := 26) 0 dX4_test_26 rfl ?_
    have hf := Option.some.inj hf
    subst hf
    exact a_ireturn (pc := 27) dX4_test_27 hk hn ⟨rfl, rfl⟩
set_option maxHeartbeats 4000000 in
theorem sX4_test_0 {l : Launch} {g : gE} {d MC MS' k n : Nat} {a0 : Nat} (hd : 4 ≤ d) (hk : k ≤ MC) (hn : n ≤ MS') {r : Int32 × AH} {S : AH} (hf : X4_test_0 S a0 = some r) : AW l g d RX4 cX4_test 3 "test" MC MS' (Qr (some (.int r.1)) r.2) k n 0 [some (.ref a0), none, none] [] S := by
  unfold X4_test_0 at hf
  refine a_aload_n (pc := 0) dX4_test_0 rfl (isRv_r _) ?_
  obtain ⟨r1, hr1, hf⟩ := Option.bind_eq_some_iff.mp hf
  obtain ⟨hor1, hr1⟩ := cO_of hr1
  refine g_call (pc := 1) (mc := 0) (ms := 0) (.int r1.1) [] [] dX4_test_1 ml_X4_53 mv_X4_at hor1 (by decide) rfl rfl (by omega) (mX4_at (by omega) hr1) rfl (Nat.le_of_ble_eq_true rfl) hk hn ?_
  refine a_if_ge (pc := 4) 11 dX4_test_4 (by decide) (fun c4 => ?_) (fun c4 => ?_)
  · have hf := (if_pos c4).symm.trans hf
    refine a_ldcS (pc := 11) 4 122 (by decide) rfl rfl dX4_test_11 ?_
    refine a_aload_n (pc := 13) dX4_test_13 rfl (isRv_r _) ?_
    obtain ⟨r2, hr2, hf⟩ := Option.bind_eq_some_iff.mp hf
    obtain ⟨hor2, hr2⟩ := cO_of hr2
    refine g_call (pc := 14) (mc := 0) (ms := 0) (.int r2.1) [] [.retAddr (2 + 4)] dX4_test_14 ml_X4_53 mv_X4_at hor2 (by decide) rfl rfl (by omega) (mX4_at (by omega) hr2) rfl (Nat.le_of_ble_eq_true rfl) hk hn ?_
    refine a_i2c (pc := 17) dX4_test_17 ?_
    obtain ⟨r3, hr3, hf⟩ := Option.bind_eq_some_iff.mp hf
    refine g_callQ (pc := 18) (mc := 0) (ms := 0) 4 (.int r3.1) [.int (((r2.1).toUInt32 % 65536).toInt32)] [] dX4_test_18 ml_X4_124 mv_J0_indexOf_0f7a4 (by omega) rfl rfl (by omega) (mJ0_indexOf_0f7a4 (by omega) (by omega) hr3) rfl (Nat.le_of_ble_eq_true rfl) hk hn ?_
    exact sX4_test_21 hd hk hn hf
  · have hf := (if_neg c4).symm.trans hf
    refine a_iconst (pc := 7) (-1) dX4_test_7 rfl ?_
    refine a_goto (pc := 8) 21 dX4_test_8 (by decide) ?_
    exact sX4_test_21 hd hk hn hf
set_option maxHeartbeats 4000000 in
theorem mX4_test {l : Launch} {g : gE} {d : Nat} {a0 : Nat} (hd : 4 ≤ d) {r : Int32 × AH} {S : AH} (hf : X4_test S a0 = some r) : AM l g d yX4_test cX4_test 3 (some .boolean) 0 0 [.ref a0] S (Qr (some (.int r.1)) r.2) := by
  refine AM.of rfl (by exact Nat.le_of_ble_eq_true rfl) (fun v h' q => by obtain ⟨rfl, -⟩ := q; refine ⟨_, rfl, ?_⟩; rcases (zg_of hf).2 with e | e <;> rw [e] <;> rfl) (fun ls e => ?_)
  have e2 : aBeg [.ref a0] 3 = [some (.ref a0), none, none] := rfl
  rw [e2] at e
  subst e
  refine a_sub (sub_k (sub_k (sub_k (sub_n)))) ?_
  exact sX4_test_0 hd (Nat.le_refl _) (Nat.le_refl _) ((zg_of hf).1)

-- PencilStrikes$LawReader.part(I)Z
def X4_part_69 (rec_X4_either : AH → Nat → Int32 → Option (Int32 × AH)) (rec_X4_part : AH → Nat → Int32 → Option (Int32 × AH)) (S : AH) (a0 : Nat) (s0 : Int32) : Option (Int32 × AH) :=
  some (s0, S)
def X4_part_68 (rec_X4_either : AH → Nat → Int32 → Option (Int32 × AH)) (rec_X4_part : AH → Nat → Int32 → Option (Int32 × AH)) (S : AH) (a0 : Nat) : Option (Int32 × AH) :=
  X4_part_69 rec_X4_either rec_X4_part S a0 0
def X4_part_93 (rec_X4_either : AH → Nat → Int32 → Option (Int32 × AH)) (rec_X4_part : AH → Nat → Int32 → Option (Int32 × AH)) (S : AH) (a0 : Nat) (s0 : Int32) : Option (Int32 × AH) :=
  some (s0, S)
def X4_part_92 (rec_X4_either : AH → Nat → Int32 → Option (Int32 × AH)) (rec_X4_part : AH → Nat → Int32 → Option (Int32 × AH)) (S : AH) (a0 : Nat) : Option (Int32 × AH) :=
  X4_part_93 rec_X4_either rec_X4_part S a0 0
def X4_part_22 (rec_X4_either : AH → Nat → Int32 → Option (Int32 × AH)) (rec_X4_part : AH → Nat → Int32 → Option (Int32 × AH)) (S : AH) (a0 : Nat) (l1 : Int32) (l2 : Int32) : Option (Int32 × AH) :=
  if l1 < 4 then
    (gI S a0 4 4).bind fun x1 =>
    (sI S a0 4 4 (x1 + 1)).bind fun S2 =>
    if l2 = 40 then
      (cO S2 a0 4 (rec_X4_either S2 a0 (l1 + 1))).bind fun r7 =>
      if r7.1 = 0 then
        X4_part_68 rec_X4_either rec_X4_part r7.2 a0
      else
        (cO r7.2 a0 4 (X4_sign r7.2 a0 41)).bind fun r8 =>
        if r8.1 = 0 then
          X4_part_68 rec_X4_either rec_X4_part r8.2 a0
        else
          X4_part_69 rec_X4_either rec_X4_part r8.2 a0 1
    else
      (cO S2 a0 4 (rec_X4_part S2 a0 (l1 + 1))).bind fun r3 =>
      if r3.1 = 0 then
        X4_part_92 rec_X4_either rec_X4_part r3.2 a0
      else
        (cO r3.2 a0 4 (X4_addStep r3.2 a0 (-1))).bind fun r4 =>
        if r4.1 = 0 then
          X4_part_92 rec_X4_either rec_X4_part r4.2 a0
        else
          X4_part_93 rec_X4_either rec_X4_part r4.2 a0 1
  else
    some (0, S)
def X4_part_0 (rec_X4_either : AH → Nat → Int32 → Option (Int32 × AH)) (rec_X4_part : AH → Nat → Int32 → Option (Int32 × AH)) (S : AH) (a0 : Nat) (l1 : Int32) : Option (Int32 × AH) :=
  (cO S a0 4 (X4_at S a0)).bind fun r1 =>
  if r1.1 = 33 then
    X4_part_22 rec_X4_either rec_X4_part r1.2 a0 l1 r1.1
  else
    if r1.1 = 40 then
      X4_part_22 rec_X4_either rec_X4_part r1.2 a0 l1 r1.1
    else
      (cO r1.2 a0 4 (X4_test r1.2 a0)).bind fun r2 =>
      some (r2.1, r2.2)
def X4_part (rec_X4_either : AH → Nat → Int32 → Option (Int32 × AH)) (rec_X4_part : AH → Nat → Int32 → Option (Int32 × AH)) (S : AH) (a0 : Nat) (l1 : Int32) : Option (Int32 × AH) := zg (X4_part_0 rec_X4_either rec_X4_part S a0 l1)
set_option maxHeartbeats 4000000 in
theorem sX4_part_69 {l : Launch} {g : gE} {d MC MS' k n : Nat} {a0 : Nat} (hd : 5 ≤ d) (hk : k ≤ MC) (hn : n ≤ MS') {r : Int32 × AH} {rec_X4_either : AH → Nat → Int32 → Option (Int32 × AH)} (hrec_X4_either : ∀ (S : AH) (a0 : Nat) (x0 : Int32) (r : Int32 × AH), rec_X4_either S a0 x0 = some r → AM l g (d - 1) yX4_either cX4_either 5 (some .boolean) 0 0 [.ref a0, .int x0] S (Qr (some (.int r.1)) r.2)) {rec_X4_part : AH → Nat → Int32 → Option (Int32 × AH)} (hrec_X4_part : ∀ (S : AH) (a0 : Nat) (x0 : Int32) (r : Int32 × AH), rec_X4_part S a0 x0 = some r → AM l g (d - 1) yX4_part cX4_part 3 (some .boolean) 0 0 [.ref a0, .int x0] S (Qr (some (.int r.1)) r.2)) {S : AH} {s0 : Int32} (hf : X4_part_69 rec_X4_either rec_X4_part S a0 s0 = some r) : AW l g d RX4 cX4_part 3 "part" MC MS' (Qr (some (.int r.1)) r.2) k n 69 [none, none, none] [.int s0] S := by
  unfold X4_part_69 at hf
  have hf := Option.some.inj hf
  subst hf
  exact a_ireturn (pc := 69) dX4_part_69 hk hn ⟨rfl, rfl⟩
set_option maxHeartbeats 4000000 in
theorem sX4_part_68 {l : Launch} {g : gE} {d MC MS' k n : Nat} {a0 : Nat} (hd : 5 ≤ d) (hk : k ≤ MC) (hn : n ≤ MS') {r : Int32 × AH} {rec_X4_either : AH → Nat → Int32 → Option (Int32 × AH)} (hrec_X4_either : ∀ (S : AH) (a0 : Nat) (x0 : Int32) (r : Int32 × AH), rec_X4_either S a0 x0 = some r → AM l g (d - 1) yX4_either cX4_either 5 (some .boolean) 0 0 [.ref a0, .int x0] S (Qr (some (.int r.1)) r.2)) {rec_X4_part : AH → Nat → Int32 → Option (Int32 × AH)} (hrec_X4_part : ∀ (S : AH) (a0 : Nat) (x0 : Int32) (r : Int32 × AH), rec_X4_part S a0 x0 = some r → AM l g (d - 1) yX4_part cX4_part 3 (some .boolean) 0 0 [.ref a0, .int x0] S (Qr (some (.int r.1)) r.2)) {S : AH} (hf : X4_part_68 rec_X4_either rec_X4_part S a0 = some r) : AW l g d RX4 cX4_part 3 "part" MC MS' (Qr (some (.int r.1)) r.2) k n 68 [none, none, none] [] S := by
  unfold X4_part_68 at hf
  refine a_iconst (pc := 68) 0 dX4_part_68 rfl ?_
  exact sX4_part_69 hd hk hn hrec_X4_either hrec_X4_part hf
set_option maxHeartbeats 4000000 in
theorem sX4_part_93 {l : Launch} {g : gE} {d MC MS' k n : Nat} {a0 : Nat} (hd : 5 ≤ d) (hk : k ≤ MC) (hn : n ≤ MS') {r : Int32 × AH} {rec_X4_either : AH → Nat → Int32 → Option (Int32 × AH)} (hrec_X4_either : ∀ (S : AH) (a0 : Nat) (x0 : Int32) (r : Int32 × AH), rec_X4_either S a0 x0 = some r → AM l g (d - 1) yX4_either cX4_either 5 (some .boolean) 0 0 [.ref a0, .int x0] S (Qr (some (.int r.1)) r.2)) {rec_X4_part : AH → Nat → Int32 → Option (Int32 × AH)} (hrec_X4_part : ∀ (S : AH) (a0 : Nat) (x0 : Int32) (r : Int32 × AH), rec_X4_part S a0 x0 = some r → AM l g (d - 1) yX4_part cX4_part 3 (some .boolean) 0 0 [.ref a0, .int x0] S (Qr (some (.int r.1)) r.2)) {S : AH} {s0 : Int32} (hf : X4_part_93 rec_X4_either rec_X4_part S a0 s0 = some r) : AW l g d RX4 cX4_part 3 "part" MC MS' (Qr (some (.int r.1)) r.2) k n 93 [none, none, none] [.int s0] S := by
  unfold X4_part_93 at hf
  have hf := Option.some.inj hf
  subst hf
  exact a_ireturn (pc := 93) dX4_part_93 hk hn ⟨rfl, rfl⟩
set_option maxHeartbeats 4000000 in
theorem sX4_part_92 {l : Launch} {g : gE} {d MC MS' k n : Nat} {a0 : Nat} (hd : 5 ≤ d) (hk : k ≤ MC) (hn : n ≤ MS') {r : Int32 × AH} {rec_X4_either : AH → Nat → Int32 → Option (Int32 × AH)} (hrec_X4_either : ∀ (S : AH) (a0 : Nat) (x0 : Int32) (r : Int32 × AH), rec_X4_either S a0 x0 = some r → AM l g (d - 1) yX4_either cX4_either 5 (some .boolean) 0 0 [.ref a0, .int x0] S (Qr (some (.int r.1)) r.2)) {rec_X4_part : AH → Nat → Int32 → Option (Int32 × AH)} (hrec_X4_part : ∀ (S : AH) (a0 : Nat) (x0 : Int32) (r : Int32 × AH), rec_X4_part S a0 x0 = some r → AM l g (d - 1) yX4_part cX4_part 3 (some .boolean) 0 0 [.ref a0, .int x0] S (Qr (some (.int r.1)) r.2)) {S : AH} (hf : X4_part_92 rec_X4_either rec_X4_part S a0 = some r) : AW l g d RX4 cX4_part 3 "part" MC MS' (Qr (some (.int r.1)) r.2) k n 92 [none, none, none] [] S := by
  unfold X4_part_92 at hf
  refine a_iconst (pc := 92) 0 dX4_part_92 rfl ?_
  exact sX4_part_93 hd hk hn hrec_X4_either hrec_X4_part hf
set_option maxHeartbeats 4000000 in
theorem sX4_part_22 {l : Launch} {g : gE} {d MC MS' k n : Nat} {a0 : Nat} (hd : 5 ≤ d) (hk : k ≤ MC) (hn : n ≤ MS') {r : Int32 × AH} {rec_X4_either : AH → Nat → Int32 → Option (Int32 × AH)} (hrec_X4_either : ∀ (S : AH) (a0 : Nat) (x0 : Int32) (r : Int32 × AH), rec_X4_either S a0 x0 = some r → AM l g (d - 1) yX4_either cX4_either 5 (some .boolean) 0 0 [.ref a0, .int x0] S (Qr (some (.int r.1)) r.2)) {rec_X4_part : AH → Nat → Int32 → Option (Int32 × AH)} (hrec_X4_part : ∀ (S : AH) (a0 : Nat) (x0 : Int32) (r : Int32 × AH), rec_X4_part S a0 x0 = some r → AM l g (d - 1) yX4_part cX4_part 3 (some .boolean) 0 0 [.ref a0, .int x0] S (Qr (some (.int r.1)) r.2)) {S : AH} {l1 : Int32} {l2 : Int32} (hf : X4_part_22 rec_X4_either rec_X4_part S a0 l1 l2 = some r) : AW l g d RX4 cX4_part 3 "part" MC MS' (Qr (some (.int r.1)) r.2) k n 22 [some (.ref a0), some (.int l1), some (.int l2)] [] S := by
  unfold X4_part_22 at hf
  refine a_iload_n (pc := 22) dX4_part_22 rfl ?_
  refine a_iconst (pc := 23) 4 dX4_part_23 rfl ?_
  refine a_icmp_lt (pc := 24) 29 dX4_part_24 (by decide) (fun c12 => ?_) (fun c12 => ?_)
  · have hf := (if_pos c12).symm.trans hf
    refine a_aload_n (pc := 29) dX4_part_29 rfl (isRv_r _) ?_
    refine a_dup (pc := 30) dX4_part_30 rfl ?_
    obtain ⟨x1, hx1, hf⟩ := Option.bind_eq_some_iff.mp hf
    refine g_getI (pc := 31) dX4_part_31 fl_X4_28 hx1 ?_
    refine a_iconst (pc := 34) 1 dX4_part_34 rfl ?_
    refine a_iadd (pc := 35) dX4_part_35 ?_
    obtain ⟨S2, hS2, hf⟩ := Option.bind_eq_some_iff.mp hf
    refine g_putI (pc := 36) dX4_part_36 fl_X4_28 rfl rfl hS2 ?_
    refine a_iload_n (pc := 39) dX4_part_39 rfl ?_
    refine a_bipush (pc := 40) 40 dX4_part_40 rfl ?_
    refine a_icmp_ne (pc := 42) 70 dX4_part_42 (by decide) (fun c11 => ?_) (fun c11 => ?_)
    · have hf := (if_neg c11).symm.trans hf
      refine a_aload_n (pc := 70) dX4_part_70 rfl (isRv_r _) ?_
      refine a_iload_n (pc := 71) dX4_part_71 rfl ?_
      refine a_iconst (pc := 72) 1 dX4_part_72 rfl ?_
      refine a_iadd (pc := 73) dX4_part_73 ?_
      obtain ⟨r3, hr3, hf⟩ := Option.bind_eq_some_iff.mp hf
      obtain ⟨hor3, hr3⟩ := cO_of hr3
      refine g_call (pc := 74) (mc := 0) (ms := 0) (.int r3.1) [.int (l1 + 1)] [] dX4_part_74 ml_X4_116 mv_X4_part hor3 (by decide) rfl rfl (by omega) (hrec_X4_part _ _ _ _  hr3) rfl (Nat.le_of_ble_eq_true rfl) hk hn ?_
      refine a_if_eq (pc := 77) 92 dX4_part_77 (by decide) (fun c6 => ?_) (fun c6 => ?_)
      · have hf := (if_pos c6).symm.trans hf
        refine a_sub (sub_d (sub_d (sub_d sub_n))) ?_
        exact sX4_part_92 hd hk hn hrec_X4_either hrec_X4_part hf
      · have hf := (if_neg c6).symm.trans hf
        refine a_aload_n (pc := 80) dX4_part_80 rfl (isRv_r _) ?_
        refine a_iconst (pc := 81) (-1) dX4_part_81 rfl ?_
        obtain ⟨r4, hr4, hf⟩ := Option.bind_eq_some_iff.mp hf
        obtain ⟨hor4, hr4⟩ := cO_of hr4
        refine g_call (pc := 82) (mc := 0) (ms := 0) (.int r4.1) [.int (-1)] [] dX4_part_82 ml_X4_101 mv_X4_addStep hor4 (by decide) rfl rfl (by omega) (mX4_addStep (by omega) hr4) rfl (Nat.le_of_ble_eq_true rfl) hk hn ?_
        refine a_if_eq (pc := 85) 92 dX4_part_85 (by decide) (fun c5 => ?_) (fun c5 => ?_)
        · have hf := (if_pos c5).symm.trans hf
          refine a_sub (sub_d (sub_d (sub_d sub_n))) ?_
          exact sX4_part_92 hd hk hn hrec_X4_either hrec_X4_part hf
        · have hf := (if_neg c5).symm.trans hf
          refine a_iconst (pc := 88) 1 dX4_part_88 rfl ?_
          refine a_goto (pc := 89) 93 dX4_part_89 (by decide) ?_
          refine a_sub (sub_d (sub_d (sub_d sub_n))) ?_
          exact sX4_part_93 hd hk hn hrec_X4_either hrec_X4_part hf
    · have hf := (if_pos c11).symm.trans hf
      refine a_aload_n (pc := 45) dX4_part_45 rfl (isRv_r _) ?_
      refine a_iload_n (pc := 46) dX4_part_46 rfl ?_
      refine a_iconst (pc := 47) 1 dX4_part_47 rfl ?_
      refine a_iadd (pc := 48) dX4_part_48 ?_
      obtain ⟨r7, hr7, hf⟩ := Option.bind_eq_some_iff.mp hf
      obtain ⟨hor7, hr7⟩ := cO_of hr7
      refine g_call (pc := 49) (mc := 0) (ms := 0) (.int r7.1) [.int (l1 + 1)] [] dX4_part_49 ml_X4_85 mv_X4_either hor7 (by decide) rfl rfl (by omega) (hrec_X4_either _ _ _ _  hr7) rfl (Nat.le_of_ble_eq_true rfl) hk hn ?_
      refine a_if_eq (pc := 52) 68 dX4_part_52 (by decide) (fun c10 => ?_) (fun c10 => ?_)
      · have hf := (if_pos c10).symm.trans hf
        refine a_sub (sub_d (sub_d (sub_d sub_n))) ?_
        exact sX4_part_68 hd hk hn hrec_X4_either hrec_X4_part hf
      · have hf := (if_neg c10).symm.trans hf
        refine a_aload_n (pc := 55) dX4_part_55 rfl (isRv_r _) ?_
        refine a_bipush (pc := 56) 41 dX4_part_56 rfl ?_
        obtain ⟨r8, hr8, hf⟩ := Option.bind_eq_some_iff.mp hf
        obtain ⟨hor8, hr8⟩ := cO_of hr8
        refine g_call (pc := 58) (mc := 0) (ms := 0) (.int r8.1) [.int 41] [] dX4_part_58 ml_X4_57 mv_X4_sign hor8 (by decide) rfl rfl (by omega) (mX4_sign (by omega) hr8) rfl (Nat.le_of_ble_eq_true rfl) hk hn ?_
        refine a_if_eq (pc := 61) 68 dX4_part_61 (by decide) (fun c9 => ?_) (fun c9 => ?_)
        · have hf := (if_pos c9).symm.trans hf
          refine a_sub (sub_d (sub_d (sub_d sub_n))) ?_
          exact sX4_part_68 hd hk hn hrec_X4_either hrec_X4_part hf
        · have hf := (if_neg c9).symm.trans hf
          refine a_iconst (pc := 64) 1 dX4_part_64 rfl ?_
          refine a_goto (pc := 65) 69 dX4_part_65 (by decide) ?_
          refine a_sub (sub_d (sub_d (sub_d sub_n))) ?_
          exact sX4_part_69 hd hk hn hrec_X4_either hrec_X4_part hf
  · have hf := (if_neg c12).symm.trans hf
    refine a_iconst (pc := 27) 0 dX4_part_27 rfl ?_
    have hf := Option.some.inj hf
    subst hf
    exact a_ireturn (pc := 28) dX4_part_28 hk hn ⟨rfl, rfl⟩
set_option maxHeartbeats 4000000 in
theorem sX4_part_0 {l : Launch} {g : gE} {d MC MS' k n : Nat} {a0 : Nat} (hd : 5 ≤ d) (hk : k ≤ MC) (hn : n ≤ MS') {r : Int32 × AH} {rec_X4_either : AH → Nat → Int32 → Option (Int32 × AH)} (hrec_X4_either : ∀ (S : AH) (a0 : Nat) (x0 : Int32) (r : Int32 × AH), rec_X4_either S a0 x0 = some r → AM l g (d - 1) yX4_either cX4_either 5 (some .boolean) 0 0 [.ref a0, .int x0] S (Qr (some (.int r.1)) r.2)) {rec_X4_part : AH → Nat → Int32 → Option (Int32 × AH)} (hrec_X4_part : ∀ (S : AH) (a0 : Nat) (x0 : Int32) (r : Int32 × AH), rec_X4_part S a0 x0 = some r → AM l g (d - 1) yX4_part cX4_part 3 (some .boolean) 0 0 [.ref a0, .int x0] S (Qr (some (.int r.1)) r.2)) {S : AH} {l1 : Int32} (hf : X4_part_0 rec_X4_either rec_X4_part S a0 l1 = some r) : AW l g d RX4 cX4_part 3 "part" MC MS' (Qr (some (.int r.1)) r.2) k n 0 [some (.ref a0), some (.int l1), none] [] S := by
  unfold X4_part_0 at hf
  refine a_aload_n (pc := 0) dX4_part_0 rfl (isRv_r _) ?_
  obtain ⟨r1, hr1, hf⟩ := Option.bind_eq_some_iff.mp hf
  obtain ⟨hor1, hr1⟩ := cO_of hr1
  refine g_call (pc := 1) (mc := 0) (ms := 0) (.int r1.1) [] [] dX4_part_1 ml_X4_53 mv_X4_at hor1 (by decide) rfl rfl (by omega) (mX4_at (by omega) hr1) rfl (Nat.le_of_ble_eq_true rfl) hk hn ?_
  refine a_istore_n (pc := 4) (ls' := [some (.ref a0), some (.int l1), some (.int (r1.1))]) dX4_part_4 (by decide) rfl ?_
  refine a_iload_n (pc := 5) dX4_part_5 rfl ?_
  refine a_bipush (pc := 6) 33 dX4_part_6 rfl ?_
  refine a_icmp_eq (pc := 8) 22 dX4_part_8 (by decide) (fun c4 => ?_) (fun c4 => ?_)
  · have hf := (if_pos c4).symm.trans hf
    exact sX4_part_22 hd hk hn hrec_X4_either hrec_X4_part hf
  · have hf := (if_neg c4).symm.trans hf
    refine a_iload_n (pc := 11) dX4_part_11 rfl ?_
    refine a_bipush (pc := 12) 40 dX4_part_12 rfl ?_
    refine a_icmp_eq (pc := 14) 22 dX4_part_14 (by decide) (fun c3 => ?_) (fun c3 => ?_)
    · have hf := (if_pos c3).symm.trans hf
      exact sX4_part_22 hd hk hn hrec_X4_either hrec_X4_part hf
    · have hf := (if_neg c3).symm.trans hf
      refine a_aload_n (pc := 17) dX4_part_17 rfl (isRv_r _) ?_
      obtain ⟨r2, hr2, hf⟩ := Option.bind_eq_some_iff.mp hf
      obtain ⟨hor2, hr2⟩ := cO_of hr2
      refine g_call (pc := 18) (mc := 0) (ms := 0) (.int r2.1) [] [] dX4_part_18 ml_X4_119 mv_X4_test hor2 (by decide) rfl rfl (by omega) (mX4_test (by omega) hr2) rfl (Nat.le_of_ble_eq_true rfl) hk hn ?_
      have hf := Option.some.inj hf
      subst hf
      exact a_ireturn (pc := 21) dX4_part_21 hk hn ⟨rfl, rfl⟩
set_option maxHeartbeats 4000000 in
theorem mX4_part {l : Launch} {g : gE} {d : Nat} {a0 : Nat} (hd : 5 ≤ d) {rec_X4_either : AH → Nat → Int32 → Option (Int32 × AH)} (hrec_X4_either : ∀ (S : AH) (a0 : Nat) (x0 : Int32) (r : Int32 × AH), rec_X4_either S a0 x0 = some r → AM l g (d - 1) yX4_either cX4_either 5 (some .boolean) 0 0 [.ref a0, .int x0] S (Qr (some (.int r.1)) r.2)) {rec_X4_part : AH → Nat → Int32 → Option (Int32 × AH)} (hrec_X4_part : ∀ (S : AH) (a0 : Nat) (x0 : Int32) (r : Int32 × AH), rec_X4_part S a0 x0 = some r → AM l g (d - 1) yX4_part cX4_part 3 (some .boolean) 0 0 [.ref a0, .int x0] S (Qr (some (.int r.1)) r.2)) {r : Int32 × AH} {S : AH} {l1 : Int32} (hf : X4_part rec_X4_either rec_X4_part S a0 l1 = some r) : AM l g d yX4_part cX4_part 3 (some .boolean) 0 0 [.ref a0, .int l1] S (Qr (some (.int r.1)) r.2) := by
  refine AM.of rfl (by exact Nat.le_of_ble_eq_true rfl) (fun v h' q => by obtain ⟨rfl, -⟩ := q; refine ⟨_, rfl, ?_⟩; rcases (zg_of hf).2 with e | e <;> rw [e] <;> rfl) (fun ls e => ?_)
  have e2 : aBeg [.ref a0, .int l1] 3 = [some (.ref a0), some (.int l1), none] := rfl
  rw [e2] at e
  subst e
  refine a_sub (sub_k (sub_k (sub_k (sub_n)))) ?_
  exact sX4_part_0 hd (Nat.le_refl _) (Nat.le_refl _) hrec_X4_either hrec_X4_part ((zg_of hf).1)

-- PencilStrikes$LawReader.either(I)Z
def X4_either_73 (rec_X4_part : AH → Nat → Int32 → Option (Int32 × AH)) (rec7 : AH → Nat → Int32 → Int32 → Int32 → Int32 → Option (Int32 × AH)) (S : AH) (a0 : Nat) (l1 : Int32) (l2 : Int32) (l3 : Int32) (l4 : Int32) : Option (Int32 × AH) :=
  rec7 S a0 l1 l2 l3 (l4 + 1)
def X4_either_60 (rec_X4_part : AH → Nat → Int32 → Option (Int32 × AH)) (rec7 : AH → Nat → Int32 → Int32 → Int32 → Int32 → Option (Int32 × AH)) (S : AH) (a0 : Nat) (l1 : Int32) (l2 : Int32) (l4 : Int32) : Option (Int32 × AH) :=
  (cO S a0 4 (X4_sign S a0 124)).bind fun r1 =>
  if r1.1 = 0 then
    some (1, r1.2)
  else
    X4_either_73 rec_X4_part rec7 r1.2 a0 l1 l2 r1.1 l4
def X4_either_35 (rec_X4_part : AH → Nat → Int32 → Option (Int32 × AH)) (rec7 : AH → Nat → Int32 → Int32 → Int32 → Int32 → Option (Int32 × AH)) (S : AH) (a0 : Nat) (l1 : Int32) (l3 : Int32) (l4 : Int32) : Option (Int32 × AH) :=
  (cO S a0 4 (X4_sign S a0 38)).bind fun r1 =>
  if r1.1 = 0 then
    if l3 = 0 then
      X4_either_60 rec_X4_part rec7 r1.2 a0 l1 r1.1 l4
    else
      (cO r1.2 a0 4 (X4_addStep r1.2 a0 (-3))).bind fun r2 =>
      X4_either_60 rec_X4_part rec7 r2.2 a0 l1 r1.1 l4
  else
    X4_either_73 rec_X4_part rec7 r1.2 a0 l1 r1.1 l3 l4
def X4_either_7 (rec_X4_part : AH → Nat → Int32 → Option (Int32 × AH)) : Nat → AH → Nat → Int32 → Int32 → Int32 → Int32 → Option (Int32 × AH)
  | 0, _, _, _, _, _, _ => none
  | fn + 1, S, a0, l1, l2, l3, l4 =>
    if 100 ≤ l4 then
      some (0, S)
    else
      (cO S a0 4 (rec_X4_part S a0 l1)).bind fun r1 =>
      if r1.1 = 0 then
        some (0, r1.2)
      else
        if l2 = 0 then
          X4_either_35 rec_X4_part (X4_either_7 rec_X4_part fn) r1.2 a0 l1 l3 l4
        else
          (cO r1.2 a0 4 (X4_addStep r1.2 a0 (-2))).bind fun r2 =>
          X4_either_35 rec_X4_part (X4_either_7 rec_X4_part fn) r2.2 a0 l1 l3 l4
def X4_either_0 (rec_X4_part : AH → Nat → Int32 → Option (Int32 × AH)) (S : AH) (a0 : Nat) (l1 : Int32) : Option (Int32 × AH) :=
  X4_either_7 rec_X4_part FU S a0 l1 0 0 0
def X4_either (rec_X4_part : AH → Nat → Int32 → Option (Int32 × AH)) (S : AH) (a0 : Nat) (l1 : Int32) : Option (Int32 × AH) := zg (X4_either_0 rec_X4_part S a0 l1)
set_option maxHeartbeats 4000000 in
theorem sX4_either_73 {l : Launch} {g : gE} {d MC MS' k n : Nat} {a0 : Nat} (hd : 2 ≤ d) (hk : k ≤ MC) (hn : n ≤ MS') {r : Int32 × AH} {rec_X4_part : AH → Nat → Int32 → Option (Int32 × AH)} (hrec_X4_part : ∀ (S : AH) (a0 : Nat) (x0 : Int32) (r : Int32 × AH), rec_X4_part S a0 x0 = some r → AM l g (d - 1) yX4_part cX4_part 3 (some .boolean) 0 0 [.ref a0, .int x0] S (Qr (some (.int r.1)) r.2)) {rec7 : AH → Nat → Int32 → Int32 → Int32 → Int32 → Option (Int32 × AH)} (hlp7 : ∀ (S : AH) (l1 : Int32) (l2 : Int32) (l3 : Int32) (l4 : Int32), rec7 S a0 l1 l2 l3 l4 = some r → AW l g d RX4 cX4_either 5 "either" MC MS' (Qr (some (.int r.1)) r.2) k n 7 [some (.ref a0), some (.int l1), some (.int l2), some (.int l3), some (.int l4)] [] S) {S : AH} {l1 : Int32} {l2 : Int32} {l3 : Int32} {l4 : Int32} (hf : X4_either_73 rec_X4_part rec7 S a0 l1 l2 l3 l4 = some r) : AW l g d RX4 cX4_either 5 "either" MC MS' (Qr (some (.int r.1)) r.2) k n 73 [some (.ref a0), some (.int l1), some (.int l2), some (.int l3), some (.int l4)] [] S := by
  unfold X4_either_73 at hf
  refine a_iinc (pc := 73) (ls' := [some (.ref a0), some (.int l1), some (.int l2), some (.int l3), some (.int (l4 + 1))]) (l4 + 1) dX4_either_73 rfl rfl (by decide) rfl ?_
  refine a_goto (pc := 76) 7 dX4_either_76 (by decide) ?_
  exact hlp7 S l1 l2 l3 (l4 + 1) hf
set_option maxHeartbeats 4000000 in
theorem sX4_either_60 {l : Launch} {g : gE} {d MC MS' k n : Nat} {a0 : Nat} (hd : 2 ≤ d) (hk : k ≤ MC) (hn : n ≤ MS') {r : Int32 × AH} {rec_X4_part : AH → Nat → Int32 → Option (Int32 × AH)} (hrec_X4_part : ∀ (S : AH) (a0 : Nat) (x0 : Int32) (r : Int32 × AH), rec_X4_part S a0 x0 = some r → AM l g (d - 1) yX4_part cX4_part 3 (some .boolean) 0 0 [.ref a0, .int x0] S (Qr (some (.int r.1)) r.2)) {rec7 : AH → Nat → Int32 → Int32 → Int32 → Int32 → Option (Int32 × AH)} (hlp7 : ∀ (S : AH) (l1 : Int32) (l2 : Int32) (l3 : Int32) (l4 : Int32), rec7 S a0 l1 l2 l3 l4 = some r → AW l g d RX4 cX4_either 5 "either" MC MS' (Qr (some (.int r.1)) r.2) k n 7 [some (.ref a0), some (.int l1), some (.int l2), some (.int l3), some (.int l4)] [] S) {S : AH} {l1 : Int32} {l2 : Int32} {l4 : Int32} (hf : X4_either_60 rec_X4_part rec7 S a0 l1 l2 l4 = some r) : AW l g d RX4 cX4_either 5 "either" MC MS' (Qr (some (.int r.1)) r.2) k n 60 [some (.ref a0), some (.int l1), some (.int l2), none, some (.int l4)] [] S := by
  unfold X4_either_60 at hf
  refine a_aload_n (pc := 60) dX4_either_60 rfl (isRv_r _) ?_
  refine a_bipush (pc := 61) 124 dX4_either_61 rfl ?_
  obtain ⟨r1, hr1, hf⟩ := Option.bind_eq_some_iff.mp hf
  obtain ⟨hor1, hr1⟩ := cO_of hr1
  refine g_call (pc := 63) (mc := 0) (ms := 0) (.int r1.1) [.int 124] [] dX4_either_63 ml_X4_57 mv_X4_sign hor1 (by decide) rfl rfl (by omega) (mX4_sign (by omega) hr1) rfl (Nat.le_of_ble_eq_true rfl) hk hn ?_
  refine a_istore_n (pc := 66) (ls' := [some (.ref a0), some (.int l1), some (.int l2), some (.int (r1.1)), some (.int l4)]) dX4_either_66 (by decide) rfl ?_
  refine a_iload_n (pc := 67) dX4_either_67 rfl ?_
  refine a_if_ne (pc := 68) 73 dX4_either_68 (by decide) (fun c2 => ?_) (fun c2 => ?_)
  · have hf := (if_neg c2).symm.trans hf
    exact sX4_either_73 hd hk hn hrec_X4_part hlp7 hf
  · have hf := (if_pos c2).symm.trans hf
    refine a_iconst (pc := 71) 1 dX4_either_71 rfl ?_
    have hf := Option.some.inj hf
    subst hf
    exact a_ireturn (pc := 72) dX4_either_72 hk hn ⟨rfl, rfl⟩
set_option maxHeartbeats 4000000 in
theorem sX4_either_35 {l : Launch} {g : gE} {d MC MS' k n : Nat} {a0 : Nat} (hd : 2 ≤ d) (hk : k ≤ MC) (hn : n ≤ MS') {r : Int32 × AH} {rec_X4_part : AH → Nat → Int32 → Option (Int32 × AH)} (hrec_X4_part : ∀ (S : AH) (a0 : Nat) (x0 : Int32) (r : Int32 × AH), rec_X4_part S a0 x0 = some r → AM l g (d - 1) yX4_part cX4_part 3 (some .boolean) 0 0 [.ref a0, .int x0] S (Qr (some (.int r.1)) r.2)) {rec7 : AH → Nat → Int32 → Int32 → Int32 → Int32 → Option (Int32 × AH)} (hlp7 : ∀ (S : AH) (l1 : Int32) (l2 : Int32) (l3 : Int32) (l4 : Int32), rec7 S a0 l1 l2 l3 l4 = some r → AW l g d RX4 cX4_either 5 "either" MC MS' (Qr (some (.int r.1)) r.2) k n 7 [some (.ref a0), some (.int l1), some (.int l2), some (.int l3), some (.int l4)] [] S) {S : AH} {l1 : Int32} {l3 : Int32} {l4 : Int32} (hf : X4_either_35 rec_X4_part rec7 S a0 l1 l3 l4 = some r) : AW l g d RX4 cX4_either 5 "either" MC MS' (Qr (some (.int r.1)) r.2) k n 35 [some (.ref a0), some (.int l1), none, some (.int l3), some (.int l4)] [] S := by
  unfold X4_either_35 at hf
  refine a_aload_n (pc := 35) dX4_either_35 rfl (isRv_r _) ?_
  refine a_bipush (pc := 36) 38 dX4_either_36 rfl ?_
  obtain ⟨r1, hr1, hf⟩ := Option.bind_eq_some_iff.mp hf
  obtain ⟨hor1, hr1⟩ := cO_of hr1
  refine g_call (pc := 38) (mc := 0) (ms := 0) (.int r1.1) [.int 38] [] dX4_either_38 ml_X4_57 mv_X4_sign hor1 (by decide) rfl rfl (by omega) (mX4_sign (by omega) hr1) rfl (Nat.le_of_ble_eq_true rfl) hk hn ?_
  refine a_istore_n (pc := 41) (ls' := [some (.ref a0), some (.int l1), some (.int (r1.1)), some (.int l3), some (.int l4)]) dX4_either_41 (by decide) rfl ?_
  refine a_iload_n (pc := 42) dX4_either_42 rfl ?_
  refine a_if_eq (pc := 43) 49 dX4_either_43 (by decide) (fun c4 => ?_) (fun c4 => ?_)
  · have hf := (if_pos c4).symm.trans hf
    refine a_iload_n (pc := 49) dX4_either_49 rfl ?_
    refine a_if_eq (pc := 50) 60 dX4_either_50 (by decide) (fun c3 => ?_) (fun c3 => ?_)
    · have hf := (if_pos c3).symm.trans hf
      refine a_sub (sub_k (sub_k (sub_k (sub_d (sub_k sub_n))))) ?_
      exact sX4_either_60 hd hk hn hrec_X4_part hlp7 hf
    · have hf := (if_neg c3).symm.trans hf
      refine a_aload_n (pc := 53) dX4_either_53 rfl (isRv_r _) ?_
      refine a_bipush (pc := 54) (-3) dX4_either_54 rfl ?_
      obtain ⟨r2, hr2, hf⟩ := Option.bind_eq_some_iff.mp hf
      obtain ⟨hor2, hr2⟩ := cO_of hr2
      refine g_call (pc := 56) (mc := 0) (ms := 0) (.int r2.1) [.int (-3)] [] dX4_either_56 ml_X4_101 mv_X4_addStep hor2 (by decide) rfl rfl (by omega) (mX4_addStep (by omega) hr2) rfl (Nat.le_of_ble_eq_true rfl) hk hn ?_
      refine a_pop (pc := 59) dX4_either_59 rfl ?_
      refine a_sub (sub_k (sub_k (sub_k (sub_d (sub_k sub_n))))) ?_
      exact sX4_either_60 hd hk hn hrec_X4_part hlp7 hf
  · have hf := (if_neg c4).symm.trans hf
    refine a_goto (pc := 46) 73 dX4_either_46 (by decide) ?_
    exact sX4_either_73 hd hk hn hrec_X4_part hlp7 hf
set_option maxHeartbeats 4000000 in
theorem sX4_either_7 {l : Launch} {g : gE} {d MC MS' k n : Nat} {a0 : Nat} (hd : 2 ≤ d) (hk : k ≤ MC) (hn : n ≤ MS') {r : Int32 × AH} {rec_X4_part : AH → Nat → Int32 → Option (Int32 × AH)} (hrec_X4_part : ∀ (S : AH) (a0 : Nat) (x0 : Int32) (r : Int32 × AH), rec_X4_part S a0 x0 = some r → AM l g (d - 1) yX4_part cX4_part 3 (some .boolean) 0 0 [.ref a0, .int x0] S (Qr (some (.int r.1)) r.2)) : ∀ (fn : Nat) (S : AH) (l1 : Int32) (l2 : Int32) (l3 : Int32) (l4 : Int32), X4_either_7 rec_X4_part fn S a0 l1 l2 l3 l4 = some r → AW l g d RX4 cX4_either 5 "either" MC MS' (Qr (some (.int r.1)) r.2) k n 7 [some (.ref a0), some (.int l1), some (.int l2), some (.int l3), some (.int l4)] [] S := by
  intro fn
  induction fn with
  | zero =>
    intro S l1 l2 l3 l4 hf
    rw [X4_either_7] at hf
    cases hf
  | succ fn ih =>
    intro S l1 l2 l3 l4 hf
    rw [X4_either_7] at hf
    refine a_iload (pc := 7) dX4_either_7 rfl ?_
    refine a_bipush (pc := 9) 100 dX4_either_9 rfl ?_
    refine a_icmp_ge (pc := 11) 79 dX4_either_11 (by decide) (fun c5 => ?_) (fun c5 => ?_)
    · have hf := (if_pos c5).symm.trans hf
      refine a_iconst (pc := 79) 0 dX4_either_79 rfl ?_
      have hf := Option.some.inj hf
      subst hf
      exact a_ireturn (pc := 80) dX4_either_80 hk hn ⟨rfl, rfl⟩
    · have hf := (if_neg c5).symm.trans hf
      refine a_aload_n (pc := 14) dX4_either_14 rfl (isRv_r _) ?_
      refine a_iload_n (pc := 15) dX4_either_15 rfl ?_
      obtain ⟨r1, hr1, hf⟩ := Option.bind_eq_some_iff.mp hf
      obtain ⟨hor1, hr1⟩ := cO_of hr1
      refine g_call (pc := 16) (mc := 0) (ms := 0) (.int r1.1) [.int l1] [] dX4_either_16 ml_X4_116 mv_X4_part hor1 (by decide) rfl rfl (by omega) (hrec_X4_part _ _ _ _  hr1) rfl (Nat.le_of_ble_eq_true rfl) hk hn ?_
      refine a_if_ne (pc := 19) 24 dX4_either_19 (by decide) (fun c4 => ?_) (fun c4 => ?_)
      · have hf := (if_neg c4).symm.trans hf
        refine a_iload_n (pc := 24) dX4_either_24 rfl ?_
        refine a_if_eq (pc := 25) 35 dX4_either_25 (by decide) (fun c3 => ?_) (fun c3 => ?_)
        · have hf := (if_pos c3).symm.trans hf
          refine a_sub (sub_k (sub_k (sub_d (sub_k (sub_k sub_n))))) ?_
          exact sX4_either_35 hd hk hn hrec_X4_part ih hf
        · have hf := (if_neg c3).symm.trans hf
          refine a_aload_n (pc := 28) dX4_either_28 rfl (isRv_r _) ?_
          refine a_bipush (pc := 29) (-2) dX4_either_29 rfl ?_
          obtain ⟨r2, hr2, hf⟩ := Option.bind_eq_some_iff.mp hf
          obtain ⟨hor2, hr2⟩ := cO_of hr2
          refine g_call (pc := 31) (mc := 0) (ms := 0) (.int r2.1) [.int (-2)] [] dX4_either_31 ml_X4_101 mv_X4_addStep hor2 (by decide) rfl rfl (by omega) (mX4_addStep (by omega) hr2) rfl (Nat.le_of_ble_eq_true rfl) hk hn ?_
          refine a_pop (pc := 34) dX4_either_34 rfl ?_
          refine a_sub (sub_k (sub_k (sub_d (sub_k (sub_k sub_n))))) ?_
          exact sX4_either_35 hd hk hn hrec_X4_part ih hf
      · have hf := (if_pos c4).symm.trans hf
        refine a_iconst (pc := 22) 0 dX4_either_22 rfl ?_
        have hf := Option.some.inj hf
        subst hf
        exact a_ireturn (pc := 23) dX4_either_23 hk hn ⟨rfl, rfl⟩
set_option maxHeartbeats 4000000 in
theorem sX4_either_0 {l : Launch} {g : gE} {d MC MS' k n : Nat} {a0 : Nat} (hd : 2 ≤ d) (hk : k ≤ MC) (hn : n ≤ MS') {r : Int32 × AH} {rec_X4_part : AH → Nat → Int32 → Option (Int32 × AH)} (hrec_X4_part : ∀ (S : AH) (a0 : Nat) (x0 : Int32) (r : Int32 × AH), rec_X4_part S a0 x0 = some r → AM l g (d - 1) yX4_part cX4_part 3 (some .boolean) 0 0 [.ref a0, .int x0] S (Qr (some (.int r.1)) r.2)) {S : AH} {l1 : Int32} (hf : X4_either_0 rec_X4_part S a0 l1 = some r) : AW l g d RX4 cX4_either 5 "either" MC MS' (Qr (some (.int r.1)) r.2) k n 0 [some (.ref a0), some (.int l1), none, none, none] [] S := by
  unfold X4_either_0 at hf
  refine a_iconst (pc := 0) 0 dX4_either_0 rfl ?_
  refine a_istore_n (pc := 1) (ls' := [some (.ref a0), some (.int l1), some (.int 0), none, none]) dX4_either_1 (by decide) rfl ?_
  refine a_iconst (pc := 2) 0 dX4_either_2 rfl ?_
  refine a_istore_n (pc := 3) (ls' := [some (.ref a0), some (.int l1), some (.int 0), some (.int 0), none]) dX4_either_3 (by decide) rfl ?_
  refine a_iconst (pc := 4) 0 dX4_either_4 rfl ?_
  refine a_istore (pc := 5) (ls' := [some (.ref a0), some (.int l1), some (.int 0), some (.int 0), some (.int 0)]) dX4_either_5 (by decide) rfl ?_
  exact sX4_either_7 hd hk hn hrec_X4_part FU S l1 0 0 0 hf
set_option maxHeartbeats 4000000 in
theorem mX4_either {l : Launch} {g : gE} {d : Nat} {a0 : Nat} (hd : 2 ≤ d) {rec_X4_part : AH → Nat → Int32 → Option (Int32 × AH)} (hrec_X4_part : ∀ (S : AH) (a0 : Nat) (x0 : Int32) (r : Int32 × AH), rec_X4_part S a0 x0 = some r → AM l g (d - 1) yX4_part cX4_part 3 (some .boolean) 0 0 [.ref a0, .int x0] S (Qr (some (.int r.1)) r.2)) {r : Int32 × AH} {S : AH} {l1 : Int32} (hf : X4_either rec_X4_part S a0 l1 = some r) : AM l g d yX4_either cX4_either 5 (some .boolean) 0 0 [.ref a0, .int l1] S (Qr (some (.int r.1)) r.2) := by
  refine AM.of rfl (by exact Nat.le_of_ble_eq_true rfl) (fun v h' q => by obtain ⟨rfl, -⟩ := q; refine ⟨_, rfl, ?_⟩; rcases (zg_of hf).2 with e | e <;> rw [e] <;> rfl) (fun ls e => ?_)
  have e2 : aBeg [.ref a0, .int l1] 5 = [some (.ref a0), some (.int l1), none, none, none] := rfl
  rw [e2] at e
  subst e
  refine a_sub (sub_k (sub_k (sub_k (sub_k (sub_k (sub_n)))))) ?_
  exact sX4_either_0 hd (Nat.le_refl _) (Nat.le_refl _) hrec_X4_part ((zg_of hf).1)

def X4_ep : Nat → Bool → AH → Nat → Int32 → Option (Int32 × AH)
  | 0, _, _, _, _ => none
  | n + 1, true, S, a, x => X4_either (fun S a x => X4_ep n false S a x) S a x
  | n + 1, false, S, a, x => X4_part (fun S a x => X4_ep n true S a x) (fun S a x => X4_ep n false S a x) S a x
theorem mX4_ep {l : Launch} {g : gE} : ∀ (n d : Nat), 5 + n ≤ d → (∀ (S : AH) (a : Nat) (x : Int32) (r : Int32 × AH), X4_ep n true S a x = some r → AM l g d yX4_either cX4_either 5 (some .boolean) 0 0 [.ref a, .int x] S (Qr (some (.int r.1)) r.2)) ∧ (∀ (S : AH) (a : Nat) (x : Int32) (r : Int32 × AH), X4_ep n false S a x = some r → AM l g d yX4_part cX4_part 3 (some .boolean) 0 0 [.ref a, .int x] S (Qr (some (.int r.1)) r.2)) := by
  intro n
  induction n with
  | zero => exact fun d _ => ⟨fun S a x r h => (by cases h), fun S a x r h => (by cases h)⟩
  | succ n ih =>
    intro d hd
    have h1 := ih (d - 1) (by omega)
    exact ⟨fun S a x r h => mX4_either (by omega) h1.2 h, fun S a x r h => mX4_part (by omega) h1.1 h1.2 h⟩
def X4_eitherK (S : AH) (a : Nat) (x : Int32) : Option (Int32 × AH) := X4_ep 20 true S a x
theorem mX4_eitherK {l : Launch} {g : gE} {d : Nat} (hd : 40 ≤ d) {S : AH} {a : Nat} {x : Int32} {r : Int32 × AH} (h : X4_eitherK S a x = some r) : AM l g d yX4_either cX4_either 5 (some .boolean) 0 0 [.ref a, .int x] S (Qr (some (.int r.1)) r.2) := (mX4_ep 20 d (by omega)).1 S a x r h

-- PencilStrikes$LawReader.mostEnds()Z
def X4_mostEnds_27 (S : AH) (a0 : Nat) (s1 : Int32) : Option (Int32 × AH) :=
  (sI S a0 4 9 s1).bind fun S1 =>
  some (1, S1)
def X4_mostEnds_0 (S : AH) (a0 : Nat) : Option (Int32 × AH) :=
  (gI S a0 4 9).bind fun x1 =>
  if x1 = (-1) then
    (gI S a0 4 5).bind fun x5 =>
    X4_mostEnds_27 S a0 x5
  else
    (gI S a0 4 9).bind fun x2 =>
    (gI S a0 4 5).bind fun x3 =>
    X4_mostEnds_27 S a0 (if x3 < x2 then x3 else x2)
def X4_mostEnds (S : AH) (a0 : Nat) : Option (Int32 × AH) := zg (X4_mostEnds_0 S a0)
set_option maxHeartbeats 4000000 in
theorem sX4_mostEnds_27 {l : Launch} {g : gE} {d MC MS' k n : Nat} {a0 : Nat} (hd : 0 ≤ d) (hk : k ≤ MC) (hn : n ≤ MS') {r : Int32 × AH} {S : AH} {s1 : Int32} (hf : X4_mostEnds_27 S a0 s1 = some r) : AW l g d RX4 cX4_mostEnds 1 "mostEnds" MC MS' (Qr (some (.int r.1)) r.2) k n 27 [none] [.int s1, .ref a0] S := by
  unfold X4_mostEnds_27 at hf
  obtain ⟨S1, hS1, hf⟩ := Option.bind_eq_some_iff.mp hf
  refine g_putI (pc := 27) dX4_mostEnds_27 fl_X4_46 rfl rfl hS1 ?_
  refine a_iconst (pc := 30) 1 dX4_mostEnds_30 rfl ?_
  have hf := Option.some.inj hf
  subst hf
  exact a_ireturn (pc := 31) dX4_mostEnds_31 hk hn ⟨rfl, rfl⟩
set_option maxHeartbeats 4000000 in
theorem sX4_mostEnds_0 {l : Launch} {g : gE} {d MC MS' k n : Nat} {a0 : Nat} (hd : 0 ≤ d) (hk : k ≤ MC) (hn : n ≤ MS') {r : Int32 × AH} {S : AH} (hf : X4_mostEnds_0 S a0 = some r) : AW l g d RX4 cX4_mostEnds 1 "mostEnds" MC MS' (Qr (some (.int r.1)) r.2) k n 0 [some (.ref a0)] [] S := by
  unfold X4_mostEnds_0 at hf
  refine a_aload_n (pc := 0) dX4_mostEnds_0 rfl (isRv_r _) ?_
  refine a_aload_n (pc := 1) dX4_mostEnds_1 rfl (isRv_r _) ?_
  obtain ⟨x1, hx1, hf⟩ := Option.bind_eq_some_iff.mp hf
  refine g_getI (pc := 2) dX4_mostEnds_2 fl_X4_46 hx1 ?_
  refine a_iconst (pc := 5) (-1) dX4_mostEnds_5 rfl ?_
  refine a_icmp_ne (pc := 6) 16 dX4_mostEnds_6 (by decide) (fun c6 => ?_) (fun c6 => ?_)
  · have hf := (if_neg c6).symm.trans hf
    refine a_aload_n (pc := 16) dX4_mostEnds_16 rfl (isRv_r _) ?_
    obtain ⟨x2, hx2, hf⟩ := Option.bind_eq_some_iff.mp hf
    refine g_getI (pc := 17) dX4_mostEnds_17 fl_X4_46 hx2 ?_
    refine a_aload_n (pc := 20) dX4_mostEnds_20 rfl (isRv_r _) ?_
    obtain ⟨x3, hx3, hf⟩ := Option.bind_eq_some_iff.mp hf
    refine g_getI (pc := 21) dX4_mostEnds_21 fl_X4_104 hx3 ?_
    refine a_mmin (pc := 24) dX4_mostEnds_24 ml_X4_61 (Nat.le_of_ble_eq_true rfl) hk hn ?_
    refine a_sub (sub_d sub_n) ?_
    exact sX4_mostEnds_27 hd hk hn hf
  · have hf := (if_pos c6).symm.trans hf
    refine a_aload_n (pc := 9) dX4_mostEnds_9 rfl (isRv_r _) ?_
    obtain ⟨x5, hx5, hf⟩ := Option.bind_eq_some_iff.mp hf
    refine g_getI (pc := 10) dX4_mostEnds_10 fl_X4_104 hx5 ?_
    refine a_goto (pc := 13) 27 dX4_mostEnds_13 (by decide) ?_
    refine a_sub (sub_d sub_n) ?_
    exact sX4_mostEnds_27 hd hk hn hf
set_option maxHeartbeats 4000000 in
theorem mX4_mostEnds {l : Launch} {g : gE} {d : Nat} {a0 : Nat} (hd : 0 ≤ d) {r : Int32 × AH} {S : AH} (hf : X4_mostEnds S a0 = some r) : AM l g d yX4_mostEnds cX4_mostEnds 1 (some .boolean) 0 0 [.ref a0] S (Qr (some (.int r.1)) r.2) := by
  refine AM.of rfl (by exact Nat.le_of_ble_eq_true rfl) (fun v h' q => by obtain ⟨rfl, -⟩ := q; refine ⟨_, rfl, ?_⟩; rcases (zg_of hf).2 with e | e <;> rw [e] <;> rfl) (fun ls e => ?_)
  have e2 : aBeg [.ref a0] 1 = [some (.ref a0)] := rfl
  rw [e2] at e
  subst e
  refine a_sub (sub_k (sub_n)) ?_
  exact sX4_mostEnds_0 hd (Nat.le_refl _) (Nat.le_refl _) ((zg_of hf).1)

-- jdk/internal/util/Preconditions.checkIndex(IILjava/util/function/BiFunction;)I
def J3_checkIndex_8e157_9 (S : AH) (l0 : Int32) (l1 : Int32) : Option (Int32 × AH) :=
  none
def J3_checkIndex_8e157_0 (S : AH) (l0 : Int32) (l1 : Int32) : Option (Int32 × AH) :=
  if l0 < 0 then
    J3_checkIndex_8e157_9 S l0 l1
  else
    if l0 < l1 then
      some (l0, S)
    else
      J3_checkIndex_8e157_9 S l0 l1
def J3_checkIndex_8e157 (S : AH) (l0 : Int32) (l1 : Int32) : Option (Int32 × AH) := J3_checkIndex_8e157_0 S l0 l1
set_option maxHeartbeats 4000000 in
theorem sJ3_checkIndex_8e157_9 {l : Launch} {g : gE} {d MC MS' k n : Nat} (hd : 0 ≤ d) (hk : k ≤ MC) (hn : n ≤ MS') {r : Int32 × AH} {S : AH} {l0 : Int32} {l1 : Int32} (hf : J3_checkIndex_8e157_9 S l0 l1 = some r) : AW l g d RJ3 cJ3_checkIndex_8e157 3 "checkIndex" MC MS' (Qr (some (.int r.1)) r.2) k n 9 [some (.int l0), some (.int l1), some (.retAddr 13)] [] S := by
  unfold J3_checkIndex_8e157_9 at hf
  refine a_aload_n (pc := 9) dJ3_checkIndex_8e157_9 rfl (isRv_o _) ?_
  refine a_iload_n (pc := 10) dJ3_checkIndex_8e157_10 rfl ?_
  refine a_iload_n (pc := 11) dJ3_checkIndex_8e157_11 rfl ?_
  cases hf
set_option maxHeartbeats 4000000 in
theorem sJ3_checkIndex_8e157_0 {l : Launch} {g : gE} {d MC MS' k n : Nat} (hd : 0 ≤ d) (hk : k ≤ MC) (hn : n ≤ MS') {r : Int32 × AH} {S : AH} {l0 : Int32} {l1 : Int32} (hf : J3_checkIndex_8e157_0 S l0 l1 = some r) : AW l g d RJ3 cJ3_checkIndex_8e157 3 "checkIndex" MC MS' (Qr (some (.int r.1)) r.2) k n 0 [some (.int l0), some (.int l1), some (.retAddr 13)] [] S := by
  unfold J3_checkIndex_8e157_0 at hf
  refine a_iload_n (pc := 0) dJ3_checkIndex_8e157_0 rfl ?_
  refine a_if_lt (pc := 1) 9 dJ3_checkIndex_8e157_1 (by decide) (fun c2 => ?_) (fun c2 => ?_)
  · have hf := (if_pos c2).symm.trans hf
    exact sJ3_checkIndex_8e157_9 hd hk hn hf
  · have hf := (if_neg c2).symm.trans hf
    refine a_iload_n (pc := 4) dJ3_checkIndex_8e157_4 rfl ?_
    refine a_iload_n (pc := 5) dJ3_checkIndex_8e157_5 rfl ?_
    refine a_icmp_lt (pc := 6) 16 dJ3_checkIndex_8e157_6 (by decide) (fun c1 => ?_) (fun c1 => ?_)
    · have hf := (if_pos c1).symm.trans hf
      refine a_iload_n (pc := 16) dJ3_checkIndex_8e157_16 rfl ?_
      have hf := Option.some.inj hf
      subst hf
      exact a_ireturn (pc := 17) dJ3_checkIndex_8e157_17 hk hn ⟨rfl, rfl⟩
    · have hf := (if_neg c1).symm.trans hf
      exact sJ3_checkIndex_8e157_9 hd hk hn hf
set_option maxHeartbeats 4000000 in
theorem mJ3_checkIndex_8e157 {l : Launch} {g : gE} {d : Nat} (hd : 0 ≤ d) {r : Int32 × AH} {S : AH} {l0 : Int32} {l1 : Int32} (hf : J3_checkIndex_8e157 S l0 l1 = some r) : AM l g d yJ3_checkIndex_8e157 cJ3_checkIndex_8e157 3 (some .int) 0 0 [.int l0, .int l1, .retAddr 13] S (Qr (some (.int r.1)) r.2) := by
  refine AM.of rfl (by exact Nat.le_of_ble_eq_true rfl) (fun v h' q => by obtain ⟨rfl, -⟩ := q; exact ⟨_, rfl, rfl⟩) (fun ls e => ?_)
  have e2 : aBeg [.int l0, .int l1, .retAddr 13] 3 = [some (.int l0), some (.int l1), some (.retAddr 13)] := rfl
  rw [e2] at e
  subst e
  refine a_sub (sub_k (sub_k (sub_k (sub_n)))) ?_
  exact sJ3_checkIndex_8e157_0 hd (Nat.le_refl _) (Nat.le_refl _) (hf)

-- java/lang/String.checkIndex(II)V
def J0_checkIndex_df160_0 (S : AH) (l0 : Int32) (l1 : Int32) : Option (Unit × AH) :=
  (J3_checkIndex_8e157 S l0 l1).bind fun r1 =>
  some ((), r1.2)
def J0_checkIndex_df160 (S : AH) (l0 : Int32) (l1 : Int32) : Option (Unit × AH) := J0_checkIndex_df160_0 S l0 l1
set_option maxHeartbeats 4000000 in
theorem sJ0_checkIndex_df160_0 {l : Launch} {g : gE} {d MC MS' k n : Nat} (hd : 1 ≤ d) (hk : k ≤ MC) (hn : n ≤ MS') {r : Unit × AH} {S : AH} {l0 : Int32} {l1 : Int32} (hf : J0_checkIndex_df160_0 S l0 l1 = some r) : AW l g d RJ0 cJ0_checkIndex_df160 2 "checkIndex" MC MS' (Qr (none) r.2) k n 0 [some (.int l0), some (.int l1)] [] S := by
  unfold J0_checkIndex_df160_0 at hf
  refine a_iload_n (pc := 0) dJ0_checkIndex_df160_0 rfl ?_
  refine a_iload_n (pc := 1) dJ0_checkIndex_df160_1 rfl ?_
  refine a_gets13 (pc := 2) dJ0_checkIndex_df160_2 fo_J0_1053 ?_
  obtain ⟨r1, hr1, hf⟩ := Option.bind_eq_some_iff.mp hf
  refine g_calls (pc := 5) (mc := 0) (ms := 0) (.int r1.1) [.int l0, .int l1, .retAddr 13] [] dJ0_checkIndex_df160_5 ml_J0_1059 ms_J3_checkIndex_8e157 rfl (by omega) (mJ3_checkIndex_8e157 (by omega) hr1) rfl (Nat.le_of_ble_eq_true rfl) hk hn ?_
  refine a_pop (pc := 8) dJ0_checkIndex_df160_8 rfl ?_
  have hf := Option.some.inj hf
  subst hf
  exact a_return (pc := 9) dJ0_checkIndex_df160_9 hk hn ⟨rfl, rfl⟩
set_option maxHeartbeats 4000000 in
theorem mJ0_checkIndex_df160 {l : Launch} {g : gE} {d : Nat} (hd : 1 ≤ d) {r : Unit × AH} {S : AH} {l0 : Int32} {l1 : Int32} (hf : J0_checkIndex_df160 S l0 l1 = some r) : AM l g d yJ0_checkIndex_df160 cJ0_checkIndex_df160 2 none 0 0 [.int l0, .int l1] S (Qr (none) r.2) := by
  refine AM.of rfl (by exact Nat.le_of_ble_eq_true rfl) (fun v h' q => by obtain ⟨rfl, -⟩ := q; rfl) (fun ls e => ?_)
  have e2 : aBeg [.int l0, .int l1] 2 = [some (.int l0), some (.int l1)] := rfl
  rw [e2] at e
  subst e
  refine a_sub (sub_k (sub_k (sub_n))) ?_
  exact sJ0_checkIndex_df160_0 hd (Nat.le_refl _) (Nat.le_refl _) (hf)

-- java/lang/StringLatin1.charAt([BI)C
def J1_charAt_3b067_0 (S : AH) (l0 : Nat) (l1 : Int32) : Option (Int32 × AH) :=
  (J0_checkIndex_df160 S l1 (Int32.ofNat (sLen.getD l0 0))).bind fun r1 =>
  (sB l0 l1).bind fun x2 =>
  some (((((x2 &&& 255)).toUInt32 % 65536).toInt32), r1.2)
def J1_charAt_3b067 (S : AH) (l0 : Nat) (l1 : Int32) : Option (Int32 × AH) := ng .char (J1_charAt_3b067_0 S l0 l1)
set_option maxHeartbeats 4000000 in
theorem sJ1_charAt_3b067_0 {l : Launch} {g : gE} {d MC MS' k n : Nat} (hd : 2 ≤ d) (hk : k ≤ MC) (hn : n ≤ MS') {r : Int32 × AH} {S : AH} {l0 : Nat} {l1 : Int32} (hq_l0 : l0 < 5) (hf : J1_charAt_3b067_0 S l0 l1 = some r) : AW l g d RJ1 cJ1_charAt_3b067 2 "charAt" MC MS' (Qr (some (.int r.1)) r.2) k n 0 [some (.retAddr (7 + l0)), some (.int l1)] [] S := by
  unfold J1_charAt_3b067_0 at hf
  refine a_iload_n (pc := 0) dJ1_charAt_3b067_0 rfl ?_
  refine a_aload_n (pc := 1) dJ1_charAt_3b067_1 rfl (isRv_o _) ?_
  refine a_lenB (pc := 2) l0 (by omega) (Int32.ofNat (sLen.getD l0 0)) rfl dJ1_charAt_3b067_2 ?_
  obtain ⟨r1, hr1, hf⟩ := Option.bind_eq_some_iff.mp hf
  refine g_callv0 (pc := 3) (mc := 0) (ms := 0) [.int l1, .int (Int32.ofNat (sLen.getD l0 0))] [] dJ1_charAt_3b067_3 ml_J1_9 ms_J0_checkIndex_df160 rfl (by omega) (mJ0_checkIndex_df160 (by omega) hr1) rfl (Nat.le_of_ble_eq_true rfl) hk hn ?_
  refine a_aload_n (pc := 6) dJ1_charAt_3b067_6 rfl (isRv_o _) ?_
  refine a_iload_n (pc := 7) dJ1_charAt_3b067_7 rfl ?_
  obtain ⟨x2, hx2, hf⟩ := Option.bind_eq_some_iff.mp hf
  refine g_oldB (pc := 8) l0 (by omega) dJ1_charAt_3b067_8 hx2 ?_
  refine a_sipush (pc := 9) 255 dJ1_charAt_3b067_9 rfl ?_
  refine a_iand (pc := 12) dJ1_charAt_3b067_12 ?_
  refine a_i2c (pc := 13) dJ1_charAt_3b067_13 ?_
  have hf := Option.some.inj hf
  subst hf
  exact a_ireturn (pc := 14) dJ1_charAt_3b067_14 hk hn ⟨rfl, rfl⟩
set_option maxHeartbeats 4000000 in
theorem mJ1_charAt_3b067 {l : Launch} {g : gE} {d : Nat} (hd : 2 ≤ d) {r : Int32 × AH} {S : AH} {l0 : Nat} {l1 : Int32} (hq_l0 : l0 < 5) (hf : J1_charAt_3b067 S l0 l1 = some r) : AM l g d yJ1_charAt_3b067 cJ1_charAt_3b067 2 (some .char) 0 0 [.retAddr (7 + l0), .int l1] S (Qr (some (.int r.1)) r.2) := by
  refine AM.of rfl (by exact Nat.le_of_ble_eq_true rfl) (fun v h' q => by obtain ⟨rfl, -⟩ := q; exact ⟨_, rfl, (ng_of hf).2⟩) (fun ls e => ?_)
  have e2 : aBeg [.retAddr (7 + l0), .int l1] 2 = [some (.retAddr (7 + l0)), some (.int l1)] := rfl
  rw [e2] at e
  subst e
  refine a_sub (sub_k (sub_k (sub_n))) ?_
  exact sJ1_charAt_3b067_0 hd (Nat.le_refl _) (Nat.le_refl _) (by omega) ((ng_of hf).1)

-- java/lang/String.charAt(I)C
def J0_charAt_5068e_0 (S : AH) (l0 : Nat) (l1 : Int32) : Option (Int32 × AH) :=
  (J0_isLatin1_aae02 S l0).bind fun r1 =>
  if r1.1 = 0 then
    none
  else
    (J1_charAt_3b067 r1.2 l0 l1).bind fun r2 =>
    some (r2.1, r2.2)
def J0_charAt_5068e (S : AH) (l0 : Nat) (l1 : Int32) : Option (Int32 × AH) := ng .char (J0_charAt_5068e_0 S l0 l1)
set_option maxHeartbeats 4000000 in
theorem sJ0_charAt_5068e_0 {l : Launch} {g : gE} {d MC MS' k n : Nat} (hd : 3 ≤ d) (hk : k ≤ MC) (hn : n ≤ MS') {r : Int32 × AH} {S : AH} {l0 : Nat} {l1 : Int32} (hq_l0 : l0 < 5) (hf : J0_charAt_5068e_0 S l0 l1 = some r) : AW l g d RJ0 cJ0_charAt_5068e 2 "charAt" MC MS' (Qr (some (.int r.1)) r.2) k n 0 [some (.retAddr (2 + l0)), some (.int l1)] [] S := by
  unfold J0_charAt_5068e_0 at hf
  refine a_aload_n (pc := 0) dJ0_charAt_5068e_0 rfl (isRv_o _) ?_
  obtain ⟨r1, hr1, hf⟩ := Option.bind_eq_some_iff.mp hf
  refine g_callQ (pc := 1) (mc := 0) (ms := 0) l0 (.int r1.1) [] [] dJ0_charAt_5068e_1 ml_J0_492 mv_J0_isLatin1_aae02 (by omega) rfl rfl (by omega) (mJ0_isLatin1_aae02 (by omega) (by omega) hr1) rfl (Nat.le_of_ble_eq_true rfl) hk hn ?_
  refine a_if_eq (pc := 4) 16 dJ0_charAt_5068e_4 (by decide) (fun c3 => ?_) (fun c3 => ?_)
  · have hf := (if_pos c3).symm.trans hf
    refine a_aload_n (pc := 16) dJ0_charAt_5068e_16 rfl (isRv_o _) ?_
    refine a_getfV (pc := 17) l0 (by omega) dJ0_charAt_5068e_17 fo_J0_9 ?_
    refine a_iload_n (pc := 20) dJ0_charAt_5068e_20 rfl ?_
    cases hf
  · have hf := (if_neg c3).symm.trans hf
    refine a_aload_n (pc := 7) dJ0_charAt_5068e_7 rfl (isRv_o _) ?_
    refine a_getfV (pc := 8) l0 (by omega) dJ0_charAt_5068e_8 fo_J0_9 ?_
    refine a_iload_n (pc := 11) dJ0_charAt_5068e_11 rfl ?_
    obtain ⟨r2, hr2, hf⟩ := Option.bind_eq_some_iff.mp hf
    refine g_calls (pc := 12) (mc := 0) (ms := 0) (.int r2.1) [.retAddr (7 + l0), .int l1] [] dJ0_charAt_5068e_12 ml_J0_495 ms_J1_charAt_3b067 rfl (by omega) (mJ1_charAt_3b067 (by omega) (by omega) hr2) rfl (Nat.le_of_ble_eq_true rfl) hk hn ?_
    have hf := Option.some.inj hf
    subst hf
    exact a_ireturn (pc := 15) dJ0_charAt_5068e_15 hk hn ⟨rfl, rfl⟩
set_option maxHeartbeats 4000000 in
theorem mJ0_charAt_5068e {l : Launch} {g : gE} {d : Nat} (hd : 3 ≤ d) {r : Int32 × AH} {S : AH} {l0 : Nat} {l1 : Int32} (hq_l0 : l0 < 5) (hf : J0_charAt_5068e S l0 l1 = some r) : AM l g d yJ0_charAt_5068e cJ0_charAt_5068e 2 (some .char) 0 0 [.retAddr (2 + l0), .int l1] S (Qr (some (.int r.1)) r.2) := by
  refine AM.of rfl (by exact Nat.le_of_ble_eq_true rfl) (fun v h' q => by obtain ⟨rfl, -⟩ := q; exact ⟨_, rfl, (ng_of hf).2⟩) (fun ls e => ?_)
  have e2 : aBeg [.retAddr (2 + l0), .int l1] 2 = [some (.retAddr (2 + l0)), some (.int l1)] := rfl
  rw [e2] at e
  subst e
  refine a_sub (sub_k (sub_k (sub_n))) ?_
  exact sJ0_charAt_5068e_0 hd (Nat.le_refl _) (Nat.le_refl _) (by omega) ((ng_of hf).1)

-- PencilStrikes$LawReader.name(Ljava/lang/String;)Z
def X4_name_2 : Nat → AH → Nat → Nat → Int32 → Option (Int32 × AH)
  | 0, _, _, _, _ => none
  | fn + 1, S, a0, l1, l2 =>
    (J0_length_8abf5 S l1).bind fun r1 =>
    if r1.1 ≤ l2 then
      some (1, r1.2)
    else
      (J0_charAt_5068e r1.2 l1 l2).bind fun r2 =>
      (cO r2.2 a0 4 (X4_sign r2.2 a0 r2.1)).bind fun r3 =>
      if r3.1 = 0 then
        some (0, r3.2)
      else
        X4_name_2 fn r3.2 a0 l1 (l2 + 1)
def X4_name_0 (S : AH) (a0 : Nat) (l1 : Nat) : Option (Int32 × AH) :=
  X4_name_2 FU S a0 l1 0
def X4_name (S : AH) (a0 : Nat) (l1 : Nat) : Option (Int32 × AH) := zg (X4_name_0 S a0 l1)
set_option maxHeartbeats 4000000 in
theorem sX4_name_2 {l : Launch} {g : gE} {d MC MS' k n : Nat} {a0 : Nat} (hd : 4 ≤ d) (hk : k ≤ MC) (hn : n ≤ MS') {r : Int32 × AH} : ∀ (fn : Nat) (S : AH) (l1 : Nat) (l2 : Int32), l1 < 5 → X4_name_2 fn S a0 l1 l2 = some r → AW l g d RX4 cX4_name 3 "name" MC MS' (Qr (some (.int r.1)) r.2) k n 2 [some (.ref a0), some (.retAddr (2 + l1)), some (.int l2)] [] S := by
  intro fn
  induction fn with
  | zero =>
    intro S l1 l2 hq_l1 hf
    rw [X4_name_2] at hf
    cases hf
  | succ fn ih =>
    intro S l1 l2 hq_l1 hf
    rw [X4_name_2] at hf
    refine a_iload_n (pc := 2) dX4_name_2 rfl ?_
    refine a_aload_n (pc := 3) dX4_name_3 rfl (isRv_o _) ?_
    obtain ⟨r1, hr1, hf⟩ := Option.bind_eq_some_iff.mp hf
    refine g_callQ (pc := 4) (mc := 0) (ms := 0) l1 (.int r1.1) [] [.int l2] dX4_name_4 ml_X4_107 mv_J0_length_8abf5 (by omega) rfl rfl (by omega) (mJ0_length_8abf5 (by omega) (by omega) hr1) rfl (Nat.le_of_ble_eq_true rfl) hk hn ?_
    refine a_icmp_ge (pc := 7) 30 dX4_name_7 (by decide) (fun c5 => ?_) (fun c5 => ?_)
    · have hf := (if_pos c5).symm.trans hf
      refine a_iconst (pc := 30) 1 dX4_name_30 rfl ?_
      have hf := Option.some.inj hf
      subst hf
      exact a_ireturn (pc := 31) dX4_name_31 hk hn ⟨rfl, rfl⟩
    · have hf := (if_neg c5).symm.trans hf
      refine a_aload_n (pc := 10) dX4_name_10 rfl (isRv_r _) ?_
      refine a_aload_n (pc := 11) dX4_name_11 rfl (isRv_o _) ?_
      refine a_iload_n (pc := 12) dX4_name_12 rfl ?_
      obtain ⟨r2, hr2, hf⟩ := Option.bind_eq_some_iff.mp hf
      refine g_callQ (pc := 13) (mc := 0) (ms := 0) l1 (.int r2.1) [.int l2] [.ref a0] dX4_name_13 ml_X4_112 mv_J0_charAt_5068e (by omega) rfl rfl (by omega) (mJ0_charAt_5068e (by omega) (by omega) hr2) rfl (Nat.le_of_ble_eq_true rfl) hk hn ?_
      obtain ⟨r3, hr3, hf⟩ := Option.bind_eq_some_iff.mp hf
      obtain ⟨hor3, hr3⟩ := cO_of hr3
      refine g_call (pc := 16) (mc := 0) (ms := 0) (.int r3.1) [.int (r2.1)] [] dX4_name_16 ml_X4_57 mv_X4_sign hor3 (by decide) rfl rfl (by omega) (mX4_sign (by omega) hr3) rfl (Nat.le_of_ble_eq_true rfl) hk hn ?_
      refine a_if_ne (pc := 19) 24 dX4_name_19 (by decide) (fun c4 => ?_) (fun c4 => ?_)
      · have hf := (if_neg c4).symm.trans hf
        refine a_iinc (pc := 24) (ls' := [some (.ref a0), some (.retAddr (2 + l1)), some (.int (l2 + 1))]) (l2 + 1) dX4_name_24 rfl rfl (by decide) rfl ?_
        refine a_goto (pc := 27) 2 dX4_name_27 (by decide) ?_
        exact ih r3.2 l1 (l2 + 1) (by omega) hf
      · have hf := (if_pos c4).symm.trans hf
        refine a_iconst (pc := 22) 0 dX4_name_22 rfl ?_
        have hf := Option.some.inj hf
        subst hf
        exact a_ireturn (pc := 23) dX4_name_23 hk hn ⟨rfl, rfl⟩
set_option maxHeartbeats 4000000 in
theorem sX4_name_0 {l : Launch} {g : gE} {d MC MS' k n : Nat} {a0 : Nat} (hd : 4 ≤ d) (hk : k ≤ MC) (hn : n ≤ MS') {r : Int32 × AH} {S : AH} {l1 : Nat} (hq_l1 : l1 < 5) (hf : X4_name_0 S a0 l1 = some r) : AW l g d RX4 cX4_name 3 "name" MC MS' (Qr (some (.int r.1)) r.2) k n 0 [some (.ref a0), some (.retAddr (2 + l1)), none] [] S := by
  unfold X4_name_0 at hf
  refine a_iconst (pc := 0) 0 dX4_name_0 rfl ?_
  refine a_istore_n (pc := 1) (ls' := [some (.ref a0), some (.retAddr (2 + l1)), some (.int 0)]) dX4_name_1 (by decide) rfl ?_
  exact sX4_name_2 hd hk hn FU S l1 0 (by omega) hf
set_option maxHeartbeats 4000000 in
theorem mX4_name {l : Launch} {g : gE} {d : Nat} {a0 : Nat} (hd : 4 ≤ d) {r : Int32 × AH} {S : AH} {l1 : Nat} (hq_l1 : l1 < 5) (hf : X4_name S a0 l1 = some r) : AM l g d yX4_name cX4_name 3 (some .boolean) 0 0 [.ref a0, .retAddr (2 + l1)] S (Qr (some (.int r.1)) r.2) := by
  refine AM.of rfl (by exact Nat.le_of_ble_eq_true rfl) (fun v h' q => by obtain ⟨rfl, -⟩ := q; refine ⟨_, rfl, ?_⟩; rcases (zg_of hf).2 with e | e <;> rw [e] <;> rfl) (fun ls e => ?_)
  have e2 : aBeg [.ref a0, .retAddr (2 + l1)] 3 = [some (.ref a0), some (.retAddr (2 + l1)), none] := rfl
  rw [e2] at e
  subst e
  refine a_sub (sub_k (sub_k (sub_k (sub_n)))) ?_
  exact sX4_name_0 hd (Nat.le_refl _) (Nat.le_refl _) (by omega) ((zg_of hf).1)

-- PencilStrikes$LawReader.clause()Z
def X4_clause_77 (S : AH) (a0 : Nat) (s0 : Int32) : Option (Int32 × AH) :=
  some (s0, S)
def X4_clause_76 (S : AH) (a0 : Nat) : Option (Int32 × AH) :=
  X4_clause_77 S a0 0
def X4_clause_118 (S : AH) (a0 : Nat) (s0 : Int32) : Option (Int32 × AH) :=
  some (s0, S)
def X4_clause_117 (S : AH) (a0 : Nat) : Option (Int32 × AH) :=
  X4_clause_118 S a0 0
def X4_clause_0 (S : AH) (a0 : Nat) : Option (Int32 × AH) :=
  (cO S a0 4 (X4_at S a0)).bind fun r1 =>
  if r1.1 = 98 then
    (cO r1.2 a0 4 (X4_name r1.2 a0 0)).bind fun r2 =>
    if r2.1 = 0 then
      X4_clause_76 r2.2 a0
    else
      (cO r2.2 a0 4 (X4_eitherK r2.2 a0 0)).bind fun r3 =>
      if r3.1 = 0 then
        X4_clause_76 r3.2 a0
      else
        (cO r3.2 a0 4 (X4_barEnds r3.2 a0)).bind fun r4 =>
        if r4.1 = 0 then
          X4_clause_76 r4.2 a0
        else
          X4_clause_77 r4.2 a0 1
  else
    if r1.1 = 103 then
      (sZ r1.2 a0 4 7 1).bind fun S8 =>
      (cO S8 a0 4 (X4_name S8 a0 1)).bind fun r9 =>
      some (r9.1, r9.2)
    else
      if r1.1 = 109 then
        (cO r1.2 a0 4 (X4_name r1.2 a0 2)).bind fun r10 =>
        if r10.1 = 0 then
          X4_clause_117 r10.2 a0
        else
          (cO r10.2 a0 4 (X4_figures r10.2 a0)).bind fun r11 =>
          if r11.1 = 0 then
            X4_clause_117 r11.2 a0
          else
            (cO r11.2 a0 4 (X4_mostEnds r11.2 a0)).bind fun r12 =>
            if r12.1 = 0 then
              X4_clause_117 r12.2 a0
            else
              X4_clause_118 r12.2 a0 1
      else
        if r1.1 = 115 then
          (sZ r1.2 a0 4 8 1).bind fun S16 =>
          (cO S16 a0 4 (X4_name S16 a0 3)).bind fun r17 =>
          some (r17.1, r17.2)
        else
          some (0, r1.2)
def X4_clause (S : AH) (a0 : Nat) : Option (Int32 × AH) := zg (X4_clause_0 S a0)
set_option maxHeartbeats 4000000 in
theorem sX4_clause_77 {l : Launch} {g : gE} {d MC MS' k n : Nat} {a0 : Nat} (hd : 41 ≤ d) (hk : k ≤ MC) (hn : n ≤ MS') {r : Int32 × AH} {S : AH} {s0 : Int32} (hf : X4_clause_77 S a0 s0 = some r) : AW l g d RX4 cX4_clause 1 "clause" MC MS' (Qr (some (.int r.1)) r.2) k n 77 [none] [.int s0] S := by
  unfold X4_clause_77 at hf
  have hf := Option.some.inj hf
  subst hf
  exact a_ireturn (pc := 77) dX4_clause_77 hk hn ⟨rfl, rfl⟩
set_option maxHeartbeats 4000000 in
theorem sX4_clause_76 {l : Launch} {g : gE} {d MC MS' k n : Nat} {a0 : Nat} (hd : 41 ≤ d) (hk : k ≤ MC) (hn : n ≤ MS') {r : Int32 × AH} {S : AH} (hf : X4_clause_76 S a0 = some r) : AW l g d RX4 cX4_clause 1 "clause" MC MS' (Qr (some (.int r.1)) r.2) k n 76 [none] [] S := by
  unfold X4_clause_76 at hf
  refine a_iconst (pc := 76) 0 dX4_clause_76 rfl ?_
  exact sX4_clause_77 hd hk hn hf
set_option maxHeartbeats 4000000 in
theorem sX4_clause_118 {l : Launch} {g : gE} {d MC MS' k n : Nat} {a0 : Nat} (hd : 41 ≤ d) (hk : k ≤ MC) (hn : n ≤ MS') {r : Int32 × AH} {S : AH} {s0 : Int32} (hf : X4_clause_118 S a0 s0 = some r) : AW l g d RX4 cX4_clause 1 "clause" MC MS' (Qr (some (.int r.1)) r.2) k n 118 [none] [.int s0] S := by
  unfold X4_clause_118 at hf
  have hf := Option.some.inj hf
  subst hf
  exact a_ireturn (pc := 118) dX4_clause_118 hk hn ⟨rfl, rfl⟩
set_option maxHeartbeats 4000000 in
theorem sX4_clause_117 {l : Launch} {g : gE} {d MC MS' k n : Nat} {a0 : Nat} (hd : 41 ≤ d) (hk : k ≤ MC) (hn : n ≤ MS') {r : Int32 × AH} {S : AH} (hf : X4_clause_117 S a0 = some r) : AW l g d RX4 cX4_clause 1 "clause" MC MS' (Qr (some (.int r.1)) r.2) k n 117 [none] [] S := by
  unfold X4_clause_117 at hf
  refine a_iconst (pc := 117) 0 dX4_clause_117 rfl ?_
  exact sX4_clause_118 hd hk hn hf
set_option maxHeartbeats 4000000 in
theorem sX4_clause_0 {l : Launch} {g : gE} {d MC MS' k n : Nat} {a0 : Nat} (hd : 41 ≤ d) (hk : k ≤ MC) (hn : n ≤ MS') {r : Int32 × AH} {S : AH} (hf : X4_clause_0 S a0 = some r) : AW l g d RX4 cX4_clause 1 "clause" MC MS' (Qr (some (.int r.1)) r.2) k n 0 [some (.ref a0)] [] S := by
  unfold X4_clause_0 at hf
  refine a_aload_n (pc := 0) dX4_clause_0 rfl (isRv_r _) ?_
  obtain ⟨r1, hr1, hf⟩ := Option.bind_eq_some_iff.mp hf
  obtain ⟨hor1, hr1⟩ := cO_of hr1
  refine g_call (pc := 1) (mc := 0) (ms := 0) (.int r1.1) [] [] dX4_clause_1 ml_X4_53 mv_X4_at hor1 (by decide) rfl rfl (by omega) (mX4_at (by omega) hr1) rfl (Nat.le_of_ble_eq_true rfl) hk hn ?_
  by_cases c18_0 : r1.1 = 98
  · have hf := (if_pos c18_0).symm.trans hf
    refine a_lookup (pc := 4) 48 dX4_clause_4 (by decide) (by show (4 : Int) + Op.lookupswitch.offset [(98, 44), (103, 74), (109, 86), (115, 115)] 127 _ = _; rw [c18_0]; rfl) ?_
    refine a_aload_n (pc := 48) dX4_clause_48 rfl (isRv_r _) ?_
    refine a_ldcS (pc := 49) 0 79 (by decide) rfl rfl dX4_clause_49 ?_
    obtain ⟨r2, hr2, hf⟩ := Option.bind_eq_some_iff.mp hf
    obtain ⟨hor2, hr2⟩ := cO_of hr2
    refine g_call (pc := 51) (mc := 0) (ms := 0) (.int r2.1) [.retAddr (2 + 0)] [] dX4_clause_51 ml_X4_81 mv_X4_name hor2 (by decide) rfl rfl (by omega) (mX4_name (by omega) (by omega) hr2) rfl (Nat.le_of_ble_eq_true rfl) hk hn ?_
    refine a_if_eq (pc := 54) 76 dX4_clause_54 (by decide) (fun c7 => ?_) (fun c7 => ?_)
    · have hf := (if_pos c7).symm.trans hf
      refine a_sub (sub_d sub_n) ?_
      exact sX4_clause_76 hd hk hn hf
    · have hf := (if_neg c7).symm.trans hf
      refine a_aload_n (pc := 57) dX4_clause_57 rfl (isRv_r _) ?_
      refine a_iconst (pc := 58) 0 dX4_clause_58 rfl ?_
      obtain ⟨r3, hr3, hf⟩ := Option.bind_eq_some_iff.mp hf
      obtain ⟨hor3, hr3⟩ := cO_of hr3
      refine g_call (pc := 59) (mc := 0) (ms := 0) (.int r3.1) [.int 0] [] dX4_clause_59 ml_X4_85 mv_X4_either hor3 (by decide) rfl rfl (by omega) (mX4_eitherK (by omega) hr3) rfl (Nat.le_of_ble_eq_true rfl) hk hn ?_
      refine a_if_eq (pc := 62) 76 dX4_clause_62 (by decide) (fun c6 => ?_) (fun c6 => ?_)
      · have hf := (if_pos c6).symm.trans hf
        refine a_sub (sub_d sub_n) ?_
        exact sX4_clause_76 hd hk hn hf
      · have hf := (if_neg c6).symm.trans hf
        refine a_aload_n (pc := 65) dX4_clause_65 rfl (isRv_r _) ?_
        obtain ⟨r4, hr4, hf⟩ := Option.bind_eq_some_iff.mp hf
        obtain ⟨hor4, hr4⟩ := cO_of hr4
        refine g_call (pc := 66) (mc := 0) (ms := 0) (.int r4.1) [] [] dX4_clause_66 ml_X4_88 mv_X4_barEnds hor4 (by decide) rfl rfl (by omega) (mX4_barEnds (by omega) hr4) rfl (Nat.le_of_ble_eq_true rfl) hk hn ?_
        refine a_if_eq (pc := 69) 76 dX4_clause_69 (by decide) (fun c5 => ?_) (fun c5 => ?_)
        · have hf := (if_pos c5).symm.trans hf
          refine a_sub (sub_d sub_n) ?_
          exact sX4_clause_76 hd hk hn hf
        · have hf := (if_neg c5).symm.trans hf
          refine a_iconst (pc := 72) 1 dX4_clause_72 rfl ?_
          refine a_goto (pc := 73) 77 dX4_clause_73 (by decide) ?_
          refine a_sub (sub_d sub_n) ?_
          exact sX4_clause_77 hd hk hn hf
  · have hf := (if_neg c18_0).symm.trans hf
    by_cases c18_1 : r1.1 = 103
    · have hf := (if_pos c18_1).symm.trans hf
      refine a_lookup (pc := 4) 78 dX4_clause_4 (by decide) (by show (4 : Int) + Op.lookupswitch.offset [(98, 44), (103, 74), (109, 86), (115, 115)] 127 _ = _; rw [lv_osw (a := 98) c18_0 rfl, c18_1]; rfl) ?_
      refine a_aload_n (pc := 78) dX4_clause_78 rfl (isRv_r _) ?_
      refine a_iconst (pc := 79) 1 dX4_clause_79 rfl ?_
      obtain ⟨S8, hS8, hf⟩ := Option.bind_eq_some_iff.mp hf
      refine g_putZ (pc := 80) dX4_clause_80 fl_X4_37 rfl rfl hS8 ?_
      refine a_aload_n (pc := 83) dX4_clause_83 rfl (isRv_r _) ?_
      refine a_ldcS (pc := 84) 1 91 (by decide) rfl rfl dX4_clause_84 ?_
      obtain ⟨r9, hr9, hf⟩ := Option.bind_eq_some_iff.mp hf
      obtain ⟨hor9, hr9⟩ := cO_of hr9
      refine g_call (pc := 86) (mc := 0) (ms := 0) (.int r9.1) [.retAddr (2 + 1)] [] dX4_clause_86 ml_X4_81 mv_X4_name hor9 (by decide) rfl rfl (by omega) (mX4_name (by omega) (by omega) hr9) rfl (Nat.le_of_ble_eq_true rfl) hk hn ?_
      have hf := Option.some.inj hf
      subst hf
      exact a_ireturn (pc := 89) dX4_clause_89 hk hn ⟨rfl, rfl⟩
    · have hf := (if_neg c18_1).symm.trans hf
      by_cases c18_2 : r1.1 = 109
      · have hf := (if_pos c18_2).symm.trans hf
        refine a_lookup (pc := 4) 90 dX4_clause_4 (by decide) (by show (4 : Int) + Op.lookupswitch.offset [(98, 44), (103, 74), (109, 86), (115, 115)] 127 _ = _; rw [lv_osw (a := 98) c18_0 rfl, lv_osw (a := 103) c18_1 rfl, c18_2]; rfl) ?_
        refine a_aload_n (pc := 90) dX4_clause_90 rfl (isRv_r _) ?_
        refine a_ldcS (pc := 91) 2 92 (by decide) rfl rfl dX4_clause_91 ?_
        obtain ⟨r10, hr10, hf⟩ := Option.bind_eq_some_iff.mp hf
        obtain ⟨hor10, hr10⟩ := cO_of hr10
        refine g_call (pc := 93) (mc := 0) (ms := 0) (.int r10.1) [.retAddr (2 + 2)] [] dX4_clause_93 ml_X4_81 mv_X4_name hor10 (by decide) rfl rfl (by omega) (mX4_name (by omega) (by omega) hr10) rfl (Nat.le_of_ble_eq_true rfl) hk hn ?_
        refine a_if_eq (pc := 96) 117 dX4_clause_96 (by decide) (fun c15 => ?_) (fun c15 => ?_)
        · have hf := (if_pos c15).symm.trans hf
          refine a_sub (sub_d sub_n) ?_
          exact sX4_clause_117 hd hk hn hf
        · have hf := (if_neg c15).symm.trans hf
          refine a_aload_n (pc := 99) dX4_clause_99 rfl (isRv_r _) ?_
          obtain ⟨r11, hr11, hf⟩ := Option.bind_eq_some_iff.mp hf
          obtain ⟨hor11, hr11⟩ := cO_of hr11
          refine g_call (pc := 100) (mc := 0) (ms := 0) (.int r11.1) [] [] dX4_clause_100 ml_X4_94 mv_X4_figures hor11 (by decide) rfl rfl (by omega) (mX4_figures (by omega) hr11) rfl (Nat.le_of_ble_eq_true rfl) hk hn ?_
          refine a_if_eq (pc := 103) 117 dX4_clause_103 (by decide) (fun c14 => ?_) (fun c14 => ?_)
          · have hf := (if_pos c14).symm.trans hf
            refine a_sub (sub_d sub_n) ?_
            exact sX4_clause_117 hd hk hn hf
          · have hf := (if_neg c14).symm.trans hf
            refine a_aload_n (pc := 106) dX4_clause_106 rfl (isRv_r _) ?_
            obtain ⟨r12, hr12, hf⟩ := Option.bind_eq_some_iff.mp hf
            obtain ⟨hor12, hr12⟩ := cO_of hr12
            refine g_call (pc := 107) (mc := 0) (ms := 0) (.int r12.1) [] [] dX4_clause_107 ml_X4_97 mv_X4_mostEnds hor12 (by decide) rfl rfl (by omega) (mX4_mostEnds (by omega) hr12) rfl (Nat.le_of_ble_eq_true rfl) hk hn ?_
            refine a_if_eq (pc := 110) 117 dX4_clause_110 (by decide) (fun c13 => ?_) (fun c13 => ?_)
            · have hf := (if_pos c13).symm.trans hf
              refine a_sub (sub_d sub_n) ?_
              exact sX4_clause_117 hd hk hn hf
            · have hf := (if_neg c13).symm.trans hf
              refine a_iconst (pc := 113) 1 dX4_clause_113 rfl ?_
              refine a_goto (pc := 114) 118 dX4_clause_114 (by decide) ?_
              refine a_sub (sub_d sub_n) ?_
              exact sX4_clause_118 hd hk hn hf
      · have hf := (if_neg c18_2).symm.trans hf
        by_cases c18_3 : r1.1 = 115
        · have hf := (if_pos c18_3).symm.trans hf
          refine a_lookup (pc := 4) 119 dX4_clause_4 (by decide) (by show (4 : Int) + Op.lookupswitch.offset [(98, 44), (103, 74), (109, 86), (115, 115)] 127 _ = _; rw [lv_osw (a := 98) c18_0 rfl, lv_osw (a := 103) c18_1 rfl, lv_osw (a := 109) c18_2 rfl, c18_3]; rfl) ?_
          refine a_aload_n (pc := 119) dX4_clause_119 rfl (isRv_r _) ?_
          refine a_iconst (pc := 120) 1 dX4_clause_120 rfl ?_
          obtain ⟨S16, hS16, hf⟩ := Option.bind_eq_some_iff.mp hf
          refine g_putZ (pc := 121) dX4_clause_121 fl_X4_41 rfl rfl hS16 ?_
          refine a_aload_n (pc := 124) dX4_clause_124 rfl (isRv_r _) ?_
          refine a_ldcS (pc := 125) 3 100 (by decide) rfl rfl dX4_clause_125 ?_
          obtain ⟨r17, hr17, hf⟩ := Option.bind_eq_some_iff.mp hf
          obtain ⟨hor17, hr17⟩ := cO_of hr17
          refine g_call (pc := 127) (mc := 0) (ms := 0) (.int r17.1) [.retAddr (2 + 3)] [] dX4_clause_127 ml_X4_81 mv_X4_name hor17 (by decide) rfl rfl (by omega) (mX4_name (by omega) (by omega) hr17) rfl (Nat.le_of_ble_eq_true rfl) hk hn ?_
          have hf := Option.some.inj hf
          subst hf
          exact a_ireturn (pc := 130) dX4_clause_130 hk hn ⟨rfl, rfl⟩
        · have hf := (if_neg c18_3).symm.trans hf
          refine a_lookup (pc := 4) 131 dX4_clause_4 (by decide) (by show (4 : Int) + Op.lookupswitch.offset [(98, 44), (103, 74), (109, 86), (115, 115)] 127 _ = _; rw [lv_osw (a := 98) c18_0 rfl, lv_osw (a := 103) c18_1 rfl, lv_osw (a := 109) c18_2 rfl, lv_osw (a := 115) c18_3 rfl]; rfl) ?_
          refine a_iconst (pc := 131) 0 dX4_clause_131 rfl ?_
          have hf := Option.some.inj hf
          subst hf
          exact a_ireturn (pc := 132) dX4_clause_132 hk hn ⟨rfl, rfl⟩
set_option maxHeartbeats 4000000 in
theorem mX4_clause {l : Launch} {g : gE} {d : Nat} {a0 : Nat} (hd : 41 ≤ d) {r : Int32 × AH} {S : AH} (hf : X4_clause S a0 = some r) : AM l g d yX4_clause cX4_clause 1 (some .boolean) 0 0 [.ref a0] S (Qr (some (.int r.1)) r.2) := by
  refine AM.of rfl (by exact Nat.le_of_ble_eq_true rfl) (fun v h' q => by obtain ⟨rfl, -⟩ := q; refine ⟨_, rfl, ?_⟩; rcases (zg_of hf).2 with e | e <;> rw [e] <;> rfl) (fun ls e => ?_)
  have e2 : aBeg [.ref a0] 1 = [some (.ref a0)] := rfl
  rw [e2] at e
  subst e
  refine a_sub (sub_k (sub_n)) ?_
  exact sX4_clause_0 hd (Nat.le_refl _) (Nat.le_refl _) ((zg_of hf).1)

-- PencilStrikes$Text.copyTo([I)I
def X6_copyTo_0 (S : AH) (a0 : Nat) (l1 : Option Nat) : Option (Int32 × AH) :=
  (gI S a0 6 1).bind fun x1 =>
  (gQ S a0 6 0).bind fun x2 =>
  (aN S x2).bind fun x3 =>
  (aN S l1).bind fun x4 =>
  (gQ S a0 6 0).bind fun x8 =>
  (cpI S x8 0 l1 0 (if 0 < (if (if x4 < x3 then x4 else x3) < x1 then (if x4 < x3 then x4 else x3) else x1) then (if (if x4 < x3 then x4 else x3) < x1 then (if x4 < x3 then x4 else x3) else x1) else 0)).bind fun S9 =>
  some ((if 0 < (if (if x4 < x3 then x4 else x3) < x1 then (if x4 < x3 then x4 else x3) else x1) then (if (if x4 < x3 then x4 else x3) < x1 then (if x4 < x3 then x4 else x3) else x1) else 0), S9)
def X6_copyTo (S : AH) (a0 : Nat) (l1 : Option Nat) : Option (Int32 × AH) := X6_copyTo_0 S a0 l1
set_option maxHeartbeats 4000000 in
theorem sX6_copyTo_0 {l : Launch} {g : gE} {d MC MS' k n : Nat} {a0 : Nat} (hd : 0 ≤ d) (hk : k ≤ MC) (hn : n ≤ MS') {r : Int32 × AH} {S : AH} {l1 : Option Nat} (hf : X6_copyTo_0 S a0 l1 = some r) : AW l g d RX6 cX6_copyTo 3 "copyTo" MC MS' (Qr (some (.int r.1)) r.2) k n 0 [some (.ref a0), some (va_rf l1), none] [] S := by
  unfold X6_copyTo_0 at hf
  refine a_iconst (pc := 0) 0 dX6_copyTo_0 rfl ?_
  refine a_aload_n (pc := 1) dX6_copyTo_1 rfl (isRv_r _) ?_
  obtain ⟨x1, hx1, hf⟩ := Option.bind_eq_some_iff.mp hf
  refine g_getI (pc := 2) dX6_copyTo_2 fl_X6_15 hx1 ?_
  refine a_aload_n (pc := 5) dX6_copyTo_5 rfl (isRv_r _) ?_
  obtain ⟨x2, hx2, hf⟩ := Option.bind_eq_some_iff.mp hf
  refine g_getQ (pc := 6) dX6_copyTo_6 fl_X6_9 hx2 ?_
  obtain ⟨x3, hx3, hf⟩ := Option.bind_eq_some_iff.mp hf
  refine g_alen (pc := 9) dX6_copyTo_9 hx3 ?_
  refine a_aload_n (pc := 10) dX6_copyTo_10 rfl (isRv_rf _) ?_
  obtain ⟨x4, hx4, hf⟩ := Option.bind_eq_some_iff.mp hf
  refine g_alen (pc := 11) dX6_copyTo_11 hx4 ?_
  refine a_mmin (pc := 12) dX6_copyTo_12 ml_X6_19 (Nat.le_of_ble_eq_true rfl) hk hn ?_
  refine a_mmin (pc := 15) dX6_copyTo_15 ml_X6_19 (Nat.le_of_ble_eq_true rfl) hk hn ?_
  refine a_mmax (pc := 18) dX6_copyTo_18 ml_X6_25 (Nat.le_of_ble_eq_true rfl) hk hn ?_
  refine a_istore_n (pc := 21) (ls' := [some (.ref a0), some (va_rf l1), some (.int (if 0 < (if (if x4 < x3 then x4 else x3) < x1 then (if x4 < x3 then x4 else x3) else x1) then (if (if x4 < x3 then x4 else x3) < x1 then (if x4 < x3 then x4 else x3) else x1) else 0))]) dX6_copyTo_21 (by decide) (aSet_ref rfl (va_rf_cat _) rfl) ?_
  refine a_aload_n (pc := 22) dX6_copyTo_22 rfl (isRv_r _) ?_
  obtain ⟨x8, hx8, hf⟩ := Option.bind_eq_some_iff.mp hf
  refine g_getQ (pc := 23) dX6_copyTo_23 fl_X6_9 hx8 ?_
  refine a_iconst (pc := 26) 0 dX6_copyTo_26 rfl ?_
  refine a_aload_n (pc := 27) dX6_copyTo_27 rfl (isRv_rf _) ?_
  refine a_iconst (pc := 28) 0 dX6_copyTo_28 rfl ?_
  refine a_iload_n (pc := 29) dX6_copyTo_29 rfl ?_
  obtain ⟨S9, hS9, hf⟩ := Option.bind_eq_some_iff.mp hf
  refine g_copyi (pc := 30) dX6_copyTo_30 ml_X6_28 (by omega) (by decide) hS9 ?_
  refine a_iload_n (pc := 33) dX6_copyTo_33 rfl ?_
  have hf := Option.some.inj hf
  subst hf
  exact a_ireturn (pc := 34) dX6_copyTo_34 hk hn ⟨rfl, rfl⟩
set_option maxHeartbeats 4000000 in
theorem mX6_copyTo {l : Launch} {g : gE} {d : Nat} {a0 : Nat} (hd : 0 ≤ d) {r : Int32 × AH} {S : AH} {l1 : Option Nat} (hf : X6_copyTo S a0 l1 = some r) : AM l g d yX6_copyTo cX6_copyTo 3 (some .int) 0 0 [.ref a0, va_rf l1] S (Qr (some (.int r.1)) r.2) := by
  refine AM.of rfl (by cases l1 <;> exact Nat.le_of_ble_eq_true rfl) (fun v h' q => by obtain ⟨rfl, -⟩ := q; exact ⟨_, rfl, rfl⟩) (fun ls e => ?_)
  have e2 : aBeg [.ref a0, va_rf l1] 3 = [some (.ref a0), some (va_rf l1), none] := (by cases l1 <;> rfl)
  rw [e2] at e
  subst e
  refine a_sub (sub_k (sub_k (sub_k (sub_n)))) ?_
  exact sX6_copyTo_0 hd (Nat.le_refl _) (Nat.le_refl _) (hf)

-- PencilStrikes$LawReader.faultOf(LPencilStrikes$Text;)I
def X4_faultOf_86 (S : AH) (a0 : Nat) : Option (Int32 × AH) :=
  (gI S a0 4 4).bind fun x1 =>
  some (x1, S)
def X4_faultOf_44 : Nat → AH → Nat → Int32 → Option (Int32 × AH)
  | 0, _, _, _ => none
  | fn + 1, S, a0, l2 =>
    if 8 < l2 then
      (gI S a0 4 4).bind fun x1 =>
      some (x1, S)
    else
      (cO S a0 4 (X4_clause S a0)).bind fun r2 =>
      if r2.1 = 0 then
        (gI r2.2 a0 4 4).bind fun x8 =>
        some (x8, r2.2)
      else
        (cO r2.2 a0 4 (X4_at r2.2 a0)).bind fun r3 =>
        if 0 ≤ r3.1 then
          if l2 = 8 then
            X4_faultOf_86 r3.2 a0
          else
            (cO r3.2 a0 4 (X4_sign r3.2 a0 59)).bind fun r4 =>
            if r4.1 = 0 then
              X4_faultOf_86 r4.2 a0
            else
              X4_faultOf_44 fn r4.2 a0 (l2 + 1)
        else
          some ((-1), r3.2)
def X4_faultOf_0 (S : AH) (a0 : Nat) (l1 : Option Nat) : Option (Int32 × AH) :=
  (gQ S a0 4 0).bind fun x1 =>
  (l1).bind fun a2 =>
  (cO S a2 6 (X6_copyTo S a2 x1)).bind fun r3 =>
  (sI r3.2 a0 4 2 r3.1).bind fun S4 =>
  (sI S4 a0 4 4 0).bind fun S5 =>
  (sI S5 a0 4 3 0).bind fun S6 =>
  (sI S6 a0 4 6 0).bind fun S7 =>
  (sZ S7 a0 4 7 0).bind fun S8 =>
  (sZ S8 a0 4 8 0).bind fun S9 =>
  (sI S9 a0 4 9 (-1)).bind fun S10 =>
  X4_faultOf_44 FU S10 a0 1
def X4_faultOf (S : AH) (a0 : Nat) (l1 : Option Nat) : Option (Int32 × AH) := X4_faultOf_0 S a0 l1
set_option maxHeartbeats 4000000 in
theorem sX4_faultOf_86 {l : Launch} {g : gE} {d MC MS' k n : Nat} {a0 : Nat} (hd : 42 ≤ d) (hk : k ≤ MC) (hn : n ≤ MS') {r : Int32 × AH} {S : AH} (hf : X4_faultOf_86 S a0 = some r) : AW l g d RX4 cX4_faultOf 3 "faultOf" MC MS' (Qr (some (.int r.1)) r.2) k n 86 [some (.ref a0), none, none] [] S := by
  unfold X4_faultOf_86 at hf
  refine a_aload_n (pc := 86) dX4_faultOf_86 rfl (isRv_r _) ?_
  obtain ⟨x1, hx1, hf⟩ := Option.bind_eq_some_iff.mp hf
  refine g_getI (pc := 87) dX4_faultOf_87 fl_X4_28 hx1 ?_
  have hf := Option.some.inj hf
  subst hf
  exact a_ireturn (pc := 90) dX4_faultOf_90 hk hn ⟨rfl, rfl⟩
set_option maxHeartbeats 4000000 in
theorem sX4_faultOf_44 {l : Launch} {g : gE} {d MC MS' k n : Nat} {a0 : Nat} (hd : 42 ≤ d) (hk : k ≤ MC) (hn : n ≤ MS') {r : Int32 × AH} : ∀ (fn : Nat) (S : AH) (l2 : Int32), X4_faultOf_44 fn S a0 l2 = some r → AW l g d RX4 cX4_faultOf 3 "faultOf" MC MS' (Qr (some (.int r.1)) r.2) k n 44 [some (.ref a0), none, some (.int l2)] [] S := by
  intro fn
  induction fn with
  | zero =>
    intro S l2 hf
    rw [X4_faultOf_44] at hf
    cases hf
  | succ fn ih =>
    intro S l2 hf
    rw [X4_faultOf_44] at hf
    refine a_iload_n (pc := 44) dX4_faultOf_44 rfl ?_
    refine a_bipush (pc := 45) 8 dX4_faultOf_45 rfl ?_
    refine a_icmp_gt (pc := 47) 97 dX4_faultOf_47 (by decide) (fun c10 => ?_) (fun c10 => ?_)
    · have hf := (if_pos c10).symm.trans hf
      refine a_aload_n (pc := 97) dX4_faultOf_97 rfl (isRv_r _) ?_
      obtain ⟨x1, hx1, hf⟩ := Option.bind_eq_some_iff.mp hf
      refine g_getI (pc := 98) dX4_faultOf_98 fl_X4_28 hx1 ?_
      have hf := Option.some.inj hf
      subst hf
      exact a_ireturn (pc := 101) dX4_faultOf_101 hk hn ⟨rfl, rfl⟩
    · have hf := (if_neg c10).symm.trans hf
      refine a_aload_n (pc := 50) dX4_faultOf_50 rfl (isRv_r _) ?_
      obtain ⟨r2, hr2, hf⟩ := Option.bind_eq_some_iff.mp hf
      obtain ⟨hor2, hr2⟩ := cO_of hr2
      refine g_call (pc := 51) (mc := 0) (ms := 0) (.int r2.1) [] [] dX4_faultOf_51 ml_X4_49 mv_X4_clause hor2 (by decide) rfl rfl (by omega) (mX4_clause (by omega) hr2) rfl (Nat.le_of_ble_eq_true rfl) hk hn ?_
      refine a_if_ne (pc := 54) 62 dX4_faultOf_54 (by decide) (fun c9 => ?_) (fun c9 => ?_)
      · have hf := (if_neg c9).symm.trans hf
        refine a_aload_n (pc := 62) dX4_faultOf_62 rfl (isRv_r _) ?_
        obtain ⟨r3, hr3, hf⟩ := Option.bind_eq_some_iff.mp hf
        obtain ⟨hor3, hr3⟩ := cO_of hr3
        refine g_call (pc := 63) (mc := 0) (ms := 0) (.int r3.1) [] [] dX4_faultOf_63 ml_X4_53 mv_X4_at hor3 (by decide) rfl rfl (by omega) (mX4_at (by omega) hr3) rfl (Nat.le_of_ble_eq_true rfl) hk hn ?_
        refine a_if_ge (pc := 66) 71 dX4_faultOf_66 (by decide) (fun c7 => ?_) (fun c7 => ?_)
        · have hf := (if_pos c7).symm.trans hf
          refine a_iload_n (pc := 71) dX4_faultOf_71 rfl ?_
          refine a_bipush (pc := 72) 8 dX4_faultOf_72 rfl ?_
          refine a_icmp_eq (pc := 74) 86 dX4_faultOf_74 (by decide) (fun c6 => ?_) (fun c6 => ?_)
          · have hf := (if_pos c6).symm.trans hf
            refine a_sub (sub_k (sub_k (sub_d sub_n))) ?_
            exact sX4_faultOf_86 hd hk hn hf
          · have hf := (if_neg c6).symm.trans hf
            refine a_aload_n (pc := 77) dX4_faultOf_77 rfl (isRv_r _) ?_
            refine a_bipush (pc := 78) 59 dX4_faultOf_78 rfl ?_
            obtain ⟨r4, hr4, hf⟩ := Option.bind_eq_some_iff.mp hf
            obtain ⟨hor4, hr4⟩ := cO_of hr4
            refine g_call (pc := 80) (mc := 0) (ms := 0) (.int r4.1) [.int 59] [] dX4_faultOf_80 ml_X4_57 mv_X4_sign hor4 (by decide) rfl rfl (by omega) (mX4_sign (by omega) hr4) rfl (Nat.le_of_ble_eq_true rfl) hk hn ?_
            refine a_if_ne (pc := 83) 91 dX4_faultOf_83 (by decide) (fun c5 => ?_) (fun c5 => ?_)
            · have hf := (if_neg c5).symm.trans hf
              refine a_iinc (pc := 91) (ls' := [some (.ref a0), none, some (.int (l2 + 1))]) (l2 + 1) dX4_faultOf_91 rfl rfl (by decide) rfl ?_
              refine a_goto (pc := 94) 44 dX4_faultOf_94 (by decide) ?_
              exact ih r4.2 (l2 + 1) hf
            · have hf := (if_pos c5).symm.trans hf
              refine a_sub (sub_k (sub_k (sub_d sub_n))) ?_
              exact sX4_faultOf_86 hd hk hn hf
        · have hf := (if_neg c7).symm.trans hf
          refine a_iconst (pc := 69) (-1) dX4_faultOf_69 rfl ?_
          have hf := Option.some.inj hf
          subst hf
          exact a_ireturn (pc := 70) dX4_faultOf_70 hk hn ⟨rfl, rfl⟩
      · have hf := (if_pos c9).symm.trans hf
        refine a_aload_n (pc := 57) dX4_faultOf_57 rfl (isRv_r _) ?_
        obtain ⟨x8, hx8, hf⟩ := Option.bind_eq_some_iff.mp hf
        refine g_getI (pc := 58) dX4_faultOf_58 fl_X4_28 hx8 ?_
        have hf := Option.some.inj hf
        subst hf
        exact a_ireturn (pc := 61) dX4_faultOf_61 hk hn ⟨rfl, rfl⟩
set_option maxHeartbeats 4000000 in
theorem sX4_faultOf_0 {l : Launch} {g : gE} {d MC MS' k n : Nat} {a0 : Nat} (hd : 42 ≤ d) (hk : k ≤ MC) (hn : n ≤ MS') {r : Int32 × AH} {S : AH} {l1 : Option Nat} (hf : X4_faultOf_0 S a0 l1 = some r) : AW l g d RX4 cX4_faultOf 3 "faultOf" MC MS' (Qr (some (.int r.1)) r.2) k n 0 [some (.ref a0), some (va_rf l1), none] [] S := by
  unfold X4_faultOf_0 at hf
  refine a_aload_n (pc := 0) dX4_faultOf_0 rfl (isRv_r _) ?_
  refine a_aload_n (pc := 1) dX4_faultOf_1 rfl (isRv_rf _) ?_
  refine a_aload_n (pc := 2) dX4_faultOf_2 rfl (isRv_r _) ?_
  obtain ⟨x1, hx1, hf⟩ := Option.bind_eq_some_iff.mp hf
  refine g_getQ (pc := 3) dX4_faultOf_3 fl_X4_9 hx1 ?_
  obtain ⟨a2, ha2, hf⟩ := Option.bind_eq_some_iff.mp hf
  rw [ha2]
  obtain ⟨r3, hr3, hf⟩ := Option.bind_eq_some_iff.mp hf
  obtain ⟨hor3, hr3⟩ := cO_of hr3
  refine g_call (pc := 6) (mc := 0) (ms := 0) (.int r3.1) [va_rf x1] [.ref a0] dX4_faultOf_6 ml_X4_18 mv_X6_copyTo hor3 (by decide) rfl rfl (by omega) (mX6_copyTo (by omega) hr3) rfl (Nat.le_of_ble_eq_true rfl) hk hn ?_
  obtain ⟨S4, hS4, hf⟩ := Option.bind_eq_some_iff.mp hf
  refine g_putI (pc := 9) dX4_faultOf_9 fl_X4_24 rfl rfl hS4 ?_
  refine a_aload_n (pc := 12) dX4_faultOf_12 rfl (isRv_r _) ?_
  refine a_iconst (pc := 13) 0 dX4_faultOf_13 rfl ?_
  obtain ⟨S5, hS5, hf⟩ := Option.bind_eq_some_iff.mp hf
  refine g_putI (pc := 14) dX4_faultOf_14 fl_X4_28 rfl rfl hS5 ?_
  refine a_aload_n (pc := 17) dX4_faultOf_17 rfl (isRv_r _) ?_
  refine a_iconst (pc := 18) 0 dX4_faultOf_18 rfl ?_
  obtain ⟨S6, hS6, hf⟩ := Option.bind_eq_some_iff.mp hf
  refine g_putI (pc := 19) dX4_faultOf_19 fl_X4_31 rfl rfl hS6 ?_
  refine a_aload_n (pc := 22) dX4_faultOf_22 rfl (isRv_r _) ?_
  refine a_iconst (pc := 23) 0 dX4_faultOf_23 rfl ?_
  obtain ⟨S7, hS7, hf⟩ := Option.bind_eq_some_iff.mp hf
  refine g_putI (pc := 24) dX4_faultOf_24 fl_X4_34 rfl rfl hS7 ?_
  refine a_aload_n (pc := 27) dX4_faultOf_27 rfl (isRv_r _) ?_
  refine a_iconst (pc := 28) 0 dX4_faultOf_28 rfl ?_
  obtain ⟨S8, hS8, hf⟩ := Option.bind_eq_some_iff.mp hf
  refine g_putZ (pc := 29) dX4_faultOf_29 fl_X4_37 rfl rfl hS8 ?_
  refine a_aload_n (pc := 32) dX4_faultOf_32 rfl (isRv_r _) ?_
  refine a_iconst (pc := 33) 0 dX4_faultOf_33 rfl ?_
  obtain ⟨S9, hS9, hf⟩ := Option.bind_eq_some_iff.mp hf
  refine g_putZ (pc := 34) dX4_faultOf_34 fl_X4_41 rfl rfl hS9 ?_
  refine a_aload_n (pc := 37) dX4_faultOf_37 rfl (isRv_r _) ?_
  refine a_iconst (pc := 38) (-1) dX4_faultOf_38 rfl ?_
  obtain ⟨S10, hS10, hf⟩ := Option.bind_eq_some_iff.mp hf
  refine g_putI (pc := 39) dX4_faultOf_39 fl_X4_46 rfl rfl hS10 ?_
  refine a_iconst (pc := 42) 1 dX4_faultOf_42 rfl ?_
  refine a_istore_n (pc := 43) (ls' := [some (.ref a0), some (.ref a2), some (.int 1)]) dX4_faultOf_43 (by decide) rfl ?_
  refine a_sub (sub_k (sub_d (sub_k sub_n))) ?_
  exact sX4_faultOf_44 hd hk hn FU S10 1 hf
set_option maxHeartbeats 4000000 in
theorem mX4_faultOf {l : Launch} {g : gE} {d : Nat} {a0 : Nat} (hd : 42 ≤ d) {r : Int32 × AH} {S : AH} {l1 : Option Nat} (hf : X4_faultOf S a0 l1 = some r) : AM l g d yX4_faultOf cX4_faultOf 3 (some .int) 0 0 [.ref a0, va_rf l1] S (Qr (some (.int r.1)) r.2) := by
  refine AM.of rfl (by cases l1 <;> exact Nat.le_of_ble_eq_true rfl) (fun v h' q => by obtain ⟨rfl, -⟩ := q; exact ⟨_, rfl, rfl⟩) (fun ls e => ?_)
  have e2 : aBeg [.ref a0, va_rf l1] 3 = [some (.ref a0), some (va_rf l1), none] := (by cases l1 <;> rfl)
  rw [e2] at e
  subst e
  refine a_sub (sub_k (sub_k (sub_k (sub_n)))) ?_
  exact sX4_faultOf_0 hd (Nat.le_refl _) (Nat.le_refl _) (hf)

-- PencilStrikes$Text.clear()V
def X6_clear_0 (S : AH) (a0 : Nat) : Option (Unit × AH) :=
  (sI S a0 6 1 0).bind fun S1 =>
  some ((), S1)
def X6_clear (S : AH) (a0 : Nat) : Option (Unit × AH) := X6_clear_0 S a0
set_option maxHeartbeats 4000000 in
theorem sX6_clear_0 {l : Launch} {g : gE} {d MC MS' k n : Nat} {a0 : Nat} (hd : 0 ≤ d) (hk : k ≤ MC) (hn : n ≤ MS') {r : Unit × AH} {S : AH} (hf : X6_clear_0 S a0 = some r) : AW l g d RX6 cX6_clear 1 "clear" MC MS' (Qr (none) r.2) k n 0 [some (.ref a0)] [] S := by
  unfold X6_clear_0 at hf
  refine a_aload_n (pc := 0) dX6_clear_0 rfl (isRv_r _) ?_
  refine a_iconst (pc := 1) 0 dX6_clear_1 rfl ?_
  obtain ⟨S1, hS1, hf⟩ := Option.bind_eq_some_iff.mp hf
  refine g_putI (pc := 2) dX6_clear_2 fl_X6_15 rfl rfl hS1 ?_
  have hf := Option.some.inj hf
  subst hf
  exact a_return (pc := 5) dX6_clear_5 hk hn ⟨rfl, rfl⟩
set_option maxHeartbeats 4000000 in
theorem mX6_clear {l : Launch} {g : gE} {d : Nat} {a0 : Nat} (hd : 0 ≤ d) {r : Unit × AH} {S : AH} (hf : X6_clear S a0 = some r) : AM l g d yX6_clear cX6_clear 1 none 0 0 [.ref a0] S (Qr (none) r.2) := by
  refine AM.of rfl (by exact Nat.le_of_ble_eq_true rfl) (fun v h' q => by obtain ⟨rfl, -⟩ := q; rfl) (fun ls e => ?_)
  have e2 : aBeg [.ref a0] 1 = [some (.ref a0)] := rfl
  rw [e2] at e
  subst e
  refine a_sub (sub_k (sub_n)) ?_
  exact sX6_clear_0 hd (Nat.le_refl _) (Nat.le_refl _) (hf)

-- PencilStrikes$Bargain.isReadable(I)Z
def X1_isReadable_29 (S : AH) (a0 : Nat) (s0 : Int32) : Option (Int32 × AH) :=
  some (s0, S)
def X1_isReadable_28 (S : AH) (a0 : Nat) : Option (Int32 × AH) :=
  X1_isReadable_29 S a0 0
def X1_isReadable_0 (S : AH) (a0 : Nat) (l1 : Int32) : Option (Int32 × AH) :=
  if l1 < 0 then
    X1_isReadable_28 S a0
  else
    (gQ S a0 1 1).bind fun x1 =>
    (aN S x1).bind fun x2 =>
    if x2 ≤ l1 then
      X1_isReadable_28 S a0
    else
      (gQ S a0 1 1).bind fun x3 =>
      (aA 2 S x3 l1).bind fun x4 =>
      if x4 < 6 then
        X1_isReadable_28 S a0
      else
        X1_isReadable_29 S a0 1
def X1_isReadable (S : AH) (a0 : Nat) (l1 : Int32) : Option (Int32 × AH) := zg (X1_isReadable_0 S a0 l1)
set_option maxHeartbeats 4000000 in
theorem sX1_isReadable_29 {l : Launch} {g : gE} {d MC MS' k n : Nat} {a0 : Nat} (hd : 0 ≤ d) (hk : k ≤ MC) (hn : n ≤ MS') {r : Int32 × AH} {S : AH} {s0 : Int32} (hf : X1_isReadable_29 S a0 s0 = some r) : AW l g d RX1 cX1_isReadable 2 "isReadable" MC MS' (Qr (some (.int r.1)) r.2) k n 29 [none, none] [.int s0] S := by
  unfold X1_isReadable_29 at hf
  have hf := Option.some.inj hf
  subst hf
  exact a_ireturn (pc := 29) dX1_isReadable_29 hk hn ⟨rfl, rfl⟩
set_option maxHeartbeats 4000000 in
theorem sX1_isReadable_28 {l : Launch} {g : gE} {d MC MS' k n : Nat} {a0 : Nat} (hd : 0 ≤ d) (hk : k ≤ MC) (hn : n ≤ MS') {r : Int32 × AH} {S : AH} (hf : X1_isReadable_28 S a0 = some r) : AW l g d RX1 cX1_isReadable 2 "isReadable" MC MS' (Qr (some (.int r.1)) r.2) k n 28 [none, none] [] S := by
  unfold X1_isReadable_28 at hf
  refine a_iconst (pc := 28) 0 dX1_isReadable_28 rfl ?_
  exact sX1_isReadable_29 hd hk hn hf
set_option maxHeartbeats 4000000 in
theorem sX1_isReadable_0 {l : Launch} {g : gE} {d MC MS' k n : Nat} {a0 : Nat} (hd : 0 ≤ d) (hk : k ≤ MC) (hn : n ≤ MS') {r : Int32 × AH} {S : AH} {l1 : Int32} (hf : X1_isReadable_0 S a0 l1 = some r) : AW l g d RX1 cX1_isReadable 2 "isReadable" MC MS' (Qr (some (.int r.1)) r.2) k n 0 [some (.ref a0), some (.int l1)] [] S := by
  unfold X1_isReadable_0 at hf
  refine a_iload_n (pc := 0) dX1_isReadable_0 rfl ?_
  refine a_if_lt (pc := 1) 28 dX1_isReadable_1 (by decide) (fun c7 => ?_) (fun c7 => ?_)
  · have hf := (if_pos c7).symm.trans hf
    refine a_sub (sub_d (sub_d sub_n)) ?_
    exact sX1_isReadable_28 hd hk hn hf
  · have hf := (if_neg c7).symm.trans hf
    refine a_iload_n (pc := 4) dX1_isReadable_4 rfl ?_
    refine a_aload_n (pc := 5) dX1_isReadable_5 rfl (isRv_r _) ?_
    obtain ⟨x1, hx1, hf⟩ := Option.bind_eq_some_iff.mp hf
    refine g_getQ (pc := 6) dX1_isReadable_6 fl_X1_30 hx1 ?_
    obtain ⟨x2, hx2, hf⟩ := Option.bind_eq_some_iff.mp hf
    refine g_alen (pc := 9) dX1_isReadable_9 hx2 ?_
    refine a_icmp_ge (pc := 10) 28 dX1_isReadable_10 (by decide) (fun c6 => ?_) (fun c6 => ?_)
    · have hf := (if_pos c6).symm.trans hf
      refine a_sub (sub_d (sub_d sub_n)) ?_
      exact sX1_isReadable_28 hd hk hn hf
    · have hf := (if_neg c6).symm.trans hf
      refine a_aload_n (pc := 13) dX1_isReadable_13 rfl (isRv_r _) ?_
      obtain ⟨x3, hx3, hf⟩ := Option.bind_eq_some_iff.mp hf
      refine g_getQ (pc := 14) dX1_isReadable_14 fl_X1_30 hx3 ?_
      refine a_iload_n (pc := 17) dX1_isReadable_17 rfl ?_
      obtain ⟨x4, hx4, hf⟩ := Option.bind_eq_some_iff.mp hf
      refine g_bald (pc := 18) dX1_isReadable_18 hx4 ?_
      refine a_bipush (pc := 19) 6 dX1_isReadable_19 rfl ?_
      refine a_icmp_lt (pc := 21) 28 dX1_isReadable_21 (by decide) (fun c5 => ?_) (fun c5 => ?_)
      · have hf := (if_pos c5).symm.trans hf
        refine a_sub (sub_d (sub_d sub_n)) ?_
        exact sX1_isReadable_28 hd hk hn hf
      · have hf := (if_neg c5).symm.trans hf
        refine a_iconst (pc := 24) 1 dX1_isReadable_24 rfl ?_
        refine a_goto (pc := 25) 29 dX1_isReadable_25 (by decide) ?_
        refine a_sub (sub_d (sub_d sub_n)) ?_
        exact sX1_isReadable_29 hd hk hn hf
set_option maxHeartbeats 4000000 in
theorem mX1_isReadable {l : Launch} {g : gE} {d : Nat} {a0 : Nat} (hd : 0 ≤ d) {r : Int32 × AH} {S : AH} {l1 : Int32} (hf : X1_isReadable S a0 l1 = some r) : AM l g d yX1_isReadable cX1_isReadable 2 (some .boolean) 0 0 [.ref a0, .int l1] S (Qr (some (.int r.1)) r.2) := by
  refine AM.of rfl (by exact Nat.le_of_ble_eq_true rfl) (fun v h' q => by obtain ⟨rfl, -⟩ := q; refine ⟨_, rfl, ?_⟩; rcases (zg_of hf).2 with e | e <;> rw [e] <;> rfl) (fun ls e => ?_)
  have e2 : aBeg [.ref a0, .int l1] 2 = [some (.ref a0), some (.int l1)] := rfl
  rw [e2] at e
  subst e
  refine a_sub (sub_k (sub_k (sub_n))) ?_
  exact sX1_isReadable_0 hd (Nat.le_refl _) (Nat.le_refl _) ((zg_of hf).1)

-- PencilStrikes$Bargain.readingsOf([B)[I
def X1_readingsOf_24 (rec4 : AH → Option Nat → Int32 → Int32 → Option (Option Nat × AH)) (S : AH) (s0 : Int32) (s1 : Int32) (l0 : Option Nat) (l2 : Int32) : Option (Option Nat × AH) :=
  rec4 S l0 (s0 + s1) (l2 + 1)
def X1_readingsOf_71 (rec41 : AH → Option Nat → Option Nat → Int32 → Int32 → Option (Option Nat × AH)) (S : AH) (l0 : Option Nat) (l2 : Option Nat) (l3 : Int32) (l4 : Int32) : Option (Option Nat × AH) :=
  rec41 S l0 l2 l3 (l4 + 1)
def X1_readingsOf_41 : Nat → AH → Option Nat → Option Nat → Int32 → Int32 → Option (Option Nat × AH)
  | 0, _, _, _, _, _ => none
  | fn + 1, S, l0, l2, l3, l4 =>
    (aN S l0).bind fun x1 =>
    if x1 ≤ l4 then
      some (l2, S)
    else
      (aA 2 S l0 l4).bind fun x2 =>
      if x2 < 6 then
        X1_readingsOf_71 (X1_readingsOf_41 fn) S l0 l2 l3 l4
      else
        (aN S l2).bind fun x3 =>
        if x3 ≤ l3 then
          X1_readingsOf_71 (X1_readingsOf_41 fn) S l0 l2 l3 l4
        else
          (uA 0 S l2 l3 l4).bind fun S4 =>
          X1_readingsOf_71 (X1_readingsOf_41 fn) S4 l0 l2 (l3 + 1) l4
def X1_readingsOf_4 : Nat → AH → Option Nat → Int32 → Int32 → Option (Option Nat × AH)
  | 0, _, _, _, _ => none
  | fn + 1, S, l0, l1, l2 =>
    (aN S l0).bind fun x1 =>
    if x1 ≤ l2 then
      (nwA 0 4096 S l1).bind fun zw2 => prp zw2 fun zb3 S4 =>
      X1_readingsOf_41 FU S4 l0 (some zb3) 0 0
    else
      (aA 2 S l0 l2).bind fun x5 =>
      if x5 < 6 then
        X1_readingsOf_24 (X1_readingsOf_4 fn) S l1 0 l0 l2
      else
        X1_readingsOf_24 (X1_readingsOf_4 fn) S l1 1 l0 l2
def X1_readingsOf_0 (S : AH) (l0 : Option Nat) : Option (Option Nat × AH) :=
  X1_readingsOf_4 FU S l0 0 0
def X1_readingsOf (S : AH) (l0 : Option Nat) : Option (Option Nat × AH) := X1_readingsOf_0 S l0
set_option maxHeartbeats 4000000 in
theorem sX1_readingsOf_24 {l : Launch} {g : gE} {d MC MS' k n : Nat} (hd : 0 ≤ d) (hk : k ≤ MC) (hn : n ≤ MS') {r : Option Nat × AH} {rec4 : AH → Option Nat → Int32 → Int32 → Option (Option Nat × AH)} (hlp4 : ∀ (S : AH) (l0 : Option Nat) (l1 : Int32) (l2 : Int32), rec4 S l0 l1 l2 = some r → AW l g d RX1 cX1_readingsOf 5 "readingsOf" MC MS' (Qr (some (va_rf r.1)) r.2) k n 4 [some (va_rf l0), some (.int l1), some (.int l2), none, none] [] S) {S : AH} {s0 : Int32} {s1 : Int32} {l0 : Option Nat} {l2 : Int32} (hf : X1_readingsOf_24 rec4 S s0 s1 l0 l2 = some r) : AW l g d RX1 cX1_readingsOf 5 "readingsOf" MC MS' (Qr (some (va_rf r.1)) r.2) k n 24 [some (va_rf l0), none, some (.int l2), none, none] [.int s1, .int s0] S := by
  unfold X1_readingsOf_24 at hf
  refine a_iadd (pc := 24) dX1_readingsOf_24 ?_
  refine a_istore_n (pc := 25) (ls' := [some (va_rf l0), some (.int (s0 + s1)), some (.int l2), none, none]) dX1_readingsOf_25 (by decide) (aSet_ref rfl (va_rf_cat _) rfl) ?_
  refine a_iinc (pc := 26) (ls' := [some (va_rf l0), some (.int (s0 + s1)), some (.int (l2 + 1)), none, none]) (l2 + 1) dX1_readingsOf_26 rfl rfl (by decide) rfl ?_
  refine a_goto (pc := 29) 4 dX1_readingsOf_29 (by decide) ?_
  exact hlp4 S l0 (s0 + s1) (l2 + 1) hf
set_option maxHeartbeats 4000000 in
theorem sX1_readingsOf_71 {l : Launch} {g : gE} {d MC MS' k n : Nat} (hd : 0 ≤ d) (hk : k ≤ MC) (hn : n ≤ MS') {r : Option Nat × AH} {rec41 : AH → Option Nat → Option Nat → Int32 → Int32 → Option (Option Nat × AH)} (hlp41 : ∀ (S : AH) (l0 : Option Nat) (l2 : Option Nat) (l3 : Int32) (l4 : Int32), rec41 S l0 l2 l3 l4 = some r → AW l g d RX1 cX1_readingsOf 5 "readingsOf" MC MS' (Qr (some (va_rf r.1)) r.2) k n 41 [some (va_rf l0), none, some (va_rf l2), some (.int l3), some (.int l4)] [] S) {S : AH} {l0 : Option Nat} {l2 : Option Nat} {l3 : Int32} {l4 : Int32} (hf : X1_readingsOf_71 rec41 S l0 l2 l3 l4 = some r) : AW l g d RX1 cX1_readingsOf 5 "readingsOf" MC MS' (Qr (some (va_rf r.1)) r.2) k n 71 [some (va_rf l0), none, some (va_rf l2), some (.int l3), some (.int l4)] [] S := by
  unfold X1_readingsOf_71 at hf
  refine a_iinc (pc := 71) (ls' := [some (va_rf l0), none, some (va_rf l2), some (.int l3), some (.int (l4 + 1))]) (l4 + 1) dX1_readingsOf_71 rfl rfl (by decide) rfl ?_
  refine a_goto (pc := 74) 41 dX1_readingsOf_74 (by decide) ?_
  exact hlp41 S l0 l2 l3 (l4 + 1) hf
set_option maxHeartbeats 4000000 in
theorem sX1_readingsOf_41 {l : Launch} {g : gE} {d MC MS' k n : Nat} (hd : 0 ≤ d) (hk : k ≤ MC) (hn : n ≤ MS') {r : Option Nat × AH} : ∀ (fn : Nat) (S : AH) (l0 : Option Nat) (l2 : Option Nat) (l3 : Int32) (l4 : Int32), X1_readingsOf_41 fn S l0 l2 l3 l4 = some r → AW l g d RX1 cX1_readingsOf 5 "readingsOf" MC MS' (Qr (some (va_rf r.1)) r.2) k n 41 [some (va_rf l0), none, some (va_rf l2), some (.int l3), some (.int l4)] [] S := by
  intro fn
  induction fn with
  | zero =>
    intro S l0 l2 l3 l4 hf
    rw [X1_readingsOf_41] at hf
    cases hf
  | succ fn ih =>
    intro S l0 l2 l3 l4 hf
    rw [X1_readingsOf_41] at hf
    refine a_iload (pc := 41) dX1_readingsOf_41 rfl ?_
    refine a_aload_n (pc := 43) dX1_readingsOf_43 rfl (isRv_rf _) ?_
    obtain ⟨x1, hx1, hf⟩ := Option.bind_eq_some_iff.mp hf
    refine g_alen (pc := 44) dX1_readingsOf_44 hx1 ?_
    refine a_icmp_ge (pc := 45) 77 dX1_readingsOf_45 (by decide) (fun c7 => ?_) (fun c7 => ?_)
    · have hf := (if_pos c7).symm.trans hf
      refine a_aload_n (pc := 77) dX1_readingsOf_77 rfl (isRv_rf _) ?_
      have hf := Option.some.inj hf
      subst hf
      exact a_areturnR (pc := 78) dX1_readingsOf_78 (by omega) (by omega) ⟨rfl, rfl⟩
    · have hf := (if_neg c7).symm.trans hf
      refine a_aload_n (pc := 48) dX1_readingsOf_48 rfl (isRv_rf _) ?_
      refine a_iload (pc := 49) dX1_readingsOf_49 rfl ?_
      obtain ⟨x2, hx2, hf⟩ := Option.bind_eq_some_iff.mp hf
      refine g_bald (pc := 51) dX1_readingsOf_51 hx2 ?_
      refine a_bipush (pc := 52) 6 dX1_readingsOf_52 rfl ?_
      refine a_icmp_lt (pc := 54) 71 dX1_readingsOf_54 (by decide) (fun c6 => ?_) (fun c6 => ?_)
      · have hf := (if_pos c6).symm.trans hf
        exact sX1_readingsOf_71 hd (by omega) (by omega) ih hf
      · have hf := (if_neg c6).symm.trans hf
        refine a_iload_n (pc := 57) dX1_readingsOf_57 rfl ?_
        refine a_aload_n (pc := 58) dX1_readingsOf_58 rfl (isRv_rf _) ?_
        obtain ⟨x3, hx3, hf⟩ := Option.bind_eq_some_iff.mp hf
        refine g_alen (pc := 59) dX1_readingsOf_59 hx3 ?_
        refine a_icmp_ge (pc := 60) 71 dX1_readingsOf_60 (by decide) (fun c5 => ?_) (fun c5 => ?_)
        · have hf := (if_pos c5).symm.trans hf
          exact sX1_readingsOf_71 hd (by omega) (by omega) ih hf
        · have hf := (if_neg c5).symm.trans hf
          refine a_aload_n (pc := 63) dX1_readingsOf_63 rfl (isRv_rf _) ?_
          refine a_iload_n (pc := 64) dX1_readingsOf_64 rfl ?_
          refine a_iload (pc := 65) dX1_readingsOf_65 rfl ?_
          obtain ⟨S4, hS4, hf⟩ := Option.bind_eq_some_iff.mp hf
          refine g_iast (pc := 67) dX1_readingsOf_67 hS4 ?_
          refine a_iinc (pc := 68) (ls' := [some (va_rf l0), none, some (va_rf l2), some (.int (l3 + 1)), some (.int l4)]) (l3 + 1) dX1_readingsOf_68 rfl rfl (by decide) (aSet_ref rfl (va_rf_cat _) rfl) ?_
          exact sX1_readingsOf_71 hd (by omega) (by omega) ih hf
set_option maxHeartbeats 4000000 in
theorem sX1_readingsOf_4 {l : Launch} {g : gE} {d MC MS' k n : Nat} (hd : 0 ≤ d) (hk : k + 1 ≤ MC) (hn : n + 4096 ≤ MS') {r : Option Nat × AH} : ∀ (fn : Nat) (S : AH) (l0 : Option Nat) (l1 : Int32) (l2 : Int32), X1_readingsOf_4 fn S l0 l1 l2 = some r → AW l g d RX1 cX1_readingsOf 5 "readingsOf" MC MS' (Qr (some (va_rf r.1)) r.2) k n 4 [some (va_rf l0), some (.int l1), some (.int l2), none, none] [] S := by
  intro fn
  induction fn with
  | zero =>
    intro S l0 l1 l2 hf
    rw [X1_readingsOf_4] at hf
    cases hf
  | succ fn ih =>
    intro S l0 l1 l2 hf
    rw [X1_readingsOf_4] at hf
    refine a_iload_n (pc := 4) dX1_readingsOf_4 rfl ?_
    refine a_aload_n (pc := 5) dX1_readingsOf_5 rfl (isRv_rf _) ?_
    obtain ⟨x1, hx1, hf⟩ := Option.bind_eq_some_iff.mp hf
    refine g_alen (pc := 6) dX1_readingsOf_6 hx1 ?_
    refine a_icmp_ge (pc := 7) 32 dX1_readingsOf_7 (by decide) (fun c7 => ?_) (fun c7 => ?_)
    · have hf := (if_pos c7).symm.trans hf
      refine a_iload_n (pc := 32) dX1_readingsOf_32 rfl ?_
      obtain ⟨zw2, hzw2, hf⟩ := Option.bind_eq_some_iff.mp hf
      obtain ⟨zb3, S4⟩ := zw2
      have hf := (prp_of _ _ _).symm.trans hf
      refine g_newI (pc := 33) (B := 4096) dX1_readingsOf_33 (by decide) hzw2 (by omega) (by omega) ?_
      refine a_astore_n (pc := 35) (ls' := [some (va_rf l0), some (.int l1), some (.ref zb3), none, none]) dX1_readingsOf_35 (by decide) (isRv_r _) rfl ?_
      refine a_iconst (pc := 36) 0 dX1_readingsOf_36 rfl ?_
      refine a_istore_n (pc := 37) (ls' := [some (va_rf l0), some (.int l1), some (.ref zb3), some (.int 0), none]) dX1_readingsOf_37 (by decide) rfl ?_
      refine a_iconst (pc := 38) 0 dX1_readingsOf_38 rfl ?_
      refine a_istore (pc := 39) (ls' := [some (va_rf l0), some (.int l1), some (.ref zb3), some (.int 0), some (.int 0)]) dX1_readingsOf_39 (by decide) rfl ?_
      refine a_sub (sub_k (sub_d (sub_k (sub_k (sub_k sub_n))))) ?_
      exact sX1_readingsOf_41 hd (by omega) (by omega) FU S4 l0 (some zb3) 0 0 hf
    · have hf := (if_neg c7).symm.trans hf
      refine a_iload_n (pc := 10) dX1_readingsOf_10 rfl ?_
      refine a_aload_n (pc := 11) dX1_readingsOf_11 rfl (isRv_rf _) ?_
      refine a_iload_n (pc := 12) dX1_readingsOf_12 rfl ?_
      obtain ⟨x5, hx5, hf⟩ := Option.bind_eq_some_iff.mp hf
      refine g_bald (pc := 13) dX1_readingsOf_13 hx5 ?_
      refine a_bipush (pc := 14) 6 dX1_readingsOf_14 rfl ?_
      refine a_icmp_lt (pc := 16) 23 dX1_readingsOf_16 (by decide) (fun c6 => ?_) (fun c6 => ?_)
      · have hf := (if_pos c6).symm.trans hf
        refine a_iconst (pc := 23) 0 dX1_readingsOf_23 rfl ?_
        refine a_sub (sub_k (sub_d (sub_k (sub_k (sub_k sub_n))))) ?_
        exact sX1_readingsOf_24 hd (by omega) (by omega) ih hf
      · have hf := (if_neg c6).symm.trans hf
        refine a_iconst (pc := 19) 1 dX1_readingsOf_19 rfl ?_
        refine a_goto (pc := 20) 24 dX1_readingsOf_20 (by decide) ?_
        refine a_sub (sub_k (sub_d (sub_k (sub_k (sub_k sub_n))))) ?_
        exact sX1_readingsOf_24 hd (by omega) (by omega) ih hf
set_option maxHeartbeats 4000000 in
theorem sX1_readingsOf_0 {l : Launch} {g : gE} {d MC MS' k n : Nat} (hd : 0 ≤ d) (hk : k + 1 ≤ MC) (hn : n + 4096 ≤ MS') {r : Option Nat × AH} {S : AH} {l0 : Option Nat} (hf : X1_readingsOf_0 S l0 = some r) : AW l g d RX1 cX1_readingsOf 5 "readingsOf" MC MS' (Qr (some (va_rf r.1)) r.2) k n 0 [some (va_rf l0), none, none, none, none] [] S := by
  unfold X1_readingsOf_0 at hf
  refine a_iconst (pc := 0) 0 dX1_readingsOf_0 rfl ?_
  refine a_istore_n (pc := 1) (ls' := [some (va_rf l0), some (.int 0), none, none, none]) dX1_readingsOf_1 (by decide) (aSet_ref rfl (va_rf_cat _) rfl) ?_
  refine a_iconst (pc := 2) 0 dX1_readingsOf_2 rfl ?_
  refine a_istore_n (pc := 3) (ls' := [some (va_rf l0), some (.int 0), some (.int 0), none, none]) dX1_readingsOf_3 (by decide) rfl ?_
  exact sX1_readingsOf_4 hd (by omega) (by omega) FU S l0 0 0 hf
set_option maxHeartbeats 4000000 in
theorem mX1_readingsOf {l : Launch} {g : gE} {d : Nat} (hd : 0 ≤ d) {r : Option Nat × AH} {S : AH} {l0 : Option Nat} (hf : X1_readingsOf S l0 = some r) : AM l g d yX1_readingsOf cX1_readingsOf 5 (some (.array .int)) 1 4096 [va_rf l0] S (Qr (some (va_rf r.1)) r.2) := by
  refine AM.of rfl (by cases l0 <;> exact Nat.le_of_ble_eq_true rfl) (fun v h' q => by obtain ⟨rfl, -⟩ := q; exact aRet_rf _ (Or.inr ⟨_, rfl⟩)) (fun ls e => ?_)
  have e2 : aBeg [va_rf l0] 5 = [some (va_rf l0), none, none, none, none] := (by cases l0 <;> rfl)
  rw [e2] at e
  subst e
  refine a_sub (sub_k (sub_k (sub_k (sub_k (sub_k (sub_n)))))) ?_
  exact sX1_readingsOf_0 hd (by omega) (by omega) (hf)

-- PencilStrikes$Bargain.stateAfterThing(I)I
def X1_stateAfterThing_29 (S : AH) (s0 : Int32) : Option (Int32 × AH) :=
  some (s0, S)
def X1_stateAfterThing_23 (S : AH) : Option (Int32 × AH) :=
  X1_stateAfterThing_29 S 6
def X1_stateAfterThing_0 (S : AH) (l0 : Int32) : Option (Int32 × AH) :=
  if l0 = 4 then
    some (7, S)
  else
    if l0 = 2 then
      X1_stateAfterThing_23 S
    else
      if l0 = 3 then
        X1_stateAfterThing_23 S
      else
        if l0 = 5 then
          X1_stateAfterThing_23 S
        else
          X1_stateAfterThing_29 S (-1)
def X1_stateAfterThing (S : AH) (l0 : Int32) : Option (Int32 × AH) := X1_stateAfterThing_0 S l0
set_option maxHeartbeats 4000000 in
theorem sX1_stateAfterThing_29 {l : Launch} {g : gE} {d MC MS' k n : Nat} (hd : 0 ≤ d) (hk : k ≤ MC) (hn : n ≤ MS') {r : Int32 × AH} {S : AH} {s0 : Int32} (hf : X1_stateAfterThing_29 S s0 = some r) : AW l g d RX1 cX1_stateAfterThing 1 "stateAfterThing" MC MS' (Qr (some (.int r.1)) r.2) k n 29 [none] [.int s0] S := by
  unfold X1_stateAfterThing_29 at hf
  have hf := Option.some.inj hf
  subst hf
  exact a_ireturn (pc := 29) dX1_stateAfterThing_29 hk hn ⟨rfl, rfl⟩
set_option maxHeartbeats 4000000 in
theorem sX1_stateAfterThing_23 {l : Launch} {g : gE} {d MC MS' k n : Nat} (hd : 0 ≤ d) (hk : k ≤ MC) (hn : n ≤ MS') {r : Int32 × AH} {S : AH} (hf : X1_stateAfterThing_23 S = some r) : AW l g d RX1 cX1_stateAfterThing 1 "stateAfterThing" MC MS' (Qr (some (.int r.1)) r.2) k n 23 [none] [] S := by
  unfold X1_stateAfterThing_23 at hf
  refine a_bipush (pc := 23) 6 dX1_stateAfterThing_23 rfl ?_
  refine a_goto (pc := 25) 29 dX1_stateAfterThing_25 (by decide) ?_
  exact sX1_stateAfterThing_29 hd hk hn hf
set_option maxHeartbeats 4000000 in
theorem sX1_stateAfterThing_0 {l : Launch} {g : gE} {d MC MS' k n : Nat} (hd : 0 ≤ d) (hk : k ≤ MC) (hn : n ≤ MS') {r : Int32 × AH} {S : AH} {l0 : Int32} (hf : X1_stateAfterThing_0 S l0 = some r) : AW l g d RX1 cX1_stateAfterThing 1 "stateAfterThing" MC MS' (Qr (some (.int r.1)) r.2) k n 0 [some (.int l0)] [] S := by
  unfold X1_stateAfterThing_0 at hf
  refine a_iload_n (pc := 0) dX1_stateAfterThing_0 rfl ?_
  refine a_iconst (pc := 1) 4 dX1_stateAfterThing_1 rfl ?_
  refine a_icmp_ne (pc := 2) 8 dX1_stateAfterThing_2 (by decide) (fun c4 => ?_) (fun c4 => ?_)
  · have hf := (if_neg c4).symm.trans hf
    refine a_iload_n (pc := 8) dX1_stateAfterThing_8 rfl ?_
    refine a_iconst (pc := 9) 2 dX1_stateAfterThing_9 rfl ?_
    refine a_icmp_eq (pc := 10) 23 dX1_stateAfterThing_10 (by decide) (fun c3 => ?_) (fun c3 => ?_)
    · have hf := (if_pos c3).symm.trans hf
      refine a_sub (sub_d sub_n) ?_
      exact sX1_stateAfterThing_23 hd hk hn hf
    · have hf := (if_neg c3).symm.trans hf
      refine a_iload_n (pc := 13) dX1_stateAfterThing_13 rfl ?_
      refine a_iconst (pc := 14) 3 dX1_stateAfterThing_14 rfl ?_
      refine a_icmp_eq (pc := 15) 23 dX1_stateAfterThing_15 (by decide) (fun c2 => ?_) (fun c2 => ?_)
      · have hf := (if_pos c2).symm.trans hf
        refine a_sub (sub_d sub_n) ?_
        exact sX1_stateAfterThing_23 hd hk hn hf
      · have hf := (if_neg c2).symm.trans hf
        refine a_iload_n (pc := 18) dX1_stateAfterThing_18 rfl ?_
        refine a_iconst (pc := 19) 5 dX1_stateAfterThing_19 rfl ?_
        refine a_icmp_ne (pc := 20) 28 dX1_stateAfterThing_20 (by decide) (fun c1 => ?_) (fun c1 => ?_)
        · have hf := (if_neg c1).symm.trans hf
          refine a_iconst (pc := 28) (-1) dX1_stateAfterThing_28 rfl ?_
          refine a_sub (sub_d sub_n) ?_
          exact sX1_stateAfterThing_29 hd hk hn hf
        · have hf := (if_pos c1).symm.trans hf
          refine a_sub (sub_d sub_n) ?_
          exact sX1_stateAfterThing_23 hd hk hn hf
  · have hf := (if_pos c4).symm.trans hf
    refine a_bipush (pc := 5) 7 dX1_stateAfterThing_5 rfl ?_
    have hf := Option.some.inj hf
    subst hf
    exact a_ireturn (pc := 7) dX1_stateAfterThing_7 hk hn ⟨rfl, rfl⟩
set_option maxHeartbeats 4000000 in
theorem mX1_stateAfterThing {l : Launch} {g : gE} {d : Nat} (hd : 0 ≤ d) {r : Int32 × AH} {S : AH} {l0 : Int32} (hf : X1_stateAfterThing S l0 = some r) : AM l g d yX1_stateAfterThing cX1_stateAfterThing 1 (some .int) 0 0 [.int l0] S (Qr (some (.int r.1)) r.2) := by
  refine AM.of rfl (by exact Nat.le_of_ble_eq_true rfl) (fun v h' q => by obtain ⟨rfl, -⟩ := q; exact ⟨_, rfl, rfl⟩) (fun ls e => ?_)
  have e2 : aBeg [.int l0] 1 = [some (.int l0)] := rfl
  rw [e2] at e
  subst e
  refine a_sub (sub_k (sub_n)) ?_
  exact sX1_stateAfterThing_0 hd (Nat.le_refl _) (Nat.le_refl _) (hf)

-- PencilStrikes$Bargain.stateAfter(II)I
def X1_stateAfter_117 (S : AH) (s0 : Int32) : Option (Int32 × AH) :=
  some (s0, S)
def X1_stateAfter_128 (S : AH) (s0 : Int32) : Option (Int32 × AH) :=
  some (s0, S)
def X1_stateAfter_139 (S : AH) (s0 : Int32) : Option (Int32 × AH) :=
  some (s0, S)
def X1_stateAfter_151 (S : AH) (s0 : Int32) : Option (Int32 × AH) :=
  some (s0, S)
def X1_stateAfter_168 (S : AH) (s0 : Int32) : Option (Int32 × AH) :=
  some (s0, S)
def X1_stateAfter_180 (S : AH) (s0 : Int32) : Option (Int32 × AH) :=
  some (s0, S)
def X1_stateAfter_199 (S : AH) (s0 : Int32) : Option (Int32 × AH) :=
  some (s0, S)
def X1_stateAfter_193 (S : AH) : Option (Int32 × AH) :=
  X1_stateAfter_199 S 8
def X1_stateAfter_218 (S : AH) (s0 : Int32) : Option (Int32 × AH) :=
  some (s0, S)
def X1_stateAfter_217 (S : AH) : Option (Int32 × AH) :=
  X1_stateAfter_218 S (-1)
def X1_stateAfter_230 (S : AH) (s0 : Int32) : Option (Int32 × AH) :=
  some (s0, S)
def X1_stateAfter_0 (S : AH) (l0 : Int32) (l1 : Int32) : Option (Int32 × AH) :=
  if l1 = 38 then
    if l0 = 6 then
      X1_stateAfter_168 S 4
    else
      X1_stateAfter_168 S (-1)
  else
    if l1 = 44 then
      if l0 = 6 then
        X1_stateAfter_180 S 5
      else
        X1_stateAfter_180 S (-1)
    else
      if l1 = 59 then
        if l0 < 6 then
          X1_stateAfter_230 S (-1)
        else
          X1_stateAfter_230 S 0
      else
        if l1 = 97 then
          if l0 = 0 then
            X1_stateAfter_117 S 1
          else
            X1_stateAfter_117 S (-1)
        else
          if l1 = 98 then
            if l0 = 0 then
              X1_stateAfter_117 S 1
            else
              X1_stateAfter_117 S (-1)
          else
            if l1 = 102 then
              if l0 < 6 then
                X1_stateAfter_217 S
              else
                if 9 ≤ l0 then
                  X1_stateAfter_217 S
                else
                  X1_stateAfter_218 S 9
            else
              if l1 = 105 then
                if l0 = 6 then
                  X1_stateAfter_193 S
                else
                  if l0 = 7 then
                    X1_stateAfter_193 S
                  else
                    X1_stateAfter_199 S (-1)
              else
                if l1 = 109 then
                  if l0 = 1 then
                    X1_stateAfter_128 S 2
                  else
                    X1_stateAfter_128 S (-1)
                else
                  if l1 = 110 then
                    if l0 = 2 then
                      X1_stateAfter_139 S 3
                    else
                      X1_stateAfter_139 S (-1)
                  else
                    if l1 = 112 then
                      if l0 = 2 then
                        X1_stateAfter_151 S 9
                      else
                        X1_stateAfter_151 S (-1)
                    else
                      if l1 = 119 then
                        (X1_stateAfterThing S l0).bind fun r13 =>
                        some (r13.1, r13.2)
                      else
                        if l1 = 121 then
                          if l0 = 1 then
                            X1_stateAfter_128 S 2
                          else
                            X1_stateAfter_128 S (-1)
                        else
                          some ((-1), S)
def X1_stateAfter (S : AH) (l0 : Int32) (l1 : Int32) : Option (Int32 × AH) := X1_stateAfter_0 S l0 l1
set_option maxHeartbeats 4000000 in
theorem sX1_stateAfter_117 {l : Launch} {g : gE} {d MC MS' k n : Nat} (hd : 1 ≤ d) (hk : k ≤ MC) (hn : n ≤ MS') {r : Int32 × AH} {S : AH} {s0 : Int32} (hf : X1_stateAfter_117 S s0 = some r) : AW l g d RX1 cX1_stateAfter 2 "stateAfter" MC MS' (Qr (some (.int r.1)) r.2) k n 117 [none, none] [.int s0] S := by
  unfold X1_stateAfter_117 at hf
  have hf := Option.some.inj hf
  subst hf
  exact a_ireturn (pc := 117) dX1_stateAfter_117 hk hn ⟨rfl, rfl⟩
set_option maxHeartbeats 4000000 in
theorem sX1_stateAfter_128 {l : Launch} {g : gE} {d MC MS' k n : Nat} (hd : 1 ≤ d) (hk : k ≤ MC) (hn : n ≤ MS') {r : Int32 × AH} {S : AH} {s0 : Int32} (hf : X1_stateAfter_128 S s0 = some r) : AW l g d RX1 cX1_stateAfter 2 "stateAfter" MC MS' (Qr (some (.int r.1)) r.2) k n 128 [none, none] [.int s0] S := by
  unfold X1_stateAfter_128 at hf
  have hf := Option.some.inj hf
  subst hf
  exact a_ireturn (pc := 128) dX1_stateAfter_128 hk hn ⟨rfl, rfl⟩
set_option maxHeartbeats 4000000 in
theorem sX1_stateAfter_139 {l : Launch} {g : gE} {d MC MS' k n : Nat} (hd : 1 ≤ d) (hk : k ≤ MC) (hn : n ≤ MS') {r : Int32 × AH} {S : AH} {s0 : Int32} (hf : X1_stateAfter_139 S s0 = some r) : AW l g d RX1 cX1_stateAfter 2 "stateAfter" MC MS' (Qr (some (.int r.1)) r.2) k n 139 [none, none] [.int s0] S := by
  unfold X1_stateAfter_139 at hf
  have hf := Option.some.inj hf
  subst hf
  exact a_ireturn (pc := 139) dX1_stateAfter_139 hk hn ⟨rfl, rfl⟩
set_option maxHeartbeats 4000000 in
theorem sX1_stateAfter_151 {l : Launch} {g : gE} {d MC MS' k n : Nat} (hd : 1 ≤ d) (hk : k ≤ MC) (hn : n ≤ MS') {r : Int32 × AH} {S : AH} {s0 : Int32} (hf : X1_stateAfter_151 S s0 = some r) : AW l g d RX1 cX1_stateAfter 2 "stateAfter" MC MS' (Qr (some (.int r.1)) r.2) k n 151 [none, none] [.int s0] S := by
  unfold X1_stateAfter_151 at hf
  have hf := Option.some.inj hf
  subst hf
  exact a_ireturn (pc := 151) dX1_stateAfter_151 hk hn ⟨rfl, rfl⟩
set_option maxHeartbeats 4000000 in
theorem sX1_stateAfter_168 {l : Launch} {g : gE} {d MC MS' k n : Nat} (hd : 1 ≤ d) (hk : k ≤ MC) (hn : n ≤ MS') {r : Int32 × AH} {S : AH} {s0 : Int32} (hf : X1_stateAfter_168 S s0 = some r) : AW l g d RX1 cX1_stateAfter 2 "stateAfter" MC MS' (Qr (some (.int r.1)) r.2) k n 168 [none, none] [.int s0] S := by
  unfold X1_stateAfter_168 at hf
  have hf := Option.some.inj hf
  subst hf
  exact a_ireturn (pc := 168) dX1_stateAfter_168 hk hn ⟨rfl, rfl⟩
set_option maxHeartbeats 4000000 in
theorem sX1_stateAfter_180 {l : Launch} {g : gE} {d MC MS' k n : Nat} (hd : 1 ≤ d) (hk : k ≤ MC) (hn : n ≤ MS') {r : Int32 × AH} {S : AH} {s0 : Int32} (hf : X1_stateAfter_180 S s0 = some r) : AW l g d RX1 cX1_stateAfter 2 "stateAfter" MC MS' (Qr (some (.int r.1)) r.2) k n 180 [none, none] [.int s0] S := by
  unfold X1_stateAfter_180 at hf
  have hf := Option.some.inj hf
  subst hf
  exact a_ireturn (pc := 180) dX1_stateAfter_180 hk hn ⟨rfl, rfl⟩
set_option maxHeartbeats 4000000 in
theorem sX1_stateAfter_199 {l : Launch} {g : gE} {d MC MS' k n : Nat} (hd : 1 ≤ d) (hk : k ≤ MC) (hn : n ≤ MS') {r : Int32 × AH} {S : AH} {s0 : Int32} (hf : X1_stateAfter_199 S s0 = some r) : AW l g d RX1 cX1_stateAfter 2 "stateAfter" MC MS' (Qr (some (.int r.1)) r.2) k n 199 [none, none] [.int s0] S := by
  unfold X1_stateAfter_199 at hf
  have hf := Option.some.inj hf
  subst hf
  exact a_ireturn (pc := 199) dX1_stateAfter_199 hk hn ⟨rfl, rfl⟩
set_option maxHeartbeats 4000000 in
theorem sX1_stateAfter_193 {l : Launch} {g : gE} {d MC MS' k n : Nat} (hd : 1 ≤ d) (hk : k ≤ MC) (hn : n ≤ MS') {r : Int32 × AH} {S : AH} (hf : X1_stateAfter_193 S = some r) : AW l g d RX1 cX1_stateAfter 2 "stateAfter" MC MS' (Qr (some (.int r.1)) r.2) k n 193 [none, none] [] S := by
  unfold X1_stateAfter_193 at hf
  refine a_bipush (pc := 193) 8 dX1_stateAfter_193 rfl ?_
  refine a_goto (pc := 195) 199 dX1_stateAfter_195 (by decide) ?_
  exact sX1_stateAfter_199 hd hk hn hf
set_option maxHeartbeats 4000000 in
theorem sX1_stateAfter_218 {l : Launch} {g : gE} {d MC MS' k n : Nat} (hd : 1 ≤ d) (hk : k ≤ MC) (hn : n ≤ MS') {r : Int32 × AH} {S : AH} {s0 : Int32} (hf : X1_stateAfter_218 S s0 = some r) : AW l g d RX1 cX1_stateAfter 2 "stateAfter" MC MS' (Qr (some (.int r.1)) r.2) k n 218 [none, none] [.int s0] S := by
  unfold X1_stateAfter_218 at hf
  have hf := Option.some.inj hf
  subst hf
  exact a_ireturn (pc := 218) dX1_stateAfter_218 hk hn ⟨rfl, rfl⟩
set_option maxHeartbeats 4000000 in
theorem sX1_stateAfter_217 {l : Launch} {g : gE} {d MC MS' k n : Nat} (hd : 1 ≤ d) (hk : k ≤ MC) (hn : n ≤ MS') {r : Int32 × AH} {S : AH} (hf : X1_stateAfter_217 S = some r) : AW l g d RX1 cX1_stateAfter 2 "stateAfter" MC MS' (Qr (some (.int r.1)) r.2) k n 217 [none, none] [] S := by
  unfold X1_stateAfter_217 at hf
  refine a_iconst (pc := 217) (-1) dX1_stateAfter_217 rfl ?_
  exact sX1_stateAfter_218 hd hk hn hf
set_option maxHeartbeats 4000000 in
theorem sX1_stateAfter_230 {l : Launch} {g : gE} {d MC MS' k n : Nat} (hd : 1 ≤ d) (hk : k ≤ MC) (hn : n ≤ MS') {r : Int32 × AH} {S : AH} {s0 : Int32} (hf : X1_stateAfter_230 S s0 = some r) : AW l g d RX1 cX1_stateAfter 2 "stateAfter" MC MS' (Qr (some (.int r.1)) r.2) k n 230 [none, none] [.int s0] S := by
  unfold X1_stateAfter_230 at hf
  have hf := Option.some.inj hf
  subst hf
  exact a_ireturn (pc := 230) dX1_stateAfter_230 hk hn ⟨rfl, rfl⟩
set_option maxHeartbeats 4000000 in
theorem sX1_stateAfter_0 {l : Launch} {g : gE} {d MC MS' k n : Nat} (hd : 1 ≤ d) (hk : k ≤ MC) (hn : n ≤ MS') {r : Int32 × AH} {S : AH} {l0 : Int32} {l1 : Int32} (hf : X1_stateAfter_0 S l0 l1 = some r) : AW l g d RX1 cX1_stateAfter 2 "stateAfter" MC MS' (Qr (some (.int r.1)) r.2) k n 0 [some (.int l0), some (.int l1)] [] S := by
  unfold X1_stateAfter_0 at hf
  refine a_iload_n (pc := 0) dX1_stateAfter_0 rfl ?_
  by_cases c15_0 : l1 = 38
  · have hf := (if_pos c15_0).symm.trans hf
    refine a_lookup (pc := 1) 157 dX1_stateAfter_1 (by decide) (by show (1 : Int) + Op.lookupswitch.offset [(38, 156), (44, 168), (59, 218), (97, 107), (98, 107), (102, 199), (105, 180), (109, 117), (110, 128), (112, 139), (119, 151), (121, 117)] 230 _ = _; rw [c15_0]; rfl) ?_
    refine a_iload_n (pc := 157) dX1_stateAfter_157 rfl ?_
    refine a_bipush (pc := 158) 6 dX1_stateAfter_158 rfl ?_
    refine a_icmp_ne (pc := 160) 167 dX1_stateAfter_160 (by decide) (fun c1 => ?_) (fun c1 => ?_)
    · have hf := (if_neg c1).symm.trans hf
      refine a_iconst (pc := 167) (-1) dX1_stateAfter_167 rfl ?_
      refine a_sub (sub_d (sub_d sub_n)) ?_
      exact sX1_stateAfter_168 hd hk hn hf
    · have hf := (if_pos c1).symm.trans hf
      refine a_iconst (pc := 163) 4 dX1_stateAfter_163 rfl ?_
      refine a_goto (pc := 164) 168 dX1_stateAfter_164 (by decide) ?_
      refine a_sub (sub_d (sub_d sub_n)) ?_
      exact sX1_stateAfter_168 hd hk hn hf
  · have hf := (if_neg c15_0).symm.trans hf
    by_cases c15_1 : l1 = 44
    · have hf := (if_pos c15_1).symm.trans hf
      refine a_lookup (pc := 1) 169 dX1_stateAfter_1 (by decide) (by show (1 : Int) + Op.lookupswitch.offset [(38, 156), (44, 168), (59, 218), (97, 107), (98, 107), (102, 199), (105, 180), (109, 117), (110, 128), (112, 139), (119, 151), (121, 117)] 230 _ = _; rw [lv_osw (a := 38) c15_0 rfl, c15_1]; rfl) ?_
      refine a_iload_n (pc := 169) dX1_stateAfter_169 rfl ?_
      refine a_bipush (pc := 170) 6 dX1_stateAfter_170 rfl ?_
      refine a_icmp_ne (pc := 172) 179 dX1_stateAfter_172 (by decide) (fun c2 => ?_) (fun c2 => ?_)
      · have hf := (if_neg c2).symm.trans hf
        refine a_iconst (pc := 179) (-1) dX1_stateAfter_179 rfl ?_
        refine a_sub (sub_d (sub_d sub_n)) ?_
        exact sX1_stateAfter_180 hd hk hn hf
      · have hf := (if_pos c2).symm.trans hf
        refine a_iconst (pc := 175) 5 dX1_stateAfter_175 rfl ?_
        refine a_goto (pc := 176) 180 dX1_stateAfter_176 (by decide) ?_
        refine a_sub (sub_d (sub_d sub_n)) ?_
        exact sX1_stateAfter_180 hd hk hn hf
    · have hf := (if_neg c15_1).symm.trans hf
      by_cases c15_2 : l1 = 59
      · have hf := (if_pos c15_2).symm.trans hf
        refine a_lookup (pc := 1) 219 dX1_stateAfter_1 (by decide) (by show (1 : Int) + Op.lookupswitch.offset [(38, 156), (44, 168), (59, 218), (97, 107), (98, 107), (102, 199), (105, 180), (109, 117), (110, 128), (112, 139), (119, 151), (121, 117)] 230 _ = _; rw [lv_osw (a := 38) c15_0 rfl, lv_osw (a := 44) c15_1 rfl, c15_2]; rfl) ?_
        refine a_iload_n (pc := 219) dX1_stateAfter_219 rfl ?_
        refine a_bipush (pc := 220) 6 dX1_stateAfter_220 rfl ?_
        refine a_icmp_lt (pc := 222) 229 dX1_stateAfter_222 (by decide) (fun c3 => ?_) (fun c3 => ?_)
        · have hf := (if_pos c3).symm.trans hf
          refine a_iconst (pc := 229) (-1) dX1_stateAfter_229 rfl ?_
          refine a_sub (sub_d (sub_d sub_n)) ?_
          exact sX1_stateAfter_230 hd hk hn hf
        · have hf := (if_neg c3).symm.trans hf
          refine a_iconst (pc := 225) 0 dX1_stateAfter_225 rfl ?_
          refine a_goto (pc := 226) 230 dX1_stateAfter_226 (by decide) ?_
          refine a_sub (sub_d (sub_d sub_n)) ?_
          exact sX1_stateAfter_230 hd hk hn hf
      · have hf := (if_neg c15_2).symm.trans hf
        by_cases c15_3 : l1 = 97
        · have hf := (if_pos c15_3).symm.trans hf
          refine a_lookup (pc := 1) 108 dX1_stateAfter_1 (by decide) (by show (1 : Int) + Op.lookupswitch.offset [(38, 156), (44, 168), (59, 218), (97, 107), (98, 107), (102, 199), (105, 180), (109, 117), (110, 128), (112, 139), (119, 151), (121, 117)] 230 _ = _; rw [lv_osw (a := 38) c15_0 rfl, lv_osw (a := 44) c15_1 rfl, lv_osw (a := 59) c15_2 rfl, c15_3]; rfl) ?_
          refine a_iload_n (pc := 108) dX1_stateAfter_108 rfl ?_
          refine a_if_ne (pc := 109) 116 dX1_stateAfter_109 (by decide) (fun c4 => ?_) (fun c4 => ?_)
          · have hf := (if_neg c4).symm.trans hf
            refine a_iconst (pc := 116) (-1) dX1_stateAfter_116 rfl ?_
            refine a_sub (sub_d (sub_d sub_n)) ?_
            exact sX1_stateAfter_117 hd hk hn hf
          · have hf := (if_pos c4).symm.trans hf
            refine a_iconst (pc := 112) 1 dX1_stateAfter_112 rfl ?_
            refine a_goto (pc := 113) 117 dX1_stateAfter_113 (by decide) ?_
            refine a_sub (sub_d (sub_d sub_n)) ?_
            exact sX1_stateAfter_117 hd hk hn hf
        · have hf := (if_neg c15_3).symm.trans hf
          by_cases c15_4 : l1 = 98
          · have hf := (if_pos c15_4).symm.trans hf
            refine a_lookup (pc := 1) 108 dX1_stateAfter_1 (by decide) (by show (1 : Int) + Op.lookupswitch.offset [(38, 156), (44, 168), (59, 218), (97, 107), (98, 107), (102, 199), (105, 180), (109, 117), (110, 128), (112, 139), (119, 151), (121, 117)] 230 _ = _; rw [lv_osw (a := 38) c15_0 rfl, lv_osw (a := 44) c15_1 rfl, lv_osw (a := 59) c15_2 rfl, lv_osw (a := 97) c15_3 rfl, c15_4]; rfl) ?_
            refine a_iload_n (pc := 108) dX1_stateAfter_108 rfl ?_
            refine a_if_ne (pc := 109) 116 dX1_stateAfter_109 (by decide) (fun c5 => ?_) (fun c5 => ?_)
            · have hf := (if_neg c5).symm.trans hf
              refine a_iconst (pc := 116) (-1) dX1_stateAfter_116 rfl ?_
              refine a_sub (sub_d (sub_d sub_n)) ?_
              exact sX1_stateAfter_117 hd hk hn hf
            · have hf := (if_pos c5).symm.trans hf
              refine a_iconst (pc := 112) 1 dX1_stateAfter_112 rfl ?_
              refine a_goto (pc := 113) 117 dX1_stateAfter_113 (by decide) ?_
              refine a_sub (sub_d (sub_d sub_n)) ?_
              exact sX1_stateAfter_117 hd hk hn hf
          · have hf := (if_neg c15_4).symm.trans hf
            by_cases c15_5 : l1 = 102
            · have hf := (if_pos c15_5).symm.trans hf
              refine a_lookup (pc := 1) 200 dX1_stateAfter_1 (by decide) (by show (1 : Int) + Op.lookupswitch.offset [(38, 156), (44, 168), (59, 218), (97, 107), (98, 107), (102, 199), (105, 180), (109, 117), (110, 128), (112, 139), (119, 151), (121, 117)] 230 _ = _; rw [lv_osw (a := 38) c15_0 rfl, lv_osw (a := 44) c15_1 rfl, lv_osw (a := 59) c15_2 rfl, lv_osw (a := 97) c15_3 rfl, lv_osw (a := 98) c15_4 rfl, c15_5]; rfl) ?_
              refine a_iload_n (pc := 200) dX1_stateAfter_200 rfl ?_
              refine a_bipush (pc := 201) 6 dX1_stateAfter_201 rfl ?_
              refine a_icmp_lt (pc := 203) 217 dX1_stateAfter_203 (by decide) (fun c7 => ?_) (fun c7 => ?_)
              · have hf := (if_pos c7).symm.trans hf
                refine a_sub (sub_d (sub_d sub_n)) ?_
                exact sX1_stateAfter_217 hd hk hn hf
              · have hf := (if_neg c7).symm.trans hf
                refine a_iload_n (pc := 206) dX1_stateAfter_206 rfl ?_
                refine a_bipush (pc := 207) 9 dX1_stateAfter_207 rfl ?_
                refine a_icmp_ge (pc := 209) 217 dX1_stateAfter_209 (by decide) (fun c6 => ?_) (fun c6 => ?_)
                · have hf := (if_pos c6).symm.trans hf
                  refine a_sub (sub_d (sub_d sub_n)) ?_
                  exact sX1_stateAfter_217 hd hk hn hf
                · have hf := (if_neg c6).symm.trans hf
                  refine a_bipush (pc := 212) 9 dX1_stateAfter_212 rfl ?_
                  refine a_goto (pc := 214) 218 dX1_stateAfter_214 (by decide) ?_
                  refine a_sub (sub_d (sub_d sub_n)) ?_
                  exact sX1_stateAfter_218 hd hk hn hf
            · have hf := (if_neg c15_5).symm.trans hf
              by_cases c15_6 : l1 = 105
              · have hf := (if_pos c15_6).symm.trans hf
                refine a_lookup (pc := 1) 181 dX1_stateAfter_1 (by decide) (by show (1 : Int) + Op.lookupswitch.offset [(38, 156), (44, 168), (59, 218), (97, 107), (98, 107), (102, 199), (105, 180), (109, 117), (110, 128), (112, 139), (119, 151), (121, 117)] 230 _ = _; rw [lv_osw (a := 38) c15_0 rfl, lv_osw (a := 44) c15_1 rfl, lv_osw (a := 59) c15_2 rfl, lv_osw (a := 97) c15_3 rfl, lv_osw (a := 98) c15_4 rfl, lv_osw (a := 102) c15_5 rfl, c15_6]; rfl) ?_
                refine a_iload_n (pc := 181) dX1_stateAfter_181 rfl ?_
                refine a_bipush (pc := 182) 6 dX1_stateAfter_182 rfl ?_
                refine a_icmp_eq (pc := 184) 193 dX1_stateAfter_184 (by decide) (fun c9 => ?_) (fun c9 => ?_)
                · have hf := (if_pos c9).symm.trans hf
                  refine a_sub (sub_d (sub_d sub_n)) ?_
                  exact sX1_stateAfter_193 hd hk hn hf
                · have hf := (if_neg c9).symm.trans hf
                  refine a_iload_n (pc := 187) dX1_stateAfter_187 rfl ?_
                  refine a_bipush (pc := 188) 7 dX1_stateAfter_188 rfl ?_
                  refine a_icmp_ne (pc := 190) 198 dX1_stateAfter_190 (by decide) (fun c8 => ?_) (fun c8 => ?_)
                  · have hf := (if_neg c8).symm.trans hf
                    refine a_iconst (pc := 198) (-1) dX1_stateAfter_198 rfl ?_
                    refine a_sub (sub_d (sub_d sub_n)) ?_
                    exact sX1_stateAfter_199 hd hk hn hf
                  · have hf := (if_pos c8).symm.trans hf
                    refine a_sub (sub_d (sub_d sub_n)) ?_
                    exact sX1_stateAfter_193 hd hk hn hf
              · have hf := (if_neg c15_6).symm.trans hf
                by_cases c15_7 : l1 = 109
                · have hf := (if_pos c15_7).symm.trans hf
                  refine a_lookup (pc := 1) 118 dX1_stateAfter_1 (by decide) (by show (1 : Int) + Op.lookupswitch.offset [(38, 156), (44, 168), (59, 218), (97, 107), (98, 107), (102, 199), (105, 180), (109, 117), (110, 128), (112, 139), (119, 151), (121, 117)] 230 _ = _; rw [lv_osw (a := 38) c15_0 rfl, lv_osw (a := 44) c15_1 rfl, lv_osw (a := 59) c15_2 rfl, lv_osw (a := 97) c15_3 rfl, lv_osw (a := 98) c15_4 rfl, lv_osw (a := 102) c15_5 rfl, lv_osw (a := 105) c15_6 rfl, c15_7]; rfl) ?_
                  refine a_iload_n (pc := 118) dX1_stateAfter_118 rfl ?_
                  refine a_iconst (pc := 119) 1 dX1_stateAfter_119 rfl ?_
                  refine a_icmp_ne (pc := 120) 127 dX1_stateAfter_120 (by decide) (fun c10 => ?_) (fun c10 => ?_)
                  · have hf := (if_neg c10).symm.trans hf
                    refine a_iconst (pc := 127) (-1) dX1_stateAfter_127 rfl ?_
                    refine a_sub (sub_d (sub_d sub_n)) ?_
                    exact sX1_stateAfter_128 hd hk hn hf
                  · have hf := (if_pos c10).symm.trans hf
                    refine a_iconst (pc := 123) 2 dX1_stateAfter_123 rfl ?_
                    refine a_goto (pc := 124) 128 dX1_stateAfter_124 (by decide) ?_
                    refine a_sub (sub_d (sub_d sub_n)) ?_
                    exact sX1_stateAfter_128 hd hk hn hf
                · have hf := (if_neg c15_7).symm.trans hf
                  by_cases c15_8 : l1 = 110
                  · have hf := (if_pos c15_8).symm.trans hf
                    refine a_lookup (pc := 1) 129 dX1_stateAfter_1 (by decide) (by show (1 : Int) + Op.lookupswitch.offset [(38, 156), (44, 168), (59, 218), (97, 107), (98, 107), (102, 199), (105, 180), (109, 117), (110, 128), (112, 139), (119, 151), (121, 117)] 230 _ = _; rw [lv_osw (a := 38) c15_0 rfl, lv_osw (a := 44) c15_1 rfl, lv_osw (a := 59) c15_2 rfl, lv_osw (a := 97) c15_3 rfl, lv_osw (a := 98) c15_4 rfl, lv_osw (a := 102) c15_5 rfl, lv_osw (a := 105) c15_6 rfl, lv_osw (a := 109) c15_7 rfl, c15_8]; rfl) ?_
                    refine a_iload_n (pc := 129) dX1_stateAfter_129 rfl ?_
                    refine a_iconst (pc := 130) 2 dX1_stateAfter_130 rfl ?_
                    refine a_icmp_ne (pc := 131) 138 dX1_stateAfter_131 (by decide) (fun c11 => ?_) (fun c11 => ?_)
                    · have hf := (if_neg c11).symm.trans hf
                      refine a_iconst (pc := 138) (-1) dX1_stateAfter_138 rfl ?_
                      refine a_sub (sub_d (sub_d sub_n)) ?_
                      exact sX1_stateAfter_139 hd hk hn hf
                    · have hf := (if_pos c11).symm.trans hf
                      refine a_iconst (pc := 134) 3 dX1_stateAfter_134 rfl ?_
                      refine a_goto (pc := 135) 139 dX1_stateAfter_135 (by decide) ?_
                      refine a_sub (sub_d (sub_d sub_n)) ?_
                      exact sX1_stateAfter_139 hd hk hn hf
                  · have hf := (if_neg c15_8).symm.trans hf
                    by_cases c15_9 : l1 = 112
                    · have hf := (if_pos c15_9).symm.trans hf
                      refine a_lookup (pc := 1) 140 dX1_stateAfter_1 (by decide) (by show (1 : Int) + Op.lookupswitch.offset [(38, 156), (44, 168), (59, 218), (97, 107), (98, 107), (102, 199), (105, 180), (109, 117), (110, 128), (112, 139), (119, 151), (121, 117)] 230 _ = _; rw [lv_osw (a := 38) c15_0 rfl, lv_osw (a := 44) c15_1 rfl, lv_osw (a := 59) c15_2 rfl, lv_osw (a := 97) c15_3 rfl, lv_osw (a := 98) c15_4 rfl, lv_osw (a := 102) c15_5 rfl, lv_osw (a := 105) c15_6 rfl, lv_osw (a := 109) c15_7 rfl, lv_osw (a := 110) c15_8 rfl, c15_9]; rfl) ?_
                      refine a_iload_n (pc := 140) dX1_stateAfter_140 rfl ?_
                      refine a_iconst (pc := 141) 2 dX1_stateAfter_141 rfl ?_
                      refine a_icmp_ne (pc := 142) 150 dX1_stateAfter_142 (by decide) (fun c12 => ?_) (fun c12 => ?_)
                      · have hf := (if_neg c12).symm.trans hf
                        refine a_iconst (pc := 150) (-1) dX1_stateAfter_150 rfl ?_
                        refine a_sub (sub_d (sub_d sub_n)) ?_
                        exact sX1_stateAfter_151 hd hk hn hf
                      · have hf := (if_pos c12).symm.trans hf
                        refine a_bipush (pc := 145) 9 dX1_stateAfter_145 rfl ?_
                        refine a_goto (pc := 147) 151 dX1_stateAfter_147 (by decide) ?_
                        refine a_sub (sub_d (sub_d sub_n)) ?_
                        exact sX1_stateAfter_151 hd hk hn hf
                    · have hf := (if_neg c15_9).symm.trans hf
                      by_cases c15_10 : l1 = 119
                      · have hf := (if_pos c15_10).symm.trans hf
                        refine a_lookup (pc := 1) 152 dX1_stateAfter_1 (by decide) (by show (1 : Int) + Op.lookupswitch.offset [(38, 156), (44, 168), (59, 218), (97, 107), (98, 107), (102, 199), (105, 180), (109, 117), (110, 128), (112, 139), (119, 151), (121, 117)] 230 _ = _; rw [lv_osw (a := 38) c15_0 rfl, lv_osw (a := 44) c15_1 rfl, lv_osw (a := 59) c15_2 rfl, lv_osw (a := 97) c15_3 rfl, lv_osw (a := 98) c15_4 rfl, lv_osw (a := 102) c15_5 rfl, lv_osw (a := 105) c15_6 rfl, lv_osw (a := 109) c15_7 rfl, lv_osw (a := 110) c15_8 rfl, lv_osw (a := 112) c15_9 rfl, c15_10]; rfl) ?_
                        refine a_iload_n (pc := 152) dX1_stateAfter_152 rfl ?_
                        obtain ⟨r13, hr13, hf⟩ := Option.bind_eq_some_iff.mp hf
                        refine g_calls (pc := 153) (mc := 0) (ms := 0) (.int r13.1) [.int l0] [] dX1_stateAfter_153 ml_X1_77 ms_X1_stateAfterThing rfl (by omega) (mX1_stateAfterThing (by omega) hr13) rfl (Nat.le_of_ble_eq_true rfl) hk hn ?_
                        have hf := Option.some.inj hf
                        subst hf
                        exact a_ireturn (pc := 156) dX1_stateAfter_156 hk hn ⟨rfl, rfl⟩
                      · have hf := (if_neg c15_10).symm.trans hf
                        by_cases c15_11 : l1 = 121
                        · have hf := (if_pos c15_11).symm.trans hf
                          refine a_lookup (pc := 1) 118 dX1_stateAfter_1 (by decide) (by show (1 : Int) + Op.lookupswitch.offset [(38, 156), (44, 168), (59, 218), (97, 107), (98, 107), (102, 199), (105, 180), (109, 117), (110, 128), (112, 139), (119, 151), (121, 117)] 230 _ = _; rw [lv_osw (a := 38) c15_0 rfl, lv_osw (a := 44) c15_1 rfl, lv_osw (a := 59) c15_2 rfl, lv_osw (a := 97) c15_3 rfl, lv_osw (a := 98) c15_4 rfl, lv_osw (a := 102) c15_5 rfl, lv_osw (a := 105) c15_6 rfl, lv_osw (a := 109) c15_7 rfl, lv_osw (a := 110) c15_8 rfl, lv_osw (a := 112) c15_9 rfl, lv_osw (a := 119) c15_10 rfl, c15_11]; rfl) ?_
                          refine a_iload_n (pc := 118) dX1_stateAfter_118 rfl ?_
                          refine a_iconst (pc := 119) 1 dX1_stateAfter_119 rfl ?_
                          refine a_icmp_ne (pc := 120) 127 dX1_stateAfter_120 (by decide) (fun c14 => ?_) (fun c14 => ?_)
                          · have hf := (if_neg c14).symm.trans hf
                            refine a_iconst (pc := 127) (-1) dX1_stateAfter_127 rfl ?_
                            refine a_sub (sub_d (sub_d sub_n)) ?_
                            exact sX1_stateAfter_128 hd hk hn hf
                          · have hf := (if_pos c14).symm.trans hf
                            refine a_iconst (pc := 123) 2 dX1_stateAfter_123 rfl ?_
                            refine a_goto (pc := 124) 128 dX1_stateAfter_124 (by decide) ?_
                            refine a_sub (sub_d (sub_d sub_n)) ?_
                            exact sX1_stateAfter_128 hd hk hn hf
                        · have hf := (if_neg c15_11).symm.trans hf
                          refine a_lookup (pc := 1) 231 dX1_stateAfter_1 (by decide) (by show (1 : Int) + Op.lookupswitch.offset [(38, 156), (44, 168), (59, 218), (97, 107), (98, 107), (102, 199), (105, 180), (109, 117), (110, 128), (112, 139), (119, 151), (121, 117)] 230 _ = _; rw [lv_osw (a := 38) c15_0 rfl, lv_osw (a := 44) c15_1 rfl, lv_osw (a := 59) c15_2 rfl, lv_osw (a := 97) c15_3 rfl, lv_osw (a := 98) c15_4 rfl, lv_osw (a := 102) c15_5 rfl, lv_osw (a := 105) c15_6 rfl, lv_osw (a := 109) c15_7 rfl, lv_osw (a := 110) c15_8 rfl, lv_osw (a := 112) c15_9 rfl, lv_osw (a := 119) c15_10 rfl, lv_osw (a := 121) c15_11 rfl]; rfl) ?_
                          refine a_iconst (pc := 231) (-1) dX1_stateAfter_231 rfl ?_
                          have hf := Option.some.inj hf
                          subst hf
                          exact a_ireturn (pc := 232) dX1_stateAfter_232 hk hn ⟨rfl, rfl⟩
set_option maxHeartbeats 4000000 in
theorem mX1_stateAfter {l : Launch} {g : gE} {d : Nat} (hd : 1 ≤ d) {r : Int32 × AH} {S : AH} {l0 : Int32} {l1 : Int32} (hf : X1_stateAfter S l0 l1 = some r) : AM l g d yX1_stateAfter cX1_stateAfter 2 (some .int) 0 0 [.int l0, .int l1] S (Qr (some (.int r.1)) r.2) := by
  refine AM.of rfl (by exact Nat.le_of_ble_eq_true rfl) (fun v h' q => by obtain ⟨rfl, -⟩ := q; exact ⟨_, rfl, rfl⟩) (fun ls e => ?_)
  have e2 : aBeg [.int l0, .int l1] 2 = [some (.int l0), some (.int l1)] := rfl
  rw [e2] at e
  subst e
  refine a_sub (sub_k (sub_k (sub_n))) ?_
  exact sX1_stateAfter_0 hd (Nat.le_refl _) (Nat.le_refl _) (hf)

-- PencilStrikes$Bargain.statesOf([I)[B
def X1_statesOf_82 (rec14 : AH → Option Nat → Option Nat → Int32 → Option (Option Nat × AH)) (S : AH) (l0 : Option Nat) (l1 : Option Nat) (l2 : Int32) : Option (Option Nat × AH) :=
  rec14 S l0 l1 (l2 + 1)
def X1_statesOf_33 (rec14 : AH → Option Nat → Option Nat → Int32 → Option (Option Nat × AH)) : Nat → AH → Option Nat → Option Nat → Int32 → Int32 → Int32 → Option (Option Nat × AH)
  | 0, _, _, _, _, _, _ => none
  | fn + 1, S, l0, l1, l2, l3, l4 =>
    if l3 ≤ l4 then
      X1_statesOf_82 rec14 S l0 l1 l2
    else
      (aN S l1).bind fun x1 =>
      if x1 ≤ (l3 + l4) then
        X1_statesOf_82 rec14 S l0 l1 l2
      else
        (aA 2 S l1 l4).bind fun x2 =>
        (uA 2 S l1 (l3 + l4) (vp_nar .byte x2)).bind fun S3 =>
        (aA 2 S3 l1 l4).bind fun x4 =>
        (aA 0 S3 l0 l2).bind fun x5 =>
        (X1_stateAfter S3 x4 (x5 / 100)).bind fun r6 =>
        (uA 2 r6.2 l1 l4 (vp_nar .byte ((r6.1).toInt8.toInt32))).bind fun S7 =>
        X1_statesOf_33 rec14 fn S7 l0 l1 l2 l3 (l4 + 1)
def X1_statesOf_88 (S : AH) (l1 : Option Nat) : Option (Option Nat × AH) :=
  some (l1, S)
def X1_statesOf_14 : Nat → AH → Option Nat → Option Nat → Int32 → Option (Option Nat × AH)
  | 0, _, _, _, _ => none
  | fn + 1, S, l0, l1, l2 =>
    (aN S l0).bind fun x1 =>
    if x1 ≤ l2 then
      X1_statesOf_88 S l1
    else
      if 12 ≤ l2 then
        X1_statesOf_88 S l1
      else
        X1_statesOf_33 (X1_statesOf_14 fn) FU S l0 l1 l2 ((1 : Int32) <<< (l2 &&& 31)) 0
def X1_statesOf_0 (S : AH) (l0 : Option Nat) : Option (Option Nat × AH) :=
  (aN S l0).bind fun x1 =>
  (nwA 2 4096 S ((1 : Int32) <<< ((if 12 < x1 then 12 else x1) &&& 31))).bind fun zw3 => prp zw3 fun zb4 S5 =>
  X1_statesOf_14 FU S5 l0 (some zb4) 0
def X1_statesOf (S : AH) (l0 : Option Nat) : Option (Option Nat × AH) := X1_statesOf_0 S l0
set_option maxHeartbeats 4000000 in
theorem sX1_statesOf_82 {l : Launch} {g : gE} {d MC MS' k n : Nat} (hd : 2 ≤ d) (hk : k ≤ MC) (hn : n ≤ MS') {r : Option Nat × AH} {rec14 : AH → Option Nat → Option Nat → Int32 → Option (Option Nat × AH)} (hlp14 : ∀ (S : AH) (l0 : Option Nat) (l1 : Option Nat) (l2 : Int32), rec14 S l0 l1 l2 = some r → AW l g d RX1 cX1_statesOf 5 "statesOf" MC MS' (Qr (some (va_rf r.1)) r.2) k n 14 [some (va_rf l0), some (va_rf l1), some (.int l2), none, none] [] S) {S : AH} {l0 : Option Nat} {l1 : Option Nat} {l2 : Int32} (hf : X1_statesOf_82 rec14 S l0 l1 l2 = some r) : AW l g d RX1 cX1_statesOf 5 "statesOf" MC MS' (Qr (some (va_rf r.1)) r.2) k n 82 [some (va_rf l0), some (va_rf l1), some (.int l2), none, none] [] S := by
  unfold X1_statesOf_82 at hf
  refine a_iinc (pc := 82) (ls' := [some (va_rf l0), some (va_rf l1), some (.int (l2 + 1)), none, none]) (l2 + 1) dX1_statesOf_82 rfl rfl (by decide) (aSet_ref rfl (va_rf_cat _) rfl) ?_
  refine a_goto (pc := 85) 14 dX1_statesOf_85 (by decide) ?_
  exact hlp14 S l0 l1 (l2 + 1) hf
set_option maxHeartbeats 4000000 in
theorem sX1_statesOf_33 {l : Launch} {g : gE} {d MC MS' k n : Nat} (hd : 2 ≤ d) (hk : k ≤ MC) (hn : n ≤ MS') {r : Option Nat × AH} {rec14 : AH → Option Nat → Option Nat → Int32 → Option (Option Nat × AH)} (hlp14 : ∀ (S : AH) (l0 : Option Nat) (l1 : Option Nat) (l2 : Int32), rec14 S l0 l1 l2 = some r → AW l g d RX1 cX1_statesOf 5 "statesOf" MC MS' (Qr (some (va_rf r.1)) r.2) k n 14 [some (va_rf l0), some (va_rf l1), some (.int l2), none, none] [] S) : ∀ (fn : Nat) (S : AH) (l0 : Option Nat) (l1 : Option Nat) (l2 : Int32) (l3 : Int32) (l4 : Int32), X1_statesOf_33 rec14 fn S l0 l1 l2 l3 l4 = some r → AW l g d RX1 cX1_statesOf 5 "statesOf" MC MS' (Qr (some (va_rf r.1)) r.2) k n 33 [some (va_rf l0), some (va_rf l1), some (.int l2), some (.int l3), some (.int l4)] [] S := by
  intro fn
  induction fn with
  | zero =>
    intro S l0 l1 l2 l3 l4 hf
    rw [X1_statesOf_33] at hf
    cases hf
  | succ fn ih =>
    intro S l0 l1 l2 l3 l4 hf
    rw [X1_statesOf_33] at hf
    refine a_iload (pc := 33) dX1_statesOf_33 rfl ?_
    refine a_iload_n (pc := 35) dX1_statesOf_35 rfl ?_
    refine a_icmp_ge (pc := 36) 82 dX1_statesOf_36 (by decide) (fun c9 => ?_) (fun c9 => ?_)
    · have hf := (if_pos c9).symm.trans hf
      refine a_sub (sub_k (sub_k (sub_k (sub_d (sub_d sub_n))))) ?_
      exact sX1_statesOf_82 hd (by omega) (by omega) hlp14 hf
    · have hf := (if_neg c9).symm.trans hf
      refine a_iload_n (pc := 39) dX1_statesOf_39 rfl ?_
      refine a_iload (pc := 40) dX1_statesOf_40 rfl ?_
      refine a_iadd (pc := 42) dX1_statesOf_42 ?_
      refine a_aload_n (pc := 43) dX1_statesOf_43 rfl (isRv_rf _) ?_
      obtain ⟨x1, hx1, hf⟩ := Option.bind_eq_some_iff.mp hf
      refine g_alen (pc := 44) dX1_statesOf_44 hx1 ?_
      refine a_icmp_ge (pc := 45) 82 dX1_statesOf_45 (by decide) (fun c8 => ?_) (fun c8 => ?_)
      · have hf := (if_pos c8).symm.trans hf
        refine a_sub (sub_k (sub_k (sub_k (sub_d (sub_d sub_n))))) ?_
        exact sX1_statesOf_82 hd (by omega) (by omega) hlp14 hf
      · have hf := (if_neg c8).symm.trans hf
        refine a_aload_n (pc := 48) dX1_statesOf_48 rfl (isRv_rf _) ?_
        refine a_iload_n (pc := 49) dX1_statesOf_49 rfl ?_
        refine a_iload (pc := 50) dX1_statesOf_50 rfl ?_
        refine a_iadd (pc := 52) dX1_statesOf_52 ?_
        refine a_aload_n (pc := 53) dX1_statesOf_53 rfl (isRv_rf _) ?_
        refine a_iload (pc := 54) dX1_statesOf_54 rfl ?_
        obtain ⟨x2, hx2, hf⟩ := Option.bind_eq_some_iff.mp hf
        refine g_bald (pc := 56) dX1_statesOf_56 hx2 ?_
        obtain ⟨S3, hS3, hf⟩ := Option.bind_eq_some_iff.mp hf
        refine g_bast (pc := 57) dX1_statesOf_57 hS3 ?_
        refine a_aload_n (pc := 58) dX1_statesOf_58 rfl (isRv_rf _) ?_
        refine a_iload (pc := 59) dX1_statesOf_59 rfl ?_
        refine a_aload_n (pc := 61) dX1_statesOf_61 rfl (isRv_rf _) ?_
        refine a_iload (pc := 62) dX1_statesOf_62 rfl ?_
        obtain ⟨x4, hx4, hf⟩ := Option.bind_eq_some_iff.mp hf
        refine g_bald (pc := 64) dX1_statesOf_64 hx4 ?_
        refine a_aload_n (pc := 65) dX1_statesOf_65 rfl (isRv_rf _) ?_
        refine a_iload_n (pc := 66) dX1_statesOf_66 rfl ?_
        obtain ⟨x5, hx5, hf⟩ := Option.bind_eq_some_iff.mp hf
        refine g_iald (pc := 67) dX1_statesOf_67 hx5 ?_
        refine a_bipush (pc := 68) 100 dX1_statesOf_68 rfl ?_
        refine a_idiv (pc := 70) dX1_statesOf_70 (by decide) ?_
        obtain ⟨r6, hr6, hf⟩ := Option.bind_eq_some_iff.mp hf
        refine g_calls (pc := 71) (mc := 0) (ms := 0) (.int r6.1) [.int x4, .int (x5 / 100)] [.int l4, va_rf l1] dX1_statesOf_71 ml_X1_74 ms_X1_stateAfter rfl (by omega) (mX1_stateAfter (by omega) hr6) rfl (by cases l1 <;> exact Nat.le_of_ble_eq_true rfl) (by omega) (by omega) ?_
        refine a_i2b (pc := 74) dX1_statesOf_74 ?_
        obtain ⟨S7, hS7, hf⟩ := Option.bind_eq_some_iff.mp hf
        refine g_bast (pc := 75) dX1_statesOf_75 hS7 ?_
        refine a_iinc (pc := 76) (ls' := [some (va_rf l0), some (va_rf l1), some (.int l2), some (.int l3), some (.int (l4 + 1))]) (l4 + 1) dX1_statesOf_76 rfl rfl (by decide) rfl ?_
        refine a_goto (pc := 79) 33 dX1_statesOf_79 (by decide) ?_
        exact ih S7 l0 l1 l2 l3 (l4 + 1) hf
set_option maxHeartbeats 4000000 in
theorem sX1_statesOf_88 {l : Launch} {g : gE} {d MC MS' k n : Nat} (hd : 2 ≤ d) (hk : k ≤ MC) (hn : n ≤ MS') {r : Option Nat × AH} {S : AH} {l1 : Option Nat} (hf : X1_statesOf_88 S l1 = some r) : AW l g d RX1 cX1_statesOf 5 "statesOf" MC MS' (Qr (some (va_rf r.1)) r.2) k n 88 [none, some (va_rf l1), none, none, none] [] S := by
  unfold X1_statesOf_88 at hf
  refine a_aload_n (pc := 88) dX1_statesOf_88 rfl (isRv_rf _) ?_
  have hf := Option.some.inj hf
  subst hf
  exact a_areturnR (pc := 89) dX1_statesOf_89 (by omega) (by omega) ⟨rfl, rfl⟩
set_option maxHeartbeats 4000000 in
theorem sX1_statesOf_14 {l : Launch} {g : gE} {d MC MS' k n : Nat} (hd : 2 ≤ d) (hk : k ≤ MC) (hn : n ≤ MS') {r : Option Nat × AH} : ∀ (fn : Nat) (S : AH) (l0 : Option Nat) (l1 : Option Nat) (l2 : Int32), X1_statesOf_14 fn S l0 l1 l2 = some r → AW l g d RX1 cX1_statesOf 5 "statesOf" MC MS' (Qr (some (va_rf r.1)) r.2) k n 14 [some (va_rf l0), some (va_rf l1), some (.int l2), none, none] [] S := by
  intro fn
  induction fn with
  | zero =>
    intro S l0 l1 l2 hf
    rw [X1_statesOf_14] at hf
    cases hf
  | succ fn ih =>
    intro S l0 l1 l2 hf
    rw [X1_statesOf_14] at hf
    refine a_iload_n (pc := 14) dX1_statesOf_14 rfl ?_
    refine a_aload_n (pc := 15) dX1_statesOf_15 rfl (isRv_rf _) ?_
    obtain ⟨x1, hx1, hf⟩ := Option.bind_eq_some_iff.mp hf
    refine g_alen (pc := 16) dX1_statesOf_16 hx1 ?_
    refine a_icmp_ge (pc := 17) 88 dX1_statesOf_17 (by decide) (fun c3 => ?_) (fun c3 => ?_)
    · have hf := (if_pos c3).symm.trans hf
      refine a_sub (sub_d (sub_k (sub_d (sub_k (sub_k sub_n))))) ?_
      exact sX1_statesOf_88 hd (by omega) (by omega) hf
    · have hf := (if_neg c3).symm.trans hf
      refine a_iload_n (pc := 20) dX1_statesOf_20 rfl ?_
      refine a_bipush (pc := 21) 12 dX1_statesOf_21 rfl ?_
      refine a_icmp_ge (pc := 23) 88 dX1_statesOf_23 (by decide) (fun c2 => ?_) (fun c2 => ?_)
      · have hf := (if_pos c2).symm.trans hf
        refine a_sub (sub_d (sub_k (sub_d (sub_k (sub_k sub_n))))) ?_
        exact sX1_statesOf_88 hd (by omega) (by omega) hf
      · have hf := (if_neg c2).symm.trans hf
        refine a_iconst (pc := 26) 1 dX1_statesOf_26 rfl ?_
        refine a_iload_n (pc := 27) dX1_statesOf_27 rfl ?_
        refine a_ishl (pc := 28) dX1_statesOf_28 ?_
        refine a_istore_n (pc := 29) (ls' := [some (va_rf l0), some (va_rf l1), some (.int l2), some (.int ((1 : Int32) <<< (l2 &&& 31))), none]) dX1_statesOf_29 (by decide) rfl ?_
        refine a_iconst (pc := 30) 0 dX1_statesOf_30 rfl ?_
        refine a_istore (pc := 31) (ls' := [some (va_rf l0), some (va_rf l1), some (.int l2), some (.int ((1 : Int32) <<< (l2 &&& 31))), some (.int 0)]) dX1_statesOf_31 (by decide) rfl ?_
        exact sX1_statesOf_33 hd (by omega) (by omega) ih FU S l0 l1 l2 ((1 : Int32) <<< (l2 &&& 31)) 0 hf
set_option maxHeartbeats 4000000 in
theorem sX1_statesOf_0 {l : Launch} {g : gE} {d MC MS' k n : Nat} (hd : 2 ≤ d) (hk : k + 1 ≤ MC) (hn : n + 4096 ≤ MS') {r : Option Nat × AH} {S : AH} {l0 : Option Nat} (hf : X1_statesOf_0 S l0 = some r) : AW l g d RX1 cX1_statesOf 5 "statesOf" MC MS' (Qr (some (va_rf r.1)) r.2) k n 0 [some (va_rf l0), none, none, none, none] [] S := by
  unfold X1_statesOf_0 at hf
  refine a_iconst (pc := 0) 1 dX1_statesOf_0 rfl ?_
  refine a_aload_n (pc := 1) dX1_statesOf_1 rfl (isRv_rf _) ?_
  obtain ⟨x1, hx1, hf⟩ := Option.bind_eq_some_iff.mp hf
  refine g_alen (pc := 2) dX1_statesOf_2 hx1 ?_
  refine a_bipush (pc := 3) 12 dX1_statesOf_3 rfl ?_
  refine a_mmin (pc := 5) dX1_statesOf_5 ml_X1_68 (Nat.le_of_ble_eq_true rfl) (by omega) (by omega) ?_
  refine a_ishl (pc := 8) dX1_statesOf_8 ?_
  obtain ⟨zw3, hzw3, hf⟩ := Option.bind_eq_some_iff.mp hf
  obtain ⟨zb4, S5⟩ := zw3
  have hf := (prp_of _ _ _).symm.trans hf
  refine g_newB (pc := 9) (B := 4096) dX1_statesOf_9 (by decide) hzw3 (by omega) (by omega) ?_
  refine a_astore_n (pc := 11) (ls' := [some (va_rf l0), some (.ref zb4), none, none, none]) dX1_statesOf_11 (by decide) (isRv_r _) (aSet_ref rfl (va_rf_cat _) rfl) ?_
  refine a_iconst (pc := 12) 0 dX1_statesOf_12 rfl ?_
  refine a_istore_n (pc := 13) (ls' := [some (va_rf l0), some (.ref zb4), some (.int 0), none, none]) dX1_statesOf_13 (by decide) rfl ?_
  exact sX1_statesOf_14 hd (by omega) (by omega) FU S5 l0 (some zb4) 0 hf
set_option maxHeartbeats 4000000 in
theorem mX1_statesOf {l : Launch} {g : gE} {d : Nat} (hd : 2 ≤ d) {r : Option Nat × AH} {S : AH} {l0 : Option Nat} (hf : X1_statesOf S l0 = some r) : AM l g d yX1_statesOf cX1_statesOf 5 (some (.array .byte)) 1 4096 [va_rf l0] S (Qr (some (va_rf r.1)) r.2) := by
  refine AM.of rfl (by cases l0 <;> exact Nat.le_of_ble_eq_true rfl) (fun v h' q => by obtain ⟨rfl, -⟩ := q; exact aRet_rf _ (Or.inr ⟨_, rfl⟩)) (fun ls e => ?_)
  have e2 : aBeg [va_rf l0] 5 = [some (va_rf l0), none, none, none, none] := (by cases l0 <;> rfl)
  rw [e2] at e
  subst e
  refine a_sub (sub_k (sub_k (sub_k (sub_k (sub_k (sub_n)))))) ?_
  exact sX1_statesOf_0 hd (by omega) (by omega) (hf)

-- PencilStrikes$Duties.add(I)V
def X2_add_39 (S : AH) (a0 : Nat) : Option (Unit × AH) :=
  some ((), S)
def X2_add_0 (S : AH) (a0 : Nat) (l1 : Int32) : Option (Unit × AH) :=
  (gI S a0 2 1).bind fun x1 =>
  if x1 < 0 then
    X2_add_39 S a0
  else
    (gI S a0 2 1).bind fun x2 =>
    (gQ S a0 2 0).bind fun x3 =>
    (aN S x3).bind fun x4 =>
    if x4 ≤ x2 then
      X2_add_39 S a0
    else
      (gQ S a0 2 0).bind fun x5 =>
      (gI S a0 2 1).bind fun x6 =>
      (uA 0 S x5 x6 l1).bind fun S7 =>
      (gI S7 a0 2 1).bind fun x8 =>
      (sI S7 a0 2 1 (x8 + 1)).bind fun S9 =>
      X2_add_39 S9 a0
def X2_add (S : AH) (a0 : Nat) (l1 : Int32) : Option (Unit × AH) := X2_add_0 S a0 l1
set_option maxHeartbeats 4000000 in
theorem sX2_add_39 {l : Launch} {g : gE} {d MC MS' k n : Nat} {a0 : Nat} (hd : 0 ≤ d) (hk : k ≤ MC) (hn : n ≤ MS') {r : Unit × AH} {S : AH} (hf : X2_add_39 S a0 = some r) : AW l g d RX2 cX2_add 2 "add" MC MS' (Qr (none) r.2) k n 39 [none, none] [] S := by
  unfold X2_add_39 at hf
  have hf := Option.some.inj hf
  subst hf
  exact a_return (pc := 39) dX2_add_39 hk hn ⟨rfl, rfl⟩
set_option maxHeartbeats 4000000 in
theorem sX2_add_0 {l : Launch} {g : gE} {d MC MS' k n : Nat} {a0 : Nat} (hd : 0 ≤ d) (hk : k ≤ MC) (hn : n ≤ MS') {r : Unit × AH} {S : AH} {l1 : Int32} (hf : X2_add_0 S a0 l1 = some r) : AW l g d RX2 cX2_add 2 "add" MC MS' (Qr (none) r.2) k n 0 [some (.ref a0), some (.int l1)] [] S := by
  unfold X2_add_0 at hf
  refine a_aload_n (pc := 0) dX2_add_0 rfl (isRv_r _) ?_
  obtain ⟨x1, hx1, hf⟩ := Option.bind_eq_some_iff.mp hf
  refine g_getI (pc := 1) dX2_add_1 fl_X2_15 hx1 ?_
  refine a_if_lt (pc := 4) 39 dX2_add_4 (by decide) (fun c11 => ?_) (fun c11 => ?_)
  · have hf := (if_pos c11).symm.trans hf
    refine a_sub (sub_d (sub_d sub_n)) ?_
    exact sX2_add_39 hd hk hn hf
  · have hf := (if_neg c11).symm.trans hf
    refine a_aload_n (pc := 7) dX2_add_7 rfl (isRv_r _) ?_
    obtain ⟨x2, hx2, hf⟩ := Option.bind_eq_some_iff.mp hf
    refine g_getI (pc := 8) dX2_add_8 fl_X2_15 hx2 ?_
    refine a_aload_n (pc := 11) dX2_add_11 rfl (isRv_r _) ?_
    obtain ⟨x3, hx3, hf⟩ := Option.bind_eq_some_iff.mp hf
    refine g_getQ (pc := 12) dX2_add_12 fl_X2_9 hx3 ?_
    obtain ⟨x4, hx4, hf⟩ := Option.bind_eq_some_iff.mp hf
    refine g_alen (pc := 15) dX2_add_15 hx4 ?_
    refine a_icmp_ge (pc := 16) 39 dX2_add_16 (by decide) (fun c10 => ?_) (fun c10 => ?_)
    · have hf := (if_pos c10).symm.trans hf
      refine a_sub (sub_d (sub_d sub_n)) ?_
      exact sX2_add_39 hd hk hn hf
    · have hf := (if_neg c10).symm.trans hf
      refine a_aload_n (pc := 19) dX2_add_19 rfl (isRv_r _) ?_
      obtain ⟨x5, hx5, hf⟩ := Option.bind_eq_some_iff.mp hf
      refine g_getQ (pc := 20) dX2_add_20 fl_X2_9 hx5 ?_
      refine a_aload_n (pc := 23) dX2_add_23 rfl (isRv_r _) ?_
      obtain ⟨x6, hx6, hf⟩ := Option.bind_eq_some_iff.mp hf
      refine g_getI (pc := 24) dX2_add_24 fl_X2_15 hx6 ?_
      refine a_iload_n (pc := 27) dX2_add_27 rfl ?_
      obtain ⟨S7, hS7, hf⟩ := Option.bind_eq_some_iff.mp hf
      refine g_iast (pc := 28) dX2_add_28 hS7 ?_
      refine a_aload_n (pc := 29) dX2_add_29 rfl (isRv_r _) ?_
      refine a_dup (pc := 30) dX2_add_30 rfl ?_
      obtain ⟨x8, hx8, hf⟩ := Option.bind_eq_some_iff.mp hf
      refine g_getI (pc := 31) dX2_add_31 fl_X2_15 hx8 ?_
      refine a_iconst (pc := 34) 1 dX2_add_34 rfl ?_
      refine a_iadd (pc := 35) dX2_add_35 ?_
      obtain ⟨S9, hS9, hf⟩ := Option.bind_eq_some_iff.mp hf
      refine g_putI (pc := 36) dX2_add_36 fl_X2_15 rfl rfl hS9 ?_
      refine a_sub (sub_d (sub_d sub_n)) ?_
      exact sX2_add_39 hd hk hn hf
set_option maxHeartbeats 4000000 in
theorem mX2_add {l : Launch} {g : gE} {d : Nat} {a0 : Nat} (hd : 0 ≤ d) {r : Unit × AH} {S : AH} {l1 : Int32} (hf : X2_add S a0 l1 = some r) : AM l g d yX2_add cX2_add 2 none 0 0 [.ref a0, .int l1] S (Qr (none) r.2) := by
  refine AM.of rfl (by exact Nat.le_of_ble_eq_true rfl) (fun v h' q => by obtain ⟨rfl, -⟩ := q; rfl) (fun ls e => ?_)
  have e2 : aBeg [.ref a0, .int l1] 2 = [some (.ref a0), some (.int l1)] := rfl
  rw [e2] at e
  subst e
  refine a_sub (sub_k (sub_k (sub_n))) ?_
  exact sX2_add_0 hd (Nat.le_refl _) (Nat.le_refl _) (hf)

-- PencilStrikes$Duties.addPay(III)V
def X2_addPay_0 (S : AH) (a0 : Nat) (l1 : Int32) (l2 : Int32) (l3 : Int32) : Option (Unit × AH) :=
  (cO S a0 2 (X2_add S a0 (((l1 <<< ((25 : Int32) &&& 31)) ||| (l2 <<< ((20 : Int32) &&& 31))) ||| ((10 + l3) <<< ((10 : Int32) &&& 31))))).bind fun r1 =>
  some ((), r1.2)
def X2_addPay (S : AH) (a0 : Nat) (l1 : Int32) (l2 : Int32) (l3 : Int32) : Option (Unit × AH) := X2_addPay_0 S a0 l1 l2 l3
set_option maxHeartbeats 4000000 in
theorem sX2_addPay_0 {l : Launch} {g : gE} {d MC MS' k n : Nat} {a0 : Nat} (hd : 1 ≤ d) (hk : k ≤ MC) (hn : n ≤ MS') {r : Unit × AH} {S : AH} {l1 : Int32} {l2 : Int32} {l3 : Int32} (hf : X2_addPay_0 S a0 l1 l2 l3 = some r) : AW l g d RX2 cX2_addPay 4 "addPay" MC MS' (Qr (none) r.2) k n 0 [some (.ref a0), some (.int l1), some (.int l2), some (.int l3)] [] S := by
  unfold X2_addPay_0 at hf
  refine a_aload_n (pc := 0) dX2_addPay_0 rfl (isRv_r _) ?_
  refine a_iload_n (pc := 1) dX2_addPay_1 rfl ?_
  refine a_bipush (pc := 2) 25 dX2_addPay_2 rfl ?_
  refine a_ishl (pc := 4) dX2_addPay_4 ?_
  refine a_iload_n (pc := 5) dX2_addPay_5 rfl ?_
  refine a_bipush (pc := 6) 20 dX2_addPay_6 rfl ?_
  refine a_ishl (pc := 8) dX2_addPay_8 ?_
  refine a_ior (pc := 9) dX2_addPay_9 ?_
  refine a_bipush (pc := 10) 10 dX2_addPay_10 rfl ?_
  refine a_iload_n (pc := 12) dX2_addPay_12 rfl ?_
  refine a_iadd (pc := 13) dX2_addPay_13 ?_
  refine a_bipush (pc := 14) 10 dX2_addPay_14 rfl ?_
  refine a_ishl (pc := 16) dX2_addPay_16 ?_
  refine a_ior (pc := 17) dX2_addPay_17 ?_
  obtain ⟨r1, hr1, hf⟩ := Option.bind_eq_some_iff.mp hf
  obtain ⟨hor1, hr1⟩ := cO_of hr1
  refine g_callv (pc := 18) (mc := 0) (ms := 0) [.int (((l1 <<< ((25 : Int32) &&& 31)) ||| (l2 <<< ((20 : Int32) &&& 31))) ||| ((10 + l3) <<< ((10 : Int32) &&& 31)))] [] dX2_addPay_18 ml_X2_19 mv_X2_add hor1 (by decide) rfl rfl (by omega) (mX2_add (by omega) hr1) rfl (Nat.le_of_ble_eq_true rfl) hk hn ?_
  have hf := Option.some.inj hf
  subst hf
  exact a_return (pc := 21) dX2_addPay_21 hk hn ⟨rfl, rfl⟩
set_option maxHeartbeats 4000000 in
theorem mX2_addPay {l : Launch} {g : gE} {d : Nat} {a0 : Nat} (hd : 1 ≤ d) {r : Unit × AH} {S : AH} {l1 : Int32} {l2 : Int32} {l3 : Int32} (hf : X2_addPay S a0 l1 l2 l3 = some r) : AM l g d yX2_addPay cX2_addPay 4 none 0 0 [.ref a0, .int l1, .int l2, .int l3] S (Qr (none) r.2) := by
  refine AM.of rfl (by exact Nat.le_of_ble_eq_true rfl) (fun v h' q => by obtain ⟨rfl, -⟩ := q; rfl) (fun ls e => ?_)
  have e2 : aBeg [.ref a0, .int l1, .int l2, .int l3] 4 = [some (.ref a0), some (.int l1), some (.int l2), some (.int l3)] := rfl
  rw [e2] at e
  subst e
  refine a_sub (sub_k (sub_k (sub_k (sub_k (sub_n))))) ?_
  exact sX2_addPay_0 hd (Nat.le_refl _) (Nat.le_refl _) (hf)

-- PencilStrikes$Duties.addThing(IIII)V
def X2_addThing_0 (S : AH) (a0 : Nat) (l1 : Int32) (l2 : Int32) (l3 : Int32) (l4 : Int32) : Option (Unit × AH) :=
  (cO S a0 2 (X2_add S a0 ((((((l1 <<< ((25 : Int32) &&& 31)) ||| (l2 <<< ((20 : Int32) &&& 31))) ||| (l3 <<< ((15 : Int32) &&& 31))) ||| (l4 <<< ((10 : Int32) &&& 31))) ||| 320) ||| 10))).bind fun r1 =>
  some ((), r1.2)
def X2_addThing (S : AH) (a0 : Nat) (l1 : Int32) (l2 : Int32) (l3 : Int32) (l4 : Int32) : Option (Unit × AH) := X2_addThing_0 S a0 l1 l2 l3 l4
set_option maxHeartbeats 4000000 in
theorem sX2_addThing_0 {l : Launch} {g : gE} {d MC MS' k n : Nat} {a0 : Nat} (hd : 1 ≤ d) (hk : k ≤ MC) (hn : n ≤ MS') {r : Unit × AH} {S : AH} {l1 : Int32} {l2 : Int32} {l3 : Int32} {l4 : Int32} (hf : X2_addThing_0 S a0 l1 l2 l3 l4 = some r) : AW l g d RX2 cX2_addThing 6 "addThing" MC MS' (Qr (none) r.2) k n 0 [some (.ref a0), some (.int l1), some (.int l2), some (.int l3), some (.int l4), none] [] S := by
  unfold X2_addThing_0 at hf
  refine a_iload_n (pc := 0) dX2_addThing_0 rfl ?_
  refine a_bipush (pc := 1) 25 dX2_addThing_1 rfl ?_
  refine a_ishl (pc := 3) dX2_addThing_3 ?_
  refine a_iload_n (pc := 4) dX2_addThing_4 rfl ?_
  refine a_bipush (pc := 5) 20 dX2_addThing_5 rfl ?_
  refine a_ishl (pc := 7) dX2_addThing_7 ?_
  refine a_ior (pc := 8) dX2_addThing_8 ?_
  refine a_iload_n (pc := 9) dX2_addThing_9 rfl ?_
  refine a_bipush (pc := 10) 15 dX2_addThing_10 rfl ?_
  refine a_ishl (pc := 12) dX2_addThing_12 ?_
  refine a_ior (pc := 13) dX2_addThing_13 ?_
  refine a_istore (pc := 14) (ls' := [some (.ref a0), some (.int l1), some (.int l2), some (.int l3), some (.int l4), some (.int (((l1 <<< ((25 : Int32) &&& 31)) ||| (l2 <<< ((20 : Int32) &&& 31))) ||| (l3 <<< ((15 : Int32) &&& 31))))]) dX2_addThing_14 (by decide) rfl ?_
  refine a_aload_n (pc := 16) dX2_addThing_16 rfl (isRv_r _) ?_
  refine a_iload (pc := 17) dX2_addThing_17 rfl ?_
  refine a_iload (pc := 19) dX2_addThing_19 rfl ?_
  refine a_bipush (pc := 21) 10 dX2_addThing_21 rfl ?_
  refine a_ishl (pc := 23) dX2_addThing_23 ?_
  refine a_ior (pc := 24) dX2_addThing_24 ?_
  refine a_sipush (pc := 25) 320 dX2_addThing_25 rfl ?_
  refine a_ior (pc := 28) dX2_addThing_28 ?_
  refine a_bipush (pc := 29) 10 dX2_addThing_29 rfl ?_
  refine a_ior (pc := 31) dX2_addThing_31 ?_
  obtain ⟨r1, hr1, hf⟩ := Option.bind_eq_some_iff.mp hf
  obtain ⟨hor1, hr1⟩ := cO_of hr1
  refine g_callv (pc := 32) (mc := 0) (ms := 0) [.int ((((((l1 <<< ((25 : Int32) &&& 31)) ||| (l2 <<< ((20 : Int32) &&& 31))) ||| (l3 <<< ((15 : Int32) &&& 31))) ||| (l4 <<< ((10 : Int32) &&& 31))) ||| 320) ||| 10)] [] dX2_addThing_32 ml_X2_19 mv_X2_add hor1 (by decide) rfl rfl (by omega) (mX2_add (by omega) hr1) rfl (Nat.le_of_ble_eq_true rfl) hk hn ?_
  have hf := Option.some.inj hf
  subst hf
  exact a_return (pc := 35) dX2_addThing_35 hk hn ⟨rfl, rfl⟩
set_option maxHeartbeats 4000000 in
theorem mX2_addThing {l : Launch} {g : gE} {d : Nat} {a0 : Nat} (hd : 1 ≤ d) {r : Unit × AH} {S : AH} {l1 : Int32} {l2 : Int32} {l3 : Int32} {l4 : Int32} (hf : X2_addThing S a0 l1 l2 l3 l4 = some r) : AM l g d yX2_addThing cX2_addThing 6 none 0 0 [.ref a0, .int l1, .int l2, .int l3, .int l4] S (Qr (none) r.2) := by
  refine AM.of rfl (by exact Nat.le_of_ble_eq_true rfl) (fun v h' q => by obtain ⟨rfl, -⟩ := q; rfl) (fun ls e => ?_)
  have e2 : aBeg [.ref a0, .int l1, .int l2, .int l3, .int l4] 6 = [some (.ref a0), some (.int l1), some (.int l2), some (.int l3), some (.int l4), none] := rfl
  rw [e2] at e
  subst e
  refine a_sub (sub_k (sub_k (sub_k (sub_k (sub_k (sub_k (sub_n))))))) ?_
  exact sX2_addThing_0 hd (Nat.le_refl _) (Nat.le_refl _) (hf)

-- PencilStrikes$Duties.clear()V
def X2_clear_0 (S : AH) (a0 : Nat) : Option (Unit × AH) :=
  (sI S a0 2 1 0).bind fun S1 =>
  some ((), S1)
def X2_clear (S : AH) (a0 : Nat) : Option (Unit × AH) := X2_clear_0 S a0
set_option maxHeartbeats 4000000 in
theorem sX2_clear_0 {l : Launch} {g : gE} {d MC MS' k n : Nat} {a0 : Nat} (hd : 0 ≤ d) (hk : k ≤ MC) (hn : n ≤ MS') {r : Unit × AH} {S : AH} (hf : X2_clear_0 S a0 = some r) : AW l g d RX2 cX2_clear 1 "clear" MC MS' (Qr (none) r.2) k n 0 [some (.ref a0)] [] S := by
  unfold X2_clear_0 at hf
  refine a_aload_n (pc := 0) dX2_clear_0 rfl (isRv_r _) ?_
  refine a_iconst (pc := 1) 0 dX2_clear_1 rfl ?_
  obtain ⟨S1, hS1, hf⟩ := Option.bind_eq_some_iff.mp hf
  refine g_putI (pc := 2) dX2_clear_2 fl_X2_15 rfl rfl hS1 ?_
  have hf := Option.some.inj hf
  subst hf
  exact a_return (pc := 5) dX2_clear_5 hk hn ⟨rfl, rfl⟩
set_option maxHeartbeats 4000000 in
theorem mX2_clear {l : Launch} {g : gE} {d : Nat} {a0 : Nat} (hd : 0 ≤ d) {r : Unit × AH} {S : AH} (hf : X2_clear S a0 = some r) : AM l g d yX2_clear cX2_clear 1 none 0 0 [.ref a0] S (Qr (none) r.2) := by
  refine AM.of rfl (by exact Nat.le_of_ble_eq_true rfl) (fun v h' q => by obtain ⟨rfl, -⟩ := q; rfl) (fun ls e => ?_)
  have e2 : aBeg [.ref a0] 1 = [some (.ref a0)] := rfl
  rw [e2] at e
  subst e
  refine a_sub (sub_k (sub_n)) ?_
  exact sX2_clear_0 hd (Nat.le_refl _) (Nat.le_refl _) (hf)

-- PencilStrikes$Duties.setDigit(III)V
def X2_setDigit_57 (S : AH) (a0 : Nat) : Option (Unit × AH) :=
  some ((), S)
def X2_setDigit_7 : Nat → AH → Nat → Int32 → Int32 → Int32 → Option (Unit × AH)
  | 0, _, _, _, _, _ => none
  | fn + 1, S, a0, l2, l3, l4 =>
    (gI S a0 2 1).bind fun x1 =>
    if x1 ≤ l4 then
      X2_setDigit_57 S a0
    else
      (gQ S a0 2 0).bind fun x2 =>
      (aN S x2).bind fun x3 =>
      if x3 ≤ l4 then
        X2_setDigit_57 S a0
      else
        (gQ S a0 2 0).bind fun x4 =>
        (gQ S a0 2 0).bind fun x5 =>
        (aA 0 S x5 l4).bind fun x6 =>
        (uA 0 S x4 l4 ((x6 &&& (((31 : Int32) <<< (l2 &&& 31)) ^^^ (-1))) ||| (l3 <<< (l2 &&& 31)))).bind fun S7 =>
        X2_setDigit_7 fn S7 a0 l2 l3 (l4 + 1)
def X2_setDigit_0 (S : AH) (a0 : Nat) (l1 : Int32) (l2 : Int32) (l3 : Int32) : Option (Unit × AH) :=
  X2_setDigit_7 FU S a0 l2 l3 (if l1 < 0 then 0 else l1)
def X2_setDigit (S : AH) (a0 : Nat) (l1 : Int32) (l2 : Int32) (l3 : Int32) : Option (Unit × AH) := X2_setDigit_0 S a0 l1 l2 l3
set_option maxHeartbeats 4000000 in
theorem sX2_setDigit_57 {l : Launch} {g : gE} {d MC MS' k n : Nat} {a0 : Nat} (hd : 0 ≤ d) (hk : k ≤ MC) (hn : n ≤ MS') {r : Unit × AH} {S : AH} (hf : X2_setDigit_57 S a0 = some r) : AW l g d RX2 cX2_setDigit 5 "setDigit" MC MS' (Qr (none) r.2) k n 57 [none, none, none, none, none] [] S := by
  unfold X2_setDigit_57 at hf
  have hf := Option.some.inj hf
  subst hf
  exact a_return (pc := 57) dX2_setDigit_57 hk hn ⟨rfl, rfl⟩
set_option maxHeartbeats 4000000 in
theorem sX2_setDigit_7 {l : Launch} {g : gE} {d MC MS' k n : Nat} {a0 : Nat} (hd : 0 ≤ d) (hk : k ≤ MC) (hn : n ≤ MS') {r : Unit × AH} : ∀ (fn : Nat) (S : AH) (l2 : Int32) (l3 : Int32) (l4 : Int32), X2_setDigit_7 fn S a0 l2 l3 l4 = some r → AW l g d RX2 cX2_setDigit 5 "setDigit" MC MS' (Qr (none) r.2) k n 7 [some (.ref a0), none, some (.int l2), some (.int l3), some (.int l4)] [] S := by
  intro fn
  induction fn with
  | zero =>
    intro S l2 l3 l4 hf
    rw [X2_setDigit_7] at hf
    cases hf
  | succ fn ih =>
    intro S l2 l3 l4 hf
    rw [X2_setDigit_7] at hf
    refine a_iload (pc := 7) dX2_setDigit_7 rfl ?_
    refine a_aload_n (pc := 9) dX2_setDigit_9 rfl (isRv_r _) ?_
    obtain ⟨x1, hx1, hf⟩ := Option.bind_eq_some_iff.mp hf
    refine g_getI (pc := 10) dX2_setDigit_10 fl_X2_15 hx1 ?_
    refine a_icmp_ge (pc := 13) 57 dX2_setDigit_13 (by decide) (fun c9 => ?_) (fun c9 => ?_)
    · have hf := (if_pos c9).symm.trans hf
      refine a_sub (sub_d (sub_k (sub_d (sub_d (sub_d sub_n))))) ?_
      exact sX2_setDigit_57 hd hk hn hf
    · have hf := (if_neg c9).symm.trans hf
      refine a_iload (pc := 16) dX2_setDigit_16 rfl ?_
      refine a_aload_n (pc := 18) dX2_setDigit_18 rfl (isRv_r _) ?_
      obtain ⟨x2, hx2, hf⟩ := Option.bind_eq_some_iff.mp hf
      refine g_getQ (pc := 19) dX2_setDigit_19 fl_X2_9 hx2 ?_
      obtain ⟨x3, hx3, hf⟩ := Option.bind_eq_some_iff.mp hf
      refine g_alen (pc := 22) dX2_setDigit_22 hx3 ?_
      refine a_icmp_ge (pc := 23) 57 dX2_setDigit_23 (by decide) (fun c8 => ?_) (fun c8 => ?_)
      · have hf := (if_pos c8).symm.trans hf
        refine a_sub (sub_d (sub_k (sub_d (sub_d (sub_d sub_n))))) ?_
        exact sX2_setDigit_57 hd hk hn hf
      · have hf := (if_neg c8).symm.trans hf
        refine a_aload_n (pc := 26) dX2_setDigit_26 rfl (isRv_r _) ?_
        obtain ⟨x4, hx4, hf⟩ := Option.bind_eq_some_iff.mp hf
        refine g_getQ (pc := 27) dX2_setDigit_27 fl_X2_9 hx4 ?_
        refine a_iload (pc := 30) dX2_setDigit_30 rfl ?_
        refine a_aload_n (pc := 32) dX2_setDigit_32 rfl (isRv_r _) ?_
        obtain ⟨x5, hx5, hf⟩ := Option.bind_eq_some_iff.mp hf
        refine g_getQ (pc := 33) dX2_setDigit_33 fl_X2_9 hx5 ?_
        refine a_iload (pc := 36) dX2_setDigit_36 rfl ?_
        obtain ⟨x6, hx6, hf⟩ := Option.bind_eq_some_iff.mp hf
        refine g_iald (pc := 38) dX2_setDigit_38 hx6 ?_
        refine a_bipush (pc := 39) 31 dX2_setDigit_39 rfl ?_
        refine a_iload_n (pc := 41) dX2_setDigit_41 rfl ?_
        refine a_ishl (pc := 42) dX2_setDigit_42 ?_
        refine a_iconst (pc := 43) (-1) dX2_setDigit_43 rfl ?_
        refine a_ixor (pc := 44) dX2_setDigit_44 ?_
        refine a_iand (pc := 45) dX2_setDigit_45 ?_
        refine a_iload_n (pc := 46) dX2_setDigit_46 rfl ?_
        refine a_iload_n (pc := 47) dX2_setDigit_47 rfl ?_
        refine a_ishl (pc := 48) dX2_setDigit_48 ?_
        refine a_ior (pc := 49) dX2_setDigit_49 ?_
        obtain ⟨S7, hS7, hf⟩ := Option.bind_eq_some_iff.mp hf
        refine g_iast (pc := 50) dX2_setDigit_50 hS7 ?_
        refine a_iinc (pc := 51) (ls' := [some (.ref a0), none, some (.int l2), some (.int l3), some (.int (l4 + 1))]) (l4 + 1) dX2_setDigit_51 rfl rfl (by decide) rfl ?_
        refine a_goto (pc := 54) 7 dX2_setDigit_54 (by decide) ?_
        exact ih S7 l2 l3 (l4 + 1) hf
set_option maxHeartbeats 4000000 in
theorem sX2_setDigit_0 {l : Launch} {g : gE} {d MC MS' k n : Nat} {a0 : Nat} (hd : 0 ≤ d) (hk : k ≤ MC) (hn : n ≤ MS') {r : Unit × AH} {S : AH} {l1 : Int32} {l2 : Int32} {l3 : Int32} (hf : X2_setDigit_0 S a0 l1 l2 l3 = some r) : AW l g d RX2 cX2_setDigit 5 "setDigit" MC MS' (Qr (none) r.2) k n 0 [some (.ref a0), some (.int l1), some (.int l2), some (.int l3), none] [] S := by
  unfold X2_setDigit_0 at hf
  refine a_iload_n (pc := 0) dX2_setDigit_0 rfl ?_
  refine a_iconst (pc := 1) 0 dX2_setDigit_1 rfl ?_
  refine a_mmax (pc := 2) dX2_setDigit_2 ml_X2_27 (Nat.le_of_ble_eq_true rfl) hk hn ?_
  refine a_istore (pc := 5) (ls' := [some (.ref a0), some (.int l1), some (.int l2), some (.int l3), some (.int (if l1 < 0 then 0 else l1))]) dX2_setDigit_5 (by decide) rfl ?_
  refine a_sub (sub_k (sub_d (sub_k (sub_k (sub_k sub_n))))) ?_
  exact sX2_setDigit_7 hd hk hn FU S l2 l3 (if l1 < 0 then 0 else l1) hf
set_option maxHeartbeats 4000000 in
theorem mX2_setDigit {l : Launch} {g : gE} {d : Nat} {a0 : Nat} (hd : 0 ≤ d) {r : Unit × AH} {S : AH} {l1 : Int32} {l2 : Int32} {l3 : Int32} (hf : X2_setDigit S a0 l1 l2 l3 = some r) : AM l g d yX2_setDigit cX2_setDigit 5 none 0 0 [.ref a0, .int l1, .int l2, .int l3] S (Qr (none) r.2) := by
  refine AM.of rfl (by exact Nat.le_of_ble_eq_true rfl) (fun v h' q => by obtain ⟨rfl, -⟩ := q; rfl) (fun ls e => ?_)
  have e2 : aBeg [.ref a0, .int l1, .int l2, .int l3] 5 = [some (.ref a0), some (.int l1), some (.int l2), some (.int l3), none] := rfl
  rw [e2] at e
  subst e
  refine a_sub (sub_k (sub_k (sub_k (sub_k (sub_k (sub_n)))))) ?_
  exact sX2_setDigit_0 hd (Nat.le_refl _) (Nat.le_refl _) (hf)

-- PencilStrikes$Duties.setFar(II)V
def X2_setFar_0 (S : AH) (a0 : Nat) (l1 : Int32) (l2 : Int32) : Option (Unit × AH) :=
  (cO S a0 2 (X2_setDigit S a0 l1 5 l2)).bind fun r1 =>
  some ((), r1.2)
def X2_setFar (S : AH) (a0 : Nat) (l1 : Int32) (l2 : Int32) : Option (Unit × AH) := X2_setFar_0 S a0 l1 l2
set_option maxHeartbeats 4000000 in
theorem sX2_setFar_0 {l : Launch} {g : gE} {d MC MS' k n : Nat} {a0 : Nat} (hd : 1 ≤ d) (hk : k ≤ MC) (hn : n ≤ MS') {r : Unit × AH} {S : AH} {l1 : Int32} {l2 : Int32} (hf : X2_setFar_0 S a0 l1 l2 = some r) : AW l g d RX2 cX2_setFar 3 "setFar" MC MS' (Qr (none) r.2) k n 0 [some (.ref a0), some (.int l1), some (.int l2)] [] S := by
  unfold X2_setFar_0 at hf
  refine a_aload_n (pc := 0) dX2_setFar_0 rfl (isRv_r _) ?_
  refine a_iload_n (pc := 1) dX2_setFar_1 rfl ?_
  refine a_iconst (pc := 2) 5 dX2_setFar_2 rfl ?_
  refine a_iload_n (pc := 3) dX2_setFar_3 rfl ?_
  obtain ⟨r1, hr1, hf⟩ := Option.bind_eq_some_iff.mp hf
  obtain ⟨hor1, hr1⟩ := cO_of hr1
  refine g_callv (pc := 4) (mc := 0) (ms := 0) [.int l1, .int 5, .int l2] [] dX2_setFar_4 ml_X2_23 mv_X2_setDigit hor1 (by decide) rfl rfl (by omega) (mX2_setDigit (by omega) hr1) rfl (Nat.le_of_ble_eq_true rfl) hk hn ?_
  have hf := Option.some.inj hf
  subst hf
  exact a_return (pc := 7) dX2_setFar_7 hk hn ⟨rfl, rfl⟩
set_option maxHeartbeats 4000000 in
theorem mX2_setFar {l : Launch} {g : gE} {d : Nat} {a0 : Nat} (hd : 1 ≤ d) {r : Unit × AH} {S : AH} {l1 : Int32} {l2 : Int32} (hf : X2_setFar S a0 l1 l2 = some r) : AM l g d yX2_setFar cX2_setFar 3 none 0 0 [.ref a0, .int l1, .int l2] S (Qr (none) r.2) := by
  refine AM.of rfl (by exact Nat.le_of_ble_eq_true rfl) (fun v h' q => by obtain ⟨rfl, -⟩ := q; rfl) (fun ls e => ?_)
  have e2 : aBeg [.ref a0, .int l1, .int l2] 3 = [some (.ref a0), some (.int l1), some (.int l2)] := rfl
  rw [e2] at e
  subst e
  refine a_sub (sub_k (sub_k (sub_k (sub_n)))) ?_
  exact sX2_setFar_0 hd (Nat.le_refl _) (Nat.le_refl _) (hf)

-- PencilStrikes$Duties.setLong(II)V
def X2_setLong_0 (S : AH) (a0 : Nat) (l1 : Int32) (l2 : Int32) : Option (Unit × AH) :=
  (cO S a0 2 (X2_setDigit S a0 l1 0 l2)).bind fun r1 =>
  some ((), r1.2)
def X2_setLong (S : AH) (a0 : Nat) (l1 : Int32) (l2 : Int32) : Option (Unit × AH) := X2_setLong_0 S a0 l1 l2
set_option maxHeartbeats 4000000 in
theorem sX2_setLong_0 {l : Launch} {g : gE} {d MC MS' k n : Nat} {a0 : Nat} (hd : 1 ≤ d) (hk : k ≤ MC) (hn : n ≤ MS') {r : Unit × AH} {S : AH} {l1 : Int32} {l2 : Int32} (hf : X2_setLong_0 S a0 l1 l2 = some r) : AW l g d RX2 cX2_setLong 3 "setLong" MC MS' (Qr (none) r.2) k n 0 [some (.ref a0), some (.int l1), some (.int l2)] [] S := by
  unfold X2_setLong_0 at hf
  refine a_aload_n (pc := 0) dX2_setLong_0 rfl (isRv_r _) ?_
  refine a_iload_n (pc := 1) dX2_setLong_1 rfl ?_
  refine a_iconst (pc := 2) 0 dX2_setLong_2 rfl ?_
  refine a_iload_n (pc := 3) dX2_setLong_3 rfl ?_
  obtain ⟨r1, hr1, hf⟩ := Option.bind_eq_some_iff.mp hf
  obtain ⟨hor1, hr1⟩ := cO_of hr1
  refine g_callv (pc := 4) (mc := 0) (ms := 0) [.int l1, .int 0, .int l2] [] dX2_setLong_4 ml_X2_23 mv_X2_setDigit hor1 (by decide) rfl rfl (by omega) (mX2_setDigit (by omega) hr1) rfl (Nat.le_of_ble_eq_true rfl) hk hn ?_
  have hf := Option.some.inj hf
  subst hf
  exact a_return (pc := 7) dX2_setLong_7 hk hn ⟨rfl, rfl⟩
set_option maxHeartbeats 4000000 in
theorem mX2_setLong {l : Launch} {g : gE} {d : Nat} {a0 : Nat} (hd : 1 ≤ d) {r : Unit × AH} {S : AH} {l1 : Int32} {l2 : Int32} (hf : X2_setLong S a0 l1 l2 = some r) : AM l g d yX2_setLong cX2_setLong 3 none 0 0 [.ref a0, .int l1, .int l2] S (Qr (none) r.2) := by
  refine AM.of rfl (by exact Nat.le_of_ble_eq_true rfl) (fun v h' q => by obtain ⟨rfl, -⟩ := q; rfl) (fun ls e => ?_)
  have e2 : aBeg [.ref a0, .int l1, .int l2] 3 = [some (.ref a0), some (.int l1), some (.int l2)] := rfl
  rw [e2] at e
  subst e
  refine a_sub (sub_k (sub_k (sub_k (sub_n)))) ?_
  exact sX2_setLong_0 hd (Nat.le_refl _) (Nat.le_refl _) (hf)

-- PencilStrikes$Duties.size()I
def X2_size_0 (S : AH) (a0 : Nat) : Option (Int32 × AH) :=
  (gI S a0 2 1).bind fun x1 =>
  some (x1, S)
def X2_size (S : AH) (a0 : Nat) : Option (Int32 × AH) := X2_size_0 S a0
set_option maxHeartbeats 4000000 in
theorem sX2_size_0 {l : Launch} {g : gE} {d MC MS' k n : Nat} {a0 : Nat} (hd : 0 ≤ d) (hk : k ≤ MC) (hn : n ≤ MS') {r : Int32 × AH} {S : AH} (hf : X2_size_0 S a0 = some r) : AW l g d RX2 cX2_size 1 "size" MC MS' (Qr (some (.int r.1)) r.2) k n 0 [some (.ref a0)] [] S := by
  unfold X2_size_0 at hf
  refine a_aload_n (pc := 0) dX2_size_0 rfl (isRv_r _) ?_
  obtain ⟨x1, hx1, hf⟩ := Option.bind_eq_some_iff.mp hf
  refine g_getI (pc := 1) dX2_size_1 fl_X2_15 hx1 ?_
  have hf := Option.some.inj hf
  subst hf
  exact a_ireturn (pc := 4) dX2_size_4 hk hn ⟨rfl, rfl⟩
set_option maxHeartbeats 4000000 in
theorem mX2_size {l : Launch} {g : gE} {d : Nat} {a0 : Nat} (hd : 0 ≤ d) {r : Int32 × AH} {S : AH} (hf : X2_size S a0 = some r) : AM l g d yX2_size cX2_size 1 (some .int) 0 0 [.ref a0] S (Qr (some (.int r.1)) r.2) := by
  refine AM.of rfl (by exact Nat.le_of_ble_eq_true rfl) (fun v h' q => by obtain ⟨rfl, -⟩ := q; exact ⟨_, rfl, rfl⟩) (fun ls e => ?_)
  have e2 : aBeg [.ref a0] 1 = [some (.ref a0)] := rfl
  rw [e2] at e
  subst e
  refine a_sub (sub_k (sub_n)) ?_
  exact sX2_size_0 hd (Nat.le_refl _) (Nat.le_refl _) (hf)

-- PencilStrikes$Bargain.tellDuties(ILPencilStrikes$Duties;)V
def X1_tellDuties_270 (rec18 : AH → Nat → Int32 → Option Nat → Int32 → Int32 → Int32 → Int32 → Int32 → Option (Unit × AH)) (S : AH) (a0 : Nat) (l1 : Int32) (l2 : Option Nat) (l3 : Int32) (l4 : Int32) (l5 : Int32) (l6 : Int32) (l7 : Int32) : Option (Unit × AH) :=
  rec18 S a0 l1 l2 l3 l4 l5 l6 (l7 + 1)
def X1_tellDuties_18 : Nat → AH → Nat → Int32 → Option Nat → Int32 → Int32 → Int32 → Int32 → Int32 → Option (Unit × AH)
  | 0, _, _, _, _, _, _, _, _, _ => none
  | fn + 1, S, a0, l1, l2, l3, l4, l5, l6, l7 =>
    (gQ S a0 1 0).bind fun x1 =>
    (aN S x1).bind fun x2 =>
    if x2 ≤ l7 then
      some ((), S)
    else
      if ((l1 >>> (l7 &&& 31)) &&& 1) = 0 then
        (gQ S a0 1 0).bind fun x3 =>
        (aA 0 S x3 l7).bind fun x4 =>
        (gQ S a0 1 0).bind fun x5 =>
        (aA 0 S x5 l7).bind fun x6 =>
        if (x6 / 100) = 97 then
          (l2).bind fun a7 =>
          (cO S a7 2 (X2_size S a7)).bind fun r8 =>
          X1_tellDuties_270 (X1_tellDuties_18 fn) r8.2 a0 l1 (some a7) 0 l4 0 r8.1 l7
        else
          if (x6 / 100) = 98 then
            (l2).bind fun a9 =>
            (cO S a9 2 (X2_size S a9)).bind fun r10 =>
            X1_tellDuties_270 (X1_tellDuties_18 fn) r10.2 a0 l1 (some a9) 1 l4 0 r10.1 l7
          else
            if (x6 / 100) = 102 then
              (l2).bind fun a11 =>
              (cO S a11 2 (X2_setLong S a11 l6 (x4 - x4 / 100 * 100))).bind fun r12 =>
              X1_tellDuties_270 (X1_tellDuties_18 fn) r12.2 a0 l1 (some a11) l3 l4 l5 l6 l7
            else
              if (x6 / 100) = 105 then
                (l2).bind fun a13 =>
                (cO S a13 2 (X2_setFar S a13 l6 (x4 - x4 / 100 * 100))).bind fun r14 =>
                X1_tellDuties_270 (X1_tellDuties_18 fn) r14.2 a0 l1 (some a13) l3 l4 l5 l6 l7
              else
                if (x6 / 100) = 109 then
                  X1_tellDuties_270 (X1_tellDuties_18 fn) S a0 l1 l2 l3 1 l5 l6 l7
                else
                  if (x6 / 100) = 110 then
                    X1_tellDuties_270 (X1_tellDuties_18 fn) S a0 l1 l2 l3 l4 1 l6 l7
                  else
                    if (x6 / 100) = 112 then
                      (l2).bind fun a15 =>
                      (cO S a15 2 (X2_addPay S a15 l3 l4 (x4 - x4 / 100 * 100))).bind fun r16 =>
                      X1_tellDuties_270 (X1_tellDuties_18 fn) r16.2 a0 l1 (some a15) l3 l4 l5 l6 l7
                    else
                      if (x6 / 100) = 119 then
                        (l2).bind fun a17 =>
                        (cO S a17 2 (X2_addThing S a17 l3 l4 l5 (x4 - x4 / 100 * 100))).bind fun r18 =>
                        X1_tellDuties_270 (X1_tellDuties_18 fn) r18.2 a0 l1 (some a17) l3 l4 l5 l6 l7
                      else
                        if (x6 / 100) = 121 then
                          X1_tellDuties_270 (X1_tellDuties_18 fn) S a0 l1 l2 l3 0 l5 l6 l7
                        else
                          X1_tellDuties_270 (X1_tellDuties_18 fn) S a0 l1 l2 l3 l4 l5 l6 l7
      else
        X1_tellDuties_270 (X1_tellDuties_18 fn) S a0 l1 l2 l3 l4 l5 l6 l7
def X1_tellDuties_0 (S : AH) (a0 : Nat) (l1 : Int32) (l2 : Option Nat) : Option (Unit × AH) :=
  (l2).bind fun a1 =>
  (cO S a1 2 (X2_clear S a1)).bind fun r2 =>
  X1_tellDuties_18 FU r2.2 a0 l1 (some a1) 0 0 0 0 0
def X1_tellDuties (S : AH) (a0 : Nat) (l1 : Int32) (l2 : Option Nat) : Option (Unit × AH) := X1_tellDuties_0 S a0 l1 l2
set_option maxHeartbeats 4000000 in
theorem sX1_tellDuties_270 {l : Launch} {g : gE} {d MC MS' k n : Nat} {a0 : Nat} (hd : 2 ≤ d) (hk : k ≤ MC) (hn : n ≤ MS') {r : Unit × AH} {rec18 : AH → Nat → Int32 → Option Nat → Int32 → Int32 → Int32 → Int32 → Int32 → Option (Unit × AH)} (hlp18 : ∀ (S : AH) (l1 : Int32) (l2 : Option Nat) (l3 : Int32) (l4 : Int32) (l5 : Int32) (l6 : Int32) (l7 : Int32), rec18 S a0 l1 l2 l3 l4 l5 l6 l7 = some r → AW l g d RX1 cX1_tellDuties 9 "tellDuties" MC MS' (Qr (none) r.2) k n 18 [some (.ref a0), some (.int l1), some (va_rf l2), some (.int l3), some (.int l4), some (.int l5), some (.int l6), some (.int l7), none] [] S) {S : AH} {l1 : Int32} {l2 : Option Nat} {l3 : Int32} {l4 : Int32} {l5 : Int32} {l6 : Int32} {l7 : Int32} (hf : X1_tellDuties_270 rec18 S a0 l1 l2 l3 l4 l5 l6 l7 = some r) : AW l g d RX1 cX1_tellDuties 9 "tellDuties" MC MS' (Qr (none) r.2) k n 270 [some (.ref a0), some (.int l1), some (va_rf l2), some (.int l3), some (.int l4), some (.int l5), some (.int l6), some (.int l7), none] [] S := by
  unfold X1_tellDuties_270 at hf
  refine a_iinc (pc := 270) (ls' := [some (.ref a0), some (.int l1), some (va_rf l2), some (.int l3), some (.int l4), some (.int l5), some (.int l6), some (.int (l7 + 1)), none]) (l7 + 1) dX1_tellDuties_270 rfl rfl (by decide) rfl ?_
  refine a_goto (pc := 273) 18 dX1_tellDuties_273 (by decide) ?_
  exact hlp18 S l1 l2 l3 l4 l5 l6 (l7 + 1) hf
set_option maxHeartbeats 4000000 in
theorem sX1_tellDuties_18 {l : Launch} {g : gE} {d MC MS' k n : Nat} {a0 : Nat} (hd : 2 ≤ d) (hk : k ≤ MC) (hn : n ≤ MS') {r : Unit × AH} : ∀ (fn : Nat) (S : AH) (l1 : Int32) (l2 : Option Nat) (l3 : Int32) (l4 : Int32) (l5 : Int32) (l6 : Int32) (l7 : Int32), X1_tellDuties_18 fn S a0 l1 l2 l3 l4 l5 l6 l7 = some r → AW l g d RX1 cX1_tellDuties 9 "tellDuties" MC MS' (Qr (none) r.2) k n 18 [some (.ref a0), some (.int l1), some (va_rf l2), some (.int l3), some (.int l4), some (.int l5), some (.int l6), some (.int l7), none] [] S := by
  intro fn
  induction fn with
  | zero =>
    intro S l1 l2 l3 l4 l5 l6 l7 hf
    rw [X1_tellDuties_18] at hf
    cases hf
  | succ fn ih =>
    intro S l1 l2 l3 l4 l5 l6 l7 hf
    rw [X1_tellDuties_18] at hf
    refine a_iload (pc := 18) dX1_tellDuties_18 rfl ?_
    refine a_aload_n (pc := 20) dX1_tellDuties_20 rfl (isRv_r _) ?_
    obtain ⟨x1, hx1, hf⟩ := Option.bind_eq_some_iff.mp hf
    refine g_getQ (pc := 21) dX1_tellDuties_21 fl_X1_22 hx1 ?_
    obtain ⟨x2, hx2, hf⟩ := Option.bind_eq_some_iff.mp hf
    refine g_alen (pc := 24) dX1_tellDuties_24 hx2 ?_
    refine a_icmp_ge (pc := 25) 276 dX1_tellDuties_25 (by decide) (fun c21 => ?_) (fun c21 => ?_)
    · have hf := (if_pos c21).symm.trans hf
      have hf := Option.some.inj hf
      subst hf
      exact a_return (pc := 276) dX1_tellDuties_276 hk hn ⟨rfl, rfl⟩
    · have hf := (if_neg c21).symm.trans hf
      refine a_iload_n (pc := 28) dX1_tellDuties_28 rfl ?_
      refine a_iload (pc := 29) dX1_tellDuties_29 rfl ?_
      refine a_ishr (pc := 31) dX1_tellDuties_31 ?_
      refine a_iconst (pc := 32) 1 dX1_tellDuties_32 rfl ?_
      refine a_iand (pc := 33) dX1_tellDuties_33 ?_
      refine a_if_eq (pc := 34) 40 dX1_tellDuties_34 (by decide) (fun c20 => ?_) (fun c20 => ?_)
      · have hf := (if_pos c20).symm.trans hf
        refine a_aload_n (pc := 40) dX1_tellDuties_40 rfl (isRv_r _) ?_
        obtain ⟨x3, hx3, hf⟩ := Option.bind_eq_some_iff.mp hf
        refine g_getQ (pc := 41) dX1_tellDuties_41 fl_X1_22 hx3 ?_
        refine a_iload (pc := 44) dX1_tellDuties_44 rfl ?_
        obtain ⟨x4, hx4, hf⟩ := Option.bind_eq_some_iff.mp hf
        refine g_iald (pc := 46) dX1_tellDuties_46 hx4 ?_
        refine a_bipush (pc := 47) 100 dX1_tellDuties_47 rfl ?_
        refine a_irem (pc := 49) dX1_tellDuties_49 (by decide) ?_
        refine a_istore (pc := 50) (ls' := [some (.ref a0), some (.int l1), some (va_rf l2), some (.int l3), some (.int l4), some (.int l5), some (.int l6), some (.int l7), some (.int (x4 - x4 / 100 * 100))]) dX1_tellDuties_50 (by decide) rfl ?_
        refine a_aload_n (pc := 52) dX1_tellDuties_52 rfl (isRv_r _) ?_
        obtain ⟨x5, hx5, hf⟩ := Option.bind_eq_some_iff.mp hf
        refine g_getQ (pc := 53) dX1_tellDuties_53 fl_X1_22 hx5 ?_
        refine a_iload (pc := 56) dX1_tellDuties_56 rfl ?_
        obtain ⟨x6, hx6, hf⟩ := Option.bind_eq_some_iff.mp hf
        refine g_iald (pc := 58) dX1_tellDuties_58 hx6 ?_
        refine a_bipush (pc := 59) 100 dX1_tellDuties_59 rfl ?_
        refine a_idiv (pc := 61) dX1_tellDuties_61 (by decide) ?_
        by_cases c19_0 : (x6 / 100) = 97
        · have hf := (if_pos c19_0).symm.trans hf
          refine a_tableIn (pc := 62) 176 dX1_tellDuties_62 (by rw [c19_0]; decide) (by rw [c19_0]; decide) (off := 114) (by rw [c19_0]; rfl) (by decide) ?_
          refine a_iconst (pc := 176) 0 dX1_tellDuties_176 rfl ?_
          refine a_istore_n (pc := 177) (ls' := [some (.ref a0), some (.int l1), some (va_rf l2), some (.int 0), some (.int l4), some (.int l5), some (.int l6), some (.int l7), some (.int (x4 - x4 / 100 * 100))]) dX1_tellDuties_177 (by decide) (aSet_ref rfl (va_rf_cat _) rfl) ?_
          refine a_iconst (pc := 178) 0 dX1_tellDuties_178 rfl ?_
          refine a_istore (pc := 179) (ls' := [some (.ref a0), some (.int l1), some (va_rf l2), some (.int 0), some (.int l4), some (.int 0), some (.int l6), some (.int l7), some (.int (x4 - x4 / 100 * 100))]) dX1_tellDuties_179 (by decide) rfl ?_
          refine a_aload_n (pc := 181) dX1_tellDuties_181 rfl (isRv_rf _) ?_
          obtain ⟨a7, ha7, hf⟩ := Option.bind_eq_some_iff.mp hf
          rw [ha7]
          obtain ⟨r8, hr8, hf⟩ := Option.bind_eq_some_iff.mp hf
          obtain ⟨hor8, hr8⟩ := cO_of hr8
          refine g_call (pc := 182) (mc := 0) (ms := 0) (.int r8.1) [] [] dX1_tellDuties_182 ml_X1_83 mv_X2_size hor8 (by decide) rfl rfl (by omega) (mX2_size (by omega) hr8) rfl (Nat.le_of_ble_eq_true rfl) hk hn ?_
          refine a_istore (pc := 185) (ls' := [some (.ref a0), some (.int l1), some (.ref a7), some (.int 0), some (.int l4), some (.int 0), some (.int (r8.1)), some (.int l7), some (.int (x4 - x4 / 100 * 100))]) dX1_tellDuties_185 (by decide) rfl ?_
          refine a_goto (pc := 187) 270 dX1_tellDuties_187 (by decide) ?_
          refine a_sub (sub_k (sub_k (sub_k (sub_k (sub_k (sub_k (sub_k (sub_k (sub_d sub_n))))))))) ?_
          exact sX1_tellDuties_270 hd hk hn ih hf
        · have hf := (if_neg c19_0).symm.trans hf
          by_cases c19_1 : (x6 / 100) = 98
          · have hf := (if_pos c19_1).symm.trans hf
            refine a_tableIn (pc := 62) 190 dX1_tellDuties_62 (by rw [c19_1]; decide) (by rw [c19_1]; decide) (off := 128) (by rw [c19_1]; rfl) (by decide) ?_
            refine a_iconst (pc := 190) 1 dX1_tellDuties_190 rfl ?_
            refine a_istore_n (pc := 191) (ls' := [some (.ref a0), some (.int l1), some (va_rf l2), some (.int 1), some (.int l4), some (.int l5), some (.int l6), some (.int l7), some (.int (x4 - x4 / 100 * 100))]) dX1_tellDuties_191 (by decide) (aSet_ref rfl (va_rf_cat _) rfl) ?_
            refine a_iconst (pc := 192) 0 dX1_tellDuties_192 rfl ?_
            refine a_istore (pc := 193) (ls' := [some (.ref a0), some (.int l1), some (va_rf l2), some (.int 1), some (.int l4), some (.int 0), some (.int l6), some (.int l7), some (.int (x4 - x4 / 100 * 100))]) dX1_tellDuties_193 (by decide) rfl ?_
            refine a_aload_n (pc := 195) dX1_tellDuties_195 rfl (isRv_rf _) ?_
            obtain ⟨a9, ha9, hf⟩ := Option.bind_eq_some_iff.mp hf
            rw [ha9]
            obtain ⟨r10, hr10, hf⟩ := Option.bind_eq_some_iff.mp hf
            obtain ⟨hor10, hr10⟩ := cO_of hr10
            refine g_call (pc := 196) (mc := 0) (ms := 0) (.int r10.1) [] [] dX1_tellDuties_196 ml_X1_83 mv_X2_size hor10 (by decide) rfl rfl (by omega) (mX2_size (by omega) hr10) rfl (Nat.le_of_ble_eq_true rfl) hk hn ?_
            refine a_istore (pc := 199) (ls' := [some (.ref a0), some (.int l1), some (.ref a9), some (.int 1), some (.int l4), some (.int 0), some (.int (r10.1)), some (.int l7), some (.int (x4 - x4 / 100 * 100))]) dX1_tellDuties_199 (by decide) rfl ?_
            refine a_goto (pc := 201) 270 dX1_tellDuties_201 (by decide) ?_
            refine a_sub (sub_k (sub_k (sub_k (sub_k (sub_k (sub_k (sub_k (sub_k (sub_d sub_n))))))))) ?_
            exact sX1_tellDuties_270 hd hk hn ih hf
          · have hf := (if_neg c19_1).symm.trans hf
            by_cases c19_2 : (x6 / 100) = 102
            · have hf := (if_pos c19_2).symm.trans hf
              refine a_tableIn (pc := 62) 259 dX1_tellDuties_62 (by rw [c19_2]; decide) (by rw [c19_2]; decide) (off := 197) (by rw [c19_2]; rfl) (by decide) ?_
              refine a_aload_n (pc := 259) dX1_tellDuties_259 rfl (isRv_rf _) ?_
              refine a_iload (pc := 260) dX1_tellDuties_260 rfl ?_
              refine a_iload (pc := 262) dX1_tellDuties_262 rfl ?_
              obtain ⟨a11, ha11, hf⟩ := Option.bind_eq_some_iff.mp hf
              rw [ha11]
              obtain ⟨r12, hr12, hf⟩ := Option.bind_eq_some_iff.mp hf
              obtain ⟨hor12, hr12⟩ := cO_of hr12
              refine g_callv (pc := 264) (mc := 0) (ms := 0) [.int l6, .int (x4 - x4 / 100 * 100)] [] dX1_tellDuties_264 ml_X1_96 mv_X2_setLong hor12 (by decide) rfl rfl (by omega) (mX2_setLong (by omega) hr12) rfl (Nat.le_of_ble_eq_true rfl) hk hn ?_
              refine a_goto (pc := 267) 270 dX1_tellDuties_267 (by decide) ?_
              refine a_sub (sub_k (sub_k (sub_k (sub_k (sub_k (sub_k (sub_k (sub_k (sub_d sub_n))))))))) ?_
              exact sX1_tellDuties_270 hd hk hn ih hf
            · have hf := (if_neg c19_2).symm.trans hf
              by_cases c19_3 : (x6 / 100) = 105
              · have hf := (if_pos c19_3).symm.trans hf
                refine a_tableIn (pc := 62) 248 dX1_tellDuties_62 (by rw [c19_3]; decide) (by rw [c19_3]; decide) (off := 186) (by rw [c19_3]; rfl) (by decide) ?_
                refine a_aload_n (pc := 248) dX1_tellDuties_248 rfl (isRv_rf _) ?_
                refine a_iload (pc := 249) dX1_tellDuties_249 rfl ?_
                refine a_iload (pc := 251) dX1_tellDuties_251 rfl ?_
                obtain ⟨a13, ha13, hf⟩ := Option.bind_eq_some_iff.mp hf
                rw [ha13]
                obtain ⟨r14, hr14, hf⟩ := Option.bind_eq_some_iff.mp hf
                obtain ⟨hor14, hr14⟩ := cO_of hr14
                refine g_callv (pc := 253) (mc := 0) (ms := 0) [.int l6, .int (x4 - x4 / 100 * 100)] [] dX1_tellDuties_253 ml_X1_92 mv_X2_setFar hor14 (by decide) rfl rfl (by omega) (mX2_setFar (by omega) hr14) rfl (Nat.le_of_ble_eq_true rfl) hk hn ?_
                refine a_goto (pc := 256) 270 dX1_tellDuties_256 (by decide) ?_
                refine a_sub (sub_k (sub_k (sub_k (sub_k (sub_k (sub_k (sub_k (sub_k (sub_d sub_n))))))))) ?_
                exact sX1_tellDuties_270 hd hk hn ih hf
              · have hf := (if_neg c19_3).symm.trans hf
                by_cases c19_4 : (x6 / 100) = 109
                · have hf := (if_pos c19_4).symm.trans hf
                  refine a_tableIn (pc := 62) 204 dX1_tellDuties_62 (by rw [c19_4]; decide) (by rw [c19_4]; decide) (off := 142) (by rw [c19_4]; rfl) (by decide) ?_
                  refine a_iconst (pc := 204) 1 dX1_tellDuties_204 rfl ?_
                  refine a_istore (pc := 205) (ls' := [some (.ref a0), some (.int l1), some (va_rf l2), some (.int l3), some (.int 1), some (.int l5), some (.int l6), some (.int l7), some (.int (x4 - x4 / 100 * 100))]) dX1_tellDuties_205 (by decide) rfl ?_
                  refine a_goto (pc := 207) 270 dX1_tellDuties_207 (by decide) ?_
                  refine a_sub (sub_k (sub_k (sub_k (sub_k (sub_k (sub_k (sub_k (sub_k (sub_d sub_n))))))))) ?_
                  exact sX1_tellDuties_270 hd hk hn ih hf
                · have hf := (if_neg c19_4).symm.trans hf
                  by_cases c19_5 : (x6 / 100) = 110
                  · have hf := (if_pos c19_5).symm.trans hf
                    refine a_tableIn (pc := 62) 216 dX1_tellDuties_62 (by rw [c19_5]; decide) (by rw [c19_5]; decide) (off := 154) (by rw [c19_5]; rfl) (by decide) ?_
                    refine a_iconst (pc := 216) 1 dX1_tellDuties_216 rfl ?_
                    refine a_istore (pc := 217) (ls' := [some (.ref a0), some (.int l1), some (va_rf l2), some (.int l3), some (.int l4), some (.int 1), some (.int l6), some (.int l7), some (.int (x4 - x4 / 100 * 100))]) dX1_tellDuties_217 (by decide) rfl ?_
                    refine a_goto (pc := 219) 270 dX1_tellDuties_219 (by decide) ?_
                    refine a_sub (sub_k (sub_k (sub_k (sub_k (sub_k (sub_k (sub_k (sub_k (sub_d sub_n))))))))) ?_
                    exact sX1_tellDuties_270 hd hk hn ih hf
                  · have hf := (if_neg c19_5).symm.trans hf
                    by_cases c19_6 : (x6 / 100) = 112
                    · have hf := (if_pos c19_6).symm.trans hf
                      refine a_tableIn (pc := 62) 236 dX1_tellDuties_62 (by rw [c19_6]; decide) (by rw [c19_6]; decide) (off := 174) (by rw [c19_6]; rfl) (by decide) ?_
                      refine a_aload_n (pc := 236) dX1_tellDuties_236 rfl (isRv_rf _) ?_
                      refine a_iload_n (pc := 237) dX1_tellDuties_237 rfl ?_
                      refine a_iload (pc := 238) dX1_tellDuties_238 rfl ?_
                      refine a_iload (pc := 240) dX1_tellDuties_240 rfl ?_
                      obtain ⟨a15, ha15, hf⟩ := Option.bind_eq_some_iff.mp hf
                      rw [ha15]
                      obtain ⟨r16, hr16, hf⟩ := Option.bind_eq_some_iff.mp hf
                      obtain ⟨hor16, hr16⟩ := cO_of hr16
                      refine g_callv (pc := 242) (mc := 0) (ms := 0) [.int l3, .int l4, .int (x4 - x4 / 100 * 100)] [] dX1_tellDuties_242 ml_X1_88 mv_X2_addPay hor16 (by decide) rfl rfl (by omega) (mX2_addPay (by omega) hr16) rfl (Nat.le_of_ble_eq_true rfl) hk hn ?_
                      refine a_goto (pc := 245) 270 dX1_tellDuties_245 (by decide) ?_
                      refine a_sub (sub_k (sub_k (sub_k (sub_k (sub_k (sub_k (sub_k (sub_k (sub_d sub_n))))))))) ?_
                      exact sX1_tellDuties_270 hd hk hn ih hf
                    · have hf := (if_neg c19_6).symm.trans hf
                      by_cases c19_7 : (x6 / 100) = 119
                      · have hf := (if_pos c19_7).symm.trans hf
                        refine a_tableIn (pc := 62) 222 dX1_tellDuties_62 (by rw [c19_7]; decide) (by rw [c19_7]; decide) (off := 160) (by rw [c19_7]; rfl) (by decide) ?_
                        refine a_aload_n (pc := 222) dX1_tellDuties_222 rfl (isRv_rf _) ?_
                        refine a_iload_n (pc := 223) dX1_tellDuties_223 rfl ?_
                        refine a_iload (pc := 224) dX1_tellDuties_224 rfl ?_
                        refine a_iload (pc := 226) dX1_tellDuties_226 rfl ?_
                        refine a_iload (pc := 228) dX1_tellDuties_228 rfl ?_
                        obtain ⟨a17, ha17, hf⟩ := Option.bind_eq_some_iff.mp hf
                        rw [ha17]
                        obtain ⟨r18, hr18, hf⟩ := Option.bind_eq_some_iff.mp hf
                        obtain ⟨hor18, hr18⟩ := cO_of hr18
                        refine g_callv (pc := 230) (mc := 0) (ms := 0) [.int l3, .int l4, .int l5, .int (x4 - x4 / 100 * 100)] [] dX1_tellDuties_230 ml_X1_84 mv_X2_addThing hor18 (by decide) rfl rfl (by omega) (mX2_addThing (by omega) hr18) rfl (Nat.le_of_ble_eq_true rfl) hk hn ?_
                        refine a_goto (pc := 233) 270 dX1_tellDuties_233 (by decide) ?_
                        refine a_sub (sub_k (sub_k (sub_k (sub_k (sub_k (sub_k (sub_k (sub_k (sub_d sub_n))))))))) ?_
                        exact sX1_tellDuties_270 hd hk hn ih hf
                      · have hf := (if_neg c19_7).symm.trans hf
                        by_cases c19_8 : (x6 / 100) = 121
                        · have hf := (if_pos c19_8).symm.trans hf
                          refine a_tableIn (pc := 62) 210 dX1_tellDuties_62 (by rw [c19_8]; decide) (by rw [c19_8]; decide) (off := 148) (by rw [c19_8]; rfl) (by decide) ?_
                          refine a_iconst (pc := 210) 0 dX1_tellDuties_210 rfl ?_
                          refine a_istore (pc := 211) (ls' := [some (.ref a0), some (.int l1), some (va_rf l2), some (.int l3), some (.int 0), some (.int l5), some (.int l6), some (.int l7), some (.int (x4 - x4 / 100 * 100))]) dX1_tellDuties_211 (by decide) rfl ?_
                          refine a_goto (pc := 213) 270 dX1_tellDuties_213 (by decide) ?_
                          refine a_sub (sub_k (sub_k (sub_k (sub_k (sub_k (sub_k (sub_k (sub_k (sub_d sub_n))))))))) ?_
                          exact sX1_tellDuties_270 hd hk hn ih hf
                        · have hf := (if_neg c19_8).symm.trans hf
                          have hkd : AW l g d RX1 cX1_tellDuties 9 "tellDuties" MC MS' (Qr (none) r.2) k n 270 [some (.ref a0), some (.int l1), some (va_rf l2), some (.int l3), some (.int l4), some (.int l5), some (.int l6), some (.int l7), some (.int (x4 - x4 / 100 * 100))] [] S := by
                            refine a_sub (sub_k (sub_k (sub_k (sub_k (sub_k (sub_k (sub_k (sub_k (sub_d sub_n))))))))) ?_
                            exact sX1_tellDuties_270 hd hk hn ih hf
                          by_cases h19l : ((x6 / 100)).toInt < 97
                          · exact a_tableOut (pc := 62) 270 dX1_tellDuties_62 (Or.inl h19l) (by decide) hkd
                          by_cases h19h : 121 < ((x6 / 100)).toInt
                          · exact a_tableOut (pc := 62) 270 dX1_tellDuties_62 (Or.inr h19h) (by decide) hkd
                          have h19a : ((x6 / 100)).toInt = 97 ∨ ((x6 / 100)).toInt = 98 ∨ ((x6 / 100)).toInt = 99 ∨ ((x6 / 100)).toInt = 100 ∨ ((x6 / 100)).toInt = 101 ∨ ((x6 / 100)).toInt = 102 ∨ ((x6 / 100)).toInt = 103 ∨ ((x6 / 100)).toInt = 104 ∨ ((x6 / 100)).toInt = 105 ∨ ((x6 / 100)).toInt = 106 ∨ ((x6 / 100)).toInt = 107 ∨ ((x6 / 100)).toInt = 108 ∨ ((x6 / 100)).toInt = 109 ∨ ((x6 / 100)).toInt = 110 ∨ ((x6 / 100)).toInt = 111 ∨ ((x6 / 100)).toInt = 112 ∨ ((x6 / 100)).toInt = 113 ∨ ((x6 / 100)).toInt = 114 ∨ ((x6 / 100)).toInt = 115 ∨ ((x6 / 100)).toInt = 116 ∨ ((x6 / 100)).toInt = 117 ∨ ((x6 / 100)).toInt = 118 ∨ ((x6 / 100)).toInt = 119 ∨ ((x6 / 100)).toInt = 120 ∨ ((x6 / 100)).toInt = 121 := by omega
                          rcases h19a with h19a | h19a | h19a | h19a | h19a | h19a | h19a | h19a | h19a | h19a | h19a | h19a | h19a | h19a | h19a | h19a | h19a | h19a | h19a | h19a | h19a | h19a | h19a | h19a | h19a
                          · exact absurd (Int32.toInt_inj.mp (h19a.trans rfl)) c19_0
                          · exact absurd (Int32.toInt_inj.mp (h19a.trans rfl)) c19_1
                          · exact a_tableIn (pc := 62) 270 dX1_tellDuties_62 h19l h19h (by rw [h19a]; rfl) (by decide) hkd
                          · exact a_tableIn (pc := 62) 270 dX1_tellDuties_62 h19l h19h (by rw [h19a]; rfl) (by decide) hkd
                          · exact a_tableIn (pc := 62) 270 dX1_tellDuties_62 h19l h19h (by rw [h19a]; rfl) (by decide) hkd
                          · exact absurd (Int32.toInt_inj.mp (h19a.trans rfl)) c19_2
                          · exact a_tableIn (pc := 62) 270 dX1_tellDuties_62 h19l h19h (by rw [h19a]; rfl) (by decide) hkd
                          · exact a_tableIn (pc := 62) 270 dX1_tellDuties_62 h19l h19h (by rw [h19a]; rfl) (by decide) hkd
                          · exact absurd (Int32.toInt_inj.mp (h19a.trans rfl)) c19_3
                          · exact a_tableIn (pc := 62) 270 dX1_tellDuties_62 h19l h19h (by rw [h19a]; rfl) (by decide) hkd
                          · exact a_tableIn (pc := 62) 270 dX1_tellDuties_62 h19l h19h (by rw [h19a]; rfl) (by decide) hkd
                          · exact a_tableIn (pc := 62) 270 dX1_tellDuties_62 h19l h19h (by rw [h19a]; rfl) (by decide) hkd
                          · exact absurd (Int32.toInt_inj.mp (h19a.trans rfl)) c19_4
                          · exact absurd (Int32.toInt_inj.mp (h19a.trans rfl)) c19_5
                          · exact a_tableIn (pc := 62) 270 dX1_tellDuties_62 h19l h19h (by rw [h19a]; rfl) (by decide) hkd
                          · exact absurd (Int32.toInt_inj.mp (h19a.trans rfl)) c19_6
                          · exact a_tableIn (pc := 62) 270 dX1_tellDuties_62 h19l h19h (by rw [h19a]; rfl) (by decide) hkd
                          · exact a_tableIn (pc := 62) 270 dX1_tellDuties_62 h19l h19h (by rw [h19a]; rfl) (by decide) hkd
                          · exact a_tableIn (pc := 62) 270 dX1_tellDuties_62 h19l h19h (by rw [h19a]; rfl) (by decide) hkd
                          · exact a_tableIn (pc := 62) 270 dX1_tellDuties_62 h19l h19h (by rw [h19a]; rfl) (by decide) hkd
                          · exact a_tableIn (pc := 62) 270 dX1_tellDuties_62 h19l h19h (by rw [h19a]; rfl) (by decide) hkd
                          · exact a_tableIn (pc := 62) 270 dX1_tellDuties_62 h19l h19h (by rw [h19a]; rfl) (by decide) hkd
                          · exact absurd (Int32.toInt_inj.mp (h19a.trans rfl)) c19_7
                          · exact a_tableIn (pc := 62) 270 dX1_tellDuties_62 h19l h19h (by rw [h19a]; rfl) (by decide) hkd
                          · exact absurd (Int32.toInt_inj.mp (h19a.trans rfl)) c19_8
      · have hf := (if_neg c20).symm.trans hf
        refine a_goto (pc := 37) 270 dX1_tellDuties_37 (by decide) ?_
        exact sX1_tellDuties_270 hd hk hn ih hf
set_option maxHeartbeats 4000000 in
theorem sX1_tellDuties_0 {l : Launch} {g : gE} {d MC MS' k n : Nat} {a0 : Nat} (hd : 2 ≤ d) (hk : k ≤ MC) (hn : n ≤ MS') {r : Unit × AH} {S : AH} {l1 : Int32} {l2 : Option Nat} (hf : X1_tellDuties_0 S a0 l1 l2 = some r) : AW l g d RX1 cX1_tellDuties 9 "tellDuties" MC MS' (Qr (none) r.2) k n 0 [some (.ref a0), some (.int l1), some (va_rf l2), none, none, none, none, none, none] [] S := by
  unfold X1_tellDuties_0 at hf
  refine a_aload_n (pc := 0) dX1_tellDuties_0 rfl (isRv_rf _) ?_
  obtain ⟨a1, ha1, hf⟩ := Option.bind_eq_some_iff.mp hf
  rw [ha1]
  obtain ⟨r2, hr2, hf⟩ := Option.bind_eq_some_iff.mp hf
  obtain ⟨hor2, hr2⟩ := cO_of hr2
  refine g_callv (pc := 1) (mc := 0) (ms := 0) [] [] dX1_tellDuties_1 ml_X1_80 mv_X2_clear hor2 (by decide) rfl rfl (by omega) (mX2_clear (by omega) hr2) rfl (Nat.le_of_ble_eq_true rfl) hk hn ?_
  refine a_iconst (pc := 4) 0 dX1_tellDuties_4 rfl ?_
  refine a_istore_n (pc := 5) (ls' := [some (.ref a0), some (.int l1), some (.ref a1), some (.int 0), none, none, none, none, none]) dX1_tellDuties_5 (by decide) rfl ?_
  refine a_iconst (pc := 6) 0 dX1_tellDuties_6 rfl ?_
  refine a_istore (pc := 7) (ls' := [some (.ref a0), some (.int l1), some (.ref a1), some (.int 0), some (.int 0), none, none, none, none]) dX1_tellDuties_7 (by decide) rfl ?_
  refine a_iconst (pc := 9) 0 dX1_tellDuties_9 rfl ?_
  refine a_istore (pc := 10) (ls' := [some (.ref a0), some (.int l1), some (.ref a1), some (.int 0), some (.int 0), some (.int 0), none, none, none]) dX1_tellDuties_10 (by decide) rfl ?_
  refine a_iconst (pc := 12) 0 dX1_tellDuties_12 rfl ?_
  refine a_istore (pc := 13) (ls' := [some (.ref a0), some (.int l1), some (.ref a1), some (.int 0), some (.int 0), some (.int 0), some (.int 0), none, none]) dX1_tellDuties_13 (by decide) rfl ?_
  refine a_iconst (pc := 15) 0 dX1_tellDuties_15 rfl ?_
  refine a_istore (pc := 16) (ls' := [some (.ref a0), some (.int l1), some (.ref a1), some (.int 0), some (.int 0), some (.int 0), some (.int 0), some (.int 0), none]) dX1_tellDuties_16 (by decide) rfl ?_
  exact sX1_tellDuties_18 hd hk hn FU r2.2 l1 (some a1) 0 0 0 0 0 hf
set_option maxHeartbeats 4000000 in
theorem mX1_tellDuties {l : Launch} {g : gE} {d : Nat} {a0 : Nat} (hd : 2 ≤ d) {r : Unit × AH} {S : AH} {l1 : Int32} {l2 : Option Nat} (hf : X1_tellDuties S a0 l1 l2 = some r) : AM l g d yX1_tellDuties cX1_tellDuties 9 none 0 0 [.ref a0, .int l1, va_rf l2] S (Qr (none) r.2) := by
  refine AM.of rfl (by cases l2 <;> exact Nat.le_of_ble_eq_true rfl) (fun v h' q => by obtain ⟨rfl, -⟩ := q; rfl) (fun ls e => ?_)
  have e2 : aBeg [.ref a0, .int l1, va_rf l2] 9 = [some (.ref a0), some (.int l1), some (va_rf l2), none, none, none, none, none, none] := (by cases l2 <;> rfl)
  rw [e2] at e
  subst e
  refine a_sub (sub_k (sub_k (sub_k (sub_k (sub_k (sub_k (sub_k (sub_k (sub_k (sub_n)))))))))) ?_
  exact sX1_tellDuties_0 hd (Nat.le_refl _) (Nat.le_refl _) (hf)

-- PencilStrikes$Bargain.wordsOf(LPencilStrikes$Text;)[I
def X1_wordsOf_35 (rec4 : AH → Option Nat → Int32 → Int32 → Option (Option Nat × AH)) (S : AH) (s0 : Int32) (s1 : Int32) (l0 : Option Nat) (l2 : Int32) : Option (Option Nat × AH) :=
  rec4 S l0 (s0 + s1) (l2 + 1)
def X1_wordsOf_117 (rec52 : AH → Option Nat → Option Nat → Int32 → Int32 → Option (Option Nat × AH)) (S : AH) (l0 : Option Nat) (l2 : Option Nat) (l3 : Int32) (l4 : Int32) : Option (Option Nat × AH) :=
  rec52 S l0 l2 l3 (l4 + 1)
def X1_wordsOf_115 (rec52 : AH → Option Nat → Option Nat → Int32 → Int32 → Option (Option Nat × AH)) (S : AH) (s0 : Option Nat) (s1 : Int32) (s2 : Int32) (s3 : Int32) (l0 : Option Nat) (l2 : Option Nat) (l3 : Int32) (l4 : Int32) : Option (Option Nat × AH) :=
  (uA 0 S s0 s1 (s2 + s3)).bind fun S1 =>
  X1_wordsOf_117 rec52 S1 l0 l2 l3 l4
def X1_wordsOf_80 (rec52 : AH → Option Nat → Option Nat → Int32 → Int32 → Option (Option Nat × AH)) (S : AH) (l0 : Option Nat) (l2 : Option Nat) (l3 : Int32) (l4 : Int32) (l5 : Int32) : Option (Option Nat × AH) :=
  if l3 < 0 then
    X1_wordsOf_117 rec52 S l0 l2 l3 l4
  else
    (aN S l2).bind fun x1 =>
    if x1 ≤ l3 then
      X1_wordsOf_117 rec52 S l0 l2 l3 l4
    else
      (aA 0 S l2 l3).bind fun x2 =>
      (X6_isFigure S l5).bind fun r3 =>
      if r3.1 = 0 then
        X1_wordsOf_115 rec52 r3.2 l2 l3 x2 (100 * l5) l0 l2 l3 l4
      else
        X1_wordsOf_115 rec52 r3.2 l2 l3 x2 (l5 - 48) l0 l2 l3 l4
def X1_wordsOf_52 : Nat → AH → Option Nat → Option Nat → Int32 → Int32 → Option (Option Nat × AH)
  | 0, _, _, _, _, _ => none
  | fn + 1, S, l0, l2, l3, l4 =>
    (l0).bind fun a1 =>
    (cO S a1 6 (X6_size S a1)).bind fun r2 =>
    if r2.1 ≤ l4 then
      some (l2, r2.2)
    else
      (cO r2.2 a1 6 (X6_at r2.2 a1 l4)).bind fun r3 =>
      (X6_isFigure r3.2 r3.1).bind fun r4 =>
      if r4.1 = 0 then
        X1_wordsOf_80 (X1_wordsOf_52 fn) r4.2 (some a1) l2 (l3 + 1) l4 r3.1
      else
        X1_wordsOf_80 (X1_wordsOf_52 fn) r4.2 (some a1) l2 l3 l4 r3.1
def X1_wordsOf_43 (S : AH) (l0 : Option Nat) (l1 : Int32) : Option (Option Nat × AH) :=
  (nwA 0 12 S l1).bind fun zw1 => prp zw1 fun zb2 S3 =>
  X1_wordsOf_52 FU S3 l0 (some zb2) (-1) 0
def X1_wordsOf_4 : Nat → AH → Option Nat → Int32 → Int32 → Option (Option Nat × AH)
  | 0, _, _, _, _ => none
  | fn + 1, S, l0, l1, l2 =>
    (l0).bind fun a1 =>
    (cO S a1 6 (X6_size S a1)).bind fun r2 =>
    if r2.1 ≤ l2 then
      X1_wordsOf_43 r2.2 (some a1) l1
    else
      if 12 ≤ l1 then
        X1_wordsOf_43 r2.2 (some a1) l1
      else
        (cO r2.2 a1 6 (X6_at r2.2 a1 l2)).bind fun r3 =>
        (X6_isFigure r3.2 r3.1).bind fun r4 =>
        if r4.1 = 0 then
          X1_wordsOf_35 (X1_wordsOf_4 fn) r4.2 l1 1 (some a1) l2
        else
          X1_wordsOf_35 (X1_wordsOf_4 fn) r4.2 l1 0 (some a1) l2
def X1_wordsOf_0 (S : AH) (l0 : Option Nat) : Option (Option Nat × AH) :=
  X1_wordsOf_4 FU S l0 0 0
def X1_wordsOf (S : AH) (l0 : Option Nat) : Option (Option Nat × AH) := X1_wordsOf_0 S l0
set_option maxHeartbeats 4000000 in
theorem sX1_wordsOf_35 {l : Launch} {g : gE} {d MC MS' k n : Nat} (hd : 1 ≤ d) (hk : k ≤ MC) (hn : n ≤ MS') {r : Option Nat × AH} {rec4 : AH → Option Nat → Int32 → Int32 → Option (Option Nat × AH)} (hlp4 : ∀ (S : AH) (l0 : Option Nat) (l1 : Int32) (l2 : Int32), rec4 S l0 l1 l2 = some r → AW l g d RX1 cX1_wordsOf 6 "wordsOf" MC MS' (Qr (some (va_rf r.1)) r.2) k n 4 [some (va_rf l0), some (.int l1), some (.int l2), none, none, none] [] S) {S : AH} {s0 : Int32} {s1 : Int32} {l0 : Option Nat} {l2 : Int32} (hf : X1_wordsOf_35 rec4 S s0 s1 l0 l2 = some r) : AW l g d RX1 cX1_wordsOf 6 "wordsOf" MC MS' (Qr (some (va_rf r.1)) r.2) k n 35 [some (va_rf l0), none, some (.int l2), none, none, none] [.int s1, .int s0] S := by
  unfold X1_wordsOf_35 at hf
  refine a_iadd (pc := 35) dX1_wordsOf_35 ?_
  refine a_istore_n (pc := 36) (ls' := [some (va_rf l0), some (.int (s0 + s1)), some (.int l2), none, none, none]) dX1_wordsOf_36 (by decide) (aSet_ref rfl (va_rf_cat _) rfl) ?_
  refine a_iinc (pc := 37) (ls' := [some (va_rf l0), some (.int (s0 + s1)), some (.int (l2 + 1)), none, none, none]) (l2 + 1) dX1_wordsOf_37 rfl rfl (by decide) rfl ?_
  refine a_goto (pc := 40) 4 dX1_wordsOf_40 (by decide) ?_
  exact hlp4 S l0 (s0 + s1) (l2 + 1) hf
set_option maxHeartbeats 4000000 in
theorem sX1_wordsOf_117 {l : Launch} {g : gE} {d MC MS' k n : Nat} (hd : 1 ≤ d) (hk : k ≤ MC) (hn : n ≤ MS') {r : Option Nat × AH} {rec52 : AH → Option Nat → Option Nat → Int32 → Int32 → Option (Option Nat × AH)} (hlp52 : ∀ (S : AH) (l0 : Option Nat) (l2 : Option Nat) (l3 : Int32) (l4 : Int32), rec52 S l0 l2 l3 l4 = some r → AW l g d RX1 cX1_wordsOf 6 "wordsOf" MC MS' (Qr (some (va_rf r.1)) r.2) k n 52 [some (va_rf l0), none, some (va_rf l2), some (.int l3), some (.int l4), none] [] S) {S : AH} {l0 : Option Nat} {l2 : Option Nat} {l3 : Int32} {l4 : Int32} (hf : X1_wordsOf_117 rec52 S l0 l2 l3 l4 = some r) : AW l g d RX1 cX1_wordsOf 6 "wordsOf" MC MS' (Qr (some (va_rf r.1)) r.2) k n 117 [some (va_rf l0), none, some (va_rf l2), some (.int l3), some (.int l4), none] [] S := by
  unfold X1_wordsOf_117 at hf
  refine a_iinc (pc := 117) (ls' := [some (va_rf l0), none, some (va_rf l2), some (.int l3), some (.int (l4 + 1)), none]) (l4 + 1) dX1_wordsOf_117 rfl rfl (by decide) rfl ?_
  refine a_goto (pc := 120) 52 dX1_wordsOf_120 (by decide) ?_
  exact hlp52 S l0 l2 l3 (l4 + 1) hf
set_option maxHeartbeats 4000000 in
theorem sX1_wordsOf_115 {l : Launch} {g : gE} {d MC MS' k n : Nat} (hd : 1 ≤ d) (hk : k ≤ MC) (hn : n ≤ MS') {r : Option Nat × AH} {rec52 : AH → Option Nat → Option Nat → Int32 → Int32 → Option (Option Nat × AH)} (hlp52 : ∀ (S : AH) (l0 : Option Nat) (l2 : Option Nat) (l3 : Int32) (l4 : Int32), rec52 S l0 l2 l3 l4 = some r → AW l g d RX1 cX1_wordsOf 6 "wordsOf" MC MS' (Qr (some (va_rf r.1)) r.2) k n 52 [some (va_rf l0), none, some (va_rf l2), some (.int l3), some (.int l4), none] [] S) {S : AH} {s0 : Option Nat} {s1 : Int32} {s2 : Int32} {s3 : Int32} {l0 : Option Nat} {l2 : Option Nat} {l3 : Int32} {l4 : Int32} (hf : X1_wordsOf_115 rec52 S s0 s1 s2 s3 l0 l2 l3 l4 = some r) : AW l g d RX1 cX1_wordsOf 6 "wordsOf" MC MS' (Qr (some (va_rf r.1)) r.2) k n 115 [some (va_rf l0), none, some (va_rf l2), some (.int l3), some (.int l4), none] [.int s3, .int s2, .int s1, va_rf s0] S := by
  unfold X1_wordsOf_115 at hf
  refine a_iadd (pc := 115) dX1_wordsOf_115 ?_
  obtain ⟨S1, hS1, hf⟩ := Option.bind_eq_some_iff.mp hf
  refine g_iast (pc := 116) dX1_wordsOf_116 hS1 ?_
  exact sX1_wordsOf_117 hd (by omega) (by omega) hlp52 hf
set_option maxHeartbeats 4000000 in
theorem sX1_wordsOf_80 {l : Launch} {g : gE} {d MC MS' k n : Nat} (hd : 1 ≤ d) (hk : k ≤ MC) (hn : n ≤ MS') {r : Option Nat × AH} {rec52 : AH → Option Nat → Option Nat → Int32 → Int32 → Option (Option Nat × AH)} (hlp52 : ∀ (S : AH) (l0 : Option Nat) (l2 : Option Nat) (l3 : Int32) (l4 : Int32), rec52 S l0 l2 l3 l4 = some r → AW l g d RX1 cX1_wordsOf 6 "wordsOf" MC MS' (Qr (some (va_rf r.1)) r.2) k n 52 [some (va_rf l0), none, some (va_rf l2), some (.int l3), some (.int l4), none] [] S) {S : AH} {l0 : Option Nat} {l2 : Option Nat} {l3 : Int32} {l4 : Int32} {l5 : Int32} (hf : X1_wordsOf_80 rec52 S l0 l2 l3 l4 l5 = some r) : AW l g d RX1 cX1_wordsOf 6 "wordsOf" MC MS' (Qr (some (va_rf r.1)) r.2) k n 80 [some (va_rf l0), none, some (va_rf l2), some (.int l3), some (.int l4), some (.int l5)] [] S := by
  unfold X1_wordsOf_80 at hf
  refine a_iload_n (pc := 80) dX1_wordsOf_80 rfl ?_
  refine a_if_lt (pc := 81) 117 dX1_wordsOf_81 (by decide) (fun c6 => ?_) (fun c6 => ?_)
  · have hf := (if_pos c6).symm.trans hf
    refine a_sub (sub_k (sub_k (sub_k (sub_k (sub_k (sub_d sub_n)))))) ?_
    exact sX1_wordsOf_117 hd (by omega) (by omega) hlp52 hf
  · have hf := (if_neg c6).symm.trans hf
    refine a_iload_n (pc := 84) dX1_wordsOf_84 rfl ?_
    refine a_aload_n (pc := 85) dX1_wordsOf_85 rfl (isRv_rf _) ?_
    obtain ⟨x1, hx1, hf⟩ := Option.bind_eq_some_iff.mp hf
    refine g_alen (pc := 86) dX1_wordsOf_86 hx1 ?_
    refine a_icmp_ge (pc := 87) 117 dX1_wordsOf_87 (by decide) (fun c5 => ?_) (fun c5 => ?_)
    · have hf := (if_pos c5).symm.trans hf
      refine a_sub (sub_k (sub_k (sub_k (sub_k (sub_k (sub_d sub_n)))))) ?_
      exact sX1_wordsOf_117 hd (by omega) (by omega) hlp52 hf
    · have hf := (if_neg c5).symm.trans hf
      refine a_aload_n (pc := 90) dX1_wordsOf_90 rfl (isRv_rf _) ?_
      refine a_iload_n (pc := 91) dX1_wordsOf_91 rfl ?_
      refine a_dup2 (pc := 92) dX1_wordsOf_92 rfl (va_rf_cat _) ?_
      obtain ⟨x2, hx2, hf⟩ := Option.bind_eq_some_iff.mp hf
      refine g_iald (pc := 93) dX1_wordsOf_93 hx2 ?_
      refine a_iload (pc := 94) dX1_wordsOf_94 rfl ?_
      obtain ⟨r3, hr3, hf⟩ := Option.bind_eq_some_iff.mp hf
      refine g_calls (pc := 96) (mc := 0) (ms := 0) (.int r3.1) [.int l5] [.int x2, .int l3, va_rf l2] dX1_wordsOf_96 ml_X1_61 ms_X6_isFigure rfl (by omega) (mX6_isFigure (by omega) hr3) rfl (by cases l2 <;> exact Nat.le_of_ble_eq_true rfl) (by omega) (by omega) ?_
      refine a_if_eq (pc := 99) 110 dX1_wordsOf_99 (by decide) (fun c4 => ?_) (fun c4 => ?_)
      · have hf := (if_pos c4).symm.trans hf
        refine a_bipush (pc := 110) 100 dX1_wordsOf_110 rfl ?_
        refine a_iload (pc := 112) dX1_wordsOf_112 rfl ?_
        refine a_imul (pc := 114) dX1_wordsOf_114 ?_
        refine a_sub (sub_k (sub_k (sub_k (sub_k (sub_k (sub_d sub_n)))))) ?_
        exact sX1_wordsOf_115 hd (by omega) (by omega) hlp52 hf
      · have hf := (if_neg c4).symm.trans hf
        refine a_iload (pc := 102) dX1_wordsOf_102 rfl ?_
        refine a_bipush (pc := 104) 48 dX1_wordsOf_104 rfl ?_
        refine a_isub (pc := 106) dX1_wordsOf_106 ?_
        refine a_goto (pc := 107) 115 dX1_wordsOf_107 (by decide) ?_
        refine a_sub (sub_k (sub_k (sub_k (sub_k (sub_k (sub_d sub_n)))))) ?_
        exact sX1_wordsOf_115 hd (by omega) (by omega) hlp52 hf
set_option maxHeartbeats 4000000 in
theorem sX1_wordsOf_52 {l : Launch} {g : gE} {d MC MS' k n : Nat} (hd : 1 ≤ d) (hk : k ≤ MC) (hn : n ≤ MS') {r : Option Nat × AH} : ∀ (fn : Nat) (S : AH) (l0 : Option Nat) (l2 : Option Nat) (l3 : Int32) (l4 : Int32), X1_wordsOf_52 fn S l0 l2 l3 l4 = some r → AW l g d RX1 cX1_wordsOf 6 "wordsOf" MC MS' (Qr (some (va_rf r.1)) r.2) k n 52 [some (va_rf l0), none, some (va_rf l2), some (.int l3), some (.int l4), none] [] S := by
  intro fn
  induction fn with
  | zero =>
    intro S l0 l2 l3 l4 hf
    rw [X1_wordsOf_52] at hf
    cases hf
  | succ fn ih =>
    intro S l0 l2 l3 l4 hf
    rw [X1_wordsOf_52] at hf
    refine a_iload (pc := 52) dX1_wordsOf_52 rfl ?_
    refine a_aload_n (pc := 54) dX1_wordsOf_54 rfl (isRv_rf _) ?_
    obtain ⟨a1, ha1, hf⟩ := Option.bind_eq_some_iff.mp hf
    rw [ha1]
    obtain ⟨r2, hr2, hf⟩ := Option.bind_eq_some_iff.mp hf
    obtain ⟨hor2, hr2⟩ := cO_of hr2
    refine g_call (pc := 55) (mc := 0) (ms := 0) (.int r2.1) [] [.int l4] dX1_wordsOf_55 ml_X1_64 mv_X6_size hor2 (by decide) rfl rfl (by omega) (mX6_size (by omega) hr2) rfl (Nat.le_of_ble_eq_true rfl) (by omega) (by omega) ?_
    refine a_icmp_ge (pc := 58) 123 dX1_wordsOf_58 (by decide) (fun c6 => ?_) (fun c6 => ?_)
    · have hf := (if_pos c6).symm.trans hf
      refine a_aload_n (pc := 123) dX1_wordsOf_123 rfl (isRv_rf _) ?_
      have hf := Option.some.inj hf
      subst hf
      exact a_areturnR (pc := 124) dX1_wordsOf_124 (by omega) (by omega) ⟨rfl, rfl⟩
    · have hf := (if_neg c6).symm.trans hf
      refine a_aload_n (pc := 61) dX1_wordsOf_61 rfl (isRv_r _) ?_
      refine a_iload (pc := 62) dX1_wordsOf_62 rfl ?_
      obtain ⟨r3, hr3, hf⟩ := Option.bind_eq_some_iff.mp hf
      obtain ⟨hor3, hr3⟩ := cO_of hr3
      refine g_call (pc := 64) (mc := 0) (ms := 0) (.int r3.1) [.int l4] [] dX1_wordsOf_64 ml_X1_49 mv_X6_at hor3 (by decide) rfl rfl (by omega) (mX6_at (by omega) hr3) rfl (Nat.le_of_ble_eq_true rfl) (by omega) (by omega) ?_
      refine a_istore (pc := 67) (ls' := [some (.ref a1), none, some (va_rf l2), some (.int l3), some (.int l4), some (.int (r3.1))]) dX1_wordsOf_67 (by decide) rfl ?_
      refine a_iload (pc := 69) dX1_wordsOf_69 rfl ?_
      obtain ⟨r4, hr4, hf⟩ := Option.bind_eq_some_iff.mp hf
      refine g_calls (pc := 71) (mc := 0) (ms := 0) (.int r4.1) [.int (r3.1)] [] dX1_wordsOf_71 ml_X1_61 ms_X6_isFigure rfl (by omega) (mX6_isFigure (by omega) hr4) rfl (Nat.le_of_ble_eq_true rfl) (by omega) (by omega) ?_
      refine a_if_ne (pc := 74) 80 dX1_wordsOf_74 (by decide) (fun c5 => ?_) (fun c5 => ?_)
      · have hf := (if_neg c5).symm.trans hf
        exact sX1_wordsOf_80 hd (by omega) (by omega) ih hf
      · have hf := (if_pos c5).symm.trans hf
        refine a_iinc (pc := 77) (ls' := [some (.ref a1), none, some (va_rf l2), some (.int (l3 + 1)), some (.int l4), some (.int (r3.1))]) (l3 + 1) dX1_wordsOf_77 rfl rfl (by decide) (aSet_ref rfl (va_rf_cat _) rfl) ?_
        exact sX1_wordsOf_80 hd (by omega) (by omega) ih hf
set_option maxHeartbeats 4000000 in
theorem sX1_wordsOf_43 {l : Launch} {g : gE} {d MC MS' k n : Nat} (hd : 1 ≤ d) (hk : k + 1 ≤ MC) (hn : n + 12 ≤ MS') {r : Option Nat × AH} {S : AH} {l0 : Option Nat} {l1 : Int32} (hf : X1_wordsOf_43 S l0 l1 = some r) : AW l g d RX1 cX1_wordsOf 6 "wordsOf" MC MS' (Qr (some (va_rf r.1)) r.2) k n 43 [some (va_rf l0), some (.int l1), none, none, none, none] [] S := by
  unfold X1_wordsOf_43 at hf
  refine a_iload_n (pc := 43) dX1_wordsOf_43 rfl ?_
  obtain ⟨zw1, hzw1, hf⟩ := Option.bind_eq_some_iff.mp hf
  obtain ⟨zb2, S3⟩ := zw1
  have hf := (prp_of _ _ _).symm.trans hf
  refine g_newI (pc := 44) (B := 12) dX1_wordsOf_44 (by decide) hzw1 (by omega) (by omega) ?_
  refine a_astore_n (pc := 46) (ls' := [some (va_rf l0), some (.int l1), some (.ref zb2), none, none, none]) dX1_wordsOf_46 (by decide) (isRv_r _) rfl ?_
  refine a_iconst (pc := 47) (-1) dX1_wordsOf_47 rfl ?_
  refine a_istore_n (pc := 48) (ls' := [some (va_rf l0), some (.int l1), some (.ref zb2), some (.int (-1)), none, none]) dX1_wordsOf_48 (by decide) rfl ?_
  refine a_iconst (pc := 49) 0 dX1_wordsOf_49 rfl ?_
  refine a_istore (pc := 50) (ls' := [some (va_rf l0), some (.int l1), some (.ref zb2), some (.int (-1)), some (.int 0), none]) dX1_wordsOf_50 (by decide) rfl ?_
  refine a_sub (sub_k (sub_d (sub_k (sub_k (sub_k (sub_k sub_n)))))) ?_
  exact sX1_wordsOf_52 hd (by omega) (by omega) FU S3 l0 (some zb2) (-1) 0 hf
set_option maxHeartbeats 4000000 in
theorem sX1_wordsOf_4 {l : Launch} {g : gE} {d MC MS' k n : Nat} (hd : 1 ≤ d) (hk : k + 1 ≤ MC) (hn : n + 12 ≤ MS') {r : Option Nat × AH} : ∀ (fn : Nat) (S : AH) (l0 : Option Nat) (l1 : Int32) (l2 : Int32), X1_wordsOf_4 fn S l0 l1 l2 = some r → AW l g d RX1 cX1_wordsOf 6 "wordsOf" MC MS' (Qr (some (va_rf r.1)) r.2) k n 4 [some (va_rf l0), some (.int l1), some (.int l2), none, none, none] [] S := by
  intro fn
  induction fn with
  | zero =>
    intro S l0 l1 l2 hf
    rw [X1_wordsOf_4] at hf
    cases hf
  | succ fn ih =>
    intro S l0 l1 l2 hf
    rw [X1_wordsOf_4] at hf
    refine a_iload_n (pc := 4) dX1_wordsOf_4 rfl ?_
    refine a_aload_n (pc := 5) dX1_wordsOf_5 rfl (isRv_rf _) ?_
    obtain ⟨a1, ha1, hf⟩ := Option.bind_eq_some_iff.mp hf
    rw [ha1]
    obtain ⟨r2, hr2, hf⟩ := Option.bind_eq_some_iff.mp hf
    obtain ⟨hor2, hr2⟩ := cO_of hr2
    refine g_call (pc := 6) (mc := 0) (ms := 0) (.int r2.1) [] [.int l2] dX1_wordsOf_6 ml_X1_64 mv_X6_size hor2 (by decide) rfl rfl (by omega) (mX6_size (by omega) hr2) rfl (Nat.le_of_ble_eq_true rfl) (by omega) (by omega) ?_
    refine a_icmp_ge (pc := 9) 43 dX1_wordsOf_9 (by decide) (fun c7 => ?_) (fun c7 => ?_)
    · have hf := (if_pos c7).symm.trans hf
      refine a_sub (sub_k (sub_k (sub_d (sub_k (sub_k (sub_k sub_n)))))) ?_
      exact sX1_wordsOf_43 hd (by omega) (by omega) hf
    · have hf := (if_neg c7).symm.trans hf
      refine a_iload_n (pc := 12) dX1_wordsOf_12 rfl ?_
      refine a_bipush (pc := 13) 12 dX1_wordsOf_13 rfl ?_
      refine a_icmp_ge (pc := 15) 43 dX1_wordsOf_15 (by decide) (fun c6 => ?_) (fun c6 => ?_)
      · have hf := (if_pos c6).symm.trans hf
        refine a_sub (sub_k (sub_k (sub_d (sub_k (sub_k (sub_k sub_n)))))) ?_
        exact sX1_wordsOf_43 hd (by omega) (by omega) hf
      · have hf := (if_neg c6).symm.trans hf
        refine a_iload_n (pc := 18) dX1_wordsOf_18 rfl ?_
        refine a_aload_n (pc := 19) dX1_wordsOf_19 rfl (isRv_r _) ?_
        refine a_iload_n (pc := 20) dX1_wordsOf_20 rfl ?_
        obtain ⟨r3, hr3, hf⟩ := Option.bind_eq_some_iff.mp hf
        obtain ⟨hor3, hr3⟩ := cO_of hr3
        refine g_call (pc := 21) (mc := 0) (ms := 0) (.int r3.1) [.int l2] [.int l1] dX1_wordsOf_21 ml_X1_49 mv_X6_at hor3 (by decide) rfl rfl (by omega) (mX6_at (by omega) hr3) rfl (Nat.le_of_ble_eq_true rfl) (by omega) (by omega) ?_
        obtain ⟨r4, hr4, hf⟩ := Option.bind_eq_some_iff.mp hf
        refine g_calls (pc := 24) (mc := 0) (ms := 0) (.int r4.1) [.int (r3.1)] [.int l1] dX1_wordsOf_24 ml_X1_61 ms_X6_isFigure rfl (by omega) (mX6_isFigure (by omega) hr4) rfl (Nat.le_of_ble_eq_true rfl) (by omega) (by omega) ?_
        refine a_if_eq (pc := 27) 34 dX1_wordsOf_27 (by decide) (fun c5 => ?_) (fun c5 => ?_)
        · have hf := (if_pos c5).symm.trans hf
          refine a_iconst (pc := 34) 1 dX1_wordsOf_34 rfl ?_
          refine a_sub (sub_k (sub_d (sub_k (sub_k (sub_k (sub_k sub_n)))))) ?_
          exact sX1_wordsOf_35 hd (by omega) (by omega) ih hf
        · have hf := (if_neg c5).symm.trans hf
          refine a_iconst (pc := 30) 0 dX1_wordsOf_30 rfl ?_
          refine a_goto (pc := 31) 35 dX1_wordsOf_31 (by decide) ?_
          refine a_sub (sub_k (sub_d (sub_k (sub_k (sub_k (sub_k sub_n)))))) ?_
          exact sX1_wordsOf_35 hd (by omega) (by omega) ih hf
set_option maxHeartbeats 4000000 in
theorem sX1_wordsOf_0 {l : Launch} {g : gE} {d MC MS' k n : Nat} (hd : 1 ≤ d) (hk : k + 1 ≤ MC) (hn : n + 12 ≤ MS') {r : Option Nat × AH} {S : AH} {l0 : Option Nat} (hf : X1_wordsOf_0 S l0 = some r) : AW l g d RX1 cX1_wordsOf 6 "wordsOf" MC MS' (Qr (some (va_rf r.1)) r.2) k n 0 [some (va_rf l0), none, none, none, none, none] [] S := by
  unfold X1_wordsOf_0 at hf
  refine a_iconst (pc := 0) 0 dX1_wordsOf_0 rfl ?_
  refine a_istore_n (pc := 1) (ls' := [some (va_rf l0), some (.int 0), none, none, none, none]) dX1_wordsOf_1 (by decide) (aSet_ref rfl (va_rf_cat _) rfl) ?_
  refine a_iconst (pc := 2) 0 dX1_wordsOf_2 rfl ?_
  refine a_istore_n (pc := 3) (ls' := [some (va_rf l0), some (.int 0), some (.int 0), none, none, none]) dX1_wordsOf_3 (by decide) rfl ?_
  exact sX1_wordsOf_4 hd (by omega) (by omega) FU S l0 0 0 hf
set_option maxHeartbeats 4000000 in
theorem mX1_wordsOf {l : Launch} {g : gE} {d : Nat} (hd : 1 ≤ d) {r : Option Nat × AH} {S : AH} {l0 : Option Nat} (hf : X1_wordsOf S l0 = some r) : AM l g d yX1_wordsOf cX1_wordsOf 6 (some (.array .int)) 1 12 [va_rf l0] S (Qr (some (va_rf r.1)) r.2) := by
  refine AM.of rfl (by cases l0 <;> exact Nat.le_of_ble_eq_true rfl) (fun v h' q => by obtain ⟨rfl, -⟩ := q; exact aRet_rf _ (Or.inr ⟨_, rfl⟩)) (fun ls e => ?_)
  have e2 : aBeg [va_rf l0] 6 = [some (va_rf l0), none, none, none, none, none] := (by cases l0 <;> rfl)
  rw [e2] at e
  subst e
  refine a_sub (sub_k (sub_k (sub_k (sub_k (sub_k (sub_k (sub_n))))))) ?_
  exact sX1_wordsOf_0 hd (by omega) (by omega) (hf)

-- PencilStrikes$Bargain.<init>(LPencilStrikes$Text;)V
def X1_init_62 (S : AH) (a0 : Nat) : Option (Unit × AH) :=
  some ((), S)
def X1_init_0 (S : AH) (a0 : Nat) (l1 : Option Nat) : Option (Unit × AH) :=
  (X2_init (nwO 2 S) (List.length S)).bind fun r1 =>
  (sQ r1.2 a0 1 3 (some (List.length S))).bind fun S2 =>
  (X1_wordsOf S2 l1).bind fun r3 => prp r3 fun zq4 zq4S =>
  (sQ zq4S a0 1 0 zq4).bind fun S5 =>
  (gQ S5 a0 1 0).bind fun x6 =>
  (X1_statesOf S5 x6).bind fun r7 => prp r7 fun zq8 zq8S =>
  (sQ zq8S a0 1 1 zq8).bind fun S9 =>
  (gQ S9 a0 1 1).bind fun x10 =>
  (X1_readingsOf S9 x10).bind fun r11 => prp r11 fun zq12 zq12S =>
  (sQ zq12S a0 1 2 zq12).bind fun S13 =>
  (cO S13 a0 1 (X1_isReadable S13 a0 0)).bind fun r14 =>
  if r14.1 = 0 then
    X1_init_62 r14.2 a0
  else
    (gQ r14.2 a0 1 3).bind fun x15 =>
    (cO r14.2 a0 1 (X1_tellDuties r14.2 a0 0 x15)).bind fun r16 =>
    X1_init_62 r16.2 a0
def X1_init (S : AH) (a0 : Nat) (l1 : Option Nat) : Option (Unit × AH) := X1_init_0 S a0 l1
set_option maxRecDepth 100000 in
set_option maxHeartbeats 4000000 in
theorem sX1_init_62 {l : Launch} {g : gE} {d MC MS' k n : Nat} {a0 : Nat} (hd : 3 ≤ d) (hk : k ≤ MC) (hn : n ≤ MS') {r : Unit × AH} {S : AH} (hf : X1_init_62 S a0 = some r) : AW l g d RX1 cX1_init 2 "<init>" MC MS' (Qr (none) r.2) k n 62 [none, none] [] S := by
  unfold X1_init_62 at hf
  have hf := Option.some.inj hf
  subst hf
  exact a_return (pc := 62) dX1_init_62 (by omega) (by omega) ⟨rfl, rfl⟩
set_option maxRecDepth 100000 in
set_option maxHeartbeats 4000000 in
theorem sX1_init_0 {l : Launch} {g : gE} {d MC MS' k n : Nat} {a0 : Nat} (hd : 3 ≤ d) (hk : k + 5 ≤ MC) (hn : n + 8218 ≤ MS') {r : Unit × AH} {S : AH} {l1 : Option Nat} (hf : X1_init_0 S a0 l1 = some r) : AW l g d RX1 cX1_init 2 "<init>" MC MS' (Qr (none) r.2) k n 0 [some (.ref a0), some (va_rf l1)] [] S := by
  unfold X1_init_0 at hf
  refine a_aload_n (pc := 0) dX1_init_0 rfl (isRv_r _) ?_
  refine a_objInit (pc := 1) dX1_init_1 ml_X1_3 (Nat.le_of_ble_eq_true rfl) ?_
  refine a_aload_n (pc := 4) dX1_init_4 rfl (isRv_r _) ?_
  refine g_new (pc := 5) (ci := 2) dX1_init_5 nw_X1_9 (by decide) (by omega) (by show _ + 2 ≤ _; omega) ?_
  rw [show kC 2 = 2 from rfl]
  refine a_dup (pc := 8) dX1_init_8 rfl ?_
  obtain ⟨r1, hr1, hf⟩ := Option.bind_eq_some_iff.mp hf
  refine g_calliN (pc := 9) (mc := 1) (ms := 12) [] [.ref (List.length S), .ref a0] dX1_init_9 mn_X1_11 mi_X2_init rfl (by omega) (mX2_init (by omega) hr1) rfl (Nat.le_of_ble_eq_true rfl) (by omega) (by omega) ?_
  obtain ⟨S2, hS2, hf⟩ := Option.bind_eq_some_iff.mp hf
  refine g_putQF (pc := 12) dX1_init_12 fl_X1_12 rfl rfl rfl (Or.inl ⟨_, rfl⟩) hS2 ?_
  refine a_aload_n (pc := 15) dX1_init_15 rfl (isRv_r _) ?_
  refine a_aload_n (pc := 16) dX1_init_16 rfl (isRv_rf _) ?_
  obtain ⟨r3, hr3, hf⟩ := Option.bind_eq_some_iff.mp hf
  obtain ⟨zq4, zq4S⟩ := r3
  have hf := (prp_of _ _ _).symm.trans hf
  refine g_calls (pc := 17) (mc := 1) (ms := 12) (va_rf zq4) [va_rf l1] [.ref a0] dX1_init_17 ml_X1_18 ms_X1_wordsOf rfl (by omega) (mX1_wordsOf (by omega) hr3) rfl (Nat.le_of_ble_eq_true rfl) (by omega) (by omega) ?_
  obtain ⟨S5, hS5, hf⟩ := Option.bind_eq_some_iff.mp hf
  refine g_putQF (pc := 20) dX1_init_20 fl_X1_22 rfl rfl rfl (Or.inr ⟨_, rfl⟩) hS5 ?_
  refine a_aload_n (pc := 23) dX1_init_23 rfl (isRv_r _) ?_
  refine a_aload_n (pc := 24) dX1_init_24 rfl (isRv_r _) ?_
  obtain ⟨x6, hx6, hf⟩ := Option.bind_eq_some_iff.mp hf
  refine g_getQ (pc := 25) dX1_init_25 fl_X1_22 hx6 ?_
  obtain ⟨r7, hr7, hf⟩ := Option.bind_eq_some_iff.mp hf
  obtain ⟨zq8, zq8S⟩ := r7
  have hf := (prp_of _ _ _).symm.trans hf
  refine g_calls (pc := 28) (mc := 1) (ms := 4096) (va_rf zq8) [va_rf x6] [.ref a0] dX1_init_28 ml_X1_26 ms_X1_statesOf rfl (by omega) (mX1_statesOf (by omega) hr7) rfl (Nat.le_of_ble_eq_true rfl) (by omega) (by omega) ?_
  obtain ⟨S9, hS9, hf⟩ := Option.bind_eq_some_iff.mp hf
  refine g_putQF (pc := 31) dX1_init_31 fl_X1_30 rfl rfl rfl (Or.inr ⟨_, rfl⟩) hS9 ?_
  refine a_aload_n (pc := 34) dX1_init_34 rfl (isRv_r _) ?_
  refine a_aload_n (pc := 35) dX1_init_35 rfl (isRv_r _) ?_
  obtain ⟨x10, hx10, hf⟩ := Option.bind_eq_some_iff.mp hf
  refine g_getQ (pc := 36) dX1_init_36 fl_X1_30 hx10 ?_
  obtain ⟨r11, hr11, hf⟩ := Option.bind_eq_some_iff.mp hf
  obtain ⟨zq12, zq12S⟩ := r11
  have hf := (prp_of _ _ _).symm.trans hf
  refine g_calls (pc := 39) (mc := 1) (ms := 4096) (va_rf zq12) [va_rf x10] [.ref a0] dX1_init_39 ml_X1_34 ms_X1_readingsOf rfl (by omega) (mX1_readingsOf (by omega) hr11) rfl (Nat.le_of_ble_eq_true rfl) (by omega) (by omega) ?_
  obtain ⟨S13, hS13, hf⟩ := Option.bind_eq_some_iff.mp hf
  refine g_putQF (pc := 42) dX1_init_42 fl_X1_38 rfl rfl rfl (Or.inr ⟨_, rfl⟩) hS13 ?_
  refine a_aload_n (pc := 45) dX1_init_45 rfl (isRv_r _) ?_
  refine a_iconst (pc := 46) 0 dX1_init_46 rfl ?_
  obtain ⟨r14, hr14, hf⟩ := Option.bind_eq_some_iff.mp hf
  obtain ⟨hor14, hr14⟩ := cO_of hr14
  refine g_call (pc := 47) (mc := 0) (ms := 0) (.int r14.1) [.int 0] [] dX1_init_47 ml_X1_41 mv_X1_isReadable hor14 (by decide) rfl rfl (by omega) (mX1_isReadable (by omega) hr14) rfl (Nat.le_of_ble_eq_true rfl) (by omega) (by omega) ?_
  refine a_if_eq (pc := 50) 62 dX1_init_50 (by decide) (fun c17 => ?_) (fun c17 => ?_)
  · have hf := (if_pos c17).symm.trans hf
    refine a_sub (sub_d (sub_d sub_n)) ?_
    exact sX1_init_62 hd (by omega) (by omega) hf
  · have hf := (if_neg c17).symm.trans hf
    refine a_aload_n (pc := 53) dX1_init_53 rfl (isRv_r _) ?_
    refine a_iconst (pc := 54) 0 dX1_init_54 rfl ?_
    refine a_aload_n (pc := 55) dX1_init_55 rfl (isRv_r _) ?_
    obtain ⟨x15, hx15, hf⟩ := Option.bind_eq_some_iff.mp hf
    refine g_getQ (pc := 56) dX1_init_56 fl_X1_12 hx15 ?_
    obtain ⟨r16, hr16, hf⟩ := Option.bind_eq_some_iff.mp hf
    obtain ⟨hor16, hr16⟩ := cO_of hr16
    refine g_callv (pc := 59) (mc := 0) (ms := 0) [.int 0, va_rf x15] [] dX1_init_59 ml_X1_45 mv_X1_tellDuties hor16 (by decide) rfl rfl (by omega) (mX1_tellDuties (by omega) hr16) rfl (Nat.le_of_ble_eq_true rfl) (by omega) (by omega) ?_
    refine a_sub (sub_d (sub_d sub_n)) ?_
    exact sX1_init_62 hd (by omega) (by omega) hf
set_option maxRecDepth 100000 in
set_option maxHeartbeats 4000000 in
theorem mX1_init {l : Launch} {g : gE} {d : Nat} {a0 : Nat} (hd : 3 ≤ d) {r : Unit × AH} {S : AH} {l1 : Option Nat} (hf : X1_init S a0 l1 = some r) : AM l g d yX1_init cX1_init 2 none 5 8218 [.ref a0, va_rf l1] S (Qr (none) r.2) := by
  refine AM.of rfl (by cases l1 <;> exact Nat.le_of_ble_eq_true rfl) (fun v h' q => by obtain ⟨rfl, -⟩ := q; rfl) (fun ls e => ?_)
  have e2 : aBeg [.ref a0, va_rf l1] 2 = [some (.ref a0), some (va_rf l1)] := (by cases l1 <;> rfl)
  rw [e2] at e
  subst e
  refine a_sub (sub_k (sub_k (sub_n))) ?_
  exact sX1_init_0 hd (by omega) (by omega) (hf)

-- PencilStrikes.addBargain()I
def X7_addBargain_45 (S : AH) (a0 : Nat) (l1 : Int32) : Option (Int32 × AH) :=
  some (l1, S)
def X7_addBargain_0 (S : AH) (a0 : Nat) : Option (Int32 × AH) :=
  (gI S a0 7 8).bind fun x1 =>
  if x1 < 0 then
    X7_addBargain_45 S a0 x1
  else
    (gQ S a0 7 2).bind fun x2 =>
    (aN S x2).bind fun x3 =>
    if x3 ≤ x1 then
      X7_addBargain_45 S a0 x1
    else
      (gQ S a0 7 2).bind fun x4 =>
      (gQ (nwO 1 S) a0 7 0).bind fun x5 =>
      (X1_init (nwO 1 S) (List.length S) x5).bind fun r6 =>
      (uQ 4 1 r6.2 x4 x1 (List.length S)).bind fun S7 =>
      (gI S7 a0 7 8).bind fun x8 =>
      (sI S7 a0 7 8 (x8 + 1)).bind fun S9 =>
      X7_addBargain_45 S9 a0 x1
def X7_addBargain (S : AH) (a0 : Nat) : Option (Int32 × AH) := X7_addBargain_0 S a0
set_option maxRecDepth 100000 in
set_option maxHeartbeats 4000000 in
theorem sX7_addBargain_45 {l : Launch} {g : gE} {d MC MS' k n : Nat} {a0 : Nat} (hd : 4 ≤ d) (hk : k ≤ MC) (hn : n ≤ MS') {r : Int32 × AH} {S : AH} {l1 : Int32} (hf : X7_addBargain_45 S a0 l1 = some r) : AW l g d RX7 cX7_addBargain 2 "addBargain" MC MS' (Qr (some (.int r.1)) r.2) k n 45 [none, some (.int l1)] [] S := by
  unfold X7_addBargain_45 at hf
  refine a_iload_n (pc := 45) dX7_addBargain_45 rfl ?_
  have hf := Option.some.inj hf
  subst hf
  exact a_ireturn (pc := 46) dX7_addBargain_46 (by omega) (by omega) ⟨rfl, rfl⟩
set_option maxRecDepth 100000 in
set_option maxHeartbeats 4000000 in
theorem sX7_addBargain_0 {l : Launch} {g : gE} {d MC MS' k n : Nat} {a0 : Nat} (hd : 4 ≤ d) (hk : k + 6 ≤ MC) (hn : n + 8222 ≤ MS') {r : Int32 × AH} {S : AH} (hf : X7_addBargain_0 S a0 = some r) : AW l g d RX7 cX7_addBargain 2 "addBargain" MC MS' (Qr (some (.int r.1)) r.2) k n 0 [some (.ref a0), none] [] S := by
  unfold X7_addBargain_0 at hf
  refine a_aload_n (pc := 0) dX7_addBargain_0 rfl (isRv_r _) ?_
  obtain ⟨x1, hx1, hf⟩ := Option.bind_eq_some_iff.mp hf
  refine g_getI (pc := 1) dX7_addBargain_1 fl_X7_70 hx1 ?_
  refine a_istore_n (pc := 4) (ls' := [some (.ref a0), some (.int x1)]) dX7_addBargain_4 (by decide) rfl ?_
  refine a_iload_n (pc := 5) dX7_addBargain_5 rfl ?_
  refine a_if_lt (pc := 6) 45 dX7_addBargain_6 (by decide) (fun c11 => ?_) (fun c11 => ?_)
  · have hf := (if_pos c11).symm.trans hf
    refine a_sub (sub_d (sub_k sub_n)) ?_
    exact sX7_addBargain_45 hd (by omega) (by omega) hf
  · have hf := (if_neg c11).symm.trans hf
    refine a_iload_n (pc := 9) dX7_addBargain_9 rfl ?_
    refine a_aload_n (pc := 10) dX7_addBargain_10 rfl (isRv_r _) ?_
    obtain ⟨x2, hx2, hf⟩ := Option.bind_eq_some_iff.mp hf
    refine g_getQ (pc := 11) dX7_addBargain_11 fl_X7_27 hx2 ?_
    obtain ⟨x3, hx3, hf⟩ := Option.bind_eq_some_iff.mp hf
    refine g_alen (pc := 14) dX7_addBargain_14 hx3 ?_
    refine a_icmp_ge (pc := 15) 45 dX7_addBargain_15 (by decide) (fun c10 => ?_) (fun c10 => ?_)
    · have hf := (if_pos c10).symm.trans hf
      refine a_sub (sub_d (sub_k sub_n)) ?_
      exact sX7_addBargain_45 hd (by omega) (by omega) hf
    · have hf := (if_neg c10).symm.trans hf
      refine a_aload_n (pc := 18) dX7_addBargain_18 rfl (isRv_r _) ?_
      obtain ⟨x4, hx4, hf⟩ := Option.bind_eq_some_iff.mp hf
      refine g_getQ (pc := 19) dX7_addBargain_19 fl_X7_27 hx4 ?_
      refine a_iload_n (pc := 22) dX7_addBargain_22 rfl ?_
      refine g_new (pc := 23) (ci := 1) dX7_addBargain_23 nw_X7_25 (by decide) (by omega) (by show _ + 4 ≤ _; omega) ?_
      rw [show kC 1 = 4 from rfl]
      refine a_dup (pc := 26) dX7_addBargain_26 rfl ?_
      refine a_aload_n (pc := 27) dX7_addBargain_27 rfl (isRv_r _) ?_
      obtain ⟨x5, hx5, hf⟩ := Option.bind_eq_some_iff.mp hf
      refine g_getQ (pc := 28) dX7_addBargain_28 fl_X7_12 hx5 ?_
      obtain ⟨r6, hr6, hf⟩ := Option.bind_eq_some_iff.mp hf
      refine g_calli (pc := 31) (mc := 5) (ms := 8218) [va_rf x5] [.ref (List.length S), .int x1, va_rf x4] dX7_addBargain_31 ml_X7_217 mi_X1_init rfl (by omega) (mX1_init (by omega) hr6) rfl (by cases x4 <;> exact Nat.le_of_ble_eq_true rfl) (by omega) (by omega) ?_
      obtain ⟨S7, hS7, hf⟩ := Option.bind_eq_some_iff.mp hf
      refine g_qast (pc := 34) 4 1 dX7_addBargain_34 (by decide) (by decide) rfl hS7 ?_
      refine a_aload_n (pc := 35) dX7_addBargain_35 rfl (isRv_r _) ?_
      refine a_dup (pc := 36) dX7_addBargain_36 rfl ?_
      obtain ⟨x8, hx8, hf⟩ := Option.bind_eq_some_iff.mp hf
      refine g_getI (pc := 37) dX7_addBargain_37 fl_X7_70 hx8 ?_
      refine a_iconst (pc := 40) 1 dX7_addBargain_40 rfl ?_
      refine a_iadd (pc := 41) dX7_addBargain_41 ?_
      obtain ⟨S9, hS9, hf⟩ := Option.bind_eq_some_iff.mp hf
      refine g_putI (pc := 42) dX7_addBargain_42 fl_X7_70 rfl rfl hS9 ?_
      refine a_sub (sub_d (sub_k sub_n)) ?_
      exact sX7_addBargain_45 hd (by omega) (by omega) hf
set_option maxRecDepth 100000 in
set_option maxHeartbeats 4000000 in
theorem mX7_addBargain {l : Launch} {g : gE} {d : Nat} {a0 : Nat} (hd : 4 ≤ d) {r : Int32 × AH} {S : AH} (hf : X7_addBargain S a0 = some r) : AM l g d yX7_addBargain cX7_addBargain 2 (some .int) 6 8222 [.ref a0] S (Qr (some (.int r.1)) r.2) := by
  refine AM.of rfl (by exact Nat.le_of_ble_eq_true rfl) (fun v h' q => by obtain ⟨rfl, -⟩ := q; exact ⟨_, rfl, rfl⟩) (fun ls e => ?_)
  have e2 : aBeg [.ref a0] 2 = [some (.ref a0), none] := rfl
  rw [e2] at e
  subst e
  refine a_sub (sub_k (sub_k (sub_n))) ?_
  exact sX7_addBargain_0 hd (by omega) (by omega) (hf)

-- PencilStrikes$Law.<init>([IZZI)V
def X3_init_0 (S : AH) (a0 : Nat) (l1 : Option Nat) (l2 : Int32) (l3 : Int32) (l4 : Int32) : Option (Unit × AH) :=
  (sQ S a0 3 0 l1).bind fun S1 =>
  (sZ S1 a0 3 1 l2).bind fun S2 =>
  (sZ S2 a0 3 2 l3).bind fun S3 =>
  (sI S3 a0 3 3 l4).bind fun S4 =>
  some ((), S4)
def X3_init (S : AH) (a0 : Nat) (l1 : Option Nat) (l2 : Int32) (l3 : Int32) (l4 : Int32) : Option (Unit × AH) := X3_init_0 S a0 l1 l2 l3 l4
set_option maxHeartbeats 4000000 in
theorem sX3_init_0 {l : Launch} {g : gE} {d MC MS' k n : Nat} {a0 : Nat} (hd : 0 ≤ d) (hk : k ≤ MC) (hn : n ≤ MS') {r : Unit × AH} {S : AH} {l1 : Option Nat} {l2 : Int32} {l3 : Int32} {l4 : Int32} (hf : X3_init_0 S a0 l1 l2 l3 l4 = some r) : AW l g d RX3 cX3_init 5 "<init>" MC MS' (Qr (none) r.2) k n 0 [some (.ref a0), some (va_rf l1), some (.int l2), some (.int l3), some (.int l4)] [] S := by
  unfold X3_init_0 at hf
  refine a_aload_n (pc := 0) dX3_init_0 rfl (isRv_r _) ?_
  refine a_objInit (pc := 1) dX3_init_1 ml_X3_1 (Nat.le_of_ble_eq_true rfl) ?_
  refine a_aload_n (pc := 4) dX3_init_4 rfl (isRv_r _) ?_
  refine a_aload_n (pc := 5) dX3_init_5 rfl (isRv_rf _) ?_
  obtain ⟨S1, hS1, hf⟩ := Option.bind_eq_some_iff.mp hf
  refine g_putQF (pc := 6) dX3_init_6 fl_X3_7 rfl rfl rfl (Or.inr ⟨_, rfl⟩) hS1 ?_
  refine a_aload_n (pc := 9) dX3_init_9 rfl (isRv_r _) ?_
  refine a_iload_n (pc := 10) dX3_init_10 rfl ?_
  obtain ⟨S2, hS2, hf⟩ := Option.bind_eq_some_iff.mp hf
  refine g_putZF (pc := 11) dX3_init_11 fl_X3_13 rfl rfl rfl rfl hS2 ?_
  refine a_aload_n (pc := 14) dX3_init_14 rfl (isRv_r _) ?_
  refine a_iload_n (pc := 15) dX3_init_15 rfl ?_
  obtain ⟨S3, hS3, hf⟩ := Option.bind_eq_some_iff.mp hf
  refine g_putZF (pc := 16) dX3_init_16 fl_X3_17 rfl rfl rfl rfl hS3 ?_
  refine a_aload_n (pc := 19) dX3_init_19 rfl (isRv_r _) ?_
  refine a_iload (pc := 20) dX3_init_20 rfl ?_
  obtain ⟨S4, hS4, hf⟩ := Option.bind_eq_some_iff.mp hf
  refine g_putIF (pc := 22) dX3_init_22 fl_X3_20 rfl rfl rfl rfl hS4 ?_
  have hf := Option.some.inj hf
  subst hf
  exact a_return (pc := 25) dX3_init_25 hk hn ⟨rfl, rfl⟩
set_option maxHeartbeats 4000000 in
theorem mX3_init {l : Launch} {g : gE} {d : Nat} {a0 : Nat} (hd : 0 ≤ d) {r : Unit × AH} {S : AH} {l1 : Option Nat} {l2 : Int32} {l3 : Int32} {l4 : Int32} (hf : X3_init S a0 l1 l2 l3 l4 = some r) : AM l g d yX3_init cX3_init 5 none 0 0 [.ref a0, va_rf l1, .int l2, .int l3, .int l4] S (Qr (none) r.2) := by
  refine AM.of rfl (by cases l1 <;> exact Nat.le_of_ble_eq_true rfl) (fun v h' q => by obtain ⟨rfl, -⟩ := q; rfl) (fun ls e => ?_)
  have e2 : aBeg [.ref a0, va_rf l1, .int l2, .int l3, .int l4] 5 = [some (.ref a0), some (va_rf l1), some (.int l2), some (.int l3), some (.int l4)] := (by cases l1 <;> rfl)
  rw [e2] at e
  subst e
  refine a_sub (sub_k (sub_k (sub_k (sub_k (sub_k (sub_n)))))) ?_
  exact sX3_init_0 hd (Nat.le_refl _) (Nat.le_refl _) (hf)

-- PencilStrikes$LawReader.lawRead()LPencilStrikes$Law;
def X4_lawRead_0 (S : AH) (a0 : Nat) : Option (Option Nat × AH) :=
  (gI S a0 4 3).bind fun x1 =>
  (gQ S a0 4 1).bind fun x2 =>
  (aN S x2).bind fun x3 =>
  (nwA 0 100 S (if 0 < (if x3 < x1 then x3 else x1) then (if x3 < x1 then x3 else x1) else 0)).bind fun zw6 => prp zw6 fun zb7 S8 =>
  (gQ S8 a0 4 1).bind fun x9 =>
  (aN S8 (some zb7)).bind fun x10 =>
  (cpI S8 x9 0 (some zb7) 0 x10).bind fun S11 =>
  (gI (nwO 3 S11) a0 4 7).bind fun x12 =>
  (gI (nwO 3 S11) a0 4 8).bind fun x13 =>
  (gI (nwO 3 S11) a0 4 9).bind fun x14 =>
  (X3_init (nwO 3 S11) (List.length S11) (some zb7) x12 x13 x14).bind fun r15 =>
  some ((some (List.length S11)), r15.2)
def X4_lawRead (S : AH) (a0 : Nat) : Option (Option Nat × AH) := X4_lawRead_0 S a0
set_option maxHeartbeats 4000000 in
theorem sX4_lawRead_0 {l : Launch} {g : gE} {d MC MS' k n : Nat} {a0 : Nat} (hd : 1 ≤ d) (hk : k + 2 ≤ MC) (hn : n + 104 ≤ MS') {r : Option Nat × AH} {S : AH} (hf : X4_lawRead_0 S a0 = some r) : AW l g d RX4 cX4_lawRead 2 "lawRead" MC MS' (Qr (some (va_rf r.1)) r.2) k n 0 [some (.ref a0), none] [] S := by
  unfold X4_lawRead_0 at hf
  refine a_iconst (pc := 0) 0 dX4_lawRead_0 rfl ?_
  refine a_aload_n (pc := 1) dX4_lawRead_1 rfl (isRv_r _) ?_
  obtain ⟨x1, hx1, hf⟩ := Option.bind_eq_some_iff.mp hf
  refine g_getI (pc := 2) dX4_lawRead_2 fl_X4_31 hx1 ?_
  refine a_aload_n (pc := 5) dX4_lawRead_5 rfl (isRv_r _) ?_
  obtain ⟨x2, hx2, hf⟩ := Option.bind_eq_some_iff.mp hf
  refine g_getQ (pc := 6) dX4_lawRead_6 fl_X4_15 hx2 ?_
  obtain ⟨x3, hx3, hf⟩ := Option.bind_eq_some_iff.mp hf
  refine g_alen (pc := 9) dX4_lawRead_9 hx3 ?_
  refine a_mmin (pc := 10) dX4_lawRead_10 ml_X4_61 (Nat.le_of_ble_eq_true rfl) (by omega) (by omega) ?_
  refine a_mmax (pc := 13) dX4_lawRead_13 ml_X4_67 (Nat.le_of_ble_eq_true rfl) (by omega) (by omega) ?_
  obtain ⟨zw6, hzw6, hf⟩ := Option.bind_eq_some_iff.mp hf
  obtain ⟨zb7, S8⟩ := zw6
  have hf := (prp_of _ _ _).symm.trans hf
  refine g_newI (pc := 16) (B := 100) dX4_lawRead_16 (by decide) hzw6 (by omega) (by omega) ?_
  refine a_astore_n (pc := 18) (ls' := [some (.ref a0), some (.ref zb7)]) dX4_lawRead_18 (by decide) (isRv_r _) rfl ?_
  refine a_aload_n (pc := 19) dX4_lawRead_19 rfl (isRv_r _) ?_
  obtain ⟨x9, hx9, hf⟩ := Option.bind_eq_some_iff.mp hf
  refine g_getQ (pc := 20) dX4_lawRead_20 fl_X4_15 hx9 ?_
  refine a_iconst (pc := 23) 0 dX4_lawRead_23 rfl ?_
  refine a_aload_n (pc := 24) dX4_lawRead_24 rfl (isRv_r _) ?_
  refine a_iconst (pc := 25) 0 dX4_lawRead_25 rfl ?_
  refine a_aload_n (pc := 26) dX4_lawRead_26 rfl (isRv_r _) ?_
  obtain ⟨x10, hx10, hf⟩ := Option.bind_eq_some_iff.mp hf
  refine g_alen (pc := 27) dX4_lawRead_27 hx10 ?_
  obtain ⟨S11, hS11, hf⟩ := Option.bind_eq_some_iff.mp hf
  refine g_copyi (pc := 28) dX4_lawRead_28 ml_X4_70 (by omega) (by decide) hS11 ?_
  refine g_new (pc := 31) (ci := 3) dX4_lawRead_31 nw_X4_44 (by decide) (by omega) (by show _ + 4 ≤ _; omega) ?_
  rw [show kC 3 = 4 from rfl]
  refine a_dup (pc := 34) dX4_lawRead_34 rfl ?_
  refine a_aload_n (pc := 35) dX4_lawRead_35 rfl (isRv_r _) ?_
  refine a_aload_n (pc := 36) dX4_lawRead_36 rfl (isRv_r _) ?_
  obtain ⟨x12, hx12, hf⟩ := Option.bind_eq_some_iff.mp hf
  refine g_getI (pc := 37) dX4_lawRead_37 fl_X4_37 hx12 ?_
  refine a_aload_n (pc := 40) dX4_lawRead_40 rfl (isRv_r _) ?_
  obtain ⟨x13, hx13, hf⟩ := Option.bind_eq_some_iff.mp hf
  refine g_getI (pc := 41) dX4_lawRead_41 fl_X4_41 hx13 ?_
  refine a_aload_n (pc := 44) dX4_lawRead_44 rfl (isRv_r _) ?_
  obtain ⟨x14, hx14, hf⟩ := Option.bind_eq_some_iff.mp hf
  refine g_getI (pc := 45) dX4_lawRead_45 fl_X4_46 hx14 ?_
  obtain ⟨r15, hr15, hf⟩ := Option.bind_eq_some_iff.mp hf
  refine g_calli (pc := 48) (mc := 0) (ms := 0) [.ref zb7, .int x12, .int x13, .int x14] [.ref (List.length S11)] dX4_lawRead_48 ml_X4_76 mi_X3_init rfl (by omega) (mX3_init (by omega) hr15) rfl (Nat.le_of_ble_eq_true rfl) (by omega) (by omega) ?_
  have hf := Option.some.inj hf
  subst hf
  exact a_areturn (pc := 51) dX4_lawRead_51 (by omega) (by omega) ⟨rfl, rfl⟩
set_option maxHeartbeats 4000000 in
theorem mX4_lawRead {l : Launch} {g : gE} {d : Nat} {a0 : Nat} (hd : 1 ≤ d) {r : Option Nat × AH} {S : AH} (hf : X4_lawRead S a0 = some r) : AM l g d yX4_lawRead cX4_lawRead 2 (some (.object "PencilStrikes$Law")) 2 104 [.ref a0] S (Qr (some (va_rf r.1)) r.2) := by
  refine AM.of rfl (by exact Nat.le_of_ble_eq_true rfl) (fun v h' q => by obtain ⟨rfl, -⟩ := q; exact aRet_rf _ (Or.inl ⟨_, rfl⟩)) (fun ls e => ?_)
  have e2 : aBeg [.ref a0] 2 = [some (.ref a0), none] := rfl
  rw [e2] at e
  subst e
  refine a_sub (sub_k (sub_k (sub_n))) ?_
  exact sX4_lawRead_0 hd (by omega) (by omega) (hf)

-- PencilStrikes.addLaw()I
def X7_addLaw_41 (S : AH) (a0 : Nat) (l1 : Int32) : Option (Int32 × AH) :=
  some (l1, S)
def X7_addLaw_0 (S : AH) (a0 : Nat) : Option (Int32 × AH) :=
  (gI S a0 7 9).bind fun x1 =>
  if x1 < 0 then
    X7_addLaw_41 S a0 x1
  else
    (gQ S a0 7 3).bind fun x2 =>
    (aN S x2).bind fun x3 =>
    if x3 ≤ x1 then
      X7_addLaw_41 S a0 x1
    else
      (gQ S a0 7 3).bind fun x4 =>
      (gQ S a0 7 1).bind fun x5 =>
      (x5).bind fun a6 =>
      (cO S a6 4 (X4_lawRead S a6)).bind fun r7 => prp r7 fun zq8 zq8S =>
      (zq8).bind fun a10 =>
      (uQ 5 3 zq8S x4 x1 a10).bind fun S9 =>
      (gI S9 a0 7 9).bind fun x11 =>
      (sI S9 a0 7 9 (x11 + 1)).bind fun S12 =>
      X7_addLaw_41 S12 a0 x1
def X7_addLaw (S : AH) (a0 : Nat) : Option (Int32 × AH) := X7_addLaw_0 S a0
set_option maxHeartbeats 4000000 in
theorem sX7_addLaw_41 {l : Launch} {g : gE} {d MC MS' k n : Nat} {a0 : Nat} (hd : 2 ≤ d) (hk : k ≤ MC) (hn : n ≤ MS') {r : Int32 × AH} {S : AH} {l1 : Int32} (hf : X7_addLaw_41 S a0 l1 = some r) : AW l g d RX7 cX7_addLaw 2 "addLaw" MC MS' (Qr (some (.int r.1)) r.2) k n 41 [none, some (.int l1)] [] S := by
  unfold X7_addLaw_41 at hf
  refine a_iload_n (pc := 41) dX7_addLaw_41 rfl ?_
  have hf := Option.some.inj hf
  subst hf
  exact a_ireturn (pc := 42) dX7_addLaw_42 (by omega) (by omega) ⟨rfl, rfl⟩
set_option maxHeartbeats 4000000 in
theorem sX7_addLaw_0 {l : Launch} {g : gE} {d MC MS' k n : Nat} {a0 : Nat} (hd : 2 ≤ d) (hk : k + 2 ≤ MC) (hn : n + 104 ≤ MS') {r : Int32 × AH} {S : AH} (hf : X7_addLaw_0 S a0 = some r) : AW l g d RX7 cX7_addLaw 2 "addLaw" MC MS' (Qr (some (.int r.1)) r.2) k n 0 [some (.ref a0), none] [] S := by
  unfold X7_addLaw_0 at hf
  refine a_aload_n (pc := 0) dX7_addLaw_0 rfl (isRv_r _) ?_
  obtain ⟨x1, hx1, hf⟩ := Option.bind_eq_some_iff.mp hf
  refine g_getI (pc := 1) dX7_addLaw_1 fl_X7_74 hx1 ?_
  refine a_istore_n (pc := 4) (ls' := [some (.ref a0), some (.int x1)]) dX7_addLaw_4 (by decide) rfl ?_
  refine a_iload_n (pc := 5) dX7_addLaw_5 rfl ?_
  refine a_if_lt (pc := 6) 41 dX7_addLaw_6 (by decide) (fun c14 => ?_) (fun c14 => ?_)
  · have hf := (if_pos c14).symm.trans hf
    refine a_sub (sub_d (sub_k sub_n)) ?_
    exact sX7_addLaw_41 hd (by omega) (by omega) hf
  · have hf := (if_neg c14).symm.trans hf
    refine a_iload_n (pc := 9) dX7_addLaw_9 rfl ?_
    refine a_aload_n (pc := 10) dX7_addLaw_10 rfl (isRv_r _) ?_
    obtain ⟨x2, hx2, hf⟩ := Option.bind_eq_some_iff.mp hf
    refine g_getQ (pc := 11) dX7_addLaw_11 fl_X7_33 hx2 ?_
    obtain ⟨x3, hx3, hf⟩ := Option.bind_eq_some_iff.mp hf
    refine g_alen (pc := 14) dX7_addLaw_14 hx3 ?_
    refine a_icmp_ge (pc := 15) 41 dX7_addLaw_15 (by decide) (fun c13 => ?_) (fun c13 => ?_)
    · have hf := (if_pos c13).symm.trans hf
      refine a_sub (sub_d (sub_k sub_n)) ?_
      exact sX7_addLaw_41 hd (by omega) (by omega) hf
    · have hf := (if_neg c13).symm.trans hf
      refine a_aload_n (pc := 18) dX7_addLaw_18 rfl (isRv_r _) ?_
      obtain ⟨x4, hx4, hf⟩ := Option.bind_eq_some_iff.mp hf
      refine g_getQ (pc := 19) dX7_addLaw_19 fl_X7_33 hx4 ?_
      refine a_iload_n (pc := 22) dX7_addLaw_22 rfl ?_
      refine a_aload_n (pc := 23) dX7_addLaw_23 rfl (isRv_r _) ?_
      obtain ⟨x5, hx5, hf⟩ := Option.bind_eq_some_iff.mp hf
      refine g_getQ (pc := 24) dX7_addLaw_24 fl_X7_21 hx5 ?_
      obtain ⟨a6, ha6, hf⟩ := Option.bind_eq_some_iff.mp hf
      rw [ha6]
      obtain ⟨r7, hr7, hf⟩ := Option.bind_eq_some_iff.mp hf
      obtain ⟨zq8, zq8S⟩ := r7
      have hf := (prp_of _ _ _).symm.trans hf
      obtain ⟨hor7, hr7⟩ := cO_of hr7
      refine g_call (pc := 27) (mc := 2) (ms := 104) (va_rf zq8) [] [.int x1, va_rf x4] dX7_addLaw_27 ml_X7_220 mv_X4_lawRead hor7 (by decide) rfl rfl (by omega) (mX4_lawRead (by omega) hr7) rfl (by cases x4 <;> exact Nat.le_of_ble_eq_true rfl) (by omega) (by omega) ?_
      obtain ⟨a10, ha10, hf⟩ := Option.bind_eq_some_iff.mp hf
      rw [ha10]
      obtain ⟨S9, hS9, hf⟩ := Option.bind_eq_some_iff.mp hf
      refine g_qast (pc := 30) 5 3 dX7_addLaw_30 (by decide) (by decide) rfl hS9 ?_
      refine a_aload_n (pc := 31) dX7_addLaw_31 rfl (isRv_r _) ?_
      refine a_dup (pc := 32) dX7_addLaw_32 rfl ?_
      obtain ⟨x11, hx11, hf⟩ := Option.bind_eq_some_iff.mp hf
      refine g_getI (pc := 33) dX7_addLaw_33 fl_X7_74 hx11 ?_
      refine a_iconst (pc := 36) 1 dX7_addLaw_36 rfl ?_
      refine a_iadd (pc := 37) dX7_addLaw_37 ?_
      obtain ⟨S12, hS12, hf⟩ := Option.bind_eq_some_iff.mp hf
      refine g_putI (pc := 38) dX7_addLaw_38 fl_X7_74 rfl rfl hS12 ?_
      refine a_sub (sub_d (sub_k sub_n)) ?_
      exact sX7_addLaw_41 hd (by omega) (by omega) hf
set_option maxHeartbeats 4000000 in
theorem mX7_addLaw {l : Launch} {g : gE} {d : Nat} {a0 : Nat} (hd : 2 ≤ d) {r : Int32 × AH} {S : AH} (hf : X7_addLaw S a0 = some r) : AM l g d yX7_addLaw cX7_addLaw 2 (some .int) 2 104 [.ref a0] S (Qr (some (.int r.1)) r.2) := by
  refine AM.of rfl (by exact Nat.le_of_ble_eq_true rfl) (fun v h' q => by obtain ⟨rfl, -⟩ := q; exact ⟨_, rfl, rfl⟩) (fun ls e => ?_)
  have e2 : aBeg [.ref a0] 2 = [some (.ref a0), none] := rfl
  rw [e2] at e
  subst e
  refine a_sub (sub_k (sub_k (sub_n))) ?_
  exact sX7_addLaw_0 hd (by omega) (by omega) (hf)

-- PencilStrikes.text(I)I
def X7_text_42 (S : AH) (a0 : Nat) : Option (Int32 × AH) :=
  some ((-4), S)
def X7_text_96 (S : AH) (a0 : Nat) (l3 : Int32) : Option (Int32 × AH) :=
  (gQ S a0 7 0).bind fun x1 =>
  (x1).bind fun a2 =>
  (cO S a2 6 (X6_clear S a2)).bind fun r3 =>
  some (l3, r3.2)
def X7_text_95 (S : AH) (a0 : Nat) (s0 : Int32) : Option (Int32 × AH) :=
  X7_text_96 S a0 s0
def X7_text_70 (S : AH) (a0 : Nat) (s0 : Int32) (l1 : Int32) : Option (Int32 × AH) :=
  if 0 ≤ s0 then
    X7_text_96 S a0 ((-10) - s0)
  else
    if l1 = 0 then
      (cO S a0 7 (X7_addBargain S a0)).bind fun r2 =>
      X7_text_95 r2.2 a0 r2.1
    else
      (cO S a0 7 (X7_addLaw S a0)).bind fun r1 =>
      X7_text_95 r1.2 a0 r1.1
def X7_text_45 (S : AH) (a0 : Nat) (l1 : Int32) : Option (Int32 × AH) :=
  if l1 = 0 then
    (gQ S a0 7 0).bind fun x5 =>
    (X1_faultOf S x5).bind fun r6 =>
    X7_text_70 r6.2 a0 r6.1 l1
  else
    (gQ S a0 7 1).bind fun x1 =>
    (gQ S a0 7 0).bind fun x2 =>
    (x1).bind fun a3 =>
    (cO S a3 4 (X4_faultOf S a3 x2)).bind fun r4 =>
    X7_text_70 r4.2 a0 r4.1 l1
def X7_text_11 (S : AH) (a0 : Nat) (l1 : Int32) : Option (Int32 × AH) :=
  if l1 = 0 then
    (gI S a0 7 8).bind fun x5 =>
    (gQ S a0 7 2).bind fun x6 =>
    (aN S x6).bind fun x7 =>
    if x5 < x7 then
      X7_text_45 S a0 l1
    else
      X7_text_42 S a0
  else
    (gI S a0 7 9).bind fun x1 =>
    (gQ S a0 7 3).bind fun x2 =>
    (aN S x2).bind fun x3 =>
    if x1 < x3 then
      X7_text_45 S a0 l1
    else
      X7_text_42 S a0
def X7_text_0 (S : AH) (a0 : Nat) (l1 : Int32) : Option (Int32 × AH) :=
  if l1 = 0 then
    X7_text_11 S a0 l1
  else
    if l1 = 1 then
      X7_text_11 S a0 l1
    else
      some ((-1), S)
def X7_text (S : AH) (a0 : Nat) (l1 : Int32) : Option (Int32 × AH) := X7_text_0 S a0 l1
set_option maxRecDepth 100000 in
set_option maxHeartbeats 4000000 in
theorem sX7_text_42 {l : Launch} {g : gE} {d MC MS' k n : Nat} {a0 : Nat} (hd : 43 ≤ d) (hk : k ≤ MC) (hn : n ≤ MS') {r : Int32 × AH} {S : AH} (hf : X7_text_42 S a0 = some r) : AW l g d RX7 cX7_text 4 "text" MC MS' (Qr (some (.int r.1)) r.2) k n 42 [none, none, none, none] [] S := by
  unfold X7_text_42 at hf
  refine a_bipush (pc := 42) (-4) dX7_text_42 rfl ?_
  have hf := Option.some.inj hf
  subst hf
  exact a_ireturn (pc := 44) dX7_text_44 (by omega) (by omega) ⟨rfl, rfl⟩
set_option maxRecDepth 100000 in
set_option maxHeartbeats 4000000 in
theorem sX7_text_96 {l : Launch} {g : gE} {d MC MS' k n : Nat} {a0 : Nat} (hd : 43 ≤ d) (hk : k ≤ MC) (hn : n ≤ MS') {r : Int32 × AH} {S : AH} {l3 : Int32} (hf : X7_text_96 S a0 l3 = some r) : AW l g d RX7 cX7_text 4 "text" MC MS' (Qr (some (.int r.1)) r.2) k n 96 [some (.ref a0), none, none, some (.int l3)] [] S := by
  unfold X7_text_96 at hf
  refine a_aload_n (pc := 96) dX7_text_96 rfl (isRv_r _) ?_
  obtain ⟨x1, hx1, hf⟩ := Option.bind_eq_some_iff.mp hf
  refine g_getQ (pc := 97) dX7_text_97 fl_X7_12 hx1 ?_
  obtain ⟨a2, ha2, hf⟩ := Option.bind_eq_some_iff.mp hf
  rw [ha2]
  obtain ⟨r3, hr3, hf⟩ := Option.bind_eq_some_iff.mp hf
  obtain ⟨hor3, hr3⟩ := cO_of hr3
  refine g_callv (pc := 100) (mc := 0) (ms := 0) [] [] dX7_text_100 ml_X7_88 mv_X6_clear hor3 (by decide) rfl rfl (by omega) (mX6_clear (by omega) hr3) rfl (Nat.le_of_ble_eq_true rfl) (by omega) (by omega) ?_
  refine a_iload_n (pc := 103) dX7_text_103 rfl ?_
  have hf := Option.some.inj hf
  subst hf
  exact a_ireturn (pc := 104) dX7_text_104 (by omega) (by omega) ⟨rfl, rfl⟩
set_option maxRecDepth 100000 in
set_option maxHeartbeats 4000000 in
theorem sX7_text_95 {l : Launch} {g : gE} {d MC MS' k n : Nat} {a0 : Nat} (hd : 43 ≤ d) (hk : k ≤ MC) (hn : n ≤ MS') {r : Int32 × AH} {S : AH} {s0 : Int32} (hf : X7_text_95 S a0 s0 = some r) : AW l g d RX7 cX7_text 4 "text" MC MS' (Qr (some (.int r.1)) r.2) k n 95 [some (.ref a0), none, none, none] [.int s0] S := by
  unfold X7_text_95 at hf
  refine a_istore_n (pc := 95) (ls' := [some (.ref a0), none, none, some (.int s0)]) dX7_text_95 (by decide) rfl ?_
  exact sX7_text_96 hd (by omega) (by omega) hf
set_option maxRecDepth 100000 in
set_option maxHeartbeats 4000000 in
theorem sX7_text_70 {l : Launch} {g : gE} {d MC MS' k n : Nat} {a0 : Nat} (hd : 43 ≤ d) (hk : k + 6 ≤ MC) (hn : n + 8222 ≤ MS') {r : Int32 × AH} {S : AH} {s0 : Int32} {l1 : Int32} (hf : X7_text_70 S a0 s0 l1 = some r) : AW l g d RX7 cX7_text 4 "text" MC MS' (Qr (some (.int r.1)) r.2) k n 70 [some (.ref a0), some (.int l1), none, none] [.int s0] S := by
  unfold X7_text_70 at hf
  refine a_istore_n (pc := 70) (ls' := [some (.ref a0), some (.int l1), some (.int s0), none]) dX7_text_70 (by decide) rfl ?_
  refine a_bipush (pc := 71) (-10) dX7_text_71 rfl ?_
  refine a_iload_n (pc := 73) dX7_text_73 rfl ?_
  refine a_isub (pc := 74) dX7_text_74 ?_
  refine a_istore_n (pc := 75) (ls' := [some (.ref a0), some (.int l1), some (.int s0), some (.int ((-10) - s0))]) dX7_text_75 (by decide) rfl ?_
  refine a_iload_n (pc := 76) dX7_text_76 rfl ?_
  refine a_if_ge (pc := 77) 96 dX7_text_77 (by decide) (fun c4 => ?_) (fun c4 => ?_)
  · have hf := (if_pos c4).symm.trans hf
    refine a_sub (sub_k (sub_d (sub_d (sub_k sub_n)))) ?_
    exact sX7_text_96 hd (by omega) (by omega) hf
  · have hf := (if_neg c4).symm.trans hf
    refine a_iload_n (pc := 80) dX7_text_80 rfl ?_
    refine a_if_ne (pc := 81) 91 dX7_text_81 (by decide) (fun c3 => ?_) (fun c3 => ?_)
    · have hf := (if_neg c3).symm.trans hf
      refine a_aload_n (pc := 91) dX7_text_91 rfl (isRv_r _) ?_
      obtain ⟨r1, hr1, hf⟩ := Option.bind_eq_some_iff.mp hf
      obtain ⟨hor1, hr1⟩ := cO_of hr1
      refine g_call (pc := 92) (mc := 2) (ms := 104) (.int r1.1) [] [] dX7_text_92 ml_X7_85 mv_X7_addLaw hor1 (by decide) rfl rfl (by omega) (mX7_addLaw (by omega) hr1) rfl (Nat.le_of_ble_eq_true rfl) (by omega) (by omega) ?_
      refine a_sub (sub_k (sub_d (sub_d (sub_d sub_n)))) ?_
      exact sX7_text_95 hd (by omega) (by omega) hf
    · have hf := (if_pos c3).symm.trans hf
      refine a_aload_n (pc := 84) dX7_text_84 rfl (isRv_r _) ?_
      obtain ⟨r2, hr2, hf⟩ := Option.bind_eq_some_iff.mp hf
      obtain ⟨hor2, hr2⟩ := cO_of hr2
      refine g_call (pc := 85) (mc := 6) (ms := 8222) (.int r2.1) [] [] dX7_text_85 ml_X7_82 mv_X7_addBargain hor2 (by decide) rfl rfl (by omega) (mX7_addBargain (by omega) hr2) rfl (Nat.le_of_ble_eq_true rfl) (by omega) (by omega) ?_
      refine a_goto (pc := 88) 95 dX7_text_88 (by decide) ?_
      refine a_sub (sub_k (sub_d (sub_d (sub_d sub_n)))) ?_
      exact sX7_text_95 hd (by omega) (by omega) hf
set_option maxRecDepth 100000 in
set_option maxHeartbeats 4000000 in
theorem sX7_text_45 {l : Launch} {g : gE} {d MC MS' k n : Nat} {a0 : Nat} (hd : 43 ≤ d) (hk : k + 6 ≤ MC) (hn : n + 8222 ≤ MS') {r : Int32 × AH} {S : AH} {l1 : Int32} (hf : X7_text_45 S a0 l1 = some r) : AW l g d RX7 cX7_text 4 "text" MC MS' (Qr (some (.int r.1)) r.2) k n 45 [some (.ref a0), some (.int l1), none, none] [] S := by
  unfold X7_text_45 at hf
  refine a_iload_n (pc := 45) dX7_text_45 rfl ?_
  refine a_if_ne (pc := 46) 59 dX7_text_46 (by decide) (fun c7 => ?_) (fun c7 => ?_)
  · have hf := (if_neg c7).symm.trans hf
    refine a_aload_n (pc := 59) dX7_text_59 rfl (isRv_r _) ?_
    obtain ⟨x1, hx1, hf⟩ := Option.bind_eq_some_iff.mp hf
    refine g_getQ (pc := 60) dX7_text_60 fl_X7_21 hx1 ?_
    refine a_aload_n (pc := 63) dX7_text_63 rfl (isRv_r _) ?_
    obtain ⟨x2, hx2, hf⟩ := Option.bind_eq_some_iff.mp hf
    refine g_getQ (pc := 64) dX7_text_64 fl_X7_12 hx2 ?_
    obtain ⟨a3, ha3, hf⟩ := Option.bind_eq_some_iff.mp hf
    rw [ha3]
    obtain ⟨r4, hr4, hf⟩ := Option.bind_eq_some_iff.mp hf
    obtain ⟨hor4, hr4⟩ := cO_of hr4
    refine g_call (pc := 67) (mc := 0) (ms := 0) (.int r4.1) [va_rf x2] [] dX7_text_67 ml_X7_81 mv_X4_faultOf hor4 (by decide) rfl rfl (by omega) (mX4_faultOf (by omega) hr4) rfl (Nat.le_of_ble_eq_true rfl) (by omega) (by omega) ?_
    exact sX7_text_70 hd (by omega) (by omega) hf
  · have hf := (if_pos c7).symm.trans hf
    refine a_aload_n (pc := 49) dX7_text_49 rfl (isRv_r _) ?_
    obtain ⟨x5, hx5, hf⟩ := Option.bind_eq_some_iff.mp hf
    refine g_getQ (pc := 50) dX7_text_50 fl_X7_12 hx5 ?_
    obtain ⟨r6, hr6, hf⟩ := Option.bind_eq_some_iff.mp hf
    refine g_calls (pc := 53) (mc := 0) (ms := 0) (.int r6.1) [va_rf x5] [] dX7_text_53 ml_X7_77 ms_X1_faultOf rfl (by omega) (mX1_faultOf (by omega) hr6) rfl (Nat.le_of_ble_eq_true rfl) (by omega) (by omega) ?_
    refine a_goto (pc := 56) 70 dX7_text_56 (by decide) ?_
    exact sX7_text_70 hd (by omega) (by omega) hf
set_option maxRecDepth 100000 in
set_option maxHeartbeats 4000000 in
theorem sX7_text_11 {l : Launch} {g : gE} {d MC MS' k n : Nat} {a0 : Nat} (hd : 43 ≤ d) (hk : k + 6 ≤ MC) (hn : n + 8222 ≤ MS') {r : Int32 × AH} {S : AH} {l1 : Int32} (hf : X7_text_11 S a0 l1 = some r) : AW l g d RX7 cX7_text 4 "text" MC MS' (Qr (some (.int r.1)) r.2) k n 11 [some (.ref a0), some (.int l1), none, none] [] S := by
  unfold X7_text_11 at hf
  refine a_iload_n (pc := 11) dX7_text_11 rfl ?_
  refine a_if_ne (pc := 12) 30 dX7_text_12 (by decide) (fun c9 => ?_) (fun c9 => ?_)
  · have hf := (if_neg c9).symm.trans hf
    refine a_aload_n (pc := 30) dX7_text_30 rfl (isRv_r _) ?_
    obtain ⟨x1, hx1, hf⟩ := Option.bind_eq_some_iff.mp hf
    refine g_getI (pc := 31) dX7_text_31 fl_X7_74 hx1 ?_
    refine a_aload_n (pc := 34) dX7_text_34 rfl (isRv_r _) ?_
    obtain ⟨x2, hx2, hf⟩ := Option.bind_eq_some_iff.mp hf
    refine g_getQ (pc := 35) dX7_text_35 fl_X7_33 hx2 ?_
    obtain ⟨x3, hx3, hf⟩ := Option.bind_eq_some_iff.mp hf
    refine g_alen (pc := 38) dX7_text_38 hx3 ?_
    refine a_icmp_lt (pc := 39) 45 dX7_text_39 (by decide) (fun c4 => ?_) (fun c4 => ?_)
    · have hf := (if_pos c4).symm.trans hf
      exact sX7_text_45 hd (by omega) (by omega) hf
    · have hf := (if_neg c4).symm.trans hf
      refine a_sub (sub_d (sub_d (sub_k (sub_k sub_n)))) ?_
      exact sX7_text_42 hd (by omega) (by omega) hf
  · have hf := (if_pos c9).symm.trans hf
    refine a_aload_n (pc := 15) dX7_text_15 rfl (isRv_r _) ?_
    obtain ⟨x5, hx5, hf⟩ := Option.bind_eq_some_iff.mp hf
    refine g_getI (pc := 16) dX7_text_16 fl_X7_70 hx5 ?_
    refine a_aload_n (pc := 19) dX7_text_19 rfl (isRv_r _) ?_
    obtain ⟨x6, hx6, hf⟩ := Option.bind_eq_some_iff.mp hf
    refine g_getQ (pc := 20) dX7_text_20 fl_X7_27 hx6 ?_
    obtain ⟨x7, hx7, hf⟩ := Option.bind_eq_some_iff.mp hf
    refine g_alen (pc := 23) dX7_text_23 hx7 ?_
    refine a_icmp_lt (pc := 24) 45 dX7_text_24 (by decide) (fun c8 => ?_) (fun c8 => ?_)
    · have hf := (if_pos c8).symm.trans hf
      exact sX7_text_45 hd (by omega) (by omega) hf
    · have hf := (if_neg c8).symm.trans hf
      refine a_goto (pc := 27) 42 dX7_text_27 (by decide) ?_
      refine a_sub (sub_d (sub_d (sub_k (sub_k sub_n)))) ?_
      exact sX7_text_42 hd (by omega) (by omega) hf
set_option maxRecDepth 100000 in
set_option maxHeartbeats 4000000 in
theorem sX7_text_0 {l : Launch} {g : gE} {d MC MS' k n : Nat} {a0 : Nat} (hd : 43 ≤ d) (hk : k + 6 ≤ MC) (hn : n + 8222 ≤ MS') {r : Int32 × AH} {S : AH} {l1 : Int32} (hf : X7_text_0 S a0 l1 = some r) : AW l g d RX7 cX7_text 4 "text" MC MS' (Qr (some (.int r.1)) r.2) k n 0 [some (.ref a0), some (.int l1), none, none] [] S := by
  unfold X7_text_0 at hf
  refine a_iload_n (pc := 0) dX7_text_0 rfl ?_
  refine a_if_eq (pc := 1) 11 dX7_text_1 (by decide) (fun c2 => ?_) (fun c2 => ?_)
  · have hf := (if_pos c2).symm.trans hf
    exact sX7_text_11 hd (by omega) (by omega) hf
  · have hf := (if_neg c2).symm.trans hf
    refine a_iload_n (pc := 4) dX7_text_4 rfl ?_
    refine a_iconst (pc := 5) 1 dX7_text_5 rfl ?_
    refine a_icmp_eq (pc := 6) 11 dX7_text_6 (by decide) (fun c1 => ?_) (fun c1 => ?_)
    · have hf := (if_pos c1).symm.trans hf
      exact sX7_text_11 hd (by omega) (by omega) hf
    · have hf := (if_neg c1).symm.trans hf
      refine a_iconst (pc := 9) (-1) dX7_text_9 rfl ?_
      have hf := Option.some.inj hf
      subst hf
      exact a_ireturn (pc := 10) dX7_text_10 (by omega) (by omega) ⟨rfl, rfl⟩
set_option maxRecDepth 100000 in
set_option maxHeartbeats 4000000 in
theorem mX7_text {l : Launch} {g : gE} {d : Nat} {a0 : Nat} (hd : 43 ≤ d) {r : Int32 × AH} {S : AH} {l1 : Int32} (hf : X7_text S a0 l1 = some r) : AM l g d yX7_text cX7_text 4 (some .int) 6 8222 [.ref a0, .int l1] S (Qr (some (.int r.1)) r.2) := by
  refine AM.of rfl (by exact Nat.le_of_ble_eq_true rfl) (fun v h' q => by obtain ⟨rfl, -⟩ := q; exact ⟨_, rfl, rfl⟩) (fun ls e => ?_)
  have e2 : aBeg [.ref a0, .int l1] 4 = [some (.ref a0), some (.int l1), none, none] := rfl
  rw [e2] at e
  subst e
  refine a_sub (sub_k (sub_k (sub_k (sub_k (sub_n))))) ?_
  exact sX7_text_0 hd (by omega) (by omega) (hf)

-- PencilStrikes$Bargain.size()I
def X1_size_0 (S : AH) (a0 : Nat) : Option (Int32 × AH) :=
  (gQ S a0 1 0).bind fun x1 =>
  (aN S x1).bind fun x2 =>
  some (x2, S)
def X1_size (S : AH) (a0 : Nat) : Option (Int32 × AH) := X1_size_0 S a0
set_option maxHeartbeats 4000000 in
theorem sX1_size_0 {l : Launch} {g : gE} {d MC MS' k n : Nat} {a0 : Nat} (hd : 0 ≤ d) (hk : k ≤ MC) (hn : n ≤ MS') {r : Int32 × AH} {S : AH} (hf : X1_size_0 S a0 = some r) : AW l g d RX1 cX1_size 1 "size" MC MS' (Qr (some (.int r.1)) r.2) k n 0 [some (.ref a0)] [] S := by
  unfold X1_size_0 at hf
  refine a_aload_n (pc := 0) dX1_size_0 rfl (isRv_r _) ?_
  obtain ⟨x1, hx1, hf⟩ := Option.bind_eq_some_iff.mp hf
  refine g_getQ (pc := 1) dX1_size_1 fl_X1_22 hx1 ?_
  obtain ⟨x2, hx2, hf⟩ := Option.bind_eq_some_iff.mp hf
  refine g_alen (pc := 4) dX1_size_4 hx2 ?_
  have hf := Option.some.inj hf
  subst hf
  exact a_ireturn (pc := 5) dX1_size_5 hk hn ⟨rfl, rfl⟩
set_option maxHeartbeats 4000000 in
theorem mX1_size {l : Launch} {g : gE} {d : Nat} {a0 : Nat} (hd : 0 ≤ d) {r : Int32 × AH} {S : AH} (hf : X1_size S a0 = some r) : AM l g d yX1_size cX1_size 1 (some .int) 0 0 [.ref a0] S (Qr (some (.int r.1)) r.2) := by
  refine AM.of rfl (by exact Nat.le_of_ble_eq_true rfl) (fun v h' q => by obtain ⟨rfl, -⟩ := q; exact ⟨_, rfl, rfl⟩) (fun ls e => ?_)
  have e2 : aBeg [.ref a0] 1 = [some (.ref a0)] := rfl
  rw [e2] at e
  subst e
  refine a_sub (sub_k (sub_n)) ?_
  exact sX1_size_0 hd (Nat.le_refl _) (Nat.le_refl _) (hf)

-- PencilStrikes$Bargain.wordAt(I)I
def X1_wordAt_23 (S : AH) (a0 : Nat) (s0 : Int32) : Option (Int32 × AH) :=
  some (s0, S)
def X1_wordAt_22 (S : AH) (a0 : Nat) : Option (Int32 × AH) :=
  X1_wordAt_23 S a0 0
def X1_wordAt_0 (S : AH) (a0 : Nat) (l1 : Int32) : Option (Int32 × AH) :=
  if l1 < 0 then
    X1_wordAt_22 S a0
  else
    (gQ S a0 1 0).bind fun x1 =>
    (aN S x1).bind fun x2 =>
    if x2 ≤ l1 then
      X1_wordAt_22 S a0
    else
      (gQ S a0 1 0).bind fun x3 =>
      (aA 0 S x3 l1).bind fun x4 =>
      X1_wordAt_23 S a0 x4
def X1_wordAt (S : AH) (a0 : Nat) (l1 : Int32) : Option (Int32 × AH) := X1_wordAt_0 S a0 l1
set_option maxHeartbeats 4000000 in
theorem sX1_wordAt_23 {l : Launch} {g : gE} {d MC MS' k n : Nat} {a0 : Nat} (hd : 0 ≤ d) (hk : k ≤ MC) (hn : n ≤ MS') {r : Int32 × AH} {S : AH} {s0 : Int32} (hf : X1_wordAt_23 S a0 s0 = some r) : AW l g d RX1 cX1_wordAt 2 "wordAt" MC MS' (Qr (some (.int r.1)) r.2) k n 23 [none, none] [.int s0] S := by
  unfold X1_wordAt_23 at hf
  have hf := Option.some.inj hf
  subst hf
  exact a_ireturn (pc := 23) dX1_wordAt_23 hk hn ⟨rfl, rfl⟩
set_option maxHeartbeats 4000000 in
theorem sX1_wordAt_22 {l : Launch} {g : gE} {d MC MS' k n : Nat} {a0 : Nat} (hd : 0 ≤ d) (hk : k ≤ MC) (hn : n ≤ MS') {r : Int32 × AH} {S : AH} (hf : X1_wordAt_22 S a0 = some r) : AW l g d RX1 cX1_wordAt 2 "wordAt" MC MS' (Qr (some (.int r.1)) r.2) k n 22 [none, none] [] S := by
  unfold X1_wordAt_22 at hf
  refine a_iconst (pc := 22) 0 dX1_wordAt_22 rfl ?_
  exact sX1_wordAt_23 hd hk hn hf
set_option maxHeartbeats 4000000 in
theorem sX1_wordAt_0 {l : Launch} {g : gE} {d MC MS' k n : Nat} {a0 : Nat} (hd : 0 ≤ d) (hk : k ≤ MC) (hn : n ≤ MS') {r : Int32 × AH} {S : AH} {l1 : Int32} (hf : X1_wordAt_0 S a0 l1 = some r) : AW l g d RX1 cX1_wordAt 2 "wordAt" MC MS' (Qr (some (.int r.1)) r.2) k n 0 [some (.ref a0), some (.int l1)] [] S := by
  unfold X1_wordAt_0 at hf
  refine a_iload_n (pc := 0) dX1_wordAt_0 rfl ?_
  refine a_if_lt (pc := 1) 22 dX1_wordAt_1 (by decide) (fun c6 => ?_) (fun c6 => ?_)
  · have hf := (if_pos c6).symm.trans hf
    refine a_sub (sub_d (sub_d sub_n)) ?_
    exact sX1_wordAt_22 hd hk hn hf
  · have hf := (if_neg c6).symm.trans hf
    refine a_iload_n (pc := 4) dX1_wordAt_4 rfl ?_
    refine a_aload_n (pc := 5) dX1_wordAt_5 rfl (isRv_r _) ?_
    obtain ⟨x1, hx1, hf⟩ := Option.bind_eq_some_iff.mp hf
    refine g_getQ (pc := 6) dX1_wordAt_6 fl_X1_22 hx1 ?_
    obtain ⟨x2, hx2, hf⟩ := Option.bind_eq_some_iff.mp hf
    refine g_alen (pc := 9) dX1_wordAt_9 hx2 ?_
    refine a_icmp_ge (pc := 10) 22 dX1_wordAt_10 (by decide) (fun c5 => ?_) (fun c5 => ?_)
    · have hf := (if_pos c5).symm.trans hf
      refine a_sub (sub_d (sub_d sub_n)) ?_
      exact sX1_wordAt_22 hd hk hn hf
    · have hf := (if_neg c5).symm.trans hf
      refine a_aload_n (pc := 13) dX1_wordAt_13 rfl (isRv_r _) ?_
      obtain ⟨x3, hx3, hf⟩ := Option.bind_eq_some_iff.mp hf
      refine g_getQ (pc := 14) dX1_wordAt_14 fl_X1_22 hx3 ?_
      refine a_iload_n (pc := 17) dX1_wordAt_17 rfl ?_
      obtain ⟨x4, hx4, hf⟩ := Option.bind_eq_some_iff.mp hf
      refine g_iald (pc := 18) dX1_wordAt_18 hx4 ?_
      refine a_goto (pc := 19) 23 dX1_wordAt_19 (by decide) ?_
      refine a_sub (sub_d (sub_d sub_n)) ?_
      exact sX1_wordAt_23 hd hk hn hf
set_option maxHeartbeats 4000000 in
theorem mX1_wordAt {l : Launch} {g : gE} {d : Nat} {a0 : Nat} (hd : 0 ≤ d) {r : Int32 × AH} {S : AH} {l1 : Int32} (hf : X1_wordAt S a0 l1 = some r) : AM l g d yX1_wordAt cX1_wordAt 2 (some .int) 0 0 [.ref a0, .int l1] S (Qr (some (.int r.1)) r.2) := by
  refine AM.of rfl (by exact Nat.le_of_ble_eq_true rfl) (fun v h' q => by obtain ⟨rfl, -⟩ := q; exact ⟨_, rfl, rfl⟩) (fun ls e => ?_)
  have e2 : aBeg [.ref a0, .int l1] 2 = [some (.ref a0), some (.int l1)] := rfl
  rw [e2] at e
  subst e
  refine a_sub (sub_k (sub_k (sub_n))) ?_
  exact sX1_wordAt_0 hd (Nat.le_refl _) (Nat.le_refl _) (hf)

-- PencilStrikes.bargainOf(I)LPencilStrikes$Bargain;
def X7_bargainOf_23 (S : AH) (a0 : Nat) (s0 : Option Nat) : Option (Option Nat × AH) :=
  some (s0, S)
def X7_bargainOf_22 (S : AH) (a0 : Nat) : Option (Option Nat × AH) :=
  X7_bargainOf_23 S a0 none
def X7_bargainOf_0 (S : AH) (a0 : Nat) (l1 : Int32) : Option (Option Nat × AH) :=
  if l1 < 0 then
    X7_bargainOf_22 S a0
  else
    (gQ S a0 7 2).bind fun x1 =>
    (aN S x1).bind fun x2 =>
    if x2 ≤ l1 then
      X7_bargainOf_22 S a0
    else
      (gQ S a0 7 2).bind fun x3 =>
      (aQ 4 S x3 l1).bind fun x4 =>
      X7_bargainOf_23 S a0 x4
def X7_bargainOf (S : AH) (a0 : Nat) (l1 : Int32) : Option (Option Nat × AH) := X7_bargainOf_0 S a0 l1
set_option maxHeartbeats 4000000 in
theorem sX7_bargainOf_23 {l : Launch} {g : gE} {d MC MS' k n : Nat} {a0 : Nat} (hd : 0 ≤ d) (hk : k ≤ MC) (hn : n ≤ MS') {r : Option Nat × AH} {S : AH} {s0 : Option Nat} (hf : X7_bargainOf_23 S a0 s0 = some r) : AW l g d RX7 cX7_bargainOf 2 "bargainOf" MC MS' (Qr (some (va_rf r.1)) r.2) k n 23 [none, none] [va_rf s0] S := by
  unfold X7_bargainOf_23 at hf
  have hf := Option.some.inj hf
  subst hf
  exact a_areturnR (pc := 23) dX7_bargainOf_23 hk hn ⟨rfl, rfl⟩
set_option maxHeartbeats 4000000 in
theorem sX7_bargainOf_22 {l : Launch} {g : gE} {d MC MS' k n : Nat} {a0 : Nat} (hd : 0 ≤ d) (hk : k ≤ MC) (hn : n ≤ MS') {r : Option Nat × AH} {S : AH} (hf : X7_bargainOf_22 S a0 = some r) : AW l g d RX7 cX7_bargainOf 2 "bargainOf" MC MS' (Qr (some (va_rf r.1)) r.2) k n 22 [none, none] [] S := by
  unfold X7_bargainOf_22 at hf
  refine a_null (pc := 22) dX7_bargainOf_22 ?_
  exact sX7_bargainOf_23 hd hk hn hf
set_option maxHeartbeats 4000000 in
theorem sX7_bargainOf_0 {l : Launch} {g : gE} {d MC MS' k n : Nat} {a0 : Nat} (hd : 0 ≤ d) (hk : k ≤ MC) (hn : n ≤ MS') {r : Option Nat × AH} {S : AH} {l1 : Int32} (hf : X7_bargainOf_0 S a0 l1 = some r) : AW l g d RX7 cX7_bargainOf 2 "bargainOf" MC MS' (Qr (some (va_rf r.1)) r.2) k n 0 [some (.ref a0), some (.int l1)] [] S := by
  unfold X7_bargainOf_0 at hf
  refine a_iload_n (pc := 0) dX7_bargainOf_0 rfl ?_
  refine a_if_lt (pc := 1) 22 dX7_bargainOf_1 (by decide) (fun c6 => ?_) (fun c6 => ?_)
  · have hf := (if_pos c6).symm.trans hf
    refine a_sub (sub_d (sub_d sub_n)) ?_
    exact sX7_bargainOf_22 hd hk hn hf
  · have hf := (if_neg c6).symm.trans hf
    refine a_iload_n (pc := 4) dX7_bargainOf_4 rfl ?_
    refine a_aload_n (pc := 5) dX7_bargainOf_5 rfl (isRv_r _) ?_
    obtain ⟨x1, hx1, hf⟩ := Option.bind_eq_some_iff.mp hf
    refine g_getQ (pc := 6) dX7_bargainOf_6 fl_X7_27 hx1 ?_
    obtain ⟨x2, hx2, hf⟩ := Option.bind_eq_some_iff.mp hf
    refine g_alen (pc := 9) dX7_bargainOf_9 hx2 ?_
    refine a_icmp_ge (pc := 10) 22 dX7_bargainOf_10 (by decide) (fun c5 => ?_) (fun c5 => ?_)
    · have hf := (if_pos c5).symm.trans hf
      refine a_sub (sub_d (sub_d sub_n)) ?_
      exact sX7_bargainOf_22 hd hk hn hf
    · have hf := (if_neg c5).symm.trans hf
      refine a_aload_n (pc := 13) dX7_bargainOf_13 rfl (isRv_r _) ?_
      obtain ⟨x3, hx3, hf⟩ := Option.bind_eq_some_iff.mp hf
      refine g_getQ (pc := 14) dX7_bargainOf_14 fl_X7_27 hx3 ?_
      refine a_iload_n (pc := 17) dX7_bargainOf_17 rfl ?_
      obtain ⟨x4, hx4, hf⟩ := Option.bind_eq_some_iff.mp hf
      refine g_qald (pc := 18) 0 dX7_bargainOf_18 (by decide) hx4 ?_
      refine a_goto (pc := 19) 23 dX7_bargainOf_19 (by decide) ?_
      refine a_sub (sub_d (sub_d sub_n)) ?_
      exact sX7_bargainOf_23 hd hk hn hf
set_option maxHeartbeats 4000000 in
theorem mX7_bargainOf {l : Launch} {g : gE} {d : Nat} {a0 : Nat} (hd : 0 ≤ d) {r : Option Nat × AH} {S : AH} {l1 : Int32} (hf : X7_bargainOf S a0 l1 = some r) : AM l g d yX7_bargainOf cX7_bargainOf 2 (some (.object "PencilStrikes$Bargain")) 0 0 [.ref a0, .int l1] S (Qr (some (va_rf r.1)) r.2) := by
  refine AM.of rfl (by exact Nat.le_of_ble_eq_true rfl) (fun v h' q => by obtain ⟨rfl, -⟩ := q; exact aRet_rf _ (Or.inl ⟨_, rfl⟩)) (fun ls e => ?_)
  have e2 : aBeg [.ref a0, .int l1] 2 = [some (.ref a0), some (.int l1)] := rfl
  rw [e2] at e
  subst e
  refine a_sub (sub_k (sub_k (sub_n))) ?_
  exact sX7_bargainOf_0 hd (Nat.le_refl _) (Nat.le_refl _) (hf)

-- PencilStrikes.word(II)I
def X7_word_23 (S : AH) (a0 : Nat) : Option (Int32 × AH) :=
  some ((-1), S)
def X7_word_42 (S : AH) (a0 : Nat) (s0 : Int32) : Option (Int32 × AH) :=
  some (s0, S)
def X7_word_0 (S : AH) (a0 : Nat) (l1 : Int32) (l2 : Int32) : Option (Int32 × AH) :=
  (cO S a0 7 (X7_bargainOf S a0 l1)).bind fun r1 => prp r1 fun zq2 zq2S =>
  ifn zq2 (
    X7_word_23 zq2S a0) fun a3 =>
  if l2 < (-1) then
    X7_word_23 zq2S a0
  else
    (cO zq2S a3 1 (X1_size zq2S a3)).bind fun r4 =>
    if l2 < r4.1 then
      if l2 = (-1) then
        (cO r4.2 a3 1 (X1_size r4.2 a3)).bind fun r6 =>
        X7_word_42 r6.2 a0 r6.1
      else
        (cO r4.2 a3 1 (X1_wordAt r4.2 a3 l2)).bind fun r5 =>
        X7_word_42 r5.2 a0 r5.1
    else
      X7_word_23 r4.2 a0
def X7_word (S : AH) (a0 : Nat) (l1 : Int32) (l2 : Int32) : Option (Int32 × AH) := X7_word_0 S a0 l1 l2
set_option maxHeartbeats 4000000 in
theorem sX7_word_23 {l : Launch} {g : gE} {d MC MS' k n : Nat} {a0 : Nat} (hd : 1 ≤ d) (hk : k ≤ MC) (hn : n ≤ MS') {r : Int32 × AH} {S : AH} (hf : X7_word_23 S a0 = some r) : AW l g d RX7 cX7_word 4 "word" MC MS' (Qr (some (.int r.1)) r.2) k n 23 [none, none, none, none] [] S := by
  unfold X7_word_23 at hf
  refine a_iconst (pc := 23) (-1) dX7_word_23 rfl ?_
  have hf := Option.some.inj hf
  subst hf
  exact a_ireturn (pc := 24) dX7_word_24 hk hn ⟨rfl, rfl⟩
set_option maxHeartbeats 4000000 in
theorem sX7_word_42 {l : Launch} {g : gE} {d MC MS' k n : Nat} {a0 : Nat} (hd : 1 ≤ d) (hk : k ≤ MC) (hn : n ≤ MS') {r : Int32 × AH} {S : AH} {s0 : Int32} (hf : X7_word_42 S a0 s0 = some r) : AW l g d RX7 cX7_word 4 "word" MC MS' (Qr (some (.int r.1)) r.2) k n 42 [none, none, none, none] [.int s0] S := by
  unfold X7_word_42 at hf
  have hf := Option.some.inj hf
  subst hf
  exact a_ireturn (pc := 42) dX7_word_42 hk hn ⟨rfl, rfl⟩
set_option maxHeartbeats 4000000 in
theorem sX7_word_0 {l : Launch} {g : gE} {d MC MS' k n : Nat} {a0 : Nat} (hd : 1 ≤ d) (hk : k ≤ MC) (hn : n ≤ MS') {r : Int32 × AH} {S : AH} {l1 : Int32} {l2 : Int32} (hf : X7_word_0 S a0 l1 l2 = some r) : AW l g d RX7 cX7_word 4 "word" MC MS' (Qr (some (.int r.1)) r.2) k n 0 [some (.ref a0), some (.int l1), some (.int l2), none] [] S := by
  unfold X7_word_0 at hf
  refine a_aload_n (pc := 0) dX7_word_0 rfl (isRv_r _) ?_
  refine a_iload_n (pc := 1) dX7_word_1 rfl ?_
  obtain ⟨r1, hr1, hf⟩ := Option.bind_eq_some_iff.mp hf
  obtain ⟨zq2, zq2S⟩ := r1
  have hf := (prp_of _ _ _).symm.trans hf
  obtain ⟨hor1, hr1⟩ := cO_of hr1
  refine g_call (pc := 2) (mc := 0) (ms := 0) (va_rf zq2) [.int l1] [] dX7_word_2 ml_X7_91 mv_X7_bargainOf hor1 (by decide) rfl rfl (by omega) (mX7_bargainOf (by omega) hr1) rfl (Nat.le_of_ble_eq_true rfl) hk hn ?_
  refine a_astore_n (pc := 5) (ls' := [some (.ref a0), some (.int l1), some (.int l2), some (va_rf zq2)]) dX7_word_5 (by decide) (isRv_rf _) rfl ?_
  refine a_aload_n (pc := 6) dX7_word_6 rfl (isRv_rf _) ?_
  cases zq2 with
  | none =>
    have hf := (ifn_none _ _).symm.trans hf
    refine a_ifnullN (pc := 7) 23 dX7_word_7 (by decide) ?_
    refine a_sub (sub_d (sub_d (sub_d (sub_d sub_n)))) ?_
    exact sX7_word_23 hd hk hn hf
  | some a3 =>
    have hf := (ifn_some _ _ _).symm.trans hf
    refine a_ifnull (pc := 7) dX7_word_7 ?_
    refine a_iload_n (pc := 10) dX7_word_10 rfl ?_
    refine a_iconst (pc := 11) (-1) dX7_word_11 rfl ?_
    refine a_icmp_lt (pc := 12) 23 dX7_word_12 (by decide) (fun c9 => ?_) (fun c9 => ?_)
    · have hf := (if_pos c9).symm.trans hf
      refine a_sub (sub_d (sub_d (sub_d (sub_d sub_n)))) ?_
      exact sX7_word_23 hd hk hn hf
    · have hf := (if_neg c9).symm.trans hf
      refine a_iload_n (pc := 15) dX7_word_15 rfl ?_
      refine a_aload_n (pc := 16) dX7_word_16 rfl (isRv_r _) ?_
      obtain ⟨r4, hr4, hf⟩ := Option.bind_eq_some_iff.mp hf
      obtain ⟨hor4, hr4⟩ := cO_of hr4
      refine g_call (pc := 17) (mc := 0) (ms := 0) (.int r4.1) [] [.int l2] dX7_word_17 ml_X7_95 mv_X1_size hor4 (by decide) rfl rfl (by omega) (mX1_size (by omega) hr4) rfl (Nat.le_of_ble_eq_true rfl) hk hn ?_
      refine a_icmp_lt (pc := 20) 25 dX7_word_20 (by decide) (fun c8 => ?_) (fun c8 => ?_)
      · have hf := (if_pos c8).symm.trans hf
        refine a_iload_n (pc := 25) dX7_word_25 rfl ?_
        refine a_iconst (pc := 26) (-1) dX7_word_26 rfl ?_
        refine a_icmp_ne (pc := 27) 37 dX7_word_27 (by decide) (fun c7 => ?_) (fun c7 => ?_)
        · have hf := (if_neg c7).symm.trans hf
          refine a_aload_n (pc := 37) dX7_word_37 rfl (isRv_r _) ?_
          refine a_iload_n (pc := 38) dX7_word_38 rfl ?_
          obtain ⟨r5, hr5, hf⟩ := Option.bind_eq_some_iff.mp hf
          obtain ⟨hor5, hr5⟩ := cO_of hr5
          refine g_call (pc := 39) (mc := 0) (ms := 0) (.int r5.1) [.int l2] [] dX7_word_39 ml_X7_96 mv_X1_wordAt hor5 (by decide) rfl rfl (by omega) (mX1_wordAt (by omega) hr5) rfl (Nat.le_of_ble_eq_true rfl) hk hn ?_
          refine a_sub (sub_d (sub_d (sub_d (sub_d sub_n)))) ?_
          exact sX7_word_42 hd hk hn hf
        · have hf := (if_pos c7).symm.trans hf
          refine a_aload_n (pc := 30) dX7_word_30 rfl (isRv_r _) ?_
          obtain ⟨r6, hr6, hf⟩ := Option.bind_eq_some_iff.mp hf
          obtain ⟨hor6, hr6⟩ := cO_of hr6
          refine g_call (pc := 31) (mc := 0) (ms := 0) (.int r6.1) [] [] dX7_word_31 ml_X7_95 mv_X1_size hor6 (by decide) rfl rfl (by omega) (mX1_size (by omega) hr6) rfl (Nat.le_of_ble_eq_true rfl) hk hn ?_
          refine a_goto (pc := 34) 42 dX7_word_34 (by decide) ?_
          refine a_sub (sub_d (sub_d (sub_d (sub_d sub_n)))) ?_
          exact sX7_word_42 hd hk hn hf
      · have hf := (if_neg c8).symm.trans hf
        refine a_sub (sub_d (sub_d (sub_d (sub_d sub_n)))) ?_
        exact sX7_word_23 hd hk hn hf
set_option maxHeartbeats 4000000 in
theorem mX7_word {l : Launch} {g : gE} {d : Nat} {a0 : Nat} (hd : 1 ≤ d) {r : Int32 × AH} {S : AH} {l1 : Int32} {l2 : Int32} (hf : X7_word S a0 l1 l2 = some r) : AM l g d yX7_word cX7_word 4 (some .int) 0 0 [.ref a0, .int l1, .int l2] S (Qr (some (.int r.1)) r.2) := by
  refine AM.of rfl (by exact Nat.le_of_ble_eq_true rfl) (fun v h' q => by obtain ⟨rfl, -⟩ := q; exact ⟨_, rfl, rfl⟩) (fun ls e => ?_)
  have e2 : aBeg [.ref a0, .int l1, .int l2] 4 = [some (.ref a0), some (.int l1), some (.int l2), none] := rfl
  rw [e2] at e
  subst e
  refine a_sub (sub_k (sub_k (sub_k (sub_k (sub_n))))) ?_
  exact sX7_word_0 hd (Nat.le_refl _) (Nat.le_refl _) (hf)

-- PencilStrikes.price(II)I
def X7_price_13 (S : AH) (a0 : Nat) : Option (Int32 × AH) :=
  some ((-1), S)
def X7_price_25 (S : AH) (a0 : Nat) : Option (Int32 × AH) :=
  some ((-2), S)
def X7_price_0 (S : AH) (a0 : Nat) (l1 : Int32) (l2 : Int32) : Option (Int32 × AH) :=
  if l1 < 0 then
    X7_price_13 S a0
  else
    (gQ S a0 7 4).bind fun x1 =>
    (aN S x1).bind fun x2 =>
    if l1 < x2 then
      if l2 < 0 then
        X7_price_25 S a0
      else
        if l2 ≤ 99 then
          (gQ S a0 7 4).bind fun x3 =>
          (aA 0 S x3 l1).bind fun x4 =>
          (gQ S a0 7 4).bind fun x5 =>
          (uA 0 S x5 l1 l2).bind fun S6 =>
          some (x4, S6)
        else
          X7_price_25 S a0
    else
      X7_price_13 S a0
def X7_price (S : AH) (a0 : Nat) (l1 : Int32) (l2 : Int32) : Option (Int32 × AH) := X7_price_0 S a0 l1 l2
set_option maxHeartbeats 4000000 in
theorem sX7_price_13 {l : Launch} {g : gE} {d MC MS' k n : Nat} {a0 : Nat} (hd : 0 ≤ d) (hk : k ≤ MC) (hn : n ≤ MS') {r : Int32 × AH} {S : AH} (hf : X7_price_13 S a0 = some r) : AW l g d RX7 cX7_price 4 "price" MC MS' (Qr (some (.int r.1)) r.2) k n 13 [none, none, none, none] [] S := by
  unfold X7_price_13 at hf
  refine a_iconst (pc := 13) (-1) dX7_price_13 rfl ?_
  have hf := Option.some.inj hf
  subst hf
  exact a_ireturn (pc := 14) dX7_price_14 hk hn ⟨rfl, rfl⟩
set_option maxHeartbeats 4000000 in
theorem sX7_price_25 {l : Launch} {g : gE} {d MC MS' k n : Nat} {a0 : Nat} (hd : 0 ≤ d) (hk : k ≤ MC) (hn : n ≤ MS') {r : Int32 × AH} {S : AH} (hf : X7_price_25 S a0 = some r) : AW l g d RX7 cX7_price 4 "price" MC MS' (Qr (some (.int r.1)) r.2) k n 25 [none, none, none, none] [] S := by
  unfold X7_price_25 at hf
  refine a_bipush (pc := 25) (-2) dX7_price_25 rfl ?_
  have hf := Option.some.inj hf
  subst hf
  exact a_ireturn (pc := 27) dX7_price_27 hk hn ⟨rfl, rfl⟩
set_option maxHeartbeats 4000000 in
theorem sX7_price_0 {l : Launch} {g : gE} {d MC MS' k n : Nat} {a0 : Nat} (hd : 0 ≤ d) (hk : k ≤ MC) (hn : n ≤ MS') {r : Int32 × AH} {S : AH} {l1 : Int32} {l2 : Int32} (hf : X7_price_0 S a0 l1 l2 = some r) : AW l g d RX7 cX7_price 4 "price" MC MS' (Qr (some (.int r.1)) r.2) k n 0 [some (.ref a0), some (.int l1), some (.int l2), none] [] S := by
  unfold X7_price_0 at hf
  refine a_iload_n (pc := 0) dX7_price_0 rfl ?_
  refine a_if_lt (pc := 1) 13 dX7_price_1 (by decide) (fun c10 => ?_) (fun c10 => ?_)
  · have hf := (if_pos c10).symm.trans hf
    refine a_sub (sub_d (sub_d (sub_d (sub_k sub_n)))) ?_
    exact sX7_price_13 hd hk hn hf
  · have hf := (if_neg c10).symm.trans hf
    refine a_iload_n (pc := 4) dX7_price_4 rfl ?_
    refine a_aload_n (pc := 5) dX7_price_5 rfl (isRv_r _) ?_
    obtain ⟨x1, hx1, hf⟩ := Option.bind_eq_some_iff.mp hf
    refine g_getQ (pc := 6) dX7_price_6 fl_X7_37 hx1 ?_
    obtain ⟨x2, hx2, hf⟩ := Option.bind_eq_some_iff.mp hf
    refine g_alen (pc := 9) dX7_price_9 hx2 ?_
    refine a_icmp_lt (pc := 10) 15 dX7_price_10 (by decide) (fun c9 => ?_) (fun c9 => ?_)
    · have hf := (if_pos c9).symm.trans hf
      refine a_iload_n (pc := 15) dX7_price_15 rfl ?_
      refine a_if_lt (pc := 16) 25 dX7_price_16 (by decide) (fun c8 => ?_) (fun c8 => ?_)
      · have hf := (if_pos c8).symm.trans hf
        refine a_sub (sub_d (sub_d (sub_d (sub_k sub_n)))) ?_
        exact sX7_price_25 hd hk hn hf
      · have hf := (if_neg c8).symm.trans hf
        refine a_iload_n (pc := 19) dX7_price_19 rfl ?_
        refine a_bipush (pc := 20) 99 dX7_price_20 rfl ?_
        refine a_icmp_le (pc := 22) 28 dX7_price_22 (by decide) (fun c7 => ?_) (fun c7 => ?_)
        · have hf := (if_pos c7).symm.trans hf
          refine a_aload_n (pc := 28) dX7_price_28 rfl (isRv_r _) ?_
          obtain ⟨x3, hx3, hf⟩ := Option.bind_eq_some_iff.mp hf
          refine g_getQ (pc := 29) dX7_price_29 fl_X7_37 hx3 ?_
          refine a_iload_n (pc := 32) dX7_price_32 rfl ?_
          obtain ⟨x4, hx4, hf⟩ := Option.bind_eq_some_iff.mp hf
          refine g_iald (pc := 33) dX7_price_33 hx4 ?_
          refine a_istore_n (pc := 34) (ls' := [some (.ref a0), some (.int l1), some (.int l2), some (.int x4)]) dX7_price_34 (by decide) rfl ?_
          refine a_aload_n (pc := 35) dX7_price_35 rfl (isRv_r _) ?_
          obtain ⟨x5, hx5, hf⟩ := Option.bind_eq_some_iff.mp hf
          refine g_getQ (pc := 36) dX7_price_36 fl_X7_37 hx5 ?_
          refine a_iload_n (pc := 39) dX7_price_39 rfl ?_
          refine a_iload_n (pc := 40) dX7_price_40 rfl ?_
          obtain ⟨S6, hS6, hf⟩ := Option.bind_eq_some_iff.mp hf
          refine g_iast (pc := 41) dX7_price_41 hS6 ?_
          refine a_iload_n (pc := 42) dX7_price_42 rfl ?_
          have hf := Option.some.inj hf
          subst hf
          exact a_ireturn (pc := 43) dX7_price_43 hk hn ⟨rfl, rfl⟩
        · have hf := (if_neg c7).symm.trans hf
          refine a_sub (sub_d (sub_d (sub_d (sub_k sub_n)))) ?_
          exact sX7_price_25 hd hk hn hf
    · have hf := (if_neg c9).symm.trans hf
      refine a_sub (sub_d (sub_d (sub_d (sub_k sub_n)))) ?_
      exact sX7_price_13 hd hk hn hf
set_option maxHeartbeats 4000000 in
theorem mX7_price {l : Launch} {g : gE} {d : Nat} {a0 : Nat} (hd : 0 ≤ d) {r : Int32 × AH} {S : AH} {l1 : Int32} {l2 : Int32} (hf : X7_price S a0 l1 l2 = some r) : AM l g d yX7_price cX7_price 4 (some .int) 0 0 [.ref a0, .int l1, .int l2] S (Qr (some (.int r.1)) r.2) := by
  refine AM.of rfl (by exact Nat.le_of_ble_eq_true rfl) (fun v h' q => by obtain ⟨rfl, -⟩ := q; exact ⟨_, rfl, rfl⟩) (fun ls e => ?_)
  have e2 : aBeg [.ref a0, .int l1, .int l2] 4 = [some (.ref a0), some (.int l1), some (.int l2), none] := rfl
  rw [e2] at e
  subst e
  refine a_sub (sub_k (sub_k (sub_k (sub_k (sub_n))))) ?_
  exact sX7_price_0 hd (Nat.le_refl _) (Nat.le_refl _) (hf)

-- PencilStrikes$Bargain.hasSet(I)Z
def X1_hasSet_18 (S : AH) (a0 : Nat) (s0 : Int32) : Option (Int32 × AH) :=
  some (s0, S)
def X1_hasSet_17 (S : AH) (a0 : Nat) : Option (Int32 × AH) :=
  X1_hasSet_18 S a0 0
def X1_hasSet_0 (S : AH) (a0 : Nat) (l1 : Int32) : Option (Int32 × AH) :=
  if l1 < 0 then
    X1_hasSet_17 S a0
  else
    (gQ S a0 1 1).bind fun x1 =>
    (aN S x1).bind fun x2 =>
    if x2 ≤ l1 then
      X1_hasSet_17 S a0
    else
      X1_hasSet_18 S a0 1
def X1_hasSet (S : AH) (a0 : Nat) (l1 : Int32) : Option (Int32 × AH) := zg (X1_hasSet_0 S a0 l1)
set_option maxHeartbeats 4000000 in
theorem sX1_hasSet_18 {l : Launch} {g : gE} {d MC MS' k n : Nat} {a0 : Nat} (hd : 0 ≤ d) (hk : k ≤ MC) (hn : n ≤ MS') {r : Int32 × AH} {S : AH} {s0 : Int32} (hf : X1_hasSet_18 S a0 s0 = some r) : AW l g d RX1 cX1_hasSet 2 "hasSet" MC MS' (Qr (some (.int r.1)) r.2) k n 18 [none, none] [.int s0] S := by
  unfold X1_hasSet_18 at hf
  have hf := Option.some.inj hf
  subst hf
  exact a_ireturn (pc := 18) dX1_hasSet_18 hk hn ⟨rfl, rfl⟩
set_option maxHeartbeats 4000000 in
theorem sX1_hasSet_17 {l : Launch} {g : gE} {d MC MS' k n : Nat} {a0 : Nat} (hd : 0 ≤ d) (hk : k ≤ MC) (hn : n ≤ MS') {r : Int32 × AH} {S : AH} (hf : X1_hasSet_17 S a0 = some r) : AW l g d RX1 cX1_hasSet 2 "hasSet" MC MS' (Qr (some (.int r.1)) r.2) k n 17 [none, none] [] S := by
  unfold X1_hasSet_17 at hf
  refine a_iconst (pc := 17) 0 dX1_hasSet_17 rfl ?_
  exact sX1_hasSet_18 hd hk hn hf
set_option maxHeartbeats 4000000 in
theorem sX1_hasSet_0 {l : Launch} {g : gE} {d MC MS' k n : Nat} {a0 : Nat} (hd : 0 ≤ d) (hk : k ≤ MC) (hn : n ≤ MS') {r : Int32 × AH} {S : AH} {l1 : Int32} (hf : X1_hasSet_0 S a0 l1 = some r) : AW l g d RX1 cX1_hasSet 2 "hasSet" MC MS' (Qr (some (.int r.1)) r.2) k n 0 [some (.ref a0), some (.int l1)] [] S := by
  unfold X1_hasSet_0 at hf
  refine a_iload_n (pc := 0) dX1_hasSet_0 rfl ?_
  refine a_if_lt (pc := 1) 17 dX1_hasSet_1 (by decide) (fun c4 => ?_) (fun c4 => ?_)
  · have hf := (if_pos c4).symm.trans hf
    refine a_sub (sub_d (sub_d sub_n)) ?_
    exact sX1_hasSet_17 hd hk hn hf
  · have hf := (if_neg c4).symm.trans hf
    refine a_iload_n (pc := 4) dX1_hasSet_4 rfl ?_
    refine a_aload_n (pc := 5) dX1_hasSet_5 rfl (isRv_r _) ?_
    obtain ⟨x1, hx1, hf⟩ := Option.bind_eq_some_iff.mp hf
    refine g_getQ (pc := 6) dX1_hasSet_6 fl_X1_30 hx1 ?_
    obtain ⟨x2, hx2, hf⟩ := Option.bind_eq_some_iff.mp hf
    refine g_alen (pc := 9) dX1_hasSet_9 hx2 ?_
    refine a_icmp_ge (pc := 10) 17 dX1_hasSet_10 (by decide) (fun c3 => ?_) (fun c3 => ?_)
    · have hf := (if_pos c3).symm.trans hf
      refine a_sub (sub_d (sub_d sub_n)) ?_
      exact sX1_hasSet_17 hd hk hn hf
    · have hf := (if_neg c3).symm.trans hf
      refine a_iconst (pc := 13) 1 dX1_hasSet_13 rfl ?_
      refine a_goto (pc := 14) 18 dX1_hasSet_14 (by decide) ?_
      refine a_sub (sub_d (sub_d sub_n)) ?_
      exact sX1_hasSet_18 hd hk hn hf
set_option maxHeartbeats 4000000 in
theorem mX1_hasSet {l : Launch} {g : gE} {d : Nat} {a0 : Nat} (hd : 0 ≤ d) {r : Int32 × AH} {S : AH} {l1 : Int32} (hf : X1_hasSet S a0 l1 = some r) : AM l g d yX1_hasSet cX1_hasSet 2 (some .boolean) 0 0 [.ref a0, .int l1] S (Qr (some (.int r.1)) r.2) := by
  refine AM.of rfl (by exact Nat.le_of_ble_eq_true rfl) (fun v h' q => by obtain ⟨rfl, -⟩ := q; refine ⟨_, rfl, ?_⟩; rcases (zg_of hf).2 with e | e <;> rw [e] <;> rfl) (fun ls e => ?_)
  have e2 : aBeg [.ref a0, .int l1] 2 = [some (.ref a0), some (.int l1)] := rfl
  rw [e2] at e
  subst e
  refine a_sub (sub_k (sub_k (sub_n))) ?_
  exact sX1_hasSet_0 hd (Nat.le_refl _) (Nat.le_refl _) ((zg_of hf).1)

-- PencilStrikes.reads(II)I
def X7_reads_36 (S : AH) (a0 : Nat) (s0 : Int32) : Option (Int32 × AH) :=
  some (s0, S)
def X7_reads_0 (S : AH) (a0 : Nat) (l1 : Int32) (l2 : Int32) : Option (Int32 × AH) :=
  (cO S a0 7 (X7_bargainOf S a0 l1)).bind fun r1 => prp r1 fun zq2 zq2S =>
  ifn zq2 (
    some ((-1), zq2S)) fun a3 =>
  (cO zq2S a3 1 (X1_hasSet zq2S a3 l2)).bind fun r4 =>
  if r4.1 = 0 then
    some ((-2), r4.2)
  else
    (cO r4.2 a3 1 (X1_isReadable r4.2 a3 l2)).bind fun r5 =>
    if r5.1 = 0 then
      X7_reads_36 r5.2 a0 0
    else
      X7_reads_36 r5.2 a0 1
def X7_reads (S : AH) (a0 : Nat) (l1 : Int32) (l2 : Int32) : Option (Int32 × AH) := X7_reads_0 S a0 l1 l2
set_option maxHeartbeats 4000000 in
theorem sX7_reads_36 {l : Launch} {g : gE} {d MC MS' k n : Nat} {a0 : Nat} (hd : 1 ≤ d) (hk : k ≤ MC) (hn : n ≤ MS') {r : Int32 × AH} {S : AH} {s0 : Int32} (hf : X7_reads_36 S a0 s0 = some r) : AW l g d RX7 cX7_reads 4 "reads" MC MS' (Qr (some (.int r.1)) r.2) k n 36 [none, none, none, none] [.int s0] S := by
  unfold X7_reads_36 at hf
  have hf := Option.some.inj hf
  subst hf
  exact a_ireturn (pc := 36) dX7_reads_36 hk hn ⟨rfl, rfl⟩
set_option maxHeartbeats 4000000 in
theorem sX7_reads_0 {l : Launch} {g : gE} {d MC MS' k n : Nat} {a0 : Nat} (hd : 1 ≤ d) (hk : k ≤ MC) (hn : n ≤ MS') {r : Int32 × AH} {S : AH} {l1 : Int32} {l2 : Int32} (hf : X7_reads_0 S a0 l1 l2 = some r) : AW l g d RX7 cX7_reads 4 "reads" MC MS' (Qr (some (.int r.1)) r.2) k n 0 [some (.ref a0), some (.int l1), some (.int l2), none] [] S := by
  unfold X7_reads_0 at hf
  refine a_aload_n (pc := 0) dX7_reads_0 rfl (isRv_r _) ?_
  refine a_iload_n (pc := 1) dX7_reads_1 rfl ?_
  obtain ⟨r1, hr1, hf⟩ := Option.bind_eq_some_iff.mp hf
  obtain ⟨zq2, zq2S⟩ := r1
  have hf := (prp_of _ _ _).symm.trans hf
  obtain ⟨hor1, hr1⟩ := cO_of hr1
  refine g_call (pc := 2) (mc := 0) (ms := 0) (va_rf zq2) [.int l1] [] dX7_reads_2 ml_X7_91 mv_X7_bargainOf hor1 (by decide) rfl rfl (by omega) (mX7_bargainOf (by omega) hr1) rfl (Nat.le_of_ble_eq_true rfl) hk hn ?_
  refine a_astore_n (pc := 5) (ls' := [some (.ref a0), some (.int l1), some (.int l2), some (va_rf zq2)]) dX7_reads_5 (by decide) (isRv_rf _) rfl ?_
  refine a_aload_n (pc := 6) dX7_reads_6 rfl (isRv_rf _) ?_
  cases zq2 with
  | none =>
    have hf := (ifn_none _ _).symm.trans hf
    refine a_ifnonnullN (pc := 7) dX7_reads_7 ?_
    refine a_iconst (pc := 10) (-1) dX7_reads_10 rfl ?_
    have hf := Option.some.inj hf
    subst hf
    exact a_ireturn (pc := 11) dX7_reads_11 hk hn ⟨rfl, rfl⟩
  | some a3 =>
    have hf := (ifn_some _ _ _).symm.trans hf
    refine a_ifnonnull (pc := 7) 12 dX7_reads_7 (by decide) ?_
    refine a_aload_n (pc := 12) dX7_reads_12 rfl (isRv_r _) ?_
    refine a_iload_n (pc := 13) dX7_reads_13 rfl ?_
    obtain ⟨r4, hr4, hf⟩ := Option.bind_eq_some_iff.mp hf
    obtain ⟨hor4, hr4⟩ := cO_of hr4
    refine g_call (pc := 14) (mc := 0) (ms := 0) (.int r4.1) [.int l2] [] dX7_reads_14 ml_X7_100 mv_X1_hasSet hor4 (by decide) rfl rfl (by omega) (mX1_hasSet (by omega) hr4) rfl (Nat.le_of_ble_eq_true rfl) hk hn ?_
    refine a_if_ne (pc := 17) 23 dX7_reads_17 (by decide) (fun c7 => ?_) (fun c7 => ?_)
    · have hf := (if_neg c7).symm.trans hf
      refine a_aload_n (pc := 23) dX7_reads_23 rfl (isRv_r _) ?_
      refine a_iload_n (pc := 24) dX7_reads_24 rfl ?_
      obtain ⟨r5, hr5, hf⟩ := Option.bind_eq_some_iff.mp hf
      obtain ⟨hor5, hr5⟩ := cO_of hr5
      refine g_call (pc := 25) (mc := 0) (ms := 0) (.int r5.1) [.int l2] [] dX7_reads_25 ml_X7_104 mv_X1_isReadable hor5 (by decide) rfl rfl (by omega) (mX1_isReadable (by omega) hr5) rfl (Nat.le_of_ble_eq_true rfl) hk hn ?_
      refine a_if_eq (pc := 28) 35 dX7_reads_28 (by decide) (fun c6 => ?_) (fun c6 => ?_)
      · have hf := (if_pos c6).symm.trans hf
        refine a_iconst (pc := 35) 0 dX7_reads_35 rfl ?_
        refine a_sub (sub_d (sub_d (sub_d (sub_d sub_n)))) ?_
        exact sX7_reads_36 hd hk hn hf
      · have hf := (if_neg c6).symm.trans hf
        refine a_iconst (pc := 31) 1 dX7_reads_31 rfl ?_
        refine a_goto (pc := 32) 36 dX7_reads_32 (by decide) ?_
        refine a_sub (sub_d (sub_d (sub_d (sub_d sub_n)))) ?_
        exact sX7_reads_36 hd hk hn hf
    · have hf := (if_pos c7).symm.trans hf
      refine a_bipush (pc := 20) (-2) dX7_reads_20 rfl ?_
      have hf := Option.some.inj hf
      subst hf
      exact a_ireturn (pc := 22) dX7_reads_22 hk hn ⟨rfl, rfl⟩
set_option maxHeartbeats 4000000 in
theorem mX7_reads {l : Launch} {g : gE} {d : Nat} {a0 : Nat} (hd : 1 ≤ d) {r : Int32 × AH} {S : AH} {l1 : Int32} {l2 : Int32} (hf : X7_reads S a0 l1 l2 = some r) : AM l g d yX7_reads cX7_reads 4 (some .int) 0 0 [.ref a0, .int l1, .int l2] S (Qr (some (.int r.1)) r.2) := by
  refine AM.of rfl (by exact Nat.le_of_ble_eq_true rfl) (fun v h' q => by obtain ⟨rfl, -⟩ := q; exact ⟨_, rfl, rfl⟩) (fun ls e => ?_)
  have e2 : aBeg [.ref a0, .int l1, .int l2] 4 = [some (.ref a0), some (.int l1), some (.int l2), none] := rfl
  rw [e2] at e
  subst e
  refine a_sub (sub_k (sub_k (sub_k (sub_k (sub_n))))) ?_
  exact sX7_reads_0 hd (Nat.le_refl _) (Nat.le_refl _) (hf)

-- PencilStrikes$Duties.at(I)I
def X2_at_31 (S : AH) (a0 : Nat) (s0 : Int32) : Option (Int32 × AH) :=
  some (s0, S)
def X2_at_30 (S : AH) (a0 : Nat) : Option (Int32 × AH) :=
  X2_at_31 S a0 0
def X2_at_0 (S : AH) (a0 : Nat) (l1 : Int32) : Option (Int32 × AH) :=
  if l1 < 0 then
    X2_at_30 S a0
  else
    (gI S a0 2 1).bind fun x1 =>
    if x1 ≤ l1 then
      X2_at_30 S a0
    else
      (gQ S a0 2 0).bind fun x2 =>
      (aN S x2).bind fun x3 =>
      if x3 ≤ l1 then
        X2_at_30 S a0
      else
        (gQ S a0 2 0).bind fun x4 =>
        (aA 0 S x4 l1).bind fun x5 =>
        X2_at_31 S a0 x5
def X2_at (S : AH) (a0 : Nat) (l1 : Int32) : Option (Int32 × AH) := X2_at_0 S a0 l1
set_option maxHeartbeats 4000000 in
theorem sX2_at_31 {l : Launch} {g : gE} {d MC MS' k n : Nat} {a0 : Nat} (hd : 0 ≤ d) (hk : k ≤ MC) (hn : n ≤ MS') {r : Int32 × AH} {S : AH} {s0 : Int32} (hf : X2_at_31 S a0 s0 = some r) : AW l g d RX2 cX2_at 2 "at" MC MS' (Qr (some (.int r.1)) r.2) k n 31 [none, none] [.int s0] S := by
  unfold X2_at_31 at hf
  have hf := Option.some.inj hf
  subst hf
  exact a_ireturn (pc := 31) dX2_at_31 hk hn ⟨rfl, rfl⟩
set_option maxHeartbeats 4000000 in
theorem sX2_at_30 {l : Launch} {g : gE} {d MC MS' k n : Nat} {a0 : Nat} (hd : 0 ≤ d) (hk : k ≤ MC) (hn : n ≤ MS') {r : Int32 × AH} {S : AH} (hf : X2_at_30 S a0 = some r) : AW l g d RX2 cX2_at 2 "at" MC MS' (Qr (some (.int r.1)) r.2) k n 30 [none, none] [] S := by
  unfold X2_at_30 at hf
  refine a_iconst (pc := 30) 0 dX2_at_30 rfl ?_
  exact sX2_at_31 hd hk hn hf
set_option maxHeartbeats 4000000 in
theorem sX2_at_0 {l : Launch} {g : gE} {d MC MS' k n : Nat} {a0 : Nat} (hd : 0 ≤ d) (hk : k ≤ MC) (hn : n ≤ MS') {r : Int32 × AH} {S : AH} {l1 : Int32} (hf : X2_at_0 S a0 l1 = some r) : AW l g d RX2 cX2_at 2 "at" MC MS' (Qr (some (.int r.1)) r.2) k n 0 [some (.ref a0), some (.int l1)] [] S := by
  unfold X2_at_0 at hf
  refine a_iload_n (pc := 0) dX2_at_0 rfl ?_
  refine a_if_lt (pc := 1) 30 dX2_at_1 (by decide) (fun c8 => ?_) (fun c8 => ?_)
  · have hf := (if_pos c8).symm.trans hf
    refine a_sub (sub_d (sub_d sub_n)) ?_
    exact sX2_at_30 hd hk hn hf
  · have hf := (if_neg c8).symm.trans hf
    refine a_iload_n (pc := 4) dX2_at_4 rfl ?_
    refine a_aload_n (pc := 5) dX2_at_5 rfl (isRv_r _) ?_
    obtain ⟨x1, hx1, hf⟩ := Option.bind_eq_some_iff.mp hf
    refine g_getI (pc := 6) dX2_at_6 fl_X2_15 hx1 ?_
    refine a_icmp_ge (pc := 9) 30 dX2_at_9 (by decide) (fun c7 => ?_) (fun c7 => ?_)
    · have hf := (if_pos c7).symm.trans hf
      refine a_sub (sub_d (sub_d sub_n)) ?_
      exact sX2_at_30 hd hk hn hf
    · have hf := (if_neg c7).symm.trans hf
      refine a_iload_n (pc := 12) dX2_at_12 rfl ?_
      refine a_aload_n (pc := 13) dX2_at_13 rfl (isRv_r _) ?_
      obtain ⟨x2, hx2, hf⟩ := Option.bind_eq_some_iff.mp hf
      refine g_getQ (pc := 14) dX2_at_14 fl_X2_9 hx2 ?_
      obtain ⟨x3, hx3, hf⟩ := Option.bind_eq_some_iff.mp hf
      refine g_alen (pc := 17) dX2_at_17 hx3 ?_
      refine a_icmp_ge (pc := 18) 30 dX2_at_18 (by decide) (fun c6 => ?_) (fun c6 => ?_)
      · have hf := (if_pos c6).symm.trans hf
        refine a_sub (sub_d (sub_d sub_n)) ?_
        exact sX2_at_30 hd hk hn hf
      · have hf := (if_neg c6).symm.trans hf
        refine a_aload_n (pc := 21) dX2_at_21 rfl (isRv_r _) ?_
        obtain ⟨x4, hx4, hf⟩ := Option.bind_eq_some_iff.mp hf
        refine g_getQ (pc := 22) dX2_at_22 fl_X2_9 hx4 ?_
        refine a_iload_n (pc := 25) dX2_at_25 rfl ?_
        obtain ⟨x5, hx5, hf⟩ := Option.bind_eq_some_iff.mp hf
        refine g_iald (pc := 26) dX2_at_26 hx5 ?_
        refine a_goto (pc := 27) 31 dX2_at_27 (by decide) ?_
        refine a_sub (sub_d (sub_d sub_n)) ?_
        exact sX2_at_31 hd hk hn hf
set_option maxHeartbeats 4000000 in
theorem mX2_at {l : Launch} {g : gE} {d : Nat} {a0 : Nat} (hd : 0 ≤ d) {r : Int32 × AH} {S : AH} {l1 : Int32} (hf : X2_at S a0 l1 = some r) : AM l g d yX2_at cX2_at 2 (some .int) 0 0 [.ref a0, .int l1] S (Qr (some (.int r.1)) r.2) := by
  refine AM.of rfl (by exact Nat.le_of_ble_eq_true rfl) (fun v h' q => by obtain ⟨rfl, -⟩ := q; exact ⟨_, rfl, rfl⟩) (fun ls e => ?_)
  have e2 : aBeg [.ref a0, .int l1] 2 = [some (.ref a0), some (.int l1)] := rfl
  rw [e2] at e
  subst e
  refine a_sub (sub_k (sub_k (sub_n))) ?_
  exact sX2_at_0 hd (Nat.le_refl _) (Nat.le_refl _) (hf)

-- PencilStrikes.means(III)J
def X7_means_21 (S : AH) (a0 : Nat) : Option (Int64 × AH) :=
  some ((-9223372036854775808 : Int64), S)
def X7_means_51 (S : AH) (a0 : Nat) : Option (Int64 × AH) :=
  some ((-9223372036854775808 : Int64), S)
def X7_means_80 (S : AH) (a0 : Nat) (s0 : Int64) : Option (Int64 × AH) :=
  some (s0, S)
def X7_means_0 (S : AH) (a0 : Nat) (l1 : Int32) (l2 : Int32) (l3 : Int32) : Option (Int64 × AH) :=
  (cO S a0 7 (X7_bargainOf S a0 l1)).bind fun r1 => prp r1 fun zq2 zq2S =>
  ifn zq2 (
    X7_means_21 zq2S a0) fun a3 =>
  (cO zq2S a3 1 (X1_isReadable zq2S a3 l2)).bind fun r4 =>
  if r4.1 = 0 then
    X7_means_21 r4.2 a0
  else
    (gQ r4.2 a0 7 7).bind fun x5 =>
    (cO r4.2 a3 1 (X1_tellDuties r4.2 a3 l2 x5)).bind fun r6 =>
    if l3 < (-1) then
      X7_means_51 r6.2 a0
    else
      (gQ r6.2 a0 7 7).bind fun x7 =>
      (x7).bind fun a8 =>
      (cO r6.2 a8 2 (X2_size r6.2 a8)).bind fun r9 =>
      if l3 < r9.1 then
        if l3 = (-1) then
          (gQ r9.2 a0 7 7).bind fun x13 =>
          (x13).bind fun a14 =>
          (cO r9.2 a14 2 (X2_size r9.2 a14)).bind fun r15 =>
          X7_means_80 r15.2 a0 ((r15.1).toInt64)
        else
          (gQ r9.2 a0 7 7).bind fun x10 =>
          (x10).bind fun a11 =>
          (cO r9.2 a11 2 (X2_at r9.2 a11 l3)).bind fun r12 =>
          X7_means_80 r12.2 a0 ((r12.1).toInt64)
      else
        X7_means_51 r9.2 a0
def X7_means (S : AH) (a0 : Nat) (l1 : Int32) (l2 : Int32) (l3 : Int32) : Option (Int64 × AH) := X7_means_0 S a0 l1 l2 l3
set_option maxHeartbeats 4000000 in
theorem sX7_means_21 {l : Launch} {g : gE} {d MC MS' k n : Nat} {a0 : Nat} (hd : 3 ≤ d) (hk : k ≤ MC) (hn : n ≤ MS') {r : Int64 × AH} {S : AH} (hf : X7_means_21 S a0 = some r) : AW l g d RX7 cX7_means 5 "means" MC MS' (Qr (some (.long r.1)) r.2) k n 21 [none, none, none, none, none] [] S := by
  unfold X7_means_21 at hf
  refine a_ldc2 (pc := 21) (-9223372036854775808 : Int64) dX7_means_21 kc_X7_107 ?_
  have hf := Option.some.inj hf
  subst hf
  exact a_lreturn (pc := 24) dX7_means_24 hk hn ⟨rfl, rfl⟩
set_option maxHeartbeats 4000000 in
theorem sX7_means_51 {l : Launch} {g : gE} {d MC MS' k n : Nat} {a0 : Nat} (hd : 3 ≤ d) (hk : k ≤ MC) (hn : n ≤ MS') {r : Int64 × AH} {S : AH} (hf : X7_means_51 S a0 = some r) : AW l g d RX7 cX7_means 5 "means" MC MS' (Qr (some (.long r.1)) r.2) k n 51 [none, none, none, none, none] [] S := by
  unfold X7_means_51 at hf
  refine a_ldc2 (pc := 51) (-9223372036854775808 : Int64) dX7_means_51 kc_X7_107 ?_
  have hf := Option.some.inj hf
  subst hf
  exact a_lreturn (pc := 54) dX7_means_54 hk hn ⟨rfl, rfl⟩
set_option maxHeartbeats 4000000 in
theorem sX7_means_80 {l : Launch} {g : gE} {d MC MS' k n : Nat} {a0 : Nat} (hd : 3 ≤ d) (hk : k ≤ MC) (hn : n ≤ MS') {r : Int64 × AH} {S : AH} {s0 : Int64} (hf : X7_means_80 S a0 s0 = some r) : AW l g d RX7 cX7_means 5 "means" MC MS' (Qr (some (.long r.1)) r.2) k n 80 [none, none, none, none, none] [.long s0] S := by
  unfold X7_means_80 at hf
  have hf := Option.some.inj hf
  subst hf
  exact a_lreturn (pc := 80) dX7_means_80 hk hn ⟨rfl, rfl⟩
set_option maxHeartbeats 4000000 in
theorem sX7_means_0 {l : Launch} {g : gE} {d MC MS' k n : Nat} {a0 : Nat} (hd : 3 ≤ d) (hk : k ≤ MC) (hn : n ≤ MS') {r : Int64 × AH} {S : AH} {l1 : Int32} {l2 : Int32} {l3 : Int32} (hf : X7_means_0 S a0 l1 l2 l3 = some r) : AW l g d RX7 cX7_means 5 "means" MC MS' (Qr (some (.long r.1)) r.2) k n 0 [some (.ref a0), some (.int l1), some (.int l2), some (.int l3), none] [] S := by
  unfold X7_means_0 at hf
  refine a_aload_n (pc := 0) dX7_means_0 rfl (isRv_r _) ?_
  refine a_iload_n (pc := 1) dX7_means_1 rfl ?_
  obtain ⟨r1, hr1, hf⟩ := Option.bind_eq_some_iff.mp hf
  obtain ⟨zq2, zq2S⟩ := r1
  have hf := (prp_of _ _ _).symm.trans hf
  obtain ⟨hor1, hr1⟩ := cO_of hr1
  refine g_call (pc := 2) (mc := 0) (ms := 0) (va_rf zq2) [.int l1] [] dX7_means_2 ml_X7_91 mv_X7_bargainOf hor1 (by decide) rfl rfl (by omega) (mX7_bargainOf (by omega) hr1) rfl (Nat.le_of_ble_eq_true rfl) hk hn ?_
  refine a_astore (pc := 5) (ls' := [some (.ref a0), some (.int l1), some (.int l2), some (.int l3), some (va_rf zq2)]) dX7_means_5 (by decide) (isRv_rf _) rfl ?_
  refine a_aload (pc := 7) dX7_means_7 rfl (isRv_rf _) ?_
  cases zq2 with
  | none =>
    have hf := (ifn_none _ _).symm.trans hf
    refine a_ifnullN (pc := 9) 21 dX7_means_9 (by decide) ?_
    refine a_sub (sub_d (sub_d (sub_d (sub_d (sub_d sub_n))))) ?_
    exact sX7_means_21 hd hk hn hf
  | some a3 =>
    have hf := (ifn_some _ _ _).symm.trans hf
    refine a_ifnull (pc := 9) dX7_means_9 ?_
    refine a_aload (pc := 12) dX7_means_12 rfl (isRv_r _) ?_
    refine a_iload_n (pc := 14) dX7_means_14 rfl ?_
    obtain ⟨r4, hr4, hf⟩ := Option.bind_eq_some_iff.mp hf
    obtain ⟨hor4, hr4⟩ := cO_of hr4
    refine g_call (pc := 15) (mc := 0) (ms := 0) (.int r4.1) [.int l2] [] dX7_means_15 ml_X7_104 mv_X1_isReadable hor4 (by decide) rfl rfl (by omega) (mX1_isReadable (by omega) hr4) rfl (Nat.le_of_ble_eq_true rfl) hk hn ?_
    refine a_if_ne (pc := 18) 25 dX7_means_18 (by decide) (fun c19 => ?_) (fun c19 => ?_)
    · have hf := (if_neg c19).symm.trans hf
      refine a_aload (pc := 25) dX7_means_25 rfl (isRv_r _) ?_
      refine a_iload_n (pc := 27) dX7_means_27 rfl ?_
      refine a_aload_n (pc := 28) dX7_means_28 rfl (isRv_r _) ?_
      obtain ⟨x5, hx5, hf⟩ := Option.bind_eq_some_iff.mp hf
      refine g_getQ (pc := 29) dX7_means_29 fl_X7_57 hx5 ?_
      obtain ⟨r6, hr6, hf⟩ := Option.bind_eq_some_iff.mp hf
      obtain ⟨hor6, hr6⟩ := cO_of hr6
      refine g_callv (pc := 32) (mc := 0) (ms := 0) [.int l2, va_rf x5] [] dX7_means_32 ml_X7_109 mv_X1_tellDuties hor6 (by decide) rfl rfl (by omega) (mX1_tellDuties (by omega) hr6) rfl (Nat.le_of_ble_eq_true rfl) hk hn ?_
      refine a_iload_n (pc := 35) dX7_means_35 rfl ?_
      refine a_iconst (pc := 36) (-1) dX7_means_36 rfl ?_
      refine a_icmp_lt (pc := 37) 51 dX7_means_37 (by decide) (fun c18 => ?_) (fun c18 => ?_)
      · have hf := (if_pos c18).symm.trans hf
        refine a_sub (sub_d (sub_d (sub_d (sub_d (sub_d sub_n))))) ?_
        exact sX7_means_51 hd hk hn hf
      · have hf := (if_neg c18).symm.trans hf
        refine a_iload_n (pc := 40) dX7_means_40 rfl ?_
        refine a_aload_n (pc := 41) dX7_means_41 rfl (isRv_r _) ?_
        obtain ⟨x7, hx7, hf⟩ := Option.bind_eq_some_iff.mp hf
        refine g_getQ (pc := 42) dX7_means_42 fl_X7_57 hx7 ?_
        obtain ⟨a8, ha8, hf⟩ := Option.bind_eq_some_iff.mp hf
        rw [ha8]
        obtain ⟨r9, hr9, hf⟩ := Option.bind_eq_some_iff.mp hf
        obtain ⟨hor9, hr9⟩ := cO_of hr9
        refine g_call (pc := 45) (mc := 0) (ms := 0) (.int r9.1) [] [.int l3] dX7_means_45 ml_X7_113 mv_X2_size hor9 (by decide) rfl rfl (by omega) (mX2_size (by omega) hr9) rfl (Nat.le_of_ble_eq_true rfl) hk hn ?_
        refine a_icmp_lt (pc := 48) 55 dX7_means_48 (by decide) (fun c17 => ?_) (fun c17 => ?_)
        · have hf := (if_pos c17).symm.trans hf
          refine a_iload_n (pc := 55) dX7_means_55 rfl ?_
          refine a_iconst (pc := 56) (-1) dX7_means_56 rfl ?_
          refine a_icmp_ne (pc := 57) 71 dX7_means_57 (by decide) (fun c16 => ?_) (fun c16 => ?_)
          · have hf := (if_neg c16).symm.trans hf
            refine a_aload_n (pc := 71) dX7_means_71 rfl (isRv_r _) ?_
            obtain ⟨x10, hx10, hf⟩ := Option.bind_eq_some_iff.mp hf
            refine g_getQ (pc := 72) dX7_means_72 fl_X7_57 hx10 ?_
            refine a_iload_n (pc := 75) dX7_means_75 rfl ?_
            obtain ⟨a11, ha11, hf⟩ := Option.bind_eq_some_iff.mp hf
            rw [ha11]
            obtain ⟨r12, hr12, hf⟩ := Option.bind_eq_some_iff.mp hf
            obtain ⟨hor12, hr12⟩ := cO_of hr12
            refine g_call (pc := 76) (mc := 0) (ms := 0) (.int r12.1) [.int l3] [] dX7_means_76 ml_X7_114 mv_X2_at hor12 (by decide) rfl rfl (by omega) (mX2_at (by omega) hr12) rfl (Nat.le_of_ble_eq_true rfl) hk hn ?_
            refine a_i2l (pc := 79) dX7_means_79 ?_
            refine a_sub (sub_d (sub_d (sub_d (sub_d (sub_d sub_n))))) ?_
            exact sX7_means_80 hd hk hn hf
          · have hf := (if_pos c16).symm.trans hf
            refine a_aload_n (pc := 60) dX7_means_60 rfl (isRv_r _) ?_
            obtain ⟨x13, hx13, hf⟩ := Option.bind_eq_some_iff.mp hf
            refine g_getQ (pc := 61) dX7_means_61 fl_X7_57 hx13 ?_
            obtain ⟨a14, ha14, hf⟩ := Option.bind_eq_some_iff.mp hf
            rw [ha14]
            obtain ⟨r15, hr15, hf⟩ := Option.bind_eq_some_iff.mp hf
            obtain ⟨hor15, hr15⟩ := cO_of hr15
            refine g_call (pc := 64) (mc := 0) (ms := 0) (.int r15.1) [] [] dX7_means_64 ml_X7_113 mv_X2_size hor15 (by decide) rfl rfl (by omega) (mX2_size (by omega) hr15) rfl (Nat.le_of_ble_eq_true rfl) hk hn ?_
            refine a_i2l (pc := 67) dX7_means_67 ?_
            refine a_goto (pc := 68) 80 dX7_means_68 (by decide) ?_
            refine a_sub (sub_d (sub_d (sub_d (sub_d (sub_d sub_n))))) ?_
            exact sX7_means_80 hd hk hn hf
        · have hf := (if_neg c17).symm.trans hf
          refine a_sub (sub_d (sub_d (sub_d (sub_d (sub_d sub_n))))) ?_
          exact sX7_means_51 hd hk hn hf
    · have hf := (if_pos c19).symm.trans hf
      refine a_sub (sub_d (sub_d (sub_d (sub_d (sub_d sub_n))))) ?_
      exact sX7_means_21 hd hk hn hf
set_option maxHeartbeats 4000000 in
theorem mX7_means {l : Launch} {g : gE} {d : Nat} {a0 : Nat} (hd : 3 ≤ d) {r : Int64 × AH} {S : AH} {l1 : Int32} {l2 : Int32} {l3 : Int32} (hf : X7_means S a0 l1 l2 l3 = some r) : AM l g d yX7_means cX7_means 5 (some .long) 0 0 [.ref a0, .int l1, .int l2, .int l3] S (Qr (some (.long r.1)) r.2) := by
  refine AM.of rfl (by exact Nat.le_of_ble_eq_true rfl) (fun v h' q => by obtain ⟨rfl, -⟩ := q; rfl) (fun ls e => ?_)
  have e2 : aBeg [.ref a0, .int l1, .int l2, .int l3] 5 = [some (.ref a0), some (.int l1), some (.int l2), some (.int l3), none] := rfl
  rw [e2] at e
  subst e
  refine a_sub (sub_k (sub_k (sub_k (sub_k (sub_k (sub_n)))))) ?_
  exact sX7_means_0 hd (Nat.le_refl _) (Nat.le_refl _) (hf)

-- PencilStrikes$Duties.digit(II)I
def X2_digit_0 (S : AH) (l0 : Int32) (l1 : Int32) : Option (Int32 × AH) :=
  some (((l0 >>> (l1 &&& 31)) &&& 31), S)
def X2_digit (S : AH) (l0 : Int32) (l1 : Int32) : Option (Int32 × AH) := X2_digit_0 S l0 l1
set_option maxHeartbeats 4000000 in
theorem sX2_digit_0 {l : Launch} {g : gE} {d MC MS' k n : Nat} (hd : 0 ≤ d) (hk : k ≤ MC) (hn : n ≤ MS') {r : Int32 × AH} {S : AH} {l0 : Int32} {l1 : Int32} (hf : X2_digit_0 S l0 l1 = some r) : AW l g d RX2 cX2_digit 2 "digit" MC MS' (Qr (some (.int r.1)) r.2) k n 0 [some (.int l0), some (.int l1)] [] S := by
  unfold X2_digit_0 at hf
  refine a_iload_n (pc := 0) dX2_digit_0 rfl ?_
  refine a_iload_n (pc := 1) dX2_digit_1 rfl ?_
  refine a_ishr (pc := 2) dX2_digit_2 ?_
  refine a_bipush (pc := 3) 31 dX2_digit_3 rfl ?_
  refine a_iand (pc := 5) dX2_digit_5 ?_
  have hf := Option.some.inj hf
  subst hf
  exact a_ireturn (pc := 6) dX2_digit_6 hk hn ⟨rfl, rfl⟩
set_option maxHeartbeats 4000000 in
theorem mX2_digit {l : Launch} {g : gE} {d : Nat} (hd : 0 ≤ d) {r : Int32 × AH} {S : AH} {l0 : Int32} {l1 : Int32} (hf : X2_digit S l0 l1 = some r) : AM l g d yX2_digit cX2_digit 2 (some .int) 0 0 [.int l0, .int l1] S (Qr (some (.int r.1)) r.2) := by
  refine AM.of rfl (by exact Nat.le_of_ble_eq_true rfl) (fun v h' q => by obtain ⟨rfl, -⟩ := q; exact ⟨_, rfl, rfl⟩) (fun ls e => ?_)
  have e2 : aBeg [.int l0, .int l1] 2 = [some (.int l0), some (.int l1)] := rfl
  rw [e2] at e
  subst e
  refine a_sub (sub_k (sub_k (sub_n))) ?_
  exact sX2_digit_0 hd (Nat.le_refl _) (Nat.le_refl _) (hf)

-- PencilStrikes$Duties.isGivenBy(I)Z
def X2_isGivenBy_47 (rec2 : AH → Nat → Int32 → Int32 → Option (Int32 × AH)) (S : AH) (a0 : Nat) (l1 : Int32) (l2 : Int32) : Option (Int32 × AH) :=
  rec2 S a0 l1 (l2 + 1)
def X2_isGivenBy_2 : Nat → AH → Nat → Int32 → Int32 → Option (Int32 × AH)
  | 0, _, _, _, _ => none
  | fn + 1, S, a0, l1, l2 =>
    (gI S a0 2 1).bind fun x1 =>
    if x1 ≤ l2 then
      some (0, S)
    else
      (cO S a0 2 (X2_at S a0 l2)).bind fun r2 =>
      (X2_digit r2.2 r2.1 25).bind fun r3 =>
      if r3.1 = l1 then
        (X2_digit r3.2 r2.1 20).bind fun r4 =>
        if r4.1 = 1 then
          (X2_digit r4.2 r2.1 15).bind fun r5 =>
          if r5.1 = 0 then
            some (1, r5.2)
          else
            X2_isGivenBy_47 (X2_isGivenBy_2 fn) r5.2 a0 l1 l2
        else
          X2_isGivenBy_47 (X2_isGivenBy_2 fn) r4.2 a0 l1 l2
      else
        X2_isGivenBy_47 (X2_isGivenBy_2 fn) r3.2 a0 l1 l2
def X2_isGivenBy_0 (S : AH) (a0 : Nat) (l1 : Int32) : Option (Int32 × AH) :=
  X2_isGivenBy_2 FU S a0 l1 0
def X2_isGivenBy (S : AH) (a0 : Nat) (l1 : Int32) : Option (Int32 × AH) := zg (X2_isGivenBy_0 S a0 l1)
set_option maxHeartbeats 4000000 in
theorem sX2_isGivenBy_47 {l : Launch} {g : gE} {d MC MS' k n : Nat} {a0 : Nat} (hd : 1 ≤ d) (hk : k ≤ MC) (hn : n ≤ MS') {r : Int32 × AH} {rec2 : AH → Nat → Int32 → Int32 → Option (Int32 × AH)} (hlp2 : ∀ (S : AH) (l1 : Int32) (l2 : Int32), rec2 S a0 l1 l2 = some r → AW l g d RX2 cX2_isGivenBy 4 "isGivenBy" MC MS' (Qr (some (.int r.1)) r.2) k n 2 [some (.ref a0), some (.int l1), some (.int l2), none] [] S) {S : AH} {l1 : Int32} {l2 : Int32} (hf : X2_isGivenBy_47 rec2 S a0 l1 l2 = some r) : AW l g d RX2 cX2_isGivenBy 4 "isGivenBy" MC MS' (Qr (some (.int r.1)) r.2) k n 47 [some (.ref a0), some (.int l1), some (.int l2), none] [] S := by
  unfold X2_isGivenBy_47 at hf
  refine a_iinc (pc := 47) (ls' := [some (.ref a0), some (.int l1), some (.int (l2 + 1)), none]) (l2 + 1) dX2_isGivenBy_47 rfl rfl (by decide) rfl ?_
  refine a_goto (pc := 50) 2 dX2_isGivenBy_50 (by decide) ?_
  exact hlp2 S l1 (l2 + 1) hf
set_option maxHeartbeats 4000000 in
theorem sX2_isGivenBy_2 {l : Launch} {g : gE} {d MC MS' k n : Nat} {a0 : Nat} (hd : 1 ≤ d) (hk : k ≤ MC) (hn : n ≤ MS') {r : Int32 × AH} : ∀ (fn : Nat) (S : AH) (l1 : Int32) (l2 : Int32), X2_isGivenBy_2 fn S a0 l1 l2 = some r → AW l g d RX2 cX2_isGivenBy 4 "isGivenBy" MC MS' (Qr (some (.int r.1)) r.2) k n 2 [some (.ref a0), some (.int l1), some (.int l2), none] [] S := by
  intro fn
  induction fn with
  | zero =>
    intro S l1 l2 hf
    rw [X2_isGivenBy_2] at hf
    cases hf
  | succ fn ih =>
    intro S l1 l2 hf
    rw [X2_isGivenBy_2] at hf
    refine a_iload_n (pc := 2) dX2_isGivenBy_2 rfl ?_
    refine a_aload_n (pc := 3) dX2_isGivenBy_3 rfl (isRv_r _) ?_
    obtain ⟨x1, hx1, hf⟩ := Option.bind_eq_some_iff.mp hf
    refine g_getI (pc := 4) dX2_isGivenBy_4 fl_X2_15 hx1 ?_
    refine a_icmp_ge (pc := 7) 53 dX2_isGivenBy_7 (by decide) (fun c9 => ?_) (fun c9 => ?_)
    · have hf := (if_pos c9).symm.trans hf
      refine a_iconst (pc := 53) 0 dX2_isGivenBy_53 rfl ?_
      have hf := Option.some.inj hf
      subst hf
      exact a_ireturn (pc := 54) dX2_isGivenBy_54 hk hn ⟨rfl, rfl⟩
    · have hf := (if_neg c9).symm.trans hf
      refine a_aload_n (pc := 10) dX2_isGivenBy_10 rfl (isRv_r _) ?_
      refine a_iload_n (pc := 11) dX2_isGivenBy_11 rfl ?_
      obtain ⟨r2, hr2, hf⟩ := Option.bind_eq_some_iff.mp hf
      obtain ⟨hor2, hr2⟩ := cO_of hr2
      refine g_call (pc := 12) (mc := 0) (ms := 0) (.int r2.1) [.int l2] [] dX2_isGivenBy_12 ml_X2_33 mv_X2_at hor2 (by decide) rfl rfl (by omega) (mX2_at (by omega) hr2) rfl (Nat.le_of_ble_eq_true rfl) hk hn ?_
      refine a_istore_n (pc := 15) (ls' := [some (.ref a0), some (.int l1), some (.int l2), some (.int (r2.1))]) dX2_isGivenBy_15 (by decide) rfl ?_
      refine a_iload_n (pc := 16) dX2_isGivenBy_16 rfl ?_
      refine a_bipush (pc := 17) 25 dX2_isGivenBy_17 rfl ?_
      obtain ⟨r3, hr3, hf⟩ := Option.bind_eq_some_iff.mp hf
      refine g_calls (pc := 19) (mc := 0) (ms := 0) (.int r3.1) [.int (r2.1), .int 25] [] dX2_isGivenBy_19 ml_X2_41 ms_X2_digit rfl (by omega) (mX2_digit (by omega) hr3) rfl (Nat.le_of_ble_eq_true rfl) hk hn ?_
      refine a_iload_n (pc := 22) dX2_isGivenBy_22 rfl ?_
      refine a_icmp_ne (pc := 23) 47 dX2_isGivenBy_23 (by decide) (fun c8 => ?_) (fun c8 => ?_)
      · have hf := (if_neg c8).symm.trans hf
        refine a_sub (sub_k (sub_k (sub_k (sub_d sub_n)))) ?_
        exact sX2_isGivenBy_47 hd hk hn ih hf
      · have hf := (if_pos c8).symm.trans hf
        refine a_iload_n (pc := 26) dX2_isGivenBy_26 rfl ?_
        refine a_bipush (pc := 27) 20 dX2_isGivenBy_27 rfl ?_
        obtain ⟨r4, hr4, hf⟩ := Option.bind_eq_some_iff.mp hf
        refine g_calls (pc := 29) (mc := 0) (ms := 0) (.int r4.1) [.int (r2.1), .int 20] [] dX2_isGivenBy_29 ml_X2_41 ms_X2_digit rfl (by omega) (mX2_digit (by omega) hr4) rfl (Nat.le_of_ble_eq_true rfl) hk hn ?_
        refine a_iconst (pc := 32) 1 dX2_isGivenBy_32 rfl ?_
        refine a_icmp_ne (pc := 33) 47 dX2_isGivenBy_33 (by decide) (fun c7 => ?_) (fun c7 => ?_)
        · have hf := (if_neg c7).symm.trans hf
          refine a_sub (sub_k (sub_k (sub_k (sub_d sub_n)))) ?_
          exact sX2_isGivenBy_47 hd hk hn ih hf
        · have hf := (if_pos c7).symm.trans hf
          refine a_iload_n (pc := 36) dX2_isGivenBy_36 rfl ?_
          refine a_bipush (pc := 37) 15 dX2_isGivenBy_37 rfl ?_
          obtain ⟨r5, hr5, hf⟩ := Option.bind_eq_some_iff.mp hf
          refine g_calls (pc := 39) (mc := 0) (ms := 0) (.int r5.1) [.int (r2.1), .int 15] [] dX2_isGivenBy_39 ml_X2_41 ms_X2_digit rfl (by omega) (mX2_digit (by omega) hr5) rfl (Nat.le_of_ble_eq_true rfl) hk hn ?_
          refine a_if_ne (pc := 42) 47 dX2_isGivenBy_42 (by decide) (fun c6 => ?_) (fun c6 => ?_)
          · have hf := (if_neg c6).symm.trans hf
            refine a_sub (sub_k (sub_k (sub_k (sub_d sub_n)))) ?_
            exact sX2_isGivenBy_47 hd hk hn ih hf
          · have hf := (if_pos c6).symm.trans hf
            refine a_iconst (pc := 45) 1 dX2_isGivenBy_45 rfl ?_
            have hf := Option.some.inj hf
            subst hf
            exact a_ireturn (pc := 46) dX2_isGivenBy_46 hk hn ⟨rfl, rfl⟩
set_option maxHeartbeats 4000000 in
theorem sX2_isGivenBy_0 {l : Launch} {g : gE} {d MC MS' k n : Nat} {a0 : Nat} (hd : 1 ≤ d) (hk : k ≤ MC) (hn : n ≤ MS') {r : Int32 × AH} {S : AH} {l1 : Int32} (hf : X2_isGivenBy_0 S a0 l1 = some r) : AW l g d RX2 cX2_isGivenBy 4 "isGivenBy" MC MS' (Qr (some (.int r.1)) r.2) k n 0 [some (.ref a0), some (.int l1), none, none] [] S := by
  unfold X2_isGivenBy_0 at hf
  refine a_iconst (pc := 0) 0 dX2_isGivenBy_0 rfl ?_
  refine a_istore_n (pc := 1) (ls' := [some (.ref a0), some (.int l1), some (.int 0), none]) dX2_isGivenBy_1 (by decide) rfl ?_
  exact sX2_isGivenBy_2 hd hk hn FU S l1 0 hf
set_option maxHeartbeats 4000000 in
theorem mX2_isGivenBy {l : Launch} {g : gE} {d : Nat} {a0 : Nat} (hd : 1 ≤ d) {r : Int32 × AH} {S : AH} {l1 : Int32} (hf : X2_isGivenBy S a0 l1 = some r) : AM l g d yX2_isGivenBy cX2_isGivenBy 4 (some .boolean) 0 0 [.ref a0, .int l1] S (Qr (some (.int r.1)) r.2) := by
  refine AM.of rfl (by exact Nat.le_of_ble_eq_true rfl) (fun v h' q => by obtain ⟨rfl, -⟩ := q; refine ⟨_, rfl, ?_⟩; rcases (zg_of hf).2 with e | e <;> rw [e] <;> rfl) (fun ls e => ?_)
  have e2 : aBeg [.ref a0, .int l1] 4 = [some (.ref a0), some (.int l1), none, none] := rfl
  rw [e2] at e
  subst e
  refine a_sub (sub_k (sub_k (sub_k (sub_k (sub_n))))) ?_
  exact sX2_isGivenBy_0 hd (Nat.le_refl _) (Nat.le_refl _) ((zg_of hf).1)

-- PencilStrikes$Duties.longsOfNots()I
def X2_longsOfNots_40 (rec4 : AH → Nat → Int32 → Int32 → Option (Int32 × AH)) (S : AH) (a0 : Nat) (s0 : Int32) (s1 : Int32) (l2 : Int32) : Option (Int32 × AH) :=
  rec4 S a0 (s0 + s1) (l2 + 1)
def X2_longsOfNots_4 : Nat → AH → Nat → Int32 → Int32 → Option (Int32 × AH)
  | 0, _, _, _, _ => none
  | fn + 1, S, a0, l1, l2 =>
    (gI S a0 2 1).bind fun x1 =>
    if x1 ≤ l2 then
      some (l1, S)
    else
      (cO S a0 2 (X2_at S a0 l2)).bind fun r2 =>
      (X2_digit r2.2 r2.1 15).bind fun r3 =>
      if r3.1 = 1 then
        (cO r3.2 a0 2 (X2_at r3.2 a0 l2)).bind fun r4 =>
        (X2_digit r4.2 r4.1 0).bind fun r5 =>
        X2_longsOfNots_40 (X2_longsOfNots_4 fn) r5.2 a0 l1 r5.1 l2
      else
        X2_longsOfNots_40 (X2_longsOfNots_4 fn) r3.2 a0 l1 0 l2
def X2_longsOfNots_0 (S : AH) (a0 : Nat) : Option (Int32 × AH) :=
  X2_longsOfNots_4 FU S a0 0 0
def X2_longsOfNots (S : AH) (a0 : Nat) : Option (Int32 × AH) := X2_longsOfNots_0 S a0
set_option maxHeartbeats 4000000 in
theorem sX2_longsOfNots_40 {l : Launch} {g : gE} {d MC MS' k n : Nat} {a0 : Nat} (hd : 1 ≤ d) (hk : k ≤ MC) (hn : n ≤ MS') {r : Int32 × AH} {rec4 : AH → Nat → Int32 → Int32 → Option (Int32 × AH)} (hlp4 : ∀ (S : AH) (l1 : Int32) (l2 : Int32), rec4 S a0 l1 l2 = some r → AW l g d RX2 cX2_longsOfNots 3 "longsOfNots" MC MS' (Qr (some (.int r.1)) r.2) k n 4 [some (.ref a0), some (.int l1), some (.int l2)] [] S) {S : AH} {s0 : Int32} {s1 : Int32} {l2 : Int32} (hf : X2_longsOfNots_40 rec4 S a0 s0 s1 l2 = some r) : AW l g d RX2 cX2_longsOfNots 3 "longsOfNots" MC MS' (Qr (some (.int r.1)) r.2) k n 40 [some (.ref a0), none, some (.int l2)] [.int s1, .int s0] S := by
  unfold X2_longsOfNots_40 at hf
  refine a_iadd (pc := 40) dX2_longsOfNots_40 ?_
  refine a_istore_n (pc := 41) (ls' := [some (.ref a0), some (.int (s0 + s1)), some (.int l2)]) dX2_longsOfNots_41 (by decide) rfl ?_
  refine a_iinc (pc := 42) (ls' := [some (.ref a0), some (.int (s0 + s1)), some (.int (l2 + 1))]) (l2 + 1) dX2_longsOfNots_42 rfl rfl (by decide) rfl ?_
  refine a_goto (pc := 45) 4 dX2_longsOfNots_45 (by decide) ?_
  exact hlp4 S (s0 + s1) (l2 + 1) hf
set_option maxHeartbeats 4000000 in
theorem sX2_longsOfNots_4 {l : Launch} {g : gE} {d MC MS' k n : Nat} {a0 : Nat} (hd : 1 ≤ d) (hk : k ≤ MC) (hn : n ≤ MS') {r : Int32 × AH} : ∀ (fn : Nat) (S : AH) (l1 : Int32) (l2 : Int32), X2_longsOfNots_4 fn S a0 l1 l2 = some r → AW l g d RX2 cX2_longsOfNots 3 "longsOfNots" MC MS' (Qr (some (.int r.1)) r.2) k n 4 [some (.ref a0), some (.int l1), some (.int l2)] [] S := by
  intro fn
  induction fn with
  | zero =>
    intro S l1 l2 hf
    rw [X2_longsOfNots_4] at hf
    cases hf
  | succ fn ih =>
    intro S l1 l2 hf
    rw [X2_longsOfNots_4] at hf
    refine a_iload_n (pc := 4) dX2_longsOfNots_4 rfl ?_
    refine a_aload_n (pc := 5) dX2_longsOfNots_5 rfl (isRv_r _) ?_
    obtain ⟨x1, hx1, hf⟩ := Option.bind_eq_some_iff.mp hf
    refine g_getI (pc := 6) dX2_longsOfNots_6 fl_X2_15 hx1 ?_
    refine a_icmp_ge (pc := 9) 48 dX2_longsOfNots_9 (by decide) (fun c7 => ?_) (fun c7 => ?_)
    · have hf := (if_pos c7).symm.trans hf
      refine a_iload_n (pc := 48) dX2_longsOfNots_48 rfl ?_
      have hf := Option.some.inj hf
      subst hf
      exact a_ireturn (pc := 49) dX2_longsOfNots_49 hk hn ⟨rfl, rfl⟩
    · have hf := (if_neg c7).symm.trans hf
      refine a_iload_n (pc := 12) dX2_longsOfNots_12 rfl ?_
      refine a_aload_n (pc := 13) dX2_longsOfNots_13 rfl (isRv_r _) ?_
      refine a_iload_n (pc := 14) dX2_longsOfNots_14 rfl ?_
      obtain ⟨r2, hr2, hf⟩ := Option.bind_eq_some_iff.mp hf
      obtain ⟨hor2, hr2⟩ := cO_of hr2
      refine g_call (pc := 15) (mc := 0) (ms := 0) (.int r2.1) [.int l2] [.int l1] dX2_longsOfNots_15 ml_X2_33 mv_X2_at hor2 (by decide) rfl rfl (by omega) (mX2_at (by omega) hr2) rfl (Nat.le_of_ble_eq_true rfl) hk hn ?_
      refine a_bipush (pc := 18) 15 dX2_longsOfNots_18 rfl ?_
      obtain ⟨r3, hr3, hf⟩ := Option.bind_eq_some_iff.mp hf
      refine g_calls (pc := 20) (mc := 0) (ms := 0) (.int r3.1) [.int (r2.1), .int 15] [.int l1] dX2_longsOfNots_20 ml_X2_41 ms_X2_digit rfl (by omega) (mX2_digit (by omega) hr3) rfl (Nat.le_of_ble_eq_true rfl) hk hn ?_
      refine a_iconst (pc := 23) 1 dX2_longsOfNots_23 rfl ?_
      refine a_icmp_ne (pc := 24) 39 dX2_longsOfNots_24 (by decide) (fun c6 => ?_) (fun c6 => ?_)
      · have hf := (if_neg c6).symm.trans hf
        refine a_iconst (pc := 39) 0 dX2_longsOfNots_39 rfl ?_
        refine a_sub (sub_k (sub_d (sub_k sub_n))) ?_
        exact sX2_longsOfNots_40 hd hk hn ih hf
      · have hf := (if_pos c6).symm.trans hf
        refine a_aload_n (pc := 27) dX2_longsOfNots_27 rfl (isRv_r _) ?_
        refine a_iload_n (pc := 28) dX2_longsOfNots_28 rfl ?_
        obtain ⟨r4, hr4, hf⟩ := Option.bind_eq_some_iff.mp hf
        obtain ⟨hor4, hr4⟩ := cO_of hr4
        refine g_call (pc := 29) (mc := 0) (ms := 0) (.int r4.1) [.int l2] [.int l1] dX2_longsOfNots_29 ml_X2_33 mv_X2_at hor4 (by decide) rfl rfl (by omega) (mX2_at (by omega) hr4) rfl (Nat.le_of_ble_eq_true rfl) hk hn ?_
        refine a_iconst (pc := 32) 0 dX2_longsOfNots_32 rfl ?_
        obtain ⟨r5, hr5, hf⟩ := Option.bind_eq_some_iff.mp hf
        refine g_calls (pc := 33) (mc := 0) (ms := 0) (.int r5.1) [.int (r4.1), .int 0] [.int l1] dX2_longsOfNots_33 ml_X2_41 ms_X2_digit rfl (by omega) (mX2_digit (by omega) hr5) rfl (Nat.le_of_ble_eq_true rfl) hk hn ?_
        refine a_goto (pc := 36) 40 dX2_longsOfNots_36 (by decide) ?_
        refine a_sub (sub_k (sub_d (sub_k sub_n))) ?_
        exact sX2_longsOfNots_40 hd hk hn ih hf
set_option maxHeartbeats 4000000 in
theorem sX2_longsOfNots_0 {l : Launch} {g : gE} {d MC MS' k n : Nat} {a0 : Nat} (hd : 1 ≤ d) (hk : k ≤ MC) (hn : n ≤ MS') {r : Int32 × AH} {S : AH} (hf : X2_longsOfNots_0 S a0 = some r) : AW l g d RX2 cX2_longsOfNots 3 "longsOfNots" MC MS' (Qr (some (.int r.1)) r.2) k n 0 [some (.ref a0), none, none] [] S := by
  unfold X2_longsOfNots_0 at hf
  refine a_iconst (pc := 0) 0 dX2_longsOfNots_0 rfl ?_
  refine a_istore_n (pc := 1) (ls' := [some (.ref a0), some (.int 0), none]) dX2_longsOfNots_1 (by decide) rfl ?_
  refine a_iconst (pc := 2) 0 dX2_longsOfNots_2 rfl ?_
  refine a_istore_n (pc := 3) (ls' := [some (.ref a0), some (.int 0), some (.int 0)]) dX2_longsOfNots_3 (by decide) rfl ?_
  exact sX2_longsOfNots_4 hd hk hn FU S 0 0 hf
set_option maxHeartbeats 4000000 in
theorem mX2_longsOfNots {l : Launch} {g : gE} {d : Nat} {a0 : Nat} (hd : 1 ≤ d) {r : Int32 × AH} {S : AH} (hf : X2_longsOfNots S a0 = some r) : AM l g d yX2_longsOfNots cX2_longsOfNots 3 (some .int) 0 0 [.ref a0] S (Qr (some (.int r.1)) r.2) := by
  refine AM.of rfl (by exact Nat.le_of_ble_eq_true rfl) (fun v h' q => by obtain ⟨rfl, -⟩ := q; exact ⟨_, rfl, rfl⟩) (fun ls e => ?_)
  have e2 : aBeg [.ref a0] 3 = [some (.ref a0), none, none] := rfl
  rw [e2] at e
  subst e
  refine a_sub (sub_k (sub_k (sub_k (sub_n)))) ?_
  exact sX2_longsOfNots_0 hd (Nat.le_refl _) (Nat.le_refl _) (hf)

-- PencilStrikes$Duties.paidTo(I)I
def X2_paidTo_78 (rec4 : AH → Nat → Int32 → Int32 → Int32 → Option (Int32 × AH)) (S : AH) (a0 : Nat) (l1 : Int32) (l2 : Int32) (l3 : Int32) : Option (Int32 × AH) :=
  rec4 S a0 l1 l2 (l3 + 1)
def X2_paidTo_46 (rec4 : AH → Nat → Int32 → Int32 → Int32 → Option (Int32 × AH)) (S : AH) (a0 : Nat) (s0 : Int32) (l1 : Int32) (l2 : Int32) (l3 : Int32) (l4 : Int32) : Option (Int32 × AH) :=
  if s0 = 0 then
    X2_paidTo_78 rec4 S a0 l1 l2 l3
  else
    (X2_digit S l4 10).bind fun r1 =>
    if r1.1 < 10 then
      X2_paidTo_78 rec4 r1.2 a0 l1 l2 l3
    else
      (X2_digit r1.2 l4 10).bind fun r2 =>
      X2_paidTo_78 rec4 r2.2 a0 l1 (l2 + (r2.1 - 10)) l3
def X2_paidTo_45 (rec4 : AH → Nat → Int32 → Int32 → Int32 → Option (Int32 × AH)) (S : AH) (a0 : Nat) (l1 : Int32) (l2 : Int32) (l3 : Int32) (l4 : Int32) : Option (Int32 × AH) :=
  X2_paidTo_46 rec4 S a0 0 l1 l2 l3 l4
def X2_paidTo_4 : Nat → AH → Nat → Int32 → Int32 → Int32 → Option (Int32 × AH)
  | 0, _, _, _, _, _ => none
  | fn + 1, S, a0, l1, l2, l3 =>
    (gI S a0 2 1).bind fun x1 =>
    if x1 ≤ l3 then
      some (l2, S)
    else
      (cO S a0 2 (X2_at S a0 l3)).bind fun r2 =>
      (X2_digit r2.2 r2.1 25).bind fun r3 =>
      if r3.1 = l1 then
        X2_paidTo_45 (X2_paidTo_4 fn) r3.2 a0 l1 l2 l3 r2.1
      else
        (X2_digit r3.2 r2.1 20).bind fun r4 =>
        if r4.1 = 1 then
          X2_paidTo_46 (X2_paidTo_4 fn) r4.2 a0 1 l1 l2 l3 r2.1
        else
          X2_paidTo_45 (X2_paidTo_4 fn) r4.2 a0 l1 l2 l3 r2.1
def X2_paidTo_0 (S : AH) (a0 : Nat) (l1 : Int32) : Option (Int32 × AH) :=
  X2_paidTo_4 FU S a0 l1 0 0
def X2_paidTo (S : AH) (a0 : Nat) (l1 : Int32) : Option (Int32 × AH) := X2_paidTo_0 S a0 l1
set_option maxHeartbeats 4000000 in
theorem sX2_paidTo_78 {l : Launch} {g : gE} {d MC MS' k n : Nat} {a0 : Nat} (hd : 1 ≤ d) (hk : k ≤ MC) (hn : n ≤ MS') {r : Int32 × AH} {rec4 : AH → Nat → Int32 → Int32 → Int32 → Option (Int32 × AH)} (hlp4 : ∀ (S : AH) (l1 : Int32) (l2 : Int32) (l3 : Int32), rec4 S a0 l1 l2 l3 = some r → AW l g d RX2 cX2_paidTo 6 "paidTo" MC MS' (Qr (some (.int r.1)) r.2) k n 4 [some (.ref a0), some (.int l1), some (.int l2), some (.int l3), none, none] [] S) {S : AH} {l1 : Int32} {l2 : Int32} {l3 : Int32} (hf : X2_paidTo_78 rec4 S a0 l1 l2 l3 = some r) : AW l g d RX2 cX2_paidTo 6 "paidTo" MC MS' (Qr (some (.int r.1)) r.2) k n 78 [some (.ref a0), some (.int l1), some (.int l2), some (.int l3), none, none] [] S := by
  unfold X2_paidTo_78 at hf
  refine a_iinc (pc := 78) (ls' := [some (.ref a0), some (.int l1), some (.int l2), some (.int (l3 + 1)), none, none]) (l3 + 1) dX2_paidTo_78 rfl rfl (by decide) rfl ?_
  refine a_goto (pc := 81) 4 dX2_paidTo_81 (by decide) ?_
  exact hlp4 S l1 l2 (l3 + 1) hf
set_option maxHeartbeats 4000000 in
theorem sX2_paidTo_46 {l : Launch} {g : gE} {d MC MS' k n : Nat} {a0 : Nat} (hd : 1 ≤ d) (hk : k ≤ MC) (hn : n ≤ MS') {r : Int32 × AH} {rec4 : AH → Nat → Int32 → Int32 → Int32 → Option (Int32 × AH)} (hlp4 : ∀ (S : AH) (l1 : Int32) (l2 : Int32) (l3 : Int32), rec4 S a0 l1 l2 l3 = some r → AW l g d RX2 cX2_paidTo 6 "paidTo" MC MS' (Qr (some (.int r.1)) r.2) k n 4 [some (.ref a0), some (.int l1), some (.int l2), some (.int l3), none, none] [] S) {S : AH} {s0 : Int32} {l1 : Int32} {l2 : Int32} {l3 : Int32} {l4 : Int32} (hf : X2_paidTo_46 rec4 S a0 s0 l1 l2 l3 l4 = some r) : AW l g d RX2 cX2_paidTo 6 "paidTo" MC MS' (Qr (some (.int r.1)) r.2) k n 46 [some (.ref a0), some (.int l1), some (.int l2), some (.int l3), some (.int l4), none] [.int s0] S := by
  unfold X2_paidTo_46 at hf
  refine a_istore (pc := 46) (ls' := [some (.ref a0), some (.int l1), some (.int l2), some (.int l3), some (.int l4), some (.int s0)]) dX2_paidTo_46 (by decide) rfl ?_
  refine a_iload (pc := 48) dX2_paidTo_48 rfl ?_
  refine a_if_eq (pc := 50) 78 dX2_paidTo_50 (by decide) (fun c4 => ?_) (fun c4 => ?_)
  · have hf := (if_pos c4).symm.trans hf
    refine a_sub (sub_k (sub_k (sub_k (sub_k (sub_d (sub_d sub_n)))))) ?_
    exact sX2_paidTo_78 hd hk hn hlp4 hf
  · have hf := (if_neg c4).symm.trans hf
    refine a_iload (pc := 53) dX2_paidTo_53 rfl ?_
    refine a_bipush (pc := 55) 10 dX2_paidTo_55 rfl ?_
    obtain ⟨r1, hr1, hf⟩ := Option.bind_eq_some_iff.mp hf
    refine g_calls (pc := 57) (mc := 0) (ms := 0) (.int r1.1) [.int l4, .int 10] [] dX2_paidTo_57 ml_X2_41 ms_X2_digit rfl (by omega) (mX2_digit (by omega) hr1) rfl (Nat.le_of_ble_eq_true rfl) hk hn ?_
    refine a_bipush (pc := 60) 10 dX2_paidTo_60 rfl ?_
    refine a_icmp_lt (pc := 62) 78 dX2_paidTo_62 (by decide) (fun c3 => ?_) (fun c3 => ?_)
    · have hf := (if_pos c3).symm.trans hf
      refine a_sub (sub_k (sub_k (sub_k (sub_k (sub_d (sub_d sub_n)))))) ?_
      exact sX2_paidTo_78 hd hk hn hlp4 hf
    · have hf := (if_neg c3).symm.trans hf
      refine a_iload_n (pc := 65) dX2_paidTo_65 rfl ?_
      refine a_iload (pc := 66) dX2_paidTo_66 rfl ?_
      refine a_bipush (pc := 68) 10 dX2_paidTo_68 rfl ?_
      obtain ⟨r2, hr2, hf⟩ := Option.bind_eq_some_iff.mp hf
      refine g_calls (pc := 70) (mc := 0) (ms := 0) (.int r2.1) [.int l4, .int 10] [.int l2] dX2_paidTo_70 ml_X2_41 ms_X2_digit rfl (by omega) (mX2_digit (by omega) hr2) rfl (Nat.le_of_ble_eq_true rfl) hk hn ?_
      refine a_bipush (pc := 73) 10 dX2_paidTo_73 rfl ?_
      refine a_isub (pc := 75) dX2_paidTo_75 ?_
      refine a_iadd (pc := 76) dX2_paidTo_76 ?_
      refine a_istore_n (pc := 77) (ls' := [some (.ref a0), some (.int l1), some (.int (l2 + (r2.1 - 10))), some (.int l3), some (.int l4), some (.int s0)]) dX2_paidTo_77 (by decide) rfl ?_
      refine a_sub (sub_k (sub_k (sub_k (sub_k (sub_d (sub_d sub_n)))))) ?_
      exact sX2_paidTo_78 hd hk hn hlp4 hf
set_option maxHeartbeats 4000000 in
theorem sX2_paidTo_45 {l : Launch} {g : gE} {d MC MS' k n : Nat} {a0 : Nat} (hd : 1 ≤ d) (hk : k ≤ MC) (hn : n ≤ MS') {r : Int32 × AH} {rec4 : AH → Nat → Int32 → Int32 → Int32 → Option (Int32 × AH)} (hlp4 : ∀ (S : AH) (l1 : Int32) (l2 : Int32) (l3 : Int32), rec4 S a0 l1 l2 l3 = some r → AW l g d RX2 cX2_paidTo 6 "paidTo" MC MS' (Qr (some (.int r.1)) r.2) k n 4 [some (.ref a0), some (.int l1), some (.int l2), some (.int l3), none, none] [] S) {S : AH} {l1 : Int32} {l2 : Int32} {l3 : Int32} {l4 : Int32} (hf : X2_paidTo_45 rec4 S a0 l1 l2 l3 l4 = some r) : AW l g d RX2 cX2_paidTo 6 "paidTo" MC MS' (Qr (some (.int r.1)) r.2) k n 45 [some (.ref a0), some (.int l1), some (.int l2), some (.int l3), some (.int l4), none] [] S := by
  unfold X2_paidTo_45 at hf
  refine a_iconst (pc := 45) 0 dX2_paidTo_45 rfl ?_
  exact sX2_paidTo_46 hd hk hn hlp4 hf
set_option maxHeartbeats 4000000 in
theorem sX2_paidTo_4 {l : Launch} {g : gE} {d MC MS' k n : Nat} {a0 : Nat} (hd : 1 ≤ d) (hk : k ≤ MC) (hn : n ≤ MS') {r : Int32 × AH} : ∀ (fn : Nat) (S : AH) (l1 : Int32) (l2 : Int32) (l3 : Int32), X2_paidTo_4 fn S a0 l1 l2 l3 = some r → AW l g d RX2 cX2_paidTo 6 "paidTo" MC MS' (Qr (some (.int r.1)) r.2) k n 4 [some (.ref a0), some (.int l1), some (.int l2), some (.int l3), none, none] [] S := by
  intro fn
  induction fn with
  | zero =>
    intro S l1 l2 l3 hf
    rw [X2_paidTo_4] at hf
    cases hf
  | succ fn ih =>
    intro S l1 l2 l3 hf
    rw [X2_paidTo_4] at hf
    refine a_iload_n (pc := 4) dX2_paidTo_4 rfl ?_
    refine a_aload_n (pc := 5) dX2_paidTo_5 rfl (isRv_r _) ?_
    obtain ⟨x1, hx1, hf⟩ := Option.bind_eq_some_iff.mp hf
    refine g_getI (pc := 6) dX2_paidTo_6 fl_X2_15 hx1 ?_
    refine a_icmp_ge (pc := 9) 84 dX2_paidTo_9 (by decide) (fun c7 => ?_) (fun c7 => ?_)
    · have hf := (if_pos c7).symm.trans hf
      refine a_iload_n (pc := 84) dX2_paidTo_84 rfl ?_
      have hf := Option.some.inj hf
      subst hf
      exact a_ireturn (pc := 85) dX2_paidTo_85 hk hn ⟨rfl, rfl⟩
    · have hf := (if_neg c7).symm.trans hf
      refine a_aload_n (pc := 12) dX2_paidTo_12 rfl (isRv_r _) ?_
      refine a_iload_n (pc := 13) dX2_paidTo_13 rfl ?_
      obtain ⟨r2, hr2, hf⟩ := Option.bind_eq_some_iff.mp hf
      obtain ⟨hor2, hr2⟩ := cO_of hr2
      refine g_call (pc := 14) (mc := 0) (ms := 0) (.int r2.1) [.int l3] [] dX2_paidTo_14 ml_X2_33 mv_X2_at hor2 (by decide) rfl rfl (by omega) (mX2_at (by omega) hr2) rfl (Nat.le_of_ble_eq_true rfl) hk hn ?_
      refine a_istore (pc := 17) (ls' := [some (.ref a0), some (.int l1), some (.int l2), some (.int l3), some (.int (r2.1)), none]) dX2_paidTo_17 (by decide) rfl ?_
      refine a_iload (pc := 19) dX2_paidTo_19 rfl ?_
      refine a_bipush (pc := 21) 25 dX2_paidTo_21 rfl ?_
      obtain ⟨r3, hr3, hf⟩ := Option.bind_eq_some_iff.mp hf
      refine g_calls (pc := 23) (mc := 0) (ms := 0) (.int r3.1) [.int (r2.1), .int 25] [] dX2_paidTo_23 ml_X2_41 ms_X2_digit rfl (by omega) (mX2_digit (by omega) hr3) rfl (Nat.le_of_ble_eq_true rfl) hk hn ?_
      refine a_iload_n (pc := 26) dX2_paidTo_26 rfl ?_
      refine a_icmp_eq (pc := 27) 45 dX2_paidTo_27 (by decide) (fun c6 => ?_) (fun c6 => ?_)
      · have hf := (if_pos c6).symm.trans hf
        exact sX2_paidTo_45 hd hk hn ih hf
      · have hf := (if_neg c6).symm.trans hf
        refine a_iload (pc := 30) dX2_paidTo_30 rfl ?_
        refine a_bipush (pc := 32) 20 dX2_paidTo_32 rfl ?_
        obtain ⟨r4, hr4, hf⟩ := Option.bind_eq_some_iff.mp hf
        refine g_calls (pc := 34) (mc := 0) (ms := 0) (.int r4.1) [.int (r2.1), .int 20] [] dX2_paidTo_34 ml_X2_41 ms_X2_digit rfl (by omega) (mX2_digit (by omega) hr4) rfl (Nat.le_of_ble_eq_true rfl) hk hn ?_
        refine a_iconst (pc := 37) 1 dX2_paidTo_37 rfl ?_
        refine a_icmp_ne (pc := 38) 45 dX2_paidTo_38 (by decide) (fun c5 => ?_) (fun c5 => ?_)
        · have hf := (if_neg c5).symm.trans hf
          exact sX2_paidTo_45 hd hk hn ih hf
        · have hf := (if_pos c5).symm.trans hf
          refine a_iconst (pc := 41) 1 dX2_paidTo_41 rfl ?_
          refine a_goto (pc := 42) 46 dX2_paidTo_42 (by decide) ?_
          exact sX2_paidTo_46 hd hk hn ih hf
set_option maxHeartbeats 4000000 in
theorem sX2_paidTo_0 {l : Launch} {g : gE} {d MC MS' k n : Nat} {a0 : Nat} (hd : 1 ≤ d) (hk : k ≤ MC) (hn : n ≤ MS') {r : Int32 × AH} {S : AH} {l1 : Int32} (hf : X2_paidTo_0 S a0 l1 = some r) : AW l g d RX2 cX2_paidTo 6 "paidTo" MC MS' (Qr (some (.int r.1)) r.2) k n 0 [some (.ref a0), some (.int l1), none, none, none, none] [] S := by
  unfold X2_paidTo_0 at hf
  refine a_iconst (pc := 0) 0 dX2_paidTo_0 rfl ?_
  refine a_istore_n (pc := 1) (ls' := [some (.ref a0), some (.int l1), some (.int 0), none, none, none]) dX2_paidTo_1 (by decide) rfl ?_
  refine a_iconst (pc := 2) 0 dX2_paidTo_2 rfl ?_
  refine a_istore_n (pc := 3) (ls' := [some (.ref a0), some (.int l1), some (.int 0), some (.int 0), none, none]) dX2_paidTo_3 (by decide) rfl ?_
  exact sX2_paidTo_4 hd hk hn FU S l1 0 0 hf
set_option maxHeartbeats 4000000 in
theorem mX2_paidTo {l : Launch} {g : gE} {d : Nat} {a0 : Nat} (hd : 1 ≤ d) {r : Int32 × AH} {S : AH} {l1 : Int32} (hf : X2_paidTo S a0 l1 = some r) : AM l g d yX2_paidTo cX2_paidTo 6 (some .int) 0 0 [.ref a0, .int l1] S (Qr (some (.int r.1)) r.2) := by
  refine AM.of rfl (by exact Nat.le_of_ble_eq_true rfl) (fun v h' q => by obtain ⟨rfl, -⟩ := q; exact ⟨_, rfl, rfl⟩) (fun ls e => ?_)
  have e2 : aBeg [.ref a0, .int l1] 6 = [some (.ref a0), some (.int l1), none, none, none, none] := rfl
  rw [e2] at e
  subst e
  refine a_sub (sub_k (sub_k (sub_k (sub_k (sub_k (sub_k (sub_n))))))) ?_
  exact sX2_paidTo_0 hd (Nat.le_refl _) (Nat.le_refl _) (hf)

-- PencilStrikes$Law.holds(III)Z
def X3_holds_80 (S : AH) (s0 : Int32) : Option (Int32 × AH) :=
  some (s0, S)
def X3_holds_93 (S : AH) (s0 : Int32) : Option (Int32 × AH) :=
  some (s0, S)
def X3_holds_106 (S : AH) (s0 : Int32) : Option (Int32 × AH) :=
  some (s0, S)
def X3_holds_31 (S : AH) (s0 : Int32) (l0 : Int32) (l4 : Int32) : Option (Int32 × AH) :=
  if ((l0 >>> ((10 : Int32) &&& 31)) &&& 255) = 60 then
    if l4 ≤ s0 then
      X3_holds_80 S 0
    else
      X3_holds_80 S 1
  else
    if ((l0 >>> ((10 : Int32) &&& 31)) &&& 255) = 61 then
      if s0 = l4 then
        X3_holds_93 S 1
      else
        X3_holds_93 S 0
    else
      if s0 ≤ l4 then
        X3_holds_106 S 0
      else
        X3_holds_106 S 1
def X3_holds_0 (S : AH) (l0 : Int32) (l1 : Int32) (l2 : Int32) : Option (Int32 × AH) :=
  if 6 ≤ (l0 >>> ((18 : Int32) &&& 31)) then
    X3_holds_31 S l2 l0 (l0 &&& 1023)
  else
    (X2_digit S l1 (5 * (5 - (l0 >>> ((18 : Int32) &&& 31))))).bind fun r1 =>
    X3_holds_31 r1.2 r1.1 l0 (l0 &&& 1023)
def X3_holds (S : AH) (l0 : Int32) (l1 : Int32) (l2 : Int32) : Option (Int32 × AH) := zg (X3_holds_0 S l0 l1 l2)
set_option maxHeartbeats 4000000 in
theorem sX3_holds_80 {l : Launch} {g : gE} {d MC MS' k n : Nat} (hd : 1 ≤ d) (hk : k ≤ MC) (hn : n ≤ MS') {r : Int32 × AH} {S : AH} {s0 : Int32} (hf : X3_holds_80 S s0 = some r) : AW l g d RX3 cX3_holds 6 "holds" MC MS' (Qr (some (.int r.1)) r.2) k n 80 [none, none, none, none, none, none] [.int s0] S := by
  unfold X3_holds_80 at hf
  have hf := Option.some.inj hf
  subst hf
  exact a_ireturn (pc := 80) dX3_holds_80 hk hn ⟨rfl, rfl⟩
set_option maxHeartbeats 4000000 in
theorem sX3_holds_93 {l : Launch} {g : gE} {d MC MS' k n : Nat} (hd : 1 ≤ d) (hk : k ≤ MC) (hn : n ≤ MS') {r : Int32 × AH} {S : AH} {s0 : Int32} (hf : X3_holds_93 S s0 = some r) : AW l g d RX3 cX3_holds 6 "holds" MC MS' (Qr (some (.int r.1)) r.2) k n 93 [none, none, none, none, none, none] [.int s0] S := by
  unfold X3_holds_93 at hf
  have hf := Option.some.inj hf
  subst hf
  exact a_ireturn (pc := 93) dX3_holds_93 hk hn ⟨rfl, rfl⟩
set_option maxHeartbeats 4000000 in
theorem sX3_holds_106 {l : Launch} {g : gE} {d MC MS' k n : Nat} (hd : 1 ≤ d) (hk : k ≤ MC) (hn : n ≤ MS') {r : Int32 × AH} {S : AH} {s0 : Int32} (hf : X3_holds_106 S s0 = some r) : AW l g d RX3 cX3_holds 6 "holds" MC MS' (Qr (some (.int r.1)) r.2) k n 106 [none, none, none, none, none, none] [.int s0] S := by
  unfold X3_holds_106 at hf
  have hf := Option.some.inj hf
  subst hf
  exact a_ireturn (pc := 106) dX3_holds_106 hk hn ⟨rfl, rfl⟩
set_option maxHeartbeats 4000000 in
theorem sX3_holds_31 {l : Launch} {g : gE} {d MC MS' k n : Nat} (hd : 1 ≤ d) (hk : k ≤ MC) (hn : n ≤ MS') {r : Int32 × AH} {S : AH} {s0 : Int32} {l0 : Int32} {l4 : Int32} (hf : X3_holds_31 S s0 l0 l4 = some r) : AW l g d RX3 cX3_holds 6 "holds" MC MS' (Qr (some (.int r.1)) r.2) k n 31 [some (.int l0), none, none, none, some (.int l4), none] [.int s0] S := by
  unfold X3_holds_31 at hf
  refine a_istore (pc := 31) (ls' := [some (.int l0), none, none, none, some (.int l4), some (.int s0)]) dX3_holds_31 (by decide) rfl ?_
  refine a_iload_n (pc := 33) dX3_holds_33 rfl ?_
  refine a_bipush (pc := 34) 10 dX3_holds_34 rfl ?_
  refine a_ishr (pc := 36) dX3_holds_36 ?_
  refine a_sipush (pc := 37) 255 dX3_holds_37 rfl ?_
  refine a_iand (pc := 40) dX3_holds_40 ?_
  by_cases c4_0 : ((l0 >>> ((10 : Int32) &&& 31)) &&& 255) = 60
  · have hf := (if_pos c4_0).symm.trans hf
    refine a_lookup (pc := 41) 68 dX3_holds_41 (by decide) (by show (41 : Int) + Op.lookupswitch.offset [(60, 27), (61, 40)] 53 _ = _; rw [c4_0]; rfl) ?_
    refine a_iload (pc := 68) dX3_holds_68 rfl ?_
    refine a_iload (pc := 70) dX3_holds_70 rfl ?_
    refine a_icmp_ge (pc := 72) 79 dX3_holds_72 (by decide) (fun c2 => ?_) (fun c2 => ?_)
    · have hf := (if_pos c2).symm.trans hf
      refine a_iconst (pc := 79) 0 dX3_holds_79 rfl ?_
      refine a_sub (sub_d (sub_k (sub_k (sub_k (sub_d (sub_d sub_n)))))) ?_
      exact sX3_holds_80 hd hk hn hf
    · have hf := (if_neg c2).symm.trans hf
      refine a_iconst (pc := 75) 1 dX3_holds_75 rfl ?_
      refine a_goto (pc := 76) 80 dX3_holds_76 (by decide) ?_
      refine a_sub (sub_d (sub_k (sub_k (sub_k (sub_d (sub_d sub_n)))))) ?_
      exact sX3_holds_80 hd hk hn hf
  · have hf := (if_neg c4_0).symm.trans hf
    by_cases c4_1 : ((l0 >>> ((10 : Int32) &&& 31)) &&& 255) = 61
    · have hf := (if_pos c4_1).symm.trans hf
      refine a_lookup (pc := 41) 81 dX3_holds_41 (by decide) (by show (41 : Int) + Op.lookupswitch.offset [(60, 27), (61, 40)] 53 _ = _; rw [lv_osw (a := 60) c4_0 rfl, c4_1]; rfl) ?_
      refine a_iload (pc := 81) dX3_holds_81 rfl ?_
      refine a_iload (pc := 83) dX3_holds_83 rfl ?_
      refine a_icmp_ne (pc := 85) 92 dX3_holds_85 (by decide) (fun c3 => ?_) (fun c3 => ?_)
      · have hf := (if_neg c3).symm.trans hf
        refine a_iconst (pc := 92) 0 dX3_holds_92 rfl ?_
        refine a_sub (sub_d (sub_k (sub_k (sub_k (sub_d (sub_d sub_n)))))) ?_
        exact sX3_holds_93 hd hk hn hf
      · have hf := (if_pos c3).symm.trans hf
        refine a_iconst (pc := 88) 1 dX3_holds_88 rfl ?_
        refine a_goto (pc := 89) 93 dX3_holds_89 (by decide) ?_
        refine a_sub (sub_d (sub_k (sub_k (sub_k (sub_d (sub_d sub_n)))))) ?_
        exact sX3_holds_93 hd hk hn hf
    · have hf := (if_neg c4_1).symm.trans hf
      refine a_lookup (pc := 41) 94 dX3_holds_41 (by decide) (by show (41 : Int) + Op.lookupswitch.offset [(60, 27), (61, 40)] 53 _ = _; rw [lv_osw (a := 60) c4_0 rfl, lv_osw (a := 61) c4_1 rfl]; rfl) ?_
      refine a_iload (pc := 94) dX3_holds_94 rfl ?_
      refine a_iload (pc := 96) dX3_holds_96 rfl ?_
      refine a_icmp_le (pc := 98) 105 dX3_holds_98 (by decide) (fun c1 => ?_) (fun c1 => ?_)
      · have hf := (if_pos c1).symm.trans hf
        refine a_iconst (pc := 105) 0 dX3_holds_105 rfl ?_
        refine a_sub (sub_d (sub_k (sub_k (sub_k (sub_d (sub_d sub_n)))))) ?_
        exact sX3_holds_106 hd hk hn hf
      · have hf := (if_neg c1).symm.trans hf
        refine a_iconst (pc := 101) 1 dX3_holds_101 rfl ?_
        refine a_goto (pc := 102) 106 dX3_holds_102 (by decide) ?_
        refine a_sub (sub_d (sub_k (sub_k (sub_k (sub_d (sub_d sub_n)))))) ?_
        exact sX3_holds_106 hd hk hn hf
set_option maxHeartbeats 4000000 in
theorem sX3_holds_0 {l : Launch} {g : gE} {d MC MS' k n : Nat} (hd : 1 ≤ d) (hk : k ≤ MC) (hn : n ≤ MS') {r : Int32 × AH} {S : AH} {l0 : Int32} {l1 : Int32} {l2 : Int32} (hf : X3_holds_0 S l0 l1 l2 = some r) : AW l g d RX3 cX3_holds 6 "holds" MC MS' (Qr (some (.int r.1)) r.2) k n 0 [some (.int l0), some (.int l1), some (.int l2), none, none, none] [] S := by
  unfold X3_holds_0 at hf
  refine a_iload_n (pc := 0) dX3_holds_0 rfl ?_
  refine a_bipush (pc := 1) 18 dX3_holds_1 rfl ?_
  refine a_ishr (pc := 3) dX3_holds_3 ?_
  refine a_istore_n (pc := 4) (ls' := [some (.int l0), some (.int l1), some (.int l2), some (.int (l0 >>> ((18 : Int32) &&& 31))), none, none]) dX3_holds_4 (by decide) rfl ?_
  refine a_iload_n (pc := 5) dX3_holds_5 rfl ?_
  refine a_sipush (pc := 6) 1023 dX3_holds_6 rfl ?_
  refine a_iand (pc := 9) dX3_holds_9 ?_
  refine a_istore (pc := 10) (ls' := [some (.int l0), some (.int l1), some (.int l2), some (.int (l0 >>> ((18 : Int32) &&& 31))), some (.int (l0 &&& 1023)), none]) dX3_holds_10 (by decide) rfl ?_
  refine a_iload_n (pc := 12) dX3_holds_12 rfl ?_
  refine a_bipush (pc := 13) 6 dX3_holds_13 rfl ?_
  refine a_icmp_ge (pc := 15) 30 dX3_holds_15 (by decide) (fun c2 => ?_) (fun c2 => ?_)
  · have hf := (if_pos c2).symm.trans hf
    refine a_iload_n (pc := 30) dX3_holds_30 rfl ?_
    refine a_sub (sub_k (sub_d (sub_d (sub_d (sub_k (sub_k sub_n)))))) ?_
    exact sX3_holds_31 hd hk hn hf
  · have hf := (if_neg c2).symm.trans hf
    refine a_iload_n (pc := 18) dX3_holds_18 rfl ?_
    refine a_iconst (pc := 19) 5 dX3_holds_19 rfl ?_
    refine a_iconst (pc := 20) 5 dX3_holds_20 rfl ?_
    refine a_iload_n (pc := 21) dX3_holds_21 rfl ?_
    refine a_isub (pc := 22) dX3_holds_22 ?_
    refine a_imul (pc := 23) dX3_holds_23 ?_
    obtain ⟨r1, hr1, hf⟩ := Option.bind_eq_some_iff.mp hf
    refine g_calls (pc := 24) (mc := 0) (ms := 0) (.int r1.1) [.int l1, .int (5 * (5 - (l0 >>> ((18 : Int32) &&& 31))))] [] dX3_holds_24 ml_X3_48 ms_X2_digit rfl (by omega) (mX2_digit (by omega) hr1) rfl (Nat.le_of_ble_eq_true rfl) hk hn ?_
    refine a_goto (pc := 27) 31 dX3_holds_27 (by decide) ?_
    refine a_sub (sub_k (sub_d (sub_d (sub_d (sub_k (sub_k sub_n)))))) ?_
    exact sX3_holds_31 hd hk hn hf
set_option maxHeartbeats 4000000 in
theorem mX3_holds {l : Launch} {g : gE} {d : Nat} (hd : 1 ≤ d) {r : Int32 × AH} {S : AH} {l0 : Int32} {l1 : Int32} {l2 : Int32} (hf : X3_holds S l0 l1 l2 = some r) : AM l g d yX3_holds cX3_holds 6 (some .boolean) 0 0 [.int l0, .int l1, .int l2] S (Qr (some (.int r.1)) r.2) := by
  refine AM.of rfl (by exact Nat.le_of_ble_eq_true rfl) (fun v h' q => by obtain ⟨rfl, -⟩ := q; refine ⟨_, rfl, ?_⟩; rcases (zg_of hf).2 with e | e <;> rw [e] <;> rfl) (fun ls e => ?_)
  have e2 : aBeg [.int l0, .int l1, .int l2] 6 = [some (.int l0), some (.int l1), some (.int l2), none, none, none] := rfl
  rw [e2] at e
  subst e
  refine a_sub (sub_k (sub_k (sub_k (sub_k (sub_k (sub_k (sub_n))))))) ?_
  exact sX3_holds_0 hd (Nat.le_refl _) (Nat.le_refl _) ((zg_of hf).1)

-- PencilStrikes$Law.bars(II)Z
def X3_bars_107 (rec5 : AH → Nat → Int32 → Int32 → Int32 → Int32 → Option (Int32 × AH)) (S : AH) (a0 : Nat) (l1 : Int32) (l2 : Int32) (l3 : Int32) (l4 : Int32) : Option (Int32 × AH) :=
  rec5 S a0 l1 l2 l3 (l4 + 1)
def X3_bars_105 (rec5 : AH → Nat → Int32 → Int32 → Int32 → Int32 → Option (Int32 × AH)) (S : AH) (a0 : Nat) (s0 : Int32) (s1 : Int32) (l1 : Int32) (l2 : Int32) (l4 : Int32) : Option (Int32 × AH) :=
  X3_bars_107 rec5 S a0 l1 l2 (s0 ||| s1) l4
def X3_bars_125 (S : AH) (a0 : Nat) (s0 : Int32) : Option (Int32 × AH) :=
  some (s0, S)
def X3_bars_5 : Nat → AH → Nat → Int32 → Int32 → Int32 → Int32 → Option (Int32 × AH)
  | 0, _, _, _, _, _, _ => none
  | fn + 1, S, a0, l1, l2, l3, l4 =>
    (gQ S a0 3 0).bind fun x1 =>
    (aN S x1).bind fun x2 =>
    if x2 ≤ l4 then
      if (l3 &&& 1) = 1 then
        X3_bars_125 S a0 1
      else
        X3_bars_125 S a0 0
    else
      (gQ S a0 3 0).bind fun x4 =>
      (aA 0 S x4 l4).bind fun x5 =>
      if x5 = (-3) then
        X3_bars_107 (X3_bars_5 fn) S a0 l1 l2 ((l3 >>> ((1 : Int32) &&& 31)) ||| (l3 &&& 1)) l4
      else
        if x5 = (-2) then
          X3_bars_107 (X3_bars_5 fn) S a0 l1 l2 ((l3 >>> ((1 : Int32) &&& 31)) &&& ((-2) ||| (l3 &&& 1))) l4
        else
          if x5 = (-1) then
            X3_bars_107 (X3_bars_5 fn) S a0 l1 l2 (l3 ^^^ 1) l4
          else
            (gQ S a0 3 0).bind fun x6 =>
            (aA 0 S x6 l4).bind fun x7 =>
            (X3_holds S x7 l1 l2).bind fun r8 =>
            if r8.1 = 0 then
              X3_bars_105 (X3_bars_5 fn) r8.2 a0 (l3 <<< ((1 : Int32) &&& 31)) 0 l1 l2 l4
            else
              X3_bars_105 (X3_bars_5 fn) r8.2 a0 (l3 <<< ((1 : Int32) &&& 31)) 1 l1 l2 l4
def X3_bars_0 (S : AH) (a0 : Nat) (l1 : Int32) (l2 : Int32) : Option (Int32 × AH) :=
  X3_bars_5 FU S a0 l1 l2 0 0
def X3_bars (S : AH) (a0 : Nat) (l1 : Int32) (l2 : Int32) : Option (Int32 × AH) := zg (X3_bars_0 S a0 l1 l2)
set_option maxHeartbeats 4000000 in
theorem sX3_bars_107 {l : Launch} {g : gE} {d MC MS' k n : Nat} {a0 : Nat} (hd : 2 ≤ d) (hk : k ≤ MC) (hn : n ≤ MS') {r : Int32 × AH} {rec5 : AH → Nat → Int32 → Int32 → Int32 → Int32 → Option (Int32 × AH)} (hlp5 : ∀ (S : AH) (l1 : Int32) (l2 : Int32) (l3 : Int32) (l4 : Int32), rec5 S a0 l1 l2 l3 l4 = some r → AW l g d RX3 cX3_bars 6 "bars" MC MS' (Qr (some (.int r.1)) r.2) k n 5 [some (.ref a0), some (.int l1), some (.int l2), some (.int l3), some (.int l4), none] [] S) {S : AH} {l1 : Int32} {l2 : Int32} {l3 : Int32} {l4 : Int32} (hf : X3_bars_107 rec5 S a0 l1 l2 l3 l4 = some r) : AW l g d RX3 cX3_bars 6 "bars" MC MS' (Qr (some (.int r.1)) r.2) k n 107 [some (.ref a0), some (.int l1), some (.int l2), some (.int l3), some (.int l4), none] [] S := by
  unfold X3_bars_107 at hf
  refine a_iinc (pc := 107) (ls' := [some (.ref a0), some (.int l1), some (.int l2), some (.int l3), some (.int (l4 + 1)), none]) (l4 + 1) dX3_bars_107 rfl rfl (by decide) rfl ?_
  refine a_goto (pc := 110) 5 dX3_bars_110 (by decide) ?_
  exact hlp5 S l1 l2 l3 (l4 + 1) hf
set_option maxHeartbeats 4000000 in
theorem sX3_bars_105 {l : Launch} {g : gE} {d MC MS' k n : Nat} {a0 : Nat} (hd : 2 ≤ d) (hk : k ≤ MC) (hn : n ≤ MS') {r : Int32 × AH} {rec5 : AH → Nat → Int32 → Int32 → Int32 → Int32 → Option (Int32 × AH)} (hlp5 : ∀ (S : AH) (l1 : Int32) (l2 : Int32) (l3 : Int32) (l4 : Int32), rec5 S a0 l1 l2 l3 l4 = some r → AW l g d RX3 cX3_bars 6 "bars" MC MS' (Qr (some (.int r.1)) r.2) k n 5 [some (.ref a0), some (.int l1), some (.int l2), some (.int l3), some (.int l4), none] [] S) {S : AH} {s0 : Int32} {s1 : Int32} {l1 : Int32} {l2 : Int32} {l4 : Int32} (hf : X3_bars_105 rec5 S a0 s0 s1 l1 l2 l4 = some r) : AW l g d RX3 cX3_bars 6 "bars" MC MS' (Qr (some (.int r.1)) r.2) k n 105 [some (.ref a0), some (.int l1), some (.int l2), none, some (.int l4), none] [.int s1, .int s0] S := by
  unfold X3_bars_105 at hf
  refine a_ior (pc := 105) dX3_bars_105 ?_
  refine a_istore_n (pc := 106) (ls' := [some (.ref a0), some (.int l1), some (.int l2), some (.int (s0 ||| s1)), some (.int l4), none]) dX3_bars_106 (by decide) rfl ?_
  exact sX3_bars_107 hd hk hn hlp5 hf
set_option maxHeartbeats 4000000 in
theorem sX3_bars_125 {l : Launch} {g : gE} {d MC MS' k n : Nat} {a0 : Nat} (hd : 2 ≤ d) (hk : k ≤ MC) (hn : n ≤ MS') {r : Int32 × AH} {S : AH} {s0 : Int32} (hf : X3_bars_125 S a0 s0 = some r) : AW l g d RX3 cX3_bars 6 "bars" MC MS' (Qr (some (.int r.1)) r.2) k n 125 [none, none, none, none, none, none] [.int s0] S := by
  unfold X3_bars_125 at hf
  have hf := Option.some.inj hf
  subst hf
  exact a_ireturn (pc := 125) dX3_bars_125 hk hn ⟨rfl, rfl⟩
set_option maxHeartbeats 4000000 in
theorem sX3_bars_5 {l : Launch} {g : gE} {d MC MS' k n : Nat} {a0 : Nat} (hd : 2 ≤ d) (hk : k ≤ MC) (hn : n ≤ MS') {r : Int32 × AH} : ∀ (fn : Nat) (S : AH) (l1 : Int32) (l2 : Int32) (l3 : Int32) (l4 : Int32), X3_bars_5 fn S a0 l1 l2 l3 l4 = some r → AW l g d RX3 cX3_bars 6 "bars" MC MS' (Qr (some (.int r.1)) r.2) k n 5 [some (.ref a0), some (.int l1), some (.int l2), some (.int l3), some (.int l4), none] [] S := by
  intro fn
  induction fn with
  | zero =>
    intro S l1 l2 l3 l4 hf
    rw [X3_bars_5] at hf
    cases hf
  | succ fn ih =>
    intro S l1 l2 l3 l4 hf
    rw [X3_bars_5] at hf
    refine a_iload (pc := 5) dX3_bars_5 rfl ?_
    refine a_aload_n (pc := 7) dX3_bars_7 rfl (isRv_r _) ?_
    obtain ⟨x1, hx1, hf⟩ := Option.bind_eq_some_iff.mp hf
    refine g_getQ (pc := 8) dX3_bars_8 fl_X3_7 hx1 ?_
    obtain ⟨x2, hx2, hf⟩ := Option.bind_eq_some_iff.mp hf
    refine g_alen (pc := 11) dX3_bars_11 hx2 ?_
    refine a_icmp_ge (pc := 12) 113 dX3_bars_12 (by decide) (fun c11 => ?_) (fun c11 => ?_)
    · have hf := (if_pos c11).symm.trans hf
      refine a_iload_n (pc := 113) dX3_bars_113 rfl ?_
      refine a_iconst (pc := 114) 1 dX3_bars_114 rfl ?_
      refine a_iand (pc := 115) dX3_bars_115 ?_
      refine a_iconst (pc := 116) 1 dX3_bars_116 rfl ?_
      refine a_icmp_ne (pc := 117) 124 dX3_bars_117 (by decide) (fun c3 => ?_) (fun c3 => ?_)
      · have hf := (if_neg c3).symm.trans hf
        refine a_iconst (pc := 124) 0 dX3_bars_124 rfl ?_
        refine a_sub (sub_d (sub_d (sub_d (sub_d (sub_d (sub_k sub_n)))))) ?_
        exact sX3_bars_125 hd hk hn hf
      · have hf := (if_pos c3).symm.trans hf
        refine a_iconst (pc := 120) 1 dX3_bars_120 rfl ?_
        refine a_goto (pc := 121) 125 dX3_bars_121 (by decide) ?_
        refine a_sub (sub_d (sub_d (sub_d (sub_d (sub_d (sub_k sub_n)))))) ?_
        exact sX3_bars_125 hd hk hn hf
    · have hf := (if_neg c11).symm.trans hf
      refine a_iload_n (pc := 15) dX3_bars_15 rfl ?_
      refine a_iconst (pc := 16) 1 dX3_bars_16 rfl ?_
      refine a_iand (pc := 17) dX3_bars_17 ?_
      refine a_istore (pc := 18) (ls' := [some (.ref a0), some (.int l1), some (.int l2), some (.int l3), some (.int l4), some (.int (l3 &&& 1))]) dX3_bars_18 (by decide) rfl ?_
      refine a_aload_n (pc := 20) dX3_bars_20 rfl (isRv_r _) ?_
      obtain ⟨x4, hx4, hf⟩ := Option.bind_eq_some_iff.mp hf
      refine g_getQ (pc := 21) dX3_bars_21 fl_X3_7 hx4 ?_
      refine a_iload (pc := 24) dX3_bars_24 rfl ?_
      obtain ⟨x5, hx5, hf⟩ := Option.bind_eq_some_iff.mp hf
      refine g_iald (pc := 26) dX3_bars_26 hx5 ?_
      by_cases c10_0 : x5 = (-3)
      · have hf := (if_pos c10_0).symm.trans hf
        refine a_tableIn (pc := 27) 72 dX3_bars_27 (by rw [c10_0]; decide) (by rw [c10_0]; decide) (off := 45) (by rw [c10_0]; rfl) (by decide) ?_
        refine a_iload_n (pc := 72) dX3_bars_72 rfl ?_
        refine a_iconst (pc := 73) 1 dX3_bars_73 rfl ?_
        refine a_ishr (pc := 74) dX3_bars_74 ?_
        refine a_iload (pc := 75) dX3_bars_75 rfl ?_
        refine a_ior (pc := 77) dX3_bars_77 ?_
        refine a_istore_n (pc := 78) (ls' := [some (.ref a0), some (.int l1), some (.int l2), some (.int ((l3 >>> ((1 : Int32) &&& 31)) ||| (l3 &&& 1))), some (.int l4), some (.int (l3 &&& 1))]) dX3_bars_78 (by decide) rfl ?_
        refine a_goto (pc := 79) 107 dX3_bars_79 (by decide) ?_
        refine a_sub (sub_k (sub_k (sub_k (sub_k (sub_k (sub_d sub_n)))))) ?_
        exact sX3_bars_107 hd hk hn ih hf
      · have hf := (if_neg c10_0).symm.trans hf
        by_cases c10_1 : x5 = (-2)
        · have hf := (if_pos c10_1).symm.trans hf
          refine a_tableIn (pc := 27) 59 dX3_bars_27 (by rw [c10_1]; decide) (by rw [c10_1]; decide) (off := 32) (by rw [c10_1]; rfl) (by decide) ?_
          refine a_iload_n (pc := 59) dX3_bars_59 rfl ?_
          refine a_iconst (pc := 60) 1 dX3_bars_60 rfl ?_
          refine a_ishr (pc := 61) dX3_bars_61 ?_
          refine a_bipush (pc := 62) (-2) dX3_bars_62 rfl ?_
          refine a_iload (pc := 64) dX3_bars_64 rfl ?_
          refine a_ior (pc := 66) dX3_bars_66 ?_
          refine a_iand (pc := 67) dX3_bars_67 ?_
          refine a_istore_n (pc := 68) (ls' := [some (.ref a0), some (.int l1), some (.int l2), some (.int ((l3 >>> ((1 : Int32) &&& 31)) &&& ((-2) ||| (l3 &&& 1)))), some (.int l4), some (.int (l3 &&& 1))]) dX3_bars_68 (by decide) rfl ?_
          refine a_goto (pc := 69) 107 dX3_bars_69 (by decide) ?_
          refine a_sub (sub_k (sub_k (sub_k (sub_k (sub_k (sub_d sub_n)))))) ?_
          exact sX3_bars_107 hd hk hn ih hf
        · have hf := (if_neg c10_1).symm.trans hf
          by_cases c10_2 : x5 = (-1)
          · have hf := (if_pos c10_2).symm.trans hf
            refine a_tableIn (pc := 27) 52 dX3_bars_27 (by rw [c10_2]; decide) (by rw [c10_2]; decide) (off := 25) (by rw [c10_2]; rfl) (by decide) ?_
            refine a_iload_n (pc := 52) dX3_bars_52 rfl ?_
            refine a_iconst (pc := 53) 1 dX3_bars_53 rfl ?_
            refine a_ixor (pc := 54) dX3_bars_54 ?_
            refine a_istore_n (pc := 55) (ls' := [some (.ref a0), some (.int l1), some (.int l2), some (.int (l3 ^^^ 1)), some (.int l4), some (.int (l3 &&& 1))]) dX3_bars_55 (by decide) rfl ?_
            refine a_goto (pc := 56) 107 dX3_bars_56 (by decide) ?_
            refine a_sub (sub_k (sub_k (sub_k (sub_k (sub_k (sub_d sub_n)))))) ?_
            exact sX3_bars_107 hd hk hn ih hf
          · have hf := (if_neg c10_2).symm.trans hf
            have hkd : AW l g d RX3 cX3_bars 6 "bars" MC MS' (Qr (some (.int r.1)) r.2) k n 82 [some (.ref a0), some (.int l1), some (.int l2), some (.int l3), some (.int l4), some (.int (l3 &&& 1))] [] S := by
              refine a_iload_n (pc := 82) dX3_bars_82 rfl ?_
              refine a_iconst (pc := 83) 1 dX3_bars_83 rfl ?_
              refine a_ishl (pc := 84) dX3_bars_84 ?_
              refine a_aload_n (pc := 85) dX3_bars_85 rfl (isRv_r _) ?_
              obtain ⟨x6, hx6, hf⟩ := Option.bind_eq_some_iff.mp hf
              refine g_getQ (pc := 86) dX3_bars_86 fl_X3_7 hx6 ?_
              refine a_iload (pc := 89) dX3_bars_89 rfl ?_
              obtain ⟨x7, hx7, hf⟩ := Option.bind_eq_some_iff.mp hf
              refine g_iald (pc := 91) dX3_bars_91 hx7 ?_
              refine a_iload_n (pc := 92) dX3_bars_92 rfl ?_
              refine a_iload_n (pc := 93) dX3_bars_93 rfl ?_
              obtain ⟨r8, hr8, hf⟩ := Option.bind_eq_some_iff.mp hf
              refine g_calls (pc := 94) (mc := 0) (ms := 0) (.int r8.1) [.int x7, .int l1, .int l2] [.int (l3 <<< ((1 : Int32) &&& 31))] dX3_bars_94 ml_X3_56 ms_X3_holds rfl (by omega) (mX3_holds (by omega) hr8) rfl (Nat.le_of_ble_eq_true rfl) hk hn ?_
              refine a_if_eq (pc := 97) 104 dX3_bars_97 (by decide) (fun c9 => ?_) (fun c9 => ?_)
              · have hf := (if_pos c9).symm.trans hf
                refine a_iconst (pc := 104) 0 dX3_bars_104 rfl ?_
                refine a_sub (sub_k (sub_k (sub_k (sub_d (sub_k (sub_d sub_n)))))) ?_
                exact sX3_bars_105 hd hk hn ih hf
              · have hf := (if_neg c9).symm.trans hf
                refine a_iconst (pc := 100) 1 dX3_bars_100 rfl ?_
                refine a_goto (pc := 101) 105 dX3_bars_101 (by decide) ?_
                refine a_sub (sub_k (sub_k (sub_k (sub_d (sub_k (sub_d sub_n)))))) ?_
                exact sX3_bars_105 hd hk hn ih hf
            by_cases h10l : (x5).toInt < -3
            · exact a_tableOut (pc := 27) 82 dX3_bars_27 (Or.inl h10l) (by decide) hkd
            by_cases h10h : -1 < (x5).toInt
            · exact a_tableOut (pc := 27) 82 dX3_bars_27 (Or.inr h10h) (by decide) hkd
            have h10a : (x5).toInt = -3 ∨ (x5).toInt = -2 ∨ (x5).toInt = -1 := by omega
            rcases h10a with h10a | h10a | h10a
            · exact absurd (Int32.toInt_inj.mp (h10a.trans rfl)) c10_0
            · exact absurd (Int32.toInt_inj.mp (h10a.trans rfl)) c10_1
            · exact absurd (Int32.toInt_inj.mp (h10a.trans rfl)) c10_2
set_option maxHeartbeats 4000000 in
theorem sX3_bars_0 {l : Launch} {g : gE} {d MC MS' k n : Nat} {a0 : Nat} (hd : 2 ≤ d) (hk : k ≤ MC) (hn : n ≤ MS') {r : Int32 × AH} {S : AH} {l1 : Int32} {l2 : Int32} (hf : X3_bars_0 S a0 l1 l2 = some r) : AW l g d RX3 cX3_bars 6 "bars" MC MS' (Qr (some (.int r.1)) r.2) k n 0 [some (.ref a0), some (.int l1), some (.int l2), none, none, none] [] S := by
  unfold X3_bars_0 at hf
  refine a_iconst (pc := 0) 0 dX3_bars_0 rfl ?_
  refine a_istore_n (pc := 1) (ls' := [some (.ref a0), some (.int l1), some (.int l2), some (.int 0), none, none]) dX3_bars_1 (by decide) rfl ?_
  refine a_iconst (pc := 2) 0 dX3_bars_2 rfl ?_
  refine a_istore (pc := 3) (ls' := [some (.ref a0), some (.int l1), some (.int l2), some (.int 0), some (.int 0), none]) dX3_bars_3 (by decide) rfl ?_
  exact sX3_bars_5 hd hk hn FU S l1 l2 0 0 hf
set_option maxHeartbeats 4000000 in
theorem mX3_bars {l : Launch} {g : gE} {d : Nat} {a0 : Nat} (hd : 2 ≤ d) {r : Int32 × AH} {S : AH} {l1 : Int32} {l2 : Int32} (hf : X3_bars S a0 l1 l2 = some r) : AM l g d yX3_bars cX3_bars 6 (some .boolean) 0 0 [.ref a0, .int l1, .int l2] S (Qr (some (.int r.1)) r.2) := by
  refine AM.of rfl (by exact Nat.le_of_ble_eq_true rfl) (fun v h' q => by obtain ⟨rfl, -⟩ := q; refine ⟨_, rfl, ?_⟩; rcases (zg_of hf).2 with e | e <;> rw [e] <;> rfl) (fun ls e => ?_)
  have e2 : aBeg [.ref a0, .int l1, .int l2] 6 = [some (.ref a0), some (.int l1), some (.int l2), none, none, none] := rfl
  rw [e2] at e
  subst e
  refine a_sub (sub_k (sub_k (sub_k (sub_k (sub_k (sub_k (sub_n))))))) ?_
  exact sX3_bars_0 hd (Nat.le_refl _) (Nat.le_refl _) ((zg_of hf).1)

-- PencilStrikes$Law.barredDuties(LPencilStrikes$Duties;)I
def X3_barredDuties_72 (rec18 : AH → Nat → Option Nat → Int32 → Int32 → Int32 → Int32 → Option (Int32 × AH)) (S : AH) (a0 : Nat) (l1 : Option Nat) (l2 : Int32) (l3 : Int32) (l4 : Int32) (l5 : Int32) : Option (Int32 × AH) :=
  rec18 S a0 l1 l2 l3 l4 (l5 + 1)
def X3_barredDuties_50 (rec18 : AH → Nat → Option Nat → Int32 → Int32 → Int32 → Int32 → Option (Int32 × AH)) (S : AH) (a0 : Nat) (s0 : Int32) (l1 : Option Nat) (l2 : Int32) (l3 : Int32) (l4 : Int32) (l5 : Int32) (l6 : Int32) : Option (Int32 × AH) :=
  (cO S a0 3 (X3_bars S a0 l6 s0)).bind fun r1 =>
  if r1.1 = 0 then
    X3_barredDuties_72 rec18 r1.2 a0 l1 l2 l3 l4 l5
  else
    X3_barredDuties_72 rec18 r1.2 a0 l1 l2 l3 (l4 ||| ((1 : Int32) <<< (l5 &&& 31))) l5
def X3_barredDuties_18 : Nat → AH → Nat → Option Nat → Int32 → Int32 → Int32 → Int32 → Option (Int32 × AH)
  | 0, _, _, _, _, _, _, _ => none
  | fn + 1, S, a0, l1, l2, l3, l4, l5 =>
    (l1).bind fun a1 =>
    (cO S a1 2 (X2_size S a1)).bind fun r2 =>
    if r2.1 ≤ l5 then
      some (l4, r2.2)
    else
      (cO r2.2 a1 2 (X2_at r2.2 a1 l5)).bind fun r3 =>
      (X2_digit r3.2 r3.1 25).bind fun r4 =>
      if r4.1 = 0 then
        X3_barredDuties_50 (X3_barredDuties_18 fn) r4.2 a0 l2 (some a1) l2 l3 l4 l5 r3.1
      else
        X3_barredDuties_50 (X3_barredDuties_18 fn) r4.2 a0 l3 (some a1) l2 l3 l4 l5 r3.1
def X3_barredDuties_0 (S : AH) (a0 : Nat) (l1 : Option Nat) : Option (Int32 × AH) :=
  (l1).bind fun a1 =>
  (cO S a1 2 (X2_paidTo S a1 0)).bind fun r2 =>
  (cO r2.2 a1 2 (X2_paidTo r2.2 a1 1)).bind fun r3 =>
  X3_barredDuties_18 FU r3.2 a0 (some a1) r2.1 r3.1 0 0
def X3_barredDuties (S : AH) (a0 : Nat) (l1 : Option Nat) : Option (Int32 × AH) := X3_barredDuties_0 S a0 l1
set_option maxHeartbeats 4000000 in
theorem sX3_barredDuties_72 {l : Launch} {g : gE} {d MC MS' k n : Nat} {a0 : Nat} (hd : 3 ≤ d) (hk : k ≤ MC) (hn : n ≤ MS') {r : Int32 × AH} {rec18 : AH → Nat → Option Nat → Int32 → Int32 → Int32 → Int32 → Option (Int32 × AH)} (hlp18 : ∀ (S : AH) (l1 : Option Nat) (l2 : Int32) (l3 : Int32) (l4 : Int32) (l5 : Int32), rec18 S a0 l1 l2 l3 l4 l5 = some r → AW l g d RX3 cX3_barredDuties 8 "barredDuties" MC MS' (Qr (some (.int r.1)) r.2) k n 18 [some (.ref a0), some (va_rf l1), some (.int l2), some (.int l3), some (.int l4), some (.int l5), none, none] [] S) {S : AH} {l1 : Option Nat} {l2 : Int32} {l3 : Int32} {l4 : Int32} {l5 : Int32} (hf : X3_barredDuties_72 rec18 S a0 l1 l2 l3 l4 l5 = some r) : AW l g d RX3 cX3_barredDuties 8 "barredDuties" MC MS' (Qr (some (.int r.1)) r.2) k n 72 [some (.ref a0), some (va_rf l1), some (.int l2), some (.int l3), some (.int l4), some (.int l5), none, none] [] S := by
  unfold X3_barredDuties_72 at hf
  refine a_iinc (pc := 72) (ls' := [some (.ref a0), some (va_rf l1), some (.int l2), some (.int l3), some (.int l4), some (.int (l5 + 1)), none, none]) (l5 + 1) dX3_barredDuties_72 rfl rfl (by decide) rfl ?_
  refine a_goto (pc := 75) 18 dX3_barredDuties_75 (by decide) ?_
  exact hlp18 S l1 l2 l3 l4 (l5 + 1) hf
set_option maxHeartbeats 4000000 in
theorem sX3_barredDuties_50 {l : Launch} {g : gE} {d MC MS' k n : Nat} {a0 : Nat} (hd : 3 ≤ d) (hk : k ≤ MC) (hn : n ≤ MS') {r : Int32 × AH} {rec18 : AH → Nat → Option Nat → Int32 → Int32 → Int32 → Int32 → Option (Int32 × AH)} (hlp18 : ∀ (S : AH) (l1 : Option Nat) (l2 : Int32) (l3 : Int32) (l4 : Int32) (l5 : Int32), rec18 S a0 l1 l2 l3 l4 l5 = some r → AW l g d RX3 cX3_barredDuties 8 "barredDuties" MC MS' (Qr (some (.int r.1)) r.2) k n 18 [some (.ref a0), some (va_rf l1), some (.int l2), some (.int l3), some (.int l4), some (.int l5), none, none] [] S) {S : AH} {s0 : Int32} {l1 : Option Nat} {l2 : Int32} {l3 : Int32} {l4 : Int32} {l5 : Int32} {l6 : Int32} (hf : X3_barredDuties_50 rec18 S a0 s0 l1 l2 l3 l4 l5 l6 = some r) : AW l g d RX3 cX3_barredDuties 8 "barredDuties" MC MS' (Qr (some (.int r.1)) r.2) k n 50 [some (.ref a0), some (va_rf l1), some (.int l2), some (.int l3), some (.int l4), some (.int l5), some (.int l6), none] [.int s0] S := by
  unfold X3_barredDuties_50 at hf
  refine a_istore (pc := 50) (ls' := [some (.ref a0), some (va_rf l1), some (.int l2), some (.int l3), some (.int l4), some (.int l5), some (.int l6), some (.int s0)]) dX3_barredDuties_50 (by decide) rfl ?_
  refine a_aload_n (pc := 52) dX3_barredDuties_52 rfl (isRv_r _) ?_
  refine a_iload (pc := 53) dX3_barredDuties_53 rfl ?_
  refine a_iload (pc := 55) dX3_barredDuties_55 rfl ?_
  obtain ⟨r1, hr1, hf⟩ := Option.bind_eq_some_iff.mp hf
  obtain ⟨hor1, hr1⟩ := cO_of hr1
  refine g_call (pc := 57) (mc := 0) (ms := 0) (.int r1.1) [.int l6, .int s0] [] dX3_barredDuties_57 ml_X3_52 mv_X3_bars hor1 (by decide) rfl rfl (by omega) (mX3_bars (by omega) hr1) rfl (Nat.le_of_ble_eq_true rfl) hk hn ?_
  refine a_if_eq (pc := 60) 72 dX3_barredDuties_60 (by decide) (fun c2 => ?_) (fun c2 => ?_)
  · have hf := (if_pos c2).symm.trans hf
    refine a_sub (sub_k (sub_k (sub_k (sub_k (sub_k (sub_k (sub_d (sub_d sub_n)))))))) ?_
    exact sX3_barredDuties_72 hd hk hn hlp18 hf
  · have hf := (if_neg c2).symm.trans hf
    refine a_iload (pc := 63) dX3_barredDuties_63 rfl ?_
    refine a_iconst (pc := 65) 1 dX3_barredDuties_65 rfl ?_
    refine a_iload (pc := 66) dX3_barredDuties_66 rfl ?_
    refine a_ishl (pc := 68) dX3_barredDuties_68 ?_
    refine a_ior (pc := 69) dX3_barredDuties_69 ?_
    refine a_istore (pc := 70) (ls' := [some (.ref a0), some (va_rf l1), some (.int l2), some (.int l3), some (.int (l4 ||| ((1 : Int32) <<< (l5 &&& 31)))), some (.int l5), some (.int l6), some (.int s0)]) dX3_barredDuties_70 (by decide) rfl ?_
    refine a_sub (sub_k (sub_k (sub_k (sub_k (sub_k (sub_k (sub_d (sub_d sub_n)))))))) ?_
    exact sX3_barredDuties_72 hd hk hn hlp18 hf
set_option maxHeartbeats 4000000 in
theorem sX3_barredDuties_18 {l : Launch} {g : gE} {d MC MS' k n : Nat} {a0 : Nat} (hd : 3 ≤ d) (hk : k ≤ MC) (hn : n ≤ MS') {r : Int32 × AH} : ∀ (fn : Nat) (S : AH) (l1 : Option Nat) (l2 : Int32) (l3 : Int32) (l4 : Int32) (l5 : Int32), X3_barredDuties_18 fn S a0 l1 l2 l3 l4 l5 = some r → AW l g d RX3 cX3_barredDuties 8 "barredDuties" MC MS' (Qr (some (.int r.1)) r.2) k n 18 [some (.ref a0), some (va_rf l1), some (.int l2), some (.int l3), some (.int l4), some (.int l5), none, none] [] S := by
  intro fn
  induction fn with
  | zero =>
    intro S l1 l2 l3 l4 l5 hf
    rw [X3_barredDuties_18] at hf
    cases hf
  | succ fn ih =>
    intro S l1 l2 l3 l4 l5 hf
    rw [X3_barredDuties_18] at hf
    refine a_iload (pc := 18) dX3_barredDuties_18 rfl ?_
    refine a_aload_n (pc := 20) dX3_barredDuties_20 rfl (isRv_rf _) ?_
    obtain ⟨a1, ha1, hf⟩ := Option.bind_eq_some_iff.mp hf
    rw [ha1]
    obtain ⟨r2, hr2, hf⟩ := Option.bind_eq_some_iff.mp hf
    obtain ⟨hor2, hr2⟩ := cO_of hr2
    refine g_call (pc := 21) (mc := 0) (ms := 0) (.int r2.1) [] [.int l5] dX3_barredDuties_21 ml_X3_42 mv_X2_size hor2 (by decide) rfl rfl (by omega) (mX2_size (by omega) hr2) rfl (Nat.le_of_ble_eq_true rfl) hk hn ?_
    refine a_icmp_ge (pc := 24) 78 dX3_barredDuties_24 (by decide) (fun c6 => ?_) (fun c6 => ?_)
    · have hf := (if_pos c6).symm.trans hf
      refine a_iload (pc := 78) dX3_barredDuties_78 rfl ?_
      have hf := Option.some.inj hf
      subst hf
      exact a_ireturn (pc := 80) dX3_barredDuties_80 hk hn ⟨rfl, rfl⟩
    · have hf := (if_neg c6).symm.trans hf
      refine a_aload_n (pc := 27) dX3_barredDuties_27 rfl (isRv_r _) ?_
      refine a_iload (pc := 28) dX3_barredDuties_28 rfl ?_
      obtain ⟨r3, hr3, hf⟩ := Option.bind_eq_some_iff.mp hf
      obtain ⟨hor3, hr3⟩ := cO_of hr3
      refine g_call (pc := 30) (mc := 0) (ms := 0) (.int r3.1) [.int l5] [] dX3_barredDuties_30 ml_X3_45 mv_X2_at hor3 (by decide) rfl rfl (by omega) (mX2_at (by omega) hr3) rfl (Nat.le_of_ble_eq_true rfl) hk hn ?_
      refine a_istore (pc := 33) (ls' := [some (.ref a0), some (.ref a1), some (.int l2), some (.int l3), some (.int l4), some (.int l5), some (.int (r3.1)), none]) dX3_barredDuties_33 (by decide) rfl ?_
      refine a_iload (pc := 35) dX3_barredDuties_35 rfl ?_
      refine a_bipush (pc := 37) 25 dX3_barredDuties_37 rfl ?_
      obtain ⟨r4, hr4, hf⟩ := Option.bind_eq_some_iff.mp hf
      refine g_calls (pc := 39) (mc := 0) (ms := 0) (.int r4.1) [.int (r3.1), .int 25] [] dX3_barredDuties_39 ml_X3_48 ms_X2_digit rfl (by omega) (mX2_digit (by omega) hr4) rfl (Nat.le_of_ble_eq_true rfl) hk hn ?_
      refine a_if_ne (pc := 42) 49 dX3_barredDuties_42 (by decide) (fun c5 => ?_) (fun c5 => ?_)
      · have hf := (if_neg c5).symm.trans hf
        refine a_iload_n (pc := 49) dX3_barredDuties_49 rfl ?_
        exact sX3_barredDuties_50 hd hk hn ih hf
      · have hf := (if_pos c5).symm.trans hf
        refine a_iload_n (pc := 45) dX3_barredDuties_45 rfl ?_
        refine a_goto (pc := 46) 50 dX3_barredDuties_46 (by decide) ?_
        exact sX3_barredDuties_50 hd hk hn ih hf
set_option maxHeartbeats 4000000 in
theorem sX3_barredDuties_0 {l : Launch} {g : gE} {d MC MS' k n : Nat} {a0 : Nat} (hd : 3 ≤ d) (hk : k ≤ MC) (hn : n ≤ MS') {r : Int32 × AH} {S : AH} {l1 : Option Nat} (hf : X3_barredDuties_0 S a0 l1 = some r) : AW l g d RX3 cX3_barredDuties 8 "barredDuties" MC MS' (Qr (some (.int r.1)) r.2) k n 0 [some (.ref a0), some (va_rf l1), none, none, none, none, none, none] [] S := by
  unfold X3_barredDuties_0 at hf
  refine a_aload_n (pc := 0) dX3_barredDuties_0 rfl (isRv_rf _) ?_
  refine a_iconst (pc := 1) 0 dX3_barredDuties_1 rfl ?_
  obtain ⟨a1, ha1, hf⟩ := Option.bind_eq_some_iff.mp hf
  rw [ha1]
  obtain ⟨r2, hr2, hf⟩ := Option.bind_eq_some_iff.mp hf
  obtain ⟨hor2, hr2⟩ := cO_of hr2
  refine g_call (pc := 2) (mc := 0) (ms := 0) (.int r2.1) [.int 0] [] dX3_barredDuties_2 ml_X3_38 mv_X2_paidTo hor2 (by decide) rfl rfl (by omega) (mX2_paidTo (by omega) hr2) rfl (Nat.le_of_ble_eq_true rfl) hk hn ?_
  refine a_istore_n (pc := 5) (ls' := [some (.ref a0), some (.ref a1), some (.int (r2.1)), none, none, none, none, none]) dX3_barredDuties_5 (by decide) rfl ?_
  refine a_aload_n (pc := 6) dX3_barredDuties_6 rfl (isRv_r _) ?_
  refine a_iconst (pc := 7) 1 dX3_barredDuties_7 rfl ?_
  obtain ⟨r3, hr3, hf⟩ := Option.bind_eq_some_iff.mp hf
  obtain ⟨hor3, hr3⟩ := cO_of hr3
  refine g_call (pc := 8) (mc := 0) (ms := 0) (.int r3.1) [.int 1] [] dX3_barredDuties_8 ml_X3_38 mv_X2_paidTo hor3 (by decide) rfl rfl (by omega) (mX2_paidTo (by omega) hr3) rfl (Nat.le_of_ble_eq_true rfl) hk hn ?_
  refine a_istore_n (pc := 11) (ls' := [some (.ref a0), some (.ref a1), some (.int (r2.1)), some (.int (r3.1)), none, none, none, none]) dX3_barredDuties_11 (by decide) rfl ?_
  refine a_iconst (pc := 12) 0 dX3_barredDuties_12 rfl ?_
  refine a_istore (pc := 13) (ls' := [some (.ref a0), some (.ref a1), some (.int (r2.1)), some (.int (r3.1)), some (.int 0), none, none, none]) dX3_barredDuties_13 (by decide) rfl ?_
  refine a_iconst (pc := 15) 0 dX3_barredDuties_15 rfl ?_
  refine a_istore (pc := 16) (ls' := [some (.ref a0), some (.ref a1), some (.int (r2.1)), some (.int (r3.1)), some (.int 0), some (.int 0), none, none]) dX3_barredDuties_16 (by decide) rfl ?_
  exact sX3_barredDuties_18 hd hk hn FU r3.2 (some a1) r2.1 r3.1 0 0 hf
set_option maxHeartbeats 4000000 in
theorem mX3_barredDuties {l : Launch} {g : gE} {d : Nat} {a0 : Nat} (hd : 3 ≤ d) {r : Int32 × AH} {S : AH} {l1 : Option Nat} (hf : X3_barredDuties S a0 l1 = some r) : AM l g d yX3_barredDuties cX3_barredDuties 8 (some .int) 0 0 [.ref a0, va_rf l1] S (Qr (some (.int r.1)) r.2) := by
  refine AM.of rfl (by cases l1 <;> exact Nat.le_of_ble_eq_true rfl) (fun v h' q => by obtain ⟨rfl, -⟩ := q; exact ⟨_, rfl, rfl⟩) (fun ls e => ?_)
  have e2 : aBeg [.ref a0, va_rf l1] 8 = [some (.ref a0), some (va_rf l1), none, none, none, none, none, none] := (by cases l1 <;> rfl)
  rw [e2] at e
  subst e
  refine a_sub (sub_k (sub_k (sub_k (sub_k (sub_k (sub_k (sub_k (sub_k (sub_n))))))))) ?_
  exact sX3_barredDuties_0 hd (Nat.le_refl _) (Nat.le_refl _) (hf)

-- PencilStrikes$Law.allows(LPencilStrikes$Duties;I)Z
def X3_allows_46 (S : AH) (a0 : Nat) : Option (Int32 × AH) :=
  some (0, S)
def X3_allows_61 (S : AH) (a0 : Nat) (s0 : Int32) : Option (Int32 × AH) :=
  some (s0, S)
def X3_allows_48 (S : AH) (a0 : Nat) (l1 : Option Nat) : Option (Int32 × AH) :=
  (cO S a0 3 (X3_barredDuties S a0 l1)).bind fun r1 =>
  if r1.1 = 0 then
    X3_allows_61 r1.2 a0 1
  else
    X3_allows_61 r1.2 a0 0
def X3_allows_23 (S : AH) (a0 : Nat) (l1 : Option Nat) : Option (Int32 × AH) :=
  (gI S a0 3 1).bind fun x1 =>
  if x1 = 0 then
    X3_allows_48 S a0 l1
  else
    (l1).bind fun a2 =>
    (cO S a2 2 (X2_isGivenBy S a2 0)).bind fun r3 =>
    if r3.1 = 0 then
      X3_allows_46 r3.2 a0
    else
      (cO r3.2 a2 2 (X2_isGivenBy r3.2 a2 1)).bind fun r4 =>
      if r4.1 = 0 then
        X3_allows_46 r4.2 a0
      else
        X3_allows_48 r4.2 a0 (some a2)
def X3_allows_0 (S : AH) (a0 : Nat) (l1 : Option Nat) (l2 : Int32) : Option (Int32 × AH) :=
  (gI S a0 3 3).bind fun x1 =>
  if x1 = (-1) then
    X3_allows_23 S a0 l1
  else
    (l1).bind fun a2 =>
    (cO S a2 2 (X2_longsOfNots S a2)).bind fun r3 =>
    (gI r3.2 a0 3 3).bind fun x4 =>
    if r3.1 ≤ (x4 + l2) then
      X3_allows_23 r3.2 a0 (some a2)
    else
      some (0, r3.2)
def X3_allows (S : AH) (a0 : Nat) (l1 : Option Nat) (l2 : Int32) : Option (Int32 × AH) := zg (X3_allows_0 S a0 l1 l2)
set_option maxHeartbeats 4000000 in
theorem sX3_allows_46 {l : Launch} {g : gE} {d MC MS' k n : Nat} {a0 : Nat} (hd : 4 ≤ d) (hk : k ≤ MC) (hn : n ≤ MS') {r : Int32 × AH} {S : AH} (hf : X3_allows_46 S a0 = some r) : AW l g d RX3 cX3_allows 3 "allows" MC MS' (Qr (some (.int r.1)) r.2) k n 46 [none, none, none] [] S := by
  unfold X3_allows_46 at hf
  refine a_iconst (pc := 46) 0 dX3_allows_46 rfl ?_
  have hf := Option.some.inj hf
  subst hf
  exact a_ireturn (pc := 47) dX3_allows_47 hk hn ⟨rfl, rfl⟩
set_option maxHeartbeats 4000000 in
theorem sX3_allows_61 {l : Launch} {g : gE} {d MC MS' k n : Nat} {a0 : Nat} (hd : 4 ≤ d) (hk : k ≤ MC) (hn : n ≤ MS') {r : Int32 × AH} {S : AH} {s0 : Int32} (hf : X3_allows_61 S a0 s0 = some r) : AW l g d RX3 cX3_allows 3 "allows" MC MS' (Qr (some (.int r.1)) r.2) k n 61 [none, none, none] [.int s0] S := by
  unfold X3_allows_61 at hf
  have hf := Option.some.inj hf
  subst hf
  exact a_ireturn (pc := 61) dX3_allows_61 hk hn ⟨rfl, rfl⟩
set_option maxHeartbeats 4000000 in
theorem sX3_allows_48 {l : Launch} {g : gE} {d MC MS' k n : Nat} {a0 : Nat} (hd : 4 ≤ d) (hk : k ≤ MC) (hn : n ≤ MS') {r : Int32 × AH} {S : AH} {l1 : Option Nat} (hf : X3_allows_48 S a0 l1 = some r) : AW l g d RX3 cX3_allows 3 "allows" MC MS' (Qr (some (.int r.1)) r.2) k n 48 [some (.ref a0), some (va_rf l1), none] [] S := by
  unfold X3_allows_48 at hf
  refine a_aload_n (pc := 48) dX3_allows_48 rfl (isRv_r _) ?_
  refine a_aload_n (pc := 49) dX3_allows_49 rfl (isRv_rf _) ?_
  obtain ⟨r1, hr1, hf⟩ := Option.bind_eq_some_iff.mp hf
  obtain ⟨hor1, hr1⟩ := cO_of hr1
  refine g_call (pc := 50) (mc := 0) (ms := 0) (.int r1.1) [va_rf l1] [] dX3_allows_50 ml_X3_34 mv_X3_barredDuties hor1 (by decide) rfl rfl (by omega) (mX3_barredDuties (by omega) hr1) rfl (Nat.le_of_ble_eq_true rfl) hk hn ?_
  refine a_if_ne (pc := 53) 60 dX3_allows_53 (by decide) (fun c2 => ?_) (fun c2 => ?_)
  · have hf := (if_neg c2).symm.trans hf
    refine a_iconst (pc := 60) 0 dX3_allows_60 rfl ?_
    refine a_sub (sub_d (sub_d (sub_k sub_n))) ?_
    exact sX3_allows_61 hd hk hn hf
  · have hf := (if_pos c2).symm.trans hf
    refine a_iconst (pc := 56) 1 dX3_allows_56 rfl ?_
    refine a_goto (pc := 57) 61 dX3_allows_57 (by decide) ?_
    refine a_sub (sub_d (sub_d (sub_k sub_n))) ?_
    exact sX3_allows_61 hd hk hn hf
set_option maxHeartbeats 4000000 in
theorem sX3_allows_23 {l : Launch} {g : gE} {d MC MS' k n : Nat} {a0 : Nat} (hd : 4 ≤ d) (hk : k ≤ MC) (hn : n ≤ MS') {r : Int32 × AH} {S : AH} {l1 : Option Nat} (hf : X3_allows_23 S a0 l1 = some r) : AW l g d RX3 cX3_allows 3 "allows" MC MS' (Qr (some (.int r.1)) r.2) k n 23 [some (.ref a0), some (va_rf l1), none] [] S := by
  unfold X3_allows_23 at hf
  refine a_aload_n (pc := 23) dX3_allows_23 rfl (isRv_r _) ?_
  obtain ⟨x1, hx1, hf⟩ := Option.bind_eq_some_iff.mp hf
  refine g_getI (pc := 24) dX3_allows_24 fl_X3_13 hx1 ?_
  refine a_if_eq (pc := 27) 48 dX3_allows_27 (by decide) (fun c7 => ?_) (fun c7 => ?_)
  · have hf := (if_pos c7).symm.trans hf
    exact sX3_allows_48 hd hk hn hf
  · have hf := (if_neg c7).symm.trans hf
    refine a_aload_n (pc := 30) dX3_allows_30 rfl (isRv_rf _) ?_
    refine a_iconst (pc := 31) 0 dX3_allows_31 rfl ?_
    obtain ⟨a2, ha2, hf⟩ := Option.bind_eq_some_iff.mp hf
    rw [ha2]
    obtain ⟨r3, hr3, hf⟩ := Option.bind_eq_some_iff.mp hf
    obtain ⟨hor3, hr3⟩ := cO_of hr3
    refine g_call (pc := 32) (mc := 0) (ms := 0) (.int r3.1) [.int 0] [] dX3_allows_32 ml_X3_30 mv_X2_isGivenBy hor3 (by decide) rfl rfl (by omega) (mX2_isGivenBy (by omega) hr3) rfl (Nat.le_of_ble_eq_true rfl) hk hn ?_
    refine a_if_eq (pc := 35) 46 dX3_allows_35 (by decide) (fun c6 => ?_) (fun c6 => ?_)
    · have hf := (if_pos c6).symm.trans hf
      refine a_sub (sub_d (sub_d (sub_k sub_n))) ?_
      exact sX3_allows_46 hd hk hn hf
    · have hf := (if_neg c6).symm.trans hf
      refine a_aload_n (pc := 38) dX3_allows_38 rfl (isRv_r _) ?_
      refine a_iconst (pc := 39) 1 dX3_allows_39 rfl ?_
      obtain ⟨r4, hr4, hf⟩ := Option.bind_eq_some_iff.mp hf
      obtain ⟨hor4, hr4⟩ := cO_of hr4
      refine g_call (pc := 40) (mc := 0) (ms := 0) (.int r4.1) [.int 1] [] dX3_allows_40 ml_X3_30 mv_X2_isGivenBy hor4 (by decide) rfl rfl (by omega) (mX2_isGivenBy (by omega) hr4) rfl (Nat.le_of_ble_eq_true rfl) hk hn ?_
      refine a_if_ne (pc := 43) 48 dX3_allows_43 (by decide) (fun c5 => ?_) (fun c5 => ?_)
      · have hf := (if_neg c5).symm.trans hf
        exact sX3_allows_48 hd hk hn hf
      · have hf := (if_pos c5).symm.trans hf
        refine a_sub (sub_d (sub_d (sub_k sub_n))) ?_
        exact sX3_allows_46 hd hk hn hf
set_option maxHeartbeats 4000000 in
theorem sX3_allows_0 {l : Launch} {g : gE} {d MC MS' k n : Nat} {a0 : Nat} (hd : 4 ≤ d) (hk : k ≤ MC) (hn : n ≤ MS') {r : Int32 × AH} {S : AH} {l1 : Option Nat} {l2 : Int32} (hf : X3_allows_0 S a0 l1 l2 = some r) : AW l g d RX3 cX3_allows 3 "allows" MC MS' (Qr (some (.int r.1)) r.2) k n 0 [some (.ref a0), some (va_rf l1), some (.int l2)] [] S := by
  unfold X3_allows_0 at hf
  refine a_aload_n (pc := 0) dX3_allows_0 rfl (isRv_r _) ?_
  obtain ⟨x1, hx1, hf⟩ := Option.bind_eq_some_iff.mp hf
  refine g_getI (pc := 1) dX3_allows_1 fl_X3_20 hx1 ?_
  refine a_iconst (pc := 4) (-1) dX3_allows_4 rfl ?_
  refine a_icmp_eq (pc := 5) 23 dX3_allows_5 (by decide) (fun c6 => ?_) (fun c6 => ?_)
  · have hf := (if_pos c6).symm.trans hf
    refine a_sub (sub_k (sub_k (sub_d sub_n))) ?_
    exact sX3_allows_23 hd hk hn hf
  · have hf := (if_neg c6).symm.trans hf
    refine a_aload_n (pc := 8) dX3_allows_8 rfl (isRv_rf _) ?_
    obtain ⟨a2, ha2, hf⟩ := Option.bind_eq_some_iff.mp hf
    rw [ha2]
    obtain ⟨r3, hr3, hf⟩ := Option.bind_eq_some_iff.mp hf
    obtain ⟨hor3, hr3⟩ := cO_of hr3
    refine g_call (pc := 9) (mc := 0) (ms := 0) (.int r3.1) [] [] dX3_allows_9 ml_X3_24 mv_X2_longsOfNots hor3 (by decide) rfl rfl (by omega) (mX2_longsOfNots (by omega) hr3) rfl (Nat.le_of_ble_eq_true rfl) hk hn ?_
    refine a_aload_n (pc := 12) dX3_allows_12 rfl (isRv_r _) ?_
    obtain ⟨x4, hx4, hf⟩ := Option.bind_eq_some_iff.mp hf
    refine g_getI (pc := 13) dX3_allows_13 fl_X3_20 hx4 ?_
    refine a_iload_n (pc := 16) dX3_allows_16 rfl ?_
    refine a_iadd (pc := 17) dX3_allows_17 ?_
    refine a_icmp_le (pc := 18) 23 dX3_allows_18 (by decide) (fun c5 => ?_) (fun c5 => ?_)
    · have hf := (if_pos c5).symm.trans hf
      refine a_sub (sub_k (sub_k (sub_d sub_n))) ?_
      exact sX3_allows_23 hd hk hn hf
    · have hf := (if_neg c5).symm.trans hf
      refine a_iconst (pc := 21) 0 dX3_allows_21 rfl ?_
      have hf := Option.some.inj hf
      subst hf
      exact a_ireturn (pc := 22) dX3_allows_22 hk hn ⟨rfl, rfl⟩
set_option maxHeartbeats 4000000 in
theorem mX3_allows {l : Launch} {g : gE} {d : Nat} {a0 : Nat} (hd : 4 ≤ d) {r : Int32 × AH} {S : AH} {l1 : Option Nat} {l2 : Int32} (hf : X3_allows S a0 l1 l2 = some r) : AM l g d yX3_allows cX3_allows 3 (some .boolean) 0 0 [.ref a0, va_rf l1, .int l2] S (Qr (some (.int r.1)) r.2) := by
  refine AM.of rfl (by cases l1 <;> exact Nat.le_of_ble_eq_true rfl) (fun v h' q => by obtain ⟨rfl, -⟩ := q; refine ⟨_, rfl, ?_⟩; rcases (zg_of hf).2 with e | e <;> rw [e] <;> rfl) (fun ls e => ?_)
  have e2 : aBeg [.ref a0, va_rf l1, .int l2] 3 = [some (.ref a0), some (va_rf l1), some (.int l2)] := (by cases l1 <;> rfl)
  rw [e2] at e
  subst e
  refine a_sub (sub_k (sub_k (sub_k (sub_n)))) ?_
  exact sX3_allows_0 hd (Nat.le_refl _) (Nat.le_refl _) ((zg_of hf).1)

-- PencilStrikes.lawOf(I)LPencilStrikes$Law;
def X7_lawOf_23 (S : AH) (a0 : Nat) (s0 : Option Nat) : Option (Option Nat × AH) :=
  some (s0, S)
def X7_lawOf_22 (S : AH) (a0 : Nat) : Option (Option Nat × AH) :=
  X7_lawOf_23 S a0 none
def X7_lawOf_0 (S : AH) (a0 : Nat) (l1 : Int32) : Option (Option Nat × AH) :=
  if l1 < 0 then
    X7_lawOf_22 S a0
  else
    (gQ S a0 7 3).bind fun x1 =>
    (aN S x1).bind fun x2 =>
    if x2 ≤ l1 then
      X7_lawOf_22 S a0
    else
      (gQ S a0 7 3).bind fun x3 =>
      (aQ 5 S x3 l1).bind fun x4 =>
      X7_lawOf_23 S a0 x4
def X7_lawOf (S : AH) (a0 : Nat) (l1 : Int32) : Option (Option Nat × AH) := X7_lawOf_0 S a0 l1
set_option maxHeartbeats 4000000 in
theorem sX7_lawOf_23 {l : Launch} {g : gE} {d MC MS' k n : Nat} {a0 : Nat} (hd : 0 ≤ d) (hk : k ≤ MC) (hn : n ≤ MS') {r : Option Nat × AH} {S : AH} {s0 : Option Nat} (hf : X7_lawOf_23 S a0 s0 = some r) : AW l g d RX7 cX7_lawOf 2 "lawOf" MC MS' (Qr (some (va_rf r.1)) r.2) k n 23 [none, none] [va_rf s0] S := by
  unfold X7_lawOf_23 at hf
  have hf := Option.some.inj hf
  subst hf
  exact a_areturnR (pc := 23) dX7_lawOf_23 hk hn ⟨rfl, rfl⟩
set_option maxHeartbeats 4000000 in
theorem sX7_lawOf_22 {l : Launch} {g : gE} {d MC MS' k n : Nat} {a0 : Nat} (hd : 0 ≤ d) (hk : k ≤ MC) (hn : n ≤ MS') {r : Option Nat × AH} {S : AH} (hf : X7_lawOf_22 S a0 = some r) : AW l g d RX7 cX7_lawOf 2 "lawOf" MC MS' (Qr (some (va_rf r.1)) r.2) k n 22 [none, none] [] S := by
  unfold X7_lawOf_22 at hf
  refine a_null (pc := 22) dX7_lawOf_22 ?_
  exact sX7_lawOf_23 hd hk hn hf
set_option maxHeartbeats 4000000 in
theorem sX7_lawOf_0 {l : Launch} {g : gE} {d MC MS' k n : Nat} {a0 : Nat} (hd : 0 ≤ d) (hk : k ≤ MC) (hn : n ≤ MS') {r : Option Nat × AH} {S : AH} {l1 : Int32} (hf : X7_lawOf_0 S a0 l1 = some r) : AW l g d RX7 cX7_lawOf 2 "lawOf" MC MS' (Qr (some (va_rf r.1)) r.2) k n 0 [some (.ref a0), some (.int l1)] [] S := by
  unfold X7_lawOf_0 at hf
  refine a_iload_n (pc := 0) dX7_lawOf_0 rfl ?_
  refine a_if_lt (pc := 1) 22 dX7_lawOf_1 (by decide) (fun c6 => ?_) (fun c6 => ?_)
  · have hf := (if_pos c6).symm.trans hf
    refine a_sub (sub_d (sub_d sub_n)) ?_
    exact sX7_lawOf_22 hd hk hn hf
  · have hf := (if_neg c6).symm.trans hf
    refine a_iload_n (pc := 4) dX7_lawOf_4 rfl ?_
    refine a_aload_n (pc := 5) dX7_lawOf_5 rfl (isRv_r _) ?_
    obtain ⟨x1, hx1, hf⟩ := Option.bind_eq_some_iff.mp hf
    refine g_getQ (pc := 6) dX7_lawOf_6 fl_X7_33 hx1 ?_
    obtain ⟨x2, hx2, hf⟩ := Option.bind_eq_some_iff.mp hf
    refine g_alen (pc := 9) dX7_lawOf_9 hx2 ?_
    refine a_icmp_ge (pc := 10) 22 dX7_lawOf_10 (by decide) (fun c5 => ?_) (fun c5 => ?_)
    · have hf := (if_pos c5).symm.trans hf
      refine a_sub (sub_d (sub_d sub_n)) ?_
      exact sX7_lawOf_22 hd hk hn hf
    · have hf := (if_neg c5).symm.trans hf
      refine a_aload_n (pc := 13) dX7_lawOf_13 rfl (isRv_r _) ?_
      obtain ⟨x3, hx3, hf⟩ := Option.bind_eq_some_iff.mp hf
      refine g_getQ (pc := 14) dX7_lawOf_14 fl_X7_33 hx3 ?_
      refine a_iload_n (pc := 17) dX7_lawOf_17 rfl ?_
      obtain ⟨x4, hx4, hf⟩ := Option.bind_eq_some_iff.mp hf
      refine g_qald (pc := 18) 1 dX7_lawOf_18 (by decide) hx4 ?_
      refine a_goto (pc := 19) 23 dX7_lawOf_19 (by decide) ?_
      refine a_sub (sub_d (sub_d sub_n)) ?_
      exact sX7_lawOf_23 hd hk hn hf
set_option maxHeartbeats 4000000 in
theorem mX7_lawOf {l : Launch} {g : gE} {d : Nat} {a0 : Nat} (hd : 0 ≤ d) {r : Option Nat × AH} {S : AH} {l1 : Int32} (hf : X7_lawOf S a0 l1 = some r) : AM l g d yX7_lawOf cX7_lawOf 2 (some (.object "PencilStrikes$Law")) 0 0 [.ref a0, .int l1] S (Qr (some (va_rf r.1)) r.2) := by
  refine AM.of rfl (by exact Nat.le_of_ble_eq_true rfl) (fun v h' q => by obtain ⟨rfl, -⟩ := q; exact aRet_rf _ (Or.inl ⟨_, rfl⟩)) (fun ls e => ?_)
  have e2 : aBeg [.ref a0, .int l1] 2 = [some (.ref a0), some (.int l1)] := rfl
  rw [e2] at e
  subst e
  refine a_sub (sub_k (sub_k (sub_n))) ?_
  exact sX7_lawOf_0 hd (Nat.le_refl _) (Nat.le_refl _) (hf)

-- PencilStrikes.lawful(III)I
def X7_lawful_24 (S : AH) (a0 : Nat) : Option (Int32 × AH) :=
  some ((-1), S)
def X7_lawful_77 (S : AH) (a0 : Nat) (s0 : Int32) : Option (Int32 × AH) :=
  some (s0, S)
def X7_lawful_0 (S : AH) (a0 : Nat) (l1 : Int32) (l2 : Int32) (l3 : Int32) : Option (Int32 × AH) :=
  (cO S a0 7 (X7_bargainOf S a0 l1)).bind fun r1 => prp r1 fun zq2 zq2S =>
  (cO zq2S a0 7 (X7_lawOf zq2S a0 l3)).bind fun r3 => prp r3 fun zq4 zq4S =>
  ifn zq2 (
    X7_lawful_24 zq4S a0) fun a5 =>
  ifn zq4 (
    X7_lawful_24 zq4S a0) fun a6 =>
  (cO zq4S a5 1 (X1_hasSet zq4S a5 l2)).bind fun r7 =>
  if r7.1 = 0 then
    some ((-2), r7.2)
  else
    (cO r7.2 a5 1 (X1_isReadable r7.2 a5 l2)).bind fun r8 =>
    if r8.1 = 0 then
      some (0, r8.2)
    else
      (gQ r8.2 a0 7 7).bind fun x9 =>
      (cO r8.2 a5 1 (X1_tellDuties r8.2 a5 l2 x9)).bind fun r10 =>
      (gQ r10.2 a0 7 7).bind fun x11 =>
      (cO r10.2 a6 3 (X3_allows r10.2 a6 x11 0)).bind fun r12 =>
      if r12.1 = 0 then
        X7_lawful_77 r12.2 a0 0
      else
        X7_lawful_77 r12.2 a0 1
def X7_lawful (S : AH) (a0 : Nat) (l1 : Int32) (l2 : Int32) (l3 : Int32) : Option (Int32 × AH) := X7_lawful_0 S a0 l1 l2 l3
set_option maxHeartbeats 4000000 in
theorem sX7_lawful_24 {l : Launch} {g : gE} {d MC MS' k n : Nat} {a0 : Nat} (hd : 5 ≤ d) (hk : k ≤ MC) (hn : n ≤ MS') {r : Int32 × AH} {S : AH} (hf : X7_lawful_24 S a0 = some r) : AW l g d RX7 cX7_lawful 6 "lawful" MC MS' (Qr (some (.int r.1)) r.2) k n 24 [none, none, none, none, none, none] [] S := by
  unfold X7_lawful_24 at hf
  refine a_iconst (pc := 24) (-1) dX7_lawful_24 rfl ?_
  have hf := Option.some.inj hf
  subst hf
  exact a_ireturn (pc := 25) dX7_lawful_25 hk hn ⟨rfl, rfl⟩
set_option maxHeartbeats 4000000 in
theorem sX7_lawful_77 {l : Launch} {g : gE} {d MC MS' k n : Nat} {a0 : Nat} (hd : 5 ≤ d) (hk : k ≤ MC) (hn : n ≤ MS') {r : Int32 × AH} {S : AH} {s0 : Int32} (hf : X7_lawful_77 S a0 s0 = some r) : AW l g d RX7 cX7_lawful 6 "lawful" MC MS' (Qr (some (.int r.1)) r.2) k n 77 [none, none, none, none, none, none] [.int s0] S := by
  unfold X7_lawful_77 at hf
  have hf := Option.some.inj hf
  subst hf
  exact a_ireturn (pc := 77) dX7_lawful_77 hk hn ⟨rfl, rfl⟩
set_option maxHeartbeats 4000000 in
theorem sX7_lawful_0 {l : Launch} {g : gE} {d MC MS' k n : Nat} {a0 : Nat} (hd : 5 ≤ d) (hk : k ≤ MC) (hn : n ≤ MS') {r : Int32 × AH} {S : AH} {l1 : Int32} {l2 : Int32} {l3 : Int32} (hf : X7_lawful_0 S a0 l1 l2 l3 = some r) : AW l g d RX7 cX7_lawful 6 "lawful" MC MS' (Qr (some (.int r.1)) r.2) k n 0 [some (.ref a0), some (.int l1), some (.int l2), some (.int l3), none, none] [] S := by
  unfold X7_lawful_0 at hf
  refine a_aload_n (pc := 0) dX7_lawful_0 rfl (isRv_r _) ?_
  refine a_iload_n (pc := 1) dX7_lawful_1 rfl ?_
  obtain ⟨r1, hr1, hf⟩ := Option.bind_eq_some_iff.mp hf
  obtain ⟨zq2, zq2S⟩ := r1
  have hf := (prp_of _ _ _).symm.trans hf
  obtain ⟨hor1, hr1⟩ := cO_of hr1
  refine g_call (pc := 2) (mc := 0) (ms := 0) (va_rf zq2) [.int l1] [] dX7_lawful_2 ml_X7_91 mv_X7_bargainOf hor1 (by decide) rfl rfl (by omega) (mX7_bargainOf (by omega) hr1) rfl (Nat.le_of_ble_eq_true rfl) hk hn ?_
  refine a_astore (pc := 5) (ls' := [some (.ref a0), some (.int l1), some (.int l2), some (.int l3), some (va_rf zq2), none]) dX7_lawful_5 (by decide) (isRv_rf _) rfl ?_
  refine a_aload_n (pc := 7) dX7_lawful_7 rfl (isRv_r _) ?_
  refine a_iload_n (pc := 8) dX7_lawful_8 rfl ?_
  obtain ⟨r3, hr3, hf⟩ := Option.bind_eq_some_iff.mp hf
  obtain ⟨zq4, zq4S⟩ := r3
  have hf := (prp_of _ _ _).symm.trans hf
  obtain ⟨hor3, hr3⟩ := cO_of hr3
  refine g_call (pc := 9) (mc := 0) (ms := 0) (va_rf zq4) [.int l3] [] dX7_lawful_9 ml_X7_117 mv_X7_lawOf hor3 (by decide) rfl rfl (by omega) (mX7_lawOf (by omega) hr3) rfl (Nat.le_of_ble_eq_true rfl) hk hn ?_
  refine a_astore (pc := 12) (ls' := [some (.ref a0), some (.int l1), some (.int l2), some (.int l3), some (va_rf zq2), some (va_rf zq4)]) dX7_lawful_12 (by decide) (isRv_rf _) (aSet_ref rfl (va_rf_cat _) rfl) ?_
  refine a_aload (pc := 14) dX7_lawful_14 rfl (isRv_rf _) ?_
  cases zq2 with
  | none =>
    have hf := (ifn_none _ _).symm.trans hf
    refine a_ifnullN (pc := 16) 24 dX7_lawful_16 (by decide) ?_
    refine a_sub (sub_d (sub_d (sub_d (sub_d (sub_d (sub_d sub_n)))))) ?_
    exact sX7_lawful_24 hd hk hn hf
  | some a5 =>
    have hf := (ifn_some _ _ _).symm.trans hf
    refine a_ifnull (pc := 16) dX7_lawful_16 ?_
    refine a_aload (pc := 19) dX7_lawful_19 rfl (isRv_rf _) ?_
    cases zq4 with
    | none =>
      have hf := (ifn_none _ _).symm.trans hf
      refine a_ifnonnullN (pc := 21) dX7_lawful_21 ?_
      refine a_sub (sub_d (sub_d (sub_d (sub_d (sub_d (sub_d sub_n)))))) ?_
      exact sX7_lawful_24 hd hk hn hf
    | some a6 =>
      have hf := (ifn_some _ _ _).symm.trans hf
      refine a_ifnonnull (pc := 21) 26 dX7_lawful_21 (by decide) ?_
      refine a_aload (pc := 26) dX7_lawful_26 rfl (isRv_r _) ?_
      refine a_iload_n (pc := 28) dX7_lawful_28 rfl ?_
      obtain ⟨r7, hr7, hf⟩ := Option.bind_eq_some_iff.mp hf
      obtain ⟨hor7, hr7⟩ := cO_of hr7
      refine g_call (pc := 29) (mc := 0) (ms := 0) (.int r7.1) [.int l2] [] dX7_lawful_29 ml_X7_100 mv_X1_hasSet hor7 (by decide) rfl rfl (by omega) (mX1_hasSet (by omega) hr7) rfl (Nat.le_of_ble_eq_true rfl) hk hn ?_
      refine a_if_ne (pc := 32) 38 dX7_lawful_32 (by decide) (fun c15 => ?_) (fun c15 => ?_)
      · have hf := (if_neg c15).symm.trans hf
        refine a_aload (pc := 38) dX7_lawful_38 rfl (isRv_r _) ?_
        refine a_iload_n (pc := 40) dX7_lawful_40 rfl ?_
        obtain ⟨r8, hr8, hf⟩ := Option.bind_eq_some_iff.mp hf
        obtain ⟨hor8, hr8⟩ := cO_of hr8
        refine g_call (pc := 41) (mc := 0) (ms := 0) (.int r8.1) [.int l2] [] dX7_lawful_41 ml_X7_104 mv_X1_isReadable hor8 (by decide) rfl rfl (by omega) (mX1_isReadable (by omega) hr8) rfl (Nat.le_of_ble_eq_true rfl) hk hn ?_
        refine a_if_ne (pc := 44) 49 dX7_lawful_44 (by decide) (fun c14 => ?_) (fun c14 => ?_)
        · have hf := (if_neg c14).symm.trans hf
          refine a_aload (pc := 49) dX7_lawful_49 rfl (isRv_r _) ?_
          refine a_iload_n (pc := 51) dX7_lawful_51 rfl ?_
          refine a_aload_n (pc := 52) dX7_lawful_52 rfl (isRv_r _) ?_
          obtain ⟨x9, hx9, hf⟩ := Option.bind_eq_some_iff.mp hf
          refine g_getQ (pc := 53) dX7_lawful_53 fl_X7_57 hx9 ?_
          obtain ⟨r10, hr10, hf⟩ := Option.bind_eq_some_iff.mp hf
          obtain ⟨hor10, hr10⟩ := cO_of hr10
          refine g_callv (pc := 56) (mc := 0) (ms := 0) [.int l2, va_rf x9] [] dX7_lawful_56 ml_X7_109 mv_X1_tellDuties hor10 (by decide) rfl rfl (by omega) (mX1_tellDuties (by omega) hr10) rfl (Nat.le_of_ble_eq_true rfl) hk hn ?_
          refine a_aload (pc := 59) dX7_lawful_59 rfl (isRv_r _) ?_
          refine a_aload_n (pc := 61) dX7_lawful_61 rfl (isRv_r _) ?_
          obtain ⟨x11, hx11, hf⟩ := Option.bind_eq_some_iff.mp hf
          refine g_getQ (pc := 62) dX7_lawful_62 fl_X7_57 hx11 ?_
          refine a_iconst (pc := 65) 0 dX7_lawful_65 rfl ?_
          obtain ⟨r12, hr12, hf⟩ := Option.bind_eq_some_iff.mp hf
          obtain ⟨hor12, hr12⟩ := cO_of hr12
          refine g_call (pc := 66) (mc := 0) (ms := 0) (.int r12.1) [va_rf x11, .int 0] [] dX7_lawful_66 ml_X7_121 mv_X3_allows hor12 (by decide) rfl rfl (by omega) (mX3_allows (by omega) hr12) rfl (Nat.le_of_ble_eq_true rfl) hk hn ?_
          refine a_if_eq (pc := 69) 76 dX7_lawful_69 (by decide) (fun c13 => ?_) (fun c13 => ?_)
          · have hf := (if_pos c13).symm.trans hf
            refine a_iconst (pc := 76) 0 dX7_lawful_76 rfl ?_
            refine a_sub (sub_d (sub_d (sub_d (sub_d (sub_d (sub_d sub_n)))))) ?_
            exact sX7_lawful_77 hd hk hn hf
          · have hf := (if_neg c13).symm.trans hf
            refine a_iconst (pc := 72) 1 dX7_lawful_72 rfl ?_
            refine a_goto (pc := 73) 77 dX7_lawful_73 (by decide) ?_
            refine a_sub (sub_d (sub_d (sub_d (sub_d (sub_d (sub_d sub_n)))))) ?_
            exact sX7_lawful_77 hd hk hn hf
        · have hf := (if_pos c14).symm.trans hf
          refine a_iconst (pc := 47) 0 dX7_lawful_47 rfl ?_
          have hf := Option.some.inj hf
          subst hf
          exact a_ireturn (pc := 48) dX7_lawful_48 hk hn ⟨rfl, rfl⟩
      · have hf := (if_pos c15).symm.trans hf
        refine a_bipush (pc := 35) (-2) dX7_lawful_35 rfl ?_
        have hf := Option.some.inj hf
        subst hf
        exact a_ireturn (pc := 37) dX7_lawful_37 hk hn ⟨rfl, rfl⟩
set_option maxHeartbeats 4000000 in
theorem mX7_lawful {l : Launch} {g : gE} {d : Nat} {a0 : Nat} (hd : 5 ≤ d) {r : Int32 × AH} {S : AH} {l1 : Int32} {l2 : Int32} {l3 : Int32} (hf : X7_lawful S a0 l1 l2 l3 = some r) : AM l g d yX7_lawful cX7_lawful 6 (some .int) 0 0 [.ref a0, .int l1, .int l2, .int l3] S (Qr (some (.int r.1)) r.2) := by
  refine AM.of rfl (by exact Nat.le_of_ble_eq_true rfl) (fun v h' q => by obtain ⟨rfl, -⟩ := q; exact ⟨_, rfl, rfl⟩) (fun ls e => ?_)
  have e2 : aBeg [.ref a0, .int l1, .int l2, .int l3] 6 = [some (.ref a0), some (.int l1), some (.int l2), some (.int l3), none, none] := rfl
  rw [e2] at e
  subst e
  refine a_sub (sub_k (sub_k (sub_k (sub_k (sub_k (sub_k (sub_n))))))) ?_
  exact sX7_lawful_0 hd (Nat.le_refl _) (Nat.le_refl _) (hf)

-- PencilStrikes.barred(III)I
def X7_barred_24 (S : AH) (a0 : Nat) : Option (Int32 × AH) :=
  some ((-1), S)
def X7_barred_0 (S : AH) (a0 : Nat) (l1 : Int32) (l2 : Int32) (l3 : Int32) : Option (Int32 × AH) :=
  (cO S a0 7 (X7_bargainOf S a0 l1)).bind fun r1 => prp r1 fun zq2 zq2S =>
  (cO zq2S a0 7 (X7_lawOf zq2S a0 l3)).bind fun r3 => prp r3 fun zq4 zq4S =>
  ifn zq2 (
    X7_barred_24 zq4S a0) fun a5 =>
  ifn zq4 (
    X7_barred_24 zq4S a0) fun a6 =>
  (cO zq4S a5 1 (X1_hasSet zq4S a5 l2)).bind fun r7 =>
  if r7.1 = 0 then
    some ((-2), r7.2)
  else
    (cO r7.2 a5 1 (X1_isReadable r7.2 a5 l2)).bind fun r8 =>
    if r8.1 = 0 then
      some ((-3), r8.2)
    else
      (gQ r8.2 a0 7 7).bind fun x9 =>
      (cO r8.2 a5 1 (X1_tellDuties r8.2 a5 l2 x9)).bind fun r10 =>
      (gQ r10.2 a0 7 7).bind fun x11 =>
      (cO r10.2 a6 3 (X3_barredDuties r10.2 a6 x11)).bind fun r12 =>
      some (r12.1, r12.2)
def X7_barred (S : AH) (a0 : Nat) (l1 : Int32) (l2 : Int32) (l3 : Int32) : Option (Int32 × AH) := X7_barred_0 S a0 l1 l2 l3
set_option maxHeartbeats 4000000 in
theorem sX7_barred_24 {l : Launch} {g : gE} {d MC MS' k n : Nat} {a0 : Nat} (hd : 4 ≤ d) (hk : k ≤ MC) (hn : n ≤ MS') {r : Int32 × AH} {S : AH} (hf : X7_barred_24 S a0 = some r) : AW l g d RX7 cX7_barred 6 "barred" MC MS' (Qr (some (.int r.1)) r.2) k n 24 [none, none, none, none, none, none] [] S := by
  unfold X7_barred_24 at hf
  refine a_iconst (pc := 24) (-1) dX7_barred_24 rfl ?_
  have hf := Option.some.inj hf
  subst hf
  exact a_ireturn (pc := 25) dX7_barred_25 hk hn ⟨rfl, rfl⟩
set_option maxHeartbeats 4000000 in
theorem sX7_barred_0 {l : Launch} {g : gE} {d MC MS' k n : Nat} {a0 : Nat} (hd : 4 ≤ d) (hk : k ≤ MC) (hn : n ≤ MS') {r : Int32 × AH} {S : AH} {l1 : Int32} {l2 : Int32} {l3 : Int32} (hf : X7_barred_0 S a0 l1 l2 l3 = some r) : AW l g d RX7 cX7_barred 6 "barred" MC MS' (Qr (some (.int r.1)) r.2) k n 0 [some (.ref a0), some (.int l1), some (.int l2), some (.int l3), none, none] [] S := by
  unfold X7_barred_0 at hf
  refine a_aload_n (pc := 0) dX7_barred_0 rfl (isRv_r _) ?_
  refine a_iload_n (pc := 1) dX7_barred_1 rfl ?_
  obtain ⟨r1, hr1, hf⟩ := Option.bind_eq_some_iff.mp hf
  obtain ⟨zq2, zq2S⟩ := r1
  have hf := (prp_of _ _ _).symm.trans hf
  obtain ⟨hor1, hr1⟩ := cO_of hr1
  refine g_call (pc := 2) (mc := 0) (ms := 0) (va_rf zq2) [.int l1] [] dX7_barred_2 ml_X7_91 mv_X7_bargainOf hor1 (by decide) rfl rfl (by omega) (mX7_bargainOf (by omega) hr1) rfl (Nat.le_of_ble_eq_true rfl) hk hn ?_
  refine a_astore (pc := 5) (ls' := [some (.ref a0), some (.int l1), some (.int l2), some (.int l3), some (va_rf zq2), none]) dX7_barred_5 (by decide) (isRv_rf _) rfl ?_
  refine a_aload_n (pc := 7) dX7_barred_7 rfl (isRv_r _) ?_
  refine a_iload_n (pc := 8) dX7_barred_8 rfl ?_
  obtain ⟨r3, hr3, hf⟩ := Option.bind_eq_some_iff.mp hf
  obtain ⟨zq4, zq4S⟩ := r3
  have hf := (prp_of _ _ _).symm.trans hf
  obtain ⟨hor3, hr3⟩ := cO_of hr3
  refine g_call (pc := 9) (mc := 0) (ms := 0) (va_rf zq4) [.int l3] [] dX7_barred_9 ml_X7_117 mv_X7_lawOf hor3 (by decide) rfl rfl (by omega) (mX7_lawOf (by omega) hr3) rfl (Nat.le_of_ble_eq_true rfl) hk hn ?_
  refine a_astore (pc := 12) (ls' := [some (.ref a0), some (.int l1), some (.int l2), some (.int l3), some (va_rf zq2), some (va_rf zq4)]) dX7_barred_12 (by decide) (isRv_rf _) (aSet_ref rfl (va_rf_cat _) rfl) ?_
  refine a_aload (pc := 14) dX7_barred_14 rfl (isRv_rf _) ?_
  cases zq2 with
  | none =>
    have hf := (ifn_none _ _).symm.trans hf
    refine a_ifnullN (pc := 16) 24 dX7_barred_16 (by decide) ?_
    refine a_sub (sub_d (sub_d (sub_d (sub_d (sub_d (sub_d sub_n)))))) ?_
    exact sX7_barred_24 hd hk hn hf
  | some a5 =>
    have hf := (ifn_some _ _ _).symm.trans hf
    refine a_ifnull (pc := 16) dX7_barred_16 ?_
    refine a_aload (pc := 19) dX7_barred_19 rfl (isRv_rf _) ?_
    cases zq4 with
    | none =>
      have hf := (ifn_none _ _).symm.trans hf
      refine a_ifnonnullN (pc := 21) dX7_barred_21 ?_
      refine a_sub (sub_d (sub_d (sub_d (sub_d (sub_d (sub_d sub_n)))))) ?_
      exact sX7_barred_24 hd hk hn hf
    | some a6 =>
      have hf := (ifn_some _ _ _).symm.trans hf
      refine a_ifnonnull (pc := 21) 26 dX7_barred_21 (by decide) ?_
      refine a_aload (pc := 26) dX7_barred_26 rfl (isRv_r _) ?_
      refine a_iload_n (pc := 28) dX7_barred_28 rfl ?_
      obtain ⟨r7, hr7, hf⟩ := Option.bind_eq_some_iff.mp hf
      obtain ⟨hor7, hr7⟩ := cO_of hr7
      refine g_call (pc := 29) (mc := 0) (ms := 0) (.int r7.1) [.int l2] [] dX7_barred_29 ml_X7_100 mv_X1_hasSet hor7 (by decide) rfl rfl (by omega) (mX1_hasSet (by omega) hr7) rfl (Nat.le_of_ble_eq_true rfl) hk hn ?_
      refine a_if_ne (pc := 32) 38 dX7_barred_32 (by decide) (fun c14 => ?_) (fun c14 => ?_)
      · have hf := (if_neg c14).symm.trans hf
        refine a_aload (pc := 38) dX7_barred_38 rfl (isRv_r _) ?_
        refine a_iload_n (pc := 40) dX7_barred_40 rfl ?_
        obtain ⟨r8, hr8, hf⟩ := Option.bind_eq_some_iff.mp hf
        obtain ⟨hor8, hr8⟩ := cO_of hr8
        refine g_call (pc := 41) (mc := 0) (ms := 0) (.int r8.1) [.int l2] [] dX7_barred_41 ml_X7_104 mv_X1_isReadable hor8 (by decide) rfl rfl (by omega) (mX1_isReadable (by omega) hr8) rfl (Nat.le_of_ble_eq_true rfl) hk hn ?_
        refine a_if_ne (pc := 44) 50 dX7_barred_44 (by decide) (fun c13 => ?_) (fun c13 => ?_)
        · have hf := (if_neg c13).symm.trans hf
          refine a_aload (pc := 50) dX7_barred_50 rfl (isRv_r _) ?_
          refine a_iload_n (pc := 52) dX7_barred_52 rfl ?_
          refine a_aload_n (pc := 53) dX7_barred_53 rfl (isRv_r _) ?_
          obtain ⟨x9, hx9, hf⟩ := Option.bind_eq_some_iff.mp hf
          refine g_getQ (pc := 54) dX7_barred_54 fl_X7_57 hx9 ?_
          obtain ⟨r10, hr10, hf⟩ := Option.bind_eq_some_iff.mp hf
          obtain ⟨hor10, hr10⟩ := cO_of hr10
          refine g_callv (pc := 57) (mc := 0) (ms := 0) [.int l2, va_rf x9] [] dX7_barred_57 ml_X7_109 mv_X1_tellDuties hor10 (by decide) rfl rfl (by omega) (mX1_tellDuties (by omega) hr10) rfl (Nat.le_of_ble_eq_true rfl) hk hn ?_
          refine a_aload (pc := 60) dX7_barred_60 rfl (isRv_r _) ?_
          refine a_aload_n (pc := 62) dX7_barred_62 rfl (isRv_r _) ?_
          obtain ⟨x11, hx11, hf⟩ := Option.bind_eq_some_iff.mp hf
          refine g_getQ (pc := 63) dX7_barred_63 fl_X7_57 hx11 ?_
          obtain ⟨r12, hr12, hf⟩ := Option.bind_eq_some_iff.mp hf
          obtain ⟨hor12, hr12⟩ := cO_of hr12
          refine g_call (pc := 66) (mc := 0) (ms := 0) (.int r12.1) [va_rf x11] [] dX7_barred_66 ml_X7_125 mv_X3_barredDuties hor12 (by decide) rfl rfl (by omega) (mX3_barredDuties (by omega) hr12) rfl (Nat.le_of_ble_eq_true rfl) hk hn ?_
          have hf := Option.some.inj hf
          subst hf
          exact a_ireturn (pc := 69) dX7_barred_69 hk hn ⟨rfl, rfl⟩
        · have hf := (if_pos c13).symm.trans hf
          refine a_bipush (pc := 47) (-3) dX7_barred_47 rfl ?_
          have hf := Option.some.inj hf
          subst hf
          exact a_ireturn (pc := 49) dX7_barred_49 hk hn ⟨rfl, rfl⟩
      · have hf := (if_pos c14).symm.trans hf
        refine a_bipush (pc := 35) (-2) dX7_barred_35 rfl ?_
        have hf := Option.some.inj hf
        subst hf
        exact a_ireturn (pc := 37) dX7_barred_37 hk hn ⟨rfl, rfl⟩
set_option maxHeartbeats 4000000 in
theorem mX7_barred {l : Launch} {g : gE} {d : Nat} {a0 : Nat} (hd : 4 ≤ d) {r : Int32 × AH} {S : AH} {l1 : Int32} {l2 : Int32} {l3 : Int32} (hf : X7_barred S a0 l1 l2 l3 = some r) : AM l g d yX7_barred cX7_barred 6 (some .int) 0 0 [.ref a0, .int l1, .int l2, .int l3] S (Qr (some (.int r.1)) r.2) := by
  refine AM.of rfl (by exact Nat.le_of_ble_eq_true rfl) (fun v h' q => by obtain ⟨rfl, -⟩ := q; exact ⟨_, rfl, rfl⟩) (fun ls e => ?_)
  have e2 : aBeg [.ref a0, .int l1, .int l2, .int l3] 6 = [some (.ref a0), some (.int l1), some (.int l2), some (.int l3), none, none] := rfl
  rw [e2] at e
  subst e
  refine a_sub (sub_k (sub_k (sub_k (sub_k (sub_k (sub_k (sub_n))))))) ?_
  exact sX7_barred_0 hd (Nat.le_refl _) (Nat.le_refl _) (hf)

-- PencilStrikes.isKind(I)Z
def X7_isKind_15 (S : AH) (s0 : Int32) : Option (Int32 × AH) :=
  some (s0, S)
def X7_isKind_14 (S : AH) : Option (Int32 × AH) :=
  X7_isKind_15 S 0
def X7_isKind_0 (S : AH) (l0 : Int32) : Option (Int32 × AH) :=
  if l0 < 0 then
    X7_isKind_14 S
  else
    if 7 ≤ l0 then
      X7_isKind_14 S
    else
      X7_isKind_15 S 1
def X7_isKind (S : AH) (l0 : Int32) : Option (Int32 × AH) := zg (X7_isKind_0 S l0)
set_option maxHeartbeats 4000000 in
theorem sX7_isKind_15 {l : Launch} {g : gE} {d MC MS' k n : Nat} (hd : 0 ≤ d) (hk : k ≤ MC) (hn : n ≤ MS') {r : Int32 × AH} {S : AH} {s0 : Int32} (hf : X7_isKind_15 S s0 = some r) : AW l g d RX7 cX7_isKind 1 "isKind" MC MS' (Qr (some (.int r.1)) r.2) k n 15 [none] [.int s0] S := by
  unfold X7_isKind_15 at hf
  have hf := Option.some.inj hf
  subst hf
  exact a_ireturn (pc := 15) dX7_isKind_15 hk hn ⟨rfl, rfl⟩
set_option maxHeartbeats 4000000 in
theorem sX7_isKind_14 {l : Launch} {g : gE} {d MC MS' k n : Nat} (hd : 0 ≤ d) (hk : k ≤ MC) (hn : n ≤ MS') {r : Int32 × AH} {S : AH} (hf : X7_isKind_14 S = some r) : AW l g d RX7 cX7_isKind 1 "isKind" MC MS' (Qr (some (.int r.1)) r.2) k n 14 [none] [] S := by
  unfold X7_isKind_14 at hf
  refine a_iconst (pc := 14) 0 dX7_isKind_14 rfl ?_
  exact sX7_isKind_15 hd hk hn hf
set_option maxHeartbeats 4000000 in
theorem sX7_isKind_0 {l : Launch} {g : gE} {d MC MS' k n : Nat} (hd : 0 ≤ d) (hk : k ≤ MC) (hn : n ≤ MS') {r : Int32 × AH} {S : AH} {l0 : Int32} (hf : X7_isKind_0 S l0 = some r) : AW l g d RX7 cX7_isKind 1 "isKind" MC MS' (Qr (some (.int r.1)) r.2) k n 0 [some (.int l0)] [] S := by
  unfold X7_isKind_0 at hf
  refine a_iload_n (pc := 0) dX7_isKind_0 rfl ?_
  refine a_if_lt (pc := 1) 14 dX7_isKind_1 (by decide) (fun c2 => ?_) (fun c2 => ?_)
  · have hf := (if_pos c2).symm.trans hf
    refine a_sub (sub_d sub_n) ?_
    exact sX7_isKind_14 hd hk hn hf
  · have hf := (if_neg c2).symm.trans hf
    refine a_iload_n (pc := 4) dX7_isKind_4 rfl ?_
    refine a_bipush (pc := 5) 7 dX7_isKind_5 rfl ?_
    refine a_icmp_ge (pc := 7) 14 dX7_isKind_7 (by decide) (fun c1 => ?_) (fun c1 => ?_)
    · have hf := (if_pos c1).symm.trans hf
      refine a_sub (sub_d sub_n) ?_
      exact sX7_isKind_14 hd hk hn hf
    · have hf := (if_neg c1).symm.trans hf
      refine a_iconst (pc := 10) 1 dX7_isKind_10 rfl ?_
      refine a_goto (pc := 11) 15 dX7_isKind_11 (by decide) ?_
      refine a_sub (sub_d sub_n) ?_
      exact sX7_isKind_15 hd hk hn hf
set_option maxHeartbeats 4000000 in
theorem mX7_isKind {l : Launch} {g : gE} {d : Nat} (hd : 0 ≤ d) {r : Int32 × AH} {S : AH} {l0 : Int32} (hf : X7_isKind S l0 = some r) : AM l g d yX7_isKind cX7_isKind 1 (some .boolean) 0 0 [.int l0] S (Qr (some (.int r.1)) r.2) := by
  refine AM.of rfl (by exact Nat.le_of_ble_eq_true rfl) (fun v h' q => by obtain ⟨rfl, -⟩ := q; refine ⟨_, rfl, ?_⟩; rcases (zg_of hf).2 with e | e <;> rw [e] <;> rfl) (fun ls e => ?_)
  have e2 : aBeg [.int l0] 1 = [some (.int l0)] := rfl
  rw [e2] at e
  subst e
  refine a_sub (sub_k (sub_n)) ?_
  exact sX7_isKind_0 hd (Nat.le_refl _) (Nat.le_refl _) ((zg_of hf).1)

-- PencilStrikes$Bargain.isOfClauses(I)Z
def X1_isOfClauses_68 (rec2 : AH → Nat → Int32 → Int32 → Option (Int32 × AH)) (S : AH) (a0 : Nat) (l1 : Int32) (l2 : Int32) : Option (Int32 × AH) :=
  rec2 S a0 l1 (l2 + 1)
def X1_isOfClauses_46 (rec2 : AH → Nat → Int32 → Int32 → Option (Int32 × AH)) (S : AH) (a0 : Nat) (s0 : Int32) (l1 : Int32) (l2 : Int32) : Option (Int32 × AH) :=
  if s0 = 0 then
    X1_isOfClauses_68 rec2 S a0 l1 l2
  else
    if ((l1 >>> (l2 &&& 31)) &&& 1) = ((l1 >>> ((l2 - 1) &&& 31)) &&& 1) then
      X1_isOfClauses_68 rec2 S a0 l1 l2
    else
      some (0, S)
def X1_isOfClauses_45 (rec2 : AH → Nat → Int32 → Int32 → Option (Int32 × AH)) (S : AH) (a0 : Nat) (l1 : Int32) (l2 : Int32) : Option (Int32 × AH) :=
  X1_isOfClauses_46 rec2 S a0 0 l1 l2
def X1_isOfClauses_2 : Nat → AH → Nat → Int32 → Int32 → Option (Int32 × AH)
  | 0, _, _, _, _ => none
  | fn + 1, S, a0, l1, l2 =>
    (gQ S a0 1 0).bind fun x1 =>
    (aN S x1).bind fun x2 =>
    if x2 ≤ l2 then
      some (1, S)
    else
      (gQ S a0 1 0).bind fun x3 =>
      (aA 0 S x3 l2).bind fun x4 =>
      if (x4 / 100) = 59 then
        X1_isOfClauses_45 (X1_isOfClauses_2 fn) S a0 l1 l2
      else
        (gQ S a0 1 0).bind fun x5 =>
        (aA 0 S x5 (l2 - 1)).bind fun x6 =>
        if (x6 / 100) = 59 then
          X1_isOfClauses_45 (X1_isOfClauses_2 fn) S a0 l1 l2
        else
          X1_isOfClauses_46 (X1_isOfClauses_2 fn) S a0 1 l1 l2
def X1_isOfClauses_0 (S : AH) (a0 : Nat) (l1 : Int32) : Option (Int32 × AH) :=
  X1_isOfClauses_2 FU S a0 l1 1
def X1_isOfClauses (S : AH) (a0 : Nat) (l1 : Int32) : Option (Int32 × AH) := zg (X1_isOfClauses_0 S a0 l1)
set_option maxHeartbeats 4000000 in
theorem sX1_isOfClauses_68 {l : Launch} {g : gE} {d MC MS' k n : Nat} {a0 : Nat} (hd : 0 ≤ d) (hk : k ≤ MC) (hn : n ≤ MS') {r : Int32 × AH} {rec2 : AH → Nat → Int32 → Int32 → Option (Int32 × AH)} (hlp2 : ∀ (S : AH) (l1 : Int32) (l2 : Int32), rec2 S a0 l1 l2 = some r → AW l g d RX1 cX1_isOfClauses 4 "isOfClauses" MC MS' (Qr (some (.int r.1)) r.2) k n 2 [some (.ref a0), some (.int l1), some (.int l2), none] [] S) {S : AH} {l1 : Int32} {l2 : Int32} (hf : X1_isOfClauses_68 rec2 S a0 l1 l2 = some r) : AW l g d RX1 cX1_isOfClauses 4 "isOfClauses" MC MS' (Qr (some (.int r.1)) r.2) k n 68 [some (.ref a0), some (.int l1), some (.int l2), none] [] S := by
  unfold X1_isOfClauses_68 at hf
  refine a_iinc (pc := 68) (ls' := [some (.ref a0), some (.int l1), some (.int (l2 + 1)), none]) (l2 + 1) dX1_isOfClauses_68 rfl rfl (by decide) rfl ?_
  refine a_goto (pc := 71) 2 dX1_isOfClauses_71 (by decide) ?_
  exact hlp2 S l1 (l2 + 1) hf
set_option maxHeartbeats 4000000 in
theorem sX1_isOfClauses_46 {l : Launch} {g : gE} {d MC MS' k n : Nat} {a0 : Nat} (hd : 0 ≤ d) (hk : k ≤ MC) (hn : n ≤ MS') {r : Int32 × AH} {rec2 : AH → Nat → Int32 → Int32 → Option (Int32 × AH)} (hlp2 : ∀ (S : AH) (l1 : Int32) (l2 : Int32), rec2 S a0 l1 l2 = some r → AW l g d RX1 cX1_isOfClauses 4 "isOfClauses" MC MS' (Qr (some (.int r.1)) r.2) k n 2 [some (.ref a0), some (.int l1), some (.int l2), none] [] S) {S : AH} {s0 : Int32} {l1 : Int32} {l2 : Int32} (hf : X1_isOfClauses_46 rec2 S a0 s0 l1 l2 = some r) : AW l g d RX1 cX1_isOfClauses 4 "isOfClauses" MC MS' (Qr (some (.int r.1)) r.2) k n 46 [some (.ref a0), some (.int l1), some (.int l2), none] [.int s0] S := by
  unfold X1_isOfClauses_46 at hf
  refine a_istore_n (pc := 46) (ls' := [some (.ref a0), some (.int l1), some (.int l2), some (.int s0)]) dX1_isOfClauses_46 (by decide) rfl ?_
  refine a_iload_n (pc := 47) dX1_isOfClauses_47 rfl ?_
  refine a_if_eq (pc := 48) 68 dX1_isOfClauses_48 (by decide) (fun c2 => ?_) (fun c2 => ?_)
  · have hf := (if_pos c2).symm.trans hf
    refine a_sub (sub_k (sub_k (sub_k (sub_d sub_n)))) ?_
    exact sX1_isOfClauses_68 hd hk hn hlp2 hf
  · have hf := (if_neg c2).symm.trans hf
    refine a_iload_n (pc := 51) dX1_isOfClauses_51 rfl ?_
    refine a_iload_n (pc := 52) dX1_isOfClauses_52 rfl ?_
    refine a_ishr (pc := 53) dX1_isOfClauses_53 ?_
    refine a_iconst (pc := 54) 1 dX1_isOfClauses_54 rfl ?_
    refine a_iand (pc := 55) dX1_isOfClauses_55 ?_
    refine a_iload_n (pc := 56) dX1_isOfClauses_56 rfl ?_
    refine a_iload_n (pc := 57) dX1_isOfClauses_57 rfl ?_
    refine a_iconst (pc := 58) 1 dX1_isOfClauses_58 rfl ?_
    refine a_isub (pc := 59) dX1_isOfClauses_59 ?_
    refine a_ishr (pc := 60) dX1_isOfClauses_60 ?_
    refine a_iconst (pc := 61) 1 dX1_isOfClauses_61 rfl ?_
    refine a_iand (pc := 62) dX1_isOfClauses_62 ?_
    refine a_icmp_eq (pc := 63) 68 dX1_isOfClauses_63 (by decide) (fun c1 => ?_) (fun c1 => ?_)
    · have hf := (if_pos c1).symm.trans hf
      refine a_sub (sub_k (sub_k (sub_k (sub_d sub_n)))) ?_
      exact sX1_isOfClauses_68 hd hk hn hlp2 hf
    · have hf := (if_neg c1).symm.trans hf
      refine a_iconst (pc := 66) 0 dX1_isOfClauses_66 rfl ?_
      have hf := Option.some.inj hf
      subst hf
      exact a_ireturn (pc := 67) dX1_isOfClauses_67 hk hn ⟨rfl, rfl⟩
set_option maxHeartbeats 4000000 in
theorem sX1_isOfClauses_45 {l : Launch} {g : gE} {d MC MS' k n : Nat} {a0 : Nat} (hd : 0 ≤ d) (hk : k ≤ MC) (hn : n ≤ MS') {r : Int32 × AH} {rec2 : AH → Nat → Int32 → Int32 → Option (Int32 × AH)} (hlp2 : ∀ (S : AH) (l1 : Int32) (l2 : Int32), rec2 S a0 l1 l2 = some r → AW l g d RX1 cX1_isOfClauses 4 "isOfClauses" MC MS' (Qr (some (.int r.1)) r.2) k n 2 [some (.ref a0), some (.int l1), some (.int l2), none] [] S) {S : AH} {l1 : Int32} {l2 : Int32} (hf : X1_isOfClauses_45 rec2 S a0 l1 l2 = some r) : AW l g d RX1 cX1_isOfClauses 4 "isOfClauses" MC MS' (Qr (some (.int r.1)) r.2) k n 45 [some (.ref a0), some (.int l1), some (.int l2), none] [] S := by
  unfold X1_isOfClauses_45 at hf
  refine a_iconst (pc := 45) 0 dX1_isOfClauses_45 rfl ?_
  exact sX1_isOfClauses_46 hd hk hn hlp2 hf
set_option maxHeartbeats 4000000 in
theorem sX1_isOfClauses_2 {l : Launch} {g : gE} {d MC MS' k n : Nat} {a0 : Nat} (hd : 0 ≤ d) (hk : k ≤ MC) (hn : n ≤ MS') {r : Int32 × AH} : ∀ (fn : Nat) (S : AH) (l1 : Int32) (l2 : Int32), X1_isOfClauses_2 fn S a0 l1 l2 = some r → AW l g d RX1 cX1_isOfClauses 4 "isOfClauses" MC MS' (Qr (some (.int r.1)) r.2) k n 2 [some (.ref a0), some (.int l1), some (.int l2), none] [] S := by
  intro fn
  induction fn with
  | zero =>
    intro S l1 l2 hf
    rw [X1_isOfClauses_2] at hf
    cases hf
  | succ fn ih =>
    intro S l1 l2 hf
    rw [X1_isOfClauses_2] at hf
    refine a_iload_n (pc := 2) dX1_isOfClauses_2 rfl ?_
    refine a_aload_n (pc := 3) dX1_isOfClauses_3 rfl (isRv_r _) ?_
    obtain ⟨x1, hx1, hf⟩ := Option.bind_eq_some_iff.mp hf
    refine g_getQ (pc := 4) dX1_isOfClauses_4 fl_X1_22 hx1 ?_
    obtain ⟨x2, hx2, hf⟩ := Option.bind_eq_some_iff.mp hf
    refine g_alen (pc := 7) dX1_isOfClauses_7 hx2 ?_
    refine a_icmp_ge (pc := 8) 74 dX1_isOfClauses_8 (by decide) (fun c9 => ?_) (fun c9 => ?_)
    · have hf := (if_pos c9).symm.trans hf
      refine a_iconst (pc := 74) 1 dX1_isOfClauses_74 rfl ?_
      have hf := Option.some.inj hf
      subst hf
      exact a_ireturn (pc := 75) dX1_isOfClauses_75 hk hn ⟨rfl, rfl⟩
    · have hf := (if_neg c9).symm.trans hf
      refine a_aload_n (pc := 11) dX1_isOfClauses_11 rfl (isRv_r _) ?_
      obtain ⟨x3, hx3, hf⟩ := Option.bind_eq_some_iff.mp hf
      refine g_getQ (pc := 12) dX1_isOfClauses_12 fl_X1_22 hx3 ?_
      refine a_iload_n (pc := 15) dX1_isOfClauses_15 rfl ?_
      obtain ⟨x4, hx4, hf⟩ := Option.bind_eq_some_iff.mp hf
      refine g_iald (pc := 16) dX1_isOfClauses_16 hx4 ?_
      refine a_bipush (pc := 17) 100 dX1_isOfClauses_17 rfl ?_
      refine a_idiv (pc := 19) dX1_isOfClauses_19 (by decide) ?_
      refine a_bipush (pc := 20) 59 dX1_isOfClauses_20 rfl ?_
      refine a_icmp_eq (pc := 22) 45 dX1_isOfClauses_22 (by decide) (fun c8 => ?_) (fun c8 => ?_)
      · have hf := (if_pos c8).symm.trans hf
        exact sX1_isOfClauses_45 hd hk hn ih hf
      · have hf := (if_neg c8).symm.trans hf
        refine a_aload_n (pc := 25) dX1_isOfClauses_25 rfl (isRv_r _) ?_
        obtain ⟨x5, hx5, hf⟩ := Option.bind_eq_some_iff.mp hf
        refine g_getQ (pc := 26) dX1_isOfClauses_26 fl_X1_22 hx5 ?_
        refine a_iload_n (pc := 29) dX1_isOfClauses_29 rfl ?_
        refine a_iconst (pc := 30) 1 dX1_isOfClauses_30 rfl ?_
        refine a_isub (pc := 31) dX1_isOfClauses_31 ?_
        obtain ⟨x6, hx6, hf⟩ := Option.bind_eq_some_iff.mp hf
        refine g_iald (pc := 32) dX1_isOfClauses_32 hx6 ?_
        refine a_bipush (pc := 33) 100 dX1_isOfClauses_33 rfl ?_
        refine a_idiv (pc := 35) dX1_isOfClauses_35 (by decide) ?_
        refine a_bipush (pc := 36) 59 dX1_isOfClauses_36 rfl ?_
        refine a_icmp_eq (pc := 38) 45 dX1_isOfClauses_38 (by decide) (fun c7 => ?_) (fun c7 => ?_)
        · have hf := (if_pos c7).symm.trans hf
          exact sX1_isOfClauses_45 hd hk hn ih hf
        · have hf := (if_neg c7).symm.trans hf
          refine a_iconst (pc := 41) 1 dX1_isOfClauses_41 rfl ?_
          refine a_goto (pc := 42) 46 dX1_isOfClauses_42 (by decide) ?_
          exact sX1_isOfClauses_46 hd hk hn ih hf
set_option maxHeartbeats 4000000 in
theorem sX1_isOfClauses_0 {l : Launch} {g : gE} {d MC MS' k n : Nat} {a0 : Nat} (hd : 0 ≤ d) (hk : k ≤ MC) (hn : n ≤ MS') {r : Int32 × AH} {S : AH} {l1 : Int32} (hf : X1_isOfClauses_0 S a0 l1 = some r) : AW l g d RX1 cX1_isOfClauses 4 "isOfClauses" MC MS' (Qr (some (.int r.1)) r.2) k n 0 [some (.ref a0), some (.int l1), none, none] [] S := by
  unfold X1_isOfClauses_0 at hf
  refine a_iconst (pc := 0) 1 dX1_isOfClauses_0 rfl ?_
  refine a_istore_n (pc := 1) (ls' := [some (.ref a0), some (.int l1), some (.int 1), none]) dX1_isOfClauses_1 (by decide) rfl ?_
  exact sX1_isOfClauses_2 hd hk hn FU S l1 1 hf
set_option maxHeartbeats 4000000 in
theorem mX1_isOfClauses {l : Launch} {g : gE} {d : Nat} {a0 : Nat} (hd : 0 ≤ d) {r : Int32 × AH} {S : AH} {l1 : Int32} (hf : X1_isOfClauses S a0 l1 = some r) : AM l g d yX1_isOfClauses cX1_isOfClauses 4 (some .boolean) 0 0 [.ref a0, .int l1] S (Qr (some (.int r.1)) r.2) := by
  refine AM.of rfl (by exact Nat.le_of_ble_eq_true rfl) (fun v h' q => by obtain ⟨rfl, -⟩ := q; refine ⟨_, rfl, ?_⟩; rcases (zg_of hf).2 with e | e <;> rw [e] <;> rfl) (fun ls e => ?_)
  have e2 : aBeg [.ref a0, .int l1] 4 = [some (.ref a0), some (.int l1), none, none] := rfl
  rw [e2] at e
  subst e
  refine a_sub (sub_k (sub_k (sub_k (sub_k (sub_n))))) ?_
  exact sX1_isOfClauses_0 hd (Nat.le_refl _) (Nat.le_refl _) ((zg_of hf).1)

-- PencilStrikes$Bargain.isOfItems(I)Z
def X1_isOfItems_49 (rec2 : AH → Nat → Int32 → Int32 → Option (Int32 × AH)) (S : AH) (a0 : Nat) (l1 : Int32) (l2 : Int32) : Option (Int32 × AH) :=
  rec2 S a0 l1 (l2 + 1)
def X1_isOfItems_2 : Nat → AH → Nat → Int32 → Int32 → Option (Int32 × AH)
  | 0, _, _, _, _ => none
  | fn + 1, S, a0, l1, l2 =>
    (gQ S a0 1 0).bind fun x1 =>
    (aN S x1).bind fun x2 =>
    if x2 ≤ l2 then
      some (1, S)
    else
      (gQ S a0 1 0).bind fun x3 =>
      (aA 0 S x3 l2).bind fun x4 =>
      if ((l1 >>> (l2 &&& 31)) &&& 1) = 0 then
        X1_isOfItems_49 (X1_isOfItems_2 fn) S a0 l1 l2
      else
        if (x4 / 100) = 119 then
          X1_isOfItems_49 (X1_isOfItems_2 fn) S a0 l1 l2
        else
          if (x4 / 100) = 38 then
            X1_isOfItems_49 (X1_isOfItems_2 fn) S a0 l1 l2
          else
            if (x4 / 100) = 44 then
              X1_isOfItems_49 (X1_isOfItems_2 fn) S a0 l1 l2
            else
              some (0, S)
def X1_isOfItems_0 (S : AH) (a0 : Nat) (l1 : Int32) : Option (Int32 × AH) :=
  X1_isOfItems_2 FU S a0 l1 0
def X1_isOfItems (S : AH) (a0 : Nat) (l1 : Int32) : Option (Int32 × AH) := zg (X1_isOfItems_0 S a0 l1)
set_option maxHeartbeats 4000000 in
theorem sX1_isOfItems_49 {l : Launch} {g : gE} {d MC MS' k n : Nat} {a0 : Nat} (hd : 0 ≤ d) (hk : k ≤ MC) (hn : n ≤ MS') {r : Int32 × AH} {rec2 : AH → Nat → Int32 → Int32 → Option (Int32 × AH)} (hlp2 : ∀ (S : AH) (l1 : Int32) (l2 : Int32), rec2 S a0 l1 l2 = some r → AW l g d RX1 cX1_isOfItems 4 "isOfItems" MC MS' (Qr (some (.int r.1)) r.2) k n 2 [some (.ref a0), some (.int l1), some (.int l2), none] [] S) {S : AH} {l1 : Int32} {l2 : Int32} (hf : X1_isOfItems_49 rec2 S a0 l1 l2 = some r) : AW l g d RX1 cX1_isOfItems 4 "isOfItems" MC MS' (Qr (some (.int r.1)) r.2) k n 49 [some (.ref a0), some (.int l1), some (.int l2), none] [] S := by
  unfold X1_isOfItems_49 at hf
  refine a_iinc (pc := 49) (ls' := [some (.ref a0), some (.int l1), some (.int (l2 + 1)), none]) (l2 + 1) dX1_isOfItems_49 rfl rfl (by decide) rfl ?_
  refine a_goto (pc := 52) 2 dX1_isOfItems_52 (by decide) ?_
  exact hlp2 S l1 (l2 + 1) hf
set_option maxHeartbeats 4000000 in
theorem sX1_isOfItems_2 {l : Launch} {g : gE} {d MC MS' k n : Nat} {a0 : Nat} (hd : 0 ≤ d) (hk : k ≤ MC) (hn : n ≤ MS') {r : Int32 × AH} : ∀ (fn : Nat) (S : AH) (l1 : Int32) (l2 : Int32), X1_isOfItems_2 fn S a0 l1 l2 = some r → AW l g d RX1 cX1_isOfItems 4 "isOfItems" MC MS' (Qr (some (.int r.1)) r.2) k n 2 [some (.ref a0), some (.int l1), some (.int l2), none] [] S := by
  intro fn
  induction fn with
  | zero =>
    intro S l1 l2 hf
    rw [X1_isOfItems_2] at hf
    cases hf
  | succ fn ih =>
    intro S l1 l2 hf
    rw [X1_isOfItems_2] at hf
    refine a_iload_n (pc := 2) dX1_isOfItems_2 rfl ?_
    refine a_aload_n (pc := 3) dX1_isOfItems_3 rfl (isRv_r _) ?_
    obtain ⟨x1, hx1, hf⟩ := Option.bind_eq_some_iff.mp hf
    refine g_getQ (pc := 4) dX1_isOfItems_4 fl_X1_22 hx1 ?_
    obtain ⟨x2, hx2, hf⟩ := Option.bind_eq_some_iff.mp hf
    refine g_alen (pc := 7) dX1_isOfItems_7 hx2 ?_
    refine a_icmp_ge (pc := 8) 55 dX1_isOfItems_8 (by decide) (fun c9 => ?_) (fun c9 => ?_)
    · have hf := (if_pos c9).symm.trans hf
      refine a_iconst (pc := 55) 1 dX1_isOfItems_55 rfl ?_
      have hf := Option.some.inj hf
      subst hf
      exact a_ireturn (pc := 56) dX1_isOfItems_56 hk hn ⟨rfl, rfl⟩
    · have hf := (if_neg c9).symm.trans hf
      refine a_aload_n (pc := 11) dX1_isOfItems_11 rfl (isRv_r _) ?_
      obtain ⟨x3, hx3, hf⟩ := Option.bind_eq_some_iff.mp hf
      refine g_getQ (pc := 12) dX1_isOfItems_12 fl_X1_22 hx3 ?_
      refine a_iload_n (pc := 15) dX1_isOfItems_15 rfl ?_
      obtain ⟨x4, hx4, hf⟩ := Option.bind_eq_some_iff.mp hf
      refine g_iald (pc := 16) dX1_isOfItems_16 hx4 ?_
      refine a_bipush (pc := 17) 100 dX1_isOfItems_17 rfl ?_
      refine a_idiv (pc := 19) dX1_isOfItems_19 (by decide) ?_
      refine a_istore_n (pc := 20) (ls' := [some (.ref a0), some (.int l1), some (.int l2), some (.int (x4 / 100))]) dX1_isOfItems_20 (by decide) rfl ?_
      refine a_iload_n (pc := 21) dX1_isOfItems_21 rfl ?_
      refine a_iload_n (pc := 22) dX1_isOfItems_22 rfl ?_
      refine a_ishr (pc := 23) dX1_isOfItems_23 ?_
      refine a_iconst (pc := 24) 1 dX1_isOfItems_24 rfl ?_
      refine a_iand (pc := 25) dX1_isOfItems_25 ?_
      refine a_if_eq (pc := 26) 49 dX1_isOfItems_26 (by decide) (fun c8 => ?_) (fun c8 => ?_)
      · have hf := (if_pos c8).symm.trans hf
        refine a_sub (sub_k (sub_k (sub_k (sub_d sub_n)))) ?_
        exact sX1_isOfItems_49 hd hk hn ih hf
      · have hf := (if_neg c8).symm.trans hf
        refine a_iload_n (pc := 29) dX1_isOfItems_29 rfl ?_
        refine a_bipush (pc := 30) 119 dX1_isOfItems_30 rfl ?_
        refine a_icmp_eq (pc := 32) 49 dX1_isOfItems_32 (by decide) (fun c7 => ?_) (fun c7 => ?_)
        · have hf := (if_pos c7).symm.trans hf
          refine a_sub (sub_k (sub_k (sub_k (sub_d sub_n)))) ?_
          exact sX1_isOfItems_49 hd hk hn ih hf
        · have hf := (if_neg c7).symm.trans hf
          refine a_iload_n (pc := 35) dX1_isOfItems_35 rfl ?_
          refine a_bipush (pc := 36) 38 dX1_isOfItems_36 rfl ?_
          refine a_icmp_eq (pc := 38) 49 dX1_isOfItems_38 (by decide) (fun c6 => ?_) (fun c6 => ?_)
          · have hf := (if_pos c6).symm.trans hf
            refine a_sub (sub_k (sub_k (sub_k (sub_d sub_n)))) ?_
            exact sX1_isOfItems_49 hd hk hn ih hf
          · have hf := (if_neg c6).symm.trans hf
            refine a_iload_n (pc := 41) dX1_isOfItems_41 rfl ?_
            refine a_bipush (pc := 42) 44 dX1_isOfItems_42 rfl ?_
            refine a_icmp_eq (pc := 44) 49 dX1_isOfItems_44 (by decide) (fun c5 => ?_) (fun c5 => ?_)
            · have hf := (if_pos c5).symm.trans hf
              refine a_sub (sub_k (sub_k (sub_k (sub_d sub_n)))) ?_
              exact sX1_isOfItems_49 hd hk hn ih hf
            · have hf := (if_neg c5).symm.trans hf
              refine a_iconst (pc := 47) 0 dX1_isOfItems_47 rfl ?_
              have hf := Option.some.inj hf
              subst hf
              exact a_ireturn (pc := 48) dX1_isOfItems_48 hk hn ⟨rfl, rfl⟩
set_option maxHeartbeats 4000000 in
theorem sX1_isOfItems_0 {l : Launch} {g : gE} {d MC MS' k n : Nat} {a0 : Nat} (hd : 0 ≤ d) (hk : k ≤ MC) (hn : n ≤ MS') {r : Int32 × AH} {S : AH} {l1 : Int32} (hf : X1_isOfItems_0 S a0 l1 = some r) : AW l g d RX1 cX1_isOfItems 4 "isOfItems" MC MS' (Qr (some (.int r.1)) r.2) k n 0 [some (.ref a0), some (.int l1), none, none] [] S := by
  unfold X1_isOfItems_0 at hf
  refine a_iconst (pc := 0) 0 dX1_isOfItems_0 rfl ?_
  refine a_istore_n (pc := 1) (ls' := [some (.ref a0), some (.int l1), some (.int 0), none]) dX1_isOfItems_1 (by decide) rfl ?_
  exact sX1_isOfItems_2 hd hk hn FU S l1 0 hf
set_option maxHeartbeats 4000000 in
theorem mX1_isOfItems {l : Launch} {g : gE} {d : Nat} {a0 : Nat} (hd : 0 ≤ d) {r : Int32 × AH} {S : AH} {l1 : Int32} (hf : X1_isOfItems S a0 l1 = some r) : AM l g d yX1_isOfItems cX1_isOfItems 4 (some .boolean) 0 0 [.ref a0, .int l1] S (Qr (some (.int r.1)) r.2) := by
  refine AM.of rfl (by exact Nat.le_of_ble_eq_true rfl) (fun v h' q => by obtain ⟨rfl, -⟩ := q; refine ⟨_, rfl, ?_⟩; rcases (zg_of hf).2 with e | e <;> rw [e] <;> rfl) (fun ls e => ?_)
  have e2 : aBeg [.ref a0, .int l1] 4 = [some (.ref a0), some (.int l1), none, none] := rfl
  rw [e2] at e
  subst e
  refine a_sub (sub_k (sub_k (sub_k (sub_k (sub_n))))) ?_
  exact sX1_isOfItems_0 hd (Nat.le_refl _) (Nat.le_refl _) ((zg_of hf).1)

-- PencilStrikes$Bargain.isOfNumbers(I)Z
def X1_isOfNumbers_43 (rec2 : AH → Nat → Int32 → Int32 → Option (Int32 × AH)) (S : AH) (a0 : Nat) (l1 : Int32) (l2 : Int32) : Option (Int32 × AH) :=
  rec2 S a0 l1 (l2 + 1)
def X1_isOfNumbers_2 : Nat → AH → Nat → Int32 → Int32 → Option (Int32 × AH)
  | 0, _, _, _, _ => none
  | fn + 1, S, a0, l1, l2 =>
    (gQ S a0 1 0).bind fun x1 =>
    (aN S x1).bind fun x2 =>
    if x2 ≤ l2 then
      some (1, S)
    else
      (gQ S a0 1 0).bind fun x3 =>
      (aA 0 S x3 l2).bind fun x4 =>
      if ((l1 >>> (l2 &&& 31)) &&& 1) = 0 then
        X1_isOfNumbers_43 (X1_isOfNumbers_2 fn) S a0 l1 l2
      else
        if (x4 / 100) = 105 then
          X1_isOfNumbers_43 (X1_isOfNumbers_2 fn) S a0 l1 l2
        else
          if (x4 / 100) = 102 then
            X1_isOfNumbers_43 (X1_isOfNumbers_2 fn) S a0 l1 l2
          else
            some (0, S)
def X1_isOfNumbers_0 (S : AH) (a0 : Nat) (l1 : Int32) : Option (Int32 × AH) :=
  X1_isOfNumbers_2 FU S a0 l1 0
def X1_isOfNumbers (S : AH) (a0 : Nat) (l1 : Int32) : Option (Int32 × AH) := zg (X1_isOfNumbers_0 S a0 l1)
set_option maxHeartbeats 4000000 in
theorem sX1_isOfNumbers_43 {l : Launch} {g : gE} {d MC MS' k n : Nat} {a0 : Nat} (hd : 0 ≤ d) (hk : k ≤ MC) (hn : n ≤ MS') {r : Int32 × AH} {rec2 : AH → Nat → Int32 → Int32 → Option (Int32 × AH)} (hlp2 : ∀ (S : AH) (l1 : Int32) (l2 : Int32), rec2 S a0 l1 l2 = some r → AW l g d RX1 cX1_isOfNumbers 4 "isOfNumbers" MC MS' (Qr (some (.int r.1)) r.2) k n 2 [some (.ref a0), some (.int l1), some (.int l2), none] [] S) {S : AH} {l1 : Int32} {l2 : Int32} (hf : X1_isOfNumbers_43 rec2 S a0 l1 l2 = some r) : AW l g d RX1 cX1_isOfNumbers 4 "isOfNumbers" MC MS' (Qr (some (.int r.1)) r.2) k n 43 [some (.ref a0), some (.int l1), some (.int l2), none] [] S := by
  unfold X1_isOfNumbers_43 at hf
  refine a_iinc (pc := 43) (ls' := [some (.ref a0), some (.int l1), some (.int (l2 + 1)), none]) (l2 + 1) dX1_isOfNumbers_43 rfl rfl (by decide) rfl ?_
  refine a_goto (pc := 46) 2 dX1_isOfNumbers_46 (by decide) ?_
  exact hlp2 S l1 (l2 + 1) hf
set_option maxHeartbeats 4000000 in
theorem sX1_isOfNumbers_2 {l : Launch} {g : gE} {d MC MS' k n : Nat} {a0 : Nat} (hd : 0 ≤ d) (hk : k ≤ MC) (hn : n ≤ MS') {r : Int32 × AH} : ∀ (fn : Nat) (S : AH) (l1 : Int32) (l2 : Int32), X1_isOfNumbers_2 fn S a0 l1 l2 = some r → AW l g d RX1 cX1_isOfNumbers 4 "isOfNumbers" MC MS' (Qr (some (.int r.1)) r.2) k n 2 [some (.ref a0), some (.int l1), some (.int l2), none] [] S := by
  intro fn
  induction fn with
  | zero =>
    intro S l1 l2 hf
    rw [X1_isOfNumbers_2] at hf
    cases hf
  | succ fn ih =>
    intro S l1 l2 hf
    rw [X1_isOfNumbers_2] at hf
    refine a_iload_n (pc := 2) dX1_isOfNumbers_2 rfl ?_
    refine a_aload_n (pc := 3) dX1_isOfNumbers_3 rfl (isRv_r _) ?_
    obtain ⟨x1, hx1, hf⟩ := Option.bind_eq_some_iff.mp hf
    refine g_getQ (pc := 4) dX1_isOfNumbers_4 fl_X1_22 hx1 ?_
    obtain ⟨x2, hx2, hf⟩ := Option.bind_eq_some_iff.mp hf
    refine g_alen (pc := 7) dX1_isOfNumbers_7 hx2 ?_
    refine a_icmp_ge (pc := 8) 49 dX1_isOfNumbers_8 (by decide) (fun c8 => ?_) (fun c8 => ?_)
    · have hf := (if_pos c8).symm.trans hf
      refine a_iconst (pc := 49) 1 dX1_isOfNumbers_49 rfl ?_
      have hf := Option.some.inj hf
      subst hf
      exact a_ireturn (pc := 50) dX1_isOfNumbers_50 hk hn ⟨rfl, rfl⟩
    · have hf := (if_neg c8).symm.trans hf
      refine a_aload_n (pc := 11) dX1_isOfNumbers_11 rfl (isRv_r _) ?_
      obtain ⟨x3, hx3, hf⟩ := Option.bind_eq_some_iff.mp hf
      refine g_getQ (pc := 12) dX1_isOfNumbers_12 fl_X1_22 hx3 ?_
      refine a_iload_n (pc := 15) dX1_isOfNumbers_15 rfl ?_
      obtain ⟨x4, hx4, hf⟩ := Option.bind_eq_some_iff.mp hf
      refine g_iald (pc := 16) dX1_isOfNumbers_16 hx4 ?_
      refine a_bipush (pc := 17) 100 dX1_isOfNumbers_17 rfl ?_
      refine a_idiv (pc := 19) dX1_isOfNumbers_19 (by decide) ?_
      refine a_istore_n (pc := 20) (ls' := [some (.ref a0), some (.int l1), some (.int l2), some (.int (x4 / 100))]) dX1_isOfNumbers_20 (by decide) rfl ?_
      refine a_iload_n (pc := 21) dX1_isOfNumbers_21 rfl ?_
      refine a_iload_n (pc := 22) dX1_isOfNumbers_22 rfl ?_
      refine a_ishr (pc := 23) dX1_isOfNumbers_23 ?_
      refine a_iconst (pc := 24) 1 dX1_isOfNumbers_24 rfl ?_
      refine a_iand (pc := 25) dX1_isOfNumbers_25 ?_
      refine a_if_eq (pc := 26) 43 dX1_isOfNumbers_26 (by decide) (fun c7 => ?_) (fun c7 => ?_)
      · have hf := (if_pos c7).symm.trans hf
        refine a_sub (sub_k (sub_k (sub_k (sub_d sub_n)))) ?_
        exact sX1_isOfNumbers_43 hd hk hn ih hf
      · have hf := (if_neg c7).symm.trans hf
        refine a_iload_n (pc := 29) dX1_isOfNumbers_29 rfl ?_
        refine a_bipush (pc := 30) 105 dX1_isOfNumbers_30 rfl ?_
        refine a_icmp_eq (pc := 32) 43 dX1_isOfNumbers_32 (by decide) (fun c6 => ?_) (fun c6 => ?_)
        · have hf := (if_pos c6).symm.trans hf
          refine a_sub (sub_k (sub_k (sub_k (sub_d sub_n)))) ?_
          exact sX1_isOfNumbers_43 hd hk hn ih hf
        · have hf := (if_neg c6).symm.trans hf
          refine a_iload_n (pc := 35) dX1_isOfNumbers_35 rfl ?_
          refine a_bipush (pc := 36) 102 dX1_isOfNumbers_36 rfl ?_
          refine a_icmp_eq (pc := 38) 43 dX1_isOfNumbers_38 (by decide) (fun c5 => ?_) (fun c5 => ?_)
          · have hf := (if_pos c5).symm.trans hf
            refine a_sub (sub_k (sub_k (sub_k (sub_d sub_n)))) ?_
            exact sX1_isOfNumbers_43 hd hk hn ih hf
          · have hf := (if_neg c5).symm.trans hf
            refine a_iconst (pc := 41) 0 dX1_isOfNumbers_41 rfl ?_
            have hf := Option.some.inj hf
            subst hf
            exact a_ireturn (pc := 42) dX1_isOfNumbers_42 hk hn ⟨rfl, rfl⟩
set_option maxHeartbeats 4000000 in
theorem sX1_isOfNumbers_0 {l : Launch} {g : gE} {d MC MS' k n : Nat} {a0 : Nat} (hd : 0 ≤ d) (hk : k ≤ MC) (hn : n ≤ MS') {r : Int32 × AH} {S : AH} {l1 : Int32} (hf : X1_isOfNumbers_0 S a0 l1 = some r) : AW l g d RX1 cX1_isOfNumbers 4 "isOfNumbers" MC MS' (Qr (some (.int r.1)) r.2) k n 0 [some (.ref a0), some (.int l1), none, none] [] S := by
  unfold X1_isOfNumbers_0 at hf
  refine a_iconst (pc := 0) 0 dX1_isOfNumbers_0 rfl ?_
  refine a_istore_n (pc := 1) (ls' := [some (.ref a0), some (.int l1), some (.int 0), none]) dX1_isOfNumbers_1 (by decide) rfl ?_
  exact sX1_isOfNumbers_2 hd hk hn FU S l1 0 hf
set_option maxHeartbeats 4000000 in
theorem mX1_isOfNumbers {l : Launch} {g : gE} {d : Nat} {a0 : Nat} (hd : 0 ≤ d) {r : Int32 × AH} {S : AH} {l1 : Int32} (hf : X1_isOfNumbers S a0 l1 = some r) : AM l g d yX1_isOfNumbers cX1_isOfNumbers 4 (some .boolean) 0 0 [.ref a0, .int l1] S (Qr (some (.int r.1)) r.2) := by
  refine AM.of rfl (by exact Nat.le_of_ble_eq_true rfl) (fun v h' q => by obtain ⟨rfl, -⟩ := q; refine ⟨_, rfl, ?_⟩; rcases (zg_of hf).2 with e | e <;> rw [e] <;> rfl) (fun ls e => ?_)
  have e2 : aBeg [.ref a0, .int l1] 4 = [some (.ref a0), some (.int l1), none, none] := rfl
  rw [e2] at e
  subst e
  refine a_sub (sub_k (sub_k (sub_k (sub_k (sub_n))))) ?_
  exact sX1_isOfNumbers_0 hd (Nat.le_refl _) (Nat.le_refl _) ((zg_of hf).1)

-- PencilStrikes$Bargain.whole()LPencilStrikes$Duties;
def X1_whole_0 (S : AH) (a0 : Nat) : Option (Option Nat × AH) :=
  (gQ S a0 1 3).bind fun x1 =>
  some (x1, S)
def X1_whole (S : AH) (a0 : Nat) : Option (Option Nat × AH) := X1_whole_0 S a0
set_option maxHeartbeats 4000000 in
theorem sX1_whole_0 {l : Launch} {g : gE} {d MC MS' k n : Nat} {a0 : Nat} (hd : 0 ≤ d) (hk : k ≤ MC) (hn : n ≤ MS') {r : Option Nat × AH} {S : AH} (hf : X1_whole_0 S a0 = some r) : AW l g d RX1 cX1_whole 1 "whole" MC MS' (Qr (some (va_rf r.1)) r.2) k n 0 [some (.ref a0)] [] S := by
  unfold X1_whole_0 at hf
  refine a_aload_n (pc := 0) dX1_whole_0 rfl (isRv_r _) ?_
  obtain ⟨x1, hx1, hf⟩ := Option.bind_eq_some_iff.mp hf
  refine g_getQ (pc := 1) dX1_whole_1 fl_X1_12 hx1 ?_
  have hf := Option.some.inj hf
  subst hf
  exact a_areturnR (pc := 4) dX1_whole_4 hk hn ⟨rfl, rfl⟩
set_option maxHeartbeats 4000000 in
theorem mX1_whole {l : Launch} {g : gE} {d : Nat} {a0 : Nat} (hd : 0 ≤ d) {r : Option Nat × AH} {S : AH} (hf : X1_whole S a0 = some r) : AM l g d yX1_whole cX1_whole 1 (some (.object "PencilStrikes$Duties")) 0 0 [.ref a0] S (Qr (some (va_rf r.1)) r.2) := by
  refine AM.of rfl (by exact Nat.le_of_ble_eq_true rfl) (fun v h' q => by obtain ⟨rfl, -⟩ := q; exact aRet_rf _ (Or.inl ⟨_, rfl⟩)) (fun ls e => ?_)
  have e2 : aBeg [.ref a0] 1 = [some (.ref a0)] := rfl
  rw [e2] at e
  subst e
  refine a_sub (sub_k (sub_n)) ?_
  exact sX1_whole_0 hd (Nat.le_refl _) (Nat.le_refl _) (hf)

-- PencilStrikes$Duties.contains(I)Z
def X2_contains_2 : Nat → AH → Nat → Int32 → Int32 → Option (Int32 × AH)
  | 0, _, _, _, _ => none
  | fn + 1, S, a0, l1, l2 =>
    (gI S a0 2 1).bind fun x1 =>
    if x1 ≤ l2 then
      some (0, S)
    else
      (cO S a0 2 (X2_at S a0 l2)).bind fun r2 =>
      if r2.1 = l1 then
        some (1, r2.2)
      else
        X2_contains_2 fn r2.2 a0 l1 (l2 + 1)
def X2_contains_0 (S : AH) (a0 : Nat) (l1 : Int32) : Option (Int32 × AH) :=
  X2_contains_2 FU S a0 l1 0
def X2_contains (S : AH) (a0 : Nat) (l1 : Int32) : Option (Int32 × AH) := zg (X2_contains_0 S a0 l1)
set_option maxHeartbeats 4000000 in
theorem sX2_contains_2 {l : Launch} {g : gE} {d MC MS' k n : Nat} {a0 : Nat} (hd : 1 ≤ d) (hk : k ≤ MC) (hn : n ≤ MS') {r : Int32 × AH} : ∀ (fn : Nat) (S : AH) (l1 : Int32) (l2 : Int32), X2_contains_2 fn S a0 l1 l2 = some r → AW l g d RX2 cX2_contains 3 "contains" MC MS' (Qr (some (.int r.1)) r.2) k n 2 [some (.ref a0), some (.int l1), some (.int l2)] [] S := by
  intro fn
  induction fn with
  | zero =>
    intro S l1 l2 hf
    rw [X2_contains_2] at hf
    cases hf
  | succ fn ih =>
    intro S l1 l2 hf
    rw [X2_contains_2] at hf
    refine a_iload_n (pc := 2) dX2_contains_2 rfl ?_
    refine a_aload_n (pc := 3) dX2_contains_3 rfl (isRv_r _) ?_
    obtain ⟨x1, hx1, hf⟩ := Option.bind_eq_some_iff.mp hf
    refine g_getI (pc := 4) dX2_contains_4 fl_X2_15 hx1 ?_
    refine a_icmp_ge (pc := 7) 27 dX2_contains_7 (by decide) (fun c4 => ?_) (fun c4 => ?_)
    · have hf := (if_pos c4).symm.trans hf
      refine a_iconst (pc := 27) 0 dX2_contains_27 rfl ?_
      have hf := Option.some.inj hf
      subst hf
      exact a_ireturn (pc := 28) dX2_contains_28 hk hn ⟨rfl, rfl⟩
    · have hf := (if_neg c4).symm.trans hf
      refine a_aload_n (pc := 10) dX2_contains_10 rfl (isRv_r _) ?_
      refine a_iload_n (pc := 11) dX2_contains_11 rfl ?_
      obtain ⟨r2, hr2, hf⟩ := Option.bind_eq_some_iff.mp hf
      obtain ⟨hor2, hr2⟩ := cO_of hr2
      refine g_call (pc := 12) (mc := 0) (ms := 0) (.int r2.1) [.int l2] [] dX2_contains_12 ml_X2_33 mv_X2_at hor2 (by decide) rfl rfl (by omega) (mX2_at (by omega) hr2) rfl (Nat.le_of_ble_eq_true rfl) hk hn ?_
      refine a_iload_n (pc := 15) dX2_contains_15 rfl ?_
      refine a_icmp_ne (pc := 16) 21 dX2_contains_16 (by decide) (fun c3 => ?_) (fun c3 => ?_)
      · have hf := (if_neg c3).symm.trans hf
        refine a_iinc (pc := 21) (ls' := [some (.ref a0), some (.int l1), some (.int (l2 + 1))]) (l2 + 1) dX2_contains_21 rfl rfl (by decide) rfl ?_
        refine a_goto (pc := 24) 2 dX2_contains_24 (by decide) ?_
        exact ih r2.2 l1 (l2 + 1) hf
      · have hf := (if_pos c3).symm.trans hf
        refine a_iconst (pc := 19) 1 dX2_contains_19 rfl ?_
        have hf := Option.some.inj hf
        subst hf
        exact a_ireturn (pc := 20) dX2_contains_20 hk hn ⟨rfl, rfl⟩
set_option maxHeartbeats 4000000 in
theorem sX2_contains_0 {l : Launch} {g : gE} {d MC MS' k n : Nat} {a0 : Nat} (hd : 1 ≤ d) (hk : k ≤ MC) (hn : n ≤ MS') {r : Int32 × AH} {S : AH} {l1 : Int32} (hf : X2_contains_0 S a0 l1 = some r) : AW l g d RX2 cX2_contains 3 "contains" MC MS' (Qr (some (.int r.1)) r.2) k n 0 [some (.ref a0), some (.int l1), none] [] S := by
  unfold X2_contains_0 at hf
  refine a_iconst (pc := 0) 0 dX2_contains_0 rfl ?_
  refine a_istore_n (pc := 1) (ls' := [some (.ref a0), some (.int l1), some (.int 0)]) dX2_contains_1 (by decide) rfl ?_
  exact sX2_contains_2 hd hk hn FU S l1 0 hf
set_option maxHeartbeats 4000000 in
theorem mX2_contains {l : Launch} {g : gE} {d : Nat} {a0 : Nat} (hd : 1 ≤ d) {r : Int32 × AH} {S : AH} {l1 : Int32} (hf : X2_contains S a0 l1 = some r) : AM l g d yX2_contains cX2_contains 3 (some .boolean) 0 0 [.ref a0, .int l1] S (Qr (some (.int r.1)) r.2) := by
  refine AM.of rfl (by exact Nat.le_of_ble_eq_true rfl) (fun v h' q => by obtain ⟨rfl, -⟩ := q; refine ⟨_, rfl, ?_⟩; rcases (zg_of hf).2 with e | e <;> rw [e] <;> rfl) (fun ls e => ?_)
  have e2 : aBeg [.ref a0, .int l1] 3 = [some (.ref a0), some (.int l1), none] := rfl
  rw [e2] at e
  subst e
  refine a_sub (sub_k (sub_k (sub_k (sub_n)))) ?_
  exact sX2_contains_0 hd (Nat.le_refl _) (Nat.le_refl _) ((zg_of hf).1)

-- PencilStrikes$Duties.isAllIn(LPencilStrikes$Duties;)Z
def X2_isAllIn_2 : Nat → AH → Nat → Option Nat → Int32 → Option (Int32 × AH)
  | 0, _, _, _, _ => none
  | fn + 1, S, a0, l1, l2 =>
    (gI S a0 2 1).bind fun x1 =>
    if x1 ≤ l2 then
      some (1, S)
    else
      (cO S a0 2 (X2_at S a0 l2)).bind fun r2 =>
      (l1).bind fun a3 =>
      (cO r2.2 a3 2 (X2_contains r2.2 a3 r2.1)).bind fun r4 =>
      if r4.1 = 0 then
        some (0, r4.2)
      else
        X2_isAllIn_2 fn r4.2 a0 (some a3) (l2 + 1)
def X2_isAllIn_0 (S : AH) (a0 : Nat) (l1 : Option Nat) : Option (Int32 × AH) :=
  X2_isAllIn_2 FU S a0 l1 0
def X2_isAllIn (S : AH) (a0 : Nat) (l1 : Option Nat) : Option (Int32 × AH) := zg (X2_isAllIn_0 S a0 l1)
set_option maxHeartbeats 4000000 in
theorem sX2_isAllIn_2 {l : Launch} {g : gE} {d MC MS' k n : Nat} {a0 : Nat} (hd : 2 ≤ d) (hk : k ≤ MC) (hn : n ≤ MS') {r : Int32 × AH} : ∀ (fn : Nat) (S : AH) (l1 : Option Nat) (l2 : Int32), X2_isAllIn_2 fn S a0 l1 l2 = some r → AW l g d RX2 cX2_isAllIn 3 "isAllIn" MC MS' (Qr (some (.int r.1)) r.2) k n 2 [some (.ref a0), some (va_rf l1), some (.int l2)] [] S := by
  intro fn
  induction fn with
  | zero =>
    intro S l1 l2 hf
    rw [X2_isAllIn_2] at hf
    cases hf
  | succ fn ih =>
    intro S l1 l2 hf
    rw [X2_isAllIn_2] at hf
    refine a_iload_n (pc := 2) dX2_isAllIn_2 rfl ?_
    refine a_aload_n (pc := 3) dX2_isAllIn_3 rfl (isRv_r _) ?_
    obtain ⟨x1, hx1, hf⟩ := Option.bind_eq_some_iff.mp hf
    refine g_getI (pc := 4) dX2_isAllIn_4 fl_X2_15 hx1 ?_
    refine a_icmp_ge (pc := 7) 30 dX2_isAllIn_7 (by decide) (fun c6 => ?_) (fun c6 => ?_)
    · have hf := (if_pos c6).symm.trans hf
      refine a_iconst (pc := 30) 1 dX2_isAllIn_30 rfl ?_
      have hf := Option.some.inj hf
      subst hf
      exact a_ireturn (pc := 31) dX2_isAllIn_31 hk hn ⟨rfl, rfl⟩
    · have hf := (if_neg c6).symm.trans hf
      refine a_aload_n (pc := 10) dX2_isAllIn_10 rfl (isRv_rf _) ?_
      refine a_aload_n (pc := 11) dX2_isAllIn_11 rfl (isRv_r _) ?_
      refine a_iload_n (pc := 12) dX2_isAllIn_12 rfl ?_
      obtain ⟨r2, hr2, hf⟩ := Option.bind_eq_some_iff.mp hf
      obtain ⟨hor2, hr2⟩ := cO_of hr2
      refine g_call (pc := 13) (mc := 0) (ms := 0) (.int r2.1) [.int l2] [va_rf l1] dX2_isAllIn_13 ml_X2_33 mv_X2_at hor2 (by decide) rfl rfl (by omega) (mX2_at (by omega) hr2) rfl (by cases l1 <;> exact Nat.le_of_ble_eq_true rfl) hk hn ?_
      obtain ⟨a3, ha3, hf⟩ := Option.bind_eq_some_iff.mp hf
      rw [ha3]
      obtain ⟨r4, hr4, hf⟩ := Option.bind_eq_some_iff.mp hf
      obtain ⟨hor4, hr4⟩ := cO_of hr4
      refine g_call (pc := 16) (mc := 0) (ms := 0) (.int r4.1) [.int (r2.1)] [] dX2_isAllIn_16 ml_X2_37 mv_X2_contains hor4 (by decide) rfl rfl (by omega) (mX2_contains (by omega) hr4) rfl (Nat.le_of_ble_eq_true rfl) hk hn ?_
      refine a_if_ne (pc := 19) 24 dX2_isAllIn_19 (by decide) (fun c5 => ?_) (fun c5 => ?_)
      · have hf := (if_neg c5).symm.trans hf
        refine a_iinc (pc := 24) (ls' := [some (.ref a0), some (.ref a3), some (.int (l2 + 1))]) (l2 + 1) dX2_isAllIn_24 rfl rfl (by decide) rfl ?_
        refine a_goto (pc := 27) 2 dX2_isAllIn_27 (by decide) ?_
        exact ih r4.2 (some a3) (l2 + 1) hf
      · have hf := (if_pos c5).symm.trans hf
        refine a_iconst (pc := 22) 0 dX2_isAllIn_22 rfl ?_
        have hf := Option.some.inj hf
        subst hf
        exact a_ireturn (pc := 23) dX2_isAllIn_23 hk hn ⟨rfl, rfl⟩
set_option maxHeartbeats 4000000 in
theorem sX2_isAllIn_0 {l : Launch} {g : gE} {d MC MS' k n : Nat} {a0 : Nat} (hd : 2 ≤ d) (hk : k ≤ MC) (hn : n ≤ MS') {r : Int32 × AH} {S : AH} {l1 : Option Nat} (hf : X2_isAllIn_0 S a0 l1 = some r) : AW l g d RX2 cX2_isAllIn 3 "isAllIn" MC MS' (Qr (some (.int r.1)) r.2) k n 0 [some (.ref a0), some (va_rf l1), none] [] S := by
  unfold X2_isAllIn_0 at hf
  refine a_iconst (pc := 0) 0 dX2_isAllIn_0 rfl ?_
  refine a_istore_n (pc := 1) (ls' := [some (.ref a0), some (va_rf l1), some (.int 0)]) dX2_isAllIn_1 (by decide) (aSet_ref rfl (va_rf_cat _) rfl) ?_
  exact sX2_isAllIn_2 hd hk hn FU S l1 0 hf
set_option maxHeartbeats 4000000 in
theorem mX2_isAllIn {l : Launch} {g : gE} {d : Nat} {a0 : Nat} (hd : 2 ≤ d) {r : Int32 × AH} {S : AH} {l1 : Option Nat} (hf : X2_isAllIn S a0 l1 = some r) : AM l g d yX2_isAllIn cX2_isAllIn 3 (some .boolean) 0 0 [.ref a0, va_rf l1] S (Qr (some (.int r.1)) r.2) := by
  refine AM.of rfl (by cases l1 <;> exact Nat.le_of_ble_eq_true rfl) (fun v h' q => by obtain ⟨rfl, -⟩ := q; refine ⟨_, rfl, ?_⟩; rcases (zg_of hf).2 with e | e <;> rw [e] <;> rfl) (fun ls e => ?_)
  have e2 : aBeg [.ref a0, va_rf l1] 3 = [some (.ref a0), some (va_rf l1), none] := (by cases l1 <;> rfl)
  rw [e2] at e
  subst e
  refine a_sub (sub_k (sub_k (sub_k (sub_n)))) ?_
  exact sX2_isAllIn_0 hd (Nat.le_refl _) (Nat.le_refl _) ((zg_of hf).1)

-- PencilStrikes.keepsSense(LPencilStrikes$Bargain;I)Z
def X7_keepsSense_16 (S : AH) (a0 : Nat) : Option (Int32 × AH) :=
  some (0, S)
def X7_keepsSense_0 (S : AH) (a0 : Nat) (l1 : Option Nat) (l2 : Int32) : Option (Int32 × AH) :=
  (l1).bind fun a1 =>
  (cO S a1 1 (X1_isReadable S a1 0)).bind fun r2 =>
  if r2.1 = 0 then
    X7_keepsSense_16 r2.2 a0
  else
    (cO r2.2 a1 1 (X1_isReadable r2.2 a1 l2)).bind fun r3 =>
    if r3.1 = 0 then
      X7_keepsSense_16 r3.2 a0
    else
      (gQ r3.2 a0 7 7).bind fun x4 =>
      (cO r3.2 a1 1 (X1_tellDuties r3.2 a1 l2 x4)).bind fun r5 =>
      (gQ r5.2 a0 7 7).bind fun x6 =>
      (cO r5.2 a1 1 (X1_whole r5.2 a1)).bind fun r7 => prp r7 fun zq8 zq8S =>
      (x6).bind fun a9 =>
      (cO zq8S a9 2 (X2_isAllIn zq8S a9 zq8)).bind fun r10 =>
      some (r10.1, r10.2)
def X7_keepsSense (S : AH) (a0 : Nat) (l1 : Option Nat) (l2 : Int32) : Option (Int32 × AH) := zg (X7_keepsSense_0 S a0 l1 l2)
set_option maxHeartbeats 4000000 in
theorem sX7_keepsSense_16 {l : Launch} {g : gE} {d MC MS' k n : Nat} {a0 : Nat} (hd : 3 ≤ d) (hk : k ≤ MC) (hn : n ≤ MS') {r : Int32 × AH} {S : AH} (hf : X7_keepsSense_16 S a0 = some r) : AW l g d RX7 cX7_keepsSense 3 "keepsSense" MC MS' (Qr (some (.int r.1)) r.2) k n 16 [none, none, none] [] S := by
  unfold X7_keepsSense_16 at hf
  refine a_iconst (pc := 16) 0 dX7_keepsSense_16 rfl ?_
  have hf := Option.some.inj hf
  subst hf
  exact a_ireturn (pc := 17) dX7_keepsSense_17 hk hn ⟨rfl, rfl⟩
set_option maxHeartbeats 4000000 in
theorem sX7_keepsSense_0 {l : Launch} {g : gE} {d MC MS' k n : Nat} {a0 : Nat} (hd : 3 ≤ d) (hk : k ≤ MC) (hn : n ≤ MS') {r : Int32 × AH} {S : AH} {l1 : Option Nat} {l2 : Int32} (hf : X7_keepsSense_0 S a0 l1 l2 = some r) : AW l g d RX7 cX7_keepsSense 3 "keepsSense" MC MS' (Qr (some (.int r.1)) r.2) k n 0 [some (.ref a0), some (va_rf l1), some (.int l2)] [] S := by
  unfold X7_keepsSense_0 at hf
  refine a_aload_n (pc := 0) dX7_keepsSense_0 rfl (isRv_rf _) ?_
  refine a_iconst (pc := 1) 0 dX7_keepsSense_1 rfl ?_
  obtain ⟨a1, ha1, hf⟩ := Option.bind_eq_some_iff.mp hf
  rw [ha1]
  obtain ⟨r2, hr2, hf⟩ := Option.bind_eq_some_iff.mp hf
  obtain ⟨hor2, hr2⟩ := cO_of hr2
  refine g_call (pc := 2) (mc := 0) (ms := 0) (.int r2.1) [.int 0] [] dX7_keepsSense_2 ml_X7_104 mv_X1_isReadable hor2 (by decide) rfl rfl (by omega) (mX1_isReadable (by omega) hr2) rfl (Nat.le_of_ble_eq_true rfl) hk hn ?_
  refine a_if_eq (pc := 5) 16 dX7_keepsSense_5 (by decide) (fun c12 => ?_) (fun c12 => ?_)
  · have hf := (if_pos c12).symm.trans hf
    refine a_sub (sub_d (sub_d (sub_d sub_n))) ?_
    exact sX7_keepsSense_16 hd hk hn hf
  · have hf := (if_neg c12).symm.trans hf
    refine a_aload_n (pc := 8) dX7_keepsSense_8 rfl (isRv_r _) ?_
    refine a_iload_n (pc := 9) dX7_keepsSense_9 rfl ?_
    obtain ⟨r3, hr3, hf⟩ := Option.bind_eq_some_iff.mp hf
    obtain ⟨hor3, hr3⟩ := cO_of hr3
    refine g_call (pc := 10) (mc := 0) (ms := 0) (.int r3.1) [.int l2] [] dX7_keepsSense_10 ml_X7_104 mv_X1_isReadable hor3 (by decide) rfl rfl (by omega) (mX1_isReadable (by omega) hr3) rfl (Nat.le_of_ble_eq_true rfl) hk hn ?_
    refine a_if_ne (pc := 13) 18 dX7_keepsSense_13 (by decide) (fun c11 => ?_) (fun c11 => ?_)
    · have hf := (if_neg c11).symm.trans hf
      refine a_aload_n (pc := 18) dX7_keepsSense_18 rfl (isRv_r _) ?_
      refine a_iload_n (pc := 19) dX7_keepsSense_19 rfl ?_
      refine a_aload_n (pc := 20) dX7_keepsSense_20 rfl (isRv_r _) ?_
      obtain ⟨x4, hx4, hf⟩ := Option.bind_eq_some_iff.mp hf
      refine g_getQ (pc := 21) dX7_keepsSense_21 fl_X7_57 hx4 ?_
      obtain ⟨r5, hr5, hf⟩ := Option.bind_eq_some_iff.mp hf
      obtain ⟨hor5, hr5⟩ := cO_of hr5
      refine g_callv (pc := 24) (mc := 0) (ms := 0) [.int l2, va_rf x4] [] dX7_keepsSense_24 ml_X7_109 mv_X1_tellDuties hor5 (by decide) rfl rfl (by omega) (mX1_tellDuties (by omega) hr5) rfl (Nat.le_of_ble_eq_true rfl) hk hn ?_
      refine a_aload_n (pc := 27) dX7_keepsSense_27 rfl (isRv_r _) ?_
      obtain ⟨x6, hx6, hf⟩ := Option.bind_eq_some_iff.mp hf
      refine g_getQ (pc := 28) dX7_keepsSense_28 fl_X7_57 hx6 ?_
      refine a_aload_n (pc := 31) dX7_keepsSense_31 rfl (isRv_r _) ?_
      obtain ⟨r7, hr7, hf⟩ := Option.bind_eq_some_iff.mp hf
      obtain ⟨zq8, zq8S⟩ := r7
      have hf := (prp_of _ _ _).symm.trans hf
      obtain ⟨hor7, hr7⟩ := cO_of hr7
      refine g_call (pc := 32) (mc := 0) (ms := 0) (va_rf zq8) [] [va_rf x6] dX7_keepsSense_32 ml_X7_154 mv_X1_whole hor7 (by decide) rfl rfl (by omega) (mX1_whole (by omega) hr7) rfl (by cases x6 <;> exact Nat.le_of_ble_eq_true rfl) hk hn ?_
      obtain ⟨a9, ha9, hf⟩ := Option.bind_eq_some_iff.mp hf
      rw [ha9]
      obtain ⟨r10, hr10, hf⟩ := Option.bind_eq_some_iff.mp hf
      obtain ⟨hor10, hr10⟩ := cO_of hr10
      refine g_call (pc := 35) (mc := 0) (ms := 0) (.int r10.1) [va_rf zq8] [] dX7_keepsSense_35 ml_X7_240 mv_X2_isAllIn hor10 (by decide) rfl rfl (by omega) (mX2_isAllIn (by omega) hr10) rfl (Nat.le_of_ble_eq_true rfl) hk hn ?_
      have hf := Option.some.inj hf
      subst hf
      exact a_ireturn (pc := 38) dX7_keepsSense_38 hk hn ⟨rfl, rfl⟩
    · have hf := (if_pos c11).symm.trans hf
      refine a_sub (sub_d (sub_d (sub_d sub_n))) ?_
      exact sX7_keepsSense_16 hd hk hn hf
set_option maxHeartbeats 4000000 in
theorem mX7_keepsSense {l : Launch} {g : gE} {d : Nat} {a0 : Nat} (hd : 3 ≤ d) {r : Int32 × AH} {S : AH} {l1 : Option Nat} {l2 : Int32} (hf : X7_keepsSense S a0 l1 l2 = some r) : AM l g d yX7_keepsSense cX7_keepsSense 3 (some .boolean) 0 0 [.ref a0, va_rf l1, .int l2] S (Qr (some (.int r.1)) r.2) := by
  refine AM.of rfl (by cases l1 <;> exact Nat.le_of_ble_eq_true rfl) (fun v h' q => by obtain ⟨rfl, -⟩ := q; refine ⟨_, rfl, ?_⟩; rcases (zg_of hf).2 with e | e <;> rw [e] <;> rfl) (fun ls e => ?_)
  have e2 : aBeg [.ref a0, va_rf l1, .int l2] 3 = [some (.ref a0), some (va_rf l1), some (.int l2)] := (by cases l1 <;> rfl)
  rw [e2] at e
  subst e
  refine a_sub (sub_k (sub_k (sub_k (sub_n)))) ?_
  exact sX7_keepsSense_0 hd (Nat.le_refl _) (Nat.le_refl _) ((zg_of hf).1)

-- PencilStrikes.isLet(ILPencilStrikes$Bargain;I)Z
def X7_isLet_79 (S : AH) (a0 : Nat) (s0 : Int32) : Option (Int32 × AH) :=
  some (s0, S)
def X7_isLet_0 (S : AH) (a0 : Nat) (l1 : Int32) (l2 : Option Nat) (l3 : Int32) : Option (Int32 × AH) :=
  if l1 = 0 then
    some (1, S)
  else
    if l1 = 1 then
      some (1, S)
    else
      if l1 = 2 then
        (l2).bind fun a1 =>
        (cO S a1 1 (X1_isOfItems S a1 l3)).bind fun r2 =>
        some (r2.1, r2.2)
      else
        if l1 = 3 then
          (l2).bind fun a3 =>
          (cO S a3 1 (X1_isOfClauses S a3 l3)).bind fun r4 =>
          some (r4.1, r4.2)
        else
          if l1 = 4 then
            (l2).bind fun a5 =>
            (cO S a5 1 (X1_isOfNumbers S a5 l3)).bind fun r6 =>
            some (r6.1, r6.2)
          else
            if l1 = 5 then
              if (l3 &&& (l3 + 1)) = 0 then
                X7_isLet_79 S a0 1
              else
                X7_isLet_79 S a0 0
            else
              if l1 = 6 then
                (cO S a0 7 (X7_keepsSense S a0 l2 l3)).bind fun r8 =>
                some (r8.1, r8.2)
              else
                some (0, S)
def X7_isLet (S : AH) (a0 : Nat) (l1 : Int32) (l2 : Option Nat) (l3 : Int32) : Option (Int32 × AH) := zg (X7_isLet_0 S a0 l1 l2 l3)
set_option maxHeartbeats 4000000 in
theorem sX7_isLet_79 {l : Launch} {g : gE} {d MC MS' k n : Nat} {a0 : Nat} (hd : 4 ≤ d) (hk : k ≤ MC) (hn : n ≤ MS') {r : Int32 × AH} {S : AH} {s0 : Int32} (hf : X7_isLet_79 S a0 s0 = some r) : AW l g d RX7 cX7_isLet 4 "isLet" MC MS' (Qr (some (.int r.1)) r.2) k n 79 [none, none, none, none] [.int s0] S := by
  unfold X7_isLet_79 at hf
  have hf := Option.some.inj hf
  subst hf
  exact a_ireturn (pc := 79) dX7_isLet_79 hk hn ⟨rfl, rfl⟩
set_option maxHeartbeats 4000000 in
theorem sX7_isLet_0 {l : Launch} {g : gE} {d MC MS' k n : Nat} {a0 : Nat} (hd : 4 ≤ d) (hk : k ≤ MC) (hn : n ≤ MS') {r : Int32 × AH} {S : AH} {l1 : Int32} {l2 : Option Nat} {l3 : Int32} (hf : X7_isLet_0 S a0 l1 l2 l3 = some r) : AW l g d RX7 cX7_isLet 4 "isLet" MC MS' (Qr (some (.int r.1)) r.2) k n 0 [some (.ref a0), some (.int l1), some (va_rf l2), some (.int l3)] [] S := by
  unfold X7_isLet_0 at hf
  refine a_iload_n (pc := 0) dX7_isLet_0 rfl ?_
  by_cases c9_0 : l1 = 0
  · have hf := (if_pos c9_0).symm.trans hf
    refine a_tableIn (pc := 1) 44 dX7_isLet_1 (by rw [c9_0]; decide) (by rw [c9_0]; decide) (off := 43) (by rw [c9_0]; rfl) (by decide) ?_
    refine a_iconst (pc := 44) 1 dX7_isLet_44 rfl ?_
    have hf := Option.some.inj hf
    subst hf
    exact a_ireturn (pc := 45) dX7_isLet_45 hk hn ⟨rfl, rfl⟩
  · have hf := (if_neg c9_0).symm.trans hf
    by_cases c9_1 : l1 = 1
    · have hf := (if_pos c9_1).symm.trans hf
      refine a_tableIn (pc := 1) 46 dX7_isLet_1 (by rw [c9_1]; decide) (by rw [c9_1]; decide) (off := 45) (by rw [c9_1]; rfl) (by decide) ?_
      refine a_iconst (pc := 46) 1 dX7_isLet_46 rfl ?_
      have hf := Option.some.inj hf
      subst hf
      exact a_ireturn (pc := 47) dX7_isLet_47 hk hn ⟨rfl, rfl⟩
    · have hf := (if_neg c9_1).symm.trans hf
      by_cases c9_2 : l1 = 2
      · have hf := (if_pos c9_2).symm.trans hf
        refine a_tableIn (pc := 1) 48 dX7_isLet_1 (by rw [c9_2]; decide) (by rw [c9_2]; decide) (off := 47) (by rw [c9_2]; rfl) (by decide) ?_
        refine a_aload_n (pc := 48) dX7_isLet_48 rfl (isRv_rf _) ?_
        refine a_iload_n (pc := 49) dX7_isLet_49 rfl ?_
        obtain ⟨a1, ha1, hf⟩ := Option.bind_eq_some_iff.mp hf
        rw [ha1]
        obtain ⟨r2, hr2, hf⟩ := Option.bind_eq_some_iff.mp hf
        obtain ⟨hor2, hr2⟩ := cO_of hr2
        refine g_call (pc := 50) (mc := 0) (ms := 0) (.int r2.1) [.int l3] [] dX7_isLet_50 ml_X7_227 mv_X1_isOfItems hor2 (by decide) rfl rfl (by omega) (mX1_isOfItems (by omega) hr2) rfl (Nat.le_of_ble_eq_true rfl) hk hn ?_
        have hf := Option.some.inj hf
        subst hf
        exact a_ireturn (pc := 53) dX7_isLet_53 hk hn ⟨rfl, rfl⟩
      · have hf := (if_neg c9_2).symm.trans hf
        by_cases c9_3 : l1 = 3
        · have hf := (if_pos c9_3).symm.trans hf
          refine a_tableIn (pc := 1) 54 dX7_isLet_1 (by rw [c9_3]; decide) (by rw [c9_3]; decide) (off := 53) (by rw [c9_3]; rfl) (by decide) ?_
          refine a_aload_n (pc := 54) dX7_isLet_54 rfl (isRv_rf _) ?_
          refine a_iload_n (pc := 55) dX7_isLet_55 rfl ?_
          obtain ⟨a3, ha3, hf⟩ := Option.bind_eq_some_iff.mp hf
          rw [ha3]
          obtain ⟨r4, hr4, hf⟩ := Option.bind_eq_some_iff.mp hf
          obtain ⟨hor4, hr4⟩ := cO_of hr4
          refine g_call (pc := 56) (mc := 0) (ms := 0) (.int r4.1) [.int l3] [] dX7_isLet_56 ml_X7_230 mv_X1_isOfClauses hor4 (by decide) rfl rfl (by omega) (mX1_isOfClauses (by omega) hr4) rfl (Nat.le_of_ble_eq_true rfl) hk hn ?_
          have hf := Option.some.inj hf
          subst hf
          exact a_ireturn (pc := 59) dX7_isLet_59 hk hn ⟨rfl, rfl⟩
        · have hf := (if_neg c9_3).symm.trans hf
          by_cases c9_4 : l1 = 4
          · have hf := (if_pos c9_4).symm.trans hf
            refine a_tableIn (pc := 1) 60 dX7_isLet_1 (by rw [c9_4]; decide) (by rw [c9_4]; decide) (off := 59) (by rw [c9_4]; rfl) (by decide) ?_
            refine a_aload_n (pc := 60) dX7_isLet_60 rfl (isRv_rf _) ?_
            refine a_iload_n (pc := 61) dX7_isLet_61 rfl ?_
            obtain ⟨a5, ha5, hf⟩ := Option.bind_eq_some_iff.mp hf
            rw [ha5]
            obtain ⟨r6, hr6, hf⟩ := Option.bind_eq_some_iff.mp hf
            obtain ⟨hor6, hr6⟩ := cO_of hr6
            refine g_call (pc := 62) (mc := 0) (ms := 0) (.int r6.1) [.int l3] [] dX7_isLet_62 ml_X7_233 mv_X1_isOfNumbers hor6 (by decide) rfl rfl (by omega) (mX1_isOfNumbers (by omega) hr6) rfl (Nat.le_of_ble_eq_true rfl) hk hn ?_
            have hf := Option.some.inj hf
            subst hf
            exact a_ireturn (pc := 65) dX7_isLet_65 hk hn ⟨rfl, rfl⟩
          · have hf := (if_neg c9_4).symm.trans hf
            by_cases c9_5 : l1 = 5
            · have hf := (if_pos c9_5).symm.trans hf
              refine a_tableIn (pc := 1) 66 dX7_isLet_1 (by rw [c9_5]; decide) (by rw [c9_5]; decide) (off := 65) (by rw [c9_5]; rfl) (by decide) ?_
              refine a_iload_n (pc := 66) dX7_isLet_66 rfl ?_
              refine a_iload_n (pc := 67) dX7_isLet_67 rfl ?_
              refine a_iconst (pc := 68) 1 dX7_isLet_68 rfl ?_
              refine a_iadd (pc := 69) dX7_isLet_69 ?_
              refine a_iand (pc := 70) dX7_isLet_70 ?_
              refine a_if_ne (pc := 71) 78 dX7_isLet_71 (by decide) (fun c7 => ?_) (fun c7 => ?_)
              · have hf := (if_neg c7).symm.trans hf
                refine a_iconst (pc := 78) 0 dX7_isLet_78 rfl ?_
                refine a_sub (sub_d (sub_d (sub_d (sub_d sub_n)))) ?_
                exact sX7_isLet_79 hd hk hn hf
              · have hf := (if_pos c7).symm.trans hf
                refine a_iconst (pc := 74) 1 dX7_isLet_74 rfl ?_
                refine a_goto (pc := 75) 79 dX7_isLet_75 (by decide) ?_
                refine a_sub (sub_d (sub_d (sub_d (sub_d sub_n)))) ?_
                exact sX7_isLet_79 hd hk hn hf
            · have hf := (if_neg c9_5).symm.trans hf
              by_cases c9_6 : l1 = 6
              · have hf := (if_pos c9_6).symm.trans hf
                refine a_tableIn (pc := 1) 80 dX7_isLet_1 (by rw [c9_6]; decide) (by rw [c9_6]; decide) (off := 79) (by rw [c9_6]; rfl) (by decide) ?_
                refine a_aload_n (pc := 80) dX7_isLet_80 rfl (isRv_r _) ?_
                refine a_aload_n (pc := 81) dX7_isLet_81 rfl (isRv_rf _) ?_
                refine a_iload_n (pc := 82) dX7_isLet_82 rfl ?_
                obtain ⟨r8, hr8, hf⟩ := Option.bind_eq_some_iff.mp hf
                obtain ⟨hor8, hr8⟩ := cO_of hr8
                refine g_call (pc := 83) (mc := 0) (ms := 0) (.int r8.1) [va_rf l2, .int l3] [] dX7_isLet_83 ml_X7_236 mv_X7_keepsSense hor8 (by decide) rfl rfl (by omega) (mX7_keepsSense (by omega) hr8) rfl (Nat.le_of_ble_eq_true rfl) hk hn ?_
                have hf := Option.some.inj hf
                subst hf
                exact a_ireturn (pc := 86) dX7_isLet_86 hk hn ⟨rfl, rfl⟩
              · have hf := (if_neg c9_6).symm.trans hf
                have hkd : AW l g d RX7 cX7_isLet 4 "isLet" MC MS' (Qr (some (.int r.1)) r.2) k n 87 [some (.ref a0), some (.int l1), some (va_rf l2), some (.int l3)] [] S := by
                  refine a_iconst (pc := 87) 0 dX7_isLet_87 rfl ?_
                  have hf := Option.some.inj hf
                  subst hf
                  exact a_ireturn (pc := 88) dX7_isLet_88 hk hn ⟨rfl, rfl⟩
                by_cases h9l : (l1).toInt < 0
                · exact a_tableOut (pc := 1) 87 dX7_isLet_1 (Or.inl h9l) (by decide) hkd
                by_cases h9h : 6 < (l1).toInt
                · exact a_tableOut (pc := 1) 87 dX7_isLet_1 (Or.inr h9h) (by decide) hkd
                have h9a : (l1).toInt = 0 ∨ (l1).toInt = 1 ∨ (l1).toInt = 2 ∨ (l1).toInt = 3 ∨ (l1).toInt = 4 ∨ (l1).toInt = 5 ∨ (l1).toInt = 6 := by omega
                rcases h9a with h9a | h9a | h9a | h9a | h9a | h9a | h9a
                · exact absurd (Int32.toInt_inj.mp (h9a.trans rfl)) c9_0
                · exact absurd (Int32.toInt_inj.mp (h9a.trans rfl)) c9_1
                · exact absurd (Int32.toInt_inj.mp (h9a.trans rfl)) c9_2
                · exact absurd (Int32.toInt_inj.mp (h9a.trans rfl)) c9_3
                · exact absurd (Int32.toInt_inj.mp (h9a.trans rfl)) c9_4
                · exact absurd (Int32.toInt_inj.mp (h9a.trans rfl)) c9_5
                · exact absurd (Int32.toInt_inj.mp (h9a.trans rfl)) c9_6
set_option maxHeartbeats 4000000 in
theorem mX7_isLet {l : Launch} {g : gE} {d : Nat} {a0 : Nat} (hd : 4 ≤ d) {r : Int32 × AH} {S : AH} {l1 : Int32} {l2 : Option Nat} {l3 : Int32} (hf : X7_isLet S a0 l1 l2 l3 = some r) : AM l g d yX7_isLet cX7_isLet 4 (some .boolean) 0 0 [.ref a0, .int l1, va_rf l2, .int l3] S (Qr (some (.int r.1)) r.2) := by
  refine AM.of rfl (by cases l2 <;> exact Nat.le_of_ble_eq_true rfl) (fun v h' q => by obtain ⟨rfl, -⟩ := q; refine ⟨_, rfl, ?_⟩; rcases (zg_of hf).2 with e | e <;> rw [e] <;> rfl) (fun ls e => ?_)
  have e2 : aBeg [.ref a0, .int l1, va_rf l2, .int l3] 4 = [some (.ref a0), some (.int l1), some (va_rf l2), some (.int l3)] := (by cases l2 <;> rfl)
  rw [e2] at e
  subst e
  refine a_sub (sub_k (sub_k (sub_k (sub_k (sub_n))))) ?_
  exact sX7_isLet_0 hd (Nat.le_refl _) (Nat.le_refl _) ((zg_of hf).1)

-- PencilStrikes.let(III)I
def X7_let_19 (S : AH) (a0 : Nat) : Option (Int32 × AH) :=
  some ((-1), S)
def X7_let_49 (S : AH) (a0 : Nat) (s0 : Int32) : Option (Int32 × AH) :=
  some (s0, S)
def X7_let_0 (S : AH) (a0 : Nat) (l1 : Int32) (l2 : Int32) (l3 : Int32) : Option (Int32 × AH) :=
  (cO S a0 7 (X7_bargainOf S a0 l2)).bind fun r1 => prp r1 fun zq2 zq2S =>
  (X7_isKind zq2S l1).bind fun r3 =>
  if r3.1 = 0 then
    X7_let_19 r3.2 a0
  else
    ifn zq2 (
      X7_let_19 r3.2 a0) fun a4 =>
    (cO r3.2 a4 1 (X1_hasSet r3.2 a4 l3)).bind fun r5 =>
    if r5.1 = 0 then
      some ((-2), r5.2)
    else
      (cO r5.2 a0 7 (X7_isLet r5.2 a0 l1 (some a4) l3)).bind fun r6 =>
      if r6.1 = 0 then
        X7_let_49 r6.2 a0 0
      else
        X7_let_49 r6.2 a0 1
def X7_let (S : AH) (a0 : Nat) (l1 : Int32) (l2 : Int32) (l3 : Int32) : Option (Int32 × AH) := X7_let_0 S a0 l1 l2 l3
set_option maxHeartbeats 4000000 in
theorem sX7_let_19 {l : Launch} {g : gE} {d MC MS' k n : Nat} {a0 : Nat} (hd : 5 ≤ d) (hk : k ≤ MC) (hn : n ≤ MS') {r : Int32 × AH} {S : AH} (hf : X7_let_19 S a0 = some r) : AW l g d RX7 cX7_let 5 "let" MC MS' (Qr (some (.int r.1)) r.2) k n 19 [none, none, none, none, none] [] S := by
  unfold X7_let_19 at hf
  refine a_iconst (pc := 19) (-1) dX7_let_19 rfl ?_
  have hf := Option.some.inj hf
  subst hf
  exact a_ireturn (pc := 20) dX7_let_20 hk hn ⟨rfl, rfl⟩
set_option maxHeartbeats 4000000 in
theorem sX7_let_49 {l : Launch} {g : gE} {d MC MS' k n : Nat} {a0 : Nat} (hd : 5 ≤ d) (hk : k ≤ MC) (hn : n ≤ MS') {r : Int32 × AH} {S : AH} {s0 : Int32} (hf : X7_let_49 S a0 s0 = some r) : AW l g d RX7 cX7_let 5 "let" MC MS' (Qr (some (.int r.1)) r.2) k n 49 [none, none, none, none, none] [.int s0] S := by
  unfold X7_let_49 at hf
  have hf := Option.some.inj hf
  subst hf
  exact a_ireturn (pc := 49) dX7_let_49 hk hn ⟨rfl, rfl⟩
set_option maxHeartbeats 4000000 in
theorem sX7_let_0 {l : Launch} {g : gE} {d MC MS' k n : Nat} {a0 : Nat} (hd : 5 ≤ d) (hk : k ≤ MC) (hn : n ≤ MS') {r : Int32 × AH} {S : AH} {l1 : Int32} {l2 : Int32} {l3 : Int32} (hf : X7_let_0 S a0 l1 l2 l3 = some r) : AW l g d RX7 cX7_let 5 "let" MC MS' (Qr (some (.int r.1)) r.2) k n 0 [some (.ref a0), some (.int l1), some (.int l2), some (.int l3), none] [] S := by
  unfold X7_let_0 at hf
  refine a_aload_n (pc := 0) dX7_let_0 rfl (isRv_r _) ?_
  refine a_iload_n (pc := 1) dX7_let_1 rfl ?_
  obtain ⟨r1, hr1, hf⟩ := Option.bind_eq_some_iff.mp hf
  obtain ⟨zq2, zq2S⟩ := r1
  have hf := (prp_of _ _ _).symm.trans hf
  obtain ⟨hor1, hr1⟩ := cO_of hr1
  refine g_call (pc := 2) (mc := 0) (ms := 0) (va_rf zq2) [.int l2] [] dX7_let_2 ml_X7_91 mv_X7_bargainOf hor1 (by decide) rfl rfl (by omega) (mX7_bargainOf (by omega) hr1) rfl (Nat.le_of_ble_eq_true rfl) hk hn ?_
  refine a_astore (pc := 5) (ls' := [some (.ref a0), some (.int l1), some (.int l2), some (.int l3), some (va_rf zq2)]) dX7_let_5 (by decide) (isRv_rf _) rfl ?_
  refine a_iload_n (pc := 7) dX7_let_7 rfl ?_
  obtain ⟨r3, hr3, hf⟩ := Option.bind_eq_some_iff.mp hf
  refine g_calls (pc := 8) (mc := 0) (ms := 0) (.int r3.1) [.int l1] [] dX7_let_8 ml_X7_129 ms_X7_isKind rfl (by omega) (mX7_isKind (by omega) hr3) rfl (Nat.le_of_ble_eq_true rfl) hk hn ?_
  refine a_if_eq (pc := 11) 19 dX7_let_11 (by decide) (fun c9 => ?_) (fun c9 => ?_)
  · have hf := (if_pos c9).symm.trans hf
    refine a_sub (sub_d (sub_d (sub_d (sub_d (sub_d sub_n))))) ?_
    exact sX7_let_19 hd hk hn hf
  · have hf := (if_neg c9).symm.trans hf
    refine a_aload (pc := 14) dX7_let_14 rfl (isRv_rf _) ?_
    cases zq2 with
    | none =>
      have hf := (ifn_none _ _).symm.trans hf
      refine a_ifnonnullN (pc := 16) dX7_let_16 ?_
      refine a_sub (sub_d (sub_d (sub_d (sub_d (sub_d sub_n))))) ?_
      exact sX7_let_19 hd hk hn hf
    | some a4 =>
      have hf := (ifn_some _ _ _).symm.trans hf
      refine a_ifnonnull (pc := 16) 21 dX7_let_16 (by decide) ?_
      refine a_aload (pc := 21) dX7_let_21 rfl (isRv_r _) ?_
      refine a_iload_n (pc := 23) dX7_let_23 rfl ?_
      obtain ⟨r5, hr5, hf⟩ := Option.bind_eq_some_iff.mp hf
      obtain ⟨hor5, hr5⟩ := cO_of hr5
      refine g_call (pc := 24) (mc := 0) (ms := 0) (.int r5.1) [.int l3] [] dX7_let_24 ml_X7_100 mv_X1_hasSet hor5 (by decide) rfl rfl (by omega) (mX1_hasSet (by omega) hr5) rfl (Nat.le_of_ble_eq_true rfl) hk hn ?_
      refine a_if_ne (pc := 27) 33 dX7_let_27 (by decide) (fun c8 => ?_) (fun c8 => ?_)
      · have hf := (if_neg c8).symm.trans hf
        refine a_aload_n (pc := 33) dX7_let_33 rfl (isRv_r _) ?_
        refine a_iload_n (pc := 34) dX7_let_34 rfl ?_
        refine a_aload (pc := 35) dX7_let_35 rfl (isRv_r _) ?_
        refine a_iload_n (pc := 37) dX7_let_37 rfl ?_
        obtain ⟨r6, hr6, hf⟩ := Option.bind_eq_some_iff.mp hf
        obtain ⟨hor6, hr6⟩ := cO_of hr6
        refine g_call (pc := 38) (mc := 0) (ms := 0) (.int r6.1) [.int l1, .ref a4, .int l3] [] dX7_let_38 ml_X7_132 mv_X7_isLet hor6 (by decide) rfl rfl (by omega) (mX7_isLet (by omega) hr6) rfl (Nat.le_of_ble_eq_true rfl) hk hn ?_
        refine a_if_eq (pc := 41) 48 dX7_let_41 (by decide) (fun c7 => ?_) (fun c7 => ?_)
        · have hf := (if_pos c7).symm.trans hf
          refine a_iconst (pc := 48) 0 dX7_let_48 rfl ?_
          refine a_sub (sub_d (sub_d (sub_d (sub_d (sub_d sub_n))))) ?_
          exact sX7_let_49 hd hk hn hf
        · have hf := (if_neg c7).symm.trans hf
          refine a_iconst (pc := 44) 1 dX7_let_44 rfl ?_
          refine a_goto (pc := 45) 49 dX7_let_45 (by decide) ?_
          refine a_sub (sub_d (sub_d (sub_d (sub_d (sub_d sub_n))))) ?_
          exact sX7_let_49 hd hk hn hf
      · have hf := (if_pos c8).symm.trans hf
        refine a_bipush (pc := 30) (-2) dX7_let_30 rfl ?_
        have hf := Option.some.inj hf
        subst hf
        exact a_ireturn (pc := 32) dX7_let_32 hk hn ⟨rfl, rfl⟩
set_option maxHeartbeats 4000000 in
theorem mX7_let {l : Launch} {g : gE} {d : Nat} {a0 : Nat} (hd : 5 ≤ d) {r : Int32 × AH} {S : AH} {l1 : Int32} {l2 : Int32} {l3 : Int32} (hf : X7_let S a0 l1 l2 l3 = some r) : AM l g d yX7_let cX7_let 5 (some .int) 0 0 [.ref a0, .int l1, .int l2, .int l3] S (Qr (some (.int r.1)) r.2) := by
  refine AM.of rfl (by exact Nat.le_of_ble_eq_true rfl) (fun v h' q => by obtain ⟨rfl, -⟩ := q; exact ⟨_, rfl, rfl⟩) (fun ls e => ?_)
  have e2 : aBeg [.ref a0, .int l1, .int l2, .int l3] 5 = [some (.ref a0), some (.int l1), some (.int l2), some (.int l3), none] := rfl
  rw [e2] at e
  subst e
  refine a_sub (sub_k (sub_k (sub_k (sub_k (sub_k (sub_n)))))) ?_
  exact sX7_let_0 hd (Nat.le_refl _) (Nat.le_refl _) (hf)

-- PencilStrikes$Bargain.readingAt(I)I
def X1_readingAt_23 (S : AH) (a0 : Nat) (s0 : Int32) : Option (Int32 × AH) :=
  some (s0, S)
def X1_readingAt_22 (S : AH) (a0 : Nat) : Option (Int32 × AH) :=
  X1_readingAt_23 S a0 0
def X1_readingAt_0 (S : AH) (a0 : Nat) (l1 : Int32) : Option (Int32 × AH) :=
  if l1 < 0 then
    X1_readingAt_22 S a0
  else
    (gQ S a0 1 2).bind fun x1 =>
    (aN S x1).bind fun x2 =>
    if x2 ≤ l1 then
      X1_readingAt_22 S a0
    else
      (gQ S a0 1 2).bind fun x3 =>
      (aA 0 S x3 l1).bind fun x4 =>
      X1_readingAt_23 S a0 x4
def X1_readingAt (S : AH) (a0 : Nat) (l1 : Int32) : Option (Int32 × AH) := X1_readingAt_0 S a0 l1
set_option maxHeartbeats 4000000 in
theorem sX1_readingAt_23 {l : Launch} {g : gE} {d MC MS' k n : Nat} {a0 : Nat} (hd : 0 ≤ d) (hk : k ≤ MC) (hn : n ≤ MS') {r : Int32 × AH} {S : AH} {s0 : Int32} (hf : X1_readingAt_23 S a0 s0 = some r) : AW l g d RX1 cX1_readingAt 2 "readingAt" MC MS' (Qr (some (.int r.1)) r.2) k n 23 [none, none] [.int s0] S := by
  unfold X1_readingAt_23 at hf
  have hf := Option.some.inj hf
  subst hf
  exact a_ireturn (pc := 23) dX1_readingAt_23 hk hn ⟨rfl, rfl⟩
set_option maxHeartbeats 4000000 in
theorem sX1_readingAt_22 {l : Launch} {g : gE} {d MC MS' k n : Nat} {a0 : Nat} (hd : 0 ≤ d) (hk : k ≤ MC) (hn : n ≤ MS') {r : Int32 × AH} {S : AH} (hf : X1_readingAt_22 S a0 = some r) : AW l g d RX1 cX1_readingAt 2 "readingAt" MC MS' (Qr (some (.int r.1)) r.2) k n 22 [none, none] [] S := by
  unfold X1_readingAt_22 at hf
  refine a_iconst (pc := 22) 0 dX1_readingAt_22 rfl ?_
  exact sX1_readingAt_23 hd hk hn hf
set_option maxHeartbeats 4000000 in
theorem sX1_readingAt_0 {l : Launch} {g : gE} {d MC MS' k n : Nat} {a0 : Nat} (hd : 0 ≤ d) (hk : k ≤ MC) (hn : n ≤ MS') {r : Int32 × AH} {S : AH} {l1 : Int32} (hf : X1_readingAt_0 S a0 l1 = some r) : AW l g d RX1 cX1_readingAt 2 "readingAt" MC MS' (Qr (some (.int r.1)) r.2) k n 0 [some (.ref a0), some (.int l1)] [] S := by
  unfold X1_readingAt_0 at hf
  refine a_iload_n (pc := 0) dX1_readingAt_0 rfl ?_
  refine a_if_lt (pc := 1) 22 dX1_readingAt_1 (by decide) (fun c6 => ?_) (fun c6 => ?_)
  · have hf := (if_pos c6).symm.trans hf
    refine a_sub (sub_d (sub_d sub_n)) ?_
    exact sX1_readingAt_22 hd hk hn hf
  · have hf := (if_neg c6).symm.trans hf
    refine a_iload_n (pc := 4) dX1_readingAt_4 rfl ?_
    refine a_aload_n (pc := 5) dX1_readingAt_5 rfl (isRv_r _) ?_
    obtain ⟨x1, hx1, hf⟩ := Option.bind_eq_some_iff.mp hf
    refine g_getQ (pc := 6) dX1_readingAt_6 fl_X1_38 hx1 ?_
    obtain ⟨x2, hx2, hf⟩ := Option.bind_eq_some_iff.mp hf
    refine g_alen (pc := 9) dX1_readingAt_9 hx2 ?_
    refine a_icmp_ge (pc := 10) 22 dX1_readingAt_10 (by decide) (fun c5 => ?_) (fun c5 => ?_)
    · have hf := (if_pos c5).symm.trans hf
      refine a_sub (sub_d (sub_d sub_n)) ?_
      exact sX1_readingAt_22 hd hk hn hf
    · have hf := (if_neg c5).symm.trans hf
      refine a_aload_n (pc := 13) dX1_readingAt_13 rfl (isRv_r _) ?_
      obtain ⟨x3, hx3, hf⟩ := Option.bind_eq_some_iff.mp hf
      refine g_getQ (pc := 14) dX1_readingAt_14 fl_X1_38 hx3 ?_
      refine a_iload_n (pc := 17) dX1_readingAt_17 rfl ?_
      obtain ⟨x4, hx4, hf⟩ := Option.bind_eq_some_iff.mp hf
      refine g_iald (pc := 18) dX1_readingAt_18 hx4 ?_
      refine a_goto (pc := 19) 23 dX1_readingAt_19 (by decide) ?_
      refine a_sub (sub_d (sub_d sub_n)) ?_
      exact sX1_readingAt_23 hd hk hn hf
set_option maxHeartbeats 4000000 in
theorem mX1_readingAt {l : Launch} {g : gE} {d : Nat} {a0 : Nat} (hd : 0 ≤ d) {r : Int32 × AH} {S : AH} {l1 : Int32} (hf : X1_readingAt S a0 l1 = some r) : AM l g d yX1_readingAt cX1_readingAt 2 (some .int) 0 0 [.ref a0, .int l1] S (Qr (some (.int r.1)) r.2) := by
  refine AM.of rfl (by exact Nat.le_of_ble_eq_true rfl) (fun v h' q => by obtain ⟨rfl, -⟩ := q; exact ⟨_, rfl, rfl⟩) (fun ls e => ?_)
  have e2 : aBeg [.ref a0, .int l1] 2 = [some (.ref a0), some (.int l1)] := rfl
  rw [e2] at e
  subst e
  refine a_sub (sub_k (sub_k (sub_n))) ?_
  exact sX1_readingAt_0 hd (Nat.le_refl _) (Nat.le_refl _) (hf)

-- PencilStrikes$Bargain.readings()I
def X1_readings_0 (S : AH) (a0 : Nat) : Option (Int32 × AH) :=
  (gQ S a0 1 2).bind fun x1 =>
  (aN S x1).bind fun x2 =>
  some (x2, S)
def X1_readings (S : AH) (a0 : Nat) : Option (Int32 × AH) := X1_readings_0 S a0
set_option maxHeartbeats 4000000 in
theorem sX1_readings_0 {l : Launch} {g : gE} {d MC MS' k n : Nat} {a0 : Nat} (hd : 0 ≤ d) (hk : k ≤ MC) (hn : n ≤ MS') {r : Int32 × AH} {S : AH} (hf : X1_readings_0 S a0 = some r) : AW l g d RX1 cX1_readings 1 "readings" MC MS' (Qr (some (.int r.1)) r.2) k n 0 [some (.ref a0)] [] S := by
  unfold X1_readings_0 at hf
  refine a_aload_n (pc := 0) dX1_readings_0 rfl (isRv_r _) ?_
  obtain ⟨x1, hx1, hf⟩ := Option.bind_eq_some_iff.mp hf
  refine g_getQ (pc := 1) dX1_readings_1 fl_X1_38 hx1 ?_
  obtain ⟨x2, hx2, hf⟩ := Option.bind_eq_some_iff.mp hf
  refine g_alen (pc := 4) dX1_readings_4 hx2 ?_
  have hf := Option.some.inj hf
  subst hf
  exact a_ireturn (pc := 5) dX1_readings_5 hk hn ⟨rfl, rfl⟩
set_option maxHeartbeats 4000000 in
theorem mX1_readings {l : Launch} {g : gE} {d : Nat} {a0 : Nat} (hd : 0 ≤ d) {r : Int32 × AH} {S : AH} (hf : X1_readings S a0 = some r) : AM l g d yX1_readings cX1_readings 1 (some .int) 0 0 [.ref a0] S (Qr (some (.int r.1)) r.2) := by
  refine AM.of rfl (by exact Nat.le_of_ble_eq_true rfl) (fun v h' q => by obtain ⟨rfl, -⟩ := q; exact ⟨_, rfl, rfl⟩) (fun ls e => ?_)
  have e2 : aBeg [.ref a0] 1 = [some (.ref a0)] := rfl
  rw [e2] at e
  subst e
  refine a_sub (sub_k (sub_n)) ?_
  exact sX1_readings_0 hd (Nat.le_refl _) (Nat.le_refl _) (hf)

-- PencilStrikes$Law.hasSense()Z
def X3_hasSense_0 (S : AH) (a0 : Nat) : Option (Int32 × AH) :=
  (gI S a0 3 2).bind fun x1 =>
  some (x1, S)
def X3_hasSense (S : AH) (a0 : Nat) : Option (Int32 × AH) := zg (X3_hasSense_0 S a0)
set_option maxHeartbeats 4000000 in
theorem sX3_hasSense_0 {l : Launch} {g : gE} {d MC MS' k n : Nat} {a0 : Nat} (hd : 0 ≤ d) (hk : k ≤ MC) (hn : n ≤ MS') {r : Int32 × AH} {S : AH} (hf : X3_hasSense_0 S a0 = some r) : AW l g d RX3 cX3_hasSense 1 "hasSense" MC MS' (Qr (some (.int r.1)) r.2) k n 0 [some (.ref a0)] [] S := by
  unfold X3_hasSense_0 at hf
  refine a_aload_n (pc := 0) dX3_hasSense_0 rfl (isRv_r _) ?_
  obtain ⟨x1, hx1, hf⟩ := Option.bind_eq_some_iff.mp hf
  refine g_getI (pc := 1) dX3_hasSense_1 fl_X3_17 hx1 ?_
  have hf := Option.some.inj hf
  subst hf
  exact a_ireturn (pc := 4) dX3_hasSense_4 hk hn ⟨rfl, rfl⟩
set_option maxHeartbeats 4000000 in
theorem mX3_hasSense {l : Launch} {g : gE} {d : Nat} {a0 : Nat} (hd : 0 ≤ d) {r : Int32 × AH} {S : AH} (hf : X3_hasSense S a0 = some r) : AM l g d yX3_hasSense cX3_hasSense 1 (some .boolean) 0 0 [.ref a0] S (Qr (some (.int r.1)) r.2) := by
  refine AM.of rfl (by exact Nat.le_of_ble_eq_true rfl) (fun v h' q => by obtain ⟨rfl, -⟩ := q; refine ⟨_, rfl, ?_⟩; rcases (zg_of hf).2 with e | e <;> rw [e] <;> rfl) (fun ls e => ?_)
  have e2 : aBeg [.ref a0] 1 = [some (.ref a0)] := rfl
  rw [e2] at e
  subst e
  refine a_sub (sub_k (sub_n)) ?_
  exact sX3_hasSense_0 hd (Nat.le_refl _) (Nat.le_refl _) ((zg_of hf).1)

-- PencilStrikes.isGood(ILPencilStrikes$Bargain;LPencilStrikes$Law;I)Z
def X7_isGood_32 (S : AH) (a0 : Nat) (l2 : Option Nat) (l3 : Option Nat) (l4 : Int32) : Option (Int32 × AH) :=
  (gQ S a0 7 7).bind fun x1 =>
  (l2).bind fun a2 =>
  (cO S a2 1 (X1_tellDuties S a2 l4 x1)).bind fun r3 =>
  (gQ r3.2 a0 7 7).bind fun x4 =>
  (l3).bind fun a5 =>
  (cO r3.2 a5 3 (X3_allows r3.2 a5 x4 0)).bind fun r6 =>
  some (r6.1, r6.2)
def X7_isGood_0 (S : AH) (a0 : Nat) (l1 : Int32) (l2 : Option Nat) (l3 : Option Nat) (l4 : Int32) : Option (Int32 × AH) :=
  (cO S a0 7 (X7_isLet S a0 l1 l2 l4)).bind fun r1 =>
  if r1.1 = 0 then
    some (0, r1.2)
  else
    (l3).bind fun a2 =>
    (cO r1.2 a2 3 (X3_hasSense r1.2 a2)).bind fun r3 =>
    if r3.1 = 0 then
      X7_isGood_32 r3.2 a0 l2 (some a2) l4
    else
      (cO r3.2 a0 7 (X7_keepsSense r3.2 a0 l2 l4)).bind fun r4 =>
      if r4.1 = 0 then
        some (0, r4.2)
      else
        X7_isGood_32 r4.2 a0 l2 (some a2) l4
def X7_isGood (S : AH) (a0 : Nat) (l1 : Int32) (l2 : Option Nat) (l3 : Option Nat) (l4 : Int32) : Option (Int32 × AH) := zg (X7_isGood_0 S a0 l1 l2 l3 l4)
set_option maxHeartbeats 4000000 in
theorem sX7_isGood_32 {l : Launch} {g : gE} {d MC MS' k n : Nat} {a0 : Nat} (hd : 5 ≤ d) (hk : k ≤ MC) (hn : n ≤ MS') {r : Int32 × AH} {S : AH} {l2 : Option Nat} {l3 : Option Nat} {l4 : Int32} (hf : X7_isGood_32 S a0 l2 l3 l4 = some r) : AW l g d RX7 cX7_isGood 5 "isGood" MC MS' (Qr (some (.int r.1)) r.2) k n 32 [some (.ref a0), none, some (va_rf l2), some (va_rf l3), some (.int l4)] [] S := by
  unfold X7_isGood_32 at hf
  refine a_aload_n (pc := 32) dX7_isGood_32 rfl (isRv_rf _) ?_
  refine a_iload (pc := 33) dX7_isGood_33 rfl ?_
  refine a_aload_n (pc := 35) dX7_isGood_35 rfl (isRv_r _) ?_
  obtain ⟨x1, hx1, hf⟩ := Option.bind_eq_some_iff.mp hf
  refine g_getQ (pc := 36) dX7_isGood_36 fl_X7_57 hx1 ?_
  obtain ⟨a2, ha2, hf⟩ := Option.bind_eq_some_iff.mp hf
  rw [ha2]
  obtain ⟨r3, hr3, hf⟩ := Option.bind_eq_some_iff.mp hf
  obtain ⟨hor3, hr3⟩ := cO_of hr3
  refine g_callv (pc := 39) (mc := 0) (ms := 0) [.int l4, va_rf x1] [] dX7_isGood_39 ml_X7_109 mv_X1_tellDuties hor3 (by decide) rfl rfl (by omega) (mX1_tellDuties (by omega) hr3) rfl (Nat.le_of_ble_eq_true rfl) hk hn ?_
  refine a_aload_n (pc := 42) dX7_isGood_42 rfl (isRv_rf _) ?_
  refine a_aload_n (pc := 43) dX7_isGood_43 rfl (isRv_r _) ?_
  obtain ⟨x4, hx4, hf⟩ := Option.bind_eq_some_iff.mp hf
  refine g_getQ (pc := 44) dX7_isGood_44 fl_X7_57 hx4 ?_
  refine a_iconst (pc := 47) 0 dX7_isGood_47 rfl ?_
  obtain ⟨a5, ha5, hf⟩ := Option.bind_eq_some_iff.mp hf
  rw [ha5]
  obtain ⟨r6, hr6, hf⟩ := Option.bind_eq_some_iff.mp hf
  obtain ⟨hor6, hr6⟩ := cO_of hr6
  refine g_call (pc := 48) (mc := 0) (ms := 0) (.int r6.1) [va_rf x4, .int 0] [] dX7_isGood_48 ml_X7_121 mv_X3_allows hor6 (by decide) rfl rfl (by omega) (mX3_allows (by omega) hr6) rfl (Nat.le_of_ble_eq_true rfl) hk hn ?_
  have hf := Option.some.inj hf
  subst hf
  exact a_ireturn (pc := 51) dX7_isGood_51 hk hn ⟨rfl, rfl⟩
set_option maxHeartbeats 4000000 in
theorem sX7_isGood_0 {l : Launch} {g : gE} {d MC MS' k n : Nat} {a0 : Nat} (hd : 5 ≤ d) (hk : k ≤ MC) (hn : n ≤ MS') {r : Int32 × AH} {S : AH} {l1 : Int32} {l2 : Option Nat} {l3 : Option Nat} {l4 : Int32} (hf : X7_isGood_0 S a0 l1 l2 l3 l4 = some r) : AW l g d RX7 cX7_isGood 5 "isGood" MC MS' (Qr (some (.int r.1)) r.2) k n 0 [some (.ref a0), some (.int l1), some (va_rf l2), some (va_rf l3), some (.int l4)] [] S := by
  unfold X7_isGood_0 at hf
  refine a_aload_n (pc := 0) dX7_isGood_0 rfl (isRv_r _) ?_
  refine a_iload_n (pc := 1) dX7_isGood_1 rfl ?_
  refine a_aload_n (pc := 2) dX7_isGood_2 rfl (isRv_rf _) ?_
  refine a_iload (pc := 3) dX7_isGood_3 rfl ?_
  obtain ⟨r1, hr1, hf⟩ := Option.bind_eq_some_iff.mp hf
  obtain ⟨hor1, hr1⟩ := cO_of hr1
  refine g_call (pc := 5) (mc := 0) (ms := 0) (.int r1.1) [.int l1, va_rf l2, .int l4] [] dX7_isGood_5 ml_X7_132 mv_X7_isLet hor1 (by decide) rfl rfl (by omega) (mX7_isLet (by omega) hr1) rfl (Nat.le_of_ble_eq_true rfl) hk hn ?_
  refine a_if_ne (pc := 8) 13 dX7_isGood_8 (by decide) (fun c7 => ?_) (fun c7 => ?_)
  · have hf := (if_neg c7).symm.trans hf
    refine a_aload_n (pc := 13) dX7_isGood_13 rfl (isRv_rf _) ?_
    obtain ⟨a2, ha2, hf⟩ := Option.bind_eq_some_iff.mp hf
    rw [ha2]
    obtain ⟨r3, hr3, hf⟩ := Option.bind_eq_some_iff.mp hf
    obtain ⟨hor3, hr3⟩ := cO_of hr3
    refine g_call (pc := 14) (mc := 0) (ms := 0) (.int r3.1) [] [] dX7_isGood_14 ml_X7_243 mv_X3_hasSense hor3 (by decide) rfl rfl (by omega) (mX3_hasSense (by omega) hr3) rfl (Nat.le_of_ble_eq_true rfl) hk hn ?_
    refine a_if_eq (pc := 17) 32 dX7_isGood_17 (by decide) (fun c6 => ?_) (fun c6 => ?_)
    · have hf := (if_pos c6).symm.trans hf
      refine a_sub (sub_k (sub_d (sub_k (sub_k (sub_k sub_n))))) ?_
      exact sX7_isGood_32 hd hk hn hf
    · have hf := (if_neg c6).symm.trans hf
      refine a_aload_n (pc := 20) dX7_isGood_20 rfl (isRv_r _) ?_
      refine a_aload_n (pc := 21) dX7_isGood_21 rfl (isRv_rf _) ?_
      refine a_iload (pc := 22) dX7_isGood_22 rfl ?_
      obtain ⟨r4, hr4, hf⟩ := Option.bind_eq_some_iff.mp hf
      obtain ⟨hor4, hr4⟩ := cO_of hr4
      refine g_call (pc := 24) (mc := 0) (ms := 0) (.int r4.1) [va_rf l2, .int l4] [] dX7_isGood_24 ml_X7_236 mv_X7_keepsSense hor4 (by decide) rfl rfl (by omega) (mX7_keepsSense (by omega) hr4) rfl (Nat.le_of_ble_eq_true rfl) hk hn ?_
      refine a_if_ne (pc := 27) 32 dX7_isGood_27 (by decide) (fun c5 => ?_) (fun c5 => ?_)
      · have hf := (if_neg c5).symm.trans hf
        refine a_sub (sub_k (sub_d (sub_k (sub_k (sub_k sub_n))))) ?_
        exact sX7_isGood_32 hd hk hn hf
      · have hf := (if_pos c5).symm.trans hf
        refine a_iconst (pc := 30) 0 dX7_isGood_30 rfl ?_
        have hf := Option.some.inj hf
        subst hf
        exact a_ireturn (pc := 31) dX7_isGood_31 hk hn ⟨rfl, rfl⟩
  · have hf := (if_pos c7).symm.trans hf
    refine a_iconst (pc := 11) 0 dX7_isGood_11 rfl ?_
    have hf := Option.some.inj hf
    subst hf
    exact a_ireturn (pc := 12) dX7_isGood_12 hk hn ⟨rfl, rfl⟩
set_option maxHeartbeats 4000000 in
theorem mX7_isGood {l : Launch} {g : gE} {d : Nat} {a0 : Nat} (hd : 5 ≤ d) {r : Int32 × AH} {S : AH} {l1 : Int32} {l2 : Option Nat} {l3 : Option Nat} {l4 : Int32} (hf : X7_isGood S a0 l1 l2 l3 l4 = some r) : AM l g d yX7_isGood cX7_isGood 5 (some .boolean) 0 0 [.ref a0, .int l1, va_rf l2, va_rf l3, .int l4] S (Qr (some (.int r.1)) r.2) := by
  refine AM.of rfl (by cases l2 <;> cases l3 <;> exact Nat.le_of_ble_eq_true rfl) (fun v h' q => by obtain ⟨rfl, -⟩ := q; refine ⟨_, rfl, ?_⟩; rcases (zg_of hf).2 with e | e <;> rw [e] <;> rfl) (fun ls e => ?_)
  have e2 : aBeg [.ref a0, .int l1, va_rf l2, va_rf l3, .int l4] 5 = [some (.ref a0), some (.int l1), some (va_rf l2), some (va_rf l3), some (.int l4)] := (by cases l2 <;> cases l3 <;> rfl)
  rw [e2] at e
  subst e
  refine a_sub (sub_k (sub_k (sub_k (sub_k (sub_k (sub_n)))))) ?_
  exact sX7_isGood_0 hd (Nat.le_refl _) (Nat.le_refl _) ((zg_of hf).1)

-- PencilStrikes.good(IIII)I
def X7_good_37 (S : AH) (a0 : Nat) : Option (Int32 × AH) :=
  some ((-1), S)
def X7_good_95 (rec45 : AH → Nat → Int32 → Int32 → Option Nat → Option Nat → Int32 → Int32 → Option (Int32 × AH)) (S : AH) (a0 : Nat) (l1 : Int32) (l4 : Int32) (l5 : Option Nat) (l6 : Option Nat) (l7 : Int32) (l8 : Int32) : Option (Int32 × AH) :=
  rec45 S a0 l1 l4 l5 l6 l7 (l8 + 1)
def X7_good_113 (S : AH) (a0 : Nat) (s0 : Int32) : Option (Int32 × AH) :=
  some (s0, S)
def X7_good_45 : Nat → AH → Nat → Int32 → Int32 → Option Nat → Option Nat → Int32 → Int32 → Option (Int32 × AH)
  | 0, _, _, _, _, _, _, _, _ => none
  | fn + 1, S, a0, l1, l4, l5, l6, l7, l8 =>
    (l5).bind fun a1 =>
    (cO S a1 1 (X1_readings S a1)).bind fun r2 =>
    if r2.1 ≤ l8 then
      if l4 = (-1) then
        X7_good_113 r2.2 a0 l7
      else
        X7_good_113 r2.2 a0 (-1)
    else
      (cO r2.2 a1 1 (X1_readingAt r2.2 a1 l8)).bind fun r4 =>
      (cO r4.2 a0 7 (X7_isGood r4.2 a0 l1 (some a1) l6 r4.1)).bind fun r5 =>
      if r5.1 = 0 then
        X7_good_95 (X7_good_45 fn) r5.2 a0 l1 l4 (some a1) l6 l7 l8
      else
        if l7 = l4 then
          (cO r5.2 a1 1 (X1_readingAt r5.2 a1 l8)).bind fun r6 =>
          some (r6.1, r6.2)
        else
          X7_good_95 (X7_good_45 fn) r5.2 a0 l1 l4 (some a1) l6 (l7 + 1) l8
def X7_good_0 (S : AH) (a0 : Nat) (l1 : Int32) (l2 : Int32) (l3 : Int32) (l4 : Int32) : Option (Int32 × AH) :=
  (cO S a0 7 (X7_bargainOf S a0 l2)).bind fun r1 => prp r1 fun zq2 zq2S =>
  (cO zq2S a0 7 (X7_lawOf zq2S a0 l3)).bind fun r3 => prp r3 fun zq4 zq4S =>
  (X7_isKind zq4S l1).bind fun r5 =>
  if r5.1 = 0 then
    X7_good_37 r5.2 a0
  else
    ifn zq2 (
      X7_good_37 r5.2 a0) fun a6 =>
    ifn zq4 (
      X7_good_37 r5.2 a0) fun a7 =>
    if (-1) ≤ l4 then
      X7_good_45 FU r5.2 a0 l1 l4 (some a6) (some a7) 0 0
    else
      X7_good_37 r5.2 a0
def X7_good (S : AH) (a0 : Nat) (l1 : Int32) (l2 : Int32) (l3 : Int32) (l4 : Int32) : Option (Int32 × AH) := X7_good_0 S a0 l1 l2 l3 l4
set_option maxHeartbeats 4000000 in
theorem sX7_good_37 {l : Launch} {g : gE} {d MC MS' k n : Nat} {a0 : Nat} (hd : 6 ≤ d) (hk : k ≤ MC) (hn : n ≤ MS') {r : Int32 × AH} {S : AH} (hf : X7_good_37 S a0 = some r) : AW l g d RX7 cX7_good 9 "good" MC MS' (Qr (some (.int r.1)) r.2) k n 37 [none, none, none, none, none, none, none, none, none] [] S := by
  unfold X7_good_37 at hf
  refine a_iconst (pc := 37) (-1) dX7_good_37 rfl ?_
  have hf := Option.some.inj hf
  subst hf
  exact a_ireturn (pc := 38) dX7_good_38 hk hn ⟨rfl, rfl⟩
set_option maxHeartbeats 4000000 in
theorem sX7_good_95 {l : Launch} {g : gE} {d MC MS' k n : Nat} {a0 : Nat} (hd : 6 ≤ d) (hk : k ≤ MC) (hn : n ≤ MS') {r : Int32 × AH} {rec45 : AH → Nat → Int32 → Int32 → Option Nat → Option Nat → Int32 → Int32 → Option (Int32 × AH)} (hlp45 : ∀ (S : AH) (l1 : Int32) (l4 : Int32) (l5 : Option Nat) (l6 : Option Nat) (l7 : Int32) (l8 : Int32), rec45 S a0 l1 l4 l5 l6 l7 l8 = some r → AW l g d RX7 cX7_good 9 "good" MC MS' (Qr (some (.int r.1)) r.2) k n 45 [some (.ref a0), some (.int l1), none, none, some (.int l4), some (va_rf l5), some (va_rf l6), some (.int l7), some (.int l8)] [] S) {S : AH} {l1 : Int32} {l4 : Int32} {l5 : Option Nat} {l6 : Option Nat} {l7 : Int32} {l8 : Int32} (hf : X7_good_95 rec45 S a0 l1 l4 l5 l6 l7 l8 = some r) : AW l g d RX7 cX7_good 9 "good" MC MS' (Qr (some (.int r.1)) r.2) k n 95 [some (.ref a0), some (.int l1), none, none, some (.int l4), some (va_rf l5), some (va_rf l6), some (.int l7), some (.int l8)] [] S := by
  unfold X7_good_95 at hf
  refine a_iinc (pc := 95) (ls' := [some (.ref a0), some (.int l1), none, none, some (.int l4), some (va_rf l5), some (va_rf l6), some (.int l7), some (.int (l8 + 1))]) (l8 + 1) dX7_good_95 rfl rfl (by decide) rfl ?_
  refine a_goto (pc := 98) 45 dX7_good_98 (by decide) ?_
  exact hlp45 S l1 l4 l5 l6 l7 (l8 + 1) hf
set_option maxHeartbeats 4000000 in
theorem sX7_good_113 {l : Launch} {g : gE} {d MC MS' k n : Nat} {a0 : Nat} (hd : 6 ≤ d) (hk : k ≤ MC) (hn : n ≤ MS') {r : Int32 × AH} {S : AH} {s0 : Int32} (hf : X7_good_113 S a0 s0 = some r) : AW l g d RX7 cX7_good 9 "good" MC MS' (Qr (some (.int r.1)) r.2) k n 113 [none, none, none, none, none, none, none, none, none] [.int s0] S := by
  unfold X7_good_113 at hf
  have hf := Option.some.inj hf
  subst hf
  exact a_ireturn (pc := 113) dX7_good_113 hk hn ⟨rfl, rfl⟩
set_option maxHeartbeats 4000000 in
theorem sX7_good_45 {l : Launch} {g : gE} {d MC MS' k n : Nat} {a0 : Nat} (hd : 6 ≤ d) (hk : k ≤ MC) (hn : n ≤ MS') {r : Int32 × AH} : ∀ (fn : Nat) (S : AH) (l1 : Int32) (l4 : Int32) (l5 : Option Nat) (l6 : Option Nat) (l7 : Int32) (l8 : Int32), X7_good_45 fn S a0 l1 l4 l5 l6 l7 l8 = some r → AW l g d RX7 cX7_good 9 "good" MC MS' (Qr (some (.int r.1)) r.2) k n 45 [some (.ref a0), some (.int l1), none, none, some (.int l4), some (va_rf l5), some (va_rf l6), some (.int l7), some (.int l8)] [] S := by
  intro fn
  induction fn with
  | zero =>
    intro S l1 l4 l5 l6 l7 l8 hf
    rw [X7_good_45] at hf
    cases hf
  | succ fn ih =>
    intro S l1 l4 l5 l6 l7 l8 hf
    rw [X7_good_45] at hf
    refine a_iload (pc := 45) dX7_good_45 rfl ?_
    refine a_aload (pc := 47) dX7_good_47 rfl (isRv_rf _) ?_
    obtain ⟨a1, ha1, hf⟩ := Option.bind_eq_some_iff.mp hf
    rw [ha1]
    obtain ⟨r2, hr2, hf⟩ := Option.bind_eq_some_iff.mp hf
    obtain ⟨hor2, hr2⟩ := cO_of hr2
    refine g_call (pc := 49) (mc := 0) (ms := 0) (.int r2.1) [] [.int l8] dX7_good_49 ml_X7_136 mv_X1_readings hor2 (by decide) rfl rfl (by omega) (mX1_readings (by omega) hr2) rfl (Nat.le_of_ble_eq_true rfl) hk hn ?_
    refine a_icmp_ge (pc := 52) 101 dX7_good_52 (by decide) (fun c9 => ?_) (fun c9 => ?_)
    · have hf := (if_pos c9).symm.trans hf
      refine a_iload (pc := 101) dX7_good_101 rfl ?_
      refine a_iconst (pc := 103) (-1) dX7_good_103 rfl ?_
      refine a_icmp_ne (pc := 104) 112 dX7_good_104 (by decide) (fun c3 => ?_) (fun c3 => ?_)
      · have hf := (if_neg c3).symm.trans hf
        refine a_iconst (pc := 112) (-1) dX7_good_112 rfl ?_
        refine a_sub (sub_d (sub_d (sub_k (sub_k (sub_d (sub_d (sub_d (sub_d (sub_d sub_n))))))))) ?_
        exact sX7_good_113 hd hk hn hf
      · have hf := (if_pos c3).symm.trans hf
        refine a_iload (pc := 107) dX7_good_107 rfl ?_
        refine a_goto (pc := 109) 113 dX7_good_109 (by decide) ?_
        refine a_sub (sub_d (sub_d (sub_k (sub_k (sub_d (sub_d (sub_d (sub_d (sub_d sub_n))))))))) ?_
        exact sX7_good_113 hd hk hn hf
    · have hf := (if_neg c9).symm.trans hf
      refine a_aload_n (pc := 55) dX7_good_55 rfl (isRv_r _) ?_
      refine a_iload_n (pc := 56) dX7_good_56 rfl ?_
      refine a_aload (pc := 57) dX7_good_57 rfl (isRv_r _) ?_
      refine a_aload (pc := 59) dX7_good_59 rfl (isRv_rf _) ?_
      refine a_aload (pc := 61) dX7_good_61 rfl (isRv_r _) ?_
      refine a_iload (pc := 63) dX7_good_63 rfl ?_
      obtain ⟨r4, hr4, hf⟩ := Option.bind_eq_some_iff.mp hf
      obtain ⟨hor4, hr4⟩ := cO_of hr4
      refine g_call (pc := 65) (mc := 0) (ms := 0) (.int r4.1) [.int l8] [va_rf l6, .ref a1, .int l1, .ref a0] dX7_good_65 ml_X7_139 mv_X1_readingAt hor4 (by decide) rfl rfl (by omega) (mX1_readingAt (by omega) hr4) rfl (by cases l6 <;> exact Nat.le_of_ble_eq_true rfl) hk hn ?_
      obtain ⟨r5, hr5, hf⟩ := Option.bind_eq_some_iff.mp hf
      obtain ⟨hor5, hr5⟩ := cO_of hr5
      refine g_call (pc := 68) (mc := 0) (ms := 0) (.int r5.1) [.int l1, .ref a1, va_rf l6, .int (r4.1)] [] dX7_good_68 ml_X7_142 mv_X7_isGood hor5 (by decide) rfl rfl (by omega) (mX7_isGood (by omega) hr5) rfl (Nat.le_of_ble_eq_true rfl) hk hn ?_
      refine a_if_ne (pc := 71) 77 dX7_good_71 (by decide) (fun c8 => ?_) (fun c8 => ?_)
      · have hf := (if_neg c8).symm.trans hf
        refine a_iload (pc := 77) dX7_good_77 rfl ?_
        refine a_iload (pc := 79) dX7_good_79 rfl ?_
        refine a_icmp_ne (pc := 81) 92 dX7_good_81 (by decide) (fun c7 => ?_) (fun c7 => ?_)
        · have hf := (if_neg c7).symm.trans hf
          refine a_iinc (pc := 92) (ls' := [some (.ref a0), some (.int l1), none, none, some (.int l4), some (.ref a1), some (va_rf l6), some (.int (l7 + 1)), some (.int l8)]) (l7 + 1) dX7_good_92 rfl rfl (by decide) (aSet_ref rfl (va_rf_cat _) rfl) ?_
          exact sX7_good_95 hd hk hn ih hf
        · have hf := (if_pos c7).symm.trans hf
          refine a_aload (pc := 84) dX7_good_84 rfl (isRv_r _) ?_
          refine a_iload (pc := 86) dX7_good_86 rfl ?_
          obtain ⟨r6, hr6, hf⟩ := Option.bind_eq_some_iff.mp hf
          obtain ⟨hor6, hr6⟩ := cO_of hr6
          refine g_call (pc := 88) (mc := 0) (ms := 0) (.int r6.1) [.int l8] [] dX7_good_88 ml_X7_139 mv_X1_readingAt hor6 (by decide) rfl rfl (by omega) (mX1_readingAt (by omega) hr6) rfl (Nat.le_of_ble_eq_true rfl) hk hn ?_
          have hf := Option.some.inj hf
          subst hf
          exact a_ireturn (pc := 91) dX7_good_91 hk hn ⟨rfl, rfl⟩
      · have hf := (if_pos c8).symm.trans hf
        refine a_goto (pc := 74) 95 dX7_good_74 (by decide) ?_
        exact sX7_good_95 hd hk hn ih hf
set_option maxHeartbeats 4000000 in
theorem sX7_good_0 {l : Launch} {g : gE} {d MC MS' k n : Nat} {a0 : Nat} (hd : 6 ≤ d) (hk : k ≤ MC) (hn : n ≤ MS') {r : Int32 × AH} {S : AH} {l1 : Int32} {l2 : Int32} {l3 : Int32} {l4 : Int32} (hf : X7_good_0 S a0 l1 l2 l3 l4 = some r) : AW l g d RX7 cX7_good 9 "good" MC MS' (Qr (some (.int r.1)) r.2) k n 0 [some (.ref a0), some (.int l1), some (.int l2), some (.int l3), some (.int l4), none, none, none, none] [] S := by
  unfold X7_good_0 at hf
  refine a_aload_n (pc := 0) dX7_good_0 rfl (isRv_r _) ?_
  refine a_iload_n (pc := 1) dX7_good_1 rfl ?_
  obtain ⟨r1, hr1, hf⟩ := Option.bind_eq_some_iff.mp hf
  obtain ⟨zq2, zq2S⟩ := r1
  have hf := (prp_of _ _ _).symm.trans hf
  obtain ⟨hor1, hr1⟩ := cO_of hr1
  refine g_call (pc := 2) (mc := 0) (ms := 0) (va_rf zq2) [.int l2] [] dX7_good_2 ml_X7_91 mv_X7_bargainOf hor1 (by decide) rfl rfl (by omega) (mX7_bargainOf (by omega) hr1) rfl (Nat.le_of_ble_eq_true rfl) hk hn ?_
  refine a_astore (pc := 5) (ls' := [some (.ref a0), some (.int l1), some (.int l2), some (.int l3), some (.int l4), some (va_rf zq2), none, none, none]) dX7_good_5 (by decide) (isRv_rf _) rfl ?_
  refine a_aload_n (pc := 7) dX7_good_7 rfl (isRv_r _) ?_
  refine a_iload_n (pc := 8) dX7_good_8 rfl ?_
  obtain ⟨r3, hr3, hf⟩ := Option.bind_eq_some_iff.mp hf
  obtain ⟨zq4, zq4S⟩ := r3
  have hf := (prp_of _ _ _).symm.trans hf
  obtain ⟨hor3, hr3⟩ := cO_of hr3
  refine g_call (pc := 9) (mc := 0) (ms := 0) (va_rf zq4) [.int l3] [] dX7_good_9 ml_X7_117 mv_X7_lawOf hor3 (by decide) rfl rfl (by omega) (mX7_lawOf (by omega) hr3) rfl (Nat.le_of_ble_eq_true rfl) hk hn ?_
  refine a_astore (pc := 12) (ls' := [some (.ref a0), some (.int l1), some (.int l2), some (.int l3), some (.int l4), some (va_rf zq2), some (va_rf zq4), none, none]) dX7_good_12 (by decide) (isRv_rf _) (aSet_ref rfl (va_rf_cat _) rfl) ?_
  refine a_iload_n (pc := 14) dX7_good_14 rfl ?_
  obtain ⟨r5, hr5, hf⟩ := Option.bind_eq_some_iff.mp hf
  refine g_calls (pc := 15) (mc := 0) (ms := 0) (.int r5.1) [.int l1] [] dX7_good_15 ml_X7_129 ms_X7_isKind rfl (by omega) (mX7_isKind (by omega) hr5) rfl (Nat.le_of_ble_eq_true rfl) hk hn ?_
  refine a_if_eq (pc := 18) 37 dX7_good_18 (by decide) (fun c9 => ?_) (fun c9 => ?_)
  · have hf := (if_pos c9).symm.trans hf
    refine a_sub (sub_d (sub_d (sub_d (sub_d (sub_d (sub_d (sub_d (sub_k (sub_k sub_n))))))))) ?_
    exact sX7_good_37 hd hk hn hf
  · have hf := (if_neg c9).symm.trans hf
    refine a_aload (pc := 21) dX7_good_21 rfl (isRv_rf _) ?_
    cases zq2 with
    | none =>
      have hf := (ifn_none _ _).symm.trans hf
      refine a_ifnullN (pc := 23) 37 dX7_good_23 (by decide) ?_
      refine a_sub (sub_d (sub_d (sub_d (sub_d (sub_d (sub_d (sub_d (sub_k (sub_k sub_n))))))))) ?_
      exact sX7_good_37 hd hk hn hf
    | some a6 =>
      have hf := (ifn_some _ _ _).symm.trans hf
      refine a_ifnull (pc := 23) dX7_good_23 ?_
      refine a_aload (pc := 26) dX7_good_26 rfl (isRv_rf _) ?_
      cases zq4 with
      | none =>
        have hf := (ifn_none _ _).symm.trans hf
        refine a_ifnullN (pc := 28) 37 dX7_good_28 (by decide) ?_
        refine a_sub (sub_d (sub_d (sub_d (sub_d (sub_d (sub_d (sub_d (sub_k (sub_k sub_n))))))))) ?_
        exact sX7_good_37 hd hk hn hf
      | some a7 =>
        have hf := (ifn_some _ _ _).symm.trans hf
        refine a_ifnull (pc := 28) dX7_good_28 ?_
        refine a_iload (pc := 31) dX7_good_31 rfl ?_
        refine a_iconst (pc := 33) (-1) dX7_good_33 rfl ?_
        refine a_icmp_ge (pc := 34) 39 dX7_good_34 (by decide) (fun c8 => ?_) (fun c8 => ?_)
        · have hf := (if_pos c8).symm.trans hf
          refine a_iconst (pc := 39) 0 dX7_good_39 rfl ?_
          refine a_istore (pc := 40) (ls' := [some (.ref a0), some (.int l1), some (.int l2), some (.int l3), some (.int l4), some (.ref a6), some (.ref a7), some (.int 0), none]) dX7_good_40 (by decide) rfl ?_
          refine a_iconst (pc := 42) 0 dX7_good_42 rfl ?_
          refine a_istore (pc := 43) (ls' := [some (.ref a0), some (.int l1), some (.int l2), some (.int l3), some (.int l4), some (.ref a6), some (.ref a7), some (.int 0), some (.int 0)]) dX7_good_43 (by decide) rfl ?_
          refine a_sub (sub_k (sub_k (sub_d (sub_d (sub_k (sub_k (sub_k (sub_k (sub_k sub_n))))))))) ?_
          exact sX7_good_45 hd hk hn FU r5.2 l1 l4 (some a6) (some a7) 0 0 hf
        · have hf := (if_neg c8).symm.trans hf
          refine a_sub (sub_d (sub_d (sub_d (sub_d (sub_d (sub_d (sub_d (sub_k (sub_k sub_n))))))))) ?_
          exact sX7_good_37 hd hk hn hf
set_option maxHeartbeats 4000000 in
theorem mX7_good {l : Launch} {g : gE} {d : Nat} {a0 : Nat} (hd : 6 ≤ d) {r : Int32 × AH} {S : AH} {l1 : Int32} {l2 : Int32} {l3 : Int32} {l4 : Int32} (hf : X7_good S a0 l1 l2 l3 l4 = some r) : AM l g d yX7_good cX7_good 9 (some .int) 0 0 [.ref a0, .int l1, .int l2, .int l3, .int l4] S (Qr (some (.int r.1)) r.2) := by
  refine AM.of rfl (by exact Nat.le_of_ble_eq_true rfl) (fun v h' q => by obtain ⟨rfl, -⟩ := q; exact ⟨_, rfl, rfl⟩) (fun ls e => ?_)
  have e2 : aBeg [.ref a0, .int l1, .int l2, .int l3, .int l4] 9 = [some (.ref a0), some (.int l1), some (.int l2), some (.int l3), some (.int l4), none, none, none, none] := rfl
  rw [e2] at e
  subst e
  refine a_sub (sub_k (sub_k (sub_k (sub_k (sub_k (sub_k (sub_k (sub_k (sub_k (sub_n)))))))))) ?_
  exact sX7_good_0 hd (Nat.le_refl _) (Nat.le_refl _) (hf)

-- PencilStrikes.next(IIII)I
def X7_next_31 (S : AH) (a0 : Nat) : Option (Int32 × AH) :=
  some ((-1), S)
def X7_next_98 (rec55 : AH → Nat → Int32 → Int32 → Option Nat → Option Nat → Int32 → Option (Int32 × AH)) (S : AH) (a0 : Nat) (l1 : Int32) (l4 : Int32) (l5 : Option Nat) (l6 : Option Nat) (l7 : Int32) : Option (Int32 × AH) :=
  rec55 S a0 l1 l4 l5 l6 (l7 + 1)
def X7_next_55 : Nat → AH → Nat → Int32 → Int32 → Option Nat → Option Nat → Int32 → Option (Int32 × AH)
  | 0, _, _, _, _, _, _, _ => none
  | fn + 1, S, a0, l1, l4, l5, l6, l7 =>
    (l5).bind fun a1 =>
    (cO S a1 1 (X1_readings S a1)).bind fun r2 =>
    if r2.1 ≤ l7 then
      some ((-5), r2.2)
    else
      (cO r2.2 a1 1 (X1_readingAt r2.2 a1 l7)).bind fun r3 =>
      if r3.1 ≤ l4 then
        X7_next_98 (X7_next_55 fn) r3.2 a0 l1 l4 (some a1) l6 l7
      else
        (cO r3.2 a0 7 (X7_isGood r3.2 a0 l1 (some a1) l6 r3.1)).bind fun r4 =>
        if r4.1 = 0 then
          X7_next_98 (X7_next_55 fn) r4.2 a0 l1 l4 (some a1) l6 l7
        else
          some (r3.1, r4.2)
def X7_next_52 (S : AH) (a0 : Nat) (l1 : Int32) (l4 : Int32) (l5 : Option Nat) (l6 : Option Nat) : Option (Int32 × AH) :=
  X7_next_55 FU S a0 l1 l4 l5 l6 0
def X7_next_0 (S : AH) (a0 : Nat) (l1 : Int32) (l2 : Int32) (l3 : Int32) (l4 : Int32) : Option (Int32 × AH) :=
  (cO S a0 7 (X7_bargainOf S a0 l2)).bind fun r1 => prp r1 fun zq2 zq2S =>
  (cO zq2S a0 7 (X7_lawOf zq2S a0 l3)).bind fun r3 => prp r3 fun zq4 zq4S =>
  (X7_isKind zq4S l1).bind fun r5 =>
  if r5.1 = 0 then
    X7_next_31 r5.2 a0
  else
    ifn zq2 (
      X7_next_31 r5.2 a0) fun a6 =>
    ifn zq4 (
      X7_next_31 r5.2 a0) fun a7 =>
    if l4 = (-1) then
      X7_next_52 r5.2 a0 l1 l4 (some a6) (some a7)
    else
      (cO r5.2 a6 1 (X1_hasSet r5.2 a6 l4)).bind fun r8 =>
      if r8.1 = 0 then
        some ((-2), r8.2)
      else
        X7_next_52 r8.2 a0 l1 l4 (some a6) (some a7)
def X7_next (S : AH) (a0 : Nat) (l1 : Int32) (l2 : Int32) (l3 : Int32) (l4 : Int32) : Option (Int32 × AH) := X7_next_0 S a0 l1 l2 l3 l4
set_option maxHeartbeats 4000000 in
theorem sX7_next_31 {l : Launch} {g : gE} {d MC MS' k n : Nat} {a0 : Nat} (hd : 6 ≤ d) (hk : k ≤ MC) (hn : n ≤ MS') {r : Int32 × AH} {S : AH} (hf : X7_next_31 S a0 = some r) : AW l g d RX7 cX7_next 9 "next" MC MS' (Qr (some (.int r.1)) r.2) k n 31 [none, none, none, none, none, none, none, none, none] [] S := by
  unfold X7_next_31 at hf
  refine a_iconst (pc := 31) (-1) dX7_next_31 rfl ?_
  have hf := Option.some.inj hf
  subst hf
  exact a_ireturn (pc := 32) dX7_next_32 hk hn ⟨rfl, rfl⟩
set_option maxHeartbeats 4000000 in
theorem sX7_next_98 {l : Launch} {g : gE} {d MC MS' k n : Nat} {a0 : Nat} (hd : 6 ≤ d) (hk : k ≤ MC) (hn : n ≤ MS') {r : Int32 × AH} {rec55 : AH → Nat → Int32 → Int32 → Option Nat → Option Nat → Int32 → Option (Int32 × AH)} (hlp55 : ∀ (S : AH) (l1 : Int32) (l4 : Int32) (l5 : Option Nat) (l6 : Option Nat) (l7 : Int32), rec55 S a0 l1 l4 l5 l6 l7 = some r → AW l g d RX7 cX7_next 9 "next" MC MS' (Qr (some (.int r.1)) r.2) k n 55 [some (.ref a0), some (.int l1), none, none, some (.int l4), some (va_rf l5), some (va_rf l6), some (.int l7), none] [] S) {S : AH} {l1 : Int32} {l4 : Int32} {l5 : Option Nat} {l6 : Option Nat} {l7 : Int32} (hf : X7_next_98 rec55 S a0 l1 l4 l5 l6 l7 = some r) : AW l g d RX7 cX7_next 9 "next" MC MS' (Qr (some (.int r.1)) r.2) k n 98 [some (.ref a0), some (.int l1), none, none, some (.int l4), some (va_rf l5), some (va_rf l6), some (.int l7), none] [] S := by
  unfold X7_next_98 at hf
  refine a_iinc (pc := 98) (ls' := [some (.ref a0), some (.int l1), none, none, some (.int l4), some (va_rf l5), some (va_rf l6), some (.int (l7 + 1)), none]) (l7 + 1) dX7_next_98 rfl rfl (by decide) (aSet_ref rfl (va_rf_cat _) rfl) ?_
  refine a_goto (pc := 101) 55 dX7_next_101 (by decide) ?_
  exact hlp55 S l1 l4 l5 l6 (l7 + 1) hf
set_option maxHeartbeats 4000000 in
theorem sX7_next_55 {l : Launch} {g : gE} {d MC MS' k n : Nat} {a0 : Nat} (hd : 6 ≤ d) (hk : k ≤ MC) (hn : n ≤ MS') {r : Int32 × AH} : ∀ (fn : Nat) (S : AH) (l1 : Int32) (l4 : Int32) (l5 : Option Nat) (l6 : Option Nat) (l7 : Int32), X7_next_55 fn S a0 l1 l4 l5 l6 l7 = some r → AW l g d RX7 cX7_next 9 "next" MC MS' (Qr (some (.int r.1)) r.2) k n 55 [some (.ref a0), some (.int l1), none, none, some (.int l4), some (va_rf l5), some (va_rf l6), some (.int l7), none] [] S := by
  intro fn
  induction fn with
  | zero =>
    intro S l1 l4 l5 l6 l7 hf
    rw [X7_next_55] at hf
    cases hf
  | succ fn ih =>
    intro S l1 l4 l5 l6 l7 hf
    rw [X7_next_55] at hf
    refine a_iload (pc := 55) dX7_next_55 rfl ?_
    refine a_aload (pc := 57) dX7_next_57 rfl (isRv_rf _) ?_
    obtain ⟨a1, ha1, hf⟩ := Option.bind_eq_some_iff.mp hf
    rw [ha1]
    obtain ⟨r2, hr2, hf⟩ := Option.bind_eq_some_iff.mp hf
    obtain ⟨hor2, hr2⟩ := cO_of hr2
    refine g_call (pc := 59) (mc := 0) (ms := 0) (.int r2.1) [] [.int l7] dX7_next_59 ml_X7_136 mv_X1_readings hor2 (by decide) rfl rfl (by omega) (mX1_readings (by omega) hr2) rfl (Nat.le_of_ble_eq_true rfl) hk hn ?_
    refine a_icmp_ge (pc := 62) 104 dX7_next_62 (by decide) (fun c7 => ?_) (fun c7 => ?_)
    · have hf := (if_pos c7).symm.trans hf
      refine a_bipush (pc := 104) (-5) dX7_next_104 rfl ?_
      have hf := Option.some.inj hf
      subst hf
      exact a_ireturn (pc := 106) dX7_next_106 hk hn ⟨rfl, rfl⟩
    · have hf := (if_neg c7).symm.trans hf
      refine a_aload (pc := 65) dX7_next_65 rfl (isRv_r _) ?_
      refine a_iload (pc := 67) dX7_next_67 rfl ?_
      obtain ⟨r3, hr3, hf⟩ := Option.bind_eq_some_iff.mp hf
      obtain ⟨hor3, hr3⟩ := cO_of hr3
      refine g_call (pc := 69) (mc := 0) (ms := 0) (.int r3.1) [.int l7] [] dX7_next_69 ml_X7_139 mv_X1_readingAt hor3 (by decide) rfl rfl (by omega) (mX1_readingAt (by omega) hr3) rfl (Nat.le_of_ble_eq_true rfl) hk hn ?_
      refine a_istore (pc := 72) (ls' := [some (.ref a0), some (.int l1), none, none, some (.int l4), some (.ref a1), some (va_rf l6), some (.int l7), some (.int (r3.1))]) dX7_next_72 (by decide) rfl ?_
      refine a_iload (pc := 74) dX7_next_74 rfl ?_
      refine a_iload (pc := 76) dX7_next_76 rfl ?_
      refine a_icmp_le (pc := 78) 98 dX7_next_78 (by decide) (fun c6 => ?_) (fun c6 => ?_)
      · have hf := (if_pos c6).symm.trans hf
        refine a_sub (sub_k (sub_k (sub_k (sub_k (sub_k (sub_k (sub_k (sub_k (sub_d sub_n))))))))) ?_
        exact sX7_next_98 hd hk hn ih hf
      · have hf := (if_neg c6).symm.trans hf
        refine a_aload_n (pc := 81) dX7_next_81 rfl (isRv_r _) ?_
        refine a_iload_n (pc := 82) dX7_next_82 rfl ?_
        refine a_aload (pc := 83) dX7_next_83 rfl (isRv_r _) ?_
        refine a_aload (pc := 85) dX7_next_85 rfl (isRv_rf _) ?_
        refine a_iload (pc := 87) dX7_next_87 rfl ?_
        obtain ⟨r4, hr4, hf⟩ := Option.bind_eq_some_iff.mp hf
        obtain ⟨hor4, hr4⟩ := cO_of hr4
        refine g_call (pc := 89) (mc := 0) (ms := 0) (.int r4.1) [.int l1, .ref a1, va_rf l6, .int (r3.1)] [] dX7_next_89 ml_X7_142 mv_X7_isGood hor4 (by decide) rfl rfl (by omega) (mX7_isGood (by omega) hr4) rfl (Nat.le_of_ble_eq_true rfl) hk hn ?_
        refine a_if_eq (pc := 92) 98 dX7_next_92 (by decide) (fun c5 => ?_) (fun c5 => ?_)
        · have hf := (if_pos c5).symm.trans hf
          refine a_sub (sub_k (sub_k (sub_k (sub_k (sub_k (sub_k (sub_k (sub_k (sub_d sub_n))))))))) ?_
          exact sX7_next_98 hd hk hn ih hf
        · have hf := (if_neg c5).symm.trans hf
          refine a_iload (pc := 95) dX7_next_95 rfl ?_
          have hf := Option.some.inj hf
          subst hf
          exact a_ireturn (pc := 97) dX7_next_97 hk hn ⟨rfl, rfl⟩
set_option maxHeartbeats 4000000 in
theorem sX7_next_52 {l : Launch} {g : gE} {d MC MS' k n : Nat} {a0 : Nat} (hd : 6 ≤ d) (hk : k ≤ MC) (hn : n ≤ MS') {r : Int32 × AH} {S : AH} {l1 : Int32} {l4 : Int32} {l5 : Option Nat} {l6 : Option Nat} (hf : X7_next_52 S a0 l1 l4 l5 l6 = some r) : AW l g d RX7 cX7_next 9 "next" MC MS' (Qr (some (.int r.1)) r.2) k n 52 [some (.ref a0), some (.int l1), none, none, some (.int l4), some (va_rf l5), some (va_rf l6), none, none] [] S := by
  unfold X7_next_52 at hf
  refine a_iconst (pc := 52) 0 dX7_next_52 rfl ?_
  refine a_istore (pc := 53) (ls' := [some (.ref a0), some (.int l1), none, none, some (.int l4), some (va_rf l5), some (va_rf l6), some (.int 0), none]) dX7_next_53 (by decide) (aSet_ref rfl (va_rf_cat _) rfl) ?_
  exact sX7_next_55 hd hk hn FU S l1 l4 l5 l6 0 hf
set_option maxHeartbeats 4000000 in
theorem sX7_next_0 {l : Launch} {g : gE} {d MC MS' k n : Nat} {a0 : Nat} (hd : 6 ≤ d) (hk : k ≤ MC) (hn : n ≤ MS') {r : Int32 × AH} {S : AH} {l1 : Int32} {l2 : Int32} {l3 : Int32} {l4 : Int32} (hf : X7_next_0 S a0 l1 l2 l3 l4 = some r) : AW l g d RX7 cX7_next 9 "next" MC MS' (Qr (some (.int r.1)) r.2) k n 0 [some (.ref a0), some (.int l1), some (.int l2), some (.int l3), some (.int l4), none, none, none, none] [] S := by
  unfold X7_next_0 at hf
  refine a_aload_n (pc := 0) dX7_next_0 rfl (isRv_r _) ?_
  refine a_iload_n (pc := 1) dX7_next_1 rfl ?_
  obtain ⟨r1, hr1, hf⟩ := Option.bind_eq_some_iff.mp hf
  obtain ⟨zq2, zq2S⟩ := r1
  have hf := (prp_of _ _ _).symm.trans hf
  obtain ⟨hor1, hr1⟩ := cO_of hr1
  refine g_call (pc := 2) (mc := 0) (ms := 0) (va_rf zq2) [.int l2] [] dX7_next_2 ml_X7_91 mv_X7_bargainOf hor1 (by decide) rfl rfl (by omega) (mX7_bargainOf (by omega) hr1) rfl (Nat.le_of_ble_eq_true rfl) hk hn ?_
  refine a_astore (pc := 5) (ls' := [some (.ref a0), some (.int l1), some (.int l2), some (.int l3), some (.int l4), some (va_rf zq2), none, none, none]) dX7_next_5 (by decide) (isRv_rf _) rfl ?_
  refine a_aload_n (pc := 7) dX7_next_7 rfl (isRv_r _) ?_
  refine a_iload_n (pc := 8) dX7_next_8 rfl ?_
  obtain ⟨r3, hr3, hf⟩ := Option.bind_eq_some_iff.mp hf
  obtain ⟨zq4, zq4S⟩ := r3
  have hf := (prp_of _ _ _).symm.trans hf
  obtain ⟨hor3, hr3⟩ := cO_of hr3
  refine g_call (pc := 9) (mc := 0) (ms := 0) (va_rf zq4) [.int l3] [] dX7_next_9 ml_X7_117 mv_X7_lawOf hor3 (by decide) rfl rfl (by omega) (mX7_lawOf (by omega) hr3) rfl (Nat.le_of_ble_eq_true rfl) hk hn ?_
  refine a_astore (pc := 12) (ls' := [some (.ref a0), some (.int l1), some (.int l2), some (.int l3), some (.int l4), some (va_rf zq2), some (va_rf zq4), none, none]) dX7_next_12 (by decide) (isRv_rf _) (aSet_ref rfl (va_rf_cat _) rfl) ?_
  refine a_iload_n (pc := 14) dX7_next_14 rfl ?_
  obtain ⟨r5, hr5, hf⟩ := Option.bind_eq_some_iff.mp hf
  refine g_calls (pc := 15) (mc := 0) (ms := 0) (.int r5.1) [.int l1] [] dX7_next_15 ml_X7_129 ms_X7_isKind rfl (by omega) (mX7_isKind (by omega) hr5) rfl (Nat.le_of_ble_eq_true rfl) hk hn ?_
  refine a_if_eq (pc := 18) 31 dX7_next_18 (by decide) (fun c11 => ?_) (fun c11 => ?_)
  · have hf := (if_pos c11).symm.trans hf
    refine a_sub (sub_d (sub_d (sub_d (sub_d (sub_d (sub_d (sub_d (sub_k (sub_k sub_n))))))))) ?_
    exact sX7_next_31 hd hk hn hf
  · have hf := (if_neg c11).symm.trans hf
    refine a_aload (pc := 21) dX7_next_21 rfl (isRv_rf _) ?_
    cases zq2 with
    | none =>
      have hf := (ifn_none _ _).symm.trans hf
      refine a_ifnullN (pc := 23) 31 dX7_next_23 (by decide) ?_
      refine a_sub (sub_d (sub_d (sub_d (sub_d (sub_d (sub_d (sub_d (sub_k (sub_k sub_n))))))))) ?_
      exact sX7_next_31 hd hk hn hf
    | some a6 =>
      have hf := (ifn_some _ _ _).symm.trans hf
      refine a_ifnull (pc := 23) dX7_next_23 ?_
      refine a_aload (pc := 26) dX7_next_26 rfl (isRv_rf _) ?_
      cases zq4 with
      | none =>
        have hf := (ifn_none _ _).symm.trans hf
        refine a_ifnonnullN (pc := 28) dX7_next_28 ?_
        refine a_sub (sub_d (sub_d (sub_d (sub_d (sub_d (sub_d (sub_d (sub_k (sub_k sub_n))))))))) ?_
        exact sX7_next_31 hd hk hn hf
      | some a7 =>
        have hf := (ifn_some _ _ _).symm.trans hf
        refine a_ifnonnull (pc := 28) 33 dX7_next_28 (by decide) ?_
        refine a_iload (pc := 33) dX7_next_33 rfl ?_
        refine a_iconst (pc := 35) (-1) dX7_next_35 rfl ?_
        refine a_icmp_eq (pc := 36) 52 dX7_next_36 (by decide) (fun c10 => ?_) (fun c10 => ?_)
        · have hf := (if_pos c10).symm.trans hf
          refine a_sub (sub_k (sub_k (sub_d (sub_d (sub_k (sub_k (sub_k (sub_k (sub_k sub_n))))))))) ?_
          exact sX7_next_52 hd hk hn hf
        · have hf := (if_neg c10).symm.trans hf
          refine a_aload (pc := 39) dX7_next_39 rfl (isRv_r _) ?_
          refine a_iload (pc := 41) dX7_next_41 rfl ?_
          obtain ⟨r8, hr8, hf⟩ := Option.bind_eq_some_iff.mp hf
          obtain ⟨hor8, hr8⟩ := cO_of hr8
          refine g_call (pc := 43) (mc := 0) (ms := 0) (.int r8.1) [.int l4] [] dX7_next_43 ml_X7_100 mv_X1_hasSet hor8 (by decide) rfl rfl (by omega) (mX1_hasSet (by omega) hr8) rfl (Nat.le_of_ble_eq_true rfl) hk hn ?_
          refine a_if_ne (pc := 46) 52 dX7_next_46 (by decide) (fun c9 => ?_) (fun c9 => ?_)
          · have hf := (if_neg c9).symm.trans hf
            refine a_sub (sub_k (sub_k (sub_d (sub_d (sub_k (sub_k (sub_k (sub_k (sub_k sub_n))))))))) ?_
            exact sX7_next_52 hd hk hn hf
          · have hf := (if_pos c9).symm.trans hf
            refine a_bipush (pc := 49) (-2) dX7_next_49 rfl ?_
            have hf := Option.some.inj hf
            subst hf
            exact a_ireturn (pc := 51) dX7_next_51 hk hn ⟨rfl, rfl⟩
set_option maxHeartbeats 4000000 in
theorem mX7_next {l : Launch} {g : gE} {d : Nat} {a0 : Nat} (hd : 6 ≤ d) {r : Int32 × AH} {S : AH} {l1 : Int32} {l2 : Int32} {l3 : Int32} {l4 : Int32} (hf : X7_next S a0 l1 l2 l3 l4 = some r) : AM l g d yX7_next cX7_next 9 (some .int) 0 0 [.ref a0, .int l1, .int l2, .int l3, .int l4] S (Qr (some (.int r.1)) r.2) := by
  refine AM.of rfl (by exact Nat.le_of_ble_eq_true rfl) (fun v h' q => by obtain ⟨rfl, -⟩ := q; exact ⟨_, rfl, rfl⟩) (fun ls e => ?_)
  have e2 : aBeg [.ref a0, .int l1, .int l2, .int l3, .int l4] 9 = [some (.ref a0), some (.int l1), some (.int l2), some (.int l3), some (.int l4), none, none, none, none] := rfl
  rw [e2] at e
  subst e
  refine a_sub (sub_k (sub_k (sub_k (sub_k (sub_k (sub_k (sub_k (sub_k (sub_k (sub_n)))))))))) ?_
  exact sX7_next_0 hd (Nat.le_refl _) (Nat.le_refl _) (hf)

-- java/lang/Integer.bitCount(I)I
def J6_bitCount_0f7a4_0 (S : AH) (l0 : Int32) : Option (Int32 × AH) :=
  some (((((((((l0 - (((l0.toUInt32 >>> ((1 : Int32).toUInt32 &&& Int32.toUInt32 31)).toInt32) &&& 1431655765)) &&& 858993459) + ((((l0 - (((l0.toUInt32 >>> ((1 : Int32).toUInt32 &&& Int32.toUInt32 31)).toInt32) &&& 1431655765)).toUInt32 >>> ((2 : Int32).toUInt32 &&& Int32.toUInt32 31)).toInt32) &&& 858993459)) + (((((l0 - (((l0.toUInt32 >>> ((1 : Int32).toUInt32 &&& Int32.toUInt32 31)).toInt32) &&& 1431655765)) &&& 858993459) + ((((l0 - (((l0.toUInt32 >>> ((1 : Int32).toUInt32 &&& Int32.toUInt32 31)).toInt32) &&& 1431655765)).toUInt32 >>> ((2 : Int32).toUInt32 &&& Int32.toUInt32 31)).toInt32) &&& 858993459)).toUInt32 >>> ((4 : Int32).toUInt32 &&& Int32.toUInt32 31)).toInt32)) &&& 252645135) + (((((((l0 - (((l0.toUInt32 >>> ((1 : Int32).toUInt32 &&& Int32.toUInt32 31)).toInt32) &&& 1431655765)) &&& 858993459) + ((((l0 - (((l0.toUInt32 >>> ((1 : Int32).toUInt32 &&& Int32.toUInt32 31)).toInt32) &&& 1431655765)).toUInt32 >>> ((2 : Int32).toUInt32 &&& Int32.toUInt32 31)).toInt32) &&& 858993459)) + (((((l0 - (((l0.toUInt32 >>> ((1 : Int32).toUInt32 &&& Int32.toUInt32 31)).toInt32) &&& 1431655765)) &&& 858993459) + ((((l0 - (((l0.toUInt32 >>> ((1 : Int32).toUInt32 &&& Int32.toUInt32 31)).toInt32) &&& 1431655765)).toUInt32 >>> ((2 : Int32).toUInt32 &&& Int32.toUInt32 31)).toInt32) &&& 858993459)).toUInt32 >>> ((4 : Int32).toUInt32 &&& Int32.toUInt32 31)).toInt32)) &&& 252645135).toUInt32 >>> ((8 : Int32).toUInt32 &&& Int32.toUInt32 31)).toInt32)) + ((((((((l0 - (((l0.toUInt32 >>> ((1 : Int32).toUInt32 &&& Int32.toUInt32 31)).toInt32) &&& 1431655765)) &&& 858993459) + ((((l0 - (((l0.toUInt32 >>> ((1 : Int32).toUInt32 &&& Int32.toUInt32 31)).toInt32) &&& 1431655765)).toUInt32 >>> ((2 : Int32).toUInt32 &&& Int32.toUInt32 31)).toInt32) &&& 858993459)) + (((((l0 - (((l0.toUInt32 >>> ((1 : Int32).toUInt32 &&& Int32.toUInt32 31)).toInt32) &&& 1431655765)) &&& 858993459) + ((((l0 - (((l0.toUInt32 >>> ((1 : Int32).toUInt32 &&& Int32.toUInt32 31)).toInt32) &&& 1431655765)).toUInt32 >>> ((2 : Int32).toUInt32 &&& Int32.toUInt32 31)).toInt32) &&& 858993459)).toUInt32 >>> ((4 : Int32).toUInt32 &&& Int32.toUInt32 31)).toInt32)) &&& 252645135) + (((((((l0 - (((l0.toUInt32 >>> ((1 : Int32).toUInt32 &&& Int32.toUInt32 31)).toInt32) &&& 1431655765)) &&& 858993459) + ((((l0 - (((l0.toUInt32 >>> ((1 : Int32).toUInt32 &&& Int32.toUInt32 31)).toInt32) &&& 1431655765)).toUInt32 >>> ((2 : Int32).toUInt32 &&& Int32.toUInt32 31)).toInt32) &&& 858993459)) + (((((l0 - (((l0.toUInt32 >>> ((1 : Int32).toUInt32 &&& Int32.toUInt32 31)).toInt32) &&& 1431655765)) &&& 858993459) + ((((l0 - (((l0.toUInt32 >>> ((1 : Int32).toUInt32 &&& Int32.toUInt32 31)).toInt32) &&& 1431655765)).toUInt32 >>> ((2 : Int32).toUInt32 &&& Int32.toUInt32 31)).toInt32) &&& 858993459)).toUInt32 >>> ((4 : Int32).toUInt32 &&& Int32.toUInt32 31)).toInt32)) &&& 252645135).toUInt32 >>> ((8 : Int32).toUInt32 &&& Int32.toUInt32 31)).toInt32)).toUInt32 >>> ((16 : Int32).toUInt32 &&& Int32.toUInt32 31)).toInt32)) &&& 63), S)
def J6_bitCount_0f7a4 (S : AH) (l0 : Int32) : Option (Int32 × AH) := J6_bitCount_0f7a4_0 S l0
set_option maxHeartbeats 4000000 in
theorem sJ6_bitCount_0f7a4_0 {l : Launch} {g : gE} {d MC MS' k n : Nat} (hd : 0 ≤ d) (hk : k ≤ MC) (hn : n ≤ MS') {r : Int32 × AH} {S : AH} {l0 : Int32} (hf : J6_bitCount_0f7a4_0 S l0 = some r) : AW l g d RJ6 cJ6_bitCount_0f7a4 1 "bitCount" MC MS' (Qr (some (.int r.1)) r.2) k n 0 [some (.int l0)] [] S := by
  unfold J6_bitCount_0f7a4_0 at hf
  refine a_iload_n (pc := 0) dJ6_bitCount_0f7a4_0 rfl ?_
  refine a_iload_n (pc := 1) dJ6_bitCount_0f7a4_1 rfl ?_
  refine a_iconst (pc := 2) 1 dJ6_bitCount_0f7a4_2 rfl ?_
  refine a_iushr (pc := 3) dJ6_bitCount_0f7a4_3 ?_
  refine a_ldcw (pc := 4) 1431655765 dJ6_bitCount_0f7a4_4 kc_J6_265 ?_
  refine a_iand (pc := 7) dJ6_bitCount_0f7a4_7 ?_
  refine a_isub (pc := 8) dJ6_bitCount_0f7a4_8 ?_
  refine a_istore_n (pc := 9) (ls' := [some (.int (l0 - (((l0.toUInt32 >>> ((1 : Int32).toUInt32 &&& Int32.toUInt32 31)).toInt32) &&& 1431655765)))]) dJ6_bitCount_0f7a4_9 (by decide) rfl ?_
  refine a_iload_n (pc := 10) dJ6_bitCount_0f7a4_10 rfl ?_
  refine a_ldcw (pc := 11) 858993459 dJ6_bitCount_0f7a4_11 kc_J6_266 ?_
  refine a_iand (pc := 14) dJ6_bitCount_0f7a4_14 ?_
  refine a_iload_n (pc := 15) dJ6_bitCount_0f7a4_15 rfl ?_
  refine a_iconst (pc := 16) 2 dJ6_bitCount_0f7a4_16 rfl ?_
  refine a_iushr (pc := 17) dJ6_bitCount_0f7a4_17 ?_
  refine a_ldcw (pc := 18) 858993459 dJ6_bitCount_0f7a4_18 kc_J6_266 ?_
  refine a_iand (pc := 21) dJ6_bitCount_0f7a4_21 ?_
  refine a_iadd (pc := 22) dJ6_bitCount_0f7a4_22 ?_
  refine a_istore_n (pc := 23) (ls' := [some (.int (((l0 - (((l0.toUInt32 >>> ((1 : Int32).toUInt32 &&& Int32.toUInt32 31)).toInt32) &&& 1431655765)) &&& 858993459) + ((((l0 - (((l0.toUInt32 >>> ((1 : Int32).toUInt32 &&& Int32.toUInt32 31)).toInt32) &&& 1431655765)).toUInt32 >>> ((2 : Int32).toUInt32 &&& Int32.toUInt32 31)).toInt32) &&& 858993459)))]) dJ6_bitCount_0f7a4_23 (by decide) rfl ?_
  refine a_iload_n (pc := 24) dJ6_bitCount_0f7a4_24 rfl ?_
  refine a_iload_n (pc := 25) dJ6_bitCount_0f7a4_25 rfl ?_
  refine a_iconst (pc := 26) 4 dJ6_bitCount_0f7a4_26 rfl ?_
  refine a_iushr (pc := 27) dJ6_bitCount_0f7a4_27 ?_
  refine a_iadd (pc := 28) dJ6_bitCount_0f7a4_28 ?_
  refine a_ldcw (pc := 29) 252645135 dJ6_bitCount_0f7a4_29 kc_J6_267 ?_
  refine a_iand (pc := 32) dJ6_bitCount_0f7a4_32 ?_
  refine a_istore_n (pc := 33) (ls' := [some (.int (((((l0 - (((l0.toUInt32 >>> ((1 : Int32).toUInt32 &&& Int32.toUInt32 31)).toInt32) &&& 1431655765)) &&& 858993459) + ((((l0 - (((l0.toUInt32 >>> ((1 : Int32).toUInt32 &&& Int32.toUInt32 31)).toInt32) &&& 1431655765)).toUInt32 >>> ((2 : Int32).toUInt32 &&& Int32.toUInt32 31)).toInt32) &&& 858993459)) + (((((l0 - (((l0.toUInt32 >>> ((1 : Int32).toUInt32 &&& Int32.toUInt32 31)).toInt32) &&& 1431655765)) &&& 858993459) + ((((l0 - (((l0.toUInt32 >>> ((1 : Int32).toUInt32 &&& Int32.toUInt32 31)).toInt32) &&& 1431655765)).toUInt32 >>> ((2 : Int32).toUInt32 &&& Int32.toUInt32 31)).toInt32) &&& 858993459)).toUInt32 >>> ((4 : Int32).toUInt32 &&& Int32.toUInt32 31)).toInt32)) &&& 252645135))]) dJ6_bitCount_0f7a4_33 (by decide) rfl ?_
  refine a_iload_n (pc := 34) dJ6_bitCount_0f7a4_34 rfl ?_
  refine a_iload_n (pc := 35) dJ6_bitCount_0f7a4_35 rfl ?_
  refine a_bipush (pc := 36) 8 dJ6_bitCount_0f7a4_36 rfl ?_
  refine a_iushr (pc := 38) dJ6_bitCount_0f7a4_38 ?_
  refine a_iadd (pc := 39) dJ6_bitCount_0f7a4_39 ?_
  refine a_istore_n (pc := 40) (ls' := [some (.int ((((((l0 - (((l0.toUInt32 >>> ((1 : Int32).toUInt32 &&& Int32.toUInt32 31)).toInt32) &&& 1431655765)) &&& 858993459) + ((((l0 - (((l0.toUInt32 >>> ((1 : Int32).toUInt32 &&& Int32.toUInt32 31)).toInt32) &&& 1431655765)).toUInt32 >>> ((2 : Int32).toUInt32 &&& Int32.toUInt32 31)).toInt32) &&& 858993459)) + (((((l0 - (((l0.toUInt32 >>> ((1 : Int32).toUInt32 &&& Int32.toUInt32 31)).toInt32) &&& 1431655765)) &&& 858993459) + ((((l0 - (((l0.toUInt32 >>> ((1 : Int32).toUInt32 &&& Int32.toUInt32 31)).toInt32) &&& 1431655765)).toUInt32 >>> ((2 : Int32).toUInt32 &&& Int32.toUInt32 31)).toInt32) &&& 858993459)).toUInt32 >>> ((4 : Int32).toUInt32 &&& Int32.toUInt32 31)).toInt32)) &&& 252645135) + (((((((l0 - (((l0.toUInt32 >>> ((1 : Int32).toUInt32 &&& Int32.toUInt32 31)).toInt32) &&& 1431655765)) &&& 858993459) + ((((l0 - (((l0.toUInt32 >>> ((1 : Int32).toUInt32 &&& Int32.toUInt32 31)).toInt32) &&& 1431655765)).toUInt32 >>> ((2 : Int32).toUInt32 &&& Int32.toUInt32 31)).toInt32) &&& 858993459)) + (((((l0 - (((l0.toUInt32 >>> ((1 : Int32).toUInt32 &&& Int32.toUInt32 31)).toInt32) &&& 1431655765)) &&& 858993459) + ((((l0 - (((l0.toUInt32 >>> ((1 : Int32).toUInt32 &&& Int32.toUInt32 31)).toInt32) &&& 1431655765)).toUInt32 >>> ((2 : Int32).toUInt32 &&& Int32.toUInt32 31)).toInt32) &&& 858993459)).toUInt32 >>> ((4 : Int32).toUInt32 &&& Int32.toUInt32 31)).toInt32)) &&& 252645135).toUInt32 >>> ((8 : Int32).toUInt32 &&& Int32.toUInt32 31)).toInt32)))]) dJ6_bitCount_0f7a4_40 (by decide) rfl ?_
  refine a_iload_n (pc := 41) dJ6_bitCount_0f7a4_41 rfl ?_
  refine a_iload_n (pc := 42) dJ6_bitCount_0f7a4_42 rfl ?_
  refine a_bipush (pc := 43) 16 dJ6_bitCount_0f7a4_43 rfl ?_
  refine a_iushr (pc := 45) dJ6_bitCount_0f7a4_45 ?_
  refine a_iadd (pc := 46) dJ6_bitCount_0f7a4_46 ?_
  refine a_istore_n (pc := 47) (ls' := [some (.int (((((((l0 - (((l0.toUInt32 >>> ((1 : Int32).toUInt32 &&& Int32.toUInt32 31)).toInt32) &&& 1431655765)) &&& 858993459) + ((((l0 - (((l0.toUInt32 >>> ((1 : Int32).toUInt32 &&& Int32.toUInt32 31)).toInt32) &&& 1431655765)).toUInt32 >>> ((2 : Int32).toUInt32 &&& Int32.toUInt32 31)).toInt32) &&& 858993459)) + (((((l0 - (((l0.toUInt32 >>> ((1 : Int32).toUInt32 &&& Int32.toUInt32 31)).toInt32) &&& 1431655765)) &&& 858993459) + ((((l0 - (((l0.toUInt32 >>> ((1 : Int32).toUInt32 &&& Int32.toUInt32 31)).toInt32) &&& 1431655765)).toUInt32 >>> ((2 : Int32).toUInt32 &&& Int32.toUInt32 31)).toInt32) &&& 858993459)).toUInt32 >>> ((4 : Int32).toUInt32 &&& Int32.toUInt32 31)).toInt32)) &&& 252645135) + (((((((l0 - (((l0.toUInt32 >>> ((1 : Int32).toUInt32 &&& Int32.toUInt32 31)).toInt32) &&& 1431655765)) &&& 858993459) + ((((l0 - (((l0.toUInt32 >>> ((1 : Int32).toUInt32 &&& Int32.toUInt32 31)).toInt32) &&& 1431655765)).toUInt32 >>> ((2 : Int32).toUInt32 &&& Int32.toUInt32 31)).toInt32) &&& 858993459)) + (((((l0 - (((l0.toUInt32 >>> ((1 : Int32).toUInt32 &&& Int32.toUInt32 31)).toInt32) &&& 1431655765)) &&& 858993459) + ((((l0 - (((l0.toUInt32 >>> ((1 : Int32).toUInt32 &&& Int32.toUInt32 31)).toInt32) &&& 1431655765)).toUInt32 >>> ((2 : Int32).toUInt32 &&& Int32.toUInt32 31)).toInt32) &&& 858993459)).toUInt32 >>> ((4 : Int32).toUInt32 &&& Int32.toUInt32 31)).toInt32)) &&& 252645135).toUInt32 >>> ((8 : Int32).toUInt32 &&& Int32.toUInt32 31)).toInt32)) + ((((((((l0 - (((l0.toUInt32 >>> ((1 : Int32).toUInt32 &&& Int32.toUInt32 31)).toInt32) &&& 1431655765)) &&& 858993459) + ((((l0 - (((l0.toUInt32 >>> ((1 : Int32).toUInt32 &&& Int32.toUInt32 31)).toInt32) &&& 1431655765)).toUInt32 >>> ((2 : Int32).toUInt32 &&& Int32.toUInt32 31)).toInt32) &&& 858993459)) + (((((l0 - (((l0.toUInt32 >>> ((1 : Int32).toUInt32 &&& Int32.toUInt32 31)).toInt32) &&& 1431655765)) &&& 858993459) + ((((l0 - (((l0.toUInt32 >>> ((1 : Int32).toUInt32 &&& Int32.toUInt32 31)).toInt32) &&& 1431655765)).toUInt32 >>> ((2 : Int32).toUInt32 &&& Int32.toUInt32 31)).toInt32) &&& 858993459)).toUInt32 >>> ((4 : Int32).toUInt32 &&& Int32.toUInt32 31)).toInt32)) &&& 252645135) + (((((((l0 - (((l0.toUInt32 >>> ((1 : Int32).toUInt32 &&& Int32.toUInt32 31)).toInt32) &&& 1431655765)) &&& 858993459) + ((((l0 - (((l0.toUInt32 >>> ((1 : Int32).toUInt32 &&& Int32.toUInt32 31)).toInt32) &&& 1431655765)).toUInt32 >>> ((2 : Int32).toUInt32 &&& Int32.toUInt32 31)).toInt32) &&& 858993459)) + (((((l0 - (((l0.toUInt32 >>> ((1 : Int32).toUInt32 &&& Int32.toUInt32 31)).toInt32) &&& 1431655765)) &&& 858993459) + ((((l0 - (((l0.toUInt32 >>> ((1 : Int32).toUInt32 &&& Int32.toUInt32 31)).toInt32) &&& 1431655765)).toUInt32 >>> ((2 : Int32).toUInt32 &&& Int32.toUInt32 31)).toInt32) &&& 858993459)).toUInt32 >>> ((4 : Int32).toUInt32 &&& Int32.toUInt32 31)).toInt32)) &&& 252645135).toUInt32 >>> ((8 : Int32).toUInt32 &&& Int32.toUInt32 31)).toInt32)).toUInt32 >>> ((16 : Int32).toUInt32 &&& Int32.toUInt32 31)).toInt32)))]) dJ6_bitCount_0f7a4_47 (by decide) rfl ?_
  refine a_iload_n (pc := 48) dJ6_bitCount_0f7a4_48 rfl ?_
  refine a_bipush (pc := 49) 63 dJ6_bitCount_0f7a4_49 rfl ?_
  refine a_iand (pc := 51) dJ6_bitCount_0f7a4_51 ?_
  have hf := Option.some.inj hf
  subst hf
  exact a_ireturn (pc := 52) dJ6_bitCount_0f7a4_52 hk hn ⟨rfl, rfl⟩
set_option maxHeartbeats 4000000 in
theorem mJ6_bitCount_0f7a4 {l : Launch} {g : gE} {d : Nat} (hd : 0 ≤ d) {r : Int32 × AH} {S : AH} {l0 : Int32} (hf : J6_bitCount_0f7a4 S l0 = some r) : AM l g d yJ6_bitCount_0f7a4 cJ6_bitCount_0f7a4 1 (some .int) 0 0 [.int l0] S (Qr (some (.int r.1)) r.2) := by
  refine AM.of rfl (by exact Nat.le_of_ble_eq_true rfl) (fun v h' q => by obtain ⟨rfl, -⟩ := q; exact ⟨_, rfl, rfl⟩) (fun ls e => ?_)
  have e2 : aBeg [.int l0] 1 = [some (.int l0)] := rfl
  rw [e2] at e
  subst e
  refine a_sub (sub_k (sub_n)) ?_
  exact sJ6_bitCount_0f7a4_0 hd (Nat.le_refl _) (Nat.le_refl _) (hf)

-- PencilStrikes.least(III)I
def X7_least_31 (S : AH) (a0 : Nat) : Option (Int32 × AH) :=
  some ((-1), S)
def X7_least_107 (rec40 : AH → Nat → Int32 → Option Nat → Option Nat → Int32 → Int32 → Option (Int32 × AH)) (S : AH) (a0 : Nat) (l1 : Int32) (l4 : Option Nat) (l5 : Option Nat) (l6 : Int32) (l7 : Int32) : Option (Int32 × AH) :=
  rec40 S a0 l1 l4 l5 l6 (l7 + 1)
def X7_least_82 (rec40 : AH → Nat → Int32 → Option Nat → Option Nat → Int32 → Int32 → Option (Int32 × AH)) (S : AH) (a0 : Nat) (s0 : Int32) (l1 : Int32) (l4 : Option Nat) (l5 : Option Nat) (l6 : Int32) (l7 : Int32) (l8 : Int32) : Option (Int32 × AH) :=
  if s0 = 0 then
    X7_least_107 rec40 S a0 l1 l4 l5 l6 l7
  else
    (cO S a0 7 (X7_isGood S a0 l1 l4 l5 l8)).bind fun r1 =>
    if r1.1 = 0 then
      X7_least_107 rec40 r1.2 a0 l1 l4 l5 l6 l7
    else
      X7_least_107 rec40 r1.2 a0 l1 l4 l5 l8 l7
def X7_least_77 (rec40 : AH → Nat → Int32 → Option Nat → Option Nat → Int32 → Int32 → Option (Int32 × AH)) (S : AH) (a0 : Nat) (l1 : Int32) (l4 : Option Nat) (l5 : Option Nat) (l6 : Int32) (l7 : Int32) (l8 : Int32) : Option (Int32 × AH) :=
  X7_least_82 rec40 S a0 1 l1 l4 l5 l6 l7 l8
def X7_least_40 : Nat → AH → Nat → Int32 → Option Nat → Option Nat → Int32 → Int32 → Option (Int32 × AH)
  | 0, _, _, _, _, _, _, _ => none
  | fn + 1, S, a0, l1, l4, l5, l6, l7 =>
    (l4).bind fun a1 =>
    (cO S a1 1 (X1_readings S a1)).bind fun r2 =>
    if r2.1 ≤ l7 then
      some (l6, r2.2)
    else
      (cO r2.2 a1 1 (X1_readingAt r2.2 a1 l7)).bind fun r3 =>
      if l6 < 0 then
        X7_least_77 (X7_least_40 fn) r3.2 a0 l1 (some a1) l5 l6 l7 r3.1
      else
        (J6_bitCount_0f7a4 r3.2 r3.1).bind fun r4 =>
        (J6_bitCount_0f7a4 r4.2 l6).bind fun r5 =>
        if r5.1 ≤ r4.1 then
          X7_least_82 (X7_least_40 fn) r5.2 a0 0 l1 (some a1) l5 l6 l7 r3.1
        else
          X7_least_77 (X7_least_40 fn) r5.2 a0 l1 (some a1) l5 l6 l7 r3.1
def X7_least_0 (S : AH) (a0 : Nat) (l1 : Int32) (l2 : Int32) (l3 : Int32) : Option (Int32 × AH) :=
  (cO S a0 7 (X7_bargainOf S a0 l2)).bind fun r1 => prp r1 fun zq2 zq2S =>
  (cO zq2S a0 7 (X7_lawOf zq2S a0 l3)).bind fun r3 => prp r3 fun zq4 zq4S =>
  (X7_isKind zq4S l1).bind fun r5 =>
  if r5.1 = 0 then
    X7_least_31 r5.2 a0
  else
    ifn zq2 (
      X7_least_31 r5.2 a0) fun a6 =>
    ifn zq4 (
      X7_least_31 r5.2 a0) fun a7 =>
    X7_least_40 FU r5.2 a0 l1 (some a6) (some a7) (-5) 0
def X7_least (S : AH) (a0 : Nat) (l1 : Int32) (l2 : Int32) (l3 : Int32) : Option (Int32 × AH) := X7_least_0 S a0 l1 l2 l3
set_option maxHeartbeats 4000000 in
theorem sX7_least_31 {l : Launch} {g : gE} {d MC MS' k n : Nat} {a0 : Nat} (hd : 6 ≤ d) (hk : k ≤ MC) (hn : n ≤ MS') {r : Int32 × AH} {S : AH} (hf : X7_least_31 S a0 = some r) : AW l g d RX7 cX7_least 10 "least" MC MS' (Qr (some (.int r.1)) r.2) k n 31 [none, none, none, none, none, none, none, none, none, none] [] S := by
  unfold X7_least_31 at hf
  refine a_iconst (pc := 31) (-1) dX7_least_31 rfl ?_
  have hf := Option.some.inj hf
  subst hf
  exact a_ireturn (pc := 32) dX7_least_32 hk hn ⟨rfl, rfl⟩
set_option maxHeartbeats 4000000 in
theorem sX7_least_107 {l : Launch} {g : gE} {d MC MS' k n : Nat} {a0 : Nat} (hd : 6 ≤ d) (hk : k ≤ MC) (hn : n ≤ MS') {r : Int32 × AH} {rec40 : AH → Nat → Int32 → Option Nat → Option Nat → Int32 → Int32 → Option (Int32 × AH)} (hlp40 : ∀ (S : AH) (l1 : Int32) (l4 : Option Nat) (l5 : Option Nat) (l6 : Int32) (l7 : Int32), rec40 S a0 l1 l4 l5 l6 l7 = some r → AW l g d RX7 cX7_least 10 "least" MC MS' (Qr (some (.int r.1)) r.2) k n 40 [some (.ref a0), some (.int l1), none, none, some (va_rf l4), some (va_rf l5), some (.int l6), some (.int l7), none, none] [] S) {S : AH} {l1 : Int32} {l4 : Option Nat} {l5 : Option Nat} {l6 : Int32} {l7 : Int32} (hf : X7_least_107 rec40 S a0 l1 l4 l5 l6 l7 = some r) : AW l g d RX7 cX7_least 10 "least" MC MS' (Qr (some (.int r.1)) r.2) k n 107 [some (.ref a0), some (.int l1), none, none, some (va_rf l4), some (va_rf l5), some (.int l6), some (.int l7), none, none] [] S := by
  unfold X7_least_107 at hf
  refine a_iinc (pc := 107) (ls' := [some (.ref a0), some (.int l1), none, none, some (va_rf l4), some (va_rf l5), some (.int l6), some (.int (l7 + 1)), none, none]) (l7 + 1) dX7_least_107 rfl rfl (by decide) rfl ?_
  refine a_goto (pc := 110) 40 dX7_least_110 (by decide) ?_
  exact hlp40 S l1 l4 l5 l6 (l7 + 1) hf
set_option maxHeartbeats 4000000 in
theorem sX7_least_82 {l : Launch} {g : gE} {d MC MS' k n : Nat} {a0 : Nat} (hd : 6 ≤ d) (hk : k ≤ MC) (hn : n ≤ MS') {r : Int32 × AH} {rec40 : AH → Nat → Int32 → Option Nat → Option Nat → Int32 → Int32 → Option (Int32 × AH)} (hlp40 : ∀ (S : AH) (l1 : Int32) (l4 : Option Nat) (l5 : Option Nat) (l6 : Int32) (l7 : Int32), rec40 S a0 l1 l4 l5 l6 l7 = some r → AW l g d RX7 cX7_least 10 "least" MC MS' (Qr (some (.int r.1)) r.2) k n 40 [some (.ref a0), some (.int l1), none, none, some (va_rf l4), some (va_rf l5), some (.int l6), some (.int l7), none, none] [] S) {S : AH} {s0 : Int32} {l1 : Int32} {l4 : Option Nat} {l5 : Option Nat} {l6 : Int32} {l7 : Int32} {l8 : Int32} (hf : X7_least_82 rec40 S a0 s0 l1 l4 l5 l6 l7 l8 = some r) : AW l g d RX7 cX7_least 10 "least" MC MS' (Qr (some (.int r.1)) r.2) k n 82 [some (.ref a0), some (.int l1), none, none, some (va_rf l4), some (va_rf l5), some (.int l6), some (.int l7), some (.int l8), none] [.int s0] S := by
  unfold X7_least_82 at hf
  refine a_istore (pc := 82) (ls' := [some (.ref a0), some (.int l1), none, none, some (va_rf l4), some (va_rf l5), some (.int l6), some (.int l7), some (.int l8), some (.int s0)]) dX7_least_82 (by decide) rfl ?_
  refine a_iload (pc := 84) dX7_least_84 rfl ?_
  refine a_if_eq (pc := 86) 107 dX7_least_86 (by decide) (fun c3 => ?_) (fun c3 => ?_)
  · have hf := (if_pos c3).symm.trans hf
    refine a_sub (sub_k (sub_k (sub_k (sub_k (sub_k (sub_k (sub_k (sub_k (sub_d (sub_d sub_n)))))))))) ?_
    exact sX7_least_107 hd hk hn hlp40 hf
  · have hf := (if_neg c3).symm.trans hf
    refine a_aload_n (pc := 89) dX7_least_89 rfl (isRv_r _) ?_
    refine a_iload_n (pc := 90) dX7_least_90 rfl ?_
    refine a_aload (pc := 91) dX7_least_91 rfl (isRv_rf _) ?_
    refine a_aload (pc := 93) dX7_least_93 rfl (isRv_rf _) ?_
    refine a_iload (pc := 95) dX7_least_95 rfl ?_
    obtain ⟨r1, hr1, hf⟩ := Option.bind_eq_some_iff.mp hf
    obtain ⟨hor1, hr1⟩ := cO_of hr1
    refine g_call (pc := 97) (mc := 0) (ms := 0) (.int r1.1) [.int l1, va_rf l4, va_rf l5, .int l8] [] dX7_least_97 ml_X7_142 mv_X7_isGood hor1 (by decide) rfl rfl (by omega) (mX7_isGood (by omega) hr1) rfl (Nat.le_of_ble_eq_true rfl) hk hn ?_
    refine a_if_eq (pc := 100) 107 dX7_least_100 (by decide) (fun c2 => ?_) (fun c2 => ?_)
    · have hf := (if_pos c2).symm.trans hf
      refine a_sub (sub_k (sub_k (sub_k (sub_k (sub_k (sub_k (sub_k (sub_k (sub_d (sub_d sub_n)))))))))) ?_
      exact sX7_least_107 hd hk hn hlp40 hf
    · have hf := (if_neg c2).symm.trans hf
      refine a_iload (pc := 103) dX7_least_103 rfl ?_
      refine a_istore (pc := 105) (ls' := [some (.ref a0), some (.int l1), none, none, some (va_rf l4), some (va_rf l5), some (.int l8), some (.int l7), some (.int l8), some (.int s0)]) dX7_least_105 (by decide) (aSet_ref rfl (va_rf_cat _) rfl) ?_
      refine a_sub (sub_k (sub_k (sub_k (sub_k (sub_k (sub_k (sub_k (sub_k (sub_d (sub_d sub_n)))))))))) ?_
      exact sX7_least_107 hd hk hn hlp40 hf
set_option maxHeartbeats 4000000 in
theorem sX7_least_77 {l : Launch} {g : gE} {d MC MS' k n : Nat} {a0 : Nat} (hd : 6 ≤ d) (hk : k ≤ MC) (hn : n ≤ MS') {r : Int32 × AH} {rec40 : AH → Nat → Int32 → Option Nat → Option Nat → Int32 → Int32 → Option (Int32 × AH)} (hlp40 : ∀ (S : AH) (l1 : Int32) (l4 : Option Nat) (l5 : Option Nat) (l6 : Int32) (l7 : Int32), rec40 S a0 l1 l4 l5 l6 l7 = some r → AW l g d RX7 cX7_least 10 "least" MC MS' (Qr (some (.int r.1)) r.2) k n 40 [some (.ref a0), some (.int l1), none, none, some (va_rf l4), some (va_rf l5), some (.int l6), some (.int l7), none, none] [] S) {S : AH} {l1 : Int32} {l4 : Option Nat} {l5 : Option Nat} {l6 : Int32} {l7 : Int32} {l8 : Int32} (hf : X7_least_77 rec40 S a0 l1 l4 l5 l6 l7 l8 = some r) : AW l g d RX7 cX7_least 10 "least" MC MS' (Qr (some (.int r.1)) r.2) k n 77 [some (.ref a0), some (.int l1), none, none, some (va_rf l4), some (va_rf l5), some (.int l6), some (.int l7), some (.int l8), none] [] S := by
  unfold X7_least_77 at hf
  refine a_iconst (pc := 77) 1 dX7_least_77 rfl ?_
  refine a_goto (pc := 78) 82 dX7_least_78 (by decide) ?_
  exact sX7_least_82 hd hk hn hlp40 hf
set_option maxHeartbeats 4000000 in
theorem sX7_least_40 {l : Launch} {g : gE} {d MC MS' k n : Nat} {a0 : Nat} (hd : 6 ≤ d) (hk : k ≤ MC) (hn : n ≤ MS') {r : Int32 × AH} : ∀ (fn : Nat) (S : AH) (l1 : Int32) (l4 : Option Nat) (l5 : Option Nat) (l6 : Int32) (l7 : Int32), X7_least_40 fn S a0 l1 l4 l5 l6 l7 = some r → AW l g d RX7 cX7_least 10 "least" MC MS' (Qr (some (.int r.1)) r.2) k n 40 [some (.ref a0), some (.int l1), none, none, some (va_rf l4), some (va_rf l5), some (.int l6), some (.int l7), none, none] [] S := by
  intro fn
  induction fn with
  | zero =>
    intro S l1 l4 l5 l6 l7 hf
    rw [X7_least_40] at hf
    cases hf
  | succ fn ih =>
    intro S l1 l4 l5 l6 l7 hf
    rw [X7_least_40] at hf
    refine a_iload (pc := 40) dX7_least_40 rfl ?_
    refine a_aload (pc := 42) dX7_least_42 rfl (isRv_rf _) ?_
    obtain ⟨a1, ha1, hf⟩ := Option.bind_eq_some_iff.mp hf
    rw [ha1]
    obtain ⟨r2, hr2, hf⟩ := Option.bind_eq_some_iff.mp hf
    obtain ⟨hor2, hr2⟩ := cO_of hr2
    refine g_call (pc := 44) (mc := 0) (ms := 0) (.int r2.1) [] [.int l7] dX7_least_44 ml_X7_136 mv_X1_readings hor2 (by decide) rfl rfl (by omega) (mX1_readings (by omega) hr2) rfl (Nat.le_of_ble_eq_true rfl) hk hn ?_
    refine a_icmp_ge (pc := 47) 113 dX7_least_47 (by decide) (fun c8 => ?_) (fun c8 => ?_)
    · have hf := (if_pos c8).symm.trans hf
      refine a_iload (pc := 113) dX7_least_113 rfl ?_
      have hf := Option.some.inj hf
      subst hf
      exact a_ireturn (pc := 115) dX7_least_115 hk hn ⟨rfl, rfl⟩
    · have hf := (if_neg c8).symm.trans hf
      refine a_aload (pc := 50) dX7_least_50 rfl (isRv_r _) ?_
      refine a_iload (pc := 52) dX7_least_52 rfl ?_
      obtain ⟨r3, hr3, hf⟩ := Option.bind_eq_some_iff.mp hf
      obtain ⟨hor3, hr3⟩ := cO_of hr3
      refine g_call (pc := 54) (mc := 0) (ms := 0) (.int r3.1) [.int l7] [] dX7_least_54 ml_X7_139 mv_X1_readingAt hor3 (by decide) rfl rfl (by omega) (mX1_readingAt (by omega) hr3) rfl (Nat.le_of_ble_eq_true rfl) hk hn ?_
      refine a_istore (pc := 57) (ls' := [some (.ref a0), some (.int l1), none, none, some (.ref a1), some (va_rf l5), some (.int l6), some (.int l7), some (.int (r3.1)), none]) dX7_least_57 (by decide) rfl ?_
      refine a_iload (pc := 59) dX7_least_59 rfl ?_
      refine a_if_lt (pc := 61) 77 dX7_least_61 (by decide) (fun c7 => ?_) (fun c7 => ?_)
      · have hf := (if_pos c7).symm.trans hf
        exact sX7_least_77 hd hk hn ih hf
      · have hf := (if_neg c7).symm.trans hf
        refine a_iload (pc := 64) dX7_least_64 rfl ?_
        obtain ⟨r4, hr4, hf⟩ := Option.bind_eq_some_iff.mp hf
        refine g_calls (pc := 66) (mc := 0) (ms := 0) (.int r4.1) [.int (r3.1)] [] dX7_least_66 ml_X7_146 ms_J6_bitCount_0f7a4 rfl (by omega) (mJ6_bitCount_0f7a4 (by omega) hr4) rfl (Nat.le_of_ble_eq_true rfl) hk hn ?_
        refine a_iload (pc := 69) dX7_least_69 rfl ?_
        obtain ⟨r5, hr5, hf⟩ := Option.bind_eq_some_iff.mp hf
        refine g_calls (pc := 71) (mc := 0) (ms := 0) (.int r5.1) [.int l6] [.int (r4.1)] dX7_least_71 ml_X7_146 ms_J6_bitCount_0f7a4 rfl (by omega) (mJ6_bitCount_0f7a4 (by omega) hr5) rfl (Nat.le_of_ble_eq_true rfl) hk hn ?_
        refine a_icmp_ge (pc := 74) 81 dX7_least_74 (by decide) (fun c6 => ?_) (fun c6 => ?_)
        · have hf := (if_pos c6).symm.trans hf
          refine a_iconst (pc := 81) 0 dX7_least_81 rfl ?_
          exact sX7_least_82 hd hk hn ih hf
        · have hf := (if_neg c6).symm.trans hf
          exact sX7_least_77 hd hk hn ih hf
set_option maxHeartbeats 4000000 in
theorem sX7_least_0 {l : Launch} {g : gE} {d MC MS' k n : Nat} {a0 : Nat} (hd : 6 ≤ d) (hk : k ≤ MC) (hn : n ≤ MS') {r : Int32 × AH} {S : AH} {l1 : Int32} {l2 : Int32} {l3 : Int32} (hf : X7_least_0 S a0 l1 l2 l3 = some r) : AW l g d RX7 cX7_least 10 "least" MC MS' (Qr (some (.int r.1)) r.2) k n 0 [some (.ref a0), some (.int l1), some (.int l2), some (.int l3), none, none, none, none, none, none] [] S := by
  unfold X7_least_0 at hf
  refine a_aload_n (pc := 0) dX7_least_0 rfl (isRv_r _) ?_
  refine a_iload_n (pc := 1) dX7_least_1 rfl ?_
  obtain ⟨r1, hr1, hf⟩ := Option.bind_eq_some_iff.mp hf
  obtain ⟨zq2, zq2S⟩ := r1
  have hf := (prp_of _ _ _).symm.trans hf
  obtain ⟨hor1, hr1⟩ := cO_of hr1
  refine g_call (pc := 2) (mc := 0) (ms := 0) (va_rf zq2) [.int l2] [] dX7_least_2 ml_X7_91 mv_X7_bargainOf hor1 (by decide) rfl rfl (by omega) (mX7_bargainOf (by omega) hr1) rfl (Nat.le_of_ble_eq_true rfl) hk hn ?_
  refine a_astore (pc := 5) (ls' := [some (.ref a0), some (.int l1), some (.int l2), some (.int l3), some (va_rf zq2), none, none, none, none, none]) dX7_least_5 (by decide) (isRv_rf _) rfl ?_
  refine a_aload_n (pc := 7) dX7_least_7 rfl (isRv_r _) ?_
  refine a_iload_n (pc := 8) dX7_least_8 rfl ?_
  obtain ⟨r3, hr3, hf⟩ := Option.bind_eq_some_iff.mp hf
  obtain ⟨zq4, zq4S⟩ := r3
  have hf := (prp_of _ _ _).symm.trans hf
  obtain ⟨hor3, hr3⟩ := cO_of hr3
  refine g_call (pc := 9) (mc := 0) (ms := 0) (va_rf zq4) [.int l3] [] dX7_least_9 ml_X7_117 mv_X7_lawOf hor3 (by decide) rfl rfl (by omega) (mX7_lawOf (by omega) hr3) rfl (Nat.le_of_ble_eq_true rfl) hk hn ?_
  refine a_astore (pc := 12) (ls' := [some (.ref a0), some (.int l1), some (.int l2), some (.int l3), some (va_rf zq2), some (va_rf zq4), none, none, none, none]) dX7_least_12 (by decide) (isRv_rf _) (aSet_ref rfl (va_rf_cat _) rfl) ?_
  refine a_iload_n (pc := 14) dX7_least_14 rfl ?_
  obtain ⟨r5, hr5, hf⟩ := Option.bind_eq_some_iff.mp hf
  refine g_calls (pc := 15) (mc := 0) (ms := 0) (.int r5.1) [.int l1] [] dX7_least_15 ml_X7_129 ms_X7_isKind rfl (by omega) (mX7_isKind (by omega) hr5) rfl (Nat.le_of_ble_eq_true rfl) hk hn ?_
  refine a_if_eq (pc := 18) 31 dX7_least_18 (by decide) (fun c8 => ?_) (fun c8 => ?_)
  · have hf := (if_pos c8).symm.trans hf
    refine a_sub (sub_d (sub_d (sub_d (sub_d (sub_d (sub_d (sub_k (sub_k (sub_k (sub_k sub_n)))))))))) ?_
    exact sX7_least_31 hd hk hn hf
  · have hf := (if_neg c8).symm.trans hf
    refine a_aload (pc := 21) dX7_least_21 rfl (isRv_rf _) ?_
    cases zq2 with
    | none =>
      have hf := (ifn_none _ _).symm.trans hf
      refine a_ifnullN (pc := 23) 31 dX7_least_23 (by decide) ?_
      refine a_sub (sub_d (sub_d (sub_d (sub_d (sub_d (sub_d (sub_k (sub_k (sub_k (sub_k sub_n)))))))))) ?_
      exact sX7_least_31 hd hk hn hf
    | some a6 =>
      have hf := (ifn_some _ _ _).symm.trans hf
      refine a_ifnull (pc := 23) dX7_least_23 ?_
      refine a_aload (pc := 26) dX7_least_26 rfl (isRv_rf _) ?_
      cases zq4 with
      | none =>
        have hf := (ifn_none _ _).symm.trans hf
        refine a_ifnonnullN (pc := 28) dX7_least_28 ?_
        refine a_sub (sub_d (sub_d (sub_d (sub_d (sub_d (sub_d (sub_k (sub_k (sub_k (sub_k sub_n)))))))))) ?_
        exact sX7_least_31 hd hk hn hf
      | some a7 =>
        have hf := (ifn_some _ _ _).symm.trans hf
        refine a_ifnonnull (pc := 28) 33 dX7_least_28 (by decide) ?_
        refine a_bipush (pc := 33) (-5) dX7_least_33 rfl ?_
        refine a_istore (pc := 35) (ls' := [some (.ref a0), some (.int l1), some (.int l2), some (.int l3), some (.ref a6), some (.ref a7), some (.int (-5)), none, none, none]) dX7_least_35 (by decide) rfl ?_
        refine a_iconst (pc := 37) 0 dX7_least_37 rfl ?_
        refine a_istore (pc := 38) (ls' := [some (.ref a0), some (.int l1), some (.int l2), some (.int l3), some (.ref a6), some (.ref a7), some (.int (-5)), some (.int 0), none, none]) dX7_least_38 (by decide) rfl ?_
        refine a_sub (sub_k (sub_k (sub_d (sub_d (sub_k (sub_k (sub_k (sub_k (sub_k (sub_k sub_n)))))))))) ?_
        exact sX7_least_40 hd hk hn FU r5.2 l1 (some a6) (some a7) (-5) 0 hf
set_option maxHeartbeats 4000000 in
theorem mX7_least {l : Launch} {g : gE} {d : Nat} {a0 : Nat} (hd : 6 ≤ d) {r : Int32 × AH} {S : AH} {l1 : Int32} {l2 : Int32} {l3 : Int32} (hf : X7_least S a0 l1 l2 l3 = some r) : AM l g d yX7_least cX7_least 10 (some .int) 0 0 [.ref a0, .int l1, .int l2, .int l3] S (Qr (some (.int r.1)) r.2) := by
  refine AM.of rfl (by exact Nat.le_of_ble_eq_true rfl) (fun v h' q => by obtain ⟨rfl, -⟩ := q; exact ⟨_, rfl, rfl⟩) (fun ls e => ?_)
  have e2 : aBeg [.ref a0, .int l1, .int l2, .int l3] 10 = [some (.ref a0), some (.int l1), some (.int l2), some (.int l3), none, none, none, none, none, none] := rfl
  rw [e2] at e
  subst e
  refine a_sub (sub_k (sub_k (sub_k (sub_k (sub_k (sub_k (sub_k (sub_k (sub_k (sub_k (sub_n))))))))))) ?_
  exact sX7_least_0 hd (Nat.le_refl _) (Nat.le_refl _) (hf)

-- PencilStrikes$Bargain.sets()I
def X1_sets_0 (S : AH) (a0 : Nat) : Option (Int32 × AH) :=
  (gQ S a0 1 1).bind fun x1 =>
  (aN S x1).bind fun x2 =>
  some (x2, S)
def X1_sets (S : AH) (a0 : Nat) : Option (Int32 × AH) := X1_sets_0 S a0
set_option maxHeartbeats 4000000 in
theorem sX1_sets_0 {l : Launch} {g : gE} {d MC MS' k n : Nat} {a0 : Nat} (hd : 0 ≤ d) (hk : k ≤ MC) (hn : n ≤ MS') {r : Int32 × AH} {S : AH} (hf : X1_sets_0 S a0 = some r) : AW l g d RX1 cX1_sets 1 "sets" MC MS' (Qr (some (.int r.1)) r.2) k n 0 [some (.ref a0)] [] S := by
  unfold X1_sets_0 at hf
  refine a_aload_n (pc := 0) dX1_sets_0 rfl (isRv_r _) ?_
  obtain ⟨x1, hx1, hf⟩ := Option.bind_eq_some_iff.mp hf
  refine g_getQ (pc := 1) dX1_sets_1 fl_X1_30 hx1 ?_
  obtain ⟨x2, hx2, hf⟩ := Option.bind_eq_some_iff.mp hf
  refine g_alen (pc := 4) dX1_sets_4 hx2 ?_
  have hf := Option.some.inj hf
  subst hf
  exact a_ireturn (pc := 5) dX1_sets_5 hk hn ⟨rfl, rfl⟩
set_option maxHeartbeats 4000000 in
theorem mX1_sets {l : Launch} {g : gE} {d : Nat} {a0 : Nat} (hd : 0 ≤ d) {r : Int32 × AH} {S : AH} (hf : X1_sets S a0 = some r) : AM l g d yX1_sets cX1_sets 1 (some .int) 0 0 [.ref a0] S (Qr (some (.int r.1)) r.2) := by
  refine AM.of rfl (by exact Nat.le_of_ble_eq_true rfl) (fun v h' q => by obtain ⟨rfl, -⟩ := q; exact ⟨_, rfl, rfl⟩) (fun ls e => ?_)
  have e2 : aBeg [.ref a0] 1 = [some (.ref a0)] := rfl
  rw [e2] at e
  subst e
  refine a_sub (sub_k (sub_n)) ?_
  exact sX1_sets_0 hd (Nat.le_refl _) (Nat.le_refl _) (hf)

-- PencilStrikes.inAll(III)I
def X7_inAll_31 (S : AH) (a0 : Nat) : Option (Int32 × AH) :=
  some ((-1), S)
def X7_inAll_86 (rec45 : AH → Nat → Int32 → Option Nat → Option Nat → Int32 → Int32 → Option (Int32 × AH)) (S : AH) (a0 : Nat) (l1 : Int32) (l4 : Option Nat) (l5 : Option Nat) (l6 : Int32) (l7 : Int32) : Option (Int32 × AH) :=
  rec45 S a0 l1 l4 l5 l6 (l7 + 1)
def X7_inAll_45 : Nat → AH → Nat → Int32 → Option Nat → Option Nat → Int32 → Int32 → Option (Int32 × AH)
  | 0, _, _, _, _, _, _, _ => none
  | fn + 1, S, a0, l1, l4, l5, l6, l7 =>
    (l4).bind fun a1 =>
    (cO S a1 1 (X1_readings S a1)).bind fun r2 =>
    if r2.1 ≤ l7 then
      some (l6, r2.2)
    else
      (cO r2.2 a1 1 (X1_readingAt r2.2 a1 l7)).bind fun r3 =>
      (cO r3.2 a0 7 (X7_isGood r3.2 a0 l1 (some a1) l5 r3.1)).bind fun r4 =>
      if r4.1 = 0 then
        X7_inAll_86 (X7_inAll_45 fn) r4.2 a0 l1 (some a1) l5 l6 l7
      else
        (cO r4.2 a1 1 (X1_readingAt r4.2 a1 l7)).bind fun r5 =>
        X7_inAll_86 (X7_inAll_45 fn) r5.2 a0 l1 (some a1) l5 (l6 &&& r5.1) l7
def X7_inAll_0 (S : AH) (a0 : Nat) (l1 : Int32) (l2 : Int32) (l3 : Int32) : Option (Int32 × AH) :=
  (cO S a0 7 (X7_bargainOf S a0 l2)).bind fun r1 => prp r1 fun zq2 zq2S =>
  (cO zq2S a0 7 (X7_lawOf zq2S a0 l3)).bind fun r3 => prp r3 fun zq4 zq4S =>
  (X7_isKind zq4S l1).bind fun r5 =>
  if r5.1 = 0 then
    X7_inAll_31 r5.2 a0
  else
    ifn zq2 (
      X7_inAll_31 r5.2 a0) fun a6 =>
    ifn zq4 (
      X7_inAll_31 r5.2 a0) fun a7 =>
    (cO r5.2 a6 1 (X1_sets r5.2 a6)).bind fun r8 =>
    X7_inAll_45 FU r8.2 a0 l1 (some a6) (some a7) (r8.1 - 1) 0
def X7_inAll (S : AH) (a0 : Nat) (l1 : Int32) (l2 : Int32) (l3 : Int32) : Option (Int32 × AH) := X7_inAll_0 S a0 l1 l2 l3
set_option maxHeartbeats 4000000 in
theorem sX7_inAll_31 {l : Launch} {g : gE} {d MC MS' k n : Nat} {a0 : Nat} (hd : 6 ≤ d) (hk : k ≤ MC) (hn : n ≤ MS') {r : Int32 × AH} {S : AH} (hf : X7_inAll_31 S a0 = some r) : AW l g d RX7 cX7_inAll 8 "inAll" MC MS' (Qr (some (.int r.1)) r.2) k n 31 [none, none, none, none, none, none, none, none] [] S := by
  unfold X7_inAll_31 at hf
  refine a_iconst (pc := 31) (-1) dX7_inAll_31 rfl ?_
  have hf := Option.some.inj hf
  subst hf
  exact a_ireturn (pc := 32) dX7_inAll_32 hk hn ⟨rfl, rfl⟩
set_option maxHeartbeats 4000000 in
theorem sX7_inAll_86 {l : Launch} {g : gE} {d MC MS' k n : Nat} {a0 : Nat} (hd : 6 ≤ d) (hk : k ≤ MC) (hn : n ≤ MS') {r : Int32 × AH} {rec45 : AH → Nat → Int32 → Option Nat → Option Nat → Int32 → Int32 → Option (Int32 × AH)} (hlp45 : ∀ (S : AH) (l1 : Int32) (l4 : Option Nat) (l5 : Option Nat) (l6 : Int32) (l7 : Int32), rec45 S a0 l1 l4 l5 l6 l7 = some r → AW l g d RX7 cX7_inAll 8 "inAll" MC MS' (Qr (some (.int r.1)) r.2) k n 45 [some (.ref a0), some (.int l1), none, none, some (va_rf l4), some (va_rf l5), some (.int l6), some (.int l7)] [] S) {S : AH} {l1 : Int32} {l4 : Option Nat} {l5 : Option Nat} {l6 : Int32} {l7 : Int32} (hf : X7_inAll_86 rec45 S a0 l1 l4 l5 l6 l7 = some r) : AW l g d RX7 cX7_inAll 8 "inAll" MC MS' (Qr (some (.int r.1)) r.2) k n 86 [some (.ref a0), some (.int l1), none, none, some (va_rf l4), some (va_rf l5), some (.int l6), some (.int l7)] [] S := by
  unfold X7_inAll_86 at hf
  refine a_iinc (pc := 86) (ls' := [some (.ref a0), some (.int l1), none, none, some (va_rf l4), some (va_rf l5), some (.int l6), some (.int (l7 + 1))]) (l7 + 1) dX7_inAll_86 rfl rfl (by decide) rfl ?_
  refine a_goto (pc := 89) 45 dX7_inAll_89 (by decide) ?_
  exact hlp45 S l1 l4 l5 l6 (l7 + 1) hf
set_option maxHeartbeats 4000000 in
theorem sX7_inAll_45 {l : Launch} {g : gE} {d MC MS' k n : Nat} {a0 : Nat} (hd : 6 ≤ d) (hk : k ≤ MC) (hn : n ≤ MS') {r : Int32 × AH} : ∀ (fn : Nat) (S : AH) (l1 : Int32) (l4 : Option Nat) (l5 : Option Nat) (l6 : Int32) (l7 : Int32), X7_inAll_45 fn S a0 l1 l4 l5 l6 l7 = some r → AW l g d RX7 cX7_inAll 8 "inAll" MC MS' (Qr (some (.int r.1)) r.2) k n 45 [some (.ref a0), some (.int l1), none, none, some (va_rf l4), some (va_rf l5), some (.int l6), some (.int l7)] [] S := by
  intro fn
  induction fn with
  | zero =>
    intro S l1 l4 l5 l6 l7 hf
    rw [X7_inAll_45] at hf
    cases hf
  | succ fn ih =>
    intro S l1 l4 l5 l6 l7 hf
    rw [X7_inAll_45] at hf
    refine a_iload (pc := 45) dX7_inAll_45 rfl ?_
    refine a_aload (pc := 47) dX7_inAll_47 rfl (isRv_rf _) ?_
    obtain ⟨a1, ha1, hf⟩ := Option.bind_eq_some_iff.mp hf
    rw [ha1]
    obtain ⟨r2, hr2, hf⟩ := Option.bind_eq_some_iff.mp hf
    obtain ⟨hor2, hr2⟩ := cO_of hr2
    refine g_call (pc := 49) (mc := 0) (ms := 0) (.int r2.1) [] [.int l7] dX7_inAll_49 ml_X7_136 mv_X1_readings hor2 (by decide) rfl rfl (by omega) (mX1_readings (by omega) hr2) rfl (Nat.le_of_ble_eq_true rfl) hk hn ?_
    refine a_icmp_ge (pc := 52) 92 dX7_inAll_52 (by decide) (fun c7 => ?_) (fun c7 => ?_)
    · have hf := (if_pos c7).symm.trans hf
      refine a_iload (pc := 92) dX7_inAll_92 rfl ?_
      have hf := Option.some.inj hf
      subst hf
      exact a_ireturn (pc := 94) dX7_inAll_94 hk hn ⟨rfl, rfl⟩
    · have hf := (if_neg c7).symm.trans hf
      refine a_aload_n (pc := 55) dX7_inAll_55 rfl (isRv_r _) ?_
      refine a_iload_n (pc := 56) dX7_inAll_56 rfl ?_
      refine a_aload (pc := 57) dX7_inAll_57 rfl (isRv_r _) ?_
      refine a_aload (pc := 59) dX7_inAll_59 rfl (isRv_rf _) ?_
      refine a_aload (pc := 61) dX7_inAll_61 rfl (isRv_r _) ?_
      refine a_iload (pc := 63) dX7_inAll_63 rfl ?_
      obtain ⟨r3, hr3, hf⟩ := Option.bind_eq_some_iff.mp hf
      obtain ⟨hor3, hr3⟩ := cO_of hr3
      refine g_call (pc := 65) (mc := 0) (ms := 0) (.int r3.1) [.int l7] [va_rf l5, .ref a1, .int l1, .ref a0] dX7_inAll_65 ml_X7_139 mv_X1_readingAt hor3 (by decide) rfl rfl (by omega) (mX1_readingAt (by omega) hr3) rfl (by cases l5 <;> exact Nat.le_of_ble_eq_true rfl) hk hn ?_
      obtain ⟨r4, hr4, hf⟩ := Option.bind_eq_some_iff.mp hf
      obtain ⟨hor4, hr4⟩ := cO_of hr4
      refine g_call (pc := 68) (mc := 0) (ms := 0) (.int r4.1) [.int l1, .ref a1, va_rf l5, .int (r3.1)] [] dX7_inAll_68 ml_X7_142 mv_X7_isGood hor4 (by decide) rfl rfl (by omega) (mX7_isGood (by omega) hr4) rfl (Nat.le_of_ble_eq_true rfl) hk hn ?_
      refine a_if_eq (pc := 71) 86 dX7_inAll_71 (by decide) (fun c6 => ?_) (fun c6 => ?_)
      · have hf := (if_pos c6).symm.trans hf
        exact sX7_inAll_86 hd hk hn ih hf
      · have hf := (if_neg c6).symm.trans hf
        refine a_iload (pc := 74) dX7_inAll_74 rfl ?_
        refine a_aload (pc := 76) dX7_inAll_76 rfl (isRv_r _) ?_
        refine a_iload (pc := 78) dX7_inAll_78 rfl ?_
        obtain ⟨r5, hr5, hf⟩ := Option.bind_eq_some_iff.mp hf
        obtain ⟨hor5, hr5⟩ := cO_of hr5
        refine g_call (pc := 80) (mc := 0) (ms := 0) (.int r5.1) [.int l7] [.int l6] dX7_inAll_80 ml_X7_139 mv_X1_readingAt hor5 (by decide) rfl rfl (by omega) (mX1_readingAt (by omega) hr5) rfl (Nat.le_of_ble_eq_true rfl) hk hn ?_
        refine a_iand (pc := 83) dX7_inAll_83 ?_
        refine a_istore (pc := 84) (ls' := [some (.ref a0), some (.int l1), none, none, some (.ref a1), some (va_rf l5), some (.int (l6 &&& r5.1)), some (.int l7)]) dX7_inAll_84 (by decide) (aSet_ref rfl (va_rf_cat _) rfl) ?_
        exact sX7_inAll_86 hd hk hn ih hf
set_option maxHeartbeats 4000000 in
theorem sX7_inAll_0 {l : Launch} {g : gE} {d MC MS' k n : Nat} {a0 : Nat} (hd : 6 ≤ d) (hk : k ≤ MC) (hn : n ≤ MS') {r : Int32 × AH} {S : AH} {l1 : Int32} {l2 : Int32} {l3 : Int32} (hf : X7_inAll_0 S a0 l1 l2 l3 = some r) : AW l g d RX7 cX7_inAll 8 "inAll" MC MS' (Qr (some (.int r.1)) r.2) k n 0 [some (.ref a0), some (.int l1), some (.int l2), some (.int l3), none, none, none, none] [] S := by
  unfold X7_inAll_0 at hf
  refine a_aload_n (pc := 0) dX7_inAll_0 rfl (isRv_r _) ?_
  refine a_iload_n (pc := 1) dX7_inAll_1 rfl ?_
  obtain ⟨r1, hr1, hf⟩ := Option.bind_eq_some_iff.mp hf
  obtain ⟨zq2, zq2S⟩ := r1
  have hf := (prp_of _ _ _).symm.trans hf
  obtain ⟨hor1, hr1⟩ := cO_of hr1
  refine g_call (pc := 2) (mc := 0) (ms := 0) (va_rf zq2) [.int l2] [] dX7_inAll_2 ml_X7_91 mv_X7_bargainOf hor1 (by decide) rfl rfl (by omega) (mX7_bargainOf (by omega) hr1) rfl (Nat.le_of_ble_eq_true rfl) hk hn ?_
  refine a_astore (pc := 5) (ls' := [some (.ref a0), some (.int l1), some (.int l2), some (.int l3), some (va_rf zq2), none, none, none]) dX7_inAll_5 (by decide) (isRv_rf _) rfl ?_
  refine a_aload_n (pc := 7) dX7_inAll_7 rfl (isRv_r _) ?_
  refine a_iload_n (pc := 8) dX7_inAll_8 rfl ?_
  obtain ⟨r3, hr3, hf⟩ := Option.bind_eq_some_iff.mp hf
  obtain ⟨zq4, zq4S⟩ := r3
  have hf := (prp_of _ _ _).symm.trans hf
  obtain ⟨hor3, hr3⟩ := cO_of hr3
  refine g_call (pc := 9) (mc := 0) (ms := 0) (va_rf zq4) [.int l3] [] dX7_inAll_9 ml_X7_117 mv_X7_lawOf hor3 (by decide) rfl rfl (by omega) (mX7_lawOf (by omega) hr3) rfl (Nat.le_of_ble_eq_true rfl) hk hn ?_
  refine a_astore (pc := 12) (ls' := [some (.ref a0), some (.int l1), some (.int l2), some (.int l3), some (va_rf zq2), some (va_rf zq4), none, none]) dX7_inAll_12 (by decide) (isRv_rf _) (aSet_ref rfl (va_rf_cat _) rfl) ?_
  refine a_iload_n (pc := 14) dX7_inAll_14 rfl ?_
  obtain ⟨r5, hr5, hf⟩ := Option.bind_eq_some_iff.mp hf
  refine g_calls (pc := 15) (mc := 0) (ms := 0) (.int r5.1) [.int l1] [] dX7_inAll_15 ml_X7_129 ms_X7_isKind rfl (by omega) (mX7_isKind (by omega) hr5) rfl (Nat.le_of_ble_eq_true rfl) hk hn ?_
  refine a_if_eq (pc := 18) 31 dX7_inAll_18 (by decide) (fun c9 => ?_) (fun c9 => ?_)
  · have hf := (if_pos c9).symm.trans hf
    refine a_sub (sub_d (sub_d (sub_d (sub_d (sub_d (sub_d (sub_k (sub_k sub_n)))))))) ?_
    exact sX7_inAll_31 hd hk hn hf
  · have hf := (if_neg c9).symm.trans hf
    refine a_aload (pc := 21) dX7_inAll_21 rfl (isRv_rf _) ?_
    cases zq2 with
    | none =>
      have hf := (ifn_none _ _).symm.trans hf
      refine a_ifnullN (pc := 23) 31 dX7_inAll_23 (by decide) ?_
      refine a_sub (sub_d (sub_d (sub_d (sub_d (sub_d (sub_d (sub_k (sub_k sub_n)))))))) ?_
      exact sX7_inAll_31 hd hk hn hf
    | some a6 =>
      have hf := (ifn_some _ _ _).symm.trans hf
      refine a_ifnull (pc := 23) dX7_inAll_23 ?_
      refine a_aload (pc := 26) dX7_inAll_26 rfl (isRv_rf _) ?_
      cases zq4 with
      | none =>
        have hf := (ifn_none _ _).symm.trans hf
        refine a_ifnonnullN (pc := 28) dX7_inAll_28 ?_
        refine a_sub (sub_d (sub_d (sub_d (sub_d (sub_d (sub_d (sub_k (sub_k sub_n)))))))) ?_
        exact sX7_inAll_31 hd hk hn hf
      | some a7 =>
        have hf := (ifn_some _ _ _).symm.trans hf
        refine a_ifnonnull (pc := 28) 33 dX7_inAll_28 (by decide) ?_
        refine a_aload (pc := 33) dX7_inAll_33 rfl (isRv_r _) ?_
        obtain ⟨r8, hr8, hf⟩ := Option.bind_eq_some_iff.mp hf
        obtain ⟨hor8, hr8⟩ := cO_of hr8
        refine g_call (pc := 35) (mc := 0) (ms := 0) (.int r8.1) [] [] dX7_inAll_35 ml_X7_151 mv_X1_sets hor8 (by decide) rfl rfl (by omega) (mX1_sets (by omega) hr8) rfl (Nat.le_of_ble_eq_true rfl) hk hn ?_
        refine a_iconst (pc := 38) 1 dX7_inAll_38 rfl ?_
        refine a_isub (pc := 39) dX7_inAll_39 ?_
        refine a_istore (pc := 40) (ls' := [some (.ref a0), some (.int l1), some (.int l2), some (.int l3), some (.ref a6), some (.ref a7), some (.int (r8.1 - 1)), none]) dX7_inAll_40 (by decide) rfl ?_
        refine a_iconst (pc := 42) 0 dX7_inAll_42 rfl ?_
        refine a_istore (pc := 43) (ls' := [some (.ref a0), some (.int l1), some (.int l2), some (.int l3), some (.ref a6), some (.ref a7), some (.int (r8.1 - 1)), some (.int 0)]) dX7_inAll_43 (by decide) rfl ?_
        refine a_sub (sub_k (sub_k (sub_d (sub_d (sub_k (sub_k (sub_k (sub_k sub_n)))))))) ?_
        exact sX7_inAll_45 hd hk hn FU r8.2 l1 (some a6) (some a7) (r8.1 - 1) 0 hf
set_option maxHeartbeats 4000000 in
theorem mX7_inAll {l : Launch} {g : gE} {d : Nat} {a0 : Nat} (hd : 6 ≤ d) {r : Int32 × AH} {S : AH} {l1 : Int32} {l2 : Int32} {l3 : Int32} (hf : X7_inAll S a0 l1 l2 l3 = some r) : AM l g d yX7_inAll cX7_inAll 8 (some .int) 0 0 [.ref a0, .int l1, .int l2, .int l3] S (Qr (some (.int r.1)) r.2) := by
  refine AM.of rfl (by exact Nat.le_of_ble_eq_true rfl) (fun v h' q => by obtain ⟨rfl, -⟩ := q; exact ⟨_, rfl, rfl⟩) (fun ls e => ?_)
  have e2 : aBeg [.ref a0, .int l1, .int l2, .int l3] 8 = [some (.ref a0), some (.int l1), some (.int l2), some (.int l3), none, none, none, none] := rfl
  rw [e2] at e
  subst e
  refine a_sub (sub_k (sub_k (sub_k (sub_k (sub_k (sub_k (sub_k (sub_k (sub_n))))))))) ?_
  exact sX7_inAll_0 hd (Nat.le_refl _) (Nat.le_refl _) (hf)

-- PencilStrikes$Duties.isSameAs(LPencilStrikes$Duties;)Z
def X2_isSameAs_15 : Nat → AH → Nat → Option Nat → Int32 → Option (Int32 × AH)
  | 0, _, _, _, _ => none
  | fn + 1, S, a0, l1, l2 =>
    (gI S a0 2 1).bind fun x1 =>
    if x1 ≤ l2 then
      some (1, S)
    else
      (cO S a0 2 (X2_at S a0 l2)).bind fun r2 =>
      (l1).bind fun a3 =>
      (cO r2.2 a3 2 (X2_at r2.2 a3 l2)).bind fun r4 =>
      if r2.1 = r4.1 then
        X2_isSameAs_15 fn r4.2 a0 (some a3) (l2 + 1)
      else
        some (0, r4.2)
def X2_isSameAs_0 (S : AH) (a0 : Nat) (l1 : Option Nat) : Option (Int32 × AH) :=
  (gI S a0 2 1).bind fun x1 =>
  (l1).bind fun a2 =>
  (gI S a2 2 1).bind fun x3 =>
  if x1 = x3 then
    X2_isSameAs_15 FU S a0 (some a2) 0
  else
    some (0, S)
def X2_isSameAs (S : AH) (a0 : Nat) (l1 : Option Nat) : Option (Int32 × AH) := zg (X2_isSameAs_0 S a0 l1)
set_option maxHeartbeats 4000000 in
theorem sX2_isSameAs_15 {l : Launch} {g : gE} {d MC MS' k n : Nat} {a0 : Nat} (hd : 1 ≤ d) (hk : k ≤ MC) (hn : n ≤ MS') {r : Int32 × AH} : ∀ (fn : Nat) (S : AH) (l1 : Option Nat) (l2 : Int32), X2_isSameAs_15 fn S a0 l1 l2 = some r → AW l g d RX2 cX2_isSameAs 3 "isSameAs" MC MS' (Qr (some (.int r.1)) r.2) k n 15 [some (.ref a0), some (va_rf l1), some (.int l2)] [] S := by
  intro fn
  induction fn with
  | zero =>
    intro S l1 l2 hf
    rw [X2_isSameAs_15] at hf
    cases hf
  | succ fn ih =>
    intro S l1 l2 hf
    rw [X2_isSameAs_15] at hf
    refine a_iload_n (pc := 15) dX2_isSameAs_15 rfl ?_
    refine a_aload_n (pc := 16) dX2_isSameAs_16 rfl (isRv_r _) ?_
    obtain ⟨x1, hx1, hf⟩ := Option.bind_eq_some_iff.mp hf
    refine g_getI (pc := 17) dX2_isSameAs_17 fl_X2_15 hx1 ?_
    refine a_icmp_ge (pc := 20) 44 dX2_isSameAs_20 (by decide) (fun c6 => ?_) (fun c6 => ?_)
    · have hf := (if_pos c6).symm.trans hf
      refine a_iconst (pc := 44) 1 dX2_isSameAs_44 rfl ?_
      have hf := Option.some.inj hf
      subst hf
      exact a_ireturn (pc := 45) dX2_isSameAs_45 hk hn ⟨rfl, rfl⟩
    · have hf := (if_neg c6).symm.trans hf
      refine a_aload_n (pc := 23) dX2_isSameAs_23 rfl (isRv_r _) ?_
      refine a_iload_n (pc := 24) dX2_isSameAs_24 rfl ?_
      obtain ⟨r2, hr2, hf⟩ := Option.bind_eq_some_iff.mp hf
      obtain ⟨hor2, hr2⟩ := cO_of hr2
      refine g_call (pc := 25) (mc := 0) (ms := 0) (.int r2.1) [.int l2] [] dX2_isSameAs_25 ml_X2_33 mv_X2_at hor2 (by decide) rfl rfl (by omega) (mX2_at (by omega) hr2) rfl (Nat.le_of_ble_eq_true rfl) hk hn ?_
      refine a_aload_n (pc := 28) dX2_isSameAs_28 rfl (isRv_rf _) ?_
      refine a_iload_n (pc := 29) dX2_isSameAs_29 rfl ?_
      obtain ⟨a3, ha3, hf⟩ := Option.bind_eq_some_iff.mp hf
      rw [ha3]
      obtain ⟨r4, hr4, hf⟩ := Option.bind_eq_some_iff.mp hf
      obtain ⟨hor4, hr4⟩ := cO_of hr4
      refine g_call (pc := 30) (mc := 0) (ms := 0) (.int r4.1) [.int l2] [.int (r2.1)] dX2_isSameAs_30 ml_X2_33 mv_X2_at hor4 (by decide) rfl rfl (by omega) (mX2_at (by omega) hr4) rfl (Nat.le_of_ble_eq_true rfl) hk hn ?_
      refine a_icmp_eq (pc := 33) 38 dX2_isSameAs_33 (by decide) (fun c5 => ?_) (fun c5 => ?_)
      · have hf := (if_pos c5).symm.trans hf
        refine a_iinc (pc := 38) (ls' := [some (.ref a0), some (.ref a3), some (.int (l2 + 1))]) (l2 + 1) dX2_isSameAs_38 rfl rfl (by decide) rfl ?_
        refine a_goto (pc := 41) 15 dX2_isSameAs_41 (by decide) ?_
        exact ih r4.2 (some a3) (l2 + 1) hf
      · have hf := (if_neg c5).symm.trans hf
        refine a_iconst (pc := 36) 0 dX2_isSameAs_36 rfl ?_
        have hf := Option.some.inj hf
        subst hf
        exact a_ireturn (pc := 37) dX2_isSameAs_37 hk hn ⟨rfl, rfl⟩
set_option maxHeartbeats 4000000 in
theorem sX2_isSameAs_0 {l : Launch} {g : gE} {d MC MS' k n : Nat} {a0 : Nat} (hd : 1 ≤ d) (hk : k ≤ MC) (hn : n ≤ MS') {r : Int32 × AH} {S : AH} {l1 : Option Nat} (hf : X2_isSameAs_0 S a0 l1 = some r) : AW l g d RX2 cX2_isSameAs 3 "isSameAs" MC MS' (Qr (some (.int r.1)) r.2) k n 0 [some (.ref a0), some (va_rf l1), none] [] S := by
  unfold X2_isSameAs_0 at hf
  refine a_aload_n (pc := 0) dX2_isSameAs_0 rfl (isRv_r _) ?_
  obtain ⟨x1, hx1, hf⟩ := Option.bind_eq_some_iff.mp hf
  refine g_getI (pc := 1) dX2_isSameAs_1 fl_X2_15 hx1 ?_
  refine a_aload_n (pc := 4) dX2_isSameAs_4 rfl (isRv_rf _) ?_
  obtain ⟨a2, ha2, hf⟩ := Option.bind_eq_some_iff.mp hf
  rw [ha2]
  obtain ⟨x3, hx3, hf⟩ := Option.bind_eq_some_iff.mp hf
  refine g_getI (pc := 5) dX2_isSameAs_5 fl_X2_15 hx3 ?_
  refine a_icmp_eq (pc := 8) 13 dX2_isSameAs_8 (by decide) (fun c4 => ?_) (fun c4 => ?_)
  · have hf := (if_pos c4).symm.trans hf
    refine a_iconst (pc := 13) 0 dX2_isSameAs_13 rfl ?_
    refine a_istore_n (pc := 14) (ls' := [some (.ref a0), some (.ref a2), some (.int 0)]) dX2_isSameAs_14 (by decide) rfl ?_
    exact sX2_isSameAs_15 hd hk hn FU S (some a2) 0 hf
  · have hf := (if_neg c4).symm.trans hf
    refine a_iconst (pc := 11) 0 dX2_isSameAs_11 rfl ?_
    have hf := Option.some.inj hf
    subst hf
    exact a_ireturn (pc := 12) dX2_isSameAs_12 hk hn ⟨rfl, rfl⟩
set_option maxHeartbeats 4000000 in
theorem mX2_isSameAs {l : Launch} {g : gE} {d : Nat} {a0 : Nat} (hd : 1 ≤ d) {r : Int32 × AH} {S : AH} {l1 : Option Nat} (hf : X2_isSameAs S a0 l1 = some r) : AM l g d yX2_isSameAs cX2_isSameAs 3 (some .boolean) 0 0 [.ref a0, va_rf l1] S (Qr (some (.int r.1)) r.2) := by
  refine AM.of rfl (by cases l1 <;> exact Nat.le_of_ble_eq_true rfl) (fun v h' q => by obtain ⟨rfl, -⟩ := q; refine ⟨_, rfl, ?_⟩; rcases (zg_of hf).2 with e | e <;> rw [e] <;> rfl) (fun ls e => ?_)
  have e2 : aBeg [.ref a0, va_rf l1] 3 = [some (.ref a0), some (va_rf l1), none] := (by cases l1 <;> rfl)
  rw [e2] at e
  subst e
  refine a_sub (sub_k (sub_k (sub_k (sub_n)))) ?_
  exact sX2_isSameAs_0 hd (Nat.le_refl _) (Nat.le_refl _) ((zg_of hf).1)

-- PencilStrikes.plain(I)I
def X7_plain_84 (rec28 : AH → Nat → Option Nat → Int32 → Int32 → Option (Int32 × AH)) (S : AH) (a0 : Nat) (l2 : Option Nat) (l3 : Int32) (l4 : Int32) : Option (Int32 × AH) :=
  rec28 S a0 l2 l3 (l4 + 1)
def X7_plain_28 : Nat → AH → Nat → Option Nat → Int32 → Int32 → Option (Int32 × AH)
  | 0, _, _, _, _, _ => none
  | fn + 1, S, a0, l2, l3, l4 =>
    (l2).bind fun a1 =>
    (cO S a1 1 (X1_readings S a1)).bind fun r2 =>
    if r2.1 ≤ l4 then
      some (l3, r2.2)
    else
      (cO r2.2 a1 1 (X1_readingAt r2.2 a1 l4)).bind fun r3 =>
      (gQ r3.2 a0 7 7).bind fun x4 =>
      (cO r3.2 a1 1 (X1_tellDuties r3.2 a1 r3.1 x4)).bind fun r5 =>
      (J6_bitCount_0f7a4 r5.2 r3.1).bind fun r6 =>
      (J6_bitCount_0f7a4 r6.2 l3).bind fun r7 =>
      if r6.1 ≤ r7.1 then
        X7_plain_84 (X7_plain_28 fn) r7.2 a0 (some a1) l3 l4
      else
        (gQ r7.2 a0 7 7).bind fun x8 =>
        (cO r7.2 a1 1 (X1_whole r7.2 a1)).bind fun r9 => prp r9 fun zq10 zq10S =>
        (x8).bind fun a11 =>
        (cO zq10S a11 2 (X2_isSameAs zq10S a11 zq10)).bind fun r12 =>
        if r12.1 = 0 then
          X7_plain_84 (X7_plain_28 fn) r12.2 a0 (some a1) l3 l4
        else
          X7_plain_84 (X7_plain_28 fn) r12.2 a0 (some a1) r3.1 l4
def X7_plain_0 (S : AH) (a0 : Nat) (l1 : Int32) : Option (Int32 × AH) :=
  (cO S a0 7 (X7_bargainOf S a0 l1)).bind fun r1 => prp r1 fun zq2 zq2S =>
  ifn zq2 (
    some ((-1), zq2S)) fun a3 =>
  (cO zq2S a3 1 (X1_isReadable zq2S a3 0)).bind fun r4 =>
  if r4.1 = 0 then
    some ((-3), r4.2)
  else
    X7_plain_28 FU r4.2 a0 (some a3) 0 0
def X7_plain (S : AH) (a0 : Nat) (l1 : Int32) : Option (Int32 × AH) := X7_plain_0 S a0 l1
set_option maxHeartbeats 4000000 in
theorem sX7_plain_84 {l : Launch} {g : gE} {d MC MS' k n : Nat} {a0 : Nat} (hd : 3 ≤ d) (hk : k ≤ MC) (hn : n ≤ MS') {r : Int32 × AH} {rec28 : AH → Nat → Option Nat → Int32 → Int32 → Option (Int32 × AH)} (hlp28 : ∀ (S : AH) (l2 : Option Nat) (l3 : Int32) (l4 : Int32), rec28 S a0 l2 l3 l4 = some r → AW l g d RX7 cX7_plain 6 "plain" MC MS' (Qr (some (.int r.1)) r.2) k n 28 [some (.ref a0), none, some (va_rf l2), some (.int l3), some (.int l4), none] [] S) {S : AH} {l2 : Option Nat} {l3 : Int32} {l4 : Int32} (hf : X7_plain_84 rec28 S a0 l2 l3 l4 = some r) : AW l g d RX7 cX7_plain 6 "plain" MC MS' (Qr (some (.int r.1)) r.2) k n 84 [some (.ref a0), none, some (va_rf l2), some (.int l3), some (.int l4), none] [] S := by
  unfold X7_plain_84 at hf
  refine a_iinc (pc := 84) (ls' := [some (.ref a0), none, some (va_rf l2), some (.int l3), some (.int (l4 + 1)), none]) (l4 + 1) dX7_plain_84 rfl rfl (by decide) rfl ?_
  refine a_goto (pc := 87) 28 dX7_plain_87 (by decide) ?_
  exact hlp28 S l2 l3 (l4 + 1) hf
set_option maxHeartbeats 4000000 in
theorem sX7_plain_28 {l : Launch} {g : gE} {d MC MS' k n : Nat} {a0 : Nat} (hd : 3 ≤ d) (hk : k ≤ MC) (hn : n ≤ MS') {r : Int32 × AH} : ∀ (fn : Nat) (S : AH) (l2 : Option Nat) (l3 : Int32) (l4 : Int32), X7_plain_28 fn S a0 l2 l3 l4 = some r → AW l g d RX7 cX7_plain 6 "plain" MC MS' (Qr (some (.int r.1)) r.2) k n 28 [some (.ref a0), none, some (va_rf l2), some (.int l3), some (.int l4), none] [] S := by
  intro fn
  induction fn with
  | zero =>
    intro S l2 l3 l4 hf
    rw [X7_plain_28] at hf
    cases hf
  | succ fn ih =>
    intro S l2 l3 l4 hf
    rw [X7_plain_28] at hf
    refine a_iload (pc := 28) dX7_plain_28 rfl ?_
    refine a_aload_n (pc := 30) dX7_plain_30 rfl (isRv_rf _) ?_
    obtain ⟨a1, ha1, hf⟩ := Option.bind_eq_some_iff.mp hf
    rw [ha1]
    obtain ⟨r2, hr2, hf⟩ := Option.bind_eq_some_iff.mp hf
    obtain ⟨hor2, hr2⟩ := cO_of hr2
    refine g_call (pc := 31) (mc := 0) (ms := 0) (.int r2.1) [] [.int l4] dX7_plain_31 ml_X7_136 mv_X1_readings hor2 (by decide) rfl rfl (by omega) (mX1_readings (by omega) hr2) rfl (Nat.le_of_ble_eq_true rfl) hk hn ?_
    refine a_icmp_ge (pc := 34) 90 dX7_plain_34 (by decide) (fun c15 => ?_) (fun c15 => ?_)
    · have hf := (if_pos c15).symm.trans hf
      refine a_iload_n (pc := 90) dX7_plain_90 rfl ?_
      have hf := Option.some.inj hf
      subst hf
      exact a_ireturn (pc := 91) dX7_plain_91 hk hn ⟨rfl, rfl⟩
    · have hf := (if_neg c15).symm.trans hf
      refine a_aload_n (pc := 37) dX7_plain_37 rfl (isRv_r _) ?_
      refine a_iload (pc := 38) dX7_plain_38 rfl ?_
      obtain ⟨r3, hr3, hf⟩ := Option.bind_eq_some_iff.mp hf
      obtain ⟨hor3, hr3⟩ := cO_of hr3
      refine g_call (pc := 40) (mc := 0) (ms := 0) (.int r3.1) [.int l4] [] dX7_plain_40 ml_X7_139 mv_X1_readingAt hor3 (by decide) rfl rfl (by omega) (mX1_readingAt (by omega) hr3) rfl (Nat.le_of_ble_eq_true rfl) hk hn ?_
      refine a_istore (pc := 43) (ls' := [some (.ref a0), none, some (.ref a1), some (.int l3), some (.int l4), some (.int (r3.1))]) dX7_plain_43 (by decide) rfl ?_
      refine a_aload_n (pc := 45) dX7_plain_45 rfl (isRv_r _) ?_
      refine a_iload (pc := 46) dX7_plain_46 rfl ?_
      refine a_aload_n (pc := 48) dX7_plain_48 rfl (isRv_r _) ?_
      obtain ⟨x4, hx4, hf⟩ := Option.bind_eq_some_iff.mp hf
      refine g_getQ (pc := 49) dX7_plain_49 fl_X7_57 hx4 ?_
      obtain ⟨r5, hr5, hf⟩ := Option.bind_eq_some_iff.mp hf
      obtain ⟨hor5, hr5⟩ := cO_of hr5
      refine g_callv (pc := 52) (mc := 0) (ms := 0) [.int (r3.1), va_rf x4] [] dX7_plain_52 ml_X7_109 mv_X1_tellDuties hor5 (by decide) rfl rfl (by omega) (mX1_tellDuties (by omega) hr5) rfl (Nat.le_of_ble_eq_true rfl) hk hn ?_
      refine a_iload (pc := 55) dX7_plain_55 rfl ?_
      obtain ⟨r6, hr6, hf⟩ := Option.bind_eq_some_iff.mp hf
      refine g_calls (pc := 57) (mc := 0) (ms := 0) (.int r6.1) [.int (r3.1)] [] dX7_plain_57 ml_X7_146 ms_J6_bitCount_0f7a4 rfl (by omega) (mJ6_bitCount_0f7a4 (by omega) hr6) rfl (Nat.le_of_ble_eq_true rfl) hk hn ?_
      refine a_iload_n (pc := 60) dX7_plain_60 rfl ?_
      obtain ⟨r7, hr7, hf⟩ := Option.bind_eq_some_iff.mp hf
      refine g_calls (pc := 61) (mc := 0) (ms := 0) (.int r7.1) [.int l3] [.int (r6.1)] dX7_plain_61 ml_X7_146 ms_J6_bitCount_0f7a4 rfl (by omega) (mJ6_bitCount_0f7a4 (by omega) hr7) rfl (Nat.le_of_ble_eq_true rfl) hk hn ?_
      refine a_icmp_le (pc := 64) 84 dX7_plain_64 (by decide) (fun c14 => ?_) (fun c14 => ?_)
      · have hf := (if_pos c14).symm.trans hf
        refine a_sub (sub_k (sub_k (sub_k (sub_k (sub_k (sub_d sub_n)))))) ?_
        exact sX7_plain_84 hd hk hn ih hf
      · have hf := (if_neg c14).symm.trans hf
        refine a_aload_n (pc := 67) dX7_plain_67 rfl (isRv_r _) ?_
        obtain ⟨x8, hx8, hf⟩ := Option.bind_eq_some_iff.mp hf
        refine g_getQ (pc := 68) dX7_plain_68 fl_X7_57 hx8 ?_
        refine a_aload_n (pc := 71) dX7_plain_71 rfl (isRv_r _) ?_
        obtain ⟨r9, hr9, hf⟩ := Option.bind_eq_some_iff.mp hf
        obtain ⟨zq10, zq10S⟩ := r9
        have hf := (prp_of _ _ _).symm.trans hf
        obtain ⟨hor9, hr9⟩ := cO_of hr9
        refine g_call (pc := 72) (mc := 0) (ms := 0) (va_rf zq10) [] [va_rf x8] dX7_plain_72 ml_X7_154 mv_X1_whole hor9 (by decide) rfl rfl (by omega) (mX1_whole (by omega) hr9) rfl (by cases x8 <;> exact Nat.le_of_ble_eq_true rfl) hk hn ?_
        obtain ⟨a11, ha11, hf⟩ := Option.bind_eq_some_iff.mp hf
        rw [ha11]
        obtain ⟨r12, hr12, hf⟩ := Option.bind_eq_some_iff.mp hf
        obtain ⟨hor12, hr12⟩ := cO_of hr12
        refine g_call (pc := 75) (mc := 0) (ms := 0) (.int r12.1) [va_rf zq10] [] dX7_plain_75 ml_X7_158 mv_X2_isSameAs hor12 (by decide) rfl rfl (by omega) (mX2_isSameAs (by omega) hr12) rfl (Nat.le_of_ble_eq_true rfl) hk hn ?_
        refine a_if_eq (pc := 78) 84 dX7_plain_78 (by decide) (fun c13 => ?_) (fun c13 => ?_)
        · have hf := (if_pos c13).symm.trans hf
          refine a_sub (sub_k (sub_k (sub_k (sub_k (sub_k (sub_d sub_n)))))) ?_
          exact sX7_plain_84 hd hk hn ih hf
        · have hf := (if_neg c13).symm.trans hf
          refine a_iload (pc := 81) dX7_plain_81 rfl ?_
          refine a_istore_n (pc := 83) (ls' := [some (.ref a0), none, some (.ref a1), some (.int (r3.1)), some (.int l4), some (.int (r3.1))]) dX7_plain_83 (by decide) rfl ?_
          refine a_sub (sub_k (sub_k (sub_k (sub_k (sub_k (sub_d sub_n)))))) ?_
          exact sX7_plain_84 hd hk hn ih hf
set_option maxHeartbeats 4000000 in
theorem sX7_plain_0 {l : Launch} {g : gE} {d MC MS' k n : Nat} {a0 : Nat} (hd : 3 ≤ d) (hk : k ≤ MC) (hn : n ≤ MS') {r : Int32 × AH} {S : AH} {l1 : Int32} (hf : X7_plain_0 S a0 l1 = some r) : AW l g d RX7 cX7_plain 6 "plain" MC MS' (Qr (some (.int r.1)) r.2) k n 0 [some (.ref a0), some (.int l1), none, none, none, none] [] S := by
  unfold X7_plain_0 at hf
  refine a_aload_n (pc := 0) dX7_plain_0 rfl (isRv_r _) ?_
  refine a_iload_n (pc := 1) dX7_plain_1 rfl ?_
  obtain ⟨r1, hr1, hf⟩ := Option.bind_eq_some_iff.mp hf
  obtain ⟨zq2, zq2S⟩ := r1
  have hf := (prp_of _ _ _).symm.trans hf
  obtain ⟨hor1, hr1⟩ := cO_of hr1
  refine g_call (pc := 2) (mc := 0) (ms := 0) (va_rf zq2) [.int l1] [] dX7_plain_2 ml_X7_91 mv_X7_bargainOf hor1 (by decide) rfl rfl (by omega) (mX7_bargainOf (by omega) hr1) rfl (Nat.le_of_ble_eq_true rfl) hk hn ?_
  refine a_astore_n (pc := 5) (ls' := [some (.ref a0), some (.int l1), some (va_rf zq2), none, none, none]) dX7_plain_5 (by decide) (isRv_rf _) rfl ?_
  refine a_aload_n (pc := 6) dX7_plain_6 rfl (isRv_rf _) ?_
  cases zq2 with
  | none =>
    have hf := (ifn_none _ _).symm.trans hf
    refine a_ifnonnullN (pc := 7) dX7_plain_7 ?_
    refine a_iconst (pc := 10) (-1) dX7_plain_10 rfl ?_
    have hf := Option.some.inj hf
    subst hf
    exact a_ireturn (pc := 11) dX7_plain_11 hk hn ⟨rfl, rfl⟩
  | some a3 =>
    have hf := (ifn_some _ _ _).symm.trans hf
    refine a_ifnonnull (pc := 7) 12 dX7_plain_7 (by decide) ?_
    refine a_aload_n (pc := 12) dX7_plain_12 rfl (isRv_r _) ?_
    refine a_iconst (pc := 13) 0 dX7_plain_13 rfl ?_
    obtain ⟨r4, hr4, hf⟩ := Option.bind_eq_some_iff.mp hf
    obtain ⟨hor4, hr4⟩ := cO_of hr4
    refine g_call (pc := 14) (mc := 0) (ms := 0) (.int r4.1) [.int 0] [] dX7_plain_14 ml_X7_104 mv_X1_isReadable hor4 (by decide) rfl rfl (by omega) (mX1_isReadable (by omega) hr4) rfl (Nat.le_of_ble_eq_true rfl) hk hn ?_
    refine a_if_ne (pc := 17) 23 dX7_plain_17 (by decide) (fun c5 => ?_) (fun c5 => ?_)
    · have hf := (if_neg c5).symm.trans hf
      refine a_iconst (pc := 23) 0 dX7_plain_23 rfl ?_
      refine a_istore_n (pc := 24) (ls' := [some (.ref a0), some (.int l1), some (.ref a3), some (.int 0), none, none]) dX7_plain_24 (by decide) rfl ?_
      refine a_iconst (pc := 25) 0 dX7_plain_25 rfl ?_
      refine a_istore (pc := 26) (ls' := [some (.ref a0), some (.int l1), some (.ref a3), some (.int 0), some (.int 0), none]) dX7_plain_26 (by decide) rfl ?_
      refine a_sub (sub_k (sub_d (sub_k (sub_k (sub_k (sub_k sub_n)))))) ?_
      exact sX7_plain_28 hd hk hn FU r4.2 (some a3) 0 0 hf
    · have hf := (if_pos c5).symm.trans hf
      refine a_bipush (pc := 20) (-3) dX7_plain_20 rfl ?_
      have hf := Option.some.inj hf
      subst hf
      exact a_ireturn (pc := 22) dX7_plain_22 hk hn ⟨rfl, rfl⟩
set_option maxHeartbeats 4000000 in
theorem mX7_plain {l : Launch} {g : gE} {d : Nat} {a0 : Nat} (hd : 3 ≤ d) {r : Int32 × AH} {S : AH} {l1 : Int32} (hf : X7_plain S a0 l1 = some r) : AM l g d yX7_plain cX7_plain 6 (some .int) 0 0 [.ref a0, .int l1] S (Qr (some (.int r.1)) r.2) := by
  refine AM.of rfl (by exact Nat.le_of_ble_eq_true rfl) (fun v h' q => by obtain ⟨rfl, -⟩ := q; exact ⟨_, rfl, rfl⟩) (fun ls e => ?_)
  have e2 : aBeg [.ref a0, .int l1] 6 = [some (.ref a0), some (.int l1), none, none, none, none] := rfl
  rw [e2] at e
  subst e
  refine a_sub (sub_k (sub_k (sub_k (sub_k (sub_k (sub_k (sub_n))))))) ?_
  exact sX7_plain_0 hd (Nat.le_refl _) (Nat.le_refl _) (hf)

-- PencilStrikes$Duties.burdenOfDuty(I[I)I
def X2_burdenOfDuty_67 (S : AH) (s0 : Int32) : Option (Int32 × AH) :=
  some (s0, S)
def X2_burdenOfDuty_34 (S : AH) (s0 : Int32) (l0 : Int32) : Option (Int32 × AH) :=
  (X2_digit S l0 0).bind fun r1 =>
  (X2_digit r1.2 l0 15).bind fun r2 =>
  if r2.1 = 1 then
    (X2_digit r2.2 l0 5).bind fun r3 =>
    X2_burdenOfDuty_67 r3.2 ((s0 * r1.1) * r3.1)
  else
    X2_burdenOfDuty_67 r2.2 (s0 * r1.1)
def X2_burdenOfDuty_0 (S : AH) (l0 : Int32) (l1 : Option Nat) : Option (Int32 × AH) :=
  (X2_digit S l0 10).bind fun r1 =>
  if r1.1 < 10 then
    (aN r1.2 l1).bind fun x2 =>
    if x2 ≤ r1.1 then
      X2_burdenOfDuty_34 r1.2 0 l0
    else
      (aA 0 r1.2 l1 r1.1).bind fun x3 =>
      X2_burdenOfDuty_34 r1.2 x3 l0
  else
    some ((10 * (r1.1 - 10)), r1.2)
def X2_burdenOfDuty (S : AH) (l0 : Int32) (l1 : Option Nat) : Option (Int32 × AH) := X2_burdenOfDuty_0 S l0 l1
set_option maxHeartbeats 4000000 in
theorem sX2_burdenOfDuty_67 {l : Launch} {g : gE} {d MC MS' k n : Nat} (hd : 1 ≤ d) (hk : k ≤ MC) (hn : n ≤ MS') {r : Int32 × AH} {S : AH} {s0 : Int32} (hf : X2_burdenOfDuty_67 S s0 = some r) : AW l g d RX2 cX2_burdenOfDuty 5 "burdenOfDuty" MC MS' (Qr (some (.int r.1)) r.2) k n 67 [none, none, none, none, none] [.int s0] S := by
  unfold X2_burdenOfDuty_67 at hf
  have hf := Option.some.inj hf
  subst hf
  exact a_ireturn (pc := 67) dX2_burdenOfDuty_67 hk hn ⟨rfl, rfl⟩
set_option maxHeartbeats 4000000 in
theorem sX2_burdenOfDuty_34 {l : Launch} {g : gE} {d MC MS' k n : Nat} (hd : 1 ≤ d) (hk : k ≤ MC) (hn : n ≤ MS') {r : Int32 × AH} {S : AH} {s0 : Int32} {l0 : Int32} (hf : X2_burdenOfDuty_34 S s0 l0 = some r) : AW l g d RX2 cX2_burdenOfDuty 5 "burdenOfDuty" MC MS' (Qr (some (.int r.1)) r.2) k n 34 [some (.int l0), none, none, none, none] [.int s0] S := by
  unfold X2_burdenOfDuty_34 at hf
  refine a_istore_n (pc := 34) (ls' := [some (.int l0), none, none, some (.int s0), none]) dX2_burdenOfDuty_34 (by decide) rfl ?_
  refine a_iload_n (pc := 35) dX2_burdenOfDuty_35 rfl ?_
  refine a_iload_n (pc := 36) dX2_burdenOfDuty_36 rfl ?_
  refine a_iconst (pc := 37) 0 dX2_burdenOfDuty_37 rfl ?_
  obtain ⟨r1, hr1, hf⟩ := Option.bind_eq_some_iff.mp hf
  refine g_calls (pc := 38) (mc := 0) (ms := 0) (.int r1.1) [.int l0, .int 0] [.int s0] dX2_burdenOfDuty_38 ml_X2_41 ms_X2_digit rfl (by omega) (mX2_digit (by omega) hr1) rfl (Nat.le_of_ble_eq_true rfl) hk hn ?_
  refine a_imul (pc := 41) dX2_burdenOfDuty_41 ?_
  refine a_istore (pc := 42) (ls' := [some (.int l0), none, none, some (.int s0), some (.int (s0 * r1.1))]) dX2_burdenOfDuty_42 (by decide) rfl ?_
  refine a_iload_n (pc := 44) dX2_burdenOfDuty_44 rfl ?_
  refine a_bipush (pc := 45) 15 dX2_burdenOfDuty_45 rfl ?_
  obtain ⟨r2, hr2, hf⟩ := Option.bind_eq_some_iff.mp hf
  refine g_calls (pc := 47) (mc := 0) (ms := 0) (.int r2.1) [.int l0, .int 15] [] dX2_burdenOfDuty_47 ml_X2_41 ms_X2_digit rfl (by omega) (mX2_digit (by omega) hr2) rfl (Nat.le_of_ble_eq_true rfl) hk hn ?_
  refine a_iconst (pc := 50) 1 dX2_burdenOfDuty_50 rfl ?_
  refine a_icmp_ne (pc := 51) 65 dX2_burdenOfDuty_51 (by decide) (fun c4 => ?_) (fun c4 => ?_)
  · have hf := (if_neg c4).symm.trans hf
    refine a_iload (pc := 65) dX2_burdenOfDuty_65 rfl ?_
    refine a_sub (sub_d (sub_k (sub_k (sub_d (sub_d sub_n))))) ?_
    exact sX2_burdenOfDuty_67 hd hk hn hf
  · have hf := (if_pos c4).symm.trans hf
    refine a_iload (pc := 54) dX2_burdenOfDuty_54 rfl ?_
    refine a_iload_n (pc := 56) dX2_burdenOfDuty_56 rfl ?_
    refine a_iconst (pc := 57) 5 dX2_burdenOfDuty_57 rfl ?_
    obtain ⟨r3, hr3, hf⟩ := Option.bind_eq_some_iff.mp hf
    refine g_calls (pc := 58) (mc := 0) (ms := 0) (.int r3.1) [.int l0, .int 5] [.int (s0 * r1.1)] dX2_burdenOfDuty_58 ml_X2_41 ms_X2_digit rfl (by omega) (mX2_digit (by omega) hr3) rfl (Nat.le_of_ble_eq_true rfl) hk hn ?_
    refine a_imul (pc := 61) dX2_burdenOfDuty_61 ?_
    refine a_goto (pc := 62) 67 dX2_burdenOfDuty_62 (by decide) ?_
    refine a_sub (sub_d (sub_k (sub_k (sub_d (sub_d sub_n))))) ?_
    exact sX2_burdenOfDuty_67 hd hk hn hf
set_option maxHeartbeats 4000000 in
theorem sX2_burdenOfDuty_0 {l : Launch} {g : gE} {d MC MS' k n : Nat} (hd : 1 ≤ d) (hk : k ≤ MC) (hn : n ≤ MS') {r : Int32 × AH} {S : AH} {l0 : Int32} {l1 : Option Nat} (hf : X2_burdenOfDuty_0 S l0 l1 = some r) : AW l g d RX2 cX2_burdenOfDuty 5 "burdenOfDuty" MC MS' (Qr (some (.int r.1)) r.2) k n 0 [some (.int l0), some (va_rf l1), none, none, none] [] S := by
  unfold X2_burdenOfDuty_0 at hf
  refine a_iload_n (pc := 0) dX2_burdenOfDuty_0 rfl ?_
  refine a_bipush (pc := 1) 10 dX2_burdenOfDuty_1 rfl ?_
  obtain ⟨r1, hr1, hf⟩ := Option.bind_eq_some_iff.mp hf
  refine g_calls (pc := 3) (mc := 0) (ms := 0) (.int r1.1) [.int l0, .int 10] [] dX2_burdenOfDuty_3 ml_X2_41 ms_X2_digit rfl (by omega) (mX2_digit (by omega) hr1) rfl (Nat.le_of_ble_eq_true rfl) hk hn ?_
  refine a_istore_n (pc := 6) (ls' := [some (.int l0), some (va_rf l1), some (.int (r1.1)), none, none]) dX2_burdenOfDuty_6 (by decide) (aSet_ref rfl (va_rf_cat _) rfl) ?_
  refine a_iload_n (pc := 7) dX2_burdenOfDuty_7 rfl ?_
  refine a_bipush (pc := 8) 10 dX2_burdenOfDuty_8 rfl ?_
  refine a_icmp_lt (pc := 10) 21 dX2_burdenOfDuty_10 (by decide) (fun c5 => ?_) (fun c5 => ?_)
  · have hf := (if_pos c5).symm.trans hf
    refine a_iload_n (pc := 21) dX2_burdenOfDuty_21 rfl ?_
    refine a_aload_n (pc := 22) dX2_burdenOfDuty_22 rfl (isRv_rf _) ?_
    obtain ⟨x2, hx2, hf⟩ := Option.bind_eq_some_iff.mp hf
    refine g_alen (pc := 23) dX2_burdenOfDuty_23 hx2 ?_
    refine a_icmp_ge (pc := 24) 33 dX2_burdenOfDuty_24 (by decide) (fun c4 => ?_) (fun c4 => ?_)
    · have hf := (if_pos c4).symm.trans hf
      refine a_iconst (pc := 33) 0 dX2_burdenOfDuty_33 rfl ?_
      refine a_sub (sub_k (sub_d (sub_d (sub_k (sub_k sub_n))))) ?_
      exact sX2_burdenOfDuty_34 hd hk hn hf
    · have hf := (if_neg c4).symm.trans hf
      refine a_aload_n (pc := 27) dX2_burdenOfDuty_27 rfl (isRv_rf _) ?_
      refine a_iload_n (pc := 28) dX2_burdenOfDuty_28 rfl ?_
      obtain ⟨x3, hx3, hf⟩ := Option.bind_eq_some_iff.mp hf
      refine g_iald (pc := 29) dX2_burdenOfDuty_29 hx3 ?_
      refine a_goto (pc := 30) 34 dX2_burdenOfDuty_30 (by decide) ?_
      refine a_sub (sub_k (sub_d (sub_d (sub_k (sub_k sub_n))))) ?_
      exact sX2_burdenOfDuty_34 hd hk hn hf
  · have hf := (if_neg c5).symm.trans hf
    refine a_bipush (pc := 13) 10 dX2_burdenOfDuty_13 rfl ?_
    refine a_iload_n (pc := 15) dX2_burdenOfDuty_15 rfl ?_
    refine a_bipush (pc := 16) 10 dX2_burdenOfDuty_16 rfl ?_
    refine a_isub (pc := 18) dX2_burdenOfDuty_18 ?_
    refine a_imul (pc := 19) dX2_burdenOfDuty_19 ?_
    have hf := Option.some.inj hf
    subst hf
    exact a_ireturn (pc := 20) dX2_burdenOfDuty_20 hk hn ⟨rfl, rfl⟩
set_option maxHeartbeats 4000000 in
theorem mX2_burdenOfDuty {l : Launch} {g : gE} {d : Nat} (hd : 1 ≤ d) {r : Int32 × AH} {S : AH} {l0 : Int32} {l1 : Option Nat} (hf : X2_burdenOfDuty S l0 l1 = some r) : AM l g d yX2_burdenOfDuty cX2_burdenOfDuty 5 (some .int) 0 0 [.int l0, va_rf l1] S (Qr (some (.int r.1)) r.2) := by
  refine AM.of rfl (by cases l1 <;> exact Nat.le_of_ble_eq_true rfl) (fun v h' q => by obtain ⟨rfl, -⟩ := q; exact ⟨_, rfl, rfl⟩) (fun ls e => ?_)
  have e2 : aBeg [.int l0, va_rf l1] 5 = [some (.int l0), some (va_rf l1), none, none, none] := (by cases l1 <;> rfl)
  rw [e2] at e
  subst e
  refine a_sub (sub_k (sub_k (sub_k (sub_k (sub_k (sub_n)))))) ?_
  exact sX2_burdenOfDuty_0 hd (Nat.le_refl _) (Nat.le_refl _) (hf)

-- PencilStrikes$Duties.burdenOf(I[I)I
def X2_burdenOf_53 (rec5 : AH → Nat → Int32 → Option Nat → Int32 → Int32 → Option (Int32 × AH)) (S : AH) (a0 : Nat) (l1 : Int32) (l2 : Option Nat) (l3 : Int32) (l4 : Int32) : Option (Int32 × AH) :=
  rec5 S a0 l1 l2 l3 (l4 + 1)
def X2_burdenOf_5 : Nat → AH → Nat → Int32 → Option Nat → Int32 → Int32 → Option (Int32 × AH)
  | 0, _, _, _, _, _, _ => none
  | fn + 1, S, a0, l1, l2, l3, l4 =>
    (gI S a0 2 1).bind fun x1 =>
    if x1 ≤ l4 then
      some (l3, S)
    else
      (cO S a0 2 (X2_at S a0 l4)).bind fun r2 =>
      (X2_digit r2.2 r2.1 25).bind fun r3 =>
      if r3.1 = l1 then
        (X2_digit r3.2 r2.1 20).bind fun r4 =>
        if r4.1 = 1 then
          (X2_burdenOfDuty r4.2 r2.1 l2).bind fun r5 =>
          X2_burdenOf_53 (X2_burdenOf_5 fn) r5.2 a0 l1 l2 (l3 + r5.1) l4
        else
          X2_burdenOf_53 (X2_burdenOf_5 fn) r4.2 a0 l1 l2 l3 l4
      else
        X2_burdenOf_53 (X2_burdenOf_5 fn) r3.2 a0 l1 l2 l3 l4
def X2_burdenOf_0 (S : AH) (a0 : Nat) (l1 : Int32) (l2 : Option Nat) : Option (Int32 × AH) :=
  X2_burdenOf_5 FU S a0 l1 l2 0 0
def X2_burdenOf (S : AH) (a0 : Nat) (l1 : Int32) (l2 : Option Nat) : Option (Int32 × AH) := X2_burdenOf_0 S a0 l1 l2
set_option maxHeartbeats 4000000 in
theorem sX2_burdenOf_53 {l : Launch} {g : gE} {d MC MS' k n : Nat} {a0 : Nat} (hd : 2 ≤ d) (hk : k ≤ MC) (hn : n ≤ MS') {r : Int32 × AH} {rec5 : AH → Nat → Int32 → Option Nat → Int32 → Int32 → Option (Int32 × AH)} (hlp5 : ∀ (S : AH) (l1 : Int32) (l2 : Option Nat) (l3 : Int32) (l4 : Int32), rec5 S a0 l1 l2 l3 l4 = some r → AW l g d RX2 cX2_burdenOf 6 "burdenOf" MC MS' (Qr (some (.int r.1)) r.2) k n 5 [some (.ref a0), some (.int l1), some (va_rf l2), some (.int l3), some (.int l4), none] [] S) {S : AH} {l1 : Int32} {l2 : Option Nat} {l3 : Int32} {l4 : Int32} (hf : X2_burdenOf_53 rec5 S a0 l1 l2 l3 l4 = some r) : AW l g d RX2 cX2_burdenOf 6 "burdenOf" MC MS' (Qr (some (.int r.1)) r.2) k n 53 [some (.ref a0), some (.int l1), some (va_rf l2), some (.int l3), some (.int l4), none] [] S := by
  unfold X2_burdenOf_53 at hf
  refine a_iinc (pc := 53) (ls' := [some (.ref a0), some (.int l1), some (va_rf l2), some (.int l3), some (.int (l4 + 1)), none]) (l4 + 1) dX2_burdenOf_53 rfl rfl (by decide) rfl ?_
  refine a_goto (pc := 56) 5 dX2_burdenOf_56 (by decide) ?_
  exact hlp5 S l1 l2 l3 (l4 + 1) hf
set_option maxHeartbeats 4000000 in
theorem sX2_burdenOf_5 {l : Launch} {g : gE} {d MC MS' k n : Nat} {a0 : Nat} (hd : 2 ≤ d) (hk : k ≤ MC) (hn : n ≤ MS') {r : Int32 × AH} : ∀ (fn : Nat) (S : AH) (l1 : Int32) (l2 : Option Nat) (l3 : Int32) (l4 : Int32), X2_burdenOf_5 fn S a0 l1 l2 l3 l4 = some r → AW l g d RX2 cX2_burdenOf 6 "burdenOf" MC MS' (Qr (some (.int r.1)) r.2) k n 5 [some (.ref a0), some (.int l1), some (va_rf l2), some (.int l3), some (.int l4), none] [] S := by
  intro fn
  induction fn with
  | zero =>
    intro S l1 l2 l3 l4 hf
    rw [X2_burdenOf_5] at hf
    cases hf
  | succ fn ih =>
    intro S l1 l2 l3 l4 hf
    rw [X2_burdenOf_5] at hf
    refine a_iload (pc := 5) dX2_burdenOf_5 rfl ?_
    refine a_aload_n (pc := 7) dX2_burdenOf_7 rfl (isRv_r _) ?_
    obtain ⟨x1, hx1, hf⟩ := Option.bind_eq_some_iff.mp hf
    refine g_getI (pc := 8) dX2_burdenOf_8 fl_X2_15 hx1 ?_
    refine a_icmp_ge (pc := 11) 59 dX2_burdenOf_11 (by decide) (fun c8 => ?_) (fun c8 => ?_)
    · have hf := (if_pos c8).symm.trans hf
      refine a_iload_n (pc := 59) dX2_burdenOf_59 rfl ?_
      have hf := Option.some.inj hf
      subst hf
      exact a_ireturn (pc := 60) dX2_burdenOf_60 hk hn ⟨rfl, rfl⟩
    · have hf := (if_neg c8).symm.trans hf
      refine a_aload_n (pc := 14) dX2_burdenOf_14 rfl (isRv_r _) ?_
      refine a_iload (pc := 15) dX2_burdenOf_15 rfl ?_
      obtain ⟨r2, hr2, hf⟩ := Option.bind_eq_some_iff.mp hf
      obtain ⟨hor2, hr2⟩ := cO_of hr2
      refine g_call (pc := 17) (mc := 0) (ms := 0) (.int r2.1) [.int l4] [] dX2_burdenOf_17 ml_X2_33 mv_X2_at hor2 (by decide) rfl rfl (by omega) (mX2_at (by omega) hr2) rfl (Nat.le_of_ble_eq_true rfl) hk hn ?_
      refine a_istore (pc := 20) (ls' := [some (.ref a0), some (.int l1), some (va_rf l2), some (.int l3), some (.int l4), some (.int (r2.1))]) dX2_burdenOf_20 (by decide) rfl ?_
      refine a_iload (pc := 22) dX2_burdenOf_22 rfl ?_
      refine a_bipush (pc := 24) 25 dX2_burdenOf_24 rfl ?_
      obtain ⟨r3, hr3, hf⟩ := Option.bind_eq_some_iff.mp hf
      refine g_calls (pc := 26) (mc := 0) (ms := 0) (.int r3.1) [.int (r2.1), .int 25] [] dX2_burdenOf_26 ml_X2_41 ms_X2_digit rfl (by omega) (mX2_digit (by omega) hr3) rfl (Nat.le_of_ble_eq_true rfl) hk hn ?_
      refine a_iload_n (pc := 29) dX2_burdenOf_29 rfl ?_
      refine a_icmp_ne (pc := 30) 53 dX2_burdenOf_30 (by decide) (fun c7 => ?_) (fun c7 => ?_)
      · have hf := (if_neg c7).symm.trans hf
        refine a_sub (sub_k (sub_k (sub_k (sub_k (sub_k (sub_d sub_n)))))) ?_
        exact sX2_burdenOf_53 hd hk hn ih hf
      · have hf := (if_pos c7).symm.trans hf
        refine a_iload (pc := 33) dX2_burdenOf_33 rfl ?_
        refine a_bipush (pc := 35) 20 dX2_burdenOf_35 rfl ?_
        obtain ⟨r4, hr4, hf⟩ := Option.bind_eq_some_iff.mp hf
        refine g_calls (pc := 37) (mc := 0) (ms := 0) (.int r4.1) [.int (r2.1), .int 20] [] dX2_burdenOf_37 ml_X2_41 ms_X2_digit rfl (by omega) (mX2_digit (by omega) hr4) rfl (Nat.le_of_ble_eq_true rfl) hk hn ?_
        refine a_iconst (pc := 40) 1 dX2_burdenOf_40 rfl ?_
        refine a_icmp_ne (pc := 41) 53 dX2_burdenOf_41 (by decide) (fun c6 => ?_) (fun c6 => ?_)
        · have hf := (if_neg c6).symm.trans hf
          refine a_sub (sub_k (sub_k (sub_k (sub_k (sub_k (sub_d sub_n)))))) ?_
          exact sX2_burdenOf_53 hd hk hn ih hf
        · have hf := (if_pos c6).symm.trans hf
          refine a_iload_n (pc := 44) dX2_burdenOf_44 rfl ?_
          refine a_iload (pc := 45) dX2_burdenOf_45 rfl ?_
          refine a_aload_n (pc := 47) dX2_burdenOf_47 rfl (isRv_rf _) ?_
          obtain ⟨r5, hr5, hf⟩ := Option.bind_eq_some_iff.mp hf
          refine g_calls (pc := 48) (mc := 0) (ms := 0) (.int r5.1) [.int (r2.1), va_rf l2] [.int l3] dX2_burdenOf_48 ml_X2_48 ms_X2_burdenOfDuty rfl (by omega) (mX2_burdenOfDuty (by omega) hr5) rfl (Nat.le_of_ble_eq_true rfl) hk hn ?_
          refine a_iadd (pc := 51) dX2_burdenOf_51 ?_
          refine a_istore_n (pc := 52) (ls' := [some (.ref a0), some (.int l1), some (va_rf l2), some (.int (l3 + r5.1)), some (.int l4), some (.int (r2.1))]) dX2_burdenOf_52 (by decide) (aSet_ref rfl (va_rf_cat _) rfl) ?_
          refine a_sub (sub_k (sub_k (sub_k (sub_k (sub_k (sub_d sub_n)))))) ?_
          exact sX2_burdenOf_53 hd hk hn ih hf
set_option maxHeartbeats 4000000 in
theorem sX2_burdenOf_0 {l : Launch} {g : gE} {d MC MS' k n : Nat} {a0 : Nat} (hd : 2 ≤ d) (hk : k ≤ MC) (hn : n ≤ MS') {r : Int32 × AH} {S : AH} {l1 : Int32} {l2 : Option Nat} (hf : X2_burdenOf_0 S a0 l1 l2 = some r) : AW l g d RX2 cX2_burdenOf 6 "burdenOf" MC MS' (Qr (some (.int r.1)) r.2) k n 0 [some (.ref a0), some (.int l1), some (va_rf l2), none, none, none] [] S := by
  unfold X2_burdenOf_0 at hf
  refine a_iconst (pc := 0) 0 dX2_burdenOf_0 rfl ?_
  refine a_istore_n (pc := 1) (ls' := [some (.ref a0), some (.int l1), some (va_rf l2), some (.int 0), none, none]) dX2_burdenOf_1 (by decide) (aSet_ref rfl (va_rf_cat _) rfl) ?_
  refine a_iconst (pc := 2) 0 dX2_burdenOf_2 rfl ?_
  refine a_istore (pc := 3) (ls' := [some (.ref a0), some (.int l1), some (va_rf l2), some (.int 0), some (.int 0), none]) dX2_burdenOf_3 (by decide) rfl ?_
  exact sX2_burdenOf_5 hd hk hn FU S l1 l2 0 0 hf
set_option maxHeartbeats 4000000 in
theorem mX2_burdenOf {l : Launch} {g : gE} {d : Nat} {a0 : Nat} (hd : 2 ≤ d) {r : Int32 × AH} {S : AH} {l1 : Int32} {l2 : Option Nat} (hf : X2_burdenOf S a0 l1 l2 = some r) : AM l g d yX2_burdenOf cX2_burdenOf 6 (some .int) 0 0 [.ref a0, .int l1, va_rf l2] S (Qr (some (.int r.1)) r.2) := by
  refine AM.of rfl (by cases l2 <;> exact Nat.le_of_ble_eq_true rfl) (fun v h' q => by obtain ⟨rfl, -⟩ := q; exact ⟨_, rfl, rfl⟩) (fun ls e => ?_)
  have e2 : aBeg [.ref a0, .int l1, va_rf l2] 6 = [some (.ref a0), some (.int l1), some (va_rf l2), none, none, none] := (by cases l2 <;> rfl)
  rw [e2] at e
  subst e
  refine a_sub (sub_k (sub_k (sub_k (sub_k (sub_k (sub_k (sub_n))))))) ?_
  exact sX2_burdenOf_0 hd (Nat.le_refl _) (Nat.le_refl _) (hf)

-- PencilStrikes$Duties.costFor(I[I)I
def X2_costFor_0 (S : AH) (a0 : Nat) (l1 : Int32) (l2 : Option Nat) : Option (Int32 × AH) :=
  (cO S a0 2 (X2_burdenOf S a0 l1 l2)).bind fun r1 =>
  (cO r1.2 a0 2 (X2_burdenOf r1.2 a0 (1 - l1) l2)).bind fun r2 =>
  some ((r1.1 - (r2.1 / 2)), r2.2)
def X2_costFor (S : AH) (a0 : Nat) (l1 : Int32) (l2 : Option Nat) : Option (Int32 × AH) := X2_costFor_0 S a0 l1 l2
set_option maxHeartbeats 4000000 in
theorem sX2_costFor_0 {l : Launch} {g : gE} {d MC MS' k n : Nat} {a0 : Nat} (hd : 3 ≤ d) (hk : k ≤ MC) (hn : n ≤ MS') {r : Int32 × AH} {S : AH} {l1 : Int32} {l2 : Option Nat} (hf : X2_costFor_0 S a0 l1 l2 = some r) : AW l g d RX2 cX2_costFor 3 "costFor" MC MS' (Qr (some (.int r.1)) r.2) k n 0 [some (.ref a0), some (.int l1), some (va_rf l2)] [] S := by
  unfold X2_costFor_0 at hf
  refine a_aload_n (pc := 0) dX2_costFor_0 rfl (isRv_r _) ?_
  refine a_iload_n (pc := 1) dX2_costFor_1 rfl ?_
  refine a_aload_n (pc := 2) dX2_costFor_2 rfl (isRv_rf _) ?_
  obtain ⟨r1, hr1, hf⟩ := Option.bind_eq_some_iff.mp hf
  obtain ⟨hor1, hr1⟩ := cO_of hr1
  refine g_call (pc := 3) (mc := 0) (ms := 0) (.int r1.1) [.int l1, va_rf l2] [] dX2_costFor_3 ml_X2_44 mv_X2_burdenOf hor1 (by decide) rfl rfl (by omega) (mX2_burdenOf (by omega) hr1) rfl (Nat.le_of_ble_eq_true rfl) hk hn ?_
  refine a_aload_n (pc := 6) dX2_costFor_6 rfl (isRv_r _) ?_
  refine a_iconst (pc := 7) 1 dX2_costFor_7 rfl ?_
  refine a_iload_n (pc := 8) dX2_costFor_8 rfl ?_
  refine a_isub (pc := 9) dX2_costFor_9 ?_
  refine a_aload_n (pc := 10) dX2_costFor_10 rfl (isRv_rf _) ?_
  obtain ⟨r2, hr2, hf⟩ := Option.bind_eq_some_iff.mp hf
  obtain ⟨hor2, hr2⟩ := cO_of hr2
  refine g_call (pc := 11) (mc := 0) (ms := 0) (.int r2.1) [.int (1 - l1), va_rf l2] [.int (r1.1)] dX2_costFor_11 ml_X2_44 mv_X2_burdenOf hor2 (by decide) rfl rfl (by omega) (mX2_burdenOf (by omega) hr2) rfl (Nat.le_of_ble_eq_true rfl) hk hn ?_
  refine a_iconst (pc := 14) 2 dX2_costFor_14 rfl ?_
  refine a_idiv (pc := 15) dX2_costFor_15 (by decide) ?_
  refine a_isub (pc := 16) dX2_costFor_16 ?_
  have hf := Option.some.inj hf
  subst hf
  exact a_ireturn (pc := 17) dX2_costFor_17 hk hn ⟨rfl, rfl⟩
set_option maxHeartbeats 4000000 in
theorem mX2_costFor {l : Launch} {g : gE} {d : Nat} {a0 : Nat} (hd : 3 ≤ d) {r : Int32 × AH} {S : AH} {l1 : Int32} {l2 : Option Nat} (hf : X2_costFor S a0 l1 l2 = some r) : AM l g d yX2_costFor cX2_costFor 3 (some .int) 0 0 [.ref a0, .int l1, va_rf l2] S (Qr (some (.int r.1)) r.2) := by
  refine AM.of rfl (by cases l2 <;> exact Nat.le_of_ble_eq_true rfl) (fun v h' q => by obtain ⟨rfl, -⟩ := q; exact ⟨_, rfl, rfl⟩) (fun ls e => ?_)
  have e2 : aBeg [.ref a0, .int l1, va_rf l2] 3 = [some (.ref a0), some (.int l1), some (va_rf l2)] := (by cases l2 <;> rfl)
  rw [e2] at e
  subst e
  refine a_sub (sub_k (sub_k (sub_k (sub_n)))) ?_
  exact sX2_costFor_0 hd (Nat.le_refl _) (Nat.le_refl _) (hf)

-- PencilStrikes.cost(III)J
def X7_cost_30 (S : AH) (a0 : Nat) : Option (Int64 × AH) :=
  some ((-9223372036854775808 : Int64), S)
def X7_cost_0 (S : AH) (a0 : Nat) (l1 : Int32) (l2 : Int32) (l3 : Int32) : Option (Int64 × AH) :=
  (cO S a0 7 (X7_bargainOf S a0 l1)).bind fun r1 => prp r1 fun zq2 zq2S =>
  ifn zq2 (
    X7_cost_30 zq2S a0) fun a3 =>
  if l3 < 0 then
    X7_cost_30 zq2S a0
  else
    if 1 < l3 then
      X7_cost_30 zq2S a0
    else
      (cO zq2S a3 1 (X1_isReadable zq2S a3 l2)).bind fun r4 =>
      if r4.1 = 0 then
        X7_cost_30 r4.2 a0
      else
        (gQ r4.2 a0 7 7).bind fun x5 =>
        (cO r4.2 a3 1 (X1_tellDuties r4.2 a3 l2 x5)).bind fun r6 =>
        (gQ r6.2 a0 7 7).bind fun x7 =>
        (gQ r6.2 a0 7 4).bind fun x8 =>
        (x7).bind fun a9 =>
        (cO r6.2 a9 2 (X2_costFor r6.2 a9 l3 x8)).bind fun r10 =>
        some (((r10.1).toInt64), r10.2)
def X7_cost (S : AH) (a0 : Nat) (l1 : Int32) (l2 : Int32) (l3 : Int32) : Option (Int64 × AH) := X7_cost_0 S a0 l1 l2 l3
set_option maxHeartbeats 4000000 in
theorem sX7_cost_30 {l : Launch} {g : gE} {d MC MS' k n : Nat} {a0 : Nat} (hd : 4 ≤ d) (hk : k ≤ MC) (hn : n ≤ MS') {r : Int64 × AH} {S : AH} (hf : X7_cost_30 S a0 = some r) : AW l g d RX7 cX7_cost 5 "cost" MC MS' (Qr (some (.long r.1)) r.2) k n 30 [none, none, none, none, none] [] S := by
  unfold X7_cost_30 at hf
  refine a_ldc2 (pc := 30) (-9223372036854775808 : Int64) dX7_cost_30 kc_X7_107 ?_
  have hf := Option.some.inj hf
  subst hf
  exact a_lreturn (pc := 33) dX7_cost_33 hk hn ⟨rfl, rfl⟩
set_option maxHeartbeats 4000000 in
theorem sX7_cost_0 {l : Launch} {g : gE} {d MC MS' k n : Nat} {a0 : Nat} (hd : 4 ≤ d) (hk : k ≤ MC) (hn : n ≤ MS') {r : Int64 × AH} {S : AH} {l1 : Int32} {l2 : Int32} {l3 : Int32} (hf : X7_cost_0 S a0 l1 l2 l3 = some r) : AW l g d RX7 cX7_cost 5 "cost" MC MS' (Qr (some (.long r.1)) r.2) k n 0 [some (.ref a0), some (.int l1), some (.int l2), some (.int l3), none] [] S := by
  unfold X7_cost_0 at hf
  refine a_aload_n (pc := 0) dX7_cost_0 rfl (isRv_r _) ?_
  refine a_iload_n (pc := 1) dX7_cost_1 rfl ?_
  obtain ⟨r1, hr1, hf⟩ := Option.bind_eq_some_iff.mp hf
  obtain ⟨zq2, zq2S⟩ := r1
  have hf := (prp_of _ _ _).symm.trans hf
  obtain ⟨hor1, hr1⟩ := cO_of hr1
  refine g_call (pc := 2) (mc := 0) (ms := 0) (va_rf zq2) [.int l1] [] dX7_cost_2 ml_X7_91 mv_X7_bargainOf hor1 (by decide) rfl rfl (by omega) (mX7_bargainOf (by omega) hr1) rfl (Nat.le_of_ble_eq_true rfl) hk hn ?_
  refine a_astore (pc := 5) (ls' := [some (.ref a0), some (.int l1), some (.int l2), some (.int l3), some (va_rf zq2)]) dX7_cost_5 (by decide) (isRv_rf _) rfl ?_
  refine a_aload (pc := 7) dX7_cost_7 rfl (isRv_rf _) ?_
  cases zq2 with
  | none =>
    have hf := (ifn_none _ _).symm.trans hf
    refine a_ifnullN (pc := 9) 30 dX7_cost_9 (by decide) ?_
    refine a_sub (sub_d (sub_d (sub_d (sub_d (sub_d sub_n))))) ?_
    exact sX7_cost_30 hd hk hn hf
  | some a3 =>
    have hf := (ifn_some _ _ _).symm.trans hf
    refine a_ifnull (pc := 9) dX7_cost_9 ?_
    refine a_iload_n (pc := 12) dX7_cost_12 rfl ?_
    refine a_if_lt (pc := 13) 30 dX7_cost_13 (by decide) (fun c13 => ?_) (fun c13 => ?_)
    · have hf := (if_pos c13).symm.trans hf
      refine a_sub (sub_d (sub_d (sub_d (sub_d (sub_d sub_n))))) ?_
      exact sX7_cost_30 hd hk hn hf
    · have hf := (if_neg c13).symm.trans hf
      refine a_iload_n (pc := 16) dX7_cost_16 rfl ?_
      refine a_iconst (pc := 17) 1 dX7_cost_17 rfl ?_
      refine a_icmp_gt (pc := 18) 30 dX7_cost_18 (by decide) (fun c12 => ?_) (fun c12 => ?_)
      · have hf := (if_pos c12).symm.trans hf
        refine a_sub (sub_d (sub_d (sub_d (sub_d (sub_d sub_n))))) ?_
        exact sX7_cost_30 hd hk hn hf
      · have hf := (if_neg c12).symm.trans hf
        refine a_aload (pc := 21) dX7_cost_21 rfl (isRv_r _) ?_
        refine a_iload_n (pc := 23) dX7_cost_23 rfl ?_
        obtain ⟨r4, hr4, hf⟩ := Option.bind_eq_some_iff.mp hf
        obtain ⟨hor4, hr4⟩ := cO_of hr4
        refine g_call (pc := 24) (mc := 0) (ms := 0) (.int r4.1) [.int l2] [] dX7_cost_24 ml_X7_104 mv_X1_isReadable hor4 (by decide) rfl rfl (by omega) (mX1_isReadable (by omega) hr4) rfl (Nat.le_of_ble_eq_true rfl) hk hn ?_
        refine a_if_ne (pc := 27) 34 dX7_cost_27 (by decide) (fun c11 => ?_) (fun c11 => ?_)
        · have hf := (if_neg c11).symm.trans hf
          refine a_aload (pc := 34) dX7_cost_34 rfl (isRv_r _) ?_
          refine a_iload_n (pc := 36) dX7_cost_36 rfl ?_
          refine a_aload_n (pc := 37) dX7_cost_37 rfl (isRv_r _) ?_
          obtain ⟨x5, hx5, hf⟩ := Option.bind_eq_some_iff.mp hf
          refine g_getQ (pc := 38) dX7_cost_38 fl_X7_57 hx5 ?_
          obtain ⟨r6, hr6, hf⟩ := Option.bind_eq_some_iff.mp hf
          obtain ⟨hor6, hr6⟩ := cO_of hr6
          refine g_callv (pc := 41) (mc := 0) (ms := 0) [.int l2, va_rf x5] [] dX7_cost_41 ml_X7_109 mv_X1_tellDuties hor6 (by decide) rfl rfl (by omega) (mX1_tellDuties (by omega) hr6) rfl (Nat.le_of_ble_eq_true rfl) hk hn ?_
          refine a_aload_n (pc := 44) dX7_cost_44 rfl (isRv_r _) ?_
          obtain ⟨x7, hx7, hf⟩ := Option.bind_eq_some_iff.mp hf
          refine g_getQ (pc := 45) dX7_cost_45 fl_X7_57 hx7 ?_
          refine a_iload_n (pc := 48) dX7_cost_48 rfl ?_
          refine a_aload_n (pc := 49) dX7_cost_49 rfl (isRv_r _) ?_
          obtain ⟨x8, hx8, hf⟩ := Option.bind_eq_some_iff.mp hf
          refine g_getQ (pc := 50) dX7_cost_50 fl_X7_37 hx8 ?_
          obtain ⟨a9, ha9, hf⟩ := Option.bind_eq_some_iff.mp hf
          rw [ha9]
          obtain ⟨r10, hr10, hf⟩ := Option.bind_eq_some_iff.mp hf
          obtain ⟨hor10, hr10⟩ := cO_of hr10
          refine g_call (pc := 53) (mc := 0) (ms := 0) (.int r10.1) [.int l3, va_rf x8] [] dX7_cost_53 ml_X7_162 mv_X2_costFor hor10 (by decide) rfl rfl (by omega) (mX2_costFor (by omega) hr10) rfl (Nat.le_of_ble_eq_true rfl) hk hn ?_
          refine a_i2l (pc := 56) dX7_cost_56 ?_
          have hf := Option.some.inj hf
          subst hf
          exact a_lreturn (pc := 57) dX7_cost_57 hk hn ⟨rfl, rfl⟩
        · have hf := (if_pos c11).symm.trans hf
          refine a_sub (sub_d (sub_d (sub_d (sub_d (sub_d sub_n))))) ?_
          exact sX7_cost_30 hd hk hn hf
set_option maxHeartbeats 4000000 in
theorem mX7_cost {l : Launch} {g : gE} {d : Nat} {a0 : Nat} (hd : 4 ≤ d) {r : Int64 × AH} {S : AH} {l1 : Int32} {l2 : Int32} {l3 : Int32} (hf : X7_cost S a0 l1 l2 l3 = some r) : AM l g d yX7_cost cX7_cost 5 (some .long) 0 0 [.ref a0, .int l1, .int l2, .int l3] S (Qr (some (.long r.1)) r.2) := by
  refine AM.of rfl (by exact Nat.le_of_ble_eq_true rfl) (fun v h' q => by obtain ⟨rfl, -⟩ := q; rfl) (fun ls e => ?_)
  have e2 : aBeg [.ref a0, .int l1, .int l2, .int l3] 5 = [some (.ref a0), some (.int l1), some (.int l2), some (.int l3), none] := rfl
  rw [e2] at e
  subst e
  refine a_sub (sub_k (sub_k (sub_k (sub_k (sub_k (sub_n)))))) ?_
  exact sX7_cost_0 hd (Nat.le_refl _) (Nat.le_refl _) (hf)

-- PencilStrikes.weightFor(LPencilStrikes$Bargain;II)I
def X7_weightFor_0 (S : AH) (a0 : Nat) (l1 : Option Nat) (l2 : Int32) (l3 : Int32) : Option (Int32 × AH) :=
  (gQ S a0 7 7).bind fun x1 =>
  (l1).bind fun a2 =>
  (cO S a2 1 (X1_tellDuties S a2 l2 x1)).bind fun r3 =>
  if l3 = 2 then
    (gQ r3.2 a0 7 7).bind fun x4 =>
    (gQ r3.2 a0 7 4).bind fun x5 =>
    (x4).bind fun a6 =>
    (cO r3.2 a6 2 (X2_costFor r3.2 a6 0 x5)).bind fun r7 =>
    (gQ r7.2 a0 7 7).bind fun x8 =>
    (gQ r7.2 a0 7 4).bind fun x9 =>
    (x8).bind fun a10 =>
    (cO r7.2 a10 2 (X2_costFor r7.2 a10 1 x9)).bind fun r11 =>
    some ((if 0 ≤ (r7.1 - r11.1) then (r7.1 - r11.1) else 0 - (r7.1 - r11.1)), r11.2)
  else
    (gQ r3.2 a0 7 7).bind fun x13 =>
    (gQ r3.2 a0 7 4).bind fun x14 =>
    (x13).bind fun a15 =>
    (cO r3.2 a15 2 (X2_costFor r3.2 a15 l3 x14)).bind fun r16 =>
    some (r16.1, r16.2)
def X7_weightFor (S : AH) (a0 : Nat) (l1 : Option Nat) (l2 : Int32) (l3 : Int32) : Option (Int32 × AH) := X7_weightFor_0 S a0 l1 l2 l3
set_option maxHeartbeats 4000000 in
theorem sX7_weightFor_0 {l : Launch} {g : gE} {d MC MS' k n : Nat} {a0 : Nat} (hd : 4 ≤ d) (hk : k ≤ MC) (hn : n ≤ MS') {r : Int32 × AH} {S : AH} {l1 : Option Nat} {l2 : Int32} {l3 : Int32} (hf : X7_weightFor_0 S a0 l1 l2 l3 = some r) : AW l g d RX7 cX7_weightFor 4 "weightFor" MC MS' (Qr (some (.int r.1)) r.2) k n 0 [some (.ref a0), some (va_rf l1), some (.int l2), some (.int l3)] [] S := by
  unfold X7_weightFor_0 at hf
  refine a_aload_n (pc := 0) dX7_weightFor_0 rfl (isRv_rf _) ?_
  refine a_iload_n (pc := 1) dX7_weightFor_1 rfl ?_
  refine a_aload_n (pc := 2) dX7_weightFor_2 rfl (isRv_r _) ?_
  obtain ⟨x1, hx1, hf⟩ := Option.bind_eq_some_iff.mp hf
  refine g_getQ (pc := 3) dX7_weightFor_3 fl_X7_57 hx1 ?_
  obtain ⟨a2, ha2, hf⟩ := Option.bind_eq_some_iff.mp hf
  rw [ha2]
  obtain ⟨r3, hr3, hf⟩ := Option.bind_eq_some_iff.mp hf
  obtain ⟨hor3, hr3⟩ := cO_of hr3
  refine g_callv (pc := 6) (mc := 0) (ms := 0) [.int l2, va_rf x1] [] dX7_weightFor_6 ml_X7_109 mv_X1_tellDuties hor3 (by decide) rfl rfl (by omega) (mX1_tellDuties (by omega) hr3) rfl (Nat.le_of_ble_eq_true rfl) hk hn ?_
  refine a_iload_n (pc := 9) dX7_weightFor_9 rfl ?_
  refine a_iconst (pc := 10) 2 dX7_weightFor_10 rfl ?_
  refine a_icmp_eq (pc := 11) 27 dX7_weightFor_11 (by decide) (fun c17 => ?_) (fun c17 => ?_)
  · have hf := (if_pos c17).symm.trans hf
    refine a_aload_n (pc := 27) dX7_weightFor_27 rfl (isRv_r _) ?_
    obtain ⟨x4, hx4, hf⟩ := Option.bind_eq_some_iff.mp hf
    refine g_getQ (pc := 28) dX7_weightFor_28 fl_X7_57 hx4 ?_
    refine a_iconst (pc := 31) 0 dX7_weightFor_31 rfl ?_
    refine a_aload_n (pc := 32) dX7_weightFor_32 rfl (isRv_r _) ?_
    obtain ⟨x5, hx5, hf⟩ := Option.bind_eq_some_iff.mp hf
    refine g_getQ (pc := 33) dX7_weightFor_33 fl_X7_37 hx5 ?_
    obtain ⟨a6, ha6, hf⟩ := Option.bind_eq_some_iff.mp hf
    rw [ha6]
    obtain ⟨r7, hr7, hf⟩ := Option.bind_eq_some_iff.mp hf
    obtain ⟨hor7, hr7⟩ := cO_of hr7
    refine g_call (pc := 36) (mc := 0) (ms := 0) (.int r7.1) [.int 0, va_rf x5] [] dX7_weightFor_36 ml_X7_162 mv_X2_costFor hor7 (by decide) rfl rfl (by omega) (mX2_costFor (by omega) hr7) rfl (Nat.le_of_ble_eq_true rfl) hk hn ?_
    refine a_aload_n (pc := 39) dX7_weightFor_39 rfl (isRv_r _) ?_
    obtain ⟨x8, hx8, hf⟩ := Option.bind_eq_some_iff.mp hf
    refine g_getQ (pc := 40) dX7_weightFor_40 fl_X7_57 hx8 ?_
    refine a_iconst (pc := 43) 1 dX7_weightFor_43 rfl ?_
    refine a_aload_n (pc := 44) dX7_weightFor_44 rfl (isRv_r _) ?_
    obtain ⟨x9, hx9, hf⟩ := Option.bind_eq_some_iff.mp hf
    refine g_getQ (pc := 45) dX7_weightFor_45 fl_X7_37 hx9 ?_
    obtain ⟨a10, ha10, hf⟩ := Option.bind_eq_some_iff.mp hf
    rw [ha10]
    obtain ⟨r11, hr11, hf⟩ := Option.bind_eq_some_iff.mp hf
    obtain ⟨hor11, hr11⟩ := cO_of hr11
    refine g_call (pc := 48) (mc := 0) (ms := 0) (.int r11.1) [.int 1, va_rf x9] [.int (r7.1)] dX7_weightFor_48 ml_X7_162 mv_X2_costFor hor11 (by decide) rfl rfl (by omega) (mX2_costFor (by omega) hr11) rfl (Nat.le_of_ble_eq_true rfl) hk hn ?_
    refine a_isub (pc := 51) dX7_weightFor_51 ?_
    refine a_mabs (pc := 52) dX7_weightFor_52 ml_X7_246 (Nat.le_of_ble_eq_true rfl) hk hn ?_
    have hf := Option.some.inj hf
    subst hf
    exact a_ireturn (pc := 55) dX7_weightFor_55 hk hn ⟨rfl, rfl⟩
  · have hf := (if_neg c17).symm.trans hf
    refine a_aload_n (pc := 14) dX7_weightFor_14 rfl (isRv_r _) ?_
    obtain ⟨x13, hx13, hf⟩ := Option.bind_eq_some_iff.mp hf
    refine g_getQ (pc := 15) dX7_weightFor_15 fl_X7_57 hx13 ?_
    refine a_iload_n (pc := 18) dX7_weightFor_18 rfl ?_
    refine a_aload_n (pc := 19) dX7_weightFor_19 rfl (isRv_r _) ?_
    obtain ⟨x14, hx14, hf⟩ := Option.bind_eq_some_iff.mp hf
    refine g_getQ (pc := 20) dX7_weightFor_20 fl_X7_37 hx14 ?_
    obtain ⟨a15, ha15, hf⟩ := Option.bind_eq_some_iff.mp hf
    rw [ha15]
    obtain ⟨r16, hr16, hf⟩ := Option.bind_eq_some_iff.mp hf
    obtain ⟨hor16, hr16⟩ := cO_of hr16
    refine g_call (pc := 23) (mc := 0) (ms := 0) (.int r16.1) [.int l3, va_rf x14] [] dX7_weightFor_23 ml_X7_162 mv_X2_costFor hor16 (by decide) rfl rfl (by omega) (mX2_costFor (by omega) hr16) rfl (Nat.le_of_ble_eq_true rfl) hk hn ?_
    have hf := Option.some.inj hf
    subst hf
    exact a_ireturn (pc := 26) dX7_weightFor_26 hk hn ⟨rfl, rfl⟩
set_option maxHeartbeats 4000000 in
theorem mX7_weightFor {l : Launch} {g : gE} {d : Nat} {a0 : Nat} (hd : 4 ≤ d) {r : Int32 × AH} {S : AH} {l1 : Option Nat} {l2 : Int32} {l3 : Int32} (hf : X7_weightFor S a0 l1 l2 l3 = some r) : AM l g d yX7_weightFor cX7_weightFor 4 (some .int) 0 0 [.ref a0, va_rf l1, .int l2, .int l3] S (Qr (some (.int r.1)) r.2) := by
  refine AM.of rfl (by cases l1 <;> exact Nat.le_of_ble_eq_true rfl) (fun v h' q => by obtain ⟨rfl, -⟩ := q; exact ⟨_, rfl, rfl⟩) (fun ls e => ?_)
  have e2 : aBeg [.ref a0, va_rf l1, .int l2, .int l3] 4 = [some (.ref a0), some (va_rf l1), some (.int l2), some (.int l3)] := (by cases l1 <;> rfl)
  rw [e2] at e
  subst e
  refine a_sub (sub_k (sub_k (sub_k (sub_k (sub_n))))) ?_
  exact sX7_weightFor_0 hd (Nat.le_refl _) (Nat.le_refl _) (hf)

-- PencilStrikes.dear(IIII)I
def X7_dear_42 (S : AH) (a0 : Nat) : Option (Int32 × AH) :=
  some ((-1), S)
def X7_dear_159 (rec54 : AH → Nat → Int32 → Int32 → Option Nat → Option Nat → Int32 → Int32 → Int32 → Option (Int32 × AH)) (S : AH) (a0 : Nat) (l1 : Int32) (l4 : Int32) (l5 : Option Nat) (l6 : Option Nat) (l7 : Int32) (l8 : Int32) (l9 : Int32) : Option (Int32 × AH) :=
  rec54 S a0 l1 l4 l5 l6 l7 l8 (l9 + 1)
def X7_dear_151 (rec54 : AH → Nat → Int32 → Int32 → Option Nat → Option Nat → Int32 → Int32 → Int32 → Option (Int32 × AH)) (S : AH) (a0 : Nat) (l1 : Int32) (l4 : Int32) (l5 : Option Nat) (l6 : Option Nat) (l9 : Int32) (l10 : Int32) (l11 : Int32) : Option (Int32 × AH) :=
  X7_dear_159 rec54 S a0 l1 l4 l5 l6 l10 l11 l9
def X7_dear_125 (rec54 : AH → Nat → Int32 → Int32 → Option Nat → Option Nat → Int32 → Int32 → Int32 → Option (Int32 × AH)) (S : AH) (a0 : Nat) (s0 : Int32) (l1 : Int32) (l4 : Int32) (l5 : Option Nat) (l6 : Option Nat) (l7 : Int32) (l8 : Int32) (l9 : Int32) (l10 : Int32) (l11 : Int32) : Option (Int32 × AH) :=
  if l7 < 0 then
    X7_dear_151 rec54 S a0 l1 l4 l5 l6 l9 l10 l11
  else
    if l11 < l8 then
      X7_dear_151 rec54 S a0 l1 l4 l5 l6 l9 l10 l11
    else
      if l11 = l8 then
        if s0 = 0 then
          X7_dear_159 rec54 S a0 l1 l4 l5 l6 l7 l8 l9
        else
          X7_dear_151 rec54 S a0 l1 l4 l5 l6 l9 l10 l11
      else
        X7_dear_159 rec54 S a0 l1 l4 l5 l6 l7 l8 l9
def X7_dear_124 (rec54 : AH → Nat → Int32 → Int32 → Option Nat → Option Nat → Int32 → Int32 → Int32 → Option (Int32 × AH)) (S : AH) (a0 : Nat) (l1 : Int32) (l4 : Int32) (l5 : Option Nat) (l6 : Option Nat) (l7 : Int32) (l8 : Int32) (l9 : Int32) (l10 : Int32) (l11 : Int32) : Option (Int32 × AH) :=
  X7_dear_125 rec54 S a0 0 l1 l4 l5 l6 l7 l8 l9 l10 l11
def X7_dear_54 : Nat → AH → Nat → Int32 → Int32 → Option Nat → Option Nat → Int32 → Int32 → Int32 → Option (Int32 × AH)
  | 0, _, _, _, _, _, _, _, _, _ => none
  | fn + 1, S, a0, l1, l4, l5, l6, l7, l8, l9 =>
    (l5).bind fun a1 =>
    (cO S a1 1 (X1_readings S a1)).bind fun r2 =>
    if r2.1 ≤ l9 then
      some (l7, r2.2)
    else
      (cO r2.2 a1 1 (X1_readingAt r2.2 a1 l9)).bind fun r3 =>
      (cO r3.2 a0 7 (X7_isGood r3.2 a0 l1 (some a1) l6 r3.1)).bind fun r4 =>
      if r4.1 = 0 then
        X7_dear_159 (X7_dear_54 fn) r4.2 a0 l1 l4 (some a1) l6 l7 l8 l9
      else
        (cO r4.2 a0 7 (X7_weightFor r4.2 a0 (some a1) r3.1 l4)).bind fun r5 =>
        if l7 < 0 then
          X7_dear_124 (X7_dear_54 fn) r5.2 a0 l1 l4 (some a1) l6 l7 l8 l9 r3.1 r5.1
        else
          (J6_bitCount_0f7a4 r5.2 r3.1).bind fun r6 =>
          (J6_bitCount_0f7a4 r6.2 l7).bind fun r7 =>
          if r7.1 ≤ r6.1 then
            X7_dear_124 (X7_dear_54 fn) r7.2 a0 l1 l4 (some a1) l6 l7 l8 l9 r3.1 r5.1
          else
            X7_dear_125 (X7_dear_54 fn) r7.2 a0 1 l1 l4 (some a1) l6 l7 l8 l9 r3.1 r5.1
def X7_dear_0 (S : AH) (a0 : Nat) (l1 : Int32) (l2 : Int32) (l3 : Int32) (l4 : Int32) : Option (Int32 × AH) :=
  (cO S a0 7 (X7_bargainOf S a0 l2)).bind fun r1 => prp r1 fun zq2 zq2S =>
  (cO zq2S a0 7 (X7_lawOf zq2S a0 l3)).bind fun r3 => prp r3 fun zq4 zq4S =>
  (X7_isKind zq4S l1).bind fun r5 =>
  if r5.1 = 0 then
    X7_dear_42 r5.2 a0
  else
    ifn zq2 (
      X7_dear_42 r5.2 a0) fun a6 =>
    ifn zq4 (
      X7_dear_42 r5.2 a0) fun a7 =>
    if l4 < 0 then
      X7_dear_42 r5.2 a0
    else
      if l4 ≤ 2 then
        X7_dear_54 FU r5.2 a0 l1 l4 (some a6) (some a7) (-5) 0 0
      else
        X7_dear_42 r5.2 a0
def X7_dear (S : AH) (a0 : Nat) (l1 : Int32) (l2 : Int32) (l3 : Int32) (l4 : Int32) : Option (Int32 × AH) := X7_dear_0 S a0 l1 l2 l3 l4
set_option maxHeartbeats 4000000 in
theorem sX7_dear_42 {l : Launch} {g : gE} {d MC MS' k n : Nat} {a0 : Nat} (hd : 6 ≤ d) (hk : k ≤ MC) (hn : n ≤ MS') {r : Int32 × AH} {S : AH} (hf : X7_dear_42 S a0 = some r) : AW l g d RX7 cX7_dear 13 "dear" MC MS' (Qr (some (.int r.1)) r.2) k n 42 [none, none, none, none, none, none, none, none, none, none, none, none, none] [] S := by
  unfold X7_dear_42 at hf
  refine a_iconst (pc := 42) (-1) dX7_dear_42 rfl ?_
  have hf := Option.some.inj hf
  subst hf
  exact a_ireturn (pc := 43) dX7_dear_43 hk hn ⟨rfl, rfl⟩
set_option maxHeartbeats 4000000 in
theorem sX7_dear_159 {l : Launch} {g : gE} {d MC MS' k n : Nat} {a0 : Nat} (hd : 6 ≤ d) (hk : k ≤ MC) (hn : n ≤ MS') {r : Int32 × AH} {rec54 : AH → Nat → Int32 → Int32 → Option Nat → Option Nat → Int32 → Int32 → Int32 → Option (Int32 × AH)} (hlp54 : ∀ (S : AH) (l1 : Int32) (l4 : Int32) (l5 : Option Nat) (l6 : Option Nat) (l7 : Int32) (l8 : Int32) (l9 : Int32), rec54 S a0 l1 l4 l5 l6 l7 l8 l9 = some r → AW l g d RX7 cX7_dear 13 "dear" MC MS' (Qr (some (.int r.1)) r.2) k n 54 [some (.ref a0), some (.int l1), none, none, some (.int l4), some (va_rf l5), some (va_rf l6), some (.int l7), some (.int l8), some (.int l9), none, none, none] [] S) {S : AH} {l1 : Int32} {l4 : Int32} {l5 : Option Nat} {l6 : Option Nat} {l7 : Int32} {l8 : Int32} {l9 : Int32} (hf : X7_dear_159 rec54 S a0 l1 l4 l5 l6 l7 l8 l9 = some r) : AW l g d RX7 cX7_dear 13 "dear" MC MS' (Qr (some (.int r.1)) r.2) k n 159 [some (.ref a0), some (.int l1), none, none, some (.int l4), some (va_rf l5), some (va_rf l6), some (.int l7), some (.int l8), some (.int l9), none, none, none] [] S := by
  unfold X7_dear_159 at hf
  refine a_iinc (pc := 159) (ls' := [some (.ref a0), some (.int l1), none, none, some (.int l4), some (va_rf l5), some (va_rf l6), some (.int l7), some (.int l8), some (.int (l9 + 1)), none, none, none]) (l9 + 1) dX7_dear_159 rfl rfl (by decide) rfl ?_
  refine a_goto (pc := 162) 54 dX7_dear_162 (by decide) ?_
  exact hlp54 S l1 l4 l5 l6 l7 l8 (l9 + 1) hf
set_option maxHeartbeats 4000000 in
theorem sX7_dear_151 {l : Launch} {g : gE} {d MC MS' k n : Nat} {a0 : Nat} (hd : 6 ≤ d) (hk : k ≤ MC) (hn : n ≤ MS') {r : Int32 × AH} {rec54 : AH → Nat → Int32 → Int32 → Option Nat → Option Nat → Int32 → Int32 → Int32 → Option (Int32 × AH)} (hlp54 : ∀ (S : AH) (l1 : Int32) (l4 : Int32) (l5 : Option Nat) (l6 : Option Nat) (l7 : Int32) (l8 : Int32) (l9 : Int32), rec54 S a0 l1 l4 l5 l6 l7 l8 l9 = some r → AW l g d RX7 cX7_dear 13 "dear" MC MS' (Qr (some (.int r.1)) r.2) k n 54 [some (.ref a0), some (.int l1), none, none, some (.int l4), some (va_rf l5), some (va_rf l6), some (.int l7), some (.int l8), some (.int l9), none, none, none] [] S) {S : AH} {l1 : Int32} {l4 : Int32} {l5 : Option Nat} {l6 : Option Nat} {l9 : Int32} {l10 : Int32} {l11 : Int32} (hf : X7_dear_151 rec54 S a0 l1 l4 l5 l6 l9 l10 l11 = some r) : AW l g d RX7 cX7_dear 13 "dear" MC MS' (Qr (some (.int r.1)) r.2) k n 151 [some (.ref a0), some (.int l1), none, none, some (.int l4), some (va_rf l5), some (va_rf l6), none, none, some (.int l9), some (.int l10), some (.int l11), none] [] S := by
  unfold X7_dear_151 at hf
  refine a_iload (pc := 151) dX7_dear_151 rfl ?_
  refine a_istore (pc := 153) (ls' := [some (.ref a0), some (.int l1), none, none, some (.int l4), some (va_rf l5), some (va_rf l6), some (.int l10), none, some (.int l9), some (.int l10), some (.int l11), none]) dX7_dear_153 (by decide) (aSet_ref rfl (va_rf_cat _) rfl) ?_
  refine a_iload (pc := 155) dX7_dear_155 rfl ?_
  refine a_istore (pc := 157) (ls' := [some (.ref a0), some (.int l1), none, none, some (.int l4), some (va_rf l5), some (va_rf l6), some (.int l10), some (.int l11), some (.int l9), some (.int l10), some (.int l11), none]) dX7_dear_157 (by decide) rfl ?_
  refine a_sub (sub_k (sub_k (sub_k (sub_k (sub_k (sub_k (sub_k (sub_k (sub_k (sub_k (sub_d (sub_d (sub_k sub_n))))))))))))) ?_
  exact sX7_dear_159 hd hk hn hlp54 hf
set_option maxHeartbeats 4000000 in
theorem sX7_dear_125 {l : Launch} {g : gE} {d MC MS' k n : Nat} {a0 : Nat} (hd : 6 ≤ d) (hk : k ≤ MC) (hn : n ≤ MS') {r : Int32 × AH} {rec54 : AH → Nat → Int32 → Int32 → Option Nat → Option Nat → Int32 → Int32 → Int32 → Option (Int32 × AH)} (hlp54 : ∀ (S : AH) (l1 : Int32) (l4 : Int32) (l5 : Option Nat) (l6 : Option Nat) (l7 : Int32) (l8 : Int32) (l9 : Int32), rec54 S a0 l1 l4 l5 l6 l7 l8 l9 = some r → AW l g d RX7 cX7_dear 13 "dear" MC MS' (Qr (some (.int r.1)) r.2) k n 54 [some (.ref a0), some (.int l1), none, none, some (.int l4), some (va_rf l5), some (va_rf l6), some (.int l7), some (.int l8), some (.int l9), none, none, none] [] S) {S : AH} {s0 : Int32} {l1 : Int32} {l4 : Int32} {l5 : Option Nat} {l6 : Option Nat} {l7 : Int32} {l8 : Int32} {l9 : Int32} {l10 : Int32} {l11 : Int32} (hf : X7_dear_125 rec54 S a0 s0 l1 l4 l5 l6 l7 l8 l9 l10 l11 = some r) : AW l g d RX7 cX7_dear 13 "dear" MC MS' (Qr (some (.int r.1)) r.2) k n 125 [some (.ref a0), some (.int l1), none, none, some (.int l4), some (va_rf l5), some (va_rf l6), some (.int l7), some (.int l8), some (.int l9), some (.int l10), some (.int l11), none] [.int s0] S := by
  unfold X7_dear_125 at hf
  refine a_istore (pc := 125) (ls' := [some (.ref a0), some (.int l1), none, none, some (.int l4), some (va_rf l5), some (va_rf l6), some (.int l7), some (.int l8), some (.int l9), some (.int l10), some (.int l11), some (.int s0)]) dX7_dear_125 (by decide) rfl ?_
  refine a_iload (pc := 127) dX7_dear_127 rfl ?_
  refine a_if_lt (pc := 129) 151 dX7_dear_129 (by decide) (fun c4 => ?_) (fun c4 => ?_)
  · have hf := (if_pos c4).symm.trans hf
    refine a_sub (sub_k (sub_k (sub_k (sub_k (sub_k (sub_k (sub_k (sub_d (sub_d (sub_k (sub_k (sub_k (sub_d sub_n))))))))))))) ?_
    exact sX7_dear_151 hd hk hn hlp54 hf
  · have hf := (if_neg c4).symm.trans hf
    refine a_iload (pc := 132) dX7_dear_132 rfl ?_
    refine a_iload (pc := 134) dX7_dear_134 rfl ?_
    refine a_icmp_lt (pc := 136) 151 dX7_dear_136 (by decide) (fun c3 => ?_) (fun c3 => ?_)
    · have hf := (if_pos c3).symm.trans hf
      refine a_sub (sub_k (sub_k (sub_k (sub_k (sub_k (sub_k (sub_k (sub_d (sub_d (sub_k (sub_k (sub_k (sub_d sub_n))))))))))))) ?_
      exact sX7_dear_151 hd hk hn hlp54 hf
    · have hf := (if_neg c3).symm.trans hf
      refine a_iload (pc := 139) dX7_dear_139 rfl ?_
      refine a_iload (pc := 141) dX7_dear_141 rfl ?_
      refine a_icmp_ne (pc := 143) 159 dX7_dear_143 (by decide) (fun c2 => ?_) (fun c2 => ?_)
      · have hf := (if_neg c2).symm.trans hf
        refine a_sub (sub_k (sub_k (sub_k (sub_k (sub_k (sub_k (sub_k (sub_k (sub_k (sub_k (sub_d (sub_d (sub_d sub_n))))))))))))) ?_
        exact sX7_dear_159 hd hk hn hlp54 hf
      · have hf := (if_pos c2).symm.trans hf
        refine a_iload (pc := 146) dX7_dear_146 rfl ?_
        refine a_if_eq (pc := 148) 159 dX7_dear_148 (by decide) (fun c1 => ?_) (fun c1 => ?_)
        · have hf := (if_pos c1).symm.trans hf
          refine a_sub (sub_k (sub_k (sub_k (sub_k (sub_k (sub_k (sub_k (sub_k (sub_k (sub_k (sub_d (sub_d (sub_d sub_n))))))))))))) ?_
          exact sX7_dear_159 hd hk hn hlp54 hf
        · have hf := (if_neg c1).symm.trans hf
          refine a_sub (sub_k (sub_k (sub_k (sub_k (sub_k (sub_k (sub_k (sub_d (sub_d (sub_k (sub_k (sub_k (sub_d sub_n))))))))))))) ?_
          exact sX7_dear_151 hd hk hn hlp54 hf
set_option maxHeartbeats 4000000 in
theorem sX7_dear_124 {l : Launch} {g : gE} {d MC MS' k n : Nat} {a0 : Nat} (hd : 6 ≤ d) (hk : k ≤ MC) (hn : n ≤ MS') {r : Int32 × AH} {rec54 : AH → Nat → Int32 → Int32 → Option Nat → Option Nat → Int32 → Int32 → Int32 → Option (Int32 × AH)} (hlp54 : ∀ (S : AH) (l1 : Int32) (l4 : Int32) (l5 : Option Nat) (l6 : Option Nat) (l7 : Int32) (l8 : Int32) (l9 : Int32), rec54 S a0 l1 l4 l5 l6 l7 l8 l9 = some r → AW l g d RX7 cX7_dear 13 "dear" MC MS' (Qr (some (.int r.1)) r.2) k n 54 [some (.ref a0), some (.int l1), none, none, some (.int l4), some (va_rf l5), some (va_rf l6), some (.int l7), some (.int l8), some (.int l9), none, none, none] [] S) {S : AH} {l1 : Int32} {l4 : Int32} {l5 : Option Nat} {l6 : Option Nat} {l7 : Int32} {l8 : Int32} {l9 : Int32} {l10 : Int32} {l11 : Int32} (hf : X7_dear_124 rec54 S a0 l1 l4 l5 l6 l7 l8 l9 l10 l11 = some r) : AW l g d RX7 cX7_dear 13 "dear" MC MS' (Qr (some (.int r.1)) r.2) k n 124 [some (.ref a0), some (.int l1), none, none, some (.int l4), some (va_rf l5), some (va_rf l6), some (.int l7), some (.int l8), some (.int l9), some (.int l10), some (.int l11), none] [] S := by
  unfold X7_dear_124 at hf
  refine a_iconst (pc := 124) 0 dX7_dear_124 rfl ?_
  exact sX7_dear_125 hd hk hn hlp54 hf
set_option maxHeartbeats 4000000 in
theorem sX7_dear_54 {l : Launch} {g : gE} {d MC MS' k n : Nat} {a0 : Nat} (hd : 6 ≤ d) (hk : k ≤ MC) (hn : n ≤ MS') {r : Int32 × AH} : ∀ (fn : Nat) (S : AH) (l1 : Int32) (l4 : Int32) (l5 : Option Nat) (l6 : Option Nat) (l7 : Int32) (l8 : Int32) (l9 : Int32), X7_dear_54 fn S a0 l1 l4 l5 l6 l7 l8 l9 = some r → AW l g d RX7 cX7_dear 13 "dear" MC MS' (Qr (some (.int r.1)) r.2) k n 54 [some (.ref a0), some (.int l1), none, none, some (.int l4), some (va_rf l5), some (va_rf l6), some (.int l7), some (.int l8), some (.int l9), none, none, none] [] S := by
  intro fn
  induction fn with
  | zero =>
    intro S l1 l4 l5 l6 l7 l8 l9 hf
    rw [X7_dear_54] at hf
    cases hf
  | succ fn ih =>
    intro S l1 l4 l5 l6 l7 l8 l9 hf
    rw [X7_dear_54] at hf
    refine a_iload (pc := 54) dX7_dear_54 rfl ?_
    refine a_aload (pc := 56) dX7_dear_56 rfl (isRv_rf _) ?_
    obtain ⟨a1, ha1, hf⟩ := Option.bind_eq_some_iff.mp hf
    rw [ha1]
    obtain ⟨r2, hr2, hf⟩ := Option.bind_eq_some_iff.mp hf
    obtain ⟨hor2, hr2⟩ := cO_of hr2
    refine g_call (pc := 58) (mc := 0) (ms := 0) (.int r2.1) [] [.int l9] dX7_dear_58 ml_X7_136 mv_X1_readings hor2 (by decide) rfl rfl (by omega) (mX1_readings (by omega) hr2) rfl (Nat.le_of_ble_eq_true rfl) hk hn ?_
    refine a_icmp_ge (pc := 61) 165 dX7_dear_61 (by decide) (fun c11 => ?_) (fun c11 => ?_)
    · have hf := (if_pos c11).symm.trans hf
      refine a_iload (pc := 165) dX7_dear_165 rfl ?_
      have hf := Option.some.inj hf
      subst hf
      exact a_ireturn (pc := 167) dX7_dear_167 hk hn ⟨rfl, rfl⟩
    · have hf := (if_neg c11).symm.trans hf
      refine a_aload (pc := 64) dX7_dear_64 rfl (isRv_r _) ?_
      refine a_iload (pc := 66) dX7_dear_66 rfl ?_
      obtain ⟨r3, hr3, hf⟩ := Option.bind_eq_some_iff.mp hf
      obtain ⟨hor3, hr3⟩ := cO_of hr3
      refine g_call (pc := 68) (mc := 0) (ms := 0) (.int r3.1) [.int l9] [] dX7_dear_68 ml_X7_139 mv_X1_readingAt hor3 (by decide) rfl rfl (by omega) (mX1_readingAt (by omega) hr3) rfl (Nat.le_of_ble_eq_true rfl) hk hn ?_
      refine a_istore (pc := 71) (ls' := [some (.ref a0), some (.int l1), none, none, some (.int l4), some (.ref a1), some (va_rf l6), some (.int l7), some (.int l8), some (.int l9), some (.int (r3.1)), none, none]) dX7_dear_71 (by decide) rfl ?_
      refine a_aload_n (pc := 73) dX7_dear_73 rfl (isRv_r _) ?_
      refine a_iload_n (pc := 74) dX7_dear_74 rfl ?_
      refine a_aload (pc := 75) dX7_dear_75 rfl (isRv_r _) ?_
      refine a_aload (pc := 77) dX7_dear_77 rfl (isRv_rf _) ?_
      refine a_iload (pc := 79) dX7_dear_79 rfl ?_
      obtain ⟨r4, hr4, hf⟩ := Option.bind_eq_some_iff.mp hf
      obtain ⟨hor4, hr4⟩ := cO_of hr4
      refine g_call (pc := 81) (mc := 0) (ms := 0) (.int r4.1) [.int l1, .ref a1, va_rf l6, .int (r3.1)] [] dX7_dear_81 ml_X7_142 mv_X7_isGood hor4 (by decide) rfl rfl (by omega) (mX7_isGood (by omega) hr4) rfl (Nat.le_of_ble_eq_true rfl) hk hn ?_
      refine a_if_ne (pc := 84) 90 dX7_dear_84 (by decide) (fun c10 => ?_) (fun c10 => ?_)
      · have hf := (if_neg c10).symm.trans hf
        refine a_aload_n (pc := 90) dX7_dear_90 rfl (isRv_r _) ?_
        refine a_aload (pc := 91) dX7_dear_91 rfl (isRv_r _) ?_
        refine a_iload (pc := 93) dX7_dear_93 rfl ?_
        refine a_iload (pc := 95) dX7_dear_95 rfl ?_
        obtain ⟨r5, hr5, hf⟩ := Option.bind_eq_some_iff.mp hf
        obtain ⟨hor5, hr5⟩ := cO_of hr5
        refine g_call (pc := 97) (mc := 0) (ms := 0) (.int r5.1) [.ref a1, .int (r3.1), .int l4] [] dX7_dear_97 ml_X7_166 mv_X7_weightFor hor5 (by decide) rfl rfl (by omega) (mX7_weightFor (by omega) hr5) rfl (Nat.le_of_ble_eq_true rfl) hk hn ?_
        refine a_istore (pc := 100) (ls' := [some (.ref a0), some (.int l1), none, none, some (.int l4), some (.ref a1), some (va_rf l6), some (.int l7), some (.int l8), some (.int l9), some (.int (r3.1)), some (.int (r5.1)), none]) dX7_dear_100 (by decide) rfl ?_
        refine a_iload (pc := 102) dX7_dear_102 rfl ?_
        refine a_if_lt (pc := 104) 124 dX7_dear_104 (by decide) (fun c9 => ?_) (fun c9 => ?_)
        · have hf := (if_pos c9).symm.trans hf
          exact sX7_dear_124 hd hk hn ih hf
        · have hf := (if_neg c9).symm.trans hf
          refine a_iload (pc := 107) dX7_dear_107 rfl ?_
          obtain ⟨r6, hr6, hf⟩ := Option.bind_eq_some_iff.mp hf
          refine g_calls (pc := 109) (mc := 0) (ms := 0) (.int r6.1) [.int (r3.1)] [] dX7_dear_109 ml_X7_146 ms_J6_bitCount_0f7a4 rfl (by omega) (mJ6_bitCount_0f7a4 (by omega) hr6) rfl (Nat.le_of_ble_eq_true rfl) hk hn ?_
          refine a_iload (pc := 112) dX7_dear_112 rfl ?_
          obtain ⟨r7, hr7, hf⟩ := Option.bind_eq_some_iff.mp hf
          refine g_calls (pc := 114) (mc := 0) (ms := 0) (.int r7.1) [.int l7] [.int (r6.1)] dX7_dear_114 ml_X7_146 ms_J6_bitCount_0f7a4 rfl (by omega) (mJ6_bitCount_0f7a4 (by omega) hr7) rfl (Nat.le_of_ble_eq_true rfl) hk hn ?_
          refine a_icmp_ge (pc := 117) 124 dX7_dear_117 (by decide) (fun c8 => ?_) (fun c8 => ?_)
          · have hf := (if_pos c8).symm.trans hf
            exact sX7_dear_124 hd hk hn ih hf
          · have hf := (if_neg c8).symm.trans hf
            refine a_iconst (pc := 120) 1 dX7_dear_120 rfl ?_
            refine a_goto (pc := 121) 125 dX7_dear_121 (by decide) ?_
            exact sX7_dear_125 hd hk hn ih hf
      · have hf := (if_pos c10).symm.trans hf
        refine a_goto (pc := 87) 159 dX7_dear_87 (by decide) ?_
        refine a_sub (sub_k (sub_k (sub_k (sub_k (sub_k (sub_k (sub_k (sub_k (sub_k (sub_k (sub_d (sub_k (sub_k sub_n))))))))))))) ?_
        exact sX7_dear_159 hd hk hn ih hf
set_option maxHeartbeats 4000000 in
theorem sX7_dear_0 {l : Launch} {g : gE} {d MC MS' k n : Nat} {a0 : Nat} (hd : 6 ≤ d) (hk : k ≤ MC) (hn : n ≤ MS') {r : Int32 × AH} {S : AH} {l1 : Int32} {l2 : Int32} {l3 : Int32} {l4 : Int32} (hf : X7_dear_0 S a0 l1 l2 l3 l4 = some r) : AW l g d RX7 cX7_dear 13 "dear" MC MS' (Qr (some (.int r.1)) r.2) k n 0 [some (.ref a0), some (.int l1), some (.int l2), some (.int l3), some (.int l4), none, none, none, none, none, none, none, none] [] S := by
  unfold X7_dear_0 at hf
  refine a_aload_n (pc := 0) dX7_dear_0 rfl (isRv_r _) ?_
  refine a_iload_n (pc := 1) dX7_dear_1 rfl ?_
  obtain ⟨r1, hr1, hf⟩ := Option.bind_eq_some_iff.mp hf
  obtain ⟨zq2, zq2S⟩ := r1
  have hf := (prp_of _ _ _).symm.trans hf
  obtain ⟨hor1, hr1⟩ := cO_of hr1
  refine g_call (pc := 2) (mc := 0) (ms := 0) (va_rf zq2) [.int l2] [] dX7_dear_2 ml_X7_91 mv_X7_bargainOf hor1 (by decide) rfl rfl (by omega) (mX7_bargainOf (by omega) hr1) rfl (Nat.le_of_ble_eq_true rfl) hk hn ?_
  refine a_astore (pc := 5) (ls' := [some (.ref a0), some (.int l1), some (.int l2), some (.int l3), some (.int l4), some (va_rf zq2), none, none, none, none, none, none, none]) dX7_dear_5 (by decide) (isRv_rf _) rfl ?_
  refine a_aload_n (pc := 7) dX7_dear_7 rfl (isRv_r _) ?_
  refine a_iload_n (pc := 8) dX7_dear_8 rfl ?_
  obtain ⟨r3, hr3, hf⟩ := Option.bind_eq_some_iff.mp hf
  obtain ⟨zq4, zq4S⟩ := r3
  have hf := (prp_of _ _ _).symm.trans hf
  obtain ⟨hor3, hr3⟩ := cO_of hr3
  refine g_call (pc := 9) (mc := 0) (ms := 0) (va_rf zq4) [.int l3] [] dX7_dear_9 ml_X7_117 mv_X7_lawOf hor3 (by decide) rfl rfl (by omega) (mX7_lawOf (by omega) hr3) rfl (Nat.le_of_ble_eq_true rfl) hk hn ?_
  refine a_astore (pc := 12) (ls' := [some (.ref a0), some (.int l1), some (.int l2), some (.int l3), some (.int l4), some (va_rf zq2), some (va_rf zq4), none, none, none, none, none, none]) dX7_dear_12 (by decide) (isRv_rf _) (aSet_ref rfl (va_rf_cat _) rfl) ?_
  refine a_iload_n (pc := 14) dX7_dear_14 rfl ?_
  obtain ⟨r5, hr5, hf⟩ := Option.bind_eq_some_iff.mp hf
  refine g_calls (pc := 15) (mc := 0) (ms := 0) (.int r5.1) [.int l1] [] dX7_dear_15 ml_X7_129 ms_X7_isKind rfl (by omega) (mX7_isKind (by omega) hr5) rfl (Nat.le_of_ble_eq_true rfl) hk hn ?_
  refine a_if_eq (pc := 18) 42 dX7_dear_18 (by decide) (fun c10 => ?_) (fun c10 => ?_)
  · have hf := (if_pos c10).symm.trans hf
    refine a_sub (sub_d (sub_d (sub_d (sub_d (sub_d (sub_d (sub_d (sub_k (sub_k (sub_k (sub_k (sub_k (sub_k sub_n))))))))))))) ?_
    exact sX7_dear_42 hd hk hn hf
  · have hf := (if_neg c10).symm.trans hf
    refine a_aload (pc := 21) dX7_dear_21 rfl (isRv_rf _) ?_
    cases zq2 with
    | none =>
      have hf := (ifn_none _ _).symm.trans hf
      refine a_ifnullN (pc := 23) 42 dX7_dear_23 (by decide) ?_
      refine a_sub (sub_d (sub_d (sub_d (sub_d (sub_d (sub_d (sub_d (sub_k (sub_k (sub_k (sub_k (sub_k (sub_k sub_n))))))))))))) ?_
      exact sX7_dear_42 hd hk hn hf
    | some a6 =>
      have hf := (ifn_some _ _ _).symm.trans hf
      refine a_ifnull (pc := 23) dX7_dear_23 ?_
      refine a_aload (pc := 26) dX7_dear_26 rfl (isRv_rf _) ?_
      cases zq4 with
      | none =>
        have hf := (ifn_none _ _).symm.trans hf
        refine a_ifnullN (pc := 28) 42 dX7_dear_28 (by decide) ?_
        refine a_sub (sub_d (sub_d (sub_d (sub_d (sub_d (sub_d (sub_d (sub_k (sub_k (sub_k (sub_k (sub_k (sub_k sub_n))))))))))))) ?_
        exact sX7_dear_42 hd hk hn hf
      | some a7 =>
        have hf := (ifn_some _ _ _).symm.trans hf
        refine a_ifnull (pc := 28) dX7_dear_28 ?_
        refine a_iload (pc := 31) dX7_dear_31 rfl ?_
        refine a_if_lt (pc := 33) 42 dX7_dear_33 (by decide) (fun c9 => ?_) (fun c9 => ?_)
        · have hf := (if_pos c9).symm.trans hf
          refine a_sub (sub_d (sub_d (sub_d (sub_d (sub_d (sub_d (sub_d (sub_k (sub_k (sub_k (sub_k (sub_k (sub_k sub_n))))))))))))) ?_
          exact sX7_dear_42 hd hk hn hf
        · have hf := (if_neg c9).symm.trans hf
          refine a_iload (pc := 36) dX7_dear_36 rfl ?_
          refine a_iconst (pc := 38) 2 dX7_dear_38 rfl ?_
          refine a_icmp_le (pc := 39) 44 dX7_dear_39 (by decide) (fun c8 => ?_) (fun c8 => ?_)
          · have hf := (if_pos c8).symm.trans hf
            refine a_bipush (pc := 44) (-5) dX7_dear_44 rfl ?_
            refine a_istore (pc := 46) (ls' := [some (.ref a0), some (.int l1), some (.int l2), some (.int l3), some (.int l4), some (.ref a6), some (.ref a7), some (.int (-5)), none, none, none, none, none]) dX7_dear_46 (by decide) rfl ?_
            refine a_iconst (pc := 48) 0 dX7_dear_48 rfl ?_
            refine a_istore (pc := 49) (ls' := [some (.ref a0), some (.int l1), some (.int l2), some (.int l3), some (.int l4), some (.ref a6), some (.ref a7), some (.int (-5)), some (.int 0), none, none, none, none]) dX7_dear_49 (by decide) rfl ?_
            refine a_iconst (pc := 51) 0 dX7_dear_51 rfl ?_
            refine a_istore (pc := 52) (ls' := [some (.ref a0), some (.int l1), some (.int l2), some (.int l3), some (.int l4), some (.ref a6), some (.ref a7), some (.int (-5)), some (.int 0), some (.int 0), none, none, none]) dX7_dear_52 (by decide) rfl ?_
            refine a_sub (sub_k (sub_k (sub_d (sub_d (sub_k (sub_k (sub_k (sub_k (sub_k (sub_k (sub_k (sub_k (sub_k sub_n))))))))))))) ?_
            exact sX7_dear_54 hd hk hn FU r5.2 l1 l4 (some a6) (some a7) (-5) 0 0 hf
          · have hf := (if_neg c8).symm.trans hf
            refine a_sub (sub_d (sub_d (sub_d (sub_d (sub_d (sub_d (sub_d (sub_k (sub_k (sub_k (sub_k (sub_k (sub_k sub_n))))))))))))) ?_
            exact sX7_dear_42 hd hk hn hf
set_option maxHeartbeats 4000000 in
theorem mX7_dear {l : Launch} {g : gE} {d : Nat} {a0 : Nat} (hd : 6 ≤ d) {r : Int32 × AH} {S : AH} {l1 : Int32} {l2 : Int32} {l3 : Int32} {l4 : Int32} (hf : X7_dear S a0 l1 l2 l3 l4 = some r) : AM l g d yX7_dear cX7_dear 13 (some .int) 0 0 [.ref a0, .int l1, .int l2, .int l3, .int l4] S (Qr (some (.int r.1)) r.2) := by
  refine AM.of rfl (by exact Nat.le_of_ble_eq_true rfl) (fun v h' q => by obtain ⟨rfl, -⟩ := q; exact ⟨_, rfl, rfl⟩) (fun ls e => ?_)
  have e2 : aBeg [.ref a0, .int l1, .int l2, .int l3, .int l4] 13 = [some (.ref a0), some (.int l1), some (.int l2), some (.int l3), some (.int l4), none, none, none, none, none, none, none, none] := rfl
  rw [e2] at e
  subst e
  refine a_sub (sub_k (sub_k (sub_k (sub_k (sub_k (sub_k (sub_k (sub_k (sub_k (sub_k (sub_k (sub_k (sub_k (sub_n)))))))))))))) ?_
  exact sX7_dear_0 hd (Nat.le_refl _) (Nat.le_refl _) (hf)

-- PencilStrikes$Duties.isAllBut(LPencilStrikes$Duties;I)Z
def X2_isAllBut_43 (rec17 : AH → Nat → Option Nat → Int32 → Int32 → Option (Int32 × AH)) (S : AH) (a0 : Nat) (s0 : Int32) (s1 : Option Nat) (s2 : Int32) (l1 : Option Nat) (l2 : Int32) (l3 : Int32) : Option (Int32 × AH) :=
  (s1).bind fun a1 =>
  (cO S a1 2 (X2_at S a1 s2)).bind fun r2 =>
  if s0 = r2.1 then
    rec17 r2.2 a0 l1 l2 (l3 + 1)
  else
    some (0, r2.2)
def X2_isAllBut_17 : Nat → AH → Nat → Option Nat → Int32 → Int32 → Option (Int32 × AH)
  | 0, _, _, _, _, _ => none
  | fn + 1, S, a0, l1, l2, l3 =>
    (gI S a0 2 1).bind fun x1 =>
    if x1 ≤ l3 then
      some (1, S)
    else
      (cO S a0 2 (X2_at S a0 l3)).bind fun r2 =>
      if l2 ≤ l3 then
        X2_isAllBut_43 (X2_isAllBut_17 fn) r2.2 a0 r2.1 l1 (l3 + 1) l1 l2 l3
      else
        X2_isAllBut_43 (X2_isAllBut_17 fn) r2.2 a0 r2.1 l1 l3 l1 l2 l3
def X2_isAllBut_0 (S : AH) (a0 : Nat) (l1 : Option Nat) (l2 : Int32) : Option (Int32 × AH) :=
  (gI S a0 2 1).bind fun x1 =>
  (l1).bind fun a2 =>
  (gI S a2 2 1).bind fun x3 =>
  if x1 = (x3 - 1) then
    X2_isAllBut_17 FU S a0 (some a2) l2 0
  else
    some (0, S)
def X2_isAllBut (S : AH) (a0 : Nat) (l1 : Option Nat) (l2 : Int32) : Option (Int32 × AH) := zg (X2_isAllBut_0 S a0 l1 l2)
set_option maxHeartbeats 4000000 in
theorem sX2_isAllBut_43 {l : Launch} {g : gE} {d MC MS' k n : Nat} {a0 : Nat} (hd : 1 ≤ d) (hk : k ≤ MC) (hn : n ≤ MS') {r : Int32 × AH} {rec17 : AH → Nat → Option Nat → Int32 → Int32 → Option (Int32 × AH)} (hlp17 : ∀ (S : AH) (l1 : Option Nat) (l2 : Int32) (l3 : Int32), rec17 S a0 l1 l2 l3 = some r → AW l g d RX2 cX2_isAllBut 4 "isAllBut" MC MS' (Qr (some (.int r.1)) r.2) k n 17 [some (.ref a0), some (va_rf l1), some (.int l2), some (.int l3)] [] S) {S : AH} {s0 : Int32} {s1 : Option Nat} {s2 : Int32} {l1 : Option Nat} {l2 : Int32} {l3 : Int32} (hf : X2_isAllBut_43 rec17 S a0 s0 s1 s2 l1 l2 l3 = some r) : AW l g d RX2 cX2_isAllBut 4 "isAllBut" MC MS' (Qr (some (.int r.1)) r.2) k n 43 [some (.ref a0), some (va_rf l1), some (.int l2), some (.int l3)] [.int s2, va_rf s1, .int s0] S := by
  unfold X2_isAllBut_43 at hf
  obtain ⟨a1, ha1, hf⟩ := Option.bind_eq_some_iff.mp hf
  rw [ha1]
  obtain ⟨r2, hr2, hf⟩ := Option.bind_eq_some_iff.mp hf
  obtain ⟨hor2, hr2⟩ := cO_of hr2
  refine g_call (pc := 43) (mc := 0) (ms := 0) (.int r2.1) [.int s2] [.int s0] dX2_isAllBut_43 ml_X2_33 mv_X2_at hor2 (by decide) rfl rfl (by omega) (mX2_at (by omega) hr2) rfl (Nat.le_of_ble_eq_true rfl) hk hn ?_
  refine a_icmp_eq (pc := 46) 51 dX2_isAllBut_46 (by decide) (fun c3 => ?_) (fun c3 => ?_)
  · have hf := (if_pos c3).symm.trans hf
    refine a_iinc (pc := 51) (ls' := [some (.ref a0), some (va_rf l1), some (.int l2), some (.int (l3 + 1))]) (l3 + 1) dX2_isAllBut_51 rfl rfl (by decide) rfl ?_
    refine a_goto (pc := 54) 17 dX2_isAllBut_54 (by decide) ?_
    exact hlp17 r2.2 l1 l2 (l3 + 1) hf
  · have hf := (if_neg c3).symm.trans hf
    refine a_iconst (pc := 49) 0 dX2_isAllBut_49 rfl ?_
    have hf := Option.some.inj hf
    subst hf
    exact a_ireturn (pc := 50) dX2_isAllBut_50 hk hn ⟨rfl, rfl⟩
set_option maxHeartbeats 4000000 in
theorem sX2_isAllBut_17 {l : Launch} {g : gE} {d MC MS' k n : Nat} {a0 : Nat} (hd : 1 ≤ d) (hk : k ≤ MC) (hn : n ≤ MS') {r : Int32 × AH} : ∀ (fn : Nat) (S : AH) (l1 : Option Nat) (l2 : Int32) (l3 : Int32), X2_isAllBut_17 fn S a0 l1 l2 l3 = some r → AW l g d RX2 cX2_isAllBut 4 "isAllBut" MC MS' (Qr (some (.int r.1)) r.2) k n 17 [some (.ref a0), some (va_rf l1), some (.int l2), some (.int l3)] [] S := by
  intro fn
  induction fn with
  | zero =>
    intro S l1 l2 l3 hf
    rw [X2_isAllBut_17] at hf
    cases hf
  | succ fn ih =>
    intro S l1 l2 l3 hf
    rw [X2_isAllBut_17] at hf
    refine a_iload_n (pc := 17) dX2_isAllBut_17 rfl ?_
    refine a_aload_n (pc := 18) dX2_isAllBut_18 rfl (isRv_r _) ?_
    obtain ⟨x1, hx1, hf⟩ := Option.bind_eq_some_iff.mp hf
    refine g_getI (pc := 19) dX2_isAllBut_19 fl_X2_15 hx1 ?_
    refine a_icmp_ge (pc := 22) 57 dX2_isAllBut_22 (by decide) (fun c4 => ?_) (fun c4 => ?_)
    · have hf := (if_pos c4).symm.trans hf
      refine a_iconst (pc := 57) 1 dX2_isAllBut_57 rfl ?_
      have hf := Option.some.inj hf
      subst hf
      exact a_ireturn (pc := 58) dX2_isAllBut_58 hk hn ⟨rfl, rfl⟩
    · have hf := (if_neg c4).symm.trans hf
      refine a_aload_n (pc := 25) dX2_isAllBut_25 rfl (isRv_r _) ?_
      refine a_iload_n (pc := 26) dX2_isAllBut_26 rfl ?_
      obtain ⟨r2, hr2, hf⟩ := Option.bind_eq_some_iff.mp hf
      obtain ⟨hor2, hr2⟩ := cO_of hr2
      refine g_call (pc := 27) (mc := 0) (ms := 0) (.int r2.1) [.int l3] [] dX2_isAllBut_27 ml_X2_33 mv_X2_at hor2 (by decide) rfl rfl (by omega) (mX2_at (by omega) hr2) rfl (Nat.le_of_ble_eq_true rfl) hk hn ?_
      refine a_aload_n (pc := 30) dX2_isAllBut_30 rfl (isRv_rf _) ?_
      refine a_iload_n (pc := 31) dX2_isAllBut_31 rfl ?_
      refine a_iload_n (pc := 32) dX2_isAllBut_32 rfl ?_
      refine a_icmp_ge (pc := 33) 40 dX2_isAllBut_33 (by decide) (fun c3 => ?_) (fun c3 => ?_)
      · have hf := (if_pos c3).symm.trans hf
        refine a_iload_n (pc := 40) dX2_isAllBut_40 rfl ?_
        refine a_iconst (pc := 41) 1 dX2_isAllBut_41 rfl ?_
        refine a_iadd (pc := 42) dX2_isAllBut_42 ?_
        exact sX2_isAllBut_43 hd hk hn ih hf
      · have hf := (if_neg c3).symm.trans hf
        refine a_iload_n (pc := 36) dX2_isAllBut_36 rfl ?_
        refine a_goto (pc := 37) 43 dX2_isAllBut_37 (by decide) ?_
        exact sX2_isAllBut_43 hd hk hn ih hf
set_option maxHeartbeats 4000000 in
theorem sX2_isAllBut_0 {l : Launch} {g : gE} {d MC MS' k n : Nat} {a0 : Nat} (hd : 1 ≤ d) (hk : k ≤ MC) (hn : n ≤ MS') {r : Int32 × AH} {S : AH} {l1 : Option Nat} {l2 : Int32} (hf : X2_isAllBut_0 S a0 l1 l2 = some r) : AW l g d RX2 cX2_isAllBut 4 "isAllBut" MC MS' (Qr (some (.int r.1)) r.2) k n 0 [some (.ref a0), some (va_rf l1), some (.int l2), none] [] S := by
  unfold X2_isAllBut_0 at hf
  refine a_aload_n (pc := 0) dX2_isAllBut_0 rfl (isRv_r _) ?_
  obtain ⟨x1, hx1, hf⟩ := Option.bind_eq_some_iff.mp hf
  refine g_getI (pc := 1) dX2_isAllBut_1 fl_X2_15 hx1 ?_
  refine a_aload_n (pc := 4) dX2_isAllBut_4 rfl (isRv_rf _) ?_
  obtain ⟨a2, ha2, hf⟩ := Option.bind_eq_some_iff.mp hf
  rw [ha2]
  obtain ⟨x3, hx3, hf⟩ := Option.bind_eq_some_iff.mp hf
  refine g_getI (pc := 5) dX2_isAllBut_5 fl_X2_15 hx3 ?_
  refine a_iconst (pc := 8) 1 dX2_isAllBut_8 rfl ?_
  refine a_isub (pc := 9) dX2_isAllBut_9 ?_
  refine a_icmp_eq (pc := 10) 15 dX2_isAllBut_10 (by decide) (fun c4 => ?_) (fun c4 => ?_)
  · have hf := (if_pos c4).symm.trans hf
    refine a_iconst (pc := 15) 0 dX2_isAllBut_15 rfl ?_
    refine a_istore_n (pc := 16) (ls' := [some (.ref a0), some (.ref a2), some (.int l2), some (.int 0)]) dX2_isAllBut_16 (by decide) rfl ?_
    exact sX2_isAllBut_17 hd hk hn FU S (some a2) l2 0 hf
  · have hf := (if_neg c4).symm.trans hf
    refine a_iconst (pc := 13) 0 dX2_isAllBut_13 rfl ?_
    have hf := Option.some.inj hf
    subst hf
    exact a_ireturn (pc := 14) dX2_isAllBut_14 hk hn ⟨rfl, rfl⟩
set_option maxHeartbeats 4000000 in
theorem mX2_isAllBut {l : Launch} {g : gE} {d : Nat} {a0 : Nat} (hd : 1 ≤ d) {r : Int32 × AH} {S : AH} {l1 : Option Nat} {l2 : Int32} (hf : X2_isAllBut S a0 l1 l2 = some r) : AM l g d yX2_isAllBut cX2_isAllBut 4 (some .boolean) 0 0 [.ref a0, va_rf l1, .int l2] S (Qr (some (.int r.1)) r.2) := by
  refine AM.of rfl (by cases l1 <;> exact Nat.le_of_ble_eq_true rfl) (fun v h' q => by obtain ⟨rfl, -⟩ := q; refine ⟨_, rfl, ?_⟩; rcases (zg_of hf).2 with e | e <;> rw [e] <;> rfl) (fun ls e => ?_)
  have e2 : aBeg [.ref a0, va_rf l1, .int l2] 4 = [some (.ref a0), some (va_rf l1), some (.int l2), none] := (by cases l1 <;> rfl)
  rw [e2] at e
  subst e
  refine a_sub (sub_k (sub_k (sub_k (sub_k (sub_n))))) ?_
  exact sX2_isAllBut_0 hd (Nat.le_refl _) (Nat.le_refl _) ((zg_of hf).1)

-- PencilStrikes.aloneDuties(ILPencilStrikes$Bargain;)I
def X7_aloneDuties_84 (rec5 : AH → Nat → Int32 → Option Nat → Int32 → Int32 → Option (Int32 × AH)) (rec49 : AH → Nat → Int32 → Option Nat → Int32 → Int32 → Int32 → Option (Int32 × AH)) (S : AH) (a0 : Nat) (l1 : Int32) (l2 : Option Nat) (l3 : Int32) (l4 : Int32) (l6 : Int32) : Option (Int32 × AH) :=
  rec49 S a0 l1 l2 l3 l4 (l6 + 1)
def X7_aloneDuties_90 (rec5 : AH → Nat → Int32 → Option Nat → Int32 → Int32 → Option (Int32 × AH)) (S : AH) (a0 : Nat) (l1 : Int32) (l2 : Option Nat) (l3 : Int32) (l4 : Int32) : Option (Int32 × AH) :=
  rec5 S a0 l1 l2 l3 (l4 + 1)
def X7_aloneDuties_49 (rec5 : AH → Nat → Int32 → Option Nat → Int32 → Int32 → Option (Int32 × AH)) : Nat → AH → Nat → Int32 → Option Nat → Int32 → Int32 → Int32 → Option (Int32 × AH)
  | 0, _, _, _, _, _, _, _ => none
  | fn + 1, S, a0, l1, l2, l3, l4, l6 =>
    (l2).bind fun a1 =>
    (cO S a1 1 (X1_whole S a1)).bind fun r2 => prp r2 fun zq3 zq3S =>
    (zq3).bind fun a4 =>
    (cO zq3S a4 2 (X2_size zq3S a4)).bind fun r5 =>
    if r5.1 ≤ l6 then
      X7_aloneDuties_90 rec5 r5.2 a0 l1 (some a1) l3 l4
    else
      (gQ r5.2 a0 7 7).bind fun x6 =>
      (cO r5.2 a1 1 (X1_whole r5.2 a1)).bind fun r7 => prp r7 fun zq8 zq8S =>
      (x6).bind fun a9 =>
      (cO zq8S a9 2 (X2_isAllBut zq8S a9 zq8 l6)).bind fun r10 =>
      if r10.1 = 0 then
        X7_aloneDuties_84 rec5 (X7_aloneDuties_49 rec5 fn) r10.2 a0 l1 (some a1) l3 l4 l6
      else
        X7_aloneDuties_84 rec5 (X7_aloneDuties_49 rec5 fn) r10.2 a0 l1 (some a1) (l3 ||| ((1 : Int32) <<< (l6 &&& 31))) l4 l6
def X7_aloneDuties_5 : Nat → AH → Nat → Int32 → Option Nat → Int32 → Int32 → Option (Int32 × AH)
  | 0, _, _, _, _, _, _ => none
  | fn + 1, S, a0, l1, l2, l3, l4 =>
    (l2).bind fun a1 =>
    (cO S a1 1 (X1_readings S a1)).bind fun r2 =>
    if r2.1 ≤ l4 then
      some (l3, r2.2)
    else
      (cO r2.2 a1 1 (X1_readingAt r2.2 a1 l4)).bind fun r3 =>
      (cO r3.2 a0 7 (X7_isLet r3.2 a0 l1 (some a1) r3.1)).bind fun r4 =>
      if r4.1 = 0 then
        X7_aloneDuties_90 (X7_aloneDuties_5 fn) r4.2 a0 l1 (some a1) l3 l4
      else
        (gQ r4.2 a0 7 7).bind fun x5 =>
        (cO r4.2 a1 1 (X1_tellDuties r4.2 a1 r3.1 x5)).bind fun r6 =>
        X7_aloneDuties_49 (X7_aloneDuties_5 fn) FU r6.2 a0 l1 (some a1) l3 l4 0
def X7_aloneDuties_0 (S : AH) (a0 : Nat) (l1 : Int32) (l2 : Option Nat) : Option (Int32 × AH) :=
  X7_aloneDuties_5 FU S a0 l1 l2 0 0
def X7_aloneDuties (S : AH) (a0 : Nat) (l1 : Int32) (l2 : Option Nat) : Option (Int32 × AH) := X7_aloneDuties_0 S a0 l1 l2
set_option maxHeartbeats 4000000 in
theorem sX7_aloneDuties_84 {l : Launch} {g : gE} {d MC MS' k n : Nat} {a0 : Nat} (hd : 5 ≤ d) (hk : k ≤ MC) (hn : n ≤ MS') {r : Int32 × AH} {rec5 : AH → Nat → Int32 → Option Nat → Int32 → Int32 → Option (Int32 × AH)} (hlp5 : ∀ (S : AH) (l1 : Int32) (l2 : Option Nat) (l3 : Int32) (l4 : Int32), rec5 S a0 l1 l2 l3 l4 = some r → AW l g d RX7 cX7_aloneDuties 7 "aloneDuties" MC MS' (Qr (some (.int r.1)) r.2) k n 5 [some (.ref a0), some (.int l1), some (va_rf l2), some (.int l3), some (.int l4), none, none] [] S) {rec49 : AH → Nat → Int32 → Option Nat → Int32 → Int32 → Int32 → Option (Int32 × AH)} (hlp49 : ∀ (S : AH) (l1 : Int32) (l2 : Option Nat) (l3 : Int32) (l4 : Int32) (l6 : Int32), rec49 S a0 l1 l2 l3 l4 l6 = some r → AW l g d RX7 cX7_aloneDuties 7 "aloneDuties" MC MS' (Qr (some (.int r.1)) r.2) k n 49 [some (.ref a0), some (.int l1), some (va_rf l2), some (.int l3), some (.int l4), none, some (.int l6)] [] S) {S : AH} {l1 : Int32} {l2 : Option Nat} {l3 : Int32} {l4 : Int32} {l6 : Int32} (hf : X7_aloneDuties_84 rec5 rec49 S a0 l1 l2 l3 l4 l6 = some r) : AW l g d RX7 cX7_aloneDuties 7 "aloneDuties" MC MS' (Qr (some (.int r.1)) r.2) k n 84 [some (.ref a0), some (.int l1), some (va_rf l2), some (.int l3), some (.int l4), none, some (.int l6)] [] S := by
  unfold X7_aloneDuties_84 at hf
  refine a_iinc (pc := 84) (ls' := [some (.ref a0), some (.int l1), some (va_rf l2), some (.int l3), some (.int l4), none, some (.int (l6 + 1))]) (l6 + 1) dX7_aloneDuties_84 rfl rfl (by decide) rfl ?_
  refine a_goto (pc := 87) 49 dX7_aloneDuties_87 (by decide) ?_
  exact hlp49 S l1 l2 l3 l4 (l6 + 1) hf
set_option maxHeartbeats 4000000 in
theorem sX7_aloneDuties_90 {l : Launch} {g : gE} {d MC MS' k n : Nat} {a0 : Nat} (hd : 5 ≤ d) (hk : k ≤ MC) (hn : n ≤ MS') {r : Int32 × AH} {rec5 : AH → Nat → Int32 → Option Nat → Int32 → Int32 → Option (Int32 × AH)} (hlp5 : ∀ (S : AH) (l1 : Int32) (l2 : Option Nat) (l3 : Int32) (l4 : Int32), rec5 S a0 l1 l2 l3 l4 = some r → AW l g d RX7 cX7_aloneDuties 7 "aloneDuties" MC MS' (Qr (some (.int r.1)) r.2) k n 5 [some (.ref a0), some (.int l1), some (va_rf l2), some (.int l3), some (.int l4), none, none] [] S) {S : AH} {l1 : Int32} {l2 : Option Nat} {l3 : Int32} {l4 : Int32} (hf : X7_aloneDuties_90 rec5 S a0 l1 l2 l3 l4 = some r) : AW l g d RX7 cX7_aloneDuties 7 "aloneDuties" MC MS' (Qr (some (.int r.1)) r.2) k n 90 [some (.ref a0), some (.int l1), some (va_rf l2), some (.int l3), some (.int l4), none, none] [] S := by
  unfold X7_aloneDuties_90 at hf
  refine a_iinc (pc := 90) (ls' := [some (.ref a0), some (.int l1), some (va_rf l2), some (.int l3), some (.int (l4 + 1)), none, none]) (l4 + 1) dX7_aloneDuties_90 rfl rfl (by decide) rfl ?_
  refine a_goto (pc := 93) 5 dX7_aloneDuties_93 (by decide) ?_
  exact hlp5 S l1 l2 l3 (l4 + 1) hf
set_option maxHeartbeats 4000000 in
theorem sX7_aloneDuties_49 {l : Launch} {g : gE} {d MC MS' k n : Nat} {a0 : Nat} (hd : 5 ≤ d) (hk : k ≤ MC) (hn : n ≤ MS') {r : Int32 × AH} {rec5 : AH → Nat → Int32 → Option Nat → Int32 → Int32 → Option (Int32 × AH)} (hlp5 : ∀ (S : AH) (l1 : Int32) (l2 : Option Nat) (l3 : Int32) (l4 : Int32), rec5 S a0 l1 l2 l3 l4 = some r → AW l g d RX7 cX7_aloneDuties 7 "aloneDuties" MC MS' (Qr (some (.int r.1)) r.2) k n 5 [some (.ref a0), some (.int l1), some (va_rf l2), some (.int l3), some (.int l4), none, none] [] S) : ∀ (fn : Nat) (S : AH) (l1 : Int32) (l2 : Option Nat) (l3 : Int32) (l4 : Int32) (l6 : Int32), X7_aloneDuties_49 rec5 fn S a0 l1 l2 l3 l4 l6 = some r → AW l g d RX7 cX7_aloneDuties 7 "aloneDuties" MC MS' (Qr (some (.int r.1)) r.2) k n 49 [some (.ref a0), some (.int l1), some (va_rf l2), some (.int l3), some (.int l4), none, some (.int l6)] [] S := by
  intro fn
  induction fn with
  | zero =>
    intro S l1 l2 l3 l4 l6 hf
    rw [X7_aloneDuties_49] at hf
    cases hf
  | succ fn ih =>
    intro S l1 l2 l3 l4 l6 hf
    rw [X7_aloneDuties_49] at hf
    refine a_iload (pc := 49) dX7_aloneDuties_49 rfl ?_
    refine a_aload_n (pc := 51) dX7_aloneDuties_51 rfl (isRv_rf _) ?_
    obtain ⟨a1, ha1, hf⟩ := Option.bind_eq_some_iff.mp hf
    rw [ha1]
    obtain ⟨r2, hr2, hf⟩ := Option.bind_eq_some_iff.mp hf
    obtain ⟨zq3, zq3S⟩ := r2
    have hf := (prp_of _ _ _).symm.trans hf
    obtain ⟨hor2, hr2⟩ := cO_of hr2
    refine g_call (pc := 52) (mc := 0) (ms := 0) (va_rf zq3) [] [.int l6] dX7_aloneDuties_52 ml_X7_154 mv_X1_whole hor2 (by decide) rfl rfl (by omega) (mX1_whole (by omega) hr2) rfl (Nat.le_of_ble_eq_true rfl) hk hn ?_
    obtain ⟨a4, ha4, hf⟩ := Option.bind_eq_some_iff.mp hf
    rw [ha4]
    obtain ⟨r5, hr5, hf⟩ := Option.bind_eq_some_iff.mp hf
    obtain ⟨hor5, hr5⟩ := cO_of hr5
    refine g_call (pc := 55) (mc := 0) (ms := 0) (.int r5.1) [] [.int l6] dX7_aloneDuties_55 ml_X7_113 mv_X2_size hor5 (by decide) rfl rfl (by omega) (mX2_size (by omega) hr5) rfl (Nat.le_of_ble_eq_true rfl) hk hn ?_
    refine a_icmp_ge (pc := 58) 90 dX7_aloneDuties_58 (by decide) (fun c12 => ?_) (fun c12 => ?_)
    · have hf := (if_pos c12).symm.trans hf
      refine a_sub (sub_k (sub_k (sub_k (sub_k (sub_k (sub_k (sub_d sub_n))))))) ?_
      exact sX7_aloneDuties_90 hd hk hn hlp5 hf
    · have hf := (if_neg c12).symm.trans hf
      refine a_aload_n (pc := 61) dX7_aloneDuties_61 rfl (isRv_r _) ?_
      obtain ⟨x6, hx6, hf⟩ := Option.bind_eq_some_iff.mp hf
      refine g_getQ (pc := 62) dX7_aloneDuties_62 fl_X7_57 hx6 ?_
      refine a_aload_n (pc := 65) dX7_aloneDuties_65 rfl (isRv_r _) ?_
      obtain ⟨r7, hr7, hf⟩ := Option.bind_eq_some_iff.mp hf
      obtain ⟨zq8, zq8S⟩ := r7
      have hf := (prp_of _ _ _).symm.trans hf
      obtain ⟨hor7, hr7⟩ := cO_of hr7
      refine g_call (pc := 66) (mc := 0) (ms := 0) (va_rf zq8) [] [va_rf x6] dX7_aloneDuties_66 ml_X7_154 mv_X1_whole hor7 (by decide) rfl rfl (by omega) (mX1_whole (by omega) hr7) rfl (by cases x6 <;> exact Nat.le_of_ble_eq_true rfl) hk hn ?_
      refine a_iload (pc := 69) dX7_aloneDuties_69 rfl ?_
      obtain ⟨a9, ha9, hf⟩ := Option.bind_eq_some_iff.mp hf
      rw [ha9]
      obtain ⟨r10, hr10, hf⟩ := Option.bind_eq_some_iff.mp hf
      obtain ⟨hor10, hr10⟩ := cO_of hr10
      refine g_call (pc := 71) (mc := 0) (ms := 0) (.int r10.1) [va_rf zq8, .int l6] [] dX7_aloneDuties_71 ml_X7_251 mv_X2_isAllBut hor10 (by decide) rfl rfl (by omega) (mX2_isAllBut (by omega) hr10) rfl (Nat.le_of_ble_eq_true rfl) hk hn ?_
      refine a_if_eq (pc := 74) 84 dX7_aloneDuties_74 (by decide) (fun c11 => ?_) (fun c11 => ?_)
      · have hf := (if_pos c11).symm.trans hf
        exact sX7_aloneDuties_84 hd hk hn hlp5 ih hf
      · have hf := (if_neg c11).symm.trans hf
        refine a_iload_n (pc := 77) dX7_aloneDuties_77 rfl ?_
        refine a_iconst (pc := 78) 1 dX7_aloneDuties_78 rfl ?_
        refine a_iload (pc := 79) dX7_aloneDuties_79 rfl ?_
        refine a_ishl (pc := 81) dX7_aloneDuties_81 ?_
        refine a_ior (pc := 82) dX7_aloneDuties_82 ?_
        refine a_istore_n (pc := 83) (ls' := [some (.ref a0), some (.int l1), some (.ref a1), some (.int (l3 ||| ((1 : Int32) <<< (l6 &&& 31)))), some (.int l4), none, some (.int l6)]) dX7_aloneDuties_83 (by decide) rfl ?_
        exact sX7_aloneDuties_84 hd hk hn hlp5 ih hf
set_option maxHeartbeats 4000000 in
theorem sX7_aloneDuties_5 {l : Launch} {g : gE} {d MC MS' k n : Nat} {a0 : Nat} (hd : 5 ≤ d) (hk : k ≤ MC) (hn : n ≤ MS') {r : Int32 × AH} : ∀ (fn : Nat) (S : AH) (l1 : Int32) (l2 : Option Nat) (l3 : Int32) (l4 : Int32), X7_aloneDuties_5 fn S a0 l1 l2 l3 l4 = some r → AW l g d RX7 cX7_aloneDuties 7 "aloneDuties" MC MS' (Qr (some (.int r.1)) r.2) k n 5 [some (.ref a0), some (.int l1), some (va_rf l2), some (.int l3), some (.int l4), none, none] [] S := by
  intro fn
  induction fn with
  | zero =>
    intro S l1 l2 l3 l4 hf
    rw [X7_aloneDuties_5] at hf
    cases hf
  | succ fn ih =>
    intro S l1 l2 l3 l4 hf
    rw [X7_aloneDuties_5] at hf
    refine a_iload (pc := 5) dX7_aloneDuties_5 rfl ?_
    refine a_aload_n (pc := 7) dX7_aloneDuties_7 rfl (isRv_rf _) ?_
    obtain ⟨a1, ha1, hf⟩ := Option.bind_eq_some_iff.mp hf
    rw [ha1]
    obtain ⟨r2, hr2, hf⟩ := Option.bind_eq_some_iff.mp hf
    obtain ⟨hor2, hr2⟩ := cO_of hr2
    refine g_call (pc := 8) (mc := 0) (ms := 0) (.int r2.1) [] [.int l4] dX7_aloneDuties_8 ml_X7_136 mv_X1_readings hor2 (by decide) rfl rfl (by omega) (mX1_readings (by omega) hr2) rfl (Nat.le_of_ble_eq_true rfl) hk hn ?_
    refine a_icmp_ge (pc := 11) 96 dX7_aloneDuties_11 (by decide) (fun c8 => ?_) (fun c8 => ?_)
    · have hf := (if_pos c8).symm.trans hf
      refine a_iload_n (pc := 96) dX7_aloneDuties_96 rfl ?_
      have hf := Option.some.inj hf
      subst hf
      exact a_ireturn (pc := 97) dX7_aloneDuties_97 hk hn ⟨rfl, rfl⟩
    · have hf := (if_neg c8).symm.trans hf
      refine a_aload_n (pc := 14) dX7_aloneDuties_14 rfl (isRv_r _) ?_
      refine a_iload (pc := 15) dX7_aloneDuties_15 rfl ?_
      obtain ⟨r3, hr3, hf⟩ := Option.bind_eq_some_iff.mp hf
      obtain ⟨hor3, hr3⟩ := cO_of hr3
      refine g_call (pc := 17) (mc := 0) (ms := 0) (.int r3.1) [.int l4] [] dX7_aloneDuties_17 ml_X7_139 mv_X1_readingAt hor3 (by decide) rfl rfl (by omega) (mX1_readingAt (by omega) hr3) rfl (Nat.le_of_ble_eq_true rfl) hk hn ?_
      refine a_istore (pc := 20) (ls' := [some (.ref a0), some (.int l1), some (.ref a1), some (.int l3), some (.int l4), some (.int (r3.1)), none]) dX7_aloneDuties_20 (by decide) rfl ?_
      refine a_aload_n (pc := 22) dX7_aloneDuties_22 rfl (isRv_r _) ?_
      refine a_iload_n (pc := 23) dX7_aloneDuties_23 rfl ?_
      refine a_aload_n (pc := 24) dX7_aloneDuties_24 rfl (isRv_r _) ?_
      refine a_iload (pc := 25) dX7_aloneDuties_25 rfl ?_
      obtain ⟨r4, hr4, hf⟩ := Option.bind_eq_some_iff.mp hf
      obtain ⟨hor4, hr4⟩ := cO_of hr4
      refine g_call (pc := 27) (mc := 0) (ms := 0) (.int r4.1) [.int l1, .ref a1, .int (r3.1)] [] dX7_aloneDuties_27 ml_X7_132 mv_X7_isLet hor4 (by decide) rfl rfl (by omega) (mX7_isLet (by omega) hr4) rfl (Nat.le_of_ble_eq_true rfl) hk hn ?_
      refine a_if_ne (pc := 30) 36 dX7_aloneDuties_30 (by decide) (fun c7 => ?_) (fun c7 => ?_)
      · have hf := (if_neg c7).symm.trans hf
        refine a_aload_n (pc := 36) dX7_aloneDuties_36 rfl (isRv_r _) ?_
        refine a_iload (pc := 37) dX7_aloneDuties_37 rfl ?_
        refine a_aload_n (pc := 39) dX7_aloneDuties_39 rfl (isRv_r _) ?_
        obtain ⟨x5, hx5, hf⟩ := Option.bind_eq_some_iff.mp hf
        refine g_getQ (pc := 40) dX7_aloneDuties_40 fl_X7_57 hx5 ?_
        obtain ⟨r6, hr6, hf⟩ := Option.bind_eq_some_iff.mp hf
        obtain ⟨hor6, hr6⟩ := cO_of hr6
        refine g_callv (pc := 43) (mc := 0) (ms := 0) [.int (r3.1), va_rf x5] [] dX7_aloneDuties_43 ml_X7_109 mv_X1_tellDuties hor6 (by decide) rfl rfl (by omega) (mX1_tellDuties (by omega) hr6) rfl (Nat.le_of_ble_eq_true rfl) hk hn ?_
        refine a_iconst (pc := 46) 0 dX7_aloneDuties_46 rfl ?_
        refine a_istore (pc := 47) (ls' := [some (.ref a0), some (.int l1), some (.ref a1), some (.int l3), some (.int l4), some (.int (r3.1)), some (.int 0)]) dX7_aloneDuties_47 (by decide) rfl ?_
        refine a_sub (sub_k (sub_k (sub_k (sub_k (sub_k (sub_d (sub_k sub_n))))))) ?_
        exact sX7_aloneDuties_49 hd hk hn ih FU r6.2 l1 (some a1) l3 l4 0 hf
      · have hf := (if_pos c7).symm.trans hf
        refine a_goto (pc := 33) 90 dX7_aloneDuties_33 (by decide) ?_
        refine a_sub (sub_k (sub_k (sub_k (sub_k (sub_k (sub_d (sub_k sub_n))))))) ?_
        exact sX7_aloneDuties_90 hd hk hn ih hf
set_option maxHeartbeats 4000000 in
theorem sX7_aloneDuties_0 {l : Launch} {g : gE} {d MC MS' k n : Nat} {a0 : Nat} (hd : 5 ≤ d) (hk : k ≤ MC) (hn : n ≤ MS') {r : Int32 × AH} {S : AH} {l1 : Int32} {l2 : Option Nat} (hf : X7_aloneDuties_0 S a0 l1 l2 = some r) : AW l g d RX7 cX7_aloneDuties 7 "aloneDuties" MC MS' (Qr (some (.int r.1)) r.2) k n 0 [some (.ref a0), some (.int l1), some (va_rf l2), none, none, none, none] [] S := by
  unfold X7_aloneDuties_0 at hf
  refine a_iconst (pc := 0) 0 dX7_aloneDuties_0 rfl ?_
  refine a_istore_n (pc := 1) (ls' := [some (.ref a0), some (.int l1), some (va_rf l2), some (.int 0), none, none, none]) dX7_aloneDuties_1 (by decide) (aSet_ref rfl (va_rf_cat _) rfl) ?_
  refine a_iconst (pc := 2) 0 dX7_aloneDuties_2 rfl ?_
  refine a_istore (pc := 3) (ls' := [some (.ref a0), some (.int l1), some (va_rf l2), some (.int 0), some (.int 0), none, none]) dX7_aloneDuties_3 (by decide) rfl ?_
  exact sX7_aloneDuties_5 hd hk hn FU S l1 l2 0 0 hf
set_option maxHeartbeats 4000000 in
theorem mX7_aloneDuties {l : Launch} {g : gE} {d : Nat} {a0 : Nat} (hd : 5 ≤ d) {r : Int32 × AH} {S : AH} {l1 : Int32} {l2 : Option Nat} (hf : X7_aloneDuties S a0 l1 l2 = some r) : AM l g d yX7_aloneDuties cX7_aloneDuties 7 (some .int) 0 0 [.ref a0, .int l1, va_rf l2] S (Qr (some (.int r.1)) r.2) := by
  refine AM.of rfl (by cases l2 <;> exact Nat.le_of_ble_eq_true rfl) (fun v h' q => by obtain ⟨rfl, -⟩ := q; exact ⟨_, rfl, rfl⟩) (fun ls e => ?_)
  have e2 : aBeg [.ref a0, .int l1, va_rf l2] 7 = [some (.ref a0), some (.int l1), some (va_rf l2), none, none, none, none] := (by cases l2 <;> rfl)
  rw [e2] at e
  subst e
  refine a_sub (sub_k (sub_k (sub_k (sub_k (sub_k (sub_k (sub_k (sub_n)))))))) ?_
  exact sX7_aloneDuties_0 hd (Nat.le_refl _) (Nat.le_refl _) (hf)

-- PencilStrikes.alone(II)I
def X7_alone_17 (S : AH) (a0 : Nat) : Option (Int32 × AH) :=
  some ((-1), S)
def X7_alone_38 (S : AH) (a0 : Nat) (s0 : Int32) : Option (Int32 × AH) :=
  some (s0, S)
def X7_alone_0 (S : AH) (a0 : Nat) (l1 : Int32) (l2 : Int32) : Option (Int32 × AH) :=
  (cO S a0 7 (X7_bargainOf S a0 l2)).bind fun r1 => prp r1 fun zq2 zq2S =>
  (X7_isKind zq2S l1).bind fun r3 =>
  if r3.1 = 0 then
    X7_alone_17 r3.2 a0
  else
    ifn zq2 (
      X7_alone_17 r3.2 a0) fun a4 =>
    (cO r3.2 a4 1 (X1_isReadable r3.2 a4 0)).bind fun r5 =>
    if r5.1 = 0 then
      X7_alone_38 r5.2 a0 (-3)
    else
      (cO r5.2 a0 7 (X7_aloneDuties r5.2 a0 l1 (some a4))).bind fun r6 =>
      X7_alone_38 r6.2 a0 r6.1
def X7_alone (S : AH) (a0 : Nat) (l1 : Int32) (l2 : Int32) : Option (Int32 × AH) := X7_alone_0 S a0 l1 l2
set_option maxHeartbeats 4000000 in
theorem sX7_alone_17 {l : Launch} {g : gE} {d MC MS' k n : Nat} {a0 : Nat} (hd : 6 ≤ d) (hk : k ≤ MC) (hn : n ≤ MS') {r : Int32 × AH} {S : AH} (hf : X7_alone_17 S a0 = some r) : AW l g d RX7 cX7_alone 4 "alone" MC MS' (Qr (some (.int r.1)) r.2) k n 17 [none, none, none, none] [] S := by
  unfold X7_alone_17 at hf
  refine a_iconst (pc := 17) (-1) dX7_alone_17 rfl ?_
  have hf := Option.some.inj hf
  subst hf
  exact a_ireturn (pc := 18) dX7_alone_18 hk hn ⟨rfl, rfl⟩
set_option maxHeartbeats 4000000 in
theorem sX7_alone_38 {l : Launch} {g : gE} {d MC MS' k n : Nat} {a0 : Nat} (hd : 6 ≤ d) (hk : k ≤ MC) (hn : n ≤ MS') {r : Int32 × AH} {S : AH} {s0 : Int32} (hf : X7_alone_38 S a0 s0 = some r) : AW l g d RX7 cX7_alone 4 "alone" MC MS' (Qr (some (.int r.1)) r.2) k n 38 [none, none, none, none] [.int s0] S := by
  unfold X7_alone_38 at hf
  have hf := Option.some.inj hf
  subst hf
  exact a_ireturn (pc := 38) dX7_alone_38 hk hn ⟨rfl, rfl⟩
set_option maxHeartbeats 4000000 in
theorem sX7_alone_0 {l : Launch} {g : gE} {d MC MS' k n : Nat} {a0 : Nat} (hd : 6 ≤ d) (hk : k ≤ MC) (hn : n ≤ MS') {r : Int32 × AH} {S : AH} {l1 : Int32} {l2 : Int32} (hf : X7_alone_0 S a0 l1 l2 = some r) : AW l g d RX7 cX7_alone 4 "alone" MC MS' (Qr (some (.int r.1)) r.2) k n 0 [some (.ref a0), some (.int l1), some (.int l2), none] [] S := by
  unfold X7_alone_0 at hf
  refine a_aload_n (pc := 0) dX7_alone_0 rfl (isRv_r _) ?_
  refine a_iload_n (pc := 1) dX7_alone_1 rfl ?_
  obtain ⟨r1, hr1, hf⟩ := Option.bind_eq_some_iff.mp hf
  obtain ⟨zq2, zq2S⟩ := r1
  have hf := (prp_of _ _ _).symm.trans hf
  obtain ⟨hor1, hr1⟩ := cO_of hr1
  refine g_call (pc := 2) (mc := 0) (ms := 0) (va_rf zq2) [.int l2] [] dX7_alone_2 ml_X7_91 mv_X7_bargainOf hor1 (by decide) rfl rfl (by omega) (mX7_bargainOf (by omega) hr1) rfl (Nat.le_of_ble_eq_true rfl) hk hn ?_
  refine a_astore_n (pc := 5) (ls' := [some (.ref a0), some (.int l1), some (.int l2), some (va_rf zq2)]) dX7_alone_5 (by decide) (isRv_rf _) rfl ?_
  refine a_iload_n (pc := 6) dX7_alone_6 rfl ?_
  obtain ⟨r3, hr3, hf⟩ := Option.bind_eq_some_iff.mp hf
  refine g_calls (pc := 7) (mc := 0) (ms := 0) (.int r3.1) [.int l1] [] dX7_alone_7 ml_X7_129 ms_X7_isKind rfl (by omega) (mX7_isKind (by omega) hr3) rfl (Nat.le_of_ble_eq_true rfl) hk hn ?_
  refine a_if_eq (pc := 10) 17 dX7_alone_10 (by decide) (fun c8 => ?_) (fun c8 => ?_)
  · have hf := (if_pos c8).symm.trans hf
    refine a_sub (sub_d (sub_d (sub_d (sub_d sub_n)))) ?_
    exact sX7_alone_17 hd hk hn hf
  · have hf := (if_neg c8).symm.trans hf
    refine a_aload_n (pc := 13) dX7_alone_13 rfl (isRv_rf _) ?_
    cases zq2 with
    | none =>
      have hf := (ifn_none _ _).symm.trans hf
      refine a_ifnonnullN (pc := 14) dX7_alone_14 ?_
      refine a_sub (sub_d (sub_d (sub_d (sub_d sub_n)))) ?_
      exact sX7_alone_17 hd hk hn hf
    | some a4 =>
      have hf := (ifn_some _ _ _).symm.trans hf
      refine a_ifnonnull (pc := 14) 19 dX7_alone_14 (by decide) ?_
      refine a_aload_n (pc := 19) dX7_alone_19 rfl (isRv_r _) ?_
      refine a_iconst (pc := 20) 0 dX7_alone_20 rfl ?_
      obtain ⟨r5, hr5, hf⟩ := Option.bind_eq_some_iff.mp hf
      obtain ⟨hor5, hr5⟩ := cO_of hr5
      refine g_call (pc := 21) (mc := 0) (ms := 0) (.int r5.1) [.int 0] [] dX7_alone_21 ml_X7_104 mv_X1_isReadable hor5 (by decide) rfl rfl (by omega) (mX1_isReadable (by omega) hr5) rfl (Nat.le_of_ble_eq_true rfl) hk hn ?_
      refine a_if_eq (pc := 24) 36 dX7_alone_24 (by decide) (fun c7 => ?_) (fun c7 => ?_)
      · have hf := (if_pos c7).symm.trans hf
        refine a_bipush (pc := 36) (-3) dX7_alone_36 rfl ?_
        refine a_sub (sub_d (sub_d (sub_d (sub_d sub_n)))) ?_
        exact sX7_alone_38 hd hk hn hf
      · have hf := (if_neg c7).symm.trans hf
        refine a_aload_n (pc := 27) dX7_alone_27 rfl (isRv_r _) ?_
        refine a_iload_n (pc := 28) dX7_alone_28 rfl ?_
        refine a_aload_n (pc := 29) dX7_alone_29 rfl (isRv_r _) ?_
        obtain ⟨r6, hr6, hf⟩ := Option.bind_eq_some_iff.mp hf
        obtain ⟨hor6, hr6⟩ := cO_of hr6
        refine g_call (pc := 30) (mc := 0) (ms := 0) (.int r6.1) [.int l1, .ref a4] [] dX7_alone_30 ml_X7_170 mv_X7_aloneDuties hor6 (by decide) rfl rfl (by omega) (mX7_aloneDuties (by omega) hr6) rfl (Nat.le_of_ble_eq_true rfl) hk hn ?_
        refine a_goto (pc := 33) 38 dX7_alone_33 (by decide) ?_
        refine a_sub (sub_d (sub_d (sub_d (sub_d sub_n)))) ?_
        exact sX7_alone_38 hd hk hn hf
set_option maxHeartbeats 4000000 in
theorem mX7_alone {l : Launch} {g : gE} {d : Nat} {a0 : Nat} (hd : 6 ≤ d) {r : Int32 × AH} {S : AH} {l1 : Int32} {l2 : Int32} (hf : X7_alone S a0 l1 l2 = some r) : AM l g d yX7_alone cX7_alone 4 (some .int) 0 0 [.ref a0, .int l1, .int l2] S (Qr (some (.int r.1)) r.2) := by
  refine AM.of rfl (by exact Nat.le_of_ble_eq_true rfl) (fun v h' q => by obtain ⟨rfl, -⟩ := q; exact ⟨_, rfl, rfl⟩) (fun ls e => ?_)
  have e2 : aBeg [.ref a0, .int l1, .int l2] 4 = [some (.ref a0), some (.int l1), some (.int l2), none] := rfl
  rw [e2] at e
  subst e
  refine a_sub (sub_k (sub_k (sub_k (sub_k (sub_n))))) ?_
  exact sX7_alone_0 hd (Nat.le_refl _) (Nat.le_refl _) (hf)

-- PencilStrikes.pairsOf(I)I
def X7_pairsOf_0 (S : AH) (l0 : Int32) : Option (Int32 × AH) :=
  some (((l0 * (l0 - 1)) / 2), S)
def X7_pairsOf (S : AH) (l0 : Int32) : Option (Int32 × AH) := X7_pairsOf_0 S l0
set_option maxHeartbeats 4000000 in
theorem sX7_pairsOf_0 {l : Launch} {g : gE} {d MC MS' k n : Nat} (hd : 0 ≤ d) (hk : k ≤ MC) (hn : n ≤ MS') {r : Int32 × AH} {S : AH} {l0 : Int32} (hf : X7_pairsOf_0 S l0 = some r) : AW l g d RX7 cX7_pairsOf 1 "pairsOf" MC MS' (Qr (some (.int r.1)) r.2) k n 0 [some (.int l0)] [] S := by
  unfold X7_pairsOf_0 at hf
  refine a_iload_n (pc := 0) dX7_pairsOf_0 rfl ?_
  refine a_iload_n (pc := 1) dX7_pairsOf_1 rfl ?_
  refine a_iconst (pc := 2) 1 dX7_pairsOf_2 rfl ?_
  refine a_isub (pc := 3) dX7_pairsOf_3 ?_
  refine a_imul (pc := 4) dX7_pairsOf_4 ?_
  refine a_iconst (pc := 5) 2 dX7_pairsOf_5 rfl ?_
  refine a_idiv (pc := 6) dX7_pairsOf_6 (by decide) ?_
  have hf := Option.some.inj hf
  subst hf
  exact a_ireturn (pc := 7) dX7_pairsOf_7 hk hn ⟨rfl, rfl⟩
set_option maxHeartbeats 4000000 in
theorem mX7_pairsOf {l : Launch} {g : gE} {d : Nat} (hd : 0 ≤ d) {r : Int32 × AH} {S : AH} {l0 : Int32} (hf : X7_pairsOf S l0 = some r) : AM l g d yX7_pairsOf cX7_pairsOf 1 (some .int) 0 0 [.int l0] S (Qr (some (.int r.1)) r.2) := by
  refine AM.of rfl (by exact Nat.le_of_ble_eq_true rfl) (fun v h' q => by obtain ⟨rfl, -⟩ := q; exact ⟨_, rfl, rfl⟩) (fun ls e => ?_)
  have e2 : aBeg [.int l0] 1 = [some (.int l0)] := rfl
  rw [e2] at e
  subst e
  refine a_sub (sub_k (sub_n)) ?_
  exact sX7_pairsOf_0 hd (Nat.le_refl _) (Nat.le_refl _) (hf)

-- PencilStrikes.apart(III)I
def X7_apart_31 (S : AH) (a0 : Nat) : Option (Int32 × AH) :=
  some ((-1), S)
def X7_apart_0 (S : AH) (a0 : Nat) (l1 : Int32) (l2 : Int32) (l3 : Int32) : Option (Int32 × AH) :=
  (cO S a0 7 (X7_bargainOf S a0 l2)).bind fun r1 => prp r1 fun zq2 zq2S =>
  (cO zq2S a0 7 (X7_lawOf zq2S a0 l3)).bind fun r3 => prp r3 fun zq4 zq4S =>
  (X7_isKind zq4S l1).bind fun r5 =>
  if r5.1 = 0 then
    X7_apart_31 r5.2 a0
  else
    ifn zq2 (
      X7_apart_31 r5.2 a0) fun a6 =>
    ifn zq4 (
      X7_apart_31 r5.2 a0) fun a7 =>
    (cO r5.2 a6 1 (X1_isReadable r5.2 a6 0)).bind fun r8 =>
    if r8.1 = 0 then
      some ((-3), r8.2)
    else
      (cO r8.2 a6 1 (X1_whole r8.2 a6)).bind fun r9 => prp r9 fun zq10 zq10S =>
      (cO zq10S a7 3 (X3_barredDuties zq10S a7 zq10)).bind fun r11 =>
      (J6_bitCount_0f7a4 r11.2 r11.1).bind fun r12 =>
      (cO r12.2 a6 1 (X1_whole r12.2 a6)).bind fun r13 => prp r13 fun zq14 zq14S =>
      (cO zq14S a7 3 (X3_barredDuties zq14S a7 zq14)).bind fun r15 =>
      (cO r15.2 a0 7 (X7_aloneDuties r15.2 a0 l1 (some a6))).bind fun r16 =>
      (J6_bitCount_0f7a4 r16.2 (r15.1 &&& r16.1)).bind fun r17 =>
      (X7_pairsOf r17.2 r12.1).bind fun r18 =>
      (X7_pairsOf r18.2 r17.1).bind fun r19 =>
      some ((r18.1 - r19.1), r19.2)
def X7_apart (S : AH) (a0 : Nat) (l1 : Int32) (l2 : Int32) (l3 : Int32) : Option (Int32 × AH) := X7_apart_0 S a0 l1 l2 l3
set_option maxHeartbeats 4000000 in
theorem sX7_apart_31 {l : Launch} {g : gE} {d MC MS' k n : Nat} {a0 : Nat} (hd : 6 ≤ d) (hk : k ≤ MC) (hn : n ≤ MS') {r : Int32 × AH} {S : AH} (hf : X7_apart_31 S a0 = some r) : AW l g d RX7 cX7_apart 8 "apart" MC MS' (Qr (some (.int r.1)) r.2) k n 31 [none, none, none, none, none, none, none, none] [] S := by
  unfold X7_apart_31 at hf
  refine a_iconst (pc := 31) (-1) dX7_apart_31 rfl ?_
  have hf := Option.some.inj hf
  subst hf
  exact a_ireturn (pc := 32) dX7_apart_32 hk hn ⟨rfl, rfl⟩
set_option maxHeartbeats 4000000 in
theorem sX7_apart_0 {l : Launch} {g : gE} {d MC MS' k n : Nat} {a0 : Nat} (hd : 6 ≤ d) (hk : k ≤ MC) (hn : n ≤ MS') {r : Int32 × AH} {S : AH} {l1 : Int32} {l2 : Int32} {l3 : Int32} (hf : X7_apart_0 S a0 l1 l2 l3 = some r) : AW l g d RX7 cX7_apart 8 "apart" MC MS' (Qr (some (.int r.1)) r.2) k n 0 [some (.ref a0), some (.int l1), some (.int l2), some (.int l3), none, none, none, none] [] S := by
  unfold X7_apart_0 at hf
  refine a_aload_n (pc := 0) dX7_apart_0 rfl (isRv_r _) ?_
  refine a_iload_n (pc := 1) dX7_apart_1 rfl ?_
  obtain ⟨r1, hr1, hf⟩ := Option.bind_eq_some_iff.mp hf
  obtain ⟨zq2, zq2S⟩ := r1
  have hf := (prp_of _ _ _).symm.trans hf
  obtain ⟨hor1, hr1⟩ := cO_of hr1
  refine g_call (pc := 2) (mc := 0) (ms := 0) (va_rf zq2) [.int l2] [] dX7_apart_2 ml_X7_91 mv_X7_bargainOf hor1 (by decide) rfl rfl (by omega) (mX7_bargainOf (by omega) hr1) rfl (Nat.le_of_ble_eq_true rfl) hk hn ?_
  refine a_astore (pc := 5) (ls' := [some (.ref a0), some (.int l1), some (.int l2), some (.int l3), some (va_rf zq2), none, none, none]) dX7_apart_5 (by decide) (isRv_rf _) rfl ?_
  refine a_aload_n (pc := 7) dX7_apart_7 rfl (isRv_r _) ?_
  refine a_iload_n (pc := 8) dX7_apart_8 rfl ?_
  obtain ⟨r3, hr3, hf⟩ := Option.bind_eq_some_iff.mp hf
  obtain ⟨zq4, zq4S⟩ := r3
  have hf := (prp_of _ _ _).symm.trans hf
  obtain ⟨hor3, hr3⟩ := cO_of hr3
  refine g_call (pc := 9) (mc := 0) (ms := 0) (va_rf zq4) [.int l3] [] dX7_apart_9 ml_X7_117 mv_X7_lawOf hor3 (by decide) rfl rfl (by omega) (mX7_lawOf (by omega) hr3) rfl (Nat.le_of_ble_eq_true rfl) hk hn ?_
  refine a_astore (pc := 12) (ls' := [some (.ref a0), some (.int l1), some (.int l2), some (.int l3), some (va_rf zq2), some (va_rf zq4), none, none]) dX7_apart_12 (by decide) (isRv_rf _) (aSet_ref rfl (va_rf_cat _) rfl) ?_
  refine a_iload_n (pc := 14) dX7_apart_14 rfl ?_
  obtain ⟨r5, hr5, hf⟩ := Option.bind_eq_some_iff.mp hf
  refine g_calls (pc := 15) (mc := 0) (ms := 0) (.int r5.1) [.int l1] [] dX7_apart_15 ml_X7_129 ms_X7_isKind rfl (by omega) (mX7_isKind (by omega) hr5) rfl (Nat.le_of_ble_eq_true rfl) hk hn ?_
  refine a_if_eq (pc := 18) 31 dX7_apart_18 (by decide) (fun c21 => ?_) (fun c21 => ?_)
  · have hf := (if_pos c21).symm.trans hf
    refine a_sub (sub_d (sub_d (sub_d (sub_d (sub_d (sub_d (sub_k (sub_k sub_n)))))))) ?_
    exact sX7_apart_31 hd hk hn hf
  · have hf := (if_neg c21).symm.trans hf
    refine a_aload (pc := 21) dX7_apart_21 rfl (isRv_rf _) ?_
    cases zq2 with
    | none =>
      have hf := (ifn_none _ _).symm.trans hf
      refine a_ifnullN (pc := 23) 31 dX7_apart_23 (by decide) ?_
      refine a_sub (sub_d (sub_d (sub_d (sub_d (sub_d (sub_d (sub_k (sub_k sub_n)))))))) ?_
      exact sX7_apart_31 hd hk hn hf
    | some a6 =>
      have hf := (ifn_some _ _ _).symm.trans hf
      refine a_ifnull (pc := 23) dX7_apart_23 ?_
      refine a_aload (pc := 26) dX7_apart_26 rfl (isRv_rf _) ?_
      cases zq4 with
      | none =>
        have hf := (ifn_none _ _).symm.trans hf
        refine a_ifnonnullN (pc := 28) dX7_apart_28 ?_
        refine a_sub (sub_d (sub_d (sub_d (sub_d (sub_d (sub_d (sub_k (sub_k sub_n)))))))) ?_
        exact sX7_apart_31 hd hk hn hf
      | some a7 =>
        have hf := (ifn_some _ _ _).symm.trans hf
        refine a_ifnonnull (pc := 28) 33 dX7_apart_28 (by decide) ?_
        refine a_aload (pc := 33) dX7_apart_33 rfl (isRv_r _) ?_
        refine a_iconst (pc := 35) 0 dX7_apart_35 rfl ?_
        obtain ⟨r8, hr8, hf⟩ := Option.bind_eq_some_iff.mp hf
        obtain ⟨hor8, hr8⟩ := cO_of hr8
        refine g_call (pc := 36) (mc := 0) (ms := 0) (.int r8.1) [.int 0] [] dX7_apart_36 ml_X7_104 mv_X1_isReadable hor8 (by decide) rfl rfl (by omega) (mX1_isReadable (by omega) hr8) rfl (Nat.le_of_ble_eq_true rfl) hk hn ?_
        refine a_if_ne (pc := 39) 45 dX7_apart_39 (by decide) (fun c20 => ?_) (fun c20 => ?_)
        · have hf := (if_neg c20).symm.trans hf
          refine a_aload (pc := 45) dX7_apart_45 rfl (isRv_r _) ?_
          refine a_aload (pc := 47) dX7_apart_47 rfl (isRv_r _) ?_
          obtain ⟨r9, hr9, hf⟩ := Option.bind_eq_some_iff.mp hf
          obtain ⟨zq10, zq10S⟩ := r9
          have hf := (prp_of _ _ _).symm.trans hf
          obtain ⟨hor9, hr9⟩ := cO_of hr9
          refine g_call (pc := 49) (mc := 0) (ms := 0) (va_rf zq10) [] [.ref a7] dX7_apart_49 ml_X7_154 mv_X1_whole hor9 (by decide) rfl rfl (by omega) (mX1_whole (by omega) hr9) rfl (Nat.le_of_ble_eq_true rfl) hk hn ?_
          obtain ⟨r11, hr11, hf⟩ := Option.bind_eq_some_iff.mp hf
          obtain ⟨hor11, hr11⟩ := cO_of hr11
          refine g_call (pc := 52) (mc := 0) (ms := 0) (.int r11.1) [va_rf zq10] [] dX7_apart_52 ml_X7_125 mv_X3_barredDuties hor11 (by decide) rfl rfl (by omega) (mX3_barredDuties (by omega) hr11) rfl (Nat.le_of_ble_eq_true rfl) hk hn ?_
          obtain ⟨r12, hr12, hf⟩ := Option.bind_eq_some_iff.mp hf
          refine g_calls (pc := 55) (mc := 0) (ms := 0) (.int r12.1) [.int (r11.1)] [] dX7_apart_55 ml_X7_146 ms_J6_bitCount_0f7a4 rfl (by omega) (mJ6_bitCount_0f7a4 (by omega) hr12) rfl (Nat.le_of_ble_eq_true rfl) hk hn ?_
          refine a_istore (pc := 58) (ls' := [some (.ref a0), some (.int l1), some (.int l2), some (.int l3), some (.ref a6), some (.ref a7), some (.int (r12.1)), none]) dX7_apart_58 (by decide) rfl ?_
          refine a_aload (pc := 60) dX7_apart_60 rfl (isRv_r _) ?_
          refine a_aload (pc := 62) dX7_apart_62 rfl (isRv_r _) ?_
          obtain ⟨r13, hr13, hf⟩ := Option.bind_eq_some_iff.mp hf
          obtain ⟨zq14, zq14S⟩ := r13
          have hf := (prp_of _ _ _).symm.trans hf
          obtain ⟨hor13, hr13⟩ := cO_of hr13
          refine g_call (pc := 64) (mc := 0) (ms := 0) (va_rf zq14) [] [.ref a7] dX7_apart_64 ml_X7_154 mv_X1_whole hor13 (by decide) rfl rfl (by omega) (mX1_whole (by omega) hr13) rfl (Nat.le_of_ble_eq_true rfl) hk hn ?_
          obtain ⟨r15, hr15, hf⟩ := Option.bind_eq_some_iff.mp hf
          obtain ⟨hor15, hr15⟩ := cO_of hr15
          refine g_call (pc := 67) (mc := 0) (ms := 0) (.int r15.1) [va_rf zq14] [] dX7_apart_67 ml_X7_125 mv_X3_barredDuties hor15 (by decide) rfl rfl (by omega) (mX3_barredDuties (by omega) hr15) rfl (Nat.le_of_ble_eq_true rfl) hk hn ?_
          refine a_aload_n (pc := 70) dX7_apart_70 rfl (isRv_r _) ?_
          refine a_iload_n (pc := 71) dX7_apart_71 rfl ?_
          refine a_aload (pc := 72) dX7_apart_72 rfl (isRv_r _) ?_
          obtain ⟨r16, hr16, hf⟩ := Option.bind_eq_some_iff.mp hf
          obtain ⟨hor16, hr16⟩ := cO_of hr16
          refine g_call (pc := 74) (mc := 0) (ms := 0) (.int r16.1) [.int l1, .ref a6] [.int (r15.1)] dX7_apart_74 ml_X7_170 mv_X7_aloneDuties hor16 (by decide) rfl rfl (by omega) (mX7_aloneDuties (by omega) hr16) rfl (Nat.le_of_ble_eq_true rfl) hk hn ?_
          refine a_iand (pc := 77) dX7_apart_77 ?_
          obtain ⟨r17, hr17, hf⟩ := Option.bind_eq_some_iff.mp hf
          refine g_calls (pc := 78) (mc := 0) (ms := 0) (.int r17.1) [.int (r15.1 &&& r16.1)] [] dX7_apart_78 ml_X7_146 ms_J6_bitCount_0f7a4 rfl (by omega) (mJ6_bitCount_0f7a4 (by omega) hr17) rfl (Nat.le_of_ble_eq_true rfl) hk hn ?_
          refine a_istore (pc := 81) (ls' := [some (.ref a0), some (.int l1), some (.int l2), some (.int l3), some (.ref a6), some (.ref a7), some (.int (r12.1)), some (.int (r17.1))]) dX7_apart_81 (by decide) rfl ?_
          refine a_iload (pc := 83) dX7_apart_83 rfl ?_
          obtain ⟨r18, hr18, hf⟩ := Option.bind_eq_some_iff.mp hf
          refine g_calls (pc := 85) (mc := 0) (ms := 0) (.int r18.1) [.int (r12.1)] [] dX7_apart_85 ml_X7_174 ms_X7_pairsOf rfl (by omega) (mX7_pairsOf (by omega) hr18) rfl (Nat.le_of_ble_eq_true rfl) hk hn ?_
          refine a_iload (pc := 88) dX7_apart_88 rfl ?_
          obtain ⟨r19, hr19, hf⟩ := Option.bind_eq_some_iff.mp hf
          refine g_calls (pc := 90) (mc := 0) (ms := 0) (.int r19.1) [.int (r17.1)] [.int (r18.1)] dX7_apart_90 ml_X7_174 ms_X7_pairsOf rfl (by omega) (mX7_pairsOf (by omega) hr19) rfl (Nat.le_of_ble_eq_true rfl) hk hn ?_
          refine a_isub (pc := 93) dX7_apart_93 ?_
          have hf := Option.some.inj hf
          subst hf
          exact a_ireturn (pc := 94) dX7_apart_94 hk hn ⟨rfl, rfl⟩
        · have hf := (if_pos c20).symm.trans hf
          refine a_bipush (pc := 42) (-3) dX7_apart_42 rfl ?_
          have hf := Option.some.inj hf
          subst hf
          exact a_ireturn (pc := 44) dX7_apart_44 hk hn ⟨rfl, rfl⟩
set_option maxHeartbeats 4000000 in
theorem mX7_apart {l : Launch} {g : gE} {d : Nat} {a0 : Nat} (hd : 6 ≤ d) {r : Int32 × AH} {S : AH} {l1 : Int32} {l2 : Int32} {l3 : Int32} (hf : X7_apart S a0 l1 l2 l3 = some r) : AM l g d yX7_apart cX7_apart 8 (some .int) 0 0 [.ref a0, .int l1, .int l2, .int l3] S (Qr (some (.int r.1)) r.2) := by
  refine AM.of rfl (by exact Nat.le_of_ble_eq_true rfl) (fun v h' q => by obtain ⟨rfl, -⟩ := q; exact ⟨_, rfl, rfl⟩) (fun ls e => ?_)
  have e2 : aBeg [.ref a0, .int l1, .int l2, .int l3] 8 = [some (.ref a0), some (.int l1), some (.int l2), some (.int l3), none, none, none, none] := rfl
  rw [e2] at e
  subst e
  refine a_sub (sub_k (sub_k (sub_k (sub_k (sub_k (sub_k (sub_k (sub_k (sub_n))))))))) ?_
  exact sX7_apart_0 hd (Nat.le_refl _) (Nat.le_refl _) (hf)

-- PencilStrikes.saves(II)I
def X7_saves_22 (S : AH) (a0 : Nat) : Option (Int32 × AH) :=
  some ((-1), S)
def X7_saves_38 : Nat → AH → Nat → Option Nat → Option Nat → Int32 → Option (Int32 × AH)
  | 0, _, _, _, _, _ => none
  | fn + 1, S, a0, l3, l4, l5 =>
    if 60 < l5 then
      some ((-5), S)
    else
      (l3).bind fun a1 =>
      (cO S a1 1 (X1_whole S a1)).bind fun r2 => prp r2 fun zq3 zq3S =>
      (l4).bind fun a4 =>
      (cO zq3S a4 3 (X3_allows zq3S a4 zq3 l5)).bind fun r5 =>
      if r5.1 = 0 then
        X7_saves_38 fn r5.2 a0 (some a1) (some a4) (l5 + 1)
      else
        some (l5, r5.2)
def X7_saves_0 (S : AH) (a0 : Nat) (l1 : Int32) (l2 : Int32) : Option (Int32 × AH) :=
  (cO S a0 7 (X7_bargainOf S a0 l1)).bind fun r1 => prp r1 fun zq2 zq2S =>
  (cO zq2S a0 7 (X7_lawOf zq2S a0 l2)).bind fun r3 => prp r3 fun zq4 zq4S =>
  ifn zq2 (
    X7_saves_22 zq4S a0) fun a5 =>
  ifn zq4 (
    X7_saves_22 zq4S a0) fun a6 =>
  (cO zq4S a5 1 (X1_isReadable zq4S a5 0)).bind fun r7 =>
  if r7.1 = 0 then
    some ((-5), r7.2)
  else
    X7_saves_38 FU r7.2 a0 (some a5) (some a6) 0
def X7_saves (S : AH) (a0 : Nat) (l1 : Int32) (l2 : Int32) : Option (Int32 × AH) := X7_saves_0 S a0 l1 l2
set_option maxHeartbeats 4000000 in
theorem sX7_saves_22 {l : Launch} {g : gE} {d MC MS' k n : Nat} {a0 : Nat} (hd : 5 ≤ d) (hk : k ≤ MC) (hn : n ≤ MS') {r : Int32 × AH} {S : AH} (hf : X7_saves_22 S a0 = some r) : AW l g d RX7 cX7_saves 6 "saves" MC MS' (Qr (some (.int r.1)) r.2) k n 22 [none, none, none, none, none, none] [] S := by
  unfold X7_saves_22 at hf
  refine a_iconst (pc := 22) (-1) dX7_saves_22 rfl ?_
  have hf := Option.some.inj hf
  subst hf
  exact a_ireturn (pc := 23) dX7_saves_23 hk hn ⟨rfl, rfl⟩
set_option maxHeartbeats 4000000 in
theorem sX7_saves_38 {l : Launch} {g : gE} {d MC MS' k n : Nat} {a0 : Nat} (hd : 5 ≤ d) (hk : k ≤ MC) (hn : n ≤ MS') {r : Int32 × AH} : ∀ (fn : Nat) (S : AH) (l3 : Option Nat) (l4 : Option Nat) (l5 : Int32), X7_saves_38 fn S a0 l3 l4 l5 = some r → AW l g d RX7 cX7_saves 6 "saves" MC MS' (Qr (some (.int r.1)) r.2) k n 38 [none, none, none, some (va_rf l3), some (va_rf l4), some (.int l5)] [] S := by
  intro fn
  induction fn with
  | zero =>
    intro S l3 l4 l5 hf
    rw [X7_saves_38] at hf
    cases hf
  | succ fn ih =>
    intro S l3 l4 l5 hf
    rw [X7_saves_38] at hf
    refine a_iload (pc := 38) dX7_saves_38 rfl ?_
    refine a_bipush (pc := 40) 60 dX7_saves_40 rfl ?_
    refine a_icmp_gt (pc := 42) 68 dX7_saves_42 (by decide) (fun c7 => ?_) (fun c7 => ?_)
    · have hf := (if_pos c7).symm.trans hf
      refine a_bipush (pc := 68) (-5) dX7_saves_68 rfl ?_
      have hf := Option.some.inj hf
      subst hf
      exact a_ireturn (pc := 70) dX7_saves_70 hk hn ⟨rfl, rfl⟩
    · have hf := (if_neg c7).symm.trans hf
      refine a_aload (pc := 45) dX7_saves_45 rfl (isRv_rf _) ?_
      refine a_aload_n (pc := 47) dX7_saves_47 rfl (isRv_rf _) ?_
      obtain ⟨a1, ha1, hf⟩ := Option.bind_eq_some_iff.mp hf
      rw [ha1]
      obtain ⟨r2, hr2, hf⟩ := Option.bind_eq_some_iff.mp hf
      obtain ⟨zq3, zq3S⟩ := r2
      have hf := (prp_of _ _ _).symm.trans hf
      obtain ⟨hor2, hr2⟩ := cO_of hr2
      refine g_call (pc := 48) (mc := 0) (ms := 0) (va_rf zq3) [] [va_rf l4] dX7_saves_48 ml_X7_154 mv_X1_whole hor2 (by decide) rfl rfl (by omega) (mX1_whole (by omega) hr2) rfl (by cases l4 <;> exact Nat.le_of_ble_eq_true rfl) hk hn ?_
      refine a_iload (pc := 51) dX7_saves_51 rfl ?_
      obtain ⟨a4, ha4, hf⟩ := Option.bind_eq_some_iff.mp hf
      rw [ha4]
      obtain ⟨r5, hr5, hf⟩ := Option.bind_eq_some_iff.mp hf
      obtain ⟨hor5, hr5⟩ := cO_of hr5
      refine g_call (pc := 53) (mc := 0) (ms := 0) (.int r5.1) [va_rf zq3, .int l5] [] dX7_saves_53 ml_X7_121 mv_X3_allows hor5 (by decide) rfl rfl (by omega) (mX3_allows (by omega) hr5) rfl (Nat.le_of_ble_eq_true rfl) hk hn ?_
      refine a_if_eq (pc := 56) 62 dX7_saves_56 (by decide) (fun c6 => ?_) (fun c6 => ?_)
      · have hf := (if_pos c6).symm.trans hf
        refine a_iinc (pc := 62) (ls' := [none, none, none, some (.ref a1), some (.ref a4), some (.int (l5 + 1))]) (l5 + 1) dX7_saves_62 rfl rfl (by decide) rfl ?_
        refine a_goto (pc := 65) 38 dX7_saves_65 (by decide) ?_
        exact ih r5.2 (some a1) (some a4) (l5 + 1) hf
      · have hf := (if_neg c6).symm.trans hf
        refine a_iload (pc := 59) dX7_saves_59 rfl ?_
        have hf := Option.some.inj hf
        subst hf
        exact a_ireturn (pc := 61) dX7_saves_61 hk hn ⟨rfl, rfl⟩
set_option maxHeartbeats 4000000 in
theorem sX7_saves_0 {l : Launch} {g : gE} {d MC MS' k n : Nat} {a0 : Nat} (hd : 5 ≤ d) (hk : k ≤ MC) (hn : n ≤ MS') {r : Int32 × AH} {S : AH} {l1 : Int32} {l2 : Int32} (hf : X7_saves_0 S a0 l1 l2 = some r) : AW l g d RX7 cX7_saves 6 "saves" MC MS' (Qr (some (.int r.1)) r.2) k n 0 [some (.ref a0), some (.int l1), some (.int l2), none, none, none] [] S := by
  unfold X7_saves_0 at hf
  refine a_aload_n (pc := 0) dX7_saves_0 rfl (isRv_r _) ?_
  refine a_iload_n (pc := 1) dX7_saves_1 rfl ?_
  obtain ⟨r1, hr1, hf⟩ := Option.bind_eq_some_iff.mp hf
  obtain ⟨zq2, zq2S⟩ := r1
  have hf := (prp_of _ _ _).symm.trans hf
  obtain ⟨hor1, hr1⟩ := cO_of hr1
  refine g_call (pc := 2) (mc := 0) (ms := 0) (va_rf zq2) [.int l1] [] dX7_saves_2 ml_X7_91 mv_X7_bargainOf hor1 (by decide) rfl rfl (by omega) (mX7_bargainOf (by omega) hr1) rfl (Nat.le_of_ble_eq_true rfl) hk hn ?_
  refine a_astore_n (pc := 5) (ls' := [some (.ref a0), some (.int l1), some (.int l2), some (va_rf zq2), none, none]) dX7_saves_5 (by decide) (isRv_rf _) rfl ?_
  refine a_aload_n (pc := 6) dX7_saves_6 rfl (isRv_r _) ?_
  refine a_iload_n (pc := 7) dX7_saves_7 rfl ?_
  obtain ⟨r3, hr3, hf⟩ := Option.bind_eq_some_iff.mp hf
  obtain ⟨zq4, zq4S⟩ := r3
  have hf := (prp_of _ _ _).symm.trans hf
  obtain ⟨hor3, hr3⟩ := cO_of hr3
  refine g_call (pc := 8) (mc := 0) (ms := 0) (va_rf zq4) [.int l2] [] dX7_saves_8 ml_X7_117 mv_X7_lawOf hor3 (by decide) rfl rfl (by omega) (mX7_lawOf (by omega) hr3) rfl (Nat.le_of_ble_eq_true rfl) hk hn ?_
  refine a_astore (pc := 11) (ls' := [some (.ref a0), some (.int l1), some (.int l2), some (va_rf zq2), some (va_rf zq4), none]) dX7_saves_11 (by decide) (isRv_rf _) (aSet_ref rfl (va_rf_cat _) rfl) ?_
  refine a_aload_n (pc := 13) dX7_saves_13 rfl (isRv_rf _) ?_
  cases zq2 with
  | none =>
    have hf := (ifn_none _ _).symm.trans hf
    refine a_ifnullN (pc := 14) 22 dX7_saves_14 (by decide) ?_
    refine a_sub (sub_d (sub_d (sub_d (sub_d (sub_d (sub_k sub_n)))))) ?_
    exact sX7_saves_22 hd hk hn hf
  | some a5 =>
    have hf := (ifn_some _ _ _).symm.trans hf
    refine a_ifnull (pc := 14) dX7_saves_14 ?_
    refine a_aload (pc := 17) dX7_saves_17 rfl (isRv_rf _) ?_
    cases zq4 with
    | none =>
      have hf := (ifn_none _ _).symm.trans hf
      refine a_ifnonnullN (pc := 19) dX7_saves_19 ?_
      refine a_sub (sub_d (sub_d (sub_d (sub_d (sub_d (sub_k sub_n)))))) ?_
      exact sX7_saves_22 hd hk hn hf
    | some a6 =>
      have hf := (ifn_some _ _ _).symm.trans hf
      refine a_ifnonnull (pc := 19) 24 dX7_saves_19 (by decide) ?_
      refine a_aload_n (pc := 24) dX7_saves_24 rfl (isRv_r _) ?_
      refine a_iconst (pc := 25) 0 dX7_saves_25 rfl ?_
      obtain ⟨r7, hr7, hf⟩ := Option.bind_eq_some_iff.mp hf
      obtain ⟨hor7, hr7⟩ := cO_of hr7
      refine g_call (pc := 26) (mc := 0) (ms := 0) (.int r7.1) [.int 0] [] dX7_saves_26 ml_X7_104 mv_X1_isReadable hor7 (by decide) rfl rfl (by omega) (mX1_isReadable (by omega) hr7) rfl (Nat.le_of_ble_eq_true rfl) hk hn ?_
      refine a_if_ne (pc := 29) 35 dX7_saves_29 (by decide) (fun c8 => ?_) (fun c8 => ?_)
      · have hf := (if_neg c8).symm.trans hf
        refine a_iconst (pc := 35) 0 dX7_saves_35 rfl ?_
        refine a_istore (pc := 36) (ls' := [some (.ref a0), some (.int l1), some (.int l2), some (.ref a5), some (.ref a6), some (.int 0)]) dX7_saves_36 (by decide) rfl ?_
        refine a_sub (sub_d (sub_d (sub_d (sub_k (sub_k (sub_k sub_n)))))) ?_
        exact sX7_saves_38 hd hk hn FU r7.2 (some a5) (some a6) 0 hf
      · have hf := (if_pos c8).symm.trans hf
        refine a_bipush (pc := 32) (-5) dX7_saves_32 rfl ?_
        have hf := Option.some.inj hf
        subst hf
        exact a_ireturn (pc := 34) dX7_saves_34 hk hn ⟨rfl, rfl⟩
set_option maxHeartbeats 4000000 in
theorem mX7_saves {l : Launch} {g : gE} {d : Nat} {a0 : Nat} (hd : 5 ≤ d) {r : Int32 × AH} {S : AH} {l1 : Int32} {l2 : Int32} (hf : X7_saves S a0 l1 l2 = some r) : AM l g d yX7_saves cX7_saves 6 (some .int) 0 0 [.ref a0, .int l1, .int l2] S (Qr (some (.int r.1)) r.2) := by
  refine AM.of rfl (by exact Nat.le_of_ble_eq_true rfl) (fun v h' q => by obtain ⟨rfl, -⟩ := q; exact ⟨_, rfl, rfl⟩) (fun ls e => ?_)
  have e2 : aBeg [.ref a0, .int l1, .int l2] 6 = [some (.ref a0), some (.int l1), some (.int l2), none, none, none] := rfl
  rw [e2] at e
  subst e
  refine a_sub (sub_k (sub_k (sub_k (sub_k (sub_k (sub_k (sub_n))))))) ?_
  exact sX7_saves_0 hd (Nat.le_refl _) (Nat.le_refl _) (hf)

-- PencilStrikes$Tape.at(I)J
def X5_at_31 (S : AH) (a0 : Nat) (s0 : Int64) : Option (Int64 × AH) :=
  some (s0, S)
def X5_at_30 (S : AH) (a0 : Nat) : Option (Int64 × AH) :=
  X5_at_31 S a0 (0 : Int64)
def X5_at_0 (S : AH) (a0 : Nat) (l1 : Int32) : Option (Int64 × AH) :=
  if l1 < 0 then
    X5_at_30 S a0
  else
    (gI S a0 5 2).bind fun x1 =>
    if x1 ≤ l1 then
      X5_at_30 S a0
    else
      (gQ S a0 5 0).bind fun x2 =>
      (aN S x2).bind fun x3 =>
      if x3 ≤ l1 then
        X5_at_30 S a0
      else
        (gQ S a0 5 0).bind fun x4 =>
        (aL S x4 l1).bind fun x5 =>
        X5_at_31 S a0 x5
def X5_at (S : AH) (a0 : Nat) (l1 : Int32) : Option (Int64 × AH) := X5_at_0 S a0 l1
set_option maxHeartbeats 4000000 in
theorem sX5_at_31 {l : Launch} {g : gE} {d MC MS' k n : Nat} {a0 : Nat} (hd : 0 ≤ d) (hk : k ≤ MC) (hn : n ≤ MS') {r : Int64 × AH} {S : AH} {s0 : Int64} (hf : X5_at_31 S a0 s0 = some r) : AW l g d RX5 cX5_at 2 "at" MC MS' (Qr (some (.long r.1)) r.2) k n 31 [none, none] [.long s0] S := by
  unfold X5_at_31 at hf
  have hf := Option.some.inj hf
  subst hf
  exact a_lreturn (pc := 31) dX5_at_31 hk hn ⟨rfl, rfl⟩
set_option maxHeartbeats 4000000 in
theorem sX5_at_30 {l : Launch} {g : gE} {d MC MS' k n : Nat} {a0 : Nat} (hd : 0 ≤ d) (hk : k ≤ MC) (hn : n ≤ MS') {r : Int64 × AH} {S : AH} (hf : X5_at_30 S a0 = some r) : AW l g d RX5 cX5_at 2 "at" MC MS' (Qr (some (.long r.1)) r.2) k n 30 [none, none] [] S := by
  unfold X5_at_30 at hf
  refine a_lconst (pc := 30) 0 dX5_at_30 rfl ?_
  exact sX5_at_31 hd hk hn hf
set_option maxHeartbeats 4000000 in
theorem sX5_at_0 {l : Launch} {g : gE} {d MC MS' k n : Nat} {a0 : Nat} (hd : 0 ≤ d) (hk : k ≤ MC) (hn : n ≤ MS') {r : Int64 × AH} {S : AH} {l1 : Int32} (hf : X5_at_0 S a0 l1 = some r) : AW l g d RX5 cX5_at 2 "at" MC MS' (Qr (some (.long r.1)) r.2) k n 0 [some (.ref a0), some (.int l1)] [] S := by
  unfold X5_at_0 at hf
  refine a_iload_n (pc := 0) dX5_at_0 rfl ?_
  refine a_if_lt (pc := 1) 30 dX5_at_1 (by decide) (fun c8 => ?_) (fun c8 => ?_)
  · have hf := (if_pos c8).symm.trans hf
    refine a_sub (sub_d (sub_d sub_n)) ?_
    exact sX5_at_30 hd hk hn hf
  · have hf := (if_neg c8).symm.trans hf
    refine a_iload_n (pc := 4) dX5_at_4 rfl ?_
    refine a_aload_n (pc := 5) dX5_at_5 rfl (isRv_r _) ?_
    obtain ⟨x1, hx1, hf⟩ := Option.bind_eq_some_iff.mp hf
    refine g_getI (pc := 6) dX5_at_6 fl_X5_19 hx1 ?_
    refine a_icmp_ge (pc := 9) 30 dX5_at_9 (by decide) (fun c7 => ?_) (fun c7 => ?_)
    · have hf := (if_pos c7).symm.trans hf
      refine a_sub (sub_d (sub_d sub_n)) ?_
      exact sX5_at_30 hd hk hn hf
    · have hf := (if_neg c7).symm.trans hf
      refine a_iload_n (pc := 12) dX5_at_12 rfl ?_
      refine a_aload_n (pc := 13) dX5_at_13 rfl (isRv_r _) ?_
      obtain ⟨x2, hx2, hf⟩ := Option.bind_eq_some_iff.mp hf
      refine g_getQ (pc := 14) dX5_at_14 fl_X5_9 hx2 ?_
      obtain ⟨x3, hx3, hf⟩ := Option.bind_eq_some_iff.mp hf
      refine g_alen (pc := 17) dX5_at_17 hx3 ?_
      refine a_icmp_ge (pc := 18) 30 dX5_at_18 (by decide) (fun c6 => ?_) (fun c6 => ?_)
      · have hf := (if_pos c6).symm.trans hf
        refine a_sub (sub_d (sub_d sub_n)) ?_
        exact sX5_at_30 hd hk hn hf
      · have hf := (if_neg c6).symm.trans hf
        refine a_aload_n (pc := 21) dX5_at_21 rfl (isRv_r _) ?_
        obtain ⟨x4, hx4, hf⟩ := Option.bind_eq_some_iff.mp hf
        refine g_getQ (pc := 22) dX5_at_22 fl_X5_9 hx4 ?_
        refine a_iload_n (pc := 25) dX5_at_25 rfl ?_
        obtain ⟨x5, hx5, hf⟩ := Option.bind_eq_some_iff.mp hf
        refine g_lald (pc := 26) dX5_at_26 hx5 ?_
        refine a_goto (pc := 27) 31 dX5_at_27 (by decide) ?_
        refine a_sub (sub_d (sub_d sub_n)) ?_
        exact sX5_at_31 hd hk hn hf
set_option maxHeartbeats 4000000 in
theorem mX5_at {l : Launch} {g : gE} {d : Nat} {a0 : Nat} (hd : 0 ≤ d) {r : Int64 × AH} {S : AH} {l1 : Int32} (hf : X5_at S a0 l1 = some r) : AM l g d yX5_at cX5_at 2 (some .long) 0 0 [.ref a0, .int l1] S (Qr (some (.long r.1)) r.2) := by
  refine AM.of rfl (by exact Nat.le_of_ble_eq_true rfl) (fun v h' q => by obtain ⟨rfl, -⟩ := q; rfl) (fun ls e => ?_)
  have e2 : aBeg [.ref a0, .int l1] 2 = [some (.ref a0), some (.int l1)] := rfl
  rw [e2] at e
  subst e
  refine a_sub (sub_k (sub_k (sub_n))) ?_
  exact sX5_at_0 hd (Nat.le_refl _) (Nat.le_refl _) (hf)

-- PencilStrikes$Tape.holds()Z
def X5_holds_13 (S : AH) (a0 : Nat) (s0 : Int32) : Option (Int32 × AH) :=
  some (s0, S)
def X5_holds_0 (S : AH) (a0 : Nat) : Option (Int32 × AH) :=
  (gI S a0 5 1).bind fun x1 =>
  if x1 = (-1) then
    X5_holds_13 S a0 0
  else
    X5_holds_13 S a0 1
def X5_holds (S : AH) (a0 : Nat) : Option (Int32 × AH) := zg (X5_holds_0 S a0)
set_option maxHeartbeats 4000000 in
theorem sX5_holds_13 {l : Launch} {g : gE} {d MC MS' k n : Nat} {a0 : Nat} (hd : 0 ≤ d) (hk : k ≤ MC) (hn : n ≤ MS') {r : Int32 × AH} {S : AH} {s0 : Int32} (hf : X5_holds_13 S a0 s0 = some r) : AW l g d RX5 cX5_holds 1 "holds" MC MS' (Qr (some (.int r.1)) r.2) k n 13 [none] [.int s0] S := by
  unfold X5_holds_13 at hf
  have hf := Option.some.inj hf
  subst hf
  exact a_ireturn (pc := 13) dX5_holds_13 hk hn ⟨rfl, rfl⟩
set_option maxHeartbeats 4000000 in
theorem sX5_holds_0 {l : Launch} {g : gE} {d MC MS' k n : Nat} {a0 : Nat} (hd : 0 ≤ d) (hk : k ≤ MC) (hn : n ≤ MS') {r : Int32 × AH} {S : AH} (hf : X5_holds_0 S a0 = some r) : AW l g d RX5 cX5_holds 1 "holds" MC MS' (Qr (some (.int r.1)) r.2) k n 0 [some (.ref a0)] [] S := by
  unfold X5_holds_0 at hf
  refine a_aload_n (pc := 0) dX5_holds_0 rfl (isRv_r _) ?_
  obtain ⟨x1, hx1, hf⟩ := Option.bind_eq_some_iff.mp hf
  refine g_getI (pc := 1) dX5_holds_1 fl_X5_15 hx1 ?_
  refine a_iconst (pc := 4) (-1) dX5_holds_4 rfl ?_
  refine a_icmp_eq (pc := 5) 12 dX5_holds_5 (by decide) (fun c2 => ?_) (fun c2 => ?_)
  · have hf := (if_pos c2).symm.trans hf
    refine a_iconst (pc := 12) 0 dX5_holds_12 rfl ?_
    refine a_sub (sub_d sub_n) ?_
    exact sX5_holds_13 hd hk hn hf
  · have hf := (if_neg c2).symm.trans hf
    refine a_iconst (pc := 8) 1 dX5_holds_8 rfl ?_
    refine a_goto (pc := 9) 13 dX5_holds_9 (by decide) ?_
    refine a_sub (sub_d sub_n) ?_
    exact sX5_holds_13 hd hk hn hf
set_option maxHeartbeats 4000000 in
theorem mX5_holds {l : Launch} {g : gE} {d : Nat} {a0 : Nat} (hd : 0 ≤ d) {r : Int32 × AH} {S : AH} (hf : X5_holds S a0 = some r) : AM l g d yX5_holds cX5_holds 1 (some .boolean) 0 0 [.ref a0] S (Qr (some (.int r.1)) r.2) := by
  refine AM.of rfl (by exact Nat.le_of_ble_eq_true rfl) (fun v h' q => by obtain ⟨rfl, -⟩ := q; refine ⟨_, rfl, ?_⟩; rcases (zg_of hf).2 with e | e <;> rw [e] <;> rfl) (fun ls e => ?_)
  have e2 : aBeg [.ref a0] 1 = [some (.ref a0)] := rfl
  rw [e2] at e
  subst e
  refine a_sub (sub_k (sub_n)) ?_
  exact sX5_holds_0 hd (Nat.le_refl _) (Nat.le_refl _) ((zg_of hf).1)

-- PencilStrikes$Tape.size()I
def X5_size_0 (S : AH) (a0 : Nat) : Option (Int32 × AH) :=
  (gI S a0 5 2).bind fun x1 =>
  some (x1, S)
def X5_size (S : AH) (a0 : Nat) : Option (Int32 × AH) := X5_size_0 S a0
set_option maxHeartbeats 4000000 in
theorem sX5_size_0 {l : Launch} {g : gE} {d MC MS' k n : Nat} {a0 : Nat} (hd : 0 ≤ d) (hk : k ≤ MC) (hn : n ≤ MS') {r : Int32 × AH} {S : AH} (hf : X5_size_0 S a0 = some r) : AW l g d RX5 cX5_size 1 "size" MC MS' (Qr (some (.int r.1)) r.2) k n 0 [some (.ref a0)] [] S := by
  unfold X5_size_0 at hf
  refine a_aload_n (pc := 0) dX5_size_0 rfl (isRv_r _) ?_
  obtain ⟨x1, hx1, hf⟩ := Option.bind_eq_some_iff.mp hf
  refine g_getI (pc := 1) dX5_size_1 fl_X5_19 hx1 ?_
  have hf := Option.some.inj hf
  subst hf
  exact a_ireturn (pc := 4) dX5_size_4 hk hn ⟨rfl, rfl⟩
set_option maxHeartbeats 4000000 in
theorem mX5_size {l : Launch} {g : gE} {d : Nat} {a0 : Nat} (hd : 0 ≤ d) {r : Int32 × AH} {S : AH} (hf : X5_size S a0 = some r) : AM l g d yX5_size cX5_size 1 (some .int) 0 0 [.ref a0] S (Qr (some (.int r.1)) r.2) := by
  refine AM.of rfl (by exact Nat.le_of_ble_eq_true rfl) (fun v h' q => by obtain ⟨rfl, -⟩ := q; exact ⟨_, rfl, rfl⟩) (fun ls e => ?_)
  have e2 : aBeg [.ref a0] 1 = [some (.ref a0)] := rfl
  rw [e2] at e
  subst e
  refine a_sub (sub_k (sub_n)) ?_
  exact sX5_size_0 hd (Nat.le_refl _) (Nat.le_refl _) (hf)

-- PencilStrikes$Tape.sort()I
def X5_sort_0 (S : AH) (a0 : Nat) : Option (Int32 × AH) :=
  (gI S a0 5 1).bind fun x1 =>
  some (x1, S)
def X5_sort (S : AH) (a0 : Nat) : Option (Int32 × AH) := X5_sort_0 S a0
set_option maxHeartbeats 4000000 in
theorem sX5_sort_0 {l : Launch} {g : gE} {d MC MS' k n : Nat} {a0 : Nat} (hd : 0 ≤ d) (hk : k ≤ MC) (hn : n ≤ MS') {r : Int32 × AH} {S : AH} (hf : X5_sort_0 S a0 = some r) : AW l g d RX5 cX5_sort 1 "sort" MC MS' (Qr (some (.int r.1)) r.2) k n 0 [some (.ref a0)] [] S := by
  unfold X5_sort_0 at hf
  refine a_aload_n (pc := 0) dX5_sort_0 rfl (isRv_r _) ?_
  obtain ⟨x1, hx1, hf⟩ := Option.bind_eq_some_iff.mp hf
  refine g_getI (pc := 1) dX5_sort_1 fl_X5_15 hx1 ?_
  have hf := Option.some.inj hf
  subst hf
  exact a_ireturn (pc := 4) dX5_sort_4 hk hn ⟨rfl, rfl⟩
set_option maxHeartbeats 4000000 in
theorem mX5_sort {l : Launch} {g : gE} {d : Nat} {a0 : Nat} (hd : 0 ≤ d) {r : Int32 × AH} {S : AH} (hf : X5_sort S a0 = some r) : AM l g d yX5_sort cX5_sort 1 (some .int) 0 0 [.ref a0] S (Qr (some (.int r.1)) r.2) := by
  refine AM.of rfl (by exact Nat.le_of_ble_eq_true rfl) (fun v h' q => by obtain ⟨rfl, -⟩ := q; exact ⟨_, rfl, rfl⟩) (fun ls e => ?_)
  have e2 : aBeg [.ref a0] 1 = [some (.ref a0)] := rfl
  rw [e2] at e
  subst e
  refine a_sub (sub_k (sub_n)) ?_
  exact sX5_sort_0 hd (Nat.le_refl _) (Nat.le_refl _) (hf)

-- PencilStrikes.tapeOf(I)LPencilStrikes$Tape;
def X7_tapeOf_23 (S : AH) (a0 : Nat) (s0 : Option Nat) : Option (Option Nat × AH) :=
  some (s0, S)
def X7_tapeOf_22 (S : AH) (a0 : Nat) : Option (Option Nat × AH) :=
  X7_tapeOf_23 S a0 none
def X7_tapeOf_0 (S : AH) (a0 : Nat) (l1 : Int32) : Option (Option Nat × AH) :=
  if l1 < 0 then
    X7_tapeOf_22 S a0
  else
    (gQ S a0 7 5).bind fun x1 =>
    (aN S x1).bind fun x2 =>
    if x2 ≤ l1 then
      X7_tapeOf_22 S a0
    else
      (gQ S a0 7 5).bind fun x3 =>
      (aQ 6 S x3 l1).bind fun x4 =>
      X7_tapeOf_23 S a0 x4
def X7_tapeOf (S : AH) (a0 : Nat) (l1 : Int32) : Option (Option Nat × AH) := X7_tapeOf_0 S a0 l1
set_option maxHeartbeats 4000000 in
theorem sX7_tapeOf_23 {l : Launch} {g : gE} {d MC MS' k n : Nat} {a0 : Nat} (hd : 0 ≤ d) (hk : k ≤ MC) (hn : n ≤ MS') {r : Option Nat × AH} {S : AH} {s0 : Option Nat} (hf : X7_tapeOf_23 S a0 s0 = some r) : AW l g d RX7 cX7_tapeOf 2 "tapeOf" MC MS' (Qr (some (va_rf r.1)) r.2) k n 23 [none, none] [va_rf s0] S := by
  unfold X7_tapeOf_23 at hf
  have hf := Option.some.inj hf
  subst hf
  exact a_areturnR (pc := 23) dX7_tapeOf_23 hk hn ⟨rfl, rfl⟩
set_option maxHeartbeats 4000000 in
theorem sX7_tapeOf_22 {l : Launch} {g : gE} {d MC MS' k n : Nat} {a0 : Nat} (hd : 0 ≤ d) (hk : k ≤ MC) (hn : n ≤ MS') {r : Option Nat × AH} {S : AH} (hf : X7_tapeOf_22 S a0 = some r) : AW l g d RX7 cX7_tapeOf 2 "tapeOf" MC MS' (Qr (some (va_rf r.1)) r.2) k n 22 [none, none] [] S := by
  unfold X7_tapeOf_22 at hf
  refine a_null (pc := 22) dX7_tapeOf_22 ?_
  exact sX7_tapeOf_23 hd hk hn hf
set_option maxHeartbeats 4000000 in
theorem sX7_tapeOf_0 {l : Launch} {g : gE} {d MC MS' k n : Nat} {a0 : Nat} (hd : 0 ≤ d) (hk : k ≤ MC) (hn : n ≤ MS') {r : Option Nat × AH} {S : AH} {l1 : Int32} (hf : X7_tapeOf_0 S a0 l1 = some r) : AW l g d RX7 cX7_tapeOf 2 "tapeOf" MC MS' (Qr (some (va_rf r.1)) r.2) k n 0 [some (.ref a0), some (.int l1)] [] S := by
  unfold X7_tapeOf_0 at hf
  refine a_iload_n (pc := 0) dX7_tapeOf_0 rfl ?_
  refine a_if_lt (pc := 1) 22 dX7_tapeOf_1 (by decide) (fun c6 => ?_) (fun c6 => ?_)
  · have hf := (if_pos c6).symm.trans hf
    refine a_sub (sub_d (sub_d sub_n)) ?_
    exact sX7_tapeOf_22 hd hk hn hf
  · have hf := (if_neg c6).symm.trans hf
    refine a_iload_n (pc := 4) dX7_tapeOf_4 rfl ?_
    refine a_aload_n (pc := 5) dX7_tapeOf_5 rfl (isRv_r _) ?_
    obtain ⟨x1, hx1, hf⟩ := Option.bind_eq_some_iff.mp hf
    refine g_getQ (pc := 6) dX7_tapeOf_6 fl_X7_43 hx1 ?_
    obtain ⟨x2, hx2, hf⟩ := Option.bind_eq_some_iff.mp hf
    refine g_alen (pc := 9) dX7_tapeOf_9 hx2 ?_
    refine a_icmp_ge (pc := 10) 22 dX7_tapeOf_10 (by decide) (fun c5 => ?_) (fun c5 => ?_)
    · have hf := (if_pos c5).symm.trans hf
      refine a_sub (sub_d (sub_d sub_n)) ?_
      exact sX7_tapeOf_22 hd hk hn hf
    · have hf := (if_neg c5).symm.trans hf
      refine a_aload_n (pc := 13) dX7_tapeOf_13 rfl (isRv_r _) ?_
      obtain ⟨x3, hx3, hf⟩ := Option.bind_eq_some_iff.mp hf
      refine g_getQ (pc := 14) dX7_tapeOf_14 fl_X7_43 hx3 ?_
      refine a_iload_n (pc := 17) dX7_tapeOf_17 rfl ?_
      obtain ⟨x4, hx4, hf⟩ := Option.bind_eq_some_iff.mp hf
      refine g_qald (pc := 18) 2 dX7_tapeOf_18 (by decide) hx4 ?_
      refine a_goto (pc := 19) 23 dX7_tapeOf_19 (by decide) ?_
      refine a_sub (sub_d (sub_d sub_n)) ?_
      exact sX7_tapeOf_23 hd hk hn hf
set_option maxHeartbeats 4000000 in
theorem mX7_tapeOf {l : Launch} {g : gE} {d : Nat} {a0 : Nat} (hd : 0 ≤ d) {r : Option Nat × AH} {S : AH} {l1 : Int32} (hf : X7_tapeOf S a0 l1 = some r) : AM l g d yX7_tapeOf cX7_tapeOf 2 (some (.object "PencilStrikes$Tape")) 0 0 [.ref a0, .int l1] S (Qr (some (va_rf r.1)) r.2) := by
  refine AM.of rfl (by exact Nat.le_of_ble_eq_true rfl) (fun v h' q => by obtain ⟨rfl, -⟩ := q; exact aRet_rf _ (Or.inl ⟨_, rfl⟩)) (fun ls e => ?_)
  have e2 : aBeg [.ref a0, .int l1] 2 = [some (.ref a0), some (.int l1)] := rfl
  rw [e2] at e
  subst e
  refine a_sub (sub_k (sub_k (sub_n))) ?_
  exact sX7_tapeOf_0 hd (Nat.le_refl _) (Nat.le_refl _) (hf)

-- PencilStrikes.table(IIIII)I
def X7_table_45 (S : AH) (a0 : Nat) : Option (Int32 × AH) :=
  some ((-1), S)
def X7_table_121 (S : AH) (a0 : Nat) (l9 : Int32) : Option (Int32 × AH) :=
  some ((1000 + l9), S)
def X7_table_155 (rec73 : AH → Nat → Int32 → Int32 → Option Nat → Option Nat → Option Nat → Int32 → Int32 → Option (Int32 × AH)) (S : AH) (a0 : Nat) (l2 : Int32) (l3 : Int32) (l6 : Option Nat) (l7 : Option Nat) (l8 : Option Nat) (l9 : Int32) (l10 : Int32) : Option (Int32 × AH) :=
  rec73 S a0 l2 l3 l6 l7 l8 l9 (l10 + 1)
def X7_table_73 : Nat → AH → Nat → Int32 → Int32 → Option Nat → Option Nat → Option Nat → Int32 → Int32 → Option (Int32 × AH)
  | 0, _, _, _, _, _, _, _, _, _ => none
  | fn + 1, S, a0, l2, l3, l6, l7, l8, l9, l10 =>
    (l7).bind fun a1 =>
    (cO S a1 1 (X1_readings S a1)).bind fun r2 =>
    if r2.1 ≤ l10 then
      some (l9, r2.2)
    else
      (cO r2.2 a1 1 (X1_readingAt r2.2 a1 l10)).bind fun r3 =>
      (cO r3.2 a0 7 (X7_isGood r3.2 a0 l3 (some a1) l8 r3.1)).bind fun r4 =>
      if r4.1 = 0 then
        X7_table_155 (X7_table_73 fn) r4.2 a0 l2 l3 l6 (some a1) l8 l9 l10
      else
        if l2 < 0 then
          X7_table_121 r4.2 a0 l9
        else
          (l6).bind fun a5 =>
          (cO r4.2 a5 5 (X5_size r4.2 a5)).bind fun r6 =>
          if l2 < (r6.1 - l9) then
            (cO r6.2 a5 5 (X5_at r6.2 a5 (l2 + l9))).bind fun r7 =>
            (cO r7.2 a1 1 (X1_readingAt r7.2 a1 l10)).bind fun r8 =>
            if (lg_cmp r7.1 ((r8.1).toInt64)) = 0 then
              X7_table_155 (X7_table_73 fn) r8.2 a0 l2 l3 (some a5) (some a1) l8 (l9 + 1) l10
            else
              some (l9, r8.2)
          else
            X7_table_121 r6.2 a0 l9
def X7_table_67 (S : AH) (a0 : Nat) (l2 : Int32) (l3 : Int32) (l6 : Option Nat) (l7 : Option Nat) (l8 : Option Nat) : Option (Int32 × AH) :=
  X7_table_73 FU S a0 l2 l3 l6 l7 l8 0 0
def X7_table_0 (S : AH) (a0 : Nat) (l1 : Int32) (l2 : Int32) (l3 : Int32) (l4 : Int32) (l5 : Int32) : Option (Int32 × AH) :=
  (cO S a0 7 (X7_tapeOf S a0 l1)).bind fun r1 => prp r1 fun zq2 zq2S =>
  (cO zq2S a0 7 (X7_bargainOf zq2S a0 l4)).bind fun r3 => prp r3 fun zq4 zq4S =>
  (cO zq4S a0 7 (X7_lawOf zq4S a0 l5)).bind fun r5 => prp r5 fun zq6 zq6S =>
  ifn zq2 (
    X7_table_45 zq6S a0) fun a7 =>
  (X7_isKind zq6S l3).bind fun r8 =>
  if r8.1 = 0 then
    X7_table_45 r8.2 a0
  else
    ifn zq4 (
      X7_table_45 r8.2 a0) fun a9 =>
    ifn zq6 (
      X7_table_45 r8.2 a0) fun a10 =>
    (cO r8.2 a7 5 (X5_holds r8.2 a7)).bind fun r11 =>
    if r11.1 = 0 then
      X7_table_67 r11.2 a0 l2 l3 (some a7) (some a9) (some a10)
    else
      (cO r11.2 a7 5 (X5_sort r11.2 a7)).bind fun r12 =>
      if r12.1 = 1 then
        X7_table_67 r12.2 a0 l2 l3 (some a7) (some a9) (some a10)
      else
        some ((-12), r12.2)
def X7_table (S : AH) (a0 : Nat) (l1 : Int32) (l2 : Int32) (l3 : Int32) (l4 : Int32) (l5 : Int32) : Option (Int32 × AH) := X7_table_0 S a0 l1 l2 l3 l4 l5
set_option maxHeartbeats 4000000 in
theorem sX7_table_45 {l : Launch} {g : gE} {d MC MS' k n : Nat} {a0 : Nat} (hd : 6 ≤ d) (hk : k ≤ MC) (hn : n ≤ MS') {r : Int32 × AH} {S : AH} (hf : X7_table_45 S a0 = some r) : AW l g d RX7 cX7_table 11 "table" MC MS' (Qr (some (.int r.1)) r.2) k n 45 [none, none, none, none, none, none, none, none, none, none, none] [] S := by
  unfold X7_table_45 at hf
  refine a_iconst (pc := 45) (-1) dX7_table_45 rfl ?_
  have hf := Option.some.inj hf
  subst hf
  exact a_ireturn (pc := 46) dX7_table_46 hk hn ⟨rfl, rfl⟩
set_option maxHeartbeats 4000000 in
theorem sX7_table_121 {l : Launch} {g : gE} {d MC MS' k n : Nat} {a0 : Nat} (hd : 6 ≤ d) (hk : k ≤ MC) (hn : n ≤ MS') {r : Int32 × AH} {S : AH} {l9 : Int32} (hf : X7_table_121 S a0 l9 = some r) : AW l g d RX7 cX7_table 11 "table" MC MS' (Qr (some (.int r.1)) r.2) k n 121 [none, none, none, none, none, none, none, none, none, some (.int l9), none] [] S := by
  unfold X7_table_121 at hf
  refine a_sipush (pc := 121) 1000 dX7_table_121 rfl ?_
  refine a_iload (pc := 124) dX7_table_124 rfl ?_
  refine a_iadd (pc := 126) dX7_table_126 ?_
  have hf := Option.some.inj hf
  subst hf
  exact a_ireturn (pc := 127) dX7_table_127 hk hn ⟨rfl, rfl⟩
set_option maxHeartbeats 4000000 in
theorem sX7_table_155 {l : Launch} {g : gE} {d MC MS' k n : Nat} {a0 : Nat} (hd : 6 ≤ d) (hk : k ≤ MC) (hn : n ≤ MS') {r : Int32 × AH} {rec73 : AH → Nat → Int32 → Int32 → Option Nat → Option Nat → Option Nat → Int32 → Int32 → Option (Int32 × AH)} (hlp73 : ∀ (S : AH) (l2 : Int32) (l3 : Int32) (l6 : Option Nat) (l7 : Option Nat) (l8 : Option Nat) (l9 : Int32) (l10 : Int32), rec73 S a0 l2 l3 l6 l7 l8 l9 l10 = some r → AW l g d RX7 cX7_table 11 "table" MC MS' (Qr (some (.int r.1)) r.2) k n 73 [some (.ref a0), none, some (.int l2), some (.int l3), none, none, some (va_rf l6), some (va_rf l7), some (va_rf l8), some (.int l9), some (.int l10)] [] S) {S : AH} {l2 : Int32} {l3 : Int32} {l6 : Option Nat} {l7 : Option Nat} {l8 : Option Nat} {l9 : Int32} {l10 : Int32} (hf : X7_table_155 rec73 S a0 l2 l3 l6 l7 l8 l9 l10 = some r) : AW l g d RX7 cX7_table 11 "table" MC MS' (Qr (some (.int r.1)) r.2) k n 155 [some (.ref a0), none, some (.int l2), some (.int l3), none, none, some (va_rf l6), some (va_rf l7), some (va_rf l8), some (.int l9), some (.int l10)] [] S := by
  unfold X7_table_155 at hf
  refine a_iinc (pc := 155) (ls' := [some (.ref a0), none, some (.int l2), some (.int l3), none, none, some (va_rf l6), some (va_rf l7), some (va_rf l8), some (.int l9), some (.int (l10 + 1))]) (l10 + 1) dX7_table_155 rfl rfl (by decide) rfl ?_
  refine a_goto (pc := 158) 73 dX7_table_158 (by decide) ?_
  exact hlp73 S l2 l3 l6 l7 l8 l9 (l10 + 1) hf
set_option maxHeartbeats 4000000 in
theorem sX7_table_73 {l : Launch} {g : gE} {d MC MS' k n : Nat} {a0 : Nat} (hd : 6 ≤ d) (hk : k ≤ MC) (hn : n ≤ MS') {r : Int32 × AH} : ∀ (fn : Nat) (S : AH) (l2 : Int32) (l3 : Int32) (l6 : Option Nat) (l7 : Option Nat) (l8 : Option Nat) (l9 : Int32) (l10 : Int32), X7_table_73 fn S a0 l2 l3 l6 l7 l8 l9 l10 = some r → AW l g d RX7 cX7_table 11 "table" MC MS' (Qr (some (.int r.1)) r.2) k n 73 [some (.ref a0), none, some (.int l2), some (.int l3), none, none, some (va_rf l6), some (va_rf l7), some (va_rf l8), some (.int l9), some (.int l10)] [] S := by
  intro fn
  induction fn with
  | zero =>
    intro S l2 l3 l6 l7 l8 l9 l10 hf
    rw [X7_table_73] at hf
    cases hf
  | succ fn ih =>
    intro S l2 l3 l6 l7 l8 l9 l10 hf
    rw [X7_table_73] at hf
    refine a_iload (pc := 73) dX7_table_73 rfl ?_
    refine a_aload (pc := 75) dX7_table_75 rfl (isRv_rf _) ?_
    obtain ⟨a1, ha1, hf⟩ := Option.bind_eq_some_iff.mp hf
    rw [ha1]
    obtain ⟨r2, hr2, hf⟩ := Option.bind_eq_some_iff.mp hf
    obtain ⟨hor2, hr2⟩ := cO_of hr2
    refine g_call (pc := 77) (mc := 0) (ms := 0) (.int r2.1) [] [.int l10] dX7_table_77 ml_X7_136 mv_X1_readings hor2 (by decide) rfl rfl (by omega) (mX1_readings (by omega) hr2) rfl (Nat.le_of_ble_eq_true rfl) hk hn ?_
    refine a_icmp_ge (pc := 80) 161 dX7_table_80 (by decide) (fun c13 => ?_) (fun c13 => ?_)
    · have hf := (if_pos c13).symm.trans hf
      refine a_iload (pc := 161) dX7_table_161 rfl ?_
      have hf := Option.some.inj hf
      subst hf
      exact a_ireturn (pc := 163) dX7_table_163 hk hn ⟨rfl, rfl⟩
    · have hf := (if_neg c13).symm.trans hf
      refine a_aload_n (pc := 83) dX7_table_83 rfl (isRv_r _) ?_
      refine a_iload_n (pc := 84) dX7_table_84 rfl ?_
      refine a_aload (pc := 85) dX7_table_85 rfl (isRv_r _) ?_
      refine a_aload (pc := 87) dX7_table_87 rfl (isRv_rf _) ?_
      refine a_aload (pc := 89) dX7_table_89 rfl (isRv_r _) ?_
      refine a_iload (pc := 91) dX7_table_91 rfl ?_
      obtain ⟨r3, hr3, hf⟩ := Option.bind_eq_some_iff.mp hf
      obtain ⟨hor3, hr3⟩ := cO_of hr3
      refine g_call (pc := 93) (mc := 0) (ms := 0) (.int r3.1) [.int l10] [va_rf l8, .ref a1, .int l3, .ref a0] dX7_table_93 ml_X7_139 mv_X1_readingAt hor3 (by decide) rfl rfl (by omega) (mX1_readingAt (by omega) hr3) rfl (by cases l8 <;> exact Nat.le_of_ble_eq_true rfl) hk hn ?_
      obtain ⟨r4, hr4, hf⟩ := Option.bind_eq_some_iff.mp hf
      obtain ⟨hor4, hr4⟩ := cO_of hr4
      refine g_call (pc := 96) (mc := 0) (ms := 0) (.int r4.1) [.int l3, .ref a1, va_rf l8, .int (r3.1)] [] dX7_table_96 ml_X7_142 mv_X7_isGood hor4 (by decide) rfl rfl (by omega) (mX7_isGood (by omega) hr4) rfl (Nat.le_of_ble_eq_true rfl) hk hn ?_
      refine a_if_ne (pc := 99) 105 dX7_table_99 (by decide) (fun c12 => ?_) (fun c12 => ?_)
      · have hf := (if_neg c12).symm.trans hf
        refine a_iload_n (pc := 105) dX7_table_105 rfl ?_
        refine a_if_lt (pc := 106) 121 dX7_table_106 (by decide) (fun c11 => ?_) (fun c11 => ?_)
        · have hf := (if_pos c11).symm.trans hf
          refine a_sub (sub_d (sub_k (sub_d (sub_d (sub_k (sub_k (sub_d (sub_d (sub_d (sub_k (sub_d sub_n))))))))))) ?_
          exact sX7_table_121 hd hk hn hf
        · have hf := (if_neg c11).symm.trans hf
          refine a_iload_n (pc := 109) dX7_table_109 rfl ?_
          refine a_aload (pc := 110) dX7_table_110 rfl (isRv_rf _) ?_
          obtain ⟨a5, ha5, hf⟩ := Option.bind_eq_some_iff.mp hf
          rw [ha5]
          obtain ⟨r6, hr6, hf⟩ := Option.bind_eq_some_iff.mp hf
          obtain ⟨hor6, hr6⟩ := cO_of hr6
          refine g_call (pc := 112) (mc := 0) (ms := 0) (.int r6.1) [] [.int l2] dX7_table_112 ml_X7_188 mv_X5_size hor6 (by decide) rfl rfl (by omega) (mX5_size (by omega) hr6) rfl (Nat.le_of_ble_eq_true rfl) hk hn ?_
          refine a_iload (pc := 115) dX7_table_115 rfl ?_
          refine a_isub (pc := 117) dX7_table_117 ?_
          refine a_icmp_lt (pc := 118) 128 dX7_table_118 (by decide) (fun c10 => ?_) (fun c10 => ?_)
          · have hf := (if_pos c10).symm.trans hf
            refine a_aload (pc := 128) dX7_table_128 rfl (isRv_r _) ?_
            refine a_iload_n (pc := 130) dX7_table_130 rfl ?_
            refine a_iload (pc := 131) dX7_table_131 rfl ?_
            refine a_iadd (pc := 133) dX7_table_133 ?_
            obtain ⟨r7, hr7, hf⟩ := Option.bind_eq_some_iff.mp hf
            obtain ⟨hor7, hr7⟩ := cO_of hr7
            refine g_call (pc := 134) (mc := 0) (ms := 0) (.long r7.1) [.int (l2 + l9)] [] dX7_table_134 ml_X7_189 mv_X5_at hor7 (by decide) rfl rfl (by omega) (mX5_at (by omega) hr7) rfl (Nat.le_of_ble_eq_true rfl) hk hn ?_
            refine a_aload (pc := 137) dX7_table_137 rfl (isRv_r _) ?_
            refine a_iload (pc := 139) dX7_table_139 rfl ?_
            obtain ⟨r8, hr8, hf⟩ := Option.bind_eq_some_iff.mp hf
            obtain ⟨hor8, hr8⟩ := cO_of hr8
            refine g_call (pc := 141) (mc := 0) (ms := 0) (.int r8.1) [.int l10] [.long (r7.1)] dX7_table_141 ml_X7_139 mv_X1_readingAt hor8 (by decide) rfl rfl (by omega) (mX1_readingAt (by omega) hr8) rfl (Nat.le_of_ble_eq_true rfl) hk hn ?_
            refine a_i2l (pc := 144) dX7_table_144 ?_
            refine a_lcmp (pc := 145) dX7_table_145 ?_
            refine a_if_eq (pc := 146) 152 dX7_table_146 (by decide) (fun c9 => ?_) (fun c9 => ?_)
            · have hf := (if_pos c9).symm.trans hf
              refine a_iinc (pc := 152) (ls' := [some (.ref a0), none, some (.int l2), some (.int l3), none, none, some (.ref a5), some (.ref a1), some (va_rf l8), some (.int (l9 + 1)), some (.int l10)]) (l9 + 1) dX7_table_152 rfl rfl (by decide) (aSet_ref rfl (va_rf_cat _) rfl) ?_
              exact sX7_table_155 hd hk hn ih hf
            · have hf := (if_neg c9).symm.trans hf
              refine a_iload (pc := 149) dX7_table_149 rfl ?_
              have hf := Option.some.inj hf
              subst hf
              exact a_ireturn (pc := 151) dX7_table_151 hk hn ⟨rfl, rfl⟩
          · have hf := (if_neg c10).symm.trans hf
            refine a_sub (sub_d (sub_k (sub_d (sub_d (sub_k (sub_k (sub_d (sub_d (sub_d (sub_k (sub_d sub_n))))))))))) ?_
            exact sX7_table_121 hd hk hn hf
      · have hf := (if_pos c12).symm.trans hf
        refine a_goto (pc := 102) 155 dX7_table_102 (by decide) ?_
        exact sX7_table_155 hd hk hn ih hf
set_option maxHeartbeats 4000000 in
theorem sX7_table_67 {l : Launch} {g : gE} {d MC MS' k n : Nat} {a0 : Nat} (hd : 6 ≤ d) (hk : k ≤ MC) (hn : n ≤ MS') {r : Int32 × AH} {S : AH} {l2 : Int32} {l3 : Int32} {l6 : Option Nat} {l7 : Option Nat} {l8 : Option Nat} (hf : X7_table_67 S a0 l2 l3 l6 l7 l8 = some r) : AW l g d RX7 cX7_table 11 "table" MC MS' (Qr (some (.int r.1)) r.2) k n 67 [some (.ref a0), none, some (.int l2), some (.int l3), none, none, some (va_rf l6), some (va_rf l7), some (va_rf l8), none, none] [] S := by
  unfold X7_table_67 at hf
  refine a_iconst (pc := 67) 0 dX7_table_67 rfl ?_
  refine a_istore (pc := 68) (ls' := [some (.ref a0), none, some (.int l2), some (.int l3), none, none, some (va_rf l6), some (va_rf l7), some (va_rf l8), some (.int 0), none]) dX7_table_68 (by decide) (aSet_ref rfl (va_rf_cat _) rfl) ?_
  refine a_iconst (pc := 70) 0 dX7_table_70 rfl ?_
  refine a_istore (pc := 71) (ls' := [some (.ref a0), none, some (.int l2), some (.int l3), none, none, some (va_rf l6), some (va_rf l7), some (va_rf l8), some (.int 0), some (.int 0)]) dX7_table_71 (by decide) rfl ?_
  exact sX7_table_73 hd hk hn FU S l2 l3 l6 l7 l8 0 0 hf
set_option maxHeartbeats 4000000 in
theorem sX7_table_0 {l : Launch} {g : gE} {d MC MS' k n : Nat} {a0 : Nat} (hd : 6 ≤ d) (hk : k ≤ MC) (hn : n ≤ MS') {r : Int32 × AH} {S : AH} {l1 : Int32} {l2 : Int32} {l3 : Int32} {l4 : Int32} {l5 : Int32} (hf : X7_table_0 S a0 l1 l2 l3 l4 l5 = some r) : AW l g d RX7 cX7_table 11 "table" MC MS' (Qr (some (.int r.1)) r.2) k n 0 [some (.ref a0), some (.int l1), some (.int l2), some (.int l3), some (.int l4), some (.int l5), none, none, none, none, none] [] S := by
  unfold X7_table_0 at hf
  refine a_aload_n (pc := 0) dX7_table_0 rfl (isRv_r _) ?_
  refine a_iload_n (pc := 1) dX7_table_1 rfl ?_
  obtain ⟨r1, hr1, hf⟩ := Option.bind_eq_some_iff.mp hf
  obtain ⟨zq2, zq2S⟩ := r1
  have hf := (prp_of _ _ _).symm.trans hf
  obtain ⟨hor1, hr1⟩ := cO_of hr1
  refine g_call (pc := 2) (mc := 0) (ms := 0) (va_rf zq2) [.int l1] [] dX7_table_2 ml_X7_177 mv_X7_tapeOf hor1 (by decide) rfl rfl (by omega) (mX7_tapeOf (by omega) hr1) rfl (Nat.le_of_ble_eq_true rfl) hk hn ?_
  refine a_astore (pc := 5) (ls' := [some (.ref a0), some (.int l1), some (.int l2), some (.int l3), some (.int l4), some (.int l5), some (va_rf zq2), none, none, none, none]) dX7_table_5 (by decide) (isRv_rf _) rfl ?_
  refine a_aload_n (pc := 7) dX7_table_7 rfl (isRv_r _) ?_
  refine a_iload (pc := 8) dX7_table_8 rfl ?_
  obtain ⟨r3, hr3, hf⟩ := Option.bind_eq_some_iff.mp hf
  obtain ⟨zq4, zq4S⟩ := r3
  have hf := (prp_of _ _ _).symm.trans hf
  obtain ⟨hor3, hr3⟩ := cO_of hr3
  refine g_call (pc := 10) (mc := 0) (ms := 0) (va_rf zq4) [.int l4] [] dX7_table_10 ml_X7_91 mv_X7_bargainOf hor3 (by decide) rfl rfl (by omega) (mX7_bargainOf (by omega) hr3) rfl (Nat.le_of_ble_eq_true rfl) hk hn ?_
  refine a_astore (pc := 13) (ls' := [some (.ref a0), some (.int l1), some (.int l2), some (.int l3), some (.int l4), some (.int l5), some (va_rf zq2), some (va_rf zq4), none, none, none]) dX7_table_13 (by decide) (isRv_rf _) (aSet_ref rfl (va_rf_cat _) rfl) ?_
  refine a_aload_n (pc := 15) dX7_table_15 rfl (isRv_r _) ?_
  refine a_iload (pc := 16) dX7_table_16 rfl ?_
  obtain ⟨r5, hr5, hf⟩ := Option.bind_eq_some_iff.mp hf
  obtain ⟨zq6, zq6S⟩ := r5
  have hf := (prp_of _ _ _).symm.trans hf
  obtain ⟨hor5, hr5⟩ := cO_of hr5
  refine g_call (pc := 18) (mc := 0) (ms := 0) (va_rf zq6) [.int l5] [] dX7_table_18 ml_X7_117 mv_X7_lawOf hor5 (by decide) rfl rfl (by omega) (mX7_lawOf (by omega) hr5) rfl (Nat.le_of_ble_eq_true rfl) hk hn ?_
  refine a_astore (pc := 21) (ls' := [some (.ref a0), some (.int l1), some (.int l2), some (.int l3), some (.int l4), some (.int l5), some (va_rf zq2), some (va_rf zq4), some (va_rf zq6), none, none]) dX7_table_21 (by decide) (isRv_rf _) (aSet_ref rfl (va_rf_cat _) rfl) ?_
  refine a_aload (pc := 23) dX7_table_23 rfl (isRv_rf _) ?_
  cases zq2 with
  | none =>
    have hf := (ifn_none _ _).symm.trans hf
    refine a_ifnullN (pc := 25) 45 dX7_table_25 (by decide) ?_
    refine a_sub (sub_d (sub_d (sub_d (sub_d (sub_d (sub_d (sub_d (sub_d (sub_d (sub_k (sub_k sub_n))))))))))) ?_
    exact sX7_table_45 hd hk hn hf
  | some a7 =>
    have hf := (ifn_some _ _ _).symm.trans hf
    refine a_ifnull (pc := 25) dX7_table_25 ?_
    refine a_iload_n (pc := 28) dX7_table_28 rfl ?_
    obtain ⟨r8, hr8, hf⟩ := Option.bind_eq_some_iff.mp hf
    refine g_calls (pc := 29) (mc := 0) (ms := 0) (.int r8.1) [.int l3] [] dX7_table_29 ml_X7_129 ms_X7_isKind rfl (by omega) (mX7_isKind (by omega) hr8) rfl (Nat.le_of_ble_eq_true rfl) hk hn ?_
    refine a_if_eq (pc := 32) 45 dX7_table_32 (by decide) (fun c15 => ?_) (fun c15 => ?_)
    · have hf := (if_pos c15).symm.trans hf
      refine a_sub (sub_d (sub_d (sub_d (sub_d (sub_d (sub_d (sub_d (sub_d (sub_d (sub_k (sub_k sub_n))))))))))) ?_
      exact sX7_table_45 hd hk hn hf
    · have hf := (if_neg c15).symm.trans hf
      refine a_aload (pc := 35) dX7_table_35 rfl (isRv_rf _) ?_
      cases zq4 with
      | none =>
        have hf := (ifn_none _ _).symm.trans hf
        refine a_ifnullN (pc := 37) 45 dX7_table_37 (by decide) ?_
        refine a_sub (sub_d (sub_d (sub_d (sub_d (sub_d (sub_d (sub_d (sub_d (sub_d (sub_k (sub_k sub_n))))))))))) ?_
        exact sX7_table_45 hd hk hn hf
      | some a9 =>
        have hf := (ifn_some _ _ _).symm.trans hf
        refine a_ifnull (pc := 37) dX7_table_37 ?_
        refine a_aload (pc := 40) dX7_table_40 rfl (isRv_rf _) ?_
        cases zq6 with
        | none =>
          have hf := (ifn_none _ _).symm.trans hf
          refine a_ifnonnullN (pc := 42) dX7_table_42 ?_
          refine a_sub (sub_d (sub_d (sub_d (sub_d (sub_d (sub_d (sub_d (sub_d (sub_d (sub_k (sub_k sub_n))))))))))) ?_
          exact sX7_table_45 hd hk hn hf
        | some a10 =>
          have hf := (ifn_some _ _ _).symm.trans hf
          refine a_ifnonnull (pc := 42) 47 dX7_table_42 (by decide) ?_
          refine a_aload (pc := 47) dX7_table_47 rfl (isRv_r _) ?_
          obtain ⟨r11, hr11, hf⟩ := Option.bind_eq_some_iff.mp hf
          obtain ⟨hor11, hr11⟩ := cO_of hr11
          refine g_call (pc := 49) (mc := 0) (ms := 0) (.int r11.1) [] [] dX7_table_49 ml_X7_181 mv_X5_holds hor11 (by decide) rfl rfl (by omega) (mX5_holds (by omega) hr11) rfl (Nat.le_of_ble_eq_true rfl) hk hn ?_
          refine a_if_eq (pc := 52) 67 dX7_table_52 (by decide) (fun c14 => ?_) (fun c14 => ?_)
          · have hf := (if_pos c14).symm.trans hf
            refine a_sub (sub_k (sub_d (sub_k (sub_k (sub_d (sub_d (sub_k (sub_k (sub_k (sub_k (sub_k sub_n))))))))))) ?_
            exact sX7_table_67 hd hk hn hf
          · have hf := (if_neg c14).symm.trans hf
            refine a_aload (pc := 55) dX7_table_55 rfl (isRv_r _) ?_
            obtain ⟨r12, hr12, hf⟩ := Option.bind_eq_some_iff.mp hf
            obtain ⟨hor12, hr12⟩ := cO_of hr12
            refine g_call (pc := 57) (mc := 0) (ms := 0) (.int r12.1) [] [] dX7_table_57 ml_X7_185 mv_X5_sort hor12 (by decide) rfl rfl (by omega) (mX5_sort (by omega) hr12) rfl (Nat.le_of_ble_eq_true rfl) hk hn ?_
            refine a_iconst (pc := 60) 1 dX7_table_60 rfl ?_
            refine a_icmp_eq (pc := 61) 67 dX7_table_61 (by decide) (fun c13 => ?_) (fun c13 => ?_)
            · have hf := (if_pos c13).symm.trans hf
              refine a_sub (sub_k (sub_d (sub_k (sub_k (sub_d (sub_d (sub_k (sub_k (sub_k (sub_k (sub_k sub_n))))))))))) ?_
              exact sX7_table_67 hd hk hn hf
            · have hf := (if_neg c13).symm.trans hf
              refine a_bipush (pc := 64) (-12) dX7_table_64 rfl ?_
              have hf := Option.some.inj hf
              subst hf
              exact a_ireturn (pc := 66) dX7_table_66 hk hn ⟨rfl, rfl⟩
set_option maxHeartbeats 4000000 in
theorem mX7_table {l : Launch} {g : gE} {d : Nat} {a0 : Nat} (hd : 6 ≤ d) {r : Int32 × AH} {S : AH} {l1 : Int32} {l2 : Int32} {l3 : Int32} {l4 : Int32} {l5 : Int32} (hf : X7_table S a0 l1 l2 l3 l4 l5 = some r) : AM l g d yX7_table cX7_table 11 (some .int) 0 0 [.ref a0, .int l1, .int l2, .int l3, .int l4, .int l5] S (Qr (some (.int r.1)) r.2) := by
  refine AM.of rfl (by exact Nat.le_of_ble_eq_true rfl) (fun v h' q => by obtain ⟨rfl, -⟩ := q; exact ⟨_, rfl, rfl⟩) (fun ls e => ?_)
  have e2 : aBeg [.ref a0, .int l1, .int l2, .int l3, .int l4, .int l5] 11 = [some (.ref a0), some (.int l1), some (.int l2), some (.int l3), some (.int l4), some (.int l5), none, none, none, none, none] := rfl
  rw [e2] at e
  subst e
  refine a_sub (sub_k (sub_k (sub_k (sub_k (sub_k (sub_k (sub_k (sub_k (sub_k (sub_k (sub_k (sub_n)))))))))))) ?_
  exact sX7_table_0 hd (Nat.le_refl _) (Nat.le_refl _) (hf)

-- PencilStrikes.kindAbove(I)I
def X7_kindAbove_21 (S : AH) (s0 : Int32) : Option (Int32 × AH) :=
  some (s0, S)
def X7_kindAbove_20 (S : AH) : Option (Int32 × AH) :=
  X7_kindAbove_21 S (-1)
def X7_kindAbove_0 (S : AH) (l0 : Int32) : Option (Int32 × AH) :=
  if l0 < 0 then
    X7_kindAbove_20 S
  else
    if 7 ≤ l0 then
      X7_kindAbove_20 S
    else
      (oA tKind 7 l0).bind fun x1 =>
      X7_kindAbove_21 S x1
def X7_kindAbove (S : AH) (l0 : Int32) : Option (Int32 × AH) := X7_kindAbove_0 S l0
set_option maxHeartbeats 4000000 in
theorem sX7_kindAbove_21 {l : Launch} {g : gE} {d MC MS' k n : Nat} (hd : 0 ≤ d) (hk : k ≤ MC) (hn : n ≤ MS') {r : Int32 × AH} {S : AH} {s0 : Int32} (hf : X7_kindAbove_21 S s0 = some r) : AW l g d RX7 cX7_kindAbove 1 "kindAbove" MC MS' (Qr (some (.int r.1)) r.2) k n 21 [none] [.int s0] S := by
  unfold X7_kindAbove_21 at hf
  have hf := Option.some.inj hf
  subst hf
  exact a_ireturn (pc := 21) dX7_kindAbove_21 hk hn ⟨rfl, rfl⟩
set_option maxHeartbeats 4000000 in
theorem sX7_kindAbove_20 {l : Launch} {g : gE} {d MC MS' k n : Nat} (hd : 0 ≤ d) (hk : k ≤ MC) (hn : n ≤ MS') {r : Int32 × AH} {S : AH} (hf : X7_kindAbove_20 S = some r) : AW l g d RX7 cX7_kindAbove 1 "kindAbove" MC MS' (Qr (some (.int r.1)) r.2) k n 20 [none] [] S := by
  unfold X7_kindAbove_20 at hf
  refine a_iconst (pc := 20) (-1) dX7_kindAbove_20 rfl ?_
  exact sX7_kindAbove_21 hd hk hn hf
set_option maxHeartbeats 4000000 in
theorem sX7_kindAbove_0 {l : Launch} {g : gE} {d MC MS' k n : Nat} (hd : 0 ≤ d) (hk : k ≤ MC) (hn : n ≤ MS') {r : Int32 × AH} {S : AH} {l0 : Int32} (hf : X7_kindAbove_0 S l0 = some r) : AW l g d RX7 cX7_kindAbove 1 "kindAbove" MC MS' (Qr (some (.int r.1)) r.2) k n 0 [some (.int l0)] [] S := by
  unfold X7_kindAbove_0 at hf
  refine a_iload_n (pc := 0) dX7_kindAbove_0 rfl ?_
  refine a_if_lt (pc := 1) 20 dX7_kindAbove_1 (by decide) (fun c3 => ?_) (fun c3 => ?_)
  · have hf := (if_pos c3).symm.trans hf
    refine a_sub (sub_d sub_n) ?_
    exact sX7_kindAbove_20 hd hk hn hf
  · have hf := (if_neg c3).symm.trans hf
    refine a_iload_n (pc := 4) dX7_kindAbove_4 rfl ?_
    refine a_gets0 (pc := 5) dX7_kindAbove_5 fo_X7_224 ?_
    refine a_len0 (pc := 8) dX7_kindAbove_8 ?_
    refine a_icmp_ge (pc := 9) 20 dX7_kindAbove_9 (by decide) (fun c2 => ?_) (fun c2 => ?_)
    · have hf := (if_pos c2).symm.trans hf
      refine a_sub (sub_d sub_n) ?_
      exact sX7_kindAbove_20 hd hk hn hf
    · have hf := (if_neg c2).symm.trans hf
      refine a_gets0 (pc := 12) dX7_kindAbove_12 fo_X7_224 ?_
      refine a_iload_n (pc := 15) dX7_kindAbove_15 rfl ?_
      obtain ⟨x1, hx1, hf⟩ := Option.bind_eq_some_iff.mp hf
      refine g_old0 (pc := 16) dX7_kindAbove_16 hx1 ?_
      refine a_goto (pc := 17) 21 dX7_kindAbove_17 (by decide) ?_
      refine a_sub (sub_d sub_n) ?_
      exact sX7_kindAbove_21 hd hk hn hf
set_option maxHeartbeats 4000000 in
theorem mX7_kindAbove {l : Launch} {g : gE} {d : Nat} (hd : 0 ≤ d) {r : Int32 × AH} {S : AH} {l0 : Int32} (hf : X7_kindAbove S l0 = some r) : AM l g d yX7_kindAbove cX7_kindAbove 1 (some .int) 0 0 [.int l0] S (Qr (some (.int r.1)) r.2) := by
  refine AM.of rfl (by exact Nat.le_of_ble_eq_true rfl) (fun v h' q => by obtain ⟨rfl, -⟩ := q; exact ⟨_, rfl, rfl⟩) (fun ls e => ?_)
  have e2 : aBeg [.int l0] 1 = [some (.int l0)] := rfl
  rw [e2] at e
  subst e
  refine a_sub (sub_k (sub_n)) ?_
  exact sX7_kindAbove_0 hd (Nat.le_refl _) (Nat.le_refl _) (hf)

-- PencilStrikes$Acts.bodyFrom(II)I
def X0_bodyFrom_35 (S : AH) : Option (Int32 × AH) :=
  some (0, S)
def X0_bodyFrom_4 : Nat → AH → Int32 → Int32 → Int32 → Option (Int32 × AH)
  | 0, _, _, _, _ => none
  | fn + 1, S, l1, l2, l3 =>
    if 7 ≤ l3 then
      some (0, S)
    else
      if l2 < 0 then
        X0_bodyFrom_35 S
      else
        if ((3 * l2) + l1) < 0 then
          X0_bodyFrom_35 S
        else
          if ((3 * l2) + l1) < 21 then
            (oA tBody 21 ((3 * l2) + l1)).bind fun x1 =>
            if x1 = 0 then
              (X7_kindAbove S l2).bind fun r2 =>
              X0_bodyFrom_4 fn r2.2 l1 r2.1 (l3 + 1)
            else
              (oA tBody 21 ((3 * l2) + l1)).bind fun x3 =>
              some (x3, S)
          else
            X0_bodyFrom_35 S
def X0_bodyFrom_0 (S : AH) (l0 : Int32) (l1 : Int32) : Option (Int32 × AH) :=
  X0_bodyFrom_4 FU S l1 l0 0
def X0_bodyFrom (S : AH) (l0 : Int32) (l1 : Int32) : Option (Int32 × AH) := X0_bodyFrom_0 S l0 l1
set_option maxHeartbeats 4000000 in
theorem sX0_bodyFrom_35 {l : Launch} {g : gE} {d MC MS' k n : Nat} (hd : 1 ≤ d) (hk : k ≤ MC) (hn : n ≤ MS') {r : Int32 × AH} {S : AH} (hf : X0_bodyFrom_35 S = some r) : AW l g d RX0 cX0_bodyFrom 5 "bodyFrom" MC MS' (Qr (some (.int r.1)) r.2) k n 35 [none, none, none, none, none] [] S := by
  unfold X0_bodyFrom_35 at hf
  refine a_iconst (pc := 35) 0 dX0_bodyFrom_35 rfl ?_
  have hf := Option.some.inj hf
  subst hf
  exact a_ireturn (pc := 36) dX0_bodyFrom_36 hk hn ⟨rfl, rfl⟩
set_option maxHeartbeats 4000000 in
theorem sX0_bodyFrom_4 {l : Launch} {g : gE} {d MC MS' k n : Nat} (hd : 1 ≤ d) (hk : k ≤ MC) (hn : n ≤ MS') {r : Int32 × AH} : ∀ (fn : Nat) (S : AH) (l1 : Int32) (l2 : Int32) (l3 : Int32), X0_bodyFrom_4 fn S l1 l2 l3 = some r → AW l g d RX0 cX0_bodyFrom 5 "bodyFrom" MC MS' (Qr (some (.int r.1)) r.2) k n 4 [none, some (.int l1), some (.int l2), some (.int l3), none] [] S := by
  intro fn
  induction fn with
  | zero =>
    intro S l1 l2 l3 hf
    rw [X0_bodyFrom_4] at hf
    cases hf
  | succ fn ih =>
    intro S l1 l2 l3 hf
    rw [X0_bodyFrom_4] at hf
    refine a_iload_n (pc := 4) dX0_bodyFrom_4 rfl ?_
    refine a_bipush (pc := 5) 7 dX0_bodyFrom_5 rfl ?_
    refine a_icmp_ge (pc := 7) 64 dX0_bodyFrom_7 (by decide) (fun c8 => ?_) (fun c8 => ?_)
    · have hf := (if_pos c8).symm.trans hf
      refine a_iconst (pc := 64) 0 dX0_bodyFrom_64 rfl ?_
      have hf := Option.some.inj hf
      subst hf
      exact a_ireturn (pc := 65) dX0_bodyFrom_65 hk hn ⟨rfl, rfl⟩
    · have hf := (if_neg c8).symm.trans hf
      refine a_iconst (pc := 10) 3 dX0_bodyFrom_10 rfl ?_
      refine a_iload_n (pc := 11) dX0_bodyFrom_11 rfl ?_
      refine a_imul (pc := 12) dX0_bodyFrom_12 ?_
      refine a_iload_n (pc := 13) dX0_bodyFrom_13 rfl ?_
      refine a_iadd (pc := 14) dX0_bodyFrom_14 ?_
      refine a_istore (pc := 15) (ls' := [none, some (.int l1), some (.int l2), some (.int l3), some (.int ((3 * l2) + l1))]) dX0_bodyFrom_15 (by decide) rfl ?_
      refine a_iload_n (pc := 17) dX0_bodyFrom_17 rfl ?_
      refine a_if_lt (pc := 18) 35 dX0_bodyFrom_18 (by decide) (fun c7 => ?_) (fun c7 => ?_)
      · have hf := (if_pos c7).symm.trans hf
        refine a_sub (sub_k (sub_d (sub_d (sub_d (sub_d sub_n))))) ?_
        exact sX0_bodyFrom_35 hd hk hn hf
      · have hf := (if_neg c7).symm.trans hf
        refine a_iload (pc := 21) dX0_bodyFrom_21 rfl ?_
        refine a_if_lt (pc := 23) 35 dX0_bodyFrom_23 (by decide) (fun c6 => ?_) (fun c6 => ?_)
        · have hf := (if_pos c6).symm.trans hf
          refine a_sub (sub_k (sub_d (sub_d (sub_d (sub_d sub_n))))) ?_
          exact sX0_bodyFrom_35 hd hk hn hf
        · have hf := (if_neg c6).symm.trans hf
          refine a_iload (pc := 26) dX0_bodyFrom_26 rfl ?_
          refine a_gets1 (pc := 28) dX0_bodyFrom_28 fo_X0_36 ?_
          refine a_len1 (pc := 31) dX0_bodyFrom_31 ?_
          refine a_icmp_lt (pc := 32) 37 dX0_bodyFrom_32 (by decide) (fun c5 => ?_) (fun c5 => ?_)
          · have hf := (if_pos c5).symm.trans hf
            refine a_gets1 (pc := 37) dX0_bodyFrom_37 fo_X0_36 ?_
            refine a_iload (pc := 40) dX0_bodyFrom_40 rfl ?_
            obtain ⟨x1, hx1, hf⟩ := Option.bind_eq_some_iff.mp hf
            refine g_old1 (pc := 42) dX0_bodyFrom_42 hx1 ?_
            refine a_if_eq (pc := 43) 53 dX0_bodyFrom_43 (by decide) (fun c4 => ?_) (fun c4 => ?_)
            · have hf := (if_pos c4).symm.trans hf
              refine a_iload_n (pc := 53) dX0_bodyFrom_53 rfl ?_
              obtain ⟨r2, hr2, hf⟩ := Option.bind_eq_some_iff.mp hf
              refine g_callsN (pc := 54) (mc := 0) (ms := 0) (.int r2.1) [.int l2] [] dX0_bodyFrom_54 mn_X0_39 ms_X7_kindAbove rfl (by omega) (mX7_kindAbove (by omega) hr2) rfl (Nat.le_of_ble_eq_true rfl) hk hn ?_
              refine a_istore_n (pc := 57) (ls' := [none, some (.int l1), some (.int (r2.1)), some (.int l3), some (.int ((3 * l2) + l1))]) dX0_bodyFrom_57 (by decide) rfl ?_
              refine a_iinc (pc := 58) (ls' := [none, some (.int l1), some (.int (r2.1)), some (.int (l3 + 1)), some (.int ((3 * l2) + l1))]) (l3 + 1) dX0_bodyFrom_58 rfl rfl (by decide) rfl ?_
              refine a_goto (pc := 61) 4 dX0_bodyFrom_61 (by decide) ?_
              refine a_sub (sub_k (sub_k (sub_k (sub_k (sub_d sub_n))))) ?_
              exact ih r2.2 l1 r2.1 (l3 + 1) hf
            · have hf := (if_neg c4).symm.trans hf
              refine a_gets1 (pc := 46) dX0_bodyFrom_46 fo_X0_36 ?_
              refine a_iload (pc := 49) dX0_bodyFrom_49 rfl ?_
              obtain ⟨x3, hx3, hf⟩ := Option.bind_eq_some_iff.mp hf
              refine g_old1 (pc := 51) dX0_bodyFrom_51 hx3 ?_
              have hf := Option.some.inj hf
              subst hf
              exact a_ireturn (pc := 52) dX0_bodyFrom_52 hk hn ⟨rfl, rfl⟩
          · have hf := (if_neg c5).symm.trans hf
            refine a_sub (sub_k (sub_d (sub_d (sub_d (sub_d sub_n))))) ?_
            exact sX0_bodyFrom_35 hd hk hn hf
set_option maxHeartbeats 4000000 in
theorem sX0_bodyFrom_0 {l : Launch} {g : gE} {d MC MS' k n : Nat} (hd : 1 ≤ d) (hk : k ≤ MC) (hn : n ≤ MS') {r : Int32 × AH} {S : AH} {l0 : Int32} {l1 : Int32} (hf : X0_bodyFrom_0 S l0 l1 = some r) : AW l g d RX0 cX0_bodyFrom 5 "bodyFrom" MC MS' (Qr (some (.int r.1)) r.2) k n 0 [some (.int l0), some (.int l1), none, none, none] [] S := by
  unfold X0_bodyFrom_0 at hf
  refine a_iload_n (pc := 0) dX0_bodyFrom_0 rfl ?_
  refine a_istore_n (pc := 1) (ls' := [some (.int l0), some (.int l1), some (.int l0), none, none]) dX0_bodyFrom_1 (by decide) rfl ?_
  refine a_iconst (pc := 2) 0 dX0_bodyFrom_2 rfl ?_
  refine a_istore_n (pc := 3) (ls' := [some (.int l0), some (.int l1), some (.int l0), some (.int 0), none]) dX0_bodyFrom_3 (by decide) rfl ?_
  refine a_sub (sub_d (sub_k (sub_k (sub_k (sub_k sub_n))))) ?_
  exact sX0_bodyFrom_4 hd hk hn FU S l1 l0 0 hf
set_option maxHeartbeats 4000000 in
theorem mX0_bodyFrom {l : Launch} {g : gE} {d : Nat} (hd : 1 ≤ d) {r : Int32 × AH} {S : AH} {l0 : Int32} {l1 : Int32} (hf : X0_bodyFrom S l0 l1 = some r) : AM l g d yX0_bodyFrom cX0_bodyFrom 5 (some .int) 0 0 [.int l0, .int l1] S (Qr (some (.int r.1)) r.2) := by
  refine AM.of rfl (by exact Nat.le_of_ble_eq_true rfl) (fun v h' q => by obtain ⟨rfl, -⟩ := q; exact ⟨_, rfl, rfl⟩) (fun ls e => ?_)
  have e2 : aBeg [.int l0, .int l1] 5 = [some (.int l0), some (.int l1), none, none, none] := rfl
  rw [e2] at e
  subst e
  refine a_sub (sub_k (sub_k (sub_k (sub_k (sub_k (sub_n)))))) ?_
  exact sX0_bodyFrom_0 hd (Nat.le_refl _) (Nat.le_refl _) (hf)

-- PencilStrikes$Acts.keep(I)V
def X0_keep_29 (S : AH) (a0 : Nat) : Option (Unit × AH) :=
  (gI S a0 0 1).bind fun x1 =>
  (sI S a0 0 1 (x1 + 1)).bind fun S2 =>
  some ((), S2)
def X0_keep_0 (S : AH) (a0 : Nat) (l1 : Int32) : Option (Unit × AH) :=
  (gI S a0 0 1).bind fun x1 =>
  if x1 < 0 then
    X0_keep_29 S a0
  else
    (gI S a0 0 1).bind fun x2 =>
    (gQ S a0 0 0).bind fun x3 =>
    (aN S x3).bind fun x4 =>
    if x4 ≤ x2 then
      X0_keep_29 S a0
    else
      (gQ S a0 0 0).bind fun x5 =>
      (gI S a0 0 1).bind fun x6 =>
      (uA 0 S x5 x6 l1).bind fun S7 =>
      X0_keep_29 S7 a0
def X0_keep (S : AH) (a0 : Nat) (l1 : Int32) : Option (Unit × AH) := X0_keep_0 S a0 l1
set_option maxHeartbeats 4000000 in
theorem sX0_keep_29 {l : Launch} {g : gE} {d MC MS' k n : Nat} {a0 : Nat} (hd : 0 ≤ d) (hk : k ≤ MC) (hn : n ≤ MS') {r : Unit × AH} {S : AH} (hf : X0_keep_29 S a0 = some r) : AW l g d RX0 cX0_keep 2 "keep" MC MS' (Qr (none) r.2) k n 29 [some (.ref a0), none] [] S := by
  unfold X0_keep_29 at hf
  refine a_aload_n (pc := 29) dX0_keep_29 rfl (isRv_r _) ?_
  refine a_dup (pc := 30) dX0_keep_30 rfl ?_
  obtain ⟨x1, hx1, hf⟩ := Option.bind_eq_some_iff.mp hf
  refine g_getI (pc := 31) dX0_keep_31 fl_X0_15 hx1 ?_
  refine a_iconst (pc := 34) 1 dX0_keep_34 rfl ?_
  refine a_iadd (pc := 35) dX0_keep_35 ?_
  obtain ⟨S2, hS2, hf⟩ := Option.bind_eq_some_iff.mp hf
  refine g_putI (pc := 36) dX0_keep_36 fl_X0_15 rfl rfl hS2 ?_
  have hf := Option.some.inj hf
  subst hf
  exact a_return (pc := 39) dX0_keep_39 hk hn ⟨rfl, rfl⟩
set_option maxHeartbeats 4000000 in
theorem sX0_keep_0 {l : Launch} {g : gE} {d MC MS' k n : Nat} {a0 : Nat} (hd : 0 ≤ d) (hk : k ≤ MC) (hn : n ≤ MS') {r : Unit × AH} {S : AH} {l1 : Int32} (hf : X0_keep_0 S a0 l1 = some r) : AW l g d RX0 cX0_keep 2 "keep" MC MS' (Qr (none) r.2) k n 0 [some (.ref a0), some (.int l1)] [] S := by
  unfold X0_keep_0 at hf
  refine a_aload_n (pc := 0) dX0_keep_0 rfl (isRv_r _) ?_
  obtain ⟨x1, hx1, hf⟩ := Option.bind_eq_some_iff.mp hf
  refine g_getI (pc := 1) dX0_keep_1 fl_X0_15 hx1 ?_
  refine a_if_lt (pc := 4) 29 dX0_keep_4 (by decide) (fun c9 => ?_) (fun c9 => ?_)
  · have hf := (if_pos c9).symm.trans hf
    refine a_sub (sub_k (sub_d sub_n)) ?_
    exact sX0_keep_29 hd hk hn hf
  · have hf := (if_neg c9).symm.trans hf
    refine a_aload_n (pc := 7) dX0_keep_7 rfl (isRv_r _) ?_
    obtain ⟨x2, hx2, hf⟩ := Option.bind_eq_some_iff.mp hf
    refine g_getI (pc := 8) dX0_keep_8 fl_X0_15 hx2 ?_
    refine a_aload_n (pc := 11) dX0_keep_11 rfl (isRv_r _) ?_
    obtain ⟨x3, hx3, hf⟩ := Option.bind_eq_some_iff.mp hf
    refine g_getQ (pc := 12) dX0_keep_12 fl_X0_11 hx3 ?_
    obtain ⟨x4, hx4, hf⟩ := Option.bind_eq_some_iff.mp hf
    refine g_alen (pc := 15) dX0_keep_15 hx4 ?_
    refine a_icmp_ge (pc := 16) 29 dX0_keep_16 (by decide) (fun c8 => ?_) (fun c8 => ?_)
    · have hf := (if_pos c8).symm.trans hf
      refine a_sub (sub_k (sub_d sub_n)) ?_
      exact sX0_keep_29 hd hk hn hf
    · have hf := (if_neg c8).symm.trans hf
      refine a_aload_n (pc := 19) dX0_keep_19 rfl (isRv_r _) ?_
      obtain ⟨x5, hx5, hf⟩ := Option.bind_eq_some_iff.mp hf
      refine g_getQ (pc := 20) dX0_keep_20 fl_X0_11 hx5 ?_
      refine a_aload_n (pc := 23) dX0_keep_23 rfl (isRv_r _) ?_
      obtain ⟨x6, hx6, hf⟩ := Option.bind_eq_some_iff.mp hf
      refine g_getI (pc := 24) dX0_keep_24 fl_X0_15 hx6 ?_
      refine a_iload_n (pc := 27) dX0_keep_27 rfl ?_
      obtain ⟨S7, hS7, hf⟩ := Option.bind_eq_some_iff.mp hf
      refine g_iast (pc := 28) dX0_keep_28 hS7 ?_
      refine a_sub (sub_k (sub_d sub_n)) ?_
      exact sX0_keep_29 hd hk hn hf
set_option maxHeartbeats 4000000 in
theorem mX0_keep {l : Launch} {g : gE} {d : Nat} {a0 : Nat} (hd : 0 ≤ d) {r : Unit × AH} {S : AH} {l1 : Int32} (hf : X0_keep S a0 l1 = some r) : AM l g d yX0_keep cX0_keep 2 none 0 0 [.ref a0, .int l1] S (Qr (none) r.2) := by
  refine AM.of rfl (by exact Nat.le_of_ble_eq_true rfl) (fun v h' q => by obtain ⟨rfl, -⟩ := q; rfl) (fun ls e => ?_)
  have e2 : aBeg [.ref a0, .int l1] 2 = [some (.ref a0), some (.int l1)] := rfl
  rw [e2] at e
  subst e
  refine a_sub (sub_k (sub_k (sub_n))) ?_
  exact sX0_keep_0 hd (Nat.le_refl _) (Nat.le_refl _) (hf)

-- PencilStrikes$Acts.run(IIII)I
def X0_run_0 (rec_X0_run : AH → Nat → Int32 → Int32 → Int32 → Int32 → Option (Int32 × AH)) (S : AH) (a0 : Nat) (l1 : Int32) (l2 : Int32) (l3 : Int32) (l4 : Int32) : Option (Int32 × AH) :=
  if l4 ≤ 30 then
    (X0_bodyFrom S l2 l1).bind fun r1 =>
    (cO r1.2 a0 0 (X0_keep r1.2 a0 r1.1)).bind fun r2 =>
    if r1.1 = 10 then
      (gI r2.2 a0 0 3).bind fun x3 =>
      some ((l3 + x3), r2.2)
    else
      if r1.1 = 11 then
        (gI r2.2 a0 0 2).bind fun x4 =>
        (cO r2.2 a0 0 (rec_X0_run r2.2 a0 0 x4 l3 (l4 + 1))).bind fun r5 =>
        (gI r5.2 a0 0 4).bind fun x6 =>
        some ((r5.1 - x6), r5.2)
      else
        if r1.1 = 12 then
          (gI r2.2 a0 0 2).bind fun x7 =>
          (cO r2.2 a0 0 (rec_X0_run r2.2 a0 1 x7 l3 (l4 + 1))).bind fun r8 =>
          some ((r8.1 * 2), r8.2)
        else
          if r1.1 = 20 then
            (cO r2.2 a0 0 (rec_X0_run r2.2 a0 0 0 (l3 * 3) (l4 + 1))).bind fun r9 =>
            some (r9.1, r9.2)
          else
            if r1.1 = 30 then
              (cO r2.2 a0 0 (rec_X0_run r2.2 a0 1 0 l3 (l4 + 1))).bind fun r10 =>
              some ((r10.1 ^^^ 5), r10.2)
            else
              if r1.1 = 40 then
                (cO r2.2 a0 0 (rec_X0_run r2.2 a0 2 0 l3 (l4 + 1))).bind fun r11 =>
                (gI r11.2 a0 0 2).bind fun x12 =>
                (cO r11.2 a0 0 (rec_X0_run r11.2 a0 0 x12 1 (l4 + 1))).bind fun r13 =>
                some ((r11.1 + r13.1), r13.2)
              else
                if r1.1 = 41 then
                  (cO r2.2 a0 0 (rec_X0_run r2.2 a0 1 0 l3 (l4 + 1))).bind fun r14 =>
                  some (((-r14.1)), r14.2)
                else
                  if r1.1 = 50 then
                    (cO r2.2 a0 0 (rec_X0_run r2.2 a0 1 1 l3 (l4 + 1))).bind fun r15 =>
                    (cO r15.2 a0 0 (rec_X0_run r15.2 a0 0 1 2 (l4 + 1))).bind fun r16 =>
                    some ((r15.1 + r16.1), r16.2)
                  else
                    if r1.1 = 60 then
                      (gI r2.2 a0 0 2).bind fun x17 =>
                      (cO r2.2 a0 0 (rec_X0_run r2.2 a0 1 x17 l3 (l4 + 1))).bind fun r18 =>
                      (cO r18.2 a0 0 (rec_X0_run r18.2 a0 2 3 l3 (l4 + 1))).bind fun r19 =>
                      some ((r18.1 - r19.1), r19.2)
                    else
                      if r1.1 = 61 then
                        (cO r2.2 a0 0 (rec_X0_run r2.2 a0 0 3 l3 (l4 + 1))).bind fun r20 =>
                        (gI r20.2 a0 0 4).bind fun x21 =>
                        some ((r20.1 ^^^ x21), r20.2)
                      else
                        if r1.1 = 70 then
                          (gI r2.2 a0 0 3).bind fun x22 =>
                          (cO r2.2 a0 0 (rec_X0_run r2.2 a0 2 1 (l3 - x22) (l4 + 1))).bind fun r23 =>
                          some (r23.1, r23.2)
                        else
                          some (0, r2.2)
  else
    some (0, S)
def X0_run (rec_X0_run : AH → Nat → Int32 → Int32 → Int32 → Int32 → Option (Int32 × AH)) (S : AH) (a0 : Nat) (l1 : Int32) (l2 : Int32) (l3 : Int32) (l4 : Int32) : Option (Int32 × AH) := X0_run_0 rec_X0_run S a0 l1 l2 l3 l4
set_option maxHeartbeats 4000000 in
theorem sX0_run_0 {l : Launch} {g : gE} {d MC MS' k n : Nat} {a0 : Nat} (hd : 2 ≤ d) (hk : k ≤ MC) (hn : n ≤ MS') {r : Int32 × AH} {rec_X0_run : AH → Nat → Int32 → Int32 → Int32 → Int32 → Option (Int32 × AH)} (hrec_X0_run : ∀ (S : AH) (a0 : Nat) (x0 : Int32) (x1 : Int32) (x2 : Int32) (x3 : Int32) (r : Int32 × AH), rec_X0_run S a0 x0 x1 x2 x3 = some r → AM l g (d - 1) yX0_run cX0_run 7 (some .int) 0 0 [.ref a0, .int x0, .int x1, .int x2, .int x3] S (Qr (some (.int r.1)) r.2)) {S : AH} {l1 : Int32} {l2 : Int32} {l3 : Int32} {l4 : Int32} (hf : X0_run_0 rec_X0_run S a0 l1 l2 l3 l4 = some r) : AW l g d RX0 cX0_run 7 "run" MC MS' (Qr (some (.int r.1)) r.2) k n 0 [some (.ref a0), some (.int l1), some (.int l2), some (.int l3), some (.int l4), none, none] [] S := by
  unfold X0_run_0 at hf
  refine a_iload (pc := 0) dX0_run_0 rfl ?_
  refine a_bipush (pc := 2) 30 dX0_run_2 rfl ?_
  refine a_icmp_le (pc := 4) 9 dX0_run_4 (by decide) (fun c25 => ?_) (fun c25 => ?_)
  · have hf := (if_pos c25).symm.trans hf
    refine a_iload_n (pc := 9) dX0_run_9 rfl ?_
    refine a_iload_n (pc := 10) dX0_run_10 rfl ?_
    obtain ⟨r1, hr1, hf⟩ := Option.bind_eq_some_iff.mp hf
    refine g_calls (pc := 11) (mc := 0) (ms := 0) (.int r1.1) [.int l2, .int l1] [] dX0_run_11 ml_X0_43 ms_X0_bodyFrom rfl (by omega) (mX0_bodyFrom (by omega) hr1) rfl (Nat.le_of_ble_eq_true rfl) hk hn ?_
    refine a_istore (pc := 14) (ls' := [some (.ref a0), some (.int l1), some (.int l2), some (.int l3), some (.int l4), some (.int (r1.1)), none]) dX0_run_14 (by decide) rfl ?_
    refine a_aload_n (pc := 16) dX0_run_16 rfl (isRv_r _) ?_
    refine a_iload (pc := 17) dX0_run_17 rfl ?_
    obtain ⟨r2, hr2, hf⟩ := Option.bind_eq_some_iff.mp hf
    obtain ⟨hor2, hr2⟩ := cO_of hr2
    refine g_callv (pc := 19) (mc := 0) (ms := 0) [.int (r1.1)] [] dX0_run_19 ml_X0_47 mv_X0_keep hor2 (by decide) rfl rfl (by omega) (mX0_keep (by omega) hr2) rfl (Nat.le_of_ble_eq_true rfl) hk hn ?_
    refine a_iload (pc := 22) dX0_run_22 rfl ?_
    refine a_iconst (pc := 24) 1 dX0_run_24 rfl ?_
    refine a_iadd (pc := 25) dX0_run_25 ?_
    refine a_istore (pc := 26) (ls' := [some (.ref a0), some (.int l1), some (.int l2), some (.int l3), some (.int l4), some (.int (r1.1)), some (.int (l4 + 1))]) dX0_run_26 (by decide) rfl ?_
    refine a_iload (pc := 28) dX0_run_28 rfl ?_
    by_cases c24_0 : r1.1 = 10
    · have hf := (if_pos c24_0).symm.trans hf
      refine a_lookup (pc := 30) 128 dX0_run_30 (by decide) (by show (30 : Int) + Op.lookupswitch.offset [(10, 98), (11, 105), (12, 123), (20, 138), (30, 150), (40, 162), (41, 185), (50, 196), (60, 216), (61, 239), (70, 254)] 269 _ = _; rw [c24_0]; rfl) ?_
      refine a_iload_n (pc := 128) dX0_run_128 rfl ?_
      refine a_aload_n (pc := 129) dX0_run_129 rfl (isRv_r _) ?_
      obtain ⟨x3, hx3, hf⟩ := Option.bind_eq_some_iff.mp hf
      refine g_getI (pc := 130) dX0_run_130 fl_X0_26 hx3 ?_
      refine a_iadd (pc := 133) dX0_run_133 ?_
      have hf := Option.some.inj hf
      subst hf
      exact a_ireturn (pc := 134) dX0_run_134 hk hn ⟨rfl, rfl⟩
    · have hf := (if_neg c24_0).symm.trans hf
      by_cases c24_1 : r1.1 = 11
      · have hf := (if_pos c24_1).symm.trans hf
        refine a_lookup (pc := 30) 135 dX0_run_30 (by decide) (by show (30 : Int) + Op.lookupswitch.offset [(10, 98), (11, 105), (12, 123), (20, 138), (30, 150), (40, 162), (41, 185), (50, 196), (60, 216), (61, 239), (70, 254)] 269 _ = _; rw [lv_osw (a := 10) c24_0 rfl, c24_1]; rfl) ?_
        refine a_aload_n (pc := 135) dX0_run_135 rfl (isRv_r _) ?_
        refine a_iconst (pc := 136) 0 dX0_run_136 rfl ?_
        refine a_aload_n (pc := 137) dX0_run_137 rfl (isRv_r _) ?_
        obtain ⟨x4, hx4, hf⟩ := Option.bind_eq_some_iff.mp hf
        refine g_getI (pc := 138) dX0_run_138 fl_X0_23 hx4 ?_
        refine a_iload_n (pc := 141) dX0_run_141 rfl ?_
        refine a_iload (pc := 142) dX0_run_142 rfl ?_
        obtain ⟨r5, hr5, hf⟩ := Option.bind_eq_some_iff.mp hf
        obtain ⟨hor5, hr5⟩ := cO_of hr5
        refine g_call (pc := 144) (mc := 0) (ms := 0) (.int r5.1) [.int 0, .int x4, .int l3, .int (l4 + 1)] [] dX0_run_144 ml_X0_32 mv_X0_run hor5 (by decide) rfl rfl (by omega) (hrec_X0_run _ _ _ _ _ _ _  hr5) rfl (Nat.le_of_ble_eq_true rfl) hk hn ?_
        refine a_aload_n (pc := 147) dX0_run_147 rfl (isRv_r _) ?_
        obtain ⟨x6, hx6, hf⟩ := Option.bind_eq_some_iff.mp hf
        refine g_getI (pc := 148) dX0_run_148 fl_X0_29 hx6 ?_
        refine a_isub (pc := 151) dX0_run_151 ?_
        have hf := Option.some.inj hf
        subst hf
        exact a_ireturn (pc := 152) dX0_run_152 hk hn ⟨rfl, rfl⟩
      · have hf := (if_neg c24_1).symm.trans hf
        by_cases c24_2 : r1.1 = 12
        · have hf := (if_pos c24_2).symm.trans hf
          refine a_lookup (pc := 30) 153 dX0_run_30 (by decide) (by show (30 : Int) + Op.lookupswitch.offset [(10, 98), (11, 105), (12, 123), (20, 138), (30, 150), (40, 162), (41, 185), (50, 196), (60, 216), (61, 239), (70, 254)] 269 _ = _; rw [lv_osw (a := 10) c24_0 rfl, lv_osw (a := 11) c24_1 rfl, c24_2]; rfl) ?_
          refine a_aload_n (pc := 153) dX0_run_153 rfl (isRv_r _) ?_
          refine a_iconst (pc := 154) 1 dX0_run_154 rfl ?_
          refine a_aload_n (pc := 155) dX0_run_155 rfl (isRv_r _) ?_
          obtain ⟨x7, hx7, hf⟩ := Option.bind_eq_some_iff.mp hf
          refine g_getI (pc := 156) dX0_run_156 fl_X0_23 hx7 ?_
          refine a_iload_n (pc := 159) dX0_run_159 rfl ?_
          refine a_iload (pc := 160) dX0_run_160 rfl ?_
          obtain ⟨r8, hr8, hf⟩ := Option.bind_eq_some_iff.mp hf
          obtain ⟨hor8, hr8⟩ := cO_of hr8
          refine g_call (pc := 162) (mc := 0) (ms := 0) (.int r8.1) [.int 1, .int x7, .int l3, .int (l4 + 1)] [] dX0_run_162 ml_X0_32 mv_X0_run hor8 (by decide) rfl rfl (by omega) (hrec_X0_run _ _ _ _ _ _ _  hr8) rfl (Nat.le_of_ble_eq_true rfl) hk hn ?_
          refine a_iconst (pc := 165) 2 dX0_run_165 rfl ?_
          refine a_imul (pc := 166) dX0_run_166 ?_
          have hf := Option.some.inj hf
          subst hf
          exact a_ireturn (pc := 167) dX0_run_167 hk hn ⟨rfl, rfl⟩
        · have hf := (if_neg c24_2).symm.trans hf
          by_cases c24_3 : r1.1 = 20
          · have hf := (if_pos c24_3).symm.trans hf
            refine a_lookup (pc := 30) 168 dX0_run_30 (by decide) (by show (30 : Int) + Op.lookupswitch.offset [(10, 98), (11, 105), (12, 123), (20, 138), (30, 150), (40, 162), (41, 185), (50, 196), (60, 216), (61, 239), (70, 254)] 269 _ = _; rw [lv_osw (a := 10) c24_0 rfl, lv_osw (a := 11) c24_1 rfl, lv_osw (a := 12) c24_2 rfl, c24_3]; rfl) ?_
            refine a_aload_n (pc := 168) dX0_run_168 rfl (isRv_r _) ?_
            refine a_iconst (pc := 169) 0 dX0_run_169 rfl ?_
            refine a_iconst (pc := 170) 0 dX0_run_170 rfl ?_
            refine a_iload_n (pc := 171) dX0_run_171 rfl ?_
            refine a_iconst (pc := 172) 3 dX0_run_172 rfl ?_
            refine a_imul (pc := 173) dX0_run_173 ?_
            refine a_iload (pc := 174) dX0_run_174 rfl ?_
            obtain ⟨r9, hr9, hf⟩ := Option.bind_eq_some_iff.mp hf
            obtain ⟨hor9, hr9⟩ := cO_of hr9
            refine g_call (pc := 176) (mc := 0) (ms := 0) (.int r9.1) [.int 0, .int 0, .int (l3 * 3), .int (l4 + 1)] [] dX0_run_176 ml_X0_32 mv_X0_run hor9 (by decide) rfl rfl (by omega) (hrec_X0_run _ _ _ _ _ _ _  hr9) rfl (Nat.le_of_ble_eq_true rfl) hk hn ?_
            have hf := Option.some.inj hf
            subst hf
            exact a_ireturn (pc := 179) dX0_run_179 hk hn ⟨rfl, rfl⟩
          · have hf := (if_neg c24_3).symm.trans hf
            by_cases c24_4 : r1.1 = 30
            · have hf := (if_pos c24_4).symm.trans hf
              refine a_lookup (pc := 30) 180 dX0_run_30 (by decide) (by show (30 : Int) + Op.lookupswitch.offset [(10, 98), (11, 105), (12, 123), (20, 138), (30, 150), (40, 162), (41, 185), (50, 196), (60, 216), (61, 239), (70, 254)] 269 _ = _; rw [lv_osw (a := 10) c24_0 rfl, lv_osw (a := 11) c24_1 rfl, lv_osw (a := 12) c24_2 rfl, lv_osw (a := 20) c24_3 rfl, c24_4]; rfl) ?_
              refine a_aload_n (pc := 180) dX0_run_180 rfl (isRv_r _) ?_
              refine a_iconst (pc := 181) 1 dX0_run_181 rfl ?_
              refine a_iconst (pc := 182) 0 dX0_run_182 rfl ?_
              refine a_iload_n (pc := 183) dX0_run_183 rfl ?_
              refine a_iload (pc := 184) dX0_run_184 rfl ?_
              obtain ⟨r10, hr10, hf⟩ := Option.bind_eq_some_iff.mp hf
              obtain ⟨hor10, hr10⟩ := cO_of hr10
              refine g_call (pc := 186) (mc := 0) (ms := 0) (.int r10.1) [.int 1, .int 0, .int l3, .int (l4 + 1)] [] dX0_run_186 ml_X0_32 mv_X0_run hor10 (by decide) rfl rfl (by omega) (hrec_X0_run _ _ _ _ _ _ _  hr10) rfl (Nat.le_of_ble_eq_true rfl) hk hn ?_
              refine a_iconst (pc := 189) 5 dX0_run_189 rfl ?_
              refine a_ixor (pc := 190) dX0_run_190 ?_
              have hf := Option.some.inj hf
              subst hf
              exact a_ireturn (pc := 191) dX0_run_191 hk hn ⟨rfl, rfl⟩
            · have hf := (if_neg c24_4).symm.trans hf
              by_cases c24_5 : r1.1 = 40
              · have hf := (if_pos c24_5).symm.trans hf
                refine a_lookup (pc := 30) 192 dX0_run_30 (by decide) (by show (30 : Int) + Op.lookupswitch.offset [(10, 98), (11, 105), (12, 123), (20, 138), (30, 150), (40, 162), (41, 185), (50, 196), (60, 216), (61, 239), (70, 254)] 269 _ = _; rw [lv_osw (a := 10) c24_0 rfl, lv_osw (a := 11) c24_1 rfl, lv_osw (a := 12) c24_2 rfl, lv_osw (a := 20) c24_3 rfl, lv_osw (a := 30) c24_4 rfl, c24_5]; rfl) ?_
                refine a_aload_n (pc := 192) dX0_run_192 rfl (isRv_r _) ?_
                refine a_iconst (pc := 193) 2 dX0_run_193 rfl ?_
                refine a_iconst (pc := 194) 0 dX0_run_194 rfl ?_
                refine a_iload_n (pc := 195) dX0_run_195 rfl ?_
                refine a_iload (pc := 196) dX0_run_196 rfl ?_
                obtain ⟨r11, hr11, hf⟩ := Option.bind_eq_some_iff.mp hf
                obtain ⟨hor11, hr11⟩ := cO_of hr11
                refine g_call (pc := 198) (mc := 0) (ms := 0) (.int r11.1) [.int 2, .int 0, .int l3, .int (l4 + 1)] [] dX0_run_198 ml_X0_32 mv_X0_run hor11 (by decide) rfl rfl (by omega) (hrec_X0_run _ _ _ _ _ _ _  hr11) rfl (Nat.le_of_ble_eq_true rfl) hk hn ?_
                refine a_aload_n (pc := 201) dX0_run_201 rfl (isRv_r _) ?_
                refine a_iconst (pc := 202) 0 dX0_run_202 rfl ?_
                refine a_aload_n (pc := 203) dX0_run_203 rfl (isRv_r _) ?_
                obtain ⟨x12, hx12, hf⟩ := Option.bind_eq_some_iff.mp hf
                refine g_getI (pc := 204) dX0_run_204 fl_X0_23 hx12 ?_
                refine a_iconst (pc := 207) 1 dX0_run_207 rfl ?_
                refine a_iload (pc := 208) dX0_run_208 rfl ?_
                obtain ⟨r13, hr13, hf⟩ := Option.bind_eq_some_iff.mp hf
                obtain ⟨hor13, hr13⟩ := cO_of hr13
                refine g_call (pc := 210) (mc := 0) (ms := 0) (.int r13.1) [.int 0, .int x12, .int 1, .int (l4 + 1)] [.int (r11.1)] dX0_run_210 ml_X0_32 mv_X0_run hor13 (by decide) rfl rfl (by omega) (hrec_X0_run _ _ _ _ _ _ _  hr13) rfl (Nat.le_of_ble_eq_true rfl) hk hn ?_
                refine a_iadd (pc := 213) dX0_run_213 ?_
                have hf := Option.some.inj hf
                subst hf
                exact a_ireturn (pc := 214) dX0_run_214 hk hn ⟨rfl, rfl⟩
              · have hf := (if_neg c24_5).symm.trans hf
                by_cases c24_6 : r1.1 = 41
                · have hf := (if_pos c24_6).symm.trans hf
                  refine a_lookup (pc := 30) 215 dX0_run_30 (by decide) (by show (30 : Int) + Op.lookupswitch.offset [(10, 98), (11, 105), (12, 123), (20, 138), (30, 150), (40, 162), (41, 185), (50, 196), (60, 216), (61, 239), (70, 254)] 269 _ = _; rw [lv_osw (a := 10) c24_0 rfl, lv_osw (a := 11) c24_1 rfl, lv_osw (a := 12) c24_2 rfl, lv_osw (a := 20) c24_3 rfl, lv_osw (a := 30) c24_4 rfl, lv_osw (a := 40) c24_5 rfl, c24_6]; rfl) ?_
                  refine a_aload_n (pc := 215) dX0_run_215 rfl (isRv_r _) ?_
                  refine a_iconst (pc := 216) 1 dX0_run_216 rfl ?_
                  refine a_iconst (pc := 217) 0 dX0_run_217 rfl ?_
                  refine a_iload_n (pc := 218) dX0_run_218 rfl ?_
                  refine a_iload (pc := 219) dX0_run_219 rfl ?_
                  obtain ⟨r14, hr14, hf⟩ := Option.bind_eq_some_iff.mp hf
                  obtain ⟨hor14, hr14⟩ := cO_of hr14
                  refine g_call (pc := 221) (mc := 0) (ms := 0) (.int r14.1) [.int 1, .int 0, .int l3, .int (l4 + 1)] [] dX0_run_221 ml_X0_32 mv_X0_run hor14 (by decide) rfl rfl (by omega) (hrec_X0_run _ _ _ _ _ _ _  hr14) rfl (Nat.le_of_ble_eq_true rfl) hk hn ?_
                  refine a_ineg (pc := 224) dX0_run_224 ?_
                  have hf := Option.some.inj hf
                  subst hf
                  exact a_ireturn (pc := 225) dX0_run_225 hk hn ⟨rfl, rfl⟩
                · have hf := (if_neg c24_6).symm.trans hf
                  by_cases c24_7 : r1.1 = 50
                  · have hf := (if_pos c24_7).symm.trans hf
                    refine a_lookup (pc := 30) 226 dX0_run_30 (by decide) (by show (30 : Int) + Op.lookupswitch.offset [(10, 98), (11, 105), (12, 123), (20, 138), (30, 150), (40, 162), (41, 185), (50, 196), (60, 216), (61, 239), (70, 254)] 269 _ = _; rw [lv_osw (a := 10) c24_0 rfl, lv_osw (a := 11) c24_1 rfl, lv_osw (a := 12) c24_2 rfl, lv_osw (a := 20) c24_3 rfl, lv_osw (a := 30) c24_4 rfl, lv_osw (a := 40) c24_5 rfl, lv_osw (a := 41) c24_6 rfl, c24_7]; rfl) ?_
                    refine a_aload_n (pc := 226) dX0_run_226 rfl (isRv_r _) ?_
                    refine a_iconst (pc := 227) 1 dX0_run_227 rfl ?_
                    refine a_iconst (pc := 228) 1 dX0_run_228 rfl ?_
                    refine a_iload_n (pc := 229) dX0_run_229 rfl ?_
                    refine a_iload (pc := 230) dX0_run_230 rfl ?_
                    obtain ⟨r15, hr15, hf⟩ := Option.bind_eq_some_iff.mp hf
                    obtain ⟨hor15, hr15⟩ := cO_of hr15
                    refine g_call (pc := 232) (mc := 0) (ms := 0) (.int r15.1) [.int 1, .int 1, .int l3, .int (l4 + 1)] [] dX0_run_232 ml_X0_32 mv_X0_run hor15 (by decide) rfl rfl (by omega) (hrec_X0_run _ _ _ _ _ _ _  hr15) rfl (Nat.le_of_ble_eq_true rfl) hk hn ?_
                    refine a_aload_n (pc := 235) dX0_run_235 rfl (isRv_r _) ?_
                    refine a_iconst (pc := 236) 0 dX0_run_236 rfl ?_
                    refine a_iconst (pc := 237) 1 dX0_run_237 rfl ?_
                    refine a_iconst (pc := 238) 2 dX0_run_238 rfl ?_
                    refine a_iload (pc := 239) dX0_run_239 rfl ?_
                    obtain ⟨r16, hr16, hf⟩ := Option.bind_eq_some_iff.mp hf
                    obtain ⟨hor16, hr16⟩ := cO_of hr16
                    refine g_call (pc := 241) (mc := 0) (ms := 0) (.int r16.1) [.int 0, .int 1, .int 2, .int (l4 + 1)] [.int (r15.1)] dX0_run_241 ml_X0_32 mv_X0_run hor16 (by decide) rfl rfl (by omega) (hrec_X0_run _ _ _ _ _ _ _  hr16) rfl (Nat.le_of_ble_eq_true rfl) hk hn ?_
                    refine a_iadd (pc := 244) dX0_run_244 ?_
                    have hf := Option.some.inj hf
                    subst hf
                    exact a_ireturn (pc := 245) dX0_run_245 hk hn ⟨rfl, rfl⟩
                  · have hf := (if_neg c24_7).symm.trans hf
                    by_cases c24_8 : r1.1 = 60
                    · have hf := (if_pos c24_8).symm.trans hf
                      refine a_lookup (pc := 30) 246 dX0_run_30 (by decide) (by show (30 : Int) + Op.lookupswitch.offset [(10, 98), (11, 105), (12, 123), (20, 138), (30, 150), (40, 162), (41, 185), (50, 196), (60, 216), (61, 239), (70, 254)] 269 _ = _; rw [lv_osw (a := 10) c24_0 rfl, lv_osw (a := 11) c24_1 rfl, lv_osw (a := 12) c24_2 rfl, lv_osw (a := 20) c24_3 rfl, lv_osw (a := 30) c24_4 rfl, lv_osw (a := 40) c24_5 rfl, lv_osw (a := 41) c24_6 rfl, lv_osw (a := 50) c24_7 rfl, c24_8]; rfl) ?_
                      refine a_aload_n (pc := 246) dX0_run_246 rfl (isRv_r _) ?_
                      refine a_iconst (pc := 247) 1 dX0_run_247 rfl ?_
                      refine a_aload_n (pc := 248) dX0_run_248 rfl (isRv_r _) ?_
                      obtain ⟨x17, hx17, hf⟩ := Option.bind_eq_some_iff.mp hf
                      refine g_getI (pc := 249) dX0_run_249 fl_X0_23 hx17 ?_
                      refine a_iload_n (pc := 252) dX0_run_252 rfl ?_
                      refine a_iload (pc := 253) dX0_run_253 rfl ?_
                      obtain ⟨r18, hr18, hf⟩ := Option.bind_eq_some_iff.mp hf
                      obtain ⟨hor18, hr18⟩ := cO_of hr18
                      refine g_call (pc := 255) (mc := 0) (ms := 0) (.int r18.1) [.int 1, .int x17, .int l3, .int (l4 + 1)] [] dX0_run_255 ml_X0_32 mv_X0_run hor18 (by decide) rfl rfl (by omega) (hrec_X0_run _ _ _ _ _ _ _  hr18) rfl (Nat.le_of_ble_eq_true rfl) hk hn ?_
                      refine a_aload_n (pc := 258) dX0_run_258 rfl (isRv_r _) ?_
                      refine a_iconst (pc := 259) 2 dX0_run_259 rfl ?_
                      refine a_iconst (pc := 260) 3 dX0_run_260 rfl ?_
                      refine a_iload_n (pc := 261) dX0_run_261 rfl ?_
                      refine a_iload (pc := 262) dX0_run_262 rfl ?_
                      obtain ⟨r19, hr19, hf⟩ := Option.bind_eq_some_iff.mp hf
                      obtain ⟨hor19, hr19⟩ := cO_of hr19
                      refine g_call (pc := 264) (mc := 0) (ms := 0) (.int r19.1) [.int 2, .int 3, .int l3, .int (l4 + 1)] [.int (r18.1)] dX0_run_264 ml_X0_32 mv_X0_run hor19 (by decide) rfl rfl (by omega) (hrec_X0_run _ _ _ _ _ _ _  hr19) rfl (Nat.le_of_ble_eq_true rfl) hk hn ?_
                      refine a_isub (pc := 267) dX0_run_267 ?_
                      have hf := Option.some.inj hf
                      subst hf
                      exact a_ireturn (pc := 268) dX0_run_268 hk hn ⟨rfl, rfl⟩
                    · have hf := (if_neg c24_8).symm.trans hf
                      by_cases c24_9 : r1.1 = 61
                      · have hf := (if_pos c24_9).symm.trans hf
                        refine a_lookup (pc := 30) 269 dX0_run_30 (by decide) (by show (30 : Int) + Op.lookupswitch.offset [(10, 98), (11, 105), (12, 123), (20, 138), (30, 150), (40, 162), (41, 185), (50, 196), (60, 216), (61, 239), (70, 254)] 269 _ = _; rw [lv_osw (a := 10) c24_0 rfl, lv_osw (a := 11) c24_1 rfl, lv_osw (a := 12) c24_2 rfl, lv_osw (a := 20) c24_3 rfl, lv_osw (a := 30) c24_4 rfl, lv_osw (a := 40) c24_5 rfl, lv_osw (a := 41) c24_6 rfl, lv_osw (a := 50) c24_7 rfl, lv_osw (a := 60) c24_8 rfl, c24_9]; rfl) ?_
                        refine a_aload_n (pc := 269) dX0_run_269 rfl (isRv_r _) ?_
                        refine a_iconst (pc := 270) 0 dX0_run_270 rfl ?_
                        refine a_iconst (pc := 271) 3 dX0_run_271 rfl ?_
                        refine a_iload_n (pc := 272) dX0_run_272 rfl ?_
                        refine a_iload (pc := 273) dX0_run_273 rfl ?_
                        obtain ⟨r20, hr20, hf⟩ := Option.bind_eq_some_iff.mp hf
                        obtain ⟨hor20, hr20⟩ := cO_of hr20
                        refine g_call (pc := 275) (mc := 0) (ms := 0) (.int r20.1) [.int 0, .int 3, .int l3, .int (l4 + 1)] [] dX0_run_275 ml_X0_32 mv_X0_run hor20 (by decide) rfl rfl (by omega) (hrec_X0_run _ _ _ _ _ _ _  hr20) rfl (Nat.le_of_ble_eq_true rfl) hk hn ?_
                        refine a_aload_n (pc := 278) dX0_run_278 rfl (isRv_r _) ?_
                        obtain ⟨x21, hx21, hf⟩ := Option.bind_eq_some_iff.mp hf
                        refine g_getI (pc := 279) dX0_run_279 fl_X0_29 hx21 ?_
                        refine a_ixor (pc := 282) dX0_run_282 ?_
                        have hf := Option.some.inj hf
                        subst hf
                        exact a_ireturn (pc := 283) dX0_run_283 hk hn ⟨rfl, rfl⟩
                      · have hf := (if_neg c24_9).symm.trans hf
                        by_cases c24_10 : r1.1 = 70
                        · have hf := (if_pos c24_10).symm.trans hf
                          refine a_lookup (pc := 30) 284 dX0_run_30 (by decide) (by show (30 : Int) + Op.lookupswitch.offset [(10, 98), (11, 105), (12, 123), (20, 138), (30, 150), (40, 162), (41, 185), (50, 196), (60, 216), (61, 239), (70, 254)] 269 _ = _; rw [lv_osw (a := 10) c24_0 rfl, lv_osw (a := 11) c24_1 rfl, lv_osw (a := 12) c24_2 rfl, lv_osw (a := 20) c24_3 rfl, lv_osw (a := 30) c24_4 rfl, lv_osw (a := 40) c24_5 rfl, lv_osw (a := 41) c24_6 rfl, lv_osw (a := 50) c24_7 rfl, lv_osw (a := 60) c24_8 rfl, lv_osw (a := 61) c24_9 rfl, c24_10]; rfl) ?_
                          refine a_aload_n (pc := 284) dX0_run_284 rfl (isRv_r _) ?_
                          refine a_iconst (pc := 285) 2 dX0_run_285 rfl ?_
                          refine a_iconst (pc := 286) 1 dX0_run_286 rfl ?_
                          refine a_iload_n (pc := 287) dX0_run_287 rfl ?_
                          refine a_aload_n (pc := 288) dX0_run_288 rfl (isRv_r _) ?_
                          obtain ⟨x22, hx22, hf⟩ := Option.bind_eq_some_iff.mp hf
                          refine g_getI (pc := 289) dX0_run_289 fl_X0_26 hx22 ?_
                          refine a_isub (pc := 292) dX0_run_292 ?_
                          refine a_iload (pc := 293) dX0_run_293 rfl ?_
                          obtain ⟨r23, hr23, hf⟩ := Option.bind_eq_some_iff.mp hf
                          obtain ⟨hor23, hr23⟩ := cO_of hr23
                          refine g_call (pc := 295) (mc := 0) (ms := 0) (.int r23.1) [.int 2, .int 1, .int (l3 - x22), .int (l4 + 1)] [] dX0_run_295 ml_X0_32 mv_X0_run hor23 (by decide) rfl rfl (by omega) (hrec_X0_run _ _ _ _ _ _ _  hr23) rfl (Nat.le_of_ble_eq_true rfl) hk hn ?_
                          have hf := Option.some.inj hf
                          subst hf
                          exact a_ireturn (pc := 298) dX0_run_298 hk hn ⟨rfl, rfl⟩
                        · have hf := (if_neg c24_10).symm.trans hf
                          refine a_lookup (pc := 30) 299 dX0_run_30 (by decide) (by show (30 : Int) + Op.lookupswitch.offset [(10, 98), (11, 105), (12, 123), (20, 138), (30, 150), (40, 162), (41, 185), (50, 196), (60, 216), (61, 239), (70, 254)] 269 _ = _; rw [lv_osw (a := 10) c24_0 rfl, lv_osw (a := 11) c24_1 rfl, lv_osw (a := 12) c24_2 rfl, lv_osw (a := 20) c24_3 rfl, lv_osw (a := 30) c24_4 rfl, lv_osw (a := 40) c24_5 rfl, lv_osw (a := 41) c24_6 rfl, lv_osw (a := 50) c24_7 rfl, lv_osw (a := 60) c24_8 rfl, lv_osw (a := 61) c24_9 rfl, lv_osw (a := 70) c24_10 rfl]; rfl) ?_
                          refine a_iconst (pc := 299) 0 dX0_run_299 rfl ?_
                          have hf := Option.some.inj hf
                          subst hf
                          exact a_ireturn (pc := 300) dX0_run_300 hk hn ⟨rfl, rfl⟩
  · have hf := (if_neg c25).symm.trans hf
    refine a_iconst (pc := 7) 0 dX0_run_7 rfl ?_
    have hf := Option.some.inj hf
    subst hf
    exact a_ireturn (pc := 8) dX0_run_8 hk hn ⟨rfl, rfl⟩
set_option maxHeartbeats 4000000 in
theorem mX0_run {l : Launch} {g : gE} {d : Nat} {a0 : Nat} (hd : 2 ≤ d) {rec_X0_run : AH → Nat → Int32 → Int32 → Int32 → Int32 → Option (Int32 × AH)} (hrec_X0_run : ∀ (S : AH) (a0 : Nat) (x0 : Int32) (x1 : Int32) (x2 : Int32) (x3 : Int32) (r : Int32 × AH), rec_X0_run S a0 x0 x1 x2 x3 = some r → AM l g (d - 1) yX0_run cX0_run 7 (some .int) 0 0 [.ref a0, .int x0, .int x1, .int x2, .int x3] S (Qr (some (.int r.1)) r.2)) {r : Int32 × AH} {S : AH} {l1 : Int32} {l2 : Int32} {l3 : Int32} {l4 : Int32} (hf : X0_run rec_X0_run S a0 l1 l2 l3 l4 = some r) : AM l g d yX0_run cX0_run 7 (some .int) 0 0 [.ref a0, .int l1, .int l2, .int l3, .int l4] S (Qr (some (.int r.1)) r.2) := by
  refine AM.of rfl (by exact Nat.le_of_ble_eq_true rfl) (fun v h' q => by obtain ⟨rfl, -⟩ := q; exact ⟨_, rfl, rfl⟩) (fun ls e => ?_)
  have e2 : aBeg [.ref a0, .int l1, .int l2, .int l3, .int l4] 7 = [some (.ref a0), some (.int l1), some (.int l2), some (.int l3), some (.int l4), none, none] := rfl
  rw [e2] at e
  subst e
  refine a_sub (sub_k (sub_k (sub_k (sub_k (sub_k (sub_k (sub_k (sub_n)))))))) ?_
  exact sX0_run_0 hd (Nat.le_refl _) (Nat.le_refl _) hrec_X0_run (hf)

def X0_runR : Nat → AH → Nat → Int32 → Int32 → Int32 → Int32 → Option (Int32 × AH)
  | 0, _, _, _, _, _, _ => none
  | n + 1, S, a, x, y, z, w => X0_run (fun S a x y z w => X0_runR n S a x y z w) S a x y z w
theorem mX0_runR {l : Launch} {g : gE} : ∀ (n d : Nat), 2 + n ≤ d → ∀ (S : AH) (a : Nat) (x y z w : Int32) (r : Int32 × AH), X0_runR n S a x y z w = some r → AM l g d yX0_run cX0_run 7 (some .int) 0 0 [.ref a, .int x, .int y, .int z, .int w] S (Qr (some (.int r.1)) r.2) := by
  intro n
  induction n with
  | zero => exact fun d _ S a x y z w r h => by cases h
  | succ n ih =>
    intro d hd S a x y z w r h
    exact mX0_run (by omega) (ih (d - 1) (by omega)) h
def X0_runK (S : AH) (a : Nat) (x y z w : Int32) : Option (Int32 × AH) := X0_runR 40 S a x y z w
theorem mX0_runK {l : Launch} {g : gE} {d : Nat} (hd : 60 ≤ d) {S : AH} {a : Nat} {x y z w : Int32} {r : Int32 × AH} (h : X0_runK S a x y z w = some r) : AM l g d yX0_run cX0_run 7 (some .int) 0 0 [.ref a, .int x, .int y, .int z, .int w] S (Qr (some (.int r.1)) r.2) := mX0_runR 40 d (by omega) S a x y z w r h

-- PencilStrikes$Acts.begin(IIIII)I
def X0_begin_21 (S : AH) (a0 : Nat) : Option (Int32 × AH) :=
  some (0, S)
def X0_begin_0 (S : AH) (a0 : Nat) (l1 : Int32) (l2 : Int32) (l3 : Int32) (l4 : Int32) (l5 : Int32) : Option (Int32 × AH) :=
  (sI S a0 0 1 0).bind fun S1 =>
  (X7_isKind S1 l1).bind fun r2 =>
  if r2.1 = 0 then
    X0_begin_21 r2.2 a0
  else
    if l2 < 0 then
      X0_begin_21 r2.2 a0
    else
      if l2 < 3 then
        (sI r2.2 a0 0 2 l1).bind fun S3 =>
        (sI S3 a0 0 3 l4).bind fun S4 =>
        (sI S4 a0 0 4 l5).bind fun S5 =>
        (cO S5 a0 0 (X0_runK S5 a0 l2 l1 l3 0)).bind fun r6 =>
        some (r6.1, r6.2)
      else
        X0_begin_21 r2.2 a0
def X0_begin (S : AH) (a0 : Nat) (l1 : Int32) (l2 : Int32) (l3 : Int32) (l4 : Int32) (l5 : Int32) : Option (Int32 × AH) := X0_begin_0 S a0 l1 l2 l3 l4 l5
set_option maxHeartbeats 4000000 in
theorem sX0_begin_21 {l : Launch} {g : gE} {d MC MS' k n : Nat} {a0 : Nat} (hd : 61 ≤ d) (hk : k ≤ MC) (hn : n ≤ MS') {r : Int32 × AH} {S : AH} (hf : X0_begin_21 S a0 = some r) : AW l g d RX0 cX0_begin 6 "begin" MC MS' (Qr (some (.int r.1)) r.2) k n 21 [none, none, none, none, none, none] [] S := by
  unfold X0_begin_21 at hf
  refine a_iconst (pc := 21) 0 dX0_begin_21 rfl ?_
  have hf := Option.some.inj hf
  subst hf
  exact a_ireturn (pc := 22) dX0_begin_22 hk hn ⟨rfl, rfl⟩
set_option maxHeartbeats 4000000 in
theorem sX0_begin_0 {l : Launch} {g : gE} {d MC MS' k n : Nat} {a0 : Nat} (hd : 61 ≤ d) (hk : k ≤ MC) (hn : n ≤ MS') {r : Int32 × AH} {S : AH} {l1 : Int32} {l2 : Int32} {l3 : Int32} {l4 : Int32} {l5 : Int32} (hf : X0_begin_0 S a0 l1 l2 l3 l4 l5 = some r) : AW l g d RX0 cX0_begin 6 "begin" MC MS' (Qr (some (.int r.1)) r.2) k n 0 [some (.ref a0), some (.int l1), some (.int l2), some (.int l3), some (.int l4), some (.int l5)] [] S := by
  unfold X0_begin_0 at hf
  refine a_aload_n (pc := 0) dX0_begin_0 rfl (isRv_r _) ?_
  refine a_iconst (pc := 1) 0 dX0_begin_1 rfl ?_
  obtain ⟨S1, hS1, hf⟩ := Option.bind_eq_some_iff.mp hf
  refine g_putI (pc := 2) dX0_begin_2 fl_X0_15 rfl rfl hS1 ?_
  refine a_iload_n (pc := 5) dX0_begin_5 rfl ?_
  obtain ⟨r2, hr2, hf⟩ := Option.bind_eq_some_iff.mp hf
  refine g_callsN (pc := 6) (mc := 0) (ms := 0) (.int r2.1) [.int l1] [] dX0_begin_6 mn_X0_19 ms_X7_isKind rfl (by omega) (mX7_isKind (by omega) hr2) rfl (Nat.le_of_ble_eq_true rfl) hk hn ?_
  refine a_if_eq (pc := 9) 21 dX0_begin_9 (by decide) (fun c9 => ?_) (fun c9 => ?_)
  · have hf := (if_pos c9).symm.trans hf
    refine a_sub (sub_d (sub_d (sub_d (sub_d (sub_d (sub_d sub_n)))))) ?_
    exact sX0_begin_21 hd hk hn hf
  · have hf := (if_neg c9).symm.trans hf
    refine a_iload_n (pc := 12) dX0_begin_12 rfl ?_
    refine a_if_lt (pc := 13) 21 dX0_begin_13 (by decide) (fun c8 => ?_) (fun c8 => ?_)
    · have hf := (if_pos c8).symm.trans hf
      refine a_sub (sub_d (sub_d (sub_d (sub_d (sub_d (sub_d sub_n)))))) ?_
      exact sX0_begin_21 hd hk hn hf
    · have hf := (if_neg c8).symm.trans hf
      refine a_iload_n (pc := 16) dX0_begin_16 rfl ?_
      refine a_iconst (pc := 17) 3 dX0_begin_17 rfl ?_
      refine a_icmp_lt (pc := 18) 23 dX0_begin_18 (by decide) (fun c7 => ?_) (fun c7 => ?_)
      · have hf := (if_pos c7).symm.trans hf
        refine a_aload_n (pc := 23) dX0_begin_23 rfl (isRv_r _) ?_
        refine a_iload_n (pc := 24) dX0_begin_24 rfl ?_
        obtain ⟨S3, hS3, hf⟩ := Option.bind_eq_some_iff.mp hf
        refine g_putI (pc := 25) dX0_begin_25 fl_X0_23 rfl rfl hS3 ?_
        refine a_aload_n (pc := 28) dX0_begin_28 rfl (isRv_r _) ?_
        refine a_iload (pc := 29) dX0_begin_29 rfl ?_
        obtain ⟨S4, hS4, hf⟩ := Option.bind_eq_some_iff.mp hf
        refine g_putI (pc := 31) dX0_begin_31 fl_X0_26 rfl rfl hS4 ?_
        refine a_aload_n (pc := 34) dX0_begin_34 rfl (isRv_r _) ?_
        refine a_iload (pc := 35) dX0_begin_35 rfl ?_
        obtain ⟨S5, hS5, hf⟩ := Option.bind_eq_some_iff.mp hf
        refine g_putI (pc := 37) dX0_begin_37 fl_X0_29 rfl rfl hS5 ?_
        refine a_aload_n (pc := 40) dX0_begin_40 rfl (isRv_r _) ?_
        refine a_iload_n (pc := 41) dX0_begin_41 rfl ?_
        refine a_iload_n (pc := 42) dX0_begin_42 rfl ?_
        refine a_iload_n (pc := 43) dX0_begin_43 rfl ?_
        refine a_iconst (pc := 44) 0 dX0_begin_44 rfl ?_
        obtain ⟨r6, hr6, hf⟩ := Option.bind_eq_some_iff.mp hf
        obtain ⟨hor6, hr6⟩ := cO_of hr6
        refine g_call (pc := 45) (mc := 0) (ms := 0) (.int r6.1) [.int l2, .int l1, .int l3, .int 0] [] dX0_begin_45 ml_X0_32 mv_X0_run hor6 (by decide) rfl rfl (by omega) (mX0_runK (by omega) hr6) rfl (Nat.le_of_ble_eq_true rfl) hk hn ?_
        have hf := Option.some.inj hf
        subst hf
        exact a_ireturn (pc := 48) dX0_begin_48 hk hn ⟨rfl, rfl⟩
      · have hf := (if_neg c7).symm.trans hf
        refine a_sub (sub_d (sub_d (sub_d (sub_d (sub_d (sub_d sub_n)))))) ?_
        exact sX0_begin_21 hd hk hn hf
set_option maxHeartbeats 4000000 in
theorem mX0_begin {l : Launch} {g : gE} {d : Nat} {a0 : Nat} (hd : 61 ≤ d) {r : Int32 × AH} {S : AH} {l1 : Int32} {l2 : Int32} {l3 : Int32} {l4 : Int32} {l5 : Int32} (hf : X0_begin S a0 l1 l2 l3 l4 l5 = some r) : AM l g d yX0_begin cX0_begin 6 (some .int) 0 0 [.ref a0, .int l1, .int l2, .int l3, .int l4, .int l5] S (Qr (some (.int r.1)) r.2) := by
  refine AM.of rfl (by exact Nat.le_of_ble_eq_true rfl) (fun v h' q => by obtain ⟨rfl, -⟩ := q; exact ⟨_, rfl, rfl⟩) (fun ls e => ?_)
  have e2 : aBeg [.ref a0, .int l1, .int l2, .int l3, .int l4, .int l5] 6 = [some (.ref a0), some (.int l1), some (.int l2), some (.int l3), some (.int l4), some (.int l5)] := rfl
  rw [e2] at e
  subst e
  refine a_sub (sub_k (sub_k (sub_k (sub_k (sub_k (sub_k (sub_n))))))) ?_
  exact sX0_begin_0 hd (Nat.le_refl _) (Nat.le_refl _) (hf)

-- PencilStrikes.act(III)I
def X7_act_0 (S : AH) (a0 : Nat) (l1 : Int32) (l2 : Int32) (l3 : Int32) : Option (Int32 × AH) :=
  (gQ S a0 7 6).bind fun x1 =>
  (gI S a0 7 8).bind fun x2 =>
  (gI S a0 7 9).bind fun x3 =>
  (x1).bind fun a4 =>
  (cO S a4 0 (X0_begin S a4 l1 l2 l3 x2 x3)).bind fun r5 =>
  some (r5.1, r5.2)
def X7_act (S : AH) (a0 : Nat) (l1 : Int32) (l2 : Int32) (l3 : Int32) : Option (Int32 × AH) := X7_act_0 S a0 l1 l2 l3
set_option maxHeartbeats 4000000 in
theorem sX7_act_0 {l : Launch} {g : gE} {d MC MS' k n : Nat} {a0 : Nat} (hd : 62 ≤ d) (hk : k ≤ MC) (hn : n ≤ MS') {r : Int32 × AH} {S : AH} {l1 : Int32} {l2 : Int32} {l3 : Int32} (hf : X7_act_0 S a0 l1 l2 l3 = some r) : AW l g d RX7 cX7_act 4 "act" MC MS' (Qr (some (.int r.1)) r.2) k n 0 [some (.ref a0), some (.int l1), some (.int l2), some (.int l3)] [] S := by
  unfold X7_act_0 at hf
  refine a_aload_n (pc := 0) dX7_act_0 rfl (isRv_r _) ?_
  obtain ⟨x1, hx1, hf⟩ := Option.bind_eq_some_iff.mp hf
  refine g_getQ (pc := 1) dX7_act_1 fl_X7_50 hx1 ?_
  refine a_iload_n (pc := 4) dX7_act_4 rfl ?_
  refine a_iload_n (pc := 5) dX7_act_5 rfl ?_
  refine a_iload_n (pc := 6) dX7_act_6 rfl ?_
  refine a_aload_n (pc := 7) dX7_act_7 rfl (isRv_r _) ?_
  obtain ⟨x2, hx2, hf⟩ := Option.bind_eq_some_iff.mp hf
  refine g_getI (pc := 8) dX7_act_8 fl_X7_70 hx2 ?_
  refine a_aload_n (pc := 11) dX7_act_11 rfl (isRv_r _) ?_
  obtain ⟨x3, hx3, hf⟩ := Option.bind_eq_some_iff.mp hf
  refine g_getI (pc := 12) dX7_act_12 fl_X7_74 hx3 ?_
  obtain ⟨a4, ha4, hf⟩ := Option.bind_eq_some_iff.mp hf
  rw [ha4]
  obtain ⟨r5, hr5, hf⟩ := Option.bind_eq_some_iff.mp hf
  obtain ⟨hor5, hr5⟩ := cO_of hr5
  refine g_call (pc := 15) (mc := 0) (ms := 0) (.int r5.1) [.int l1, .int l2, .int l3, .int x2, .int x3] [] dX7_act_15 ml_X7_192 mv_X0_begin hor5 (by decide) rfl rfl (by omega) (mX0_begin (by omega) hr5) rfl (Nat.le_of_ble_eq_true rfl) hk hn ?_
  have hf := Option.some.inj hf
  subst hf
  exact a_ireturn (pc := 18) dX7_act_18 hk hn ⟨rfl, rfl⟩
set_option maxHeartbeats 4000000 in
theorem mX7_act {l : Launch} {g : gE} {d : Nat} {a0 : Nat} (hd : 62 ≤ d) {r : Int32 × AH} {S : AH} {l1 : Int32} {l2 : Int32} {l3 : Int32} (hf : X7_act S a0 l1 l2 l3 = some r) : AM l g d yX7_act cX7_act 4 (some .int) 0 0 [.ref a0, .int l1, .int l2, .int l3] S (Qr (some (.int r.1)) r.2) := by
  refine AM.of rfl (by exact Nat.le_of_ble_eq_true rfl) (fun v h' q => by obtain ⟨rfl, -⟩ := q; exact ⟨_, rfl, rfl⟩) (fun ls e => ?_)
  have e2 : aBeg [.ref a0, .int l1, .int l2, .int l3] 4 = [some (.ref a0), some (.int l1), some (.int l2), some (.int l3)] := rfl
  rw [e2] at e
  subst e
  refine a_sub (sub_k (sub_k (sub_k (sub_k (sub_n))))) ?_
  exact sX7_act_0 hd (Nat.le_refl _) (Nat.le_refl _) (hf)

-- PencilStrikes$Acts.keptBody(I)I
def X0_keptBody_31 (S : AH) (a0 : Nat) (s0 : Int32) : Option (Int32 × AH) :=
  some (s0, S)
def X0_keptBody_30 (S : AH) (a0 : Nat) : Option (Int32 × AH) :=
  X0_keptBody_31 S a0 (-1)
def X0_keptBody_0 (S : AH) (a0 : Nat) (l1 : Int32) : Option (Int32 × AH) :=
  if l1 < 0 then
    X0_keptBody_30 S a0
  else
    (gI S a0 0 1).bind fun x1 =>
    if x1 ≤ l1 then
      X0_keptBody_30 S a0
    else
      (gQ S a0 0 0).bind fun x2 =>
      (aN S x2).bind fun x3 =>
      if x3 ≤ l1 then
        X0_keptBody_30 S a0
      else
        (gQ S a0 0 0).bind fun x4 =>
        (aA 0 S x4 l1).bind fun x5 =>
        X0_keptBody_31 S a0 x5
def X0_keptBody (S : AH) (a0 : Nat) (l1 : Int32) : Option (Int32 × AH) := X0_keptBody_0 S a0 l1
set_option maxHeartbeats 4000000 in
theorem sX0_keptBody_31 {l : Launch} {g : gE} {d MC MS' k n : Nat} {a0 : Nat} (hd : 0 ≤ d) (hk : k ≤ MC) (hn : n ≤ MS') {r : Int32 × AH} {S : AH} {s0 : Int32} (hf : X0_keptBody_31 S a0 s0 = some r) : AW l g d RX0 cX0_keptBody 2 "keptBody" MC MS' (Qr (some (.int r.1)) r.2) k n 31 [none, none] [.int s0] S := by
  unfold X0_keptBody_31 at hf
  have hf := Option.some.inj hf
  subst hf
  exact a_ireturn (pc := 31) dX0_keptBody_31 hk hn ⟨rfl, rfl⟩
set_option maxHeartbeats 4000000 in
theorem sX0_keptBody_30 {l : Launch} {g : gE} {d MC MS' k n : Nat} {a0 : Nat} (hd : 0 ≤ d) (hk : k ≤ MC) (hn : n ≤ MS') {r : Int32 × AH} {S : AH} (hf : X0_keptBody_30 S a0 = some r) : AW l g d RX0 cX0_keptBody 2 "keptBody" MC MS' (Qr (some (.int r.1)) r.2) k n 30 [none, none] [] S := by
  unfold X0_keptBody_30 at hf
  refine a_iconst (pc := 30) (-1) dX0_keptBody_30 rfl ?_
  exact sX0_keptBody_31 hd hk hn hf
set_option maxHeartbeats 4000000 in
theorem sX0_keptBody_0 {l : Launch} {g : gE} {d MC MS' k n : Nat} {a0 : Nat} (hd : 0 ≤ d) (hk : k ≤ MC) (hn : n ≤ MS') {r : Int32 × AH} {S : AH} {l1 : Int32} (hf : X0_keptBody_0 S a0 l1 = some r) : AW l g d RX0 cX0_keptBody 2 "keptBody" MC MS' (Qr (some (.int r.1)) r.2) k n 0 [some (.ref a0), some (.int l1)] [] S := by
  unfold X0_keptBody_0 at hf
  refine a_iload_n (pc := 0) dX0_keptBody_0 rfl ?_
  refine a_if_lt (pc := 1) 30 dX0_keptBody_1 (by decide) (fun c8 => ?_) (fun c8 => ?_)
  · have hf := (if_pos c8).symm.trans hf
    refine a_sub (sub_d (sub_d sub_n)) ?_
    exact sX0_keptBody_30 hd hk hn hf
  · have hf := (if_neg c8).symm.trans hf
    refine a_iload_n (pc := 4) dX0_keptBody_4 rfl ?_
    refine a_aload_n (pc := 5) dX0_keptBody_5 rfl (isRv_r _) ?_
    obtain ⟨x1, hx1, hf⟩ := Option.bind_eq_some_iff.mp hf
    refine g_getI (pc := 6) dX0_keptBody_6 fl_X0_15 hx1 ?_
    refine a_icmp_ge (pc := 9) 30 dX0_keptBody_9 (by decide) (fun c7 => ?_) (fun c7 => ?_)
    · have hf := (if_pos c7).symm.trans hf
      refine a_sub (sub_d (sub_d sub_n)) ?_
      exact sX0_keptBody_30 hd hk hn hf
    · have hf := (if_neg c7).symm.trans hf
      refine a_iload_n (pc := 12) dX0_keptBody_12 rfl ?_
      refine a_aload_n (pc := 13) dX0_keptBody_13 rfl (isRv_r _) ?_
      obtain ⟨x2, hx2, hf⟩ := Option.bind_eq_some_iff.mp hf
      refine g_getQ (pc := 14) dX0_keptBody_14 fl_X0_11 hx2 ?_
      obtain ⟨x3, hx3, hf⟩ := Option.bind_eq_some_iff.mp hf
      refine g_alen (pc := 17) dX0_keptBody_17 hx3 ?_
      refine a_icmp_ge (pc := 18) 30 dX0_keptBody_18 (by decide) (fun c6 => ?_) (fun c6 => ?_)
      · have hf := (if_pos c6).symm.trans hf
        refine a_sub (sub_d (sub_d sub_n)) ?_
        exact sX0_keptBody_30 hd hk hn hf
      · have hf := (if_neg c6).symm.trans hf
        refine a_aload_n (pc := 21) dX0_keptBody_21 rfl (isRv_r _) ?_
        obtain ⟨x4, hx4, hf⟩ := Option.bind_eq_some_iff.mp hf
        refine g_getQ (pc := 22) dX0_keptBody_22 fl_X0_11 hx4 ?_
        refine a_iload_n (pc := 25) dX0_keptBody_25 rfl ?_
        obtain ⟨x5, hx5, hf⟩ := Option.bind_eq_some_iff.mp hf
        refine g_iald (pc := 26) dX0_keptBody_26 hx5 ?_
        refine a_goto (pc := 27) 31 dX0_keptBody_27 (by decide) ?_
        refine a_sub (sub_d (sub_d sub_n)) ?_
        exact sX0_keptBody_31 hd hk hn hf
set_option maxHeartbeats 4000000 in
theorem mX0_keptBody {l : Launch} {g : gE} {d : Nat} {a0 : Nat} (hd : 0 ≤ d) {r : Int32 × AH} {S : AH} {l1 : Int32} (hf : X0_keptBody S a0 l1 = some r) : AM l g d yX0_keptBody cX0_keptBody 2 (some .int) 0 0 [.ref a0, .int l1] S (Qr (some (.int r.1)) r.2) := by
  refine AM.of rfl (by exact Nat.le_of_ble_eq_true rfl) (fun v h' q => by obtain ⟨rfl, -⟩ := q; exact ⟨_, rfl, rfl⟩) (fun ls e => ?_)
  have e2 : aBeg [.ref a0, .int l1] 2 = [some (.ref a0), some (.int l1)] := rfl
  rw [e2] at e
  subst e
  refine a_sub (sub_k (sub_k (sub_n))) ?_
  exact sX0_keptBody_0 hd (Nat.le_refl _) (Nat.le_refl _) (hf)

-- PencilStrikes.trace(I)I
def X7_trace_0 (S : AH) (a0 : Nat) (l1 : Int32) : Option (Int32 × AH) :=
  (gQ S a0 7 6).bind fun x1 =>
  (x1).bind fun a2 =>
  (cO S a2 0 (X0_keptBody S a2 l1)).bind fun r3 =>
  some (r3.1, r3.2)
def X7_trace (S : AH) (a0 : Nat) (l1 : Int32) : Option (Int32 × AH) := X7_trace_0 S a0 l1
set_option maxHeartbeats 4000000 in
theorem sX7_trace_0 {l : Launch} {g : gE} {d MC MS' k n : Nat} {a0 : Nat} (hd : 1 ≤ d) (hk : k ≤ MC) (hn : n ≤ MS') {r : Int32 × AH} {S : AH} {l1 : Int32} (hf : X7_trace_0 S a0 l1 = some r) : AW l g d RX7 cX7_trace 2 "trace" MC MS' (Qr (some (.int r.1)) r.2) k n 0 [some (.ref a0), some (.int l1)] [] S := by
  unfold X7_trace_0 at hf
  refine a_aload_n (pc := 0) dX7_trace_0 rfl (isRv_r _) ?_
  obtain ⟨x1, hx1, hf⟩ := Option.bind_eq_some_iff.mp hf
  refine g_getQ (pc := 1) dX7_trace_1 fl_X7_50 hx1 ?_
  refine a_iload_n (pc := 4) dX7_trace_4 rfl ?_
  obtain ⟨a2, ha2, hf⟩ := Option.bind_eq_some_iff.mp hf
  rw [ha2]
  obtain ⟨r3, hr3, hf⟩ := Option.bind_eq_some_iff.mp hf
  obtain ⟨hor3, hr3⟩ := cO_of hr3
  refine g_call (pc := 5) (mc := 0) (ms := 0) (.int r3.1) [.int l1] [] dX7_trace_5 ml_X7_196 mv_X0_keptBody hor3 (by decide) rfl rfl (by omega) (mX0_keptBody (by omega) hr3) rfl (Nat.le_of_ble_eq_true rfl) hk hn ?_
  have hf := Option.some.inj hf
  subst hf
  exact a_ireturn (pc := 8) dX7_trace_8 hk hn ⟨rfl, rfl⟩
set_option maxHeartbeats 4000000 in
theorem mX7_trace {l : Launch} {g : gE} {d : Nat} {a0 : Nat} (hd : 1 ≤ d) {r : Int32 × AH} {S : AH} {l1 : Int32} (hf : X7_trace S a0 l1 = some r) : AM l g d yX7_trace cX7_trace 2 (some .int) 0 0 [.ref a0, .int l1] S (Qr (some (.int r.1)) r.2) := by
  refine AM.of rfl (by exact Nat.le_of_ble_eq_true rfl) (fun v h' q => by obtain ⟨rfl, -⟩ := q; exact ⟨_, rfl, rfl⟩) (fun ls e => ?_)
  have e2 : aBeg [.ref a0, .int l1] 2 = [some (.ref a0), some (.int l1)] := rfl
  rw [e2] at e
  subst e
  refine a_sub (sub_k (sub_k (sub_n))) ?_
  exact sX7_trace_0 hd (Nat.le_refl _) (Nat.le_refl _) (hf)

-- PencilStrikes.taken(II)I
def X7_taken_59 (S : AH) (a0 : Nat) (s0 : Int32) : Option (Int32 × AH) :=
  some (s0, S)
def X7_taken_48 (S : AH) (a0 : Nat) (l1 : Int32) (l2 : Int32) (l3 : Int32) : Option (Int32 × AH) :=
  if l3 = l2 then
    X7_taken_59 S a0 l1
  else
    X7_taken_59 S a0 (-12)
def X7_taken_25 : Nat → AH → Nat → Int32 → Int32 → Int32 → Int32 → Option (Int32 × AH)
  | 0, _, _, _, _, _, _ => none
  | fn + 1, S, a0, l1, l2, l3, l4 =>
    if 7 ≤ l4 then
      X7_taken_48 S a0 l1 l2 l3
    else
      if l3 = l2 then
        X7_taken_48 S a0 l1 l2 l3
      else
        (X7_kindAbove S l3).bind fun r1 =>
        X7_taken_25 fn r1.2 a0 l1 l2 r1.1 (l4 + 1)
def X7_taken_0 (S : AH) (a0 : Nat) (l1 : Int32) (l2 : Int32) : Option (Int32 × AH) :=
  (X7_isKind S l2).bind fun r1 =>
  if r1.1 = 0 then
    some ((-2), r1.2)
  else
    (X7_isKind r1.2 l1).bind fun r2 =>
    if r2.1 = 0 then
      some ((-11), r2.2)
    else
      X7_taken_25 FU r2.2 a0 l1 l2 l1 0
def X7_taken (S : AH) (a0 : Nat) (l1 : Int32) (l2 : Int32) : Option (Int32 × AH) := X7_taken_0 S a0 l1 l2
set_option maxHeartbeats 4000000 in
theorem sX7_taken_59 {l : Launch} {g : gE} {d MC MS' k n : Nat} {a0 : Nat} (hd : 1 ≤ d) (hk : k ≤ MC) (hn : n ≤ MS') {r : Int32 × AH} {S : AH} {s0 : Int32} (hf : X7_taken_59 S a0 s0 = some r) : AW l g d RX7 cX7_taken 5 "taken" MC MS' (Qr (some (.int r.1)) r.2) k n 59 [none, none, none, none, none] [.int s0] S := by
  unfold X7_taken_59 at hf
  have hf := Option.some.inj hf
  subst hf
  exact a_ireturn (pc := 59) dX7_taken_59 hk hn ⟨rfl, rfl⟩
set_option maxHeartbeats 4000000 in
theorem sX7_taken_48 {l : Launch} {g : gE} {d MC MS' k n : Nat} {a0 : Nat} (hd : 1 ≤ d) (hk : k ≤ MC) (hn : n ≤ MS') {r : Int32 × AH} {S : AH} {l1 : Int32} {l2 : Int32} {l3 : Int32} (hf : X7_taken_48 S a0 l1 l2 l3 = some r) : AW l g d RX7 cX7_taken 5 "taken" MC MS' (Qr (some (.int r.1)) r.2) k n 48 [none, some (.int l1), some (.int l2), some (.int l3), none] [] S := by
  unfold X7_taken_48 at hf
  refine a_iload_n (pc := 48) dX7_taken_48 rfl ?_
  refine a_iload_n (pc := 49) dX7_taken_49 rfl ?_
  refine a_icmp_ne (pc := 50) 57 dX7_taken_50 (by decide) (fun c1 => ?_) (fun c1 => ?_)
  · have hf := (if_neg c1).symm.trans hf
    refine a_bipush (pc := 57) (-12) dX7_taken_57 rfl ?_
    refine a_sub (sub_k (sub_d (sub_d (sub_d (sub_k sub_n))))) ?_
    exact sX7_taken_59 hd hk hn hf
  · have hf := (if_pos c1).symm.trans hf
    refine a_iload_n (pc := 53) dX7_taken_53 rfl ?_
    refine a_goto (pc := 54) 59 dX7_taken_54 (by decide) ?_
    refine a_sub (sub_k (sub_d (sub_d (sub_d (sub_k sub_n))))) ?_
    exact sX7_taken_59 hd hk hn hf
set_option maxHeartbeats 4000000 in
theorem sX7_taken_25 {l : Launch} {g : gE} {d MC MS' k n : Nat} {a0 : Nat} (hd : 1 ≤ d) (hk : k ≤ MC) (hn : n ≤ MS') {r : Int32 × AH} : ∀ (fn : Nat) (S : AH) (l1 : Int32) (l2 : Int32) (l3 : Int32) (l4 : Int32), X7_taken_25 fn S a0 l1 l2 l3 l4 = some r → AW l g d RX7 cX7_taken 5 "taken" MC MS' (Qr (some (.int r.1)) r.2) k n 25 [none, some (.int l1), some (.int l2), some (.int l3), some (.int l4)] [] S := by
  intro fn
  induction fn with
  | zero =>
    intro S l1 l2 l3 l4 hf
    rw [X7_taken_25] at hf
    cases hf
  | succ fn ih =>
    intro S l1 l2 l3 l4 hf
    rw [X7_taken_25] at hf
    refine a_iload (pc := 25) dX7_taken_25 rfl ?_
    refine a_bipush (pc := 27) 7 dX7_taken_27 rfl ?_
    refine a_icmp_ge (pc := 29) 48 dX7_taken_29 (by decide) (fun c3 => ?_) (fun c3 => ?_)
    · have hf := (if_pos c3).symm.trans hf
      refine a_sub (sub_k (sub_k (sub_k (sub_k (sub_d sub_n))))) ?_
      exact sX7_taken_48 hd hk hn hf
    · have hf := (if_neg c3).symm.trans hf
      refine a_iload_n (pc := 32) dX7_taken_32 rfl ?_
      refine a_iload_n (pc := 33) dX7_taken_33 rfl ?_
      refine a_icmp_eq (pc := 34) 48 dX7_taken_34 (by decide) (fun c2 => ?_) (fun c2 => ?_)
      · have hf := (if_pos c2).symm.trans hf
        refine a_sub (sub_k (sub_k (sub_k (sub_k (sub_d sub_n))))) ?_
        exact sX7_taken_48 hd hk hn hf
      · have hf := (if_neg c2).symm.trans hf
        refine a_iload_n (pc := 37) dX7_taken_37 rfl ?_
        obtain ⟨r1, hr1, hf⟩ := Option.bind_eq_some_iff.mp hf
        refine g_calls (pc := 38) (mc := 0) (ms := 0) (.int r1.1) [.int l3] [] dX7_taken_38 ml_X7_199 ms_X7_kindAbove rfl (by omega) (mX7_kindAbove (by omega) hr1) rfl (Nat.le_of_ble_eq_true rfl) hk hn ?_
        refine a_istore_n (pc := 41) (ls' := [none, some (.int l1), some (.int l2), some (.int (r1.1)), some (.int l4)]) dX7_taken_41 (by decide) rfl ?_
        refine a_iinc (pc := 42) (ls' := [none, some (.int l1), some (.int l2), some (.int (r1.1)), some (.int (l4 + 1))]) (l4 + 1) dX7_taken_42 rfl rfl (by decide) rfl ?_
        refine a_goto (pc := 45) 25 dX7_taken_45 (by decide) ?_
        exact ih r1.2 l1 l2 r1.1 (l4 + 1) hf
set_option maxHeartbeats 4000000 in
theorem sX7_taken_0 {l : Launch} {g : gE} {d MC MS' k n : Nat} {a0 : Nat} (hd : 1 ≤ d) (hk : k ≤ MC) (hn : n ≤ MS') {r : Int32 × AH} {S : AH} {l1 : Int32} {l2 : Int32} (hf : X7_taken_0 S a0 l1 l2 = some r) : AW l g d RX7 cX7_taken 5 "taken" MC MS' (Qr (some (.int r.1)) r.2) k n 0 [none, some (.int l1), some (.int l2), none, none] [] S := by
  unfold X7_taken_0 at hf
  refine a_iload_n (pc := 0) dX7_taken_0 rfl ?_
  obtain ⟨r1, hr1, hf⟩ := Option.bind_eq_some_iff.mp hf
  refine g_calls (pc := 1) (mc := 0) (ms := 0) (.int r1.1) [.int l2] [] dX7_taken_1 ml_X7_129 ms_X7_isKind rfl (by omega) (mX7_isKind (by omega) hr1) rfl (Nat.le_of_ble_eq_true rfl) hk hn ?_
  refine a_if_ne (pc := 4) 10 dX7_taken_4 (by decide) (fun c4 => ?_) (fun c4 => ?_)
  · have hf := (if_neg c4).symm.trans hf
    refine a_iload_n (pc := 10) dX7_taken_10 rfl ?_
    obtain ⟨r2, hr2, hf⟩ := Option.bind_eq_some_iff.mp hf
    refine g_calls (pc := 11) (mc := 0) (ms := 0) (.int r2.1) [.int l1] [] dX7_taken_11 ml_X7_129 ms_X7_isKind rfl (by omega) (mX7_isKind (by omega) hr2) rfl (Nat.le_of_ble_eq_true rfl) hk hn ?_
    refine a_if_ne (pc := 14) 20 dX7_taken_14 (by decide) (fun c3 => ?_) (fun c3 => ?_)
    · have hf := (if_neg c3).symm.trans hf
      refine a_iload_n (pc := 20) dX7_taken_20 rfl ?_
      refine a_istore_n (pc := 21) (ls' := [none, some (.int l1), some (.int l2), some (.int l1), none]) dX7_taken_21 (by decide) rfl ?_
      refine a_iconst (pc := 22) 0 dX7_taken_22 rfl ?_
      refine a_istore (pc := 23) (ls' := [none, some (.int l1), some (.int l2), some (.int l1), some (.int 0)]) dX7_taken_23 (by decide) rfl ?_
      exact sX7_taken_25 hd hk hn FU r2.2 l1 l2 l1 0 hf
    · have hf := (if_pos c3).symm.trans hf
      refine a_bipush (pc := 17) (-11) dX7_taken_17 rfl ?_
      have hf := Option.some.inj hf
      subst hf
      exact a_ireturn (pc := 19) dX7_taken_19 hk hn ⟨rfl, rfl⟩
  · have hf := (if_pos c4).symm.trans hf
    refine a_bipush (pc := 7) (-2) dX7_taken_7 rfl ?_
    have hf := Option.some.inj hf
    subst hf
    exact a_ireturn (pc := 9) dX7_taken_9 hk hn ⟨rfl, rfl⟩
set_option maxHeartbeats 4000000 in
theorem mX7_taken {l : Launch} {g : gE} {d : Nat} {a0 : Nat} (hd : 1 ≤ d) {r : Int32 × AH} {S : AH} {l1 : Int32} {l2 : Int32} (hf : X7_taken S a0 l1 l2 = some r) : AM l g d yX7_taken cX7_taken 5 (some .int) 0 0 [.ref a0, .int l1, .int l2] S (Qr (some (.int r.1)) r.2) := by
  refine AM.of rfl (by exact Nat.le_of_ble_eq_true rfl) (fun v h' q => by obtain ⟨rfl, -⟩ := q; exact ⟨_, rfl, rfl⟩) (fun ls e => ?_)
  have e2 : aBeg [.ref a0, .int l1, .int l2] 5 = [some (.ref a0), some (.int l1), some (.int l2), none, none] := rfl
  rw [e2] at e
  subst e
  refine a_sub (sub_d (sub_k (sub_k (sub_k (sub_k (sub_n)))))) ?_
  exact sX7_taken_0 hd (Nat.le_refl _) (Nat.le_refl _) (hf)

-- PencilStrikes$Acts.ran()I
def X0_ran_0 (S : AH) (a0 : Nat) : Option (Int32 × AH) :=
  (gI S a0 0 1).bind fun x1 =>
  some (x1, S)
def X0_ran (S : AH) (a0 : Nat) : Option (Int32 × AH) := X0_ran_0 S a0
set_option maxHeartbeats 4000000 in
theorem sX0_ran_0 {l : Launch} {g : gE} {d MC MS' k n : Nat} {a0 : Nat} (hd : 0 ≤ d) (hk : k ≤ MC) (hn : n ≤ MS') {r : Int32 × AH} {S : AH} (hf : X0_ran_0 S a0 = some r) : AW l g d RX0 cX0_ran 1 "ran" MC MS' (Qr (some (.int r.1)) r.2) k n 0 [some (.ref a0)] [] S := by
  unfold X0_ran_0 at hf
  refine a_aload_n (pc := 0) dX0_ran_0 rfl (isRv_r _) ?_
  obtain ⟨x1, hx1, hf⟩ := Option.bind_eq_some_iff.mp hf
  refine g_getI (pc := 1) dX0_ran_1 fl_X0_15 hx1 ?_
  have hf := Option.some.inj hf
  subst hf
  exact a_ireturn (pc := 4) dX0_ran_4 hk hn ⟨rfl, rfl⟩
set_option maxHeartbeats 4000000 in
theorem mX0_ran {l : Launch} {g : gE} {d : Nat} {a0 : Nat} (hd : 0 ≤ d) {r : Int32 × AH} {S : AH} (hf : X0_ran S a0 = some r) : AM l g d yX0_ran cX0_ran 1 (some .int) 0 0 [.ref a0] S (Qr (some (.int r.1)) r.2) := by
  refine AM.of rfl (by exact Nat.le_of_ble_eq_true rfl) (fun v h' q => by obtain ⟨rfl, -⟩ := q; exact ⟨_, rfl, rfl⟩) (fun ls e => ?_)
  have e2 : aBeg [.ref a0] 1 = [some (.ref a0)] := rfl
  rw [e2] at e
  subst e
  refine a_sub (sub_k (sub_n)) ?_
  exact sX0_ran_0 hd (Nat.le_refl _) (Nat.le_refl _) (hf)

-- PencilStrikes.count(I)I
def X7_count_0 (S : AH) (a0 : Nat) (l1 : Int32) : Option (Int32 × AH) :=
  if l1 = 0 then
    (gI S a0 7 8).bind fun x1 =>
    some (x1, S)
  else
    if l1 = 1 then
      (gI S a0 7 9).bind fun x2 =>
      some (x2, S)
    else
      if l1 = 2 then
        (gQ S a0 7 0).bind fun x3 =>
        (x3).bind fun a4 =>
        (cO S a4 6 (X6_size S a4)).bind fun r5 =>
        some (r5.1, r5.2)
      else
        if l1 = 3 then
          (gQ S a0 7 6).bind fun x6 =>
          (x6).bind fun a7 =>
          (cO S a7 0 (X0_ran S a7)).bind fun r8 =>
          some (r8.1, r8.2)
        else
          some ((-2), S)
def X7_count (S : AH) (a0 : Nat) (l1 : Int32) : Option (Int32 × AH) := X7_count_0 S a0 l1
set_option maxHeartbeats 4000000 in
theorem sX7_count_0 {l : Launch} {g : gE} {d MC MS' k n : Nat} {a0 : Nat} (hd : 1 ≤ d) (hk : k ≤ MC) (hn : n ≤ MS') {r : Int32 × AH} {S : AH} {l1 : Int32} (hf : X7_count_0 S a0 l1 = some r) : AW l g d RX7 cX7_count 2 "count" MC MS' (Qr (some (.int r.1)) r.2) k n 0 [some (.ref a0), some (.int l1)] [] S := by
  unfold X7_count_0 at hf
  refine a_iload_n (pc := 0) dX7_count_0 rfl ?_
  by_cases c9_0 : l1 = 0
  · have hf := (if_pos c9_0).symm.trans hf
    refine a_tableIn (pc := 1) 32 dX7_count_1 (by rw [c9_0]; decide) (by rw [c9_0]; decide) (off := 31) (by rw [c9_0]; rfl) (by decide) ?_
    refine a_aload_n (pc := 32) dX7_count_32 rfl (isRv_r _) ?_
    obtain ⟨x1, hx1, hf⟩ := Option.bind_eq_some_iff.mp hf
    refine g_getI (pc := 33) dX7_count_33 fl_X7_70 hx1 ?_
    have hf := Option.some.inj hf
    subst hf
    exact a_ireturn (pc := 36) dX7_count_36 hk hn ⟨rfl, rfl⟩
  · have hf := (if_neg c9_0).symm.trans hf
    by_cases c9_1 : l1 = 1
    · have hf := (if_pos c9_1).symm.trans hf
      refine a_tableIn (pc := 1) 37 dX7_count_1 (by rw [c9_1]; decide) (by rw [c9_1]; decide) (off := 36) (by rw [c9_1]; rfl) (by decide) ?_
      refine a_aload_n (pc := 37) dX7_count_37 rfl (isRv_r _) ?_
      obtain ⟨x2, hx2, hf⟩ := Option.bind_eq_some_iff.mp hf
      refine g_getI (pc := 38) dX7_count_38 fl_X7_74 hx2 ?_
      have hf := Option.some.inj hf
      subst hf
      exact a_ireturn (pc := 41) dX7_count_41 hk hn ⟨rfl, rfl⟩
    · have hf := (if_neg c9_1).symm.trans hf
      by_cases c9_2 : l1 = 2
      · have hf := (if_pos c9_2).symm.trans hf
        refine a_tableIn (pc := 1) 42 dX7_count_1 (by rw [c9_2]; decide) (by rw [c9_2]; decide) (off := 41) (by rw [c9_2]; rfl) (by decide) ?_
        refine a_aload_n (pc := 42) dX7_count_42 rfl (isRv_r _) ?_
        obtain ⟨x3, hx3, hf⟩ := Option.bind_eq_some_iff.mp hf
        refine g_getQ (pc := 43) dX7_count_43 fl_X7_12 hx3 ?_
        obtain ⟨a4, ha4, hf⟩ := Option.bind_eq_some_iff.mp hf
        rw [ha4]
        obtain ⟨r5, hr5, hf⟩ := Option.bind_eq_some_iff.mp hf
        obtain ⟨hor5, hr5⟩ := cO_of hr5
        refine g_call (pc := 46) (mc := 0) (ms := 0) (.int r5.1) [] [] dX7_count_46 ml_X7_62 mv_X6_size hor5 (by decide) rfl rfl (by omega) (mX6_size (by omega) hr5) rfl (Nat.le_of_ble_eq_true rfl) hk hn ?_
        have hf := Option.some.inj hf
        subst hf
        exact a_ireturn (pc := 49) dX7_count_49 hk hn ⟨rfl, rfl⟩
      · have hf := (if_neg c9_2).symm.trans hf
        by_cases c9_3 : l1 = 3
        · have hf := (if_pos c9_3).symm.trans hf
          refine a_tableIn (pc := 1) 50 dX7_count_1 (by rw [c9_3]; decide) (by rw [c9_3]; decide) (off := 49) (by rw [c9_3]; rfl) (by decide) ?_
          refine a_aload_n (pc := 50) dX7_count_50 rfl (isRv_r _) ?_
          obtain ⟨x6, hx6, hf⟩ := Option.bind_eq_some_iff.mp hf
          refine g_getQ (pc := 51) dX7_count_51 fl_X7_50 hx6 ?_
          obtain ⟨a7, ha7, hf⟩ := Option.bind_eq_some_iff.mp hf
          rw [ha7]
          obtain ⟨r8, hr8, hf⟩ := Option.bind_eq_some_iff.mp hf
          obtain ⟨hor8, hr8⟩ := cO_of hr8
          refine g_call (pc := 54) (mc := 0) (ms := 0) (.int r8.1) [] [] dX7_count_54 ml_X7_202 mv_X0_ran hor8 (by decide) rfl rfl (by omega) (mX0_ran (by omega) hr8) rfl (Nat.le_of_ble_eq_true rfl) hk hn ?_
          have hf := Option.some.inj hf
          subst hf
          exact a_ireturn (pc := 57) dX7_count_57 hk hn ⟨rfl, rfl⟩
        · have hf := (if_neg c9_3).symm.trans hf
          have hkd : AW l g d RX7 cX7_count 2 "count" MC MS' (Qr (some (.int r.1)) r.2) k n 58 [some (.ref a0), some (.int l1)] [] S := by
            refine a_bipush (pc := 58) (-2) dX7_count_58 rfl ?_
            have hf := Option.some.inj hf
            subst hf
            exact a_ireturn (pc := 60) dX7_count_60 hk hn ⟨rfl, rfl⟩
          by_cases h9l : (l1).toInt < 0
          · exact a_tableOut (pc := 1) 58 dX7_count_1 (Or.inl h9l) (by decide) hkd
          by_cases h9h : 3 < (l1).toInt
          · exact a_tableOut (pc := 1) 58 dX7_count_1 (Or.inr h9h) (by decide) hkd
          have h9a : (l1).toInt = 0 ∨ (l1).toInt = 1 ∨ (l1).toInt = 2 ∨ (l1).toInt = 3 := by omega
          rcases h9a with h9a | h9a | h9a | h9a
          · exact absurd (Int32.toInt_inj.mp (h9a.trans rfl)) c9_0
          · exact absurd (Int32.toInt_inj.mp (h9a.trans rfl)) c9_1
          · exact absurd (Int32.toInt_inj.mp (h9a.trans rfl)) c9_2
          · exact absurd (Int32.toInt_inj.mp (h9a.trans rfl)) c9_3
set_option maxHeartbeats 4000000 in
theorem mX7_count {l : Launch} {g : gE} {d : Nat} {a0 : Nat} (hd : 1 ≤ d) {r : Int32 × AH} {S : AH} {l1 : Int32} (hf : X7_count S a0 l1 = some r) : AM l g d yX7_count cX7_count 2 (some .int) 0 0 [.ref a0, .int l1] S (Qr (some (.int r.1)) r.2) := by
  refine AM.of rfl (by exact Nat.le_of_ble_eq_true rfl) (fun v h' q => by obtain ⟨rfl, -⟩ := q; exact ⟨_, rfl, rfl⟩) (fun ls e => ?_)
  have e2 : aBeg [.ref a0, .int l1] 2 = [some (.ref a0), some (.int l1)] := rfl
  rw [e2] at e
  subst e
  refine a_sub (sub_k (sub_k (sub_n))) ?_
  exact sX7_count_0 hd (Nat.le_refl _) (Nat.le_refl _) (hf)

-- PencilStrikes$Tape.become(II)V
def X5_become_12 : Nat → AH → Nat → Int32 → Option (Unit × AH)
  | 0, _, _, _ => none
  | fn + 1, S, a0, l3 =>
    (gQ S a0 5 0).bind fun x1 =>
    (aN S x1).bind fun x2 =>
    if x2 ≤ l3 then
      some ((), S)
    else
      (gQ S a0 5 0).bind fun x3 =>
      (uL S x3 l3 (0 : Int64)).bind fun S4 =>
      X5_become_12 fn S4 a0 (l3 + 1)
def X5_become_0 (S : AH) (a0 : Nat) (l1 : Int32) (l2 : Int32) : Option (Unit × AH) :=
  (sI S a0 5 1 l1).bind fun S1 =>
  (sI S1 a0 5 2 l2).bind fun S2 =>
  X5_become_12 FU S2 a0 0
def X5_become (S : AH) (a0 : Nat) (l1 : Int32) (l2 : Int32) : Option (Unit × AH) := X5_become_0 S a0 l1 l2
set_option maxHeartbeats 4000000 in
theorem sX5_become_12 {l : Launch} {g : gE} {d MC MS' k n : Nat} {a0 : Nat} (hd : 0 ≤ d) (hk : k ≤ MC) (hn : n ≤ MS') {r : Unit × AH} : ∀ (fn : Nat) (S : AH) (l3 : Int32), X5_become_12 fn S a0 l3 = some r → AW l g d RX5 cX5_become 4 "become" MC MS' (Qr (none) r.2) k n 12 [some (.ref a0), none, none, some (.int l3)] [] S := by
  intro fn
  induction fn with
  | zero =>
    intro S l3 hf
    rw [X5_become_12] at hf
    cases hf
  | succ fn ih =>
    intro S l3 hf
    rw [X5_become_12] at hf
    refine a_iload_n (pc := 12) dX5_become_12 rfl ?_
    refine a_aload_n (pc := 13) dX5_become_13 rfl (isRv_r _) ?_
    obtain ⟨x1, hx1, hf⟩ := Option.bind_eq_some_iff.mp hf
    refine g_getQ (pc := 14) dX5_become_14 fl_X5_9 hx1 ?_
    obtain ⟨x2, hx2, hf⟩ := Option.bind_eq_some_iff.mp hf
    refine g_alen (pc := 17) dX5_become_17 hx2 ?_
    refine a_icmp_ge (pc := 18) 34 dX5_become_18 (by decide) (fun c5 => ?_) (fun c5 => ?_)
    · have hf := (if_pos c5).symm.trans hf
      have hf := Option.some.inj hf
      subst hf
      exact a_return (pc := 34) dX5_become_34 hk hn ⟨rfl, rfl⟩
    · have hf := (if_neg c5).symm.trans hf
      refine a_aload_n (pc := 21) dX5_become_21 rfl (isRv_r _) ?_
      obtain ⟨x3, hx3, hf⟩ := Option.bind_eq_some_iff.mp hf
      refine g_getQ (pc := 22) dX5_become_22 fl_X5_9 hx3 ?_
      refine a_iload_n (pc := 25) dX5_become_25 rfl ?_
      refine a_lconst (pc := 26) 0 dX5_become_26 rfl ?_
      obtain ⟨S4, hS4, hf⟩ := Option.bind_eq_some_iff.mp hf
      refine g_last (pc := 27) dX5_become_27 hS4 ?_
      refine a_iinc (pc := 28) (ls' := [some (.ref a0), none, none, some (.int (l3 + 1))]) (l3 + 1) dX5_become_28 rfl rfl (by decide) rfl ?_
      refine a_goto (pc := 31) 12 dX5_become_31 (by decide) ?_
      exact ih S4 (l3 + 1) hf
set_option maxHeartbeats 4000000 in
theorem sX5_become_0 {l : Launch} {g : gE} {d MC MS' k n : Nat} {a0 : Nat} (hd : 0 ≤ d) (hk : k ≤ MC) (hn : n ≤ MS') {r : Unit × AH} {S : AH} {l1 : Int32} {l2 : Int32} (hf : X5_become_0 S a0 l1 l2 = some r) : AW l g d RX5 cX5_become 4 "become" MC MS' (Qr (none) r.2) k n 0 [some (.ref a0), some (.int l1), some (.int l2), none] [] S := by
  unfold X5_become_0 at hf
  refine a_aload_n (pc := 0) dX5_become_0 rfl (isRv_r _) ?_
  refine a_iload_n (pc := 1) dX5_become_1 rfl ?_
  obtain ⟨S1, hS1, hf⟩ := Option.bind_eq_some_iff.mp hf
  refine g_putI (pc := 2) dX5_become_2 fl_X5_15 rfl rfl hS1 ?_
  refine a_aload_n (pc := 5) dX5_become_5 rfl (isRv_r _) ?_
  refine a_iload_n (pc := 6) dX5_become_6 rfl ?_
  obtain ⟨S2, hS2, hf⟩ := Option.bind_eq_some_iff.mp hf
  refine g_putI (pc := 7) dX5_become_7 fl_X5_19 rfl rfl hS2 ?_
  refine a_iconst (pc := 10) 0 dX5_become_10 rfl ?_
  refine a_istore_n (pc := 11) (ls' := [some (.ref a0), some (.int l1), some (.int l2), some (.int 0)]) dX5_become_11 (by decide) rfl ?_
  refine a_sub (sub_k (sub_d (sub_d (sub_k sub_n)))) ?_
  exact sX5_become_12 hd hk hn FU S2 0 hf
set_option maxHeartbeats 4000000 in
theorem mX5_become {l : Launch} {g : gE} {d : Nat} {a0 : Nat} (hd : 0 ≤ d) {r : Unit × AH} {S : AH} {l1 : Int32} {l2 : Int32} (hf : X5_become S a0 l1 l2 = some r) : AM l g d yX5_become cX5_become 4 none 0 0 [.ref a0, .int l1, .int l2] S (Qr (none) r.2) := by
  refine AM.of rfl (by exact Nat.le_of_ble_eq_true rfl) (fun v h' q => by obtain ⟨rfl, -⟩ := q; rfl) (fun ls e => ?_)
  have e2 : aBeg [.ref a0, .int l1, .int l2] 4 = [some (.ref a0), some (.int l1), some (.int l2), none] := rfl
  rw [e2] at e
  subst e
  refine a_sub (sub_k (sub_k (sub_k (sub_k (sub_n))))) ?_
  exact sX5_become_0 hd (Nat.le_refl _) (Nat.le_refl _) (hf)

-- PencilStrikes.tape(III)I
def X7_tape_43 (S : AH) (a0 : Nat) : Option (Int32 × AH) :=
  some ((-2), S)
def X7_tape_0 (S : AH) (a0 : Nat) (l1 : Int32) (l2 : Int32) (l3 : Int32) : Option (Int32 × AH) :=
  (cO S a0 7 (X7_tapeOf S a0 l1)).bind fun r1 => prp r1 fun zq2 zq2S =>
  ifn zq2 (
    some ((-1), zq2S)) fun a3 =>
  if l2 = (-1) then
    (cO zq2S a3 5 (X5_become zq2S a3 (-1) 0)).bind fun r9 =>
    some (1, r9.2)
  else
    if l2 < 0 then
      X7_tape_43 zq2S a0
    else
      if 4 < l2 then
        X7_tape_43 zq2S a0
      else
        if l3 ≤ 60 then
          if 0 ≤ l3 then
            (cO zq2S a3 5 (X5_become zq2S a3 l2 l3)).bind fun r4 =>
            some (1, r4.2)
          else
            some ((-14), zq2S)
        else
          X7_tape_43 zq2S a0
def X7_tape (S : AH) (a0 : Nat) (l1 : Int32) (l2 : Int32) (l3 : Int32) : Option (Int32 × AH) := X7_tape_0 S a0 l1 l2 l3
set_option maxHeartbeats 4000000 in
theorem sX7_tape_43 {l : Launch} {g : gE} {d MC MS' k n : Nat} {a0 : Nat} (hd : 1 ≤ d) (hk : k ≤ MC) (hn : n ≤ MS') {r : Int32 × AH} {S : AH} (hf : X7_tape_43 S a0 = some r) : AW l g d RX7 cX7_tape 5 "tape" MC MS' (Qr (some (.int r.1)) r.2) k n 43 [none, none, none, none, none] [] S := by
  unfold X7_tape_43 at hf
  refine a_bipush (pc := 43) (-2) dX7_tape_43 rfl ?_
  have hf := Option.some.inj hf
  subst hf
  exact a_ireturn (pc := 45) dX7_tape_45 hk hn ⟨rfl, rfl⟩
set_option maxHeartbeats 4000000 in
theorem sX7_tape_0 {l : Launch} {g : gE} {d MC MS' k n : Nat} {a0 : Nat} (hd : 1 ≤ d) (hk : k ≤ MC) (hn : n ≤ MS') {r : Int32 × AH} {S : AH} {l1 : Int32} {l2 : Int32} {l3 : Int32} (hf : X7_tape_0 S a0 l1 l2 l3 = some r) : AW l g d RX7 cX7_tape 5 "tape" MC MS' (Qr (some (.int r.1)) r.2) k n 0 [some (.ref a0), some (.int l1), some (.int l2), some (.int l3), none] [] S := by
  unfold X7_tape_0 at hf
  refine a_aload_n (pc := 0) dX7_tape_0 rfl (isRv_r _) ?_
  refine a_iload_n (pc := 1) dX7_tape_1 rfl ?_
  obtain ⟨r1, hr1, hf⟩ := Option.bind_eq_some_iff.mp hf
  obtain ⟨zq2, zq2S⟩ := r1
  have hf := (prp_of _ _ _).symm.trans hf
  obtain ⟨hor1, hr1⟩ := cO_of hr1
  refine g_call (pc := 2) (mc := 0) (ms := 0) (va_rf zq2) [.int l1] [] dX7_tape_2 ml_X7_177 mv_X7_tapeOf hor1 (by decide) rfl rfl (by omega) (mX7_tapeOf (by omega) hr1) rfl (Nat.le_of_ble_eq_true rfl) hk hn ?_
  refine a_astore (pc := 5) (ls' := [some (.ref a0), some (.int l1), some (.int l2), some (.int l3), some (va_rf zq2)]) dX7_tape_5 (by decide) (isRv_rf _) rfl ?_
  refine a_aload (pc := 7) dX7_tape_7 rfl (isRv_rf _) ?_
  cases zq2 with
  | none =>
    have hf := (ifn_none _ _).symm.trans hf
    refine a_ifnonnullN (pc := 9) dX7_tape_9 ?_
    refine a_iconst (pc := 12) (-1) dX7_tape_12 rfl ?_
    have hf := Option.some.inj hf
    subst hf
    exact a_ireturn (pc := 13) dX7_tape_13 hk hn ⟨rfl, rfl⟩
  | some a3 =>
    have hf := (ifn_some _ _ _).symm.trans hf
    refine a_ifnonnull (pc := 9) 14 dX7_tape_9 (by decide) ?_
    refine a_iload_n (pc := 14) dX7_tape_14 rfl ?_
    refine a_iconst (pc := 15) (-1) dX7_tape_15 rfl ?_
    refine a_icmp_ne (pc := 16) 28 dX7_tape_16 (by decide) (fun c10 => ?_) (fun c10 => ?_)
    · have hf := (if_neg c10).symm.trans hf
      refine a_iload_n (pc := 28) dX7_tape_28 rfl ?_
      refine a_if_lt (pc := 29) 43 dX7_tape_29 (by decide) (fun c8 => ?_) (fun c8 => ?_)
      · have hf := (if_pos c8).symm.trans hf
        refine a_sub (sub_d (sub_d (sub_d (sub_d (sub_d sub_n))))) ?_
        exact sX7_tape_43 hd hk hn hf
      · have hf := (if_neg c8).symm.trans hf
        refine a_iload_n (pc := 32) dX7_tape_32 rfl ?_
        refine a_iconst (pc := 33) 4 dX7_tape_33 rfl ?_
        refine a_icmp_gt (pc := 34) 43 dX7_tape_34 (by decide) (fun c7 => ?_) (fun c7 => ?_)
        · have hf := (if_pos c7).symm.trans hf
          refine a_sub (sub_d (sub_d (sub_d (sub_d (sub_d sub_n))))) ?_
          exact sX7_tape_43 hd hk hn hf
        · have hf := (if_neg c7).symm.trans hf
          refine a_iload_n (pc := 37) dX7_tape_37 rfl ?_
          refine a_bipush (pc := 38) 60 dX7_tape_38 rfl ?_
          refine a_icmp_le (pc := 40) 46 dX7_tape_40 (by decide) (fun c6 => ?_) (fun c6 => ?_)
          · have hf := (if_pos c6).symm.trans hf
            refine a_iload_n (pc := 46) dX7_tape_46 rfl ?_
            refine a_if_ge (pc := 47) 53 dX7_tape_47 (by decide) (fun c5 => ?_) (fun c5 => ?_)
            · have hf := (if_pos c5).symm.trans hf
              refine a_aload (pc := 53) dX7_tape_53 rfl (isRv_r _) ?_
              refine a_iload_n (pc := 55) dX7_tape_55 rfl ?_
              refine a_iload_n (pc := 56) dX7_tape_56 rfl ?_
              obtain ⟨r4, hr4, hf⟩ := Option.bind_eq_some_iff.mp hf
              obtain ⟨hor4, hr4⟩ := cO_of hr4
              refine g_callv (pc := 57) (mc := 0) (ms := 0) [.int l2, .int l3] [] dX7_tape_57 ml_X7_205 mv_X5_become hor4 (by decide) rfl rfl (by omega) (mX5_become (by omega) hr4) rfl (Nat.le_of_ble_eq_true rfl) hk hn ?_
              refine a_iconst (pc := 60) 1 dX7_tape_60 rfl ?_
              have hf := Option.some.inj hf
              subst hf
              exact a_ireturn (pc := 61) dX7_tape_61 hk hn ⟨rfl, rfl⟩
            · have hf := (if_neg c5).symm.trans hf
              refine a_bipush (pc := 50) (-14) dX7_tape_50 rfl ?_
              have hf := Option.some.inj hf
              subst hf
              exact a_ireturn (pc := 52) dX7_tape_52 hk hn ⟨rfl, rfl⟩
          · have hf := (if_neg c6).symm.trans hf
            refine a_sub (sub_d (sub_d (sub_d (sub_d (sub_d sub_n))))) ?_
            exact sX7_tape_43 hd hk hn hf
    · have hf := (if_pos c10).symm.trans hf
      refine a_aload (pc := 19) dX7_tape_19 rfl (isRv_r _) ?_
      refine a_iconst (pc := 21) (-1) dX7_tape_21 rfl ?_
      refine a_iconst (pc := 22) 0 dX7_tape_22 rfl ?_
      obtain ⟨r9, hr9, hf⟩ := Option.bind_eq_some_iff.mp hf
      obtain ⟨hor9, hr9⟩ := cO_of hr9
      refine g_callv (pc := 23) (mc := 0) (ms := 0) [.int (-1), .int 0] [] dX7_tape_23 ml_X7_205 mv_X5_become hor9 (by decide) rfl rfl (by omega) (mX5_become (by omega) hr9) rfl (Nat.le_of_ble_eq_true rfl) hk hn ?_
      refine a_iconst (pc := 26) 1 dX7_tape_26 rfl ?_
      have hf := Option.some.inj hf
      subst hf
      exact a_ireturn (pc := 27) dX7_tape_27 hk hn ⟨rfl, rfl⟩
set_option maxHeartbeats 4000000 in
theorem mX7_tape {l : Launch} {g : gE} {d : Nat} {a0 : Nat} (hd : 1 ≤ d) {r : Int32 × AH} {S : AH} {l1 : Int32} {l2 : Int32} {l3 : Int32} (hf : X7_tape S a0 l1 l2 l3 = some r) : AM l g d yX7_tape cX7_tape 5 (some .int) 0 0 [.ref a0, .int l1, .int l2, .int l3] S (Qr (some (.int r.1)) r.2) := by
  refine AM.of rfl (by exact Nat.le_of_ble_eq_true rfl) (fun v h' q => by obtain ⟨rfl, -⟩ := q; exact ⟨_, rfl, rfl⟩) (fun ls e => ?_)
  have e2 : aBeg [.ref a0, .int l1, .int l2, .int l3] 5 = [some (.ref a0), some (.int l1), some (.int l2), some (.int l3), none] := rfl
  rw [e2] at e
  subst e
  refine a_sub (sub_k (sub_k (sub_k (sub_k (sub_k (sub_n)))))) ?_
  exact sX7_tape_0 hd (Nat.le_refl _) (Nat.le_refl _) (hf)

-- PencilStrikes$Tape.asItem(J)J
def X5_asItem_63 (S : AH) (a0 : Nat) (s0 : Int64) : Option (Int64 × AH) :=
  some (s0, S)
def X5_asItem_0 (S : AH) (a0 : Nat) (l1 : Int64) : Option (Int64 × AH) :=
  (gI S a0 5 1).bind fun x1 =>
  if x1 = 0 then
    some (((((((l1).toInt32)).toInt8.toInt32)).toInt64), S)
  else
    if x1 = 1 then
      some (((((((l1).toInt32)).toInt16.toInt32)).toInt64), S)
    else
      if x1 = 2 then
        some (((((l1).toInt32)).toInt64), S)
      else
        if x1 = 3 then
          some (l1, S)
        else
          if (lg_cmp l1 (0 : Int64)) = 0 then
            X5_asItem_63 S a0 (0 : Int64)
          else
            X5_asItem_63 S a0 (1 : Int64)
def X5_asItem (S : AH) (a0 : Nat) (l1 : Int64) : Option (Int64 × AH) := X5_asItem_0 S a0 l1
set_option maxHeartbeats 4000000 in
theorem sX5_asItem_63 {l : Launch} {g : gE} {d MC MS' k n : Nat} {a0 : Nat} (hd : 0 ≤ d) (hk : k ≤ MC) (hn : n ≤ MS') {r : Int64 × AH} {S : AH} {s0 : Int64} (hf : X5_asItem_63 S a0 s0 = some r) : AW l g d RX5 cX5_asItem 3 "asItem" MC MS' (Qr (some (.long r.1)) r.2) k n 63 [none, none, none] [.long s0] S := by
  unfold X5_asItem_63 at hf
  have hf := Option.some.inj hf
  subst hf
  exact a_lreturn (pc := 63) dX5_asItem_63 hk hn ⟨rfl, rfl⟩
set_option maxHeartbeats 4000000 in
theorem sX5_asItem_0 {l : Launch} {g : gE} {d MC MS' k n : Nat} {a0 : Nat} (hd : 0 ≤ d) (hk : k ≤ MC) (hn : n ≤ MS') {r : Int64 × AH} {S : AH} {l1 : Int64} (hf : X5_asItem_0 S a0 l1 = some r) : AW l g d RX5 cX5_asItem 3 "asItem" MC MS' (Qr (some (.long r.1)) r.2) k n 0 [some (.ref a0), some (.long l1), none] [] S := by
  unfold X5_asItem_0 at hf
  refine a_aload_n (pc := 0) dX5_asItem_0 rfl (isRv_r _) ?_
  obtain ⟨x1, hx1, hf⟩ := Option.bind_eq_some_iff.mp hf
  refine g_getI (pc := 1) dX5_asItem_1 fl_X5_15 hx1 ?_
  by_cases c3_0 : x1 = 0
  · have hf := (if_pos c3_0).symm.trans hf
    refine a_tableIn (pc := 4) 36 dX5_asItem_4 (by rw [c3_0]; decide) (by rw [c3_0]; decide) (off := 32) (by rw [c3_0]; rfl) (by decide) ?_
    refine a_lload_n (pc := 36) dX5_asItem_36 rfl ?_
    refine a_l2i (pc := 37) dX5_asItem_37 ?_
    refine a_i2b (pc := 38) dX5_asItem_38 ?_
    refine a_i2l (pc := 39) dX5_asItem_39 ?_
    have hf := Option.some.inj hf
    subst hf
    exact a_lreturn (pc := 40) dX5_asItem_40 hk hn ⟨rfl, rfl⟩
  · have hf := (if_neg c3_0).symm.trans hf
    by_cases c3_1 : x1 = 1
    · have hf := (if_pos c3_1).symm.trans hf
      refine a_tableIn (pc := 4) 41 dX5_asItem_4 (by rw [c3_1]; decide) (by rw [c3_1]; decide) (off := 37) (by rw [c3_1]; rfl) (by decide) ?_
      refine a_lload_n (pc := 41) dX5_asItem_41 rfl ?_
      refine a_l2i (pc := 42) dX5_asItem_42 ?_
      refine a_i2s (pc := 43) dX5_asItem_43 ?_
      refine a_i2l (pc := 44) dX5_asItem_44 ?_
      have hf := Option.some.inj hf
      subst hf
      exact a_lreturn (pc := 45) dX5_asItem_45 hk hn ⟨rfl, rfl⟩
    · have hf := (if_neg c3_1).symm.trans hf
      by_cases c3_2 : x1 = 2
      · have hf := (if_pos c3_2).symm.trans hf
        refine a_tableIn (pc := 4) 46 dX5_asItem_4 (by rw [c3_2]; decide) (by rw [c3_2]; decide) (off := 42) (by rw [c3_2]; rfl) (by decide) ?_
        refine a_lload_n (pc := 46) dX5_asItem_46 rfl ?_
        refine a_l2i (pc := 47) dX5_asItem_47 ?_
        refine a_i2l (pc := 48) dX5_asItem_48 ?_
        have hf := Option.some.inj hf
        subst hf
        exact a_lreturn (pc := 49) dX5_asItem_49 hk hn ⟨rfl, rfl⟩
      · have hf := (if_neg c3_2).symm.trans hf
        by_cases c3_3 : x1 = 3
        · have hf := (if_pos c3_3).symm.trans hf
          refine a_tableIn (pc := 4) 50 dX5_asItem_4 (by rw [c3_3]; decide) (by rw [c3_3]; decide) (off := 46) (by rw [c3_3]; rfl) (by decide) ?_
          refine a_lload_n (pc := 50) dX5_asItem_50 rfl ?_
          have hf := Option.some.inj hf
          subst hf
          exact a_lreturn (pc := 51) dX5_asItem_51 hk hn ⟨rfl, rfl⟩
        · have hf := (if_neg c3_3).symm.trans hf
          have hkd : AW l g d RX5 cX5_asItem 3 "asItem" MC MS' (Qr (some (.long r.1)) r.2) k n 52 [some (.ref a0), some (.long l1), none] [] S := by
            refine a_lload_n (pc := 52) dX5_asItem_52 rfl ?_
            refine a_lconst (pc := 53) 0 dX5_asItem_53 rfl ?_
            refine a_lcmp (pc := 54) dX5_asItem_54 ?_
            refine a_if_eq (pc := 55) 62 dX5_asItem_55 (by decide) (fun c2 => ?_) (fun c2 => ?_)
            · have hf := (if_pos c2).symm.trans hf
              refine a_lconst (pc := 62) 0 dX5_asItem_62 rfl ?_
              refine a_sub (sub_d (sub_d (sub_k sub_n))) ?_
              exact sX5_asItem_63 hd hk hn hf
            · have hf := (if_neg c2).symm.trans hf
              refine a_lconst (pc := 58) 1 dX5_asItem_58 rfl ?_
              refine a_goto (pc := 59) 63 dX5_asItem_59 (by decide) ?_
              refine a_sub (sub_d (sub_d (sub_k sub_n))) ?_
              exact sX5_asItem_63 hd hk hn hf
          by_cases h3l : (x1).toInt < 0
          · exact a_tableOut (pc := 4) 52 dX5_asItem_4 (Or.inl h3l) (by decide) hkd
          by_cases h3h : 3 < (x1).toInt
          · exact a_tableOut (pc := 4) 52 dX5_asItem_4 (Or.inr h3h) (by decide) hkd
          have h3a : (x1).toInt = 0 ∨ (x1).toInt = 1 ∨ (x1).toInt = 2 ∨ (x1).toInt = 3 := by omega
          rcases h3a with h3a | h3a | h3a | h3a
          · exact absurd (Int32.toInt_inj.mp (h3a.trans rfl)) c3_0
          · exact absurd (Int32.toInt_inj.mp (h3a.trans rfl)) c3_1
          · exact absurd (Int32.toInt_inj.mp (h3a.trans rfl)) c3_2
          · exact absurd (Int32.toInt_inj.mp (h3a.trans rfl)) c3_3
set_option maxHeartbeats 4000000 in
theorem mX5_asItem {l : Launch} {g : gE} {d : Nat} {a0 : Nat} (hd : 0 ≤ d) {r : Int64 × AH} {S : AH} {l1 : Int64} (hf : X5_asItem S a0 l1 = some r) : AM l g d yX5_asItem cX5_asItem 3 (some .long) 0 0 [.ref a0, .long l1] S (Qr (some (.long r.1)) r.2) := by
  refine AM.of rfl (by exact Nat.le_of_ble_eq_true rfl) (fun v h' q => by obtain ⟨rfl, -⟩ := q; rfl) (fun ls e => ?_)
  have e2 : aBeg [.ref a0, .long l1] 3 = [some (.ref a0), some (.long l1), none] := rfl
  rw [e2] at e
  subst e
  refine a_sub (sub_k (sub_k (sub_k (sub_n)))) ?_
  exact sX5_asItem_0 hd (Nat.le_refl _) (Nat.le_refl _) (hf)

-- PencilStrikes$Tape.put(IJ)V
def X5_put_32 (S : AH) (a0 : Nat) : Option (Unit × AH) :=
  some ((), S)
def X5_put_0 (S : AH) (a0 : Nat) (l1 : Int32) (l2 : Int64) : Option (Unit × AH) :=
  if l1 < 0 then
    X5_put_32 S a0
  else
    (gI S a0 5 2).bind fun x1 =>
    if x1 ≤ l1 then
      X5_put_32 S a0
    else
      (gQ S a0 5 0).bind fun x2 =>
      (aN S x2).bind fun x3 =>
      if x3 ≤ l1 then
        X5_put_32 S a0
      else
        (gQ S a0 5 0).bind fun x4 =>
        (cO S a0 5 (X5_asItem S a0 l2)).bind fun r5 =>
        (uL r5.2 x4 l1 r5.1).bind fun S6 =>
        X5_put_32 S6 a0
def X5_put (S : AH) (a0 : Nat) (l1 : Int32) (l2 : Int64) : Option (Unit × AH) := X5_put_0 S a0 l1 l2
set_option maxHeartbeats 4000000 in
theorem sX5_put_32 {l : Launch} {g : gE} {d MC MS' k n : Nat} {a0 : Nat} (hd : 1 ≤ d) (hk : k ≤ MC) (hn : n ≤ MS') {r : Unit × AH} {S : AH} (hf : X5_put_32 S a0 = some r) : AW l g d RX5 cX5_put 4 "put" MC MS' (Qr (none) r.2) k n 32 [none, none, none, none] [] S := by
  unfold X5_put_32 at hf
  have hf := Option.some.inj hf
  subst hf
  exact a_return (pc := 32) dX5_put_32 hk hn ⟨rfl, rfl⟩
set_option maxHeartbeats 4000000 in
theorem sX5_put_0 {l : Launch} {g : gE} {d MC MS' k n : Nat} {a0 : Nat} (hd : 1 ≤ d) (hk : k ≤ MC) (hn : n ≤ MS') {r : Unit × AH} {S : AH} {l1 : Int32} {l2 : Int64} (hf : X5_put_0 S a0 l1 l2 = some r) : AW l g d RX5 cX5_put 4 "put" MC MS' (Qr (none) r.2) k n 0 [some (.ref a0), some (.int l1), some (.long l2), none] [] S := by
  unfold X5_put_0 at hf
  refine a_iload_n (pc := 0) dX5_put_0 rfl ?_
  refine a_if_lt (pc := 1) 32 dX5_put_1 (by decide) (fun c9 => ?_) (fun c9 => ?_)
  · have hf := (if_pos c9).symm.trans hf
    refine a_sub (sub_d (sub_d (sub_d (sub_k sub_n)))) ?_
    exact sX5_put_32 hd hk hn hf
  · have hf := (if_neg c9).symm.trans hf
    refine a_iload_n (pc := 4) dX5_put_4 rfl ?_
    refine a_aload_n (pc := 5) dX5_put_5 rfl (isRv_r _) ?_
    obtain ⟨x1, hx1, hf⟩ := Option.bind_eq_some_iff.mp hf
    refine g_getI (pc := 6) dX5_put_6 fl_X5_19 hx1 ?_
    refine a_icmp_ge (pc := 9) 32 dX5_put_9 (by decide) (fun c8 => ?_) (fun c8 => ?_)
    · have hf := (if_pos c8).symm.trans hf
      refine a_sub (sub_d (sub_d (sub_d (sub_k sub_n)))) ?_
      exact sX5_put_32 hd hk hn hf
    · have hf := (if_neg c8).symm.trans hf
      refine a_iload_n (pc := 12) dX5_put_12 rfl ?_
      refine a_aload_n (pc := 13) dX5_put_13 rfl (isRv_r _) ?_
      obtain ⟨x2, hx2, hf⟩ := Option.bind_eq_some_iff.mp hf
      refine g_getQ (pc := 14) dX5_put_14 fl_X5_9 hx2 ?_
      obtain ⟨x3, hx3, hf⟩ := Option.bind_eq_some_iff.mp hf
      refine g_alen (pc := 17) dX5_put_17 hx3 ?_
      refine a_icmp_ge (pc := 18) 32 dX5_put_18 (by decide) (fun c7 => ?_) (fun c7 => ?_)
      · have hf := (if_pos c7).symm.trans hf
        refine a_sub (sub_d (sub_d (sub_d (sub_k sub_n)))) ?_
        exact sX5_put_32 hd hk hn hf
      · have hf := (if_neg c7).symm.trans hf
        refine a_aload_n (pc := 21) dX5_put_21 rfl (isRv_r _) ?_
        obtain ⟨x4, hx4, hf⟩ := Option.bind_eq_some_iff.mp hf
        refine g_getQ (pc := 22) dX5_put_22 fl_X5_9 hx4 ?_
        refine a_iload_n (pc := 25) dX5_put_25 rfl ?_
        refine a_aload_n (pc := 26) dX5_put_26 rfl (isRv_r _) ?_
        refine a_lload_n (pc := 27) dX5_put_27 rfl ?_
        obtain ⟨r5, hr5, hf⟩ := Option.bind_eq_some_iff.mp hf
        obtain ⟨hor5, hr5⟩ := cO_of hr5
        refine g_call (pc := 28) (mc := 0) (ms := 0) (.long r5.1) [.long l2] [.int l1, va_rf x4] dX5_put_28 ml_X5_22 mv_X5_asItem hor5 (by decide) rfl rfl (by omega) (mX5_asItem (by omega) hr5) rfl (by cases x4 <;> exact Nat.le_of_ble_eq_true rfl) hk hn ?_
        obtain ⟨S6, hS6, hf⟩ := Option.bind_eq_some_iff.mp hf
        refine g_last (pc := 31) dX5_put_31 hS6 ?_
        refine a_sub (sub_d (sub_d (sub_d (sub_k sub_n)))) ?_
        exact sX5_put_32 hd hk hn hf
set_option maxHeartbeats 4000000 in
theorem mX5_put {l : Launch} {g : gE} {d : Nat} {a0 : Nat} (hd : 1 ≤ d) {r : Unit × AH} {S : AH} {l1 : Int32} {l2 : Int64} (hf : X5_put S a0 l1 l2 = some r) : AM l g d yX5_put cX5_put 4 none 0 0 [.ref a0, .int l1, .long l2] S (Qr (none) r.2) := by
  refine AM.of rfl (by exact Nat.le_of_ble_eq_true rfl) (fun v h' q => by obtain ⟨rfl, -⟩ := q; rfl) (fun ls e => ?_)
  have e2 : aBeg [.ref a0, .int l1, .long l2] 4 = [some (.ref a0), some (.int l1), some (.long l2), none] := rfl
  rw [e2] at e
  subst e
  refine a_sub (sub_k (sub_k (sub_k (sub_k (sub_n))))) ?_
  exact sX5_put_0 hd (Nat.le_refl _) (Nat.le_refl _) (hf)

-- PencilStrikes.item(IIJ)I
def X7_item_38 (S : AH) (a0 : Nat) : Option (Int32 × AH) :=
  some ((-13), S)
def X7_item_0 (S : AH) (a0 : Nat) (l1 : Int32) (l2 : Int32) (l3 : Int64) : Option (Int32 × AH) :=
  (cO S a0 7 (X7_tapeOf S a0 l1)).bind fun r1 => prp r1 fun zq2 zq2S =>
  ifn zq2 (
    some ((-1), zq2S)) fun a3 =>
  (cO zq2S a3 5 (X5_holds zq2S a3)).bind fun r4 =>
  if r4.1 = 0 then
    some ((-11), r4.2)
  else
    if l2 < 0 then
      X7_item_38 r4.2 a0
    else
      (cO r4.2 a3 5 (X5_size r4.2 a3)).bind fun r5 =>
      if l2 < r5.1 then
        (cO r5.2 a3 5 (X5_put r5.2 a3 l2 l3)).bind fun r6 =>
        some (1, r6.2)
      else
        X7_item_38 r5.2 a0
def X7_item (S : AH) (a0 : Nat) (l1 : Int32) (l2 : Int32) (l3 : Int64) : Option (Int32 × AH) := X7_item_0 S a0 l1 l2 l3
set_option maxHeartbeats 4000000 in
theorem sX7_item_38 {l : Launch} {g : gE} {d MC MS' k n : Nat} {a0 : Nat} (hd : 2 ≤ d) (hk : k ≤ MC) (hn : n ≤ MS') {r : Int32 × AH} {S : AH} (hf : X7_item_38 S a0 = some r) : AW l g d RX7 cX7_item 6 "item" MC MS' (Qr (some (.int r.1)) r.2) k n 38 [none, none, none, none, none, none] [] S := by
  unfold X7_item_38 at hf
  refine a_bipush (pc := 38) (-13) dX7_item_38 rfl ?_
  have hf := Option.some.inj hf
  subst hf
  exact a_ireturn (pc := 40) dX7_item_40 hk hn ⟨rfl, rfl⟩
set_option maxHeartbeats 4000000 in
theorem sX7_item_0 {l : Launch} {g : gE} {d MC MS' k n : Nat} {a0 : Nat} (hd : 2 ≤ d) (hk : k ≤ MC) (hn : n ≤ MS') {r : Int32 × AH} {S : AH} {l1 : Int32} {l2 : Int32} {l3 : Int64} (hf : X7_item_0 S a0 l1 l2 l3 = some r) : AW l g d RX7 cX7_item 6 "item" MC MS' (Qr (some (.int r.1)) r.2) k n 0 [some (.ref a0), some (.int l1), some (.int l2), some (.long l3), none, none] [] S := by
  unfold X7_item_0 at hf
  refine a_aload_n (pc := 0) dX7_item_0 rfl (isRv_r _) ?_
  refine a_iload_n (pc := 1) dX7_item_1 rfl ?_
  obtain ⟨r1, hr1, hf⟩ := Option.bind_eq_some_iff.mp hf
  obtain ⟨zq2, zq2S⟩ := r1
  have hf := (prp_of _ _ _).symm.trans hf
  obtain ⟨hor1, hr1⟩ := cO_of hr1
  refine g_call (pc := 2) (mc := 0) (ms := 0) (va_rf zq2) [.int l1] [] dX7_item_2 ml_X7_177 mv_X7_tapeOf hor1 (by decide) rfl rfl (by omega) (mX7_tapeOf (by omega) hr1) rfl (Nat.le_of_ble_eq_true rfl) hk hn ?_
  refine a_astore (pc := 5) (ls' := [some (.ref a0), some (.int l1), some (.int l2), some (.long l3), none, some (va_rf zq2)]) dX7_item_5 (by decide) (isRv_rf _) rfl ?_
  refine a_aload (pc := 7) dX7_item_7 rfl (isRv_rf _) ?_
  cases zq2 with
  | none =>
    have hf := (ifn_none _ _).symm.trans hf
    refine a_ifnonnullN (pc := 9) dX7_item_9 ?_
    refine a_iconst (pc := 12) (-1) dX7_item_12 rfl ?_
    have hf := Option.some.inj hf
    subst hf
    exact a_ireturn (pc := 13) dX7_item_13 hk hn ⟨rfl, rfl⟩
  | some a3 =>
    have hf := (ifn_some _ _ _).symm.trans hf
    refine a_ifnonnull (pc := 9) 14 dX7_item_9 (by decide) ?_
    refine a_aload (pc := 14) dX7_item_14 rfl (isRv_r _) ?_
    obtain ⟨r4, hr4, hf⟩ := Option.bind_eq_some_iff.mp hf
    obtain ⟨hor4, hr4⟩ := cO_of hr4
    refine g_call (pc := 16) (mc := 0) (ms := 0) (.int r4.1) [] [] dX7_item_16 ml_X7_181 mv_X5_holds hor4 (by decide) rfl rfl (by omega) (mX5_holds (by omega) hr4) rfl (Nat.le_of_ble_eq_true rfl) hk hn ?_
    refine a_if_ne (pc := 19) 25 dX7_item_19 (by decide) (fun c9 => ?_) (fun c9 => ?_)
    · have hf := (if_neg c9).symm.trans hf
      refine a_iload_n (pc := 25) dX7_item_25 rfl ?_
      refine a_if_lt (pc := 26) 38 dX7_item_26 (by decide) (fun c8 => ?_) (fun c8 => ?_)
      · have hf := (if_pos c8).symm.trans hf
        refine a_sub (sub_d (sub_d (sub_d (sub_d (sub_k (sub_d sub_n)))))) ?_
        exact sX7_item_38 hd hk hn hf
      · have hf := (if_neg c8).symm.trans hf
        refine a_iload_n (pc := 29) dX7_item_29 rfl ?_
        refine a_aload (pc := 30) dX7_item_30 rfl (isRv_r _) ?_
        obtain ⟨r5, hr5, hf⟩ := Option.bind_eq_some_iff.mp hf
        obtain ⟨hor5, hr5⟩ := cO_of hr5
        refine g_call (pc := 32) (mc := 0) (ms := 0) (.int r5.1) [] [.int l2] dX7_item_32 ml_X7_188 mv_X5_size hor5 (by decide) rfl rfl (by omega) (mX5_size (by omega) hr5) rfl (Nat.le_of_ble_eq_true rfl) hk hn ?_
        refine a_icmp_lt (pc := 35) 41 dX7_item_35 (by decide) (fun c7 => ?_) (fun c7 => ?_)
        · have hf := (if_pos c7).symm.trans hf
          refine a_aload (pc := 41) dX7_item_41 rfl (isRv_r _) ?_
          refine a_iload_n (pc := 43) dX7_item_43 rfl ?_
          refine a_lload_n (pc := 44) dX7_item_44 rfl ?_
          obtain ⟨r6, hr6, hf⟩ := Option.bind_eq_some_iff.mp hf
          obtain ⟨hor6, hr6⟩ := cO_of hr6
          refine g_callv (pc := 45) (mc := 0) (ms := 0) [.int l2, .long l3] [] dX7_item_45 ml_X7_209 mv_X5_put hor6 (by decide) rfl rfl (by omega) (mX5_put (by omega) hr6) rfl (Nat.le_of_ble_eq_true rfl) hk hn ?_
          refine a_iconst (pc := 48) 1 dX7_item_48 rfl ?_
          have hf := Option.some.inj hf
          subst hf
          exact a_ireturn (pc := 49) dX7_item_49 hk hn ⟨rfl, rfl⟩
        · have hf := (if_neg c7).symm.trans hf
          refine a_sub (sub_d (sub_d (sub_d (sub_d (sub_k (sub_d sub_n)))))) ?_
          exact sX7_item_38 hd hk hn hf
    · have hf := (if_pos c9).symm.trans hf
      refine a_bipush (pc := 22) (-11) dX7_item_22 rfl ?_
      have hf := Option.some.inj hf
      subst hf
      exact a_ireturn (pc := 24) dX7_item_24 hk hn ⟨rfl, rfl⟩
set_option maxHeartbeats 4000000 in
theorem mX7_item {l : Launch} {g : gE} {d : Nat} {a0 : Nat} (hd : 2 ≤ d) {r : Int32 × AH} {S : AH} {l1 : Int32} {l2 : Int32} {l3 : Int64} (hf : X7_item S a0 l1 l2 l3 = some r) : AM l g d yX7_item cX7_item 6 (some .int) 0 0 [.ref a0, .int l1, .int l2, .long l3] S (Qr (some (.int r.1)) r.2) := by
  refine AM.of rfl (by exact Nat.le_of_ble_eq_true rfl) (fun v h' q => by obtain ⟨rfl, -⟩ := q; exact ⟨_, rfl, rfl⟩) (fun ls e => ?_)
  have e2 : aBeg [.ref a0, .int l1, .int l2, .long l3] 6 = [some (.ref a0), some (.int l1), some (.int l2), some (.long l3), none, none] := rfl
  rw [e2] at e
  subst e
  refine a_sub (sub_k (sub_k (sub_k (sub_k (sub_k (sub_k (sub_n))))))) ?_
  exact sX7_item_0 hd (Nat.le_refl _) (Nat.le_refl _) (hf)

-- PencilStrikes.read(II)J
def X7_read_22 (S : AH) (a0 : Nat) : Option (Int64 × AH) :=
  some ((-9223372036854775808 : Int64), S)
def X7_read_0 (S : AH) (a0 : Nat) (l1 : Int32) (l2 : Int32) : Option (Int64 × AH) :=
  (cO S a0 7 (X7_tapeOf S a0 l1)).bind fun r1 => prp r1 fun zq2 zq2S =>
  ifn zq2 (
    X7_read_22 zq2S a0) fun a3 =>
  if l2 < 0 then
    X7_read_22 zq2S a0
  else
    (cO zq2S a3 5 (X5_size zq2S a3)).bind fun r4 =>
    if l2 < r4.1 then
      (cO r4.2 a3 5 (X5_at r4.2 a3 l2)).bind fun r5 =>
      some (r5.1, r5.2)
    else
      X7_read_22 r4.2 a0
def X7_read (S : AH) (a0 : Nat) (l1 : Int32) (l2 : Int32) : Option (Int64 × AH) := X7_read_0 S a0 l1 l2
set_option maxHeartbeats 4000000 in
theorem sX7_read_22 {l : Launch} {g : gE} {d MC MS' k n : Nat} {a0 : Nat} (hd : 1 ≤ d) (hk : k ≤ MC) (hn : n ≤ MS') {r : Int64 × AH} {S : AH} (hf : X7_read_22 S a0 = some r) : AW l g d RX7 cX7_read 4 "read" MC MS' (Qr (some (.long r.1)) r.2) k n 22 [none, none, none, none] [] S := by
  unfold X7_read_22 at hf
  refine a_ldc2 (pc := 22) (-9223372036854775808 : Int64) dX7_read_22 kc_X7_107 ?_
  have hf := Option.some.inj hf
  subst hf
  exact a_lreturn (pc := 25) dX7_read_25 hk hn ⟨rfl, rfl⟩
set_option maxHeartbeats 4000000 in
theorem sX7_read_0 {l : Launch} {g : gE} {d MC MS' k n : Nat} {a0 : Nat} (hd : 1 ≤ d) (hk : k ≤ MC) (hn : n ≤ MS') {r : Int64 × AH} {S : AH} {l1 : Int32} {l2 : Int32} (hf : X7_read_0 S a0 l1 l2 = some r) : AW l g d RX7 cX7_read 4 "read" MC MS' (Qr (some (.long r.1)) r.2) k n 0 [some (.ref a0), some (.int l1), some (.int l2), none] [] S := by
  unfold X7_read_0 at hf
  refine a_aload_n (pc := 0) dX7_read_0 rfl (isRv_r _) ?_
  refine a_iload_n (pc := 1) dX7_read_1 rfl ?_
  obtain ⟨r1, hr1, hf⟩ := Option.bind_eq_some_iff.mp hf
  obtain ⟨zq2, zq2S⟩ := r1
  have hf := (prp_of _ _ _).symm.trans hf
  obtain ⟨hor1, hr1⟩ := cO_of hr1
  refine g_call (pc := 2) (mc := 0) (ms := 0) (va_rf zq2) [.int l1] [] dX7_read_2 ml_X7_177 mv_X7_tapeOf hor1 (by decide) rfl rfl (by omega) (mX7_tapeOf (by omega) hr1) rfl (Nat.le_of_ble_eq_true rfl) hk hn ?_
  refine a_astore_n (pc := 5) (ls' := [some (.ref a0), some (.int l1), some (.int l2), some (va_rf zq2)]) dX7_read_5 (by decide) (isRv_rf _) rfl ?_
  refine a_aload_n (pc := 6) dX7_read_6 rfl (isRv_rf _) ?_
  cases zq2 with
  | none =>
    have hf := (ifn_none _ _).symm.trans hf
    refine a_ifnullN (pc := 7) 22 dX7_read_7 (by decide) ?_
    refine a_sub (sub_d (sub_d (sub_d (sub_d sub_n)))) ?_
    exact sX7_read_22 hd hk hn hf
  | some a3 =>
    have hf := (ifn_some _ _ _).symm.trans hf
    refine a_ifnull (pc := 7) dX7_read_7 ?_
    refine a_iload_n (pc := 10) dX7_read_10 rfl ?_
    refine a_if_lt (pc := 11) 22 dX7_read_11 (by decide) (fun c7 => ?_) (fun c7 => ?_)
    · have hf := (if_pos c7).symm.trans hf
      refine a_sub (sub_d (sub_d (sub_d (sub_d sub_n)))) ?_
      exact sX7_read_22 hd hk hn hf
    · have hf := (if_neg c7).symm.trans hf
      refine a_iload_n (pc := 14) dX7_read_14 rfl ?_
      refine a_aload_n (pc := 15) dX7_read_15 rfl (isRv_r _) ?_
      obtain ⟨r4, hr4, hf⟩ := Option.bind_eq_some_iff.mp hf
      obtain ⟨hor4, hr4⟩ := cO_of hr4
      refine g_call (pc := 16) (mc := 0) (ms := 0) (.int r4.1) [] [.int l2] dX7_read_16 ml_X7_188 mv_X5_size hor4 (by decide) rfl rfl (by omega) (mX5_size (by omega) hr4) rfl (Nat.le_of_ble_eq_true rfl) hk hn ?_
      refine a_icmp_lt (pc := 19) 26 dX7_read_19 (by decide) (fun c6 => ?_) (fun c6 => ?_)
      · have hf := (if_pos c6).symm.trans hf
        refine a_aload_n (pc := 26) dX7_read_26 rfl (isRv_r _) ?_
        refine a_iload_n (pc := 27) dX7_read_27 rfl ?_
        obtain ⟨r5, hr5, hf⟩ := Option.bind_eq_some_iff.mp hf
        obtain ⟨hor5, hr5⟩ := cO_of hr5
        refine g_call (pc := 28) (mc := 0) (ms := 0) (.long r5.1) [.int l2] [] dX7_read_28 ml_X7_189 mv_X5_at hor5 (by decide) rfl rfl (by omega) (mX5_at (by omega) hr5) rfl (Nat.le_of_ble_eq_true rfl) hk hn ?_
        have hf := Option.some.inj hf
        subst hf
        exact a_lreturn (pc := 31) dX7_read_31 hk hn ⟨rfl, rfl⟩
      · have hf := (if_neg c6).symm.trans hf
        refine a_sub (sub_d (sub_d (sub_d (sub_d sub_n)))) ?_
        exact sX7_read_22 hd hk hn hf
set_option maxHeartbeats 4000000 in
theorem mX7_read {l : Launch} {g : gE} {d : Nat} {a0 : Nat} (hd : 1 ≤ d) {r : Int64 × AH} {S : AH} {l1 : Int32} {l2 : Int32} (hf : X7_read S a0 l1 l2 = some r) : AM l g d yX7_read cX7_read 4 (some .long) 0 0 [.ref a0, .int l1, .int l2] S (Qr (some (.long r.1)) r.2) := by
  refine AM.of rfl (by exact Nat.le_of_ble_eq_true rfl) (fun v h' q => by obtain ⟨rfl, -⟩ := q; rfl) (fun ls e => ?_)
  have e2 : aBeg [.ref a0, .int l1, .int l2] 4 = [some (.ref a0), some (.int l1), some (.int l2), none] := rfl
  rw [e2] at e
  subst e
  refine a_sub (sub_k (sub_k (sub_k (sub_k (sub_n))))) ?_
  exact sX7_read_0 hd (Nat.le_refl _) (Nat.le_refl _) (hf)

-- PencilStrikes$Tape.copyFrom(LPencilStrikes$Tape;III)V
def X5_copyFrom_64 (S : AH) (a0 : Nat) : Option (Unit × AH) :=
  some ((), S)
def X5_copyFrom_42 (S : AH) (a0 : Nat) (s0 : Int32) (l1 : Option Nat) (l2 : Int32) (l3 : Int32) (l4 : Int32) : Option (Unit × AH) :=
  if s0 = 0 then
    X5_copyFrom_64 S a0
  else
    (l1).bind fun a1 =>
    (gQ S a1 5 0).bind fun x2 =>
    (gQ S a0 5 0).bind fun x3 =>
    (cpL S x2 l2 x3 l3 l4).bind fun S4 =>
    X5_copyFrom_64 S4 a0
def X5_copyFrom_41 (S : AH) (a0 : Nat) (l1 : Option Nat) (l2 : Int32) (l3 : Int32) (l4 : Int32) : Option (Unit × AH) :=
  X5_copyFrom_42 S a0 0 l1 l2 l3 l4
def X5_copyFrom_0 (S : AH) (a0 : Nat) (l1 : Option Nat) (l2 : Int32) (l3 : Int32) (l4 : Int32) : Option (Unit × AH) :=
  if l4 < 0 then
    X5_copyFrom_41 S a0 l1 l2 l3 l4
  else
    if l2 < 0 then
      X5_copyFrom_41 S a0 l1 l2 l3 l4
    else
      if l3 < 0 then
        X5_copyFrom_41 S a0 l1 l2 l3 l4
      else
        (l1).bind fun a1 =>
        (gQ S a1 5 0).bind fun x2 =>
        (aN S x2).bind fun x3 =>
        if (x3 - l2) < l4 then
          X5_copyFrom_41 S a0 (some a1) l2 l3 l4
        else
          (gQ S a0 5 0).bind fun x4 =>
          (aN S x4).bind fun x5 =>
          if (x5 - l3) < l4 then
            X5_copyFrom_41 S a0 (some a1) l2 l3 l4
          else
            X5_copyFrom_42 S a0 1 (some a1) l2 l3 l4
def X5_copyFrom (S : AH) (a0 : Nat) (l1 : Option Nat) (l2 : Int32) (l3 : Int32) (l4 : Int32) : Option (Unit × AH) := X5_copyFrom_0 S a0 l1 l2 l3 l4
set_option maxHeartbeats 4000000 in
theorem sX5_copyFrom_64 {l : Launch} {g : gE} {d MC MS' k n : Nat} {a0 : Nat} (hd : 0 ≤ d) (hk : k ≤ MC) (hn : n ≤ MS') {r : Unit × AH} {S : AH} (hf : X5_copyFrom_64 S a0 = some r) : AW l g d RX5 cX5_copyFrom 6 "copyFrom" MC MS' (Qr (none) r.2) k n 64 [none, none, none, none, none, none] [] S := by
  unfold X5_copyFrom_64 at hf
  have hf := Option.some.inj hf
  subst hf
  exact a_return (pc := 64) dX5_copyFrom_64 hk hn ⟨rfl, rfl⟩
set_option maxHeartbeats 4000000 in
theorem sX5_copyFrom_42 {l : Launch} {g : gE} {d MC MS' k n : Nat} {a0 : Nat} (hd : 0 ≤ d) (hk : k ≤ MC) (hn : n ≤ MS') {r : Unit × AH} {S : AH} {s0 : Int32} {l1 : Option Nat} {l2 : Int32} {l3 : Int32} {l4 : Int32} (hf : X5_copyFrom_42 S a0 s0 l1 l2 l3 l4 = some r) : AW l g d RX5 cX5_copyFrom 6 "copyFrom" MC MS' (Qr (none) r.2) k n 42 [some (.ref a0), some (va_rf l1), some (.int l2), some (.int l3), some (.int l4), none] [.int s0] S := by
  unfold X5_copyFrom_42 at hf
  refine a_istore (pc := 42) (ls' := [some (.ref a0), some (va_rf l1), some (.int l2), some (.int l3), some (.int l4), some (.int s0)]) dX5_copyFrom_42 (by decide) rfl ?_
  refine a_iload (pc := 44) dX5_copyFrom_44 rfl ?_
  refine a_if_eq (pc := 46) 64 dX5_copyFrom_46 (by decide) (fun c5 => ?_) (fun c5 => ?_)
  · have hf := (if_pos c5).symm.trans hf
    refine a_sub (sub_d (sub_d (sub_d (sub_d (sub_d (sub_d sub_n)))))) ?_
    exact sX5_copyFrom_64 hd hk hn hf
  · have hf := (if_neg c5).symm.trans hf
    refine a_aload_n (pc := 49) dX5_copyFrom_49 rfl (isRv_rf _) ?_
    obtain ⟨a1, ha1, hf⟩ := Option.bind_eq_some_iff.mp hf
    rw [ha1]
    obtain ⟨x2, hx2, hf⟩ := Option.bind_eq_some_iff.mp hf
    refine g_getQ (pc := 50) dX5_copyFrom_50 fl_X5_9 hx2 ?_
    refine a_iload_n (pc := 53) dX5_copyFrom_53 rfl ?_
    refine a_aload_n (pc := 54) dX5_copyFrom_54 rfl (isRv_r _) ?_
    obtain ⟨x3, hx3, hf⟩ := Option.bind_eq_some_iff.mp hf
    refine g_getQ (pc := 55) dX5_copyFrom_55 fl_X5_9 hx3 ?_
    refine a_iload_n (pc := 58) dX5_copyFrom_58 rfl ?_
    refine a_iload (pc := 59) dX5_copyFrom_59 rfl ?_
    obtain ⟨S4, hS4, hf⟩ := Option.bind_eq_some_iff.mp hf
    refine g_copyl (pc := 61) dX5_copyFrom_61 ml_X5_26 (by omega) (by decide) hS4 ?_
    refine a_sub (sub_d (sub_d (sub_d (sub_d (sub_d (sub_d sub_n)))))) ?_
    exact sX5_copyFrom_64 hd hk hn hf
set_option maxHeartbeats 4000000 in
theorem sX5_copyFrom_41 {l : Launch} {g : gE} {d MC MS' k n : Nat} {a0 : Nat} (hd : 0 ≤ d) (hk : k ≤ MC) (hn : n ≤ MS') {r : Unit × AH} {S : AH} {l1 : Option Nat} {l2 : Int32} {l3 : Int32} {l4 : Int32} (hf : X5_copyFrom_41 S a0 l1 l2 l3 l4 = some r) : AW l g d RX5 cX5_copyFrom 6 "copyFrom" MC MS' (Qr (none) r.2) k n 41 [some (.ref a0), some (va_rf l1), some (.int l2), some (.int l3), some (.int l4), none] [] S := by
  unfold X5_copyFrom_41 at hf
  refine a_iconst (pc := 41) 0 dX5_copyFrom_41 rfl ?_
  exact sX5_copyFrom_42 hd hk hn hf
set_option maxHeartbeats 4000000 in
theorem sX5_copyFrom_0 {l : Launch} {g : gE} {d MC MS' k n : Nat} {a0 : Nat} (hd : 0 ≤ d) (hk : k ≤ MC) (hn : n ≤ MS') {r : Unit × AH} {S : AH} {l1 : Option Nat} {l2 : Int32} {l3 : Int32} {l4 : Int32} (hf : X5_copyFrom_0 S a0 l1 l2 l3 l4 = some r) : AW l g d RX5 cX5_copyFrom 6 "copyFrom" MC MS' (Qr (none) r.2) k n 0 [some (.ref a0), some (va_rf l1), some (.int l2), some (.int l3), some (.int l4), none] [] S := by
  unfold X5_copyFrom_0 at hf
  refine a_iload (pc := 0) dX5_copyFrom_0 rfl ?_
  refine a_if_lt (pc := 2) 41 dX5_copyFrom_2 (by decide) (fun c10 => ?_) (fun c10 => ?_)
  · have hf := (if_pos c10).symm.trans hf
    exact sX5_copyFrom_41 hd hk hn hf
  · have hf := (if_neg c10).symm.trans hf
    refine a_iload_n (pc := 5) dX5_copyFrom_5 rfl ?_
    refine a_if_lt (pc := 6) 41 dX5_copyFrom_6 (by decide) (fun c9 => ?_) (fun c9 => ?_)
    · have hf := (if_pos c9).symm.trans hf
      exact sX5_copyFrom_41 hd hk hn hf
    · have hf := (if_neg c9).symm.trans hf
      refine a_iload_n (pc := 9) dX5_copyFrom_9 rfl ?_
      refine a_if_lt (pc := 10) 41 dX5_copyFrom_10 (by decide) (fun c8 => ?_) (fun c8 => ?_)
      · have hf := (if_pos c8).symm.trans hf
        exact sX5_copyFrom_41 hd hk hn hf
      · have hf := (if_neg c8).symm.trans hf
        refine a_iload (pc := 13) dX5_copyFrom_13 rfl ?_
        refine a_aload_n (pc := 15) dX5_copyFrom_15 rfl (isRv_rf _) ?_
        obtain ⟨a1, ha1, hf⟩ := Option.bind_eq_some_iff.mp hf
        rw [ha1]
        obtain ⟨x2, hx2, hf⟩ := Option.bind_eq_some_iff.mp hf
        refine g_getQ (pc := 16) dX5_copyFrom_16 fl_X5_9 hx2 ?_
        obtain ⟨x3, hx3, hf⟩ := Option.bind_eq_some_iff.mp hf
        refine g_alen (pc := 19) dX5_copyFrom_19 hx3 ?_
        refine a_iload_n (pc := 20) dX5_copyFrom_20 rfl ?_
        refine a_isub (pc := 21) dX5_copyFrom_21 ?_
        refine a_icmp_gt (pc := 22) 41 dX5_copyFrom_22 (by decide) (fun c7 => ?_) (fun c7 => ?_)
        · have hf := (if_pos c7).symm.trans hf
          exact sX5_copyFrom_41 hd hk hn hf
        · have hf := (if_neg c7).symm.trans hf
          refine a_iload (pc := 25) dX5_copyFrom_25 rfl ?_
          refine a_aload_n (pc := 27) dX5_copyFrom_27 rfl (isRv_r _) ?_
          obtain ⟨x4, hx4, hf⟩ := Option.bind_eq_some_iff.mp hf
          refine g_getQ (pc := 28) dX5_copyFrom_28 fl_X5_9 hx4 ?_
          obtain ⟨x5, hx5, hf⟩ := Option.bind_eq_some_iff.mp hf
          refine g_alen (pc := 31) dX5_copyFrom_31 hx5 ?_
          refine a_iload_n (pc := 32) dX5_copyFrom_32 rfl ?_
          refine a_isub (pc := 33) dX5_copyFrom_33 ?_
          refine a_icmp_gt (pc := 34) 41 dX5_copyFrom_34 (by decide) (fun c6 => ?_) (fun c6 => ?_)
          · have hf := (if_pos c6).symm.trans hf
            exact sX5_copyFrom_41 hd hk hn hf
          · have hf := (if_neg c6).symm.trans hf
            refine a_iconst (pc := 37) 1 dX5_copyFrom_37 rfl ?_
            refine a_goto (pc := 38) 42 dX5_copyFrom_38 (by decide) ?_
            exact sX5_copyFrom_42 hd hk hn hf
set_option maxHeartbeats 4000000 in
theorem mX5_copyFrom {l : Launch} {g : gE} {d : Nat} {a0 : Nat} (hd : 0 ≤ d) {r : Unit × AH} {S : AH} {l1 : Option Nat} {l2 : Int32} {l3 : Int32} {l4 : Int32} (hf : X5_copyFrom S a0 l1 l2 l3 l4 = some r) : AM l g d yX5_copyFrom cX5_copyFrom 6 none 0 0 [.ref a0, va_rf l1, .int l2, .int l3, .int l4] S (Qr (none) r.2) := by
  refine AM.of rfl (by cases l1 <;> exact Nat.le_of_ble_eq_true rfl) (fun v h' q => by obtain ⟨rfl, -⟩ := q; rfl) (fun ls e => ?_)
  have e2 : aBeg [.ref a0, va_rf l1, .int l2, .int l3, .int l4] 6 = [some (.ref a0), some (va_rf l1), some (.int l2), some (.int l3), some (.int l4), none] := (by cases l1 <;> rfl)
  rw [e2] at e
  subst e
  refine a_sub (sub_k (sub_k (sub_k (sub_k (sub_k (sub_k (sub_n))))))) ?_
  exact sX5_copyFrom_0 hd (Nat.le_refl _) (Nat.le_refl _) (hf)

-- PencilStrikes.shift(IIIII)I
def X7_shift_24 (S : AH) (a0 : Nat) : Option (Int32 × AH) :=
  some ((-1), S)
def X7_shift_42 (S : AH) (a0 : Nat) : Option (Int32 × AH) :=
  some ((-11), S)
def X7_shift_100 (S : AH) (a0 : Nat) : Option (Int32 × AH) :=
  some ((-13), S)
def X7_shift_0 (S : AH) (a0 : Nat) (l1 : Int32) (l2 : Int32) (l3 : Int32) (l4 : Int32) (l5 : Int32) : Option (Int32 × AH) :=
  (cO S a0 7 (X7_tapeOf S a0 l1)).bind fun r1 => prp r1 fun zq2 zq2S =>
  (cO zq2S a0 7 (X7_tapeOf zq2S a0 l3)).bind fun r3 => prp r3 fun zq4 zq4S =>
  ifn zq2 (
    X7_shift_24 zq4S a0) fun a5 =>
  ifn zq4 (
    X7_shift_24 zq4S a0) fun a6 =>
  (cO zq4S a5 5 (X5_holds zq4S a5)).bind fun r7 =>
  if r7.1 = 0 then
    X7_shift_42 r7.2 a0
  else
    (cO r7.2 a6 5 (X5_holds r7.2 a6)).bind fun r8 =>
    if r8.1 = 0 then
      X7_shift_42 r8.2 a0
    else
      (cO r8.2 a5 5 (X5_sort r8.2 a5)).bind fun r9 =>
      (cO r9.2 a6 5 (X5_sort r9.2 a6)).bind fun r10 =>
      if r9.1 = r10.1 then
        if l5 < 0 then
          X7_shift_100 r10.2 a0
        else
          if l2 < 0 then
            X7_shift_100 r10.2 a0
          else
            if l4 < 0 then
              X7_shift_100 r10.2 a0
            else
              (cO r10.2 a5 5 (X5_size r10.2 a5)).bind fun r11 =>
              if (r11.1 - l2) < l5 then
                X7_shift_100 r11.2 a0
              else
                (cO r11.2 a6 5 (X5_size r11.2 a6)).bind fun r12 =>
                if l5 ≤ (r12.1 - l4) then
                  (cO r12.2 a6 5 (X5_copyFrom r12.2 a6 (some a5) l2 l4 l5)).bind fun r13 =>
                  some (l5, r13.2)
                else
                  X7_shift_100 r12.2 a0
      else
        some ((-12), r10.2)
def X7_shift (S : AH) (a0 : Nat) (l1 : Int32) (l2 : Int32) (l3 : Int32) (l4 : Int32) (l5 : Int32) : Option (Int32 × AH) := X7_shift_0 S a0 l1 l2 l3 l4 l5
set_option maxHeartbeats 4000000 in
theorem sX7_shift_24 {l : Launch} {g : gE} {d MC MS' k n : Nat} {a0 : Nat} (hd : 1 ≤ d) (hk : k ≤ MC) (hn : n ≤ MS') {r : Int32 × AH} {S : AH} (hf : X7_shift_24 S a0 = some r) : AW l g d RX7 cX7_shift 8 "shift" MC MS' (Qr (some (.int r.1)) r.2) k n 24 [none, none, none, none, none, none, none, none] [] S := by
  unfold X7_shift_24 at hf
  refine a_iconst (pc := 24) (-1) dX7_shift_24 rfl ?_
  have hf := Option.some.inj hf
  subst hf
  exact a_ireturn (pc := 25) dX7_shift_25 hk hn ⟨rfl, rfl⟩
set_option maxHeartbeats 4000000 in
theorem sX7_shift_42 {l : Launch} {g : gE} {d MC MS' k n : Nat} {a0 : Nat} (hd : 1 ≤ d) (hk : k ≤ MC) (hn : n ≤ MS') {r : Int32 × AH} {S : AH} (hf : X7_shift_42 S a0 = some r) : AW l g d RX7 cX7_shift 8 "shift" MC MS' (Qr (some (.int r.1)) r.2) k n 42 [none, none, none, none, none, none, none, none] [] S := by
  unfold X7_shift_42 at hf
  refine a_bipush (pc := 42) (-11) dX7_shift_42 rfl ?_
  have hf := Option.some.inj hf
  subst hf
  exact a_ireturn (pc := 44) dX7_shift_44 hk hn ⟨rfl, rfl⟩
set_option maxHeartbeats 4000000 in
theorem sX7_shift_100 {l : Launch} {g : gE} {d MC MS' k n : Nat} {a0 : Nat} (hd : 1 ≤ d) (hk : k ≤ MC) (hn : n ≤ MS') {r : Int32 × AH} {S : AH} (hf : X7_shift_100 S a0 = some r) : AW l g d RX7 cX7_shift 8 "shift" MC MS' (Qr (some (.int r.1)) r.2) k n 100 [none, none, none, none, none, none, none, none] [] S := by
  unfold X7_shift_100 at hf
  refine a_bipush (pc := 100) (-13) dX7_shift_100 rfl ?_
  have hf := Option.some.inj hf
  subst hf
  exact a_ireturn (pc := 102) dX7_shift_102 hk hn ⟨rfl, rfl⟩
set_option maxHeartbeats 4000000 in
theorem sX7_shift_0 {l : Launch} {g : gE} {d MC MS' k n : Nat} {a0 : Nat} (hd : 1 ≤ d) (hk : k ≤ MC) (hn : n ≤ MS') {r : Int32 × AH} {S : AH} {l1 : Int32} {l2 : Int32} {l3 : Int32} {l4 : Int32} {l5 : Int32} (hf : X7_shift_0 S a0 l1 l2 l3 l4 l5 = some r) : AW l g d RX7 cX7_shift 8 "shift" MC MS' (Qr (some (.int r.1)) r.2) k n 0 [some (.ref a0), some (.int l1), some (.int l2), some (.int l3), some (.int l4), some (.int l5), none, none] [] S := by
  unfold X7_shift_0 at hf
  refine a_aload_n (pc := 0) dX7_shift_0 rfl (isRv_r _) ?_
  refine a_iload_n (pc := 1) dX7_shift_1 rfl ?_
  obtain ⟨r1, hr1, hf⟩ := Option.bind_eq_some_iff.mp hf
  obtain ⟨zq2, zq2S⟩ := r1
  have hf := (prp_of _ _ _).symm.trans hf
  obtain ⟨hor1, hr1⟩ := cO_of hr1
  refine g_call (pc := 2) (mc := 0) (ms := 0) (va_rf zq2) [.int l1] [] dX7_shift_2 ml_X7_177 mv_X7_tapeOf hor1 (by decide) rfl rfl (by omega) (mX7_tapeOf (by omega) hr1) rfl (Nat.le_of_ble_eq_true rfl) hk hn ?_
  refine a_astore (pc := 5) (ls' := [some (.ref a0), some (.int l1), some (.int l2), some (.int l3), some (.int l4), some (.int l5), some (va_rf zq2), none]) dX7_shift_5 (by decide) (isRv_rf _) rfl ?_
  refine a_aload_n (pc := 7) dX7_shift_7 rfl (isRv_r _) ?_
  refine a_iload_n (pc := 8) dX7_shift_8 rfl ?_
  obtain ⟨r3, hr3, hf⟩ := Option.bind_eq_some_iff.mp hf
  obtain ⟨zq4, zq4S⟩ := r3
  have hf := (prp_of _ _ _).symm.trans hf
  obtain ⟨hor3, hr3⟩ := cO_of hr3
  refine g_call (pc := 9) (mc := 0) (ms := 0) (va_rf zq4) [.int l3] [] dX7_shift_9 ml_X7_177 mv_X7_tapeOf hor3 (by decide) rfl rfl (by omega) (mX7_tapeOf (by omega) hr3) rfl (Nat.le_of_ble_eq_true rfl) hk hn ?_
  refine a_astore (pc := 12) (ls' := [some (.ref a0), some (.int l1), some (.int l2), some (.int l3), some (.int l4), some (.int l5), some (va_rf zq2), some (va_rf zq4)]) dX7_shift_12 (by decide) (isRv_rf _) (aSet_ref rfl (va_rf_cat _) rfl) ?_
  refine a_aload (pc := 14) dX7_shift_14 rfl (isRv_rf _) ?_
  cases zq2 with
  | none =>
    have hf := (ifn_none _ _).symm.trans hf
    refine a_ifnullN (pc := 16) 24 dX7_shift_16 (by decide) ?_
    refine a_sub (sub_d (sub_d (sub_d (sub_d (sub_d (sub_d (sub_d (sub_d sub_n)))))))) ?_
    exact sX7_shift_24 hd hk hn hf
  | some a5 =>
    have hf := (ifn_some _ _ _).symm.trans hf
    refine a_ifnull (pc := 16) dX7_shift_16 ?_
    refine a_aload (pc := 19) dX7_shift_19 rfl (isRv_rf _) ?_
    cases zq4 with
    | none =>
      have hf := (ifn_none _ _).symm.trans hf
      refine a_ifnonnullN (pc := 21) dX7_shift_21 ?_
      refine a_sub (sub_d (sub_d (sub_d (sub_d (sub_d (sub_d (sub_d (sub_d sub_n)))))))) ?_
      exact sX7_shift_24 hd hk hn hf
    | some a6 =>
      have hf := (ifn_some _ _ _).symm.trans hf
      refine a_ifnonnull (pc := 21) 26 dX7_shift_21 (by decide) ?_
      refine a_aload (pc := 26) dX7_shift_26 rfl (isRv_r _) ?_
      obtain ⟨r7, hr7, hf⟩ := Option.bind_eq_some_iff.mp hf
      obtain ⟨hor7, hr7⟩ := cO_of hr7
      refine g_call (pc := 28) (mc := 0) (ms := 0) (.int r7.1) [] [] dX7_shift_28 ml_X7_181 mv_X5_holds hor7 (by decide) rfl rfl (by omega) (mX5_holds (by omega) hr7) rfl (Nat.le_of_ble_eq_true rfl) hk hn ?_
      refine a_if_eq (pc := 31) 42 dX7_shift_31 (by decide) (fun c21 => ?_) (fun c21 => ?_)
      · have hf := (if_pos c21).symm.trans hf
        refine a_sub (sub_d (sub_d (sub_d (sub_d (sub_d (sub_d (sub_d (sub_d sub_n)))))))) ?_
        exact sX7_shift_42 hd hk hn hf
      · have hf := (if_neg c21).symm.trans hf
        refine a_aload (pc := 34) dX7_shift_34 rfl (isRv_r _) ?_
        obtain ⟨r8, hr8, hf⟩ := Option.bind_eq_some_iff.mp hf
        obtain ⟨hor8, hr8⟩ := cO_of hr8
        refine g_call (pc := 36) (mc := 0) (ms := 0) (.int r8.1) [] [] dX7_shift_36 ml_X7_181 mv_X5_holds hor8 (by decide) rfl rfl (by omega) (mX5_holds (by omega) hr8) rfl (Nat.le_of_ble_eq_true rfl) hk hn ?_
        refine a_if_ne (pc := 39) 45 dX7_shift_39 (by decide) (fun c20 => ?_) (fun c20 => ?_)
        · have hf := (if_neg c20).symm.trans hf
          refine a_aload (pc := 45) dX7_shift_45 rfl (isRv_r _) ?_
          obtain ⟨r9, hr9, hf⟩ := Option.bind_eq_some_iff.mp hf
          obtain ⟨hor9, hr9⟩ := cO_of hr9
          refine g_call (pc := 47) (mc := 0) (ms := 0) (.int r9.1) [] [] dX7_shift_47 ml_X7_185 mv_X5_sort hor9 (by decide) rfl rfl (by omega) (mX5_sort (by omega) hr9) rfl (Nat.le_of_ble_eq_true rfl) hk hn ?_
          refine a_aload (pc := 50) dX7_shift_50 rfl (isRv_r _) ?_
          obtain ⟨r10, hr10, hf⟩ := Option.bind_eq_some_iff.mp hf
          obtain ⟨hor10, hr10⟩ := cO_of hr10
          refine g_call (pc := 52) (mc := 0) (ms := 0) (.int r10.1) [] [.int (r9.1)] dX7_shift_52 ml_X7_185 mv_X5_sort hor10 (by decide) rfl rfl (by omega) (mX5_sort (by omega) hr10) rfl (Nat.le_of_ble_eq_true rfl) hk hn ?_
          refine a_icmp_eq (pc := 55) 61 dX7_shift_55 (by decide) (fun c19 => ?_) (fun c19 => ?_)
          · have hf := (if_pos c19).symm.trans hf
            refine a_iload (pc := 61) dX7_shift_61 rfl ?_
            refine a_if_lt (pc := 63) 100 dX7_shift_63 (by decide) (fun c18 => ?_) (fun c18 => ?_)
            · have hf := (if_pos c18).symm.trans hf
              refine a_sub (sub_d (sub_d (sub_d (sub_d (sub_d (sub_d (sub_d (sub_d sub_n)))))))) ?_
              exact sX7_shift_100 hd hk hn hf
            · have hf := (if_neg c18).symm.trans hf
              refine a_iload_n (pc := 66) dX7_shift_66 rfl ?_
              refine a_if_lt (pc := 67) 100 dX7_shift_67 (by decide) (fun c17 => ?_) (fun c17 => ?_)
              · have hf := (if_pos c17).symm.trans hf
                refine a_sub (sub_d (sub_d (sub_d (sub_d (sub_d (sub_d (sub_d (sub_d sub_n)))))))) ?_
                exact sX7_shift_100 hd hk hn hf
              · have hf := (if_neg c17).symm.trans hf
                refine a_iload (pc := 70) dX7_shift_70 rfl ?_
                refine a_if_lt (pc := 72) 100 dX7_shift_72 (by decide) (fun c16 => ?_) (fun c16 => ?_)
                · have hf := (if_pos c16).symm.trans hf
                  refine a_sub (sub_d (sub_d (sub_d (sub_d (sub_d (sub_d (sub_d (sub_d sub_n)))))))) ?_
                  exact sX7_shift_100 hd hk hn hf
                · have hf := (if_neg c16).symm.trans hf
                  refine a_iload (pc := 75) dX7_shift_75 rfl ?_
                  refine a_aload (pc := 77) dX7_shift_77 rfl (isRv_r _) ?_
                  obtain ⟨r11, hr11, hf⟩ := Option.bind_eq_some_iff.mp hf
                  obtain ⟨hor11, hr11⟩ := cO_of hr11
                  refine g_call (pc := 79) (mc := 0) (ms := 0) (.int r11.1) [] [.int l5] dX7_shift_79 ml_X7_188 mv_X5_size hor11 (by decide) rfl rfl (by omega) (mX5_size (by omega) hr11) rfl (Nat.le_of_ble_eq_true rfl) hk hn ?_
                  refine a_iload_n (pc := 82) dX7_shift_82 rfl ?_
                  refine a_isub (pc := 83) dX7_shift_83 ?_
                  refine a_icmp_gt (pc := 84) 100 dX7_shift_84 (by decide) (fun c15 => ?_) (fun c15 => ?_)
                  · have hf := (if_pos c15).symm.trans hf
                    refine a_sub (sub_d (sub_d (sub_d (sub_d (sub_d (sub_d (sub_d (sub_d sub_n)))))))) ?_
                    exact sX7_shift_100 hd hk hn hf
                  · have hf := (if_neg c15).symm.trans hf
                    refine a_iload (pc := 87) dX7_shift_87 rfl ?_
                    refine a_aload (pc := 89) dX7_shift_89 rfl (isRv_r _) ?_
                    obtain ⟨r12, hr12, hf⟩ := Option.bind_eq_some_iff.mp hf
                    obtain ⟨hor12, hr12⟩ := cO_of hr12
                    refine g_call (pc := 91) (mc := 0) (ms := 0) (.int r12.1) [] [.int l5] dX7_shift_91 ml_X7_188 mv_X5_size hor12 (by decide) rfl rfl (by omega) (mX5_size (by omega) hr12) rfl (Nat.le_of_ble_eq_true rfl) hk hn ?_
                    refine a_iload (pc := 94) dX7_shift_94 rfl ?_
                    refine a_isub (pc := 96) dX7_shift_96 ?_
                    refine a_icmp_le (pc := 97) 103 dX7_shift_97 (by decide) (fun c14 => ?_) (fun c14 => ?_)
                    · have hf := (if_pos c14).symm.trans hf
                      refine a_aload (pc := 103) dX7_shift_103 rfl (isRv_r _) ?_
                      refine a_aload (pc := 105) dX7_shift_105 rfl (isRv_r _) ?_
                      refine a_iload_n (pc := 107) dX7_shift_107 rfl ?_
                      refine a_iload (pc := 108) dX7_shift_108 rfl ?_
                      refine a_iload (pc := 110) dX7_shift_110 rfl ?_
                      obtain ⟨r13, hr13, hf⟩ := Option.bind_eq_some_iff.mp hf
                      obtain ⟨hor13, hr13⟩ := cO_of hr13
                      refine g_callv (pc := 112) (mc := 0) (ms := 0) [.ref a5, .int l2, .int l4, .int l5] [] dX7_shift_112 ml_X7_213 mv_X5_copyFrom hor13 (by decide) rfl rfl (by omega) (mX5_copyFrom (by omega) hr13) rfl (Nat.le_of_ble_eq_true rfl) hk hn ?_
                      refine a_iload (pc := 115) dX7_shift_115 rfl ?_
                      have hf := Option.some.inj hf
                      subst hf
                      exact a_ireturn (pc := 117) dX7_shift_117 hk hn ⟨rfl, rfl⟩
                    · have hf := (if_neg c14).symm.trans hf
                      refine a_sub (sub_d (sub_d (sub_d (sub_d (sub_d (sub_d (sub_d (sub_d sub_n)))))))) ?_
                      exact sX7_shift_100 hd hk hn hf
          · have hf := (if_neg c19).symm.trans hf
            refine a_bipush (pc := 58) (-12) dX7_shift_58 rfl ?_
            have hf := Option.some.inj hf
            subst hf
            exact a_ireturn (pc := 60) dX7_shift_60 hk hn ⟨rfl, rfl⟩
        · have hf := (if_pos c20).symm.trans hf
          refine a_sub (sub_d (sub_d (sub_d (sub_d (sub_d (sub_d (sub_d (sub_d sub_n)))))))) ?_
          exact sX7_shift_42 hd hk hn hf
set_option maxHeartbeats 4000000 in
theorem mX7_shift {l : Launch} {g : gE} {d : Nat} {a0 : Nat} (hd : 1 ≤ d) {r : Int32 × AH} {S : AH} {l1 : Int32} {l2 : Int32} {l3 : Int32} {l4 : Int32} {l5 : Int32} (hf : X7_shift S a0 l1 l2 l3 l4 l5 = some r) : AM l g d yX7_shift cX7_shift 8 (some .int) 0 0 [.ref a0, .int l1, .int l2, .int l3, .int l4, .int l5] S (Qr (some (.int r.1)) r.2) := by
  refine AM.of rfl (by exact Nat.le_of_ble_eq_true rfl) (fun v h' q => by obtain ⟨rfl, -⟩ := q; exact ⟨_, rfl, rfl⟩) (fun ls e => ?_)
  have e2 : aBeg [.ref a0, .int l1, .int l2, .int l3, .int l4, .int l5] 8 = [some (.ref a0), some (.int l1), some (.int l2), some (.int l3), some (.int l4), some (.int l5), none, none] := rfl
  rw [e2] at e
  subst e
  refine a_sub (sub_k (sub_k (sub_k (sub_k (sub_k (sub_k (sub_k (sub_k (sub_n))))))))) ?_
  exact sX7_shift_0 hd (Nat.le_refl _) (Nat.le_refl _) (hf)

