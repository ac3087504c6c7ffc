/-! ===== the two constructors ===== -/
def nwQ (t B : Nat) (S : AH) (x : Int32) : Option (Nat × AH) := if 0 ≤ x.toInt ∧ x.toInt ≤ (B : Int) then some (S.length, S ++ [.inl (t, (x.toNatClampNeg, .inr (.inr (.inr (.inr (fun _ => none))))))]) else none
theorem nwQ_of {t B b : Nat} {S S' : AH} {x : Int32} (h : nwQ t B S x = some (b, S')) : ¬ x < 0 ∧ x.toNatClampNeg ≤ B ∧ b = S.length ∧ S ++ [.inl (t, (x.toNatClampNeg, .inr (.inr (.inr (.inr (fun _ => none))))))] = S' := by
  unfold nwQ at h
  split at h
  · next q =>
    have h := Option.some.inj h
    have h1 := congrArg Prod.fst h
    have h2 := congrArg Prod.snd h
    refine ⟨?_, ?_, h1.symm, h2⟩
    · intro z
      have := Int32.lt_iff_toInt_lt.mp z
      have e : (0 : Int32).toInt = 0 := rfl
      omega
    · show x.toInt.toNat ≤ B
      omega
  · cases h
section
variable {l : Launch} {g : gE} {d : Nat} {o : String} {cc : ByteArray} {nL : Nat} {nm : String} {MC MS' : Nat} {Q : Option Value → AH → Prop} {k n pc : Nat} {ls : List (Option Value)} {st : List Value} {S : AH}
theorem g_newQ {i t B b : Nat} {x : Int32} {S' : AH} (E : String) (hd : decode cc pc = .ok (.anewarray i, 3)) (ht : t < 7) (hty : tyT t = .object E) (hcl : Cond.classLink o i E ∈ lw_good) (hao : ∀ (U : State) (H : Heap), aOld g U H → va_AO E U) (hB : B ≤ 8192) (hx : nwQ t B S x = some (b, S')) (hk : k + 1 ≤ MC) (hn : n + B ≤ MS') (kk : AW l g d o cc nL nm MC MS' Q (k + 1) (n + B) (pc + 3) ls (.ref b :: st) S') : AW l g d o cc nL nm MC MS' Q k n pc ls (.int x :: st) S := by
  obtain ⟨h1, h2, rfl, rfl⟩ := nwQ_of hx
  exact a_newq t x.toNatClampNeg E hd ht hty hcl hao h1 rfl (by omega) hk (by omega) (a_widen (Nat.le_refl _) (by omega) kk)
theorem g_newZ {B b : Nat} {x : Int32} {S' : AH} (hd : decode cc pc = .ok (.newarray .boolean, 2)) (hB : B ≤ 8192) (hx : nwA 3 B S x = some (b, S')) (hk : k + 1 ≤ MC) (hn : n + B ≤ MS') (kk : AW l g d o cc nL nm MC MS' Q (k + 1) (n + B) (pc + 2) ls (.ref b :: st) S') : AW l g d o cc nL nm MC MS' Q k n pc ls (.int x :: st) S := by
  obtain ⟨h1, h2, rfl, rfl⟩ := nwA_of hx
  exact a_newaZ x.toNatClampNeg hd ka_boolean h1 rfl (by omega) hk (by omega) (a_widen (Nat.le_refl _) (by omega) kk)
end
-- PencilStrikes.<init>()V
def X7_init_108 : Nat → AH → Nat → Int32 → Option (Unit × AH)
  | 0, _, _, _ => none
  | fn + 1, S, a0, l1 =>
    (gQ S a0 7 5).bind fun x1 =>
    (aN S x1).bind fun x2 =>
    if x2 ≤ l1 then
      some ((), S)
    else
      (gQ S a0 7 5).bind fun x3 =>
      (X5_init (nwO 5 S) (List.length S)).bind fun r4 =>
      (uQ 6 5 r4.2 x3 l1 (List.length S)).bind fun S5 =>
      X7_init_108 fn S5 a0 (l1 + 1)
def X7_init_84 : Nat → AH → Nat → Int32 → Option (Unit × AH)
  | 0, _, _, _ => none
  | fn + 1, S, a0, l1 =>
    (gQ S a0 7 4).bind fun x1 =>
    (aN S x1).bind fun x2 =>
    if x2 ≤ l1 then
      X7_init_108 8 S a0 0
    else
      (gQ S a0 7 4).bind fun x3 =>
      (uA 0 S x3 l1 5).bind fun S4 =>
      X7_init_84 fn S4 a0 (l1 + 1)
def X7_init_0 (S : AH) (a0 : Nat) : Option (Unit × AH) :=
  (X6_init (nwO 6 S) (List.length S)).bind fun r1 =>
  (sQ r1.2 a0 7 0 (some (List.length S))).bind fun S2 =>
  (X4_init (nwO 4 S2) (List.length S2)).bind fun r3 =>
  (sQ r3.2 a0 7 1 (some (List.length S2))).bind fun S4 =>
  (nwQ 4 6 S4 6).bind fun zw5 => prp zw5 fun zb6 S7 =>
  (sQ S7 a0 7 2 (some zb6)).bind fun S8 =>
  (nwQ 5 5 S8 5).bind fun zw9 => prp zw9 fun zb10 S11 =>
  (sQ S11 a0 7 3 (some zb10)).bind fun S12 =>
  (nwA 0 10 S12 10).bind fun zw13 => prp zw13 fun zb14 S15 =>
  (sQ S15 a0 7 4 (some zb14)).bind fun S16 =>
  (nwQ 6 6 S16 6).bind fun zw17 => prp zw17 fun zb18 S19 =>
  (sQ S19 a0 7 5 (some zb18)).bind fun S20 =>
  (X0_init (nwO 0 S20) (List.length S20)).bind fun r21 =>
  (sQ r21.2 a0 7 6 (some (List.length S20))).bind fun S22 =>
  (X2_init (nwO 2 S22) (List.length S22)).bind fun r23 =>
  (sQ r23.2 a0 7 7 (some (List.length S22))).bind fun S24 =>
  X7_init_84 FU S24 a0 0
def X7_init (S : AH) (a0 : Nat) : Option (Unit × AH) := X7_init_0 S a0
set_option maxRecDepth 100000 in
set_option maxHeartbeats 4000000 in
theorem sX7_init_108 {l : Launch} {g : gE} {d MC MS' : Nat} {a0 : Nat} (hd : 1 ≤ d) {r : Unit × AH} : ∀ (fn k n : Nat) (S : AH) (l1 : Int32), k + fn * 2 + 0 ≤ MC → n + fn * 63 + 0 ≤ MS' → X7_init_108 fn S a0 l1 = some r → AW l g d RX7 cX7_init 2 "<init>" MC MS' (Qr (none) r.2) k n 108 [some (.ref a0), some (.int l1)] [] S := by
  intro fn
  induction fn with
  | zero =>
    intro k n S l1 hk hn hf
    rw [X7_init_108] at hf
    cases hf
  | succ fn ih =>
    intro k n S l1 hk hn hf
    rw [X7_init_108] at hf
    refine a_iload_n (pc := 108) dX7_init_108 rfl ?_
    refine a_aload_n (pc := 109) dX7_init_109 rfl (isRv_r _) ?_
    obtain ⟨x1, hx1, hf⟩ := Option.bind_eq_some_iff.mp hf
    refine g_getQ (pc := 110) dX7_init_110 fl_X7_43 hx1 ?_
    obtain ⟨x2, hx2, hf⟩ := Option.bind_eq_some_iff.mp hf
    refine g_alen (pc := 113) dX7_init_113 hx2 ?_
    refine a_icmp_ge (pc := 114) 136 dX7_init_114 (by decide) (fun c6 => ?_) (fun c6 => ?_)
    · have hf := (if_pos c6).symm.trans hf
      have hf := Option.some.inj hf
      subst hf
      exact a_return (pc := 136) dX7_init_136 (by omega) (by omega) ⟨rfl, rfl⟩
    · have hf := (if_neg c6).symm.trans hf
      refine a_aload_n (pc := 117) dX7_init_117 rfl (isRv_r _) ?_
      obtain ⟨x3, hx3, hf⟩ := Option.bind_eq_some_iff.mp hf
      refine g_getQ (pc := 118) dX7_init_118 fl_X7_43 hx3 ?_
      refine a_iload_n (pc := 121) dX7_init_121 rfl ?_
      refine g_new (pc := 122) (ci := 5) dX7_init_122 nw_X7_41 (by decide) (by omega) (by show _ + 3 ≤ _; omega) ?_
      rw [show kC 5 = 3 from rfl]
      refine a_dup (pc := 125) dX7_init_125 rfl ?_
      obtain ⟨r4, hr4, hf⟩ := Option.bind_eq_some_iff.mp hf
      refine g_calliN (pc := 126) (mc := 1) (ms := 60) [] [.ref (List.length S), .int l1, va_rf x3] dX7_init_126 mn_X7_61 mi_X5_init rfl (by omega) (mX5_init (by omega) hr4) rfl (by cases x3 <;> exact Nat.le_of_ble_eq_true rfl) (by omega) (by omega) ?_
      obtain ⟨S5, hS5, hf⟩ := Option.bind_eq_some_iff.mp hf
      refine g_qast (pc := 129) 6 5 dX7_init_129 (by decide) (by decide) rfl hS5 ?_
      refine a_iinc (pc := 130) (ls' := [some (.ref a0), some (.int (l1 + 1))]) (l1 + 1) dX7_init_130 rfl rfl (by decide) rfl ?_
      refine a_goto (pc := 133) 108 dX7_init_133 (by decide) ?_
      exact ih _ _ S5 (l1 + 1) (by omega) (by omega) hf
set_option maxRecDepth 100000 in
set_option maxHeartbeats 4000000 in
theorem sX7_init_84 {l : Launch} {g : gE} {d MC MS' k n : Nat} {a0 : Nat} (hd : 1 ≤ d) (hk : k + 16 ≤ MC) (hn : n + 504 ≤ MS') {r : Unit × AH} : ∀ (fn : Nat) (S : AH) (l1 : Int32), X7_init_84 fn S a0 l1 = some r → AW l g d RX7 cX7_init 2 "<init>" MC MS' (Qr (none) r.2) k n 84 [some (.ref a0), some (.int l1)] [] S := by
  intro fn
  induction fn with
  | zero =>
    intro S l1 hf
    rw [X7_init_84] at hf
    cases hf
  | succ fn ih =>
    intro S l1 hf
    rw [X7_init_84] at hf
    refine a_iload_n (pc := 84) dX7_init_84 rfl ?_
    refine a_aload_n (pc := 85) dX7_init_85 rfl (isRv_r _) ?_
    obtain ⟨x1, hx1, hf⟩ := Option.bind_eq_some_iff.mp hf
    refine g_getQ (pc := 86) dX7_init_86 fl_X7_37 hx1 ?_
    obtain ⟨x2, hx2, hf⟩ := Option.bind_eq_some_iff.mp hf
    refine g_alen (pc := 89) dX7_init_89 hx2 ?_
    refine a_icmp_ge (pc := 90) 106 dX7_init_90 (by decide) (fun c5 => ?_) (fun c5 => ?_)
    · have hf := (if_pos c5).symm.trans hf
      refine a_iconst (pc := 106) 0 dX7_init_106 rfl ?_
      refine a_istore_n (pc := 107) (ls' := [some (.ref a0), some (.int 0)]) dX7_init_107 (by decide) rfl ?_
      exact sX7_init_108 hd 8 _ _ S 0 (by omega) (by omega) hf
    · have hf := (if_neg c5).symm.trans hf
      refine a_aload_n (pc := 93) dX7_init_93 rfl (isRv_r _) ?_
      obtain ⟨x3, hx3, hf⟩ := Option.bind_eq_some_iff.mp hf
      refine g_getQ (pc := 94) dX7_init_94 fl_X7_37 hx3 ?_
      refine a_iload_n (pc := 97) dX7_init_97 rfl ?_
      refine a_iconst (pc := 98) 5 dX7_init_98 rfl ?_
      obtain ⟨S4, hS4, hf⟩ := Option.bind_eq_some_iff.mp hf
      refine g_iast (pc := 99) dX7_init_99 hS4 ?_
      refine a_iinc (pc := 100) (ls' := [some (.ref a0), some (.int (l1 + 1))]) (l1 + 1) dX7_init_100 rfl rfl (by decide) rfl ?_
      refine a_goto (pc := 103) 84 dX7_init_103 (by decide) ?_
      exact ih S4 (l1 + 1) hf
set_option maxRecDepth 100000 in
set_option maxHeartbeats 4000000 in
theorem sX7_init_0 {l : Launch} {g : gE} {d MC MS' k n : Nat} {a0 : Nat} (hd : 1 ≤ d) (hk : k + 29 ≤ MC) (hn : n + 882 ≤ MS') {r : Unit × AH} {S : AH} (hf : X7_init_0 S a0 = some r) : AW l g d RX7 cX7_init 2 "<init>" MC MS' (Qr (none) r.2) k n 0 [some (.ref a0), none] [] S := by
  unfold X7_init_0 at hf
  refine a_aload_n (pc := 0) dX7_init_0 rfl (isRv_r _) ?_
  refine a_objInit (pc := 1) dX7_init_1 ml_X7_3 (Nat.le_of_ble_eq_true rfl) ?_
  refine a_aload_n (pc := 4) dX7_init_4 rfl (isRv_r _) ?_
  refine g_new (pc := 5) (ci := 6) dX7_init_5 nw_X7_9 (by decide) (by omega) (by show _ + 2 ≤ _; omega) ?_
  rw [show kC 6 = 2 from rfl]
  refine a_dup (pc := 8) dX7_init_8 rfl ?_
  obtain ⟨r1, hr1, hf⟩ := Option.bind_eq_some_iff.mp hf
  refine g_calliN (pc := 9) (mc := 1) (ms := 100) [] [.ref (List.length S), .ref a0] dX7_init_9 mn_X7_11 mi_X6_init rfl (by omega) (mX6_init (by omega) hr1) rfl (Nat.le_of_ble_eq_true rfl) (by omega) (by omega) ?_
  obtain ⟨S2, hS2, hf⟩ := Option.bind_eq_some_iff.mp hf
  refine g_putQF (pc := 12) dX7_init_12 fl_X7_12 rfl rfl rfl (Or.inl ⟨_, rfl⟩) hS2 ?_
  refine a_aload_n (pc := 15) dX7_init_15 rfl (isRv_r _) ?_
  refine g_new (pc := 16) (ci := 4) dX7_init_16 nw_X7_18 (by decide) (by omega) (by show _ + 10 ≤ _; omega) ?_
  rw [show kC 4 = 10 from rfl]
  refine a_dup (pc := 19) dX7_init_19 rfl ?_
  obtain ⟨r3, hr3, hf⟩ := Option.bind_eq_some_iff.mp hf
  refine g_calliN (pc := 20) (mc := 2) (ms := 200) [] [.ref (List.length S2), .ref a0] dX7_init_20 mn_X7_20 mi_X4_init rfl (by omega) (mX4_init (by omega) hr3) rfl (Nat.le_of_ble_eq_true rfl) (by omega) (by omega) ?_
  obtain ⟨S4, hS4, hf⟩ := Option.bind_eq_some_iff.mp hf
  refine g_putQF (pc := 23) dX7_init_23 fl_X7_21 rfl rfl rfl (Or.inl ⟨_, rfl⟩) hS4 ?_
  refine a_aload_n (pc := 26) dX7_init_26 rfl (isRv_r _) ?_
  refine a_bipush (pc := 27) 6 dX7_init_27 rfl ?_
  obtain ⟨zw5, hzw5, hf⟩ := Option.bind_eq_some_iff.mp hf
  obtain ⟨zb6, S7⟩ := zw5
  have hf := (prp_of _ _ _).symm.trans hf
  refine g_newQ (pc := 29) (t := 4) (B := 6) RX1 dX7_init_29 (by decide) rfl cl_X7_25 (fun U H h => h.ao.1) (by decide) hzw5 (by omega) (by omega) ?_
  obtain ⟨S8, hS8, hf⟩ := Option.bind_eq_some_iff.mp hf
  refine g_putQF (pc := 32) dX7_init_32 fl_X7_27 rfl rfl rfl (Or.inr ⟨_, rfl⟩) hS8 ?_
  refine a_aload_n (pc := 35) dX7_init_35 rfl (isRv_r _) ?_
  refine a_iconst (pc := 36) 5 dX7_init_36 rfl ?_
  obtain ⟨zw9, hzw9, hf⟩ := Option.bind_eq_some_iff.mp hf
  obtain ⟨zb10, S11⟩ := zw9
  have hf := (prp_of _ _ _).symm.trans hf
  refine g_newQ (pc := 37) (t := 5) (B := 5) RX3 dX7_init_37 (by decide) rfl cl_X7_31 (fun U H h => h.ao.2.1) (by decide) hzw9 (by omega) (by omega) ?_
  obtain ⟨S12, hS12, hf⟩ := Option.bind_eq_some_iff.mp hf
  refine g_putQF (pc := 40) dX7_init_40 fl_X7_33 rfl rfl rfl (Or.inr ⟨_, rfl⟩) hS12 ?_
  refine a_aload_n (pc := 43) dX7_init_43 rfl (isRv_r _) ?_
  refine a_bipush (pc := 44) 10 dX7_init_44 rfl ?_
  obtain ⟨zw13, hzw13, hf⟩ := Option.bind_eq_some_iff.mp hf
  obtain ⟨zb14, S15⟩ := zw13
  have hf := (prp_of _ _ _).symm.trans hf
  refine g_newI (pc := 46) (B := 10) dX7_init_46 (by decide) hzw13 (by omega) (by omega) ?_
  obtain ⟨S16, hS16, hf⟩ := Option.bind_eq_some_iff.mp hf
  refine g_putQF (pc := 48) dX7_init_48 fl_X7_37 rfl rfl rfl (Or.inr ⟨_, rfl⟩) hS16 ?_
  refine a_aload_n (pc := 51) dX7_init_51 rfl (isRv_r _) ?_
  refine a_bipush (pc := 52) 6 dX7_init_52 rfl ?_
  obtain ⟨zw17, hzw17, hf⟩ := Option.bind_eq_some_iff.mp hf
  obtain ⟨zb18, S19⟩ := zw17
  have hf := (prp_of _ _ _).symm.trans hf
  refine g_newQ (pc := 54) (t := 6) (B := 6) RX5 dX7_init_54 (by decide) rfl cl_X7_41 (fun U H h => h.ao.2.2) (by decide) hzw17 (by omega) (by omega) ?_
  obtain ⟨S20, hS20, hf⟩ := Option.bind_eq_some_iff.mp hf
  refine g_putQF (pc := 57) dX7_init_57 fl_X7_43 rfl rfl rfl (Or.inr ⟨_, rfl⟩) hS20 ?_
  refine a_aload_n (pc := 60) dX7_init_60 rfl (isRv_r _) ?_
  refine g_new (pc := 61) (ci := 0) dX7_init_61 nw_X7_47 (by decide) (by omega) (by show _ + 5 ≤ _; omega) ?_
  rw [show kC 0 = 5 from rfl]
  refine a_dup (pc := 64) dX7_init_64 rfl ?_
  obtain ⟨r21, hr21, hf⟩ := Option.bind_eq_some_iff.mp hf
  refine g_calliN (pc := 65) (mc := 1) (ms := 20) [] [.ref (List.length S20), .ref a0] dX7_init_65 mn_X7_49 mi_X0_init rfl (by omega) (mX0_init (by omega) hr21) rfl (Nat.le_of_ble_eq_true rfl) (by omega) (by omega) ?_
  obtain ⟨S22, hS22, hf⟩ := Option.bind_eq_some_iff.mp hf
  refine g_putQF (pc := 68) dX7_init_68 fl_X7_50 rfl rfl rfl (Or.inl ⟨_, rfl⟩) hS22 ?_
  refine a_aload_n (pc := 71) dX7_init_71 rfl (isRv_r _) ?_
  refine g_new (pc := 72) (ci := 2) dX7_init_72 nw_X7_54 (by decide) (by omega) (by show _ + 2 ≤ _; omega) ?_
  rw [show kC 2 = 2 from rfl]
  refine a_dup (pc := 75) dX7_init_75 rfl ?_
  obtain ⟨r23, hr23, hf⟩ := Option.bind_eq_some_iff.mp hf
  refine g_calliN (pc := 76) (mc := 1) (ms := 12) [] [.ref (List.length S22), .ref a0] dX7_init_76 mn_X7_56 mi_X2_init rfl (by omega) (mX2_init (by omega) hr23) rfl (Nat.le_of_ble_eq_true rfl) (by omega) (by omega) ?_
  obtain ⟨S24, hS24, hf⟩ := Option.bind_eq_some_iff.mp hf
  refine g_putQF (pc := 79) dX7_init_79 fl_X7_57 rfl rfl rfl (Or.inl ⟨_, rfl⟩) hS24 ?_
  refine a_iconst (pc := 82) 0 dX7_init_82 rfl ?_
  refine a_istore_n (pc := 83) (ls' := [some (.ref a0), some (.int 0)]) dX7_init_83 (by decide) rfl ?_
  exact sX7_init_84 hd (by omega) (by omega) FU S24 0 hf
set_option maxRecDepth 100000 in
set_option maxHeartbeats 4000000 in
theorem mX7_init {l : Launch} {g : gE} {d : Nat} {a0 : Nat} (hd : 1 ≤ d) {r : Unit × AH} {S : AH} (hf : X7_init S a0 = some r) : AM l g d yX7_init cX7_init 2 none 29 882 [.ref a0] S (Qr (none) r.2) := by
  refine AM.of rfl (by exact Nat.le_of_ble_eq_true rfl) (fun v h' q => by obtain ⟨rfl, -⟩ := q; rfl) (fun ls e => ?_)
  have e2 : aBeg [.ref a0] 2 = [some (.ref a0), none] := rfl
  rw [e2] at e
  subst e
  refine a_sub (sub_k (sub_k (sub_n))) ?_
  exact sX7_init_0 hd (by omega) (by omega) (hf)
-- PencilStrikesModel.<init>()V
def X8_init_0 (S : AH) (a0 : Nat) : Option (Unit × AH) :=
  (sI S a0 8 0 0).bind fun S1 =>
  (sI S1 a0 8 1 0).bind fun S2 =>
  (sI S2 a0 8 2 0).bind fun S3 =>
  (sI S3 a0 8 3 0).bind fun S4 =>
  (sI S4 a0 8 4 0).bind fun S5 =>
  (nwA 0 100 S5 100).bind fun zw6 => prp zw6 fun zb7 S8 =>
  (sQ S8 a0 8 5 (some zb7)).bind fun S9 =>
  (nwA 0 72 S9 72).bind fun zw10 => prp zw10 fun zb11 S12 =>
  (sQ S12 a0 8 6 (some zb11)).bind fun S13 =>
  (nwA 0 72 S13 72).bind fun zw14 => prp zw14 fun zb15 S16 =>
  (sQ S16 a0 8 7 (some zb15)).bind fun S17 =>
  (nwA 0 6 S17 6).bind fun zw18 => prp zw18 fun zb19 S20 =>
  (sQ S20 a0 8 8 (some zb19)).bind fun S21 =>
  (nwA 0 5 S21 5).bind fun zw22 => prp zw22 fun zb23 S24 =>
  (sQ S24 a0 8 9 (some zb23)).bind fun S25 =>
  (nwA 0 40 S25 40).bind fun zw26 => prp zw26 fun zb27 S28 =>
  (sQ S28 a0 8 10 (some zb27)).bind fun S29 =>
  (nwA 0 40 S29 40).bind fun zw30 => prp zw30 fun zb31 S32 =>
  (sQ S32 a0 8 11 (some zb31)).bind fun S33 =>
  (nwA 0 40 S33 40).bind fun zw34 => prp zw34 fun zb35 S36 =>
  (sQ S36 a0 8 12 (some zb35)).bind fun S37 =>
  (nwA 0 40 S37 40).bind fun zw38 => prp zw38 fun zb39 S40 =>
  (sQ S40 a0 8 13 (some zb39)).bind fun S41 =>
  (nwA 0 500 S41 500).bind fun zw42 => prp zw42 fun zb43 S44 =>
  (sQ S44 a0 8 14 (some zb43)).bind fun S45 =>
  (nwA 0 101 S45 101).bind fun zw46 => prp zw46 fun zb47 S48 =>
  (sQ S48 a0 8 15 (some zb47)).bind fun S49 =>
  (sI S49 a0 8 16 0).bind fun S50 =>
  (sI S50 a0 8 17 0).bind fun S51 =>
  (sI S51 a0 8 18 0).bind fun S52 =>
  (nwA 0 10 S52 10).bind fun zw53 => prp zw53 fun zb54 S55 =>
  (uA 0 S55 (some zb54) 0 5).bind fun S56 =>
  (uA 0 S56 (some zb54) 1 5).bind fun S57 =>
  (uA 0 S57 (some zb54) 2 5).bind fun S58 =>
  (uA 0 S58 (some zb54) 3 5).bind fun S59 =>
  (uA 0 S59 (some zb54) 4 5).bind fun S60 =>
  (uA 0 S60 (some zb54) 5 5).bind fun S61 =>
  (uA 0 S61 (some zb54) 6 5).bind fun S62 =>
  (uA 0 S62 (some zb54) 7 5).bind fun S63 =>
  (uA 0 S63 (some zb54) 8 5).bind fun S64 =>
  (uA 0 S64 (some zb54) 9 5).bind fun S65 =>
  (sQ S65 a0 8 19 (some zb54)).bind fun S66 =>
  (nwA 0 12 S66 12).bind fun zw67 => prp zw67 fun zb68 S69 =>
  (sQ S69 a0 8 20 (some zb68)).bind fun S70 =>
  (nwA 0 12 S70 12).bind fun zw71 => prp zw71 fun zb72 S73 =>
  (sQ S73 a0 8 21 (some zb72)).bind fun S74 =>
  (nwA 0 12 S74 12).bind fun zw75 => prp zw75 fun zb76 S77 =>
  (sQ S77 a0 8 22 (some zb76)).bind fun S78 =>
  (nwA 0 12 S78 12).bind fun zw79 => prp zw79 fun zb80 S81 =>
  (sQ S81 a0 8 23 (some zb80)).bind fun S82 =>
  (nwA 0 12 S82 12).bind fun zw83 => prp zw83 fun zb84 S85 =>
  (sQ S85 a0 8 24 (some zb84)).bind fun S86 =>
  (nwA 0 12 S86 12).bind fun zw87 => prp zw87 fun zb88 S89 =>
  (sQ S89 a0 8 25 (some zb88)).bind fun S90 =>
  (nwA 0 12 S90 12).bind fun zw91 => prp zw91 fun zb92 S93 =>
  (sQ S93 a0 8 26 (some zb92)).bind fun S94 =>
  (sI S94 a0 8 27 0).bind fun S95 =>
  (sI S95 a0 8 28 0).bind fun S96 =>
  (sI S96 a0 8 29 0).bind fun S97 =>
  (sI S97 a0 8 30 0).bind fun S98 =>
  (nwA 3 100 S98 100).bind fun zw99 => prp zw99 fun zb100 S101 =>
  (sQ S101 a0 8 31 (some zb100)).bind fun S102 =>
  (nwL 12 S102 12).bind fun zw103 => prp zw103 fun zb104 S105 =>
  (sQ S105 a0 8 32 (some zb104)).bind fun S106 =>
  (sI S106 a0 8 33 (-1)).bind fun S107 =>
  (nwA 3 4096 S107 4096).bind fun zw108 => prp zw108 fun zb109 S110 =>
  (sQ S110 a0 8 34 (some zb109)).bind fun S111 =>
  (sI S111 a0 8 35 (-1)).bind fun S112 =>
  (sI S112 a0 8 36 (-1)).bind fun S113 =>
  (sI S113 a0 8 37 0).bind fun S114 =>
  (nwA 0 20 S114 20).bind fun zw115 => prp zw115 fun zb116 S117 =>
  (sQ S117 a0 8 38 (some zb116)).bind fun S118 =>
  (nwA 0 6 S118 6).bind fun zw119 => prp zw119 fun zb120 S121 =>
  (uA 0 S121 (some zb120) 0 (-1)).bind fun S122 =>
  (uA 0 S122 (some zb120) 1 (-1)).bind fun S123 =>
  (uA 0 S123 (some zb120) 2 (-1)).bind fun S124 =>
  (uA 0 S124 (some zb120) 3 (-1)).bind fun S125 =>
  (uA 0 S125 (some zb120) 4 (-1)).bind fun S126 =>
  (uA 0 S126 (some zb120) 5 (-1)).bind fun S127 =>
  (sQ S127 a0 8 39 (some zb120)).bind fun S128 =>
  (nwA 0 6 S128 6).bind fun zw129 => prp zw129 fun zb130 S131 =>
  (sQ S131 a0 8 40 (some zb130)).bind fun S132 =>
  (nwL 360 S132 360).bind fun zw133 => prp zw133 fun zb134 S135 =>
  (sQ S135 a0 8 41 (some zb134)).bind fun S136 =>
  (nwL 60 S136 60).bind fun zw137 => prp zw137 fun zb138 S139 =>
  (sQ S139 a0 8 42 (some zb138)).bind fun S140 =>
  some ((), S140)
def X8_init (S : AH) (a0 : Nat) : Option (Unit × AH) := X8_init_0 S a0
set_option maxRecDepth 100000 in
set_option maxHeartbeats 4000000 in
theorem sX8_init_0 {l : Launch} {g : gE} {d MC MS' k n : Nat} {a0 : Nat} (hd : 0 ≤ d) (hk : k + 27 ≤ MC) (hn : n + 5770 ≤ MS') {r : Unit × AH} {S : AH} (hf : X8_init_0 S a0 = some r) : AW l g d RX8 cX8_init 1 "<init>" MC MS' (Qr (none) r.2) k n 0 [some (.ref a0)] [] S := by
  unfold X8_init_0 at hf
  refine a_aload_n (pc := 0) dX8_init_0 rfl (isRv_r _) ?_
  refine a_objInit (pc := 1) dX8_init_1 ml_X8_1 (Nat.le_of_ble_eq_true rfl) ?_
  refine a_aload_n (pc := 4) dX8_init_4 rfl (isRv_r _) ?_
  refine a_iconst (pc := 5) 0 dX8_init_5 rfl ?_
  obtain ⟨S1, hS1, hf⟩ := Option.bind_eq_some_iff.mp hf
  refine g_putI (pc := 6) dX8_init_6 fl_X8_7 rfl rfl hS1 ?_
  refine a_aload_n (pc := 9) dX8_init_9 rfl (isRv_r _) ?_
  refine a_iconst (pc := 10) 0 dX8_init_10 rfl ?_
  obtain ⟨S2, hS2, hf⟩ := Option.bind_eq_some_iff.mp hf
  refine g_putI (pc := 11) dX8_init_11 fl_X8_13 rfl rfl hS2 ?_
  refine a_aload_n (pc := 14) dX8_init_14 rfl (isRv_r _) ?_
  refine a_iconst (pc := 15) 0 dX8_init_15 rfl ?_
  obtain ⟨S3, hS3, hf⟩ := Option.bind_eq_some_iff.mp hf
  refine g_putI (pc := 16) dX8_init_16 fl_X8_16 rfl rfl hS3 ?_
  refine a_aload_n (pc := 19) dX8_init_19 rfl (isRv_r _) ?_
  refine a_iconst (pc := 20) 0 dX8_init_20 rfl ?_
  obtain ⟨S4, hS4, hf⟩ := Option.bind_eq_some_iff.mp hf
  refine g_putI (pc := 21) dX8_init_21 fl_X8_19 rfl rfl hS4 ?_
  refine a_aload_n (pc := 24) dX8_init_24 rfl (isRv_r _) ?_
  refine a_iconst (pc := 25) 0 dX8_init_25 rfl ?_
  obtain ⟨S5, hS5, hf⟩ := Option.bind_eq_some_iff.mp hf
  refine g_putI (pc := 26) dX8_init_26 fl_X8_22 rfl rfl hS5 ?_
  refine a_aload_n (pc := 29) dX8_init_29 rfl (isRv_r _) ?_
  refine a_bipush (pc := 30) 100 dX8_init_30 rfl ?_
  obtain ⟨zw6, hzw6, hf⟩ := Option.bind_eq_some_iff.mp hf
  obtain ⟨zb7, S8⟩ := zw6
  have hf := (prp_of _ _ _).symm.trans hf
  refine g_newI (pc := 32) (B := 100) dX8_init_32 (by decide) hzw6 (by omega) (by omega) ?_
  obtain ⟨S9, hS9, hf⟩ := Option.bind_eq_some_iff.mp hf
  refine g_putQF (pc := 34) dX8_init_34 fl_X8_25 rfl rfl rfl (Or.inr ⟨_, rfl⟩) hS9 ?_
  refine a_aload_n (pc := 37) dX8_init_37 rfl (isRv_r _) ?_
  refine a_bipush (pc := 38) 72 dX8_init_38 rfl ?_
  obtain ⟨zw10, hzw10, hf⟩ := Option.bind_eq_some_iff.mp hf
  obtain ⟨zb11, S12⟩ := zw10
  have hf := (prp_of _ _ _).symm.trans hf
  refine g_newI (pc := 40) (B := 72) dX8_init_40 (by decide) hzw10 (by omega) (by omega) ?_
  obtain ⟨S13, hS13, hf⟩ := Option.bind_eq_some_iff.mp hf
  refine g_putQF (pc := 42) dX8_init_42 fl_X8_29 rfl rfl rfl (Or.inr ⟨_, rfl⟩) hS13 ?_
  refine a_aload_n (pc := 45) dX8_init_45 rfl (isRv_r _) ?_
  refine a_bipush (pc := 46) 72 dX8_init_46 rfl ?_
  obtain ⟨zw14, hzw14, hf⟩ := Option.bind_eq_some_iff.mp hf
  obtain ⟨zb15, S16⟩ := zw14
  have hf := (prp_of _ _ _).symm.trans hf
  refine g_newI (pc := 48) (B := 72) dX8_init_48 (by decide) hzw14 (by omega) (by omega) ?_
  obtain ⟨S17, hS17, hf⟩ := Option.bind_eq_some_iff.mp hf
  refine g_putQF (pc := 50) dX8_init_50 fl_X8_32 rfl rfl rfl (Or.inr ⟨_, rfl⟩) hS17 ?_
  refine a_aload_n (pc := 53) dX8_init_53 rfl (isRv_r _) ?_
  refine a_bipush (pc := 54) 6 dX8_init_54 rfl ?_
  obtain ⟨zw18, hzw18, hf⟩ := Option.bind_eq_some_iff.mp hf
  obtain ⟨zb19, S20⟩ := zw18
  have hf := (prp_of _ _ _).symm.trans hf
  refine g_newI (pc := 56) (B := 6) dX8_init_56 (by decide) hzw18 (by omega) (by omega) ?_
  obtain ⟨S21, hS21, hf⟩ := Option.bind_eq_some_iff.mp hf
  refine g_putQF (pc := 58) dX8_init_58 fl_X8_35 rfl rfl rfl (Or.inr ⟨_, rfl⟩) hS21 ?_
  refine a_aload_n (pc := 61) dX8_init_61 rfl (isRv_r _) ?_
  refine a_iconst (pc := 62) 5 dX8_init_62 rfl ?_
  obtain ⟨zw22, hzw22, hf⟩ := Option.bind_eq_some_iff.mp hf
  obtain ⟨zb23, S24⟩ := zw22
  have hf := (prp_of _ _ _).symm.trans hf
  refine g_newI (pc := 63) (B := 5) dX8_init_63 (by decide) hzw22 (by omega) (by omega) ?_
  obtain ⟨S25, hS25, hf⟩ := Option.bind_eq_some_iff.mp hf
  refine g_putQF (pc := 65) dX8_init_65 fl_X8_38 rfl rfl rfl (Or.inr ⟨_, rfl⟩) hS25 ?_
  refine a_aload_n (pc := 68) dX8_init_68 rfl (isRv_r _) ?_
  refine a_bipush (pc := 69) 40 dX8_init_69 rfl ?_
  obtain ⟨zw26, hzw26, hf⟩ := Option.bind_eq_some_iff.mp hf
  obtain ⟨zb27, S28⟩ := zw26
  have hf := (prp_of _ _ _).symm.trans hf
  refine g_newI (pc := 71) (B := 40) dX8_init_71 (by decide) hzw26 (by omega) (by omega) ?_
  obtain ⟨S29, hS29, hf⟩ := Option.bind_eq_some_iff.mp hf
  refine g_putQF (pc := 73) dX8_init_73 fl_X8_41 rfl rfl rfl (Or.inr ⟨_, rfl⟩) hS29 ?_
  refine a_aload_n (pc := 76) dX8_init_76 rfl (isRv_r _) ?_
  refine a_bipush (pc := 77) 40 dX8_init_77 rfl ?_
  obtain ⟨zw30, hzw30, hf⟩ := Option.bind_eq_some_iff.mp hf
  obtain ⟨zb31, S32⟩ := zw30
  have hf := (prp_of _ _ _).symm.trans hf
  refine g_newI (pc := 79) (B := 40) dX8_init_79 (by decide) hzw30 (by omega) (by omega) ?_
  obtain ⟨S33, hS33, hf⟩ := Option.bind_eq_some_iff.mp hf
  refine g_putQF (pc := 81) dX8_init_81 fl_X8_44 rfl rfl rfl (Or.inr ⟨_, rfl⟩) hS33 ?_
  refine a_aload_n (pc := 84) dX8_init_84 rfl (isRv_r _) ?_
  refine a_bipush (pc := 85) 40 dX8_init_85 rfl ?_
  obtain ⟨zw34, hzw34, hf⟩ := Option.bind_eq_some_iff.mp hf
  obtain ⟨zb35, S36⟩ := zw34
  have hf := (prp_of _ _ _).symm.trans hf
  refine g_newI (pc := 87) (B := 40) dX8_init_87 (by decide) hzw34 (by omega) (by omega) ?_
  obtain ⟨S37, hS37, hf⟩ := Option.bind_eq_some_iff.mp hf
  refine g_putQF (pc := 89) dX8_init_89 fl_X8_47 rfl rfl rfl (Or.inr ⟨_, rfl⟩) hS37 ?_
  refine a_aload_n (pc := 92) dX8_init_92 rfl (isRv_r _) ?_
  refine a_bipush (pc := 93) 40 dX8_init_93 rfl ?_
  obtain ⟨zw38, hzw38, hf⟩ := Option.bind_eq_some_iff.mp hf
  obtain ⟨zb39, S40⟩ := zw38
  have hf := (prp_of _ _ _).symm.trans hf
  refine g_newI (pc := 95) (B := 40) dX8_init_95 (by decide) hzw38 (by omega) (by omega) ?_
  obtain ⟨S41, hS41, hf⟩ := Option.bind_eq_some_iff.mp hf
  refine g_putQF (pc := 97) dX8_init_97 fl_X8_50 rfl rfl rfl (Or.inr ⟨_, rfl⟩) hS41 ?_
  refine a_aload_n (pc := 100) dX8_init_100 rfl (isRv_r _) ?_
  refine a_sipush (pc := 101) 500 dX8_init_101 rfl ?_
  obtain ⟨zw42, hzw42, hf⟩ := Option.bind_eq_some_iff.mp hf
  obtain ⟨zb43, S44⟩ := zw42
  have hf := (prp_of _ _ _).symm.trans hf
  refine g_newI (pc := 104) (B := 500) dX8_init_104 (by decide) hzw42 (by omega) (by omega) ?_
  obtain ⟨S45, hS45, hf⟩ := Option.bind_eq_some_iff.mp hf
  refine g_putQF (pc := 106) dX8_init_106 fl_X8_53 rfl rfl rfl (Or.inr ⟨_, rfl⟩) hS45 ?_
  refine a_aload_n (pc := 109) dX8_init_109 rfl (isRv_r _) ?_
  refine a_bipush (pc := 110) 101 dX8_init_110 rfl ?_
  obtain ⟨zw46, hzw46, hf⟩ := Option.bind_eq_some_iff.mp hf
  obtain ⟨zb47, S48⟩ := zw46
  have hf := (prp_of _ _ _).symm.trans hf
  refine g_newI (pc := 112) (B := 101) dX8_init_112 (by decide) hzw46 (by omega) (by omega) ?_
  obtain ⟨S49, hS49, hf⟩ := Option.bind_eq_some_iff.mp hf
  refine g_putQF (pc := 114) dX8_init_114 fl_X8_56 rfl rfl rfl (Or.inr ⟨_, rfl⟩) hS49 ?_
  refine a_aload_n (pc := 117) dX8_init_117 rfl (isRv_r _) ?_
  refine a_iconst (pc := 118) 0 dX8_init_118 rfl ?_
  obtain ⟨S50, hS50, hf⟩ := Option.bind_eq_some_iff.mp hf
  refine g_putI (pc := 119) dX8_init_119 fl_X8_59 rfl rfl hS50 ?_
  refine a_aload_n (pc := 122) dX8_init_122 rfl (isRv_r _) ?_
  refine a_iconst (pc := 123) 0 dX8_init_123 rfl ?_
  obtain ⟨S51, hS51, hf⟩ := Option.bind_eq_some_iff.mp hf
  refine g_putI (pc := 124) dX8_init_124 fl_X8_62 rfl rfl hS51 ?_
  refine a_aload_n (pc := 127) dX8_init_127 rfl (isRv_r _) ?_
  refine a_iconst (pc := 128) 0 dX8_init_128 rfl ?_
  obtain ⟨S52, hS52, hf⟩ := Option.bind_eq_some_iff.mp hf
  refine g_putI (pc := 129) dX8_init_129 fl_X8_65 rfl rfl hS52 ?_
  refine a_aload_n (pc := 132) dX8_init_132 rfl (isRv_r _) ?_
  refine a_bipush (pc := 133) 10 dX8_init_133 rfl ?_
  obtain ⟨zw53, hzw53, hf⟩ := Option.bind_eq_some_iff.mp hf
  obtain ⟨zb54, S55⟩ := zw53
  have hf := (prp_of _ _ _).symm.trans hf
  refine g_newI (pc := 135) (B := 10) dX8_init_135 (by decide) hzw53 (by omega) (by omega) ?_
  refine a_dup (pc := 137) dX8_init_137 rfl ?_
  refine a_iconst (pc := 138) 0 dX8_init_138 rfl ?_
  refine a_iconst (pc := 139) 5 dX8_init_139 rfl ?_
  obtain ⟨S56, hS56, hf⟩ := Option.bind_eq_some_iff.mp hf
  refine g_iast (pc := 140) dX8_init_140 hS56 ?_
  refine a_dup (pc := 141) dX8_init_141 rfl ?_
  refine a_iconst (pc := 142) 1 dX8_init_142 rfl ?_
  refine a_iconst (pc := 143) 5 dX8_init_143 rfl ?_
  obtain ⟨S57, hS57, hf⟩ := Option.bind_eq_some_iff.mp hf
  refine g_iast (pc := 144) dX8_init_144 hS57 ?_
  refine a_dup (pc := 145) dX8_init_145 rfl ?_
  refine a_iconst (pc := 146) 2 dX8_init_146 rfl ?_
  refine a_iconst (pc := 147) 5 dX8_init_147 rfl ?_
  obtain ⟨S58, hS58, hf⟩ := Option.bind_eq_some_iff.mp hf
  refine g_iast (pc := 148) dX8_init_148 hS58 ?_
  refine a_dup (pc := 149) dX8_init_149 rfl ?_
  refine a_iconst (pc := 150) 3 dX8_init_150 rfl ?_
  refine a_iconst (pc := 151) 5 dX8_init_151 rfl ?_
  obtain ⟨S59, hS59, hf⟩ := Option.bind_eq_some_iff.mp hf
  refine g_iast (pc := 152) dX8_init_152 hS59 ?_
  refine a_dup (pc := 153) dX8_init_153 rfl ?_
  refine a_iconst (pc := 154) 4 dX8_init_154 rfl ?_
  refine a_iconst (pc := 155) 5 dX8_init_155 rfl ?_
  obtain ⟨S60, hS60, hf⟩ := Option.bind_eq_some_iff.mp hf
  refine g_iast (pc := 156) dX8_init_156 hS60 ?_
  refine a_dup (pc := 157) dX8_init_157 rfl ?_
  refine a_iconst (pc := 158) 5 dX8_init_158 rfl ?_
  refine a_iconst (pc := 159) 5 dX8_init_159 rfl ?_
  obtain ⟨S61, hS61, hf⟩ := Option.bind_eq_some_iff.mp hf
  refine g_iast (pc := 160) dX8_init_160 hS61 ?_
  refine a_dup (pc := 161) dX8_init_161 rfl ?_
  refine a_bipush (pc := 162) 6 dX8_init_162 rfl ?_
  refine a_iconst (pc := 164) 5 dX8_init_164 rfl ?_
  obtain ⟨S62, hS62, hf⟩ := Option.bind_eq_some_iff.mp hf
  refine g_iast (pc := 165) dX8_init_165 hS62 ?_
  refine a_dup (pc := 166) dX8_init_166 rfl ?_
  refine a_bipush (pc := 167) 7 dX8_init_167 rfl ?_
  refine a_iconst (pc := 169) 5 dX8_init_169 rfl ?_
  obtain ⟨S63, hS63, hf⟩ := Option.bind_eq_some_iff.mp hf
  refine g_iast (pc := 170) dX8_init_170 hS63 ?_
  refine a_dup (pc := 171) dX8_init_171 rfl ?_
  refine a_bipush (pc := 172) 8 dX8_init_172 rfl ?_
  refine a_iconst (pc := 174) 5 dX8_init_174 rfl ?_
  obtain ⟨S64, hS64, hf⟩ := Option.bind_eq_some_iff.mp hf
  refine g_iast (pc := 175) dX8_init_175 hS64 ?_
  refine a_dup (pc := 176) dX8_init_176 rfl ?_
  refine a_bipush (pc := 177) 9 dX8_init_177 rfl ?_
  refine a_iconst (pc := 179) 5 dX8_init_179 rfl ?_
  obtain ⟨S65, hS65, hf⟩ := Option.bind_eq_some_iff.mp hf
  refine g_iast (pc := 180) dX8_init_180 hS65 ?_
  obtain ⟨S66, hS66, hf⟩ := Option.bind_eq_some_iff.mp hf
  refine g_putQF (pc := 181) dX8_init_181 fl_X8_68 rfl rfl rfl (Or.inr ⟨_, rfl⟩) hS66 ?_
  refine a_aload_n (pc := 184) dX8_init_184 rfl (isRv_r _) ?_
  refine a_bipush (pc := 185) 12 dX8_init_185 rfl ?_
  obtain ⟨zw67, hzw67, hf⟩ := Option.bind_eq_some_iff.mp hf
  obtain ⟨zb68, S69⟩ := zw67
  have hf := (prp_of _ _ _).symm.trans hf
  refine g_newI (pc := 187) (B := 12) dX8_init_187 (by decide) hzw67 (by omega) (by omega) ?_
  obtain ⟨S70, hS70, hf⟩ := Option.bind_eq_some_iff.mp hf
  refine g_putQF (pc := 189) dX8_init_189 fl_X8_71 rfl rfl rfl (Or.inr ⟨_, rfl⟩) hS70 ?_
  refine a_aload_n (pc := 192) dX8_init_192 rfl (isRv_r _) ?_
  refine a_bipush (pc := 193) 12 dX8_init_193 rfl ?_
  obtain ⟨zw71, hzw71, hf⟩ := Option.bind_eq_some_iff.mp hf
  obtain ⟨zb72, S73⟩ := zw71
  have hf := (prp_of _ _ _).symm.trans hf
  refine g_newI (pc := 195) (B := 12) dX8_init_195 (by decide) hzw71 (by omega) (by omega) ?_
  obtain ⟨S74, hS74, hf⟩ := Option.bind_eq_some_iff.mp hf
  refine g_putQF (pc := 197) dX8_init_197 fl_X8_74 rfl rfl rfl (Or.inr ⟨_, rfl⟩) hS74 ?_
  refine a_aload_n (pc := 200) dX8_init_200 rfl (isRv_r _) ?_
  refine a_bipush (pc := 201) 12 dX8_init_201 rfl ?_
  obtain ⟨zw75, hzw75, hf⟩ := Option.bind_eq_some_iff.mp hf
  obtain ⟨zb76, S77⟩ := zw75
  have hf := (prp_of _ _ _).symm.trans hf
  refine g_newI (pc := 203) (B := 12) dX8_init_203 (by decide) hzw75 (by omega) (by omega) ?_
  obtain ⟨S78, hS78, hf⟩ := Option.bind_eq_some_iff.mp hf
  refine g_putQF (pc := 205) dX8_init_205 fl_X8_77 rfl rfl rfl (Or.inr ⟨_, rfl⟩) hS78 ?_
  refine a_aload_n (pc := 208) dX8_init_208 rfl (isRv_r _) ?_
  refine a_bipush (pc := 209) 12 dX8_init_209 rfl ?_
  obtain ⟨zw79, hzw79, hf⟩ := Option.bind_eq_some_iff.mp hf
  obtain ⟨zb80, S81⟩ := zw79
  have hf := (prp_of _ _ _).symm.trans hf
  refine g_newI (pc := 211) (B := 12) dX8_init_211 (by decide) hzw79 (by omega) (by omega) ?_
  obtain ⟨S82, hS82, hf⟩ := Option.bind_eq_some_iff.mp hf
  refine g_putQF (pc := 213) dX8_init_213 fl_X8_80 rfl rfl rfl (Or.inr ⟨_, rfl⟩) hS82 ?_
  refine a_aload_n (pc := 216) dX8_init_216 rfl (isRv_r _) ?_
  refine a_bipush (pc := 217) 12 dX8_init_217 rfl ?_
  obtain ⟨zw83, hzw83, hf⟩ := Option.bind_eq_some_iff.mp hf
  obtain ⟨zb84, S85⟩ := zw83
  have hf := (prp_of _ _ _).symm.trans hf
  refine g_newI (pc := 219) (B := 12) dX8_init_219 (by decide) hzw83 (by omega) (by omega) ?_
  obtain ⟨S86, hS86, hf⟩ := Option.bind_eq_some_iff.mp hf
  refine g_putQF (pc := 221) dX8_init_221 fl_X8_83 rfl rfl rfl (Or.inr ⟨_, rfl⟩) hS86 ?_
  refine a_aload_n (pc := 224) dX8_init_224 rfl (isRv_r _) ?_
  refine a_bipush (pc := 225) 12 dX8_init_225 rfl ?_
  obtain ⟨zw87, hzw87, hf⟩ := Option.bind_eq_some_iff.mp hf
  obtain ⟨zb88, S89⟩ := zw87
  have hf := (prp_of _ _ _).symm.trans hf
  refine g_newI (pc := 227) (B := 12) dX8_init_227 (by decide) hzw87 (by omega) (by omega) ?_
  obtain ⟨S90, hS90, hf⟩ := Option.bind_eq_some_iff.mp hf
  refine g_putQF (pc := 229) dX8_init_229 fl_X8_86 rfl rfl rfl (Or.inr ⟨_, rfl⟩) hS90 ?_
  refine a_aload_n (pc := 232) dX8_init_232 rfl (isRv_r _) ?_
  refine a_bipush (pc := 233) 12 dX8_init_233 rfl ?_
  obtain ⟨zw91, hzw91, hf⟩ := Option.bind_eq_some_iff.mp hf
  obtain ⟨zb92, S93⟩ := zw91
  have hf := (prp_of _ _ _).symm.trans hf
  refine g_newI (pc := 235) (B := 12) dX8_init_235 (by decide) hzw91 (by omega) (by omega) ?_
  obtain ⟨S94, hS94, hf⟩ := Option.bind_eq_some_iff.mp hf
  refine g_putQF (pc := 237) dX8_init_237 fl_X8_89 rfl rfl rfl (Or.inr ⟨_, rfl⟩) hS94 ?_
  refine a_aload_n (pc := 240) dX8_init_240 rfl (isRv_r _) ?_
  refine a_iconst (pc := 241) 0 dX8_init_241 rfl ?_
  obtain ⟨S95, hS95, hf⟩ := Option.bind_eq_some_iff.mp hf
  refine g_putI (pc := 242) dX8_init_242 fl_X8_92 rfl rfl hS95 ?_
  refine a_aload_n (pc := 245) dX8_init_245 rfl (isRv_r _) ?_
  refine a_iconst (pc := 246) 0 dX8_init_246 rfl ?_
  obtain ⟨S96, hS96, hf⟩ := Option.bind_eq_some_iff.mp hf
  refine g_putI (pc := 247) dX8_init_247 fl_X8_95 rfl rfl hS96 ?_
  refine a_aload_n (pc := 250) dX8_init_250 rfl (isRv_r _) ?_
  refine a_iconst (pc := 251) 0 dX8_init_251 rfl ?_
  obtain ⟨S97, hS97, hf⟩ := Option.bind_eq_some_iff.mp hf
  refine g_putI (pc := 252) dX8_init_252 fl_X8_98 rfl rfl hS97 ?_
  refine a_aload_n (pc := 255) dX8_init_255 rfl (isRv_r _) ?_
  refine a_iconst (pc := 256) 0 dX8_init_256 rfl ?_
  obtain ⟨S98, hS98, hf⟩ := Option.bind_eq_some_iff.mp hf
  refine g_putI (pc := 257) dX8_init_257 fl_X8_101 rfl rfl hS98 ?_
  refine a_aload_n (pc := 260) dX8_init_260 rfl (isRv_r _) ?_
  refine a_bipush (pc := 261) 100 dX8_init_261 rfl ?_
  obtain ⟨zw99, hzw99, hf⟩ := Option.bind_eq_some_iff.mp hf
  obtain ⟨zb100, S101⟩ := zw99
  have hf := (prp_of _ _ _).symm.trans hf
  refine g_newZ (pc := 263) (B := 100) dX8_init_263 (by decide) hzw99 (by omega) (by omega) ?_
  obtain ⟨S102, hS102, hf⟩ := Option.bind_eq_some_iff.mp hf
  refine g_putQF (pc := 265) dX8_init_265 fl_X8_104 rfl rfl rfl (Or.inr ⟨_, rfl⟩) hS102 ?_
  refine a_aload_n (pc := 268) dX8_init_268 rfl (isRv_r _) ?_
  refine a_bipush (pc := 269) 12 dX8_init_269 rfl ?_
  obtain ⟨zw103, hzw103, hf⟩ := Option.bind_eq_some_iff.mp hf
  obtain ⟨zb104, S105⟩ := zw103
  have hf := (prp_of _ _ _).symm.trans hf
  refine g_newJ (pc := 271) (B := 12) dX8_init_271 (by decide) hzw103 (by omega) (by omega) ?_
  obtain ⟨S106, hS106, hf⟩ := Option.bind_eq_some_iff.mp hf
  refine g_putQF (pc := 273) dX8_init_273 fl_X8_108 rfl rfl rfl (Or.inr ⟨_, rfl⟩) hS106 ?_
  refine a_aload_n (pc := 276) dX8_init_276 rfl (isRv_r _) ?_
  refine a_iconst (pc := 277) (-1) dX8_init_277 rfl ?_
  obtain ⟨S107, hS107, hf⟩ := Option.bind_eq_some_iff.mp hf
  refine g_putI (pc := 278) dX8_init_278 fl_X8_112 rfl rfl hS107 ?_
  refine a_aload_n (pc := 281) dX8_init_281 rfl (isRv_r _) ?_
  refine a_sipush (pc := 282) 4096 dX8_init_282 rfl ?_
  obtain ⟨zw108, hzw108, hf⟩ := Option.bind_eq_some_iff.mp hf
  obtain ⟨zb109, S110⟩ := zw108
  have hf := (prp_of _ _ _).symm.trans hf
  refine g_newZ (pc := 285) (B := 4096) dX8_init_285 (by decide) hzw108 (by omega) (by omega) ?_
  obtain ⟨S111, hS111, hf⟩ := Option.bind_eq_some_iff.mp hf
  refine g_putQF (pc := 287) dX8_init_287 fl_X8_115 rfl rfl rfl (Or.inr ⟨_, rfl⟩) hS111 ?_
  refine a_aload_n (pc := 290) dX8_init_290 rfl (isRv_r _) ?_
  refine a_iconst (pc := 291) (-1) dX8_init_291 rfl ?_
  obtain ⟨S112, hS112, hf⟩ := Option.bind_eq_some_iff.mp hf
  refine g_putI (pc := 292) dX8_init_292 fl_X8_118 rfl rfl hS112 ?_
  refine a_aload_n (pc := 295) dX8_init_295 rfl (isRv_r _) ?_
  refine a_iconst (pc := 296) (-1) dX8_init_296 rfl ?_
  obtain ⟨S113, hS113, hf⟩ := Option.bind_eq_some_iff.mp hf
  refine g_putI (pc := 297) dX8_init_297 fl_X8_121 rfl rfl hS113 ?_
  refine a_aload_n (pc := 300) dX8_init_300 rfl (isRv_r _) ?_
  refine a_iconst (pc := 301) 0 dX8_init_301 rfl ?_
  obtain ⟨S114, hS114, hf⟩ := Option.bind_eq_some_iff.mp hf
  refine g_putI (pc := 302) dX8_init_302 fl_X8_124 rfl rfl hS114 ?_
  refine a_aload_n (pc := 305) dX8_init_305 rfl (isRv_r _) ?_
  refine a_bipush (pc := 306) 20 dX8_init_306 rfl ?_
  obtain ⟨zw115, hzw115, hf⟩ := Option.bind_eq_some_iff.mp hf
  obtain ⟨zb116, S117⟩ := zw115
  have hf := (prp_of _ _ _).symm.trans hf
  refine g_newI (pc := 308) (B := 20) dX8_init_308 (by decide) hzw115 (by omega) (by omega) ?_
  obtain ⟨S118, hS118, hf⟩ := Option.bind_eq_some_iff.mp hf
  refine g_putQF (pc := 310) dX8_init_310 fl_X8_127 rfl rfl rfl (Or.inr ⟨_, rfl⟩) hS118 ?_
  refine a_aload_n (pc := 313) dX8_init_313 rfl (isRv_r _) ?_
  refine a_bipush (pc := 314) 6 dX8_init_314 rfl ?_
  obtain ⟨zw119, hzw119, hf⟩ := Option.bind_eq_some_iff.mp hf
  obtain ⟨zb120, S121⟩ := zw119
  have hf := (prp_of _ _ _).symm.trans hf
  refine g_newI (pc := 316) (B := 6) dX8_init_316 (by decide) hzw119 (by omega) (by omega) ?_
  refine a_dup (pc := 318) dX8_init_318 rfl ?_
  refine a_iconst (pc := 319) 0 dX8_init_319 rfl ?_
  refine a_iconst (pc := 320) (-1) dX8_init_320 rfl ?_
  obtain ⟨S122, hS122, hf⟩ := Option.bind_eq_some_iff.mp hf
  refine g_iast (pc := 321) dX8_init_321 hS122 ?_
  refine a_dup (pc := 322) dX8_init_322 rfl ?_
  refine a_iconst (pc := 323) 1 dX8_init_323 rfl ?_
  refine a_iconst (pc := 324) (-1) dX8_init_324 rfl ?_
  obtain ⟨S123, hS123, hf⟩ := Option.bind_eq_some_iff.mp hf
  refine g_iast (pc := 325) dX8_init_325 hS123 ?_
  refine a_dup (pc := 326) dX8_init_326 rfl ?_
  refine a_iconst (pc := 327) 2 dX8_init_327 rfl ?_
  refine a_iconst (pc := 328) (-1) dX8_init_328 rfl ?_
  obtain ⟨S124, hS124, hf⟩ := Option.bind_eq_some_iff.mp hf
  refine g_iast (pc := 329) dX8_init_329 hS124 ?_
  refine a_dup (pc := 330) dX8_init_330 rfl ?_
  refine a_iconst (pc := 331) 3 dX8_init_331 rfl ?_
  refine a_iconst (pc := 332) (-1) dX8_init_332 rfl ?_
  obtain ⟨S125, hS125, hf⟩ := Option.bind_eq_some_iff.mp hf
  refine g_iast (pc := 333) dX8_init_333 hS125 ?_
  refine a_dup (pc := 334) dX8_init_334 rfl ?_
  refine a_iconst (pc := 335) 4 dX8_init_335 rfl ?_
  refine a_iconst (pc := 336) (-1) dX8_init_336 rfl ?_
  obtain ⟨S126, hS126, hf⟩ := Option.bind_eq_some_iff.mp hf
  refine g_iast (pc := 337) dX8_init_337 hS126 ?_
  refine a_dup (pc := 338) dX8_init_338 rfl ?_
  refine a_iconst (pc := 339) 5 dX8_init_339 rfl ?_
  refine a_iconst (pc := 340) (-1) dX8_init_340 rfl ?_
  obtain ⟨S127, hS127, hf⟩ := Option.bind_eq_some_iff.mp hf
  refine g_iast (pc := 341) dX8_init_341 hS127 ?_
  obtain ⟨S128, hS128, hf⟩ := Option.bind_eq_some_iff.mp hf
  refine g_putQF (pc := 342) dX8_init_342 fl_X8_130 rfl rfl rfl (Or.inr ⟨_, rfl⟩) hS128 ?_
  refine a_aload_n (pc := 345) dX8_init_345 rfl (isRv_r _) ?_
  refine a_bipush (pc := 346) 6 dX8_init_346 rfl ?_
  obtain ⟨zw129, hzw129, hf⟩ := Option.bind_eq_some_iff.mp hf
  obtain ⟨zb130, S131⟩ := zw129
  have hf := (prp_of _ _ _).symm.trans hf
  refine g_newI (pc := 348) (B := 6) dX8_init_348 (by decide) hzw129 (by omega) (by omega) ?_
  obtain ⟨S132, hS132, hf⟩ := Option.bind_eq_some_iff.mp hf
  refine g_putQF (pc := 350) dX8_init_350 fl_X8_133 rfl rfl rfl (Or.inr ⟨_, rfl⟩) hS132 ?_
  refine a_aload_n (pc := 353) dX8_init_353 rfl (isRv_r _) ?_
  refine a_sipush (pc := 354) 360 dX8_init_354 rfl ?_
  obtain ⟨zw133, hzw133, hf⟩ := Option.bind_eq_some_iff.mp hf
  obtain ⟨zb134, S135⟩ := zw133
  have hf := (prp_of _ _ _).symm.trans hf
  refine g_newJ (pc := 357) (B := 360) dX8_init_357 (by decide) hzw133 (by omega) (by omega) ?_
  obtain ⟨S136, hS136, hf⟩ := Option.bind_eq_some_iff.mp hf
  refine g_putQF (pc := 359) dX8_init_359 fl_X8_136 rfl rfl rfl (Or.inr ⟨_, rfl⟩) hS136 ?_
  refine a_aload_n (pc := 362) dX8_init_362 rfl (isRv_r _) ?_
  refine a_bipush (pc := 363) 60 dX8_init_363 rfl ?_
  obtain ⟨zw137, hzw137, hf⟩ := Option.bind_eq_some_iff.mp hf
  obtain ⟨zb138, S139⟩ := zw137
  have hf := (prp_of _ _ _).symm.trans hf
  refine g_newJ (pc := 365) (B := 60) dX8_init_365 (by decide) hzw137 (by omega) (by omega) ?_
  obtain ⟨S140, hS140, hf⟩ := Option.bind_eq_some_iff.mp hf
  refine g_putQF (pc := 367) dX8_init_367 fl_X8_139 rfl rfl rfl (Or.inr ⟨_, rfl⟩) hS140 ?_
  have hf := Option.some.inj hf
  subst hf
  exact a_return (pc := 370) dX8_init_370 (by omega) (by omega) ⟨rfl, rfl⟩
set_option maxRecDepth 100000 in
set_option maxHeartbeats 4000000 in
theorem mX8_init {l : Launch} {g : gE} {d : Nat} {a0 : Nat} (hd : 0 ≤ d) {r : Unit × AH} {S : AH} (hf : X8_init S a0 = some r) : AM l g d yX8_init cX8_init 1 none 27 5770 [.ref a0] S (Qr (none) r.2) := by
  refine AM.of rfl (by exact Nat.le_of_ble_eq_true rfl) (fun v h' q => by obtain ⟨rfl, -⟩ := q; rfl) (fun ls e => ?_)
  have e2 : aBeg [.ref a0] 1 = [some (.ref a0)] := rfl
  rw [e2] at e
  subst e
  refine a_sub (sub_k (sub_n)) ?_
  exact sX8_init_0 hd (by omega) (by omega) (hf)
