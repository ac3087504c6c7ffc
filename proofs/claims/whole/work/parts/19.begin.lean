/-! THE CLAIM OUT OF ONE WALK OF THE LAW'S BODY. Your part is whole_start (and what it stands on); all else here is the same for every law, but numbers. -/
def R_law : String := "PencilStrikesLaw"
def lw_P (b : Addr) (xs : List Int32) (args : Array Value) (s : State) : Prop := args = #[.ref b] ∧ s.IntsAt b xs ∧ xs.length ≤ 384 ∧ (Jvm.Cond.and given_1 narrow_1).before args s = true
def lw_Q (_ : Array Value) (s : State) (o : Outcome) (t : State) : Prop := o = .returned (some (.int 1)) ∧ Framed s o t [] 600000 7302250
def lw_Z (below : List Frame) (a : Array Value) (s : State) : State → Prop := fun t => ∃ o, t.status = .running ∧ Ended t below o ∧ lw_Q a s o t
/-- the law's own end, with 1 on the stack, nothing written that was there before, its room as the claim has it -/
theorem lw_ret {p : Program} {l : Launch} {e : Env} {s : State} {m : MethodId} {below : List Frame} {meth : Method} {c : Code} {b : Nat} (hx : p.tables.exec = Jvm.exec) (hb : c.code = code) (hr : meth.sig.returnType = ret) (hlocks : meth.locks = false) {pc : Nat} {H : Heap} {ls : Array Slot} (hdg : decode code pc = .ok (.ireturn, 1)) : W p l e room_1 s m #[Value.ref b] below meth c H [] 600000 7302250 (lw_Z below #[Value.ref b] s) (F0 m pc ls [.int 1]) := by
  intro T hT X
  obtain ⟨fs, hret, hrun, hended, hW, hframe⟩ := X.leave (v := some (.int 1)) (hlocks := hlocks) (fun h => by rw [hr] at h; cases h)
  have hmeth' : T.vm.method? m = some meth := X.method'
  refine ⟨T.setFrames fs, ?_, .returned (some (.int 1)), hrun, hended, rfl, ⟨_, rfl⟩, hW, hframe⟩
  jvm_step X.here [X.here.top, hx, hb, hdg, hmeth', hr, ret, narrow_b1]
  (try refine ⟨rfl, ?_⟩); (try refine ⟨rfl, ?_⟩)
  first | (intro acts; rw [hret _ acts rfl rfl rfl]) | rw [hret _ _ rfl rfl rfl]
  exact Steps.refl _
/-- what holds at the law's entry: the machine, the code, the tables' words (any of lw_tbl by 'hts w (by decide +kernel)'), the script of L ints xs at the cell b, what the Statement gives of the start (any of its parts by flat_of_before) -/
def lw_At (p : Program) (s : State) (m : MethodId) (meth : Method) (c : Code) (b L : Nat) (xs : Nat → Int32) : Prop :=
  p.tables.exec = Jvm.exec ∧ c.code = code ∧ meth.sig.returnType = ret ∧ c.maxLocals = 4 ∧ s.vm.findClass R_law = some m.cls ∧ (∀ w ∈ lw_tbl, w.before #[Value.ref b] s = true) ∧ va_X b L xs s s.heap ∧ b < s.heap.size ∧ meth.locks = false ∧ (Jvm.Cond.and given_1 narrow_1).before #[Value.ref b] s = true
theorem kD8_ok (g : gE) : ∀ j, j < kC 8 → defaultValue (kY 8 j) = vp_V (kD8.map (cv g)) j := by
  intro j hj
  have hj : j < 43 := hj
  rcases (show j = 0 ∨ j = 1 ∨ j = 2 ∨ j = 3 ∨ j = 4 ∨ j = 5 ∨ j = 6 ∨ j = 7 ∨ j = 8 ∨ j = 9 ∨ j = 10 ∨ j = 11 ∨ j = 12 ∨ j = 13 ∨ j = 14 ∨ j = 15 ∨ j = 16 ∨ j = 17 ∨ j = 18 ∨ j = 19 ∨ j = 20 ∨ j = 21 ∨ j = 22 ∨ j = 23 ∨ j = 24 ∨ j = 25 ∨ j = 26 ∨ j = 27 ∨ j = 28 ∨ j = 29 ∨ j = 30 ∨ j = 31 ∨ j = 32 ∨ j = 33 ∨ j = 34 ∨ j = 35 ∨ j = 36 ∨ j = 37 ∨ j = 38 ∨ j = 39 ∨ j = 40 ∨ j = 41 ∨ j = 42 by omega) with rfl | rfl | rfl | rfl | rfl | rfl | rfl | rfl | rfl | rfl | rfl | rfl | rfl | rfl | rfl | rfl | rfl | rfl | rfl | rfl | rfl | rfl | rfl | rfl | rfl | rfl | rfl | rfl | rfl | rfl | rfl | rfl | rfl | rfl | rfl | rfl | rfl | rfl | rfl | rfl | rfl | rfl | rfl <;> rfl
theorem law_start {l : Launch} {g : gE} {nm : String} {inv : CS → MS → List va_E → Prop} (hL : gL g ≤ 384) (H : specs inv) (h0 : inv C0 M0 []) :
    AW l g 100 RL cL_law 4 nm 600000 7302250 (fun v _ => v = some (.int 1)) 0 0 0 [some (.retAddr 12), none, none, none] [] [] := by
  refine g_new (pc := 0) (ci := 7) dL_law_0 nw_L_7 (by decide) (by omega) (by show _ + 10 ≤ _; omega) ?_
  rw [show kC 7 = 10 from rfl]
  refine a_dup (pc := 3) dL_law_3 rfl ?_
  refine g_calli (pc := 4) (mc := 29) (ms := 882) [] [.ref 0] dL_law_4 ml_L_9 mi_X7_init rfl (by omega) (mX7_init (by omega) init7) rfl (Nat.le_of_ble_eq_true rfl) (by omega) (by omega) ?_
  refine a_astore_n (pc := 7) (ls' := [some (.retAddr 12), some (.ref 0), none, none]) dL_law_7 (by decide) (isRv_r _) rfl ?_
  refine a_new (pc := 8) 8 kD8 dL_law_8 nw_L_10 (kD8_ok g) (by omega) (by show _ + 43 ≤ _; omega) ?_
  rw [show kC 8 = 43 from rfl]
  refine a_dup (pc := 11) dL_law_11 rfl ?_
  refine g_calli (pc := 12) (mc := 27) (ms := 5770) [] [.ref 26] dL_law_12 ml_L_12 mi_X8_init rfl (by omega) (mX8_init (by omega) (init8 (cc_len C0))) rfl (Nat.le_of_ble_eq_true rfl) (by omega) (by omega) ?_
  refine a_astore_n (pc := 15) (ls' := [some (.retAddr 12), some (.ref 0), some (.ref 26), none]) dL_law_15 (by decide) (isRv_r _) rfl ?_
  refine a_iconst (pc := 16) 0 dL_law_16 rfl ?_
  refine a_istore_n (pc := 17) (ls' := [some (.retAddr 12), some (.ref 0), some (.ref 26), some (.int 0)]) dL_law_17 (by decide) rfl ?_
  exact law_loop (by omega) hL H 64 0 _ _ C0 M0 [] h0 (by omega) (by omega) (by omega) (by omega)
-- ===== the start that the Statement gives, in the words of part 06 =====
theorem arr_prim {args : Array Value} {s : State} {ty : FieldType} (h : (Cond.arrayClass ty).before args s = true) (hv : va_RA s = fun c t => va_RA s c t) : ∃ c, ArrOfT s c ty ∧ s.vm.findClass ("[" ++ ty.toString) = some c := by
  obtain ⟨c, k, comp, h1, h2, h3⟩ := Cond.arrayClass_spec h
  exact ⟨c, fun n z => ⟨fun k h => (by cases h), k, h2, comp, h3⟩, h1⟩
theorem arr_obj {args : Array Value} {s : State} {E : String} (h : (Cond.arrayOver (.object E)).before args s = true) : ∃ c, ArrOfT s c (.object E) ∧ va_RA s c (.object E) := by
  obtain ⟨comp, c, k, h1, -, h3, h4, h5⟩ := Cond.arrayOver_spec h
  exact ⟨c, fun n z => ⟨fun k h => (by cases h), k, h3, comp, h4⟩, k, comp, h3, h4, h1, h5⟩
set_option maxRecDepth 100000 in
set_option maxHeartbeats 10000000 in
theorem old_start {s : State} {b L : Nat} {xs : Nat → Int32} (hL : L ≤ 384) (hts : ∀ w ∈ lw_tbl, w.before #[Value.ref b] s = true) (hX : va_X b L xs s s.heap) (hbl : b < s.heap.size) (hgv : (Jvm.Cond.and given_1 narrow_1).before #[Value.ref b] s = true) (D : (Nat → ClassId) × (Nat → Nat → Nat)) (cA : Nat → ClassId) :
    ∃ od : Nat → Value, od 12 = .ref b ∧ aOld (D.1, D.2, cA, s.heap.size, od, L, xs) s s.heap := by
  have hs := flat_of_before _ hgv
  have hA : ∀ a : Nat, a < s.heap.size → ¬ (fun q : Nat => s.heap.size ≤ q) a := fun a h => Nat.not_le.mpr h
  obtain ⟨t0, e0, T0⟩ := va_Tof (s := s) (args := #[Value.ref b]) (tm := .static "PencilStrikes" "KIND_ABOVE" "[I") (ty := .int) (N := 7) (f := fun j => .int (tKind.getD j 0)) (A := fun q : Nat => s.heap.size ≤ q) (by decide) (hs _ (by decide +kernel)) (va_eqt (z := 7) (hs _ (by decide +kernel))) (fun j hj => va_eqt (hs _ ((by decide +kernel : ∀ j, j < 7 → Cond.eq (.elem (.static "PencilStrikes" "KIND_ABOVE" "[I") (.int (Int32.ofNat j))) (.int (tKind.getD j 0)) ∈ flatC (Jvm.Cond.and given_1 narrow_1)) j hj))) hA
  obtain ⟨t1, e1, T1⟩ := va_Tof (s := s) (args := #[Value.ref b]) (tm := .static "PencilStrikes$Acts" "BODIES" "[I") (ty := .int) (N := 21) (f := fun j => .int (tBody.getD j 0)) (A := fun q : Nat => s.heap.size ≤ q) (by decide) (hs _ (by decide +kernel)) (va_eqt (z := 21) (hs _ (by decide +kernel))) (fun j hj => va_eqt (hs _ ((by decide +kernel : ∀ j, j < 21 → Cond.eq (.elem (.static "PencilStrikes$Acts" "BODIES" "[I") (.int (Int32.ofNat j))) (.int (tBody.getD j 0)) ∈ flatC (Jvm.Cond.and given_1 narrow_1)) j hj))) hA
  obtain ⟨adK, adV, S0, eS⟩ := vk_Sof (s := s) (args := #[Value.ref b]) (N := 5) (tm := fun i => .string RX4 (sEnt.getD i 0)) (len := sLen) (byt := sByt) (A := fun q : Nat => s.heap.size ≤ q) (by decide)
    (fun i hi => hs _ ((by decide +kernel : ∀ i, i < 5 → Cond.exactly (.string RX4 (sEnt.getD i 0)) "java/lang/String" ∈ flatC (Jvm.Cond.and given_1 narrow_1)) i hi))
    (fun i hi => hs _ ((by decide +kernel : ∀ i, i < 5 → Cond.eq (.field (.string RX4 (sEnt.getD i 0)) "java/lang/String" "coder" "B") (.int 0) ∈ flatC (Jvm.Cond.and given_1 narrow_1)) i hi))
    (fun i hi => hs _ ((by decide +kernel : ∀ i, i < 5 → Cond.arrayOf (.field (.string RX4 (sEnt.getD i 0)) "java/lang/String" "value" "[B") .byte ∈ flatC (Jvm.Cond.and given_1 narrow_1)) i hi))
    (fun i hi => hs _ ((by decide +kernel : ∀ i, i < 5 → Cond.eq (.length (.field (.string RX4 (sEnt.getD i 0)) "java/lang/String" "value" "[B")) (.int (Int32.ofNat (sLen.getD i 0))) ∈ flatC (Jvm.Cond.and given_1 narrow_1)) i hi))
    (fun i hi j hj => hs _ ((by decide +kernel : ∀ i, i < 5 → ∀ j, j < sLen.getD i 0 → Cond.eq (.elem (.field (.string RX4 (sEnt.getD i 0)) "java/lang/String" "value" "[B") (.int (Int32.ofNat j))) (.int ((sByt.getD i []).getD j 0)) ∈ flatC (Jvm.Cond.and given_1 narrow_1)) i hi j hj))
    (fun i j hi hj hij => ((by decide +kernel : ∀ i, i < 5 → ∀ j, j < 5 → i ≠ j → Cond.not (Cond.eq (.string RX4 (sEnt.getD i 0)) (.string RX4 (sEnt.getD j 0))) ∈ flatC (Jvm.Cond.and given_1 narrow_1) ∨ Cond.not (Cond.eq (.string RX4 (sEnt.getD j 0)) (.string RX4 (sEnt.getD i 0))) ∈ flatC (Jvm.Cond.and given_1 narrow_1)) i hi j hj hij).elim (fun h => Or.inl (hs _ h)) (fun h => Or.inr (hs _ h))) hA
  have hC := va_Zof (s := s) (A := fun q : Nat => s.heap.size ≤ q) (hts (.laysStatic "java/lang/String" "COMPACT_STRINGS" "Z") (by decide +kernel)) (hts (.initialized "java/lang/String") (by decide +kernel)) (va_eqi (z := 1) (hs _ (by decide +kernel))) hA
  obtain ⟨fv, hF, hfv⟩ : ∃ v : Value, va_Z "jdk/internal/util/Preconditions" "SIOOBE_FORMATTER" "Ljava/util/function/BiFunction;" v (fun q : Nat => s.heap.size ≤ q) s s.heap ∧ (v = .null ∨ ∃ a, v = .ref a) := by
    rcases va_Zqof (s := s) (A := fun q : Nat => s.heap.size ≤ q) (hts (.laysStatic "jdk/internal/util/Preconditions" "SIOOBE_FORMATTER" "Ljava/util/function/BiFunction;") (by decide +kernel)) (hts (.initialized "jdk/internal/util/Preconditions") (by decide +kernel)) (hs _ (by decide +kernel)) hA with h | ⟨t, h⟩
    · exact ⟨_, h, Or.inl rfl⟩
    · exact ⟨_, h, Or.inr ⟨t, rfl⟩⟩
  have hZ0 := va_Zref (s := s) (A := fun q : Nat => s.heap.size ≤ q) (hts (.laysStatic "PencilStrikes" "KIND_ABOVE" "[I") (by decide +kernel)) (hts (.initialized "PencilStrikes") (by decide +kernel)) e0 hA
  have hZ1 := va_Zref (s := s) (A := fun q : Nat => s.heap.size ≤ q) (hts (.laysStatic "PencilStrikes$Acts" "BODIES" "[I") (by decide +kernel)) (hts (.initialized "PencilStrikes$Acts") (by decide +kernel)) e1 hA
  have hXT : va_T .int b L (fun j => .int (xs j)) (fun q : Nat => s.heap.size ≤ q) s s.heap := by
    obtain ⟨scr, h1, h2, h3, h4, h5⟩ := hX
    exact ⟨scr, h1, h2, h3, Nat.le_of_eq h4.symm, by rw [h4], h5, hA b hbl⟩
  refine ⟨fun i => if i = 0 then .ref t0 else if i = 1 then .ref t1 else if i < 7 then .ref (adK (i - 2)) else if i < 12 then .ref (adV (i - 7)) else if i = 12 then .ref b else fv, rfl, ?_⟩
  refine ⟨?_, T0, hZ0, T1, hZ1, ?_, ?_, hC, hF, hXT, hfv, ?_, va_AO.of (hts _ qo_X1), va_AO.of (hts _ qo_X3), va_AO.of (hts _ qo_X5)⟩
  · intro i hi
    show (if i = 0 then _ else _) = _
    rcases (show i = 0 ∨ i = 1 ∨ (1 < i ∧ i < 7) ∨ (6 < i ∧ i < 12) ∨ i = 12 by omega) with rfl | rfl | h | h | rfl
    · rfl
    · rfl
    · simp [gO, show i ≠ 0 by omega, show i ≠ 1 by omega, h.2, adr]
    · simp [gO, show i ≠ 0 by omega, show i ≠ 1 by omega, show ¬ i < 7 by omega, h.2, adr]
    · rfl
  · refine ⟨fun i hi => ?_, fun i j hi hj e => ?_⟩
    · have h1 := S0.1 i hi
      have k1 : adr (gO (D.1, D.2, cA, s.heap.size, (fun i => if i = 0 then Value.ref t0 else if i = 1 then .ref t1 else if i < 7 then .ref (adK (i - 2)) else if i < 12 then .ref (adV (i - 7)) else if i = 12 then .ref b else fv), L, xs) (2 + i)) = adK i := by
        rcases (show i = 0 ∨ i = 1 ∨ i = 2 ∨ i = 3 ∨ i = 4 by omega) with rfl | rfl | rfl | rfl | rfl <;> rfl
      have k2 : adr (gO (D.1, D.2, cA, s.heap.size, (fun i => if i = 0 then Value.ref t0 else if i = 1 then .ref t1 else if i < 7 then .ref (adK (i - 2)) else if i < 12 then .ref (adV (i - 7)) else if i = 12 then .ref b else fv), L, xs) (7 + i)) = adV i := by
        rcases (show i = 0 ∨ i = 1 ∨ i = 2 ∨ i = 3 ∨ i = 4 by omega) with rfl | rfl | rfl | rfl | rfl <;> rfl
      dsimp only
      rw [k1, k2]
      exact h1
    · refine S0.2 i j hi hj ?_
      have k1 : ∀ i, i < 5 → adr (gO (D.1, D.2, cA, s.heap.size, (fun i => if i = 0 then Value.ref t0 else if i = 1 then .ref t1 else if i < 7 then .ref (adK (i - 2)) else if i < 12 then .ref (adV (i - 7)) else if i = 12 then .ref b else fv), L, xs) (2 + i)) = adK i := by
        intro i hi
        rcases (show i = 0 ∨ i = 1 ∨ i = 2 ∨ i = 3 ∨ i = 4 by omega) with rfl | rfl | rfl | rfl | rfl <;> rfl
      dsimp only at e
      rw [k1 i hi, k1 j hj] at e
      exact e
  · intro i hi
    have h1 := eS i hi
    rcases (show i = 0 ∨ i = 1 ∨ i = 2 ∨ i = 3 ∨ i = 4 by omega) with rfl | rfl | rfl | rfl | rfl
    · exact vk_R.of (hts (.stringRef RX4 79 "bar ") (by decide +kernel)) h1
    · exact vk_R.of (hts (.stringRef RX4 91 "give") (by decide +kernel)) h1
    · exact vk_R.of (hts (.stringRef RX4 92 "most ") (by decide +kernel)) h1
    · exact vk_R.of (hts (.stringRef RX4 100 "sense") (by decide +kernel)) h1
    · exact vk_R.of (hts (.stringRef RX4 122 "wvntifp") (by decide +kernel)) h1
  · intro q hq
    have hm : ∀ q ∈ nestW, Cond.methodLinkNest q.1 q.2.1 q.2.2 RX7 ∈ lw_tbl := by decide +kernel
    exact va_Nw.of rfl (hts _ (hm q hq))
set_option maxRecDepth 100000 in
set_option maxHeartbeats 10000000 in
/-- the claim's walk, out of the pairs' specs -/
theorem whole_open {p : Program} {e : Env} {s : State} {m : MethodId} {below : List Frame} {meth : Method} {c : Code} (l : Launch) {b L : Nat} {xs : Nat → Int32} (hL : L ≤ 384) (C0' : lw_At p s m meth c b L xs) {inv : CS → MS → List va_E → Prop} (H : specs inv) (h0 : inv C0 M0 []) : W p l e room_1 s m #[Value.ref b] below meth c s.heap [] 0 0 (lw_Z below #[Value.ref b] s) (entryFrame m ([Value.ref b] : List Value).toArray 4) := by
  obtain ⟨hx, hb, hr, hml, hown, hts, hX, hbl, hlocks, hgv⟩ := id C0'
  obtain ⟨c0, iS0, hKn0⟩ := u_known (C := RX0) (T := TX0) (N := 5) (n := 5) hts inT0 (hts (.instantiable RX0 5) (by decide +kernel))
  obtain ⟨c1, iS1, hKn1⟩ := u_known (C := RX1) (T := TX1) (N := 4) (n := 4) hts inT1 (hts (.instantiable RX1 4) (by decide +kernel))
  obtain ⟨c2, iS2, hKn2⟩ := u_known (C := RX2) (T := TX2) (N := 2) (n := 2) hts inT2 (hts (.instantiable RX2 2) (by decide +kernel))
  obtain ⟨c3, iS3, hKn3⟩ := u_known (C := RX3) (T := TX3) (N := 4) (n := 4) hts inT3 (hts (.instantiable RX3 4) (by decide +kernel))
  obtain ⟨c4, iS4, hKn4⟩ := u_known (C := RX4) (T := TX4) (N := 10) (n := 10) hts inT4 (hts (.instantiable RX4 10) (by decide +kernel))
  obtain ⟨c5, iS5, hKn5⟩ := u_known (C := RX5) (T := TX5) (N := 3) (n := 3) hts inT5 (hts (.instantiable RX5 3) (by decide +kernel))
  obtain ⟨c6, iS6, hKn6⟩ := u_known (C := RX6) (T := TX6) (N := 2) (n := 2) hts inT6 (hts (.instantiable RX6 2) (by decide +kernel))
  obtain ⟨c7, iS7, hKn7⟩ := u_known (C := RX7) (T := TX7) (N := 10) (n := 10) hts inT7 (hts (.instantiable RX7 10) (by decide +kernel))
  obtain ⟨c8, iS8, hKn8⟩ := u_known (C := RX8) (T := TX8) (N := 43) (n := 43) hts inT8 (hts (.instantiable RX8 43) (by decide +kernel))
  obtain ⟨a0, hr0, hf0⟩ := arr_prim (hts (.arrayClass .int) (by decide +kernel)) rfl
  obtain ⟨a1, hr1, hf1⟩ := arr_prim (hts (.arrayClass .long) (by decide +kernel)) rfl
  obtain ⟨a2, hr2, hf2⟩ := arr_prim (hts (.arrayClass .byte) (by decide +kernel)) rfl
  obtain ⟨a3, hr3, hf3⟩ := arr_prim (hts (.arrayClass .boolean) (by decide +kernel)) rfl
  obtain ⟨a4, hr4, hf4⟩ := arr_obj (hts _ qo_X1)
  obtain ⟨a5, hr5, hf5⟩ := arr_obj (hts _ qo_X3)
  obtain ⟨a6, hr6, hf6⟩ := arr_obj (hts _ qo_X5)
  obtain ⟨dC, dI, hKc⟩ : ∃ (dC : Nat → ClassId) (dI : Nat → Nat → Nat), ∀ (k : Nat) (q : vw_C), vwCl[k]? = some q → u_Kn s q.1 q.2.1 q.2.2 (dC k) (dI k) := by
    refine ⟨fun k => if k = 0 then c0 else if k = 1 then c1 else if k = 2 then c2 else if k = 3 then c3 else if k = 4 then c4 else if k = 5 then c5 else if k = 6 then c6 else if k = 7 then c7 else c8, fun k => if k = 0 then iS0 else if k = 1 then iS1 else if k = 2 then iS2 else if k = 3 then iS3 else if k = 4 then iS4 else if k = 5 then iS5 else if k = 6 then iS6 else if k = 7 then iS7 else iS8, ?_⟩
    intro k q hq
    match k, hq with
    | 0, hq => cases hq; exact hKn0
    | 1, hq => cases hq; exact hKn1
    | 2, hq => cases hq; exact hKn2
    | 3, hq => cases hq; exact hKn3
    | 4, hq => cases hq; exact hKn4
    | 5, hq => cases hq; exact hKn5
    | 6, hq => cases hq; exact hKn6
    | 7, hq => cases hq; exact hKn7
    | 8, hq => cases hq; exact hKn8
    | k + 9, hq => simp [vwCl] at hq
  obtain ⟨od, h12, hO⟩ := old_start hL hts hX hbl hgv (dC, dI) (fun k => if k = 0 then a0 else if k = 1 then a1 else if k = 2 then a2 else if k = 3 then a3 else if k = 4 then a4 else if k = 5 then a5 else a6)
  have hK : va_K (dC, dI) vwCl (tysL (dC, dI, (fun k => if k = 0 then a0 else if k = 1 then a1 else if k = 2 then a2 else if k = 3 then a3 else if k = 4 then a4 else if k = 5 then a5 else a6), s.heap.size, od, L, xs)) s := by
    refine ⟨hKc, ?_⟩
    intro k q hq
    match k, hq with
    | 0, hq => cases hq; exact ⟨hr0, hf0⟩
    | 1, hq => cases hq; exact ⟨hr1, hf1⟩
    | 2, hq => cases hq; exact ⟨hr2, hf2⟩
    | 3, hq => cases hq; exact ⟨hr3, hf3⟩
    | 4, hq => cases hq; exact ⟨hr4, hf4⟩
    | 5, hq => cases hq; exact ⟨hr5, hf5⟩
    | 6, hq => cases hq; exact ⟨hr6, hf6⟩
    | k + 7, hq => simp [tysL] at hq
  have hst := law_start (l := l) (g := (dC, dI, (fun k => if k = 0 then a0 else if k = 1 then a1 else if k = 2 then a2 else if k = 3 then a3 else if k = 4 then a4 else if k = 5 then a5 else a6), s.heap.size, od, L, xs)) (nm := meth.name) (inv := inv) hL H h0
  have hl := lv_entry ([.ref b]) (n := 4) (Nat.le_of_ble_eq_true rfl)
  rw [lg_entry_eq]
  refine hst p e room_1 s m #[Value.ref b] below meth c ⟨hx, hb, hml, hown, fun w hw => hts w (List.mem_filter.mp hw).1, rfl, hK, hO, Nat.le_refl _, Nat.le_of_ble_eq_true rfl, Nat.le_of_ble_eq_true rfl, Nat.le_refl _, Nat.le_refl _⟩ (lw_Z below #[Value.ref b] s) ?_ s.heap [] _ ⟨rfl, fun k q h => by simp [wl] at h⟩ va_S.rf ⟨hl.1, hl.2.1, ?_⟩
  · intro v h' H' locs' ls' pc' hv hi hR hS
    subst hv
    exact va_forget (fun q hq => hS.2.2 q hq) (lw_ret hx hb hr hlocks hi)
  · intro i v hv
    match i, hv with
    | 0, hv =>
      cases hv
      have e9 : cv (dC, dI, (fun k => if k = 0 then a0 else if k = 1 then a1 else if k = 2 then a2 else if k = 3 then a3 else if k = 4 then a4 else if k = 5 then a5 else a6), s.heap.size, od, L, xs) (.retAddr 12) = .ref b := by show rfv (od 12) = _; rw [h12]; rfl
      rw [e9]
      exact hl.2.2 (0, .ref b) List.mem_cons_self
    | 1, hv => cases hv
    | 2, hv => cases hv
    | 3, hv => cases hv
    | i + 4, hv => simp at hv
