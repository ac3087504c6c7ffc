/-- what the tables say of a method: its code, its class ready, its number of arguments (n0, without the receiver) -/
def aMeth (y : MethodName) (cc : ByteArray) (nL : Nat) (ret : Option FieldType) (n0 : Nat) : Prop :=
  Cond.code y cc nL ret ∈ lw_good ∧ Cond.initialized y.cls ∈ lw_good ∧ (y.cls ≠ "java/lang/invoke/MethodHandle" ∧ y.cls ≠ "java/lang/invoke/VarHandle" ∧ (parseMethodDescriptor y.desc).map (fun d => d.parameters.length) = some n0) ∧ nL ≤ 41
def aMethV (y : MethodName) (cc : ByteArray) (nL : Nat) (ret : Option FieldType) (n0 : Nat) : Prop := aMeth y cc nL ret n0 ∧ Cond.instanceMethod y ∈ lw_good ∧ Cond.selects y.cls y y ∈ lw_good
def aMethS (y : MethodName) (cc : ByteArray) (nL : Nat) (ret : Option FieldType) (n0 : Nat) : Prop := aMeth y cc nL ret n0 ∧ Cond.static y ∈ lw_good
def aMethI (y : MethodName) (cc : ByteArray) (nL : Nat) (n0 : Nat) : Prop := aMeth y cc nL none n0 ∧ y.name = "<init>" ∧ Cond.instanceMethod y ∈ lw_good
theorem good_cons {w : Cond} {ws : List Cond} (h : w ∈ lw_good) (hs : GoodIn lw_good ws) : GoodIn lw_good (w :: ws) := fun x hx => by
  rcases List.mem_cons.mp hx with rfl | hx
  · exact ⟨h, lw_all h⟩
  · exact hs x hx
theorem good_all : GoodIn lw_good lw_good := fun _ h => ⟨h, lw_all h⟩
section
variable {p : Program} {l : Launch} {e : Env} {R : Room} {s : State} {m : MethodId} {args : Array Value} {below : List Frame} {meth : Method} {c : Code} {H : Heap} {locs : List Loc} {cells slots mc ms : Nat} {Z : State → Prop} {g : gE} {pc : Nat} {lc : Array Slot} {st0 rest : List Value} {a : Array Value} {H0 : Heap} {Q' : Option Value → AH → Prop}
theorem run_any (hr : va_Run p l e R s m args below meth c H locs cells slots mc ms (F0 m pc lc st0) rest (aQc g Q' a) (aF g)) (hS : va_S (aF g) H0 H locs)
    (kk : ∀ (v : Option Value) (h' : AH) (H1 : Heap) (locs1 : List Loc), Q' v h' → aRel g h' H1 → va_S (aF g) H0 H1 locs1 → W p l e R s m args below meth c H1 locs1 (cells + mc) (slots + ms) Z (F0 m (pc + 3) lc ((v.map (cv g)).toList ++ rest))) : W p l e R s m args below meth c H locs cells slots Z (F0 m pc lc st0) := by
  intro T hT X
  obtain ⟨v, st₀, t, T', L, h0, X', hL, e1, e2, ⟨⟨w, h', hv, hq, hr'⟩, hzz, hk⟩, st⟩ := hr T hT X
  cases hv
  rw [h0] at hzz hk
  obtain ⟨t2, a1, b1⟩ := kk w h' T'.heap (locs ++ L) hq (by rw [e1]; exact hr')
    ⟨Nat.le_trans hS.1 (by rw [e1]; exact hzz), fun q h1 h2 => by rw [e1, hk q (Nat.lt_of_lt_of_le h1 hS.1) h2]; exact hS.2.1 q h1 h2, fun q hq => by
      rcases List.mem_append.mp hq with h | h
      · exact hS.2.2 q h
      · exact hL q h⟩ T' rfl X'
  exact ⟨t2, st t2 a1, b1⟩
theorem aOld.at (hO : aOld g s s.heap) (hS : va_S (aF g) s.heap H locs) {U : State} (hU : U.heap = H) (hW : s.WarmedH U.vm) : aOld g U U.heap := by
  have h1 := hO.warm hW
  exact h1.kept (fun q hq hA => by rw [hU]; exact hS.2.1 q hq hA)
theorem aPc.at {h : AH} {vs : List Value} (hR : aRel g h H) (hK : va_K (gD g) vwCl (tysL g) s) (hO : aOld g s s.heap) (hS : va_S (aF g) s.heap H locs) (U : State) (hU : U.heap = H) (hW : s.WarmedH U.vm) : aPc g vs h ((vs.map (cv g)).toArray) U :=
  ⟨rfl, by rw [hU]; exact hR, va_K.moved hW.alike hK, hO.at hS hU hW⟩
end
section
variable {l : Launch} {g : gE} {d : Nat} {o : String} {cc : ByteArray} {nL : Nat} {nm : String} {MC MS : Nat} {Q : Option Value → AH → Prop} {k n pc : Nat} {ls : List (Option Value)} {st : List Value} {h : AH}
theorem a_callV {i n0 mc ms d' : Nat} {y : MethodName} {cy : ByteArray} {nLy : Nat} {ret : Option FieldType} {Q' : Option Value → AH → Prop} {b ci : Nat} {fs : List Value} (As rest : List Value) (hd : decode cc pc = .ok (.invokevirtual i, 3)) (hl : Cond.methodLink o i y ∈ lw_good) (hy : aMethV y cy nLy ret n0) (he : h[b]? = some (.inr (ci, fs))) (hci : ci < 9) (hcls : y.cls = kN ci) (hn0 : As.length = n0) (hdd : d' + 1 ≤ d) (hM : AM l g d' y cy nLy ret mc ms (.ref b :: As) h Q') (hs : st = As.reverse ++ .ref b :: rest) (hcat : (rest.map fun v => v.category).sum ≤ 8) (hk : k + mc ≤ MC) (hn : n + ms ≤ MS) (kk : ∀ v h', Q' v h' → AW l g d o cc nL nm MC MS Q (k + mc) (n + ms) (pc + 3) ls (v.toList ++ rest) h') : AW l g d o cc nL nm MC MS Q k n pc ls st h := by
  intro p e R s m args below meth c C Z hz H locs lc hR hS hL
  subst hs
  obtain ⟨hx, hb, hml, hown, hts, -, hK, hO, hB, hfr, hlo, hMC, hMS⟩ := id C
  refine run_any (rest := rest.map (cv g)) (Q' := Q') (a := ((.ref b :: As : List Value).map (cv g)).toArray) (mc := mc) (ms := ms) ?_ hS (fun v h' H1 locs1 q r1 s1 => ?_)
  · have hy4 := hy.1.2.2.2
    refine va_runV (C := y.cls) (b := gB g + b) (As := As.map (cv g)) (rest := rest.map (cv g)) (nL := nL) (Ts := lw_good) (own := o) ⟨hx, hb, hml, hown, hts⟩ hM (cwV n0 hts (good_cons hl (good_cons hy.2.1 (good_cons hy.2.2 (good_cons hy.1.2.1 (good_cons hy.1.1 good_all))))) rfl rfl rfl ⟨rfl, hy.1.2.2.1⟩ ⟨by show d' + 1 + 1 ≤ _; omega, by have := hy4; show 8 + (nLy + 11) + 60 * (d' + 1) ≤ _; omega⟩) ⟨aPc_blind g _ h, by rw [hcls]; exact va_recv hK hR.2 (kn_ok ci hci).1 (wl_at he), aPc.at hR hK hO hS⟩ rfl (by rw [List.length_map]; exact hn0) hL.1 ?_ (lv_room (by rw [cv_cats]; exact hcat)) hd ⟨by omega, by omega⟩
    simp [List.map_append, List.map_reverse, cv]
  · have h9 := kk v h' q p e R s m args below meth c C Z hz H1 locs1 lc r1 s1 hL
    have e9 : (v.toList ++ rest).map (cv g) = (v.map (cv g)).toList ++ rest.map (cv g) := by cases v <;> simp
    rw [e9] at h9
    exact h9
theorem a_callS {i n0 mc ms d' : Nat} {y : MethodName} {cy : ByteArray} {nLy : Nat} {ret : Option FieldType} {Q' : Option Value → AH → Prop}  (As rest : List Value) (hd : decode cc pc = .ok (.invokestatic i, 3)) (hl : Cond.methodLink o i y ∈ lw_good) (hy : aMethS y cy nLy ret n0) (hn0 : As.length = n0) (hdd : d' + 1 ≤ d) (hM : AM l g d' y cy nLy ret mc ms (As) h Q') (hs : st = As.reverse ++ rest) (hcat : (rest.map fun v => v.category).sum ≤ 8) (hk : k + mc ≤ MC) (hn : n + ms ≤ MS) (kk : ∀ v h', Q' v h' → AW l g d o cc nL nm MC MS Q (k + mc) (n + ms) (pc + 3) ls (v.toList ++ rest) h') : AW l g d o cc nL nm MC MS Q k n pc ls st h := by
  intro p e R s m args below meth c C Z hz H locs lc hR hS hL
  subst hs
  obtain ⟨hx, hb, hml, hown, hts, -, hK, hO, hB, hfr, hlo, hMC, hMS⟩ := id C
  refine run_any (rest := rest.map (cv g)) (Q' := Q') (a := ((As : List Value).map (cv g)).toArray) (mc := mc) (ms := ms) ?_ hS (fun v h' H1 locs1 q r1 s1 => ?_)
  · have hy4 := hy.1.2.2.2
    refine va_runS (As := As.map (cv g)) (rest := rest.map (cv g)) (nL := nL) (Ts := lw_good) (own := o) ⟨hx, hb, hml, hown, hts⟩ hM (va_cwS n0 hts (good_cons hl (good_cons hy.2 (good_cons hy.1.2.1 (good_cons hy.1.1 good_all)))) rfl rfl rfl hy.1.2.2.1 ⟨by show d' + 1 + 1 ≤ _; omega, by have := hy4; show 8 + (nLy + 11) + 60 * (d' + 1) ≤ _; omega⟩) ⟨aPc_blind g _ h, aPc.at hR hK hO hS⟩ rfl (by rw [List.length_map]; exact hn0) hL.1 ?_ (lv_room (by rw [cv_cats]; exact hcat)) hd ⟨by omega, by omega⟩
    simp [List.map_append, List.map_reverse, cv]
  · have h9 := kk v h' q p e R s m args below meth c C Z hz H1 locs1 lc r1 s1 hL
    have e9 : (v.toList ++ rest).map (cv g) = (v.map (cv g)).toList ++ rest.map (cv g) := by cases v <;> simp
    rw [e9] at h9
    exact h9
theorem a_callI {i n0 mc ms d' : Nat} {y : MethodName} {cy : ByteArray} {nLy : Nat} {ret : Option FieldType} {Q' : Option Value → AH → Prop} {b : Nat} (As rest : List Value) (hd : decode cc pc = .ok (.invokespecial i, 3)) (hret : ret = none) (hl : Cond.methodLink o i y ∈ lw_good) (hy : aMethI y cy nLy n0) (hn0 : As.length = n0) (hdd : d' + 1 ≤ d) (hM : AM l g d' y cy nLy ret mc ms (.ref b :: As) h Q') (hs : st = As.reverse ++ .ref b :: rest) (hcat : (rest.map fun v => v.category).sum ≤ 8) (hk : k + mc ≤ MC) (hn : n + ms ≤ MS) (kk : ∀ v h', Q' v h' → AW l g d o cc nL nm MC MS Q (k + mc) (n + ms) (pc + 3) ls (v.toList ++ rest) h') : AW l g d o cc nL nm MC MS Q k n pc ls st h := by
  intro p e R s m args below meth c C Z hz H locs lc hR hS hL
  subst hs
  obtain ⟨hx, hb, hml, hown, hts, -, hK, hO, hB, hfr, hlo, hMC, hMS⟩ := id C
  refine run_any (rest := rest.map (cv g)) (Q' := Q') (a := ((.ref b :: As : List Value).map (cv g)).toArray) (mc := mc) (ms := ms) ?_ hS (fun v h' H1 locs1 q r1 s1 => ?_)
  · subst hret; have hy4 := hy.1.2.2.2
    refine va_runI (b := gB g + b) (As := As.map (cv g)) (rest := rest.map (cv g)) (nL := nL) (Ts := lw_good) (own := o) ⟨hx, hb, hml, hown, hts⟩ hM (cwI n0 hts (good_cons hy.1.1 good_all) rfl rfl rfl (hts _ hy.1.2.1) (hts _ hl) (hts _ hy.2.2) hy.2.1 hy.1.2.2.1 ⟨by show d' + 1 + 1 ≤ _; omega, by have := hy4; show 8 + (nLy + 11) + 60 * (d' + 1) ≤ _; omega⟩) ⟨aPc_blind g _ h, aPc.at hR hK hO hS⟩ rfl (by rw [List.length_map]; exact hn0) hL.1 ?_ (lv_room (by rw [cv_cats]; exact hcat)) hd ⟨by omega, by omega⟩
    simp [List.map_append, List.map_reverse, cv]
  · have h9 := kk v h' q p e R s m args below meth c C Z hz H1 locs1 lc r1 s1 hL
    have e9 : (v.toList ++ rest).map (cv g) = (v.map (cv g)).toList ++ rest.map (cv g) := by cases v <;> simp
    rw [e9] at h9
    exact h9
theorem a_callIN {i n0 mc ms d' : Nat} {y : MethodName} {cy : ByteArray} {nLy : Nat} {ret : Option FieldType} {Q' : Option Value → AH → Prop} {b : Nat} (As rest : List Value) (hd : decode cc pc = .ok (.invokespecial i, 3)) (hret : ret = none) (hl : (o, i, y) ∈ nestW) (hy : aMethI y cy nLy n0) (hn0 : As.length = n0) (hdd : d' + 1 ≤ d) (hM : AM l g d' y cy nLy ret mc ms (.ref b :: As) h Q') (hs : st = As.reverse ++ .ref b :: rest) (hcat : (rest.map fun v => v.category).sum ≤ 8) (hk : k + mc ≤ MC) (hn : n + ms ≤ MS) (kk : ∀ v h', Q' v h' → AW l g d o cc nL nm MC MS Q (k + mc) (n + ms) (pc + 3) ls (v.toList ++ rest) h') : AW l g d o cc nL nm MC MS Q k n pc ls st h := by
  intro p e R s m args below meth c C Z hz H locs lc hR hS hL
  subst hs
  obtain ⟨hx, hb, hml, hown, hts, -, hK, hO, hB, hfr, hlo, hMC, hMS⟩ := id C
  refine run_any (rest := rest.map (cv g)) (Q' := Q') (a := ((.ref b :: As : List Value).map (cv g)).toArray) (mc := mc) (ms := ms) ?_ hS (fun v h' H1 locs1 q r1 s1 => ?_)
  · subst hret; have hy4 := hy.1.2.2.2
    refine va_runIN (host := RX7) (b := gB g + b) (As := As.map (cv g)) (rest := rest.map (cv g)) (nL := nL) (Ts := lw_good) (own := o) ⟨hx, hb, hml, hown, hts⟩ hM ⟨va_cnB n0 hts (good_cons hy.1.1 good_all) rfl rfl rfl (hO.nest _ hl) (hts _ hy.1.2.1) hy.1.2.2.1 ⟨by show d' + 1 + 1 ≤ _; omega, by have := hy4; show 8 + (nLy + 11) + 60 * (d' + 1) ≤ _; omega⟩, hy.2.1, hts _ hy.2.2⟩ ⟨aPc_blind g _ h, aPc.at hR hK hO hS⟩ rfl (by rw [List.length_map]; exact hn0) hL.1 ?_ (lv_room (by rw [cv_cats]; exact hcat)) hd ⟨by omega, by omega⟩
    simp [List.map_append, List.map_reverse, cv]
  · have h9 := kk v h' q p e R s m args below meth c C Z hz H1 locs1 lc r1 s1 hL
    have e9 : (v.toList ++ rest).map (cv g) = (v.map (cv g)).toList ++ rest.map (cv g) := by cases v <;> simp
    rw [e9] at h9
    exact h9
theorem a_callSN {i n0 mc ms d' : Nat} {y : MethodName} {cy : ByteArray} {nLy : Nat} {ret : Option FieldType} {Q' : Option Value → AH → Prop}  (As rest : List Value) (hd : decode cc pc = .ok (.invokestatic i, 3)) (hl : (o, i, y) ∈ nestW) (hy : aMethS y cy nLy ret n0) (hn0 : As.length = n0) (hdd : d' + 1 ≤ d) (hM : AM l g d' y cy nLy ret mc ms (As) h Q') (hs : st = As.reverse ++ rest) (hcat : (rest.map fun v => v.category).sum ≤ 8) (hk : k + mc ≤ MC) (hn : n + ms ≤ MS) (kk : ∀ v h', Q' v h' → AW l g d o cc nL nm MC MS Q (k + mc) (n + ms) (pc + 3) ls (v.toList ++ rest) h') : AW l g d o cc nL nm MC MS Q k n pc ls st h := by
  intro p e R s m args below meth c C Z hz H locs lc hR hS hL
  subst hs
  obtain ⟨hx, hb, hml, hown, hts, -, hK, hO, hB, hfr, hlo, hMC, hMS⟩ := id C
  refine run_any (rest := rest.map (cv g)) (Q' := Q') (a := ((As : List Value).map (cv g)).toArray) (mc := mc) (ms := ms) ?_ hS (fun v h' H1 locs1 q r1 s1 => ?_)
  · have hy4 := hy.1.2.2.2
    refine va_runSN (host := RX7) (As := As.map (cv g)) (rest := rest.map (cv g)) (nL := nL) (Ts := lw_good) (own := o) ⟨hx, hb, hml, hown, hts⟩ hM ⟨va_cnB n0 hts (good_cons hy.1.1 good_all) rfl rfl rfl (hO.nest _ hl) (hts _ hy.1.2.1) hy.1.2.2.1 ⟨by show d' + 1 + 1 ≤ _; omega, by have := hy4; show 8 + (nLy + 11) + 60 * (d' + 1) ≤ _; omega⟩, hts _ hy.2, trivial⟩ ⟨aPc_blind g _ h, aPc.at hR hK hO hS⟩ rfl (by rw [List.length_map]; exact hn0) hL.1 ?_ (lv_room (by rw [cv_cats]; exact hcat)) hd ⟨by omega, by omega⟩
    simp [List.map_append, List.map_reverse, cv]
  · have h9 := kk v h' q p e R s m args below meth c C Z hz H1 locs1 lc r1 s1 hL
    have e9 : (v.toList ++ rest).map (cv g) = (v.map (cv g)).toList ++ rest.map (cv g) := by cases v <;> simp
    rw [e9] at h9
    exact h9
theorem a_callVS {i n0 mc ms d' : Nat} {y : MethodName} {cy : ByteArray} {nLy : Nat} {ret : Option FieldType} {Q' : Option Value → AH → Prop} (j : Nat) (As rest : List Value) (hd : decode cc pc = .ok (.invokevirtual i, 3)) (hl : Cond.methodLink o i y ∈ lw_good) (hy : aMethV y cy nLy ret n0) (hj : j < 5) (hcls : y.cls = "java/lang/String") (hn0 : As.length = n0) (hdd : d' + 1 ≤ d) (hM : AM l g d' y cy nLy ret mc ms (.retAddr (2 + j) :: As) h Q') (hs : st = As.reverse ++ .retAddr (2 + j) :: rest) (hcat : (rest.map fun v => v.category).sum ≤ 8) (hk : k + mc ≤ MC) (hn : n + ms ≤ MS) (kk : ∀ v h', Q' v h' → AW l g d o cc nL nm MC MS Q (k + mc) (n + ms) (pc + 3) ls (v.toList ++ rest) h') : AW l g d o cc nL nm MC MS Q k n pc ls st h := by
  intro p e R s m args below meth c C Z hz H locs lc hR hS hL
  subst hs
  obtain ⟨hx, hb, hml, hown, hts, -, hK, hO, hB, hfr, hlo, hMC, hMS⟩ := id C
  refine run_any (rest := rest.map (cv g)) (Q' := Q') (a := ((.retAddr (2 + j) :: As : List Value).map (cv g)).toArray) (mc := mc) (ms := ms) ?_ hS (fun v h' H1 locs1 q r1 s1 => ?_)
  · have hy4 := hy.1.2.2.2
    have ew : cv g (.retAddr (2 + j)) = .ref (adr (gO g (2 + j))) := by show rfv (gO g (2 + j)) = _; rw [hO.1 (2 + j) (by omega)]; rfl
    rw [List.map_cons, ew]
    refine va_runV (C := y.cls) (b := adr (gO g (2 + j))) (As := As.map (cv g)) (rest := rest.map (cv g)) (nL := nL) (Ts := lw_good) (own := o) ⟨hx, hb, hml, hown, hts⟩ hM (cwV n0 hts (good_cons hl (good_cons hy.2.1 (good_cons hy.2.2 (good_cons hy.1.2.1 (good_cons hy.1.1 good_all))))) rfl rfl rfl ⟨rfl, hy.1.2.2.1⟩ ⟨by show d' + 1 + 1 ≤ _; omega, by have := hy4; show 8 + (nLy + 11) + 60 * (d' + 1) ≤ _; omega⟩) ⟨aPc_blind g _ h, by rw [hcls]; exact vk_recv hO.2.2.2.2.2.1 hj hS, by rw [← ew, ← List.map_cons]; exact aPc.at hR hK hO hS⟩ rfl (by rw [List.length_map]; exact hn0) hL.1 ?_ (lv_room (by rw [cv_cats]; exact hcat)) hd ⟨by omega, by omega⟩
    rw [← ew]
    simp [List.map_append, List.map_reverse]
  · have h9 := kk v h' q p e R s m args below meth c C Z hz H1 locs1 lc r1 s1 hL
    have e9 : (v.toList ++ rest).map (cv g) = (v.map (cv g)).toList ++ rest.map (cv g) := by cases v <;> simp
    rw [e9] at h9
    exact h9
theorem objW : Cond.instanceMethod Lib.objectInit ∈ lw_good ∧ Cond.code Lib.objectInit ⟨#[0xb1]⟩ 1 none ∈ lw_good := ⟨lw_in (by decide +kernel) (by decide +kernel), lw_in (by decide +kernel) (by decide +kernel)⟩
theorem a_objInit {i a : Nat} (hd : decode cc pc = .ok (.invokespecial i, 3)) (hl : Cond.methodLink o i Lib.objectInit ∈ lw_good) (hcat : (st.map fun v => v.category).sum ≤ 8) (kk : AW l g d o cc nL nm MC MS Q k n (pc + 3) ls st h) : AW l g d o cc nL nm MC MS Q k n pc ls (.ref a :: st) h := by
  intro p e R s m args below meth c C Z hz H locs lc hR hS hL
  obtain ⟨hx, hb, hml, hown, hts, -, hK, hO, hB, hfr, hlo, hMC, hMS⟩ := id C
  refine W.objInit hx hb hown (hts _ hl) (hts _ objW.1) (hts _ objW.2) rfl (by rw [hml]; exact hL.1) rfl hd (by omega) ?_ (kk p e R s m args below meth c C Z hz H locs lc hR hS hL)
  have h8 := lv_room (m := m) (pc := pc) (ls := lc) (rest := (.ref a :: st).map (cv g)) (st := st.map (cv g)) (by rw [cv_cats]; exact hcat)
  omega
-- ===== a method's contract out of its frame =====
def aEnt (vs : List Value) : List (Option Value) := vs.flatMap fun v => if v.category = 2 then [some v, none] else [some v]
theorem aEnt_len (vs : List Value) : (lg_sl (vs.map (cv g))).length = (aEnt vs).length := by
  induction vs with
  | nil => rfl
  | cons v vs ih =>
    simp only [lg_sl, aEnt, List.map_cons, List.flatMap_cons, List.length_append] at ih ⊢
    rw [ih, cv_cat]
    by_cases hv : v.category = 2
    · simp [hv]
    · simp [hv]
theorem aEnt_at (vs : List Value) : ∀ (i0 i : Nat) (v : Value), (aEnt vs)[i]? = some (some v) → (i0 + i, cv g v) ∈ lv_args i0 (vs.map (cv g)) := by
  induction vs with
  | nil => intro i0 i v h; simp [aEnt] at h
  | cons w vs ih =>
    intro i0 i v h
    have e : aEnt (w :: vs) = (if w.category = 2 then [some w, none] else [some w]) ++ aEnt vs := by simp [aEnt]
    rw [e] at h
    rw [List.map_cons]
    unfold lv_args
    rw [cv_cat]
    by_cases hw : w.category = 2
    · rw [if_pos hw] at h ⊢
      match i, h with
      | 0, h => cases h; exact List.mem_cons_self
      | 1, h => cases h
      | i + 2, h =>
        have := ih (i0 + 2) i v h
        rw [show i0 + (i + 2) = i0 + 2 + i by omega]
        exact List.mem_cons_of_mem _ this
    · rw [if_neg hw] at h ⊢
      match i, h with
      | 0, h => cases h; exact List.mem_cons_self
      | i + 1, h =>
        have := ih (i0 + 1) i v h
        rw [show i0 + (i + 1) = i0 + 1 + i by omega]
        exact List.mem_cons_of_mem _ this
/-- the locals with which a method begins -/
def aBeg (vs : List Value) (nL : Nat) : List (Option Value) := aEnt vs ++ List.replicate (nL - (aEnt vs).length) none
theorem aBeg_loc (vs : List Value) (hl : (aEnt vs).length ≤ nL) : aLoc g ((lg_sl (vs.map (cv g)) ++ List.replicate (nL - (lg_sl (vs.map (cv g))).length) Slot.unset).toArray) nL (aBeg vs nL) := by
  have h1 := lv_entry (vs.map (cv g)) (n := nL) (by rw [aEnt_len]; exact hl)
  refine ⟨h1.1, h1.2.1, fun i v hv => ?_⟩
  unfold aBeg at hv
  rcases Nat.lt_or_ge i (aEnt vs).length with q | q
  · rw [List.getElem?_append_left q] at hv
    have h2 := aEnt_at (g := g) vs 0 i v hv
    rw [Nat.zero_add] at h2
    exact h1.2.2 _ h2
  · rw [List.getElem?_append_right q, List.getElem?_replicate] at hv
    split at hv <;> cases hv
/-- a value is one that a method of that kind may return -/
def aRetOK (ret : Option FieldType) (v : Option Value) : Prop := match v with
  | none => ret = none
  | some (.int x) => ∃ ty, ret = some ty ∧ narrow ty (.int x) = .int x
  | some (.long _) => ret = some .long
  | some w => (∃ ty, ret = some ty ∧ ((∃ z, ty = .object z) ∨ ∃ t, ty = .array t)) ∧ isRv w
theorem aRet_int (x : Int32) : aRetOK (some .int) (some (.int x)) := ⟨_, rfl, rfl⟩
theorem aRet_z0 : aRetOK (some .boolean) (some (.int 0)) := ⟨_, rfl, rfl⟩
theorem aRet_z1 : aRetOK (some .boolean) (some (.int 1)) := ⟨_, rfl, rfl⟩
theorem AM.of {y : MethodName} {ret : Option FieldType} {vs : List Value} (hy : plainName y.cls = true) (hl : (aEnt vs).length ≤ nL) (hq : ∀ v h', Q v h' → aRetOK ret v) (hb : ∀ ls, ls = aBeg vs nL → AW l g d y.cls cc nL y.name MC MS Q 0 0 0 ls [] h) : AM l g d y cc nL ret MC MS vs h Q := by
  refine Met.ofW (cc := cc) (maxL := nL) (ret := ret) hy rfl ?_
  intro p e s m args below meth c s₁ B hml hv
  obtain ⟨rfl, hR, hK, hO⟩ := hv
  have hts0 := atoms_spec (ws := Cond.code y cc nL ret :: lw_good) B.pre
  have hts : ∀ w ∈ lw_good, w.before ((vs.map (cv g)).toArray) s = true := fun w hw => hts0 w (List.mem_cons_of_mem _ hw)
  have hown : s.vm.findClass y.cls = some m.cls := findClass_of_methodNamed B.named
  have hnm : meth.name = y.name := (name_of_methodNamed B.named B.method).1
  have hlocks := B.notSynchronized
  have hr := B.returns
  rw [lg_entry_eq]
  have hBs : gB g ≤ s.heap.size := by rw [hR.1]; exact Nat.le_add_right _ _
  refine hb _ rfl p e _ s m _ below meth c ⟨B.exec, B.bytes, hml, hown, hts, hnm, hK, hO, hBs, Nat.le_refl _, Nat.le_refl _, Nat.le_refl _, Nat.le_refl _⟩ _ ?_ s.heap [] _ hR va_S.rf (aBeg_loc vs hl)
  intro v h' H' locs' ls' pc' hQ hi hR' hS'
  have hok := hq v h' hQ
  have hpost : ∀ t : State, t.heap = H' → aQc g Q ((vs.map (cv g)).toArray) s (.returned (v.map (cv g))) t := fun t ht => ⟨⟨v, h', rfl, hQ, by rw [ht]; exact hR'⟩, hS'.F ht⟩
  cases v with
  | none => exact W.vret B.exec B.bytes (hr.trans hok) (fun t ht _ => hpost t ht) hS'.2.2 hi
  | some v =>
    cases v with
    | int x =>
      obtain ⟨ty, h1, h2⟩ := hok
      exact W.zret B.exec B.bytes (hr.trans h1) h2 (fun t ht _ => hpost t ht) hS'.2.2 hi
    | long x => exact W.lret B.exec B.bytes (hr.trans hok) (fun t ht _ => hpost t ht) hS'.2.2 hi
    | ref a =>
      obtain ⟨⟨ty, h1, h2⟩, h3⟩ := hok
      exact W.aret B.exec B.bytes (hr.trans h1) h2 (cv_isRv h3) (fun t ht _ => hpost t ht) hS'.2.2 hi
    | null =>
      obtain ⟨⟨ty, h1, h2⟩, h3⟩ := hok
      exact W.aret B.exec B.bytes (hr.trans h1) h2 (cv_isRv h3) (fun t ht _ => hpost t ht) hS'.2.2 hi
    | retAddr a =>
      obtain ⟨⟨ty, h1, h2⟩, h3⟩ := hok
      exact W.aret B.exec B.bytes (hr.trans h1) h2 (cv_isRv h3) (fun t ht _ => hpost t ht) hS'.2.2 hi
    | float a =>
      obtain ⟨-, h3⟩ := hok
      rcases h3 with h | ⟨_, h⟩ | ⟨_, h⟩ <;> cases h
    | double a =>
      obtain ⟨-, h3⟩ := hok
      rcases h3 with h | ⟨_, h⟩ | ⟨_, h⟩ <;> cases h
theorem AM.mono {y : MethodName} {ret : Option FieldType} {vs : List Value} {Q' : Option Value → AH → Prop} (hM : AM l g d y cc nL ret MC MS vs h Q') (hq : ∀ v h', Q' v h' → Q v h') : AM l g d y cc nL ret MC MS vs h Q := by
  intro p e ha hc hk s m args below hf happ hp hK
  obtain ⟨t, oc, a1, a2, a3, ⟨⟨⟨v, h', b1, b2, b3⟩, b4⟩, b5⟩⟩ := hM p e ha hc hk s m args below hf happ hp hK
  exact ⟨t, oc, a1, a2, a3, ⟨⟨⟨v, h', b1, hq v h' b2, b3⟩, b4⟩, b5⟩⟩
-- ===== what stood before the run =====
theorem cv_old {s : State} {H0 : Heap} (hO : aOld g s H0) {i : Nat} (hi : i < 13) : cv g (.retAddr i) = .ref (adr (gO g i)) := by
  show rfv (gO g i) = _
  rw [hO.1 i hi]
  rfl
def oldT (i : Nat) : Nat × (Nat → Int32) := match i with
  | 0 => (7, fun j => tKind.getD j 0)
  | _ => (21, fun j => tBody.getD j 0)
theorem a_old0 {x : Int32} (hd : decode cc pc = .ok (.iaload, 1)) (hin : vp_in x 7) (kk : AW l g d o cc nL nm MC MS Q k n (pc + 1) ls (.int (tKind.getD x.toNatClampNeg 0) :: st) h) : AW l g d o cc nL nm MC MS Q k n pc ls (.int x :: .retAddr 0 :: st) h := by
  intro p e R s m args below meth c C Z hz H locs lc hR hS hL
  have hO := C.2.2.2.2.2.2.2.1
  rw [List.map_cons, List.map_cons, cv_old hO (by omega)]
  exact va_ti C.1 C.2.1 hO.2.1 hS hin rfl hd (kk p e R s m args below meth c C Z hz H locs lc hR hS hL)
theorem a_old1 {x : Int32} (hd : decode cc pc = .ok (.iaload, 1)) (hin : vp_in x 21) (kk : AW l g d o cc nL nm MC MS Q k n (pc + 1) ls (.int (tBody.getD x.toNatClampNeg 0) :: st) h) : AW l g d o cc nL nm MC MS Q k n pc ls (.int x :: .retAddr 1 :: st) h := by
  intro p e R s m args below meth c C Z hz H locs lc hR hS hL
  have hO := C.2.2.2.2.2.2.2.1
  rw [List.map_cons, List.map_cons, cv_old hO (by omega)]
  exact va_ti C.1 C.2.1 hO.2.2.2.1 hS hin rfl hd (kk p e R s m args below meth c C Z hz H locs lc hR hS hL)
theorem a_old12 {x : Int32} (hd : decode cc pc = .ok (.iaload, 1)) (hin : vp_in x (gL g)) (kk : AW l g d o cc nL nm MC MS Q k n (pc + 1) ls (.int (gX g x.toNatClampNeg) :: st) h) : AW l g d o cc nL nm MC MS Q k n pc ls (.int x :: .retAddr 12 :: st) h := by
  intro p e R s m args below meth c C Z hz H locs lc hR hS hL
  have hO := C.2.2.2.2.2.2.2.1
  rw [List.map_cons, List.map_cons, cv_old hO (by omega)]
  exact va_ti C.1 C.2.1 hO.2.2.2.2.2.2.2.2.2.1 hS hin rfl hd (kk p e R s m args below meth c C Z hz H locs lc hR hS hL)
theorem a_oldB {x : Int32} (j : Nat) (hj : j < 5) (hd : decode cc pc = .ok (.baload, 1)) (hin : vp_in x (sLen.getD j 0)) (kk : AW l g d o cc nL nm MC MS Q k n (pc + 1) ls (.int ((sByt.getD j []).getD x.toNatClampNeg 0) :: st) h) : AW l g d o cc nL nm MC MS Q k n pc ls (.int x :: .retAddr (7 + j) :: st) h := by
  intro p e R s m args below meth c C Z hz H locs lc hR hS hL
  have hO := C.2.2.2.2.2.2.2.1
  rw [List.map_cons, List.map_cons, cv_old hO (by omega)]
  exact va_tb C.1 C.2.1 (hO.2.2.2.2.2.1.1 j hj).2.2.2 hS hin rfl hd (kk p e R s m args below meth c C Z hz H locs lc hR hS hL)
theorem a_len0 (hd : decode cc pc = .ok (.arraylength, 1)) (kk : AW l g d o cc nL nm MC MS Q k n (pc + 1) ls (.int 7 :: st) h) : AW l g d o cc nL nm MC MS Q k n pc ls (.retAddr 0 :: st) h := by
  intro p e R s m args below meth c C Z hz H locs lc hR hS hL
  have hO := C.2.2.2.2.2.2.2.1
  rw [List.map_cons, cv_old hO (by omega)]
  exact va_tlen C.1 C.2.1 hO.2.1 hS rfl hd (kk p e R s m args below meth c C Z hz H locs lc hR hS hL)
theorem a_len1 (hd : decode cc pc = .ok (.arraylength, 1)) (kk : AW l g d o cc nL nm MC MS Q k n (pc + 1) ls (.int 21 :: st) h) : AW l g d o cc nL nm MC MS Q k n pc ls (.retAddr 1 :: st) h := by
  intro p e R s m args below meth c C Z hz H locs lc hR hS hL
  have hO := C.2.2.2.2.2.2.2.1
  rw [List.map_cons, cv_old hO (by omega)]
  exact va_tlen C.1 C.2.1 hO.2.2.2.1 hS rfl hd (kk p e R s m args below meth c C Z hz H locs lc hR hS hL)
theorem a_len12 (hd : decode cc pc = .ok (.arraylength, 1)) (kk : AW l g d o cc nL nm MC MS Q k n (pc + 1) ls (.int (Int32.ofNat (gL g)) :: st) h) : AW l g d o cc nL nm MC MS Q k n pc ls (.retAddr 12 :: st) h := by
  intro p e R s m args below meth c C Z hz H locs lc hR hS hL
  have hO := C.2.2.2.2.2.2.2.1
  rw [List.map_cons, cv_old hO (by omega)]
  exact va_tlen C.1 C.2.1 hO.2.2.2.2.2.2.2.2.2.1 hS rfl hd (kk p e R s m args below meth c C Z hz H locs lc hR hS hL)
theorem a_lenB (j : Nat) (hj : j < 5) (v : Int32) (hv : Int32.ofNat (sLen.getD j 0) = v) (hd : decode cc pc = .ok (.arraylength, 1)) (kk : AW l g d o cc nL nm MC MS Q k n (pc + 1) ls (.int v :: st) h) : AW l g d o cc nL nm MC MS Q k n pc ls (.retAddr (7 + j) :: st) h := by
  intro p e R s m args below meth c C Z hz H locs lc hR hS hL
  have hO := C.2.2.2.2.2.2.2.1
  rw [List.map_cons, cv_old hO (by omega)]
  exact va_tlen C.1 C.2.1 (hO.2.2.2.2.2.1.1 j hj).2.2.2 hS hv hd (kk p e R s m args below meth c C Z hz H locs lc hR hS hL)
theorem a_gets0 {i : Nat} (hd : decode cc pc = .ok (.getstatic i, 3)) (hw : Cond.fieldLink o i "PencilStrikes" "KIND_ABOVE" "[I" ∈ lw_good) (kk : AW l g d o cc nL nm MC MS Q k n (pc + 3) ls (.retAddr 0 :: st) h) : AW l g d o cc nL nm MC MS Q k n pc ls st h := by
  intro p e R s m args below meth c C Z hz H locs lc hR hS hL
  have hO := C.2.2.2.2.2.2.2.1
  have h2 := kk p e R s m args below meth c C Z hz H locs lc hR hS hL
  rw [List.map_cons, cv_old hO (by omega), ← hO.1 0 (by omega)] at h2
  exact va_gets C.1 C.2.1 hO.2.2.1 hS C.2.2.2.1 (C.2.2.2.2.1 _ hw) (fun _ h => h) hd h2
theorem a_gets1 {i : Nat} (hd : decode cc pc = .ok (.getstatic i, 3)) (hw : Cond.fieldLink o i "PencilStrikes$Acts" "BODIES" "[I" ∈ lw_good) (kk : AW l g d o cc nL nm MC MS Q k n (pc + 3) ls (.retAddr 1 :: st) h) : AW l g d o cc nL nm MC MS Q k n pc ls st h := by
  intro p e R s m args below meth c C Z hz H locs lc hR hS hL
  have hO := C.2.2.2.2.2.2.2.1
  have h2 := kk p e R s m args below meth c C Z hz H locs lc hR hS hL
  rw [List.map_cons, cv_old hO (by omega), ← hO.1 1 (by omega)] at h2
  exact va_gets C.1 C.2.1 hO.2.2.2.2.1 hS C.2.2.2.1 (C.2.2.2.2.1 _ hw) (fun _ h => h) hd h2
theorem a_getsC {i : Nat} (hd : decode cc pc = .ok (.getstatic i, 3)) (hw : Cond.fieldLink o i "java/lang/String" "COMPACT_STRINGS" "Z" ∈ lw_good) (kk : AW l g d o cc nL nm MC MS Q k n (pc + 3) ls (.int 1 :: st) h) : AW l g d o cc nL nm MC MS Q k n pc ls st h := by
  intro p e R s m args below meth c C Z hz H locs lc hR hS hL
  have hO := C.2.2.2.2.2.2.2.1
  exact va_gets C.1 C.2.1 hO.2.2.2.2.2.2.2.1 hS C.2.2.2.1 (C.2.2.2.2.1 _ hw) (fun _ h => h) hd (kk p e R s m args below meth c C Z hz H locs lc hR hS hL)
theorem a_gets13 {i : Nat} (hd : decode cc pc = .ok (.getstatic i, 3)) (hw : Cond.fieldLink o i "jdk/internal/util/Preconditions" "SIOOBE_FORMATTER" "Ljava/util/function/BiFunction;" ∈ lw_good) (kk : AW l g d o cc nL nm MC MS Q k n (pc + 3) ls (.retAddr 13 :: st) h) : AW l g d o cc nL nm MC MS Q k n pc ls st h := by
  intro p e R s m args below meth c C Z hz H locs lc hR hS hL
  have hO := C.2.2.2.2.2.2.2.1
  have h2 := kk p e R s m args below meth c C Z hz H locs lc hR hS hL
  have e9 : cv g (.retAddr 13) = gO g 13 := by
    show rfv (gO g 13) = _
    rcases hO.2.2.2.2.2.2.2.2.2.2.1 with h | ⟨a, h⟩ <;> rw [h] <;> rfl
  rw [List.map_cons, e9] at h2
  exact va_gets C.1 C.2.1 hO.2.2.2.2.2.2.2.2.1 hS C.2.2.2.1 (C.2.2.2.2.1 _ hw) (fun _ h => h) hd h2
theorem a_ldcS (j : Nat) (i : Nat) (hj : j < 5) (ho : o = RX4) (hi : sEnt.getD j 0 = i) (hd : decode cc pc = .ok (.ldc i, 2)) (kk : AW l g d o cc nL nm MC MS Q k n (pc + 2) ls (.retAddr (2 + j) :: st) h) : AW l g d o cc nL nm MC MS Q k n pc ls st h := by
  intro p e R s m args below meth c C Z hz H locs lc hR hS hL
  subst ho
  subst hi
  have hO := C.2.2.2.2.2.2.2.1
  have h2 := kk p e R s m args below meth c C Z hz H locs lc hR hS hL
  rw [List.map_cons, cv_old hO (by omega)] at h2
  exact va_ldcS C.1 C.2.1 C.2.2.2.1 (hO.2.2.2.2.2.2.1 j hj) hd h2
theorem a_getfV {i : Nat} (j : Nat) (hj : j < 5) (hd : decode cc pc = .ok (.getfield i, 3)) (hw : Cond.fieldLink o i "java/lang/String" "value" "[B" ∈ lw_good) (kk : AW l g d o cc nL nm MC MS Q k n (pc + 3) ls (.retAddr (7 + j) :: st) h) : AW l g d o cc nL nm MC MS Q k n pc ls (.retAddr (2 + j) :: st) h := by
  intro p e R s m args below meth c C Z hz H locs lc hR hS hL
  have hO := C.2.2.2.2.2.2.2.1
  have h2 := kk p e R s m args below meth c C Z hz H locs lc hR hS hL
  rw [List.map_cons, cv_old hO (by omega)] at h2 ⊢
  exact vk_getf C.1 C.2.1 (hO.2.2.2.2.2.1.1 j hj).2.2.1 hS C.2.2.2.1 (C.2.2.2.2.1 _ hw) (fun _ h => h) hd h2
theorem a_getfC {i : Nat} (j : Nat) (hj : j < 5) (hd : decode cc pc = .ok (.getfield i, 3)) (hw : Cond.fieldLink o i "java/lang/String" "coder" "B" ∈ lw_good) (kk : AW l g d o cc nL nm MC MS Q k n (pc + 3) ls (.int 0 :: st) h) : AW l g d o cc nL nm MC MS Q k n pc ls (.retAddr (2 + j) :: st) h := by
  intro p e R s m args below meth c C Z hz H locs lc hR hS hL
  have hO := C.2.2.2.2.2.2.2.1
  have h2 := kk p e R s m args below meth c C Z hz H locs lc hR hS hL
  rw [List.map_cons, cv_old hO (by omega)]
  exact vk_getf C.1 C.2.1 (hO.2.2.2.2.2.1.1 j hj).2.1 hS C.2.2.2.1 (C.2.2.2.2.1 _ hw) (fun _ h => h) hd h2
end
