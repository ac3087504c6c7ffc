/-! ===== the abstract machine's words: values and cells by places, the judgements AW (a frame of a method) and AM (a method) ===== -/
/-- what a run stands on: the classes' numbers, the fields' slots, the array classes, the first address of the run's own cells, the old values (by number), the script -/
abbrev gE : Type := (Nat → ClassId) × (Nat → Nat → Nat) × (Nat → ClassId) × Nat × (Nat → Value) × Nat × (Nat → Int32)
abbrev AH : Type := List va_E
def gD (g : gE) : va_G := (g.1, g.2.1)
def gA (g : gE) : Nat → ClassId := g.2.2.1
def gB (g : gE) : Nat := g.2.2.2.1
def gO (g : gE) : Nat → Value := g.2.2.2.2.1
def gL (g : gE) : Nat := g.2.2.2.2.2.1
def gX (g : gE) : Nat → Int32 := g.2.2.2.2.2.2
/-- a value of the abstract machine in the real one: a place becomes an address, an old value's number that value -/
def rfv (v : Value) : Value := match v with
  | .ref a => .ref a
  | _ => .null
def cv (g : gE) (v : Value) : Value := match v with
  | .ref a => .ref (gB g + a)
  | .retAddr i => rfv (gO g i)
  | v => v
theorem rfv_cat (v : Value) : (rfv v).category = 1 := by cases v <;> rfl
theorem cv_cat (g : gE) (v : Value) : (cv g v).category = v.category := by
  cases v with
  | retAddr i => exact rfv_cat _
  | _ => rfl
theorem cv_cats (g : gE) (st : List Value) : ((st.map (cv g)).map fun v => v.category) = st.map fun v => v.category := by
  rw [List.map_map]
  exact List.map_congr_left (fun v _ => cv_cat g v)
theorem cv_int (g : gE) (x : Int32) : cv g (.int x) = .int x := rfl
theorem cv_long (g : gE) (x : Int64) : cv g (.long x) = .long x := rfl
theorem cv_null (g : gE) : cv g .null = .null := rfl
theorem cv_ref (g : gE) (a : Nat) : cv g (.ref a) = .ref (gB g + a) := rfl
/-- array kinds: 0 int, 1 long, 2 byte, 3 boolean, 4 Bargain, 5 Law, 6 Tape -/
def tyT : Nat → FieldType
  | 0 => .int
  | 1 => .long
  | 2 => .byte
  | 3 => .boolean
  | 4 => .object RX1
  | 5 => .object RX3
  | _ => .object RX5
def tysL (g : gE) : List (ClassId × FieldType) := [(gA g 0, tyT 0), (gA g 1, tyT 1), (gA g 2, tyT 2), (gA g 3, tyT 3), (gA g 4, tyT 4), (gA g 5, tyT 5), (gA g 6, tyT 6)]
def ca (g : gE) (c : va_E) : va_E := match c with
  | .inl (t, (n, .inr (.inr (.inr (.inr f))))) => .inl (gA g t, (n, .inr (.inr (.inr (.inr (fun j => (f j).map (fun a => gB g + a)))))))
  | .inl (t, x) => .inl (gA g t, x)
  | .inr (ci, fs) => .inr (ci, fs.map (cv g))
theorem ca_i (g : gE) (t n : Nat) (f : Nat → Int32) : ca g (.inl (t, (n, .inl f))) = .inl (gA g t, (n, .inl f)) := rfl
theorem ca_l (g : gE) (t n : Nat) (f : Nat → Int64) : ca g (.inl (t, (n, .inr (.inl f)))) = .inl (gA g t, (n, .inr (.inl f))) := rfl
theorem ca_q (g : gE) (t n : Nat) (f : Nat → Option Nat) : ca g (.inl (t, (n, .inr (.inr (.inr (.inr f)))))) = .inl (gA g t, (n, .inr (.inr (.inr (.inr (fun j => (f j).map (fun a => gB g + a))))))) := rfl
theorem ca_o (g : gE) (ci : Nat) (fs : List Value) : ca g (.inr (ci, fs)) = .inr (ci, fs.map (cv g)) := rfl
def wl (g : gE) (h : AH) : va_W := h.mapIdx (fun j c => (gB g + j, ca g c))
theorem wl_get (g : gE) (h : AH) (k : Nat) : (wl g h)[k]? = (h[k]?).map (fun c => (gB g + k, ca g c)) := by
  simp [wl, List.getElem?_mapIdx]
theorem wl_at {g : gE} {h : AH} {k : Nat} {c : va_E} (e : h[k]? = some c) : (wl g h)[k]? = some (gB g + k, ca g c) := by
  rw [wl_get, e]; rfl
theorem wl_set (g : gE) (h : AH) (k : Nat) (c : va_E) : (wl g h).set k (gB g + k, ca g c) = wl g (h.set k c) := by
  apply List.ext_getElem?
  intro i
  rw [wl_get, List.getElem?_set, List.getElem?_set, wl_get]
  by_cases hk : k = i
  · subst hk
    by_cases hl : k < h.length
    · simp [wl, hl]
    · simp [wl, hl]
  · simp [hk]
theorem wl_push (g : gE) (h : AH) (c : va_E) : wl g (h ++ [c]) = wl g h ++ [(gB g + h.length, ca g c)] := by
  simp [wl, List.mapIdx_append]
/-- which cells a run may change: its own -/
def aF (g : gE) : Nat → Prop := fun q => gB g ≤ q
theorem wl_apart (g : gE) (h : AH) : va_D (aF g) (wl g h) := by
  refine ⟨?_, ?_⟩
  · intro i j p q hp hq e
    rw [wl_get] at hp hq
    cases hi : h[i]? with
    | none => rw [hi] at hp; cases hp
    | some c =>
      cases hj : h[j]? with
      | none => rw [hj] at hq; cases hq
      | some d =>
        rw [hi] at hp; rw [hj] at hq
        have h1 := Option.some.inj hp
        have h2 := Option.some.inj hq
        rw [← h1, ← h2] at e
        have e' : gB g + i = gB g + j := e
        omega
  · intro k q hq
    rw [wl_get] at hq
    cases hi : h[k]? with
    | none => rw [hi] at hq; cases hq
    | some c =>
      rw [hi] at hq
      have h1 := Option.some.inj hq
      rw [← h1]
      exact Nat.le_add_right _ _
/-- the real heap holds the abstract one -/
def aRel (g : gE) (h : AH) (H : Heap) : Prop := H.size = gB g + h.length ∧ va_P (gD g) vwCl (wl g h) H
-- String constants: their entries, texts, bytes
def sEnt : List Nat := [79, 91, 92, 100, 122]
def sTxt : List String := ["bar ", "give", "most ", "sense", "wvntifp"]
def sByt : List (List Int32) := [[98, 97, 114, 32], [103, 105, 118, 101], [109, 111, 115, 116, 32], [115, 101, 110, 115, 101], [119, 118, 110, 116, 105, 102, 112]]
def sLen : List Nat := [4, 4, 5, 5, 7]
def tKind : List Int32 := [-1, 0, 0, 0, 1, 3, 1]
def tBody : List Int32 := [10, 11, 12, 20, 0, 0, 0, 30, 0, 0, 41, 40, 0, 50, 0, 61, 0, 60, 0, 0, 70]
def nestW : List (String × Nat × MethodName) := [(RX7, 11, yX6_init), (RX7, 20, yX4_init), (RX7, 49, yX0_init), (RX7, 56, yX2_init), (RX7, 61, yX5_init), (RX1, 11, yX2_init), (RX0, 19, yX7_isKind), (RX0, 39, yX7_kindAbove)]
/-- an address of a reference value -/
def adr (v : Value) : Nat := match v with
  | .ref a => a
  | _ => 0
/-- what stood before the run, and stays: tables (0 KIND_ABOVE, 1 BODIES), String constants (2 .. 6) and their bytes (7 .. 11), the script (12), the formatter (13) -/
def aOld (g : gE) (U : State) (H : Heap) : Prop :=
  (∀ i, i < 13 → gO g i = .ref (adr (gO g i))) ∧
  va_T .int (adr (gO g 0)) 7 (fun j => .int (tKind.getD j 0)) (aF g) U H ∧ va_Z "PencilStrikes" "KIND_ABOVE" "[I" (gO g 0) (aF g) U H ∧
  va_T .int (adr (gO g 1)) 21 (fun j => .int (tBody.getD j 0)) (aF g) U H ∧ va_Z "PencilStrikes$Acts" "BODIES" "[I" (gO g 1) (aF g) U H ∧
  vk_S 5 sLen sByt (fun i => adr (gO g (2 + i))) (fun i => adr (gO g (7 + i))) (aF g) U H ∧ (∀ i, i < 5 → vk_R RX4 (sEnt.getD i 0) (sTxt.getD i "") (adr (gO g (2 + i))) U) ∧
  va_Z "java/lang/String" "COMPACT_STRINGS" "Z" (.int 1) (aF g) U H ∧ va_Z "jdk/internal/util/Preconditions" "SIOOBE_FORMATTER" "Ljava/util/function/BiFunction;" (gO g 13) (aF g) U H ∧
  va_T .int (adr (gO g 12)) (gL g) (fun j => .int (gX g j)) (aF g) U H ∧ (gO g 13 = .null ∨ ∃ a, gO g 13 = .ref a) ∧
  (∀ q ∈ nestW, va_Nw (.methodLinkNest q.1 q.2.1 q.2.2 RX7) U) ∧ va_AO RX1 U ∧ va_AO RX3 U ∧ va_AO RX5 U
theorem aOld.moved {g : gE} {u U : State} {H : Heap} (hvm : u.vm.Alike U.vm) (hr : ∀ own k tx a, vk_R own k tx a u → vk_R own k tx a U) (hn : ∀ a i x h, va_Nw (.methodLinkNest a i x h) u → va_Nw (.methodLinkNest a i x h) U) (h : aOld g u H) : aOld g U H := by
  obtain ⟨h0, h1, h2, h3, h4, h5, h6, h7, h8, h9, h10, h11, h12, h13, h14⟩ := h
  exact ⟨h0, h1.moved hvm, h2.moved hvm, h3.moved hvm, h4.moved hvm, h5.moved hvm, fun i hi => hr _ _ _ _ (h6 i hi), h7.moved hvm, h8.moved hvm, h9.moved hvm, h10, fun q hq => hn _ _ _ _ (h11 q hq), h12.moved hvm, h13.moved hvm, h14.moved hvm⟩
theorem aOld.kept {g : gE} {U : State} {H H1 : Heap} (h : aOld g U H) (hq : ∀ a : Nat, a < H.size → ¬ aF g a → H1[a]? = H[a]?) : aOld g U H1 := by
  obtain ⟨h0, h1, h2, h3, h4, h5, h6, h7, h8, h9, h10, h11⟩ := h
  exact ⟨h0, h1.kept hq, h2.kept hq, h3.kept hq, h4.kept hq, h5.kept hq, h6, h7.kept hq, h8.kept hq, h9.kept hq, h10, h11⟩
theorem aOld.ao {g : gE} {U : State} {H : Heap} (h : aOld g U H) : va_AO RX1 U ∧ va_AO RX3 U ∧ va_AO RX5 U := h.2.2.2.2.2.2.2.2.2.2.2.2
theorem aOld.nest {g : gE} {U : State} {H : Heap} (h : aOld g U H) : ∀ q ∈ nestW, va_Nw (.methodLinkNest q.1 q.2.1 q.2.2 RX7) U := h.2.2.2.2.2.2.2.2.2.2.2.1
theorem aOld.warm {g : gE} {s U : State} {H : Heap} (hW : s.WarmedH U.vm) (h : aOld g s H) : aOld g U H := h.moved hW.alike (fun _ _ _ _ q => q.warm hW) (fun _ _ _ _ q => q.warmM hW)
theorem aOld.same {g : gE} {u U : State} {H : Heap} (hv : U.vm = u.vm) (h : aOld g u H) : aOld g U H := h.moved (by rw [hv]; exact Vm.Alike.refl _) (fun _ _ _ _ q => q.same hv) (fun _ _ _ _ q => va_Nw.same rfl hv.symm q)
/-- the room of a method that may call d deep -/
def aRoom (d MC MS : Nat) : Room := { frames := d + 1, cells := MC, slots := MS, locals := 60 * (d + 1) }
def aCtx (g : gE) (d MC MS : Nat) (o : String) (cc : ByteArray) (nL : Nat) (nm : String) (p : Program) (R : Room) (s : State) (m : MethodId) (args : Array Value) (meth : Method) (c : Code) : Prop :=
  p.tables.exec = Jvm.exec ∧ c.code = cc ∧ c.maxLocals = nL ∧ s.vm.findClass o = some m.cls ∧ (∀ w ∈ lw_good, w.before args s = true) ∧ meth.name = nm ∧ va_K (gD g) vwCl (tysL g) s ∧ aOld g s s.heap ∧ gB g ≤ s.heap.size ∧ d + 1 ≤ R.frames ∧ 60 * (d + 1) ≤ R.locals ∧ MC ≤ R.cells ∧ MS ≤ R.slots
/-- the locals: what is known of them -/
def aLoc (g : gE) (lc : Array Slot) (nL : Nat) (ls : List (Option Value)) : Prop := lc.size = nL ∧ lv_wf lc ∧ ∀ (i : Nat) (v : Value), ls[i]? = some (some v) → lc[i]? = some (.val (cv g v))
def aRetI (cc : ByteArray) (pc : Nat) (v : Option Value) : Prop := match v with
  | none => decode cc pc = .ok (.return_, 1)
  | some (.int _) => decode cc pc = .ok (.ireturn, 1)
  | some (.long _) => decode cc pc = .ok (.lreturn, 1)
  | some _ => decode cc pc = .ok (.areturn, 1)
/-- a frame of a method, at pc with locals ls, stack st and heap h, comes to a return with Q -/
def AW (l : Launch) (g : gE) (d : Nat) (o : String) (cc : ByteArray) (nL : Nat) (nm : String) (MC MS : Nat) (Q : Option Value → AH → Prop) (k n pc : Nat) (ls : List (Option Value)) (st : List Value) (h : AH) : Prop :=
  ∀ (p : Program) (e : Env) (R : Room) (s : State) (m : MethodId) (args : Array Value) (below : List Frame) (meth : Method) (c : Code), aCtx g d MC MS o cc nL nm p R s m args meth c → ∀ Z : State → Prop,
    (∀ (v : Option Value) (h' : AH) (H' : Heap) (locs' : List Loc) (ls' : Array Slot) (pc' : Nat), Q v h' → aRetI cc pc' v → aRel g h' H' → va_S (aF g) s.heap H' locs' → W p l e R s m args below meth c H' locs' MC MS Z (F0 m pc' ls' (v.map (cv g)).toList)) →
    ∀ (H : Heap) (locs : List Loc) (lc : Array Slot), aRel g h H → va_S (aF g) s.heap H locs → aLoc g lc nL ls → W p l e R s m args below meth c H locs k n Z (F0 m pc lc (st.map (cv g)))
def aPc (g : gE) (vs : List Value) (h : AH) : Array Value → State → Prop := fun a U => a = (vs.map (cv g)).toArray ∧ aRel g h U.heap ∧ va_K (gD g) vwCl (tysL g) U ∧ aOld g U U.heap
def aQc (g : gE) (Q : Option Value → AH → Prop) : Array Value → State → Outcome → State → Prop := fun _ st oc t => (∃ (v : Option Value) (h' : AH), oc = .returned (v.map (cv g)) ∧ Q v h' ∧ aRel g h' t.heap) ∧ va_F (aF g) st t
/-- a method's contract -/
def AM (l : Launch) (g : gE) (d : Nat) (y : MethodName) (cc : ByteArray) (nL : Nat) (ret : Option FieldType) (MC MS : Nat) (vs : List Value) (h : AH) (Q : Option Value → AH → Prop) : Prop :=
  Met l y (.code y cc nL ret :: lw_good) (aRoom d MC MS) (aPc g vs h) (aQc g Q) MC MS (aF g)
theorem aPc_blind (g : gE) (vs : List Value) (h : AH) : FrameBlind (aPc g vs h) := by
  intro a U gf mk ⟨h1, h2, h3, h4⟩
  exact ⟨h1, h2, va_K.moved (u := U) (U := U.calling gf mk a) (Vm.Alike.refl U.vm) h3, aOld.same (u := U) (U := U.calling gf mk a) rfl h4⟩
