/-! ===== more primitives of the class's code: references that come back, cells that are made, String constants ===== -/
def prp {α β γ : Type} (x : α × β) (f : α → β → γ) : γ := f x.1 x.2
theorem prp_of {α β γ : Type} (a : α) (b : β) (f : α → β → γ) : prp (a, b) f = f a b := rfl
theorem aRet_rf {ty : FieldType} (r : Option Nat) (h : (∃ z, ty = .object z) ∨ ∃ t, ty = .array t) : aRetOK (some ty) (some (va_rf r)) := by
  cases r with
  | none => exact ⟨⟨ty, rfl, h⟩, isRv_n⟩
  | some a => exact ⟨⟨ty, rfl, h⟩, isRv_r a⟩
/-- the fields of a new object -/
def kD (ci : Nat) : List Value := match ci with
  | 0 => [.null, .int 0, .int 0, .int 0, .int 0]
  | 1 => [.null, .null, .null, .null]
  | 2 => [.null, .int 0]
  | 3 => [.null, .int 0, .int 0, .int 0]
  | 4 => [.null, .null, .int 0, .int 0, .int 0, .int 0, .int 0, .int 0, .int 0, .int 0]
  | 5 => [.null, .int 0, .int 0]
  | 6 => [.null, .int 0]
  | _ => [.null, .null, .null, .null, .null, .null, .null, .null, .int 0, .int 0]
theorem kD_ok (g : gE) : ∀ ci, ci < 8 → ∀ j, j < kC ci → defaultValue (kY ci j) = vp_V ((kD ci).map (cv g)) j := by
  intro ci hci
  match ci, hci with
  | 0, _ => intro j hj; have hj : j < 5 := hj; rcases (show j = 0 ∨ j = 1 ∨ j = 2 ∨ j = 3 ∨ j = 4 by omega) with rfl | rfl | rfl | rfl | rfl <;> rfl
  | 1, _ => intro j hj; have hj : j < 4 := hj; rcases (show j = 0 ∨ j = 1 ∨ j = 2 ∨ j = 3 by omega) with rfl | rfl | rfl | rfl <;> rfl
  | 2, _ => intro j hj; have hj : j < 2 := hj; rcases (show j = 0 ∨ j = 1 by omega) with rfl | rfl <;> rfl
  | 3, _ => intro j hj; have hj : j < 4 := hj; rcases (show j = 0 ∨ j = 1 ∨ j = 2 ∨ j = 3 by omega) with rfl | rfl | rfl | rfl <;> rfl
  | 4, _ => intro j hj; have hj : j < 10 := hj; rcases (show j = 0 ∨ j = 1 ∨ j = 2 ∨ j = 3 ∨ j = 4 ∨ j = 5 ∨ j = 6 ∨ j = 7 ∨ j = 8 ∨ j = 9 by omega) with rfl | rfl | rfl | rfl | rfl | rfl | rfl | rfl | rfl | rfl <;> rfl
  | 5, _ => intro j hj; have hj : j < 3 := hj; rcases (show j = 0 ∨ j = 1 ∨ j = 2 by omega) with rfl | rfl | rfl <;> rfl
  | 6, _ => intro j hj; have hj : j < 2 := hj; rcases (show j = 0 ∨ j = 1 by omega) with rfl | rfl <;> rfl
  | 7, _ => intro j hj; have hj : j < 10 := hj; rcases (show j = 0 ∨ j = 1 ∨ j = 2 ∨ j = 3 ∨ j = 4 ∨ j = 5 ∨ j = 6 ∨ j = 7 ∨ j = 8 ∨ j = 9 by omega) with rfl | rfl | rfl | rfl | rfl | rfl | rfl | rfl | rfl | rfl <;> rfl
  | ci + 8, h => exact absurd h (by omega)
def nwO (ci : Nat) (S : AH) : AH := S ++ [.inr (ci, kD ci)]
/-- a new array of kind t (0 int, 2 byte), of at most B places -/
def nwA (t B : Nat) (S : AH) (x : Int32) : Option (Nat × AH) := if 0 ≤ x.toInt ∧ x.toInt ≤ (B : Int) then some (S.length, S ++ [.inl (t, (x.toNatClampNeg, .inl (fun _ => 0)))]) else none
theorem nwA_of {t B b : Nat} {S S' : AH} {x : Int32} (h : nwA t B S x = some (b, S')) : ¬ x < 0 ∧ x.toNatClampNeg ≤ B ∧ b = S.length ∧ S ++ [.inl (t, (x.toNatClampNeg, .inl (fun _ => 0)))] = S' := by
  unfold nwA at h
  split at h
  · next q =>
    have h := Option.some.inj h
    have h1 := congrArg Prod.fst h
    have h2 := congrArg Prod.snd h
    refine ⟨?_, ?_, h1.symm, h2⟩
    · intro z
      have := Int32.lt_iff_toInt_lt.mp z
      have e : (0 : Int32).toInt = 0 := rfl
      omega
    · show x.toInt.toNat ≤ B
      omega
  · cases h
def nwL (B : Nat) (S : AH) (x : Int32) : Option (Nat × AH) := if 0 ≤ x.toInt ∧ x.toInt ≤ (B : Int) then some (S.length, S ++ [.inl (1, (x.toNatClampNeg, .inr (.inl (fun _ => 0))))]) else none
theorem nwL_of {B b : Nat} {S S' : AH} {x : Int32} (h : nwL B S x = some (b, S')) : ¬ x < 0 ∧ x.toNatClampNeg ≤ B ∧ b = S.length ∧ S ++ [.inl (1, (x.toNatClampNeg, .inr (.inl (fun _ => 0))))] = S' := by
  unfold nwL at h
  split at h
  · next q =>
    have h := Option.some.inj h
    have h1 := congrArg Prod.fst h
    have h2 := congrArg Prod.snd h
    refine ⟨?_, ?_, h1.symm, h2⟩
    · intro z
      have := Int32.lt_iff_toInt_lt.mp z
      have e : (0 : Int32).toInt = 0 := rfl
      omega
    · show x.toInt.toNat ≤ B
      omega
  · cases h
def cpL (S : AH) (src : Option Nat) (sp : Int32) (dst : Option Nat) (dp cn : Int32) : Option AH := src.bind fun a0 => dst.bind fun a1 => match S[a0]?, S[a1]? with
  | some (.inl (c0, (n0, .inr (.inl f)))), some (.inl (c1, (n1, .inr (.inl f1)))) => if (c0 = 1 ∧ c1 = 1) ∧ (¬ sp < 0 ∧ ¬ dp < 0 ∧ ¬ cn < 0) ∧ sp.toNatClampNeg + cn.toNatClampNeg ≤ n0 ∧ dp.toNatClampNeg + cn.toNatClampNeg ≤ n1 then some (S.set a1 (.inl (c1, (n1, .inr (.inl (va_cpy f f1 sp.toNatClampNeg dp.toNatClampNeg cn.toNatClampNeg)))))) else none
  | _, _ => none
theorem cpL_of {S S' : AH} {src dst : Option Nat} {sp dp cn : Int32} (h : cpL S src sp dst dp cn = some S') : ∃ a0 a1 n0 n1 f f1, src = some a0 ∧ dst = some a1 ∧ S[a0]? = some (.inl (1, (n0, .inr (.inl f)))) ∧ S[a1]? = some (.inl (1, (n1, .inr (.inl f1)))) ∧ ¬ sp < 0 ∧ ¬ dp < 0 ∧ ¬ cn < 0 ∧ sp.toNatClampNeg + cn.toNatClampNeg ≤ n0 ∧ dp.toNatClampNeg + cn.toNatClampNeg ≤ n1 ∧ S.set a1 (.inl (1, (n1, .inr (.inl (va_cpy f f1 sp.toNatClampNeg dp.toNatClampNeg cn.toNatClampNeg))))) = S' := by
  unfold cpL at h
  obtain ⟨a0, h0, hz⟩ := Option.bind_eq_some_iff.mp h
  obtain ⟨a1, h1, hy⟩ := Option.bind_eq_some_iff.mp hz
  split at hy
  · next c0 n0 f c1 n1 f1 q0 q1 =>
    split at hy
    · next e =>
      obtain ⟨⟨e0, e1⟩, ⟨e2, e3, e4⟩, e5, e6⟩ := e
      subst e0
      subst e1
      exact ⟨a0, a1, n0, n1, f, f1, h0, h1, q0, q1, e2, e3, e4, e5, e6, Option.some.inj hy⟩
    · cases hy
  · cases hy
def cpI (S : AH) (src : Option Nat) (sp : Int32) (dst : Option Nat) (dp cn : Int32) : Option AH := src.bind fun a0 => dst.bind fun a1 => match S[a0]?, S[a1]? with
  | some (.inl (c0, (n0, .inl f))), some (.inl (c1, (n1, .inl f1))) => if (c0 = 0 ∧ c1 = 0) ∧ (¬ sp < 0 ∧ ¬ dp < 0 ∧ ¬ cn < 0) ∧ sp.toNatClampNeg + cn.toNatClampNeg ≤ n0 ∧ dp.toNatClampNeg + cn.toNatClampNeg ≤ n1 then some (S.set a1 (.inl (c1, (n1, .inl (va_cpy f f1 sp.toNatClampNeg dp.toNatClampNeg cn.toNatClampNeg))))) else none
  | _, _ => none
theorem cpI_of {S S' : AH} {src dst : Option Nat} {sp dp cn : Int32} (h : cpI S src sp dst dp cn = some S') : ∃ a0 a1 n0 n1 f f1, src = some a0 ∧ dst = some a1 ∧ S[a0]? = some (.inl (0, (n0, .inl f))) ∧ S[a1]? = some (.inl (0, (n1, .inl f1))) ∧ ¬ sp < 0 ∧ ¬ dp < 0 ∧ ¬ cn < 0 ∧ sp.toNatClampNeg + cn.toNatClampNeg ≤ n0 ∧ dp.toNatClampNeg + cn.toNatClampNeg ≤ n1 ∧ S.set a1 (.inl (0, (n1, .inl (va_cpy f f1 sp.toNatClampNeg dp.toNatClampNeg cn.toNatClampNeg)))) = S' := by
  unfold cpI at h
  obtain ⟨a0, h0, hz⟩ := Option.bind_eq_some_iff.mp h
  obtain ⟨a1, h1, hy⟩ := Option.bind_eq_some_iff.mp hz
  split at hy
  · next c0 n0 f c1 n1 f1 q0 q1 =>
    split at hy
    · next e =>
      obtain ⟨⟨e0, e1⟩, ⟨e2, e3, e4⟩, e5, e6⟩ := e
      subst e0
      subst e1
      exact ⟨a0, a1, n0, n1, f, f1, h0, h1, q0, q1, e2, e3, e4, e5, e6, Option.some.inj hy⟩
    · cases hy
  · cases hy
/-- an answer that its kind holds -/
def ng {α : Type} (ty : FieldType) (o : Option (Int32 × α)) : Option (Int32 × α) := o.bind fun r => if narrow ty (.int r.1) = .int r.1 then some r else none
theorem ng_of {α : Type} {ty : FieldType} {o : Option (Int32 × α)} {r : Int32 × α} (h : ng ty o = some r) : o = some r ∧ narrow ty (.int r.1) = .int r.1 := by
  unfold ng at h
  obtain ⟨x, hx, hz⟩ := Option.bind_eq_some_iff.mp h
  split at hz
  · next q => cases hz; exact ⟨hx, q⟩
  · cases hz
section
variable {l : Launch} {g : gE} {d : Nat} {o : String} {cc : ByteArray} {nL : Nat} {nm : String} {MC MS' : Nat} {Q : Option Value → AH → Prop} {k n pc : Nat} {ls : List (Option Value)} {st : List Value} {S : AH}
theorem a_areturnR {r : Option Nat} (hd : decode cc pc = .ok (.areturn, 1)) (hk : k ≤ MC) (hn : n ≤ MS') (hq : Q (some (va_rf r)) S) : AW l g d o cc nL nm MC MS' Q k n pc ls [va_rf r] S := by
  cases r with
  | none => exact a_areturnN hd hk hn hq
  | some a => exact a_areturn hd hk hn hq
theorem g_new {i ci : Nat} (hd : decode cc pc = .ok (.new i, 3)) (hc : aNew o i ci) (hci : ci < 8) (hk : k + 1 ≤ MC) (hn : n + kC ci ≤ MS') (kk : AW l g d o cc nL nm MC MS' Q (k + 1) (n + kC ci) (pc + 3) ls (.ref S.length :: st) (nwO ci S)) : AW l g d o cc nL nm MC MS' Q k n pc ls st S :=
  a_new ci (kD ci) hd hc (kD_ok g ci hci) hk hn kk
theorem g_newI {B b : Nat} {x : Int32} {S' : AH} (hd : decode cc pc = .ok (.newarray .int, 2)) (hB : B ≤ 8192) (hx : nwA 0 B S x = some (b, S')) (hk : k + 1 ≤ MC) (hn : n + B ≤ MS') (kk : AW l g d o cc nL nm MC MS' Q (k + 1) (n + B) (pc + 2) ls (.ref b :: st) S') : AW l g d o cc nL nm MC MS' Q k n pc ls (.int x :: st) S := by
  obtain ⟨h1, h2, rfl, rfl⟩ := nwA_of hx
  exact a_newaI x.toNatClampNeg hd ka_int h1 rfl (by omega) hk (by omega) (a_widen (Nat.le_refl _) (by omega) kk)
theorem g_newB {B b : Nat} {x : Int32} {S' : AH} (hd : decode cc pc = .ok (.newarray .byte, 2)) (hB : B ≤ 8192) (hx : nwA 2 B S x = some (b, S')) (hk : k + 1 ≤ MC) (hn : n + B ≤ MS') (kk : AW l g d o cc nL nm MC MS' Q (k + 1) (n + B) (pc + 2) ls (.ref b :: st) S') : AW l g d o cc nL nm MC MS' Q k n pc ls (.int x :: st) S := by
  obtain ⟨h1, h2, rfl, rfl⟩ := nwA_of hx
  exact a_newaB x.toNatClampNeg hd ka_byte h1 rfl (by omega) hk (by omega) (a_widen (Nat.le_refl _) (by omega) kk)
theorem g_calli {i n0 b mc ms : Nat} {y : MethodName} {cy : ByteArray} {nLy : Nat} {S' : AH} (As rest : List Value) (hd : decode cc pc = .ok (.invokespecial i, 3)) (hl : Cond.methodLink o i y ∈ lw_good) (hy : aMethI y cy nLy n0) (hn0 : As.length = n0) (hd1 : 1 ≤ d) (hM : AM l g (d - 1) y cy nLy none mc ms (.ref b :: As) S (Qr none S')) (hs : st = As.reverse ++ .ref b :: rest) (hcat : (rest.map fun v => v.category).sum ≤ 8) (hk : k + mc ≤ MC) (hn : n + ms ≤ MS') (kk : AW l g d o cc nL nm MC MS' Q (k + mc) (n + ms) (pc + 3) ls rest S') : AW l g d o cc nL nm MC MS' Q k n pc ls st S :=
  a_callI As rest hd rfl hl hy hn0 (by omega) hM hs hcat hk hn (fun w h' q => by obtain ⟨rfl, rfl⟩ := q; exact kk)
theorem g_calliN {i n0 b mc ms : Nat} {y : MethodName} {cy : ByteArray} {nLy : Nat} {S' : AH} (As rest : List Value) (hd : decode cc pc = .ok (.invokespecial i, 3)) (hl : (o, i, y) ∈ nestW) (hy : aMethI y cy nLy n0) (hn0 : As.length = n0) (hd1 : 1 ≤ d) (hM : AM l g (d - 1) y cy nLy none mc ms (.ref b :: As) S (Qr none S')) (hs : st = As.reverse ++ .ref b :: rest) (hcat : (rest.map fun v => v.category).sum ≤ 8) (hk : k + mc ≤ MC) (hn : n + ms ≤ MS') (kk : AW l g d o cc nL nm MC MS' Q (k + mc) (n + ms) (pc + 3) ls rest S') : AW l g d o cc nL nm MC MS' Q k n pc ls st S :=
  a_callIN As rest hd rfl hl hy hn0 (by omega) hM hs hcat hk hn (fun w h' q => by obtain ⟨rfl, rfl⟩ := q; exact kk)
theorem g_callQ {i n0 mc ms : Nat} {y : MethodName} {cy : ByteArray} {nLy : Nat} {ret : Option FieldType} {S' : AH} (j : Nat) (v : Value) (As rest : List Value) (hd : decode cc pc = .ok (.invokevirtual i, 3)) (hl : Cond.methodLink o i y ∈ lw_good) (hy : aMethV y cy nLy ret n0) (hj : j < 5) (hcls : y.cls = "java/lang/String") (hn0 : As.length = n0) (hd1 : 1 ≤ d) (hM : AM l g (d - 1) y cy nLy ret mc ms (.retAddr (2 + j) :: As) S (Qr (some v) S')) (hs : st = As.reverse ++ .retAddr (2 + j) :: rest) (hcat : (rest.map fun v => v.category).sum ≤ 8) (hk : k + mc ≤ MC) (hn : n + ms ≤ MS') (kk : AW l g d o cc nL nm MC MS' Q (k + mc) (n + ms) (pc + 3) ls (v :: rest) S') : AW l g d o cc nL nm MC MS' Q k n pc ls st S :=
  a_callVS j As rest hd hl hy hj hcls hn0 (by omega) hM hs hcat hk hn (fun w h' q => by obtain ⟨rfl, rfl⟩ := q; exact kk)
theorem g_callv0 {i n0 mc ms : Nat} {y : MethodName} {cy : ByteArray} {nLy : Nat} {S' : AH} (As rest : List Value) (hd : decode cc pc = .ok (.invokestatic i, 3)) (hl : Cond.methodLink o i y ∈ lw_good) (hy : aMethS y cy nLy none n0) (hn0 : As.length = n0) (hd1 : 1 ≤ d) (hM : AM l g (d - 1) y cy nLy none mc ms As S (Qr none S')) (hs : st = As.reverse ++ rest) (hcat : (rest.map fun v => v.category).sum ≤ 8) (hk : k + mc ≤ MC) (hn : n + ms ≤ MS') (kk : AW l g d o cc nL nm MC MS' Q (k + mc) (n + ms) (pc + 3) ls rest S') : AW l g d o cc nL nm MC MS' Q k n pc ls st S :=
  a_callS As rest hd hl hy hn0 (by omega) hM hs hcat hk hn (fun w h' q => by obtain ⟨rfl, rfl⟩ := q; exact kk)
/-- a new array of longs -/
theorem g_newJ {B b : Nat} {x : Int32} {S' : AH} (hd : decode cc pc = .ok (.newarray .long, 2)) (hB : B ≤ 8192) (hx : nwL B S x = some (b, S')) (hk : k + 1 ≤ MC) (hn : n + B ≤ MS') (kk : AW l g d o cc nL nm MC MS' Q (k + 1) (n + B) (pc + 2) ls (.ref b :: st) S') : AW l g d o cc nL nm MC MS' Q k n pc ls (.int x :: st) S := by
  obtain ⟨h1, h2, rfl, rfl⟩ := nwL_of hx
  exact a_newaJ x.toNatClampNeg hd ka_long h1 rfl (by omega) hk (by omega) (a_widen (Nat.le_refl _) (by omega) kk)
/-- longs of one row come into another, or the same, as they all were before -/
theorem g_copyl {i : Nat} {src dst : Option Nat} {sp dp cn : Int32} {S' : AH} (hd : decode cc pc = .ok (.invokestatic i, 3)) (hl : Cond.methodLink o i arraycopyName ∈ lw_good) (hd1 : 0 ≤ d) (hcat : (st.map fun v => v.category).sum ≤ 8) (hx : cpL S src sp dst dp cn = some S') (kk : AW l g d o cc nL nm MC MS' Q k n (pc + 3) ls st S') : AW l g d o cc nL nm MC MS' Q k n pc ls (.int cn :: .int dp :: va_rf dst :: .int sp :: va_rf src :: st) S := by
  obtain ⟨a0, a1, n0, n1, f, f1, rfl, rfl, e0, e1, h1, h2, h3, h4, h5, rfl⟩ := cpL_of hx
  intro p e R s m args below meth c C Z hz H locs lc hR hS hL
  obtain ⟨hx', hb, hml, hown, hts, -, hK, hO, hB, hfr, hlo, hMC, hMS⟩ := id C
  have hc0 : H[gB g + a0]? = some (vp_cell (gA g 1) (n0, .inr (.inl f))) := hR.2 a0 _ (wl_at e0)
  have hc1 : H[gB g + a1]? = some (vp_cell (gA g 1) (n1, .inr (.inl f1))) := hR.2 a1 _ (wl_at e1)
  obtain ⟨-, k0, hk0, cm0, hkk0⟩ := (hK.2 1 _ rfl).1 n0 (fun j => .long (f j))
  obtain ⟨-, k1, hk1, cm1, hkk1⟩ := (hK.2 1 _ rfl).1 n1 (fun j => .long (f1 j))
  have nn : ∀ z : Int32, ¬ z < 0 → z.toInt = (z.toNatClampNeg : Int) := by
    intro z hz
    have hz0 : (0 : Int) ≤ z.toInt := by
      have := Int32.not_lt.mp hz
      simpa using Int32.le_iff_toInt_le.mp this
    show z.toInt = ((z.toInt.toNat : Nat) : Int)
    omega
  have hrest : ((st.map (cv g)).map fun v => v.category).sum ≤ 8 := by rw [cv_cats]; exact hcat
  intro T hT X
  obtain ⟨vm', X', step⟩ := X.arraycopy hx' hown (hts _ hl) (hts _ kn_copy) (hts _ ks_copy) (hts _ ki_sys) (src := gB g + a0) (dst := gB g + a1) (cs := vp_cell (gA g 1) (n0, .inr (.inl f))) (cd := vp_cell (gA g 1) (n1, .inr (.inl f1))) (srcPos := sp) (destPos := dp) (n := cn) (by rw [hT]; exact hc0) (by rw [hT]; exact hc1)
    (fun _ h => by cases h) (fun _ h => by cases h) (fun h => by cases h) (fun h => by cases h) hk0 hk1 hkk0 hkk1 (by rfl) h1 h2 h3
    (by rw [nn sp h1, nn cn h3]; show ¬ _ > ((arrV (gA g 1) n0 (fun j => .long (f j))).slots.size : Int); rw [arrV_size]; omega)
    (by rw [nn dp h2, nn cn h3]; show ¬ _ > ((arrV (gA g 1) n1 (fun j => .long (f1 j))).slots.size : Int); rw [arrV_size]; omega)
    (fun vm₁ _ i hi => by
      have e9 : (vp_cell (gA g 1) (n0, .inr (.inl f))).slots.getD (sp.toNatClampNeg + i) .null = .long (f (sp.toNatClampNeg + i)) := by
        show (arrV (gA g 1) n0 (fun j => .long (f j))).slots.getD _ _ = _
        rw [Array.getD_eq_getD_getElem?, arrV_read _ _ (by omega)]
        rfl
      refine ⟨?_, ?_⟩
      · rw [e9]
        rfl
      · rw [e9]
        exact trivial)
    (g := F0 m pc lc ((.int cn :: .int dp :: va_rf (some a1) :: .int sp :: va_rf (some a0) :: st).map (cv g))) rfl (by rw [hml]; first | done | exact hL.1) (rest := st.map (cv g)) rfl (by rw [hb]; exact hd) (by omega) (by show 2 * 0 + _ + _ ≤ _; have h40 : nativeFrameWords "java/lang/System" "arraycopy" 5 + 11 ≤ 40 := (by decide); omega)
  have e9 : copied (vp_cell (gA g 1) (n0, .inr (.inl f))) (vp_cell (gA g 1) (n1, .inr (.inl f1))) sp dp cn = vp_cell (gA g 1) (n1, .inr (.inl (va_cpy f f1 sp.toNatClampNeg dp.toNatClampNeg cn.toNatClampNeg))) := va_copied (fun z => .long z) _ _ f f1 h4
  rw [e9] at X' step
  have hl9 : gB g + a1 < H.size := (Array.getElem?_eq_some_iff.mp hc1).1
  generalize hV : vp_cell (gA g 1) (n1, .inr (.inl (va_cpy f f1 sp.toNatClampNeg dp.toNatClampNeg cn.toNatClampNeg))) = V at X' step
  have hheap : ((T.setVm vm').setCell (gB g + a1) V).heap = H.setIfInBounds (gB g + a1) V := by rw [← hT]; rfl
  have oq : ∀ q : Nat, q ≠ gB g + a1 → (H.setIfInBounds (gB g + a1) V)[q]? = H[q]? := fun q hq => by simp [Array.getElem?_setIfInBounds, Ne.symm hq]
  have hz1 : (H.setIfInBounds (gB g + a1) V).size = H.size := by simp
  have hR1 : aRel g (S.set a1 (.inl (1, (n1, .inr (.inl (va_cpy f f1 sp.toNatClampNeg dp.toNatClampNeg cn.toNatClampNeg)))))) (H.setIfInBounds (gB g + a1) V) := by
    refine hR.set e1 ?_ hz1 oq
    show (H.setIfInBounds (gB g + a1) V)[gB g + a1]? = some (vp_cell _ _)
    simp [Array.getElem?_setIfInBounds, hl9, ← hV]
  obtain ⟨t, b1, b2⟩ := kk p e R s m args below meth c C Z hz _ _ lc hR1 ⟨by rw [hz1]; exact hS.1, fun q g1 g2 => by
      rw [oq q (fun e => g2 (by rw [e]; exact Nat.le_add_right _ _))]
      exact hS.2.1 q g1 g2, fun q hq => by
      rcases List.mem_append.mp hq with h | h
      · exact hS.2.2 q h
      · obtain ⟨z, -, hz⟩ := List.mem_map.mp h
        rw [← hz]
        exact Nat.le_add_right _ _⟩ hL _ hheap X'
  exact ⟨t, step t b1, b2⟩
/-- ints of one row come into another, or the same, as they all were before -/
theorem g_copyi {i : Nat} {src dst : Option Nat} {sp dp cn : Int32} {S' : AH} (hd : decode cc pc = .ok (.invokestatic i, 3)) (hl : Cond.methodLink o i arraycopyName ∈ lw_good) (hd1 : 0 ≤ d) (hcat : (st.map fun v => v.category).sum ≤ 8) (hx : cpI S src sp dst dp cn = some S') (kk : AW l g d o cc nL nm MC MS' Q k n (pc + 3) ls st S') : AW l g d o cc nL nm MC MS' Q k n pc ls (.int cn :: .int dp :: va_rf dst :: .int sp :: va_rf src :: st) S := by
  obtain ⟨a0, a1, n0, n1, f, f1, rfl, rfl, e0, e1, h1, h2, h3, h4, h5, rfl⟩ := cpI_of hx
  intro p e R s m args below meth c C Z hz H locs lc hR hS hL
  obtain ⟨hx', hb, hml, hown, hts, -, hK, hO, hB, hfr, hlo, hMC, hMS⟩ := id C
  have hc0 : H[gB g + a0]? = some (vp_cell (gA g 0) (n0, .inl f)) := hR.2 a0 _ (wl_at e0)
  have hc1 : H[gB g + a1]? = some (vp_cell (gA g 0) (n1, .inl f1)) := hR.2 a1 _ (wl_at e1)
  obtain ⟨-, k0, hk0, cm0, hkk0⟩ := (hK.2 0 _ rfl).1 n0 (fun j => .int (f j))
  obtain ⟨-, k1, hk1, cm1, hkk1⟩ := (hK.2 0 _ rfl).1 n1 (fun j => .int (f1 j))
  have nn : ∀ z : Int32, ¬ z < 0 → z.toInt = (z.toNatClampNeg : Int) := by
    intro z hz
    have hz0 : (0 : Int) ≤ z.toInt := by
      have := Int32.not_lt.mp hz
      simpa using Int32.le_iff_toInt_le.mp this
    show z.toInt = ((z.toInt.toNat : Nat) : Int)
    omega
  have hrest : ((st.map (cv g)).map fun v => v.category).sum ≤ 8 := by rw [cv_cats]; exact hcat
  intro T hT X
  obtain ⟨vm', X', step⟩ := X.arraycopy hx' hown (hts _ hl) (hts _ kn_copy) (hts _ ks_copy) (hts _ ki_sys) (src := gB g + a0) (dst := gB g + a1) (cs := vp_cell (gA g 0) (n0, .inl f)) (cd := vp_cell (gA g 0) (n1, .inl f1)) (srcPos := sp) (destPos := dp) (n := cn) (by rw [hT]; exact hc0) (by rw [hT]; exact hc1)
    (fun _ h => by cases h) (fun _ h => by cases h) (fun h => by cases h) (fun h => by cases h) hk0 hk1 hkk0 hkk1 (by rfl) h1 h2 h3
    (by rw [nn sp h1, nn cn h3]; show ¬ _ > ((arrV (gA g 0) n0 (fun j => .int (f j))).slots.size : Int); rw [arrV_size]; omega)
    (by rw [nn dp h2, nn cn h3]; show ¬ _ > ((arrV (gA g 0) n1 (fun j => .int (f1 j))).slots.size : Int); rw [arrV_size]; omega)
    (fun vm₁ _ i hi => by
      have e9 : (vp_cell (gA g 0) (n0, .inl f)).slots.getD (sp.toNatClampNeg + i) .null = .int (f (sp.toNatClampNeg + i)) := by
        show (arrV (gA g 0) n0 (fun j => .int (f j))).slots.getD _ _ = _
        rw [Array.getD_eq_getD_getElem?, arrV_read _ _ (by omega)]
        rfl
      refine ⟨?_, ?_⟩
      · rw [e9]
        rfl
      · rw [e9]
        exact trivial)
    (g := F0 m pc lc ((.int cn :: .int dp :: va_rf (some a1) :: .int sp :: va_rf (some a0) :: st).map (cv g))) rfl (by rw [hml]; first | done | exact hL.1) (rest := st.map (cv g)) rfl (by rw [hb]; exact hd) (by omega) (by show 2 * 0 + _ + _ ≤ _; have h40 : nativeFrameWords "java/lang/System" "arraycopy" 5 + 11 ≤ 40 := (by decide); omega)
  have e9 : copied (vp_cell (gA g 0) (n0, .inl f)) (vp_cell (gA g 0) (n1, .inl f1)) sp dp cn = vp_cell (gA g 0) (n1, .inl (va_cpy f f1 sp.toNatClampNeg dp.toNatClampNeg cn.toNatClampNeg)) := va_copied (fun z => .int z) _ _ f f1 h4
  rw [e9] at X' step
  have hl9 : gB g + a1 < H.size := (Array.getElem?_eq_some_iff.mp hc1).1
  generalize hV : vp_cell (gA g 0) (n1, .inl (va_cpy f f1 sp.toNatClampNeg dp.toNatClampNeg cn.toNatClampNeg)) = V at X' step
  have hheap : ((T.setVm vm').setCell (gB g + a1) V).heap = H.setIfInBounds (gB g + a1) V := by rw [← hT]; rfl
  have oq : ∀ q : Nat, q ≠ gB g + a1 → (H.setIfInBounds (gB g + a1) V)[q]? = H[q]? := fun q hq => by simp [Array.getElem?_setIfInBounds, Ne.symm hq]
  have hz1 : (H.setIfInBounds (gB g + a1) V).size = H.size := by simp
  have hR1 : aRel g (S.set a1 (.inl (0, (n1, .inl (va_cpy f f1 sp.toNatClampNeg dp.toNatClampNeg cn.toNatClampNeg))))) (H.setIfInBounds (gB g + a1) V) := by
    refine hR.set e1 ?_ hz1 oq
    show (H.setIfInBounds (gB g + a1) V)[gB g + a1]? = some (vp_cell _ _)
    simp [Array.getElem?_setIfInBounds, hl9, ← hV]
  obtain ⟨t, b1, b2⟩ := kk p e R s m args below meth c C Z hz _ _ lc hR1 ⟨by rw [hz1]; exact hS.1, fun q g1 g2 => by
      rw [oq q (fun e => g2 (by rw [e]; exact Nat.le_add_right _ _))]
      exact hS.2.1 q g1 g2, fun q hq => by
      rcases List.mem_append.mp hq with h | h
      · exact hS.2.2 q h
      · obtain ⟨z, -, hz⟩ := List.mem_map.mp h
        rw [← hz]
        exact Nat.le_add_right _ _⟩ hL _ hheap X'
  exact ⟨t, step t b1, b2⟩
theorem a_mmaxW : Cond.static Lib.Math.max.name ∈ lw_good ∧ Cond.code Lib.Math.max.name Lib.Math.max.code 2 (some .int) ∈ lw_good := ⟨lw_in (by decide +kernel) (by decide +kernel), lw_in (by decide +kernel) (by decide +kernel)⟩
theorem a_mmax {i : Nat} {x y : Int32} (hd : decode cc pc = .ok (.invokestatic i, 3)) (hl : Cond.methodLink o i yJ9_max_7cf53 ∈ lw_good) (hcat : (st.map fun v => v.category).sum ≤ 8) (hk : k ≤ MC) (hn : n ≤ MS') (kk : AW l g d o cc nL nm MC MS' Q k n (pc + 3) ls (.int (if x < y then y else x) :: st) S) : AW l g d o cc nL nm MC MS' Q k n pc ls (.int y :: .int x :: st) S := by
  intro p e R s m args below meth c C Z hz H locs lc hR hS hL
  obtain ⟨hx', hb, hml, hown, hts, -, hK, hO, hB, hfr, hlo, hMC, hMS⟩ := id C
  have hrest : ((st.map (cv g)).map fun v => v.category).sum ≤ 8 := by rw [cv_cats]; exact hcat
  exact va_mmax hx' hb (by rw [hml, hL.1]) hown (hts _ (show Cond.methodLink o i Lib.Math.max.name ∈ lw_good from hl)) (hts _ a_mmaxW.1) (hts _ (ms_J9_max_7cf53).1.2.1) (hts _ a_mmaxW.2) (by omega) (by omega) (by omega) (by omega) hd (kk p e R s m args below meth c C Z hz H locs lc hR hS hL)
theorem a_mminW : Cond.static Lib.Math.min.name ∈ lw_good ∧ Cond.code Lib.Math.min.name Lib.Math.min.code 2 (some .int) ∈ lw_good := ⟨lw_in (by decide +kernel) (by decide +kernel), lw_in (by decide +kernel) (by decide +kernel)⟩
theorem a_mmin {i : Nat} {x y : Int32} (hd : decode cc pc = .ok (.invokestatic i, 3)) (hl : Cond.methodLink o i yJ9_min_7cf53 ∈ lw_good) (hcat : (st.map fun v => v.category).sum ≤ 8) (hk : k ≤ MC) (hn : n ≤ MS') (kk : AW l g d o cc nL nm MC MS' Q k n (pc + 3) ls (.int (if y < x then y else x) :: st) S) : AW l g d o cc nL nm MC MS' Q k n pc ls (.int y :: .int x :: st) S := by
  intro p e R s m args below meth c C Z hz H locs lc hR hS hL
  obtain ⟨hx', hb, hml, hown, hts, -, hK, hO, hB, hfr, hlo, hMC, hMS⟩ := id C
  have hrest : ((st.map (cv g)).map fun v => v.category).sum ≤ 8 := by rw [cv_cats]; exact hcat
  exact va_mmin hx' hb (by rw [hml, hL.1]) hown (hts _ (show Cond.methodLink o i Lib.Math.min.name ∈ lw_good from hl)) (hts _ a_mminW.1) (hts _ (ms_J9_min_7cf53).1.2.1) (hts _ a_mminW.2) (by omega) (by omega) (by omega) (by omega) hd (kk p e R s m args below meth c C Z hz H locs lc hR hS hL)
theorem a_mabsW : Cond.static Lib.Math.abs.name ∈ lw_good ∧ Cond.code Lib.Math.abs.name Lib.Math.abs.code 1 (some .int) ∈ lw_good := ⟨lw_in (by decide +kernel) (by decide +kernel), lw_in (by decide +kernel) (by decide +kernel)⟩
theorem a_mabs {i : Nat} {x : Int32} (hd : decode cc pc = .ok (.invokestatic i, 3)) (hl : Cond.methodLink o i yJ9_abs_0f7a4 ∈ lw_good) (hcat : (st.map fun v => v.category).sum ≤ 8) (hk : k ≤ MC) (hn : n ≤ MS') (kk : AW l g d o cc nL nm MC MS' Q k n (pc + 3) ls (.int (if 0 ≤ x then x else 0 - x) :: st) S) : AW l g d o cc nL nm MC MS' Q k n pc ls (.int x :: st) S := by
  intro p e R s m args below meth c C Z hz H locs lc hR hS hL
  obtain ⟨hx', hb, hml, hown, hts, -, hK, hO, hB, hfr, hlo, hMC, hMS⟩ := id C
  have hrest : ((st.map (cv g)).map fun v => v.category).sum ≤ 8 := by rw [cv_cats]; exact hcat
  exact va_mabs hx' hb (by rw [hml, hL.1]) hown (hts _ (show Cond.methodLink o i Lib.Math.abs.name ∈ lw_good from hl)) (hts _ a_mabsW.1) (hts _ (ms_J9_abs_0f7a4).1.2.1) (hts _ a_mabsW.2) (by omega) (by omega) (by omega) (by omega) hd (kk p e R s m args below meth c C Z hz H locs lc hR hS hL)
/-- a byte of String constant j -/
def sB (j : Nat) (i : Int32) : Option Int32 := if ixOk i (sLen.getD j 0) = true then some ((sByt.getD j []).getD i.toNatClampNeg 0) else none
theorem g_oldB {i x : Int32} (j : Nat) (hj : j < 5) (hd : decode cc pc = .ok (.baload, 1)) (hx : sB j i = some x) (kk : AW l g d o cc nL nm MC MS' Q k n (pc + 1) ls (.int x :: st) S) : AW l g d o cc nL nm MC MS' Q k n pc ls (.int i :: .retAddr (7 + j) :: st) S := by
  unfold sB at hx
  split at hx
  · next q =>
    have hx := Option.some.inj hx
    subst hx
    exact a_oldB j hj hd (ixOk_in q) kk
  · cases hx
end
