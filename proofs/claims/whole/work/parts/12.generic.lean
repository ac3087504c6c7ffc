/-! ===== the primitives of the class's code in numbers: the heap is the list of cells ===== -/
theorem va_rf_cat (r : Option Nat) : (va_rf r).category = 1 := by cases r <;> rfl
theorem isRv_rf (r : Option Nat) : isRv (va_rf r) := by
  cases r with
  | none => exact isRv_n
  | some a => exact isRv_r a
def gF (S : AH) (a ci j : Nat) : Option Value := match S[a]? with
  | some (.inr (c, fs)) => if c = ci then fs[j]? else none
  | _ => none
def gI (S : AH) (a ci j : Nat) : Option Int32 := (gF S a ci j).bind fun v => match v with
  | .int x => some x
  | _ => none
def gQ (S : AH) (a ci j : Nat) : Option (Option Nat) := (gF S a ci j).bind fun v => match v with
  | .ref b => some (some b)
  | .null => some none
  | _ => none
def sF (S : AH) (a ci j : Nat) (v : Value) : Option AH := match S[a]? with
  | some (.inr (c, fs)) => if c = ci ∧ j < fs.length then some (S.set a (.inr (c, fs.set j v))) else none
  | _ => none
def sI (S : AH) (a ci j : Nat) (x : Int32) : Option AH := sF S a ci j (.int x)
def sZ (S : AH) (a ci j : Nat) (x : Int32) : Option AH := if x = 0 ∨ x = 1 then sF S a ci j (.int x) else none
def sQ (S : AH) (a ci j : Nat) (r : Option Nat) : Option AH := sF S a ci j (va_rf r)
/-- an element of an array of ints, bytes or booleans (kind t) -/
def aA (t : Nat) (S : AH) (r : Option Nat) (i : Int32) : Option Int32 := r.bind fun a => match S[a]? with
  | some (.inl (c, (N, .inl f))) => if c = t ∧ ixOk i N = true then some (f i.toNatClampNeg) else none
  | _ => none
def aL (S : AH) (r : Option Nat) (i : Int32) : Option Int64 := r.bind fun a => match S[a]? with
  | some (.inl (c, (N, .inr (.inl f)))) => if c = 1 ∧ ixOk i N = true then some (f i.toNatClampNeg) else none
  | _ => none
def aQ (t : Nat) (S : AH) (r : Option Nat) (i : Int32) : Option (Option Nat) := r.bind fun a => match S[a]? with
  | some (.inl (c, (N, .inr (.inr (.inr (.inr f)))))) => if c = t ∧ ixOk i N = true then some (f i.toNatClampNeg) else none
  | _ => none
def aN (S : AH) (r : Option Nat) : Option Int32 := r.bind fun a => match S[a]? with
  | some (.inl (c, (N, _))) => if c < 7 then some (Int32.ofNat N) else none
  | _ => none
def uA (t : Nat) (S : AH) (r : Option Nat) (i x : Int32) : Option AH := r.bind fun a => match S[a]? with
  | some (.inl (c, (N, .inl f))) => if c = t ∧ ixOk i N = true then some (S.set a (.inl (c, (N, .inl (upd f i.toNatClampNeg x))))) else none
  | _ => none
def uL (S : AH) (r : Option Nat) (i : Int32) (x : Int64) : Option AH := r.bind fun a => match S[a]? with
  | some (.inl (c, (N, .inr (.inl f)))) => if c = 1 ∧ ixOk i N = true then some (S.set a (.inl (c, (N, .inr (.inl (vp_updL f i.toNatClampNeg x)))))) else none
  | _ => none
/-- an object of class ci stands at b -/
def isO (S : AH) (b ci : Nat) : Bool := match S[b]? with
  | some (.inr (c, _)) => c == ci
  | _ => false
/-- into an array of references (kind t), an object of class ci -/
def uQ (t ci : Nat) (S : AH) (r : Option Nat) (i : Int32) (b : Nat) : Option AH := r.bind fun a => match S[a]? with
  | some (.inl (c, (N, .inr (.inr (.inr (.inr f)))))) => if c = t ∧ ixOk i N = true ∧ isO S b ci = true then some (S.set a (.inl (c, (N, .inr (.inr (.inr (.inr (va_up f i.toNatClampNeg (some b))))))))) else none
  | _ => none
def cO {α : Type} (S : AH) (b ci : Nat) (o : Option α) : Option α := if isO S b ci = true then o else none
def oA (t : List Int32) (N : Nat) (i : Int32) : Option Int32 := if ixOk i N = true then some (t.getD i.toNatClampNeg 0) else none
def ifn {α : Type} (r : Option Nat) (x : α) (f : Nat → α) : α := match r with
  | none => x
  | some a => f a
theorem ifn_none {α : Type} (x : α) (f : Nat → α) : ifn none x f = x := rfl
theorem ifn_some {α : Type} (a : Nat) (x : α) (f : Nat → α) : ifn (some a) x f = f a := rfl
theorem gF_of {S : AH} {a ci j : Nat} {v : Value} (h : gF S a ci j = some v) : ∃ fs, S[a]? = some (.inr (ci, fs)) ∧ fs[j]? = some v := by
  unfold gF at h
  split at h
  · next c fs q =>
    split at h
    · next e => subst e; exact ⟨fs, q, h⟩
    · cases h
  · cases h
theorem gI_of {S : AH} {a ci j : Nat} {x : Int32} (h : gI S a ci j = some x) : ∃ fs, S[a]? = some (.inr (ci, fs)) ∧ fs[j]? = some (.int x) := by
  unfold gI at h
  obtain ⟨v, hv, h⟩ := Option.bind_eq_some_iff.mp h
  split at h
  · cases h; exact gF_of hv
  · cases h
theorem gQ_of {S : AH} {a ci j : Nat} {r : Option Nat} (h : gQ S a ci j = some r) : ∃ fs, S[a]? = some (.inr (ci, fs)) ∧ fs[j]? = some (va_rf r) := by
  unfold gQ at h
  obtain ⟨v, hv, h⟩ := Option.bind_eq_some_iff.mp h
  split at h
  · cases h; exact gF_of hv
  · cases h; exact gF_of hv
  · cases h
theorem sF_of {S S' : AH} {a ci j : Nat} {v : Value} (h : sF S a ci j v = some S') : ∃ fs, S[a]? = some (.inr (ci, fs)) ∧ j < fs.length ∧ S.set a (.inr (ci, fs.set j v)) = S' := by
  unfold sF at h
  split at h
  · next c fs q =>
    split at h
    · next e => obtain ⟨e, e2⟩ := e; subst e; exact ⟨fs, q, e2, Option.some.inj h⟩
    · cases h
  · cases h
theorem aA_of {t : Nat} {S : AH} {r : Option Nat} {i x : Int32} (h : aA t S r i = some x) : ∃ a N f, r = some a ∧ S[a]? = some (.inl (t, (N, .inl f))) ∧ vp_in i N ∧ f i.toNatClampNeg = x := by
  unfold aA at h
  obtain ⟨a, ha, hz⟩ := Option.bind_eq_some_iff.mp h
  split at hz
  · next c N f q =>
    split at hz
    · next e => obtain ⟨e, e2⟩ := e; subst e; exact ⟨a, N, f, ha, q, ixOk_in e2, Option.some.inj hz⟩
    · cases hz
  · cases hz
theorem aL_of {S : AH} {r : Option Nat} {i : Int32} {x : Int64} (h : aL S r i = some x) : ∃ a N f, r = some a ∧ S[a]? = some (.inl (1, (N, .inr (.inl f)))) ∧ vp_in i N ∧ f i.toNatClampNeg = x := by
  unfold aL at h
  obtain ⟨a, ha, hz⟩ := Option.bind_eq_some_iff.mp h
  split at hz
  · next c N f q =>
    split at hz
    · next e => obtain ⟨e, e2⟩ := e; subst e; exact ⟨a, N, f, ha, q, ixOk_in e2, Option.some.inj hz⟩
    · cases hz
  · cases hz
theorem aQ_of {t : Nat} {S : AH} {r : Option Nat} {i : Int32} {x : Option Nat} (h : aQ t S r i = some x) : ∃ a N f, r = some a ∧ S[a]? = some (.inl (t, (N, .inr (.inr (.inr (.inr f)))))) ∧ vp_in i N ∧ f i.toNatClampNeg = x := by
  unfold aQ at h
  obtain ⟨a, ha, hz⟩ := Option.bind_eq_some_iff.mp h
  split at hz
  · next c N f q =>
    split at hz
    · next e => obtain ⟨e, e2⟩ := e; subst e; exact ⟨a, N, f, ha, q, ixOk_in e2, Option.some.inj hz⟩
    · cases hz
  · cases hz
theorem aN_of {S : AH} {r : Option Nat} {v : Int32} (h : aN S r = some v) : ∃ a t N x, r = some a ∧ t < 7 ∧ S[a]? = some (.inl (t, (N, x))) ∧ Int32.ofNat N = v := by
  unfold aN at h
  obtain ⟨a, ha, hz⟩ := Option.bind_eq_some_iff.mp h
  split at hz
  · next c N x q =>
    split at hz
    · next e => exact ⟨a, c, N, x, ha, e, q, Option.some.inj hz⟩
    · cases hz
  · cases hz
theorem uA_of {t : Nat} {S S' : AH} {r : Option Nat} {i x : Int32} (h : uA t S r i x = some S') : ∃ a N f, r = some a ∧ S[a]? = some (.inl (t, (N, .inl f))) ∧ vp_in i N ∧ S.set a (.inl (t, (N, .inl (upd f i.toNatClampNeg x)))) = S' := by
  unfold uA at h
  obtain ⟨a, ha, hz⟩ := Option.bind_eq_some_iff.mp h
  split at hz
  · next c N f q =>
    split at hz
    · next e => obtain ⟨e, e2⟩ := e; subst e; exact ⟨a, N, f, ha, q, ixOk_in e2, Option.some.inj hz⟩
    · cases hz
  · cases hz
theorem uL_of {S S' : AH} {r : Option Nat} {i : Int32} {x : Int64} (h : uL S r i x = some S') : ∃ a N f, r = some a ∧ S[a]? = some (.inl (1, (N, .inr (.inl f)))) ∧ vp_in i N ∧ S.set a (.inl (1, (N, .inr (.inl (vp_updL f i.toNatClampNeg x))))) = S' := by
  unfold uL at h
  obtain ⟨a, ha, hz⟩ := Option.bind_eq_some_iff.mp h
  split at hz
  · next c N f q =>
    split at hz
    · next e => obtain ⟨e, e2⟩ := e; subst e; exact ⟨a, N, f, ha, q, ixOk_in e2, Option.some.inj hz⟩
    · cases hz
  · cases hz
theorem isO_of {S : AH} {b ci : Nat} (h : isO S b ci = true) : ∃ fs, S[b]? = some (.inr (ci, fs)) := by
  unfold isO at h
  split at h
  · next c fs q => exact ⟨fs, by rw [q, beq_iff_eq.mp h]⟩
  · cases h
theorem uQ_of {t ci : Nat} {S S' : AH} {r : Option Nat} {i : Int32} {b : Nat} (h : uQ t ci S r i b = some S') : ∃ a N f fs, r = some a ∧ S[a]? = some (.inl (t, (N, .inr (.inr (.inr (.inr f)))))) ∧ vp_in i N ∧ S[b]? = some (.inr (ci, fs)) ∧ S.set a (.inl (t, (N, .inr (.inr (.inr (.inr (va_up f i.toNatClampNeg (some b)))))))) = S' := by
  unfold uQ at h
  obtain ⟨a, ha, hz⟩ := Option.bind_eq_some_iff.mp h
  split at hz
  · next c N f q =>
    split at hz
    · next e =>
      obtain ⟨e, e2, e3⟩ := e
      subst e
      obtain ⟨fs, hb⟩ := isO_of e3
      exact ⟨a, N, f, fs, ha, q, ixOk_in e2, hb, Option.some.inj hz⟩
    · cases hz
  · cases hz
theorem cO_of {α : Type} {S : AH} {b ci : Nat} {o : Option α} {x : α} (h : cO S b ci o = some x) : (∃ fs, S[b]? = some (.inr (ci, fs))) ∧ o = some x := by
  unfold cO at h
  split at h
  · next q => exact ⟨isO_of q, h⟩
  · cases h
theorem oA_of {t : List Int32} {N : Nat} {i x : Int32} (h : oA t N i = some x) : vp_in i N ∧ t.getD i.toNatClampNeg 0 = x := by
  unfold oA at h
  split at h
  · next q => exact ⟨ixOk_in q, Option.some.inj h⟩
  · cases h
-- locals: fewer known, and stores beside references
def aSub (ls' ls : List (Option Value)) : Prop := ∀ (i : Nat) (v : Value), ls'[i]? = some (some v) → ls[i]? = some (some v)
theorem sub_n : aSub [] [] := fun _ _ h => h
theorem sub_k {ls' ls : List (Option Value)} {x : Option Value} (h : aSub ls' ls) : aSub (x :: ls') (x :: ls) := fun i v hi => by
  cases i with
  | zero => exact hi
  | succ i => exact h i v hi
theorem sub_d {ls' ls : List (Option Value)} {x : Option Value} (h : aSub ls' ls) : aSub (none :: ls') (x :: ls) := fun i v hi => by
  cases i with
  | zero => cases hi
  | succ i => exact h i v hi
theorem aSet_ref {ls ls' : List (Option Value)} {i : Nat} {v w : Value} (h : ls[i]? = some (some w)) (hc : w.category = 1) (e : ls.set (i + 1) (some v) = ls') : aSet ls (i + 1) v = ls' := by
  unfold aSet aClr
  dsimp only
  rw [h]
  dsimp only
  rw [if_neg (by rw [hc]; decide)]
  exact e
section
variable {l : Launch} {g : gE} {d : Nat} {o : String} {cc : ByteArray} {nL : Nat} {nm : String} {MC MS' : Nat} {Q : Option Value → AH → Prop} {k n pc : Nat} {ls : List (Option Value)} {st : List Value} {S : AH}
theorem a_sub {ls' : List (Option Value)} {h : AH} (hs : aSub ls' ls) (kk : AW l g d o cc nL nm MC MS' Q k n pc ls' st h) : AW l g d o cc nL nm MC MS' Q k n pc ls st h :=
  fun p e R s m args below meth c C Z hz H locs lc hR hS hL => kk p e R s m args below meth c C Z hz H locs lc hR hS ⟨hL.1, hL.2.1, fun i v hi => hL.2.2 i v (hs i v hi)⟩
theorem g_getI {i ci j a : Nat} {x : Int32} (hd : decode cc pc = .ok (.getfield i, 3)) (hf : aFld o i ci j) (hx : gI S a ci j = some x) (kk : AW l g d o cc nL nm MC MS' Q k n (pc + 3) ls (.int x :: st) S) : AW l g d o cc nL nm MC MS' Q k n pc ls (.ref a :: st) S := by
  obtain ⟨fs, h1, h2⟩ := gI_of hx
  exact a_getf hd hf h1 h2 kk
theorem g_getQ {i ci j a : Nat} {r : Option Nat} (hd : decode cc pc = .ok (.getfield i, 3)) (hf : aFld o i ci j) (hx : gQ S a ci j = some r) (kk : AW l g d o cc nL nm MC MS' Q k n (pc + 3) ls (va_rf r :: st) S) : AW l g d o cc nL nm MC MS' Q k n pc ls (.ref a :: st) S := by
  obtain ⟨fs, h1, h2⟩ := gQ_of hx
  exact a_getf hd hf h1 h2 kk
theorem g_putI {i ci j a : Nat} {x : Int32} {S' : AH} (hd : decode cc pc = .ok (.putfield i, 3)) (hf : aFld o i ci j) (hfin : (kT ci j).2.2.2 = false) (hty : kY ci j = .int) (hx : sI S a ci j x = some S') (kk : AW l g d o cc nL nm MC MS' Q k n (pc + 3) ls st S') : AW l g d o cc nL nm MC MS' Q k n pc ls (.int x :: .ref a :: st) S := by
  obtain ⟨fs, h1, h2, h3⟩ := sF_of hx
  subst h3
  exact a_putf hd hf h1 h2 hfin (by rw [hty]; rfl) (by rw [hty]; rfl) kk
theorem g_putZ {i ci j a : Nat} {x : Int32} {S' : AH} (hd : decode cc pc = .ok (.putfield i, 3)) (hf : aFld o i ci j) (hfin : (kT ci j).2.2.2 = false) (hty : kY ci j = .boolean) (hx : sZ S a ci j x = some S') (kk : AW l g d o cc nL nm MC MS' Q k n (pc + 3) ls st S') : AW l g d o cc nL nm MC MS' Q k n pc ls (.int x :: .ref a :: st) S := by
  unfold sZ at hx
  split at hx
  · next q =>
    obtain ⟨fs, h1, h2, h3⟩ := sF_of hx
    subst h3
    exact a_putf hd hf h1 h2 hfin (by rw [hty]; rcases q with rfl | rfl <;> rfl) (by rw [hty]; rcases q with rfl | rfl <;> rfl) kk
  · cases hx
theorem g_putQ {i ci j a : Nat} {r : Option Nat} {S' : AH} (hd : decode cc pc = .ok (.putfield i, 3)) (hf : aFld o i ci j) (hfin : (kT ci j).2.2.2 = false) (hty : (∃ z, kY ci j = .object z) ∨ ∃ t, kY ci j = .array t) (hx : sQ S a ci j r = some S') (kk : AW l g d o cc nL nm MC MS' Q k n (pc + 3) ls st S') : AW l g d o cc nL nm MC MS' Q k n pc ls (va_rf r :: .ref a :: st) S := by
  obtain ⟨fs, h1, h2, h3⟩ := sF_of hx
  subst h3
  refine a_putf hd hf h1 h2 hfin ?_ ?_ kk
  · rcases hty with ⟨z, e⟩ | ⟨z, e⟩ <;> rw [e] <;> cases r <;> rfl
  · rcases hty with ⟨z, e⟩ | ⟨z, e⟩ <;> rw [e] <;> cases r <;> rfl
theorem g_putIF {i ci j a : Nat} {x : Int32} {S' : AH} (hd : decode cc pc = .ok (.putfield i, 3)) (hf : aFld o i ci j) (hfin : (kT ci j).2.2.2 = true) (hnm : nm = "<init>") (hdecl : (kT ci j).1 = o) (hty : kY ci j = .int) (hx : sI S a ci j x = some S') (kk : AW l g d o cc nL nm MC MS' Q k n (pc + 3) ls st S') : AW l g d o cc nL nm MC MS' Q k n pc ls (.int x :: .ref a :: st) S := by
  obtain ⟨fs, h1, h2, h3⟩ := sF_of hx
  subst h3
  exact a_putfF hd hf h1 h2 hfin hnm hdecl (by rw [hty]; rfl) (by rw [hty]; rfl) kk
theorem g_putZF {i ci j a : Nat} {x : Int32} {S' : AH} (hd : decode cc pc = .ok (.putfield i, 3)) (hf : aFld o i ci j) (hfin : (kT ci j).2.2.2 = true) (hnm : nm = "<init>") (hdecl : (kT ci j).1 = o) (hty : kY ci j = .boolean) (hx : sZ S a ci j x = some S') (kk : AW l g d o cc nL nm MC MS' Q k n (pc + 3) ls st S') : AW l g d o cc nL nm MC MS' Q k n pc ls (.int x :: .ref a :: st) S := by
  unfold sZ at hx
  split at hx
  · next q =>
    obtain ⟨fs, h1, h2, h3⟩ := sF_of hx
    subst h3
    exact a_putfF hd hf h1 h2 hfin hnm hdecl (by rw [hty]; rcases q with rfl | rfl <;> rfl) (by rw [hty]; rcases q with rfl | rfl <;> rfl) kk
  · cases hx
theorem g_putQF {i ci j a : Nat} {r : Option Nat} {S' : AH} (hd : decode cc pc = .ok (.putfield i, 3)) (hf : aFld o i ci j) (hfin : (kT ci j).2.2.2 = true) (hnm : nm = "<init>") (hdecl : (kT ci j).1 = o) (hty : (∃ z, kY ci j = .object z) ∨ ∃ t, kY ci j = .array t) (hx : sQ S a ci j r = some S') (kk : AW l g d o cc nL nm MC MS' Q k n (pc + 3) ls st S') : AW l g d o cc nL nm MC MS' Q k n pc ls (va_rf r :: .ref a :: st) S := by
  obtain ⟨fs, h1, h2, h3⟩ := sF_of hx
  subst h3
  refine a_putfF hd hf h1 h2 hfin hnm hdecl ?_ ?_ kk
  · rcases hty with ⟨z, e⟩ | ⟨z, e⟩ <;> rw [e] <;> cases r <;> rfl
  · rcases hty with ⟨z, e⟩ | ⟨z, e⟩ <;> rw [e] <;> cases r <;> rfl
theorem g_iald {r : Option Nat} {i x : Int32} (hd : decode cc pc = .ok (.iaload, 1)) (hx : aA 0 S r i = some x) (kk : AW l g d o cc nL nm MC MS' Q k n (pc + 1) ls (.int x :: st) S) : AW l g d o cc nL nm MC MS' Q k n pc ls (.int i :: va_rf r :: st) S := by
  obtain ⟨a, N, f, rfl, h1, h2, rfl⟩ := aA_of hx
  exact a_iald hd h1 h2 kk
theorem g_bald {r : Option Nat} {i x : Int32} (hd : decode cc pc = .ok (.baload, 1)) (hx : aA 2 S r i = some x) (kk : AW l g d o cc nL nm MC MS' Q k n (pc + 1) ls (.int x :: st) S) : AW l g d o cc nL nm MC MS' Q k n pc ls (.int i :: va_rf r :: st) S := by
  obtain ⟨a, N, f, rfl, h1, h2, rfl⟩ := aA_of hx
  exact a_bald hd h1 h2 kk
theorem g_lald {r : Option Nat} {i : Int32} {x : Int64} (hd : decode cc pc = .ok (.laload, 1)) (hx : aL S r i = some x) (kk : AW l g d o cc nL nm MC MS' Q k n (pc + 1) ls (.long x :: st) S) : AW l g d o cc nL nm MC MS' Q k n pc ls (.int i :: va_rf r :: st) S := by
  obtain ⟨a, N, f, rfl, h1, h2, rfl⟩ := aL_of hx
  exact a_lald hd h1 h2 kk
theorem g_qald {r x : Option Nat} {i : Int32} (t : Nat) (hd : decode cc pc = .ok (.aaload, 1)) (ht : t < 3) (hx : aQ (4 + t) S r i = some x) (kk : AW l g d o cc nL nm MC MS' Q k n (pc + 1) ls (va_rf x :: st) S) : AW l g d o cc nL nm MC MS' Q k n pc ls (.int i :: va_rf r :: st) S := by
  obtain ⟨a, N, f, rfl, h1, h2, rfl⟩ := aQ_of hx
  exact a_qald t hd ht h1 h2 kk
theorem g_alen {r : Option Nat} {v : Int32} (hd : decode cc pc = .ok (.arraylength, 1)) (hx : aN S r = some v) (kk : AW l g d o cc nL nm MC MS' Q k n (pc + 1) ls (.int v :: st) S) : AW l g d o cc nL nm MC MS' Q k n pc ls (va_rf r :: st) S := by
  obtain ⟨a, t, N, x, rfl, h1, h2, h3⟩ := aN_of hx
  exact a_alen v hd h1 h2 h3 kk
theorem g_iast {r : Option Nat} {i x : Int32} {S' : AH} (hd : decode cc pc = .ok (.iastore, 1)) (hx : uA 0 S r i x = some S') (kk : AW l g d o cc nL nm MC MS' Q k n (pc + 1) ls st S') : AW l g d o cc nL nm MC MS' Q k n pc ls (.int x :: .int i :: va_rf r :: st) S := by
  obtain ⟨a, N, f, rfl, h1, h2, rfl⟩ := uA_of hx
  exact a_iast hd h1 h2 kk
theorem g_bast {r : Option Nat} {i x : Int32} {S' : AH} (hd : decode cc pc = .ok (.bastore, 1)) (hx : uA 2 S r i (vp_nar .byte x) = some S') (kk : AW l g d o cc nL nm MC MS' Q k n (pc + 1) ls st S') : AW l g d o cc nL nm MC MS' Q k n pc ls (.int x :: .int i :: va_rf r :: st) S := by
  obtain ⟨a, N, f, rfl, h1, h2, rfl⟩ := uA_of hx
  exact a_bast hd h1 h2 kk
theorem g_last {r : Option Nat} {i : Int32} {x : Int64} {S' : AH} (hd : decode cc pc = .ok (.lastore, 1)) (hx : uL S r i x = some S') (kk : AW l g d o cc nL nm MC MS' Q k n (pc + 1) ls st S') : AW l g d o cc nL nm MC MS' Q k n pc ls (.long x :: .int i :: va_rf r :: st) S := by
  obtain ⟨a, N, f, rfl, h1, h2, rfl⟩ := uL_of hx
  exact a_last hd h1 h2 kk
theorem g_qast {r : Option Nat} {b : Nat} {i : Int32} {S' : AH} (t ci : Nat) (hd : decode cc pc = .ok (.aastore, 1)) (ht : t < 7) (hci : ci < 9) (hty : tyT t = .object (kN ci)) (hx : uQ t ci S r i b = some S') (kk : AW l g d o cc nL nm MC MS' Q k n (pc + 1) ls st S') : AW l g d o cc nL nm MC MS' Q k n pc ls (.ref b :: .int i :: va_rf r :: st) S := by
  obtain ⟨a, N, f, fs, rfl, h1, h2, h3, rfl⟩ := uQ_of hx
  exact a_qast t hd ht h1 h3 hci hty h2 kk
theorem g_old0 {i x : Int32} (hd : decode cc pc = .ok (.iaload, 1)) (hx : oA tKind 7 i = some x) (kk : AW l g d o cc nL nm MC MS' Q k n (pc + 1) ls (.int x :: st) S) : AW l g d o cc nL nm MC MS' Q k n pc ls (.int i :: .retAddr 0 :: st) S := by
  obtain ⟨h1, rfl⟩ := oA_of hx
  exact a_old0 hd h1 kk
theorem g_old1 {i x : Int32} (hd : decode cc pc = .ok (.iaload, 1)) (hx : oA tBody 21 i = some x) (kk : AW l g d o cc nL nm MC MS' Q k n (pc + 1) ls (.int x :: st) S) : AW l g d o cc nL nm MC MS' Q k n pc ls (.int i :: .retAddr 1 :: st) S := by
  obtain ⟨h1, rfl⟩ := oA_of hx
  exact a_old1 hd h1 kk
theorem g_call {i n0 ci b mc ms : Nat} {y : MethodName} {cy : ByteArray} {nLy : Nat} {ret : Option FieldType} {S' : AH} (v : Value) (As rest : List Value) (hd : decode cc pc = .ok (.invokevirtual i, 3)) (hl : Cond.methodLink o i y ∈ lw_good) (hy : aMethV y cy nLy ret n0) (ho : ∃ fs, S[b]? = some (.inr (ci, fs))) (hci : ci < 9) (hcls : y.cls = kN ci) (hn0 : As.length = n0) (hd1 : 1 ≤ d) (hM : AM l g (d - 1) y cy nLy ret mc ms (.ref b :: As) S (Qr (some v) S')) (hs : st = As.reverse ++ .ref b :: rest) (hcat : (rest.map fun v => v.category).sum ≤ 8) (hk : k + mc ≤ MC) (hn : n + ms ≤ MS') (kk : AW l g d o cc nL nm MC MS' Q (k + mc) (n + ms) (pc + 3) ls (v :: rest) S') : AW l g d o cc nL nm MC MS' Q k n pc ls st S := by
  obtain ⟨fs, ho⟩ := ho
  exact a_callV As rest hd hl hy ho hci hcls hn0 (by omega) hM hs hcat hk hn (fun w h' q => by obtain ⟨rfl, rfl⟩ := q; exact kk)
theorem g_callv {i n0 ci b mc ms : Nat} {y : MethodName} {cy : ByteArray} {nLy : Nat} {ret : Option FieldType} {S' : AH} (As rest : List Value) (hd : decode cc pc = .ok (.invokevirtual i, 3)) (hl : Cond.methodLink o i y ∈ lw_good) (hy : aMethV y cy nLy ret n0) (ho : ∃ fs, S[b]? = some (.inr (ci, fs))) (hci : ci < 9) (hcls : y.cls = kN ci) (hn0 : As.length = n0) (hd1 : 1 ≤ d) (hM : AM l g (d - 1) y cy nLy ret mc ms (.ref b :: As) S (Qr none S')) (hs : st = As.reverse ++ .ref b :: rest) (hcat : (rest.map fun v => v.category).sum ≤ 8) (hk : k + mc ≤ MC) (hn : n + ms ≤ MS') (kk : AW l g d o cc nL nm MC MS' Q (k + mc) (n + ms) (pc + 3) ls rest S') : AW l g d o cc nL nm MC MS' Q k n pc ls st S := by
  obtain ⟨fs, ho⟩ := ho
  exact a_callV As rest hd hl hy ho hci hcls hn0 (by omega) hM hs hcat hk hn (fun w h' q => by obtain ⟨rfl, rfl⟩ := q; exact kk)
theorem g_calls {i n0 mc ms : Nat} {y : MethodName} {cy : ByteArray} {nLy : Nat} {ret : Option FieldType} {S' : AH} (v : Value) (As rest : List Value) (hd : decode cc pc = .ok (.invokestatic i, 3)) (hl : Cond.methodLink o i y ∈ lw_good) (hy : aMethS y cy nLy ret n0) (hn0 : As.length = n0) (hd1 : 1 ≤ d) (hM : AM l g (d - 1) y cy nLy ret mc ms As S (Qr (some v) S')) (hs : st = As.reverse ++ rest) (hcat : (rest.map fun v => v.category).sum ≤ 8) (hk : k + mc ≤ MC) (hn : n + ms ≤ MS') (kk : AW l g d o cc nL nm MC MS' Q (k + mc) (n + ms) (pc + 3) ls (v :: rest) S') : AW l g d o cc nL nm MC MS' Q k n pc ls st S :=
  a_callS As rest hd hl hy hn0 (by omega) hM hs hcat hk hn (fun w h' q => by obtain ⟨rfl, rfl⟩ := q; exact kk)
theorem g_callsN {i n0 mc ms : Nat} {y : MethodName} {cy : ByteArray} {nLy : Nat} {ret : Option FieldType} {S' : AH} (v : Value) (As rest : List Value) (hd : decode cc pc = .ok (.invokestatic i, 3)) (hl : (o, i, y) ∈ nestW) (hy : aMethS y cy nLy ret n0) (hn0 : As.length = n0) (hd1 : 1 ≤ d) (hM : AM l g (d - 1) y cy nLy ret mc ms As S (Qr (some v) S')) (hs : st = As.reverse ++ rest) (hcat : (rest.map fun v => v.category).sum ≤ 8) (hk : k + mc ≤ MC) (hn : n + ms ≤ MS') (kk : AW l g d o cc nL nm MC MS' Q (k + mc) (n + ms) (pc + 3) ls (v :: rest) S') : AW l g d o cc nL nm MC MS' Q k n pc ls st S :=
  a_callSN As rest hd hl hy hn0 (by omega) hM hs hcat hk hn (fun w h' q => by obtain ⟨rfl, rfl⟩ := q; exact kk)
end
