/-! ===== laws: steps as tokens, a stack of truths; the class's stack of bits ===== -/
/-- a step: 0 .. 6 a test of that letter with sign and number, 7 not, 8 and, 9 or -/
abbrev Tk : Type := Nat × Nat × Nat
def tkOk (t : Tk) : Prop := t.1 ≤ 9 ∧ t.2.1 ≤ 2 ∧ t.2.2 ≤ 999
def eR (t : Tk) : Int32 := if t.1 = 7 then -33 else if t.1 = 8 then -38 else if t.1 = 9 then -124 else nI (10000 * t.1 + 1000 * t.2.1 + t.2.2)
def eK (t : Tk) : Int32 := if t.1 = 7 then -1 else if t.1 = 8 then -2 else if t.1 = 9 then -3 else nI ((t.1 * 256 + (60 + t.2.1)) * 1024 + t.2.2)
def stT (ev : Tk → Bool) (st : List Bool) (t : Tk) : Option (List Bool) :=
  if t.1 = 7 then (match st with
    | a :: r => some ((!a) :: r)
    | [] => none)
  else if t.1 = 8 then (match st with
    | a :: b :: r => some ((b && a) :: r)
    | _ => none)
  else if t.1 = 9 then (match st with
    | a :: b :: r => some ((b || a) :: r)
    | _ => none)
  else if st.length < 31 then some (ev t :: st) else none
def runT (ev : Tk → Bool) : List Bool → List Tk → Option (List Bool)
  | st, [] => some st
  | st, t :: ts => (stT ev st t).bind fun s => runT ev s ts
theorem runT_app (ev : Tk → Bool) : ∀ (ts us : List Tk) (st : List Bool), runT ev st (ts ++ us) = (runT ev st ts).bind fun s => runT ev s us
  | [], us, st => (Option.bind_some _ _).symm
  | t :: ts, us, st => by
    show (stT ev st t).bind (fun s => runT ev s (ts ++ us)) = ((stT ev st t).bind fun s => runT ev s ts).bind fun s => runT ev s us
    cases h : stT ev st t with
    | none => rfl
    | some s =>
      rw [Option.bind_some, Option.bind_some]
      exact runT_app ev ts us s
theorem stT_len {ev : Tk → Bool} {st s : List Bool} {t : Tk} (h : stT ev st t = some s) (hl : st.length ≤ 31) : s.length ≤ 31 := by
  unfold stT at h
  split at h
  · split at h
    · cases h
      simp only [List.length_cons] at hl ⊢
      exact hl
    · cases h
  · split at h
    · split at h
      · cases h
        simp only [List.length_cons] at hl ⊢
        omega
      · cases h
    · split at h
      · split at h
        · cases h
          simp only [List.length_cons] at hl ⊢
          omega
        · cases h
      · split at h
        · cases h
          simp only [List.length_cons]
          omega
        · cases h
/-- code that leaves one truth more, however the stack stands, D places high at most -/
def okc (D : Nat) (ts : List Tk) : Prop := (∀ t ∈ ts, tkOk t) ∧ ∀ ev : Tk → Bool, ∃ v, ∀ st : List Bool, st.length + D ≤ 31 → runT ev st ts = some (v :: st)
theorem okc_test {t : Tk} (h : tkOk t) (h7 : t.1 < 7) : okc 1 [t] := by
  refine ⟨fun u hu => by rw [List.mem_singleton.mp hu]; exact h, fun ev => ⟨ev t, fun st hs => ?_⟩⟩
  show (stT ev st t).bind (fun s => some s) = _
  unfold stT
  rw [if_neg (by omega), if_neg (by omega), if_neg (by omega), if_pos (by omega)]
  rfl
theorem okc_mono {D E : Nat} {ts : List Tk} (h : okc D ts) (hle : D ≤ E) : okc E ts := ⟨h.1, fun ev => by
  obtain ⟨v, hv⟩ := h.2 ev
  exact ⟨v, fun st hs => hv st (by omega)⟩⟩
theorem okc_not {D : Nat} {ts : List Tk} (h : okc D ts) : okc D (ts ++ [(7, 0, 0)]) := by
  refine ⟨fun u hu => ?_, fun ev => ?_⟩
  · rcases List.mem_append.mp hu with q | q
    · exact h.1 u q
    · rw [List.mem_singleton.mp q]
      exact ⟨by decide, by decide, by decide⟩
  · obtain ⟨v, hv⟩ := h.2 ev
    refine ⟨!v, fun st hs => ?_⟩
    rw [runT_app, hv st hs, Option.bind_some]
    rfl
theorem okc_two {D : Nat} {ts us : List Tk} (h : okc D ts) (h2 : okc D us) (f : Nat) (hf : f = 8 ∨ f = 9) : okc (D + 1) (ts ++ us ++ [(f, 0, 0)]) := by
  refine ⟨fun u hu => ?_, fun ev => ?_⟩
  · rcases List.mem_append.mp hu with q | q
    · rcases List.mem_append.mp q with q | q
      · exact h.1 u q
      · exact h2.1 u q
    · rw [List.mem_singleton.mp q]
      exact ⟨by rcases hf with e | e <;> rw [e] <;> decide, Nat.zero_le _, Nat.zero_le _⟩
  · obtain ⟨v, hv⟩ := h.2 ev
    obtain ⟨w, hw⟩ := h2.2 ev
    refine ⟨if f = 8 then v && w else v || w, fun st hs => ?_⟩
    rw [runT_app, runT_app, hv st (by omega), Option.bind_some, hw (v :: st) (by simp only [List.length_cons]; omega), Option.bind_some]
    rcases hf with rfl | rfl <;> rfl
-- bits
def ib (x : Int32) (i : Nat) : Bool := x.toBitVec.getLsbD i
theorem ib_or (x y : Int32) (i : Nat) : ib (x ||| y) i = (ib x i || ib y i) := by unfold ib; rw [Int32.toBitVec_or, BitVec.getLsbD_or]
theorem ib_and (x y : Int32) (i : Nat) : ib (x &&& y) i = (ib x i && ib y i) := by unfold ib; rw [Int32.toBitVec_and, BitVec.getLsbD_and]
theorem ib_xor (x y : Int32) (i : Nat) : ib (x ^^^ y) i = (ib x i ^^ ib y i) := by unfold ib; rw [Int32.toBitVec_xor, BitVec.getLsbD_xor]
theorem ib_shl (n : Nat) (hn : n < 32) (x : Int32) {i : Nat} (hi : i < 32) : ib (x <<< (nI n &&& 31)) i = (decide (n ≤ i) && ib x (i - n)) := by
  unfold ib
  rw [Int32.toBitVec_shiftLeft]
  show (x.toBitVec <<< ((nI n &&& 31).toBitVec.smod 32).toNat).getLsbD i = _
  rw [s_l31 n hn, BitVec.getLsbD_shiftLeft]
  rcases Nat.lt_or_ge i n with h | h
  · simp [h, Nat.not_le.mpr h]
  · simp [hi, h, Nat.not_lt.mpr h]
theorem ib_sshr (n : Nat) (hn : n < 32) (x : Int32) {i : Nat} (hi : i < 32) : ib (x >>> (nI n &&& 31)) i = if n + i < 32 then ib x (n + i) else ib x 31 := by
  unfold ib
  rw [Int32.toBitVec_shiftRight]
  show (x.toBitVec.sshiftRight ((nI n &&& 31).toBitVec.smod 32).toNat).getLsbD i = _
  rw [s_l31 n hn, BitVec.getLsbD_sshiftRight, BitVec.msb_eq_getLsbD_last]
  simp [hi]
theorem ib_l1 : ∀ i, i < 32 → ib 1 i = decide (i = 0) := by decide +kernel
theorem ib_l0 : ∀ i, i < 32 → ib 0 i = false := by decide +kernel
theorem ib_m2 : ∀ i, i < 32 → ib (-2) i = decide (i ≠ 0) := by decide +kernel
def bsR (op : Int32) (st : List Bool) : Prop := st.length ≤ 31 ∧ ∀ (i : Nat) (v : Bool), st[i]? = some v → ib op i = v
theorem bs_lt {op : Int32} {st : List Bool} {i : Nat} {v : Bool} (h : bsR op st) (hv : st[i]? = some v) : i < 31 := by
  have := (List.getElem?_eq_some_iff.mp hv).1
  have := h.1
  omega
theorem bs_push {op : Int32} {st : List Bool} (h : bsR op st) (hl : st.length < 31) (v : Bool) : bsR ((op <<< ((1 : Int32) &&& 31)) ||| (if v = true then 1 else 0)) (v :: st) := by
  refine ⟨by simp only [List.length_cons]; omega, fun i w hw => ?_⟩
  have hi : i < 32 := by
    have := (List.getElem?_eq_some_iff.mp hw).1
    simp only [List.length_cons] at this
    omega
  have e := ib_shl 1 (by omega) op hi
  have e : ib (op <<< ((1 : Int32) &&& 31)) i = (decide (1 ≤ i) && ib op (i - 1)) := e
  rw [ib_or, e]
  cases i with
  | zero =>
    cases hw
    rw [decide_eq_false (by omega), Bool.false_and, Bool.false_or]
    cases v <;> decide
  | succ i =>
    rw [List.getElem?_cons_succ] at hw
    rw [h.2 (i + 1 - 1) w hw, decide_eq_true (by omega), Bool.true_and]
    cases v with
    | true => rw [if_pos rfl, ib_l1 _ hi, decide_eq_false (by omega), Bool.or_false]
    | false => rw [if_neg (by decide), ib_l0 _ hi, Bool.or_false]
theorem bs_not {op : Int32} {a : Bool} {r : List Bool} (h : bsR op (a :: r)) : bsR (op ^^^ 1) ((!a) :: r) := by
  refine ⟨h.1, fun i w hw => ?_⟩
  have hl := h.1
  have hi : i < 32 := by
    have := (List.getElem?_eq_some_iff.mp hw).1
    simp only [List.length_cons] at this hl
    omega
  rw [ib_xor, ib_l1 i hi]
  cases i with
  | zero =>
    cases hw
    rw [h.2 0 a rfl]
    cases a <;> rfl
  | succ i =>
    rw [List.getElem?_cons_succ] at hw
    rw [h.2 (i + 1) w (by rw [List.getElem?_cons_succ]; exact hw)]
    cases w <;> rfl
theorem bs_sh {op : Int32} {i : Nat} (hi : i < 31) : ib (op >>> ((1 : Int32) &&& 31)) i = ib op (i + 1) := by
  have e := ib_sshr 1 (by omega) op (i := i) (by omega)
  have e : ib (op >>> ((1 : Int32) &&& 31)) i = if 1 + i < 32 then ib op (1 + i) else ib op 31 := e
  rw [e, if_pos (by omega), Nat.add_comm]
theorem bs_and {op : Int32} {a b : Bool} {r : List Bool} (h : bsR op (a :: b :: r)) : bsR ((op >>> ((1 : Int32) &&& 31)) &&& ((-2) ||| (op &&& 1))) ((b && a) :: r) := by
  have hl := h.1
  simp only [List.length_cons] at hl
  refine ⟨by simp only [List.length_cons]; omega, fun i w hw => ?_⟩
  have hi : i < 31 := by
    have := (List.getElem?_eq_some_iff.mp hw).1
    simp only [List.length_cons] at this
    omega
  rw [ib_and, bs_sh hi, ib_or, ib_m2 i (by omega), ib_and, ib_l1 i (by omega)]
  cases i with
  | zero =>
    cases hw
    rw [h.2 0 a rfl, h.2 (0 + 1) b rfl]
    cases a <;> cases b <;> rfl
  | succ i =>
    rw [List.getElem?_cons_succ] at hw
    rw [h.2 (i + 1 + 1) w (by rw [List.getElem?_cons_succ, List.getElem?_cons_succ]; exact hw), decide_eq_true (by omega), Bool.true_or, Bool.and_true]
theorem bs_or {op : Int32} {a b : Bool} {r : List Bool} (h : bsR op (a :: b :: r)) : bsR ((op >>> ((1 : Int32) &&& 31)) ||| (op &&& 1)) ((b || a) :: r) := by
  have hl := h.1
  simp only [List.length_cons] at hl
  refine ⟨by simp only [List.length_cons]; omega, fun i w hw => ?_⟩
  have hi : i < 31 := by
    have := (List.getElem?_eq_some_iff.mp hw).1
    simp only [List.length_cons] at this
    omega
  rw [ib_or, bs_sh hi, ib_and, ib_l1 i (by omega)]
  cases i with
  | zero =>
    cases hw
    rw [h.2 0 a rfl, h.2 (0 + 1) b rfl]
    cases a <;> cases b <;> rfl
  | succ i =>
    rw [List.getElem?_cons_succ] at hw
    rw [h.2 (i + 1 + 1) w (by rw [List.getElem?_cons_succ, List.getElem?_cons_succ]; exact hw), decide_eq_false (by omega), Bool.and_false, Bool.or_false]
theorem ib_0 (op : Int32) : (op &&& 1) = 1 ↔ ib op 0 = true := by
  have e := pk_and op (m := 1) 1 rfl
  rw [e]
  unfold ib
  rw [BitVec.getLsbD, Nat.testBit_zero, decide_eq_true_iff]
  generalize op.toBitVec.toNat = q
  constructor
  · intro h
    have h := congrArg Int32.toInt h
    rw [q_i (by omega)] at h
    have : (1 : Int32).toInt = 1 := rfl
    omega
  · intro h
    rw [show q % 2 ^ 1 = 1 by omega]
    rfl
