/-! ===== numbers of 32 bits as whole numbers; the class's cells read and set ===== -/
theorem zi_lt {a b : Int32} : a < b ↔ a.toInt < b.toInt := Int32.lt_iff_toInt_lt
theorem zi_le {a b : Int32} : a ≤ b ↔ a.toInt ≤ b.toInt := Int32.le_iff_toInt_le
theorem zi_eq {a b : Int32} : a = b ↔ a.toInt = b.toInt := ⟨fun h => by rw [h], Int32.toInt_inj.mp⟩
theorem zi_lo (a : Int32) : -2147483648 ≤ a.toInt := Int32.le_toInt a
theorem zi_hi (a : Int32) : a.toInt < 2147483648 := Int32.toInt_lt a
theorem zi_bm {z : Int} (h : -2147483648 ≤ z) (h2 : z < 2147483648) : z.bmod (2 ^ 32) = z := Int.bmod_eq_of_le (by omega) (by omega)
theorem zi_add {a b : Int32} (h : -2147483648 ≤ a.toInt + b.toInt) (h2 : a.toInt + b.toInt < 2147483648) : (a + b).toInt = a.toInt + b.toInt := by
  rw [Int32.toInt_add]; exact zi_bm h h2
theorem zi_sub {a b : Int32} (h : -2147483648 ≤ a.toInt - b.toInt) (h2 : a.toInt - b.toInt < 2147483648) : (a - b).toInt = a.toInt - b.toInt := by
  rw [Int32.toInt_sub]; exact zi_bm h h2
theorem zi_mul {a b : Int32} (h : -2147483648 ≤ a.toInt * b.toInt) (h2 : a.toInt * b.toInt < 2147483648) : (a * b).toInt = a.toInt * b.toInt := by
  rw [Int32.toInt_mul]; exact zi_bm h h2
theorem zi_n (a : Int32) : a.toNatClampNeg = a.toInt.toNat := rfl
theorem zi_inc {a : Int32} {k : Int} (h : a.toInt = k) (h1 : -2147483648 ≤ k) (h2 : k < 2147483647) : (a + 1).toInt = k + 1 := by
  rw [zi_add (by rw [h]; show _ ≤ k + 1; omega) (by rw [h]; show k + 1 < _; omega), h]; rfl
theorem zi_dec {a : Int32} {k : Int} (h : a.toInt = k) (h1 : -2147483648 < k) (h2 : k < 2147483648) : (a + (-1)).toInt = k - 1 := by
  rw [zi_add (by rw [h]; show _ ≤ k + (-1); omega) (by rw [h]; show k + (-1) < _; omega), h]; rfl
theorem ix_ok {i : Int32} {N : Nat} (h : 0 ≤ i.toInt) (h2 : i.toInt < (N : Int)) : ixOk i N = true := by
  unfold ixOk
  simp [h, h2]
/-- the class's cells set -/
def c1 (C : CS) (k : Nat) (v : Int32) : CS := (fu C.1 k v, C.2)
def c2 (C : CS) (k : Nat) (f : Nat → Int32) : CS := (C.1, fu C.2.1 k f, C.2.2)
def c3 (C : CS) (k : Nat) (f : Nat → Int64) : CS := (C.1, C.2.1, fu C.2.2.1 k f, C.2.2.2)
def c4 (C : CS) (k : Nat) (f : Nat → Option Nat) : CS := (C.1, C.2.1, C.2.2.1, fu C.2.2.2.1 k f, C.2.2.2.2)
def c5 (C : CS) (t : Option Nat) : CS := (C.1, C.2.1, C.2.2.1, C.2.2.2.1, t)
/-- what else stays -/
def fC (C C' : CS) (a b c d : List Nat) : Prop := (∀ k, k ∉ a → C'.1 k = C.1 k) ∧ (∀ k, k ∉ b → C'.2.1 k = C.2.1 k) ∧ (∀ k, k ∉ c → C'.2.2.1 k = C.2.2.1 k) ∧ (∀ k, k ∉ d → C'.2.2.2.1 k = C.2.2.2.1 k)
def fM (M M' : MS) (a b c : List Nat) : Prop := (∀ k, k ∉ a → M'.1 k = M.1 k) ∧ (∀ k, k ∉ b → M'.2.1 k = M.2.1 k) ∧ (∀ k, k ∉ c → M'.2.2 k = M.2.2 k)
theorem fC.rfl {C : CS} {a b c d : List Nat} : fC C C a b c d := ⟨fun _ _ => Eq.refl _, fun _ _ => Eq.refl _, fun _ _ => Eq.refl _, fun _ _ => Eq.refl _⟩
theorem fM.rfl {M : MS} {a b c : List Nat} : fM M M a b c := ⟨fun _ _ => Eq.refl _, fun _ _ => Eq.refl _, fun _ _ => Eq.refl _⟩
theorem fC.trans {C C' C2 : CS} {a b c d : List Nat} (h : fC C C' a b c d) (h2 : fC C' C2 a b c d) : fC C C2 a b c d := ⟨fun k q => (h2.1 k q).trans (h.1 k q), fun k q => (h2.2.1 k q).trans (h.2.1 k q), fun k q => (h2.2.2.1 k q).trans (h.2.2.1 k q), fun k q => (h2.2.2.2 k q).trans (h.2.2.2 k q)⟩
theorem fM.trans {M M' M2 : MS} {a b c : List Nat} (h : fM M M' a b c) (h2 : fM M' M2 a b c) : fM M M2 a b c := ⟨fun k q => (h2.1 k q).trans (h.1 k q), fun k q => (h2.2.1 k q).trans (h.2.1 k q), fun k q => (h2.2.2 k q).trans (h.2.2 k q)⟩
theorem fu_o {α : Type} {f : Nat → α} {k j : Nat} {v : α} {a : List Nat} (h : k ∈ a) (h2 : j ∉ a) : fu f k v j = f j := fu_n (fun e => h2 (e ▸ h))
theorem fC_c1 {C : CS} {a b c d : List Nat} {k : Nat} {v : Int32} (h : k ∈ a) : fC C (c1 C k v) a b c d := ⟨fun _ q => fu_o h q, fun _ _ => Eq.refl _, fun _ _ => Eq.refl _, fun _ _ => Eq.refl _⟩
theorem fC_c2 {C : CS} {a b c d : List Nat} {k : Nat} {v : Nat → Int32} (h : k ∈ b) : fC C (c2 C k v) a b c d := ⟨fun _ _ => Eq.refl _, fun _ q => fu_o h q, fun _ _ => Eq.refl _, fun _ _ => Eq.refl _⟩
theorem fC_c3 {C : CS} {a b c d : List Nat} {k : Nat} {v : Nat → Int64} (h : k ∈ c) : fC C (c3 C k v) a b c d := ⟨fun _ _ => Eq.refl _, fun _ _ => Eq.refl _, fun _ q => fu_o h q, fun _ _ => Eq.refl _⟩
theorem fC_c4 {C : CS} {a b c d : List Nat} {k : Nat} {v : Nat → Option Nat} (h : k ∈ d) : fC C (c4 C k v) a b c d := ⟨fun _ _ => Eq.refl _, fun _ _ => Eq.refl _, fun _ _ => Eq.refl _, fun _ q => fu_o h q⟩
theorem fM_si {M : MS} {a b c : List Nat} {k : Nat} {v : Int32} (h : k ∈ a) : fM M (si M k v) a b c := ⟨fun _ q => fu_o h q, fun _ _ => Eq.refl _, fun _ _ => Eq.refl _⟩
theorem fM_sa {M : MS} {a b c : List Nat} {k : Nat} {v : Nat → Int32} (h : k ∈ b) : fM M (sa M k v) a b c := ⟨fun _ _ => Eq.refl _, fun _ q => fu_o h q, fun _ _ => Eq.refl _⟩
theorem fM_sl {M : MS} {a b c : List Nat} {k : Nat} {v : Nat → Int64} (h : k ∈ c) : fM M (sl M k v) a b c := ⟨fun _ _ => Eq.refl _, fun _ _ => Eq.refl _, fun _ q => fu_o h q⟩
/-- the reference's plain helpers -/
theorem r_in (M : MS) (x lo hi : Int32) : X8_in M x lo hi = some (if lo ≤ x ∧ x ≤ hi then 1 else 0, M) := by
  unfold X8_in X8_in_0 X8_in_14 X8_in_15 zg
  by_cases h1 : x < lo
  · rw [if_pos h1, if_neg (fun c => absurd (zi_le.mp c.1) (by have := zi_lt.mp h1; omega))]
    rfl
  · rw [if_neg h1]
    by_cases h2 : hi < x
    · rw [if_pos h2, if_neg (fun c => absurd (zi_le.mp c.2) (by have := zi_lt.mp h2; omega))]
      rfl
    · rw [if_neg h2, if_pos ⟨zi_le.mpr (by have := mt zi_lt.mpr h1; omega), zi_le.mpr (by have := mt zi_lt.mpr h2; omega)⟩]
      rfl
theorem k_isKind (S : AH) (x : Int32) : X7_isKind S x = some (if 0 ≤ x ∧ x ≤ 6 then 1 else 0, S) := by
  unfold X7_isKind X7_isKind_0 X7_isKind_14 X7_isKind_15 zg
  have e0 : (0 : Int32).toInt = 0 := rfl
  have e6 : (6 : Int32).toInt = 6 := rfl
  have e7 : (7 : Int32).toInt = 7 := rfl
  by_cases h1 : x < 0
  · rw [if_pos h1, if_neg (fun c => absurd (zi_le.mp c.1) (by have := zi_lt.mp h1; omega))]
    rfl
  · rw [if_neg h1]
    by_cases h2 : 7 ≤ x
    · rw [if_pos h2, if_neg (fun c => absurd (zi_le.mp c.2) (by have := zi_le.mp h2; omega))]
      rfl
    · rw [if_neg h2, if_pos ⟨zi_le.mpr (by have := mt zi_lt.mpr h1; omega), zi_le.mpr (by have := mt zi_le.mpr h2; omega)⟩]
      rfl
theorem r_isKind (M : MS) (x : Int32) : X8_isKind M x = some (if 0 ≤ x ∧ x ≤ 6 then 1 else 0, M) := by
  unfold X8_isKind X8_isKind_0
  rw [r_in]
  by_cases h : 0 ≤ x ∧ x ≤ 6
  · rw [if_pos h]; rfl
  · rw [if_neg h]; rfl
theorem r_isTape (M : MS) (x : Int32) : X8_isTape M x = some (if 0 ≤ x ∧ x ≤ 5 then 1 else 0, M) := by
  unfold X8_isTape X8_isTape_0
  rw [r_in]
  by_cases h : 0 ≤ x ∧ x ≤ 5
  · rw [if_pos h]; rfl
  · rw [if_neg h]; rfl
/-- the text's bytes: the class keeps 0..255, the reference signed bytes -/
def iTx (s7 : Int32) (b7 : Nat → Int32) (s8 : Int32) (b8 : Nat → Int32) : Prop := s7 = s8 ∧ 0 ≤ s7.toInt ∧ s7.toInt ≤ 100 ∧ ∀ i : Nat, (i : Int) < s7.toInt → 0 ≤ (b7 i).toInt ∧ (b7 i).toInt ≤ 255 ∧ b8 i = (b7 i).toInt8.toInt32
theorem by_and (x : Int32) : (x &&& 255).toInt8 = x.toInt8 := by
  rw [Int32.toInt8_and]
  have h : (255 : Int32).toInt8 = -1 := rfl
  rw [h]
  exact Int8.and_neg_one
theorem by_lo (x : Int32) : 0 ≤ (x &&& 255).toInt ∧ (x &&& 255).toInt ≤ 255 := by
  have h : (x &&& 255).toBitVec.toNat ≤ 255 := by
    rw [Int32.toBitVec_and, BitVec.toNat_and]
    exact Nat.and_le_right
  have h2 : (x &&& 255).toInt = ((x &&& 255).toBitVec.toNat : Int) := by
    show (x &&& 255).toBitVec.toInt = _
    rw [BitVec.toInt_eq_toNat_of_lt (by omega)]
  omega
