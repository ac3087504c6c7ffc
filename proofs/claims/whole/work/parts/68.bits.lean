/-! ===== how many bits a set has, on both sides ===== -/
def pop (m : Nat) : Nat := m % 2 + m / 2 % 2 + m / 4 % 2 + m / 8 % 2 + m / 16 % 2 + m / 32 % 2 + m / 64 % 2 + m / 128 % 2 + m / 256 % 2 + m / 512 % 2 + m / 1024 % 2 + m / 2048 % 2
def bc1 (n : Nat) : Nat := n - (n / 2 &&& 1431655765)
def bc2 (n : Nat) : Nat := (bc1 n &&& 858993459) + (bc1 n / 4 &&& 858993459)
def bc3 (n : Nat) : Nat := (bc2 n + bc2 n / 16) &&& 252645135
def bc4 (n : Nat) : Nat := bc3 n + bc3 n / 256
def bc5 (n : Nat) : Nat := bc4 n + bc4 n / 65536
theorem bc_all : ∀ a, a < 64 → ∀ b, b < 64 → bc5 (64 * a + b) &&& 63 = pop (64 * a + b) := by decide +kernel
theorem pop_all : ∀ a, a < 64 → ∀ b, b < 64 → 64 * a + b = 0 ∨ pop ((64 * a + b) &&& (64 * a + b - 1)) + 1 = pop (64 * a + b) := by decide +kernel
theorem bc_pop {n : Nat} (h : n < 4096) : bc5 n &&& 63 = pop n := by
  have := bc_all (n / 64) (by omega) (n % 64) (by omega)
  rw [show 64 * (n / 64) + n % 64 = n by omega] at this
  exact this
theorem pop_dec {n : Nat} (h : n < 4096) (h0 : 0 < n) : pop (n &&& (n - 1)) + 1 = pop n := by
  have := pop_all (n / 64) (by omega) (n % 64) (by omega)
  rw [show 64 * (n / 64) + n % 64 = n by omega] at this
  exact this.resolve_left (by omega)
theorem q_add (a b : Nat) : nI a + nI b = nI (a + b) := by
  apply Int32.toBitVec_inj.1
  show BitVec.ofNat 32 a + BitVec.ofNat 32 b = BitVec.ofNat 32 (a + b)
  exact (BitVec.ofNat_add a b).symm
theorem pop_le (n : Nat) : pop n ≤ 12 := by
  unfold pop
  omega
theorem k_bitc (S : AH) {n : Nat} (h : n < 4096) : J6_bitCount_0f7a4 S (nI n) = some (nI (pop n), S) := by
  have l1 : bc1 n ≤ n := Nat.sub_le _ _
  have u0 : n / 2 &&& 1431655765 ≤ n := Nat.le_trans Nat.and_le_left (Nat.div_le_self _ _)
  have l2 : bc2 n ≤ bc1 n + bc1 n / 4 := Nat.add_le_add Nat.and_le_left Nat.and_le_left
  have l3 : bc3 n ≤ bc2 n + bc2 n / 16 := Nat.and_le_left
  have l4 : bc4 n = bc3 n + bc3 n / 256 := rfl
  have h1 : nI n - (((nI n).toUInt32 >>> ((1 : Int32).toUInt32 &&& Int32.toUInt32 31)).toInt32 &&& 1431655765) = nI (bc1 n) := by
    rw [pk_ushrN (by omega) 1 1 rfl, show (1431655765 : Int32) = nI 1431655765 from rfl, q_and, q_sub (by omega) u0]
    rfl
  have h2 : (nI (bc1 n) &&& 858993459) + (((nI (bc1 n)).toUInt32 >>> ((2 : Int32).toUInt32 &&& Int32.toUInt32 31)).toInt32 &&& 858993459) = nI (bc2 n) := by
    rw [pk_ushrN (by omega) 2 2 rfl, show (858993459 : Int32) = nI 858993459 from rfl, q_and, q_and, q_add]
    rfl
  have h3 : (nI (bc2 n) + ((nI (bc2 n)).toUInt32 >>> ((4 : Int32).toUInt32 &&& Int32.toUInt32 31)).toInt32) &&& 252645135 = nI (bc3 n) := by
    rw [pk_ushrN (by omega) 4 4 rfl, show (252645135 : Int32) = nI 252645135 from rfl, q_add, q_and]
    rfl
  have h4 : nI (bc3 n) + ((nI (bc3 n)).toUInt32 >>> ((8 : Int32).toUInt32 &&& Int32.toUInt32 31)).toInt32 = nI (bc4 n) := by
    rw [pk_ushrN (by omega) 8 8 rfl, q_add]
    rfl
  have h5 : nI (bc4 n) + ((nI (bc4 n)).toUInt32 >>> ((16 : Int32).toUInt32 &&& Int32.toUInt32 31)).toInt32 = nI (bc5 n) := by
    rw [pk_ushrN (by omega) 16 16 rfl, q_add]
    rfl
  unfold J6_bitCount_0f7a4 J6_bitCount_0f7a4_0
  rw [h1, h2, h3, h4, h5, show (63 : Int32) = nI 63 from rfl, q_and, bc_pop h]
theorem r_ones4 (M : MS) : ∀ (fn m acc : Nat), m < fn → m < 4096 → acc + pop m < 100 → X8_ones_4 fn M (nI acc) (nI m) = some (nI (acc + pop m), M)
  | 0, m, acc, h, h2, h3 => by omega
  | fn + 1, m, acc, h, h2, h3 => by
    rw [X8_ones_4]
    by_cases q : m = 0
    · subst q
      rw [if_pos (show nI 0 = 0 from rfl)]
      rfl
    · have hp := pop_dec h2 (by omega)
      have hle : m &&& (m - 1) ≤ m - 1 := Nat.and_le_right
      rw [if_neg (show ¬ nI m = 0 from fun c => q ((nI_inj (b := 0) (by omega) (by omega)).mp c)), show nI m - 1 = nI (m - 1) from q_sub (b := 1) (by omega) (by omega), q_and, show nI acc + 1 = nI (acc + 1) from q_add acc 1, r_ones4 M fn (m &&& (m - 1)) (acc + 1) (by omega) (by omega) (by omega)]
      rw [show acc + 1 + pop (m &&& (m - 1)) = acc + pop m by omega]
theorem r_ones (M : MS) {n : Nat} (h : n < 4096) : X8_ones M (nI n) = some (nI (pop n), M) := by
  have := r_ones4 M FU n 0 (by unfold FU; omega) h (by have := pop_le n; omega)
  rw [Nat.zero_add] at this
  exact this
theorem q_le {a b : Nat} (ha : a < 2147483648) (hb : b < 2147483648) : nI a ≤ nI b ↔ a ≤ b := by
  rw [zi_le, q_i ha, q_i hb]
  omega
theorem q_lt {a b : Nat} (ha : a < 2147483648) (hb : b < 2147483648) : nI a < nI b ↔ a < b := by
  rw [zi_lt, q_i ha, q_i hb]
  omega
