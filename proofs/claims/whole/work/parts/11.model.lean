/-! ===== the reference's object and its arrays, as numbers ===== -/
/-- the reference's state: its fields by their slots, its int and boolean arrays, its long arrays -/
abbrev MS : Type := (Nat → Int32) × (Nat → Nat → Int32) × (Nat → Nat → Int64)
def fu {α : Type} (f : Nat → α) (k : Nat) (v : α) : Nat → α := fun j => if j = k then v else f j
theorem fu_s {α : Type} (f : Nat → α) (k : Nat) (v : α) : fu f k v k = v := if_pos rfl
theorem fu_n {α : Type} {f : Nat → α} {k j : Nat} {v : α} (h : j ≠ k) : fu f k v j = f j := if_neg h
def si (S : MS) (j : Nat) (v : Int32) : MS := (fu S.1 j v, S.2.1, S.2.2)
def sa (S : MS) (j : Nat) (f : Nat → Int32) : MS := (S.1, fu S.2.1 j f, S.2.2)
def sl (S : MS) (j : Nat) (f : Nat → Int64) : MS := (S.1, S.2.1, fu S.2.2 j f)
/-- the place of an array field, its length -/
def mar (j : Nat) : Nat := match j with
  | 5 => 27
  | 6 => 28
  | 7 => 29
  | 8 => 30
  | 9 => 31
  | 10 => 32
  | 11 => 33
  | 12 => 34
  | 13 => 35
  | 14 => 36
  | 15 => 37
  | 19 => 38
  | 20 => 39
  | 21 => 40
  | 22 => 41
  | 23 => 42
  | 24 => 43
  | 25 => 44
  | 26 => 45
  | 31 => 46
  | 32 => 47
  | 34 => 48
  | 38 => 49
  | 39 => 50
  | 40 => 51
  | 41 => 52
  | 42 => 53
  | _ => 0
def mln (j : Nat) : Nat := match j with
  | 5 => 100
  | 6 => 72
  | 7 => 72
  | 8 => 6
  | 9 => 5
  | 10 => 40
  | 11 => 40
  | 12 => 40
  | 13 => 40
  | 14 => 500
  | 15 => 101
  | 19 => 10
  | 20 => 12
  | 21 => 12
  | 22 => 12
  | 23 => 12
  | 24 => 12
  | 25 => 12
  | 26 => 12
  | 31 => 100
  | 32 => 12
  | 34 => 4096
  | 38 => 20
  | 39 => 6
  | 40 => 6
  | 41 => 360
  | 42 => 60
  | _ => 0
def mflds (S : MS) : List Value := [.int (S.1 0), .int (S.1 1), .int (S.1 2), .int (S.1 3), .int (S.1 4), .ref 27, .ref 28, .ref 29, .ref 30, .ref 31, .ref 32, .ref 33, .ref 34, .ref 35, .ref 36, .ref 37, .int (S.1 16), .int (S.1 17), .int (S.1 18), .ref 38, .ref 39, .ref 40, .ref 41, .ref 42, .ref 43, .ref 44, .ref 45, .int (S.1 27), .int (S.1 28), .int (S.1 29), .int (S.1 30), .ref 46, .ref 47, .int (S.1 33), .ref 48, .int (S.1 35), .int (S.1 36), .int (S.1 37), .ref 49, .ref 50, .ref 51, .ref 52, .ref 53]
def mcells (S : MS) : List va_E := [.inr (8, mflds S), .inl (0, (100, .inl (S.2.1 5))), .inl (0, (72, .inl (S.2.1 6))), .inl (0, (72, .inl (S.2.1 7))), .inl (0, (6, .inl (S.2.1 8))), .inl (0, (5, .inl (S.2.1 9))), .inl (0, (40, .inl (S.2.1 10))), .inl (0, (40, .inl (S.2.1 11))), .inl (0, (40, .inl (S.2.1 12))), .inl (0, (40, .inl (S.2.1 13))), .inl (0, (500, .inl (S.2.1 14))), .inl (0, (101, .inl (S.2.1 15))), .inl (0, (10, .inl (S.2.1 19))), .inl (0, (12, .inl (S.2.1 20))), .inl (0, (12, .inl (S.2.1 21))), .inl (0, (12, .inl (S.2.1 22))), .inl (0, (12, .inl (S.2.1 23))), .inl (0, (12, .inl (S.2.1 24))), .inl (0, (12, .inl (S.2.1 25))), .inl (0, (12, .inl (S.2.1 26))), .inl (3, (100, .inl (S.2.1 31))), .inl (1, (12, .inr (.inl (S.2.2 32)))), .inl (3, (4096, .inl (S.2.1 34))), .inl (0, (20, .inl (S.2.1 38))), .inl (0, (6, .inl (S.2.1 39))), .inl (0, (6, .inl (S.2.1 40))), .inl (1, (360, .inr (.inl (S.2.2 41)))), .inl (1, (60, .inr (.inl (S.2.2 42))))]
/-- the whole heap: 26 cells of the class, the reference's 28, what was made later -/
def mh (A : List va_E) (S : MS) (D : List va_E) : AH := A ++ (mcells S ++ D)
theorem mh_get {A D : List va_E} {S : MS} (hA : A.length = 26) (i : Nat) (hi : i < 28) : (mh A S D)[26 + i]? = (mcells S)[i]? := by
  unfold mh
  rw [List.getElem?_append_right (by omega), hA, Nat.add_sub_cancel_left, List.getElem?_append_left (by exact hi)]
theorem mh_set {A D : List va_E} {S : MS} (hA : A.length = 26) (i : Nat) (c : va_E) (hi : i < 28) : (mh A S D).set (26 + i) c = A ++ ((mcells S).set i c ++ D) := by
  unfold mh
  rw [List.set_append_right _ _ (by omega), hA, Nat.add_sub_cancel_left, List.set_append_left _ _ (by exact hi)]
theorem mh_this {A D : List va_E} {S : MS} (hA : A.length = 26) : (mh A S D)[26]? = some (.inr (8, mflds S)) := mh_get hA 0 (by omega)
-- the kinds of fields: scalars, int arrays, boolean arrays, long arrays
def mkS (j : Nat) : Prop := j ∈ ([0, 1, 2, 3, 4, 16, 17, 18, 27, 28, 29, 30, 33, 35, 36, 37] : List Nat)
def mkI (j : Nat) : Prop := j ∈ ([5, 6, 7, 8, 9, 10, 11, 12, 13, 14, 15, 19, 20, 21, 22, 23, 24, 25, 26, 38, 39, 40] : List Nat)
def mkZ (j : Nat) : Prop := j ∈ ([31, 34] : List Nat)
def mkJ (j : Nat) : Prop := j ∈ ([32, 41, 42] : List Nat)
theorem mf_S {j : Nat} (hj : mkS j) (S : MS) : (mflds S)[j]? = some (.int (S.1 j)) := by
  simp only [mkS, List.mem_cons, List.not_mem_nil, or_false] at hj
  rcases hj with rfl | rfl | rfl | rfl | rfl | rfl | rfl | rfl | rfl | rfl | rfl | rfl | rfl | rfl | rfl | rfl
  all_goals rfl
theorem mf_A {j : Nat} (hj : mkI j ∨ mkZ j ∨ mkJ j) (S : MS) : (mflds S)[j]? = some (.ref (mar j)) := by
  rcases hj with hj | hj | hj
  · simp only [mkI, List.mem_cons, List.not_mem_nil, or_false] at hj
    rcases hj with rfl | rfl | rfl | rfl | rfl | rfl | rfl | rfl | rfl | rfl | rfl | rfl | rfl | rfl | rfl | rfl | rfl | rfl | rfl | rfl | rfl | rfl <;> rfl
  · simp only [mkZ, List.mem_cons, List.not_mem_nil, or_false] at hj
    rcases hj with rfl | rfl <;> rfl
  · simp only [mkJ, List.mem_cons, List.not_mem_nil, or_false] at hj
    rcases hj with rfl | rfl | rfl <;> rfl
theorem mf_set {j : Nat} (hj : mkS j) (S : MS) (v : Int32) : (mflds S).set j (.int v) = mflds (si S j v) := by
  simp only [mkS, List.mem_cons, List.not_mem_nil, or_false] at hj
  rcases hj with rfl | rfl | rfl | rfl | rfl | rfl | rfl | rfl | rfl | rfl | rfl | rfl | rfl | rfl | rfl | rfl
  all_goals rfl
theorem mc_si {j : Nat} (S : MS) (v : Int32) : (mcells S).set 0 (.inr (8, mflds (si S j v))) = mcells (si S j v) := rfl
theorem mc_I {j : Nat} (hj : mkI j) {A D : List va_E} (hA : A.length = 26) (S : MS) : (mh A S D)[mar j]? = some (.inl (0, (mln j, .inl (S.2.1 j)))) := by
  simp only [mkI, List.mem_cons, List.not_mem_nil, or_false] at hj
  rcases hj with rfl | rfl | rfl | rfl | rfl | rfl | rfl | rfl | rfl | rfl | rfl | rfl | rfl | rfl | rfl | rfl | rfl | rfl | rfl | rfl | rfl | rfl
  · exact mh_get hA 1 (by omega)
  · exact mh_get hA 2 (by omega)
  · exact mh_get hA 3 (by omega)
  · exact mh_get hA 4 (by omega)
  · exact mh_get hA 5 (by omega)
  · exact mh_get hA 6 (by omega)
  · exact mh_get hA 7 (by omega)
  · exact mh_get hA 8 (by omega)
  · exact mh_get hA 9 (by omega)
  · exact mh_get hA 10 (by omega)
  · exact mh_get hA 11 (by omega)
  · exact mh_get hA 12 (by omega)
  · exact mh_get hA 13 (by omega)
  · exact mh_get hA 14 (by omega)
  · exact mh_get hA 15 (by omega)
  · exact mh_get hA 16 (by omega)
  · exact mh_get hA 17 (by omega)
  · exact mh_get hA 18 (by omega)
  · exact mh_get hA 19 (by omega)
  · exact mh_get hA 23 (by omega)
  · exact mh_get hA 24 (by omega)
  · exact mh_get hA 25 (by omega)
theorem ms_I {j : Nat} (hj : mkI j) {A D : List va_E} (hA : A.length = 26) (S : MS) (f : Nat → Int32) : (mh A S D).set (mar j) (.inl (0, (mln j, .inl f))) = mh A (sa S j f) D := by
  simp only [mkI, List.mem_cons, List.not_mem_nil, or_false] at hj
  rcases hj with rfl | rfl | rfl | rfl | rfl | rfl | rfl | rfl | rfl | rfl | rfl | rfl | rfl | rfl | rfl | rfl | rfl | rfl | rfl | rfl | rfl | rfl
  · exact (mh_set hA 1 _ (by omega)).trans rfl
  · exact (mh_set hA 2 _ (by omega)).trans rfl
  · exact (mh_set hA 3 _ (by omega)).trans rfl
  · exact (mh_set hA 4 _ (by omega)).trans rfl
  · exact (mh_set hA 5 _ (by omega)).trans rfl
  · exact (mh_set hA 6 _ (by omega)).trans rfl
  · exact (mh_set hA 7 _ (by omega)).trans rfl
  · exact (mh_set hA 8 _ (by omega)).trans rfl
  · exact (mh_set hA 9 _ (by omega)).trans rfl
  · exact (mh_set hA 10 _ (by omega)).trans rfl
  · exact (mh_set hA 11 _ (by omega)).trans rfl
  · exact (mh_set hA 12 _ (by omega)).trans rfl
  · exact (mh_set hA 13 _ (by omega)).trans rfl
  · exact (mh_set hA 14 _ (by omega)).trans rfl
  · exact (mh_set hA 15 _ (by omega)).trans rfl
  · exact (mh_set hA 16 _ (by omega)).trans rfl
  · exact (mh_set hA 17 _ (by omega)).trans rfl
  · exact (mh_set hA 18 _ (by omega)).trans rfl
  · exact (mh_set hA 19 _ (by omega)).trans rfl
  · exact (mh_set hA 23 _ (by omega)).trans rfl
  · exact (mh_set hA 24 _ (by omega)).trans rfl
  · exact (mh_set hA 25 _ (by omega)).trans rfl
theorem mc_Z {j : Nat} (hj : mkZ j) {A D : List va_E} (hA : A.length = 26) (S : MS) : (mh A S D)[mar j]? = some (.inl (3, (mln j, .inl (S.2.1 j)))) := by
  simp only [mkZ, List.mem_cons, List.not_mem_nil, or_false] at hj
  rcases hj with rfl | rfl
  · exact mh_get hA 20 (by omega)
  · exact mh_get hA 22 (by omega)
theorem ms_Z {j : Nat} (hj : mkZ j) {A D : List va_E} (hA : A.length = 26) (S : MS) (f : Nat → Int32) : (mh A S D).set (mar j) (.inl (3, (mln j, .inl f))) = mh A (sa S j f) D := by
  simp only [mkZ, List.mem_cons, List.not_mem_nil, or_false] at hj
  rcases hj with rfl | rfl
  · exact (mh_set hA 20 _ (by omega)).trans rfl
  · exact (mh_set hA 22 _ (by omega)).trans rfl
theorem mc_J {j : Nat} (hj : mkJ j) {A D : List va_E} (hA : A.length = 26) (S : MS) : (mh A S D)[mar j]? = some (.inl (1, (mln j, .inr (.inl (S.2.2 j))))) := by
  simp only [mkJ, List.mem_cons, List.not_mem_nil, or_false] at hj
  rcases hj with rfl | rfl | rfl
  · exact mh_get hA 21 (by omega)
  · exact mh_get hA 26 (by omega)
  · exact mh_get hA 27 (by omega)
theorem ms_J {j : Nat} (hj : mkJ j) {A D : List va_E} (hA : A.length = 26) (S : MS) (f : Nat → Int64) : (mh A S D).set (mar j) (.inl (1, (mln j, .inr (.inl f)))) = mh A (sl S j f) D := by
  simp only [mkJ, List.mem_cons, List.not_mem_nil, or_false] at hj
  rcases hj with rfl | rfl | rfl
  · exact (mh_set hA 21 _ (by omega)).trans rfl
  · exact (mh_set hA 26 _ (by omega)).trans rfl
  · exact (mh_set hA 27 _ (by omega)).trans rfl
-- the primitives of the reference's code in numbers
def inB (i : Int32) (N : Nat) : Prop := 0 ≤ i.toInt ∧ i.toInt < N
def ixOk (i : Int32) (N : Nat) : Bool := decide (0 ≤ i.toInt) && decide (i.toInt < (N : Int))
theorem ixOk_in {i : Int32} {N : Nat} (h : ixOk i N = true) : vp_in i N := by
  unfold ixOk at h
  simp only [Bool.and_eq_true, decide_eq_true_eq] at h
  exact vp_in_iff.mpr h
def mA (S : MS) (j : Nat) (i : Int32) : Option Int32 := if ixOk i (mln j) = true then some (S.2.1 j i.toNatClampNeg) else none
def mL (S : MS) (j : Nat) (i : Int32) : Option Int64 := if ixOk i (mln j) = true then some (S.2.2 j i.toNatClampNeg) else none
def mAs (S : MS) (j : Nat) (i x : Int32) : Option MS := if ixOk i (mln j) = true then some (sa S j (upd (S.2.1 j) i.toNatClampNeg x)) else none
def mLs (S : MS) (j : Nat) (i : Int32) (x : Int64) : Option MS := if ixOk i (mln j) = true then some (sl S j (vp_updL (S.2.2 j) i.toNatClampNeg x)) else none
theorem mA_of {S : MS} {j : Nat} {i x : Int32} (h : mA S j i = some x) : vp_in i (mln j) ∧ S.2.1 j i.toNatClampNeg = x := by
  unfold mA at h
  split at h
  · next q => exact ⟨ixOk_in q, Option.some.inj h⟩
  · cases h
theorem mL_of {S : MS} {j : Nat} {i : Int32} {x : Int64} (h : mL S j i = some x) : vp_in i (mln j) ∧ S.2.2 j i.toNatClampNeg = x := by
  unfold mL at h
  split at h
  · next q => exact ⟨ixOk_in q, Option.some.inj h⟩
  · cases h
theorem mAs_of {S S' : MS} {j : Nat} {i x : Int32} (h : mAs S j i x = some S') : vp_in i (mln j) ∧ sa S j (upd (S.2.1 j) i.toNatClampNeg x) = S' := by
  unfold mAs at h
  split at h
  · next q => exact ⟨ixOk_in q, Option.some.inj h⟩
  · cases h
theorem mLs_of {S S' : MS} {j : Nat} {i : Int32} {x : Int64} (h : mLs S j i x = some S') : vp_in i (mln j) ∧ sl S j (vp_updL (S.2.2 j) i.toNatClampNeg x) = S' := by
  unfold mLs at h
  split at h
  · next q => exact ⟨ixOk_in q, Option.some.inj h⟩
  · cases h
/-- a boolean answer -/
def zg {α : Type} (o : Option (Int32 × α)) : Option (Int32 × α) := o.bind fun r => if r.1 = 0 ∨ r.1 = 1 then some r else none
theorem zg_of {α : Type} {o : Option (Int32 × α)} {r : Int32 × α} (h : zg o = some r) : o = some r ∧ (r.1 = 0 ∨ r.1 = 1) := by
  unfold zg at h
  obtain ⟨x, hx, h⟩ := Option.bind_eq_some_iff.mp h
  split at h
  · next q => cases h; exact ⟨hx, q⟩
  · cases h
/-- how often a loop may run -/
def FU : Nat := 5000
def Qr (v : Option Value) (h : AH) : Option Value → AH → Prop := fun v' h' => v' = v ∧ h' = h
section
variable {l : Launch} {g : gE} {d : Nat} {o : String} {cc : ByteArray} {nL : Nat} {nm : String} {MC MS' : Nat} {Q : Option Value → AH → Prop} {k n pc : Nat} {ls : List (Option Value)} {st : List Value} {h : AH} {A D : List va_E} {S : MS}
theorem m_getS {i j : Nat} (hA : A.length = 26) (hd : decode cc pc = .ok (.getfield i, 3)) (hf : aFld o i 8 j) (hj : mkS j) (kk : AW l g d o cc nL nm MC MS' Q k n (pc + 3) ls (.int (S.1 j) :: st) (mh A S D)) : AW l g d o cc nL nm MC MS' Q k n pc ls (.ref 26 :: st) (mh A S D) :=
  a_getf hd hf (mh_this hA) (mf_S hj S) kk
theorem m_getA {i j : Nat} (p : Nat) (hA : A.length = 26) (hd : decode cc pc = .ok (.getfield i, 3)) (hf : aFld o i 8 j) (hj : mkI j ∨ mkZ j ∨ mkJ j) (hp : mar j = p) (kk : AW l g d o cc nL nm MC MS' Q k n (pc + 3) ls (.ref p :: st) (mh A S D)) : AW l g d o cc nL nm MC MS' Q k n pc ls (.ref 26 :: st) (mh A S D) := by
  subst hp
  exact a_getf hd hf (mh_this hA) (mf_A hj S) kk
theorem m_putS {i j : Nat} {v : Int32} (hA : A.length = 26) (hd : decode cc pc = .ok (.putfield i, 3)) (hf : aFld o i 8 j) (hj : mkS j) (kk : AW l g d o cc nL nm MC MS' Q k n (pc + 3) ls st (mh A (si S j v) D)) : AW l g d o cc nL nm MC MS' Q k n pc ls (.int v :: .ref 26 :: st) (mh A S D) := by
  refine a_putf hd hf (mh_this hA) (fs := mflds S) hf.2.1 ?_ ?_ ?_ ?_
  · simp only [mkS, List.mem_cons, List.not_mem_nil, or_false] at hj
    rcases hj with rfl | rfl | rfl | rfl | rfl | rfl | rfl | rfl | rfl | rfl | rfl | rfl | rfl | rfl | rfl | rfl <;> rfl
  · simp only [mkS, List.mem_cons, List.not_mem_nil, or_false] at hj
    rcases hj with rfl | rfl | rfl | rfl | rfl | rfl | rfl | rfl | rfl | rfl | rfl | rfl | rfl | rfl | rfl | rfl <;> rfl
  · simp only [mkS, List.mem_cons, List.not_mem_nil, or_false] at hj
    rcases hj with rfl | rfl | rfl | rfl | rfl | rfl | rfl | rfl | rfl | rfl | rfl | rfl | rfl | rfl | rfl | rfl <;> rfl
  · rw [mf_set hj]
    have h8 : (mh A S D).set 26 (.inr (8, mflds (si S j v))) = mh A (si S j v) D := (mh_set hA 0 _ (by omega)).trans (by rw [mc_si]; rfl)
    rw [h8]
    exact kk
theorem m_ald {j : Nat} (p : Nat) {i x : Int32} (hA : A.length = 26) (hd : decode cc pc = .ok (.iaload, 1)) (hj : mkI j) (hp : mar j = p) (hx : mA S j i = some x) (kk : AW l g d o cc nL nm MC MS' Q k n (pc + 1) ls (.int x :: st) (mh A S D)) : AW l g d o cc nL nm MC MS' Q k n pc ls (.int i :: .ref p :: st) (mh A S D) := by
  subst hp
  obtain ⟨h1, h2⟩ := mA_of hx
  exact a_iald hd (mc_I hj hA S) h1 (by rw [h2]; exact kk)
theorem m_zald {j : Nat} (p : Nat) {i x : Int32} (hA : A.length = 26) (hd : decode cc pc = .ok (.baload, 1)) (hj : mkZ j) (hp : mar j = p) (hx : mA S j i = some x) (kk : AW l g d o cc nL nm MC MS' Q k n (pc + 1) ls (.int x :: st) (mh A S D)) : AW l g d o cc nL nm MC MS' Q k n pc ls (.int i :: .ref p :: st) (mh A S D) := by
  subst hp
  obtain ⟨h1, h2⟩ := mA_of hx
  exact a_zald hd (mc_Z hj hA S) h1 (by rw [h2]; exact kk)
theorem m_lald {j : Nat} (p : Nat) {i : Int32} {x : Int64} (hA : A.length = 26) (hd : decode cc pc = .ok (.laload, 1)) (hj : mkJ j) (hp : mar j = p) (hx : mL S j i = some x) (kk : AW l g d o cc nL nm MC MS' Q k n (pc + 1) ls (.long x :: st) (mh A S D)) : AW l g d o cc nL nm MC MS' Q k n pc ls (.int i :: .ref p :: st) (mh A S D) := by
  subst hp
  obtain ⟨h1, h2⟩ := mL_of hx
  exact a_lald hd (mc_J hj hA S) h1 (by rw [h2]; exact kk)
theorem m_ast {j : Nat} (p : Nat) {i x : Int32} {S' : MS} (hA : A.length = 26) (hd : decode cc pc = .ok (.iastore, 1)) (hj : mkI j) (hp : mar j = p) (hx : mAs S j i x = some S') (kk : AW l g d o cc nL nm MC MS' Q k n (pc + 1) ls st (mh A S' D)) : AW l g d o cc nL nm MC MS' Q k n pc ls (.int x :: .int i :: .ref p :: st) (mh A S D) := by
  subst hp
  obtain ⟨h1, h2⟩ := mAs_of hx
  refine a_iast hd (mc_I hj hA S) h1 ?_
  rw [ms_I hj hA, h2]
  exact kk
theorem m_zast {j : Nat} (p : Nat) {i x : Int32} {S' : MS} (hA : A.length = 26) (hd : decode cc pc = .ok (.bastore, 1)) (hj : mkZ j) (hp : mar j = p) (hx : mAs S j i (vp_nar .boolean x) = some S') (kk : AW l g d o cc nL nm MC MS' Q k n (pc + 1) ls st (mh A S' D)) : AW l g d o cc nL nm MC MS' Q k n pc ls (.int x :: .int i :: .ref p :: st) (mh A S D) := by
  subst hp
  obtain ⟨h1, h2⟩ := mAs_of hx
  refine a_zast hd (mc_Z hj hA S) h1 ?_
  rw [ms_Z hj hA, h2]
  exact kk
theorem m_last {j : Nat} (p : Nat) {i : Int32} {x : Int64} {S' : MS} (hA : A.length = 26) (hd : decode cc pc = .ok (.lastore, 1)) (hj : mkJ j) (hp : mar j = p) (hx : mLs S j i x = some S') (kk : AW l g d o cc nL nm MC MS' Q k n (pc + 1) ls st (mh A S' D)) : AW l g d o cc nL nm MC MS' Q k n pc ls (.long x :: .int i :: .ref p :: st) (mh A S D) := by
  subst hp
  obtain ⟨h1, h2⟩ := mLs_of hx
  refine a_last hd (mc_J hj hA S) h1 ?_
  rw [ms_J hj hA, h2]
  exact kk
theorem m_call {i n0 : Nat} {y : MethodName} {cy : ByteArray} {nLy : Nat} {ret : Option FieldType} {S' : MS} (v : Value) (As rest : List Value) (hA : A.length = 26) (hd : decode cc pc = .ok (.invokevirtual i, 3)) (hl : Cond.methodLink o i y ∈ lw_good) (hy : aMethV y cy nLy ret n0) (hcls : y.cls = RX8) (hn0 : As.length = n0) (hd1 : 1 ≤ d) (hM : AM l g (d - 1) y cy nLy ret 0 0 (.ref 26 :: As) (mh A S D) (Qr (some v) (mh A S' D))) (hs : st = As.reverse ++ .ref 26 :: rest) (hcat : (rest.map fun v => v.category).sum ≤ 8) (hk : k ≤ MC) (hn : n ≤ MS') (kk : AW l g d o cc nL nm MC MS' Q k n (pc + 3) ls (v :: rest) (mh A S' D)) : AW l g d o cc nL nm MC MS' Q k n pc ls st (mh A S D) :=
  a_callV As rest hd hl hy (mh_this hA) (by omega) hcls hn0 (by omega) hM hs hcat hk hn (fun w h' q => by obtain ⟨rfl, rfl⟩ := q; exact kk)
theorem m_callv {i n0 : Nat} {y : MethodName} {cy : ByteArray} {nLy : Nat} {ret : Option FieldType} {S' : MS} (As rest : List Value) (hA : A.length = 26) (hd : decode cc pc = .ok (.invokevirtual i, 3)) (hl : Cond.methodLink o i y ∈ lw_good) (hy : aMethV y cy nLy ret n0) (hcls : y.cls = RX8) (hn0 : As.length = n0) (hd1 : 1 ≤ d) (hM : AM l g (d - 1) y cy nLy ret 0 0 (.ref 26 :: As) (mh A S D) (Qr none (mh A S' D))) (hs : st = As.reverse ++ .ref 26 :: rest) (hcat : (rest.map fun v => v.category).sum ≤ 8) (hk : k ≤ MC) (hn : n ≤ MS') (kk : AW l g d o cc nL nm MC MS' Q k n (pc + 3) ls rest (mh A S' D)) : AW l g d o cc nL nm MC MS' Q k n pc ls st (mh A S D) :=
  a_callV As rest hd hl hy (mh_this hA) (by omega) hcls hn0 (by omega) hM hs hcat hk hn (fun w h' q => by obtain ⟨rfl, rfl⟩ := q; exact kk)
end
