section
variable {l : Launch} {g : gE} {d : Nat} {o : String} {cc : ByteArray} {nL : Nat} {nm : String} {MC MS : Nat} {Q : Option Value → AH → Prop} {k n pc : Nat} {ls : List (Option Value)} {st : List Value} {h : AH}
theorem a_iconst {z : Int} (v : Int32) (hd : decode cc pc = .ok (.iconst z, 1)) (hv : Int32.ofInt z = v) (kk : AW l g d o cc nL nm MC MS Q k n (pc + 1) ls (.int v :: st) h) : AW l g d o cc nL nm MC MS Q k n pc ls (st) h :=
  fun p e R s m args below meth c C Z hz H locs lc hR hS hL => lv_iconst C.1 C.2.1 hd hv (kk p e R s m args below meth c C Z hz H locs lc hR hS hL)
theorem a_bipush {z : Int} (v : Int32) (hd : decode cc pc = .ok (.bipush z, 2)) (hv : (Int8.ofInt z).toInt32 = v) (kk : AW l g d o cc nL nm MC MS Q k n (pc + 2) ls (.int v :: st) h) : AW l g d o cc nL nm MC MS Q k n pc ls (st) h :=
  fun p e R s m args below meth c C Z hz H locs lc hR hS hL => lv_bipush C.1 C.2.1 hd hv (kk p e R s m args below meth c C Z hz H locs lc hR hS hL)
theorem a_sipush {z : Int} (v : Int32) (hd : decode cc pc = .ok (.sipush z, 3)) (hv : (Int16.ofInt z).toInt32 = v) (kk : AW l g d o cc nL nm MC MS Q k n (pc + 3) ls (.int v :: st) h) : AW l g d o cc nL nm MC MS Q k n pc ls (st) h :=
  fun p e R s m args below meth c C Z hz H locs lc hR hS hL => lv_sipush C.1 C.2.1 hd hv (kk p e R s m args below meth c C Z hz H locs lc hR hS hL)
theorem a_lconst {z : Fin 2} (v : Int64) (hd : decode cc pc = .ok (.lconst z, 1)) (hv : Int64.ofNat (z : Nat) = v) (kk : AW l g d o cc nL nm MC MS Q k n (pc + 1) ls (.long v :: st) h) : AW l g d o cc nL nm MC MS Q k n pc ls (st) h :=
  fun p e R s m args below meth c C Z hz H locs lc hR hS hL => lv_lconst C.1 C.2.1 hd hv (kk p e R s m args below meth c C Z hz H locs lc hR hS hL)
theorem a_null  (hd : decode cc pc = .ok (.aconst_null, 1))  (kk : AW l g d o cc nL nm MC MS Q k n (pc + 1) ls (.null :: st) h) : AW l g d o cc nL nm MC MS Q k n pc ls (st) h :=
  fun p e R s m args below meth c C Z hz H locs lc hR hS hL => lv_null C.1 C.2.1 hd  (kk p e R s m args below meth c C Z hz H locs lc hR hS hL)
theorem a_ldc {i : Nat} (v : Int32) (hd : decode cc pc = .ok (.ldc i, 2)) (hw : Jvm.Cond.constant o i v ∈ lw_good) (kk : AW l g d o cc nL nm MC MS Q k n (pc + 2) ls (.int v :: st) h) : AW l g d o cc nL nm MC MS Q k n pc ls (st) h :=
  fun p e R s m args below meth c C Z hz H locs lc hR hS hL => (fun hx hb hd k => lv_ldc hx hb C.2.2.2.1 (C.2.2.2.2.1 _ hw) hd k) C.1 C.2.1 hd  (kk p e R s m args below meth c C Z hz H locs lc hR hS hL)
theorem a_ldcw {i : Nat} (v : Int32) (hd : decode cc pc = .ok (.ldc_w i, 3)) (hw : Jvm.Cond.constant o i v ∈ lw_good) (kk : AW l g d o cc nL nm MC MS Q k n (pc + 3) ls (.int v :: st) h) : AW l g d o cc nL nm MC MS Q k n pc ls (st) h :=
  fun p e R s m args below meth c C Z hz H locs lc hR hS hL => (fun hx hb hd k => lv_ldcw hx hb C.2.2.2.1 (C.2.2.2.2.1 _ hw) hd k) C.1 C.2.1 hd  (kk p e R s m args below meth c C Z hz H locs lc hR hS hL)
theorem a_ldc2 {i : Nat} (v : Int64) (hd : decode cc pc = .ok (.ldc2_w i, 3)) (hw : Jvm.Cond.constantLong o i v ∈ lw_good) (kk : AW l g d o cc nL nm MC MS Q k n (pc + 3) ls (.long v :: st) h) : AW l g d o cc nL nm MC MS Q k n pc ls (st) h :=
  fun p e R s m args below meth c C Z hz H locs lc hR hS hL => (fun hx hb hd k => lv_ldc2 hx hb C.2.2.2.1 (C.2.2.2.2.1 _ hw) hd k) C.1 C.2.1 hd  (kk p e R s m args below meth c C Z hz H locs lc hR hS hL)
theorem a_iadd {x y : Int32} (hd : decode cc pc = .ok (.iadd, 1))  (kk : AW l g d o cc nL nm MC MS Q k n (pc + 1) ls (.int (x + y) :: st) h) : AW l g d o cc nL nm MC MS Q k n pc ls (.int y :: .int x :: st) h :=
  fun p e R s m args below meth c C Z hz H locs lc hR hS hL => lv_iadd C.1 C.2.1 hd  (kk p e R s m args below meth c C Z hz H locs lc hR hS hL)
theorem a_isub {x y : Int32} (hd : decode cc pc = .ok (.isub, 1))  (kk : AW l g d o cc nL nm MC MS Q k n (pc + 1) ls (.int (x - y) :: st) h) : AW l g d o cc nL nm MC MS Q k n pc ls (.int y :: .int x :: st) h :=
  fun p e R s m args below meth c C Z hz H locs lc hR hS hL => lv_isub C.1 C.2.1 hd  (kk p e R s m args below meth c C Z hz H locs lc hR hS hL)
theorem a_imul {x y : Int32} (hd : decode cc pc = .ok (.imul, 1))  (kk : AW l g d o cc nL nm MC MS Q k n (pc + 1) ls (.int (x * y) :: st) h) : AW l g d o cc nL nm MC MS Q k n pc ls (.int y :: .int x :: st) h :=
  fun p e R s m args below meth c C Z hz H locs lc hR hS hL => lv_imul C.1 C.2.1 hd  (kk p e R s m args below meth c C Z hz H locs lc hR hS hL)
theorem a_iand {x y : Int32} (hd : decode cc pc = .ok (.iand, 1))  (kk : AW l g d o cc nL nm MC MS Q k n (pc + 1) ls (.int (x &&& y) :: st) h) : AW l g d o cc nL nm MC MS Q k n pc ls (.int y :: .int x :: st) h :=
  fun p e R s m args below meth c C Z hz H locs lc hR hS hL => lv_iand C.1 C.2.1 hd  (kk p e R s m args below meth c C Z hz H locs lc hR hS hL)
theorem a_ior {x y : Int32} (hd : decode cc pc = .ok (.ior, 1))  (kk : AW l g d o cc nL nm MC MS Q k n (pc + 1) ls (.int (x ||| y) :: st) h) : AW l g d o cc nL nm MC MS Q k n pc ls (.int y :: .int x :: st) h :=
  fun p e R s m args below meth c C Z hz H locs lc hR hS hL => lv_ior C.1 C.2.1 hd  (kk p e R s m args below meth c C Z hz H locs lc hR hS hL)
theorem a_ixor {x y : Int32} (hd : decode cc pc = .ok (.ixor, 1))  (kk : AW l g d o cc nL nm MC MS Q k n (pc + 1) ls (.int (x ^^^ y) :: st) h) : AW l g d o cc nL nm MC MS Q k n pc ls (.int y :: .int x :: st) h :=
  fun p e R s m args below meth c C Z hz H locs lc hR hS hL => lv_ixor C.1 C.2.1 hd  (kk p e R s m args below meth c C Z hz H locs lc hR hS hL)
theorem a_ishl {x y : Int32} (hd : decode cc pc = .ok (.ishl, 1))  (kk : AW l g d o cc nL nm MC MS Q k n (pc + 1) ls (.int (x <<< (y &&& 31)) :: st) h) : AW l g d o cc nL nm MC MS Q k n pc ls (.int y :: .int x :: st) h :=
  fun p e R s m args below meth c C Z hz H locs lc hR hS hL => lv_ishl C.1 C.2.1 hd  (kk p e R s m args below meth c C Z hz H locs lc hR hS hL)
theorem a_ishr {x y : Int32} (hd : decode cc pc = .ok (.ishr, 1))  (kk : AW l g d o cc nL nm MC MS Q k n (pc + 1) ls (.int (x >>> (y &&& 31)) :: st) h) : AW l g d o cc nL nm MC MS Q k n pc ls (.int y :: .int x :: st) h :=
  fun p e R s m args below meth c C Z hz H locs lc hR hS hL => lv_ishr C.1 C.2.1 hd  (kk p e R s m args below meth c C Z hz H locs lc hR hS hL)
theorem a_idiv {x y : Int32} (hd : decode cc pc = .ok (.idiv, 1)) (hne : ¬ y = 0) (kk : AW l g d o cc nL nm MC MS Q k n (pc + 1) ls (.int (x / y) :: st) h) : AW l g d o cc nL nm MC MS Q k n pc ls (.int y :: .int x :: st) h :=
  fun p e R s m args below meth c C Z hz H locs lc hR hS hL => lv_idiv C.1 C.2.1 hd hne (kk p e R s m args below meth c C Z hz H locs lc hR hS hL)
theorem a_irem {x y : Int32} (hd : decode cc pc = .ok (.irem, 1)) (hne : ¬ y = 0) (kk : AW l g d o cc nL nm MC MS Q k n (pc + 1) ls (.int (x - x / y * y) :: st) h) : AW l g d o cc nL nm MC MS Q k n pc ls (.int y :: .int x :: st) h :=
  fun p e R s m args below meth c C Z hz H locs lc hR hS hL => lv_irem C.1 C.2.1 hd hne (kk p e R s m args below meth c C Z hz H locs lc hR hS hL)
theorem a_ineg {x : Int32} (hd : decode cc pc = .ok (.ineg, 1))  (kk : AW l g d o cc nL nm MC MS Q k n (pc + 1) ls (.int (-x) :: st) h) : AW l g d o cc nL nm MC MS Q k n pc ls (.int x :: st) h :=
  fun p e R s m args below meth c C Z hz H locs lc hR hS hL => lv_ineg C.1 C.2.1 hd  (kk p e R s m args below meth c C Z hz H locs lc hR hS hL)
theorem a_iushr {x y : Int32} (hd : decode cc pc = .ok (.iushr, 1))  (kk : AW l g d o cc nL nm MC MS Q k n (pc + 1) ls (.int ((x.toUInt32 >>> (y.toUInt32 &&& Int32.toUInt32 31)).toInt32) :: st) h) : AW l g d o cc nL nm MC MS Q k n pc ls (.int y :: .int x :: st) h :=
  fun p e R s m args below meth c C Z hz H locs lc hR hS hL => lv_iushr C.1 C.2.1 hd rfl (kk p e R s m args below meth c C Z hz H locs lc hR hS hL)
theorem a_ladd {x y : Int64} (hd : decode cc pc = .ok (.ladd, 1))  (kk : AW l g d o cc nL nm MC MS Q k n (pc + 1) ls (.long (x + y) :: st) h) : AW l g d o cc nL nm MC MS Q k n pc ls (.long y :: .long x :: st) h :=
  fun p e R s m args below meth c C Z hz H locs lc hR hS hL => lv_ladd C.1 C.2.1 hd  (kk p e R s m args below meth c C Z hz H locs lc hR hS hL)
theorem a_lsub {x y : Int64} (hd : decode cc pc = .ok (.lsub, 1))  (kk : AW l g d o cc nL nm MC MS Q k n (pc + 1) ls (.long (x - y) :: st) h) : AW l g d o cc nL nm MC MS Q k n pc ls (.long y :: .long x :: st) h :=
  fun p e R s m args below meth c C Z hz H locs lc hR hS hL => lv_lsub C.1 C.2.1 hd  (kk p e R s m args below meth c C Z hz H locs lc hR hS hL)
theorem a_lmul {x y : Int64} (hd : decode cc pc = .ok (.lmul, 1))  (kk : AW l g d o cc nL nm MC MS Q k n (pc + 1) ls (.long (x * y) :: st) h) : AW l g d o cc nL nm MC MS Q k n pc ls (.long y :: .long x :: st) h :=
  fun p e R s m args below meth c C Z hz H locs lc hR hS hL => lv_lmul C.1 C.2.1 hd  (kk p e R s m args below meth c C Z hz H locs lc hR hS hL)
theorem a_land {x y : Int64} (hd : decode cc pc = .ok (.land, 1))  (kk : AW l g d o cc nL nm MC MS Q k n (pc + 1) ls (.long (x &&& y) :: st) h) : AW l g d o cc nL nm MC MS Q k n pc ls (.long y :: .long x :: st) h :=
  fun p e R s m args below meth c C Z hz H locs lc hR hS hL => lv_land C.1 C.2.1 hd  (kk p e R s m args below meth c C Z hz H locs lc hR hS hL)
theorem a_lor {x y : Int64} (hd : decode cc pc = .ok (.lor, 1))  (kk : AW l g d o cc nL nm MC MS Q k n (pc + 1) ls (.long (x ||| y) :: st) h) : AW l g d o cc nL nm MC MS Q k n pc ls (.long y :: .long x :: st) h :=
  fun p e R s m args below meth c C Z hz H locs lc hR hS hL => lv_lor C.1 C.2.1 hd  (kk p e R s m args below meth c C Z hz H locs lc hR hS hL)
theorem a_lshl {x : Int64} {y : Int32} (hd : decode cc pc = .ok (.lshl, 1))  (kk : AW l g d o cc nL nm MC MS Q k n (pc + 1) ls (.long (x <<< (y.toInt64 &&& 63)) :: st) h) : AW l g d o cc nL nm MC MS Q k n pc ls (.int y :: .long x :: st) h :=
  fun p e R s m args below meth c C Z hz H locs lc hR hS hL => lv_lshl C.1 C.2.1 hd rfl (kk p e R s m args below meth c C Z hz H locs lc hR hS hL)
theorem a_i2l {x : Int32} (hd : decode cc pc = .ok (.i2l, 1))  (kk : AW l g d o cc nL nm MC MS Q k n (pc + 1) ls (.long x.toInt64 :: st) h) : AW l g d o cc nL nm MC MS Q k n pc ls (.int x :: st) h :=
  fun p e R s m args below meth c C Z hz H locs lc hR hS hL => lv_i2l C.1 C.2.1 hd rfl (kk p e R s m args below meth c C Z hz H locs lc hR hS hL)
theorem a_l2i {x : Int64} (hd : decode cc pc = .ok (.l2i, 1))  (kk : AW l g d o cc nL nm MC MS Q k n (pc + 1) ls (.int x.toInt32 :: st) h) : AW l g d o cc nL nm MC MS Q k n pc ls (.long x :: st) h :=
  fun p e R s m args below meth c C Z hz H locs lc hR hS hL => lv_l2i C.1 C.2.1 hd rfl (kk p e R s m args below meth c C Z hz H locs lc hR hS hL)
theorem a_i2b {x : Int32} (hd : decode cc pc = .ok (.i2b, 1))  (kk : AW l g d o cc nL nm MC MS Q k n (pc + 1) ls (.int x.toInt8.toInt32 :: st) h) : AW l g d o cc nL nm MC MS Q k n pc ls (.int x :: st) h :=
  fun p e R s m args below meth c C Z hz H locs lc hR hS hL => lv_i2b C.1 C.2.1 hd rfl (kk p e R s m args below meth c C Z hz H locs lc hR hS hL)
theorem a_i2s {x : Int32} (hd : decode cc pc = .ok (.i2s, 1))  (kk : AW l g d o cc nL nm MC MS Q k n (pc + 1) ls (.int x.toInt16.toInt32 :: st) h) : AW l g d o cc nL nm MC MS Q k n pc ls (.int x :: st) h :=
  fun p e R s m args below meth c C Z hz H locs lc hR hS hL => lv_i2s C.1 C.2.1 hd rfl (kk p e R s m args below meth c C Z hz H locs lc hR hS hL)
theorem a_i2c {x : Int32} (hd : decode cc pc = .ok (.i2c, 1))  (kk : AW l g d o cc nL nm MC MS Q k n (pc + 1) ls (.int (x.toUInt32 % 65536).toInt32 :: st) h) : AW l g d o cc nL nm MC MS Q k n pc ls (.int x :: st) h :=
  fun p e R s m args below meth c C Z hz H locs lc hR hS hL => lv_i2c C.1 C.2.1 hd rfl (kk p e R s m args below meth c C Z hz H locs lc hR hS hL)
theorem a_lcmp {x y : Int64} (hd : decode cc pc = .ok (.lcmp, 1))  (kk : AW l g d o cc nL nm MC MS Q k n (pc + 1) ls (.int (lg_cmp x y) :: st) h) : AW l g d o cc nL nm MC MS Q k n pc ls (.long y :: .long x :: st) h :=
  fun p e R s m args below meth c C Z hz H locs lc hR hS hL => W.lcmp C.1 C.2.1 hd  (kk p e R s m args below meth c C Z hz H locs lc hR hS hL)
theorem a_dup {v : Value} (hd : decode cc pc = .ok (.dup, 1)) (hv : v.category = 1) (kk : AW l g d o cc nL nm MC MS Q k n (pc + 1) ls (v :: v :: st) h) : AW l g d o cc nL nm MC MS Q k n pc ls (v :: st) h :=
  fun p e R s m args below meth c C Z hz H locs lc hR hS hL => lv_dup C.1 C.2.1 hd ((cv_cat g v).trans hv) (kk p e R s m args below meth c C Z hz H locs lc hR hS hL)
theorem a_pop {v : Value} (hd : decode cc pc = .ok (.pop, 1)) (hv : v.category = 1) (kk : AW l g d o cc nL nm MC MS Q k n (pc + 1) ls (st) h) : AW l g d o cc nL nm MC MS Q k n pc ls (v :: st) h :=
  fun p e R s m args below meth c C Z hz H locs lc hR hS hL => lv_pop C.1 C.2.1 hd ((cv_cat g v).trans hv) (kk p e R s m args below meth c C Z hz H locs lc hR hS hL)
theorem a_dup2 {v w : Value} (hd : decode cc pc = .ok (.dup2, 1)) (hv : v.category = 1) (hw : w.category = 1) (kk : AW l g d o cc nL nm MC MS Q k n (pc + 1) ls (v :: w :: v :: w :: st) h) : AW l g d o cc nL nm MC MS Q k n pc ls (v :: w :: st) h :=
  fun p e R s m args below meth c C Z hz H locs lc hR hS hL => lv_dup2_11 C.1 C.2.1 hd ((cv_cat g v).trans hv) ((cv_cat g w).trans hw) (kk p e R s m args below meth c C Z hz H locs lc hR hS hL)
theorem a_iload {i : Nat} {x : Int32} (hd : decode cc pc = .ok (.iload i, 2)) (hl : ls[i]? = some (some (.int x))) (kk : AW l g d o cc nL nm MC MS Q k n (pc + 2) ls ((.int x) :: st) h) : AW l g d o cc nL nm MC MS Q k n pc ls (st) h :=
  fun p e R s m args below meth c C Z hz H locs lc hR hS hL => lv_iload C.1 C.2.1 hd (hL.2.2 i (.int x) hl) (kk p e R s m args below meth c C Z hz H locs lc hR hS hL)
theorem a_iload_n {i : Fin 4} {x : Int32} (hd : decode cc pc = .ok (.iload_n i, 1)) (hl : ls[(i : Nat)]? = some (some (.int x))) (kk : AW l g d o cc nL nm MC MS Q k n (pc + 1) ls ((.int x) :: st) h) : AW l g d o cc nL nm MC MS Q k n pc ls (st) h :=
  fun p e R s m args below meth c C Z hz H locs lc hR hS hL => lv_iload_n C.1 C.2.1 hd rfl (hL.2.2 (i : Nat) (.int x) hl) (kk p e R s m args below meth c C Z hz H locs lc hR hS hL)
theorem a_lload {i : Nat} {x : Int64} (hd : decode cc pc = .ok (.lload i, 2)) (hl : ls[i]? = some (some (.long x))) (kk : AW l g d o cc nL nm MC MS Q k n (pc + 2) ls ((.long x) :: st) h) : AW l g d o cc nL nm MC MS Q k n pc ls (st) h :=
  fun p e R s m args below meth c C Z hz H locs lc hR hS hL => lv_lload C.1 C.2.1 hd (hL.2.2 i (.long x) hl) (kk p e R s m args below meth c C Z hz H locs lc hR hS hL)
theorem a_lload_n {i : Fin 4} {x : Int64} (hd : decode cc pc = .ok (.lload_n i, 1)) (hl : ls[(i : Nat)]? = some (some (.long x))) (kk : AW l g d o cc nL nm MC MS Q k n (pc + 1) ls ((.long x) :: st) h) : AW l g d o cc nL nm MC MS Q k n pc ls (st) h :=
  fun p e R s m args below meth c C Z hz H locs lc hR hS hL => lv_lload_n C.1 C.2.1 hd rfl (hL.2.2 (i : Nat) (.long x) hl) (kk p e R s m args below meth c C Z hz H locs lc hR hS hL)
theorem rfv_is (v : Value) : rfv v = .null ∨ ∃ a, rfv v = .ref a := by
  cases v with
  | ref a => exact Or.inr ⟨a, rfl⟩
  | _ => exact Or.inl rfl
/-- a reference value of the abstract machine -/
def isRv (v : Value) : Prop := v = .null ∨ (∃ a, v = .ref a) ∨ ∃ i, v = .retAddr i
theorem cv_isRv {g : gE} {v : Value} (h : isRv v) : cv g v = .null ∨ ∃ a, cv g v = .ref a := by
  rcases h with rfl | ⟨a, rfl⟩ | ⟨i, rfl⟩
  · exact Or.inl rfl
  · exact Or.inr ⟨_, rfl⟩
  · exact rfv_is _
theorem isRv_r (a : Nat) : isRv (.ref a) := Or.inr (Or.inl ⟨a, rfl⟩)
theorem isRv_o (i : Nat) : isRv (.retAddr i) := Or.inr (Or.inr ⟨i, rfl⟩)
theorem isRv_n : isRv .null := Or.inl rfl
theorem a_aload {i : Nat} {v : Value} (hd : decode cc pc = .ok (.aload i, 2)) (hl : ls[i]? = some (some v)) (hv : isRv v) (kk : AW l g d o cc nL nm MC MS Q k n (pc + 2) ls (v :: st) h) : AW l g d o cc nL nm MC MS Q k n pc ls st h := by
  intro p e R s m args below meth c C Z hz H locs lc hR hS hL
  have h1 := hL.2.2 i v hl
  have h2 := kk p e R s m args below meth c C Z hz H locs lc hR hS hL
  rw [List.map_cons] at h2
  rcases cv_isRv (g := g) hv with e1 | ⟨a, e1⟩
  · rw [e1] at h1 h2
    exact lv_aloadN C.1 C.2.1 hd h1 h2
  · rw [e1] at h1 h2
    exact lv_aload C.1 C.2.1 hd h1 h2
theorem a_aload_n {i : Fin 4} {v : Value} (hd : decode cc pc = .ok (.aload_n i, 1)) (hl : ls[(i : Nat)]? = some (some v)) (hv : isRv v) (kk : AW l g d o cc nL nm MC MS Q k n (pc + 1) ls (v :: st) h) : AW l g d o cc nL nm MC MS Q k n pc ls st h := by
  intro p e R s m args below meth c C Z hz H locs lc hR hS hL
  have h1 := hL.2.2 (i : Nat) v hl
  have h2 := kk p e R s m args below meth c C Z hz H locs lc hR hS hL
  rw [List.map_cons] at h2
  rcases cv_isRv (g := g) hv with e1 | ⟨a, e1⟩
  · rw [e1] at h1 h2
    exact lv_aload_nN C.1 C.2.1 hd rfl h1 h2
  · rw [e1] at h1 h2
    exact lv_aload_n C.1 C.2.1 hd rfl h1 h2
def aClr (ls : List (Option Value)) (i : Nat) : List (Option Value) := match i with
  | 0 => ls
  | j + 1 => match ls[j]? with
    | some (some w) => if w.category = 2 then ls.set j none else ls
    | _ => ls
def aSet (ls : List (Option Value)) (i : Nat) (v : Value) : List (Option Value) := (aClr ls i).set i (some v)
def aSet2 (ls : List (Option Value)) (i : Nat) (v : Value) : List (Option Value) := ((aClr ls i).set i (some v)).set (i + 1) none
theorem aClr_get {ls : List (Option Value)} {i j : Nat} {w : Value} (h : (aClr ls i)[j]? = some (some w)) : ls[j]? = some (some w) ∧ ¬ (j + 1 = i ∧ w.category = 2) := by
  unfold aClr at h
  cases i with
  | zero => exact ⟨h, fun q => by omega⟩
  | succ i =>
    dsimp only at h
    cases hi : ls[i]? with
    | none =>
      rw [hi] at h
      exact ⟨h, fun q => by
        have e : j = i := by omega
        rw [e, hi] at h
        cases h⟩
    | some x =>
      rw [hi] at h
      cases x with
      | none =>
        exact ⟨h, fun q => by
          have e : j = i := by omega
          rw [e, hi] at h
          cases h⟩
      | some z =>
        dsimp only at h
        by_cases hz : z.category = 2
        · rw [if_pos hz, List.getElem?_set] at h
          by_cases e : i = j
          · subst e
            rw [if_pos rfl] at h
            split at h <;> cases h
          · rw [if_neg e] at h
            exact ⟨h, fun q => by omega⟩
        · rw [if_neg hz] at h
          refine ⟨h, fun q => ?_⟩
          have e : j = i := by omega
          rw [e, hi] at h
          cases h
          exact hz q.2
def lvL (g : gE) (ls : List (Option Value)) : List (Nat × Value) := (ls.mapIdx fun i x => (i, x)).filterMap (fun q => q.2.map (fun v => (q.1, cv g v)))
theorem lvL_mem {g : gE} {ls : List (Option Value)} {i : Nat} {v : Value} (h : ls[i]? = some (some v)) : (i, cv g v) ∈ lvL g ls := by
  unfold lvL
  refine List.mem_filterMap.mpr ⟨(i, some v), ?_, rfl⟩
  refine List.mem_of_getElem? (i := i) ?_
  rw [List.getElem?_mapIdx, h]
  rfl
theorem lvL_of {g : gE} {ls : List (Option Value)} {q : Nat × Value} (h : q ∈ lvL g ls) : ∃ v, ls[q.1]? = some (some v) ∧ q.2 = cv g v := by
  unfold lvL at h
  obtain ⟨x, hx, e⟩ := List.mem_filterMap.mp h
  obtain ⟨i, hi⟩ := List.getElem?_of_mem hx
  rw [List.getElem?_mapIdx] at hi
  cases hl : ls[i]? with
  | none => rw [hl] at hi; cases hi
  | some y =>
    rw [hl] at hi
    have hi := Option.some.inj hi
    subst hi
    cases y with
    | none => cases e
    | some v =>
      have e := Option.some.inj e
      subst e
      exact ⟨v, hl, rfl⟩
theorem aLoc.has {lc : Array Slot} (hL : aLoc g lc nL ls) : lv_has lc nL (lvL g ls) := ⟨hL.1, hL.2.1, fun q hq => by
  obtain ⟨v, h1, h2⟩ := lvL_of hq
  rw [h2]
  exact hL.2.2 _ _ h1⟩
theorem aLoc.st1 {lc : Array Slot} {i : Nat} {v : Value} {lv : List (Nat × Value)} (h : lv_has lc nL lv) (hm : ∀ q ∈ (i, cv g v) :: (lvL g ls).filter (fun q => !(q.1 == i) && !(q.1 + 1 == i && q.2.category == 2)), q ∈ lv) : aLoc g lc nL (aSet ls i v) := by
  refine ⟨h.1, h.2.1, fun j w hw => ?_⟩
  unfold aSet at hw
  rw [List.getElem?_set] at hw
  by_cases e : i = j
  · subst e
    rw [if_pos rfl] at hw
    split at hw
    · have hw := Option.some.inj (Option.some.inj hw)
      subst hw
      exact h.2.2 (i, cv g v) (hm _ List.mem_cons_self)
    · cases hw
  · rw [if_neg e] at hw
    obtain ⟨h1, h2⟩ := aClr_get hw
    refine h.2.2 (j, cv g w) (hm _ (List.mem_cons_of_mem _ (List.mem_filter.mpr ⟨lvL_mem h1, ?_⟩)))
    simp only [cv_cat, Bool.and_eq_true, Bool.not_eq_true', beq_eq_false_iff_ne, Bool.and_eq_false_iff]
    refine ⟨fun z => e z.symm, ?_⟩
    by_cases z : j + 1 = i
    · exact Or.inr (fun z2 => h2 ⟨z, z2⟩)
    · exact Or.inl z
theorem aLoc.st2 {lc : Array Slot} {i : Nat} {v : Value} {lv : List (Nat × Value)} (h : lv_has lc nL lv) (hm : ∀ q ∈ (i, cv g v) :: (lvL g ls).filter (fun q => !(q.1 == i) && (!(q.1 == i + 1) && !(q.1 + 1 == i && q.2.category == 2))), q ∈ lv) : aLoc g lc nL (aSet2 ls i v) := by
  refine ⟨h.1, h.2.1, fun j w hw => ?_⟩
  unfold aSet2 at hw
  rw [List.getElem?_set] at hw
  by_cases e1 : i + 1 = j
  · rw [if_pos e1] at hw
    split at hw <;> cases hw
  rw [if_neg e1, List.getElem?_set] at hw
  by_cases e : i = j
  · subst e
    rw [if_pos rfl] at hw
    split at hw
    · have hw := Option.some.inj (Option.some.inj hw)
      subst hw
      exact h.2.2 (i, cv g v) (hm _ List.mem_cons_self)
    · cases hw
  · rw [if_neg e] at hw
    obtain ⟨h1, h2⟩ := aClr_get hw
    refine h.2.2 (j, cv g w) (hm _ (List.mem_cons_of_mem _ (List.mem_filter.mpr ⟨lvL_mem h1, ?_⟩)))
    simp only [cv_cat, Bool.and_eq_true, Bool.not_eq_true', beq_eq_false_iff_ne, Bool.and_eq_false_iff]
    refine ⟨fun z => e z.symm, fun z => e1 z.symm, ?_⟩
    by_cases z : j + 1 = i
    · exact Or.inr (fun z2 => h2 ⟨z, z2⟩)
    · exact Or.inl z
theorem a_istore {i : Nat} {x : Int32} {ls' : List (Option Value)} (hd : decode cc pc = .ok (.istore i, 2)) (hn : i < nL) (he : aSet ls i (.int x) = ls') (kk : AW l g d o cc nL nm MC MS Q k n (pc + 2) ls' st h) : AW l g d o cc nL nm MC MS Q k n pc ls ((.int x) :: st) h := by
  intro p e R s m args below meth c C Z hz H locs lc hR hS hL
  subst he
  exact lv_istore C.1 C.2.1 hd hL.has hn rfl (fun lc' hl' => kk p e R s m args below meth c C Z hz H locs lc' hR hS (aLoc.st1 (v := .int x) hl' (fun q hq => hq)))
theorem a_istore_n {i : Fin 4} {x : Int32} {ls' : List (Option Value)} (hd : decode cc pc = .ok (.istore_n i, 1)) (hn : (i : Nat) < nL) (he : aSet ls (i : Nat) (.int x) = ls') (kk : AW l g d o cc nL nm MC MS Q k n (pc + 1) ls' st h) : AW l g d o cc nL nm MC MS Q k n pc ls ((.int x) :: st) h := by
  intro p e R s m args below meth c C Z hz H locs lc hR hS hL
  subst he
  exact lv_istore_n C.1 C.2.1 hd rfl hL.has hn rfl (fun lc' hl' => kk p e R s m args below meth c C Z hz H locs lc' hR hS (aLoc.st1 (v := .int x) hl' (fun q hq => hq)))
theorem a_lstore {i : Nat} {x : Int64} {ls' : List (Option Value)} (hd : decode cc pc = .ok (.lstore i, 2)) (hn : i + 1 < nL) (he : aSet2 ls i (.long x) = ls') (kk : AW l g d o cc nL nm MC MS Q k n (pc + 2) ls' st h) : AW l g d o cc nL nm MC MS Q k n pc ls ((.long x) :: st) h := by
  intro p e R s m args below meth c C Z hz H locs lc hR hS hL
  subst he
  exact lv_lstore C.1 C.2.1 hd hL.has hn rfl (fun lc' hl' => kk p e R s m args below meth c C Z hz H locs lc' hR hS (aLoc.st2 (v := .long x) hl' (fun q hq => hq)))
theorem a_lstore_n {i : Fin 4} {x : Int64} {ls' : List (Option Value)} (hd : decode cc pc = .ok (.lstore_n i, 1)) (hn : (i : Nat) + 1 < nL) (he : aSet2 ls (i : Nat) (.long x) = ls') (kk : AW l g d o cc nL nm MC MS Q k n (pc + 1) ls' st h) : AW l g d o cc nL nm MC MS Q k n pc ls ((.long x) :: st) h := by
  intro p e R s m args below meth c C Z hz H locs lc hR hS hL
  subst he
  exact lv_lstore_n C.1 C.2.1 hd rfl hL.has hn rfl (fun lc' hl' => kk p e R s m args below meth c C Z hz H locs lc' hR hS (aLoc.st2 (v := .long x) hl' (fun q hq => hq)))
theorem a_astore {i : Nat} {v : Value} {ls' : List (Option Value)} (hd : decode cc pc = .ok (.astore i, 2)) (hn : i < nL) (hv : isRv v) (he : aSet ls i v = ls') (kk : AW l g d o cc nL nm MC MS Q k n (pc + 2) ls' st h) : AW l g d o cc nL nm MC MS Q k n pc ls (v :: st) h := by
  intro p e R s m args below meth c C Z hz H locs lc hR hS hL
  subst he
  rw [List.map_cons]
  rcases cv_isRv (g := g) hv with e1 | ⟨a, e1⟩
  · rw [e1]
    exact lv_astoreN C.1 C.2.1 hd hL.has hn rfl (fun lc' hl' => kk p e R s m args below meth c C Z hz H locs lc' hR hS (aLoc.st1 (v := v) hl' (fun q hq => by rw [e1] at hq; exact hq)))
  · rw [e1]
    exact lv_astore C.1 C.2.1 hd hL.has hn rfl (fun lc' hl' => kk p e R s m args below meth c C Z hz H locs lc' hR hS (aLoc.st1 (v := v) hl' (fun q hq => by rw [e1] at hq; exact hq)))
theorem a_astore_n {i : Fin 4} {v : Value} {ls' : List (Option Value)} (hd : decode cc pc = .ok (.astore_n i, 1)) (hn : (i : Nat) < nL) (hv : isRv v) (he : aSet ls (i : Nat) v = ls') (kk : AW l g d o cc nL nm MC MS Q k n (pc + 1) ls' st h) : AW l g d o cc nL nm MC MS Q k n pc ls (v :: st) h := by
  intro p e R s m args below meth c C Z hz H locs lc hR hS hL
  subst he
  rw [List.map_cons]
  rcases cv_isRv (g := g) hv with e1 | ⟨a, e1⟩
  · rw [e1]
    exact lv_astore_nN C.1 C.2.1 hd rfl hL.has hn rfl (fun lc' hl' => kk p e R s m args below meth c C Z hz H locs lc' hR hS (aLoc.st1 (v := v) hl' (fun q hq => by rw [e1] at hq; exact hq)))
  · rw [e1]
    exact lv_astore_n C.1 C.2.1 hd rfl hL.has hn rfl (fun lc' hl' => kk p e R s m args below meth c C Z hz H locs lc' hR hS (aLoc.st1 (v := v) hl' (fun q hq => by rw [e1] at hq; exact hq)))
theorem a_iinc {i : Nat} {z : Int} {x : Int32} (v : Int32) {ls' : List (Option Value)} (hd : decode cc pc = .ok (.iinc i z, 3)) (hl : ls[i]? = some (some (.int x))) (hv : x + Int32.ofInt z = v) (hn : i < nL) (he : aSet ls i (.int v) = ls') (kk : AW l g d o cc nL nm MC MS Q k n (pc + 3) ls' st h) : AW l g d o cc nL nm MC MS Q k n pc ls st h := by
  intro p e R s m args below meth c C Z hz H locs lc hR hS hL
  subst he
  have h2 : lv_has lc nL ((i, .int x) :: lvL g ls) := ⟨hL.1, hL.2.1, fun q hq => by
    rcases List.mem_cons.mp hq with rfl | hq
    · exact hL.2.2 _ _ hl
    · exact hL.has.2.2 q hq⟩
  refine lv_iinc C.1 C.2.1 hd h2 (k := 0) rfl hv hn rfl (fun lc' hl' => kk p e R s m args below meth c C Z hz H locs lc' hR hS (aLoc.st1 (v := .int v) hl' (fun q hq => ?_)))
  rcases List.mem_cons.mp hq with rfl | hq
  · exact List.mem_cons_self
  · refine List.mem_cons_of_mem _ (List.mem_filter.mpr ?_)
    obtain ⟨q1, q2⟩ := List.mem_filter.mp hq
    exact ⟨List.mem_cons_of_mem _ q1, q2⟩
theorem a_if_eq {x : Int32} {off : Int} (tgt : Nat) (hd : decode cc pc = .ok (.ifCond .eq off, 3)) (ht : (pc : Int) + off = (tgt : Int)) (kt : x = 0 → AW l g d o cc nL nm MC MS Q k n tgt ls st h) (kf : ¬ (x = 0) → AW l g d o cc nL nm MC MS Q k n (pc + 3) ls st h) : AW l g d o cc nL nm MC MS Q k n pc ls (.int x :: st) h :=
  fun p e R s m args below meth c C Z hz H locs lc hR hS hL => lv_if_eq C.1 C.2.1 hd ht (fun q => kt q p e R s m args below meth c C Z hz H locs lc hR hS hL) (fun q => kf q p e R s m args below meth c C Z hz H locs lc hR hS hL)
theorem a_icmp_eq {x y : Int32} {off : Int} (tgt : Nat) (hd : decode cc pc = .ok (.if_icmp .eq off, 3)) (ht : (pc : Int) + off = (tgt : Int)) (kt : x = y → AW l g d o cc nL nm MC MS Q k n tgt ls st h) (kf : ¬ (x = y) → AW l g d o cc nL nm MC MS Q k n (pc + 3) ls st h) : AW l g d o cc nL nm MC MS Q k n pc ls (.int y :: .int x :: st) h :=
  fun p e R s m args below meth c C Z hz H locs lc hR hS hL => lv_icmp_eq C.1 C.2.1 hd ht (fun q => kt q p e R s m args below meth c C Z hz H locs lc hR hS hL) (fun q => kf q p e R s m args below meth c C Z hz H locs lc hR hS hL)
theorem a_if_ne {x : Int32} {off : Int} (tgt : Nat) (hd : decode cc pc = .ok (.ifCond .ne off, 3)) (ht : (pc : Int) + off = (tgt : Int)) (kt : ¬ x = 0 → AW l g d o cc nL nm MC MS Q k n tgt ls st h) (kf : x = 0 → AW l g d o cc nL nm MC MS Q k n (pc + 3) ls st h) : AW l g d o cc nL nm MC MS Q k n pc ls (.int x :: st) h :=
  fun p e R s m args below meth c C Z hz H locs lc hR hS hL => lv_if_ne C.1 C.2.1 hd ht (fun q => kt q p e R s m args below meth c C Z hz H locs lc hR hS hL) (fun q => kf q p e R s m args below meth c C Z hz H locs lc hR hS hL)
theorem a_icmp_ne {x y : Int32} {off : Int} (tgt : Nat) (hd : decode cc pc = .ok (.if_icmp .ne off, 3)) (ht : (pc : Int) + off = (tgt : Int)) (kt : ¬ x = y → AW l g d o cc nL nm MC MS Q k n tgt ls st h) (kf : x = y → AW l g d o cc nL nm MC MS Q k n (pc + 3) ls st h) : AW l g d o cc nL nm MC MS Q k n pc ls (.int y :: .int x :: st) h :=
  fun p e R s m args below meth c C Z hz H locs lc hR hS hL => lv_icmp_ne C.1 C.2.1 hd ht (fun q => kt q p e R s m args below meth c C Z hz H locs lc hR hS hL) (fun q => kf q p e R s m args below meth c C Z hz H locs lc hR hS hL)
theorem a_if_lt {x : Int32} {off : Int} (tgt : Nat) (hd : decode cc pc = .ok (.ifCond .lt off, 3)) (ht : (pc : Int) + off = (tgt : Int)) (kt : x < 0 → AW l g d o cc nL nm MC MS Q k n tgt ls st h) (kf : ¬ (x < 0) → AW l g d o cc nL nm MC MS Q k n (pc + 3) ls st h) : AW l g d o cc nL nm MC MS Q k n pc ls (.int x :: st) h :=
  fun p e R s m args below meth c C Z hz H locs lc hR hS hL => lv_if_lt C.1 C.2.1 hd ht (fun q => kt q p e R s m args below meth c C Z hz H locs lc hR hS hL) (fun q => kf q p e R s m args below meth c C Z hz H locs lc hR hS hL)
theorem a_icmp_lt {x y : Int32} {off : Int} (tgt : Nat) (hd : decode cc pc = .ok (.if_icmp .lt off, 3)) (ht : (pc : Int) + off = (tgt : Int)) (kt : x < y → AW l g d o cc nL nm MC MS Q k n tgt ls st h) (kf : ¬ (x < y) → AW l g d o cc nL nm MC MS Q k n (pc + 3) ls st h) : AW l g d o cc nL nm MC MS Q k n pc ls (.int y :: .int x :: st) h :=
  fun p e R s m args below meth c C Z hz H locs lc hR hS hL => lv_icmp_lt C.1 C.2.1 hd ht (fun q => kt q p e R s m args below meth c C Z hz H locs lc hR hS hL) (fun q => kf q p e R s m args below meth c C Z hz H locs lc hR hS hL)
theorem a_if_ge {x : Int32} {off : Int} (tgt : Nat) (hd : decode cc pc = .ok (.ifCond .ge off, 3)) (ht : (pc : Int) + off = (tgt : Int)) (kt : 0 ≤ x → AW l g d o cc nL nm MC MS Q k n tgt ls st h) (kf : ¬ (0 ≤ x) → AW l g d o cc nL nm MC MS Q k n (pc + 3) ls st h) : AW l g d o cc nL nm MC MS Q k n pc ls (.int x :: st) h :=
  fun p e R s m args below meth c C Z hz H locs lc hR hS hL => lv_if_ge C.1 C.2.1 hd ht (fun q => kt q p e R s m args below meth c C Z hz H locs lc hR hS hL) (fun q => kf q p e R s m args below meth c C Z hz H locs lc hR hS hL)
theorem a_icmp_ge {x y : Int32} {off : Int} (tgt : Nat) (hd : decode cc pc = .ok (.if_icmp .ge off, 3)) (ht : (pc : Int) + off = (tgt : Int)) (kt : y ≤ x → AW l g d o cc nL nm MC MS Q k n tgt ls st h) (kf : ¬ (y ≤ x) → AW l g d o cc nL nm MC MS Q k n (pc + 3) ls st h) : AW l g d o cc nL nm MC MS Q k n pc ls (.int y :: .int x :: st) h :=
  fun p e R s m args below meth c C Z hz H locs lc hR hS hL => lv_icmp_ge C.1 C.2.1 hd ht (fun q => kt q p e R s m args below meth c C Z hz H locs lc hR hS hL) (fun q => kf q p e R s m args below meth c C Z hz H locs lc hR hS hL)
theorem a_if_gt {x : Int32} {off : Int} (tgt : Nat) (hd : decode cc pc = .ok (.ifCond .gt off, 3)) (ht : (pc : Int) + off = (tgt : Int)) (kt : 0 < x → AW l g d o cc nL nm MC MS Q k n tgt ls st h) (kf : ¬ (0 < x) → AW l g d o cc nL nm MC MS Q k n (pc + 3) ls st h) : AW l g d o cc nL nm MC MS Q k n pc ls (.int x :: st) h :=
  fun p e R s m args below meth c C Z hz H locs lc hR hS hL => lv_if_gt C.1 C.2.1 hd ht (fun q => kt q p e R s m args below meth c C Z hz H locs lc hR hS hL) (fun q => kf q p e R s m args below meth c C Z hz H locs lc hR hS hL)
theorem a_icmp_gt {x y : Int32} {off : Int} (tgt : Nat) (hd : decode cc pc = .ok (.if_icmp .gt off, 3)) (ht : (pc : Int) + off = (tgt : Int)) (kt : y < x → AW l g d o cc nL nm MC MS Q k n tgt ls st h) (kf : ¬ (y < x) → AW l g d o cc nL nm MC MS Q k n (pc + 3) ls st h) : AW l g d o cc nL nm MC MS Q k n pc ls (.int y :: .int x :: st) h :=
  fun p e R s m args below meth c C Z hz H locs lc hR hS hL => lv_icmp_gt C.1 C.2.1 hd ht (fun q => kt q p e R s m args below meth c C Z hz H locs lc hR hS hL) (fun q => kf q p e R s m args below meth c C Z hz H locs lc hR hS hL)
theorem a_if_le {x : Int32} {off : Int} (tgt : Nat) (hd : decode cc pc = .ok (.ifCond .le off, 3)) (ht : (pc : Int) + off = (tgt : Int)) (kt : x ≤ 0 → AW l g d o cc nL nm MC MS Q k n tgt ls st h) (kf : ¬ (x ≤ 0) → AW l g d o cc nL nm MC MS Q k n (pc + 3) ls st h) : AW l g d o cc nL nm MC MS Q k n pc ls (.int x :: st) h :=
  fun p e R s m args below meth c C Z hz H locs lc hR hS hL => lv_if_le C.1 C.2.1 hd ht (fun q => kt q p e R s m args below meth c C Z hz H locs lc hR hS hL) (fun q => kf q p e R s m args below meth c C Z hz H locs lc hR hS hL)
theorem a_icmp_le {x y : Int32} {off : Int} (tgt : Nat) (hd : decode cc pc = .ok (.if_icmp .le off, 3)) (ht : (pc : Int) + off = (tgt : Int)) (kt : x ≤ y → AW l g d o cc nL nm MC MS Q k n tgt ls st h) (kf : ¬ (x ≤ y) → AW l g d o cc nL nm MC MS Q k n (pc + 3) ls st h) : AW l g d o cc nL nm MC MS Q k n pc ls (.int y :: .int x :: st) h :=
  fun p e R s m args below meth c C Z hz H locs lc hR hS hL => lv_icmp_le C.1 C.2.1 hd ht (fun q => kt q p e R s m args below meth c C Z hz H locs lc hR hS hL) (fun q => kf q p e R s m args below meth c C Z hz H locs lc hR hS hL)
theorem a_goto {off : Int} (tgt : Nat) (hd : decode cc pc = .ok (.goto off, 3)) (ht : (pc : Int) + off = (tgt : Int)) (kk : AW l g d o cc nL nm MC MS Q k n tgt ls st h) : AW l g d o cc nL nm MC MS Q k n pc ls st h :=
  fun p e R s m args below meth c C Z hz H locs lc hR hS hL => lv_goto C.1 C.2.1 hd ht (kk p e R s m args below meth c C Z hz H locs lc hR hS hL)
theorem a_ifnull {a : Nat} {off : Int} (hd : decode cc pc = .ok (.ifnull off, 3)) (kk : AW l g d o cc nL nm MC MS Q k n (pc + 3) ls st h) : AW l g d o cc nL nm MC MS Q k n pc ls (.ref a :: st) h :=
  fun p e R s m args below meth c C Z hz H locs lc hR hS hL => lv_ifnull C.1 C.2.1 hd (kk p e R s m args below meth c C Z hz H locs lc hR hS hL)
theorem a_ifnullN {off : Int} (tgt : Nat) (hd : decode cc pc = .ok (.ifnull off, 3)) (ht : (pc : Int) + off = (tgt : Int)) (kk : AW l g d o cc nL nm MC MS Q k n tgt ls st h) : AW l g d o cc nL nm MC MS Q k n pc ls (.null :: st) h :=
  fun p e R s m args below meth c C Z hz H locs lc hR hS hL => lv_ifnullN C.1 C.2.1 hd ht (kk p e R s m args below meth c C Z hz H locs lc hR hS hL)
theorem a_ifnonnull {a : Nat} {off : Int} (tgt : Nat) (hd : decode cc pc = .ok (.ifnonnull off, 3)) (ht : (pc : Int) + off = (tgt : Int)) (kk : AW l g d o cc nL nm MC MS Q k n tgt ls st h) : AW l g d o cc nL nm MC MS Q k n pc ls (.ref a :: st) h :=
  fun p e R s m args below meth c C Z hz H locs lc hR hS hL => lv_ifnonnull C.1 C.2.1 hd ht (kk p e R s m args below meth c C Z hz H locs lc hR hS hL)
theorem a_ifnonnullN {off : Int} (hd : decode cc pc = .ok (.ifnonnull off, 3)) (kk : AW l g d o cc nL nm MC MS Q k n (pc + 3) ls st h) : AW l g d o cc nL nm MC MS Q k n pc ls (.null :: st) h :=
  fun p e R s m args below meth c C Z hz H locs lc hR hS hL => lv_ifnonnullN C.1 C.2.1 hd (kk p e R s m args below meth c C Z hz H locs lc hR hS hL)
theorem a_lookup {dflt : Int} {ps : Array (Int × Int)} {len : Nat} {x : Int32} (tgt : Nat) (hd : decode cc pc = .ok (.lookupswitch dflt ps, len)) (hp : (ps.toList.zip (ps.toList.drop 1)).all (fun (a, next) => a.1 < next.1) = true) (ht : (pc : Int) + Op.lookupswitch.offset ps.toList dflt x.toInt = (tgt : Int)) (kk : AW l g d o cc nL nm MC MS Q k n tgt ls st h) : AW l g d o cc nL nm MC MS Q k n pc ls (.int x :: st) h :=
  fun p e R s m args below meth c C Z hz H locs lc hR hS hL => lv_lookup C.1 C.2.1 hd hp rfl ht (kk p e R s m args below meth c C Z hz H locs lc hR hS hL)
theorem a_tableIn {dflt lo hi : Int} {offs : Array Int} {len : Nat} {x : Int32} {off : Int} (tgt : Nat) (hd : decode cc pc = .ok (.tableswitch dflt lo hi offs, len)) (h1 : ¬ x.toInt < lo) (h2 : ¬ hi < x.toInt) (ho : offs[(x.toInt - lo).toNat]? = some off) (ht : (pc : Int) + off = (tgt : Int)) (kk : AW l g d o cc nL nm MC MS Q k n tgt ls st h) : AW l g d o cc nL nm MC MS Q k n pc ls (.int x :: st) h :=
  fun p e R s m args below meth c C Z hz H locs lc hR hS hL => lv_tableIn C.1 C.2.1 hd h1 h2 ho ht (kk p e R s m args below meth c C Z hz H locs lc hR hS hL)
theorem a_tableOut {dflt lo hi : Int} {offs : Array Int} {len : Nat} {x : Int32} (tgt : Nat) (hd : decode cc pc = .ok (.tableswitch dflt lo hi offs, len)) (h1 : x.toInt < lo ∨ hi < x.toInt) (ht : (pc : Int) + dflt = (tgt : Int)) (kk : AW l g d o cc nL nm MC MS Q k n tgt ls st h) : AW l g d o cc nL nm MC MS Q k n pc ls (.int x :: st) h :=
  fun p e R s m args below meth c C Z hz H locs lc hR hS hL => lv_tableOut C.1 C.2.1 hd h1 ht (kk p e R s m args below meth c C Z hz H locs lc hR hS hL)
-- names for computed numbers
theorem a_topi {x : Int32} (kk : ∀ y : Int32, y = x → AW l g d o cc nL nm MC MS Q k n pc ls (.int y :: st) h) : AW l g d o cc nL nm MC MS Q k n pc ls (.int x :: st) h := kk x rfl
theorem a_topl {x : Int64} (kk : ∀ y : Int64, y = x → AW l g d o cc nL nm MC MS Q k n pc ls (.long y :: st) h) : AW l g d o cc nL nm MC MS Q k n pc ls (.long x :: st) h := kk x rfl
-- returns
theorem a_ireturn {x : Int32} (hd : decode cc pc = .ok (.ireturn, 1)) (hk : k ≤ MC) (hn : n ≤ MS) (hq : Q (some (.int x)) h) : AW l g d o cc nL nm MC MS Q k n pc ls [.int x] h :=
  fun p e R s m args below meth c C Z hz H locs lc hR hS hL => W.widen hk hn (hz _ _ H locs lc pc hq hd hR hS)
theorem a_lreturn {x : Int64} (hd : decode cc pc = .ok (.lreturn, 1)) (hk : k ≤ MC) (hn : n ≤ MS) (hq : Q (some (.long x)) h) : AW l g d o cc nL nm MC MS Q k n pc ls [.long x] h :=
  fun p e R s m args below meth c C Z hz H locs lc hR hS hL => W.widen hk hn (hz _ _ H locs lc pc hq hd hR hS)
theorem a_return (hd : decode cc pc = .ok (.return_, 1)) (hk : k ≤ MC) (hn : n ≤ MS) (hq : Q none h) : AW l g d o cc nL nm MC MS Q k n pc ls [] h :=
  fun p e R s m args below meth c C Z hz H locs lc hR hS hL => W.widen hk hn (hz _ _ H locs lc pc hq hd hR hS)
theorem a_areturn {a : Nat} (hd : decode cc pc = .ok (.areturn, 1)) (hk : k ≤ MC) (hn : n ≤ MS) (hq : Q (some (.ref a)) h) : AW l g d o cc nL nm MC MS Q k n pc ls [.ref a] h :=
  fun p e R s m args below meth c C Z hz H locs lc hR hS hL => W.widen hk hn (hz _ _ H locs lc pc hq hd hR hS)
theorem a_areturnN (hd : decode cc pc = .ok (.areturn, 1)) (hk : k ≤ MC) (hn : n ≤ MS) (hq : Q (some .null) h) : AW l g d o cc nL nm MC MS Q k n pc ls [.null] h :=
  fun p e R s m args below meth c C Z hz H locs lc hR hS hL => W.widen hk hn (hz _ _ H locs lc pc hq hd hR hS)
theorem a_mono {Q' : Option Value → AH → Prop} (hq : ∀ v h', Q' v h' → Q v h') (kk : AW l g d o cc nL nm MC MS Q' k n pc ls st h) : AW l g d o cc nL nm MC MS Q k n pc ls st h :=
  fun p e R s m args below meth c C Z hz H locs lc hR hS hL => kk p e R s m args below meth c C Z (fun v h' H' locs' ls' pc' q => hz v h' H' locs' ls' pc' (hq v h' q)) H locs lc hR hS hL
theorem a_widen {k' n' : Nat} (h1 : k ≤ k') (h2 : n ≤ n') (kk : AW l g d o cc nL nm MC MS Q k' n' pc ls st h) : AW l g d o cc nL nm MC MS Q k n pc ls st h :=
  fun p e R s m args below meth c C Z hz H locs lc hR hS hL => W.widen h1 h2 (kk p e R s m args below meth c C Z hz H locs lc hR hS hL)
end
