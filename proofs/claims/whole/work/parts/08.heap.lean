/-- the classes of the run's objects: names, fields in the order of the slots, their types -/
def kN (ci : Nat) : String := match ci with
  | 0 => RX0
  | 1 => RX1
  | 2 => RX2
  | 3 => RX3
  | 4 => RX4
  | 5 => RX5
  | 6 => RX6
  | 7 => RX7
  | _ => RX8
def kT (ci : Nat) : u_T := match ci with
  | 0 => TX0
  | 1 => TX1
  | 2 => TX2
  | 3 => TX3
  | 4 => TX4
  | 5 => TX5
  | 6 => TX6
  | 7 => TX7
  | _ => TX8
def kC (ci : Nat) : Nat := match ci with
  | 0 => 5
  | 1 => 4
  | 2 => 2
  | 3 => 4
  | 4 => 10
  | 5 => 3
  | 6 => 2
  | 7 => 10
  | _ => 43
def kY (ci : Nat) : Nat → FieldType := match ci with
  | 0 => tyX0
  | 1 => tyX1
  | 2 => tyX2
  | 3 => tyX3
  | 4 => tyX4
  | 5 => tyX5
  | 6 => tyX6
  | 7 => tyX7
  | _ => tyX8
theorem inT0 : ∀ w ∈ u_ws RX0 TX0 5, w ∈ lw_tbl := by decide +kernel
theorem inW0 : ∀ w ∈ u_ws RX0 TX0 5, w ∈ lw_good := fun w h => lw_in (inT0 w h) (List.all_eq_true.mp (by decide +kernel : (u_ws RX0 TX0 5).all goodWord = true) w h)
theorem inT1 : ∀ w ∈ u_ws RX1 TX1 4, w ∈ lw_tbl := by decide +kernel
theorem inW1 : ∀ w ∈ u_ws RX1 TX1 4, w ∈ lw_good := fun w h => lw_in (inT1 w h) (List.all_eq_true.mp (by decide +kernel : (u_ws RX1 TX1 4).all goodWord = true) w h)
theorem inT2 : ∀ w ∈ u_ws RX2 TX2 2, w ∈ lw_tbl := by decide +kernel
theorem inW2 : ∀ w ∈ u_ws RX2 TX2 2, w ∈ lw_good := fun w h => lw_in (inT2 w h) (List.all_eq_true.mp (by decide +kernel : (u_ws RX2 TX2 2).all goodWord = true) w h)
theorem inT3 : ∀ w ∈ u_ws RX3 TX3 4, w ∈ lw_tbl := by decide +kernel
theorem inW3 : ∀ w ∈ u_ws RX3 TX3 4, w ∈ lw_good := fun w h => lw_in (inT3 w h) (List.all_eq_true.mp (by decide +kernel : (u_ws RX3 TX3 4).all goodWord = true) w h)
theorem inT4 : ∀ w ∈ u_ws RX4 TX4 10, w ∈ lw_tbl := by decide +kernel
theorem inW4 : ∀ w ∈ u_ws RX4 TX4 10, w ∈ lw_good := fun w h => lw_in (inT4 w h) (List.all_eq_true.mp (by decide +kernel : (u_ws RX4 TX4 10).all goodWord = true) w h)
theorem inT5 : ∀ w ∈ u_ws RX5 TX5 3, w ∈ lw_tbl := by decide +kernel
theorem inW5 : ∀ w ∈ u_ws RX5 TX5 3, w ∈ lw_good := fun w h => lw_in (inT5 w h) (List.all_eq_true.mp (by decide +kernel : (u_ws RX5 TX5 3).all goodWord = true) w h)
theorem inT6 : ∀ w ∈ u_ws RX6 TX6 2, w ∈ lw_tbl := by decide +kernel
theorem inW6 : ∀ w ∈ u_ws RX6 TX6 2, w ∈ lw_good := fun w h => lw_in (inT6 w h) (List.all_eq_true.mp (by decide +kernel : (u_ws RX6 TX6 2).all goodWord = true) w h)
theorem inT7 : ∀ w ∈ u_ws RX7 TX7 10, w ∈ lw_tbl := by decide +kernel
theorem inW7 : ∀ w ∈ u_ws RX7 TX7 10, w ∈ lw_good := fun w h => lw_in (inT7 w h) (List.all_eq_true.mp (by decide +kernel : (u_ws RX7 TX7 10).all goodWord = true) w h)
theorem inT8 : ∀ w ∈ u_ws RX8 TX8 43, w ∈ lw_tbl := by decide +kernel
theorem inW8 : ∀ w ∈ u_ws RX8 TX8 43, w ∈ lw_good := fun w h => lw_in (inT8 w h) (List.all_eq_true.mp (by decide +kernel : (u_ws RX8 TX8 43).all goodWord = true) w h)
def aKnown (ci : Nat) : Prop := vwCl[ci]? = some (kN ci, kT ci, kC ci) ∧ (∀ w ∈ u_ws (kN ci) (kT ci) (kC ci), w ∈ lw_good) ∧ (∀ k, k < kC ci → parseFieldDescriptor (kT ci k).2.2.1 = some (kY ci k)) ∧ (∀ a, a < kC ci → ∀ b, b < kC ci → a ≠ b → (kT ci a).2.1 ≠ (kT ci b).2.1)
theorem kn_ok : ∀ ci, ci < 9 → aKnown ci := by
  intro ci hci
  match ci, hci with
  | 0, _ => exact ⟨rfl, inW0, tyX0_ok, nmX0⟩
  | 1, _ => exact ⟨rfl, inW1, tyX1_ok, nmX1⟩
  | 2, _ => exact ⟨rfl, inW2, tyX2_ok, nmX2⟩
  | 3, _ => exact ⟨rfl, inW3, tyX3_ok, nmX3⟩
  | 4, _ => exact ⟨rfl, inW4, tyX4_ok, nmX4⟩
  | 5, _ => exact ⟨rfl, inW5, tyX5_ok, nmX5⟩
  | 6, _ => exact ⟨rfl, inW6, tyX6_ok, nmX6⟩
  | 7, _ => exact ⟨rfl, inW7, tyX7_ok, nmX7⟩
  | 8, _ => exact ⟨rfl, inW8, tyX8_ok, nmX8⟩
  | ci + 9, h => exact absurd h (by omega)
/-- field j of class ci, as method code of class o links it by entry i -/
def aFld (o : String) (i ci j : Nat) : Prop := ci < 9 ∧ j < kC ci ∧ Cond.fieldLink o i (kT ci j).1 (kT ci j).2.1 (kT ci j).2.2.1 ∈ lw_good
theorem aRel.set {g : gE} {h : AH} {H H1 : Heap} {a : Nat} {c0 c : va_E} (hR : aRel g h H) (he : h[a]? = some c0) (hc : va_at (gD g) vwCl (gB g + a, ca g c) H1) (z : H1.size = H.size) (oq : ∀ q : Nat, q ≠ gB g + a → H1[q]? = H[q]?) : aRel g (h.set a c) H1 :=
  ⟨by rw [z, hR.1, List.length_set], by rw [← wl_set]; exact hR.2.set (wl_apart g h) (wl_at he) hc oq⟩
theorem aRel.push {g : gE} {h : AH} {H H1 : Heap} {c : va_E} (hR : aRel g h H) (hc : va_at (gD g) vwCl (gB g + h.length, ca g c) H1) (z : H1.size = H.size + 1) (oq : ∀ q : Nat, q < H.size → H1[q]? = H[q]?) : aRel g (h ++ [c]) H1 := by
  refine ⟨by rw [z, hR.1, List.length_append]; rfl, ?_⟩
  rw [wl_push]
  intro k q hk
  rcases Nat.lt_or_ge k (wl g h).length with hl | hl
  · rw [List.getElem?_append_left hl] at hk
    have h1 := hR.2 k q hk
    exact h1.kept (oq _ h1.lt)
  · rw [List.getElem?_append_right hl] at hk
    have hz : k - (wl g h).length < 1 := (List.getElem?_eq_some_iff.mp hk).1
    rw [show k - (wl g h).length = 0 by omega] at hk
    cases hk
    exact hc
theorem va_S.grow {A : Nat → Prop} {H0 H H1 : Heap} {locs : List Loc} (h : va_S A H0 H locs) (z : H.size ≤ H1.size) (oq : ∀ q : Nat, q < H.size → H1[q]? = H[q]?) : va_S A H0 H1 locs :=
  ⟨Nat.le_trans h.1 z, fun q h1 h2 => (oq q (Nat.lt_of_lt_of_le h1 h.1)).trans (h.2.1 q h1 h2), h.2.2⟩
section
variable {l : Launch} {g : gE} {d : Nat} {o : String} {cc : ByteArray} {nL : Nat} {nm : String} {MC MS : Nat} {Q : Option Value → AH → Prop} {k n pc : Nat} {ls : List (Option Value)} {st : List Value} {h : AH}
theorem a_getf {i ci j a : Nat} {fs : List Value} {v : Value} (hd : decode cc pc = .ok (.getfield i, 3)) (hf : aFld o i ci j) (he : h[a]? = some (.inr (ci, fs))) (hv : fs[j]? = some v) (kk : AW l g d o cc nL nm MC MS Q k n (pc + 3) ls (v :: st) h) : AW l g d o cc nL nm MC MS Q k n pc ls (.ref a :: st) h := by
  intro p e R s m args below meth c C Z hz H locs lc hR hS hL
  obtain ⟨h1, h2, h3, h4⟩ := kn_ok ci hf.1
  exact va_get C.1 C.2.1 C.2.2.2.2.1 h2 C.2.2.2.1 C.2.2.2.2.2.2.1 hR.2 a (wl_at he) h1 j hf.2.1 (C.2.2.2.2.1 _ hf.2.2) (fun _ h9 => h9) (v := cv g v) (by rw [List.getElem?_map, hv]; rfl) hd (kk p e R s m args below meth c C Z hz H locs lc hR hS hL)
theorem a_putf {i ci j a : Nat} {fs : List Value} {v : Value} (hd : decode cc pc = .ok (.putfield i, 3)) (hf : aFld o i ci j) (he : h[a]? = some (.inr (ci, fs))) (hl : j < fs.length) (hfin : (kT ci j).2.2.2 = false) (hn : narrow (kY ci j) (cv g v) = cv g v) (hfit : fits (kY ci j) (cv g v) = true) (kk : AW l g d o cc nL nm MC MS Q k n (pc + 3) ls st (h.set a (.inr (ci, fs.set j v)))) : AW l g d o cc nL nm MC MS Q k n pc ls (v :: .ref a :: st) h := by
  intro p e R s m args below meth c C Z hz H locs lc hR hS hL
  obtain ⟨hc, hin, hty, hnm⟩ := kn_ok ci hf.1
  have hts := C.2.2.2.2.1
  have hK := C.2.2.2.2.2.2.1
  have hap := va_apart (own := o) hts hin _ hty hnm hK hc
  obtain ⟨r, h1, cell, q1, q2, q3, q4⟩ := hR.2 a _ (wl_at he)
  have hr : r = (kN ci, kT ci, kC ci) := Option.some.inj (h1.symm.trans hc)
  subst hr
  obtain ⟨hSl, hfc, kC', hkC, hkind⟩ := hK.1 ci _ hc
  obtain ⟨cf, kf, fi, f, hi, hsl⟩ := hSl j hf.2.1
  have hlay := hts _ (hin _ (u_in_lay hf.2.1))
  unfold u_lay at hlay
  rw [if_neg (by rw [hfin]; decide)] at hlay
  have hst := (u_facts hfc hkC (u_lays hts hin hf.2.1) hi).1
  have h6 := u_store hfc hkC hkind hlay hi (hty j hf.2.1) hn hfit
  refine W.putK C.1 C.2.1 (f := f) (v := cv g v) ⟨C.2.2.2.1, hts _ hf.2.2, ⟨_, _, _, hi⟩, hst⟩ (by rw [q2]; exact h6) q1 q3 (by rw [hsl]; exact k2_hasslot (q4 j hf.2.1)) rfl rfl hd fun H' e1 e2 e3 => ?_
  rw [hsl] at e1 ⊢
  refine kk p e R s m args below meth c C Z hz H' _ lc (hR.set he ⟨_, hc, t_OB.to (V := updV (vp_V (fs.map (cv g))) j (cv g v)) ⟨_, e1, q2, q3, t_set q4 hap hf.2.1 (cv g v)⟩ (fun x _ => ?_)⟩ e2 e3) (hS.put e2 e3 (Nat.le_add_right _ _)) hL
  have := vp_updV_set (fs := fs.map (cv g)) (by rw [List.length_map]; exact hl) (cv g v) x
  rw [← List.map_set] at this
  exact this
theorem a_putfF {i ci j a : Nat} {fs : List Value} {v : Value} (hd : decode cc pc = .ok (.putfield i, 3)) (hf : aFld o i ci j) (he : h[a]? = some (.inr (ci, fs))) (hl : j < fs.length) (hfin : (kT ci j).2.2.2 = true) (hnm0 : nm = "<init>") (hdecl : (kT ci j).1 = o) (hn : narrow (kY ci j) (cv g v) = cv g v) (hfit : fits (kY ci j) (cv g v) = true) (kk : AW l g d o cc nL nm MC MS Q k n (pc + 3) ls st (h.set a (.inr (ci, fs.set j v)))) : AW l g d o cc nL nm MC MS Q k n pc ls (v :: .ref a :: st) h := by
  intro p e R s m args below meth c C Z hz H locs lc hR hS hL
  obtain ⟨hc, hin, hty, hnm⟩ := kn_ok ci hf.1
  have hts := C.2.2.2.2.1
  have hK := C.2.2.2.2.2.2.1
  have hap := va_apart (own := o) hts hin _ hty hnm hK hc
  obtain ⟨r, h1, cell, q1, q2, q3, q4⟩ := hR.2 a _ (wl_at he)
  have hr : r = (kN ci, kT ci, kC ci) := Option.some.inj (h1.symm.trans hc)
  subst hr
  obtain ⟨hSl, hfc, kC', hkC, hkind⟩ := hK.1 ci _ hc
  obtain ⟨cf, kf, fi, f, hi, hsl⟩ := hSl j hf.2.1
  have hlay := hts _ (hin _ (u_in_lay hf.2.1))
  unfold u_lay at hlay
  rw [if_pos hfin] at hlay
  have hst := (u_facts hfc hkC (u_lays hts hin hf.2.1) hi).1
  have hcf : m.cls = cf := by
    obtain ⟨_, _, c', _, _, _, -, -, hf', -, -, -, hown2, -⟩ := Cond.laysFinal_spec hlay
    have e1 : c' = cf := by have := hi.symm.trans hf'; simp at this; exact this.1.symm
    rw [hdecl] at hown2
    rw [← e1]; exact Option.some.inj (C.2.2.2.1.symm.trans hown2)
  have h6 := u_fits hfc hkC hkind (Or.inr hlay) hi (hty j hf.2.1) hn hfit
  refine W.putFinK C.1 C.2.1 (v := cv g v) C.2.2.2.1 (hts _ hf.2.2) hi hst hcf (C.2.2.2.2.2.1.trans hnm0) (by rw [q2]; exact h6) q1 q3 (by rw [hsl]; exact k2_hasslot (q4 j hf.2.1)) rfl rfl hd fun H' e1 e2 e3 => ?_
  rw [hsl] at e1 ⊢
  refine kk p e R s m args below meth c C Z hz H' _ lc (hR.set he ⟨_, hc, t_OB.to (V := updV (vp_V (fs.map (cv g))) j (cv g v)) ⟨_, e1, q2, q3, t_set q4 hap hf.2.1 (cv g v)⟩ (fun x _ => ?_)⟩ e2 e3) (hS.put e2 e3 (Nat.le_add_right _ _)) hL
  have := vp_updV_set (fs := fs.map (cv g)) (by rw [List.length_map]; exact hl) (cv g v) x
  rw [← List.map_set] at this
  exact this
theorem a_iald {a N : Nat} {f : Nat → Int32} {i : Int32} (hd : decode cc pc = .ok (.iaload, 1)) (he : h[a]? = some (.inl (0, (N, .inl f)))) (hin : vp_in i N) (kk : AW l g d o cc nL nm MC MS Q k n (pc + 1) ls (.int (f i.toNatClampNeg) :: st) h) : AW l g d o cc nL nm MC MS Q k n pc ls (.int i :: .ref a :: st) h :=
  fun p e R s m args below meth c C Z hz H locs lc hR hS hL => va_iald C.1 C.2.1 C.2.2.2.2.2.2.1 hR.2 a 0 (wl_at he) rfl hin hd (kk p e R s m args below meth c C Z hz H locs lc hR hS hL)
theorem a_lald {a N : Nat} {f : Nat → Int64} {i : Int32} (hd : decode cc pc = .ok (.laload, 1)) (he : h[a]? = some (.inl (1, (N, .inr (.inl f))))) (hin : vp_in i N) (kk : AW l g d o cc nL nm MC MS Q k n (pc + 1) ls (.long (f i.toNatClampNeg) :: st) h) : AW l g d o cc nL nm MC MS Q k n pc ls (.int i :: .ref a :: st) h :=
  fun p e R s m args below meth c C Z hz H locs lc hR hS hL => va_lald C.1 C.2.1 C.2.2.2.2.2.2.1 hR.2 a 1 (wl_at he) rfl hin hd (kk p e R s m args below meth c C Z hz H locs lc hR hS hL)
theorem a_bald {a N : Nat} {f : Nat → Int32} {i : Int32} (hd : decode cc pc = .ok (.baload, 1)) (he : h[a]? = some (.inl (2, (N, .inl f)))) (hin : vp_in i N) (kk : AW l g d o cc nL nm MC MS Q k n (pc + 1) ls (.int (f i.toNatClampNeg) :: st) h) : AW l g d o cc nL nm MC MS Q k n pc ls (.int i :: .ref a :: st) h :=
  fun p e R s m args below meth c C Z hz H locs lc hR hS hL => va_bald C.1 C.2.1 C.2.2.2.2.2.2.1 hR.2 a 2 (wl_at he) rfl hin hd (kk p e R s m args below meth c C Z hz H locs lc hR hS hL)
theorem a_zald {a N : Nat} {f : Nat → Int32} {i : Int32} (hd : decode cc pc = .ok (.baload, 1)) (he : h[a]? = some (.inl (3, (N, .inl f)))) (hin : vp_in i N) (kk : AW l g d o cc nL nm MC MS Q k n (pc + 1) ls (.int (f i.toNatClampNeg) :: st) h) : AW l g d o cc nL nm MC MS Q k n pc ls (.int i :: .ref a :: st) h :=
  fun p e R s m args below meth c C Z hz H locs lc hR hS hL => va_zald C.1 C.2.1 C.2.2.2.2.2.2.1 hR.2 a 3 (wl_at he) rfl hin hd (kk p e R s m args below meth c C Z hz H locs lc hR hS hL)
theorem cv_rf (g : gE) (r : Option Nat) : cv g (va_rf r) = va_rf (r.map (fun a => gB g + a)) := by cases r <;> rfl
theorem a_qald {a N : Nat} {f : Nat → Option Nat} {i : Int32} (t : Nat) (hd : decode cc pc = .ok (.aaload, 1)) (ht : t < 3) (he : h[a]? = some (.inl (4 + t, (N, .inr (.inr (.inr (.inr f))))))) (hin : vp_in i N) (kk : AW l g d o cc nL nm MC MS Q k n (pc + 1) ls (va_rf (f i.toNatClampNeg) :: st) h) : AW l g d o cc nL nm MC MS Q k n pc ls (.int i :: .ref a :: st) h := by
  intro p e R s m args below meth c C Z hz H locs lc hR hS hL
  have h2 := kk p e R s m args below meth c C Z hz H locs lc hR hS hL
  rw [List.map_cons, cv_rf] at h2
  have h3 := wl_at (g := g) he
  rw [ca_q] at h3
  match t, ht with
  | 0, _ => exact va_aldq C.1 C.2.1 C.2.2.2.2.2.2.1 hR.2 a 4 h3 rfl hin hd h2
  | 1, _ => exact va_aldq C.1 C.2.1 C.2.2.2.2.2.2.1 hR.2 a 5 h3 rfl hin hd h2
  | 2, _ => exact va_aldq C.1 C.2.1 C.2.2.2.2.2.2.1 hR.2 a 6 h3 rfl hin hd h2
  | t + 3, ht => exact absurd ht (by omega)
theorem a_alen {a t N : Nat} {x} (v : Int32) (hd : decode cc pc = .ok (.arraylength, 1)) (ht : t < 7) (he : h[a]? = some (.inl (t, (N, x)))) (hv : Int32.ofNat N = v) (kk : AW l g d o cc nL nm MC MS Q k n (pc + 1) ls (.int v :: st) h) : AW l g d o cc nL nm MC MS Q k n pc ls (.ref a :: st) h := by
  intro p e R s m args below meth c C Z hz H locs lc hR hS hL
  have h3 := wl_at (g := g) he
  obtain ⟨x', hx⟩ : ∃ x', ca g (.inl (t, (N, x))) = .inl (gA g t, (N, x')) := by
    rcases x with f | f | f | f | f
    · exact ⟨_, rfl⟩
    · exact ⟨_, rfl⟩
    · exact ⟨_, rfl⟩
    · exact ⟨_, rfl⟩
    · exact ⟨_, rfl⟩
  rw [hx] at h3
  match t, ht with
  | 0, _ => exact va_alen C.1 C.2.1 C.2.2.2.2.2.2.1 hR.2 a 0 h3 rfl hv hd (kk p e R s m args below meth c C Z hz H locs lc hR hS hL)
  | 1, _ => exact va_alen C.1 C.2.1 C.2.2.2.2.2.2.1 hR.2 a 1 h3 rfl hv hd (kk p e R s m args below meth c C Z hz H locs lc hR hS hL)
  | 2, _ => exact va_alen C.1 C.2.1 C.2.2.2.2.2.2.1 hR.2 a 2 h3 rfl hv hd (kk p e R s m args below meth c C Z hz H locs lc hR hS hL)
  | 3, _ => exact va_alen C.1 C.2.1 C.2.2.2.2.2.2.1 hR.2 a 3 h3 rfl hv hd (kk p e R s m args below meth c C Z hz H locs lc hR hS hL)
  | 4, _ => exact va_alen C.1 C.2.1 C.2.2.2.2.2.2.1 hR.2 a 4 h3 rfl hv hd (kk p e R s m args below meth c C Z hz H locs lc hR hS hL)
  | 5, _ => exact va_alen C.1 C.2.1 C.2.2.2.2.2.2.1 hR.2 a 5 h3 rfl hv hd (kk p e R s m args below meth c C Z hz H locs lc hR hS hL)
  | 6, _ => exact va_alen C.1 C.2.1 C.2.2.2.2.2.2.1 hR.2 a 6 h3 rfl hv hd (kk p e R s m args below meth c C Z hz H locs lc hR hS hL)
  | t + 7, ht => exact absurd ht (by omega)
theorem a_iast {a N : Nat} {f : Nat → Int32} {i : Int32} {x : Int32} (hd : decode cc pc = .ok (.iastore, 1)) (he : h[a]? = some (.inl (0, (N, .inl f)))) (hin : vp_in i N) (kk : AW l g d o cc nL nm MC MS Q k n (pc + 1) ls st (h.set a (.inl (0, (N, .inl (upd f i.toNatClampNeg x)))))) : AW l g d o cc nL nm MC MS Q k n pc ls (.int x :: .int i :: .ref a :: st) h := by
  intro p e R s m args below meth c C Z hz H locs lc hR hS hL
  have ha := wl_at (g := g) he
  refine W.iast C.1 C.2.1 (hR.2 a _ ha) ((C.2.2.2.2.2.2.1.2 0 _ rfl).1 N (fun j => .int (f j))) (fun q => by cases q) (by show ¬ (i < 0 ∨ (arrV _ _ _).slots.size ≤ _); rw [arrV_size]; exact hin) rfl rfl hd fun H1 e9 z oq => ?_
  refine kk p e R s m args below meth c C Z hz H1 _ lc (hR.set he ?_ z oq) (hS.put z oq (Nat.le_add_right _ _)) hL
  show H1[gB g + a]? = some (vp_cell _ _)
  rw [e9]
  show some ((vp_cell _ (N, .inl f)).setSlot _ _) = some (vp_cell _ (N, .inl (upd f i.toNatClampNeg x)))
  rw [vp_cell_i, vp_cell_i, arrV_store]
  congr 2
  funext q
  by_cases hq : q = i.toNatClampNeg
  · subst hq
    simp [updV, upd]
    try rfl
  · simp [updV, upd, hq]
theorem a_bast {a N : Nat} {f : Nat → Int32} {i : Int32} {x : Int32} (hd : decode cc pc = .ok (.bastore, 1)) (he : h[a]? = some (.inl (2, (N, .inl f)))) (hin : vp_in i N) (kk : AW l g d o cc nL nm MC MS Q k n (pc + 1) ls st (h.set a (.inl (2, (N, .inl (upd f i.toNatClampNeg (vp_nar .byte x))))))) : AW l g d o cc nL nm MC MS Q k n pc ls (.int x :: .int i :: .ref a :: st) h := by
  intro p e R s m args below meth c C Z hz H locs lc hR hS hL
  have ha := wl_at (g := g) he
  refine W.bast C.1 C.2.1 (hR.2 a _ ha) ((C.2.2.2.2.2.2.1.2 2 _ rfl).1 N (fun j => .int (f j))) (fun q => by cases q) (by show ¬ (i < 0 ∨ (arrV _ _ _).slots.size ≤ _); rw [arrV_size]; exact hin) rfl rfl hd fun H1 e9 z oq => ?_
  refine kk p e R s m args below meth c C Z hz H1 _ lc (hR.set he ?_ z oq) (hS.put z oq (Nat.le_add_right _ _)) hL
  show H1[gB g + a]? = some (vp_cell _ _)
  rw [e9]
  show some ((vp_cell _ (N, .inl f)).setSlot _ _) = some (vp_cell _ (N, .inl (upd f i.toNatClampNeg (vp_nar .byte x))))
  rw [vp_cell_i, vp_cell_i, arrV_store]
  congr 2
  funext q
  by_cases hq : q = i.toNatClampNeg
  · subst hq
    simp [updV, upd, vp_nar]
    try rfl
  · simp [updV, upd, vp_nar, hq]
theorem a_zast {a N : Nat} {f : Nat → Int32} {i : Int32} {x : Int32} (hd : decode cc pc = .ok (.bastore, 1)) (he : h[a]? = some (.inl (3, (N, .inl f)))) (hin : vp_in i N) (kk : AW l g d o cc nL nm MC MS Q k n (pc + 1) ls st (h.set a (.inl (3, (N, .inl (upd f i.toNatClampNeg (vp_nar .boolean x))))))) : AW l g d o cc nL nm MC MS Q k n pc ls (.int x :: .int i :: .ref a :: st) h := by
  intro p e R s m args below meth c C Z hz H locs lc hR hS hL
  have ha := wl_at (g := g) he
  refine W.zast C.1 C.2.1 (hR.2 a _ ha) ((C.2.2.2.2.2.2.1.2 3 _ rfl).1 N (fun j => .int (f j))) (fun q => by cases q) (by show ¬ (i < 0 ∨ (arrV _ _ _).slots.size ≤ _); rw [arrV_size]; exact hin) rfl rfl hd fun H1 e9 z oq => ?_
  refine kk p e R s m args below meth c C Z hz H1 _ lc (hR.set he ?_ z oq) (hS.put z oq (Nat.le_add_right _ _)) hL
  show H1[gB g + a]? = some (vp_cell _ _)
  rw [e9]
  show some ((vp_cell _ (N, .inl f)).setSlot _ _) = some (vp_cell _ (N, .inl (upd f i.toNatClampNeg (vp_nar .boolean x))))
  rw [vp_cell_i, vp_cell_i, arrV_store]
  congr 2
  funext q
  by_cases hq : q = i.toNatClampNeg
  · subst hq
    simp [updV, upd, vp_nar]
    try rfl
  · simp [updV, upd, vp_nar, hq]
theorem a_last {a N : Nat} {f : Nat → Int64} {i : Int32} {x : Int64} (hd : decode cc pc = .ok (.lastore, 1)) (he : h[a]? = some (.inl (1, (N, .inr (.inl f))))) (hin : vp_in i N) (kk : AW l g d o cc nL nm MC MS Q k n (pc + 1) ls st (h.set a (.inl (1, (N, .inr (.inl (vp_updL f i.toNatClampNeg x))))))) : AW l g d o cc nL nm MC MS Q k n pc ls (.long x :: .int i :: .ref a :: st) h := by
  intro p e R s m args below meth c C Z hz H locs lc hR hS hL
  have ha := wl_at (g := g) he
  refine W.last C.1 C.2.1 (hR.2 a _ ha) ((C.2.2.2.2.2.2.1.2 1 _ rfl).1 N (fun j => .long (f j))) (fun q => by cases q) (by show ¬ (i < 0 ∨ (arrV _ _ _).slots.size ≤ _); rw [arrV_size]; exact hin) rfl rfl hd fun H1 e9 z oq => ?_
  refine kk p e R s m args below meth c C Z hz H1 _ lc (hR.set he ?_ z oq) (hS.put z oq (Nat.le_add_right _ _)) hL
  show H1[gB g + a]? = some (vp_cell _ _)
  rw [e9]
  show some ((vp_cell _ (N, .inr (.inl f))).setSlot _ _) = some (vp_cell _ (N, .inr (.inl (vp_updL f i.toNatClampNeg x))))
  rw [vp_cell_l, vp_cell_l, arrV_store]
  congr 2
  funext q
  by_cases hq : q = i.toNatClampNeg
  · subst hq
    simp [updV, vp_updL]
    try rfl
  · simp [updV, vp_updL, hq]
theorem a_qast {a b N ci : Nat} {f : Nat → Option Nat} {fs : List Value} {i : Int32} (t : Nat) (hd : decode cc pc = .ok (.aastore, 1)) (ht : t < 7) (he : h[a]? = some (.inl (t, (N, .inr (.inr (.inr (.inr f))))))) (hb : h[b]? = some (.inr (ci, fs))) (hci : ci < 9) (hty : tyT t = .object (kN ci)) (hin : vp_in i N) (kk : AW l g d o cc nL nm MC MS Q k n (pc + 1) ls st (h.set a (.inl (t, (N, .inr (.inr (.inr (.inr (va_up f i.toNatClampNeg (some b)))))))))) : AW l g d o cc nL nm MC MS Q k n pc ls (.ref b :: .int i :: .ref a :: st) h := by
  intro p e R s m args below meth c C Z hz H locs lc hR hS hL
  obtain ⟨hc, hin9, -, -⟩ := kn_ok ci hci
  have hK := C.2.2.2.2.2.2.1
  have ha := wl_at (g := g) he
  have hv := wl_at (g := g) hb
  have hlt : i.toNatClampNeg < N := Nat.not_le.mp fun q => hin (Or.inr q)
  have h0 : ¬ i < 0 := fun q => hin (Or.inl q)
  obtain ⟨r', hr', cellV, g1, g2, g3, -⟩ := hR.2 b _ hv
  have hr : r' = (kN ci, kT ci, kC ci) := Option.some.inj (hr'.symm.trans hc)
  subst hr
  have hcls := (hK.1 ci _ hc).2
  have hT : (tysL g)[t]? = some (gA g t, tyT t) := by
    match t, ht with
    | 0, _ => rfl
    | 1, _ => rfl
    | 2, _ => rfl
    | 3, _ => rfl
    | 4, _ => rfl
    | 5, _ => rfl
    | 6, _ => rfl
    | t + 7, ht => exact absurd ht (by omega)
  have hRA := (hK.2 t _ hT).2
  have hRA : va_RA s (gA g t) (.object (kN ci)) := by rw [← hty]; exact hRA
  obtain ⟨kA, comp, k1, k2, k3, -⟩ := hRA
  have hcomp : comp = (gD g).1 ci := Option.some.inj (k3.symm.trans hcls.1)
  subst hcomp
  obtain ⟨kC', hkC, -⟩ := hcls.2
  have hcell : H[gB g + a]? = some (vp_cell (gA g t) (N, .inr (.inr (.inr (.inr (fun j => (f j).map (fun a => gB g + a))))))) := hR.2 a _ ha
  refine W.aast C.1 C.2.1 hcell (fun q h => by cases h) (fun h => by cases h) k1 k2 rfl hkC ⟨h0, by show _ < (arrV _ _ _).slots.size; rw [arrV_size]; exact hlt⟩ g1 (fun q h => by rw [g3] at h; cases h) (by rw [g2]; exact hkC) (by rw [g2]; exact va_assign hcls) rfl rfl hd fun H1 e9 z oq => ?_
  refine kk p e R s m args below meth c C Z hz H1 _ lc (hR.set he ?_ z oq) (hS.put z oq (Nat.le_add_right _ _)) hL
  show H1[gB g + a]? = some (vp_cell _ _)
  rw [e9]
  show some ((vp_cell (gA g t) (N, .inr (.inr (.inr (.inr (fun j => (f j).map (fun a => gB g + a))))))).setSlot i.toNatClampNeg (.ref (gB g + b))) = some (vp_cell (gA g t) (N, .inr (.inr (.inr (.inr (fun j => (va_up f i.toNatClampNeg (some b) j).map (fun a => gB g + a)))))))
  rw [vp_cell_q, vp_cell_q, arrV_store]
  congr 2
  funext q
  by_cases hq : q = i.toNatClampNeg
  · subst hq
    simp [updV, va_up, va_rf]
  · simp [updV, va_up, hq]
/-- a class that is made: its link, and what the tables say of it -/
def aNew (o : String) (i ci : Nat) : Prop := ci < 9 ∧ Cond.classLink o i (kN ci) ∈ lw_good ∧ Cond.instantiable (kN ci) (kC ci) ∈ lw_good ∧ Cond.initialized (kN ci) ∈ lw_good
theorem a_new {i : Nat} (ci : Nat) (fs : List Value) (hd : decode cc pc = .ok (.new i, 3)) (hc : aNew o i ci) (hfs : ∀ j, j < kC ci → defaultValue (kY ci j) = vp_V (fs.map (cv g)) j) (hk : k + 1 ≤ MC) (hn : n + kC ci ≤ MS) (kk : AW l g d o cc nL nm MC MS Q (k + 1) (n + kC ci) (pc + 3) ls (.ref h.length :: st) (h ++ [.inr (ci, fs)])) : AW l g d o cc nL nm MC MS Q k n pc ls st h := by
  intro p e R s m args below meth c C Z hz H locs lc hR hS hL
  obtain ⟨h1, hin, hty, hnm⟩ := kn_ok ci hc.1
  have hts := C.2.2.2.2.1
  have hK := C.2.2.2.2.2.2.1
  obtain ⟨hMC, hMS⟩ := C.2.2.2.2.2.2.2.2.2.2.2
  have hfc := (hK.1 ci _ h1).2.1
  refine W.newcK C.1 C.2.1 C.2.2.2.1 (hts _ hc.2.1) (hts _ hc.2.2.1) (hts _ hc.2.2.2) rfl hd (by omega) (by omega) hfc hR.1 fun H' kC' hkC e1 z oq => ?_
  have h8 : t_OB (gB g + h.length) ((gD g).1 ci) (kC ci) ((gD g).2 ci) H' (vp_V (fs.map (cv g))) := by
    have := u_born (o := gB g + h.length) (kY ci) hts hin (hK.1 ci _ h1) hkC e1 hty
    exact t_OB.to this (fun j hj => hfs j hj)
  rw [← hR.1] at oq z
  exact kk p e R s m args below meth c C Z hz H' locs lc (hR.push ⟨_, h1, h8⟩ z oq) (hS.grow (by omega) oq) hL
theorem a_newaI {x : Int32} (N : Nat) (hd : decode cc pc = .ok (.newarray .int, 2)) (hw : Cond.arrayClass .int ∈ lw_good) (hx : ¬ x < 0) (hN : x.toNatClampNeg = N) (hb : N ≤ 8192) (hk : k + 1 ≤ MC) (hn : n + N ≤ MS) (kk : AW l g d o cc nL nm MC MS Q (k + 1) (n + N) (pc + 2) ls (.ref h.length :: st) (h ++ [.inl (0, (N, .inl (fun _ => 0)))])) : AW l g d o cc nL nm MC MS Q k n pc ls (.int x :: st) h := by
  intro p e R s m args below meth c C Z hz H locs lc hR hS hL
  obtain ⟨hMC, hMS⟩ := C.2.2.2.2.2.2.2.2.2.2.2
  refine va_newaK (atype := .int) C.1 C.2.1 (C.2.2.2.2.1 _ hw) rfl hd rfl hx hN (by show N * 4 ≤ _; omega) (by omega) (by omega) hR.1 fun H1 cA e1 z oq hAr hNm => ?_
  have hA0 : cA = gA g 0 := Option.some.inj (hNm.symm.trans (C.2.2.2.2.2.2.1.2 0 _ rfl).2)
  subst hA0
  rw [← hR.1] at oq z
  exact kk p e R s m args below meth c C Z hz H1 locs lc (hR.push e1 z oq) (hS.grow (by omega) oq) hL
theorem a_newaJ {x : Int32} (N : Nat) (hd : decode cc pc = .ok (.newarray .long, 2)) (hw : Cond.arrayClass .long ∈ lw_good) (hx : ¬ x < 0) (hN : x.toNatClampNeg = N) (hb : N ≤ 8192) (hk : k + 1 ≤ MC) (hn : n + N ≤ MS) (kk : AW l g d o cc nL nm MC MS Q (k + 1) (n + N) (pc + 2) ls (.ref h.length :: st) (h ++ [.inl (1, (N, .inr (.inl (fun _ => 0))))])) : AW l g d o cc nL nm MC MS Q k n pc ls (.int x :: st) h := by
  intro p e R s m args below meth c C Z hz H locs lc hR hS hL
  obtain ⟨hMC, hMS⟩ := C.2.2.2.2.2.2.2.2.2.2.2
  refine va_newaK (atype := .long) C.1 C.2.1 (C.2.2.2.2.1 _ hw) rfl hd rfl hx hN (by show N * 8 ≤ _; omega) (by omega) (by omega) hR.1 fun H1 cA e1 z oq hAr hNm => ?_
  have hA0 : cA = gA g 1 := Option.some.inj (hNm.symm.trans (C.2.2.2.2.2.2.1.2 1 _ rfl).2)
  subst hA0
  rw [← hR.1] at oq z
  exact kk p e R s m args below meth c C Z hz H1 locs lc (hR.push e1 z oq) (hS.grow (by omega) oq) hL
theorem a_newaB {x : Int32} (N : Nat) (hd : decode cc pc = .ok (.newarray .byte, 2)) (hw : Cond.arrayClass .byte ∈ lw_good) (hx : ¬ x < 0) (hN : x.toNatClampNeg = N) (hb : N ≤ 8192) (hk : k + 1 ≤ MC) (hn : n + N ≤ MS) (kk : AW l g d o cc nL nm MC MS Q (k + 1) (n + N) (pc + 2) ls (.ref h.length :: st) (h ++ [.inl (2, (N, .inl (fun _ => 0)))])) : AW l g d o cc nL nm MC MS Q k n pc ls (.int x :: st) h := by
  intro p e R s m args below meth c C Z hz H locs lc hR hS hL
  obtain ⟨hMC, hMS⟩ := C.2.2.2.2.2.2.2.2.2.2.2
  refine va_newaK (atype := .byte) C.1 C.2.1 (C.2.2.2.2.1 _ hw) rfl hd rfl hx hN (by show N * 1 ≤ _; omega) (by omega) (by omega) hR.1 fun H1 cA e1 z oq hAr hNm => ?_
  have hA0 : cA = gA g 2 := Option.some.inj (hNm.symm.trans (C.2.2.2.2.2.2.1.2 2 _ rfl).2)
  subst hA0
  rw [← hR.1] at oq z
  exact kk p e R s m args below meth c C Z hz H1 locs lc (hR.push e1 z oq) (hS.grow (by omega) oq) hL
theorem a_newaZ {x : Int32} (N : Nat) (hd : decode cc pc = .ok (.newarray .boolean, 2)) (hw : Cond.arrayClass .boolean ∈ lw_good) (hx : ¬ x < 0) (hN : x.toNatClampNeg = N) (hb : N ≤ 8192) (hk : k + 1 ≤ MC) (hn : n + N ≤ MS) (kk : AW l g d o cc nL nm MC MS Q (k + 1) (n + N) (pc + 2) ls (.ref h.length :: st) (h ++ [.inl (3, (N, .inl (fun _ => 0)))])) : AW l g d o cc nL nm MC MS Q k n pc ls (.int x :: st) h := by
  intro p e R s m args below meth c C Z hz H locs lc hR hS hL
  obtain ⟨hMC, hMS⟩ := C.2.2.2.2.2.2.2.2.2.2.2
  refine va_newaK (atype := .boolean) C.1 C.2.1 (C.2.2.2.2.1 _ hw) rfl hd rfl hx hN (by show N * 1 ≤ _; omega) (by omega) (by omega) hR.1 fun H1 cA e1 z oq hAr hNm => ?_
  have hA0 : cA = gA g 3 := Option.some.inj (hNm.symm.trans (C.2.2.2.2.2.2.1.2 3 _ rfl).2)
  subst hA0
  rw [← hR.1] at oq z
  exact kk p e R s m args below meth c C Z hz H1 locs lc (hR.push e1 z oq) (hS.grow (by omega) oq) hL
theorem a_newq {i : Nat} {x : Int32} (t N : Nat) (E : String) (hd : decode cc pc = .ok (.anewarray i, 3)) (ht : t < 7) (hty : tyT t = .object E) (hcl : Cond.classLink o i E ∈ lw_good) (hao : ∀ (U : State) (H : Heap), aOld g U H → va_AO E U) (hx : ¬ x < 0) (hN : x.toNatClampNeg = N) (hb : N ≤ 8192) (hk : k + 1 ≤ MC) (hn : n + N ≤ MS) (kk : AW l g d o cc nL nm MC MS Q (k + 1) (n + N) (pc + 3) ls (.ref h.length :: st) (h ++ [.inl (t, (N, .inr (.inr (.inr (.inr (fun _ => none))))))])) : AW l g d o cc nL nm MC MS Q k n pc ls (.int x :: st) h := by
  intro p e R s m args below meth c C Z hz H locs lc hR hS hL
  obtain ⟨hMC, hMS⟩ := C.2.2.2.2.2.2.2.2.2.2.2
  subst hN
  refine W.anew C.1 C.2.1 C.2.2.2.1 (C.2.2.2.2.1 _ hcl) ((hao s s.heap C.2.2.2.2.2.2.2.1).use) rfl hd rfl hx (by omega) (by omega) (by omega) fun cA kA comp f1 f2 f3 f4 => ?_
  generalize hH1 : H.push ({ cls := cA, slots := Array.replicate x.toNatClampNeg .null, vm := .none } : Cell) = H1
  have z1 : H1.size = H.size + 1 := by rw [← hH1, Array.size_push]
  have e1 : H1[H.size]? = some (arrV cA x.toNatClampNeg (fun _ => .null)) := by rw [← hH1, Array.getElem?_push_size, ← arrV_new]
  have o1 : ∀ q : Nat, q < H.size → H1[q]? = H[q]? := fun q hq => by rw [← hH1, Array.getElem?_push, if_neg (Nat.ne_of_lt hq)]
  have hT : (tysL g)[t]? = some (gA g t, tyT t) := by
    match t, ht with
    | 0, _ => rfl
    | 1, _ => rfl
    | 2, _ => rfl
    | 3, _ => rfl
    | 4, _ => rfl
    | 5, _ => rfl
    | 6, _ => rfl
    | t + 7, ht => exact absurd ht (by omega)
  have hRA := (C.2.2.2.2.2.2.1.2 t _ hT).2
  have hRA : va_RA s (gA g t) (.object E) := by rw [← hty]; exact hRA
  obtain ⟨kA', comp', -, -, -, k4⟩ := hRA
  have hA0 : cA = gA g t := Option.some.inj (f1.symm.trans k4)
  subst hA0
  have hg : W p l e R s m args below meth c H1 locs (k + 1) (n + x.toNatClampNeg) Z (F0 m (pc + 3) lc ((.ref h.length :: st).map (cv g))) := by
    refine kk p e R s m args below meth c C Z hz H1 locs lc (hR.push ?_ z1 o1) (hS.grow (by omega) o1) hL
    rw [hR.1] at e1
    exact e1
  rw [hR.1]
  exact hg
end
