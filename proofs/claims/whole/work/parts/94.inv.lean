/-! ===== what holds between the two sides, and each pair of calls ===== -/
def inv (C : CS) (M : MS) (D : List va_E) : Prop := iTx (C.1 2) (C.2.1 0) (M.1 2) (M.2.1 5) ∧ iPr (C.2.1 2) (M.2.1 19) ∧ iAc (C.1 10) (C.2.1 3) (M.1 37) (M.2.1 38) ∧ iTp C M ∧ lf12 C ∧ iBs (C.1 0) (C.2.2.2.1 0) D M ∧ iLs (C.1 1) (C.2.2.2.1 1) D M ∧ iFn M
theorem iTx_of {C C' : CS} {M M' : MS} (h : iTx (C.1 2) (C.2.1 0) (M.1 2) (M.2.1 5)) (e1 : C'.1 2 = C.1 2) (e2 : C'.2.1 0 = C.2.1 0) (e3 : M'.1 2 = M.1 2) (e4 : M'.2.1 5 = M.2.1 5) : iTx (C'.1 2) (C'.2.1 0) (M'.1 2) (M'.2.1 5) := by
  rw [e1, e2, e3, e4]
  exact h
theorem iPr_of {C C' : CS} {M M' : MS} (h : iPr (C.2.1 2) (M.2.1 19)) (e1 : C'.2.1 2 = C.2.1 2) (e2 : M'.2.1 19 = M.2.1 19) : iPr (C'.2.1 2) (M'.2.1 19) := by
  rw [e1, e2]
  exact h
theorem iAc_of {C C' : CS} {M M' : MS} (h : iAc (C.1 10) (C.2.1 3) (M.1 37) (M.2.1 38)) (e1 : C'.1 10 = C.1 10) (e2 : C'.2.1 3 = C.2.1 3) (e3 : M'.1 37 = M.1 37) (e4 : M'.2.1 38 = M.2.1 38) : iAc (C'.1 10) (C'.2.1 3) (M'.1 37) (M'.2.1 38) := by
  rw [e1, e2, e3, e4]
  exact h
theorem iTp_of {C C' : CS} {M M' : MS} (h : iTp C M) (e1 : ∀ k, 15 ≤ k → k < 27 → C'.1 k = C.1 k) (e2 : C'.2.2.1 = C.2.2.1) (e3 : M'.2.1 39 = M.2.1 39) (e4 : M'.2.1 40 = M.2.1 40) (e5 : M'.2.2 41 = M.2.2 41) : iTp C' M' := by
  intro t ht
  rw [e1 _ (by omega) (by omega), e1 _ (by omega) (by omega), e2, e3, e4, e5]
  exact h t ht
theorem lf12_of {C C' : CS} (h : lf12 C) (e : C'.1 14 = C.1 14) : lf12 C' := by
  unfold lf12 at h ⊢
  rw [e]
  exact h
theorem iBs_of {C C' : CS} {D : List va_E} {M M' : MS} (h : iBs (C.1 0) (C.2.2.2.1 0) D M) (e1 : C'.1 0 = C.1 0) (e2 : C'.2.2.2.1 0 = C.2.2.2.1 0) (h0 : M'.1 0 = M.1 0) (h6 : M'.2.1 6 = M.2.1 6) (h7 : M'.2.1 7 = M.2.1 7) (h8 : M'.2.1 8 = M.2.1 8) : iBs (C'.1 0) (C'.2.2.2.1 0) D M' := by
  rw [e1, e2]
  exact iBs_M h0 h6 h7 h8 h
theorem iLs_of {C C' : CS} {D : List va_E} {M M' : MS} (h : iLs (C.1 1) (C.2.2.2.1 1) D M) (e1 : C'.1 1 = C.1 1) (e2 : C'.2.2.2.1 1 = C.2.2.2.1 1) (h1 : M'.1 1 = M.1 1) (h9 : M'.2.1 9 = M.2.1 9) (h10 : M'.2.1 10 = M.2.1 10) (h11 : M'.2.1 11 = M.2.1 11) (h12 : M'.2.1 12 = M.2.1 12) (h13 : M'.2.1 13 = M.2.1 13) (h14 : M'.2.1 14 = M.2.1 14) : iLs (C'.1 1) (C'.2.2.2.1 1) D M' := by
  rw [e1, e2]
  exact iLs_M h1 (fun l cs _ _ hR => rLw_M h9 h10 h11 h12 h13 h14 hR) h
theorem iFn_g {M M' : MS} (h : iFn M) (h35 : M'.1 35 = M.1 35) (h36 : M'.1 36 = M.1 36) (h34 : M'.2.1 34 = M.2.1 34) (h0 : (M.1 0).toInt ≤ (M'.1 0).toInt) (h1 : (M.1 1).toInt ≤ (M'.1 1).toInt) (hB : ∀ (b : Nat) (zl : List Wd), (b : Int) < (M.1 0).toInt → okB zl → rBg M b zl → rBg M' b zl) (hL : ∀ (l : Nat) (cs : List Cz), (l : Int) < (M.1 1).toInt → okL cs → rLw M l cs → rLw M' l cs) : iFn M' := by
  rcases h with h | ⟨b, l, zl, cs, a1, a2, a3, a4, a5, a6, a7, a8, a9, a10, a11⟩
  · exact .inl (by rw [h35]; exact h)
  · refine .inr ⟨b, l, zl, cs, by rw [h35]; exact a1, by rw [h36]; exact a2, a3, a4, by omega, by omega, a7, a8, hB b zl a5 a7 a9, hL l cs a6 a8 a10, fun s hs => ?_⟩
    rw [h34]
    exact a11 s hs
theorem iFn_of {M M' : MS} (h : iFn M) (h35 : M'.1 35 = M.1 35) (h36 : M'.1 36 = M.1 36) (h34 : M'.2.1 34 = M.2.1 34) (h0 : M'.1 0 = M.1 0) (h1 : M'.1 1 = M.1 1) (h6 : M'.2.1 6 = M.2.1 6) (h7 : M'.2.1 7 = M.2.1 7) (h8 : M'.2.1 8 = M.2.1 8) (h9 : M'.2.1 9 = M.2.1 9) (h10 : M'.2.1 10 = M.2.1 10) (h11 : M'.2.1 11 = M.2.1 11) (h12 : M'.2.1 12 = M.2.1 12) (h13 : M'.2.1 13 = M.2.1 13) (h14 : M'.2.1 14 = M.2.1 14) : iFn M' := iFn_g h h35 h36 h34 (by rw [h0]; exact Int.le_refl _) (by rw [h1]; exact Int.le_refl _) (fun b zl _ _ hR => rBg_M h6 h7 h8 hR) (fun l cs _ _ hR => rLw_M h9 h10 h11 h12 h13 h14 hR)
theorem inv_G {C C' : CS} {M M' : MS} {D : List va_E} (h : inv C M D) (hC : frC C C') (hM : fM M M' [27, 28, 29, 30, 33, 35, 36] [20, 21, 22, 23, 24, 25, 26, 31, 34] [32]) (hF : iFn M') : inv C' M' D := by
  obtain ⟨a1, a2, a3, a4, a5, a6, a7, a8⟩ := h
  obtain ⟨⟨c1', c2', c3', c4'⟩, -, c5', c6'⟩ := hC
  obtain ⟨m1, m2, m3⟩ := hM
  exact ⟨iTx_of a1 (c1' 2 (by decide)) (c2' 0 (by decide)) (m1 2 (by decide)) (m2 5 (by decide)), iPr_of a2 (c2' 2 (by decide)) (m2 19 (by decide)), iAc_of a3 (c1' 10 (by decide)) (c2' 3 (by decide)) (m1 37 (by decide)) (m2 38 (by decide)), iTp_of a4 (fun k hk _ => c1' k (by simp only [List.mem_cons, List.not_mem_nil, or_false]; omega)) (funext fun k => c3' k (by simp)) (m2 39 (by decide)) (m2 40 (by decide)) (m3 41 (by decide)), ⟨c5', c6'⟩, iBs_of a6 (c1' 0 (by decide)) (c4' 0 (by simp)) (m1 0 (by decide)) (m2 6 (by decide)) (m2 7 (by decide)) (m2 8 (by decide)), iLs_of a7 (c1' 1 (by decide)) (c4' 1 (by simp)) (m1 1 (by decide)) (m2 9 (by decide)) (m2 10 (by decide)) (m2 11 (by decide)) (m2 12 (by decide)) (m2 13 (by decide)) (m2 14 (by decide)), hF⟩
theorem inv_S {C C' : CS} {M M' : MS} {D : List va_E} (h : inv C M D) (hC : frC C C') (hM : frS M M') : inv C' M' D := by
  have hF := h.2.2.2.2.2.2.2
  obtain ⟨m1, m2, m3⟩ := id hM
  exact inv_G h hC (fM_mono hM (by decide) (by decide) (by decide)) (iFn_of hF (m1 35 (by decide)) (m1 36 (by decide)) (m2 34 (by decide)) (m1 0 (by decide)) (m1 1 (by decide)) (m2 6 (by decide)) (m2 7 (by decide)) (m2 8 (by decide)) (m2 9 (by decide)) (m2 10 (by decide)) (m2 11 (by decide)) (m2 12 (by decide)) (m2 13 (by decide)) (m2 14 (by decide)))
theorem sp_S {C : CS} {M : MS} {D : List va_E} (h : inv C M D) {f7 : AH → Option (Int32 × AH)} {f8 : MS → Option (Int32 × MS)} (ha : asks C M M D (f7 (mh (ccells C) M D)) (f8 M)) : spI inv f7 f8 C M D := by
  obtain ⟨r, C', M', h1, h2, h3, h4⟩ := ha
  exact ⟨r, C', M', D, h1, h2, inv_S h h3 h4⟩
theorem sp_SJ {C : CS} {M : MS} {D : List va_E} (h : inv C M D) {f7 : AH → Option (Int64 × AH)} {f8 : MS → Option (Int64 × MS)} (ha : asks C M M D (f7 (mh (ccells C) M D)) (f8 M)) : spJ inv f7 f8 C M D := by
  obtain ⟨r, C', M', h1, h2, h3, h4⟩ := ha
  exact ⟨r, C', M', D, h1, h2, inv_S h h3 h4⟩
theorem sp_G {C : CS} {M : MS} {D : List va_E} (h : inv C M D) {f7 : AH → Option (Int32 × AH)} {f8 : MS → Option (Int32 × MS)} (ha : asksG C M M D (f7 (mh (ccells C) M D)) (f8 M)) : spI inv f7 f8 C M D := by
  obtain ⟨r, C', M', h1, h2, h3, h4, h5⟩ := ha
  exact ⟨r, C', M', D, h1, h2, inv_G h h3 h4 h5⟩
theorem p_feed (C : CS) (M : MS) (D : List va_E) (x0 x1 : Int32) (h : inv C M D) : spI inv (fun S => X7_feed S 0 x0 x1) (fun S => X8_feed S x0 x1) C M D := by
  obtain ⟨a1, a2, a3, a4, a5, a6, a7, a8⟩ := id h
  obtain ⟨r, C', M', e1, e2, e3, ⟨c1', c2', c3', c4'⟩, e5, m1, m2, m3⟩ := o_feed C M M D x0 x1 a1
  exact ⟨r, C', M', D, e1, e2, e3, iPr_of a2 (c2' 2 (by decide)) (m2 19 (by decide)), iAc_of a3 (c1' 10 (by decide)) (c2' 3 (by decide)) (m1 37 (by decide)) (m2 38 (by decide)), iTp_of a4 (fun k hk _ => c1' k (by simp only [List.mem_cons, List.not_mem_nil, or_false]; omega)) (funext fun k => c3' k (by simp)) (m2 39 (by decide)) (m2 40 (by decide)) (m3 41 (by simp)), lf12_of a5 (c1' 14 (by decide)), iBs_of a6 (c1' 0 (by decide)) (c4' 0 (by simp)) (m1 0 (by decide)) (m2 6 (by decide)) (m2 7 (by decide)) (m2 8 (by decide)), iLs_of a7 (c1' 1 (by decide)) (c4' 1 (by simp)) (m1 1 (by decide)) (m2 9 (by decide)) (m2 10 (by decide)) (m2 11 (by decide)) (m2 12 (by decide)) (m2 13 (by decide)) (m2 14 (by decide)), iFn_of a8 (m1 35 (by decide)) (m1 36 (by decide)) (m2 34 (by decide)) (m1 0 (by decide)) (m1 1 (by decide)) (m2 6 (by decide)) (m2 7 (by decide)) (m2 8 (by decide)) (m2 9 (by decide)) (m2 10 (by decide)) (m2 11 (by decide)) (m2 12 (by decide)) (m2 13 (by decide)) (m2 14 (by decide))⟩
theorem p_price (C : CS) (M : MS) (D : List va_E) (x0 x1 : Int32) (h : inv C M D) : spI inv (fun S => X7_price S 0 x0 x1) (fun S => X8_price S x0 x1) C M D := by
  obtain ⟨a1, a2, a3, a4, a5, a6, a7, a8⟩ := id h
  obtain ⟨r, C', M', e1, e2, e3, ⟨c1', c2', c3', c4'⟩, e5, m1, m2, m3⟩ := o_price C M M D x0 x1 a2
  exact ⟨r, C', M', D, e1, e2, iTx_of a1 (c1' 2 (by simp)) (c2' 0 (by decide)) (m1 2 (by simp)) (m2 5 (by decide)), e3, iAc_of a3 (c1' 10 (by simp)) (c2' 3 (by decide)) (m1 37 (by simp)) (m2 38 (by decide)), iTp_of a4 (fun k hk _ => c1' k (by simp)) (funext fun k => c3' k (by simp)) (m2 39 (by decide)) (m2 40 (by decide)) (m3 41 (by simp)), lf12_of a5 (c1' 14 (by simp)), iBs_of a6 (c1' 0 (by simp)) (c4' 0 (by simp)) (m1 0 (by simp)) (m2 6 (by decide)) (m2 7 (by decide)) (m2 8 (by decide)), iLs_of a7 (c1' 1 (by simp)) (c4' 1 (by simp)) (m1 1 (by simp)) (m2 9 (by decide)) (m2 10 (by decide)) (m2 11 (by decide)) (m2 12 (by decide)) (m2 13 (by decide)) (m2 14 (by decide)), iFn_of a8 (m1 35 (by simp)) (m1 36 (by simp)) (m2 34 (by decide)) (m1 0 (by simp)) (m1 1 (by simp)) (m2 6 (by decide)) (m2 7 (by decide)) (m2 8 (by decide)) (m2 9 (by decide)) (m2 10 (by decide)) (m2 11 (by decide)) (m2 12 (by decide)) (m2 13 (by decide)) (m2 14 (by decide))⟩
theorem p_act (C : CS) (M : MS) (D : List va_E) (x0 x1 x2 : Int32) (h : inv C M D) : spI inv (fun S => X7_act S 0 x0 x1 x2) (fun S => X8_act S x0 x1 x2) C M D := by
  obtain ⟨a1, a2, a3, a4, a5, a6, a7, a8⟩ := id h
  obtain ⟨r, C', M', e1, e2, e3, ⟨c1', c2', c3', c4'⟩, e5, m1, m2, m3⟩ := o_act C M M D x0 x1 x2 a6.1 a7.1
  exact ⟨r, C', M', D, e1, e2, iTx_of a1 (c1' 2 (by decide)) (c2' 0 (by decide)) (m1 2 (by decide)) (m2 5 (by decide)), iPr_of a2 (c2' 2 (by decide)) (m2 19 (by decide)), e3, iTp_of a4 (fun k hk _ => c1' k (by simp only [List.mem_cons, List.not_mem_nil, or_false]; omega)) (funext fun k => c3' k (by simp)) (m2 39 (by decide)) (m2 40 (by decide)) (m3 41 (by simp)), lf12_of a5 (c1' 14 (by decide)), iBs_of a6 (c1' 0 (by decide)) (c4' 0 (by simp)) (m1 0 (by decide)) (m2 6 (by decide)) (m2 7 (by decide)) (m2 8 (by decide)), iLs_of a7 (c1' 1 (by decide)) (c4' 1 (by simp)) (m1 1 (by decide)) (m2 9 (by decide)) (m2 10 (by decide)) (m2 11 (by decide)) (m2 12 (by decide)) (m2 13 (by decide)) (m2 14 (by decide)), iFn_of a8 (m1 35 (by decide)) (m1 36 (by decide)) (m2 34 (by decide)) (m1 0 (by decide)) (m1 1 (by decide)) (m2 6 (by decide)) (m2 7 (by decide)) (m2 8 (by decide)) (m2 9 (by decide)) (m2 10 (by decide)) (m2 11 (by decide)) (m2 12 (by decide)) (m2 13 (by decide)) (m2 14 (by decide))⟩
/-- the tapes alone changed -/
theorem inv_T {C C' : CS} {M M' : MS} {D : List va_E} (h : inv C M D) (hT : iTp C' M') (hC : fC C C' aTp [] [0, 1, 2, 3, 4, 5] []) (hM : fM M M' [] [39, 40] [41, 42]) : inv C' M' D := by
  obtain ⟨a1, a2, a3, a4, a5, a6, a7, a8⟩ := h
  obtain ⟨c1', c2', c3', c4'⟩ := hC
  obtain ⟨m1, m2, m3⟩ := hM
  exact ⟨iTx_of a1 (c1' 2 (by decide)) (c2' 0 (by simp)) (m1 2 (by simp)) (m2 5 (by decide)), iPr_of a2 (c2' 2 (by simp)) (m2 19 (by decide)), iAc_of a3 (c1' 10 (by decide)) (c2' 3 (by simp)) (m1 37 (by simp)) (m2 38 (by decide)), hT, lf12_of a5 (c1' 14 (by decide)), iBs_of a6 (c1' 0 (by decide)) (c4' 0 (by simp)) (m1 0 (by simp)) (m2 6 (by decide)) (m2 7 (by decide)) (m2 8 (by decide)), iLs_of a7 (c1' 1 (by decide)) (c4' 1 (by simp)) (m1 1 (by simp)) (m2 9 (by decide)) (m2 10 (by decide)) (m2 11 (by decide)) (m2 12 (by decide)) (m2 13 (by decide)) (m2 14 (by decide)), iFn_of a8 (m1 35 (by simp)) (m1 36 (by simp)) (m2 34 (by decide)) (m1 0 (by simp)) (m1 1 (by simp)) (m2 6 (by decide)) (m2 7 (by decide)) (m2 8 (by decide)) (m2 9 (by decide)) (m2 10 (by decide)) (m2 11 (by decide)) (m2 12 (by decide)) (m2 13 (by decide)) (m2 14 (by decide))⟩
theorem p_text (C : CS) (M : MS) (D : List va_E) (x0 : Int32) (h : inv C M D) : spI inv (fun S => X7_text S 0 x0) (fun S => X8_text S x0) C M D := by
  obtain ⟨a1, a2, a3, a4, a5, a6, a7, a8⟩ := id h
  by_cases q0 : x0 = 0
  · subst q0
    obtain ⟨r, C', M', X, e1, e2, e3, e4, ⟨c1', c2', c3', c4'⟩, e5, ⟨m1, m2, m3⟩, e6, e7, e8⟩ := o_text0 C M M D a1 a6
    have hL : iLs (C'.1 1) (C'.2.2.2.1 1) (D ++ X) M' := iLs_of (C := C) (M := M) (iLs_app a7) (c1' 1 (by decide)) (c4' 1 (by decide)) e6 (m2 9 (by decide)) (m2 10 (by decide)) (m2 11 (by decide)) (m2 12 (by decide)) (m2 13 (by decide)) (m2 14 (by decide))
    exact ⟨r, C', M', D ++ X, e1, e2, e3, iPr_of a2 (c2' 2 (by simp)) (m2 19 (by decide)), iAc_of a3 (c1' 10 (by decide)) (c2' 3 (by simp)) (m1 37 (by decide)) (m2 38 (by decide)), iTp_of a4 (fun k hk _ => c1' k (by simp only [List.mem_cons, List.not_mem_nil, or_false]; omega)) (funext fun k => c3' k (by simp)) (m2 39 (by decide)) (m2 40 (by decide)) (m3 41 (by simp)), lf12_of a5 (c1' 14 (by decide)), e4, hL, iFn_g a8 (m1 35 (by decide)) (m1 36 (by decide)) (m2 34 (by decide)) e7 (by rw [e6]; exact Int.le_refl _) (fun b zl hb hk hR => e8 b zl hb hR hk.1) (fun l cs _ _ hR => rLw_M (m2 9 (by decide)) (m2 10 (by decide)) (m2 11 (by decide)) (m2 12 (by decide)) (m2 13 (by decide)) (m2 14 (by decide)) hR)⟩
  · by_cases q1 : x0 = 1
    · subst q1
      obtain ⟨r, C', M', X, e1, e2, e3, e4, ⟨c1', c2', c3', c4'⟩, ⟨m1, m2, m3⟩, e6, e7, e8⟩ := o_text1 C M M D a1 a7
      have hB : iBs (C'.1 0) (C'.2.2.2.1 0) (D ++ X) M' := iBs_of (C := C) (M := M) (iBs_app a6) (c1' 0 (by decide)) (c4' 0 (by decide)) e6 (m2 6 (by decide)) (m2 7 (by decide)) (m2 8 (by decide))
      exact ⟨r, C', M', D ++ X, e1, e2, e3, iPr_of a2 (c2' 2 (by decide)) (m2 19 (by decide)), iAc_of a3 (c1' 10 (by decide)) (c2' 3 (by decide)) (m1 37 (by decide)) (m2 38 (by decide)), iTp_of a4 (fun k hk _ => c1' k (by simp only [List.mem_cons, List.not_mem_nil, or_false]; omega)) (funext fun k => c3' k (by simp)) (m2 39 (by decide)) (m2 40 (by decide)) (m3 41 (by simp)), lf12_of a5 (c1' 14 (by decide)), hB, e4, iFn_g a8 (m1 35 (by decide)) (m1 36 (by decide)) (m2 34 (by decide)) (by rw [e6]; exact Int.le_refl _) e7 (fun b zl _ _ hR => rBg_M (m2 6 (by decide)) (m2 7 (by decide)) (m2 8 (by decide)) hR) (fun l cs hl hk hR => e8 l cs hl hk hR)⟩
    · obtain ⟨e1, e2⟩ := o_textN C M M D x0 q0 q1
      exact ⟨-1, C, M, D, e1, e2, h⟩
theorem specs_all : specs inv := by
  refine ⟨fun C M D x0 x1 h => p_feed C M D x0 x1 h, fun C M D x0 h => p_text C M D x0 h, fun C M D x0 x1 h => ?_, fun C M D x0 x1 h => p_price C M D x0 x1 h, fun C M D x0 x1 h => ?_, fun C M D x0 x1 x2 h => ?_, fun C M D x0 x1 x2 h => ?_, fun C M D x0 x1 x2 h => ?_, fun C M D x0 x1 x2 h => ?_, fun C M D x0 x1 x2 x3 h => ?_, fun C M D x0 x1 x2 x3 h => ?_, fun C M D x0 x1 x2 h => ?_, fun C M D x0 x1 x2 h => ?_, fun C M D x0 h => ?_, fun C M D x0 x1 x2 h => ?_, fun C M D x0 x1 x2 x3 h => ?_, fun C M D x0 x1 h => ?_, fun C M D x0 x1 x2 h => ?_, fun C M D x0 x1 h => ?_, fun C M D x0 x1 x2 x3 x4 h => ?_, fun C M D x0 x1 x2 h => p_act C M D x0 x1 x2 h, fun C M D x0 h => ?_, fun C M D x0 x1 h => ?_, fun C M D x0 h => ?_, fun C M D x0 x1 x2 h => ?_, fun C M D x0 x1 x2 h => ?_, fun C M D x0 x1 h => ?_, fun C M D x0 x1 x2 x3 x4 h => ?_⟩ <;> obtain ⟨a1, a2, a3, a4, a5, a6, a7, a8⟩ := id h
  · obtain ⟨r, e1, e2⟩ := o_word C M M D x0 x1 a6
    exact ⟨r, C, M, D, e1, e2, h⟩
  · exact sp_S h (o_reads C M M D x0 x1 a5 a6)
  · exact sp_SJ h (o_means C M M D x0 x1 x2 a5 a6)
  · exact sp_S h (o_lawful C M M D x0 x1 x2 a5 a6 a7)
  · exact sp_S h (o_barred C M M D x0 x1 x2 a5 a6 a7)
  · exact sp_S h (o_let C M M D x0 x1 x2 a5 a6)
  · exact sp_G h (o_good C M M D x0 x1 x2 x3 a5 a6 a7 a8)
  · exact sp_G h (o_next C M M D x0 x1 x2 x3 a5 a6 a7 a8)
  · exact sp_G h (o_least C M M D x0 x1 x2 a5 a6 a7 a8)
  · exact sp_G h (o_inAll C M M D x0 x1 x2 a5 a6 a7 a8)
  · exact sp_S h (o_plain C M M D x0 a5 a6)
  · exact sp_SJ h (o_cost C M M D x0 x1 x2 a5 a6 a2)
  · exact sp_G h (o_dear C M M D x0 x1 x2 x3 a5 a6 a7 a8 a2)
  · exact sp_S h (o_alone C M M D x0 x1 a5 a6)
  · exact sp_S h (o_apart C M M D x0 x1 x2 a5 a6 a7)
  · exact sp_S h (o_saves C M M D x0 x1 a5 a6 a7)
  · exact sp_G h (o_table C M M D x0 x1 x2 x3 x4 a5 a6 a7 a8 a4)
  · obtain ⟨r, e1, e2⟩ := o_trace C M M D x0 a3
    exact ⟨r, C, M, D, e1, e2, h⟩
  · obtain ⟨r, e1, e2⟩ := o_taken (mh (ccells C) M D) M x0 x1
    exact ⟨r, C, M, D, e1, e2, h⟩
  · obtain ⟨r, e1, e2⟩ := o_count C M M D x0 a6.1 a7.1 a1.1 a3.1
    exact ⟨r, C, M, D, e1, e2, h⟩
  · obtain ⟨r, C', M', e1, e2, e3, e4, e5, e6⟩ := o_tape C M M D x0 x1 x2 a4
    exact ⟨r, C', M', D, e1, e2, inv_T h e3 e4 e6⟩
  · obtain ⟨r, C', M', e1, e2, e3, e4, e5, e6⟩ := o_item C M M D x0 x1 x2 a4
    exact ⟨r, C', M', D, e1, e2, inv_T h e3 e4 e6⟩
  · obtain ⟨r, e1, e2⟩ := o_read C M M D x0 x1 a4
    exact ⟨r, C, M, D, e1, e2, h⟩
  · obtain ⟨r, C', M', e1, e2, e3, e4, e5, e6⟩ := o_shift C M M D x0 x1 x2 x3 x4 a4
    exact ⟨r, C', M', D, e1, e2, inv_T h e3 e4 e6⟩
theorem inv_0 : inv C0 M0 [] := by
  refine ⟨⟨rfl, by decide, by decide, fun i hi => ?_⟩, fun t ht => ?_, ⟨rfl, by decide, by decide, fun i _ hi => ?_⟩, fun t ht => ?_, ⟨by decide, by decide⟩, ⟨rfl, by decide, by decide, fun b hb => ?_, fun b _ => rfl⟩, ⟨rfl, by decide, by decide, fun b hb => ?_, fun b _ => rfl⟩, .inl rfl⟩
  · have hi : (i : Int) < (0 : Int32).toInt := hi
    have : (0 : Int32).toInt = 0 := rfl
    omega
  · rcases (show t = 0 ∨ t = 1 ∨ t = 2 ∨ t = 3 ∨ t = 4 ∨ t = 5 ∨ t = 6 ∨ t = 7 ∨ t = 8 ∨ t = 9 by omega) with rfl | rfl | rfl | rfl | rfl | rfl | rfl | rfl | rfl | rfl <;> exact ⟨rfl, by decide, by decide⟩
  · have hi : (i : Int) < (0 : Int32).toInt := hi
    have : (0 : Int32).toInt = 0 := rfl
    omega
  · rcases (show t = 0 ∨ t = 1 ∨ t = 2 ∨ t = 3 ∨ t = 4 ∨ t = 5 by omega) with rfl | rfl | rfl | rfl | rfl | rfl <;> exact ⟨rfl, rfl, by decide, by decide, by decide, by decide, fun _ => rfl, fun _ _ => rfl⟩
  · have hb : (b : Int) < (0 : Int32).toInt := hb
    have : (0 : Int32).toInt = 0 := rfl
    omega
  · have hb : (b : Int) < (0 : Int32).toInt := hb
    have : (0 : Int32).toInt = 0 := rfl
    omega
