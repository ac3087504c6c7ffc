/-! ===== the law's loop: each pair of calls answers alike, and the state of both sides goes on ===== -/
/-- a pair of calls, by its numbers of arguments: both end with the same answer, and what holds between the sides holds again -/
def spI (inv : CS → MS → List va_E → Prop) (f7 : AH → Option (Int32 × AH)) (f8 : MS → Option (Int32 × MS)) (C : CS) (M : MS) (D : List va_E) : Prop := ∃ r C' M' D', f7 (mh (ccells C) M D) = some (r, mh (ccells C') M D') ∧ f8 M = some (r, M') ∧ inv C' M' D'
def spJ (inv : CS → MS → List va_E → Prop) (f7 : AH → Option (Int64 × AH)) (f8 : MS → Option (Int64 × MS)) (C : CS) (M : MS) (D : List va_E) : Prop := ∃ r C' M' D', f7 (mh (ccells C) M D) = some (r, mh (ccells C') M D') ∧ f8 M = some (r, M') ∧ inv C' M' D'
theorem lg_self (x : Int64) : lg_cmp x x = 0 := by simp [lg_cmp]
def specs (inv : CS → MS → List va_E → Prop) : Prop :=
  (∀ (C : CS) (M : MS) (D : List va_E) (x0 : Int32) (x1 : Int32), inv C M D → spI inv (fun S => X7_feed S 0 x0 x1) (fun S => X8_feed S x0 x1) C M D) ∧
  (∀ (C : CS) (M : MS) (D : List va_E) (x0 : Int32), inv C M D → spI inv (fun S => X7_text S 0 x0) (fun S => X8_text S x0) C M D) ∧
  (∀ (C : CS) (M : MS) (D : List va_E) (x0 : Int32) (x1 : Int32), inv C M D → spI inv (fun S => X7_word S 0 x0 x1) (fun S => X8_word S x0 x1) C M D) ∧
  (∀ (C : CS) (M : MS) (D : List va_E) (x0 : Int32) (x1 : Int32), inv C M D → spI inv (fun S => X7_price S 0 x0 x1) (fun S => X8_price S x0 x1) C M D) ∧
  (∀ (C : CS) (M : MS) (D : List va_E) (x0 : Int32) (x1 : Int32), inv C M D → spI inv (fun S => X7_reads S 0 x0 x1) (fun S => X8_reads S x0 x1) C M D) ∧
  (∀ (C : CS) (M : MS) (D : List va_E) (x0 : Int32) (x1 : Int32) (x2 : Int32), inv C M D → spJ inv (fun S => X7_means S 0 x0 x1 x2) (fun S => X8_means S x0 x1 x2) C M D) ∧
  (∀ (C : CS) (M : MS) (D : List va_E) (x0 : Int32) (x1 : Int32) (x2 : Int32), inv C M D → spI inv (fun S => X7_lawful S 0 x0 x1 x2) (fun S => X8_lawful S x0 x1 x2) C M D) ∧
  (∀ (C : CS) (M : MS) (D : List va_E) (x0 : Int32) (x1 : Int32) (x2 : Int32), inv C M D → spI inv (fun S => X7_barred S 0 x0 x1 x2) (fun S => X8_barred S x0 x1 x2) C M D) ∧
  (∀ (C : CS) (M : MS) (D : List va_E) (x0 : Int32) (x1 : Int32) (x2 : Int32), inv C M D → spI inv (fun S => X7_let S 0 x0 x1 x2) (fun S => X8_let S x0 x1 x2) C M D) ∧
  (∀ (C : CS) (M : MS) (D : List va_E) (x0 : Int32) (x1 : Int32) (x2 : Int32) (x3 : Int32), inv C M D → spI inv (fun S => X7_good S 0 x0 x1 x2 x3) (fun S => X8_good S x0 x1 x2 x3) C M D) ∧
  (∀ (C : CS) (M : MS) (D : List va_E) (x0 : Int32) (x1 : Int32) (x2 : Int32) (x3 : Int32), inv C M D → spI inv (fun S => X7_next S 0 x0 x1 x2 x3) (fun S => X8_next_ S x0 x1 x2 x3) C M D) ∧
  (∀ (C : CS) (M : MS) (D : List va_E) (x0 : Int32) (x1 : Int32) (x2 : Int32), inv C M D → spI inv (fun S => X7_least S 0 x0 x1 x2) (fun S => X8_least S x0 x1 x2) C M D) ∧
  (∀ (C : CS) (M : MS) (D : List va_E) (x0 : Int32) (x1 : Int32) (x2 : Int32), inv C M D → spI inv (fun S => X7_inAll S 0 x0 x1 x2) (fun S => X8_inAll S x0 x1 x2) C M D) ∧
  (∀ (C : CS) (M : MS) (D : List va_E) (x0 : Int32), inv C M D → spI inv (fun S => X7_plain S 0 x0) (fun S => X8_plain S x0) C M D) ∧
  (∀ (C : CS) (M : MS) (D : List va_E) (x0 : Int32) (x1 : Int32) (x2 : Int32), inv C M D → spJ inv (fun S => X7_cost S 0 x0 x1 x2) (fun S => X8_cost S x0 x1 x2) C M D) ∧
  (∀ (C : CS) (M : MS) (D : List va_E) (x0 : Int32) (x1 : Int32) (x2 : Int32) (x3 : Int32), inv C M D → spI inv (fun S => X7_dear S 0 x0 x1 x2 x3) (fun S => X8_dear S x0 x1 x2 x3) C M D) ∧
  (∀ (C : CS) (M : MS) (D : List va_E) (x0 : Int32) (x1 : Int32), inv C M D → spI inv (fun S => X7_alone S 0 x0 x1) (fun S => X8_alone S x0 x1) C M D) ∧
  (∀ (C : CS) (M : MS) (D : List va_E) (x0 : Int32) (x1 : Int32) (x2 : Int32), inv C M D → spI inv (fun S => X7_apart S 0 x0 x1 x2) (fun S => X8_apart S x0 x1 x2) C M D) ∧
  (∀ (C : CS) (M : MS) (D : List va_E) (x0 : Int32) (x1 : Int32), inv C M D → spI inv (fun S => X7_saves S 0 x0 x1) (fun S => X8_saves S x0 x1) C M D) ∧
  (∀ (C : CS) (M : MS) (D : List va_E) (x0 : Int32) (x1 : Int32) (x2 : Int32) (x3 : Int32) (x4 : Int32), inv C M D → spI inv (fun S => X7_table S 0 x0 x1 x2 x3 x4) (fun S => X8_table S x0 x1 x2 x3 x4) C M D) ∧
  (∀ (C : CS) (M : MS) (D : List va_E) (x0 : Int32) (x1 : Int32) (x2 : Int32), inv C M D → spI inv (fun S => X7_act S 0 x0 x1 x2) (fun S => X8_act S x0 x1 x2) C M D) ∧
  (∀ (C : CS) (M : MS) (D : List va_E) (x0 : Int32), inv C M D → spI inv (fun S => X7_trace S 0 x0) (fun S => X8_trace S x0) C M D) ∧
  (∀ (C : CS) (M : MS) (D : List va_E) (x0 : Int32) (x1 : Int32), inv C M D → spI inv (fun S => X7_taken S 0 x0 x1) (fun S => X8_taken S x0 x1) C M D) ∧
  (∀ (C : CS) (M : MS) (D : List va_E) (x0 : Int32), inv C M D → spI inv (fun S => X7_count S 0 x0) (fun S => X8_count S x0) C M D) ∧
  (∀ (C : CS) (M : MS) (D : List va_E) (x0 : Int32) (x1 : Int32) (x2 : Int32), inv C M D → spI inv (fun S => X7_tape S 0 x0 x1 x2) (fun S => X8_tape S x0 x1 x2) C M D) ∧
  (∀ (C : CS) (M : MS) (D : List va_E) (x0 : Int32) (x1 : Int32) (x2 : Int64), inv C M D → spI inv (fun S => X7_item S 0 x0 x1 x2) (fun S => X8_item S x0 x1 x2) C M D) ∧
  (∀ (C : CS) (M : MS) (D : List va_E) (x0 : Int32) (x1 : Int32), inv C M D → spJ inv (fun S => X7_read S 0 x0 x1) (fun S => X8_read S x0 x1) C M D) ∧
  (∀ (C : CS) (M : MS) (D : List va_E) (x0 : Int32) (x1 : Int32) (x2 : Int32) (x3 : Int32) (x4 : Int32), inv C M D → spI inv (fun S => X7_shift S 0 x0 x1 x2 x3 x4) (fun S => X8_shift S x0 x1 x2 x3 x4) C M D)
set_option maxHeartbeats 4000000 in
theorem law_feed {l : Launch} {g : gE} {d MC MS' : Nat} {nm : String} {Q : Option Value → AH → Prop} {inv : CS → MS → List va_E → Prop} (hd : 64 ≤ d) (H : specs inv) {C : CS} {M : MS} {D : List va_E} (hi : inv C M D) {k n : Nat} (hk : k + 6 ≤ MC) (hn : n + 8222 ≤ MS') {l3 : Int32} (hb1 : vp_in (l3 + 1) (gL g)) (hb2 : vp_in (l3 + 2) (gL g)) (hb3 : vp_in (l3 + 3) (gL g)) (hb4 : vp_in (l3 + 4) (gL g)) (hb5 : vp_in (l3 + 5) (gL g))
    (ih : ∀ (C : CS) (M : MS) (D : List va_E) (k' n' : Nat), inv C M D → k' ≤ k + 6 → n' ≤ n + 8222 → AW l g d RL cL_law 4 nm MC MS' Q k' n' 1307 [some (.retAddr 12), some (.ref 0), some (.ref 26), some (.int l3)] [] (mh (ccells C) M D)) : AW l g d RL cL_law 4 nm MC MS' Q k n 160 [some (.retAddr 12), some (.ref 0), some (.ref 26), some (.int l3)] [] (mh (ccells C) M D) := by
  obtain ⟨r, C', M', D', e7, e8, hi'⟩ := H.1 C M D (gX g (l3 + 1).toNatClampNeg) (gX g (l3 + 2).toNatClampNeg) hi
  refine a_aload_n (pc := 160) dL_law_160 rfl (isRv_r _) ?_
  refine a_aload_n (pc := 161) dL_law_161 rfl (isRv_o _) ?_
  refine a_iload_n (pc := 162) dL_law_162 rfl ?_
  refine a_iconst (pc := 163) 1 dL_law_163 rfl ?_
  refine a_iadd (pc := 164) dL_law_164 ?_
  refine a_old12 (pc := 165) dL_law_165 hb1 ?_
  refine a_aload_n (pc := 166) dL_law_166 rfl (isRv_o _) ?_
  refine a_iload_n (pc := 167) dL_law_167 rfl ?_
  refine a_iconst (pc := 168) 2 dL_law_168 rfl ?_
  refine a_iadd (pc := 169) dL_law_169 ?_
  refine a_old12 (pc := 170) dL_law_170 hb2 ?_
  refine g_call (pc := 171) (ci := 7) (mc := 0) (ms := 0) (.int r) [.int (gX g (l3 + 1).toNatClampNeg), .int (gX g (l3 + 2).toNatClampNeg)] [] dL_law_171 ml_L_13 mv_X7_feed ⟨_, rfl⟩ (by decide) rfl rfl (by omega) (mX7_feed (by omega) e7) rfl (Nat.le_of_ble_eq_true rfl) (by omega) (by omega) ?_
  refine a_aload_n (pc := 174) dL_law_174 rfl (isRv_r _) ?_
  refine a_aload_n (pc := 175) dL_law_175 rfl (isRv_o _) ?_
  refine a_iload_n (pc := 176) dL_law_176 rfl ?_
  refine a_iconst (pc := 177) 1 dL_law_177 rfl ?_
  refine a_iadd (pc := 178) dL_law_178 ?_
  refine a_old12 (pc := 179) dL_law_179 hb1 ?_
  refine a_aload_n (pc := 180) dL_law_180 rfl (isRv_o _) ?_
  refine a_iload_n (pc := 181) dL_law_181 rfl ?_
  refine a_iconst (pc := 182) 2 dL_law_182 rfl ?_
  refine a_iadd (pc := 183) dL_law_183 ?_
  refine a_old12 (pc := 184) dL_law_184 hb2 ?_
  refine m_call (pc := 185) (.int r) [.int (gX g (l3 + 1).toNatClampNeg), .int (gX g (l3 + 2).toNatClampNeg)] [.int r] (cc_len C') dL_law_185 ml_L_17 mv_X8_feed rfl rfl (by omega) (mX8_feed (cc_len C') (by omega) e8) rfl (Nat.le_of_ble_eq_true rfl) (by omega) (by omega) ?_
  refine a_icmp_eq (pc := 188) 1307 dL_law_188 (by decide) (fun _ => ?_) (fun c => absurd rfl c)
  exact ih C' M' D' _ _ hi' (by omega) (by omega)
set_option maxHeartbeats 4000000 in
theorem law_text {l : Launch} {g : gE} {d MC MS' : Nat} {nm : String} {Q : Option Value → AH → Prop} {inv : CS → MS → List va_E → Prop} (hd : 64 ≤ d) (H : specs inv) {C : CS} {M : MS} {D : List va_E} (hi : inv C M D) {k n : Nat} (hk : k + 6 ≤ MC) (hn : n + 8222 ≤ MS') {l3 : Int32} (hb1 : vp_in (l3 + 1) (gL g)) (hb2 : vp_in (l3 + 2) (gL g)) (hb3 : vp_in (l3 + 3) (gL g)) (hb4 : vp_in (l3 + 4) (gL g)) (hb5 : vp_in (l3 + 5) (gL g))
    (ih : ∀ (C : CS) (M : MS) (D : List va_E) (k' n' : Nat), inv C M D → k' ≤ k + 6 → n' ≤ n + 8222 → AW l g d RL cL_law 4 nm MC MS' Q k' n' 1307 [some (.retAddr 12), some (.ref 0), some (.ref 26), some (.int l3)] [] (mh (ccells C) M D)) : AW l g d RL cL_law 4 nm MC MS' Q k n 193 [some (.retAddr 12), some (.ref 0), some (.ref 26), some (.int l3)] [] (mh (ccells C) M D) := by
  obtain ⟨r, C', M', D', e7, e8, hi'⟩ := H.2.1 C M D (gX g (l3 + 1).toNatClampNeg) hi
  refine a_aload_n (pc := 193) dL_law_193 rfl (isRv_r _) ?_
  refine a_aload_n (pc := 194) dL_law_194 rfl (isRv_o _) ?_
  refine a_iload_n (pc := 195) dL_law_195 rfl ?_
  refine a_iconst (pc := 196) 1 dL_law_196 rfl ?_
  refine a_iadd (pc := 197) dL_law_197 ?_
  refine a_old12 (pc := 198) dL_law_198 hb1 ?_
  refine g_call (pc := 199) (ci := 7) (mc := 6) (ms := 8222) (.int r) [.int (gX g (l3 + 1).toNatClampNeg)] [] dL_law_199 ml_L_18 mv_X7_text ⟨_, rfl⟩ (by decide) rfl rfl (by omega) (mX7_text (by omega) e7) rfl (Nat.le_of_ble_eq_true rfl) (by omega) (by omega) ?_
  refine a_aload_n (pc := 202) dL_law_202 rfl (isRv_r _) ?_
  refine a_aload_n (pc := 203) dL_law_203 rfl (isRv_o _) ?_
  refine a_iload_n (pc := 204) dL_law_204 rfl ?_
  refine a_iconst (pc := 205) 1 dL_law_205 rfl ?_
  refine a_iadd (pc := 206) dL_law_206 ?_
  refine a_old12 (pc := 207) dL_law_207 hb1 ?_
  refine m_call (pc := 208) (.int r) [.int (gX g (l3 + 1).toNatClampNeg)] [.int r] (cc_len C') dL_law_208 ml_L_22 mv_X8_text rfl rfl (by omega) (mX8_text (cc_len C') (by omega) e8) rfl (Nat.le_of_ble_eq_true rfl) (by omega) (by omega) ?_
  refine a_icmp_eq (pc := 211) 1307 dL_law_211 (by decide) (fun _ => ?_) (fun c => absurd rfl c)
  exact ih C' M' D' _ _ hi' (by omega) (by omega)
set_option maxHeartbeats 4000000 in
theorem law_word {l : Launch} {g : gE} {d MC MS' : Nat} {nm : String} {Q : Option Value → AH → Prop} {inv : CS → MS → List va_E → Prop} (hd : 64 ≤ d) (H : specs inv) {C : CS} {M : MS} {D : List va_E} (hi : inv C M D) {k n : Nat} (hk : k + 6 ≤ MC) (hn : n + 8222 ≤ MS') {l3 : Int32} (hb1 : vp_in (l3 + 1) (gL g)) (hb2 : vp_in (l3 + 2) (gL g)) (hb3 : vp_in (l3 + 3) (gL g)) (hb4 : vp_in (l3 + 4) (gL g)) (hb5 : vp_in (l3 + 5) (gL g))
    (ih : ∀ (C : CS) (M : MS) (D : List va_E) (k' n' : Nat), inv C M D → k' ≤ k + 6 → n' ≤ n + 8222 → AW l g d RL cL_law 4 nm MC MS' Q k' n' 1307 [some (.retAddr 12), some (.ref 0), some (.ref 26), some (.int l3)] [] (mh (ccells C) M D)) : AW l g d RL cL_law 4 nm MC MS' Q k n 216 [some (.retAddr 12), some (.ref 0), some (.ref 26), some (.int l3)] [] (mh (ccells C) M D) := by
  obtain ⟨r, C', M', D', e7, e8, hi'⟩ := H.2.2.1 C M D (gX g (l3 + 1).toNatClampNeg) (gX g (l3 + 2).toNatClampNeg) hi
  refine a_aload_n (pc := 216) dL_law_216 rfl (isRv_r _) ?_
  refine a_aload_n (pc := 217) dL_law_217 rfl (isRv_o _) ?_
  refine a_iload_n (pc := 218) dL_law_218 rfl ?_
  refine a_iconst (pc := 219) 1 dL_law_219 rfl ?_
  refine a_iadd (pc := 220) dL_law_220 ?_
  refine a_old12 (pc := 221) dL_law_221 hb1 ?_
  refine a_aload_n (pc := 222) dL_law_222 rfl (isRv_o _) ?_
  refine a_iload_n (pc := 223) dL_law_223 rfl ?_
  refine a_iconst (pc := 224) 2 dL_law_224 rfl ?_
  refine a_iadd (pc := 225) dL_law_225 ?_
  refine a_old12 (pc := 226) dL_law_226 hb2 ?_
  refine g_call (pc := 227) (ci := 7) (mc := 0) (ms := 0) (.int r) [.int (gX g (l3 + 1).toNatClampNeg), .int (gX g (l3 + 2).toNatClampNeg)] [] dL_law_227 ml_L_23 mv_X7_word ⟨_, rfl⟩ (by decide) rfl rfl (by omega) (mX7_word (by omega) e7) rfl (Nat.le_of_ble_eq_true rfl) (by omega) (by omega) ?_
  refine a_aload_n (pc := 230) dL_law_230 rfl (isRv_r _) ?_
  refine a_aload_n (pc := 231) dL_law_231 rfl (isRv_o _) ?_
  refine a_iload_n (pc := 232) dL_law_232 rfl ?_
  refine a_iconst (pc := 233) 1 dL_law_233 rfl ?_
  refine a_iadd (pc := 234) dL_law_234 ?_
  refine a_old12 (pc := 235) dL_law_235 hb1 ?_
  refine a_aload_n (pc := 236) dL_law_236 rfl (isRv_o _) ?_
  refine a_iload_n (pc := 237) dL_law_237 rfl ?_
  refine a_iconst (pc := 238) 2 dL_law_238 rfl ?_
  refine a_iadd (pc := 239) dL_law_239 ?_
  refine a_old12 (pc := 240) dL_law_240 hb2 ?_
  refine m_call (pc := 241) (.int r) [.int (gX g (l3 + 1).toNatClampNeg), .int (gX g (l3 + 2).toNatClampNeg)] [.int r] (cc_len C') dL_law_241 ml_L_26 mv_X8_word rfl rfl (by omega) (mX8_word (cc_len C') (by omega) e8) rfl (Nat.le_of_ble_eq_true rfl) (by omega) (by omega) ?_
  refine a_icmp_eq (pc := 244) 1307 dL_law_244 (by decide) (fun _ => ?_) (fun c => absurd rfl c)
  exact ih C' M' D' _ _ hi' (by omega) (by omega)
set_option maxHeartbeats 4000000 in
theorem law_price {l : Launch} {g : gE} {d MC MS' : Nat} {nm : String} {Q : Option Value → AH → Prop} {inv : CS → MS → List va_E → Prop} (hd : 64 ≤ d) (H : specs inv) {C : CS} {M : MS} {D : List va_E} (hi : inv C M D) {k n : Nat} (hk : k + 6 ≤ MC) (hn : n + 8222 ≤ MS') {l3 : Int32} (hb1 : vp_in (l3 + 1) (gL g)) (hb2 : vp_in (l3 + 2) (gL g)) (hb3 : vp_in (l3 + 3) (gL g)) (hb4 : vp_in (l3 + 4) (gL g)) (hb5 : vp_in (l3 + 5) (gL g))
    (ih : ∀ (C : CS) (M : MS) (D : List va_E) (k' n' : Nat), inv C M D → k' ≤ k + 6 → n' ≤ n + 8222 → AW l g d RL cL_law 4 nm MC MS' Q k' n' 1307 [some (.retAddr 12), some (.ref 0), some (.ref 26), some (.int l3)] [] (mh (ccells C) M D)) : AW l g d RL cL_law 4 nm MC MS' Q k n 249 [some (.retAddr 12), some (.ref 0), some (.ref 26), some (.int l3)] [] (mh (ccells C) M D) := by
  obtain ⟨r, C', M', D', e7, e8, hi'⟩ := H.2.2.2.1 C M D (gX g (l3 + 1).toNatClampNeg) (gX g (l3 + 2).toNatClampNeg) hi
  refine a_aload_n (pc := 249) dL_law_249 rfl (isRv_r _) ?_
  refine a_aload_n (pc := 250) dL_law_250 rfl (isRv_o _) ?_
  refine a_iload_n (pc := 251) dL_law_251 rfl ?_
  refine a_iconst (pc := 252) 1 dL_law_252 rfl ?_
  refine a_iadd (pc := 253) dL_law_253 ?_
  refine a_old12 (pc := 254) dL_law_254 hb1 ?_
  refine a_aload_n (pc := 255) dL_law_255 rfl (isRv_o _) ?_
  refine a_iload_n (pc := 256) dL_law_256 rfl ?_
  refine a_iconst (pc := 257) 2 dL_law_257 rfl ?_
  refine a_iadd (pc := 258) dL_law_258 ?_
  refine a_old12 (pc := 259) dL_law_259 hb2 ?_
  refine g_call (pc := 260) (ci := 7) (mc := 0) (ms := 0) (.int r) [.int (gX g (l3 + 1).toNatClampNeg), .int (gX g (l3 + 2).toNatClampNeg)] [] dL_law_260 ml_L_27 mv_X7_price ⟨_, rfl⟩ (by decide) rfl rfl (by omega) (mX7_price (by omega) e7) rfl (Nat.le_of_ble_eq_true rfl) (by omega) (by omega) ?_
  refine a_aload_n (pc := 263) dL_law_263 rfl (isRv_r _) ?_
  refine a_aload_n (pc := 264) dL_law_264 rfl (isRv_o _) ?_
  refine a_iload_n (pc := 265) dL_law_265 rfl ?_
  refine a_iconst (pc := 266) 1 dL_law_266 rfl ?_
  refine a_iadd (pc := 267) dL_law_267 ?_
  refine a_old12 (pc := 268) dL_law_268 hb1 ?_
  refine a_aload_n (pc := 269) dL_law_269 rfl (isRv_o _) ?_
  refine a_iload_n (pc := 270) dL_law_270 rfl ?_
  refine a_iconst (pc := 271) 2 dL_law_271 rfl ?_
  refine a_iadd (pc := 272) dL_law_272 ?_
  refine a_old12 (pc := 273) dL_law_273 hb2 ?_
  refine m_call (pc := 274) (.int r) [.int (gX g (l3 + 1).toNatClampNeg), .int (gX g (l3 + 2).toNatClampNeg)] [.int r] (cc_len C') dL_law_274 ml_L_30 mv_X8_price rfl rfl (by omega) (mX8_price (cc_len C') (by omega) e8) rfl (Nat.le_of_ble_eq_true rfl) (by omega) (by omega) ?_
  refine a_icmp_eq (pc := 277) 1307 dL_law_277 (by decide) (fun _ => ?_) (fun c => absurd rfl c)
  exact ih C' M' D' _ _ hi' (by omega) (by omega)
set_option maxHeartbeats 4000000 in
theorem law_reads {l : Launch} {g : gE} {d MC MS' : Nat} {nm : String} {Q : Option Value → AH → Prop} {inv : CS → MS → List va_E → Prop} (hd : 64 ≤ d) (H : specs inv) {C : CS} {M : MS} {D : List va_E} (hi : inv C M D) {k n : Nat} (hk : k + 6 ≤ MC) (hn : n + 8222 ≤ MS') {l3 : Int32} (hb1 : vp_in (l3 + 1) (gL g)) (hb2 : vp_in (l3 + 2) (gL g)) (hb3 : vp_in (l3 + 3) (gL g)) (hb4 : vp_in (l3 + 4) (gL g)) (hb5 : vp_in (l3 + 5) (gL g))
    (ih : ∀ (C : CS) (M : MS) (D : List va_E) (k' n' : Nat), inv C M D → k' ≤ k + 6 → n' ≤ n + 8222 → AW l g d RL cL_law 4 nm MC MS' Q k' n' 1307 [some (.retAddr 12), some (.ref 0), some (.ref 26), some (.int l3)] [] (mh (ccells C) M D)) : AW l g d RL cL_law 4 nm MC MS' Q k n 282 [some (.retAddr 12), some (.ref 0), some (.ref 26), some (.int l3)] [] (mh (ccells C) M D) := by
  obtain ⟨r, C', M', D', e7, e8, hi'⟩ := H.2.2.2.2.1 C M D (gX g (l3 + 1).toNatClampNeg) (gX g (l3 + 2).toNatClampNeg) hi
  refine a_aload_n (pc := 282) dL_law_282 rfl (isRv_r _) ?_
  refine a_aload_n (pc := 283) dL_law_283 rfl (isRv_o _) ?_
  refine a_iload_n (pc := 284) dL_law_284 rfl ?_
  refine a_iconst (pc := 285) 1 dL_law_285 rfl ?_
  refine a_iadd (pc := 286) dL_law_286 ?_
  refine a_old12 (pc := 287) dL_law_287 hb1 ?_
  refine a_aload_n (pc := 288) dL_law_288 rfl (isRv_o _) ?_
  refine a_iload_n (pc := 289) dL_law_289 rfl ?_
  refine a_iconst (pc := 290) 2 dL_law_290 rfl ?_
  refine a_iadd (pc := 291) dL_law_291 ?_
  refine a_old12 (pc := 292) dL_law_292 hb2 ?_
  refine g_call (pc := 293) (ci := 7) (mc := 0) (ms := 0) (.int r) [.int (gX g (l3 + 1).toNatClampNeg), .int (gX g (l3 + 2).toNatClampNeg)] [] dL_law_293 ml_L_31 mv_X7_reads ⟨_, rfl⟩ (by decide) rfl rfl (by omega) (mX7_reads (by omega) e7) rfl (Nat.le_of_ble_eq_true rfl) (by omega) (by omega) ?_
  refine a_aload_n (pc := 296) dL_law_296 rfl (isRv_r _) ?_
  refine a_aload_n (pc := 297) dL_law_297 rfl (isRv_o _) ?_
  refine a_iload_n (pc := 298) dL_law_298 rfl ?_
  refine a_iconst (pc := 299) 1 dL_law_299 rfl ?_
  refine a_iadd (pc := 300) dL_law_300 ?_
  refine a_old12 (pc := 301) dL_law_301 hb1 ?_
  refine a_aload_n (pc := 302) dL_law_302 rfl (isRv_o _) ?_
  refine a_iload_n (pc := 303) dL_law_303 rfl ?_
  refine a_iconst (pc := 304) 2 dL_law_304 rfl ?_
  refine a_iadd (pc := 305) dL_law_305 ?_
  refine a_old12 (pc := 306) dL_law_306 hb2 ?_
  refine m_call (pc := 307) (.int r) [.int (gX g (l3 + 1).toNatClampNeg), .int (gX g (l3 + 2).toNatClampNeg)] [.int r] (cc_len C') dL_law_307 ml_L_34 mv_X8_reads rfl rfl (by omega) (mX8_reads (cc_len C') (by omega) e8) rfl (Nat.le_of_ble_eq_true rfl) (by omega) (by omega) ?_
  refine a_icmp_eq (pc := 310) 1307 dL_law_310 (by decide) (fun _ => ?_) (fun c => absurd rfl c)
  exact ih C' M' D' _ _ hi' (by omega) (by omega)
set_option maxHeartbeats 4000000 in
theorem law_means {l : Launch} {g : gE} {d MC MS' : Nat} {nm : String} {Q : Option Value → AH → Prop} {inv : CS → MS → List va_E → Prop} (hd : 64 ≤ d) (H : specs inv) {C : CS} {M : MS} {D : List va_E} (hi : inv C M D) {k n : Nat} (hk : k + 6 ≤ MC) (hn : n + 8222 ≤ MS') {l3 : Int32} (hb1 : vp_in (l3 + 1) (gL g)) (hb2 : vp_in (l3 + 2) (gL g)) (hb3 : vp_in (l3 + 3) (gL g)) (hb4 : vp_in (l3 + 4) (gL g)) (hb5 : vp_in (l3 + 5) (gL g))
    (ih : ∀ (C : CS) (M : MS) (D : List va_E) (k' n' : Nat), inv C M D → k' ≤ k + 6 → n' ≤ n + 8222 → AW l g d RL cL_law 4 nm MC MS' Q k' n' 1307 [some (.retAddr 12), some (.ref 0), some (.ref 26), some (.int l3)] [] (mh (ccells C) M D)) : AW l g d RL cL_law 4 nm MC MS' Q k n 315 [some (.retAddr 12), some (.ref 0), some (.ref 26), some (.int l3)] [] (mh (ccells C) M D) := by
  obtain ⟨r, C', M', D', e7, e8, hi'⟩ := H.2.2.2.2.2.1 C M D (gX g (l3 + 1).toNatClampNeg) (gX g (l3 + 2).toNatClampNeg) (gX g (l3 + 3).toNatClampNeg) hi
  refine a_aload_n (pc := 315) dL_law_315 rfl (isRv_r _) ?_
  refine a_aload_n (pc := 316) dL_law_316 rfl (isRv_o _) ?_
  refine a_iload_n (pc := 317) dL_law_317 rfl ?_
  refine a_iconst (pc := 318) 1 dL_law_318 rfl ?_
  refine a_iadd (pc := 319) dL_law_319 ?_
  refine a_old12 (pc := 320) dL_law_320 hb1 ?_
  refine a_aload_n (pc := 321) dL_law_321 rfl (isRv_o _) ?_
  refine a_iload_n (pc := 322) dL_law_322 rfl ?_
  refine a_iconst (pc := 323) 2 dL_law_323 rfl ?_
  refine a_iadd (pc := 324) dL_law_324 ?_
  refine a_old12 (pc := 325) dL_law_325 hb2 ?_
  refine a_aload_n (pc := 326) dL_law_326 rfl (isRv_o _) ?_
  refine a_iload_n (pc := 327) dL_law_327 rfl ?_
  refine a_iconst (pc := 328) 3 dL_law_328 rfl ?_
  refine a_iadd (pc := 329) dL_law_329 ?_
  refine a_old12 (pc := 330) dL_law_330 hb3 ?_
  refine g_call (pc := 331) (ci := 7) (mc := 0) (ms := 0) (.long r) [.int (gX g (l3 + 1).toNatClampNeg), .int (gX g (l3 + 2).toNatClampNeg), .int (gX g (l3 + 3).toNatClampNeg)] [] dL_law_331 ml_L_35 mv_X7_means ⟨_, rfl⟩ (by decide) rfl rfl (by omega) (mX7_means (by omega) e7) rfl (Nat.le_of_ble_eq_true rfl) (by omega) (by omega) ?_
  refine a_aload_n (pc := 334) dL_law_334 rfl (isRv_r _) ?_
  refine a_aload_n (pc := 335) dL_law_335 rfl (isRv_o _) ?_
  refine a_iload_n (pc := 336) dL_law_336 rfl ?_
  refine a_iconst (pc := 337) 1 dL_law_337 rfl ?_
  refine a_iadd (pc := 338) dL_law_338 ?_
  refine a_old12 (pc := 339) dL_law_339 hb1 ?_
  refine a_aload_n (pc := 340) dL_law_340 rfl (isRv_o _) ?_
  refine a_iload_n (pc := 341) dL_law_341 rfl ?_
  refine a_iconst (pc := 342) 2 dL_law_342 rfl ?_
  refine a_iadd (pc := 343) dL_law_343 ?_
  refine a_old12 (pc := 344) dL_law_344 hb2 ?_
  refine a_aload_n (pc := 345) dL_law_345 rfl (isRv_o _) ?_
  refine a_iload_n (pc := 346) dL_law_346 rfl ?_
  refine a_iconst (pc := 347) 3 dL_law_347 rfl ?_
  refine a_iadd (pc := 348) dL_law_348 ?_
  refine a_old12 (pc := 349) dL_law_349 hb3 ?_
  refine m_call (pc := 350) (.long r) [.int (gX g (l3 + 1).toNatClampNeg), .int (gX g (l3 + 2).toNatClampNeg), .int (gX g (l3 + 3).toNatClampNeg)] [.long r] (cc_len C') dL_law_350 ml_L_39 mv_X8_means rfl rfl (by omega) (mX8_means (cc_len C') (by omega) e8) rfl (Nat.le_of_ble_eq_true rfl) (by omega) (by omega) ?_
  refine a_lcmp (pc := 353) dL_law_353 ?_
  rw [lg_self]
  refine a_if_eq (pc := 354) 1307 dL_law_354 (by decide) (fun _ => ?_) (fun c => absurd rfl c)
  exact ih C' M' D' _ _ hi' (by omega) (by omega)
set_option maxHeartbeats 4000000 in
theorem law_lawful {l : Launch} {g : gE} {d MC MS' : Nat} {nm : String} {Q : Option Value → AH → Prop} {inv : CS → MS → List va_E → Prop} (hd : 64 ≤ d) (H : specs inv) {C : CS} {M : MS} {D : List va_E} (hi : inv C M D) {k n : Nat} (hk : k + 6 ≤ MC) (hn : n + 8222 ≤ MS') {l3 : Int32} (hb1 : vp_in (l3 + 1) (gL g)) (hb2 : vp_in (l3 + 2) (gL g)) (hb3 : vp_in (l3 + 3) (gL g)) (hb4 : vp_in (l3 + 4) (gL g)) (hb5 : vp_in (l3 + 5) (gL g))
    (ih : ∀ (C : CS) (M : MS) (D : List va_E) (k' n' : Nat), inv C M D → k' ≤ k + 6 → n' ≤ n + 8222 → AW l g d RL cL_law 4 nm MC MS' Q k' n' 1307 [some (.retAddr 12), some (.ref 0), some (.ref 26), some (.int l3)] [] (mh (ccells C) M D)) : AW l g d RL cL_law 4 nm MC MS' Q k n 359 [some (.retAddr 12), some (.ref 0), some (.ref 26), some (.int l3)] [] (mh (ccells C) M D) := by
  obtain ⟨r, C', M', D', e7, e8, hi'⟩ := H.2.2.2.2.2.2.1 C M D (gX g (l3 + 1).toNatClampNeg) (gX g (l3 + 2).toNatClampNeg) (gX g (l3 + 3).toNatClampNeg) hi
  refine a_aload_n (pc := 359) dL_law_359 rfl (isRv_r _) ?_
  refine a_aload_n (pc := 360) dL_law_360 rfl (isRv_o _) ?_
  refine a_iload_n (pc := 361) dL_law_361 rfl ?_
  refine a_iconst (pc := 362) 1 dL_law_362 rfl ?_
  refine a_iadd (pc := 363) dL_law_363 ?_
  refine a_old12 (pc := 364) dL_law_364 hb1 ?_
  refine a_aload_n (pc := 365) dL_law_365 rfl (isRv_o _) ?_
  refine a_iload_n (pc := 366) dL_law_366 rfl ?_
  refine a_iconst (pc := 367) 2 dL_law_367 rfl ?_
  refine a_iadd (pc := 368) dL_law_368 ?_
  refine a_old12 (pc := 369) dL_law_369 hb2 ?_
  refine a_aload_n (pc := 370) dL_law_370 rfl (isRv_o _) ?_
  refine a_iload_n (pc := 371) dL_law_371 rfl ?_
  refine a_iconst (pc := 372) 3 dL_law_372 rfl ?_
  refine a_iadd (pc := 373) dL_law_373 ?_
  refine a_old12 (pc := 374) dL_law_374 hb3 ?_
  refine g_call (pc := 375) (ci := 7) (mc := 0) (ms := 0) (.int r) [.int (gX g (l3 + 1).toNatClampNeg), .int (gX g (l3 + 2).toNatClampNeg), .int (gX g (l3 + 3).toNatClampNeg)] [] dL_law_375 ml_L_40 mv_X7_lawful ⟨_, rfl⟩ (by decide) rfl rfl (by omega) (mX7_lawful (by omega) e7) rfl (Nat.le_of_ble_eq_true rfl) (by omega) (by omega) ?_
  refine a_aload_n (pc := 378) dL_law_378 rfl (isRv_r _) ?_
  refine a_aload_n (pc := 379) dL_law_379 rfl (isRv_o _) ?_
  refine a_iload_n (pc := 380) dL_law_380 rfl ?_
  refine a_iconst (pc := 381) 1 dL_law_381 rfl ?_
  refine a_iadd (pc := 382) dL_law_382 ?_
  refine a_old12 (pc := 383) dL_law_383 hb1 ?_
  refine a_aload_n (pc := 384) dL_law_384 rfl (isRv_o _) ?_
  refine a_iload_n (pc := 385) dL_law_385 rfl ?_
  refine a_iconst (pc := 386) 2 dL_law_386 rfl ?_
  refine a_iadd (pc := 387) dL_law_387 ?_
  refine a_old12 (pc := 388) dL_law_388 hb2 ?_
  refine a_aload_n (pc := 389) dL_law_389 rfl (isRv_o _) ?_
  refine a_iload_n (pc := 390) dL_law_390 rfl ?_
  refine a_iconst (pc := 391) 3 dL_law_391 rfl ?_
  refine a_iadd (pc := 392) dL_law_392 ?_
  refine a_old12 (pc := 393) dL_law_393 hb3 ?_
  refine m_call (pc := 394) (.int r) [.int (gX g (l3 + 1).toNatClampNeg), .int (gX g (l3 + 2).toNatClampNeg), .int (gX g (l3 + 3).toNatClampNeg)] [.int r] (cc_len C') dL_law_394 ml_L_44 mv_X8_lawful rfl rfl (by omega) (mX8_lawful (cc_len C') (by omega) e8) rfl (Nat.le_of_ble_eq_true rfl) (by omega) (by omega) ?_
  refine a_icmp_eq (pc := 397) 1307 dL_law_397 (by decide) (fun _ => ?_) (fun c => absurd rfl c)
  exact ih C' M' D' _ _ hi' (by omega) (by omega)
set_option maxHeartbeats 4000000 in
theorem law_barred {l : Launch} {g : gE} {d MC MS' : Nat} {nm : String} {Q : Option Value → AH → Prop} {inv : CS → MS → List va_E → Prop} (hd : 64 ≤ d) (H : specs inv) {C : CS} {M : MS} {D : List va_E} (hi : inv C M D) {k n : Nat} (hk : k + 6 ≤ MC) (hn : n + 8222 ≤ MS') {l3 : Int32} (hb1 : vp_in (l3 + 1) (gL g)) (hb2 : vp_in (l3 + 2) (gL g)) (hb3 : vp_in (l3 + 3) (gL g)) (hb4 : vp_in (l3 + 4) (gL g)) (hb5 : vp_in (l3 + 5) (gL g))
    (ih : ∀ (C : CS) (M : MS) (D : List va_E) (k' n' : Nat), inv C M D → k' ≤ k + 6 → n' ≤ n + 8222 → AW l g d RL cL_law 4 nm MC MS' Q k' n' 1307 [some (.retAddr 12), some (.ref 0), some (.ref 26), some (.int l3)] [] (mh (ccells C) M D)) : AW l g d RL cL_law 4 nm MC MS' Q k n 402 [some (.retAddr 12), some (.ref 0), some (.ref 26), some (.int l3)] [] (mh (ccells C) M D) := by
  obtain ⟨r, C', M', D', e7, e8, hi'⟩ := H.2.2.2.2.2.2.2.1 C M D (gX g (l3 + 1).toNatClampNeg) (gX g (l3 + 2).toNatClampNeg) (gX g (l3 + 3).toNatClampNeg) hi
  refine a_aload_n (pc := 402) dL_law_402 rfl (isRv_r _) ?_
  refine a_aload_n (pc := 403) dL_law_403 rfl (isRv_o _) ?_
  refine a_iload_n (pc := 404) dL_law_404 rfl ?_
  refine a_iconst (pc := 405) 1 dL_law_405 rfl ?_
  refine a_iadd (pc := 406) dL_law_406 ?_
  refine a_old12 (pc := 407) dL_law_407 hb1 ?_
  refine a_aload_n (pc := 408) dL_law_408 rfl (isRv_o _) ?_
  refine a_iload_n (pc := 409) dL_law_409 rfl ?_
  refine a_iconst (pc := 410) 2 dL_law_410 rfl ?_
  refine a_iadd (pc := 411) dL_law_411 ?_
  refine a_old12 (pc := 412) dL_law_412 hb2 ?_
  refine a_aload_n (pc := 413) dL_law_413 rfl (isRv_o _) ?_
  refine a_iload_n (pc := 414) dL_law_414 rfl ?_
  refine a_iconst (pc := 415) 3 dL_law_415 rfl ?_
  refine a_iadd (pc := 416) dL_law_416 ?_
  refine a_old12 (pc := 417) dL_law_417 hb3 ?_
  refine g_call (pc := 418) (ci := 7) (mc := 0) (ms := 0) (.int r) [.int (gX g (l3 + 1).toNatClampNeg), .int (gX g (l3 + 2).toNatClampNeg), .int (gX g (l3 + 3).toNatClampNeg)] [] dL_law_418 ml_L_45 mv_X7_barred ⟨_, rfl⟩ (by decide) rfl rfl (by omega) (mX7_barred (by omega) e7) rfl (Nat.le_of_ble_eq_true rfl) (by omega) (by omega) ?_
  refine a_aload_n (pc := 421) dL_law_421 rfl (isRv_r _) ?_
  refine a_aload_n (pc := 422) dL_law_422 rfl (isRv_o _) ?_
  refine a_iload_n (pc := 423) dL_law_423 rfl ?_
  refine a_iconst (pc := 424) 1 dL_law_424 rfl ?_
  refine a_iadd (pc := 425) dL_law_425 ?_
  refine a_old12 (pc := 426) dL_law_426 hb1 ?_
  refine a_aload_n (pc := 427) dL_law_427 rfl (isRv_o _) ?_
  refine a_iload_n (pc := 428) dL_law_428 rfl ?_
  refine a_iconst (pc := 429) 2 dL_law_429 rfl ?_
  refine a_iadd (pc := 430) dL_law_430 ?_
  refine a_old12 (pc := 431) dL_law_431 hb2 ?_
  refine a_aload_n (pc := 432) dL_law_432 rfl (isRv_o _) ?_
  refine a_iload_n (pc := 433) dL_law_433 rfl ?_
  refine a_iconst (pc := 434) 3 dL_law_434 rfl ?_
  refine a_iadd (pc := 435) dL_law_435 ?_
  refine a_old12 (pc := 436) dL_law_436 hb3 ?_
  refine m_call (pc := 437) (.int r) [.int (gX g (l3 + 1).toNatClampNeg), .int (gX g (l3 + 2).toNatClampNeg), .int (gX g (l3 + 3).toNatClampNeg)] [.int r] (cc_len C') dL_law_437 ml_L_48 mv_X8_barred rfl rfl (by omega) (mX8_barred (cc_len C') (by omega) e8) rfl (Nat.le_of_ble_eq_true rfl) (by omega) (by omega) ?_
  refine a_icmp_eq (pc := 440) 1307 dL_law_440 (by decide) (fun _ => ?_) (fun c => absurd rfl c)
  exact ih C' M' D' _ _ hi' (by omega) (by omega)
set_option maxHeartbeats 4000000 in
theorem law_let {l : Launch} {g : gE} {d MC MS' : Nat} {nm : String} {Q : Option Value → AH → Prop} {inv : CS → MS → List va_E → Prop} (hd : 64 ≤ d) (H : specs inv) {C : CS} {M : MS} {D : List va_E} (hi : inv C M D) {k n : Nat} (hk : k + 6 ≤ MC) (hn : n + 8222 ≤ MS') {l3 : Int32} (hb1 : vp_in (l3 + 1) (gL g)) (hb2 : vp_in (l3 + 2) (gL g)) (hb3 : vp_in (l3 + 3) (gL g)) (hb4 : vp_in (l3 + 4) (gL g)) (hb5 : vp_in (l3 + 5) (gL g))
    (ih : ∀ (C : CS) (M : MS) (D : List va_E) (k' n' : Nat), inv C M D → k' ≤ k + 6 → n' ≤ n + 8222 → AW l g d RL cL_law 4 nm MC MS' Q k' n' 1307 [some (.retAddr 12), some (.ref 0), some (.ref 26), some (.int l3)] [] (mh (ccells C) M D)) : AW l g d RL cL_law 4 nm MC MS' Q k n 445 [some (.retAddr 12), some (.ref 0), some (.ref 26), some (.int l3)] [] (mh (ccells C) M D) := by
  obtain ⟨r, C', M', D', e7, e8, hi'⟩ := H.2.2.2.2.2.2.2.2.1 C M D (gX g (l3 + 1).toNatClampNeg) (gX g (l3 + 2).toNatClampNeg) (gX g (l3 + 3).toNatClampNeg) hi
  refine a_aload_n (pc := 445) dL_law_445 rfl (isRv_r _) ?_
  refine a_aload_n (pc := 446) dL_law_446 rfl (isRv_o _) ?_
  refine a_iload_n (pc := 447) dL_law_447 rfl ?_
  refine a_iconst (pc := 448) 1 dL_law_448 rfl ?_
  refine a_iadd (pc := 449) dL_law_449 ?_
  refine a_old12 (pc := 450) dL_law_450 hb1 ?_
  refine a_aload_n (pc := 451) dL_law_451 rfl (isRv_o _) ?_
  refine a_iload_n (pc := 452) dL_law_452 rfl ?_
  refine a_iconst (pc := 453) 2 dL_law_453 rfl ?_
  refine a_iadd (pc := 454) dL_law_454 ?_
  refine a_old12 (pc := 455) dL_law_455 hb2 ?_
  refine a_aload_n (pc := 456) dL_law_456 rfl (isRv_o _) ?_
  refine a_iload_n (pc := 457) dL_law_457 rfl ?_
  refine a_iconst (pc := 458) 3 dL_law_458 rfl ?_
  refine a_iadd (pc := 459) dL_law_459 ?_
  refine a_old12 (pc := 460) dL_law_460 hb3 ?_
  refine g_call (pc := 461) (ci := 7) (mc := 0) (ms := 0) (.int r) [.int (gX g (l3 + 1).toNatClampNeg), .int (gX g (l3 + 2).toNatClampNeg), .int (gX g (l3 + 3).toNatClampNeg)] [] dL_law_461 ml_L_49 mv_X7_let ⟨_, rfl⟩ (by decide) rfl rfl (by omega) (mX7_let (by omega) e7) rfl (Nat.le_of_ble_eq_true rfl) (by omega) (by omega) ?_
  refine a_aload_n (pc := 464) dL_law_464 rfl (isRv_r _) ?_
  refine a_aload_n (pc := 465) dL_law_465 rfl (isRv_o _) ?_
  refine a_iload_n (pc := 466) dL_law_466 rfl ?_
  refine a_iconst (pc := 467) 1 dL_law_467 rfl ?_
  refine a_iadd (pc := 468) dL_law_468 ?_
  refine a_old12 (pc := 469) dL_law_469 hb1 ?_
  refine a_aload_n (pc := 470) dL_law_470 rfl (isRv_o _) ?_
  refine a_iload_n (pc := 471) dL_law_471 rfl ?_
  refine a_iconst (pc := 472) 2 dL_law_472 rfl ?_
  refine a_iadd (pc := 473) dL_law_473 ?_
  refine a_old12 (pc := 474) dL_law_474 hb2 ?_
  refine a_aload_n (pc := 475) dL_law_475 rfl (isRv_o _) ?_
  refine a_iload_n (pc := 476) dL_law_476 rfl ?_
  refine a_iconst (pc := 477) 3 dL_law_477 rfl ?_
  refine a_iadd (pc := 478) dL_law_478 ?_
  refine a_old12 (pc := 479) dL_law_479 hb3 ?_
  refine m_call (pc := 480) (.int r) [.int (gX g (l3 + 1).toNatClampNeg), .int (gX g (l3 + 2).toNatClampNeg), .int (gX g (l3 + 3).toNatClampNeg)] [.int r] (cc_len C') dL_law_480 ml_L_52 mv_X8_let rfl rfl (by omega) (mX8_let (cc_len C') (by omega) e8) rfl (Nat.le_of_ble_eq_true rfl) (by omega) (by omega) ?_
  refine a_icmp_eq (pc := 483) 1307 dL_law_483 (by decide) (fun _ => ?_) (fun c => absurd rfl c)
  exact ih C' M' D' _ _ hi' (by omega) (by omega)
set_option maxHeartbeats 4000000 in
theorem law_good {l : Launch} {g : gE} {d MC MS' : Nat} {nm : String} {Q : Option Value → AH → Prop} {inv : CS → MS → List va_E → Prop} (hd : 64 ≤ d) (H : specs inv) {C : CS} {M : MS} {D : List va_E} (hi : inv C M D) {k n : Nat} (hk : k + 6 ≤ MC) (hn : n + 8222 ≤ MS') {l3 : Int32} (hb1 : vp_in (l3 + 1) (gL g)) (hb2 : vp_in (l3 + 2) (gL g)) (hb3 : vp_in (l3 + 3) (gL g)) (hb4 : vp_in (l3 + 4) (gL g)) (hb5 : vp_in (l3 + 5) (gL g))
    (ih : ∀ (C : CS) (M : MS) (D : List va_E) (k' n' : Nat), inv C M D → k' ≤ k + 6 → n' ≤ n + 8222 → AW l g d RL cL_law 4 nm MC MS' Q k' n' 1307 [some (.retAddr 12), some (.ref 0), some (.ref 26), some (.int l3)] [] (mh (ccells C) M D)) : AW l g d RL cL_law 4 nm MC MS' Q k n 488 [some (.retAddr 12), some (.ref 0), some (.ref 26), some (.int l3)] [] (mh (ccells C) M D) := by
  obtain ⟨r, C', M', D', e7, e8, hi'⟩ := H.2.2.2.2.2.2.2.2.2.1 C M D (gX g (l3 + 1).toNatClampNeg) (gX g (l3 + 2).toNatClampNeg) (gX g (l3 + 3).toNatClampNeg) (gX g (l3 + 4).toNatClampNeg) hi
  refine a_aload_n (pc := 488) dL_law_488 rfl (isRv_r _) ?_
  refine a_aload_n (pc := 489) dL_law_489 rfl (isRv_o _) ?_
  refine a_iload_n (pc := 490) dL_law_490 rfl ?_
  refine a_iconst (pc := 491) 1 dL_law_491 rfl ?_
  refine a_iadd (pc := 492) dL_law_492 ?_
  refine a_old12 (pc := 493) dL_law_493 hb1 ?_
  refine a_aload_n (pc := 494) dL_law_494 rfl (isRv_o _) ?_
  refine a_iload_n (pc := 495) dL_law_495 rfl ?_
  refine a_iconst (pc := 496) 2 dL_law_496 rfl ?_
  refine a_iadd (pc := 497) dL_law_497 ?_
  refine a_old12 (pc := 498) dL_law_498 hb2 ?_
  refine a_aload_n (pc := 499) dL_law_499 rfl (isRv_o _) ?_
  refine a_iload_n (pc := 500) dL_law_500 rfl ?_
  refine a_iconst (pc := 501) 3 dL_law_501 rfl ?_
  refine a_iadd (pc := 502) dL_law_502 ?_
  refine a_old12 (pc := 503) dL_law_503 hb3 ?_
  refine a_aload_n (pc := 504) dL_law_504 rfl (isRv_o _) ?_
  refine a_iload_n (pc := 505) dL_law_505 rfl ?_
  refine a_iconst (pc := 506) 4 dL_law_506 rfl ?_
  refine a_iadd (pc := 507) dL_law_507 ?_
  refine a_old12 (pc := 508) dL_law_508 hb4 ?_
  refine g_call (pc := 509) (ci := 7) (mc := 0) (ms := 0) (.int r) [.int (gX g (l3 + 1).toNatClampNeg), .int (gX g (l3 + 2).toNatClampNeg), .int (gX g (l3 + 3).toNatClampNeg), .int (gX g (l3 + 4).toNatClampNeg)] [] dL_law_509 ml_L_53 mv_X7_good ⟨_, rfl⟩ (by decide) rfl rfl (by omega) (mX7_good (by omega) e7) rfl (Nat.le_of_ble_eq_true rfl) (by omega) (by omega) ?_
  refine a_aload_n (pc := 512) dL_law_512 rfl (isRv_r _) ?_
  refine a_aload_n (pc := 513) dL_law_513 rfl (isRv_o _) ?_
  refine a_iload_n (pc := 514) dL_law_514 rfl ?_
  refine a_iconst (pc := 515) 1 dL_law_515 rfl ?_
  refine a_iadd (pc := 516) dL_law_516 ?_
  refine a_old12 (pc := 517) dL_law_517 hb1 ?_
  refine a_aload_n (pc := 518) dL_law_518 rfl (isRv_o _) ?_
  refine a_iload_n (pc := 519) dL_law_519 rfl ?_
  refine a_iconst (pc := 520) 2 dL_law_520 rfl ?_
  refine a_iadd (pc := 521) dL_law_521 ?_
  refine a_old12 (pc := 522) dL_law_522 hb2 ?_
  refine a_aload_n (pc := 523) dL_law_523 rfl (isRv_o _) ?_
  refine a_iload_n (pc := 524) dL_law_524 rfl ?_
  refine a_iconst (pc := 525) 3 dL_law_525 rfl ?_
  refine a_iadd (pc := 526) dL_law_526 ?_
  refine a_old12 (pc := 527) dL_law_527 hb3 ?_
  refine a_aload_n (pc := 528) dL_law_528 rfl (isRv_o _) ?_
  refine a_iload_n (pc := 529) dL_law_529 rfl ?_
  refine a_iconst (pc := 530) 4 dL_law_530 rfl ?_
  refine a_iadd (pc := 531) dL_law_531 ?_
  refine a_old12 (pc := 532) dL_law_532 hb4 ?_
  refine m_call (pc := 533) (.int r) [.int (gX g (l3 + 1).toNatClampNeg), .int (gX g (l3 + 2).toNatClampNeg), .int (gX g (l3 + 3).toNatClampNeg), .int (gX g (l3 + 4).toNatClampNeg)] [.int r] (cc_len C') dL_law_533 ml_L_57 mv_X8_good rfl rfl (by omega) (mX8_good (cc_len C') (by omega) e8) rfl (Nat.le_of_ble_eq_true rfl) (by omega) (by omega) ?_
  refine a_icmp_eq (pc := 536) 1307 dL_law_536 (by decide) (fun _ => ?_) (fun c => absurd rfl c)
  exact ih C' M' D' _ _ hi' (by omega) (by omega)
set_option maxHeartbeats 4000000 in
theorem law_next {l : Launch} {g : gE} {d MC MS' : Nat} {nm : String} {Q : Option Value → AH → Prop} {inv : CS → MS → List va_E → Prop} (hd : 64 ≤ d) (H : specs inv) {C : CS} {M : MS} {D : List va_E} (hi : inv C M D) {k n : Nat} (hk : k + 6 ≤ MC) (hn : n + 8222 ≤ MS') {l3 : Int32} (hb1 : vp_in (l3 + 1) (gL g)) (hb2 : vp_in (l3 + 2) (gL g)) (hb3 : vp_in (l3 + 3) (gL g)) (hb4 : vp_in (l3 + 4) (gL g)) (hb5 : vp_in (l3 + 5) (gL g))
    (ih : ∀ (C : CS) (M : MS) (D : List va_E) (k' n' : Nat), inv C M D → k' ≤ k + 6 → n' ≤ n + 8222 → AW l g d RL cL_law 4 nm MC MS' Q k' n' 1307 [some (.retAddr 12), some (.ref 0), some (.ref 26), some (.int l3)] [] (mh (ccells C) M D)) : AW l g d RL cL_law 4 nm MC MS' Q k n 541 [some (.retAddr 12), some (.ref 0), some (.ref 26), some (.int l3)] [] (mh (ccells C) M D) := by
  obtain ⟨r, C', M', D', e7, e8, hi'⟩ := H.2.2.2.2.2.2.2.2.2.2.1 C M D (gX g (l3 + 1).toNatClampNeg) (gX g (l3 + 2).toNatClampNeg) (gX g (l3 + 3).toNatClampNeg) (gX g (l3 + 4).toNatClampNeg) hi
  refine a_aload_n (pc := 541) dL_law_541 rfl (isRv_r _) ?_
  refine a_aload_n (pc := 542) dL_law_542 rfl (isRv_o _) ?_
  refine a_iload_n (pc := 543) dL_law_543 rfl ?_
  refine a_iconst (pc := 544) 1 dL_law_544 rfl ?_
  refine a_iadd (pc := 545) dL_law_545 ?_
  refine a_old12 (pc := 546) dL_law_546 hb1 ?_
  refine a_aload_n (pc := 547) dL_law_547 rfl (isRv_o _) ?_
  refine a_iload_n (pc := 548) dL_law_548 rfl ?_
  refine a_iconst (pc := 549) 2 dL_law_549 rfl ?_
  refine a_iadd (pc := 550) dL_law_550 ?_
  refine a_old12 (pc := 551) dL_law_551 hb2 ?_
  refine a_aload_n (pc := 552) dL_law_552 rfl (isRv_o _) ?_
  refine a_iload_n (pc := 553) dL_law_553 rfl ?_
  refine a_iconst (pc := 554) 3 dL_law_554 rfl ?_
  refine a_iadd (pc := 555) dL_law_555 ?_
  refine a_old12 (pc := 556) dL_law_556 hb3 ?_
  refine a_aload_n (pc := 557) dL_law_557 rfl (isRv_o _) ?_
  refine a_iload_n (pc := 558) dL_law_558 rfl ?_
  refine a_iconst (pc := 559) 4 dL_law_559 rfl ?_
  refine a_iadd (pc := 560) dL_law_560 ?_
  refine a_old12 (pc := 561) dL_law_561 hb4 ?_
  refine g_call (pc := 562) (ci := 7) (mc := 0) (ms := 0) (.int r) [.int (gX g (l3 + 1).toNatClampNeg), .int (gX g (l3 + 2).toNatClampNeg), .int (gX g (l3 + 3).toNatClampNeg), .int (gX g (l3 + 4).toNatClampNeg)] [] dL_law_562 ml_L_58 mv_X7_next ⟨_, rfl⟩ (by decide) rfl rfl (by omega) (mX7_next (by omega) e7) rfl (Nat.le_of_ble_eq_true rfl) (by omega) (by omega) ?_
  refine a_aload_n (pc := 565) dL_law_565 rfl (isRv_r _) ?_
  refine a_aload_n (pc := 566) dL_law_566 rfl (isRv_o _) ?_
  refine a_iload_n (pc := 567) dL_law_567 rfl ?_
  refine a_iconst (pc := 568) 1 dL_law_568 rfl ?_
  refine a_iadd (pc := 569) dL_law_569 ?_
  refine a_old12 (pc := 570) dL_law_570 hb1 ?_
  refine a_aload_n (pc := 571) dL_law_571 rfl (isRv_o _) ?_
  refine a_iload_n (pc := 572) dL_law_572 rfl ?_
  refine a_iconst (pc := 573) 2 dL_law_573 rfl ?_
  refine a_iadd (pc := 574) dL_law_574 ?_
  refine a_old12 (pc := 575) dL_law_575 hb2 ?_
  refine a_aload_n (pc := 576) dL_law_576 rfl (isRv_o _) ?_
  refine a_iload_n (pc := 577) dL_law_577 rfl ?_
  refine a_iconst (pc := 578) 3 dL_law_578 rfl ?_
  refine a_iadd (pc := 579) dL_law_579 ?_
  refine a_old12 (pc := 580) dL_law_580 hb3 ?_
  refine a_aload_n (pc := 581) dL_law_581 rfl (isRv_o _) ?_
  refine a_iload_n (pc := 582) dL_law_582 rfl ?_
  refine a_iconst (pc := 583) 4 dL_law_583 rfl ?_
  refine a_iadd (pc := 584) dL_law_584 ?_
  refine a_old12 (pc := 585) dL_law_585 hb4 ?_
  refine m_call (pc := 586) (.int r) [.int (gX g (l3 + 1).toNatClampNeg), .int (gX g (l3 + 2).toNatClampNeg), .int (gX g (l3 + 3).toNatClampNeg), .int (gX g (l3 + 4).toNatClampNeg)] [.int r] (cc_len C') dL_law_586 ml_L_61 mv_X8_next_ rfl rfl (by omega) (mX8_next_ (cc_len C') (by omega) e8) rfl (Nat.le_of_ble_eq_true rfl) (by omega) (by omega) ?_
  refine a_icmp_eq (pc := 589) 1307 dL_law_589 (by decide) (fun _ => ?_) (fun c => absurd rfl c)
  exact ih C' M' D' _ _ hi' (by omega) (by omega)
set_option maxHeartbeats 4000000 in
theorem law_least {l : Launch} {g : gE} {d MC MS' : Nat} {nm : String} {Q : Option Value → AH → Prop} {inv : CS → MS → List va_E → Prop} (hd : 64 ≤ d) (H : specs inv) {C : CS} {M : MS} {D : List va_E} (hi : inv C M D) {k n : Nat} (hk : k + 6 ≤ MC) (hn : n + 8222 ≤ MS') {l3 : Int32} (hb1 : vp_in (l3 + 1) (gL g)) (hb2 : vp_in (l3 + 2) (gL g)) (hb3 : vp_in (l3 + 3) (gL g)) (hb4 : vp_in (l3 + 4) (gL g)) (hb5 : vp_in (l3 + 5) (gL g))
    (ih : ∀ (C : CS) (M : MS) (D : List va_E) (k' n' : Nat), inv C M D → k' ≤ k + 6 → n' ≤ n + 8222 → AW l g d RL cL_law 4 nm MC MS' Q k' n' 1307 [some (.retAddr 12), some (.ref 0), some (.ref 26), some (.int l3)] [] (mh (ccells C) M D)) : AW l g d RL cL_law 4 nm MC MS' Q k n 594 [some (.retAddr 12), some (.ref 0), some (.ref 26), some (.int l3)] [] (mh (ccells C) M D) := by
  obtain ⟨r, C', M', D', e7, e8, hi'⟩ := H.2.2.2.2.2.2.2.2.2.2.2.1 C M D (gX g (l3 + 1).toNatClampNeg) (gX g (l3 + 2).toNatClampNeg) (gX g (l3 + 3).toNatClampNeg) hi
  refine a_aload_n (pc := 594) dL_law_594 rfl (isRv_r _) ?_
  refine a_aload_n (pc := 595) dL_law_595 rfl (isRv_o _) ?_
  refine a_iload_n (pc := 596) dL_law_596 rfl ?_
  refine a_iconst (pc := 597) 1 dL_law_597 rfl ?_
  refine a_iadd (pc := 598) dL_law_598 ?_
  refine a_old12 (pc := 599) dL_law_599 hb1 ?_
  refine a_aload_n (pc := 600) dL_law_600 rfl (isRv_o _) ?_
  refine a_iload_n (pc := 601) dL_law_601 rfl ?_
  refine a_iconst (pc := 602) 2 dL_law_602 rfl ?_
  refine a_iadd (pc := 603) dL_law_603 ?_
  refine a_old12 (pc := 604) dL_law_604 hb2 ?_
  refine a_aload_n (pc := 605) dL_law_605 rfl (isRv_o _) ?_
  refine a_iload_n (pc := 606) dL_law_606 rfl ?_
  refine a_iconst (pc := 607) 3 dL_law_607 rfl ?_
  refine a_iadd (pc := 608) dL_law_608 ?_
  refine a_old12 (pc := 609) dL_law_609 hb3 ?_
  refine g_call (pc := 610) (ci := 7) (mc := 0) (ms := 0) (.int r) [.int (gX g (l3 + 1).toNatClampNeg), .int (gX g (l3 + 2).toNatClampNeg), .int (gX g (l3 + 3).toNatClampNeg)] [] dL_law_610 ml_L_62 mv_X7_least ⟨_, rfl⟩ (by decide) rfl rfl (by omega) (mX7_least (by omega) e7) rfl (Nat.le_of_ble_eq_true rfl) (by omega) (by omega) ?_
  refine a_aload_n (pc := 613) dL_law_613 rfl (isRv_r _) ?_
  refine a_aload_n (pc := 614) dL_law_614 rfl (isRv_o _) ?_
  refine a_iload_n (pc := 615) dL_law_615 rfl ?_
  refine a_iconst (pc := 616) 1 dL_law_616 rfl ?_
  refine a_iadd (pc := 617) dL_law_617 ?_
  refine a_old12 (pc := 618) dL_law_618 hb1 ?_
  refine a_aload_n (pc := 619) dL_law_619 rfl (isRv_o _) ?_
  refine a_iload_n (pc := 620) dL_law_620 rfl ?_
  refine a_iconst (pc := 621) 2 dL_law_621 rfl ?_
  refine a_iadd (pc := 622) dL_law_622 ?_
  refine a_old12 (pc := 623) dL_law_623 hb2 ?_
  refine a_aload_n (pc := 624) dL_law_624 rfl (isRv_o _) ?_
  refine a_iload_n (pc := 625) dL_law_625 rfl ?_
  refine a_iconst (pc := 626) 3 dL_law_626 rfl ?_
  refine a_iadd (pc := 627) dL_law_627 ?_
  refine a_old12 (pc := 628) dL_law_628 hb3 ?_
  refine m_call (pc := 629) (.int r) [.int (gX g (l3 + 1).toNatClampNeg), .int (gX g (l3 + 2).toNatClampNeg), .int (gX g (l3 + 3).toNatClampNeg)] [.int r] (cc_len C') dL_law_629 ml_L_65 mv_X8_least rfl rfl (by omega) (mX8_least (cc_len C') (by omega) e8) rfl (Nat.le_of_ble_eq_true rfl) (by omega) (by omega) ?_
  refine a_icmp_eq (pc := 632) 1307 dL_law_632 (by decide) (fun _ => ?_) (fun c => absurd rfl c)
  exact ih C' M' D' _ _ hi' (by omega) (by omega)
set_option maxHeartbeats 4000000 in
theorem law_inAll {l : Launch} {g : gE} {d MC MS' : Nat} {nm : String} {Q : Option Value → AH → Prop} {inv : CS → MS → List va_E → Prop} (hd : 64 ≤ d) (H : specs inv) {C : CS} {M : MS} {D : List va_E} (hi : inv C M D) {k n : Nat} (hk : k + 6 ≤ MC) (hn : n + 8222 ≤ MS') {l3 : Int32} (hb1 : vp_in (l3 + 1) (gL g)) (hb2 : vp_in (l3 + 2) (gL g)) (hb3 : vp_in (l3 + 3) (gL g)) (hb4 : vp_in (l3 + 4) (gL g)) (hb5 : vp_in (l3 + 5) (gL g))
    (ih : ∀ (C : CS) (M : MS) (D : List va_E) (k' n' : Nat), inv C M D → k' ≤ k + 6 → n' ≤ n + 8222 → AW l g d RL cL_law 4 nm MC MS' Q k' n' 1307 [some (.retAddr 12), some (.ref 0), some (.ref 26), some (.int l3)] [] (mh (ccells C) M D)) : AW l g d RL cL_law 4 nm MC MS' Q k n 637 [some (.retAddr 12), some (.ref 0), some (.ref 26), some (.int l3)] [] (mh (ccells C) M D) := by
  obtain ⟨r, C', M', D', e7, e8, hi'⟩ := H.2.2.2.2.2.2.2.2.2.2.2.2.1 C M D (gX g (l3 + 1).toNatClampNeg) (gX g (l3 + 2).toNatClampNeg) (gX g (l3 + 3).toNatClampNeg) hi
  refine a_aload_n (pc := 637) dL_law_637 rfl (isRv_r _) ?_
  refine a_aload_n (pc := 638) dL_law_638 rfl (isRv_o _) ?_
  refine a_iload_n (pc := 639) dL_law_639 rfl ?_
  refine a_iconst (pc := 640) 1 dL_law_640 rfl ?_
  refine a_iadd (pc := 641) dL_law_641 ?_
  refine a_old12 (pc := 642) dL_law_642 hb1 ?_
  refine a_aload_n (pc := 643) dL_law_643 rfl (isRv_o _) ?_
  refine a_iload_n (pc := 644) dL_law_644 rfl ?_
  refine a_iconst (pc := 645) 2 dL_law_645 rfl ?_
  refine a_iadd (pc := 646) dL_law_646 ?_
  refine a_old12 (pc := 647) dL_law_647 hb2 ?_
  refine a_aload_n (pc := 648) dL_law_648 rfl (isRv_o _) ?_
  refine a_iload_n (pc := 649) dL_law_649 rfl ?_
  refine a_iconst (pc := 650) 3 dL_law_650 rfl ?_
  refine a_iadd (pc := 651) dL_law_651 ?_
  refine a_old12 (pc := 652) dL_law_652 hb3 ?_
  refine g_call (pc := 653) (ci := 7) (mc := 0) (ms := 0) (.int r) [.int (gX g (l3 + 1).toNatClampNeg), .int (gX g (l3 + 2).toNatClampNeg), .int (gX g (l3 + 3).toNatClampNeg)] [] dL_law_653 ml_L_66 mv_X7_inAll ⟨_, rfl⟩ (by decide) rfl rfl (by omega) (mX7_inAll (by omega) e7) rfl (Nat.le_of_ble_eq_true rfl) (by omega) (by omega) ?_
  refine a_aload_n (pc := 656) dL_law_656 rfl (isRv_r _) ?_
  refine a_aload_n (pc := 657) dL_law_657 rfl (isRv_o _) ?_
  refine a_iload_n (pc := 658) dL_law_658 rfl ?_
  refine a_iconst (pc := 659) 1 dL_law_659 rfl ?_
  refine a_iadd (pc := 660) dL_law_660 ?_
  refine a_old12 (pc := 661) dL_law_661 hb1 ?_
  refine a_aload_n (pc := 662) dL_law_662 rfl (isRv_o _) ?_
  refine a_iload_n (pc := 663) dL_law_663 rfl ?_
  refine a_iconst (pc := 664) 2 dL_law_664 rfl ?_
  refine a_iadd (pc := 665) dL_law_665 ?_
  refine a_old12 (pc := 666) dL_law_666 hb2 ?_
  refine a_aload_n (pc := 667) dL_law_667 rfl (isRv_o _) ?_
  refine a_iload_n (pc := 668) dL_law_668 rfl ?_
  refine a_iconst (pc := 669) 3 dL_law_669 rfl ?_
  refine a_iadd (pc := 670) dL_law_670 ?_
  refine a_old12 (pc := 671) dL_law_671 hb3 ?_
  refine m_call (pc := 672) (.int r) [.int (gX g (l3 + 1).toNatClampNeg), .int (gX g (l3 + 2).toNatClampNeg), .int (gX g (l3 + 3).toNatClampNeg)] [.int r] (cc_len C') dL_law_672 ml_L_69 mv_X8_inAll rfl rfl (by omega) (mX8_inAll (cc_len C') (by omega) e8) rfl (Nat.le_of_ble_eq_true rfl) (by omega) (by omega) ?_
  refine a_icmp_eq (pc := 675) 1307 dL_law_675 (by decide) (fun _ => ?_) (fun c => absurd rfl c)
  exact ih C' M' D' _ _ hi' (by omega) (by omega)
set_option maxHeartbeats 4000000 in
theorem law_plain {l : Launch} {g : gE} {d MC MS' : Nat} {nm : String} {Q : Option Value → AH → Prop} {inv : CS → MS → List va_E → Prop} (hd : 64 ≤ d) (H : specs inv) {C : CS} {M : MS} {D : List va_E} (hi : inv C M D) {k n : Nat} (hk : k + 6 ≤ MC) (hn : n + 8222 ≤ MS') {l3 : Int32} (hb1 : vp_in (l3 + 1) (gL g)) (hb2 : vp_in (l3 + 2) (gL g)) (hb3 : vp_in (l3 + 3) (gL g)) (hb4 : vp_in (l3 + 4) (gL g)) (hb5 : vp_in (l3 + 5) (gL g))
    (ih : ∀ (C : CS) (M : MS) (D : List va_E) (k' n' : Nat), inv C M D → k' ≤ k + 6 → n' ≤ n + 8222 → AW l g d RL cL_law 4 nm MC MS' Q k' n' 1307 [some (.retAddr 12), some (.ref 0), some (.ref 26), some (.int l3)] [] (mh (ccells C) M D)) : AW l g d RL cL_law 4 nm MC MS' Q k n 680 [some (.retAddr 12), some (.ref 0), some (.ref 26), some (.int l3)] [] (mh (ccells C) M D) := by
  obtain ⟨r, C', M', D', e7, e8, hi'⟩ := H.2.2.2.2.2.2.2.2.2.2.2.2.2.1 C M D (gX g (l3 + 1).toNatClampNeg) hi
  refine a_aload_n (pc := 680) dL_law_680 rfl (isRv_r _) ?_
  refine a_aload_n (pc := 681) dL_law_681 rfl (isRv_o _) ?_
  refine a_iload_n (pc := 682) dL_law_682 rfl ?_
  refine a_iconst (pc := 683) 1 dL_law_683 rfl ?_
  refine a_iadd (pc := 684) dL_law_684 ?_
  refine a_old12 (pc := 685) dL_law_685 hb1 ?_
  refine g_call (pc := 686) (ci := 7) (mc := 0) (ms := 0) (.int r) [.int (gX g (l3 + 1).toNatClampNeg)] [] dL_law_686 ml_L_70 mv_X7_plain ⟨_, rfl⟩ (by decide) rfl rfl (by omega) (mX7_plain (by omega) e7) rfl (Nat.le_of_ble_eq_true rfl) (by omega) (by omega) ?_
  refine a_aload_n (pc := 689) dL_law_689 rfl (isRv_r _) ?_
  refine a_aload_n (pc := 690) dL_law_690 rfl (isRv_o _) ?_
  refine a_iload_n (pc := 691) dL_law_691 rfl ?_
  refine a_iconst (pc := 692) 1 dL_law_692 rfl ?_
  refine a_iadd (pc := 693) dL_law_693 ?_
  refine a_old12 (pc := 694) dL_law_694 hb1 ?_
  refine m_call (pc := 695) (.int r) [.int (gX g (l3 + 1).toNatClampNeg)] [.int r] (cc_len C') dL_law_695 ml_L_73 mv_X8_plain rfl rfl (by omega) (mX8_plain (cc_len C') (by omega) e8) rfl (Nat.le_of_ble_eq_true rfl) (by omega) (by omega) ?_
  refine a_icmp_eq (pc := 698) 1307 dL_law_698 (by decide) (fun _ => ?_) (fun c => absurd rfl c)
  exact ih C' M' D' _ _ hi' (by omega) (by omega)
set_option maxHeartbeats 4000000 in
theorem law_cost {l : Launch} {g : gE} {d MC MS' : Nat} {nm : String} {Q : Option Value → AH → Prop} {inv : CS → MS → List va_E → Prop} (hd : 64 ≤ d) (H : specs inv) {C : CS} {M : MS} {D : List va_E} (hi : inv C M D) {k n : Nat} (hk : k + 6 ≤ MC) (hn : n + 8222 ≤ MS') {l3 : Int32} (hb1 : vp_in (l3 + 1) (gL g)) (hb2 : vp_in (l3 + 2) (gL g)) (hb3 : vp_in (l3 + 3) (gL g)) (hb4 : vp_in (l3 + 4) (gL g)) (hb5 : vp_in (l3 + 5) (gL g))
    (ih : ∀ (C : CS) (M : MS) (D : List va_E) (k' n' : Nat), inv C M D → k' ≤ k + 6 → n' ≤ n + 8222 → AW l g d RL cL_law 4 nm MC MS' Q k' n' 1307 [some (.retAddr 12), some (.ref 0), some (.ref 26), some (.int l3)] [] (mh (ccells C) M D)) : AW l g d RL cL_law 4 nm MC MS' Q k n 703 [some (.retAddr 12), some (.ref 0), some (.ref 26), some (.int l3)] [] (mh (ccells C) M D) := by
  obtain ⟨r, C', M', D', e7, e8, hi'⟩ := H.2.2.2.2.2.2.2.2.2.2.2.2.2.2.1 C M D (gX g (l3 + 1).toNatClampNeg) (gX g (l3 + 2).toNatClampNeg) (gX g (l3 + 3).toNatClampNeg) hi
  refine a_aload_n (pc := 703) dL_law_703 rfl (isRv_r _) ?_
  refine a_aload_n (pc := 704) dL_law_704 rfl (isRv_o _) ?_
  refine a_iload_n (pc := 705) dL_law_705 rfl ?_
  refine a_iconst (pc := 706) 1 dL_law_706 rfl ?_
  refine a_iadd (pc := 707) dL_law_707 ?_
  refine a_old12 (pc := 708) dL_law_708 hb1 ?_
  refine a_aload_n (pc := 709) dL_law_709 rfl (isRv_o _) ?_
  refine a_iload_n (pc := 710) dL_law_710 rfl ?_
  refine a_iconst (pc := 711) 2 dL_law_711 rfl ?_
  refine a_iadd (pc := 712) dL_law_712 ?_
  refine a_old12 (pc := 713) dL_law_713 hb2 ?_
  refine a_aload_n (pc := 714) dL_law_714 rfl (isRv_o _) ?_
  refine a_iload_n (pc := 715) dL_law_715 rfl ?_
  refine a_iconst (pc := 716) 3 dL_law_716 rfl ?_
  refine a_iadd (pc := 717) dL_law_717 ?_
  refine a_old12 (pc := 718) dL_law_718 hb3 ?_
  refine g_call (pc := 719) (ci := 7) (mc := 0) (ms := 0) (.long r) [.int (gX g (l3 + 1).toNatClampNeg), .int (gX g (l3 + 2).toNatClampNeg), .int (gX g (l3 + 3).toNatClampNeg)] [] dL_law_719 ml_L_74 mv_X7_cost ⟨_, rfl⟩ (by decide) rfl rfl (by omega) (mX7_cost (by omega) e7) rfl (Nat.le_of_ble_eq_true rfl) (by omega) (by omega) ?_
  refine a_aload_n (pc := 722) dL_law_722 rfl (isRv_r _) ?_
  refine a_aload_n (pc := 723) dL_law_723 rfl (isRv_o _) ?_
  refine a_iload_n (pc := 724) dL_law_724 rfl ?_
  refine a_iconst (pc := 725) 1 dL_law_725 rfl ?_
  refine a_iadd (pc := 726) dL_law_726 ?_
  refine a_old12 (pc := 727) dL_law_727 hb1 ?_
  refine a_aload_n (pc := 728) dL_law_728 rfl (isRv_o _) ?_
  refine a_iload_n (pc := 729) dL_law_729 rfl ?_
  refine a_iconst (pc := 730) 2 dL_law_730 rfl ?_
  refine a_iadd (pc := 731) dL_law_731 ?_
  refine a_old12 (pc := 732) dL_law_732 hb2 ?_
  refine a_aload_n (pc := 733) dL_law_733 rfl (isRv_o _) ?_
  refine a_iload_n (pc := 734) dL_law_734 rfl ?_
  refine a_iconst (pc := 735) 3 dL_law_735 rfl ?_
  refine a_iadd (pc := 736) dL_law_736 ?_
  refine a_old12 (pc := 737) dL_law_737 hb3 ?_
  refine m_call (pc := 738) (.long r) [.int (gX g (l3 + 1).toNatClampNeg), .int (gX g (l3 + 2).toNatClampNeg), .int (gX g (l3 + 3).toNatClampNeg)] [.long r] (cc_len C') dL_law_738 ml_L_77 mv_X8_cost rfl rfl (by omega) (mX8_cost (cc_len C') (by omega) e8) rfl (Nat.le_of_ble_eq_true rfl) (by omega) (by omega) ?_
  refine a_lcmp (pc := 741) dL_law_741 ?_
  rw [lg_self]
  refine a_if_eq (pc := 742) 1307 dL_law_742 (by decide) (fun _ => ?_) (fun c => absurd rfl c)
  exact ih C' M' D' _ _ hi' (by omega) (by omega)
set_option maxHeartbeats 4000000 in
theorem law_dear {l : Launch} {g : gE} {d MC MS' : Nat} {nm : String} {Q : Option Value → AH → Prop} {inv : CS → MS → List va_E → Prop} (hd : 64 ≤ d) (H : specs inv) {C : CS} {M : MS} {D : List va_E} (hi : inv C M D) {k n : Nat} (hk : k + 6 ≤ MC) (hn : n + 8222 ≤ MS') {l3 : Int32} (hb1 : vp_in (l3 + 1) (gL g)) (hb2 : vp_in (l3 + 2) (gL g)) (hb3 : vp_in (l3 + 3) (gL g)) (hb4 : vp_in (l3 + 4) (gL g)) (hb5 : vp_in (l3 + 5) (gL g))
    (ih : ∀ (C : CS) (M : MS) (D : List va_E) (k' n' : Nat), inv C M D → k' ≤ k + 6 → n' ≤ n + 8222 → AW l g d RL cL_law 4 nm MC MS' Q k' n' 1307 [some (.retAddr 12), some (.ref 0), some (.ref 26), some (.int l3)] [] (mh (ccells C) M D)) : AW l g d RL cL_law 4 nm MC MS' Q k n 747 [some (.retAddr 12), some (.ref 0), some (.ref 26), some (.int l3)] [] (mh (ccells C) M D) := by
  obtain ⟨r, C', M', D', e7, e8, hi'⟩ := H.2.2.2.2.2.2.2.2.2.2.2.2.2.2.2.1 C M D (gX g (l3 + 1).toNatClampNeg) (gX g (l3 + 2).toNatClampNeg) (gX g (l3 + 3).toNatClampNeg) (gX g (l3 + 4).toNatClampNeg) hi
  refine a_aload_n (pc := 747) dL_law_747 rfl (isRv_r _) ?_
  refine a_aload_n (pc := 748) dL_law_748 rfl (isRv_o _) ?_
  refine a_iload_n (pc := 749) dL_law_749 rfl ?_
  refine a_iconst (pc := 750) 1 dL_law_750 rfl ?_
  refine a_iadd (pc := 751) dL_law_751 ?_
  refine a_old12 (pc := 752) dL_law_752 hb1 ?_
  refine a_aload_n (pc := 753) dL_law_753 rfl (isRv_o _) ?_
  refine a_iload_n (pc := 754) dL_law_754 rfl ?_
  refine a_iconst (pc := 755) 2 dL_law_755 rfl ?_
  refine a_iadd (pc := 756) dL_law_756 ?_
  refine a_old12 (pc := 757) dL_law_757 hb2 ?_
  refine a_aload_n (pc := 758) dL_law_758 rfl (isRv_o _) ?_
  refine a_iload_n (pc := 759) dL_law_759 rfl ?_
  refine a_iconst (pc := 760) 3 dL_law_760 rfl ?_
  refine a_iadd (pc := 761) dL_law_761 ?_
  refine a_old12 (pc := 762) dL_law_762 hb3 ?_
  refine a_aload_n (pc := 763) dL_law_763 rfl (isRv_o _) ?_
  refine a_iload_n (pc := 764) dL_law_764 rfl ?_
  refine a_iconst (pc := 765) 4 dL_law_765 rfl ?_
  refine a_iadd (pc := 766) dL_law_766 ?_
  refine a_old12 (pc := 767) dL_law_767 hb4 ?_
  refine g_call (pc := 768) (ci := 7) (mc := 0) (ms := 0) (.int r) [.int (gX g (l3 + 1).toNatClampNeg), .int (gX g (l3 + 2).toNatClampNeg), .int (gX g (l3 + 3).toNatClampNeg), .int (gX g (l3 + 4).toNatClampNeg)] [] dL_law_768 ml_L_78 mv_X7_dear ⟨_, rfl⟩ (by decide) rfl rfl (by omega) (mX7_dear (by omega) e7) rfl (Nat.le_of_ble_eq_true rfl) (by omega) (by omega) ?_
  refine a_aload_n (pc := 771) dL_law_771 rfl (isRv_r _) ?_
  refine a_aload_n (pc := 772) dL_law_772 rfl (isRv_o _) ?_
  refine a_iload_n (pc := 773) dL_law_773 rfl ?_
  refine a_iconst (pc := 774) 1 dL_law_774 rfl ?_
  refine a_iadd (pc := 775) dL_law_775 ?_
  refine a_old12 (pc := 776) dL_law_776 hb1 ?_
  refine a_aload_n (pc := 777) dL_law_777 rfl (isRv_o _) ?_
  refine a_iload_n (pc := 778) dL_law_778 rfl ?_
  refine a_iconst (pc := 779) 2 dL_law_779 rfl ?_
  refine a_iadd (pc := 780) dL_law_780 ?_
  refine a_old12 (pc := 781) dL_law_781 hb2 ?_
  refine a_aload_n (pc := 782) dL_law_782 rfl (isRv_o _) ?_
  refine a_iload_n (pc := 783) dL_law_783 rfl ?_
  refine a_iconst (pc := 784) 3 dL_law_784 rfl ?_
  refine a_iadd (pc := 785) dL_law_785 ?_
  refine a_old12 (pc := 786) dL_law_786 hb3 ?_
  refine a_aload_n (pc := 787) dL_law_787 rfl (isRv_o _) ?_
  refine a_iload_n (pc := 788) dL_law_788 rfl ?_
  refine a_iconst (pc := 789) 4 dL_law_789 rfl ?_
  refine a_iadd (pc := 790) dL_law_790 ?_
  refine a_old12 (pc := 791) dL_law_791 hb4 ?_
  refine m_call (pc := 792) (.int r) [.int (gX g (l3 + 1).toNatClampNeg), .int (gX g (l3 + 2).toNatClampNeg), .int (gX g (l3 + 3).toNatClampNeg), .int (gX g (l3 + 4).toNatClampNeg)] [.int r] (cc_len C') dL_law_792 ml_L_81 mv_X8_dear rfl rfl (by omega) (mX8_dear (cc_len C') (by omega) e8) rfl (Nat.le_of_ble_eq_true rfl) (by omega) (by omega) ?_
  refine a_icmp_eq (pc := 795) 1307 dL_law_795 (by decide) (fun _ => ?_) (fun c => absurd rfl c)
  exact ih C' M' D' _ _ hi' (by omega) (by omega)
set_option maxHeartbeats 4000000 in
theorem law_alone {l : Launch} {g : gE} {d MC MS' : Nat} {nm : String} {Q : Option Value → AH → Prop} {inv : CS → MS → List va_E → Prop} (hd : 64 ≤ d) (H : specs inv) {C : CS} {M : MS} {D : List va_E} (hi : inv C M D) {k n : Nat} (hk : k + 6 ≤ MC) (hn : n + 8222 ≤ MS') {l3 : Int32} (hb1 : vp_in (l3 + 1) (gL g)) (hb2 : vp_in (l3 + 2) (gL g)) (hb3 : vp_in (l3 + 3) (gL g)) (hb4 : vp_in (l3 + 4) (gL g)) (hb5 : vp_in (l3 + 5) (gL g))
    (ih : ∀ (C : CS) (M : MS) (D : List va_E) (k' n' : Nat), inv C M D → k' ≤ k + 6 → n' ≤ n + 8222 → AW l g d RL cL_law 4 nm MC MS' Q k' n' 1307 [some (.retAddr 12), some (.ref 0), some (.ref 26), some (.int l3)] [] (mh (ccells C) M D)) : AW l g d RL cL_law 4 nm MC MS' Q k n 800 [some (.retAddr 12), some (.ref 0), some (.ref 26), some (.int l3)] [] (mh (ccells C) M D) := by
  obtain ⟨r, C', M', D', e7, e8, hi'⟩ := H.2.2.2.2.2.2.2.2.2.2.2.2.2.2.2.2.1 C M D (gX g (l3 + 1).toNatClampNeg) (gX g (l3 + 2).toNatClampNeg) hi
  refine a_aload_n (pc := 800) dL_law_800 rfl (isRv_r _) ?_
  refine a_aload_n (pc := 801) dL_law_801 rfl (isRv_o _) ?_
  refine a_iload_n (pc := 802) dL_law_802 rfl ?_
  refine a_iconst (pc := 803) 1 dL_law_803 rfl ?_
  refine a_iadd (pc := 804) dL_law_804 ?_
  refine a_old12 (pc := 805) dL_law_805 hb1 ?_
  refine a_aload_n (pc := 806) dL_law_806 rfl (isRv_o _) ?_
  refine a_iload_n (pc := 807) dL_law_807 rfl ?_
  refine a_iconst (pc := 808) 2 dL_law_808 rfl ?_
  refine a_iadd (pc := 809) dL_law_809 ?_
  refine a_old12 (pc := 810) dL_law_810 hb2 ?_
  refine g_call (pc := 811) (ci := 7) (mc := 0) (ms := 0) (.int r) [.int (gX g (l3 + 1).toNatClampNeg), .int (gX g (l3 + 2).toNatClampNeg)] [] dL_law_811 ml_L_82 mv_X7_alone ⟨_, rfl⟩ (by decide) rfl rfl (by omega) (mX7_alone (by omega) e7) rfl (Nat.le_of_ble_eq_true rfl) (by omega) (by omega) ?_
  refine a_aload_n (pc := 814) dL_law_814 rfl (isRv_r _) ?_
  refine a_aload_n (pc := 815) dL_law_815 rfl (isRv_o _) ?_
  refine a_iload_n (pc := 816) dL_law_816 rfl ?_
  refine a_iconst (pc := 817) 1 dL_law_817 rfl ?_
  refine a_iadd (pc := 818) dL_law_818 ?_
  refine a_old12 (pc := 819) dL_law_819 hb1 ?_
  refine a_aload_n (pc := 820) dL_law_820 rfl (isRv_o _) ?_
  refine a_iload_n (pc := 821) dL_law_821 rfl ?_
  refine a_iconst (pc := 822) 2 dL_law_822 rfl ?_
  refine a_iadd (pc := 823) dL_law_823 ?_
  refine a_old12 (pc := 824) dL_law_824 hb2 ?_
  refine m_call (pc := 825) (.int r) [.int (gX g (l3 + 1).toNatClampNeg), .int (gX g (l3 + 2).toNatClampNeg)] [.int r] (cc_len C') dL_law_825 ml_L_85 mv_X8_alone rfl rfl (by omega) (mX8_alone (cc_len C') (by omega) e8) rfl (Nat.le_of_ble_eq_true rfl) (by omega) (by omega) ?_
  refine a_icmp_eq (pc := 828) 1307 dL_law_828 (by decide) (fun _ => ?_) (fun c => absurd rfl c)
  exact ih C' M' D' _ _ hi' (by omega) (by omega)
set_option maxHeartbeats 4000000 in
theorem law_apart {l : Launch} {g : gE} {d MC MS' : Nat} {nm : String} {Q : Option Value → AH → Prop} {inv : CS → MS → List va_E → Prop} (hd : 64 ≤ d) (H : specs inv) {C : CS} {M : MS} {D : List va_E} (hi : inv C M D) {k n : Nat} (hk : k + 6 ≤ MC) (hn : n + 8222 ≤ MS') {l3 : Int32} (hb1 : vp_in (l3 + 1) (gL g)) (hb2 : vp_in (l3 + 2) (gL g)) (hb3 : vp_in (l3 + 3) (gL g)) (hb4 : vp_in (l3 + 4) (gL g)) (hb5 : vp_in (l3 + 5) (gL g))
    (ih : ∀ (C : CS) (M : MS) (D : List va_E) (k' n' : Nat), inv C M D → k' ≤ k + 6 → n' ≤ n + 8222 → AW l g d RL cL_law 4 nm MC MS' Q k' n' 1307 [some (.retAddr 12), some (.ref 0), some (.ref 26), some (.int l3)] [] (mh (ccells C) M D)) : AW l g d RL cL_law 4 nm MC MS' Q k n 833 [some (.retAddr 12), some (.ref 0), some (.ref 26), some (.int l3)] [] (mh (ccells C) M D) := by
  obtain ⟨r, C', M', D', e7, e8, hi'⟩ := H.2.2.2.2.2.2.2.2.2.2.2.2.2.2.2.2.2.1 C M D (gX g (l3 + 1).toNatClampNeg) (gX g (l3 + 2).toNatClampNeg) (gX g (l3 + 3).toNatClampNeg) hi
  refine a_aload_n (pc := 833) dL_law_833 rfl (isRv_r _) ?_
  refine a_aload_n (pc := 834) dL_law_834 rfl (isRv_o _) ?_
  refine a_iload_n (pc := 835) dL_law_835 rfl ?_
  refine a_iconst (pc := 836) 1 dL_law_836 rfl ?_
  refine a_iadd (pc := 837) dL_law_837 ?_
  refine a_old12 (pc := 838) dL_law_838 hb1 ?_
  refine a_aload_n (pc := 839) dL_law_839 rfl (isRv_o _) ?_
  refine a_iload_n (pc := 840) dL_law_840 rfl ?_
  refine a_iconst (pc := 841) 2 dL_law_841 rfl ?_
  refine a_iadd (pc := 842) dL_law_842 ?_
  refine a_old12 (pc := 843) dL_law_843 hb2 ?_
  refine a_aload_n (pc := 844) dL_law_844 rfl (isRv_o _) ?_
  refine a_iload_n (pc := 845) dL_law_845 rfl ?_
  refine a_iconst (pc := 846) 3 dL_law_846 rfl ?_
  refine a_iadd (pc := 847) dL_law_847 ?_
  refine a_old12 (pc := 848) dL_law_848 hb3 ?_
  refine g_call (pc := 849) (ci := 7) (mc := 0) (ms := 0) (.int r) [.int (gX g (l3 + 1).toNatClampNeg), .int (gX g (l3 + 2).toNatClampNeg), .int (gX g (l3 + 3).toNatClampNeg)] [] dL_law_849 ml_L_86 mv_X7_apart ⟨_, rfl⟩ (by decide) rfl rfl (by omega) (mX7_apart (by omega) e7) rfl (Nat.le_of_ble_eq_true rfl) (by omega) (by omega) ?_
  refine a_aload_n (pc := 852) dL_law_852 rfl (isRv_r _) ?_
  refine a_aload_n (pc := 853) dL_law_853 rfl (isRv_o _) ?_
  refine a_iload_n (pc := 854) dL_law_854 rfl ?_
  refine a_iconst (pc := 855) 1 dL_law_855 rfl ?_
  refine a_iadd (pc := 856) dL_law_856 ?_
  refine a_old12 (pc := 857) dL_law_857 hb1 ?_
  refine a_aload_n (pc := 858) dL_law_858 rfl (isRv_o _) ?_
  refine a_iload_n (pc := 859) dL_law_859 rfl ?_
  refine a_iconst (pc := 860) 2 dL_law_860 rfl ?_
  refine a_iadd (pc := 861) dL_law_861 ?_
  refine a_old12 (pc := 862) dL_law_862 hb2 ?_
  refine a_aload_n (pc := 863) dL_law_863 rfl (isRv_o _) ?_
  refine a_iload_n (pc := 864) dL_law_864 rfl ?_
  refine a_iconst (pc := 865) 3 dL_law_865 rfl ?_
  refine a_iadd (pc := 866) dL_law_866 ?_
  refine a_old12 (pc := 867) dL_law_867 hb3 ?_
  refine m_call (pc := 868) (.int r) [.int (gX g (l3 + 1).toNatClampNeg), .int (gX g (l3 + 2).toNatClampNeg), .int (gX g (l3 + 3).toNatClampNeg)] [.int r] (cc_len C') dL_law_868 ml_L_89 mv_X8_apart rfl rfl (by omega) (mX8_apart (cc_len C') (by omega) e8) rfl (Nat.le_of_ble_eq_true rfl) (by omega) (by omega) ?_
  refine a_icmp_eq (pc := 871) 1307 dL_law_871 (by decide) (fun _ => ?_) (fun c => absurd rfl c)
  exact ih C' M' D' _ _ hi' (by omega) (by omega)
set_option maxHeartbeats 4000000 in
theorem law_saves {l : Launch} {g : gE} {d MC MS' : Nat} {nm : String} {Q : Option Value → AH → Prop} {inv : CS → MS → List va_E → Prop} (hd : 64 ≤ d) (H : specs inv) {C : CS} {M : MS} {D : List va_E} (hi : inv C M D) {k n : Nat} (hk : k + 6 ≤ MC) (hn : n + 8222 ≤ MS') {l3 : Int32} (hb1 : vp_in (l3 + 1) (gL g)) (hb2 : vp_in (l3 + 2) (gL g)) (hb3 : vp_in (l3 + 3) (gL g)) (hb4 : vp_in (l3 + 4) (gL g)) (hb5 : vp_in (l3 + 5) (gL g))
    (ih : ∀ (C : CS) (M : MS) (D : List va_E) (k' n' : Nat), inv C M D → k' ≤ k + 6 → n' ≤ n + 8222 → AW l g d RL cL_law 4 nm MC MS' Q k' n' 1307 [some (.retAddr 12), some (.ref 0), some (.ref 26), some (.int l3)] [] (mh (ccells C) M D)) : AW l g d RL cL_law 4 nm MC MS' Q k n 876 [some (.retAddr 12), some (.ref 0), some (.ref 26), some (.int l3)] [] (mh (ccells C) M D) := by
  obtain ⟨r, C', M', D', e7, e8, hi'⟩ := H.2.2.2.2.2.2.2.2.2.2.2.2.2.2.2.2.2.2.1 C M D (gX g (l3 + 1).toNatClampNeg) (gX g (l3 + 2).toNatClampNeg) hi
  refine a_aload_n (pc := 876) dL_law_876 rfl (isRv_r _) ?_
  refine a_aload_n (pc := 877) dL_law_877 rfl (isRv_o _) ?_
  refine a_iload_n (pc := 878) dL_law_878 rfl ?_
  refine a_iconst (pc := 879) 1 dL_law_879 rfl ?_
  refine a_iadd (pc := 880) dL_law_880 ?_
  refine a_old12 (pc := 881) dL_law_881 hb1 ?_
  refine a_aload_n (pc := 882) dL_law_882 rfl (isRv_o _) ?_
  refine a_iload_n (pc := 883) dL_law_883 rfl ?_
  refine a_iconst (pc := 884) 2 dL_law_884 rfl ?_
  refine a_iadd (pc := 885) dL_law_885 ?_
  refine a_old12 (pc := 886) dL_law_886 hb2 ?_
  refine g_call (pc := 887) (ci := 7) (mc := 0) (ms := 0) (.int r) [.int (gX g (l3 + 1).toNatClampNeg), .int (gX g (l3 + 2).toNatClampNeg)] [] dL_law_887 ml_L_90 mv_X7_saves ⟨_, rfl⟩ (by decide) rfl rfl (by omega) (mX7_saves (by omega) e7) rfl (Nat.le_of_ble_eq_true rfl) (by omega) (by omega) ?_
  refine a_aload_n (pc := 890) dL_law_890 rfl (isRv_r _) ?_
  refine a_aload_n (pc := 891) dL_law_891 rfl (isRv_o _) ?_
  refine a_iload_n (pc := 892) dL_law_892 rfl ?_
  refine a_iconst (pc := 893) 1 dL_law_893 rfl ?_
  refine a_iadd (pc := 894) dL_law_894 ?_
  refine a_old12 (pc := 895) dL_law_895 hb1 ?_
  refine a_aload_n (pc := 896) dL_law_896 rfl (isRv_o _) ?_
  refine a_iload_n (pc := 897) dL_law_897 rfl ?_
  refine a_iconst (pc := 898) 2 dL_law_898 rfl ?_
  refine a_iadd (pc := 899) dL_law_899 ?_
  refine a_old12 (pc := 900) dL_law_900 hb2 ?_
  refine m_call (pc := 901) (.int r) [.int (gX g (l3 + 1).toNatClampNeg), .int (gX g (l3 + 2).toNatClampNeg)] [.int r] (cc_len C') dL_law_901 ml_L_93 mv_X8_saves rfl rfl (by omega) (mX8_saves (cc_len C') (by omega) e8) rfl (Nat.le_of_ble_eq_true rfl) (by omega) (by omega) ?_
  refine a_icmp_eq (pc := 904) 1307 dL_law_904 (by decide) (fun _ => ?_) (fun c => absurd rfl c)
  exact ih C' M' D' _ _ hi' (by omega) (by omega)
set_option maxHeartbeats 4000000 in
theorem law_table {l : Launch} {g : gE} {d MC MS' : Nat} {nm : String} {Q : Option Value → AH → Prop} {inv : CS → MS → List va_E → Prop} (hd : 64 ≤ d) (H : specs inv) {C : CS} {M : MS} {D : List va_E} (hi : inv C M D) {k n : Nat} (hk : k + 6 ≤ MC) (hn : n + 8222 ≤ MS') {l3 : Int32} (hb1 : vp_in (l3 + 1) (gL g)) (hb2 : vp_in (l3 + 2) (gL g)) (hb3 : vp_in (l3 + 3) (gL g)) (hb4 : vp_in (l3 + 4) (gL g)) (hb5 : vp_in (l3 + 5) (gL g))
    (ih : ∀ (C : CS) (M : MS) (D : List va_E) (k' n' : Nat), inv C M D → k' ≤ k + 6 → n' ≤ n + 8222 → AW l g d RL cL_law 4 nm MC MS' Q k' n' 1307 [some (.retAddr 12), some (.ref 0), some (.ref 26), some (.int l3)] [] (mh (ccells C) M D)) : AW l g d RL cL_law 4 nm MC MS' Q k n 909 [some (.retAddr 12), some (.ref 0), some (.ref 26), some (.int l3)] [] (mh (ccells C) M D) := by
  obtain ⟨r, C', M', D', e7, e8, hi'⟩ := H.2.2.2.2.2.2.2.2.2.2.2.2.2.2.2.2.2.2.2.1 C M D (gX g (l3 + 1).toNatClampNeg) (gX g (l3 + 2).toNatClampNeg) (gX g (l3 + 3).toNatClampNeg) (gX g (l3 + 4).toNatClampNeg) (gX g (l3 + 5).toNatClampNeg) hi
  refine a_aload_n (pc := 909) dL_law_909 rfl (isRv_r _) ?_
  refine a_aload_n (pc := 910) dL_law_910 rfl (isRv_o _) ?_
  refine a_iload_n (pc := 911) dL_law_911 rfl ?_
  refine a_iconst (pc := 912) 1 dL_law_912 rfl ?_
  refine a_iadd (pc := 913) dL_law_913 ?_
  refine a_old12 (pc := 914) dL_law_914 hb1 ?_
  refine a_aload_n (pc := 915) dL_law_915 rfl (isRv_o _) ?_
  refine a_iload_n (pc := 916) dL_law_916 rfl ?_
  refine a_iconst (pc := 917) 2 dL_law_917 rfl ?_
  refine a_iadd (pc := 918) dL_law_918 ?_
  refine a_old12 (pc := 919) dL_law_919 hb2 ?_
  refine a_aload_n (pc := 920) dL_law_920 rfl (isRv_o _) ?_
  refine a_iload_n (pc := 921) dL_law_921 rfl ?_
  refine a_iconst (pc := 922) 3 dL_law_922 rfl ?_
  refine a_iadd (pc := 923) dL_law_923 ?_
  refine a_old12 (pc := 924) dL_law_924 hb3 ?_
  refine a_aload_n (pc := 925) dL_law_925 rfl (isRv_o _) ?_
  refine a_iload_n (pc := 926) dL_law_926 rfl ?_
  refine a_iconst (pc := 927) 4 dL_law_927 rfl ?_
  refine a_iadd (pc := 928) dL_law_928 ?_
  refine a_old12 (pc := 929) dL_law_929 hb4 ?_
  refine a_aload_n (pc := 930) dL_law_930 rfl (isRv_o _) ?_
  refine a_iload_n (pc := 931) dL_law_931 rfl ?_
  refine a_iconst (pc := 932) 5 dL_law_932 rfl ?_
  refine a_iadd (pc := 933) dL_law_933 ?_
  refine a_old12 (pc := 934) dL_law_934 hb5 ?_
  refine g_call (pc := 935) (ci := 7) (mc := 0) (ms := 0) (.int r) [.int (gX g (l3 + 1).toNatClampNeg), .int (gX g (l3 + 2).toNatClampNeg), .int (gX g (l3 + 3).toNatClampNeg), .int (gX g (l3 + 4).toNatClampNeg), .int (gX g (l3 + 5).toNatClampNeg)] [] dL_law_935 ml_L_94 mv_X7_table ⟨_, rfl⟩ (by decide) rfl rfl (by omega) (mX7_table (by omega) e7) rfl (Nat.le_of_ble_eq_true rfl) (by omega) (by omega) ?_
  refine a_aload_n (pc := 938) dL_law_938 rfl (isRv_r _) ?_
  refine a_aload_n (pc := 939) dL_law_939 rfl (isRv_o _) ?_
  refine a_iload_n (pc := 940) dL_law_940 rfl ?_
  refine a_iconst (pc := 941) 1 dL_law_941 rfl ?_
  refine a_iadd (pc := 942) dL_law_942 ?_
  refine a_old12 (pc := 943) dL_law_943 hb1 ?_
  refine a_aload_n (pc := 944) dL_law_944 rfl (isRv_o _) ?_
  refine a_iload_n (pc := 945) dL_law_945 rfl ?_
  refine a_iconst (pc := 946) 2 dL_law_946 rfl ?_
  refine a_iadd (pc := 947) dL_law_947 ?_
  refine a_old12 (pc := 948) dL_law_948 hb2 ?_
  refine a_aload_n (pc := 949) dL_law_949 rfl (isRv_o _) ?_
  refine a_iload_n (pc := 950) dL_law_950 rfl ?_
  refine a_iconst (pc := 951) 3 dL_law_951 rfl ?_
  refine a_iadd (pc := 952) dL_law_952 ?_
  refine a_old12 (pc := 953) dL_law_953 hb3 ?_
  refine a_aload_n (pc := 954) dL_law_954 rfl (isRv_o _) ?_
  refine a_iload_n (pc := 955) dL_law_955 rfl ?_
  refine a_iconst (pc := 956) 4 dL_law_956 rfl ?_
  refine a_iadd (pc := 957) dL_law_957 ?_
  refine a_old12 (pc := 958) dL_law_958 hb4 ?_
  refine a_aload_n (pc := 959) dL_law_959 rfl (isRv_o _) ?_
  refine a_iload_n (pc := 960) dL_law_960 rfl ?_
  refine a_iconst (pc := 961) 5 dL_law_961 rfl ?_
  refine a_iadd (pc := 962) dL_law_962 ?_
  refine a_old12 (pc := 963) dL_law_963 hb5 ?_
  refine m_call (pc := 964) (.int r) [.int (gX g (l3 + 1).toNatClampNeg), .int (gX g (l3 + 2).toNatClampNeg), .int (gX g (l3 + 3).toNatClampNeg), .int (gX g (l3 + 4).toNatClampNeg), .int (gX g (l3 + 5).toNatClampNeg)] [.int r] (cc_len C') dL_law_964 ml_L_98 mv_X8_table rfl rfl (by omega) (mX8_table (cc_len C') (by omega) e8) rfl (Nat.le_of_ble_eq_true rfl) (by omega) (by omega) ?_
  refine a_icmp_eq (pc := 967) 1307 dL_law_967 (by decide) (fun _ => ?_) (fun c => absurd rfl c)
  exact ih C' M' D' _ _ hi' (by omega) (by omega)
set_option maxHeartbeats 4000000 in
theorem law_act {l : Launch} {g : gE} {d MC MS' : Nat} {nm : String} {Q : Option Value → AH → Prop} {inv : CS → MS → List va_E → Prop} (hd : 64 ≤ d) (H : specs inv) {C : CS} {M : MS} {D : List va_E} (hi : inv C M D) {k n : Nat} (hk : k + 6 ≤ MC) (hn : n + 8222 ≤ MS') {l3 : Int32} (hb1 : vp_in (l3 + 1) (gL g)) (hb2 : vp_in (l3 + 2) (gL g)) (hb3 : vp_in (l3 + 3) (gL g)) (hb4 : vp_in (l3 + 4) (gL g)) (hb5 : vp_in (l3 + 5) (gL g))
    (ih : ∀ (C : CS) (M : MS) (D : List va_E) (k' n' : Nat), inv C M D → k' ≤ k + 6 → n' ≤ n + 8222 → AW l g d RL cL_law 4 nm MC MS' Q k' n' 1307 [some (.retAddr 12), some (.ref 0), some (.ref 26), some (.int l3)] [] (mh (ccells C) M D)) : AW l g d RL cL_law 4 nm MC MS' Q k n 972 [some (.retAddr 12), some (.ref 0), some (.ref 26), some (.int l3)] [] (mh (ccells C) M D) := by
  obtain ⟨r, C', M', D', e7, e8, hi'⟩ := H.2.2.2.2.2.2.2.2.2.2.2.2.2.2.2.2.2.2.2.2.1 C M D (gX g (l3 + 1).toNatClampNeg) (gX g (l3 + 2).toNatClampNeg) (gX g (l3 + 3).toNatClampNeg) hi
  refine a_aload_n (pc := 972) dL_law_972 rfl (isRv_r _) ?_
  refine a_aload_n (pc := 973) dL_law_973 rfl (isRv_o _) ?_
  refine a_iload_n (pc := 974) dL_law_974 rfl ?_
  refine a_iconst (pc := 975) 1 dL_law_975 rfl ?_
  refine a_iadd (pc := 976) dL_law_976 ?_
  refine a_old12 (pc := 977) dL_law_977 hb1 ?_
  refine a_aload_n (pc := 978) dL_law_978 rfl (isRv_o _) ?_
  refine a_iload_n (pc := 979) dL_law_979 rfl ?_
  refine a_iconst (pc := 980) 2 dL_law_980 rfl ?_
  refine a_iadd (pc := 981) dL_law_981 ?_
  refine a_old12 (pc := 982) dL_law_982 hb2 ?_
  refine a_aload_n (pc := 983) dL_law_983 rfl (isRv_o _) ?_
  refine a_iload_n (pc := 984) dL_law_984 rfl ?_
  refine a_iconst (pc := 985) 3 dL_law_985 rfl ?_
  refine a_iadd (pc := 986) dL_law_986 ?_
  refine a_old12 (pc := 987) dL_law_987 hb3 ?_
  refine g_call (pc := 988) (ci := 7) (mc := 0) (ms := 0) (.int r) [.int (gX g (l3 + 1).toNatClampNeg), .int (gX g (l3 + 2).toNatClampNeg), .int (gX g (l3 + 3).toNatClampNeg)] [] dL_law_988 ml_L_99 mv_X7_act ⟨_, rfl⟩ (by decide) rfl rfl (by omega) (mX7_act (by omega) e7) rfl (Nat.le_of_ble_eq_true rfl) (by omega) (by omega) ?_
  refine a_aload_n (pc := 991) dL_law_991 rfl (isRv_r _) ?_
  refine a_aload_n (pc := 992) dL_law_992 rfl (isRv_o _) ?_
  refine a_iload_n (pc := 993) dL_law_993 rfl ?_
  refine a_iconst (pc := 994) 1 dL_law_994 rfl ?_
  refine a_iadd (pc := 995) dL_law_995 ?_
  refine a_old12 (pc := 996) dL_law_996 hb1 ?_
  refine a_aload_n (pc := 997) dL_law_997 rfl (isRv_o _) ?_
  refine a_iload_n (pc := 998) dL_law_998 rfl ?_
  refine a_iconst (pc := 999) 2 dL_law_999 rfl ?_
  refine a_iadd (pc := 1000) dL_law_1000 ?_
  refine a_old12 (pc := 1001) dL_law_1001 hb2 ?_
  refine a_aload_n (pc := 1002) dL_law_1002 rfl (isRv_o _) ?_
  refine a_iload_n (pc := 1003) dL_law_1003 rfl ?_
  refine a_iconst (pc := 1004) 3 dL_law_1004 rfl ?_
  refine a_iadd (pc := 1005) dL_law_1005 ?_
  refine a_old12 (pc := 1006) dL_law_1006 hb3 ?_
  refine m_call (pc := 1007) (.int r) [.int (gX g (l3 + 1).toNatClampNeg), .int (gX g (l3 + 2).toNatClampNeg), .int (gX g (l3 + 3).toNatClampNeg)] [.int r] (cc_len C') dL_law_1007 ml_L_102 mv_X8_act rfl rfl (by omega) (mX8_act (cc_len C') (by omega) e8) rfl (Nat.le_of_ble_eq_true rfl) (by omega) (by omega) ?_
  refine a_icmp_eq (pc := 1010) 1307 dL_law_1010 (by decide) (fun _ => ?_) (fun c => absurd rfl c)
  exact ih C' M' D' _ _ hi' (by omega) (by omega)
set_option maxHeartbeats 4000000 in
theorem law_trace {l : Launch} {g : gE} {d MC MS' : Nat} {nm : String} {Q : Option Value → AH → Prop} {inv : CS → MS → List va_E → Prop} (hd : 64 ≤ d) (H : specs inv) {C : CS} {M : MS} {D : List va_E} (hi : inv C M D) {k n : Nat} (hk : k + 6 ≤ MC) (hn : n + 8222 ≤ MS') {l3 : Int32} (hb1 : vp_in (l3 + 1) (gL g)) (hb2 : vp_in (l3 + 2) (gL g)) (hb3 : vp_in (l3 + 3) (gL g)) (hb4 : vp_in (l3 + 4) (gL g)) (hb5 : vp_in (l3 + 5) (gL g))
    (ih : ∀ (C : CS) (M : MS) (D : List va_E) (k' n' : Nat), inv C M D → k' ≤ k + 6 → n' ≤ n + 8222 → AW l g d RL cL_law 4 nm MC MS' Q k' n' 1307 [some (.retAddr 12), some (.ref 0), some (.ref 26), some (.int l3)] [] (mh (ccells C) M D)) : AW l g d RL cL_law 4 nm MC MS' Q k n 1015 [some (.retAddr 12), some (.ref 0), some (.ref 26), some (.int l3)] [] (mh (ccells C) M D) := by
  obtain ⟨r, C', M', D', e7, e8, hi'⟩ := H.2.2.2.2.2.2.2.2.2.2.2.2.2.2.2.2.2.2.2.2.2.1 C M D (gX g (l3 + 1).toNatClampNeg) hi
  refine a_aload_n (pc := 1015) dL_law_1015 rfl (isRv_r _) ?_
  refine a_aload_n (pc := 1016) dL_law_1016 rfl (isRv_o _) ?_
  refine a_iload_n (pc := 1017) dL_law_1017 rfl ?_
  refine a_iconst (pc := 1018) 1 dL_law_1018 rfl ?_
  refine a_iadd (pc := 1019) dL_law_1019 ?_
  refine a_old12 (pc := 1020) dL_law_1020 hb1 ?_
  refine g_call (pc := 1021) (ci := 7) (mc := 0) (ms := 0) (.int r) [.int (gX g (l3 + 1).toNatClampNeg)] [] dL_law_1021 ml_L_103 mv_X7_trace ⟨_, rfl⟩ (by decide) rfl rfl (by omega) (mX7_trace (by omega) e7) rfl (Nat.le_of_ble_eq_true rfl) (by omega) (by omega) ?_
  refine a_aload_n (pc := 1024) dL_law_1024 rfl (isRv_r _) ?_
  refine a_aload_n (pc := 1025) dL_law_1025 rfl (isRv_o _) ?_
  refine a_iload_n (pc := 1026) dL_law_1026 rfl ?_
  refine a_iconst (pc := 1027) 1 dL_law_1027 rfl ?_
  refine a_iadd (pc := 1028) dL_law_1028 ?_
  refine a_old12 (pc := 1029) dL_law_1029 hb1 ?_
  refine m_call (pc := 1030) (.int r) [.int (gX g (l3 + 1).toNatClampNeg)] [.int r] (cc_len C') dL_law_1030 ml_L_106 mv_X8_trace rfl rfl (by omega) (mX8_trace (cc_len C') (by omega) e8) rfl (Nat.le_of_ble_eq_true rfl) (by omega) (by omega) ?_
  refine a_icmp_eq (pc := 1033) 1307 dL_law_1033 (by decide) (fun _ => ?_) (fun c => absurd rfl c)
  exact ih C' M' D' _ _ hi' (by omega) (by omega)
set_option maxHeartbeats 4000000 in
theorem law_taken {l : Launch} {g : gE} {d MC MS' : Nat} {nm : String} {Q : Option Value → AH → Prop} {inv : CS → MS → List va_E → Prop} (hd : 64 ≤ d) (H : specs inv) {C : CS} {M : MS} {D : List va_E} (hi : inv C M D) {k n : Nat} (hk : k + 6 ≤ MC) (hn : n + 8222 ≤ MS') {l3 : Int32} (hb1 : vp_in (l3 + 1) (gL g)) (hb2 : vp_in (l3 + 2) (gL g)) (hb3 : vp_in (l3 + 3) (gL g)) (hb4 : vp_in (l3 + 4) (gL g)) (hb5 : vp_in (l3 + 5) (gL g))
    (ih : ∀ (C : CS) (M : MS) (D : List va_E) (k' n' : Nat), inv C M D → k' ≤ k + 6 → n' ≤ n + 8222 → AW l g d RL cL_law 4 nm MC MS' Q k' n' 1307 [some (.retAddr 12), some (.ref 0), some (.ref 26), some (.int l3)] [] (mh (ccells C) M D)) : AW l g d RL cL_law 4 nm MC MS' Q k n 1038 [some (.retAddr 12), some (.ref 0), some (.ref 26), some (.int l3)] [] (mh (ccells C) M D) := by
  obtain ⟨r, C', M', D', e7, e8, hi'⟩ := H.2.2.2.2.2.2.2.2.2.2.2.2.2.2.2.2.2.2.2.2.2.2.1 C M D (gX g (l3 + 1).toNatClampNeg) (gX g (l3 + 2).toNatClampNeg) hi
  refine a_aload_n (pc := 1038) dL_law_1038 rfl (isRv_r _) ?_
  refine a_aload_n (pc := 1039) dL_law_1039 rfl (isRv_o _) ?_
  refine a_iload_n (pc := 1040) dL_law_1040 rfl ?_
  refine a_iconst (pc := 1041) 1 dL_law_1041 rfl ?_
  refine a_iadd (pc := 1042) dL_law_1042 ?_
  refine a_old12 (pc := 1043) dL_law_1043 hb1 ?_
  refine a_aload_n (pc := 1044) dL_law_1044 rfl (isRv_o _) ?_
  refine a_iload_n (pc := 1045) dL_law_1045 rfl ?_
  refine a_iconst (pc := 1046) 2 dL_law_1046 rfl ?_
  refine a_iadd (pc := 1047) dL_law_1047 ?_
  refine a_old12 (pc := 1048) dL_law_1048 hb2 ?_
  refine g_call (pc := 1049) (ci := 7) (mc := 0) (ms := 0) (.int r) [.int (gX g (l3 + 1).toNatClampNeg), .int (gX g (l3 + 2).toNatClampNeg)] [] dL_law_1049 ml_L_107 mv_X7_taken ⟨_, rfl⟩ (by decide) rfl rfl (by omega) (mX7_taken (by omega) e7) rfl (Nat.le_of_ble_eq_true rfl) (by omega) (by omega) ?_
  refine a_aload_n (pc := 1052) dL_law_1052 rfl (isRv_r _) ?_
  refine a_aload_n (pc := 1053) dL_law_1053 rfl (isRv_o _) ?_
  refine a_iload_n (pc := 1054) dL_law_1054 rfl ?_
  refine a_iconst (pc := 1055) 1 dL_law_1055 rfl ?_
  refine a_iadd (pc := 1056) dL_law_1056 ?_
  refine a_old12 (pc := 1057) dL_law_1057 hb1 ?_
  refine a_aload_n (pc := 1058) dL_law_1058 rfl (isRv_o _) ?_
  refine a_iload_n (pc := 1059) dL_law_1059 rfl ?_
  refine a_iconst (pc := 1060) 2 dL_law_1060 rfl ?_
  refine a_iadd (pc := 1061) dL_law_1061 ?_
  refine a_old12 (pc := 1062) dL_law_1062 hb2 ?_
  refine m_call (pc := 1063) (.int r) [.int (gX g (l3 + 1).toNatClampNeg), .int (gX g (l3 + 2).toNatClampNeg)] [.int r] (cc_len C') dL_law_1063 ml_L_110 mv_X8_taken rfl rfl (by omega) (mX8_taken (cc_len C') (by omega) e8) rfl (Nat.le_of_ble_eq_true rfl) (by omega) (by omega) ?_
  refine a_icmp_eq (pc := 1066) 1307 dL_law_1066 (by decide) (fun _ => ?_) (fun c => absurd rfl c)
  exact ih C' M' D' _ _ hi' (by omega) (by omega)
set_option maxHeartbeats 4000000 in
theorem law_count {l : Launch} {g : gE} {d MC MS' : Nat} {nm : String} {Q : Option Value → AH → Prop} {inv : CS → MS → List va_E → Prop} (hd : 64 ≤ d) (H : specs inv) {C : CS} {M : MS} {D : List va_E} (hi : inv C M D) {k n : Nat} (hk : k + 6 ≤ MC) (hn : n + 8222 ≤ MS') {l3 : Int32} (hb1 : vp_in (l3 + 1) (gL g)) (hb2 : vp_in (l3 + 2) (gL g)) (hb3 : vp_in (l3 + 3) (gL g)) (hb4 : vp_in (l3 + 4) (gL g)) (hb5 : vp_in (l3 + 5) (gL g))
    (ih : ∀ (C : CS) (M : MS) (D : List va_E) (k' n' : Nat), inv C M D → k' ≤ k + 6 → n' ≤ n + 8222 → AW l g d RL cL_law 4 nm MC MS' Q k' n' 1307 [some (.retAddr 12), some (.ref 0), some (.ref 26), some (.int l3)] [] (mh (ccells C) M D)) : AW l g d RL cL_law 4 nm MC MS' Q k n 1071 [some (.retAddr 12), some (.ref 0), some (.ref 26), some (.int l3)] [] (mh (ccells C) M D) := by
  obtain ⟨r, C', M', D', e7, e8, hi'⟩ := H.2.2.2.2.2.2.2.2.2.2.2.2.2.2.2.2.2.2.2.2.2.2.2.1 C M D (gX g (l3 + 1).toNatClampNeg) hi
  refine a_aload_n (pc := 1071) dL_law_1071 rfl (isRv_r _) ?_
  refine a_aload_n (pc := 1072) dL_law_1072 rfl (isRv_o _) ?_
  refine a_iload_n (pc := 1073) dL_law_1073 rfl ?_
  refine a_iconst (pc := 1074) 1 dL_law_1074 rfl ?_
  refine a_iadd (pc := 1075) dL_law_1075 ?_
  refine a_old12 (pc := 1076) dL_law_1076 hb1 ?_
  refine g_call (pc := 1077) (ci := 7) (mc := 0) (ms := 0) (.int r) [.int (gX g (l3 + 1).toNatClampNeg)] [] dL_law_1077 ml_L_111 mv_X7_count ⟨_, rfl⟩ (by decide) rfl rfl (by omega) (mX7_count (by omega) e7) rfl (Nat.le_of_ble_eq_true rfl) (by omega) (by omega) ?_
  refine a_aload_n (pc := 1080) dL_law_1080 rfl (isRv_r _) ?_
  refine a_aload_n (pc := 1081) dL_law_1081 rfl (isRv_o _) ?_
  refine a_iload_n (pc := 1082) dL_law_1082 rfl ?_
  refine a_iconst (pc := 1083) 1 dL_law_1083 rfl ?_
  refine a_iadd (pc := 1084) dL_law_1084 ?_
  refine a_old12 (pc := 1085) dL_law_1085 hb1 ?_
  refine m_call (pc := 1086) (.int r) [.int (gX g (l3 + 1).toNatClampNeg)] [.int r] (cc_len C') dL_law_1086 ml_L_114 mv_X8_count rfl rfl (by omega) (mX8_count (cc_len C') (by omega) e8) rfl (Nat.le_of_ble_eq_true rfl) (by omega) (by omega) ?_
  refine a_icmp_eq (pc := 1089) 1307 dL_law_1089 (by decide) (fun _ => ?_) (fun c => absurd rfl c)
  exact ih C' M' D' _ _ hi' (by omega) (by omega)
set_option maxHeartbeats 4000000 in
theorem law_tape {l : Launch} {g : gE} {d MC MS' : Nat} {nm : String} {Q : Option Value → AH → Prop} {inv : CS → MS → List va_E → Prop} (hd : 64 ≤ d) (H : specs inv) {C : CS} {M : MS} {D : List va_E} (hi : inv C M D) {k n : Nat} (hk : k + 6 ≤ MC) (hn : n + 8222 ≤ MS') {l3 : Int32} (hb1 : vp_in (l3 + 1) (gL g)) (hb2 : vp_in (l3 + 2) (gL g)) (hb3 : vp_in (l3 + 3) (gL g)) (hb4 : vp_in (l3 + 4) (gL g)) (hb5 : vp_in (l3 + 5) (gL g))
    (ih : ∀ (C : CS) (M : MS) (D : List va_E) (k' n' : Nat), inv C M D → k' ≤ k + 6 → n' ≤ n + 8222 → AW l g d RL cL_law 4 nm MC MS' Q k' n' 1307 [some (.retAddr 12), some (.ref 0), some (.ref 26), some (.int l3)] [] (mh (ccells C) M D)) : AW l g d RL cL_law 4 nm MC MS' Q k n 1094 [some (.retAddr 12), some (.ref 0), some (.ref 26), some (.int l3)] [] (mh (ccells C) M D) := by
  obtain ⟨r, C', M', D', e7, e8, hi'⟩ := H.2.2.2.2.2.2.2.2.2.2.2.2.2.2.2.2.2.2.2.2.2.2.2.2.1 C M D (gX g (l3 + 1).toNatClampNeg) (gX g (l3 + 2).toNatClampNeg) (gX g (l3 + 3).toNatClampNeg) hi
  refine a_aload_n (pc := 1094) dL_law_1094 rfl (isRv_r _) ?_
  refine a_aload_n (pc := 1095) dL_law_1095 rfl (isRv_o _) ?_
  refine a_iload_n (pc := 1096) dL_law_1096 rfl ?_
  refine a_iconst (pc := 1097) 1 dL_law_1097 rfl ?_
  refine a_iadd (pc := 1098) dL_law_1098 ?_
  refine a_old12 (pc := 1099) dL_law_1099 hb1 ?_
  refine a_aload_n (pc := 1100) dL_law_1100 rfl (isRv_o _) ?_
  refine a_iload_n (pc := 1101) dL_law_1101 rfl ?_
  refine a_iconst (pc := 1102) 2 dL_law_1102 rfl ?_
  refine a_iadd (pc := 1103) dL_law_1103 ?_
  refine a_old12 (pc := 1104) dL_law_1104 hb2 ?_
  refine a_aload_n (pc := 1105) dL_law_1105 rfl (isRv_o _) ?_
  refine a_iload_n (pc := 1106) dL_law_1106 rfl ?_
  refine a_iconst (pc := 1107) 3 dL_law_1107 rfl ?_
  refine a_iadd (pc := 1108) dL_law_1108 ?_
  refine a_old12 (pc := 1109) dL_law_1109 hb3 ?_
  refine g_call (pc := 1110) (ci := 7) (mc := 0) (ms := 0) (.int r) [.int (gX g (l3 + 1).toNatClampNeg), .int (gX g (l3 + 2).toNatClampNeg), .int (gX g (l3 + 3).toNatClampNeg)] [] dL_law_1110 ml_L_115 mv_X7_tape ⟨_, rfl⟩ (by decide) rfl rfl (by omega) (mX7_tape (by omega) e7) rfl (Nat.le_of_ble_eq_true rfl) (by omega) (by omega) ?_
  refine a_aload_n (pc := 1113) dL_law_1113 rfl (isRv_r _) ?_
  refine a_aload_n (pc := 1114) dL_law_1114 rfl (isRv_o _) ?_
  refine a_iload_n (pc := 1115) dL_law_1115 rfl ?_
  refine a_iconst (pc := 1116) 1 dL_law_1116 rfl ?_
  refine a_iadd (pc := 1117) dL_law_1117 ?_
  refine a_old12 (pc := 1118) dL_law_1118 hb1 ?_
  refine a_aload_n (pc := 1119) dL_law_1119 rfl (isRv_o _) ?_
  refine a_iload_n (pc := 1120) dL_law_1120 rfl ?_
  refine a_iconst (pc := 1121) 2 dL_law_1121 rfl ?_
  refine a_iadd (pc := 1122) dL_law_1122 ?_
  refine a_old12 (pc := 1123) dL_law_1123 hb2 ?_
  refine a_aload_n (pc := 1124) dL_law_1124 rfl (isRv_o _) ?_
  refine a_iload_n (pc := 1125) dL_law_1125 rfl ?_
  refine a_iconst (pc := 1126) 3 dL_law_1126 rfl ?_
  refine a_iadd (pc := 1127) dL_law_1127 ?_
  refine a_old12 (pc := 1128) dL_law_1128 hb3 ?_
  refine m_call (pc := 1129) (.int r) [.int (gX g (l3 + 1).toNatClampNeg), .int (gX g (l3 + 2).toNatClampNeg), .int (gX g (l3 + 3).toNatClampNeg)] [.int r] (cc_len C') dL_law_1129 ml_L_118 mv_X8_tape rfl rfl (by omega) (mX8_tape (cc_len C') (by omega) e8) rfl (Nat.le_of_ble_eq_true rfl) (by omega) (by omega) ?_
  refine a_icmp_eq (pc := 1132) 1307 dL_law_1132 (by decide) (fun _ => ?_) (fun c => absurd rfl c)
  exact ih C' M' D' _ _ hi' (by omega) (by omega)
set_option maxHeartbeats 4000000 in
theorem law_item {l : Launch} {g : gE} {d MC MS' : Nat} {nm : String} {Q : Option Value → AH → Prop} {inv : CS → MS → List va_E → Prop} (hd : 64 ≤ d) (H : specs inv) {C : CS} {M : MS} {D : List va_E} (hi : inv C M D) {k n : Nat} (hk : k + 6 ≤ MC) (hn : n + 8222 ≤ MS') {l3 : Int32} (hb1 : vp_in (l3 + 1) (gL g)) (hb2 : vp_in (l3 + 2) (gL g)) (hb3 : vp_in (l3 + 3) (gL g)) (hb4 : vp_in (l3 + 4) (gL g)) (hb5 : vp_in (l3 + 5) (gL g))
    (ih : ∀ (C : CS) (M : MS) (D : List va_E) (k' n' : Nat), inv C M D → k' ≤ k + 6 → n' ≤ n + 8222 → AW l g d RL cL_law 4 nm MC MS' Q k' n' 1307 [some (.retAddr 12), some (.ref 0), some (.ref 26), some (.int l3)] [] (mh (ccells C) M D)) : AW l g d RL cL_law 4 nm MC MS' Q k n 1137 [some (.retAddr 12), some (.ref 0), some (.ref 26), some (.int l3)] [] (mh (ccells C) M D) := by
  obtain ⟨r, C', M', D', e7, e8, hi'⟩ := H.2.2.2.2.2.2.2.2.2.2.2.2.2.2.2.2.2.2.2.2.2.2.2.2.2.1 C M D (gX g (l3 + 1).toNatClampNeg) (gX g (l3 + 2).toNatClampNeg) ((((gX g (l3 + 3).toNatClampNeg)).toInt64 <<< ((32 : Int32).toInt64 &&& 63)) ||| (((gX g (l3 + 4).toNatClampNeg)).toInt64 &&& (4294967295 : Int64))) hi
  refine a_aload_n (pc := 1137) dL_law_1137 rfl (isRv_r _) ?_
  refine a_aload_n (pc := 1138) dL_law_1138 rfl (isRv_o _) ?_
  refine a_iload_n (pc := 1139) dL_law_1139 rfl ?_
  refine a_iconst (pc := 1140) 1 dL_law_1140 rfl ?_
  refine a_iadd (pc := 1141) dL_law_1141 ?_
  refine a_old12 (pc := 1142) dL_law_1142 hb1 ?_
  refine a_aload_n (pc := 1143) dL_law_1143 rfl (isRv_o _) ?_
  refine a_iload_n (pc := 1144) dL_law_1144 rfl ?_
  refine a_iconst (pc := 1145) 2 dL_law_1145 rfl ?_
  refine a_iadd (pc := 1146) dL_law_1146 ?_
  refine a_old12 (pc := 1147) dL_law_1147 hb2 ?_
  refine a_aload_n (pc := 1148) dL_law_1148 rfl (isRv_o _) ?_
  refine a_iload_n (pc := 1149) dL_law_1149 rfl ?_
  refine a_iconst (pc := 1150) 3 dL_law_1150 rfl ?_
  refine a_iadd (pc := 1151) dL_law_1151 ?_
  refine a_old12 (pc := 1152) dL_law_1152 hb3 ?_
  refine a_i2l (pc := 1153) dL_law_1153 ?_
  refine a_bipush (pc := 1154) 32 dL_law_1154 rfl ?_
  refine a_lshl (pc := 1156) dL_law_1156 ?_
  refine a_aload_n (pc := 1157) dL_law_1157 rfl (isRv_o _) ?_
  refine a_iload_n (pc := 1158) dL_law_1158 rfl ?_
  refine a_iconst (pc := 1159) 4 dL_law_1159 rfl ?_
  refine a_iadd (pc := 1160) dL_law_1160 ?_
  refine a_old12 (pc := 1161) dL_law_1161 hb4 ?_
  refine a_i2l (pc := 1162) dL_law_1162 ?_
  refine a_ldc2 (pc := 1163) 4294967295 dL_law_1163 kc_L_119 ?_
  refine a_land (pc := 1166) dL_law_1166 ?_
  refine a_lor (pc := 1167) dL_law_1167 ?_
  refine g_call (pc := 1168) (ci := 7) (mc := 0) (ms := 0) (.int r) [.int (gX g (l3 + 1).toNatClampNeg), .int (gX g (l3 + 2).toNatClampNeg), .long ((((gX g (l3 + 3).toNatClampNeg)).toInt64 <<< ((32 : Int32).toInt64 &&& 63)) ||| (((gX g (l3 + 4).toNatClampNeg)).toInt64 &&& (4294967295 : Int64)))] [] dL_law_1168 ml_L_121 mv_X7_item ⟨_, rfl⟩ (by decide) rfl rfl (by omega) (mX7_item (by omega) e7) rfl (Nat.le_of_ble_eq_true rfl) (by omega) (by omega) ?_
  refine a_aload_n (pc := 1171) dL_law_1171 rfl (isRv_r _) ?_
  refine a_aload_n (pc := 1172) dL_law_1172 rfl (isRv_o _) ?_
  refine a_iload_n (pc := 1173) dL_law_1173 rfl ?_
  refine a_iconst (pc := 1174) 1 dL_law_1174 rfl ?_
  refine a_iadd (pc := 1175) dL_law_1175 ?_
  refine a_old12 (pc := 1176) dL_law_1176 hb1 ?_
  refine a_aload_n (pc := 1177) dL_law_1177 rfl (isRv_o _) ?_
  refine a_iload_n (pc := 1178) dL_law_1178 rfl ?_
  refine a_iconst (pc := 1179) 2 dL_law_1179 rfl ?_
  refine a_iadd (pc := 1180) dL_law_1180 ?_
  refine a_old12 (pc := 1181) dL_law_1181 hb2 ?_
  refine a_aload_n (pc := 1182) dL_law_1182 rfl (isRv_o _) ?_
  refine a_iload_n (pc := 1183) dL_law_1183 rfl ?_
  refine a_iconst (pc := 1184) 3 dL_law_1184 rfl ?_
  refine a_iadd (pc := 1185) dL_law_1185 ?_
  refine a_old12 (pc := 1186) dL_law_1186 hb3 ?_
  refine a_i2l (pc := 1187) dL_law_1187 ?_
  refine a_bipush (pc := 1188) 32 dL_law_1188 rfl ?_
  refine a_lshl (pc := 1190) dL_law_1190 ?_
  refine a_aload_n (pc := 1191) dL_law_1191 rfl (isRv_o _) ?_
  refine a_iload_n (pc := 1192) dL_law_1192 rfl ?_
  refine a_iconst (pc := 1193) 4 dL_law_1193 rfl ?_
  refine a_iadd (pc := 1194) dL_law_1194 ?_
  refine a_old12 (pc := 1195) dL_law_1195 hb4 ?_
  refine a_i2l (pc := 1196) dL_law_1196 ?_
  refine a_ldc2 (pc := 1197) 4294967295 dL_law_1197 kc_L_119 ?_
  refine a_land (pc := 1200) dL_law_1200 ?_
  refine a_lor (pc := 1201) dL_law_1201 ?_
  refine m_call (pc := 1202) (.int r) [.int (gX g (l3 + 1).toNatClampNeg), .int (gX g (l3 + 2).toNatClampNeg), .long ((((gX g (l3 + 3).toNatClampNeg)).toInt64 <<< ((32 : Int32).toInt64 &&& 63)) ||| (((gX g (l3 + 4).toNatClampNeg)).toInt64 &&& (4294967295 : Int64)))] [.int r] (cc_len C') dL_law_1202 ml_L_125 mv_X8_item rfl rfl (by omega) (mX8_item (cc_len C') (by omega) e8) rfl (Nat.le_of_ble_eq_true rfl) (by omega) (by omega) ?_
  refine a_icmp_eq (pc := 1205) 1307 dL_law_1205 (by decide) (fun _ => ?_) (fun c => absurd rfl c)
  exact ih C' M' D' _ _ hi' (by omega) (by omega)
set_option maxHeartbeats 4000000 in
theorem law_read {l : Launch} {g : gE} {d MC MS' : Nat} {nm : String} {Q : Option Value → AH → Prop} {inv : CS → MS → List va_E → Prop} (hd : 64 ≤ d) (H : specs inv) {C : CS} {M : MS} {D : List va_E} (hi : inv C M D) {k n : Nat} (hk : k + 6 ≤ MC) (hn : n + 8222 ≤ MS') {l3 : Int32} (hb1 : vp_in (l3 + 1) (gL g)) (hb2 : vp_in (l3 + 2) (gL g)) (hb3 : vp_in (l3 + 3) (gL g)) (hb4 : vp_in (l3 + 4) (gL g)) (hb5 : vp_in (l3 + 5) (gL g))
    (ih : ∀ (C : CS) (M : MS) (D : List va_E) (k' n' : Nat), inv C M D → k' ≤ k + 6 → n' ≤ n + 8222 → AW l g d RL cL_law 4 nm MC MS' Q k' n' 1307 [some (.retAddr 12), some (.ref 0), some (.ref 26), some (.int l3)] [] (mh (ccells C) M D)) : AW l g d RL cL_law 4 nm MC MS' Q k n 1210 [some (.retAddr 12), some (.ref 0), some (.ref 26), some (.int l3)] [] (mh (ccells C) M D) := by
  obtain ⟨r, C', M', D', e7, e8, hi'⟩ := H.2.2.2.2.2.2.2.2.2.2.2.2.2.2.2.2.2.2.2.2.2.2.2.2.2.2.1 C M D (gX g (l3 + 1).toNatClampNeg) (gX g (l3 + 2).toNatClampNeg) hi
  refine a_aload_n (pc := 1210) dL_law_1210 rfl (isRv_r _) ?_
  refine a_aload_n (pc := 1211) dL_law_1211 rfl (isRv_o _) ?_
  refine a_iload_n (pc := 1212) dL_law_1212 rfl ?_
  refine a_iconst (pc := 1213) 1 dL_law_1213 rfl ?_
  refine a_iadd (pc := 1214) dL_law_1214 ?_
  refine a_old12 (pc := 1215) dL_law_1215 hb1 ?_
  refine a_aload_n (pc := 1216) dL_law_1216 rfl (isRv_o _) ?_
  refine a_iload_n (pc := 1217) dL_law_1217 rfl ?_
  refine a_iconst (pc := 1218) 2 dL_law_1218 rfl ?_
  refine a_iadd (pc := 1219) dL_law_1219 ?_
  refine a_old12 (pc := 1220) dL_law_1220 hb2 ?_
  refine g_call (pc := 1221) (ci := 7) (mc := 0) (ms := 0) (.long r) [.int (gX g (l3 + 1).toNatClampNeg), .int (gX g (l3 + 2).toNatClampNeg)] [] dL_law_1221 ml_L_126 mv_X7_read ⟨_, rfl⟩ (by decide) rfl rfl (by omega) (mX7_read (by omega) e7) rfl (Nat.le_of_ble_eq_true rfl) (by omega) (by omega) ?_
  refine a_aload_n (pc := 1224) dL_law_1224 rfl (isRv_r _) ?_
  refine a_aload_n (pc := 1225) dL_law_1225 rfl (isRv_o _) ?_
  refine a_iload_n (pc := 1226) dL_law_1226 rfl ?_
  refine a_iconst (pc := 1227) 1 dL_law_1227 rfl ?_
  refine a_iadd (pc := 1228) dL_law_1228 ?_
  refine a_old12 (pc := 1229) dL_law_1229 hb1 ?_
  refine a_aload_n (pc := 1230) dL_law_1230 rfl (isRv_o _) ?_
  refine a_iload_n (pc := 1231) dL_law_1231 rfl ?_
  refine a_iconst (pc := 1232) 2 dL_law_1232 rfl ?_
  refine a_iadd (pc := 1233) dL_law_1233 ?_
  refine a_old12 (pc := 1234) dL_law_1234 hb2 ?_
  refine m_call (pc := 1235) (.long r) [.int (gX g (l3 + 1).toNatClampNeg), .int (gX g (l3 + 2).toNatClampNeg)] [.long r] (cc_len C') dL_law_1235 ml_L_130 mv_X8_read rfl rfl (by omega) (mX8_read (cc_len C') (by omega) e8) rfl (Nat.le_of_ble_eq_true rfl) (by omega) (by omega) ?_
  refine a_lcmp (pc := 1238) dL_law_1238 ?_
  rw [lg_self]
  refine a_if_eq (pc := 1239) 1307 dL_law_1239 (by decide) (fun _ => ?_) (fun c => absurd rfl c)
  exact ih C' M' D' _ _ hi' (by omega) (by omega)
set_option maxHeartbeats 4000000 in
theorem law_shift {l : Launch} {g : gE} {d MC MS' : Nat} {nm : String} {Q : Option Value → AH → Prop} {inv : CS → MS → List va_E → Prop} (hd : 64 ≤ d) (H : specs inv) {C : CS} {M : MS} {D : List va_E} (hi : inv C M D) {k n : Nat} (hk : k + 6 ≤ MC) (hn : n + 8222 ≤ MS') {l3 : Int32} (hb1 : vp_in (l3 + 1) (gL g)) (hb2 : vp_in (l3 + 2) (gL g)) (hb3 : vp_in (l3 + 3) (gL g)) (hb4 : vp_in (l3 + 4) (gL g)) (hb5 : vp_in (l3 + 5) (gL g))
    (ih : ∀ (C : CS) (M : MS) (D : List va_E) (k' n' : Nat), inv C M D → k' ≤ k + 6 → n' ≤ n + 8222 → AW l g d RL cL_law 4 nm MC MS' Q k' n' 1307 [some (.retAddr 12), some (.ref 0), some (.ref 26), some (.int l3)] [] (mh (ccells C) M D)) : AW l g d RL cL_law 4 nm MC MS' Q k n 1244 [some (.retAddr 12), some (.ref 0), some (.ref 26), some (.int l3)] [] (mh (ccells C) M D) := by
  obtain ⟨r, C', M', D', e7, e8, hi'⟩ := H.2.2.2.2.2.2.2.2.2.2.2.2.2.2.2.2.2.2.2.2.2.2.2.2.2.2.2 C M D (gX g (l3 + 1).toNatClampNeg) (gX g (l3 + 2).toNatClampNeg) (gX g (l3 + 3).toNatClampNeg) (gX g (l3 + 4).toNatClampNeg) (gX g (l3 + 5).toNatClampNeg) hi
  refine a_aload_n (pc := 1244) dL_law_1244 rfl (isRv_r _) ?_
  refine a_aload_n (pc := 1245) dL_law_1245 rfl (isRv_o _) ?_
  refine a_iload_n (pc := 1246) dL_law_1246 rfl ?_
  refine a_iconst (pc := 1247) 1 dL_law_1247 rfl ?_
  refine a_iadd (pc := 1248) dL_law_1248 ?_
  refine a_old12 (pc := 1249) dL_law_1249 hb1 ?_
  refine a_aload_n (pc := 1250) dL_law_1250 rfl (isRv_o _) ?_
  refine a_iload_n (pc := 1251) dL_law_1251 rfl ?_
  refine a_iconst (pc := 1252) 2 dL_law_1252 rfl ?_
  refine a_iadd (pc := 1253) dL_law_1253 ?_
  refine a_old12 (pc := 1254) dL_law_1254 hb2 ?_
  refine a_aload_n (pc := 1255) dL_law_1255 rfl (isRv_o _) ?_
  refine a_iload_n (pc := 1256) dL_law_1256 rfl ?_
  refine a_iconst (pc := 1257) 3 dL_law_1257 rfl ?_
  refine a_iadd (pc := 1258) dL_law_1258 ?_
  refine a_old12 (pc := 1259) dL_law_1259 hb3 ?_
  refine a_aload_n (pc := 1260) dL_law_1260 rfl (isRv_o _) ?_
  refine a_iload_n (pc := 1261) dL_law_1261 rfl ?_
  refine a_iconst (pc := 1262) 4 dL_law_1262 rfl ?_
  refine a_iadd (pc := 1263) dL_law_1263 ?_
  refine a_old12 (pc := 1264) dL_law_1264 hb4 ?_
  refine a_aload_n (pc := 1265) dL_law_1265 rfl (isRv_o _) ?_
  refine a_iload_n (pc := 1266) dL_law_1266 rfl ?_
  refine a_iconst (pc := 1267) 5 dL_law_1267 rfl ?_
  refine a_iadd (pc := 1268) dL_law_1268 ?_
  refine a_old12 (pc := 1269) dL_law_1269 hb5 ?_
  refine g_call (pc := 1270) (ci := 7) (mc := 0) (ms := 0) (.int r) [.int (gX g (l3 + 1).toNatClampNeg), .int (gX g (l3 + 2).toNatClampNeg), .int (gX g (l3 + 3).toNatClampNeg), .int (gX g (l3 + 4).toNatClampNeg), .int (gX g (l3 + 5).toNatClampNeg)] [] dL_law_1270 ml_L_131 mv_X7_shift ⟨_, rfl⟩ (by decide) rfl rfl (by omega) (mX7_shift (by omega) e7) rfl (Nat.le_of_ble_eq_true rfl) (by omega) (by omega) ?_
  refine a_aload_n (pc := 1273) dL_law_1273 rfl (isRv_r _) ?_
  refine a_aload_n (pc := 1274) dL_law_1274 rfl (isRv_o _) ?_
  refine a_iload_n (pc := 1275) dL_law_1275 rfl ?_
  refine a_iconst (pc := 1276) 1 dL_law_1276 rfl ?_
  refine a_iadd (pc := 1277) dL_law_1277 ?_
  refine a_old12 (pc := 1278) dL_law_1278 hb1 ?_
  refine a_aload_n (pc := 1279) dL_law_1279 rfl (isRv_o _) ?_
  refine a_iload_n (pc := 1280) dL_law_1280 rfl ?_
  refine a_iconst (pc := 1281) 2 dL_law_1281 rfl ?_
  refine a_iadd (pc := 1282) dL_law_1282 ?_
  refine a_old12 (pc := 1283) dL_law_1283 hb2 ?_
  refine a_aload_n (pc := 1284) dL_law_1284 rfl (isRv_o _) ?_
  refine a_iload_n (pc := 1285) dL_law_1285 rfl ?_
  refine a_iconst (pc := 1286) 3 dL_law_1286 rfl ?_
  refine a_iadd (pc := 1287) dL_law_1287 ?_
  refine a_old12 (pc := 1288) dL_law_1288 hb3 ?_
  refine a_aload_n (pc := 1289) dL_law_1289 rfl (isRv_o _) ?_
  refine a_iload_n (pc := 1290) dL_law_1290 rfl ?_
  refine a_iconst (pc := 1291) 4 dL_law_1291 rfl ?_
  refine a_iadd (pc := 1292) dL_law_1292 ?_
  refine a_old12 (pc := 1293) dL_law_1293 hb4 ?_
  refine a_aload_n (pc := 1294) dL_law_1294 rfl (isRv_o _) ?_
  refine a_iload_n (pc := 1295) dL_law_1295 rfl ?_
  refine a_iconst (pc := 1296) 5 dL_law_1296 rfl ?_
  refine a_iadd (pc := 1297) dL_law_1297 ?_
  refine a_old12 (pc := 1298) dL_law_1298 hb5 ?_
  refine m_call (pc := 1299) (.int r) [.int (gX g (l3 + 1).toNatClampNeg), .int (gX g (l3 + 2).toNatClampNeg), .int (gX g (l3 + 3).toNatClampNeg), .int (gX g (l3 + 4).toNatClampNeg), .int (gX g (l3 + 5).toNatClampNeg)] [.int r] (cc_len C') dL_law_1299 ml_L_134 mv_X8_shift rfl rfl (by omega) (mX8_shift (cc_len C') (by omega) e8) rfl (Nat.le_of_ble_eq_true rfl) (by omega) (by omega) ?_
  refine a_icmp_eq (pc := 1302) 1307 dL_law_1302 (by decide) (fun _ => ?_) (fun c => absurd rfl c)
  exact ih C' M' D' _ _ hi' (by omega) (by omega)
set_option maxHeartbeats 4000000 in
theorem law_body {l : Launch} {g : gE} {d MC MS' : Nat} {nm : String} {Q : Option Value → AH → Prop} {inv : CS → MS → List va_E → Prop} (hd : 64 ≤ d) (H : specs inv) {C : CS} {M : MS} {D : List va_E} (hi : inv C M D) {k n : Nat} (hk : k + 6 ≤ MC) (hn : n + 8222 ≤ MS') {l3 : Int32} (hb0 : vp_in l3 (gL g)) (hb1 : vp_in (l3 + 1) (gL g)) (hb2 : vp_in (l3 + 2) (gL g)) (hb3 : vp_in (l3 + 3) (gL g)) (hb4 : vp_in (l3 + 4) (gL g)) (hb5 : vp_in (l3 + 5) (gL g))
    (ih : ∀ (C : CS) (M : MS) (D : List va_E) (k' n' : Nat), inv C M D → k' ≤ k + 6 → n' ≤ n + 8222 → AW l g d RL cL_law 4 nm MC MS' Q k' n' 1307 [some (.retAddr 12), some (.ref 0), some (.ref 26), some (.int l3)] [] (mh (ccells C) M D)) : AW l g d RL cL_law 4 nm MC MS' Q k n 27 [some (.retAddr 12), some (.ref 0), some (.ref 26), some (.int l3)] [] (mh (ccells C) M D) := by
  refine a_aload_n (pc := 27) dL_law_27 rfl (isRv_o _) ?_
  refine a_iload_n (pc := 28) dL_law_28 rfl ?_
  refine a_old12 (pc := 29) dL_law_29 hb0 ?_
  refine a_bipush (pc := 30) 31 dL_law_30 rfl ?_
  refine a_iand (pc := 32) dL_law_32 ?_
  by_cases c0 : (gX g l3.toNatClampNeg &&& 31) = 0
  · refine a_tableIn (pc := 33) 160 dL_law_33 (by rw [c0]; decide) (by rw [c0]; decide) (off := 127) (by rw [c0]; rfl) (by decide) ?_
    exact law_feed hd H hi hk hn hb1 hb2 hb3 hb4 hb5 ih
  by_cases c1 : (gX g l3.toNatClampNeg &&& 31) = 1
  · refine a_tableIn (pc := 33) 193 dL_law_33 (by rw [c1]; decide) (by rw [c1]; decide) (off := 160) (by rw [c1]; rfl) (by decide) ?_
    exact law_text hd H hi hk hn hb1 hb2 hb3 hb4 hb5 ih
  by_cases c2 : (gX g l3.toNatClampNeg &&& 31) = 2
  · refine a_tableIn (pc := 33) 216 dL_law_33 (by rw [c2]; decide) (by rw [c2]; decide) (off := 183) (by rw [c2]; rfl) (by decide) ?_
    exact law_word hd H hi hk hn hb1 hb2 hb3 hb4 hb5 ih
  by_cases c3 : (gX g l3.toNatClampNeg &&& 31) = 3
  · refine a_tableIn (pc := 33) 249 dL_law_33 (by rw [c3]; decide) (by rw [c3]; decide) (off := 216) (by rw [c3]; rfl) (by decide) ?_
    exact law_price hd H hi hk hn hb1 hb2 hb3 hb4 hb5 ih
  by_cases c4 : (gX g l3.toNatClampNeg &&& 31) = 4
  · refine a_tableIn (pc := 33) 282 dL_law_33 (by rw [c4]; decide) (by rw [c4]; decide) (off := 249) (by rw [c4]; rfl) (by decide) ?_
    exact law_reads hd H hi hk hn hb1 hb2 hb3 hb4 hb5 ih
  by_cases c5 : (gX g l3.toNatClampNeg &&& 31) = 5
  · refine a_tableIn (pc := 33) 315 dL_law_33 (by rw [c5]; decide) (by rw [c5]; decide) (off := 282) (by rw [c5]; rfl) (by decide) ?_
    exact law_means hd H hi hk hn hb1 hb2 hb3 hb4 hb5 ih
  by_cases c6 : (gX g l3.toNatClampNeg &&& 31) = 6
  · refine a_tableIn (pc := 33) 359 dL_law_33 (by rw [c6]; decide) (by rw [c6]; decide) (off := 326) (by rw [c6]; rfl) (by decide) ?_
    exact law_lawful hd H hi hk hn hb1 hb2 hb3 hb4 hb5 ih
  by_cases c7 : (gX g l3.toNatClampNeg &&& 31) = 7
  · refine a_tableIn (pc := 33) 402 dL_law_33 (by rw [c7]; decide) (by rw [c7]; decide) (off := 369) (by rw [c7]; rfl) (by decide) ?_
    exact law_barred hd H hi hk hn hb1 hb2 hb3 hb4 hb5 ih
  by_cases c8 : (gX g l3.toNatClampNeg &&& 31) = 8
  · refine a_tableIn (pc := 33) 445 dL_law_33 (by rw [c8]; decide) (by rw [c8]; decide) (off := 412) (by rw [c8]; rfl) (by decide) ?_
    exact law_let hd H hi hk hn hb1 hb2 hb3 hb4 hb5 ih
  by_cases c9 : (gX g l3.toNatClampNeg &&& 31) = 9
  · refine a_tableIn (pc := 33) 488 dL_law_33 (by rw [c9]; decide) (by rw [c9]; decide) (off := 455) (by rw [c9]; rfl) (by decide) ?_
    exact law_good hd H hi hk hn hb1 hb2 hb3 hb4 hb5 ih
  by_cases c10 : (gX g l3.toNatClampNeg &&& 31) = 10
  · refine a_tableIn (pc := 33) 541 dL_law_33 (by rw [c10]; decide) (by rw [c10]; decide) (off := 508) (by rw [c10]; rfl) (by decide) ?_
    exact law_next hd H hi hk hn hb1 hb2 hb3 hb4 hb5 ih
  by_cases c11 : (gX g l3.toNatClampNeg &&& 31) = 11
  · refine a_tableIn (pc := 33) 594 dL_law_33 (by rw [c11]; decide) (by rw [c11]; decide) (off := 561) (by rw [c11]; rfl) (by decide) ?_
    exact law_least hd H hi hk hn hb1 hb2 hb3 hb4 hb5 ih
  by_cases c12 : (gX g l3.toNatClampNeg &&& 31) = 12
  · refine a_tableIn (pc := 33) 637 dL_law_33 (by rw [c12]; decide) (by rw [c12]; decide) (off := 604) (by rw [c12]; rfl) (by decide) ?_
    exact law_inAll hd H hi hk hn hb1 hb2 hb3 hb4 hb5 ih
  by_cases c13 : (gX g l3.toNatClampNeg &&& 31) = 13
  · refine a_tableIn (pc := 33) 680 dL_law_33 (by rw [c13]; decide) (by rw [c13]; decide) (off := 647) (by rw [c13]; rfl) (by decide) ?_
    exact law_plain hd H hi hk hn hb1 hb2 hb3 hb4 hb5 ih
  by_cases c14 : (gX g l3.toNatClampNeg &&& 31) = 14
  · refine a_tableIn (pc := 33) 703 dL_law_33 (by rw [c14]; decide) (by rw [c14]; decide) (off := 670) (by rw [c14]; rfl) (by decide) ?_
    exact law_cost hd H hi hk hn hb1 hb2 hb3 hb4 hb5 ih
  by_cases c15 : (gX g l3.toNatClampNeg &&& 31) = 15
  · refine a_tableIn (pc := 33) 747 dL_law_33 (by rw [c15]; decide) (by rw [c15]; decide) (off := 714) (by rw [c15]; rfl) (by decide) ?_
    exact law_dear hd H hi hk hn hb1 hb2 hb3 hb4 hb5 ih
  by_cases c16 : (gX g l3.toNatClampNeg &&& 31) = 16
  · refine a_tableIn (pc := 33) 800 dL_law_33 (by rw [c16]; decide) (by rw [c16]; decide) (off := 767) (by rw [c16]; rfl) (by decide) ?_
    exact law_alone hd H hi hk hn hb1 hb2 hb3 hb4 hb5 ih
  by_cases c17 : (gX g l3.toNatClampNeg &&& 31) = 17
  · refine a_tableIn (pc := 33) 833 dL_law_33 (by rw [c17]; decide) (by rw [c17]; decide) (off := 800) (by rw [c17]; rfl) (by decide) ?_
    exact law_apart hd H hi hk hn hb1 hb2 hb3 hb4 hb5 ih
  by_cases c18 : (gX g l3.toNatClampNeg &&& 31) = 18
  · refine a_tableIn (pc := 33) 876 dL_law_33 (by rw [c18]; decide) (by rw [c18]; decide) (off := 843) (by rw [c18]; rfl) (by decide) ?_
    exact law_saves hd H hi hk hn hb1 hb2 hb3 hb4 hb5 ih
  by_cases c19 : (gX g l3.toNatClampNeg &&& 31) = 19
  · refine a_tableIn (pc := 33) 909 dL_law_33 (by rw [c19]; decide) (by rw [c19]; decide) (off := 876) (by rw [c19]; rfl) (by decide) ?_
    exact law_table hd H hi hk hn hb1 hb2 hb3 hb4 hb5 ih
  by_cases c20 : (gX g l3.toNatClampNeg &&& 31) = 20
  · refine a_tableIn (pc := 33) 972 dL_law_33 (by rw [c20]; decide) (by rw [c20]; decide) (off := 939) (by rw [c20]; rfl) (by decide) ?_
    exact law_act hd H hi hk hn hb1 hb2 hb3 hb4 hb5 ih
  by_cases c21 : (gX g l3.toNatClampNeg &&& 31) = 21
  · refine a_tableIn (pc := 33) 1015 dL_law_33 (by rw [c21]; decide) (by rw [c21]; decide) (off := 982) (by rw [c21]; rfl) (by decide) ?_
    exact law_trace hd H hi hk hn hb1 hb2 hb3 hb4 hb5 ih
  by_cases c22 : (gX g l3.toNatClampNeg &&& 31) = 22
  · refine a_tableIn (pc := 33) 1038 dL_law_33 (by rw [c22]; decide) (by rw [c22]; decide) (off := 1005) (by rw [c22]; rfl) (by decide) ?_
    exact law_taken hd H hi hk hn hb1 hb2 hb3 hb4 hb5 ih
  by_cases c23 : (gX g l3.toNatClampNeg &&& 31) = 23
  · refine a_tableIn (pc := 33) 1071 dL_law_33 (by rw [c23]; decide) (by rw [c23]; decide) (off := 1038) (by rw [c23]; rfl) (by decide) ?_
    exact law_count hd H hi hk hn hb1 hb2 hb3 hb4 hb5 ih
  by_cases c24 : (gX g l3.toNatClampNeg &&& 31) = 24
  · refine a_tableIn (pc := 33) 1094 dL_law_33 (by rw [c24]; decide) (by rw [c24]; decide) (off := 1061) (by rw [c24]; rfl) (by decide) ?_
    exact law_tape hd H hi hk hn hb1 hb2 hb3 hb4 hb5 ih
  by_cases c25 : (gX g l3.toNatClampNeg &&& 31) = 25
  · refine a_tableIn (pc := 33) 1137 dL_law_33 (by rw [c25]; decide) (by rw [c25]; decide) (off := 1104) (by rw [c25]; rfl) (by decide) ?_
    exact law_item hd H hi hk hn hb1 hb2 hb3 hb4 hb5 ih
  by_cases c26 : (gX g l3.toNatClampNeg &&& 31) = 26
  · refine a_tableIn (pc := 33) 1210 dL_law_33 (by rw [c26]; decide) (by rw [c26]; decide) (off := 1177) (by rw [c26]; rfl) (by decide) ?_
    exact law_read hd H hi hk hn hb1 hb2 hb3 hb4 hb5 ih
  by_cases c27 : (gX g l3.toNatClampNeg &&& 31) = 27
  · refine a_tableIn (pc := 33) 1244 dL_law_33 (by rw [c27]; decide) (by rw [c27]; decide) (off := 1211) (by rw [c27]; rfl) (by decide) ?_
    exact law_shift hd H hi hk hn hb1 hb2 hb3 hb4 hb5 ih
  have hkd : AW l g d RL cL_law 4 nm MC MS' Q k n 1307 [some (.retAddr 12), some (.ref 0), some (.ref 26), some (.int l3)] [] (mh (ccells C) M D) := ih C M D k n hi (by omega) (by omega)
  by_cases h1l : ((gX g l3.toNatClampNeg &&& 31)).toInt < 0
  · exact a_tableOut (pc := 33) 1307 dL_law_33 (Or.inl h1l) (by decide) hkd
  by_cases h1h : 27 < ((gX g l3.toNatClampNeg &&& 31)).toInt
  · exact a_tableOut (pc := 33) 1307 dL_law_33 (Or.inr h1h) (by decide) hkd
  have h1a : ((gX g l3.toNatClampNeg &&& 31)).toInt = 0 ∨ ((gX g l3.toNatClampNeg &&& 31)).toInt = 1 ∨ ((gX g l3.toNatClampNeg &&& 31)).toInt = 2 ∨ ((gX g l3.toNatClampNeg &&& 31)).toInt = 3 ∨ ((gX g l3.toNatClampNeg &&& 31)).toInt = 4 ∨ ((gX g l3.toNatClampNeg &&& 31)).toInt = 5 ∨ ((gX g l3.toNatClampNeg &&& 31)).toInt = 6 ∨ ((gX g l3.toNatClampNeg &&& 31)).toInt = 7 ∨ ((gX g l3.toNatClampNeg &&& 31)).toInt = 8 ∨ ((gX g l3.toNatClampNeg &&& 31)).toInt = 9 ∨ ((gX g l3.toNatClampNeg &&& 31)).toInt = 10 ∨ ((gX g l3.toNatClampNeg &&& 31)).toInt = 11 ∨ ((gX g l3.toNatClampNeg &&& 31)).toInt = 12 ∨ ((gX g l3.toNatClampNeg &&& 31)).toInt = 13 ∨ ((gX g l3.toNatClampNeg &&& 31)).toInt = 14 ∨ ((gX g l3.toNatClampNeg &&& 31)).toInt = 15 ∨ ((gX g l3.toNatClampNeg &&& 31)).toInt = 16 ∨ ((gX g l3.toNatClampNeg &&& 31)).toInt = 17 ∨ ((gX g l3.toNatClampNeg &&& 31)).toInt = 18 ∨ ((gX g l3.toNatClampNeg &&& 31)).toInt = 19 ∨ ((gX g l3.toNatClampNeg &&& 31)).toInt = 20 ∨ ((gX g l3.toNatClampNeg &&& 31)).toInt = 21 ∨ ((gX g l3.toNatClampNeg &&& 31)).toInt = 22 ∨ ((gX g l3.toNatClampNeg &&& 31)).toInt = 23 ∨ ((gX g l3.toNatClampNeg &&& 31)).toInt = 24 ∨ ((gX g l3.toNatClampNeg &&& 31)).toInt = 25 ∨ ((gX g l3.toNatClampNeg &&& 31)).toInt = 26 ∨ ((gX g l3.toNatClampNeg &&& 31)).toInt = 27 := by omega
  rcases h1a with h1a | h1a | h1a | h1a | h1a | h1a | h1a | h1a | h1a | h1a | h1a | h1a | h1a | h1a | h1a | h1a | h1a | h1a | h1a | h1a | h1a | h1a | h1a | h1a | h1a | h1a | h1a | h1a
  · exact absurd (Int32.toInt_inj.mp (h1a.trans rfl)) c0
  · exact absurd (Int32.toInt_inj.mp (h1a.trans rfl)) c1
  · exact absurd (Int32.toInt_inj.mp (h1a.trans rfl)) c2
  · exact absurd (Int32.toInt_inj.mp (h1a.trans rfl)) c3
  · exact absurd (Int32.toInt_inj.mp (h1a.trans rfl)) c4
  · exact absurd (Int32.toInt_inj.mp (h1a.trans rfl)) c5
  · exact absurd (Int32.toInt_inj.mp (h1a.trans rfl)) c6
  · exact absurd (Int32.toInt_inj.mp (h1a.trans rfl)) c7
  · exact absurd (Int32.toInt_inj.mp (h1a.trans rfl)) c8
  · exact absurd (Int32.toInt_inj.mp (h1a.trans rfl)) c9
  · exact absurd (Int32.toInt_inj.mp (h1a.trans rfl)) c10
  · exact absurd (Int32.toInt_inj.mp (h1a.trans rfl)) c11
  · exact absurd (Int32.toInt_inj.mp (h1a.trans rfl)) c12
  · exact absurd (Int32.toInt_inj.mp (h1a.trans rfl)) c13
  · exact absurd (Int32.toInt_inj.mp (h1a.trans rfl)) c14
  · exact absurd (Int32.toInt_inj.mp (h1a.trans rfl)) c15
  · exact absurd (Int32.toInt_inj.mp (h1a.trans rfl)) c16
  · exact absurd (Int32.toInt_inj.mp (h1a.trans rfl)) c17
  · exact absurd (Int32.toInt_inj.mp (h1a.trans rfl)) c18
  · exact absurd (Int32.toInt_inj.mp (h1a.trans rfl)) c19
  · exact absurd (Int32.toInt_inj.mp (h1a.trans rfl)) c20
  · exact absurd (Int32.toInt_inj.mp (h1a.trans rfl)) c21
  · exact absurd (Int32.toInt_inj.mp (h1a.trans rfl)) c22
  · exact absurd (Int32.toInt_inj.mp (h1a.trans rfl)) c23
  · exact absurd (Int32.toInt_inj.mp (h1a.trans rfl)) c24
  · exact absurd (Int32.toInt_inj.mp (h1a.trans rfl)) c25
  · exact absurd (Int32.toInt_inj.mp (h1a.trans rfl)) c26
  · exact absurd (Int32.toInt_inj.mp (h1a.trans rfl)) c27
theorem lw_gt {L i : Nat} (hL : L ≤ 384) (hi : i ≤ 400) : (Int32.ofNat L - 6 < nI i) ↔ L < i + 6 := by
  have h1 : (nI L - nI 6).toInt = (L : Int) - (6 : Nat) := pk_sub_toInt (by omega) (by omega)
  have h2 : (nI i).toInt = (i : Int) := nI_toInt (by omega)
  show nI L - nI 6 < nI i ↔ _
  rw [Int32.lt_iff_toInt_lt, h1, h2]
  omega
theorem lw_in5 {L i c : Nat} (hL : L ≤ 384) (h : i + c < L) (x : Int32) (hx : x = nI c) : vp_in (nI i + x) L := by
  rw [hx, nI_add]
  exact vp_in_nI h (by omega)
set_option maxRecDepth 100000 in
set_option maxHeartbeats 4000000 in
theorem law_loop {l : Launch} {g : gE} {d MC MS' : Nat} {nm : String} {inv : CS → MS → List va_E → Prop} (hd : 64 ≤ d) (hL : gL g ≤ 384) (H : specs inv) : ∀ (m i k n : Nat) (C : CS) (M : MS) (D : List va_E), inv C M D → i ≤ 390 → gL g < i + 6 * m + 6 → k + 6 * m ≤ MC → n + 8222 * m ≤ MS' →
    AW l g d RL cL_law 4 nm MC MS' (fun v _ => v = some (.int 1)) k n 18 [some (.retAddr 12), some (.ref 0), some (.ref 26), some (.int (nI i))] [] (mh (ccells C) M D) := by
  intro m
  induction m with
  | zero =>
    intro i k n C M D hi hi2 hm hk hn
    refine a_iload_n (pc := 18) dL_law_18 rfl ?_
    refine a_aload_n (pc := 19) dL_law_19 rfl (isRv_o _) ?_
    refine a_len12 (pc := 20) dL_law_20 ?_
    refine a_bipush (pc := 21) 6 dL_law_21 rfl ?_
    refine a_isub (pc := 23) dL_law_23 ?_
    refine a_icmp_gt (pc := 24) 1313 dL_law_24 (by decide) (fun c => ?_) (fun c => absurd ((lw_gt hL (by omega)).mpr (by omega)) c)
    refine a_iconst (pc := 1313) 1 dL_law_1313 rfl ?_
    exact a_ireturn (pc := 1314) dL_law_1314 (by omega) (by omega) rfl
  | succ m ih =>
    intro i k n C M D hi hi2 hm hk hn
    refine a_iload_n (pc := 18) dL_law_18 rfl ?_
    refine a_aload_n (pc := 19) dL_law_19 rfl (isRv_o _) ?_
    refine a_len12 (pc := 20) dL_law_20 ?_
    refine a_bipush (pc := 21) 6 dL_law_21 rfl ?_
    refine a_isub (pc := 23) dL_law_23 ?_
    refine a_icmp_gt (pc := 24) 1313 dL_law_24 (by decide) (fun c => ?_) (fun c => ?_)
    · refine a_iconst (pc := 1313) 1 dL_law_1313 rfl ?_
      exact a_ireturn (pc := 1314) dL_law_1314 (by omega) (by omega) rfl
    · have hlt : i + 6 ≤ gL g := by
        rcases Nat.lt_or_ge (gL g) (i + 6) with q | q
        · exact absurd ((lw_gt hL (by omega)).mpr q) c
        · exact q
      clear c
      refine law_body hd H hi (by omega) (by omega) (vp_in_nI (by omega) (by omega)) (lw_in5 (c := 1) hL (by omega) 1 (by decide)) (lw_in5 (c := 2) hL (by omega) 2 (by decide)) (lw_in5 (c := 3) hL (by omega) 3 (by decide)) (lw_in5 (c := 4) hL (by omega) 4 (by decide)) (lw_in5 (c := 5) hL (by omega) 5 (by decide)) (fun C' M' D' k' n' hi' hk' hn' => ?_)
      refine a_iinc (pc := 1307) (ls' := [some (.retAddr 12), some (.ref 0), some (.ref 26), some (.int (nI (i + 6)))]) (nI (i + 6)) dL_law_1307 rfl (nI_add i 6) (by decide) rfl ?_
      refine a_goto (pc := 1310) 18 dL_law_1310 (by decide) ?_
      exact ih (i + 6) k' n' C' M' D' hi' (by omega) (by omega) (by omega) (by omega)
