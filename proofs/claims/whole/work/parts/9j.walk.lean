/-! THE LAW: words, cases, loop. Printed by wip/whole/gen/mklaw2.py. -/
theorem wm_RL_13 : Cond.methodLink RL 13 yX7_type ∈ TB := tbm 347 (by decide +kernel) (by decide +kernel)
theorem wm_RL_18 : Cond.methodLink RL 18 yX7_wipe ∈ TB := tbm 386 (by decide +kernel) (by decide +kernel)
theorem wm_RL_23 : Cond.methodLink RL 23 yX7_undo ∈ TB := tbm 394 (by decide +kernel) (by decide +kernel)
theorem wm_RL_27 : Cond.methodLink RL 27 yX7_fault ∈ TB := tbm 402 (by decide +kernel) (by decide +kernel)
theorem wm_RL_31 : Cond.methodLink RL 31 yX7_virtue ∈ TB := tbm 407 (by decide +kernel) (by decide +kernel)
theorem wm_RL_35 : Cond.methodLink RL 35 yX7_claimant ∈ TB := tbm 415 (by decide +kernel) (by decide +kernel)
theorem wm_RL_39 : Cond.methodLink RL 39 yX7_set ∈ TB := tbm 423 (by decide +kernel) (by decide +kernel)
theorem wm_RL_43 : Cond.methodLink RL 43 yX7_handing ∈ TB := tbm 427 (by decide +kernel) (by decide +kernel)
theorem wm_RL_47 : Cond.methodLink RL 47 yX7_claim ∈ TB := tbm 436 (by decide +kernel) (by decide +kernel)
theorem wm_RL_51 : Cond.methodLink RL 51 yX7_back ∈ TB := tbm 440 (by decide +kernel) (by decide +kernel)
theorem wm_RL_55 : Cond.methodLink RL 55 yX7_read ∈ TB := tbm 444 (by decide +kernel) (by decide +kernel)
theorem wm_RL_59 : Cond.methodLink RL 59 yX7_behind ∈ TB := tbm 457 (by decide +kernel) (by decide +kernel)
theorem wm_RL_63 : Cond.methodLink RL 63 yX7_gone ∈ TB := tbm 526 (by decide +kernel) (by decide +kernel)
theorem wm_RL_67 : Cond.methodLink RL 67 yX7_empty ∈ TB := tbm 530 (by decide +kernel) (by decide +kernel)
theorem wm_RL_72 : Cond.methodLink RL 72 yX7_sale ∈ TB := tbm 534 (by decide +kernel) (by decide +kernel)
theorem wm_RL_76 : Cond.methodLink RL 76 yX7_saint ∈ TB := tbm 538 (by decide +kernel) (by decide +kernel)
theorem wm_RL_80 : Cond.methodLink RL 80 yX7_fitting ∈ TB := tbm 542 (by decide +kernel) (by decide +kernel)
theorem wm_RL_84 : Cond.methodLink RL 84 yX7_match ∈ TB := tbm 551 (by decide +kernel) (by decide +kernel)
theorem wm_RL_88 : Cond.methodLink RL 88 yX7_ask ∈ TB := tbm 600 (by decide +kernel) (by decide +kernel)
theorem wm_RL_92 : Cond.methodLink RL 92 yX7_lie ∈ TB := tbm 612 (by decide +kernel) (by decide +kernel)
theorem wm_RL_96 : Cond.methodLink RL 96 yX7_guess ∈ TB := tbm 624 (by decide +kernel) (by decide +kernel)
theorem wm_RL_101 : Cond.methodLink RL 101 yX7_guard ∈ TB := tbm 644 (by decide +kernel) (by decide +kernel)
theorem wm_RL_105 : Cond.methodLink RL 105 yX7_shelves ∈ TB := tbm 652 (by decide +kernel) (by decide +kernel)
theorem wm_RL_109 : Cond.methodLink RL 109 yX7_together ∈ TB := tbm 665 (by decide +kernel) (by decide +kernel)
theorem wm_RL_113 : Cond.methodLink RL 113 yX7_seen ∈ TB := tbm 669 (by decide +kernel) (by decide +kernel)
theorem wm_RL_118 : Cond.methodLink RL 118 yX7_forget ∈ TB := tbm 678 (by decide +kernel) (by decide +kernel)
theorem wm_RL_122 : Cond.methodLink RL 122 yX7_when ∈ TB := tbm 682 (by decide +kernel) (by decide +kernel)
theorem wm_RL_126 : Cond.methodLink RL 126 yX7_weeks ∈ TB := tbm 700 (by decide +kernel) (by decide +kernel)
theorem wm_RL_130 : Cond.methodLink RL 130 yX7_sheet ∈ TB := tbm 713 (by decide +kernel) (by decide +kernel)
theorem wm_RL_134 : Cond.methodLink RL 134 yX7_lose ∈ TB := tbm 722 (by decide +kernel) (by decide +kernel)
theorem wm_RL_138 : Cond.methodLink RL 138 yX7_put ∈ TB := tbm 726 (by decide +kernel) (by decide +kernel)
theorem wm_RL_143 : Cond.methodLink RL 143 yX7_get ∈ TB := tbm 740 (by decide +kernel) (by decide +kernel)
theorem wm_RL_147 : Cond.methodLink RL 147 yX7_copy ∈ TB := tbm 745 (by decide +kernel) (by decide +kernel)
theorem wm_RL_152 : Cond.methodLink RL 152 yX7_write ∈ TB := tbm 756 (by decide +kernel) (by decide +kernel)
theorem wm_RL_156 : Cond.methodLink RL 156 yX7_count ∈ TB := tbm 760 (by decide +kernel) (by decide +kernel)
theorem wm_RL_160 : Cond.methodLink RL 160 yX7_digest ∈ TB := tbm 768 (by decide +kernel) (by decide +kernel)
theorem wm_RL_17 : Cond.methodLink RL 17 yX8_type ∈ TB := tbm 931 (by decide +kernel) (by decide +kernel)
theorem wm_RL_22 : Cond.methodLink RL 22 yX8_wipe ∈ TB := tbm 941 (by decide +kernel) (by decide +kernel)
theorem wm_RL_26 : Cond.methodLink RL 26 yX8_undo ∈ TB := tbm 945 (by decide +kernel) (by decide +kernel)
theorem wm_RL_30 : Cond.methodLink RL 30 yX8_fault ∈ TB := tbm 949 (by decide +kernel) (by decide +kernel)
theorem wm_RL_34 : Cond.methodLink RL 34 yX8_virtue ∈ TB := tbm 965 (by decide +kernel) (by decide +kernel)
theorem wm_RL_38 : Cond.methodLink RL 38 yX8_claimant ∈ TB := tbm 977 (by decide +kernel) (by decide +kernel)
theorem wm_RL_42 : Cond.methodLink RL 42 yX8_set ∈ TB := tbm 989 (by decide +kernel) (by decide +kernel)
theorem wm_RL_46 : Cond.methodLink RL 46 yX8_handing ∈ TB := tbm 993 (by decide +kernel) (by decide +kernel)
theorem wm_RL_50 : Cond.methodLink RL 50 yX8_claim ∈ TB := tbm 1003 (by decide +kernel) (by decide +kernel)
theorem wm_RL_54 : Cond.methodLink RL 54 yX8_back ∈ TB := tbm 1007 (by decide +kernel) (by decide +kernel)
theorem wm_RL_58 : Cond.methodLink RL 58 yX8_read ∈ TB := tbm 1011 (by decide +kernel) (by decide +kernel)
theorem wm_RL_62 : Cond.methodLink RL 62 yX8_behind ∈ TB := tbm 1023 (by decide +kernel) (by decide +kernel)
theorem wm_RL_66 : Cond.methodLink RL 66 yX8_gone ∈ TB := tbm 1062 (by decide +kernel) (by decide +kernel)
theorem wm_RL_71 : Cond.methodLink RL 71 yX8_empty ∈ TB := tbm 1070 (by decide +kernel) (by decide +kernel)
theorem wm_RL_75 : Cond.methodLink RL 75 yX8_sale ∈ TB := tbm 1078 (by decide +kernel) (by decide +kernel)
theorem wm_RL_79 : Cond.methodLink RL 79 yX8_saint ∈ TB := tbm 1089 (by decide +kernel) (by decide +kernel)
theorem wm_RL_83 : Cond.methodLink RL 83 yX8_fitting ∈ TB := tbm 1097 (by decide +kernel) (by decide +kernel)
theorem wm_RL_87 : Cond.methodLink RL 87 yX8_match ∈ TB := tbm 1105 (by decide +kernel) (by decide +kernel)
theorem wm_RL_91 : Cond.methodLink RL 91 yX8_ask ∈ TB := tbm 1117 (by decide +kernel) (by decide +kernel)
theorem wm_RL_95 : Cond.methodLink RL 95 yX8_lie ∈ TB := tbm 1125 (by decide +kernel) (by decide +kernel)
theorem wm_RL_100 : Cond.methodLink RL 100 yX8_guess ∈ TB := tbm 1133 (by decide +kernel) (by decide +kernel)
theorem wm_RL_104 : Cond.methodLink RL 104 yX8_guard ∈ TB := tbm 1148 (by decide +kernel) (by decide +kernel)
theorem wm_RL_108 : Cond.methodLink RL 108 yX8_shelves ∈ TB := tbm 1156 (by decide +kernel) (by decide +kernel)
theorem wm_RL_112 : Cond.methodLink RL 112 yX8_together ∈ TB := tbm 1164 (by decide +kernel) (by decide +kernel)
theorem wm_RL_117 : Cond.methodLink RL 117 yX8_seen ∈ TB := tbm 1180 (by decide +kernel) (by decide +kernel)
theorem wm_RL_121 : Cond.methodLink RL 121 yX8_forget ∈ TB := tbm 1184 (by decide +kernel) (by decide +kernel)
theorem wm_RL_125 : Cond.methodLink RL 125 yX8_when ∈ TB := tbm 1188 (by decide +kernel) (by decide +kernel)
theorem wm_RL_129 : Cond.methodLink RL 129 yX8_weeks ∈ TB := tbm 1196 (by decide +kernel) (by decide +kernel)
theorem wm_RL_133 : Cond.methodLink RL 133 yX8_sheet ∈ TB := tbm 1205 (by decide +kernel) (by decide +kernel)
theorem wm_RL_137 : Cond.methodLink RL 137 yX8_lose ∈ TB := tbm 1209 (by decide +kernel) (by decide +kernel)
theorem wm_RL_142 : Cond.methodLink RL 142 yX8_put ∈ TB := tbm 1213 (by decide +kernel) (by decide +kernel)
theorem wm_RL_146 : Cond.methodLink RL 146 yX8_get ∈ TB := tbm 1225 (by decide +kernel) (by decide +kernel)
theorem wm_RL_151 : Cond.methodLink RL 151 yX8_copy ∈ TB := tbm 1230 (by decide +kernel) (by decide +kernel)
theorem wm_RL_155 : Cond.methodLink RL 155 yX8_write ∈ TB := tbm 1234 (by decide +kernel) (by decide +kernel)
theorem wm_RL_159 : Cond.methodLink RL 159 yX8_count ∈ TB := tbm 1238 (by decide +kernel) (by decide +kernel)
theorem wm_RL_164 : Cond.methodLink RL 164 yX8_digest ∈ TB := tbm 1246 (by decide +kernel) (by decide +kernel)
theorem any_nI (x : Int32) : ∃ k, x = nI k := ⟨x.toBitVec.toNat, by apply Int32.toBitVec_inj.mp; simp [nI]⟩
theorem and63 (x : Int32) : ∃ u, u < 64 ∧ x &&& 63 = nI u := by
  obtain ⟨k, rfl⟩ := any_nI x
  refine ⟨k &&& 63, Nat.lt_succ_of_le Nat.and_le_right, ?_⟩
  rw [show (63 : Int32) = nI 63 from rfl, nI_and]
theorem sub6 {n L : Nat} (hn : n ≤ 4000) (hL : L ≤ 3072) (h : ¬ nI L - 6 < nI n) : n + 6 ≤ L := by
  refine Nat.not_lt.mp fun hlt => h ?_
  by_cases h6 : 6 ≤ L
  · have e : nI L - 6 = nI (L - 6) := by
      rw [show nI L = nI (L - 6) + nI 6 by rw [nI_add]; congr 1; omega, show (6 : Int32) = nI 6 from rfl]
      exact Int32.add_sub_cancel _ _
    rw [e]
    exact nI_lt (by omega) (by omega)
  · have h0 : nI L - 6 < 0 := by
      rcases (show L = 0 ∨ L = 1 ∨ L = 2 ∨ L = 3 ∨ L = 4 ∨ L = 5 by omega) with rfl | rfl | rfl | rfl | rfl | rfl <;> decide
    refine Int32.lt_of_lt_of_le h0 ?_
    have := nI_le (Nat.zero_le n) (by omega)
    rw [nI_0] at this
    exact this
section LawWalk
variable {M : LM}
theorem gl_tabIn {i : Int32} {st : List Value} {z zm : Sg} {pc len : Nat} {dflt : Int} {offs : Array Int} (hE : OL M) (u tgt : Nat) {off : Int} (hdg : decode cL_law pc = .ok (.tableswitch dflt 0 35 offs, len)) (hu : u < 36) (ho : offs[u]? = some off) (ht : (pc : Int) + off = (tgt : Int)) (k : GL M i tgt st z zm) : GL M i pc (.int (nI u) :: st) z zm := fun H locs ls h1 h2 h3 hl => by
  have e : (nI u).toInt = (u : Int) := nI_toInt (by omega)
  exact lv_tableIn hE.1 hE.2.1 hdg (by rw [e]; omega) (by rw [e]; omega) (by rw [e, Int.sub_zero]; exact ho) ht (k H locs ls h1 h2 h3 hl)
theorem gl_tabOut {i : Int32} {st : List Value} {z zm : Sg} {pc len : Nat} {dflt : Int} {offs : Array Int} (hE : OL M) (u tgt : Nat) (hdg : decode cL_law pc = .ok (.tableswitch dflt 0 35 offs, len)) (hu : ¬ u < 36) (h64 : u < 64) (ht : (pc : Int) + dflt = (tgt : Int)) (k : GL M i tgt st z zm) : GL M i pc (.int (nI u) :: st) z zm := fun H locs ls h1 h2 h3 hl => by
  have e : (nI u).toInt = (u : Int) := nI_toInt (by omega)
  exact lv_tableOut hE.1 hE.2.1 hdg (Or.inr (by rw [e]; omega)) ht (k H locs ls h1 h2 h3 hl)
theorem gl_gt (tgt : Nat) {i : Int32} {st : List Value} {z zm : Sg} {pc : Nat} (hE : OL M) {x y : Int32} {off : Int} (hdg : decode cL_law pc = .ok (.if_icmp .gt off, 3)) (ht : (pc : Int) + off = (tgt : Int)) (kt : y < x → GL M i tgt st z zm) (kf : ¬ y < x → GL M i (pc + 3) st z zm) : GL M i pc (.int y :: .int x :: st) z zm := fun H locs ls h1 h2 h3 hl => lv_icmp_gt hE.1 hE.2.1 hdg ht (fun h => kt h H locs ls h1 h2 h3 hl) (fun h => kf h H locs ls h1 h2 h3 hl)
theorem gl_end {i : Int32} {z zm : Sg} {pc : Nat} (hE : OL M) (hdg : decode cL_law pc = .ok (.ireturn, 1)) : GL M i pc [.int 1] z zm := fun H locs ls h1 h2 h3 hl =>
  va_forget h3.2.2 (W.widen (k := 600000) (n := 7302250) (Nat.le_of_ble_eq_true rfl) (Nat.le_of_ble_eq_true rfl) (lw_ret hE.1 hE.2.1 hE.2.2.2.2.2.1 hE.2.2.2.2.2.2.1 hdg))
variable {n : Nat} {z zm : Sg} {a : Ab}
theorem law_type (hE : OL M) (hn : n + 6 ≤ M.2.2.1.2.1) (hx : AXg PTt PRr z a) (hm : AM zm a) (k : ∀ z zm a, AXg PTt PRr z a → AM zm a → GL M (nI n) 1222 [] z zm) : GL M (nI n) 192 [] z zm := by
  refine gl_al1 hE dL_law_192 ?_
  refine gl_arg hE hn 1 (by decide) (by decide) dL_law_193 dL_law_194 dL_law_195 dL_law_196 dL_law_197 ?_
  refine gl_arg hE hn 2 (by decide) (by decide) dL_law_198 dL_law_199 dL_law_200 dL_law_201 dL_law_202 ?_
  obtain ⟨z1, e1, hx1⟩ := X_type hx (M.2.2.1.2.2 (n + 1)) (M.2.2.1.2.2 (n + 2))
  refine gl_callX (vs := [M.2.2.1.2.2 (n + 1), M.2.2.1.2.2 (n + 2)]) hE mv_X7_type wm_RL_13 (Nat.le_of_ble_eq_true rfl) rfl (Nat.le_of_ble_eq_true rfl) rfl dL_law_203 (c_X7_type e1) ?_
  refine gl_al2 hE dL_law_206 ?_
  refine gl_arg hE hn 1 (by decide) (by decide) dL_law_207 dL_law_208 dL_law_209 dL_law_210 dL_law_211 ?_
  refine gl_arg hE hn 2 (by decide) (by decide) dL_law_212 dL_law_213 dL_law_214 dL_law_215 dL_law_216 ?_
  obtain ⟨z2, e2, hm1⟩ := M_type hm (M.2.2.1.2.2 (n + 1)) (M.2.2.1.2.2 (n + 2))
  refine gl_callM (vs := [M.2.2.1.2.2 (n + 1), M.2.2.1.2.2 (n + 2)]) hE mv_X8_type wm_RL_17 (Nat.le_of_ble_eq_true rfl) rfl (Nat.le_of_ble_eq_true rfl) rfl dL_law_217 (c_X8_type e2) ?_
  exact gl_eq 1222 hE dL_law_220 (by decide) (k _ _ _ hx1 hm1)
theorem law_wipe (hE : OL M) (hn : n + 6 ≤ M.2.2.1.2.1) (hx : AXg PTt PRr z a) (hm : AM zm a) (k : ∀ z zm a, AXg PTt PRr z a → AM zm a → GL M (nI n) 1222 [] z zm) : GL M (nI n) 225 [] z zm := by
  refine gl_al1 hE dL_law_225 ?_
  refine gl_arg hE hn 1 (by decide) (by decide) dL_law_226 dL_law_227 dL_law_228 dL_law_229 dL_law_230 ?_
  obtain ⟨z1, e1, hx1⟩ := X_wipe hx (M.2.2.1.2.2 (n + 1))
  refine gl_callX (vs := [M.2.2.1.2.2 (n + 1)]) hE mv_X7_wipe wm_RL_18 (Nat.le_of_ble_eq_true rfl) rfl (Nat.le_of_ble_eq_true rfl) rfl dL_law_231 (c_X7_wipe e1) ?_
  refine gl_al2 hE dL_law_234 ?_
  refine gl_arg hE hn 1 (by decide) (by decide) dL_law_235 dL_law_236 dL_law_237 dL_law_238 dL_law_239 ?_
  obtain ⟨z2, e2, hm1⟩ := M_wipe hm (M.2.2.1.2.2 (n + 1))
  refine gl_callM (vs := [M.2.2.1.2.2 (n + 1)]) hE mv_X8_wipe wm_RL_22 (Nat.le_of_ble_eq_true rfl) rfl (Nat.le_of_ble_eq_true rfl) rfl dL_law_240 (c_X8_wipe e2) ?_
  exact gl_eq 1222 hE dL_law_243 (by decide) (k _ _ _ hx1 hm1)
theorem law_undo (hE : OL M) (hn : n + 6 ≤ M.2.2.1.2.1) (hx : AXg PTt PRr z a) (hm : AM zm a) (k : ∀ z zm a, AXg PTt PRr z a → AM zm a → GL M (nI n) 1222 [] z zm) : GL M (nI n) 248 [] z zm := by
  refine gl_al1 hE dL_law_248 ?_
  refine gl_arg hE hn 1 (by decide) (by decide) dL_law_249 dL_law_250 dL_law_251 dL_law_252 dL_law_253 ?_
  obtain ⟨z1, e1, hx1⟩ := X_undo hx (M.2.2.1.2.2 (n + 1))
  refine gl_callX (vs := [M.2.2.1.2.2 (n + 1)]) hE mv_X7_undo wm_RL_23 (Nat.le_of_ble_eq_true rfl) rfl (Nat.le_of_ble_eq_true rfl) rfl dL_law_254 (c_X7_undo e1) ?_
  refine gl_al2 hE dL_law_257 ?_
  refine gl_arg hE hn 1 (by decide) (by decide) dL_law_258 dL_law_259 dL_law_260 dL_law_261 dL_law_262 ?_
  obtain ⟨z2, e2, hm1⟩ := M_undo hm (M.2.2.1.2.2 (n + 1))
  refine gl_callM (vs := [M.2.2.1.2.2 (n + 1)]) hE mv_X8_undo wm_RL_26 (Nat.le_of_ble_eq_true rfl) rfl (Nat.le_of_ble_eq_true rfl) rfl dL_law_263 (c_X8_undo e2) ?_
  exact gl_eq 1222 hE dL_law_266 (by decide) (k _ _ _ hx1 hm1)
theorem law_fault (hE : OL M) (hn : n + 6 ≤ M.2.2.1.2.1) (hx : AXg PTt PRr z a) (hm : AM zm a) (k : ∀ z zm a, AXg PTt PRr z a → AM zm a → GL M (nI n) 1222 [] z zm) : GL M (nI n) 271 [] z zm := by
  refine gl_al1 hE dL_law_271 ?_
  refine gl_arg hE hn 1 (by decide) (by decide) dL_law_272 dL_law_273 dL_law_274 dL_law_275 dL_law_276 ?_
  have e1 := X_fault hx (M.2.2.1.2.2 (n + 1))
  refine gl_callX (vs := [M.2.2.1.2.2 (n + 1)]) hE mv_X7_fault wm_RL_27 (Nat.le_of_ble_eq_true rfl) rfl (Nat.le_of_ble_eq_true rfl) rfl dL_law_277 (c_X7_fault e1) ?_
  refine gl_al2 hE dL_law_280 ?_
  refine gl_arg hE hn 1 (by decide) (by decide) dL_law_281 dL_law_282 dL_law_283 dL_law_284 dL_law_285 ?_
  obtain ⟨z2, e2, hm1⟩ := M_fault hm (M.2.2.1.2.2 (n + 1))
  refine gl_callM (vs := [M.2.2.1.2.2 (n + 1)]) hE mv_X8_fault wm_RL_30 (Nat.le_of_ble_eq_true rfl) rfl (Nat.le_of_ble_eq_true rfl) rfl dL_law_286 (c_X8_fault e2) ?_
  exact gl_eq 1222 hE dL_law_289 (by decide) (k _ _ _ hx hm1)
theorem law_virtue (hE : OL M) (hn : n + 6 ≤ M.2.2.1.2.1) (hx : AXg PTt PRr z a) (hm : AM zm a) (k : ∀ z zm a, AXg PTt PRr z a → AM zm a → GL M (nI n) 1222 [] z zm) : GL M (nI n) 294 [] z zm := by
  refine gl_al1 hE dL_law_294 ?_
  refine gl_arg hE hn 1 (by decide) (by decide) dL_law_295 dL_law_296 dL_law_297 dL_law_298 dL_law_299 ?_
  refine gl_arg hE hn 2 (by decide) (by decide) dL_law_300 dL_law_301 dL_law_302 dL_law_303 dL_law_304 ?_
  have e1 := X_virtue hx (M.2.2.1.2.2 (n + 1)) (M.2.2.1.2.2 (n + 2))
  refine gl_callX (vs := [M.2.2.1.2.2 (n + 1), M.2.2.1.2.2 (n + 2)]) hE mv_X7_virtue wm_RL_31 (Nat.le_of_ble_eq_true rfl) rfl (Nat.le_of_ble_eq_true rfl) rfl dL_law_305 (c_X7_virtue e1) ?_
  refine gl_al2 hE dL_law_308 ?_
  refine gl_arg hE hn 1 (by decide) (by decide) dL_law_309 dL_law_310 dL_law_311 dL_law_312 dL_law_313 ?_
  refine gl_arg hE hn 2 (by decide) (by decide) dL_law_314 dL_law_315 dL_law_316 dL_law_317 dL_law_318 ?_
  obtain ⟨z2, e2, hm1⟩ := M_virtue hm (M.2.2.1.2.2 (n + 1)) (M.2.2.1.2.2 (n + 2))
  refine gl_callM (vs := [M.2.2.1.2.2 (n + 1), M.2.2.1.2.2 (n + 2)]) hE mv_X8_virtue wm_RL_34 (Nat.le_of_ble_eq_true rfl) rfl (Nat.le_of_ble_eq_true rfl) rfl dL_law_319 (c_X8_virtue e2) ?_
  exact gl_eq 1222 hE dL_law_322 (by decide) (k _ _ _ hx hm1)
theorem law_claimant (hE : OL M) (hn : n + 6 ≤ M.2.2.1.2.1) (hx : AXg PTt PRr z a) (hm : AM zm a) (k : ∀ z zm a, AXg PTt PRr z a → AM zm a → GL M (nI n) 1222 [] z zm) : GL M (nI n) 327 [] z zm := by
  refine gl_al1 hE dL_law_327 ?_
  refine gl_arg hE hn 1 (by decide) (by decide) dL_law_328 dL_law_329 dL_law_330 dL_law_331 dL_law_332 ?_
  refine gl_arg hE hn 2 (by decide) (by decide) dL_law_333 dL_law_334 dL_law_335 dL_law_336 dL_law_337 ?_
  have e1 := X_claimant hx (M.2.2.1.2.2 (n + 1)) (M.2.2.1.2.2 (n + 2))
  refine gl_callX (vs := [M.2.2.1.2.2 (n + 1), M.2.2.1.2.2 (n + 2)]) hE mv_X7_claimant wm_RL_35 (Nat.le_of_ble_eq_true rfl) rfl (Nat.le_of_ble_eq_true rfl) rfl dL_law_338 (c_X7_claimant e1) ?_
  refine gl_al2 hE dL_law_341 ?_
  refine gl_arg hE hn 1 (by decide) (by decide) dL_law_342 dL_law_343 dL_law_344 dL_law_345 dL_law_346 ?_
  refine gl_arg hE hn 2 (by decide) (by decide) dL_law_347 dL_law_348 dL_law_349 dL_law_350 dL_law_351 ?_
  obtain ⟨z2, e2, hm1⟩ := M_claimant hm (M.2.2.1.2.2 (n + 1)) (M.2.2.1.2.2 (n + 2))
  refine gl_callM (vs := [M.2.2.1.2.2 (n + 1), M.2.2.1.2.2 (n + 2)]) hE mv_X8_claimant wm_RL_38 (Nat.le_of_ble_eq_true rfl) rfl (Nat.le_of_ble_eq_true rfl) rfl dL_law_352 (c_X8_claimant e2) ?_
  exact gl_eq 1222 hE dL_law_355 (by decide) (k _ _ _ hx hm1)
theorem law_set (hE : OL M) (hn : n + 6 ≤ M.2.2.1.2.1) (hx : AXg PTt PRr z a) (hm : AM zm a) (k : ∀ z zm a, AXg PTt PRr z a → AM zm a → GL M (nI n) 1222 [] z zm) : GL M (nI n) 360 [] z zm := by
  refine gl_al1 hE dL_law_360 ?_
  refine gl_arg hE hn 1 (by decide) (by decide) dL_law_361 dL_law_362 dL_law_363 dL_law_364 dL_law_365 ?_
  refine gl_arg hE hn 2 (by decide) (by decide) dL_law_366 dL_law_367 dL_law_368 dL_law_369 dL_law_370 ?_
  obtain ⟨z1, e1, hx1⟩ := X_set hx (M.2.2.1.2.2 (n + 1)) (M.2.2.1.2.2 (n + 2))
  refine gl_callX (vs := [M.2.2.1.2.2 (n + 1), M.2.2.1.2.2 (n + 2)]) hE mv_X7_set wm_RL_39 (Nat.le_of_ble_eq_true rfl) rfl (Nat.le_of_ble_eq_true rfl) rfl dL_law_371 (c_X7_set e1) ?_
  refine gl_al2 hE dL_law_374 ?_
  refine gl_arg hE hn 1 (by decide) (by decide) dL_law_375 dL_law_376 dL_law_377 dL_law_378 dL_law_379 ?_
  refine gl_arg hE hn 2 (by decide) (by decide) dL_law_380 dL_law_381 dL_law_382 dL_law_383 dL_law_384 ?_
  obtain ⟨z2, e2, hm1⟩ := M_set hm (M.2.2.1.2.2 (n + 1)) (M.2.2.1.2.2 (n + 2))
  refine gl_callM (vs := [M.2.2.1.2.2 (n + 1), M.2.2.1.2.2 (n + 2)]) hE mv_X8_set wm_RL_42 (Nat.le_of_ble_eq_true rfl) rfl (Nat.le_of_ble_eq_true rfl) rfl dL_law_385 (c_X8_set e2) ?_
  exact gl_eq 1222 hE dL_law_388 (by decide) (k _ _ _ hx1 hm1)
theorem law_handing (hE : OL M) (hn : n + 6 ≤ M.2.2.1.2.1) (hx : AXg PTt PRr z a) (hm : AM zm a) (k : ∀ z zm a, AXg PTt PRr z a → AM zm a → GL M (nI n) 1222 [] z zm) : GL M (nI n) 393 [] z zm := by
  refine gl_al1 hE dL_law_393 ?_
  refine gl_arg hE hn 1 (by decide) (by decide) dL_law_394 dL_law_395 dL_law_396 dL_law_397 dL_law_398 ?_
  refine gl_arg hE hn 2 (by decide) (by decide) dL_law_399 dL_law_400 dL_law_401 dL_law_402 dL_law_403 ?_
  obtain ⟨z1, e1, hx1⟩ := X_handing hx (M.2.2.1.2.2 (n + 1)) (M.2.2.1.2.2 (n + 2))
  refine gl_callX (vs := [M.2.2.1.2.2 (n + 1), M.2.2.1.2.2 (n + 2)]) hE mv_X7_handing wm_RL_43 (Nat.le_of_ble_eq_true rfl) rfl (Nat.le_of_ble_eq_true rfl) rfl dL_law_404 (c_X7_handing e1) ?_
  refine gl_al2 hE dL_law_407 ?_
  refine gl_arg hE hn 1 (by decide) (by decide) dL_law_408 dL_law_409 dL_law_410 dL_law_411 dL_law_412 ?_
  refine gl_arg hE hn 2 (by decide) (by decide) dL_law_413 dL_law_414 dL_law_415 dL_law_416 dL_law_417 ?_
  obtain ⟨z2, e2, hm1⟩ := M_handing hm (M.2.2.1.2.2 (n + 1)) (M.2.2.1.2.2 (n + 2))
  refine gl_callM (vs := [M.2.2.1.2.2 (n + 1), M.2.2.1.2.2 (n + 2)]) hE mv_X8_handing wm_RL_46 (Nat.le_of_ble_eq_true rfl) rfl (Nat.le_of_ble_eq_true rfl) rfl dL_law_418 (c_X8_handing e2) ?_
  exact gl_eq 1222 hE dL_law_421 (by decide) (k _ _ _ hx1 hm1)
theorem law_claim (hE : OL M) (hn : n + 6 ≤ M.2.2.1.2.1) (hx : AXg PTt PRr z a) (hm : AM zm a) (k : ∀ z zm a, AXg PTt PRr z a → AM zm a → GL M (nI n) 1222 [] z zm) : GL M (nI n) 426 [] z zm := by
  refine gl_al1 hE dL_law_426 ?_
  refine gl_arg hE hn 1 (by decide) (by decide) dL_law_427 dL_law_428 dL_law_429 dL_law_430 dL_law_431 ?_
  refine gl_arg hE hn 2 (by decide) (by decide) dL_law_432 dL_law_433 dL_law_434 dL_law_435 dL_law_436 ?_
  obtain ⟨z1, e1, hx1, -⟩ := X_claim hx (M.2.2.1.2.2 (n + 1)) (M.2.2.1.2.2 (n + 2))
  refine gl_callX (vs := [M.2.2.1.2.2 (n + 1), M.2.2.1.2.2 (n + 2)]) hE mv_X7_claim wm_RL_47 (Nat.le_of_ble_eq_true rfl) rfl (Nat.le_of_ble_eq_true rfl) rfl dL_law_437 (c_X7_claim e1) ?_
  refine gl_al2 hE dL_law_440 ?_
  refine gl_arg hE hn 1 (by decide) (by decide) dL_law_441 dL_law_442 dL_law_443 dL_law_444 dL_law_445 ?_
  refine gl_arg hE hn 2 (by decide) (by decide) dL_law_446 dL_law_447 dL_law_448 dL_law_449 dL_law_450 ?_
  obtain ⟨z2, e2, hm1, -⟩ := M_claim hm (M.2.2.1.2.2 (n + 1)) (M.2.2.1.2.2 (n + 2))
  refine gl_callM (vs := [M.2.2.1.2.2 (n + 1), M.2.2.1.2.2 (n + 2)]) hE mv_X8_claim wm_RL_50 (Nat.le_of_ble_eq_true rfl) rfl (Nat.le_of_ble_eq_true rfl) rfl dL_law_451 (c_X8_claim e2) ?_
  exact gl_eq 1222 hE dL_law_454 (by decide) (k _ _ _ hx1 hm1)
theorem law_back (hE : OL M) (hn : n + 6 ≤ M.2.2.1.2.1) (hx : AXg PTt PRr z a) (hm : AM zm a) (k : ∀ z zm a, AXg PTt PRr z a → AM zm a → GL M (nI n) 1222 [] z zm) : GL M (nI n) 459 [] z zm := by
  refine gl_al1 hE dL_law_459 ?_
  refine gl_arg hE hn 1 (by decide) (by decide) dL_law_460 dL_law_461 dL_law_462 dL_law_463 dL_law_464 ?_
  obtain ⟨z1, e1, hx1⟩ := X_back hx (M.2.2.1.2.2 (n + 1))
  refine gl_callX (vs := [M.2.2.1.2.2 (n + 1)]) hE mv_X7_back wm_RL_51 (Nat.le_of_ble_eq_true rfl) rfl (Nat.le_of_ble_eq_true rfl) rfl dL_law_465 (c_X7_back e1) ?_
  refine gl_al2 hE dL_law_468 ?_
  refine gl_arg hE hn 1 (by decide) (by decide) dL_law_469 dL_law_470 dL_law_471 dL_law_472 dL_law_473 ?_
  obtain ⟨z2, e2, hm1⟩ := M_back hm (M.2.2.1.2.2 (n + 1))
  refine gl_callM (vs := [M.2.2.1.2.2 (n + 1)]) hE mv_X8_back wm_RL_54 (Nat.le_of_ble_eq_true rfl) rfl (Nat.le_of_ble_eq_true rfl) rfl dL_law_474 (c_X8_back e2) ?_
  exact gl_eq 1222 hE dL_law_477 (by decide) (k _ _ _ hx1 hm1)
theorem law_read (hE : OL M) (hn : n + 6 ≤ M.2.2.1.2.1) (hx : AXg PTt PRr z a) (hm : AM zm a) (k : ∀ z zm a, AXg PTt PRr z a → AM zm a → GL M (nI n) 1222 [] z zm) : GL M (nI n) 482 [] z zm := by
  refine gl_al1 hE dL_law_482 ?_
  refine gl_arg hE hn 1 (by decide) (by decide) dL_law_483 dL_law_484 dL_law_485 dL_law_486 dL_law_487 ?_
  obtain ⟨z1, e1, hx1⟩ := X_read hx (M.2.2.1.2.2 (n + 1))
  refine gl_callX (vs := [M.2.2.1.2.2 (n + 1)]) hE mv_X7_read wm_RL_55 (Nat.le_of_ble_eq_true rfl) rfl (Nat.le_of_ble_eq_true rfl) rfl dL_law_488 (c_X7_read e1) ?_
  refine gl_al2 hE dL_law_491 ?_
  refine gl_arg hE hn 1 (by decide) (by decide) dL_law_492 dL_law_493 dL_law_494 dL_law_495 dL_law_496 ?_
  obtain ⟨z2, e2, hm1⟩ := M_read hm (M.2.2.1.2.2 (n + 1))
  refine gl_callM (vs := [M.2.2.1.2.2 (n + 1)]) hE mv_X8_read wm_RL_58 (Nat.le_of_ble_eq_true rfl) rfl (Nat.le_of_ble_eq_true rfl) rfl dL_law_497 (c_X8_read e2) ?_
  exact gl_eq 1222 hE dL_law_500 (by decide) (k _ _ _ hx1 hm1)
theorem law_behind (hE : OL M) (hn : n + 6 ≤ M.2.2.1.2.1) (hx : AXg PTt PRr z a) (hm : AM zm a) (k : ∀ z zm a, AXg PTt PRr z a → AM zm a → GL M (nI n) 1222 [] z zm) : GL M (nI n) 505 [] z zm := by
  refine gl_al1 hE dL_law_505 ?_
  refine gl_arg hE hn 1 (by decide) (by decide) dL_law_506 dL_law_507 dL_law_508 dL_law_509 dL_law_510 ?_
  refine gl_arg hE hn 2 (by decide) (by decide) dL_law_511 dL_law_512 dL_law_513 dL_law_514 dL_law_515 ?_
  obtain ⟨z1, e1, hx1⟩ := X_behind hx (M.2.2.1.2.2 (n + 1)) (M.2.2.1.2.2 (n + 2))
  refine gl_callX (vs := [M.2.2.1.2.2 (n + 1), M.2.2.1.2.2 (n + 2)]) hE mv_X7_behind wm_RL_59 (Nat.le_of_ble_eq_true rfl) rfl (Nat.le_of_ble_eq_true rfl) rfl dL_law_516 (c_X7_behind e1) ?_
  refine gl_al2 hE dL_law_519 ?_
  refine gl_arg hE hn 1 (by decide) (by decide) dL_law_520 dL_law_521 dL_law_522 dL_law_523 dL_law_524 ?_
  refine gl_arg hE hn 2 (by decide) (by decide) dL_law_525 dL_law_526 dL_law_527 dL_law_528 dL_law_529 ?_
  obtain ⟨z2, e2, hm1⟩ := M_behind hm (M.2.2.1.2.2 (n + 1)) (M.2.2.1.2.2 (n + 2))
  refine gl_callM (vs := [M.2.2.1.2.2 (n + 1), M.2.2.1.2.2 (n + 2)]) hE mv_X8_behind wm_RL_62 (Nat.le_of_ble_eq_true rfl) rfl (Nat.le_of_ble_eq_true rfl) rfl dL_law_530 (c_X8_behind e2) ?_
  exact gl_eq 1222 hE dL_law_533 (by decide) (k _ _ _ hx1 hm1)
theorem law_gone (hE : OL M) (hn : n + 6 ≤ M.2.2.1.2.1) (hx : AXg PTt PRr z a) (hm : AM zm a) (k : ∀ z zm a, AXg PTt PRr z a → AM zm a → GL M (nI n) 1222 [] z zm) : GL M (nI n) 538 [] z zm := by
  refine gl_al1 hE dL_law_538 ?_
  refine gl_arg hE hn 1 (by decide) (by decide) dL_law_539 dL_law_540 dL_law_541 dL_law_542 dL_law_543 ?_
  refine gl_arg hE hn 2 (by decide) (by decide) dL_law_544 dL_law_545 dL_law_546 dL_law_547 dL_law_548 ?_
  obtain ⟨z1, e1, hx1⟩ := X_gone hx (M.2.2.1.2.2 (n + 1)) (M.2.2.1.2.2 (n + 2))
  refine gl_callX (vs := [M.2.2.1.2.2 (n + 1), M.2.2.1.2.2 (n + 2)]) hE mv_X7_gone wm_RL_63 (Nat.le_of_ble_eq_true rfl) rfl (Nat.le_of_ble_eq_true rfl) rfl dL_law_549 (c_X7_gone e1) ?_
  refine gl_al2 hE dL_law_552 ?_
  refine gl_arg hE hn 1 (by decide) (by decide) dL_law_553 dL_law_554 dL_law_555 dL_law_556 dL_law_557 ?_
  refine gl_arg hE hn 2 (by decide) (by decide) dL_law_558 dL_law_559 dL_law_560 dL_law_561 dL_law_562 ?_
  obtain ⟨z2, e2, hm1⟩ := M_gone hm (M.2.2.1.2.2 (n + 1)) (M.2.2.1.2.2 (n + 2))
  refine gl_callM (vs := [M.2.2.1.2.2 (n + 1), M.2.2.1.2.2 (n + 2)]) hE mv_X8_gone wm_RL_66 (Nat.le_of_ble_eq_true rfl) rfl (Nat.le_of_ble_eq_true rfl) rfl dL_law_563 (c_X8_gone e2) ?_
  exact gl_eq 1222 hE dL_law_566 (by decide) (k _ _ _ hx1 hm1)
theorem law_empty (hE : OL M) (hn : n + 6 ≤ M.2.2.1.2.1) (hx : AXg PTt PRr z a) (hm : AM zm a) (k : ∀ z zm a, AXg PTt PRr z a → AM zm a → GL M (nI n) 1222 [] z zm) : GL M (nI n) 571 [] z zm := by
  refine gl_al1 hE dL_law_571 ?_
  obtain ⟨z1, e1, hx1⟩ := X_empty hx
  refine gl_callX (vs := []) hE mv_X7_empty wm_RL_67 (Nat.le_of_ble_eq_true rfl) rfl (Nat.le_of_ble_eq_true rfl) rfl dL_law_572 (c_X7_empty e1) ?_
  refine gl_al2 hE dL_law_575 ?_
  obtain ⟨z2, e2, hm1⟩ := M_empty hm
  refine gl_callM (vs := []) hE mv_X8_empty wm_RL_71 (Nat.le_of_ble_eq_true rfl) rfl (Nat.le_of_ble_eq_true rfl) rfl dL_law_576 (c_X8_empty e2) ?_
  exact gl_eq 1222 hE dL_law_579 (by decide) (k _ _ _ hx1 hm1)
theorem law_sale (hE : OL M) (hn : n + 6 ≤ M.2.2.1.2.1) (hx : AXg PTt PRr z a) (hm : AM zm a) (k : ∀ z zm a, AXg PTt PRr z a → AM zm a → GL M (nI n) 1222 [] z zm) : GL M (nI n) 584 [] z zm := by
  refine gl_al1 hE dL_law_584 ?_
  obtain ⟨z1, e1, hx1⟩ := X_sale hx
  refine gl_callX (vs := []) hE mv_X7_sale wm_RL_72 (Nat.le_of_ble_eq_true rfl) rfl (Nat.le_of_ble_eq_true rfl) rfl dL_law_585 (c_X7_sale e1) ?_
  refine gl_al2 hE dL_law_588 ?_
  obtain ⟨z2, e2, hm1⟩ := M_sale hm
  refine gl_callM (vs := []) hE mv_X8_sale wm_RL_75 (Nat.le_of_ble_eq_true rfl) rfl (Nat.le_of_ble_eq_true rfl) rfl dL_law_589 (c_X8_sale e2) ?_
  exact gl_eq 1222 hE dL_law_592 (by decide) (k _ _ _ hx1 hm1)
theorem law_saint (hE : OL M) (hn : n + 6 ≤ M.2.2.1.2.1) (hx : AXg PTt PRr z a) (hm : AM zm a) (k : ∀ z zm a, AXg PTt PRr z a → AM zm a → GL M (nI n) 1222 [] z zm) : GL M (nI n) 597 [] z zm := by
  refine gl_al1 hE dL_law_597 ?_
  obtain ⟨z1, e1, hx1⟩ := X_saint hx
  refine gl_callX (vs := []) hE mv_X7_saint wm_RL_76 (Nat.le_of_ble_eq_true rfl) rfl (Nat.le_of_ble_eq_true rfl) rfl dL_law_598 (c_X7_saint e1) ?_
  refine gl_al2 hE dL_law_601 ?_
  obtain ⟨z2, e2, hm1⟩ := M_saint hm
  refine gl_callM (vs := []) hE mv_X8_saint wm_RL_79 (Nat.le_of_ble_eq_true rfl) rfl (Nat.le_of_ble_eq_true rfl) rfl dL_law_602 (c_X8_saint e2) ?_
  exact gl_eq 1222 hE dL_law_605 (by decide) (k _ _ _ hx1 hm1)
theorem law_fitting (hE : OL M) (hn : n + 6 ≤ M.2.2.1.2.1) (hx : AXg PTt PRr z a) (hm : AM zm a) (k : ∀ z zm a, AXg PTt PRr z a → AM zm a → GL M (nI n) 1222 [] z zm) : GL M (nI n) 610 [] z zm := by
  refine gl_al1 hE dL_law_610 ?_
  refine gl_arg hE hn 1 (by decide) (by decide) dL_law_611 dL_law_612 dL_law_613 dL_law_614 dL_law_615 ?_
  refine gl_arg hE hn 2 (by decide) (by decide) dL_law_616 dL_law_617 dL_law_618 dL_law_619 dL_law_620 ?_
  have e1 := X_fitting hx (M.2.2.1.2.2 (n + 1)) (M.2.2.1.2.2 (n + 2))
  refine gl_callX (vs := [M.2.2.1.2.2 (n + 1), M.2.2.1.2.2 (n + 2)]) hE mv_X7_fitting wm_RL_80 (Nat.le_of_ble_eq_true rfl) rfl (Nat.le_of_ble_eq_true rfl) rfl dL_law_621 (c_X7_fitting e1) ?_
  refine gl_al2 hE dL_law_624 ?_
  refine gl_arg hE hn 1 (by decide) (by decide) dL_law_625 dL_law_626 dL_law_627 dL_law_628 dL_law_629 ?_
  refine gl_arg hE hn 2 (by decide) (by decide) dL_law_630 dL_law_631 dL_law_632 dL_law_633 dL_law_634 ?_
  obtain ⟨z2, e2, hm1⟩ := M_fitting hm (M.2.2.1.2.2 (n + 1)) (M.2.2.1.2.2 (n + 2))
  refine gl_callM (vs := [M.2.2.1.2.2 (n + 1), M.2.2.1.2.2 (n + 2)]) hE mv_X8_fitting wm_RL_83 (Nat.le_of_ble_eq_true rfl) rfl (Nat.le_of_ble_eq_true rfl) rfl dL_law_635 (c_X8_fitting e2) ?_
  exact gl_eq 1222 hE dL_law_638 (by decide) (k _ _ _ hx hm1)
theorem law_match (hE : OL M) (hn : n + 6 ≤ M.2.2.1.2.1) (hx : AXg PTt PRr z a) (hm : AM zm a) (k : ∀ z zm a, AXg PTt PRr z a → AM zm a → GL M (nI n) 1222 [] z zm) : GL M (nI n) 643 [] z zm := by
  refine gl_al1 hE dL_law_643 ?_
  refine gl_arg hE hn 1 (by decide) (by decide) dL_law_644 dL_law_645 dL_law_646 dL_law_647 dL_law_648 ?_
  obtain ⟨z1, e1, hx1⟩ := X_match hx (M.2.2.1.2.2 (n + 1))
  refine gl_callX (vs := [M.2.2.1.2.2 (n + 1)]) hE mv_X7_match wm_RL_84 (Nat.le_of_ble_eq_true rfl) rfl (Nat.le_of_ble_eq_true rfl) rfl dL_law_649 (c_X7_match e1) ?_
  refine gl_al2 hE dL_law_652 ?_
  refine gl_arg hE hn 1 (by decide) (by decide) dL_law_653 dL_law_654 dL_law_655 dL_law_656 dL_law_657 ?_
  obtain ⟨z2, e2, hm1⟩ := M_match hm (M.2.2.1.2.2 (n + 1))
  refine gl_callM (vs := [M.2.2.1.2.2 (n + 1)]) hE mv_X8_match wm_RL_87 (Nat.le_of_ble_eq_true rfl) rfl (Nat.le_of_ble_eq_true rfl) rfl dL_law_658 (c_X8_match e2) ?_
  exact gl_eq 1222 hE dL_law_661 (by decide) (k _ _ _ hx1 hm1)
theorem law_ask (hE : OL M) (hn : n + 6 ≤ M.2.2.1.2.1) (hx : AXg PTt PRr z a) (hm : AM zm a) (k : ∀ z zm a, AXg PTt PRr z a → AM zm a → GL M (nI n) 1222 [] z zm) : GL M (nI n) 666 [] z zm := by
  refine gl_al1 hE dL_law_666 ?_
  refine gl_arg hE hn 1 (by decide) (by decide) dL_law_667 dL_law_668 dL_law_669 dL_law_670 dL_law_671 ?_
  have e1 := X_ask hx (M.2.2.1.2.2 (n + 1))
  refine gl_callX (vs := [M.2.2.1.2.2 (n + 1)]) hE mv_X7_ask wm_RL_88 (Nat.le_of_ble_eq_true rfl) rfl (Nat.le_of_ble_eq_true rfl) rfl dL_law_672 (c_X7_ask e1) ?_
  refine gl_al2 hE dL_law_675 ?_
  refine gl_arg hE hn 1 (by decide) (by decide) dL_law_676 dL_law_677 dL_law_678 dL_law_679 dL_law_680 ?_
  obtain ⟨z2, e2, hm1⟩ := M_ask hm (M.2.2.1.2.2 (n + 1))
  refine gl_callM (vs := [M.2.2.1.2.2 (n + 1)]) hE mv_X8_ask wm_RL_91 (Nat.le_of_ble_eq_true rfl) rfl (Nat.le_of_ble_eq_true rfl) rfl dL_law_681 (c_X8_ask e2) ?_
  exact gl_eq 1222 hE dL_law_684 (by decide) (k _ _ _ hx hm1)
theorem law_lie (hE : OL M) (hn : n + 6 ≤ M.2.2.1.2.1) (hx : AXg PTt PRr z a) (hm : AM zm a) (k : ∀ z zm a, AXg PTt PRr z a → AM zm a → GL M (nI n) 1222 [] z zm) : GL M (nI n) 689 [] z zm := by
  refine gl_al1 hE dL_law_689 ?_
  refine gl_arg hE hn 1 (by decide) (by decide) dL_law_690 dL_law_691 dL_law_692 dL_law_693 dL_law_694 ?_
  have e1 := X_lie hx (M.2.2.1.2.2 (n + 1))
  refine gl_callX (vs := [M.2.2.1.2.2 (n + 1)]) hE mv_X7_lie wm_RL_92 (Nat.le_of_ble_eq_true rfl) rfl (Nat.le_of_ble_eq_true rfl) rfl dL_law_695 (c_X7_lie e1) ?_
  refine gl_al2 hE dL_law_698 ?_
  refine gl_arg hE hn 1 (by decide) (by decide) dL_law_699 dL_law_700 dL_law_701 dL_law_702 dL_law_703 ?_
  obtain ⟨z2, e2, hm1⟩ := M_lie hm (M.2.2.1.2.2 (n + 1))
  refine gl_callM (vs := [M.2.2.1.2.2 (n + 1)]) hE mv_X8_lie wm_RL_95 (Nat.le_of_ble_eq_true rfl) rfl (Nat.le_of_ble_eq_true rfl) rfl dL_law_704 (c_X8_lie e2) ?_
  exact gl_eq 1222 hE dL_law_707 (by decide) (k _ _ _ hx hm1)
theorem law_guess (hE : OL M) (hn : n + 6 ≤ M.2.2.1.2.1) (hx : AXg PTt PRr z a) (hm : AM zm a) (k : ∀ z zm a, AXg PTt PRr z a → AM zm a → GL M (nI n) 1222 [] z zm) : GL M (nI n) 712 [] z zm := by
  refine gl_al1 hE dL_law_712 ?_
  refine gl_arg hE hn 1 (by decide) (by decide) dL_law_713 dL_law_714 dL_law_715 dL_law_716 dL_law_717 ?_
  refine gl_arg hE hn 2 (by decide) (by decide) dL_law_718 dL_law_719 dL_law_720 dL_law_721 dL_law_722 ?_
  have e1 := X_guess hx (M.2.2.1.2.2 (n + 1)) (M.2.2.1.2.2 (n + 2))
  refine gl_callX (vs := [M.2.2.1.2.2 (n + 1), M.2.2.1.2.2 (n + 2)]) hE mv_X7_guess wm_RL_96 (Nat.le_of_ble_eq_true rfl) rfl (Nat.le_of_ble_eq_true rfl) rfl dL_law_723 (c_X7_guess e1) ?_
  refine gl_al2 hE dL_law_726 ?_
  refine gl_arg hE hn 1 (by decide) (by decide) dL_law_727 dL_law_728 dL_law_729 dL_law_730 dL_law_731 ?_
  refine gl_arg hE hn 2 (by decide) (by decide) dL_law_732 dL_law_733 dL_law_734 dL_law_735 dL_law_736 ?_
  obtain ⟨z2, e2, hm1⟩ := M_guess hm (M.2.2.1.2.2 (n + 1)) (M.2.2.1.2.2 (n + 2))
  refine gl_callM (vs := [M.2.2.1.2.2 (n + 1), M.2.2.1.2.2 (n + 2)]) hE mv_X8_guess wm_RL_100 (Nat.le_of_ble_eq_true rfl) rfl (Nat.le_of_ble_eq_true rfl) rfl dL_law_737 (c_X8_guess e2) ?_
  exact gl_leq 1222 hE dL_law_740 dL_law_741 (by decide) (k _ _ _ hx hm1)
theorem law_guard (hE : OL M) (hn : n + 6 ≤ M.2.2.1.2.1) (hx : AXg PTt PRr z a) (hm : AM zm a) (k : ∀ z zm a, AXg PTt PRr z a → AM zm a → GL M (nI n) 1222 [] z zm) : GL M (nI n) 746 [] z zm := by
  refine gl_al1 hE dL_law_746 ?_
  refine gl_arg hE hn 1 (by decide) (by decide) dL_law_747 dL_law_748 dL_law_749 dL_law_750 dL_law_751 ?_
  have e1 := X_guard hx (M.2.2.1.2.2 (n + 1))
  refine gl_callX (vs := [M.2.2.1.2.2 (n + 1)]) hE mv_X7_guard wm_RL_101 (Nat.le_of_ble_eq_true rfl) rfl (Nat.le_of_ble_eq_true rfl) rfl dL_law_752 (c_X7_guard e1) ?_
  refine gl_al2 hE dL_law_755 ?_
  refine gl_arg hE hn 1 (by decide) (by decide) dL_law_756 dL_law_757 dL_law_758 dL_law_759 dL_law_760 ?_
  obtain ⟨z2, e2, hm1⟩ := M_guard hm (M.2.2.1.2.2 (n + 1))
  refine gl_callM (vs := [M.2.2.1.2.2 (n + 1)]) hE mv_X8_guard wm_RL_104 (Nat.le_of_ble_eq_true rfl) rfl (Nat.le_of_ble_eq_true rfl) rfl dL_law_761 (c_X8_guard e2) ?_
  exact gl_eq 1222 hE dL_law_764 (by decide) (k _ _ _ hx hm1)
theorem law_shelves (hE : OL M) (hn : n + 6 ≤ M.2.2.1.2.1) (hx : AXg PTt PRr z a) (hm : AM zm a) (k : ∀ z zm a, AXg PTt PRr z a → AM zm a → GL M (nI n) 1222 [] z zm) : GL M (nI n) 769 [] z zm := by
  refine gl_al1 hE dL_law_769 ?_
  refine gl_arg hE hn 1 (by decide) (by decide) dL_law_770 dL_law_771 dL_law_772 dL_law_773 dL_law_774 ?_
  have e1 := X_shelves hx (M.2.2.1.2.2 (n + 1))
  refine gl_callX (vs := [M.2.2.1.2.2 (n + 1)]) hE mv_X7_shelves wm_RL_105 (Nat.le_of_ble_eq_true rfl) rfl (Nat.le_of_ble_eq_true rfl) rfl dL_law_775 (c_X7_shelves e1) ?_
  refine gl_al2 hE dL_law_778 ?_
  refine gl_arg hE hn 1 (by decide) (by decide) dL_law_779 dL_law_780 dL_law_781 dL_law_782 dL_law_783 ?_
  obtain ⟨z2, e2, hm1⟩ := M_shelves hm (M.2.2.1.2.2 (n + 1))
  refine gl_callM (vs := [M.2.2.1.2.2 (n + 1)]) hE mv_X8_shelves wm_RL_108 (Nat.le_of_ble_eq_true rfl) rfl (Nat.le_of_ble_eq_true rfl) rfl dL_law_784 (c_X8_shelves e2) ?_
  exact gl_eq 1222 hE dL_law_787 (by decide) (k _ _ _ hx hm1)
theorem law_together (hE : OL M) (hn : n + 6 ≤ M.2.2.1.2.1) (hx : AXg PTt PRr z a) (hm : AM zm a) (k : ∀ z zm a, AXg PTt PRr z a → AM zm a → GL M (nI n) 1222 [] z zm) : GL M (nI n) 792 [] z zm := by
  refine gl_al1 hE dL_law_792 ?_
  refine gl_arg hE hn 1 (by decide) (by decide) dL_law_793 dL_law_794 dL_law_795 dL_law_796 dL_law_797 ?_
  obtain ⟨z1, e1, hx1⟩ := X_together hx (M.2.2.1.2.2 (n + 1))
  refine gl_callX (vs := [M.2.2.1.2.2 (n + 1)]) hE mv_X7_together wm_RL_109 (Nat.le_of_ble_eq_true rfl) rfl (Nat.le_of_ble_eq_true rfl) rfl dL_law_798 (c_X7_together e1) ?_
  refine gl_al2 hE dL_law_801 ?_
  refine gl_arg hE hn 1 (by decide) (by decide) dL_law_802 dL_law_803 dL_law_804 dL_law_805 dL_law_806 ?_
  obtain ⟨z2, e2, hm1⟩ := M_together hm (M.2.2.1.2.2 (n + 1))
  refine gl_callM (vs := [M.2.2.1.2.2 (n + 1)]) hE mv_X8_together wm_RL_112 (Nat.le_of_ble_eq_true rfl) rfl (Nat.le_of_ble_eq_true rfl) rfl dL_law_807 (c_X8_together e2) ?_
  exact gl_eq 1222 hE dL_law_810 (by decide) (k _ _ _ hx1 hm1)
theorem law_seen (hE : OL M) (hn : n + 6 ≤ M.2.2.1.2.1) (hx : AXg PTt PRr z a) (hm : AM zm a) (k : ∀ z zm a, AXg PTt PRr z a → AM zm a → GL M (nI n) 1222 [] z zm) : GL M (nI n) 815 [] z zm := by
  refine gl_al1 hE dL_law_815 ?_
  refine gl_arg hE hn 1 (by decide) (by decide) dL_law_816 dL_law_817 dL_law_818 dL_law_819 dL_law_820 ?_
  refine gl_arg hE hn 2 (by decide) (by decide) dL_law_821 dL_law_822 dL_law_823 dL_law_824 dL_law_825 ?_
  refine gl_arg hE hn 3 (by decide) (by decide) dL_law_826 dL_law_827 dL_law_828 dL_law_829 dL_law_830 ?_
  obtain ⟨z1, e1, hx1⟩ := X_seen hx (M.2.2.1.2.2 (n + 1)) (M.2.2.1.2.2 (n + 2)) (M.2.2.1.2.2 (n + 3))
  refine gl_callX (vs := [M.2.2.1.2.2 (n + 1), M.2.2.1.2.2 (n + 2), M.2.2.1.2.2 (n + 3)]) hE mv_X7_seen wm_RL_113 (Nat.le_of_ble_eq_true rfl) rfl (Nat.le_of_ble_eq_true rfl) rfl dL_law_831 (c_X7_seen e1) ?_
  refine gl_al2 hE dL_law_834 ?_
  refine gl_arg hE hn 1 (by decide) (by decide) dL_law_835 dL_law_836 dL_law_837 dL_law_838 dL_law_839 ?_
  refine gl_arg hE hn 2 (by decide) (by decide) dL_law_840 dL_law_841 dL_law_842 dL_law_843 dL_law_844 ?_
  refine gl_arg hE hn 3 (by decide) (by decide) dL_law_845 dL_law_846 dL_law_847 dL_law_848 dL_law_849 ?_
  obtain ⟨z2, e2, hm1⟩ := M_seen hm (M.2.2.1.2.2 (n + 1)) (M.2.2.1.2.2 (n + 2)) (M.2.2.1.2.2 (n + 3))
  refine gl_callM (vs := [M.2.2.1.2.2 (n + 1), M.2.2.1.2.2 (n + 2), M.2.2.1.2.2 (n + 3)]) hE mv_X8_seen wm_RL_117 (Nat.le_of_ble_eq_true rfl) rfl (Nat.le_of_ble_eq_true rfl) rfl dL_law_850 (c_X8_seen e2) ?_
  exact gl_eq 1222 hE dL_law_853 (by decide) (k _ _ _ hx1 hm1)
theorem law_forget (hE : OL M) (hn : n + 6 ≤ M.2.2.1.2.1) (hx : AXg PTt PRr z a) (hm : AM zm a) (k : ∀ z zm a, AXg PTt PRr z a → AM zm a → GL M (nI n) 1222 [] z zm) : GL M (nI n) 858 [] z zm := by
  refine gl_al1 hE dL_law_858 ?_
  obtain ⟨z1, e1, hx1⟩ := X_forget hx
  refine gl_callX (vs := []) hE mv_X7_forget wm_RL_118 (Nat.le_of_ble_eq_true rfl) rfl (Nat.le_of_ble_eq_true rfl) rfl dL_law_859 (c_X7_forget e1) ?_
  refine gl_al2 hE dL_law_862 ?_
  obtain ⟨z2, e2, hm1⟩ := M_forget hm
  refine gl_callM (vs := []) hE mv_X8_forget wm_RL_121 (Nat.le_of_ble_eq_true rfl) rfl (Nat.le_of_ble_eq_true rfl) rfl dL_law_863 (c_X8_forget e2) ?_
  exact gl_eq 1222 hE dL_law_866 (by decide) (k _ _ _ hx1 hm1)
theorem law_when (hE : OL M) (hn : n + 6 ≤ M.2.2.1.2.1) (hx : AXg PTt PRr z a) (hm : AM zm a) (k : ∀ z zm a, AXg PTt PRr z a → AM zm a → GL M (nI n) 1222 [] z zm) : GL M (nI n) 871 [] z zm := by
  refine gl_al1 hE dL_law_871 ?_
  refine gl_arg hE hn 1 (by decide) (by decide) dL_law_872 dL_law_873 dL_law_874 dL_law_875 dL_law_876 ?_
  obtain ⟨z1, e1, hx1⟩ := X_when hx (M.2.2.1.2.2 (n + 1))
  refine gl_callX (vs := [M.2.2.1.2.2 (n + 1)]) hE mv_X7_when wm_RL_122 (Nat.le_of_ble_eq_true rfl) rfl (Nat.le_of_ble_eq_true rfl) rfl dL_law_877 (c_X7_when e1) ?_
  refine gl_al2 hE dL_law_880 ?_
  refine gl_arg hE hn 1 (by decide) (by decide) dL_law_881 dL_law_882 dL_law_883 dL_law_884 dL_law_885 ?_
  obtain ⟨z2, e2, hm1⟩ := M_when hm (M.2.2.1.2.2 (n + 1))
  refine gl_callM (vs := [M.2.2.1.2.2 (n + 1)]) hE mv_X8_when wm_RL_125 (Nat.le_of_ble_eq_true rfl) rfl (Nat.le_of_ble_eq_true rfl) rfl dL_law_886 (c_X8_when e2) ?_
  exact gl_eq 1222 hE dL_law_889 (by decide) (k _ _ _ hx1 hm1)
theorem law_weeks (hE : OL M) (hn : n + 6 ≤ M.2.2.1.2.1) (hx : AXg PTt PRr z a) (hm : AM zm a) (k : ∀ z zm a, AXg PTt PRr z a → AM zm a → GL M (nI n) 1222 [] z zm) : GL M (nI n) 894 [] z zm := by
  refine gl_al1 hE dL_law_894 ?_
  refine gl_arg hE hn 1 (by decide) (by decide) dL_law_895 dL_law_896 dL_law_897 dL_law_898 dL_law_899 ?_
  refine gl_arg hE hn 2 (by decide) (by decide) dL_law_900 dL_law_901 dL_law_902 dL_law_903 dL_law_904 ?_
  refine gl_arg hE hn 3 (by decide) (by decide) dL_law_905 dL_law_906 dL_law_907 dL_law_908 dL_law_909 ?_
  obtain ⟨z1, e1, hx1⟩ := X_weeks hx (M.2.2.1.2.2 (n + 1)) (M.2.2.1.2.2 (n + 2)) (M.2.2.1.2.2 (n + 3))
  refine gl_callX (vs := [M.2.2.1.2.2 (n + 1), M.2.2.1.2.2 (n + 2), M.2.2.1.2.2 (n + 3)]) hE mv_X7_weeks wm_RL_126 (Nat.le_of_ble_eq_true rfl) rfl (Nat.le_of_ble_eq_true rfl) rfl dL_law_910 (c_X7_weeks e1) ?_
  refine gl_al2 hE dL_law_913 ?_
  refine gl_arg hE hn 1 (by decide) (by decide) dL_law_914 dL_law_915 dL_law_916 dL_law_917 dL_law_918 ?_
  refine gl_arg hE hn 2 (by decide) (by decide) dL_law_919 dL_law_920 dL_law_921 dL_law_922 dL_law_923 ?_
  refine gl_arg hE hn 3 (by decide) (by decide) dL_law_924 dL_law_925 dL_law_926 dL_law_927 dL_law_928 ?_
  obtain ⟨z2, e2, hm1⟩ := M_weeks hm (M.2.2.1.2.2 (n + 1)) (M.2.2.1.2.2 (n + 2)) (M.2.2.1.2.2 (n + 3))
  refine gl_callM (vs := [M.2.2.1.2.2 (n + 1), M.2.2.1.2.2 (n + 2), M.2.2.1.2.2 (n + 3)]) hE mv_X8_weeks wm_RL_129 (Nat.le_of_ble_eq_true rfl) rfl (Nat.le_of_ble_eq_true rfl) rfl dL_law_929 (c_X8_weeks e2) ?_
  exact gl_eq 1222 hE dL_law_932 (by decide) (k _ _ _ hx1 hm1)
theorem law_sheet (hE : OL M) (hn : n + 6 ≤ M.2.2.1.2.1) (hx : AXg PTt PRr z a) (hm : AM zm a) (k : ∀ z zm a, AXg PTt PRr z a → AM zm a → GL M (nI n) 1222 [] z zm) : GL M (nI n) 937 [] z zm := by
  refine gl_al1 hE dL_law_937 ?_
  refine gl_arg hE hn 1 (by decide) (by decide) dL_law_938 dL_law_939 dL_law_940 dL_law_941 dL_law_942 ?_
  refine gl_arg hE hn 2 (by decide) (by decide) dL_law_943 dL_law_944 dL_law_945 dL_law_946 dL_law_947 ?_
  refine gl_arg hE hn 3 (by decide) (by decide) dL_law_948 dL_law_949 dL_law_950 dL_law_951 dL_law_952 ?_
  obtain ⟨z1, e1, hx1⟩ := X_sheet hx (M.2.2.1.2.2 (n + 1)) (M.2.2.1.2.2 (n + 2)) (M.2.2.1.2.2 (n + 3))
  refine gl_callX (vs := [M.2.2.1.2.2 (n + 1), M.2.2.1.2.2 (n + 2), M.2.2.1.2.2 (n + 3)]) hE mv_X7_sheet wm_RL_130 (Nat.le_of_ble_eq_true rfl) rfl (Nat.le_of_ble_eq_true rfl) rfl dL_law_953 (c_X7_sheet e1) ?_
  refine gl_al2 hE dL_law_956 ?_
  refine gl_arg hE hn 1 (by decide) (by decide) dL_law_957 dL_law_958 dL_law_959 dL_law_960 dL_law_961 ?_
  refine gl_arg hE hn 2 (by decide) (by decide) dL_law_962 dL_law_963 dL_law_964 dL_law_965 dL_law_966 ?_
  refine gl_arg hE hn 3 (by decide) (by decide) dL_law_967 dL_law_968 dL_law_969 dL_law_970 dL_law_971 ?_
  obtain ⟨z2, e2, hm1⟩ := M_sheet hm (M.2.2.1.2.2 (n + 1)) (M.2.2.1.2.2 (n + 2)) (M.2.2.1.2.2 (n + 3))
  refine gl_callM (vs := [M.2.2.1.2.2 (n + 1), M.2.2.1.2.2 (n + 2), M.2.2.1.2.2 (n + 3)]) hE mv_X8_sheet wm_RL_133 (Nat.le_of_ble_eq_true rfl) rfl (Nat.le_of_ble_eq_true rfl) rfl dL_law_972 (c_X8_sheet e2) ?_
  exact gl_eq 1222 hE dL_law_975 (by decide) (k _ _ _ hx1 hm1)
theorem law_lose (hE : OL M) (hn : n + 6 ≤ M.2.2.1.2.1) (hx : AXg PTt PRr z a) (hm : AM zm a) (k : ∀ z zm a, AXg PTt PRr z a → AM zm a → GL M (nI n) 1222 [] z zm) : GL M (nI n) 980 [] z zm := by
  refine gl_al1 hE dL_law_980 ?_
  refine gl_arg hE hn 1 (by decide) (by decide) dL_law_981 dL_law_982 dL_law_983 dL_law_984 dL_law_985 ?_
  obtain ⟨z1, e1, hx1⟩ := X_lose hx (M.2.2.1.2.2 (n + 1))
  refine gl_callX (vs := [M.2.2.1.2.2 (n + 1)]) hE mv_X7_lose wm_RL_134 (Nat.le_of_ble_eq_true rfl) rfl (Nat.le_of_ble_eq_true rfl) rfl dL_law_986 (c_X7_lose e1) ?_
  refine gl_al2 hE dL_law_989 ?_
  refine gl_arg hE hn 1 (by decide) (by decide) dL_law_990 dL_law_991 dL_law_992 dL_law_993 dL_law_994 ?_
  obtain ⟨z2, e2, hm1⟩ := M_lose hm (M.2.2.1.2.2 (n + 1))
  refine gl_callM (vs := [M.2.2.1.2.2 (n + 1)]) hE mv_X8_lose wm_RL_137 (Nat.le_of_ble_eq_true rfl) rfl (Nat.le_of_ble_eq_true rfl) rfl dL_law_995 (c_X8_lose e2) ?_
  exact gl_eq 1222 hE dL_law_998 (by decide) (k _ _ _ hx1 hm1)
theorem law_put (hE : OL M) (hn : n + 6 ≤ M.2.2.1.2.1) (hx : AXg PTt PRr z a) (hm : AM zm a) (k : ∀ z zm a, AXg PTt PRr z a → AM zm a → GL M (nI n) 1222 [] z zm) : GL M (nI n) 1003 [] z zm := by
  refine gl_al1 hE dL_law_1003 ?_
  refine gl_arg hE hn 1 (by decide) (by decide) dL_law_1004 dL_law_1005 dL_law_1006 dL_law_1007 dL_law_1008 ?_
  refine gl_arg hE hn 2 (by decide) (by decide) dL_law_1009 dL_law_1010 dL_law_1011 dL_law_1012 dL_law_1013 ?_
  refine gl_arg hE hn 3 (by decide) (by decide) dL_law_1014 dL_law_1015 dL_law_1016 dL_law_1017 dL_law_1018 ?_
  refine gl_arg hE hn 4 (by decide) (by decide) dL_law_1019 dL_law_1020 dL_law_1021 dL_law_1022 dL_law_1023 ?_
  obtain ⟨z1, e1, hx1⟩ := X_put hx (M.2.2.1.2.2 (n + 1)) (M.2.2.1.2.2 (n + 2)) (M.2.2.1.2.2 (n + 3)) (M.2.2.1.2.2 (n + 4))
  refine gl_callX (vs := [M.2.2.1.2.2 (n + 1), M.2.2.1.2.2 (n + 2), M.2.2.1.2.2 (n + 3), M.2.2.1.2.2 (n + 4)]) hE mv_X7_put wm_RL_138 (Nat.le_of_ble_eq_true rfl) rfl (Nat.le_of_ble_eq_true rfl) rfl dL_law_1024 (c_X7_put e1) ?_
  refine gl_al2 hE dL_law_1027 ?_
  refine gl_arg hE hn 1 (by decide) (by decide) dL_law_1028 dL_law_1029 dL_law_1030 dL_law_1031 dL_law_1032 ?_
  refine gl_arg hE hn 2 (by decide) (by decide) dL_law_1033 dL_law_1034 dL_law_1035 dL_law_1036 dL_law_1037 ?_
  refine gl_arg hE hn 3 (by decide) (by decide) dL_law_1038 dL_law_1039 dL_law_1040 dL_law_1041 dL_law_1042 ?_
  refine gl_arg hE hn 4 (by decide) (by decide) dL_law_1043 dL_law_1044 dL_law_1045 dL_law_1046 dL_law_1047 ?_
  obtain ⟨z2, e2, hm1⟩ := M_put hm (M.2.2.1.2.2 (n + 1)) (M.2.2.1.2.2 (n + 2)) (M.2.2.1.2.2 (n + 3)) (M.2.2.1.2.2 (n + 4))
  refine gl_callM (vs := [M.2.2.1.2.2 (n + 1), M.2.2.1.2.2 (n + 2), M.2.2.1.2.2 (n + 3), M.2.2.1.2.2 (n + 4)]) hE mv_X8_put wm_RL_142 (Nat.le_of_ble_eq_true rfl) rfl (Nat.le_of_ble_eq_true rfl) rfl dL_law_1048 (c_X8_put e2) ?_
  exact gl_eq 1222 hE dL_law_1051 (by decide) (k _ _ _ hx1 hm1)
theorem law_get (hE : OL M) (hn : n + 6 ≤ M.2.2.1.2.1) (hx : AXg PTt PRr z a) (hm : AM zm a) (k : ∀ z zm a, AXg PTt PRr z a → AM zm a → GL M (nI n) 1222 [] z zm) : GL M (nI n) 1056 [] z zm := by
  refine gl_al1 hE dL_law_1056 ?_
  refine gl_arg hE hn 1 (by decide) (by decide) dL_law_1057 dL_law_1058 dL_law_1059 dL_law_1060 dL_law_1061 ?_
  refine gl_arg hE hn 2 (by decide) (by decide) dL_law_1062 dL_law_1063 dL_law_1064 dL_law_1065 dL_law_1066 ?_
  refine gl_arg hE hn 3 (by decide) (by decide) dL_law_1067 dL_law_1068 dL_law_1069 dL_law_1070 dL_law_1071 ?_
  obtain ⟨z1, e1, hx1⟩ := X_get hx (M.2.2.1.2.2 (n + 1)) (M.2.2.1.2.2 (n + 2)) (M.2.2.1.2.2 (n + 3))
  refine gl_callX (vs := [M.2.2.1.2.2 (n + 1), M.2.2.1.2.2 (n + 2), M.2.2.1.2.2 (n + 3)]) hE mv_X7_get wm_RL_143 (Nat.le_of_ble_eq_true rfl) rfl (Nat.le_of_ble_eq_true rfl) rfl dL_law_1072 (c_X7_get e1) ?_
  refine gl_al2 hE dL_law_1075 ?_
  refine gl_arg hE hn 1 (by decide) (by decide) dL_law_1076 dL_law_1077 dL_law_1078 dL_law_1079 dL_law_1080 ?_
  refine gl_arg hE hn 2 (by decide) (by decide) dL_law_1081 dL_law_1082 dL_law_1083 dL_law_1084 dL_law_1085 ?_
  refine gl_arg hE hn 3 (by decide) (by decide) dL_law_1086 dL_law_1087 dL_law_1088 dL_law_1089 dL_law_1090 ?_
  obtain ⟨z2, e2, hm1⟩ := M_get hm (M.2.2.1.2.2 (n + 1)) (M.2.2.1.2.2 (n + 2)) (M.2.2.1.2.2 (n + 3))
  refine gl_callM (vs := [M.2.2.1.2.2 (n + 1), M.2.2.1.2.2 (n + 2), M.2.2.1.2.2 (n + 3)]) hE mv_X8_get wm_RL_146 (Nat.le_of_ble_eq_true rfl) rfl (Nat.le_of_ble_eq_true rfl) rfl dL_law_1091 (c_X8_get e2) ?_
  exact gl_eq 1222 hE dL_law_1094 (by decide) (k _ _ _ hx1 hm1)
theorem law_copy (hE : OL M) (hn : n + 6 ≤ M.2.2.1.2.1) (hx : AXg PTt PRr z a) (hm : AM zm a) (k : ∀ z zm a, AXg PTt PRr z a → AM zm a → GL M (nI n) 1222 [] z zm) : GL M (nI n) 1099 [] z zm := by
  refine gl_al1 hE dL_law_1099 ?_
  refine gl_arg hE hn 1 (by decide) (by decide) dL_law_1100 dL_law_1101 dL_law_1102 dL_law_1103 dL_law_1104 ?_
  refine gl_arg hE hn 2 (by decide) (by decide) dL_law_1105 dL_law_1106 dL_law_1107 dL_law_1108 dL_law_1109 ?_
  refine gl_arg hE hn 3 (by decide) (by decide) dL_law_1110 dL_law_1111 dL_law_1112 dL_law_1113 dL_law_1114 ?_
  refine gl_arg hE hn 4 (by decide) (by decide) dL_law_1115 dL_law_1116 dL_law_1117 dL_law_1118 dL_law_1119 ?_
  refine gl_arg hE hn 5 (by decide) (by decide) dL_law_1120 dL_law_1121 dL_law_1122 dL_law_1123 dL_law_1124 ?_
  obtain ⟨z1, e1, hx1⟩ := X_copy hx (M.2.2.1.2.2 (n + 1)) (M.2.2.1.2.2 (n + 2)) (M.2.2.1.2.2 (n + 3)) (M.2.2.1.2.2 (n + 4)) (M.2.2.1.2.2 (n + 5))
  refine gl_callX (vs := [M.2.2.1.2.2 (n + 1), M.2.2.1.2.2 (n + 2), M.2.2.1.2.2 (n + 3), M.2.2.1.2.2 (n + 4), M.2.2.1.2.2 (n + 5)]) hE mv_X7_copy wm_RL_147 (Nat.le_of_ble_eq_true rfl) rfl (Nat.le_of_ble_eq_true rfl) rfl dL_law_1125 (c_X7_copy e1) ?_
  refine gl_al2 hE dL_law_1128 ?_
  refine gl_arg hE hn 1 (by decide) (by decide) dL_law_1129 dL_law_1130 dL_law_1131 dL_law_1132 dL_law_1133 ?_
  refine gl_arg hE hn 2 (by decide) (by decide) dL_law_1134 dL_law_1135 dL_law_1136 dL_law_1137 dL_law_1138 ?_
  refine gl_arg hE hn 3 (by decide) (by decide) dL_law_1139 dL_law_1140 dL_law_1141 dL_law_1142 dL_law_1143 ?_
  refine gl_arg hE hn 4 (by decide) (by decide) dL_law_1144 dL_law_1145 dL_law_1146 dL_law_1147 dL_law_1148 ?_
  refine gl_arg hE hn 5 (by decide) (by decide) dL_law_1149 dL_law_1150 dL_law_1151 dL_law_1152 dL_law_1153 ?_
  obtain ⟨z2, e2, hm1⟩ := M_copy hm (M.2.2.1.2.2 (n + 1)) (M.2.2.1.2.2 (n + 2)) (M.2.2.1.2.2 (n + 3)) (M.2.2.1.2.2 (n + 4)) (M.2.2.1.2.2 (n + 5))
  refine gl_callM (vs := [M.2.2.1.2.2 (n + 1), M.2.2.1.2.2 (n + 2), M.2.2.1.2.2 (n + 3), M.2.2.1.2.2 (n + 4), M.2.2.1.2.2 (n + 5)]) hE mv_X8_copy wm_RL_151 (Nat.le_of_ble_eq_true rfl) rfl (Nat.le_of_ble_eq_true rfl) rfl dL_law_1154 (c_X8_copy e2) ?_
  exact gl_eq 1222 hE dL_law_1157 (by decide) (k _ _ _ hx1 hm1)
theorem law_write (hE : OL M) (hn : n + 6 ≤ M.2.2.1.2.1) (hx : AXg PTt PRr z a) (hm : AM zm a) (k : ∀ z zm a, AXg PTt PRr z a → AM zm a → GL M (nI n) 1222 [] z zm) : GL M (nI n) 1162 [] z zm := by
  refine gl_al1 hE dL_law_1162 ?_
  refine gl_arg hE hn 1 (by decide) (by decide) dL_law_1163 dL_law_1164 dL_law_1165 dL_law_1166 dL_law_1167 ?_
  obtain ⟨z1, e1, hx1⟩ := X_write hx (M.2.2.1.2.2 (n + 1))
  refine gl_callX (vs := [M.2.2.1.2.2 (n + 1)]) hE mv_X7_write wm_RL_152 (Nat.le_of_ble_eq_true rfl) rfl (Nat.le_of_ble_eq_true rfl) rfl dL_law_1168 (c_X7_write e1) ?_
  refine gl_al2 hE dL_law_1171 ?_
  refine gl_arg hE hn 1 (by decide) (by decide) dL_law_1172 dL_law_1173 dL_law_1174 dL_law_1175 dL_law_1176 ?_
  obtain ⟨z2, e2, hm1⟩ := M_write hm (M.2.2.1.2.2 (n + 1))
  refine gl_callM (vs := [M.2.2.1.2.2 (n + 1)]) hE mv_X8_write wm_RL_155 (Nat.le_of_ble_eq_true rfl) rfl (Nat.le_of_ble_eq_true rfl) rfl dL_law_1177 (c_X8_write e2) ?_
  exact gl_eq 1222 hE dL_law_1180 (by decide) (k _ _ _ hx1 hm1)
theorem law_count (hE : OL M) (hn : n + 6 ≤ M.2.2.1.2.1) (hx : AXg PTt PRr z a) (hm : AM zm a) (k : ∀ z zm a, AXg PTt PRr z a → AM zm a → GL M (nI n) 1222 [] z zm) : GL M (nI n) 1185 [] z zm := by
  refine gl_al1 hE dL_law_1185 ?_
  refine gl_arg hE hn 1 (by decide) (by decide) dL_law_1186 dL_law_1187 dL_law_1188 dL_law_1189 dL_law_1190 ?_
  have e1 := X_count hx (M.2.2.1.2.2 (n + 1))
  refine gl_callX (vs := [M.2.2.1.2.2 (n + 1)]) hE mv_X7_count wm_RL_156 (Nat.le_of_ble_eq_true rfl) rfl (Nat.le_of_ble_eq_true rfl) rfl dL_law_1191 (c_X7_count e1) ?_
  refine gl_al2 hE dL_law_1194 ?_
  refine gl_arg hE hn 1 (by decide) (by decide) dL_law_1195 dL_law_1196 dL_law_1197 dL_law_1198 dL_law_1199 ?_
  obtain ⟨z2, e2, hm1⟩ := M_count hm (M.2.2.1.2.2 (n + 1))
  refine gl_callM (vs := [M.2.2.1.2.2 (n + 1)]) hE mv_X8_count wm_RL_159 (Nat.le_of_ble_eq_true rfl) rfl (Nat.le_of_ble_eq_true rfl) rfl dL_law_1200 (c_X8_count e2) ?_
  exact gl_eq 1222 hE dL_law_1203 (by decide) (k _ _ _ hx hm1)
theorem law_digest (hE : OL M) (hn : n + 6 ≤ M.2.2.1.2.1) (hx : AXg PTt PRr z a) (hm : AM zm a) (k : ∀ z zm a, AXg PTt PRr z a → AM zm a → GL M (nI n) 1222 [] z zm) : GL M (nI n) 1208 [] z zm := by
  refine gl_al1 hE dL_law_1208 ?_
  obtain ⟨z1, e1, hx1⟩ := X_digest hx
  refine gl_callX (vs := []) hE mv_X7_digest wm_RL_160 (Nat.le_of_ble_eq_true rfl) rfl (Nat.le_of_ble_eq_true rfl) rfl dL_law_1209 (c_X7_digest e1) ?_
  refine gl_al2 hE dL_law_1212 ?_
  obtain ⟨z2, e2, hm1⟩ := M_digest hm
  refine gl_callM (vs := []) hE mv_X8_digest wm_RL_164 (Nat.le_of_ble_eq_true rfl) rfl (Nat.le_of_ble_eq_true rfl) rfl dL_law_1213 (c_X8_digest e2) ?_
  exact gl_leq 1222 hE dL_law_1216 dL_law_1217 (by decide) (k _ _ _ hx1 hm1)
theorem law_sw (hE : OL M) (hn : n + 6 ≤ M.2.2.1.2.1) (hx : AXg PTt PRr z a) (hm : AM zm a) (k : ∀ z zm a, AXg PTt PRr z a → AM zm a → GL M (nI n) 1222 [] z zm) : ∀ u, u < 36 → GL M (nI n) 33 [.int (nI u)] z zm := fun u hu => match u, hu with
  | 0, h => gl_tabIn hE 0 192 dL_law_33 h rfl (by decide) (law_type hE hn hx hm k)
  | 1, h => gl_tabIn hE 1 225 dL_law_33 h rfl (by decide) (law_wipe hE hn hx hm k)
  | 2, h => gl_tabIn hE 2 248 dL_law_33 h rfl (by decide) (law_undo hE hn hx hm k)
  | 3, h => gl_tabIn hE 3 271 dL_law_33 h rfl (by decide) (law_fault hE hn hx hm k)
  | 4, h => gl_tabIn hE 4 294 dL_law_33 h rfl (by decide) (law_virtue hE hn hx hm k)
  | 5, h => gl_tabIn hE 5 327 dL_law_33 h rfl (by decide) (law_claimant hE hn hx hm k)
  | 6, h => gl_tabIn hE 6 360 dL_law_33 h rfl (by decide) (law_set hE hn hx hm k)
  | 7, h => gl_tabIn hE 7 393 dL_law_33 h rfl (by decide) (law_handing hE hn hx hm k)
  | 8, h => gl_tabIn hE 8 426 dL_law_33 h rfl (by decide) (law_claim hE hn hx hm k)
  | 9, h => gl_tabIn hE 9 459 dL_law_33 h rfl (by decide) (law_back hE hn hx hm k)
  | 10, h => gl_tabIn hE 10 482 dL_law_33 h rfl (by decide) (law_read hE hn hx hm k)
  | 11, h => gl_tabIn hE 11 505 dL_law_33 h rfl (by decide) (law_behind hE hn hx hm k)
  | 12, h => gl_tabIn hE 12 538 dL_law_33 h rfl (by decide) (law_gone hE hn hx hm k)
  | 13, h => gl_tabIn hE 13 571 dL_law_33 h rfl (by decide) (law_empty hE hn hx hm k)
  | 14, h => gl_tabIn hE 14 584 dL_law_33 h rfl (by decide) (law_sale hE hn hx hm k)
  | 15, h => gl_tabIn hE 15 597 dL_law_33 h rfl (by decide) (law_saint hE hn hx hm k)
  | 16, h => gl_tabIn hE 16 610 dL_law_33 h rfl (by decide) (law_fitting hE hn hx hm k)
  | 17, h => gl_tabIn hE 17 643 dL_law_33 h rfl (by decide) (law_match hE hn hx hm k)
  | 18, h => gl_tabIn hE 18 666 dL_law_33 h rfl (by decide) (law_ask hE hn hx hm k)
  | 19, h => gl_tabIn hE 19 689 dL_law_33 h rfl (by decide) (law_lie hE hn hx hm k)
  | 20, h => gl_tabIn hE 20 712 dL_law_33 h rfl (by decide) (law_guess hE hn hx hm k)
  | 21, h => gl_tabIn hE 21 746 dL_law_33 h rfl (by decide) (law_guard hE hn hx hm k)
  | 22, h => gl_tabIn hE 22 769 dL_law_33 h rfl (by decide) (law_shelves hE hn hx hm k)
  | 23, h => gl_tabIn hE 23 792 dL_law_33 h rfl (by decide) (law_together hE hn hx hm k)
  | 24, h => gl_tabIn hE 24 815 dL_law_33 h rfl (by decide) (law_seen hE hn hx hm k)
  | 25, h => gl_tabIn hE 25 858 dL_law_33 h rfl (by decide) (law_forget hE hn hx hm k)
  | 26, h => gl_tabIn hE 26 871 dL_law_33 h rfl (by decide) (law_when hE hn hx hm k)
  | 27, h => gl_tabIn hE 27 894 dL_law_33 h rfl (by decide) (law_weeks hE hn hx hm k)
  | 28, h => gl_tabIn hE 28 937 dL_law_33 h rfl (by decide) (law_sheet hE hn hx hm k)
  | 29, h => gl_tabIn hE 29 980 dL_law_33 h rfl (by decide) (law_lose hE hn hx hm k)
  | 30, h => gl_tabIn hE 30 1003 dL_law_33 h rfl (by decide) (law_put hE hn hx hm k)
  | 31, h => gl_tabIn hE 31 1056 dL_law_33 h rfl (by decide) (law_get hE hn hx hm k)
  | 32, h => gl_tabIn hE 32 1099 dL_law_33 h rfl (by decide) (law_copy hE hn hx hm k)
  | 33, h => gl_tabIn hE 33 1162 dL_law_33 h rfl (by decide) (law_write hE hn hx hm k)
  | 34, h => gl_tabIn hE 34 1185 dL_law_33 h rfl (by decide) (law_count hE hn hx hm k)
  | 35, h => gl_tabIn hE 35 1208 dL_law_33 h rfl (by decide) (law_digest hE hn hx hm k)
  | _ + 36, h => absurd h (Nat.not_lt.mpr (Nat.le_add_left _ _))
theorem law_loop (hE : OL M) : ∀ (f n : Nat) (z zm : Sg) (a : Ab), n ≤ M.2.2.1.2.1 → M.2.2.1.2.1 < n + f → AXg PTt PRr z a → AM zm a → GL M (nI n) 18 [] z zm
  | 0, n, z, zm, a, h0, hf, _, _ => absurd hf (by omega)
  | f + 1, n, z, zm, a, h0, hf, hx, hm => by
    have hL : M.2.2.1.2.1 ≤ 3072 := hE.2.2.2.2.2.2.2.2.2.2.2.2.2.2
    refine gl_il3 hE dL_law_18 (gl_al0 hE dL_law_19 (gl_len hE dL_law_20 (gl_bipush hE 6 dL_law_21 (by decide) (gl_isub hE dL_law_23 (gl_gt 1228 hE dL_law_24 (by decide) (fun _ => ?_) (fun hgt => ?_))))))
    · exact gl_iconst hE 1 dL_law_1228 (by decide) (gl_end hE dL_law_1229)
    have hn : n + 6 ≤ M.2.2.1.2.1 := sub6 (by omega) hL hgt
    refine gl_al0 hE dL_law_27 (gl_il3 hE dL_law_28 (gl_ld hE (by omega) dL_law_29 (gl_bipush hE 63 dL_law_30 (by decide) (gl_iand hE dL_law_32 ?_))))
    have next : ∀ z zm a, AXg PTt PRr z a → AM zm a → GL M (nI n) 1222 [] z zm := fun z zm a hx hm =>
      gl_inc hE (nI (n + 6)) dL_law_1222 (nI_add n 6) (gl_goto 18 hE dL_law_1225 (by decide) (law_loop hE f (n + 6) z zm a hn (by omega) hx hm))
    obtain ⟨u, hu, e⟩ := and63 (M.2.2.1.2.2 n)
    rw [e]
    by_cases h36 : u < 36
    · exact law_sw hE hn hx hm next u h36
    · exact gl_tabOut hE u 1222 dL_law_33 h36 hu (by decide) (next z zm a hx hm)
end LawWalk
