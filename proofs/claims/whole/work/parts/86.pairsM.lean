/-! TOGETHER: the reference. -/
section PM
variable {z : Sg} {t0 t1 : Tx}
theorem m_first {S : Nat} (hS : S < 256) (h0 : tz S = 8 ∨ S.testBit (tz S) = true) : ∀ (e i n : Nat), i + e = tz S → f_X8_laysPairs_lp2 (nI S) z (n + 1 + e) (nI i) = some (nI (tz S))
  | 0, i, n, hi => by
    obtain rfl : i = tz S := by omega
    have h8 : tz S ≤ 8 := tz_le' ⟨S, hS⟩
    rw [Nat.add_zero, f_X8_laysPairs_lp2]
    rcases Nat.lt_or_ge (tz S) 8 with q | q
    · rcases h0 with h | h
      · omega
      · rw [if_pos (show nI (tz S) < (8 : Int32) from nI_lt (b := 8) q (by decide)), m_isIn (by omega) (by omega), h, b1_some, if_pos rfl, if_pos ne10, b1_some, if_neg (by decide)]
    · rw [show tz S = 8 by omega, if_neg (show ¬ nI 8 < (8 : Int32) from Int32.lt_irrefl), b1_some, if_neg (by decide)]
  | e + 1, i, n, hi => by
    have h8 : tz S ≤ 8 := tz_le' ⟨S, hS⟩
    rw [show n + 1 + (e + 1) = (n + 1 + e) + 1 by omega, f_X8_laysPairs_lp2, if_pos (show nI i < (8 : Int32) from nI_lt (b := 8) (by omega) (by decide)), m_isIn (by omega) (by omega), tz_lo hS (show i < tz S by omega), b1_some, if_neg (by decide), b1_some, if_pos rfl, nI_l1]
    exact m_first hS h0 e (i + 1) n (by omega)
theorem m_arePair (r : RDm z t0 t1) (d1 : nV t0 ≤ 8) {v w : Nat} (hv : v < nV t0) (hw : w < nV t0) : f_X8_arePair (nI v) (nI w) z = some (if prs t0 v w then 1 else 0) := by
  have h1 := hiB_lt t0.2 v
  have h2 := hiB_lt t0.2 w
  have hx : hiB t0.2 v ^^^ hiB t0.2 w < 16 := Nat.xor_lt_two_pow (n := 4) h1 h2
  have hp := pc8_le (hiB t0.2 v ^^^ hiB t0.2 w)
  unfold f_X8_arePair
  rw [ck_pos (ib_nI (by omega) (by decide)), ck_pos (ib_nI (by omega) (by decide)), ix_nI (by omega), ix_nI (by omega), (r.2.2.1 v hv).1, (r.2.2.1 w hw).1, nI_xor, m_ones (by omega), b1_some]
  have e := nI_eq (a := pc8 (hiB t0.2 v ^^^ hiB t0.2 w)) (b := 1) (by omega) (by decide)
  unfold prs
  by_cases c : pc8 (hiB t0.2 v ^^^ hiB t0.2 w) = 1
  · rw [if_pos (show nI (pc8 (hiB t0.2 v ^^^ hiB t0.2 w)) = 1 from e.mpr c), c]; rfl
  · rw [if_neg (show ¬ nI (pc8 (hiB t0.2 v ^^^ hiB t0.2 w)) = 1 from fun t => c (e.mp t)), if_neg (by simpa using c)]; rfl
theorem pB_le {t0 : Tx} (d1 : nV t0 ≤ 8) (S : Nat) : pB t0 (nV t0) S ≤ 8 := by have := (pX_is d1 (nV t0) (Nat.le_refl _) S).2; omega
/-- the test of a pair in a set -/
theorem m_pcd (r : RDm z t0 t1) (d1 : nV t0 ≤ 8) {f S b : Nat} (hf : f < nV t0) (hS : S < 256) (hb : b < nV t0) (hfb : f < b) {α : Type} (x y : Option α) : (b1 (b1 (f_X8_isIn (nI S) (nI b)) fun r29 => if ¬ r29 = 0 then b1 (f_X8_arePair (nI f) (nI b) z) fun r32 => if ¬ r32 = 0 then some true else some false else some false) fun q22 => if q22 = true then x else y) = if pCd t0 f S b = true then x else y := by
  have hcd : pCd t0 f S b = (S.testBit b && prs t0 f b) := by unfold pCd; rw [decide_eq_true hfb]; rfl
  rw [m_isIn (by omega) (by omega), b1_some, m_arePair r d1 hf hb, b1_some, hcd]
  cases S.testBit b <;> cases prs t0 f b <;> rfl
theorem m_lp3 (r : RDm z t0 t1) (d1 : nV t0 ≤ 8) {f S : Nat} (hf : f < nV t0) (hS : S < 256) (hT : ∀ R, R < S → rI z 17 R = nI (pB t0 (nV t0) R)) (hb : S.testBit f = true) : ∀ (e b n : Nat), f < b → b + e = nV t0 → f_X8_laysPairs_lp3 (nI S) (nI f) z (n + 1 + e) (nI (bst (pB t0 (nV t0) (del S f)) (pCd t0 f S) (fun w => 1 + pB t0 (nV t0) (del (del S f) w)) b).1) (nI b) = some (nI (bst (pB t0 (nV t0) (del S f)) (pCd t0 f S) (fun w => 1 + pB t0 (nV t0) (del (del S f) w)) (nV t0)).1)
  | 0, b, n, _, hv => by
    obtain rfl : b = nV t0 := by omega
    rw [Nat.add_zero, f_X8_laysPairs_lp3, r.1, if_neg Int32.lt_irrefl]
  | e + 1, b, n, hfb, hv => by
    have ih := m_lp3 r d1 hf hS hT hb e (b + 1) n (by omega) (by omega)
    have hB : (bst (pB t0 (nV t0) (del S f)) (pCd t0 f S) (fun w => 1 + pB t0 (nV t0) (del (del S f) w)) b).1 ≤ 9 := by
      rcases bst_in (pB t0 (nV t0) (del S f)) (pCd t0 f S) (fun w => 1 + pB t0 (nV t0) (del (del S f) w)) b with q | ⟨j, -, -, q⟩
      · rw [q]; have := pB_le d1 (del S f); omega
      · rw [q]; have := pB_le d1 (del (del S f) j); show 1 + pB t0 (nV t0) (del (del S f) j) ≤ 9; omega
    rw [show n + 1 + (e + 1) = (n + 1 + e) + 1 by omega, f_X8_laysPairs_lp3, r.1, if_pos (nI_lt (show b < nV t0 by omega) (by omega)), m_pcd r d1 hf hS (by omega) hfb, nI_l1, ← ih, bst_fst]
    by_cases c : pCd t0 f S b = true
    · have hdd : del (del S f) b < S := Nat.lt_of_le_of_lt (del_le _ _) (del_lt (by omega) hb)
      have hp := pB_le d1 (del (del S f) b)
      rw [if_pos c, if_pos c, one_shl (by omega), one_shl (by omega), and_not2 hS, ck_pos (ib_nI (by omega) (by decide)), ix_nI (by omega), hT _ hdd, b1_some, show (1 : Int32) + nI (pB t0 (nV t0) (del (del S f) b)) = nI (1 + pB t0 (nV t0) (del (del S f) b)) from nI_add 1 _]
      have e1 := nI_ltI (a := (bst (pB t0 (nV t0) (del S f)) (pCd t0 f S) (fun w => 1 + pB t0 (nV t0) (del (del S f) w)) b).1) (b := 1 + pB t0 (nV t0) (del (del S f) b)) (by omega) (by omega)
      by_cases g : (bst (pB t0 (nV t0) (del S f)) (pCd t0 f S) (fun w => 1 + pB t0 (nV t0) (del (del S f) w)) b).1 < 1 + pB t0 (nV t0) (del (del S f) b)
      · rw [if_pos (e1.mpr g), if_pos g, b1_some]
      · rw [if_neg (fun t => g (e1.mp t)), if_neg g, b1_some]
    · rw [if_neg c, if_neg c, b1_some, if_neg (show ¬ nI (bst (pB t0 (nV t0) (del S f)) (pCd t0 f S) (fun w => 1 + pB t0 (nV t0) (del (del S f) w)) b).1 < 0 from nI_pos (by omega)), b1_some]
theorem m_lp1 (r : RDm z t0 t1) (d1 : nV t0 ≤ 8) : ∃ z', f_X8_laysPairs_lp1 4096 0 z = some z' ∧ (∀ u, u ≠ 17 → rI z' u = rI z u) ∧ ∀ S, S < 2 ^ nV t0 → rI z' 17 S = nI (pB t0 (nV t0) S) := by
  have p8 : 2 ^ nV t0 ≤ 256 := Nat.pow_le_pow_right (n := 2) (by decide) d1
  have key := lp_fo (fun m i z => f_X8_laysPairs_lp1 m i z) (2 ^ nV t0) (fun i z => wI z 17 i (nI (pB t0 (nV t0) i))) (fun z => z) (fun i z' => (∀ u, u ≠ 17 → rI z' u = rI z u) ∧ (∀ S, S < i → rI z' 17 S = nI (pB t0 (nV t0) S))) (fun m z' hP => by
    show f_X8_laysPairs_lp1 (m + 1) _ z' = some z'
    rw [f_X8_laysPairs_lp1, hP.1 0 (by decide), r.1, one_shl (by omega), if_neg Int32.lt_irrefl]) (fun m i z' hi hP => by
    obtain ⟨p1, p2⟩ := hP
    have r' : RDm z' t0 t1 := r.of (fun u hu => p1 u (by omega))
    have hi8 : i < 256 := by omega
    refine ⟨?_, ?_, ?_⟩
    · show f_X8_laysPairs_lp1 (m + 1) _ z' = f_X8_laysPairs_lp1 m _ _
      rw [f_X8_laysPairs_lp1, r'.1, one_shl (by omega), if_pos (nI_lt hi (by omega))]
      by_cases c : i = 0
      · subst c
        have e0 : f_X8_laysPairs_lp2 (nI 0) z' 4096 0 = some (nI 8) := m_first (z := z') (S := 0) (by decide) (Or.inl (by decide)) 8 0 4087 (by decide)
        rw [e0, b1_some, if_pos (show nI 0 = (0 : Int32) from rfl), b1_some, nI_l1, f_X8_laysPairs_lp3, r'.1, if_neg (nI_nlt (by omega) (by omega)), b1_some, ck_pos (ib_nI (by omega) (by decide)), nI_l1, ix_nI (by omega), pB_up (nV t0) (Nat.le_refl _) (fun i _ => Nat.zero_testBit i), Nat.sub_self]
        rfl
      · obtain ⟨h1, h2⟩ := tz_is hi8 c
        have hf := bit_lt hi h2
        have hdl := del_lt h1 h2
        have e0 : f_X8_laysPairs_lp2 (nI i) z' 4096 0 = some (nI (tz i)) := by
          have := m_first (z := z') hi8 (Or.inr h2) (tz i) 0 (4095 - tz i) (by omega)
          rw [show 4095 - tz i + 1 + tz i = 4096 by omega, nI_0] at this
          exact this
        have e3 := m_lp3 r' d1 hf hi8 p2 h2 (nV t0 - (tz i + 1)) (tz i + 1) (4096 - 1 - (nV t0 - (tz i + 1))) (by omega) (by omega)
        have eb : (bst (pB t0 (nV t0) (del i (tz i))) (pCd t0 (tz i) i) (fun w => 1 + pB t0 (nV t0) (del (del i (tz i)) w)) (tz i + 1)).1 = pB t0 (nV t0) (del i (tz i)) := by
          rcases bst_in (pB t0 (nV t0) (del i (tz i))) (pCd t0 (tz i) i) (fun w => 1 + pB t0 (nV t0) (del (del i (tz i)) w)) (tz i + 1) with q | ⟨j, q1, q2, -⟩
          · exact q
          · unfold pCd at q2; rw [decide_eq_false (show ¬ tz i < j by omega)] at q2; cases q2
        rw [eb, show 4096 - 1 - (nV t0 - (tz i + 1)) + 1 + (nV t0 - (tz i + 1)) = 4096 by omega, ← pB_at d1 hf (fun j hj => tz_lo hi8 hj) h2] at e3
        rw [e0, b1_some, if_neg (fun t => c ((nI_z (by omega)).mp t)), one_shl (by omega), and_not hi8, ck_pos (ib_nI (by omega) (by decide)), ix_nI (by omega), p2 _ hdl, b1_some, nI_l1, e3, b1_some, ck_pos (ib_nI hi8 (by decide)), nI_l1, ix_nI (by omega)]
    · intro u hu
      rw [rIf_wI, if_neg hu]; exact p1 u hu
    · intro S hS
      rw [rI_wI]
      by_cases q : S = i
      · rw [if_pos ⟨rfl, q⟩, q]
      · rw [if_neg (fun t => q t.2)]; exact p2 S (by omega)) (2 ^ nV t0) 0 4096 z (by omega) (by omega) ⟨fun _ _ => rfl, fun S h => by omega⟩
  refine ⟨_, ?_, key.2.1, key.2.2⟩
  have := key.1
  rw [nI_0] at this
  exact this
theorem m_lp4 : ∃ z', f_X8_laysPairs_lp4 4096 0 z = some z' ∧ (∀ u, u ≠ 18 → rI z' u = rI z u) ∧ ∀ q, q < 8 → rI z' 18 q = -1 := by
  have key := lp_fo (fun m i z => f_X8_laysPairs_lp4 m i z) 8 (fun i z => wI z 18 i (-1)) (fun z => z) (fun i z' => (∀ u, u ≠ 18 → rI z' u = rI z u) ∧ (∀ S, S < i → rI z' 18 S = -1)) (fun m z' hP => by
    show f_X8_laysPairs_lp4 (m + 1) _ z' = some z'
    rw [f_X8_laysPairs_lp4, if_neg (show ¬ nI 8 < (8 : Int32) from Int32.lt_irrefl)]) (fun m i z' hi hP => by
    obtain ⟨p1, p2⟩ := hP
    refine ⟨?_, ?_, ?_⟩
    · show f_X8_laysPairs_lp4 (m + 1) _ z' = f_X8_laysPairs_lp4 m _ _
      rw [f_X8_laysPairs_lp4, if_pos (show nI i < (8 : Int32) from nI_lt (b := 8) hi (by decide)), ck_pos (ib_nI hi (by decide)), nI_l1, ix_nI (by omega)]
    · intro u hu
      rw [rIf_wI, if_neg hu]; exact p1 u hu
    · intro S hS
      rw [rI_wI]
      by_cases q : S = i
      · rw [if_pos ⟨rfl, q⟩]
      · rw [if_neg (fun t => q t.2)]; exact p2 S (by omega)) 8 0 4096 z (by omega) (by omega) ⟨fun _ _ => rfl, fun S h => by omega⟩
  refine ⟨_, ?_, key.2.1, key.2.2⟩
  have := key.1
  rw [nI_0] at this
  exact this
/-- the greedy other of v in a set without those below v -/
theorem m_lp6 (r : RDm z t0 t1) (d1 : nV t0 ≤ 8) (hT : ∀ R, R < 2 ^ nV t0 → rI z 17 R = nI (pB t0 (nV t0) R)) {v L : Nat} (hv : v < nV t0) (hL : L < 2 ^ nV t0) (hlo : ∀ i, i < v → L.testBit i = false) (hb : L.testBit v = true) : ∀ (e n : Nat) (o : Option Nat), v + e < nV t0 → lsIs (fun i => pCd t0 v L i = true ∧ 1 + pB t0 (nV t0) (del (del L v) i) = pB t0 (nV t0) L) (v + e + 1) (nV t0) o → f_X8_laysPairs_lp6 (nI L) (nI v) z (n + 1 + e) (opI o) (nI (v + e)) = some (opI (pG t0 (nV t0 - 1 - v) L))
  | 0, n, o, _, h => by
    rw [show v + 0 = v from rfl, show n + 1 + 0 = n + 1 from rfl, f_X8_laysPairs_lp6, if_neg Int32.lt_irrefl]
    refine congrArg (fun q => some (opI q)) ?_
    have g1 : lsIs (fun i => pCd t0 v L i = true ∧ 1 + pB t0 (nV t0) (del (del L v) i) = pB t0 (nV t0) L) 0 (nV t0) o := by
      rcases h with ⟨e, g⟩ | ⟨x, e, h1, h2, h3, h4⟩
      · refine Or.inl ⟨e, fun i _ hi => ?_⟩
        rcases Nat.lt_or_ge v i with q | q
        · exact g i (by omega) hi
        · intro t
          have := t.1
          unfold pCd at this
          rw [decide_eq_false (show ¬ v < i by omega)] at this
          cases this
      · refine Or.inr ⟨x, e, by omega, h2, h3, fun i _ hi => ?_⟩
        rcases Nat.lt_or_ge v i with q | q
        · exact h4 i (by omega) hi
        · intro t
          have := t.1
          unfold pCd at this
          rw [decide_eq_false (show ¬ v < i by omega)] at this
          cases this
    have g2 := bst_snd (pB t0 (nV t0) (del L v)) (pCd t0 v L) (fun w => 1 + pB t0 (nV t0) (del (del L v) w)) (nV t0)
    rw [← pB_at d1 hv hlo hb] at g2
    have g3 := fstIs_uniq (lsIs_fst g1) g2
    rw [g3]
    unfold pG
    rw [show nV t0 - 1 - (nV t0 - 1 - v) = v by omega]
    have e1 : pB t0 (nV t0) (del L v) = pB t0 (nV t0 - 1 - v) L := by
      rw [pB_up (v + 1) (by omega) (fun i hi => (low_up (w := 0) d1 hv hlo i hi).2), show nV t0 - (v + 1) = nV t0 - 1 - v by omega]
      exact pB_low d1 _ (by omega) _ _ (fun i q1 q2 => by rw [del_test (by omega), decide_eq_false (show ¬ v = i by omega)]; simp)
    have e2 : ∀ w, pB t0 (nV t0) (del (del L v) w) = pB t0 (nV t0 - 1 - v) (del L w) := by
      intro w
      rw [pB_up (v + 1) (by omega) (fun i hi => (low_up (w := w) d1 hv hlo i hi).1), show nV t0 - (v + 1) = nV t0 - 1 - v by omega]
      exact pB_low d1 _ (by omega) _ _ (fun i q1 q2 => by rw [del_test (by omega), del_test (by omega), del_test (by omega), decide_eq_false (show ¬ v = i by omega)]; simp)
    rw [e1]
    rw [show (fun w => 1 + pB t0 (nV t0) (del (del L v) w)) = fun w => 1 + pB t0 (nV t0 - 1 - v) (del L w) from funext fun w => by rw [e2]]
  | e + 1, n, o, he, h => by
    have p8 : 2 ^ nV t0 ≤ 256 := Nat.pow_le_pow_right (n := 2) (by decide) d1
    have hL8 : L < 256 := by omega
    rw [show n + 1 + (e + 1) = (n + 1 + e) + 1 by omega, f_X8_laysPairs_lp6, if_pos (nI_lt (show v < v + (e + 1) by omega) (by omega)), show v + (e + 1) = (v + e) + 1 by omega, nI_m1]
    have hcd : pCd t0 v L (v + e + 1) = (L.testBit (v + e + 1) && prs t0 v (v + e + 1)) := by unfold pCd; rw [decide_eq_true (show v < v + e + 1 by omega)]; rfl
    have hm2 := pB_le d1 L
    have hm := pB_le d1 (del (del L v) (v + e + 1))
    have hdd : del (del L v) (v + e + 1) ≤ L := Nat.le_trans (del_le _ _) (del_le _ _)
    rw [m_isIn (by omega) (by omega), b1_some, m_arePair r d1 hv (by omega), b1_some]
    by_cases c : pCd t0 v L (v + e + 1) = true
    · rw [hcd, Bool.and_eq_true] at c
      rw [c.1, c.2, if_pos rfl, if_pos ne10, if_pos ne10, one_shl (by omega), one_shl (by omega), and_not2 hL8, ck_pos (ib_nI (by omega) (by decide)), ck_pos (ib_nI (by omega) (by decide)), ix_nI (by omega), ix_nI (by omega), hT _ (by omega), hT _ hL, show (1 : Int32) + nI (pB t0 (nV t0) (del (del L v) (v + e + 1))) = nI (1 + pB t0 (nV t0) (del (del L v) (v + e + 1))) from nI_add 1 _]
      have e1 := nI_eq (a := 1 + pB t0 (nV t0) (del (del L v) (v + e + 1))) (b := pB t0 (nV t0) L) (by omega) (by omega)
      have c' : pCd t0 v L (v + e + 1) = true := by rw [hcd, c.1, c.2]; rfl
      by_cases g : 1 + pB t0 (nV t0) (del (del L v) (v + e + 1)) = pB t0 (nV t0) L
      · rw [if_pos (e1.mpr g), b1_some, if_pos ne10, b1_some]
        exact m_lp6 r d1 hT hv hL hlo hb e n (some (v + e + 1)) (by omega) (lsIs_hit ⟨c', g⟩ (by omega))
      · rw [if_neg (fun t => g (e1.mp t)), b1_some, if_neg (by decide), b1_some]
        exact m_lp6 r d1 hT hv hL hlo hb e n o (by omega) (lsIs_miss (fun t => g t.2) h)
    · have hx : (if ¬ (if L.testBit (v + e + 1) = true then (1 : Int32) else 0) = 0 then if ¬ (if prs t0 v (v + e + 1) = true then (1 : Int32) else 0) = 0 then ck (ib (nI L &&& ((jshl 1 (nI v) ||| jshl 1 (nI (v + e + 1))) ^^^ -1)) 256) (ck (ib (nI L) 256) (if (1 : Int32) + rI z 17 (ix (nI L &&& ((jshl 1 (nI v) ||| jshl 1 (nI (v + e + 1))) ^^^ -1))) = rI z 17 (ix (nI L)) then some (1 : Int32) else some (0 : Int32))) else some (0 : Int32) else some (0 : Int32)) = some 0 := by
        rw [hcd] at c
        cases q1 : L.testBit (v + e + 1) with
        | false => rw [if_neg (by decide)]
        | true =>
          cases q2 : prs t0 v (v + e + 1) with
          | false => rw [if_pos (by decide), if_neg (by decide)]
          | true => rw [q1, q2] at c; exact absurd rfl c
      rw [hx, b1_some, if_neg (by decide), b1_some]
      exact m_lp6 r d1 hT hv hL hlo hb e n o (by omega) (lsIs_miss (fun t => c t.1) h)
theorem del_lt2 {S w n : Nat} (h : S < 2 ^ n) : del S w < 2 ^ n := Nat.lt_of_le_of_lt (del_le S w) h
/-- the walk: what is laid so far (A), what is left (L) -/
theorem m_lp5 (r : RDm z t0 t1) (d1 : nV t0 ≤ 8) (hT : ∀ R, R < 2 ^ nV t0 → rI z 17 R = nI (pB t0 (nV t0) R)) {P : Nat → Nat} : ∀ (e v n : Nat) (L : Nat) (A : Nat → Nat) (z' : Sg), v + e = nV t0 → L < 2 ^ nV t0 → (∀ i, i < v → L.testBit i = false) → (∀ u, u ≠ 18 → rI z' u = rI z u) → (∀ q, q < 8 → rI z' 18 q = dgI (A q)) → (∀ q, L.testBit q = true → A q = 0) → (∀ q, q < 8 → P q = A q + pW t0 (nV t0 - v) L q) → ∃ l z'', f_X8_laysPairs_lp5 (n + 1 + e) (nI L) (nI v) z' = some (l, z'') ∧ (∀ u, u ≠ 18 → rI z'' u = rI z u) ∧ ∀ q, q < 8 → rI z'' 18 q = dgI (P q)
  | 0, v, n, L, A, z', hv, hL, hlo, h1, h2, h3, h4 => by
    obtain rfl : v = nV t0 := by omega
    refine ⟨nI L, z', ?_, h1, fun q hq => ?_⟩
    · rw [Nat.add_zero, f_X8_laysPairs_lp5, h1 0 (by decide), r.1, if_neg Int32.lt_irrefl]
    · rw [h2 q hq, h4 q hq, Nat.sub_self]; rfl
  | e + 1, v, n, L, A, z', hv, hL, hlo, h1, h2, h3, h4 => by
    have p8 : 2 ^ nV t0 ≤ 256 := Nat.pow_le_pow_right (n := 2) (by decide) d1
    have r' : RDm z' t0 t1 := r.of (fun u hu => h1 u (by omega))
    have hT' : ∀ R, R < 2 ^ nV t0 → rI z' 17 R = nI (pB t0 (nV t0) R) := fun R hR => by rw [h1 17 (by decide)]; exact hT R hR
    have hL8 : L < 256 := by omega
    have hk : nV t0 - v = (nV t0 - 1 - v) + 1 := by omega
    have hvv : nV t0 - 1 - (nV t0 - 1 - v) = v := by omega
    rw [show n + 1 + (e + 1) = (n + 1 + e) + 1 by omega, f_X8_laysPairs_lp5, r'.1, if_pos (nI_lt (show v < nV t0 by omega) (by omega)), m_isIn (by omega) (by omega), b1_some]
    by_cases c : L.testBit v = true
    · rw [c, if_pos rfl, if_pos ne10, nI_sub1 (by omega)]
      have e6 := m_lp6 r' d1 hT' (show v < nV t0 by omega) hL hlo c (nV t0 - 1 - v) (4096 - 1 - (nV t0 - 1 - v)) none (by omega) (Or.inl ⟨rfl, fun i q1 q2 => by omega⟩)
      rw [show 4096 - 1 - (nV t0 - 1 - v) + 1 + (nV t0 - 1 - v) = 4096 by omega, show v + (nV t0 - 1 - v) = nV t0 - 1 by omega] at e6
      rw [show f_X8_laysPairs_lp6 (nI L) (nI v) z' 4096 (-1) (nI (nV t0 - 1)) = _ from e6, b1_some]
      have hW : ∀ q, pW t0 (nV t0 - v) L q = oF (pW t0 (nV t0 - 1 - v) L) (fun w => fset (fset (pW t0 (nV t0 - 1 - v) (del L w)) w (8 - v)) v (8 - w)) (pG t0 (nV t0 - 1 - v) L) q := by
        intro q
        rw [hk, pW_s, hvv, if_pos c]
      rcases pG_is t0 (nV t0 - 1 - v) L with g | ⟨w, g, w1, w2, w3⟩
      · rw [g, if_neg (show ¬ ¬ opI none = -1 from fun t => t rfl), b2_some, b2_some, one_shl (by omega), and_not hL8, nI_l1]
        refine m_lp5 r d1 hT e (v + 1) n (del L v) A z' (by omega) (del_lt2 hL) (fun i hi => ?_) h1 h2 (fun q hq => ?_) (fun q hq => ?_)
        · exact (low_up (w := 0) d1 (show v < nV t0 by omega) hlo i hi).2
        · rw [del_test (show q < 8 by have := bit_lt (del_lt2 hL) hq; omega), Bool.and_eq_true] at hq
          exact h3 q hq.1
        · rw [h4 q hq, hW q, g]
          show A q + pW t0 (nV t0 - 1 - v) L q = _
          rw [show nV t0 - (v + 1) = nV t0 - 1 - v by omega, pW_low d1 (nV t0 - 1 - v) (by omega) (del L v) L (fun i q1 q2 => by rw [del_test (by omega), decide_eq_false (show ¬ v = i by omega)]; simp)]
      · rw [hvv] at w2
        have hw8 : w < 8 := by omega
        rw [g, if_pos (show ¬ opI (some w) = -1 from nI_ne_m1 (by omega)), ck_pos (ib_nI (show v < 8 by omega) (by decide)), show opI (some w) = nI w from rfl, ck_pos (ib_nI hw8 (by decide)), one_shl (by omega), and_not hL8, b2_some, b2_some, one_shl (by omega), and_not (Nat.lt_of_le_of_lt (del_le L w) hL8), nI_l1, ix_nI (by omega), ix_nI (by omega)]
        refine m_lp5 r d1 hT e (v + 1) n (del (del L w) v) (fset (fset A w (8 - v)) v (8 - w)) _ (by omega) (del_lt2 (del_lt2 hL)) (fun i hi => ?_) (fun u hu => ?_) (fun q hq => ?_) (fun q hq => ?_) (fun q hq => ?_)
        · rw [del_test (by omega), del_test (by omega)]
          rcases Nat.lt_or_ge i v with q | q
          · rw [hlo i q]; rfl
          · rw [decide_eq_true (show v = i by omega)]; cases L.testBit i <;> cases decide (w = i) <;> rfl
        · rw [rIf_wI, if_neg hu, rIf_wI, if_neg hu]; exact h1 u hu
        · rw [rI_wI, rI_wI]
          unfold fset
          by_cases q1 : q = v
          · subst q1
            rw [if_neg (fun t => by omega), if_pos ⟨rfl, rfl⟩, if_pos rfl]
            unfold dgI
            rw [if_neg (by omega), show 8 - (8 - w) = w by omega]
          · rw [if_neg q1]
            by_cases q2 : q = w
            · subst q2
              rw [if_pos ⟨rfl, rfl⟩, if_pos rfl]
              unfold dgI
              rw [if_neg (by omega), show 8 - (8 - v) = v by omega]
            · rw [if_neg (fun t => q2 t.2), if_neg (fun t => q1 t.2), if_neg q2]
              exact h2 q hq
        · have hq8 : q < 8 := by have := bit_lt (del_lt2 (del_lt2 hL)) hq; omega
          rw [del_test hq8, del_test hq8, Bool.and_eq_true, Bool.and_eq_true] at hq
          obtain ⟨⟨q1, q2⟩, q3⟩ := hq
          have q2 : ¬ w = q := by simpa using q2
          have q3 : ¬ v = q := by simpa using q3
          unfold fset
          rw [if_neg (fun t => q3 t.symm), if_neg (fun t => q2 t.symm)]
          exact h3 q q1
        · rw [h4 q hq, hW q, g]
          show A q + fset (fset (pW t0 (nV t0 - 1 - v) (del L w)) w (8 - v)) v (8 - w) q = _
          have el : pW t0 (nV t0 - (v + 1)) (del (del L w) v) = pW t0 (nV t0 - 1 - v) (del L w) := by
            rw [show nV t0 - (v + 1) = nV t0 - 1 - v by omega]
            exact pW_low d1 (nV t0 - 1 - v) (by omega) _ _ (fun i q1 q2 => by rw [del_test (by omega), decide_eq_false (show ¬ v = i by omega)]; simp)
          have hi := pW_in d1 (nV t0 - 1 - v) (by omega) (del L w)
          rw [el]
          unfold fset
          by_cases q1 : q = v
          · subst q1
            rw [if_pos rfl, if_pos rfl, h3 q c, (hi q).2.1 (by omega)]
            omega
          · rw [if_neg q1, if_neg q1]
            by_cases q2 : q = w
            · subst q2
              rw [if_pos rfl, if_pos rfl, h3 q w3, (hi q).2.2 (del_self hw8)]
              omega
            · rw [if_neg q2, if_neg q2]
    · rw [show L.testBit v = false by simpa using c, if_neg (by decide), b2_some, nI_l1]
      refine m_lp5 r d1 hT e (v + 1) n L A z' (by omega) hL (fun i hi => ?_) h1 h2 h3 (fun q hq => ?_)
      · rcases Nat.lt_or_ge i v with q | q
        · exact hlo i q
        · rw [show i = v by omega]; simpa using c
      · rw [h4 q hq, hk, pW_s, hvv, if_neg c, show nV t0 - (v + 1) = nV t0 - 1 - v by omega]
end PM
theorem m_laysPairs {z : Sg} {a : Ab} (h : AM z a) : ∃ z', f_X8_laysPairs z = some z' ∧ AM z' a ∧ RDm z' (aT0 a) (aT1 a) ∧ (∀ S, S < 2 ^ nV (aT0 a) → rI z' 17 S = nI (pB (aT0 a) (nV (aT0 a)) S)) ∧ (∀ q, q < 8 → rI z' 18 q = dgI (pW (aT0 a) (nV (aT0 a)) (2 ^ nV (aT0 a) - 1) q)) := by
  obtain ⟨z1, e1, h1, r1, -, -⟩ := m_reads h
  have d := h.dok
  have d1 := d.1
  have p0 : 0 < 2 ^ nV (aT0 a) := Nat.pow_pos (by decide)
  obtain ⟨z2, e2, i2, j2⟩ := m_lp1 r1 d1
  have r2 : RDm z2 (aT0 a) (aT1 a) := r1.of (fun u hu => i2 u (by omega))
  obtain ⟨z3, e3, i3, j3⟩ := m_lp4 (z := z2)
  have r3 : RDm z3 (aT0 a) (aT1 a) := r2.of (fun u hu => i3 u (by omega))
  have j2' : ∀ S, S < 2 ^ nV (aT0 a) → rI z3 17 S = nI (pB (aT0 a) (nV (aT0 a)) S) := fun S hS => by rw [i3 17 (by decide)]; exact j2 S hS
  obtain ⟨l, z4, e4, i4, j4⟩ := m_lp5 r3 d1 j2' (P := pW (aT0 a) (nV (aT0 a)) (2 ^ nV (aT0 a) - 1)) (nV (aT0 a)) 0 (4095 - nV (aT0 a)) (2 ^ nV (aT0 a) - 1) (fun _ => 0) z3 (by omega) (by omega) (fun i hi => by omega) (fun _ _ => rfl) (fun q hq => j3 q hq) (fun _ _ => rfl) (fun q hq => by rw [Nat.zero_add, Nat.sub_zero])
  have r4 : RDm z4 (aT0 a) (aT1 a) := r3.of (fun u hu => i4 u (by omega))
  have fr : ∀ u, u ≠ 17 → u ≠ 18 → rI z4 u = rI z1 u := fun u q1 q2 => ((i4 u q2).trans (i3 u q2)).trans (i2 u q1)
  refine ⟨z4, ?_, h1.fr (fun k _ => by rw [fr 0 (by decide) (by decide)]) (fr 1 (by decide) (by decide)) (fr 2 (by decide) (by decide)) (fun u _ _ => fr u (by omega) (by omega)) (fun u _ _ => fr u (by omega) (by omega)), r4, ?_, j4⟩
  · unfold f_X8_laysPairs
    rw [show 4095 - nV (aT0 a) + 1 + nV (aT0 a) = 4096 by omega, nI_0] at e4
    rw [e1, b1_some, e2, b1_some, e3, b1_some, r2.1, one_shl (by omega), show nI (2 ^ nV (aT0 a)) - (1 : Int32) = nI (2 ^ nV (aT0 a) - 1) from pk_sub (b := 1) p0, e4, b2_some]
  · intro S hS
    rw [i4 17 (by decide)]; exact j2' S hS
theorem m_togetherOf {z : Sg} {a : Ab} (h : AM z a) {i : Int32} (hi : i = -1 ∨ ¬ bad i 8) : ∃ z', f_X8_togetherOf i z = some (sTogether i a, z') ∧ AM z' a ∧ RDm z' (aT0 a) (aT1 a) := by
  obtain ⟨z', e, h', r, hT, hO⟩ := m_laysPairs h
  have d1 := h.dok.1
  have p0 : 0 < 2 ^ nV (aT0 a) := Nat.pow_pos (by decide)
  have p8 : 2 ^ nV (aT0 a) ≤ 256 := Nat.pow_le_pow_right (n := 2) (by decide) d1
  refine ⟨z', ?_, h', r⟩
  unfold f_X8_togetherOf sTogether
  rw [e, b1_some]
  by_cases c1 : i = -1
  · rw [if_pos c1, if_pos c1, r.1, one_shl (by omega), show nI (2 ^ nV (aT0 a)) - (1 : Int32) = nI (2 ^ nV (aT0 a) - 1) from pk_sub (b := 1) p0, ck_pos (ib_nI (by omega) (by decide)), ix_nI (by omega), hT _ (by omega), b1_some]
  · rw [if_neg c1, if_neg c1]
    have hb : ¬ bad i 8 := by rcases hi with q | q; exact absurd q c1; exact q
    rcases arg_cases i 8 (by decide) with q | ⟨i, q, rfl⟩
    · exact absurd q hb
    · rw [if_neg hb, ck_pos (ib_nI q (by decide)), ix_nI (by omega), hO i q, b1_some]
theorem M_together {z : Sg} {a : Ab} (h : AM z a) (i : Int32) : ∃ z', f_X8_together i z = some (sTogether i a, z') ∧ AM z' a := by
  by_cases hi : i = -1 ∨ ¬ bad i 8
  · obtain ⟨z', e, h', -⟩ := m_togetherOf h hi
    refine ⟨z', ?_, h'⟩
    have hin : f_X8_in i (-1) 7 = some 1 := by
      rw [m_in, if_pos]
      rcases hi with rfl | q
      · decide
      · rcases arg_cases i 8 (by decide) with q' | ⟨i, q', rfl⟩
        · exact absurd q' q
        · exact ⟨Int32.le_trans (by decide) (nI_pos' (show i < 2 ^ 31 by omega)), nI_le (b := 7) (by omega) (by decide)⟩
    unfold f_X8_together
    rw [hin, b1_some, if_pos ne10, e, b2_some, b2_some]
  · refine ⟨z, ?_, h⟩
    have c1 : ¬ i = -1 := fun q => hi (Or.inl q)
    have hb : bad i 8 := Classical.byContradiction fun q => hi (Or.inr q)
    unfold f_X8_together sTogether
    have hin : f_X8_in i (-1) 7 = some 0 := by
      rw [m_in, if_neg]
      rintro ⟨q1, q2⟩
      rcases hb with hk | hk
      · have h2 : i.toInt ≠ (-1 : Int32).toInt := fun t => c1 (Int32.toInt_inj.mp t)
        have h3 := Int32.lt_iff_toInt_lt.mp hk
        have h4 := Int32.le_iff_toInt_le.mp q1
        rw [show (-1 : Int32).toInt = -1 by decide] at h2 h4
        rw [show (0 : Int32).toInt = 0 by decide] at h3
        omega
      · have : (8 : Int32) ≤ 7 := Int32.le_trans hk q2
        exact absurd this (by decide)
    rw [hin, b1_some, if_neg (by decide), b2_some, if_neg c1, if_pos hb]
