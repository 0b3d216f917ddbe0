/-! FITTING, ASK: class and reference. -/
theorem lp_up {α β : Type} (L : Nat → α → Int32 → Option β) (N : Nat) (S : Nat → α) (r : β) (h0 : ∀ n, L (n + 1) (S N) (nI N) = some r) (hs : ∀ n i, i < N → L (n + 1) (S i) (nI i) = L n (S (i + 1)) (nI (i + 1))) (m : Nat) (hm : N < m) : L m (S 0) (nI 0) = some r := by
  have key : ∀ (d i n : Nat), i + d = N → L (n + 1 + d) (S i) (nI i) = some r := by
    intro d
    induction d with
    | zero => intro i n h; obtain rfl : i = N := by omega
              exact h0 n
    | succ d ih =>
      intro i n h
      rw [show n + 1 + (d + 1) = (n + 1 + d) + 1 by omega, hs _ _ (by omega)]
      exact ih (i + 1) n (by omega)
  have := key N 0 (m - 1 - N) (by omega)
  rw [show m - 1 - N + 1 + N = m by omega] at this
  exact this
theorem bO_step {p : Nat → Bool} {i : Nat} (hi : i < 31) : (if p i then nI (bO p i) ||| jshl 1 (nI i) else nI (bO p i)) = nI (bO p (i + 1)) := by
  show _ = nI (bO p i + (if p i then 2 ^ i else 0))
  cases p i with
  | true => simp only [if_true]; rw [one_shl hi, nI_or, bO_or]
  | false => simp
section Fit
variable {z : Sg} {t0 t1 : Tx}
theorem x_virtuesFittedBy (r : RDx z t0 t1) (d : DOK t0 t1) {c : Nat} (hc : c < nC t1) : f_X2_virtuesFittedBy (nI c) z = some (nI (bO (fit t0 t1 c) (nV t0))) := by
  have d1 := d.1
  unfold f_X2_virtuesFittedBy
  have := lp_up (fun n b i => f_X2_virtuesFittedBy_lp1 (nI c) z n b i) (nV t0) (fun i => nI (bO (fit t0 t1 c) i)) (nI (bO (fit t0 t1 c) (nV t0))) (fun n => by
    show f_X2_virtuesFittedBy_lp1 (nI c) z (n + 1) _ _ = _
    rw [f_X2_virtuesFittedBy_lp1, r.1, if_neg Int32.lt_irrefl]) (fun n i hi => by
    show f_X2_virtuesFittedBy_lp1 (nI c) z (n + 1) _ _ = f_X2_virtuesFittedBy_lp1 (nI c) z n _ _
    rw [f_X2_virtuesFittedBy_lp1, r.1, if_pos (nI_lt hi (by omega)), x_isFitting r d hc hi, nI_l1, ← bO_step (by omega)]
    cases fit t0 t1 c i <;> rfl) 4096 (by omega)
  rw [show f_X2_virtuesFittedBy_lp1 (nI c) z 4096 0 0 = _ from this]
  rfl
theorem x_claimantsFitting (r : RDx z t0 t1) (d : DOK t0 t1) {v : Nat} (hv : v < nV t0) : f_X2_claimantsFitting (nI v) z = some (nI (bO (fun c => fit t0 t1 c v) (nC t1))) := by
  have d1 := d.2.1
  unfold f_X2_claimantsFitting
  have := lp_up (fun n b i => f_X2_claimantsFitting_lp1 (nI v) z n b i) (nC t1) (fun i => nI (bO (fun c => fit t0 t1 c v) i)) (nI (bO (fun c => fit t0 t1 c v) (nC t1))) (fun n => by
    show f_X2_claimantsFitting_lp1 (nI v) z (n + 1) _ _ = _
    rw [f_X2_claimantsFitting_lp1, r.2.1, if_neg Int32.lt_irrefl]) (fun n i hi => by
    show f_X2_claimantsFitting_lp1 (nI v) z (n + 1) _ _ = f_X2_claimantsFitting_lp1 (nI v) z n _ _
    rw [f_X2_claimantsFitting_lp1, r.2.1, if_pos (nI_lt hi (by omega)), x_isFitting r d hi hv, nI_l1, ← bO_step (p := fun c => fit t0 t1 c v) (by omega)]
    cases fit t0 t1 i v <;> rfl) 4096 (by omega)
  rw [show f_X2_claimantsFitting_lp1 (nI v) z 4096 0 0 = _ from this]
  rfl
theorem m_fittingOf0 (r : RDm z t0 t1) (d : DOK t0 t1) {c : Nat} (hc : c < nC t1) : f_X8_fittingOf 0 (nI c) z = some (nI (bO (fit t0 t1 c) (nV t0))) := by
  have d1 := d.1
  unfold f_X8_fittingOf
  have := lp_up (fun n b i => f_X8_fittingOf_lp1 0 (nI c) z n b i) 8 (fun i => nI (bO (fun v => decide (v < nV t0) && fit t0 t1 c v) i)) (nI (bO (fit t0 t1 c) (nV t0))) (fun n => by
    show f_X8_fittingOf_lp1 0 (nI c) z (n + 1) _ _ = _
    rw [f_X8_fittingOf_lp1, if_neg (show ¬ nI 8 < (8 : Int32) from Int32.lt_irrefl), bO_more d1]) (fun n i hi => by
    show f_X8_fittingOf_lp1 0 (nI c) z (n + 1) _ _ = f_X8_fittingOf_lp1 0 (nI c) z n _ _
    rw [f_X8_fittingOf_lp1, if_pos (show nI i < (8 : Int32) from nI_lt (b := 8) hi (by decide)), if_pos rfl, b1_some, r.1, nI_l1, ← bO_step (p := fun v => decide (v < nV t0) && fit t0 t1 c v) (by omega)]
    by_cases c1 : i < nV t0
    · rw [if_pos (nI_lt c1 (by omega)), b1_some, if_pos ne10, if_pos rfl, m_fits r d hc c1]
      simp only [c1, decide_true, Bool.true_and]
      cases fit t0 t1 c i
      · simp only [Bool.false_eq_true, if_false, b1_some, not_true, or_zero]
      · rfl
    · rw [if_neg (fun q => c1 ((nI_ltI (by omega) (by omega)).mp q)), b1_some, if_neg (by decide)]
      simp only [c1, decide_false, Bool.false_and, Bool.false_eq_true, if_false, b1_some, or_zero]) 4096 (by decide)
  rw [show f_X8_fittingOf_lp1 0 (nI c) z 4096 0 0 = _ from this]
  rfl
theorem m_fittingOf1 (r : RDm z t0 t1) (d : DOK t0 t1) {v : Nat} (hv : v < nV t0) : f_X8_fittingOf 1 (nI v) z = some (nI (bO (fun c => fit t0 t1 c v) (nC t1))) := by
  have d1 := d.2.1
  unfold f_X8_fittingOf
  have := lp_up (fun n b i => f_X8_fittingOf_lp1 1 (nI v) z n b i) 8 (fun i => nI (bO (fun c => decide (c < nC t1) && fit t0 t1 c v) i)) (nI (bO (fun c => fit t0 t1 c v) (nC t1))) (fun n => by
    show f_X8_fittingOf_lp1 1 (nI v) z (n + 1) _ _ = _
    rw [f_X8_fittingOf_lp1, if_neg (show ¬ nI 8 < (8 : Int32) from Int32.lt_irrefl), bO_more (p := fun c => fit t0 t1 c v) d1]) (fun n i hi => by
    show f_X8_fittingOf_lp1 1 (nI v) z (n + 1) _ _ = f_X8_fittingOf_lp1 1 (nI v) z n _ _
    rw [f_X8_fittingOf_lp1, if_pos (show nI i < (8 : Int32) from nI_lt (b := 8) hi (by decide)), if_neg ne10, b1_some, r.2.1, nI_l1, ← bO_step (p := fun c => decide (c < nC t1) && fit t0 t1 c v) (by omega)]
    by_cases c1 : i < nC t1
    · rw [if_pos (nI_lt c1 (by omega)), b1_some, if_pos ne10, if_neg ne10, m_fits r d c1 hv]
      simp only [c1, decide_true, Bool.true_and]
      cases fit t0 t1 i v
      · simp only [Bool.false_eq_true, if_false, b1_some, not_true, or_zero]
      · rfl
    · rw [if_neg (fun q => c1 ((nI_ltI (by omega) (by omega)).mp q)), b1_some, if_neg (by decide)]
      simp only [c1, decide_false, Bool.false_and, Bool.false_eq_true, if_false, b1_some, or_zero]) 4096 (by decide)
  rw [show f_X8_fittingOf_lp1 1 (nI v) z 4096 0 0 = _ from this]
  rfl
end Fit
def sFitting (w i : Int32) (a : Ab) : Int32 := if w = 0 then (if bad i (nC (aT1 a)) then -2 else nI (bO (fit (aT0 a) (aT1 a) (ix i)) (nV (aT0 a)))) else if w = 1 then (if bad i (nV (aT0 a)) then -2 else nI (bO (fun c => fit (aT0 a) (aT1 a) c (ix i)) (nC (aT1 a)))) else -2
section FitC
variable {PT : VT → KT → Prop} {PR : (Nat → Int64) → Tx → Tx → Prop}
theorem X_fitting {z : Sg} {a : Ab} (h : AXg PT PR z a) (w i : Int32) : f_X7_fitting w i z = some (sFitting w i a) := by
  unfold f_X7_fitting sFitting
  have r := h.1.rd
  have d := h.1.dok
  rw [x_noClaimant r d, x_noVirtue r d]
  by_cases c0 : w = 0
  · simp only [c0, if_true]
    rcases arg_cases i (nC (aT1 a)) (by have := d.2.1; omega) with hv | ⟨i, hv, rfl⟩
    · simp [b1_some, bad, hv]
    · have n1 := not_bad hv (by have := d.2.1; omega)
      rw [if_neg n1, if_neg n1, ix_nI (by have := d.2.1; omega)]
      simp only [b1_some, not_true, if_false, x_virtuesFittedBy r d hv]
  · simp only [c0, if_false]
    by_cases c1 : w = 1
    · simp only [c1, if_true]
      rcases arg_cases i (nV (aT0 a)) (by have := d.1; omega) with hv | ⟨i, hv, rfl⟩
      · simp [b1_some, bad, hv]
      · have n1 := not_bad hv (by have := d.1; omega)
        rw [if_neg n1, if_neg n1, ix_nI (by have := d.1; omega)]
        simp only [b1_some, not_true, if_false, x_claimantsFitting r d hv]
    · simp only [c1, if_false]
theorem M_fitting {z : Sg} {a : Ab} (h : AM z a) (w i : Int32) : ∃ z', f_X8_fitting w i z = some (sFitting w i a, z') ∧ AM z' a := by
  unfold f_X8_fitting sFitting
  have d := h.dok
  by_cases c0 : w = 0
  · simp only [c0, if_true]
    obtain ⟨z', e, h', r⟩ := m_isClaimant h i
    refine ⟨z', ?_, h'⟩
    rw [e, b2_some, b2_some]
    rcases arg_cases i (nC (aT1 a)) (by have := d.2.1; omega) with hv | ⟨i, hv, rfl⟩
    · simp [b1_some, bad, hv]
    · have n1 := not_bad hv (by have := d.2.1; omega)
      rw [if_neg n1, if_neg n1, if_pos ne10, ix_nI (by have := d.2.1; omega), m_fittingOf0 r d hv]
      rfl
  · simp only [c0, if_false]
    by_cases c1 : w = 1
    · simp only [c1, if_true]
      obtain ⟨z', e, h', r⟩ := m_isVirtue h i
      refine ⟨z', ?_, h'⟩
      rw [e, b2_some]
      rcases arg_cases i (nV (aT0 a)) (by have := d.1; omega) with hv | ⟨i, hv, rfl⟩
      · simp [b1_some, b2_some, bad, hv]
      · have n1 := not_bad hv (by have := d.1; omega)
        rw [if_neg n1, if_neg n1, if_pos ne10, b2_some, b2_some, if_pos ne10, ix_nI (by have := d.1; omega), m_fittingOf1 r d hv]
        rfl
    · simp only [c1, if_false, b2_some]
      exact ⟨z, rfl, h⟩
end FitC
