/-! READS of the reference, and its texts' calls. -/
abbrev inC (τ u : Nat) : Prop := if τ = 0 then u = 3 ∨ u = 4 else u = 5 ∨ u = 6 ∨ u = 7
abbrev sltT (τ : Nat) : Nat := if τ = 0 then 2 else 5
def dtE (τ : Nat) (z : Sg) (β : Nat → Nat) (i : Nat) : Prop := if τ = 0 then rI z 3 i = nI (hiB β i) ∧ rI z 4 i = nI (fgB β i) else rI z 5 i = nI (saB β i) ∧ rI z 6 i = nI (hiB β i) ∧ rI z 7 i = nI (fgB β i)
theorem wrE_fr {τ j : Nat} {β : Nat → Nat} {z : Sg} {u : Nat} (hτ : τ < 2) (h : ¬ inC τ u) : rI (wrE τ j β z) u = rI z u := by
  rcases (show τ = 0 ∨ τ = 1 by omega) with rfl | rfl
  · simp [inC] at h
    simp only [wrE, if_true, rIf_wI, h.1, h.2, if_false]
  · simp [inC] at h
    simp only [wrE, show ¬ (1 = 0) by decide, rIf_wI, h.1, h.2.1, h.2.2, if_false]
theorem wrE_dt {τ j : Nat} {β : Nat → Nat} {z : Sg} (hτ : τ < 2) (i : Nat) (h : i = j ∨ dtE τ z β i) : dtE τ (wrE τ j β z) β i := by
  rcases (show τ = 0 ∨ τ = 1 by omega) with rfl | rfl
  · unfold dtE wrE
    simp only [if_true, rI_wI]
    by_cases e : i = j
    · subst e; simp
    · have := h.resolve_left e
      simp only [dtE, if_true] at this
      simp [e, this]
  · unfold dtE wrE
    simp only [show ¬ (1 = 0) by decide, if_false, rI_wI]
    by_cases e : i = j
    · subst e; simp
    · have := h.resolve_left e
      simp only [dtE, show ¬ (1 = 0) by decide, if_false] at this
      simp [e, this]
theorem dtE_congr {τ : Nat} {z z' : Sg} {β : Nat → Nat} {i : Nat} (hτ : τ < 2) (h : ∀ u, inC τ u → rI z' u = rI z u) (d : dtE τ z β i) : dtE τ z' β i := by
  rcases (show τ = 0 ∨ τ = 1 by omega) with rfl | rfl
  · simp only [dtE, if_true] at d ⊢
    rw [h 3 (by simp [inC]), h 4 (by simp [inC])]; exact d
  · simp only [dtE, show ¬ (1 = 0) by decide, if_false] at d ⊢
    rw [h 5 (by simp [inC]), h 6 (by simp [inC]), h 7 (by simp [inC])]; exact d
theorem m_readsText_lp {x : Tx} {τ : Nat} (hτ : τ < 2) (hm : x.1 ≠ 0) : ∀ (d j n : Nat) (z : Sg), j + d = 8 → TxM τ (rI z 1) (rI z 2) x → 6 * j ≤ fwB (decide (τ = 1)) x.2 x.1 → (∀ i, i < j → dtE τ z x.2 i) → rI z 0 (sltT τ) = 0 →
    ∃ z', f_X8_readsText_lp1 (nI τ) (n + 1 + d) (nI j) (nI (6 * j)) z = some (flI x.1 (fwB (decide (τ = 1)) x.2 x.1), z') ∧ (∀ u, u ≠ 0 → ¬ inC τ u → rI z' u = rI z u) ∧ (∀ k, k ≠ sltT τ → rI z' 0 k = rI z 0 k) ∧ rI z' 0 (sltT τ) = nI (whN x.1 (fwB (decide (τ = 1)) x.2 x.1)) ∧ ∀ i, i < whN x.1 (fwB (decide (τ = 1)) x.2 x.1) → dtE τ z' x.2 i := by
  intro d
  induction d with
  | zero =>
    intro j n z hj hT hw
    have := hT.2.1
    have := fwB_le (decide (τ = 1)) x.2 x.1
    omega
  | succ d ih =>
    intro j n z hj hT hw hD h0
    have hle := fwB_le (decide (τ = 1)) x.2 x.1
    obtain ⟨t1, t2, t3⟩ := id hT
    have eT : (nI τ = 0) ↔ τ = 0 := nI_z (by omega)
    have eT1 : (nI τ = (1 : Int32)) ↔ τ = 1 := nI_eq (b := 1) (by omega) (by decide)
    have e8 : ¬ nI j = (8 : Int32) := fun q => by have := nI_inj (b := 8) (by omega) (by decide) q; omega
    have eq7 : (if nI (6 * j) < nI x.1 then some true else if 0 < nI (6 * j) then some true else some false) = some true := by
      by_cases c : j = 0
      · subst c
        rw [if_pos (nI_lt (by omega) (by omega))]
      · have : (0 : Int32) < nI (6 * j) := (nI_posiff (by omega)).mpr (by omega)
        simp [this]
    rw [show n + 1 + (d + 1) = (n + 1 + d) + 1 by omega, f_X8_readsText_lp1, ck_pos (ib_nI hτ (by decide)), ix_nI (by omega), t1, eq7, b1_some, if_pos rfl, if_neg e8, m_readsOne hτ hT hw]
    by_cases c : 6 * j + 4 < fwB (decide (τ = 1)) x.2 x.1
    · rw [if_pos c, b2_some, b2_some, if_neg (by decide), ck_pos (ib_nI hτ (by decide))]
      have a5 : nI (6 * j) + (5 : Int32) = nI (6 * j + 5) := nI_add (6 * j) 5
      have r1 : rI (wrE τ j x.2 z) 1 = rI z 1 := wrE_fr hτ (by simp [inC])
      have r2 : rI (wrE τ j x.2 z) 2 = rI z 2 := wrE_fr hτ (by simp [inC])
      have r0 : rI (wrE τ j x.2 z) 0 = rI z 0 := wrE_fr hτ (by simp [inC])
      rw [a5, r1, t1, r2]
      have hT' : TxM τ (rI (wrE τ j x.2 z) 1) (rI (wrE τ j x.2 z) 2) x := by rw [r1, r2]; exact hT
      have hD' : ∀ i, i < j + 1 → dtE τ (wrE τ j x.2 z) x.2 i := fun i hi => wrE_dt hτ i (by
        by_cases e : i = j
        · exact Or.inl e
        · exact Or.inr (hD i (by omega)))
      by_cases c5 : 6 * j + 5 = x.1
      · have hwm : fwB (decide (τ = 1)) x.2 x.1 = x.1 := by omega
        have hwh : whN x.1 (fwB (decide (τ = 1)) x.2 x.1) = j + 1 := by unfold whN; rw [if_pos ⟨hwm, by omega⟩]; omega
        have hfl : flI x.1 (fwB (decide (τ = 1)) x.2 x.1) = -1 := (flI_m1 t2 hle).mpr ⟨hwm, by omega⟩
        rw [if_pos (by rw [c5]), hwh, hfl, nI_l1]
        simp only [eT, eT1]
        rcases (show τ = 0 ∨ τ = 1 by omega) with rfl | rfl
        · simp only [if_true, show ¬ (0 = 1) by decide, if_false, b1_some]
          refine ⟨_, rfl, fun u h1 h2 => ?_, fun k hk => ?_, ?_, fun i hi => ?_⟩
          · simp only [rIf_wI, h1, if_false]; exact wrE_fr hτ h2
          · have hk : k ≠ 2 := hk
            by_cases k5 : k = 5
            · subst k5; simp [rI_wI, r0]
            · simp [rI_wI, hk, k5, r0]
          · simp [rI_wI]
          · refine dtE_congr hτ (fun u hu => ?_) (hD' i hi)
            have : u ≠ 0 := by simp [inC] at hu; omega
            simp only [rIf_wI, this, if_false]
        · simp only [if_true, show ¬ (1 = 0) by decide, if_false, b1_some]
          refine ⟨_, rfl, fun u h1 h2 => ?_, fun k hk => ?_, ?_, fun i hi => ?_⟩
          · simp only [rIf_wI, h1, if_false]; exact wrE_fr hτ h2
          · have hk : k ≠ 5 := hk
            by_cases k5 : k = 2
            · subst k5; simp [rI_wI, r0]
            · simp [rI_wI, hk, k5, r0]
          · simp [rI_wI]
          · refine dtE_congr hτ (fun u hu => ?_) (hD' i hi)
            have : u ≠ 0 := by simp [inC] at hu; omega
            simp only [rIf_wI, this, if_false]
      · have hl : 6 * j + 5 < x.1 := by omega
        rw [if_neg (fun q => c5 (nI_inj (by omega) (by omega) q)), m47, ck_pos (ib_nI (show 47 * τ + (6 * j + 5) < 94 by omega) (by decide)), ix_nI (by omega), (t3 (6 * j + 5) hl).1]
        have hbb := (t3 (6 * j + 5) hl).2
        have e59 : (nI (x.2 (6 * j + 5)) = (59 : Int32)) ↔ x.2 (6 * j + 5) = 59 := nI_eq (b := 59) (by omega) (by decide)
        simp only [e59]
        have ok5 : okB (decide (τ = 1)) (6 * j + 5) (x.2 (6 * j + 5)) = true ↔ x.2 (6 * j + 5) = 59 := by
          unfold okB; rw [if_neg (by omega), if_neg (by omega)]; simp
        by_cases c9 : x.2 (6 * j + 5) = 59
        · have hw6 : 6 * (j + 1) ≤ fwB (decide (τ = 1)) x.2 x.1 := by
            rcases Nat.lt_or_ge (6 * j + 5) (fwB (decide (τ = 1)) x.2 x.1) with q | q
            · omega
            · have hbad := fwB_bad (decide (τ = 1)) x.2 x.1 (by omega)
              rw [show fwB (decide (τ = 1)) x.2 x.1 = 6 * j + 5 by omega, ok5.mpr c9] at hbad
              cases hbad
          rw [if_neg (by simp [c9]), nI_l1, nI_l1, show 6 * j + 5 + 1 = 6 * (j + 1) by omega]
          obtain ⟨z', e, p1, p2, p3, p4⟩ := ih (j + 1) n (wrE τ j x.2 z) (by omega) hT' hw6 hD' (by rw [r0]; exact h0)
          exact ⟨z', e, fun u h1 h2 => (p1 u h1 h2).trans (wrE_fr hτ h2), fun k hk => by rw [p2 k hk, r0], p3, p4⟩
        · have hw5 : fwB (decide (τ = 1)) x.2 x.1 = 6 * j + 5 := by
            rcases Nat.lt_or_ge (6 * j + 5) (fwB (decide (τ = 1)) x.2 x.1) with q | q
            · exact absurd (ok5.mp (fwB_ok (decide (τ = 1)) x.2 x.1 _ q)) c9
            · omega
          have hwh : whN x.1 (fwB (decide (τ = 1)) x.2 x.1) = 0 := by unfold whN; rw [if_neg (by omega)]
          rw [if_pos c9, hwh]
          refine ⟨wrE τ j x.2 z, ?_, fun u h1 h2 => wrE_fr hτ h2, fun k hk => by rw [r0], by rw [r0, h0]; rfl, fun i hi => by omega⟩
          unfold flI
          rw [if_pos (by omega), hw5]
    · rw [if_neg c, b2_some, b2_some]
      have hwj : fwB (decide (τ = 1)) x.2 x.1 - 6 * j < 5 := by omega
      have e5 : nI (fwB (decide (τ = 1)) x.2 x.1 - 6 * j) < (5 : Int32) := nI_lt (b := 5) hwj (by decide)
      have hwh : whN x.1 (fwB (decide (τ = 1)) x.2 x.1) = 0 := by unfold whN; rw [if_neg (by omega)]
      rw [if_pos e5, nI_add, show 6 * j + (fwB (decide (τ = 1)) x.2 x.1 - 6 * j) = fwB (decide (τ = 1)) x.2 x.1 by omega, hwh]
      refine ⟨z, ?_, fun _ _ _ => rfl, fun _ _ => rfl, by rw [h0]; rfl, fun i hi => by omega⟩
      unfold flI
      by_cases c6 : fwB (decide (τ = 1)) x.2 x.1 < x.1
      · rw [if_pos c6]
      · rw [if_neg c6, if_neg (by omega), show fwB (decide (τ = 1)) x.2 x.1 = x.1 by omega]
theorem m_readsText {x : Tx} {τ : Nat} {z : Sg} (hτ : τ < 2) (hT : TxM τ (rI z 1) (rI z 2) x) :
    ∃ z', f_X8_readsText (nI τ) z = some (flI x.1 (fwB (decide (τ = 1)) x.2 x.1), z') ∧ (∀ u, u ≠ 0 → ¬ inC τ u → rI z' u = rI z u) ∧ (∀ k, k ≠ sltT τ → rI z' 0 k = rI z 0 k) ∧ rI z' 0 (sltT τ) = nI (whN x.1 (fwB (decide (τ = 1)) x.2 x.1)) ∧ ∀ i, i < whN x.1 (fwB (decide (τ = 1)) x.2 x.1) → dtE τ z' x.2 i := by
  have eT : (nI τ = 0) ↔ τ = 0 := nI_z (by omega)
  have eT1 : (nI τ = (1 : Int32)) ↔ τ = 1 := nI_eq (b := 1) (by omega) (by decide)
  obtain ⟨z1, ez1, q1, q2, q3⟩ : ∃ z1, f_X8_readsText (nI τ) z = f_X8_readsText_lp1 (nI τ) 4096 0 0 z1 ∧ (∀ u, u ≠ 0 → rI z1 u = rI z u) ∧ (∀ k, k ≠ sltT τ → rI z1 0 k = rI z 0 k) ∧ rI z1 0 (sltT τ) = 0 := by
    unfold f_X8_readsText
    simp only [eT, eT1]
    rcases (show τ = 0 ∨ τ = 1 by omega) with rfl | rfl
    · simp only [if_true, show ¬ (0 = 1) by decide, if_false, b1_some]
      refine ⟨_, rfl, fun u hu => by simp only [rIf_wI, hu, if_false], fun k hk => ?_, by simp [rI_wI]⟩
      have hk : k ≠ 2 := hk
      by_cases k5 : k = 5
      · subst k5; simp [rI_wI]
      · simp [rI_wI, hk, k5]
    · simp only [if_true, show ¬ (1 = 0) by decide, if_false, b1_some]
      refine ⟨_, rfl, fun u hu => by simp only [rIf_wI, hu, if_false], fun k hk => ?_, by simp [rI_wI]⟩
      have hk : k ≠ 5 := hk
      by_cases k5 : k = 2
      · subst k5; simp [rI_wI]
      · simp [rI_wI, hk, k5]
  have hT1 : TxM τ (rI z1 1) (rI z1 2) x := by rw [q1 1 (by decide), q1 2 (by decide)]; exact hT
  rw [ez1]
  by_cases hm : x.1 = 0
  · obtain ⟨t1, t2, t3⟩ := hT1
    have hw : fwB (decide (τ = 1)) x.2 x.1 = 0 := by rw [hm]; rfl
    refine ⟨z1, ?_, fun u h1 _ => q1 u h1, q2, ?_, fun i hi => ?_⟩
    · rw [show (4096 : Nat) = 4095 + 1 from rfl, f_X8_readsText_lp1, ck_pos (ib_nI hτ (by decide)), ix_nI (by omega), t1, hw, hm]
      rfl
    · rw [q3, hw, hm]; rfl
    · rw [hw, hm] at hi; simp [whN] at hi
  · obtain ⟨z', e, p1, p2, p3, p4⟩ := m_readsText_lp hτ hm 8 0 4087 z1 rfl hT1 (Nat.zero_le _) (fun i hi => by omega) q3
    exact ⟨z', e, fun u h1 h2 => (p1 u h1 h2).trans (q1 u h1), fun k hk => (p2 k hk).trans (q2 k hk), p3, p4⟩
def nV (t : Tx) : Nat := whN t.1 (fwB false t.2 t.1)
def nC (t : Tx) : Nat := whN t.1 (fwB true t.2 t.1)
/-- the reference has read its texts -/
def RDm (z : Sg) (t0 t1 : Tx) : Prop := rI z 0 2 = nI (nV t0) ∧ rI z 0 5 = nI (nC t1) ∧ (∀ v, v < nV t0 → rI z 3 v = nI (hiB t0.2 v) ∧ rI z 4 v = nI (fgB t0.2 v)) ∧ ∀ c, c < nC t1 → rI z 5 c = nI (saB t1.2 c) ∧ rI z 6 c = nI (hiB t1.2 c) ∧ rI z 7 c = nI (fgB t1.2 c)
theorem m_faultOf {z : Sg} {a : Ab} (h : AM z a) {τ : Nat} (hτ : τ < 2) : ∃ z', f_X8_faultOf (nI τ) z = some (sFault (nI τ) a, z') ∧ RDm z' (aT0 a) (aT1 a) ∧ (∀ u, u ≠ 0 → ¬ (3 ≤ u ∧ u ≤ 7) → rI z' u = rI z u) ∧ (∀ k, k ≠ 2 → k ≠ 5 → rI z' 0 k = rI z 0 k) := by
  unfold f_X8_faultOf
  obtain ⟨z1, e1, p1, p2, p3, p4⟩ := m_readsText (τ := 0) (by decide) h.1
  have hT1 : TxM 1 (rI z1 1) (rI z1 2) (aT1 a) := by rw [p1 1 (by decide) (by simp [inC]), p1 2 (by decide) (by simp [inC])]; exact h.2.1
  obtain ⟨z2, e2, q1, q2, q3, q4⟩ := m_readsText (τ := 1) (by decide) hT1
  have e1' : f_X8_readsText 0 z = some (flI (aT0 a).1 (fwB false (aT0 a).2 (aT0 a).1), z1) := e1
  have e2' : f_X8_readsText 1 z1 = some (flI (aT1 a).1 (fwB true (aT1 a).2 (aT1 a).1), z2) := e2
  rw [e1', b2_some, e2', b2_some]
  refine ⟨z2, ?_, ⟨?_, q3, fun v hv => ?_, fun c hc => q4 c hc⟩, fun u h0 h3 => (q1 u h0 (by simp [inC]; omega)).trans (p1 u h0 (by simp [inC]; omega)), fun k k2 k5 => (q2 k k5).trans (p2 k k2)⟩
  · have n1 := not_bad hτ (by decide)
    simp only [sFault, n1, if_false, ix_nI (show τ < 2 ^ 31 by omega)]
    rcases (show τ = 0 ∨ τ = 1 by omega) with rfl | rfl
    · rfl
    · rfl
  · rw [q2 2 (by decide)]; exact p3
  · have := p4 v hv
    rw [q1 3 (by decide) (by simp [inC]), q1 4 (by decide) (by simp [inC])]
    exact this
theorem AM.reads {z z' : Sg} {a : Ab} (h : AM z a) (hu : ∀ u, u ≠ 0 → ¬ (3 ≤ u ∧ u ≤ 7) → rI z' u = rI z u) (hk : ∀ k, k ≠ 2 → k ≠ 5 → rI z' 0 k = rI z 0 k) : AM z' a :=
  h.fr (fun k q => hk k (by unfold scM at q; omega) (by unfold scM at q; omega)) (hu 1 (by decide) (by omega)) (hu 2 (by decide) (by omega)) (fun u _ _ => hu u (by omega) (by omega)) (fun u _ _ => hu u (by omega) (by omega))
theorem m_reads {z : Sg} {a : Ab} (h : AM z a) : ∃ z', f_X8_reads z = some z' ∧ AM z' a ∧ RDm z' (aT0 a) (aT1 a) ∧ (∀ u, u ≠ 0 → ¬ (3 ≤ u ∧ u ≤ 7) → rI z' u = rI z u) ∧ (∀ k, k ≠ 2 → k ≠ 5 → rI z' 0 k = rI z 0 k) := by
  obtain ⟨z', e, r, p1, p2⟩ := m_faultOf h (τ := 0) (by decide)
  refine ⟨z', ?_, h.reads p1 p2, r, p1, p2⟩
  unfold f_X8_reads
  have e' : f_X8_faultOf 0 z = some (sFault (nI 0) a, z') := e
  rw [e']; rfl
theorem M_fault {z : Sg} {a : Ab} (h : AM z a) (t : Int32) : ∃ z', f_X8_fault t z = some (sFault t a, z') ∧ AM z' a := by
  unfold f_X8_fault
  rcases arg_cases t 2 (by decide) with ht | ⟨t, ht, rfl⟩
  · exact ⟨z, by simp [m_isText_bad ht, b1_some, b2_some, sFault, bad, ht], h⟩
  · obtain ⟨z', e, r, p1, p2⟩ := m_faultOf h ht
    refine ⟨z', ?_, h.reads p1 p2⟩
    rw [m_isText ht, b1_some, if_pos ne10, e]
    rfl
theorem TxM.fr {k : Nat} {ty tx ty' tx' : Nat → Int32} {x : Tx} (h : TxM k ty tx x) (h1 : ty' k = ty k) (h2 : ∀ i, i < 47 → tx' (47 * k + i) = tx (47 * k + i)) : TxM k ty' tx' x := by
  obtain ⟨t1, t2, t3⟩ := h
  exact ⟨by rw [h1]; exact t1, t2, fun i hi => by rw [h2 i (by omega)]; exact t3 i hi⟩
theorem AM.text {z : Sg} {a : Ab} (h : AM z a) {k : Nat} (hk : k < 2) : TxM k (rI z 1) (rI z 2) (aT a k) := by
  rcases (show k = 0 ∨ k = 1 by omega) with rfl | rfl
  · exact h.1
  · exact h.2.1
theorem AM.upText {z z' : Sg} {a : Ab} (h : AM z a) {k : Nat} (hk : k < 2) {x : Tx} (hT : TxM k (rI z' 1) (rI z' 2) x) (h1 : ∀ q, q ≠ k → rI z' 1 q = rI z 1 q) (h2 : ∀ q, ¬ (47 * k ≤ q ∧ q < 47 * k + 47) → rI z' 2 q = rI z 2 q) (hf : ∀ u, u ≠ 1 → u ≠ 2 → rI z' u = rI z u) : AM z' (upT a k x) := by
  have h0 := hf 0 (by decide) (by decide)
  have hx : (TxM 0 (rI z' 1) (rI z' 2) (aT0 (upT a k x)) ∧ TxM 1 (rI z' 1) (rI z' 2) (aT1 (upT a k x))) := by
    rcases (show k = 0 ∨ k = 1 by omega) with rfl | rfl
    · exact ⟨hT, h.2.1.fr (h1 1 (by decide)) (fun i hi => h2 _ (by omega))⟩
    · exact ⟨h.1.fr (h1 0 (by decide)) (fun i hi => h2 _ (by omega)), hT⟩
  have ea : (upT a k x).2.2 = a.2.2 := by unfold upT; split <;> rfl
  refine h.mk' (Or.inr hx) (Or.inl ⟨by rw [h0], by rw [h0], by rw [h0], by rw [ea]⟩) (Or.inl ⟨by rw [h0], hf 8 (by decide) (by decide), hf 9 (by decide) (by decide), by unfold aH; rw [ea]⟩) (Or.inl ⟨by rw [h0], hf 10 (by decide) (by decide), hf 11 (by decide) (by decide), by unfold aC; rw [ea]⟩) (Or.inl ⟨by rw [h0], hf 19 (by decide) (by decide), hf 20 (by decide) (by decide), hf 21 (by decide) (by decide), by unfold aW; rw [ea]⟩) (Or.inl ⟨hf 22 (by decide) (by decide), hf 23 (by decide) (by decide), hf 24 (by decide) (by decide), hf 25 (by decide) (by decide), by unfold aSh; rw [ea]⟩) (Or.inl ⟨by rw [h0], by unfold aF; rw [ea]⟩)
theorem M_type {z : Sg} {a : Ab} (h : AM z a) (t b : Int32) : ∃ z', f_X8_type t b z = some ((sType t b a).1, z') ∧ AM z' (sType t b a).2 := by
  unfold f_X8_type
  rcases arg_cases t 2 (by decide) with ht | ⟨t, ht, rfl⟩
  · exact ⟨z, by simp [m_isText_bad ht, b1_some, sType, bad, ht], by simp only [sType, bad, ht, true_or, if_true]; exact h⟩
  rcases arg_cases b 256 (by decide) with hb | ⟨b, hb, rfl⟩
  · have e : f_X8_in b 0 255 = some 0 := m_in_bad (n := 255) (by decide) hb
    exact ⟨z, by simp [m_isText ht, e, b1_some, sType, bad, hb], by simp only [sType, bad, hb, or_true, if_true]; exact h⟩
  have e : f_X8_in (nI b) 0 255 = some 1 := m_in_nI (n := 255) (by omega) (by decide)
  have n1 := not_bad ht (by decide)
  have n2 := not_bad hb (by decide)
  obtain ⟨t1, t2, t3⟩ := h.text ht
  have e47 : (nI (aT a t).1 = (47 : Int32)) ↔ (aT a t).1 = 47 := nI_eq (b := 47) (by omega) (by decide)
  simp only [m_isText ht, e, b1_some, ne10, not_false_eq_true, if_true, Bool.false_eq_true, if_false, ck_pos (ib_nI ht (by decide : 2 < 2 ^ 31)), ix_nI (show t < 2 ^ 31 by omega), t1, e47, sType, n1, n2, or_self, ix_nI (show b < 2 ^ 31 by omega), m47]
  by_cases hf : (aT a t).1 = 47
  · simp only [hf, if_true, Nat.le_refl]; exact ⟨z, rfl, h⟩
  · simp only [hf, if_false, show ¬ 47 ≤ (aT a t).1 by omega, ck_pos (ib_nI (show 47 * t + (aT a t).1 < 94 by omega) (by decide : 94 < 2 ^ 31)), ix_nI (show 47 * t + (aT a t).1 < 2 ^ 31 by omega), rI_wI, show ¬ (1 = 2 ∧ t = 47 * t + (aT a t).1) by omega, t1, nI_l1, and_self, if_true]
    refine ⟨_, rfl, h.upText ht ⟨by simp [rI_wI], by show (aT a t).1 + 1 ≤ 47; omega, fun i hi => ?_⟩ (fun q hq => by rw [rI_wI, if_neg (by omega), rI_wI, if_neg (by omega)]) (fun q hq => by rw [rI_wI, if_neg (by omega), rI_wI, if_neg (by omega)]) (fun u h1 h2 => by simp only [rIf_wI, h1, h2, if_false])⟩
    have hi : i < (aT a t).1 + 1 := hi
    rw [rI_wI, if_neg (by omega), rI_wI]
    by_cases ei : i = (aT a t).1
    · subst ei; simp [fup, hb]
    · rw [if_neg (by omega)]
      simp only [fup, ei, if_false]
      exact t3 i (by omega)
theorem M_wipe {z : Sg} {a : Ab} (h : AM z a) (t : Int32) : ∃ z', f_X8_wipe t z = some ((sWipe t a).1, z') ∧ AM z' (sWipe t a).2 := by
  unfold f_X8_wipe
  rcases arg_cases t 2 (by decide) with ht | ⟨t, ht, rfl⟩
  · exact ⟨z, by simp [m_isText_bad ht, b1_some, sWipe, bad, ht], by simp only [sWipe, bad, ht, if_true]; exact h⟩
  have n1 := not_bad ht (by decide)
  obtain ⟨t1, t2, t3⟩ := h.text ht
  simp only [m_isText ht, b1_some, ne10, not_false_eq_true, if_true, ck_pos (ib_nI ht (by decide : 2 < 2 ^ 31)), ix_nI (show t < 2 ^ 31 by omega), t1, sWipe, n1, if_false]
  exact ⟨_, rfl, h.upText ht ⟨by simp [rI_wI]; rfl, by simp, fun i hi => by simp at hi⟩ (fun q hq => by rw [rI_wI, if_neg (by omega)]) (fun q hq => by rw [rI_wI, if_neg (by omega)]) (fun u h1 h2 => by simp only [rIf_wI, h1, if_false])⟩
theorem M_undo {z : Sg} {a : Ab} (h : AM z a) (t : Int32) : ∃ z', f_X8_undo t z = some ((sUndo t a).1, z') ∧ AM z' (sUndo t a).2 := by
  unfold f_X8_undo
  rcases arg_cases t 2 (by decide) with ht | ⟨t, ht, rfl⟩
  · exact ⟨z, by simp [m_isText_bad ht, b1_some, sUndo, bad, ht], by simp only [sUndo, bad, ht, if_true]; exact h⟩
  have n1 := not_bad ht (by decide)
  obtain ⟨t1, t2, t3⟩ := h.text ht
  simp only [m_isText ht, b1_some, ne10, not_false_eq_true, if_true, ck_pos (ib_nI ht (by decide : 2 < 2 ^ 31)), ix_nI (show t < 2 ^ 31 by omega), t1, sUndo, n1, if_false, nI_z (show (aT a t).1 < 2 ^ 31 by omega)]
  by_cases hf : (aT a t).1 = 0
  · simp only [hf, if_true]; exact ⟨z, rfl, h⟩
  · simp only [hf, if_false, nI_pred' hf, rI_wI, and_self, if_true]
    exact ⟨_, rfl, h.upText ht ⟨by simp [rI_wI], by show (aT a t).1 - 1 ≤ 47; omega, fun i hi => by have hi : i < (aT a t).1 - 1 := hi; rw [rI_wI, if_neg (by omega)]; exact t3 i (by omega)⟩ (fun q hq => by rw [rI_wI, if_neg (by omega)]) (fun q hq => by rw [rI_wI, if_neg (by omega)]) (fun u h1 h2 => by simp only [rIf_wI, h1, if_false])⟩
