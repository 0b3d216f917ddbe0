/-! THE DATA that both have read: virtues and claimants. -/
theorem bits4 : ∀ a : Fin 16, ∀ b0 b1 b2 b3 : Fin 2, a.1 / 2 ^ 0 % 2 = b0.1 → a.1 / 2 ^ 1 % 2 = b1.1 → a.1 / 2 ^ 2 % 2 = b2.1 → a.1 / 2 ^ 3 % 2 = b3.1 → a.1 = b0.1 * 1 + b1.1 * 2 + b2.1 * 4 + b3.1 * 8 := by decide +kernel
theorem bitS_eq (b p : Nat) : bitS b p = bitS b 0 * 2 ^ p := by unfold bitS; split <;> simp
theorem bitH_eq (b p : Nat) : bitH b p = bitH b 0 * 2 ^ p := by unfold bitH; split <;> simp
theorem bitS_lt (b : Nat) : bitS b 0 < 2 := by unfold bitS; split <;> simp
theorem bitH_lt (b : Nat) : bitH b 0 < 2 := by unfold bitH; split <;> simp
theorem whN_lt {n w : Nat} (h : w ≤ n) {j : Nat} (hj : j < whN n w) : 6 * j + 4 < w ∧ (n ≤ 47 → j < 8) := by
  unfold whN at hj
  split at hj
  · rename_i c
    refine ⟨by omega, fun _ => by omega⟩
  · omega
theorem whN_le {n w : Nat} (h : n ≤ 47) : whN n w ≤ 8 := by unfold whN; split <;> omega
theorem TxX.data {vg : Bool} {o s h g : Nat → Int32} {x : Tx} (H : TxX vg o s h g x) {j : Nat} (hj : j < whN x.1 (fwB vg x.2 x.1)) : s j = nI (saB x.2 j) ∧ h j = nI (hiB x.2 j) ∧ g j = nI (fgB x.2 j) := by
  obtain ⟨g1, g2, g3, g4, g5, g6, g7⟩ := H
  obtain ⟨hl, h8⟩ := whN_lt (fwB_le vg x.2 x.1) hj
  obtain ⟨a, b, ha, hb, hs, hh, hbits, hfig⟩ := g7 j (h8 g1)
  obtain ⟨p0, q0⟩ := hbits 0 (by decide) (by omega)
  obtain ⟨p1, q1⟩ := hbits 1 (by decide) (by omega)
  obtain ⟨p2, q2⟩ := hbits 2 (by decide) (by omega)
  obtain ⟨p3, q3⟩ := hbits 3 (by decide) (by omega)
  have ea := bits4 ⟨a, ha⟩ ⟨_, bitS_lt _⟩ ⟨_, bitS_lt _⟩ ⟨_, bitS_lt _⟩ ⟨_, bitS_lt _⟩ p0 p1 p2 p3
  have eb := bits4 ⟨b, hb⟩ ⟨_, bitH_lt _⟩ ⟨_, bitH_lt _⟩ ⟨_, bitH_lt _⟩ ⟨_, bitH_lt _⟩ q0 q1 q2 q3
  simp only at ea eb
  refine ⟨?_, ?_, hfig hl⟩
  · rw [hs, ea]
    unfold saB
    rw [bitS_eq _ 1, bitS_eq _ 2, bitS_eq _ 3]
    simp
  · rw [hh, eb]
    unfold hiB
    rw [bitH_eq _ 1, bitH_eq _ 2, bitH_eq _ 3]
    simp
def RDx (z : Sg) (t0 t1 : Tx) : Prop := rI z 1 5 = nI (nV t0) ∧ rI z 5 5 = nI (nC t1) ∧ (∀ v, v < nV t0 → rI z 3 v = nI (hiB t0.2 v) ∧ rI z 4 v = nI (fgB t0.2 v)) ∧ ∀ c, c < nC t1 → rI z 6 c = nI (saB t1.2 c) ∧ rI z 7 c = nI (hiB t1.2 c) ∧ rI z 8 c = nI (fgB t1.2 c)
theorem AX0.rd {z : Sg} {a : Ab} (h : AX0 z a) : RDx z (aT0 a) (aT1 a) :=
  ⟨h.1.2.2.2.2.2.1, h.2.1.2.2.2.2.2.1, fun v hv => (h.1.data hv).2, fun c hc => h.2.1.data hc⟩
/-- what is so of any data -/
def DOK (t0 t1 : Tx) : Prop := nV t0 ≤ 8 ∧ nC t1 ≤ 8 ∧ (∀ v, v < nV t0 → fgB t0.2 v ≤ 9) ∧ ∀ c, c < nC t1 → fgB t1.2 c ≤ 9
theorem fg_le {vg : Bool} {x : Tx} {j : Nat} (hj : j < whN x.1 (fwB vg x.2 x.1)) : fgB x.2 j ≤ 9 := by
  obtain ⟨hl, -⟩ := whN_lt (fwB_le vg x.2 x.1) hj
  have := okB_fig (fwB_ok vg x.2 x.1 _ hl)
  unfold fgB
  omega
theorem AX0.dok {z : Sg} {a : Ab} (h : AX0 z a) : DOK (aT0 a) (aT1 a) := ⟨whN_le h.1.1, whN_le h.2.1.1, fun _ hv => fg_le hv, fun _ hc => fg_le hc⟩
theorem AM.dok {z : Sg} {a : Ab} (h : AM z a) : DOK (aT0 a) (aT1 a) := ⟨whN_le h.1.2.1, whN_le h.2.1.2.1, fun _ hv => fg_le hv, fun _ hc => fg_le hc⟩
section Data
variable {PT : VT → KT → Prop} {PR : (Nat → Int64) → Tx → Tx → Prop}
theorem x_noVirtue {z : Sg} {t0 t1 : Tx} (r : RDx z t0 t1) (d : DOK t0 t1) (v : Int32) : f_X7_noVirtue v z = some (if bad v (nV t0) then 1 else 0) := by
  unfold f_X7_noVirtue
  rw [r.1, x_outside]
  by_cases c : bad v (nV t0)
  · rw [if_pos c]; rfl
  · rw [if_neg c]; rfl
theorem x_noClaimant {z : Sg} {t0 t1 : Tx} (r : RDx z t0 t1) (d : DOK t0 t1) (v : Int32) : f_X7_noClaimant v z = some (if bad v (nC t1) then 1 else 0) := by
  unfold f_X7_noClaimant
  rw [r.2.1, x_outside]
  by_cases c : bad v (nC t1)
  · rw [if_pos c]; rfl
  · rw [if_neg c]; rfl
theorem m_in_nbad {i : Int32} {m : Nat} (hm : m ≤ 48) : f_X8_in i 0 (nI m - 1) = some (if bad i m then 0 else 1) := m_in_size hm
theorem m_isVirtue {z : Sg} {a : Ab} (h : AM z a) (v : Int32) : ∃ z', f_X8_isVirtue v z = some (if bad v (nV (aT0 a)) then 0 else 1, z') ∧ AM z' a ∧ RDm z' (aT0 a) (aT1 a) := by
  obtain ⟨z', e, h', r, -, -⟩ := m_reads h
  have d := h.dok
  refine ⟨z', ?_, h', r⟩
  unfold f_X8_isVirtue
  rw [e, b1_some, r.1, m_in_nbad (by have := d.1; omega), b1_some]
  by_cases c : bad v (nV (aT0 a))
  · rw [if_pos c]; rfl
  · rw [if_neg c]; rfl
theorem m_isClaimant {z : Sg} {a : Ab} (h : AM z a) (v : Int32) : ∃ z', f_X8_isClaimant v z = some (if bad v (nC (aT1 a)) then 0 else 1, z') ∧ AM z' a ∧ RDm z' (aT0 a) (aT1 a) := by
  obtain ⟨z', e, h', r, -, -⟩ := m_reads h
  have d := h.dok
  refine ⟨z', ?_, h', r⟩
  unfold f_X8_isClaimant
  rw [e, b1_some, r.2.1, m_in_nbad (by have := d.2.1; omega), b1_some]
  by_cases c : bad v (nC (aT1 a))
  · rw [if_pos c]; rfl
  · rw [if_neg c]; rfl
def sVirtue (v w : Int32) (a : Ab) : Int32 := if bad v (nV (aT0 a)) ∨ bad w 2 then -2 else if w = 0 then nI (hiB (aT0 a).2 (ix v)) else nI (fgB (aT0 a).2 (ix v))
theorem X_virtue {z : Sg} {a : Ab} (h : AXg PT PR z a) (v w : Int32) : f_X7_virtue v w z = some (sVirtue v w a) := by
  unfold f_X7_virtue
  have r := h.1.rd
  have d := h.1.dok
  rw [x_noVirtue r d]
  rcases arg_cases v (nV (aT0 a)) (by have := d.1; omega) with hv | ⟨v, hv, rfl⟩
  · simp [b1_some, sVirtue, bad, hv]
  have n1 := not_bad hv (by have := d.1; omega)
  rcases arg_cases w 2 (by decide) with hw | ⟨w, hw, rfl⟩
  · have e : f_X7_outside w 2 = some 1 := x_out_bad (n := 2) hw
    rw [if_neg n1]
    simp [e, b1_some, sVirtue, bad, hw]
  have e : f_X7_outside (nI w) 2 = some 0 := x_out_nI (n := 2) hw (by decide)
  have n2 := not_bad hw (by decide)
  have hd := d.1
  obtain ⟨r1, r2⟩ := r.2.2.1 v hv
  rw [if_neg n1]
  simp only [b1_some, not_true, if_false, e, Bool.false_eq_true, sVirtue, n1, n2, or_self, ck_pos (ib_nI (show v < 8 by omega) (by decide : 8 < 2 ^ 31)), ix_nI (show v < 2 ^ 31 by omega), r1, r2]
  by_cases c : nI w = 0
  · simp only [c, if_true, b1_some]
  · simp only [c, if_false, b1_some]
theorem M_virtue {z : Sg} {a : Ab} (h : AM z a) (v w : Int32) : ∃ z', f_X8_virtue v w z = some (sVirtue v w a, z') ∧ AM z' a := by
  unfold f_X8_virtue
  obtain ⟨z', e, h', r⟩ := m_isVirtue h v
  have d := h.dok
  have hd := d.1
  refine ⟨z', ?_, h'⟩
  rw [e, b2_some]
  rcases arg_cases v (nV (aT0 a)) (by omega) with hv | ⟨v, hv, rfl⟩
  · rw [if_pos hv]; simp [b2_some, sVirtue, bad, hv]
  have n1 := not_bad hv (by omega)
  rw [if_neg n1, if_pos ne10]
  rcases arg_cases w 2 (by decide) with hw | ⟨w, hw, rfl⟩
  · have e : f_X8_in w 0 1 = some 0 := m_in_bad (n := 1) (by decide) hw
    simp [e, b1_some, b2_some, sVirtue, bad, hw]
  have e : f_X8_in (nI w) 0 1 = some 1 := m_in_nI (n := 1) (by omega) (by decide)
  have n2 := not_bad hw (by decide)
  obtain ⟨r1, r2⟩ := r.2.2.1 v hv
  simp only [e, b1_some, ne10, not_false_eq_true, if_true, b2_some, sVirtue, n1, n2, or_self, if_false, ck_pos (ib_nI (show v < 9 by omega) (by decide : 9 < 2 ^ 31)), ix_nI (show v < 2 ^ 31 by omega), r1, r2]
  by_cases c : nI w = 0
  · simp only [c, if_true, b1_some, b2_some]
  · simp only [c, if_false, b1_some, b2_some]
/-- what a claimant says: sorts (0), h (1), how rich (2) -/
def clm (t : Tx) (c : Nat) (w : Nat) : Nat := if w = 0 then saB t.2 c else if w = 1 then hiB t.2 c else fgB t.2 c
def sClaimant (c w : Int32) (a : Ab) : Int32 := if bad c (nC (aT1 a)) ∨ bad w 3 then -2 else nI (clm (aT1 a) (ix c) (ix w))
theorem X_claimant {z : Sg} {a : Ab} (h : AXg PT PR z a) (c w : Int32) : f_X7_claimant c w z = some (sClaimant c w a) := by
  unfold f_X7_claimant
  have r := h.1.rd
  have d := h.1.dok
  have hd := d.2.1
  rw [x_noClaimant r d]
  rcases arg_cases c (nC (aT1 a)) (by omega) with hv | ⟨c, hv, rfl⟩
  · simp [b1_some, sClaimant, bad, hv]
  have n1 := not_bad hv (by omega)
  rcases arg_cases w 3 (by decide) with hw | ⟨w, hw, rfl⟩
  · have e : f_X7_outside w 3 = some 1 := x_out_bad (n := 3) hw
    rw [if_neg n1]
    simp [e, b1_some, sClaimant, bad, hw]
  have e : f_X7_outside (nI w) 3 = some 0 := x_out_nI (n := 3) hw (by decide)
  have n2 := not_bad hw (by decide)
  obtain ⟨r1, r2, r3⟩ := r.2.2.2 c hv
  rw [if_neg n1]
  simp only [b1_some, not_true, if_false, e, Bool.false_eq_true, sClaimant, n1, n2, or_self, ck_pos (ib_nI (show c < 8 by omega) (by decide : 8 < 2 ^ 31)), ix_nI (show c < 2 ^ 31 by omega), ix_nI (show w < 2 ^ 31 by omega), r1, r2, r3]
  rcases (show w = 0 ∨ w = 1 ∨ w = 2 by omega) with rfl | rfl | rfl <;> rfl
theorem m_claimantOf {z : Sg} {t0 t1 : Tx} (r : RDm z t0 t1) (d : DOK t0 t1) {c w : Nat} (hc : c < nC t1) (hw : w < 3) : f_X8_claimantOf (nI c) (nI w) z = some (nI (clm t1 c w)) := by
  unfold f_X8_claimantOf
  have hd := d.2.1
  obtain ⟨r1, r2, r3⟩ := r.2.2.2 c hc
  simp only [ck_pos (ib_nI (show c < 9 by omega) (by decide : 9 < 2 ^ 31)), ix_nI (show c < 2 ^ 31 by omega), r1, r2, r3]
  rcases (show w = 0 ∨ w = 1 ∨ w = 2 by omega) with rfl | rfl | rfl <;> rfl
theorem M_claimant {z : Sg} {a : Ab} (h : AM z a) (c w : Int32) : ∃ z', f_X8_claimant c w z = some (sClaimant c w a, z') ∧ AM z' a := by
  unfold f_X8_claimant
  obtain ⟨z', e, h', r⟩ := m_isClaimant h c
  have d := h.dok
  have hd := d.2.1
  refine ⟨z', ?_, h'⟩
  rw [e, b2_some]
  rcases arg_cases c (nC (aT1 a)) (by omega) with hv | ⟨c, hv, rfl⟩
  · rw [if_pos hv]; simp [b2_some, sClaimant, bad, hv]
  have n1 := not_bad hv (by omega)
  rw [if_neg n1, if_pos ne10]
  rcases arg_cases w 3 (by decide) with hw | ⟨w, hw, rfl⟩
  · have e : f_X8_in w 0 2 = some 0 := m_in_bad (n := 2) (by decide) hw
    simp [e, b1_some, b2_some, sClaimant, bad, hw]
  have e : f_X8_in (nI w) 0 2 = some 1 := m_in_nI (n := 2) (by omega) (by decide)
  have n2 := not_bad hw (by decide)
  simp only [e, b1_some, ne10, not_false_eq_true, if_true, b2_some, sClaimant, n1, n2, or_self, if_false, m_claimantOf r d hv hw, ix_nI (show c < 2 ^ 31 by omega), ix_nI (show w < 2 ^ 31 by omega)]
end Data
