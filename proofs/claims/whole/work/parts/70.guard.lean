/-! GUARD. -/
/-- with these sorts secret no guess is more than k sixteenths -/
def grd (t0 : Tx) (k S v : Nat) : Bool := decide (16 * gM t0 S v (nV t0) ≤ k * gAll t0 S v)
def grdP (t0 : Tx) (k S : Nat) : Bool := alln (grd t0 k S) (nV t0)
def bT (o : Option Nat) (n : Nat) : Bool := match o with
  | none => true
  | some b => decide (pc8 n < pc8 b)
theorem bS_t (p : Nat → Bool) (n : Nat) : bS p (n + 1) = if p n && bT (bS p n) n then some n else bS p n := rfl
theorem grd_b {t0 : Tx} (d1 : nV t0 ≤ 8) {k : Nat} (hk : k ≤ 16) (S v : Nat) : 16 * gM t0 S v (nV t0) < 2 ^ 31 ∧ k * gAll t0 S v < 2 ^ 31 := by
  have h1 := gM_le d1 S v (nV t0)
  have h2 := gAll_le d1 S v
  refine ⟨by omega, ?_⟩
  have : k * gAll t0 S v ≤ 16 * 8 := Nat.mul_le_mul hk h2
  omega
section Guard
variable {z : Sg} {t0 t1 : Tx}
theorem x_guarded (r : RDx z t0 t1) (d : DOK t0 t1) {k S : Nat} (hk : k ≤ 16) (hS : S < 16) : f_X7_guarded (nI S) (nI k) z = some (if grdP t0 k S then 1 else 0) := by
  have d1 := d.1
  have key : ∀ (e i n : Nat), i + e = nV t0 → alln (grd t0 k S) i = true → f_X7_guarded_lp1 (nI S) (nI k) z (n + 1 + e) (nI i) = some (if grdP t0 k S then 1 else 0) := by
    intro e
    induction e with
    | zero =>
      intro i n hi ha
      obtain rfl : i = nV t0 := by omega
      rw [Nat.add_zero, f_X7_guarded_lp1, r.1, if_neg Int32.lt_irrefl, ck_pos bz1, show grdP t0 k S = true from ha]
      rfl
    | succ e ih =>
      intro i n hi ha
      obtain ⟨b1', b2'⟩ := grd_b d1 hk S i
      have hB : bO (al t0 (15 ^^^ S) i) (nV t0) < 256 := Nat.lt_of_lt_of_le (bO_lt _ _) (Nat.pow_le_pow_right (n := 2) (by decide) d1)
      rw [show n + 1 + (e + 1) = (n + 1 + e) + 1 by omega, f_X7_guarded_lp1, r.1, if_pos (nI_lt (by omega) (by omega)), x_alikeInOpen r d (by omega) hS, b1_some, x_mostOfOneKind r d, b1_some, x_bitCount hB, pc_bO d1, b1_some, nI_l1]
      rw [show cnt (al t0 (15 ^^^ S) i) (nV t0) = gAll t0 S i from rfl, nI_mul, show nI (gM t0 S i (nV t0)) * (16 : Int32) = nI (gM t0 S i (nV t0) * 16) from nI_mul _ 16]
      by_cases q : 16 * gM t0 S i (nV t0) ≤ k * gAll t0 S i
      · rw [if_neg (nI_nlt (by omega) (by omega))]
        refine ih (i + 1) n (by omega) ?_
        show (alln (grd t0 k S) i && grd t0 k S i) = true
        rw [ha]
        simp [grd, q]
      · rw [if_pos (nI_lt (by omega) (by omega)), ck_pos bz0]
        have : grdP t0 k S = false := by
          cases hg : grdP t0 k S with
          | false => rfl
          | true =>
            have := (alln_iff (nV t0)).mp hg i (by omega)
            simp [grd, q] at this
        rw [this]
        rfl
  unfold f_X7_guarded
  have h := key (nV t0) 0 (4095 - nV t0) (by omega) rfl
  rw [show 4095 - nV t0 + 1 + nV t0 = 4096 by omega, nI_0] at h
  exact h
theorem x_guard_lp (r : RDx z t0 t1) (d : DOK t0 t1) {k : Nat} (hk : k ≤ 16) : f_X7_guard_lp1 (nI k) z 4096 (-1) 5 0 = some (opI (bS (grdP t0 k) 16), opF (bS (grdP t0 k) 16)) := by
  exact lp_up (fun n (b : Int32 × Int32) i => f_X7_guard_lp1 (nI k) z n b.1 b.2 i) 16 (fun i => (opI (bS (grdP t0 k) i), opF (bS (grdP t0 k) i))) _ (fun n => by
    show f_X7_guard_lp1 _ z (n + 1) _ _ _ = _
    rw [f_X7_guard_lp1, if_neg (show ¬ nI 16 < (16 : Int32) from Int32.lt_irrefl)]) (fun n i hi => by
    show f_X7_guard_lp1 _ z (n + 1) _ _ _ = f_X7_guard_lp1 _ z n _ _ _
    have hpc := pc_lt16 ⟨i, hi⟩
    simp only at hpc
    rw [f_X7_guard_lp1, if_pos (show nI i < (16 : Int32) from nI_lt (b := 16) hi (by decide)), x_bitCount (by omega), b1_some, nI_l1, x_guarded r d hk hi, b1_some]
    have e2 : (nI (pc8 i) < opF (bS (grdP t0 k) i)) ↔ bT (bS (grdP t0 k) i) i = true := by
      cases hb : bS (grdP t0 k) i with
      | none =>
        have : nI (pc8 i) < (5 : Int32) := nI_lt (b := 5) (by omega) (by decide)
        simp [opF, this, bT]
      | some b =>
        have hb16 := bS_lt _ _ _ hb
        have hpb := pc_lt16 ⟨b, by omega⟩
        simp only at hpb
        simp only [opF, bT, decide_eq_true_eq]
        exact nI_ltI (by omega) (by omega)
    simp only [e2]
    rw [bS_t]
    cases hm : bT (bS (grdP t0 k) i) i
    · simp [b1_some, b2_some]
    · cases ha : grdP t0 k i
      · simp [b1_some, b2_some]
      · simp [b1_some, b2_some, opI, opF]) 4096 (by decide)
theorem m_guardOf_lp2 (r : RDm z t0 t1) (d : DOK t0 t1) {k S : Nat} (hk : k ≤ 16) (hS : S < 16) : f_X8_guardOf_lp2 (nI k) (nI S) z 4096 1 0 = some (if grdP t0 k S then 1 else 0) := by
  have d1 := d.1
  exact lp_up (fun n (b : Int32) i => f_X8_guardOf_lp2 (nI k) (nI S) z n b i) (nV t0) (fun i => if alln (grd t0 k S) i then (1 : Int32) else 0) (if grdP t0 k S then 1 else 0) (fun n => by
    show f_X8_guardOf_lp2 _ _ z (n + 1) _ _ = _
    rw [f_X8_guardOf_lp2, r.1, if_neg Int32.lt_irrefl]; rfl) (fun n i hi => by
    show f_X8_guardOf_lp2 _ _ z (n + 1) _ _ = f_X8_guardOf_lp2 _ _ z n _ _
    obtain ⟨b1', b2'⟩ := grd_b d1 hk S i
    obtain ⟨g1, g2⟩ := m_guessBy r d hi hS
    rw [f_X8_guardOf_lp2, r.1, if_pos (nI_lt hi (by omega)), g1, b1_some, g2, b1_some, nI_l1, nI_mul, show (16 : Int32) * nI (gM t0 S i (nV t0)) = nI (16 * gM t0 S i (nV t0)) from nI_mul 16 _]
    show _ = f_X8_guardOf_lp2 (nI k) (nI S) z n (if alln (grd t0 k S) i && grd t0 k S i then 1 else 0) (nI (i + 1))
    have e : (nI (16 * gM t0 S i (nV t0)) ≤ nI (k * gAll t0 S i)) ↔ grd t0 k S i = true := by
      rw [nI_leI b1' b2']
      simp [grd]
    simp only [e]
    cases alln (grd t0 k S) i <;> cases grd t0 k S i <;> simp [b1_some]) 4096 (by omega)
theorem m_guardOf_lp (r : RDm z t0 t1) (d : DOK t0 t1) {k : Nat} (hk : k ≤ 16) : f_X8_guardOf_lp1 (nI k) z 4096 (-1) 0 = some (opI (bS (grdP t0 k) 16)) := by
  exact lp_up (fun n (b : Int32) i => f_X8_guardOf_lp1 (nI k) z n b i) 16 (fun i => opI (bS (grdP t0 k) i)) (opI (bS (grdP t0 k) 16)) (fun n => by
    show f_X8_guardOf_lp1 _ z (n + 1) _ _ = _
    rw [f_X8_guardOf_lp1, if_neg (show ¬ nI 16 < (16 : Int32) from Int32.lt_irrefl)]) (fun n i hi => by
    show f_X8_guardOf_lp1 _ z (n + 1) _ _ = f_X8_guardOf_lp1 _ z n _ _
    have hpc := pc_lt16 ⟨i, hi⟩
    simp only at hpc
    rw [f_X8_guardOf_lp1, if_pos (show nI i < (16 : Int32) from nI_lt (b := 16) hi (by decide)), m_guardOf_lp2 r d hk hi, b1_some, nI_l1, bS_t]
    cases hq : grdP t0 k i
    · simp [b1_some]
    · cases hb : bS (grdP t0 k) i with
      | none => simp [b1_some, opI, bT]
      | some b =>
        have hb16 := bS_lt _ _ _ hb
        have hpb := pc_lt16 ⟨b, by omega⟩
        simp only at hpb
        rw [show opI (some b) = nI b from rfl, m_ones (show b < 2 ^ 31 by omega), m_ones (show i < 2 ^ 31 by omega)]
        simp only [if_true, ne10, not_false_eq_true, nI_ne_m1 (show b < 2 ^ 31 by omega), if_false, b1_some, Bool.true_and, nI_ltI (show pc8 i < 2 ^ 31 by omega) (show pc8 b < 2 ^ 31 by omega)]
        by_cases q : pc8 i < pc8 b
        · simp [q, b1_some, opI, bT]
        · simp [q, b1_some, opI, bT]) 4096 (by decide)
end Guard
def sGuard (k : Int32) (a : Ab) : Int32 := if bad k 17 then -2 else opI (bS (grdP (aT0 a) (ix k)) 16)
theorem m_guardOf {z : Sg} {a : Ab} (h : AM z a) {k : Nat} (hk : k ≤ 16) : ∃ z', f_X8_guardOf (nI k) z = some (opI (bS (grdP (aT0 a) k) 16), z') ∧ AM z' a ∧ RDm z' (aT0 a) (aT1 a) := by
  obtain ⟨z', e, h', r, -, -⟩ := m_reads h
  refine ⟨z', ?_, h', r⟩
  unfold f_X8_guardOf
  rw [e, b1_some, m_guardOf_lp r h.dok hk]
  rfl
section GuardC
variable {PT : VT → KT → Prop} {PR : (Nat → Int64) → Tx → Tx → Prop}
theorem X_guard {z : Sg} {a : Ab} (h : AXg PT PR z a) (k : Int32) : f_X7_guard k z = some (sGuard k a) := by
  unfold f_X7_guard sGuard
  rcases arg_cases k 17 (by decide) with hk | ⟨k, hk, rfl⟩
  · have e : f_X7_outside k 17 = some 1 := x_out_bad (n := 17) hk
    simp [e, b1_some, bad, hk]
  · have e : f_X7_outside (nI k) 17 = some 0 := x_out_nI (n := 17) hk (by decide)
    have n1 := not_bad hk (by decide)
    rw [e, b1_some, if_neg (by decide), if_neg n1, x_guard_lp h.1.rd h.1.dok (by omega), ix_nI (by omega)]
    rfl
theorem M_guard {z : Sg} {a : Ab} (h : AM z a) (k : Int32) : ∃ z', f_X8_guard k z = some (sGuard k a, z') ∧ AM z' a := by
  unfold f_X8_guard sGuard
  rcases arg_cases k 17 (by decide) with hk | ⟨k, hk, rfl⟩
  · have e : f_X8_in k 0 16 = some 0 := m_in_bad (n := 16) (by decide) hk
    exact ⟨z, by simp [e, b1_some, b2_some, bad, hk], h⟩
  · have e : f_X8_in (nI k) 0 16 = some 1 := m_in_nI (n := 16) (by omega) (by decide)
    have n1 := not_bad hk (by decide)
    obtain ⟨z', e2, h', -⟩ := m_guardOf h (show k ≤ 16 by omega)
    refine ⟨z', ?_, h'⟩
    rw [e, b1_some, if_pos ne10, e2, if_neg n1, ix_nI (by omega)]
    rfl
end GuardC
