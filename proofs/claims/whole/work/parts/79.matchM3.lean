/-! MATCH: the reference, the whole. -/
theorem mS_lt {t0 t1 : Tx} (d : DOK t0 t1) : ∀ j, mS t0 t1 j < 256
  | 0 => by show 0 < 256; decide
  | j + 1 => by
    have d2 := d.2.1
    rw [mS_s]
    cases hg : mG t0 t1 (nV t0 - 1 - j) (mS t0 t1 j) with
    | none => exact mS_lt d j
    | some c =>
      have := (mG_lt hg).1
      exact or_lt256 (mS_lt d j) (by omega)
def mSv (t0 t1 : Tx) (v : Nat) : Nat := mS t0 t1 (if v < nV t0 then v else nV t0)
theorem mSv_s {t0 t1 : Tx} (v : Nat) : mSv t0 t1 (v + 1) = oR (mSv t0 t1 v) (fun c => mSv t0 t1 v ||| 2 ^ c) (mO t0 t1 v) := by
  unfold mSv mO
  by_cases c : v < nV t0
  · rw [if_pos c, if_pos c, ← mS_s]
    by_cases c2 : v + 1 < nV t0
    · rw [if_pos c2]
    · rw [if_neg c2, show nV t0 = v + 1 by omega]
  · rw [if_neg c, if_neg c, if_neg (by omega)]
    rfl
section MM3
variable {z : Sg} {t0 t1 : Tx}
theorem m_lm5' (r : RDm z t0 t1) (d : DOK t0 t1) (hT : mTb t0 t1 (nV t0) (rI z 15)) {v : Nat} (hv : v < 8) : ∃ z'', f_X8_laysMatch_lp5 (nI (mSv t0 t1 v)) (nI v) 4096 (nI (nC t1) - (1 : Int32)) (wI z 16 v (-1)) = some z'' ∧ (∀ u, u ≠ 16 → rI z'' u = rI z u) ∧ (∀ q, q ≠ v → rI z'' 16 q = rI z 16 q) ∧ rI z'' 16 v = opI (mO t0 t1 v) := by
  have d1 := d.1
  have d2 := d.2.1
  have w1 : ∀ u, u ≠ 16 → rI (wI z 16 v (-1)) u = rI z u := fun u hu => by rw [rIf_wI, if_neg hu]
  have w2 : ∀ q, q ≠ v → rI (wI z 16 v (-1)) 16 q = rI z 16 q := fun q hq => by rw [rI_wI, if_neg (fun t => hq t.2)]
  have w3 : rI (wI z 16 v (-1)) 16 v = opI none := by rw [rI_wI, if_pos ⟨rfl, rfl⟩]; rfl
  unfold mO
  by_cases c : v < nV t0
  · rw [if_pos c]
    have hS : mSv t0 t1 v = mS t0 t1 v := by unfold mSv; rw [if_pos c]
    rw [hS]
    obtain ⟨z'', e, h⟩ := m_lm5 r d hT c (mS_lt d v) (nC t1) (4095 - nC t1) (wI z 16 v (-1)) none (Nat.le_refl _) w1 w2 w3 (Or.inl ⟨rfl, fun i h1 h2 => by omega⟩)
    refine ⟨z'', ?_, h⟩
    rw [show 4095 - nC t1 + 1 + nC t1 = 4096 by omega] at e
    rw [Int32.sub_eq_add_neg]
    exact e
  · rw [if_neg c]
    refine ⟨_, ?_, w1, w2, w3⟩
    rw [f_X8_laysMatch_lp5, show rI (wI z 16 v (-1)) 0 2 = nI (nV t0) by rw [w1 0 (by decide)]; exact r.1, if_neg (show ¬ nI v < nI (nV t0) from nI_nlt (by omega) (by omega))]
    split <;> rw [b1_some, if_neg (by decide)]
theorem m_lm4 (r : RDm z t0 t1) (d : DOK t0 t1) (hT : mTb t0 t1 (nV t0) (rI z 15)) : ∀ (e v n : Nat) (z' : Sg), v + e = 8 → (∀ u, u ≠ 16 → rI z' u = rI z u) → (∀ q, q < v → rI z' 16 q = opI (mO t0 t1 q)) → ∃ s z'', f_X8_laysMatch_lp4 (n + 1 + e) (nI (mSv t0 t1 v)) (nI v) z' = some (s, z'') ∧ (∀ u, u ≠ 16 → rI z'' u = rI z u) ∧ ∀ q, q < 8 → rI z'' 16 q = opI (mO t0 t1 q)
  | 0, v, n, z', hv, h1, h2 => by
    obtain rfl : v = 8 := by omega
    refine ⟨nI (mSv t0 t1 8), z', ?_, h1, h2⟩
    rw [Nat.add_zero, f_X8_laysMatch_lp4, if_neg (show ¬ nI 8 < (8 : Int32) from Int32.lt_irrefl)]
  | e + 1, v, n, z', hv, h1, h2 => by
    have d2 := d.2.1
    have r' : RDm z' t0 t1 := r.of (fun u hu => h1 u (by omega))
    have hT' : mTb t0 t1 (nV t0) (rI z' 15) := by rw [h1 15 (by decide)]; exact hT
    obtain ⟨z2, e2, i2, j2, k2⟩ := m_lm5' r' d hT' (show v < 8 by omega)
    have hq : ∀ q, q < v + 1 → rI z2 16 q = opI (mO t0 t1 q) := fun q hq => by
      by_cases g : q = v
      · rw [g]; exact k2
      · rw [j2 q g]; exact h2 q (by omega)
    obtain ⟨s, z3, e3, i3⟩ := m_lm4 r d hT e (v + 1) n z2 (by omega) (fun u hu => (i2 u hu).trans (h1 u hu)) hq
    refine ⟨s, z3, ?_, i3⟩
    rw [show n + 1 + (e + 1) = (n + 1 + e) + 1 by omega, f_X8_laysMatch_lp4, if_pos (show nI v < (8 : Int32) from nI_lt (b := 8) (by omega) (by decide)), ck_pos (ib_nI (by omega) (by decide)), ix_nI (by omega), show rI (wI z' 16 v (-1)) 0 5 = nI (nC t1) by rw [rIf_wI, if_neg (by decide)]; exact r'.2.1, e2, b1_some, ck_pos (ib_nI (by omega) (by decide)), k2, nI_l1, ← e3, mSv_s]
    cases hg : mO t0 t1 v with
    | none =>
      rw [if_pos (show opI none = -1 from rfl), b1_some, or_zero]
      rfl
    | some c =>
      have hc : c < nC t1 := by
        unfold mO at hg
        by_cases g : v < nV t0
        · rw [if_pos g] at hg; exact (mG_lt hg).1
        · rw [if_neg g] at hg; cases hg
      rw [if_neg (show ¬ opI (some c) = -1 from nI_ne_m1 (by omega)), ck_pos (ib_nI (by omega) (by decide)), show opI (some c) = nI c from rfl, one_shl (by omega), b1_some, nI_or]
      rfl
end MM3
theorem m_laysMatch {z : Sg} {a : Ab} (h : AM z a) : ∃ z', f_X8_laysMatch z = some z' ∧ AM z' a ∧ RDm z' (aT0 a) (aT1 a) ∧ mTb (aT0 a) (aT1 a) (nV (aT0 a)) (rI z' 15) ∧ (∀ q, q < 8 → rI z' 16 q = opI (mO (aT0 a) (aT1 a) q)) := by
  obtain ⟨z1, e1, h1, r1, -, -⟩ := m_reads h
  have d := h.dok
  have d1 := d.1
  obtain ⟨z2, e2, i2, j2⟩ := m_lm1 r1 d (nV (aT0 a)) 0 (4095 - nV (aT0 a)) z1 (by omega) (fun _ _ => rfl) (fun j S hj => by omega)
  have r2 : RDm z2 (aT0 a) (aT1 a) := r1.of (fun u hu => i2 u (by omega))
  obtain ⟨s, z3, e3, i3, j3⟩ := m_lm4 r2 d j2 8 0 4087 z2 (by omega) (fun _ _ => rfl) (fun q hq => by omega)
  have r3 : RDm z3 (aT0 a) (aT1 a) := r2.of (fun u hu => i3 u (by omega))
  have fr : ∀ u, u ≠ 15 → u ≠ 16 → rI z3 u = rI z1 u := fun u h1 h2 => (i3 u h2).trans (i2 u h1)
  refine ⟨z3, ?_, h1.fr (fun k _ => by rw [fr 0 (by decide) (by decide)]) (fr 1 (by decide) (by decide)) (fr 2 (by decide) (by decide)) (fun u _ _ => fr u (by omega) (by omega)) (fun u _ _ => fr u (by omega) (by omega)), r3, ?_, j3⟩
  · unfold f_X8_laysMatch
    have hS : mSv (aT0 a) (aT1 a) 0 = 0 := by
      unfold mSv
      split
      · rfl
      · rw [show nV (aT0 a) = 0 by omega]; rfl
    rw [hS, nI_0] at e3
    rw [e1, b1_some, r1.1, Int32.sub_eq_add_neg]
    rw [show 4095 - nV (aT0 a) + 1 + nV (aT0 a) = 4096 by omega] at e2
    rw [e2, b1_some, show f_X8_laysMatch_lp4 4096 0 0 z2 = _ from e3]
    rfl
  · rw [i3 15 (by decide)]; exact j2
def sMatch (i : Int32) (a : Ab) : Int32 := if i = -2 then nI (mB (aT0 a) (aT1 a) (nV (aT0 a)) 0 / 1000) else if i = -1 then nI (mB (aT0 a) (aT1 a) (nV (aT0 a)) 0 % 1000) else if bad i 8 then -2 else opI (mO (aT0 a) (aT1 a) (ix i))
theorem m_matchAt {z : Sg} {a : Ab} (h : AM z a) {i : Int32} (hi : i = -2 ∨ i = -1 ∨ ¬ bad i 8) : ∃ z', f_X8_matchAt i z = some (sMatch i a, z') ∧ AM z' a ∧ RDm z' (aT0 a) (aT1 a) := by
  obtain ⟨z', e, h', r, hT, hO⟩ := m_laysMatch h
  have d := h.dok
  have d1 := d.1
  have hb := mB_lt d (Nat.le_refl (nV (aT0 a))) 0
  refine ⟨z', ?_, h', r⟩
  unfold f_X8_matchAt sMatch
  have e0 : (if rI z' 0 2 = 0 then some (0 : Int32) else ck (ib (0 : Int32) 2304) (some (rI z' 15 (ix (0 : Int32))))) = some (nI (mB (aT0 a) (aT1 a) (nV (aT0 a)) 0)) := by
    rw [r.1]
    by_cases c : nV (aT0 a) = 0
    · rw [c, if_pos (show nI 0 = (0 : Int32) from rfl)]; rfl
    · rw [if_neg (fun q => c ((nI_z (by omega)).mp q)), ck_pos (by decide), show ix (0 : Int32) = 0 by decide]
      have := hT (nV (aT0 a) - 1) 0 (by omega) (by decide)
      rw [show nV (aT0 a) - 1 - (nV (aT0 a) - 1) = 0 by omega, show nV (aT0 a) - 1 + 1 = nV (aT0 a) by omega] at this
      rw [this]
  rw [e, b1_some, e0, b1_some]
  by_cases c2 : i = -2
  · rw [if_pos c2, if_pos c2, b1_some, show nI (mB (aT0 a) (aT1 a) (nV (aT0 a)) 0) / (1000 : Int32) = nI (mB (aT0 a) (aT1 a) (nV (aT0 a)) 0 / 1000) from pk_div (d := 1000) (by omega) (by decide) (by decide)]
  · rw [if_neg c2, if_neg c2]
    by_cases c1 : i = -1
    · rw [if_pos c1, if_pos c1, b1_some, b1_some, show jrem (nI (mB (aT0 a) (aT1 a) (nV (aT0 a)) 0)) (1000 : Int32) = nI (mB (aT0 a) (aT1 a) (nV (aT0 a)) 0 % 1000) from pk_rem (d := 1000) (by omega) (by decide) (by decide)]
    · have c0 : ¬ bad i 8 := (hi.resolve_left c2).resolve_left c1
      rw [if_neg c1, if_neg c1, if_neg c0]
      rcases arg_cases i 8 (by decide) with hk | ⟨k, hk, rfl⟩
      · exact absurd hk c0
      · rw [ck_pos (ib_nI hk (by decide)), b1_some, b1_some, ix_nI (by omega), hO k hk]
theorem m2_le {i : Int32} (h2 : i ≠ -2) (h1 : i ≠ -1) : (-2 : Int32) ≤ i ↔ ¬ i < 0 := by
  have g2 : i.toInt ≠ (-2 : Int32).toInt := fun x => h2 (Int32.toInt_inj.mp x)
  have g1 : i.toInt ≠ (-1 : Int32).toInt := fun x => h1 (Int32.toInt_inj.mp x)
  rw [Int32.le_iff_toInt_le, Int32.lt_iff_toInt_lt]
  have e2 : (-2 : Int32).toInt = -2 := by decide
  have e1 : (-1 : Int32).toInt = -1 := by decide
  have e0 : (0 : Int32).toInt = 0 := by decide
  rw [e2] at g2
  rw [e1] at g1
  rw [e2, e0]
  omega
theorem M_match {z : Sg} {a : Ab} (h : AM z a) (i : Int32) : ∃ z', f_X8_match i z = some (sMatch i a, z') ∧ AM z' a := by
  by_cases hi : i = -2 ∨ i = -1 ∨ ¬ bad i 8
  · obtain ⟨z', e, h', -⟩ := m_matchAt h hi
    refine ⟨z', ?_, h'⟩
    unfold f_X8_match
    have hin : f_X8_in i (-2) 7 = some 1 := by
      rw [m_in, if_pos]
      rcases hi with rfl | rfl | hb
      · exact ⟨by decide, by decide⟩
      · exact ⟨by decide, by decide⟩
      · rcases arg_cases i 8 (by decide) with hk | ⟨k, hk, rfl⟩
        · exact absurd hk hb
        · exact ⟨(m2_le (fun q => hb (Or.inl (by rw [q]; decide))) (nI_ne_m1 (by omega))).mpr (fun q => hb (Or.inl q)), nI_le (b := 7) (by omega) (by decide)⟩
    rw [hin, b1_some, if_pos ne10, e, b2_some, b2_some]
  · refine ⟨z, ?_, h⟩
    have c2 : i ≠ -2 := fun q => hi (Or.inl q)
    have c1 : i ≠ -1 := fun q => hi (Or.inr (Or.inl q))
    have hb : bad i 8 := Classical.byContradiction fun q => hi (Or.inr (Or.inr q))
    unfold f_X8_match sMatch
    have hin : f_X8_in i (-2) 7 = some 0 := by
      rw [m_in, if_neg]
      rintro ⟨q1, q2⟩
      rcases hb with hk | hk
      · exact (m2_le c2 c1).mp q1 hk
      · have : (8 : Int32) ≤ 7 := Int32.le_trans hk q2
        exact absurd this (by decide)
    rw [hin, b1_some, if_neg (by decide), b2_some, if_neg c2, if_neg c1, if_pos hb]
