/-! DIGEST: the reference. -/
section DigM
variable {a : Ab}
theorem mix_r (h x : Int64) : (31 : Int64) * h + x = mix h x := rfl
theorem m_dV {z : Sg} (h : AM z a) (r : RDm z (aT0 a) (aT1 a)) (H : Int64) {v : Nat} (hv : v < nV (aT0 a)) : ∃ z', f_X8_virtueDigest H (nI v) z = some (dV a H (nI v), z') ∧ AM z' a ∧ RDm z' (aT0 a) (aT1 a) := by
  have d := h.dok
  have d1 := d.1
  have n1 := not_bad hv (by omega)
  have n8 := not_bad (show v < 8 by omega) (by decide)
  obtain ⟨r1, r2⟩ := r.2.2.1 v hv
  obtain ⟨z1, e1, h1, g1⟩ := m_goneOf h hv (t := 0) (by decide)
  obtain ⟨z2, e2, h2, g2⟩ := m_goneOf h1 hv (t := 1) (by decide)
  obtain ⟨z3, e3, h3, g3⟩ := m_matchAt h2 (i := nI v) (Or.inr (Or.inr n8))
  obtain ⟨z4, e4, h4⟩ := M_guess h3 (nI v) 0
  obtain ⟨z5, e5, h5⟩ := M_guess h4 (nI v) 1
  obtain ⟨z6, e6, h6, -⟩ := m_togetherOf h5 (i := nI v) (Or.inr n8)
  obtain ⟨z7, e7, h7, g7⟩ := m_whenOf h6 hv
  refine ⟨z7, ?_, h7, g7⟩
  have ev0 : sVirtue (nI v) 0 a = nI (hiB (aT0 a).2 v) := by
    unfold sVirtue
    rw [if_neg (fun q => q.elim n1 (by decide)), if_pos rfl, ix_nI (by omega)]
  have ev1 : sVirtue (nI v) 1 a = nI (fgB (aT0 a).2 v) := by
    unfold sVirtue
    rw [if_neg (fun q => q.elim n1 (by decide)), if_neg ne10, ix_nI (by omega)]
  have ef : f_X8_fittingOf 1 (nI v) z2 = some (sFitting 1 (nI v) a) := by
    unfold sFitting
    rw [if_neg ne10, if_pos rfl, if_neg n1, ix_nI (by omega)]
    exact m_fittingOf1 g2 d hv
  have el : f_X8_lieOf (nI v) z3 = some (sLie (nI v) a) := by
    unfold sLie
    rw [if_neg n1, ix_nI (by omega)]
    exact m_lieOf g3 d hv h3.2.2.1.1 h3.2.2.1.2.2.2.1
  unfold f_X8_virtueDigest
  rw [ck_pos (ib_nI (show v < 9 by omega) (by decide)), ck_pos (ib_nI (show v < 9 by omega) (by decide)), show f_X8_goneOf (nI v) (0 : Int32) z = some (sGone (nI v) 0 a, z1) from e1, b2_some, show f_X8_goneOf (nI v) (1 : Int32) z1 = some (sGone (nI v) 1 a, z2) from e2, b2_some, ef, b1_some, e3, b2_some, el, b1_some, e4, b2_some, e5, b2_some, e6, b2_some, e7, b2_some, ix_nI (by omega), r1, r2, ← ev0, ← ev1]
  unfold dV mix
  rfl
theorem m_dC {z : Sg} (h : AM z a) (r : RDm z (aT0 a) (aT1 a)) : ∀ (dd c fu : Nat) (H : Int64), c + dd = nC (aT1 a) → f_X8_digest_lp3 z (fu + 1 + dd) H (nI c) = some (fo (fun c h => dC a h (nI c)) dd c H)
  | 0, c, fu, H, hc => by
    obtain rfl : c = nC (aT1 a) := by omega
    rw [show fu + 1 + 0 = fu + 1 from rfl, f_X8_digest_lp3, r.2.1, if_neg Int32.lt_irrefl]
    rfl
  | dd + 1, c, fu, H, hc => by
    have d := h.dok
    have d2 := d.2.1
    have hcn : c < nC (aT1 a) := by omega
    have n1 := not_bad hcn (by omega)
    have ecl : ∀ w, w < 3 → f_X8_claimantOf (nI c) (nI w) z = some (sClaimant (nI c) (nI w) a) := fun w hw => by
      unfold sClaimant
      have n2 := not_bad hw (by decide)
      rw [if_neg (fun q => q.elim n1 n2), ix_nI (by omega), ix_nI (by omega)]
      exact m_claimantOf r d hcn hw
    have e4 : f_X8_digest_lp4 (nI c) z 4096 H 0 = some (mix (mix (mix H (sClaimant (nI c) 0 a).toInt64) (sClaimant (nI c) 1 a).toInt64) (sClaimant (nI c) 2 a).toInt64) := by
      rw [f_X8_digest_lp4, if_pos (by decide), show f_X8_claimantOf (nI c) (0 : Int32) z = some (sClaimant (nI c) 0 a) from ecl 0 (by decide), b1_some, f_X8_digest_lp4, if_pos (by decide), show f_X8_claimantOf (nI c) ((0 : Int32) + 1) z = some (sClaimant (nI c) 1 a) from ecl 1 (by decide), b1_some, f_X8_digest_lp4, if_pos (by decide), show f_X8_claimantOf (nI c) ((0 : Int32) + 1 + 1) z = some (sClaimant (nI c) 2 a) from ecl 2 (by decide), b1_some, f_X8_digest_lp4, if_neg (by decide), mix_r, mix_r, mix_r]
    have ef : f_X8_fittingOf 0 (nI c) z = some (sFitting 0 (nI c) a) := by
      unfold sFitting
      rw [if_pos rfl, if_neg n1, ix_nI (by omega)]
      exact m_fittingOf0 r d hcn
    have ea : f_X8_askOf (nI c) z = some (sAsk (nI c) a) := by
      unfold sAsk
      rw [if_neg n1, ix_nI (by omega)]
      exact m_askOf r d hcn
    rw [show fu + 1 + (dd + 1) = (fu + 1 + dd) + 1 by omega, f_X8_digest_lp3, r.2.1, if_pos (nI_lt hcn (by omega)), e4, b1_some, ef, b1_some, ea, b1_some, nI_l1, mix_r, mix_r]
    exact m_dC h r dd (c + 1) fu _ (by omega)
theorem m_dW {z : Sg} (h : AM z a) (H : Int64) {w : Nat} (hw : w < 40) : ∃ z', f_X8_weekDigest H (nI w) z = some (dW a H (nI w), z') ∧ AM z' a := by
  have n1 := not_bad hw (by decide)
  have eb : ∀ {z : Sg}, AM z a → ∀ t, t < 3 → ∃ z', f_X8_behindOf (nI w) (nI t) z = some (sBehind (nI w) (nI t) a, z') ∧ AM z' a := fun h t ht => by
    obtain ⟨z', e', h', -⟩ := m_behindOf h hw ht
    refine ⟨z', ?_, h'⟩
    unfold sBehind
    rw [if_neg (fun q => q.elim n1 (not_bad ht (by decide))), ix_nI (by omega)]
    exact e'
  obtain ⟨z1, e1, h1⟩ := eb h 0 (by decide)
  obtain ⟨z2, e2, h2⟩ := eb h1 1 (by decide)
  obtain ⟨z3, e3, h3⟩ := eb h2 2 (by decide)
  refine ⟨z3, ?_, h3⟩
  have el : f_X8_weekDigest_lp1 (nI w) 4096 H 0 z = some (dW a H (nI w), z3) := by
    rw [f_X8_weekDigest_lp1, if_pos (by decide), show f_X8_behindOf (nI w) (0 : Int32) z = some (sBehind (nI w) 0 a, z1) from e1, b2_some, f_X8_weekDigest_lp1, if_pos (by decide), show f_X8_behindOf (nI w) ((0 : Int32) + 1) z1 = some (sBehind (nI w) 1 a, z2) from e2, b2_some, f_X8_weekDigest_lp1, if_pos (by decide), show f_X8_behindOf (nI w) ((0 : Int32) + 1 + 1) z2 = some (sBehind (nI w) 2 a, z3) from e3, b2_some, f_X8_weekDigest_lp1, if_neg (by decide), mix_r, mix_r, mix_r]
    unfold dW
    rfl
  unfold f_X8_weekDigest
  rw [el, b2_some]
theorem m_dW' {z : Sg} (h : AM z a) (H : Int64) (i : Int32) (w : Nat) (hw : w < 40) (hi : i = nI w) : ∃ z', f_X8_weekDigest H i z = some (dW a H i, z') ∧ AM z' a := by
  subst hi
  exact m_dW h H hw
theorem m_dg1 : ∀ (dd w fu : Nat) (H : Int64) (z : Sg), w + dd = 8 → AM z a → ∃ z', f_X8_digest_lp1 (fu + 1 + dd) H (nI w) z = some (fo (fun w h => mix h (sCount (nI w) a).toInt64) dd w H, z') ∧ AM z' a
  | 0, w, fu, H, z, hw, h => by
    obtain rfl : w = 8 := by omega
    refine ⟨z, ?_, h⟩
    rw [show fu + 1 + 0 = fu + 1 from rfl, f_X8_digest_lp1, if_neg (show ¬ nI 8 < (8 : Int32) from Int32.lt_irrefl)]
    rfl
  | dd + 1, w, fu, H, z, hw, h => by
    obtain ⟨z1, e1, h1⟩ := M_count h (nI w)
    obtain ⟨z2, e2, h2⟩ := m_dg1 dd (w + 1) fu (mix H (sCount (nI w) a).toInt64) z1 (by omega) h1
    refine ⟨z2, ?_, h2⟩
    rw [show fu + 1 + (dd + 1) = (fu + 1 + dd) + 1 by omega, f_X8_digest_lp1, if_pos (show nI w < (8 : Int32) from nI_lt (b := 8) (by omega) (by decide)), e1, b2_some, nI_l1, mix_r]
    exact e2
theorem m_dg2 : ∀ (dd v fu : Nat) (H : Int64) (z : Sg), v + dd = nV (aT0 a) → AM z a → RDm z (aT0 a) (aT1 a) → ∃ z', f_X8_digest_lp2 (fu + 1 + dd) H (nI v) z = some (fo (fun v h => dV a h (nI v)) dd v H, z') ∧ AM z' a ∧ RDm z' (aT0 a) (aT1 a)
  | 0, v, fu, H, z, hv, h, r => by
    obtain rfl : v = nV (aT0 a) := by omega
    refine ⟨z, ?_, h, r⟩
    rw [show fu + 1 + 0 = fu + 1 from rfl, f_X8_digest_lp2, r.1, if_neg Int32.lt_irrefl]
    rfl
  | dd + 1, v, fu, H, z, hv, h, r => by
    have d1 := h.dok.1
    obtain ⟨z1, e1, h1, r1⟩ := m_dV h r H (show v < nV (aT0 a) by omega)
    obtain ⟨z2, e2, h2⟩ := m_dg2 dd (v + 1) fu (dV a H (nI v)) z1 (by omega) h1 r1
    refine ⟨z2, ?_, h2⟩
    rw [show fu + 1 + (dd + 1) = (fu + 1 + dd) + 1 by omega, f_X8_digest_lp2, r.1, if_pos (nI_lt (show v < nV (aT0 a) by omega) (by omega)), e1, b2_some, nI_l1]
    exact e2
theorem M_digest {z : Sg} (h : AM z a) : ∃ z', f_X8_digest z = some (sDigest a, z') ∧ AM z' a := by
  have d1 := h.dok.1
  have d2 := h.dok.2.1
  obtain ⟨z0, e0, h0⟩ := m_dg1 8 0 4087 17 z (by omega) h
  rw [show 4087 + 1 + 8 = 4096 from rfl, nI_0] at e0
  obtain ⟨za, ea, -, pa, qa⟩ := m_faultOf h0 (τ := 0) (by decide)
  have ha := h0.reads pa qa
  obtain ⟨zb, eb, rb, pb, qb⟩ := m_faultOf ha (τ := 1) (by decide)
  have hb := ha.reads pb qb
  obtain ⟨z1, e1, h1, r1⟩ := m_dg2 (nV (aT0 a)) 0 (4095 - nV (aT0 a)) (dK a) zb (by omega) hb rb
  rw [show 4095 - nV (aT0 a) + 1 + nV (aT0 a) = 4096 by omega, nI_0] at e1
  have e2 := m_dC h1 r1 (nC (aT1 a)) 0 (4095 - nC (aT1 a)) (fo (fun v h => dV a h (nI v)) (nV (aT0 a)) 0 (dK a)) (by omega)
  rw [show 4095 - nC (aT1 a) + 1 + nC (aT1 a) = 4096 by omega, nI_0] at e2
  obtain ⟨z3, e3, h3⟩ := m_dW' h1 (fo (fun c h => dC a h (nI c)) (nC (aT1 a)) 0 (fo (fun v h => dV a h (nI v)) (nV (aT0 a)) 0 (dK a))) 0 0 (by decide) rfl
  obtain ⟨z4, e4, h4⟩ := m_dW' h3 (dW a (fo (fun c h => dC a h (nI c)) (nC (aT1 a)) 0 (fo (fun v h => dV a h (nI v)) (nV (aT0 a)) 0 (dK a))) 0) 1 1 (by decide) rfl
  obtain ⟨z5, e5, h5⟩ := m_dW' h4 (dW a (dW a (fo (fun c h => dC a h (nI c)) (nC (aT1 a)) 0 (fo (fun v h => dV a h (nI v)) (nV (aT0 a)) 0 (dK a))) 0) 1) 5 5 (by decide) rfl
  obtain ⟨z6, e6, h6⟩ := m_dW' h5 (dW a (dW a (dW a (fo (fun c h => dC a h (nI c)) (nC (aT1 a)) 0 (fo (fun v h => dV a h (nI v)) (nV (aT0 a)) 0 (dK a))) 0) 1) 5) 39 39 (by decide) rfl
  obtain ⟨y1, n1, i1, -⟩ := m_emptyNow h6
  obtain ⟨y2, n2, i2, -⟩ := m_saleNow i1
  obtain ⟨y3, n3, i3, -⟩ := m_saintOf i2
  obtain ⟨y4, n4, i4, -⟩ := m_matchAt i3 (i := -2) (Or.inl rfl)
  obtain ⟨y5, n5, i5, -⟩ := m_matchAt i4 (i := -1) (Or.inr (Or.inl rfl))
  obtain ⟨y6, n6, i6, -⟩ := m_guardOf i5 (k := 8) (by decide)
  obtain ⟨y7, n7, i7, -⟩ := m_shelvesN i6
  obtain ⟨y8, n8, i8, -⟩ := m_shelvesK i7 (k := 0) (by decide)
  obtain ⟨y9, n9, i9, -⟩ := m_togetherOf i8 (i := -1) (Or.inl rfl)
  obtain ⟨ya, na, ia, -⟩ := m_weeksOf i9 7 (n := 20) (t := 0) (by decide) (by decide) (by decide)
  obtain ⟨yb, nb, ib', -⟩ := m_weeksOf ia 7 (n := 20) (t := 1) (by decide) (by decide) (by decide)
  refine ⟨yb, ?_, ib'⟩
  have s6 : f_X8_guardOf (8 : Int32) y5 = some (sGuard 8 a, y6) := by
    unfold sGuard
    rw [if_neg (by decide)]
    exact n6
  have s7 : f_X8_shelvesOf (-1) y6 = some (sShelves (-1) a, y7) := by
    unfold sShelves
    rw [if_pos rfl]
    exact n7
  have s8 : f_X8_shelvesOf (0 : Int32) y7 = some (sShelves 0 a, y8) := by
    unfold sShelves
    rw [if_neg (by decide), if_neg (by decide)]
    exact n8
  have sa : f_X8_weeksOf 7 (20 : Int32) (0 : Int32) y9 = some (sWeeks 7 20 0 a, ya) := by
    unfold sWeeks
    rw [if_neg (by decide)]
    exact na
  have sb : f_X8_weeksOf 7 (20 : Int32) (1 : Int32) ya = some (sWeeks 7 20 1 a, yb) := by
    unfold sWeeks
    rw [if_neg (by decide)]
    exact nb
  unfold f_X8_digest
  have hdk : mix (mix (fo (fun w h => mix h (sCount (nI w) a).toInt64) 8 0 17) (sFault 0 a).toInt64) (sFault 1 a).toInt64 = dK a := rfl
  rw [e0, b2_some, show f_X8_faultOf (0 : Int32) z0 = some (sFault 0 a, za) from ea, b2_some, show f_X8_faultOf (1 : Int32) za = some (sFault 1 a, zb) from eb, b2_some, mix_r, mix_r, hdk, e1, b2_some, e2, b1_some, e3, b2_some, e4, b2_some, e5, b2_some, e6, b2_some, n1, b2_some, n2, b2_some, n3, b2_some, n4, b2_some, n5, b2_some, s6, b2_some, s7, b2_some, s8, b2_some, n9, b2_some, sa, b2_some, sb, b2_some]
  simp only [mix_r]
  unfold sDigest dN
  rfl
end DigM
