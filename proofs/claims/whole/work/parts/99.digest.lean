/-! DIGEST. -/
def mix (h x : Int64) : Int64 := (31 : Int64) * h + x
theorem x_mixed (h x : Int64) : f_X7_mixed h x = some (mix h x) := rfl
def dV (a : Ab) (h : Int64) (v : Int32) : Int64 := mix (mix (mix (mix (mix (mix (mix (mix (mix (mix (mix h (sVirtue v 0 a).toInt64) (sVirtue v 1 a).toInt64) (sGone v 0 a).toInt64) (sGone v 1 a).toInt64) (sFitting 1 v a).toInt64) (sMatch v a).toInt64) (sLie v a).toInt64) (sGuess v 0 a)) (sGuess v 1 a)) (sTogether v a).toInt64) (sWhen v a).toInt64
def dC (a : Ab) (h : Int64) (c : Int32) : Int64 := mix (mix (mix (mix (mix h (sClaimant c 0 a).toInt64) (sClaimant c 1 a).toInt64) (sClaimant c 2 a).toInt64) (sFitting 0 c a).toInt64) (sAsk c a).toInt64
def dW (a : Ab) (h : Int64) (w : Int32) : Int64 := mix (mix (mix h (sBehind w 0 a).toInt64) (sBehind w 1 a).toInt64) (sBehind w 2 a).toInt64
def dN (a : Ab) (h : Int64) : Int64 := mix (mix (mix (mix (mix (mix (mix (mix (mix (mix (mix h (sEmpty a).toInt64) (sSale a).toInt64) (sSaint a).toInt64) (sMatch (-2) a).toInt64) (sMatch (-1) a).toInt64) (sGuard 8 a).toInt64) (sShelves (-1) a).toInt64) (sShelves 0 a).toInt64) (sTogether (-1) a).toInt64) (sWeeks 7 20 0 a).toInt64) (sWeeks 7 20 1 a).toInt64
def dK (a : Ab) : Int64 := mix (mix (fo (fun w h => mix h (sCount (nI w) a).toInt64) 8 0 17) (sFault 0 a).toInt64) (sFault 1 a).toInt64
def sDigest (a : Ab) : Int64 := dN a (dW a (dW a (dW a (dW a (fo (fun c h => dC a h (nI c)) (nC (aT1 a)) 0 (fo (fun v h => dV a h (nI v)) (nV (aT0 a)) 0 (dK a))) 0) 1) 5) 39)
section DigX
variable {a : Ab}
theorem x_dV {z : Sg} (h : AXg PTt PRr z a) (H : Int64) (v : Int32) : ∃ z', f_X7_virtueMixed H v z = some (dV a H v, z') ∧ AXg PTt PRr z' a := by
  unfold f_X7_virtueMixed
  obtain ⟨z1, e1, h1⟩ := X_gone h v 0
  obtain ⟨z2, e2, h2⟩ := X_gone h1 v 1
  obtain ⟨z3, e3, h3⟩ := X_match h2 v
  obtain ⟨z4, e4, h4⟩ := X_together h3 v
  obtain ⟨z5, e5, h5⟩ := X_when h4 v
  refine ⟨z5, ?_, h5⟩
  rw [X_virtue h v 0, b1_some, x_mixed, b1_some, X_virtue h v 1, b1_some, x_mixed, b1_some, e1, b2_some, x_mixed, b1_some, e2, b2_some, x_mixed, b1_some, X_fitting h2 1 v, b1_some, x_mixed, b1_some, e3, b2_some, x_mixed, b1_some, X_lie h3 v, b1_some, x_mixed, b1_some, X_guess h3 v 0, b1_some, x_mixed, b1_some, X_guess h3 v 1, b1_some, x_mixed, b1_some, e4, b2_some, x_mixed, b1_some, e5, b2_some, x_mixed, b1_some]
  rfl
theorem x_dC {z : Sg} (h : AXg PTt PRr z a) (H : Int64) (c : Int32) : f_X7_claimantMixed H c z = some (dC a H c) := by
  unfold f_X7_claimantMixed
  rw [X_claimant h c 0, b1_some, x_mixed, b1_some, X_claimant h c 1, b1_some, x_mixed, b1_some, X_claimant h c 2, b1_some, x_mixed, b1_some, X_fitting h 0 c, b1_some, x_mixed, b1_some, X_ask h c, b1_some, x_mixed, b1_some]
  rfl
theorem x_dW {z : Sg} (h : AXg PTt PRr z a) (H : Int64) (w : Int32) : ∃ z', f_X7_weekMixed H w z = some (dW a H w, z') ∧ AXg PTt PRr z' a := by
  unfold f_X7_weekMixed
  obtain ⟨z1, e1, h1⟩ := X_behind h w 0
  obtain ⟨z2, e2, h2⟩ := X_behind h1 w 1
  obtain ⟨z3, e3, h3⟩ := X_behind h2 w 2
  refine ⟨z3, ?_, h3⟩
  rw [e1, b2_some, x_mixed, b1_some, e2, b2_some, x_mixed, b1_some, e3, b2_some, x_mixed, b1_some]
  rfl
theorem x_dN {z : Sg} (h : AXg PTt PRr z a) (H : Int64) : ∃ z', f_X7_wholeMixed H z = some (dN a H, z') ∧ AXg PTt PRr z' a := by
  unfold f_X7_wholeMixed
  obtain ⟨z1, e1, h1⟩ := X_empty h
  obtain ⟨z2, e2, h2⟩ := X_sale h1
  obtain ⟨z3, e3, h3⟩ := X_saint h2
  obtain ⟨z4, e4, h4⟩ := X_match h3 (-2)
  obtain ⟨z5, e5, h5⟩ := X_match h4 (-1)
  obtain ⟨z6, e6, h6⟩ := X_together h5 (-1)
  obtain ⟨z7, e7, h7⟩ := X_weeks h6 7 20 0
  obtain ⟨z8, e8, h8⟩ := X_weeks h7 7 20 1
  refine ⟨z8, ?_, h8⟩
  rw [e1, b2_some, x_mixed, b1_some, e2, b2_some, x_mixed, b1_some, e3, b2_some, x_mixed, b1_some, e4, b2_some, x_mixed, b1_some, e5, b2_some, x_mixed, b1_some, X_guard h5 8, b1_some, x_mixed, b1_some, X_shelves h5 (-1), b1_some, x_mixed, b1_some, X_shelves h5 0, b1_some, x_mixed, b1_some, e6, b2_some, x_mixed, b1_some, e7, b2_some, x_mixed, b1_some, e8, b2_some, x_mixed, b1_some]
  rfl
theorem x_dg1 {z : Sg} (h : AXg PTt PRr z a) : ∀ (dd w fu : Nat) (H : Int64), w + dd = 8 → f_X7_digest_lp1 z (fu + 1 + dd) H (nI w) = some (fo (fun w h => mix h (sCount (nI w) a).toInt64) dd w H)
  | 0, w, fu, H, hw => by
    obtain rfl : w = 8 := by omega
    rw [show fu + 1 + 0 = fu + 1 from rfl, f_X7_digest_lp1, if_neg (show ¬ nI 8 ≤ (7 : Int32) by decide)]
    rfl
  | dd + 1, w, fu, H, hw => by
    rw [show fu + 1 + (dd + 1) = (fu + 1 + dd) + 1 by omega, f_X7_digest_lp1, if_pos (show nI w ≤ (7 : Int32) from nI_le (b := 7) (by omega) (by decide)), X_count h (nI w), b1_some, x_mixed, b1_some, nI_l1]
    exact x_dg1 h dd (w + 1) fu _ (by omega)
theorem x_dg2 : ∀ (dd v fu : Nat) (H : Int64) (z : Sg), v + dd = nV (aT0 a) → AXg PTt PRr z a → ∃ z', f_X7_digest_lp2 (fu + 1 + dd) H (nI v) z = some (fo (fun v h => dV a h (nI v)) dd v H, z') ∧ AXg PTt PRr z' a
  | 0, v, fu, H, z, hv, h => by
    obtain rfl : v = nV (aT0 a) := by omega
    refine ⟨z, ?_, h⟩
    rw [show fu + 1 + 0 = fu + 1 from rfl, f_X7_digest_lp2, h.1.rd.1, if_neg Int32.lt_irrefl]
    rfl
  | dd + 1, v, fu, H, z, hv, h => by
    have d1 := h.1.dok.1
    obtain ⟨z1, e1, h1⟩ := x_dV h H (nI v)
    obtain ⟨z2, e2, h2⟩ := x_dg2 dd (v + 1) fu (dV a H (nI v)) z1 (by omega) h1
    refine ⟨z2, ?_, h2⟩
    rw [show fu + 1 + (dd + 1) = (fu + 1 + dd) + 1 by omega, f_X7_digest_lp2, h.1.rd.1, if_pos (nI_lt (show v < nV (aT0 a) by omega) (by omega)), e1, b2_some, nI_l1]
    exact e2
theorem x_dg3 {z : Sg} (h : AXg PTt PRr z a) : ∀ (dd c fu : Nat) (H : Int64), c + dd = nC (aT1 a) → f_X7_digest_lp3 z (fu + 1 + dd) H (nI c) = some (fo (fun c h => dC a h (nI c)) dd c H)
  | 0, c, fu, H, hc => by
    obtain rfl : c = nC (aT1 a) := by omega
    rw [show fu + 1 + 0 = fu + 1 from rfl, f_X7_digest_lp3, h.1.rd.2.1, if_neg Int32.lt_irrefl]
    rfl
  | dd + 1, c, fu, H, hc => by
    have d2 := h.1.dok.2.1
    rw [show fu + 1 + (dd + 1) = (fu + 1 + dd) + 1 by omega, f_X7_digest_lp3, h.1.rd.2.1, if_pos (nI_lt (show c < nC (aT1 a) by omega) (by omega)), x_dC h, b1_some, nI_l1]
    exact x_dg3 h dd (c + 1) fu _ (by omega)
theorem X_digest {z : Sg} (h : AXg PTt PRr z a) : ∃ z', f_X7_digest z = some (sDigest a, z') ∧ AXg PTt PRr z' a := by
  have d1 := h.1.dok.1
  have d2 := h.1.dok.2.1
  have e0 : f_X7_digest_lp1 z 4096 17 0 = some (fo (fun w h => mix h (sCount (nI w) a).toInt64) 8 0 17) := by
    have := x_dg1 h 8 0 4087 17 (by omega)
    rw [show 4087 + 1 + 8 = 4096 from rfl, nI_0] at this
    exact this
  obtain ⟨z1, e1, h1⟩ := x_dg2 (nV (aT0 a)) 0 (4095 - nV (aT0 a)) (dK a) z (by omega) h
  rw [show 4095 - nV (aT0 a) + 1 + nV (aT0 a) = 4096 by omega, nI_0] at e1
  have e2 := x_dg3 h1 (nC (aT1 a)) 0 (4095 - nC (aT1 a)) (fo (fun v h => dV a h (nI v)) (nV (aT0 a)) 0 (dK a)) (by omega)
  rw [show 4095 - nC (aT1 a) + 1 + nC (aT1 a) = 4096 by omega, nI_0] at e2
  obtain ⟨z3, e3, h3⟩ := x_dW h1 (fo (fun c h => dC a h (nI c)) (nC (aT1 a)) 0 (fo (fun v h => dV a h (nI v)) (nV (aT0 a)) 0 (dK a))) 0
  obtain ⟨z4, e4, h4⟩ := x_dW h3 _ 1
  obtain ⟨z5, e5, h5⟩ := x_dW h4 _ 5
  obtain ⟨z6, e6, h6⟩ := x_dW h5 _ 39
  obtain ⟨z7, e7, h7⟩ := x_dN h6 _
  refine ⟨z7, ?_, h7⟩
  unfold f_X7_digest
  have hdk : mix (mix (fo (fun w h => mix h (sCount (nI w) a).toInt64) 8 0 17) (sFault 0 a).toInt64) (sFault 1 a).toInt64 = dK a := rfl
  rw [e0, b1_some, X_fault h 0, b1_some, x_mixed, b1_some, X_fault h 1, b1_some, x_mixed, b1_some, hdk, e1, b2_some, e2, b1_some, e3, b2_some, e4, b2_some, e5, b2_some, e6, b2_some, e7, b2_some]
  unfold sDigest
  rfl
end DigX
