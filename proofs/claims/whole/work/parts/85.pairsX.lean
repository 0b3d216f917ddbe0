/-! TOGETHER, MATCH: the class. -/
theorem x_prs {t0 t1 : Tx} {z : Sg} (r : RDx z t0 t1) {f v : Nat} (hf : f < nV t0) (hv : v < nV t0) : f_J6_bitCount_0f7a4 (rI z 3 f ^^^ rI z 3 v) = some (nI (pc8 (hiB t0.2 f ^^^ hiB t0.2 v))) := by
  have h1 := hiB_lt t0.2 f
  have h2 := hiB_lt t0.2 v
  rw [(r.2.2.1 f hf).1, (r.2.2.1 v hv).1, nI_xor, x_bitCount (Nat.lt_of_lt_of_le (Nat.xor_lt_two_pow (n := 4) h1 h2) (by decide))]
theorem pc8_le (a : Nat) : pc8 a ≤ 8 := cnt_le _ 8
section PX
variable {z : Sg} {t0 t1 : Tx}
theorem x_fp_lp (r : RDx z t0 t1) (d1 : nV t0 ≤ 8) {f S : Nat} (hf : f < nV t0) (hS : S < 256) (hJ : ∀ R, R < S → rJ z 43 R = lN (pX t0 (nV t0) R)) (hb : S.testBit f = true) : ∀ (e v n : Nat), f < v → v + e = nV t0 → f_X3_firstPaired_lp1 1 (nI f) (nI (del S f)) z (n + 1 + e) (lN (mx (pX t0 (nV t0) (del S f)) (pCd t0 f S) (fun w => pX t0 (nV t0) (del (del S f) w) + 1099511627776 + dgt f w + dgt w f) v)) (nI v) = some (lN (mx (pX t0 (nV t0) (del S f)) (pCd t0 f S) (fun w => pX t0 (nV t0) (del (del S f) w) + 1099511627776 + dgt f w + dgt w f) (nV t0)))
  | 0, v, n, _, hv => by
    obtain rfl : v = nV t0 := by omega
    rw [Nat.add_zero, f_X3_firstPaired_lp1, r.1, if_neg Int32.lt_irrefl]
  | e + 1, v, n, hfv, hv => by
    have hdl : del S f < 256 := Nat.lt_of_le_of_lt (del_le S f) hS
    have ih := x_fp_lp r d1 hf hS hJ hb e (v + 1) n (by omega) (by omega)
    rw [show n + 1 + (e + 1) = (n + 1 + e) + 1 by omega, f_X3_firstPaired_lp1, r.1, if_pos (nI_lt (show v < nV t0 by omega) (by omega)), ck_pos (ib_nI (by omega) (by decide)), ck_pos (ib_nI (by omega) (by decide)), nI_l1, ← ih, mx_s, ix_nI (by omega), ix_nI (by omega), show 1 + 2 = 3 from rfl, x_prs r hf (by omega), b1_some]
    have hbv : (del S f).testBit v = S.testBit v := by rw [del_test (by omega), decide_eq_false (show ¬ f = v by omega)]; simp
    have hcd : pCd t0 f S v = (S.testBit v && prs t0 f v) := by unfold pCd; rw [decide_eq_true hfv]; rfl
    have hpe := nI_eq (a := pc8 (hiB t0.2 f ^^^ hiB t0.2 v)) (b := 1) (by have := pc8_le (hiB t0.2 f ^^^ hiB t0.2 v); omega) (by decide)
    by_cases c1 : S.testBit v = true
    · rw [if_pos ((bit_is (by omega) (by omega)).mpr (hbv.trans c1))]
      by_cases c2 : pc8 (hiB t0.2 f ^^^ hiB t0.2 v) = 1
      · have hc : pCd t0 f S v = true := by rw [hcd, c1]; unfold prs; rw [c2]; rfl
        have hdd : del (del S f) v < S := Nat.lt_of_le_of_lt (del_le _ _) (del_lt (by omega) hb)
        rw [if_pos hc, if_pos (show nI (pc8 (hiB t0.2 f ^^^ hiB t0.2 v)) = 1 from hpe.mpr c2), b1_some, if_pos rfl, one_shl (by omega), and_not hdl, ck_pos (ib_nI (by omega) (by decide)), x_digit (by omega) (by omega), b1_some, x_digit (by omega) (by omega), b1_some, ix_nI (by omega), hJ _ hdd, l40, lN_add, lN_add, lN_add, b1_some]
        have hq := pX_lt d1 (del (del S f) v)
        have hg1 := dgt_lt f v
        have hg2 := dgt_lt v f
        have hm : mx (pX t0 (nV t0) (del S f)) (pCd t0 f S) (fun w => pX t0 (nV t0) (del (del S f) w) + 1099511627776 + dgt f w + dgt w f) v < 2 ^ 62 := mx_lt (by have := pX_lt d1 (del S f); omega) _ (fun i hi q => by
          have h1 := pX_lt d1 (del (del S f) i)
          have h2 := dgt_lt f i
          have h3 := dgt_lt i f
          show pX t0 (nV t0) (del (del S f) i) + 1099511627776 + dgt f i + dgt i f < _
          omega)
        have e1 := pk_lLT (a := pX t0 (nV t0) (del (del S f) v) + 1099511627776 + dgt f v + dgt v f) (b := mx (pX t0 (nV t0) (del S f)) (pCd t0 f S) (fun w => pX t0 (nV t0) (del (del S f) w) + 1099511627776 + dgt f w + dgt w f) v) (by omega) (by omega)
        by_cases g2 : pX t0 (nV t0) (del (del S f) v) + 1099511627776 + dgt f v + dgt v f < mx (pX t0 (nV t0) (del S f)) (pCd t0 f S) (fun w => pX t0 (nV t0) (del (del S f) w) + 1099511627776 + dgt f w + dgt w f) v
        · rw [if_pos (e1.mpr g2), if_pos g2]
        · rw [if_neg (fun t => g2 (e1.mp t)), if_neg g2]
      · have hc : ¬ pCd t0 f S v = true := by rw [hcd, c1]; unfold prs; simpa using c2
        rw [if_neg hc, if_neg (show ¬ nI (pc8 (hiB t0.2 f ^^^ hiB t0.2 v)) = 1 from fun t => c2 (hpe.mp t)), b1_some, if_neg (by decide), b1_some]
    · have hc : ¬ pCd t0 f S v = true := by rw [hcd]; simp [c1]
      rw [if_neg hc, if_neg (fun t => c1 (hbv.symm.trans ((bit_is (by omega) (by omega)).mp t))), b1_some, if_neg (by decide), b1_some]
theorem x_firstPaired (r : RDx z t0 t1) (d1 : nV t0 ≤ 8) {S : Nat} (h0 : S ≠ 0) (hS : S < 2 ^ nV t0) (hJ : ∀ R, R < S → rJ z 43 R = lN (pX t0 (nV t0) R)) : f_X3_firstPaired 1 (nI S) z = some (lN (pX t0 (nV t0) S)) := by
  have p8 : 2 ^ nV t0 ≤ 256 := Nat.pow_le_pow_right (n := 2) (by decide) d1
  have hS8 : S < 256 := by omega
  obtain ⟨h1, h2⟩ := tz_is hS8 h0
  have hf := bit_lt hS h2
  have hdl := del_lt h1 h2
  unfold f_X3_firstPaired
  rw [show f_J6_numberOfTrailingZeros_0f7a4 (nI S) = some (nI (tz S)) from x_ntz' ⟨S, hS8⟩ h0, b1_some, show nI S &&& (nI S - (1 : Int32)) = nI (del S (tz S)) from x_rest' ⟨S, hS8⟩ h0]
  rw [ck_pos (ib_nI (by omega) (by decide)), ix_nI (by omega), hJ _ hdl, nI_l1]
  have := x_fp_lp r d1 hf hS8 hJ h2 (nV t0 - (tz S + 1)) (tz S + 1) (4096 - 1 - (nV t0 - (tz S + 1))) (by omega) (by omega)
  rw [mx_more (m := 0) (tz S + 1) (by omega) (fun i _ hi => by unfold pCd; rw [decide_eq_false (show ¬ tz S < i by omega)]; rfl), show 4096 - 1 - (nV t0 - (tz S + 1)) + 1 + (nV t0 - (tz S + 1)) = 4096 by omega, ← pX_at d1 hf (fun i hi => tz_lo hS8 hi) h2] at this
  show b1 (f_X3_firstPaired_lp1 1 (nI (tz S)) (nI (del S (tz S))) z 4096 (lN (pX t0 (nV t0) (del S (tz S)))) (nI (tz S + 1))) _ = _
  rw [show f_X3_firstPaired_lp1 1 (nI (tz S)) (nI (del S (tz S))) z 4096 (lN (pX t0 (nV t0) (del S (tz S)))) (nI (tz S + 1)) = _ from this, b1_some]
theorem x_findPairs (r : RDx z t0 t1) (d1 : nV t0 ≤ 8) : ∃ z', f_X3_findPairs 1 z = some z' ∧ z'.1 = z.1 ∧ rJ z' 42 2 = lN (pX t0 (nV t0) (2 ^ nV t0 - 1)) ∧ (∀ u q, u ≠ 43 → ¬ (u = 42 ∧ q = 2) → rJ z' u q = rJ z u q) := by
  have p8 : 2 ^ nV t0 ≤ 256 := Nat.pow_le_pow_right (n := 2) (by decide) d1
  have p0 : 0 < 2 ^ nV t0 := Nat.pow_pos (by decide)
  have key := lp_fo (fun m i z => f_X3_findPairs_lp1 1 (nI (2 ^ nV t0)) m i z) (2 ^ nV t0) (fun i z => wJ z 43 i (lN (pX t0 (nV t0) i))) (fun z => z) (fun i z' => z'.1 = z.1 ∧ (∀ S, S < i → rJ z' 43 S = lN (pX t0 (nV t0) S)) ∧ (∀ u q, u ≠ 43 → rJ z' u q = rJ z u q) ∧ 1 ≤ i) (fun m z' _ => by
    show f_X3_findPairs_lp1 1 _ (m + 1) _ z' = some z'
    rw [f_X3_findPairs_lp1, if_neg Int32.lt_irrefl]) (fun m i z' hi hP => by
    obtain ⟨p1, p2, p3, p4⟩ := hP
    refine ⟨?_, p1, ?_, ?_, by omega⟩
    · show f_X3_findPairs_lp1 1 _ (m + 1) _ z' = f_X3_findPairs_lp1 1 _ m _ _
      rw [f_X3_findPairs_lp1, if_pos (nI_lt hi (by omega)), x_firstPaired (r.of p1) d1 (by omega) hi p2, b1_some, ck_pos (ib_nI (by omega) (by decide)), nI_l1, ix_nI (by omega)]
    · intro S hS
      rw [rJ_wJ]
      by_cases q : S = i
      · rw [if_pos ⟨rfl, q⟩, q]
      · rw [if_neg (fun t => q t.2)]; exact p2 S (by omega)
    · intro u q hu
      rw [rJ_wJ, if_neg (fun t => hu t.1)]
      exact p3 u q hu) (2 ^ nV t0 - 1) 1 4096 (wJ z 43 0 0) (by omega) (by omega) ⟨rfl, fun S hS => by
        obtain rfl : S = 0 := by omega
        rw [rJ_wJ, if_pos ⟨rfl, rfl⟩, pX_up (nV t0) (Nat.le_refl _) (fun i _ => Nat.zero_testBit i), Nat.sub_self]
        rfl, fun u q hu => by rw [rJ_wJ, if_neg (fun t => hu t.1)], Nat.le_refl _⟩
  obtain ⟨k1, k2, k3, k4, -⟩ := key
  refine ⟨wJ _ 42 2 (lN (pX t0 (nV t0) (2 ^ nV t0 - 1))), ?_, k2, ?_, ?_⟩
  · unfold f_X3_findPairs
    rw [ck_pos (by decide), r.1, one_shl (by omega), show ix (0 : Int32) = 0 by decide, show (1 : Int32) = nI 1 from rfl, show f_X3_findPairs_lp1 1 (nI (2 ^ nV t0)) 4096 (nI 1) (wJ z 43 0 0) = _ from k1, b1_some, show nI (2 ^ nV t0) - nI 1 = nI (2 ^ nV t0 - 1) from pk_sub p0, ck_pos (ib_nI (by omega) (by decide)), ix_nI (by omega), k3 _ (by omega)]
  · rw [rJ_wJ, if_pos ⟨rfl, rfl⟩]
  · intro u q h1 h2
    rw [rJ_wJ, if_neg h2]
    exact k4 u q h1
end PX
theorem fr_fm2 : ∀ (n : Nat) (s v f i : Int32) (w : Int64) (z z' : Sg), f_X3_findMatch_lp2 s v f w n i z = some z' → ∀ u q, u ≠ 43 → rJ z' u q = rJ z u q
  | 0, _, _, _, _, _, _, _, h, _, _, _ => by cases h
  | n + 1, s, v, f, i, w, z, z', h, u, q, hu => by
    rw [f_X3_findMatch_lp2] at h
    by_cases c : i < s
    · rw [if_pos c] at h
      obtain ⟨r, -, h⟩ := b1_of h
      obtain ⟨-, h⟩ := ck_of h
      rw [fr_fm2 n _ _ _ _ _ _ _ h u q hu, rJ_wJ, if_neg (fun t => hu t.1)]
    · rw [if_neg c] at h
      rw [so1 h]
theorem fr_fm1 : ∀ (n o : Nat) (s i : Int32) (z z' : Sg), f_X3_findMatch_lp1 o s n i z = some z' → ∀ u q, u ≠ 43 → rJ z' u q = rJ z u q
  | 0, _, _, _, _, _, h, _, _, _ => by cases h
  | n + 1, o, s, i, z, z', h, u, q, hu => by
    rw [f_X3_findMatch_lp1] at h
    by_cases c : 0 ≤ i
    · rw [if_pos c] at h
      obtain ⟨r, -, h⟩ := b1_of h
      obtain ⟨-, h⟩ := ck_of h
      obtain ⟨z2, h2, h⟩ := b1_of h
      rw [fr_fm1 n _ _ _ _ _ h u q hu, fr_fm2 _ _ _ _ _ _ _ _ h2 u q hu]
    · rw [if_neg c] at h
      rw [so1 h]
theorem fr_fm {z z' : Sg} (h : f_X3_findMatch z = some z') {u q : Nat} (h1 : u ≠ 43) (h2 : u ≠ 42) : rJ z' u q = rJ z u q := by
  unfold f_X3_findMatch at h
  obtain ⟨z1, e1, -, -, f1⟩ := L_fill 43 0 (n := 256) (by decide) z
  rw [e1, b1_some] at h
  obtain ⟨z2, g2, h⟩ := b1_of h
  obtain ⟨-, h⟩ := ck_of h
  rw [← so1 h, rJ_wJ, if_neg (fun t => h2 t.1), fr_fm1 _ _ _ _ _ _ g2 u q h1, f1 u h1 q]
/-- what the class keeps of rows -/
def PRr (f : Nat → Int64) (t0 t1 : Tx) : Prop := f 1 = lN (mX t0 t1 (nV t0) 0) ∧ f 2 = lN (pX t0 (nV t0) (2 ^ nV t0 - 1))
section BR
variable {PT : VT → KT → Prop}
theorem x_bestRows {z : Sg} {a : Ab} (h : AXg PT PRr z a) : ∃ z', f_X7_bestRows z = some (42, z') ∧ AXg PT PRr z' a ∧ PRr (rJ z' 42) (aT0 a) (aT1 a) := by
  have d := h.1.dok
  have r := h.1.rd
  unfold f_X7_bestRows
  rcases h.2.2 with h11 | ⟨h11, hp⟩
  · rw [h11, if_neg (by simp)]
    obtain ⟨z1, e1, i1, j1⟩ := x_findMatch r d
    obtain ⟨z2, e2, i2, j2, f2⟩ := x_findPairs (r.of i1) d.1
    have hP : PRr (rJ (wI z2 0 11 1) 42) (aT0 a) (aT1 a) := ⟨by rw [rJ_wI, f2 42 1 (by decide) (by decide), j1], by rw [rJ_wI, j2]⟩
    have hI : ∀ u, u ≠ 0 → rI (wI z2 0 11 1) u = rI z u := fun u hu => by
      rw [rIf_wI, if_neg hu]
      unfold rI
      rw [i2, i1]
    have hI0 : ∀ k, k ≠ 11 → rI (wI z2 0 11 1) 0 k = rI z 0 k := fun k hk => by
      rw [rI_wI, if_neg (fun t => hk t.2)]
      unfold rI
      rw [i2, i1]
    refine ⟨wI z2 0 11 1, ?_, ⟨h.1.fr (fun u hu _ => hI u (by omega)) (hI0 12 (by decide)), ?_, Or.inr ⟨by rw [rI_wI, if_pos ⟨rfl, rfl⟩], hP⟩⟩, hP⟩
    · rw [e1, b1_some, e2, b1_some, b1_some]
    · rw [hI0 10 (by decide)]
      have hJ : rJ (wI z2 0 11 1) 20 = rJ z 20 := by
        funext q
        rw [rJ_wI, f2 20 q (by decide) (fun t => absurd t.1 (by decide)), fr_fm e1 (by decide) (by decide)]
      have hv : vT (wI z2 0 11 1) = vT z := by
        unfold vT
        rw [hI 20 (by decide), hI 26 (by decide), hI 27 (by decide), hI 28 (by decide), hI 29 (by decide), hI 30 (by decide), hJ]
      rw [hv]
      exact h.2.1
  · rw [h11, if_pos ne10, b1_some]
    exact ⟨z, rfl, h, hp⟩
theorem X_match {z : Sg} {a : Ab} (h : AXg PT PRr z a) (i : Int32) : ∃ z', f_X7_match i z = some (sMatch i a, z') ∧ AXg PT PRr z' a := by
  have d := h.1.dok
  have d1 := d.1
  obtain ⟨z', e, h', hp⟩ := x_bestRows h
  have hx := mX_lt d (Nat.le_refl (nV (aT0 a))) 0
  obtain ⟨hm, hr⟩ := mX_is d (nV (aT0 a)) (Nat.le_refl _) 0
  have hb := mB_in d (nV (aT0 a)) (Nat.le_refl _) 0
  have hr8 : mR (aT0 a) (aT1 a) (nV (aT0 a)) 0 < 4294967296 := by
    have : 16 ^ (8 - nV (aT0 a) + nV (aT0 a)) ≤ 16 ^ 8 := Nat.pow_le_pow_right (by decide) (by omega)
    rw [show (16 : Nat) ^ 8 = 4294967296 by decide] at this
    omega
  unfold f_X7_match sMatch
  by_cases c2 : i = -2
  · refine ⟨z', ?_, h'⟩
    subst c2
    rw [if_neg (by decide), if_neg (by decide), b1_some, if_neg (by decide), e, b2_some, ck_pos kX_42, if_pos rfl, if_pos rfl, hp.1, x_countOf (by omega), b1_some]
    congr 3
    rw [hm]
    unfold eR
    rw [show (2 : Nat) ^ 40 = 1099511627776 by decide]
    omega
  rw [if_neg c2]
  by_cases c1 : i = -1
  · refine ⟨z', ?_, h'⟩
    subst c1
    rw [if_neg (by decide), if_neg (by decide), b1_some, if_neg (by decide), e, b2_some, ck_pos kX_42, if_neg (by decide), if_pos rfl, if_pos rfl, hp.1, x_worthOf (by omega), b1_some, b1_some]
    congr 3
    rw [hm]
    unfold eR
    rw [show (2 : Nat) ^ 32 = 4294967296 by decide]
    omega
  rw [if_neg c1]
  rcases arg_cases i 8 (by decide) with hi | ⟨i, hi, rfl⟩
  · refine ⟨z, ?_, h⟩
    rw [if_pos (show bad i 8 from hi)]
    rcases hi with q | q
    · have : i < -2 := by
        have h1 : i.toInt ≠ (-2 : Int32).toInt := fun t => c2 (Int32.toInt_inj.mp t)
        have h2 : i.toInt ≠ (-1 : Int32).toInt := fun t => c1 (Int32.toInt_inj.mp t)
        have h3 := Int32.lt_iff_toInt_lt.mp q
        rw [show (-2 : Int32).toInt = -2 by decide] at h1
        rw [show (-1 : Int32).toInt = -1 by decide] at h2
        rw [show (0 : Int32).toInt = 0 by decide] at h3
        apply Int32.lt_iff_toInt_lt.mpr
        rw [show (-2 : Int32).toInt = -2 by decide]
        omega
      rw [if_pos this, b1_some, if_pos rfl]
    · rw [if_pos (show (8 : Int32) ≤ i from q)]
      by_cases g : i < -2
      · rw [if_pos g, b1_some, if_pos rfl]
      · rw [if_neg g, b1_some, if_pos rfl]
  · refine ⟨z', ?_, h'⟩
    have n1 := not_bad hi (by decide)
    have hq : ¬ nI i < (-2 : Int32) := fun t => nI_pos (show i < 2 ^ 31 by omega) (Int32.lt_trans t (by decide))
    rw [if_neg n1, if_neg hq, if_neg (show ¬ (8 : Int32) ≤ nI i from nI_ge hi (by decide)), b1_some, if_neg (by decide), e, b2_some, ck_pos kX_42, if_neg c2, if_neg c1, hp.1, x_otherOf (by omega) hi, b1_some, b1_some, ix_nI (by omega), mX_dig d hi]
    cases hg : mO (aT0 a) (aT1 a) i with
    | none => rfl
    | some c =>
      have hc : c < nC (aT1 a) := by
        unfold mO at hg
        by_cases g : i < nV (aT0 a)
        · rw [if_pos g] at hg; exact (mG_lt hg).1
        · rw [if_neg g] at hg; cases hg
      have d2 := d.2.1
      show some ((if 8 - c = 0 then (-1 : Int32) else 8 - nI (8 - c)), z') = some (nI c, z')
      rw [if_neg (by omega), show (8 : Int32) - nI (8 - c) = nI (8 - (8 - c)) from pk_sub (a := 8) (b := 8 - c) (by omega), show 8 - (8 - c) = c by omega]
/-- the other of a pair, out of a digit -/
def dgI (d : Nat) : Int32 := if d = 0 then -1 else nI (8 - d)
def sTogether (i : Int32) (a : Ab) : Int32 := if i = -1 then nI (pB (aT0 a) (nV (aT0 a)) (2 ^ nV (aT0 a) - 1)) else if bad i 8 then -2 else dgI (pW (aT0 a) (nV (aT0 a)) (2 ^ nV (aT0 a) - 1) (ix i))
theorem pW_le {t0 : Tx} (d1 : nV t0 ≤ 8) : ∀ k, k ≤ nV t0 → ∀ S i, pW t0 k S i ≤ 8
  | 0, _, S, i => by show 0 ≤ 8; decide
  | k + 1, hk, S, i => by
    rw [pW_s]
    split
    · cases pG t0 k S with
      | none => exact pW_le d1 k (by omega) S i
      | some w =>
        show fset (fset (pW t0 k (del S w)) w (8 - (nV t0 - 1 - k))) (nV t0 - 1 - k) (8 - w) i ≤ 8
        unfold fset
        split
        · omega
        · split
          · omega
          · exact pW_le d1 k (by omega) _ i
    · exact pW_le d1 k (by omega) S i
theorem X_together {z : Sg} {a : Ab} (h : AXg PT PRr z a) (i : Int32) : ∃ z', f_X7_together i z = some (sTogether i a, z') ∧ AXg PT PRr z' a := by
  have d := h.1.dok
  have d1 := d.1
  obtain ⟨z', e, h', hp⟩ := x_bestRows h
  have hx := pX_lt d1 (2 ^ nV (aT0 a) - 1)
  obtain ⟨hm, hb⟩ := pX_is d1 (nV (aT0 a)) (Nat.le_refl _) (2 ^ nV (aT0 a) - 1)
  have hr := num_lt (f := pW (aT0 a) (nV (aT0 a)) (2 ^ nV (aT0 a) - 1)) (fun i => (pW_in d1 _ (Nat.le_refl _) _ i).1) (j := 0) (by omega) (fun i hi => by omega)
  rw [show (16 : Nat) ^ (8 - 0) = 4294967296 by decide] at hr
  unfold f_X7_together sTogether
  by_cases c1 : i = -1
  · refine ⟨z', ?_, h'⟩
    subst c1
    rw [if_neg (by decide), if_neg (by decide), b1_some, if_neg (by decide), e, b2_some, ck_pos kX_42, if_pos rfl, if_pos rfl, hp.2, x_countOf (by omega), b1_some, b1_some]
    congr 3
    rw [hm]
    unfold e40
    rw [show (2 : Nat) ^ 40 = 1099511627776 by decide]
    omega
  rw [if_neg c1]
  rcases arg_cases i 8 (by decide) with hi | ⟨i, hi, rfl⟩
  · refine ⟨z, ?_, h⟩
    rw [if_pos (show bad i 8 from hi)]
    rcases hi with q | q
    · have : i < -1 := by
        have h2 : i.toInt ≠ (-1 : Int32).toInt := fun t => c1 (Int32.toInt_inj.mp t)
        have h3 := Int32.lt_iff_toInt_lt.mp q
        rw [show (-1 : Int32).toInt = -1 by decide] at h2
        rw [show (0 : Int32).toInt = 0 by decide] at h3
        apply Int32.lt_iff_toInt_lt.mpr
        rw [show (-1 : Int32).toInt = -1 by decide]
        omega
      rw [if_pos this, b1_some, if_pos rfl]
    · rw [if_pos (show (8 : Int32) ≤ i from q)]
      by_cases g : i < -1
      · rw [if_pos g, b1_some, if_pos rfl]
      · rw [if_neg g, b1_some, if_pos rfl]
  · refine ⟨z', ?_, h'⟩
    have n1 := not_bad hi (by decide)
    have hq : ¬ nI i < (-1 : Int32) := fun t => nI_pos (show i < 2 ^ 31 by omega) (Int32.lt_trans t (by decide))
    have hdig : pX (aT0 a) (nV (aT0 a)) (2 ^ nV (aT0 a) - 1) / 16 ^ (7 - i) % 16 = pW (aT0 a) (nV (aT0 a)) (2 ^ nV (aT0 a) - 1) i := by
      have := num_dig (f := pW (aT0 a) (nV (aT0 a)) (2 ^ nV (aT0 a) - 1)) (fun i => (pW_in d1 _ (Nat.le_refl _) _ i).1) hi (pB (aT0 a) (nV (aT0 a)) (2 ^ nV (aT0 a) - 1) * 256)
      rw [show pB (aT0 a) (nV (aT0 a)) (2 ^ nV (aT0 a) - 1) * 256 * 16 ^ 8 = e40 (pB (aT0 a) (nV (aT0 a)) (2 ^ nV (aT0 a) - 1)) by unfold e40; rw [show (16 : Nat) ^ 8 = 4294967296 by decide]; omega, ← hm] at this
      exact this
    have hle := pW_le d1 _ (Nat.le_refl _) (2 ^ nV (aT0 a) - 1) i
    rw [if_neg n1, if_neg hq, if_neg (show ¬ (8 : Int32) ≤ nI i from nI_ge hi (by decide)), b1_some, if_neg (by decide), e, b2_some, ck_pos kX_42, if_neg c1, hp.2, x_otherOf (by omega) hi, b1_some, b1_some, ix_nI (by omega), hdig]
    unfold dgI
    by_cases g : pW (aT0 a) (nV (aT0 a)) (2 ^ nV (aT0 a) - 1) i = 0
    · rw [if_pos g, if_pos g]
    · rw [if_neg g, if_neg g, show (8 : Int32) - nI (pW (aT0 a) (nV (aT0 a)) (2 ^ nV (aT0 a) - 1) i) = nI (8 - pW (aT0 a) (nV (aT0 a)) (2 ^ nV (aT0 a) - 1) i) from pk_sub (a := 8) hle]
end BR
