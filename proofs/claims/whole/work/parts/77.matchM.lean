/-! MATCH: the reference. -/
theorem RDm.of {z z' : Sg} {t0 t1 : Tx} (r : RDm z t0 t1) (h : ∀ u, u < 15 → rI z' u = rI z u) : RDm z' t0 t1 := by
  unfold RDm at *
  rw [h 0 (by decide), h 3 (by decide), h 4 (by decide), h 5 (by decide), h 6 (by decide), h 7 (by decide)]
  exact r
section MM
variable {z : Sg} {t0 t1 : Tx}
/-- the reference's table holds the last k rows -/
def mTb (t0 t1 : Tx) (k : Nat) (f : Nat → Int32) : Prop := ∀ j S, j < k → S < 256 → f (256 * (nV t0 - 1 - j) + S) = nI (mB t0 t1 (j + 1) S)
theorem m_tb {k S : Nat} (r : RDm z t0 t1) (d : DOK t0 t1) (hk : k < nV t0) (hS : S < 256) (hT : mTb t0 t1 k (rI z 15)) : (if nI (nV t0 - 1 - k) = rI z 0 2 - (1 : Int32) then some (0 : Int32) else ck (ib ((256 : Int32) * (nI (nV t0 - 1 - k) + (1 : Int32)) + nI S) 2304) (some (rI z 15 (ix ((256 : Int32) * (nI (nV t0 - 1 - k) + (1 : Int32)) + nI S))))) = some (nI (mB t0 t1 k S)) := by
  have d1 := d.1
  rw [r.1, nI_sub1 (by omega), nI_l1, show (256 : Int32) * nI (nV t0 - 1 - k + 1) + nI S = nI (256 * (nV t0 - 1 - k + 1) + S) by rw [show (256 : Int32) = nI 256 from rfl, nI_mul, nI_plus]]
  by_cases c : k = 0
  · subst c
    rw [if_pos (by rw [Nat.sub_zero])]
    rfl
  · rw [if_neg (fun q => by have := nI_inj (by omega) (by omega) q; omega), ck_pos (ib_nI (by omega) (by decide)), ix_nI (by omega)]
    have := hT (k - 1) S (by omega) hS
    rw [show nV t0 - 1 - (k - 1) = nV t0 - 1 - k + 1 by omega, show k - 1 + 1 = k by omega] at this
    rw [this]
theorem mB_lt (d : DOK t0 t1) {k : Nat} (hk : k ≤ nV t0) (S : Nat) : mB t0 t1 k S ≤ 8072 := by
  have d1 := d.1
  have := mB_in d k hk S
  omega
theorem m_cd (r : RDm z t0 t1) (d : DOK t0 t1) {v S c : Nat} (hv : v < nV t0) (hS : S < 256) (hc : c < nC t1) : (b1 (f_X8_isIn (nI S) (nI c)) fun r28 => if ¬ r28 = 0 then some false else b1 (f_X8_fits (nI c) (nI v) z) fun r31 => if ¬ r31 = 0 then some true else some false) = some (mCd t0 t1 v S c) := by
  have d2 := d.2.1
  rw [m_isIn (by omega) (by omega), b1_some, m_fits r d hc hv, b1_some]
  unfold mCd
  cases S.testBit c <;> cases fit t0 t1 c v <;> rfl
theorem m_lm3 (r : RDm z t0 t1) (d : DOK t0 t1) {k S : Nat} (hk : k < nV t0) (hS : S < 256) (hT : mTb t0 t1 k (rI z 15)) : f_X8_laysMatch_lp3 (nI (nV t0 - 1 - k)) (nI S) z 4096 (nI (mB t0 t1 k S)) 0 = some (nI (mB t0 t1 (k + 1) S)) := by
  have d1 := d.1
  have d2 := d.2.1
  have hf := d.2.2.1 (nV t0 - 1 - k) (by omega)
  exact lp_up (fun n b i => f_X8_laysMatch_lp3 (nI (nV t0 - 1 - k)) (nI S) z n b i) (nC t1) (fun i => nI (bst (mB t0 t1 k S) (mCd t0 t1 (nV t0 - 1 - k) S) (fun c => 1000 + fgB t0.2 (nV t0 - 1 - k) + mB t0 t1 k (S ||| 2 ^ c)) i).1) _ (fun n => by
    show f_X8_laysMatch_lp3 _ _ z (n + 1) _ _ = _
    rw [f_X8_laysMatch_lp3, r.2.1, if_neg Int32.lt_irrefl]; rfl) (fun n i hi => by
    show f_X8_laysMatch_lp3 _ _ z (n + 1) _ _ = f_X8_laysMatch_lp3 _ _ z n _ _
    have hb : (bst (mB t0 t1 k S) (mCd t0 t1 (nV t0 - 1 - k) S) (fun c => 1000 + fgB t0.2 (nV t0 - 1 - k) + mB t0 t1 k (S ||| 2 ^ c)) i).1 < 2 ^ 31 := by
      rcases bst_in (mB t0 t1 k S) (mCd t0 t1 (nV t0 - 1 - k) S) (fun c => 1000 + fgB t0.2 (nV t0 - 1 - k) + mB t0 t1 k (S ||| 2 ^ c)) i with e | ⟨j, -, -, e⟩
      · rw [e]; have := mB_lt d (show k ≤ nV t0 by omega) S; omega
      · rw [e]
        have := mB_lt d (show k ≤ nV t0 by omega) (S ||| 2 ^ j)
        show 1000 + _ + mB t0 t1 k (S ||| 2 ^ j) < _
        omega
    have hm := mB_lt d (show k ≤ nV t0 by omega) (S ||| 2 ^ i)
    rw [f_X8_laysMatch_lp3, r.2.1, if_pos (nI_lt hi (by omega)), m_cd r d (by omega) hS hi, b1_some, nI_l1 (i := i), bst_fst]
    by_cases q : mCd t0 t1 (nV t0 - 1 - k) S i = true
    · rw [if_pos q, if_pos q, ck_pos (ib_nI (by omega) (by decide)), one_shl (by omega), nI_or]
      rw [m_tb r d hk (or_lt256 hS (by omega)) hT, b1_some, ix_nI (by omega), (r.2.2.1 _ (show nV t0 - 1 - k < nV t0 by omega)).2, show (1000 : Int32) = nI 1000 from rfl, nI_plus, nI_plus]
      have e1 := nI_ltI (a := (bst (mB t0 t1 k S) (mCd t0 t1 (nV t0 - 1 - k) S) (fun c => 1000 + fgB t0.2 (nV t0 - 1 - k) + mB t0 t1 k (S ||| 2 ^ c)) i).1) (b := 1000 + fgB t0.2 (nV t0 - 1 - k) + mB t0 t1 k (S ||| 2 ^ i)) hb (by omega)
      by_cases g : (bst (mB t0 t1 k S) (mCd t0 t1 (nV t0 - 1 - k) S) (fun c => 1000 + fgB t0.2 (nV t0 - 1 - k) + mB t0 t1 k (S ||| 2 ^ c)) i).1 < 1000 + fgB t0.2 (nV t0 - 1 - k) + mB t0 t1 k (S ||| 2 ^ i)
      · rw [if_pos (e1.mpr g), if_pos g, b1_some, b1_some]
      · rw [if_neg (fun t => g (e1.mp t)), if_neg g, b1_some, b1_some]
    · rw [if_neg q, if_neg q, b1_some]) 4096 (by omega)

theorem m_lm2 (r : RDm z t0 t1) (d : DOK t0 t1) {k : Nat} (hk : k < nV t0) (hT : mTb t0 t1 k (rI z 15)) : ∃ z', f_X8_laysMatch_lp2 (nI (nV t0 - 1 - k)) 4096 0 z = some z' ∧ (∀ u, u ≠ 15 → rI z' u = rI z u) ∧ mTb t0 t1 (k + 1) (rI z' 15) := by
  have d1 := d.1
  have key := lp_fo (fun m i z => f_X8_laysMatch_lp2 (nI (nV t0 - 1 - k)) m i z) 256 (fun i z => wI z 15 (256 * (nV t0 - 1 - k) + i) (nI (mB t0 t1 (k + 1) i))) (fun z => z) (fun i z' => (∀ u, u ≠ 15 → rI z' u = rI z u) ∧ mTb t0 t1 k (rI z' 15) ∧ ∀ S, S < i → rI z' 15 (256 * (nV t0 - 1 - k) + S) = nI (mB t0 t1 (k + 1) S)) (fun m z' _ => by
    show f_X8_laysMatch_lp2 _ (m + 1) _ z' = some z'
    rw [f_X8_laysMatch_lp2, if_neg (show ¬ nI 256 < (256 : Int32) from Int32.lt_irrefl)]) (fun m i z' hi hP => by
    obtain ⟨p1, p2, p3⟩ := hP
    have r' : RDm z' t0 t1 := r.of (fun u hu => p1 u (by omega))
    refine ⟨?_, ?_, ?_, ?_⟩
    · show f_X8_laysMatch_lp2 _ (m + 1) _ z' = f_X8_laysMatch_lp2 _ m _ _
      rw [f_X8_laysMatch_lp2, if_pos (show nI i < (256 : Int32) from nI_lt (b := 256) hi (by decide)), m_tb r' d hk hi p2, b1_some, m_lm3 r' d hk hi p2, b1_some, show (256 : Int32) * nI (nV t0 - 1 - k) + nI i = nI (256 * (nV t0 - 1 - k) + i) by rw [show (256 : Int32) = nI 256 from rfl, nI_mul, nI_plus], ck_pos (ib_nI (by omega) (by decide)), nI_l1, ix_nI (by omega)]
    · intro u hu
      rw [rIf_wI, if_neg hu]; exact p1 u hu
    · intro j S hj hS
      rw [rI_wI, if_neg (fun t => by omega)]
      exact p2 j S hj hS
    · intro S hS
      rw [rI_wI]
      by_cases q : S = i
      · rw [if_pos ⟨rfl, by omega⟩, q]
      · rw [if_neg (fun t => by omega)]; exact p3 S (by omega)) 256 0 4096 z (by omega) (by omega) ⟨fun _ _ => rfl, hT, fun S h => by omega⟩
  refine ⟨_, ?_, key.2.1, ?_⟩
  · have := key.1
    rw [nI_0] at this
    exact this
  · intro j S hj hS
    rcases Nat.lt_or_ge j k with q | q
    · exact key.2.2.1 j S q hS
    · obtain rfl : j = k := by omega
      exact key.2.2.2 S hS
theorem m_lm1 (r : RDm z t0 t1) (d : DOK t0 t1) : ∀ (e k n : Nat) (z' : Sg), k + e = nV t0 → (∀ u, u ≠ 15 → rI z' u = rI z u) → mTb t0 t1 k (rI z' 15) → ∃ z'', f_X8_laysMatch_lp1 (n + 1 + e) (nI e + (-1 : Int32)) z' = some z'' ∧ (∀ u, u ≠ 15 → rI z'' u = rI z u) ∧ mTb t0 t1 (nV t0) (rI z'' 15)
  | 0, k, n, z', hk, h1, h2 => by
    obtain rfl : k = nV t0 := by omega
    refine ⟨z', ?_, h1, h2⟩
    rw [Nat.add_zero, nI_0m1, f_X8_laysMatch_lp1, if_neg (by decide)]
  | e + 1, k, n, z', hk, h1, h2 => by
    have d1 := d.1
    have r' : RDm z' t0 t1 := r.of (fun u hu => h1 u (by omega))
    have hv : e = nV t0 - 1 - k := by omega
    obtain ⟨z2, e2, i2, j2⟩ := m_lm2 r' d (show k < nV t0 by omega) h2
    obtain ⟨z3, e3, i3, j3⟩ := m_lm1 r d e (k + 1) n z2 (by omega) (fun u hu => (i2 u hu).trans (h1 u hu)) j2
    refine ⟨z3, ?_, i3, j3⟩
    rw [← hv] at e2
    rw [nI_m1, show n + 1 + (e + 1) = (n + 1 + e) + 1 by omega, f_X8_laysMatch_lp1, if_pos (nI_pos' (by omega)), e2, b1_some]
    exact e3
end MM
