/-! MATCH: the class, the whole. -/
theorem nI_m1 {m : Nat} : nI (m + 1) + (-1 : Int32) = nI m := by
  have := nI_sub1 (m := m + 1) (by omega)
  rw [Nat.add_sub_cancel] at this
  rw [← this, Int32.sub_eq_add_neg]
theorem nI_0m1 : nI 0 + (-1 : Int32) = -1 := by decide
theorem nI_0s1 : nI 0 - (1 : Int32) = -1 := by decide
theorem fig_shl' : ∀ f : Fin 10, lshlj (nI f.1).toInt64 32 = lN (f.1 * 4294967296) := by decide +kernel
theorem fig_shl {f : Nat} (h : f ≤ 9) : lshlj (nI f).toInt64 32 = lN (f * 4294967296) := fig_shl' ⟨f, by omega⟩
theorem L_fill (a : Nat) (v : Int64) {n : Nat} (hn : n < 4096) (z : Sg) : ∃ z', f_J7_fill_d0a16 a v n z = some z' ∧ z'.1 = z.1 ∧ (∀ q, q < n → rJ z' a q = v) ∧ ∀ u, u ≠ a → ∀ q, rJ z' u q = rJ z u q := by
  have key := lp_fo (fun m i z => f_J7_fill_d0a16_lp1 a v (Int32.ofNat n) n m i z) n (fun i z => wJ z a i v) (fun z => z) (fun k z' => z'.1 = z.1 ∧ (∀ q, q < k → rJ z' a q = v) ∧ ∀ u, u ≠ a → ∀ q, rJ z' u q = rJ z u q) (fun m z _ => by
    show f_J7_fill_d0a16_lp1 a v (nI n) n (m + 1) (nI n) z = some z
    rw [f_J7_fill_d0a16_lp1, if_neg (by exact Int32.lt_irrefl)]) (fun m i z' hi hP => ⟨by
    show f_J7_fill_d0a16_lp1 a v (nI n) n (m + 1) (nI i) z' = f_J7_fill_d0a16_lp1 a v (nI n) n m (nI (i + 1)) (wJ z' a i v)
    rw [f_J7_fill_d0a16_lp1, if_pos (nI_lt hi (by omega)), ck_pos (ib_nI hi (by omega)), nI_l1, ix_nI (by omega)], hP.1, fun q hq => by
      rw [rJ_wJ]
      by_cases e : q = i
      · rw [if_pos ⟨rfl, e⟩]
      · rw [if_neg (fun t => e t.2)]; exact hP.2.1 q (by omega), fun u hu q => by rw [rJ_wJ, if_neg (fun t => hu t.1)]; exact hP.2.2 u hu q⟩) n 0 4096 z (by omega) hn ⟨rfl, fun q h => by omega, fun _ _ _ => rfl⟩
  refine ⟨_, ?_, key.2⟩
  unfold f_J7_fill_d0a16
  have := key.1
  rw [nI_0] at this
  rw [this]
  rfl
section MX2
variable {t0 t1 : Tx} {z : Sg}
theorem x_fm_lp1 (r : RDx z t0 t1) (d : DOK t0 t1) : ∀ (e k n : Nat) (z' : Sg), k + e = nV t0 → z'.1 = z.1 → (∀ S, S < 2 ^ nC t1 → rJ z' 43 S = lN (mX t0 t1 k S)) → ∃ z'', f_X3_findMatch_lp1 9 (nI (2 ^ nC t1)) (n + 1 + e) (nI e + (-1 : Int32)) z' = some z'' ∧ z''.1 = z.1 ∧ ∀ S, S < 2 ^ nC t1 → rJ z'' 43 S = lN (mX t0 t1 (nV t0) S)
  | 0, k, n, z', hk, h1, h2 => by
    obtain rfl : k = nV t0 := by omega
    refine ⟨z', ?_, h1, h2⟩
    rw [Nat.add_zero, nI_0m1, f_X3_findMatch_lp1, if_neg (by decide)]
  | e + 1, k, n, z', hk, h1, h2 => by
    have d1 := d.1
    have r' := r.of h1
    have hv : e = nV t0 - 1 - k := by omega
    obtain ⟨z2, e2, i2, j2⟩ := x_fm_lp2 (z := z') d (show k < nV t0 by omega) h2
    obtain ⟨z3, e3, i3, j3⟩ := x_fm_lp1 r d e (k + 1) n z2 (by omega) (i2.trans h1) j2
    refine ⟨z3, ?_, i3, j3⟩
    rw [← hv] at e2
    have hf := d.2.2.1 e (by omega)
    rw [nI_m1, show n + 1 + (e + 1) = (n + 1 + e) + 1 by omega, f_X3_findMatch_lp1, if_pos (nI_pos' (by omega)), x_claimantsFitting r' d (by omega), b1_some, ck_pos (ib_nI (by omega) (by decide)), ix_nI (by omega), (r'.2.2.1 e (by omega)).2, fig_shl hf, e2, b1_some]
    exact e3
theorem x_findMatch (r : RDx z t0 t1) (d : DOK t0 t1) : ∃ z', f_X3_findMatch z = some z' ∧ z'.1 = z.1 ∧ rJ z' 42 1 = lN (mX t0 t1 (nV t0) 0) := by
  have d1 := d.1
  have d2 := d.2.1
  obtain ⟨z1, e1, i1, j1, -⟩ := L_fill 43 0 (n := 256) (by decide) z
  have p8 : 2 ^ nC t1 ≤ 256 := Nat.pow_le_pow_right (n := 2) (by decide) d2
  obtain ⟨z2, e2, i2, j2⟩ := x_fm_lp1 r d (nV t0) 0 (4095 - nV t0) z1 (by omega) i1 (fun S hS => j1 S (by omega))
  have r1 := r.of i1
  refine ⟨wJ z2 42 1 (rJ z2 43 0), ?_, i2, ?_⟩
  · unfold f_X3_findMatch
    rw [e1, b1_some, r1.1, r1.2.1, one_shl (by omega), Int32.sub_eq_add_neg, show 4096 = 4095 - nV t0 + 1 + nV t0 by omega, e2, b1_some, ck_pos (by decide)]
    rfl
  · rw [rJ_wJ, if_pos ⟨rfl, rfl⟩, j2 0 (Nat.pow_pos (by decide))]
end MX2
