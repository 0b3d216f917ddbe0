/-! TEXTS of the reference: how it reads them. -/
def saP (β : Nat → Nat) (j : Nat) : Nat → Nat
  | 0 => 0
  | k + 1 => saP β j k + bitS (β (6 * j + k)) k
def hiP (β : Nat → Nat) (j : Nat) : Nat → Nat
  | 0 => 0
  | k + 1 => hiP β j k + bitH (β (6 * j + k)) k
theorem saP_4 (β : Nat → Nat) (j : Nat) : saP β j 4 = saB β j := by simp [saP, saB]
theorem hiP_4 (β : Nat → Nat) (j : Nat) : hiP β j 4 = hiB β j := by simp [hiP, hiB]
theorem saP_lt (β : Nat → Nat) (j : Nat) : ∀ k, saP β j k < 2 ^ k
  | 0 => by simp [saP]
  | k + 1 => by
    have := saP_lt β j k
    unfold saP bitS
    rw [Nat.pow_succ]
    split <;> omega
theorem hiP_lt (β : Nat → Nat) (j : Nat) : ∀ k, hiP β j k < 2 ^ k
  | 0 => by simp [hiP]
  | k + 1 => by
    have := hiP_lt β j k
    unfold hiP bitH
    rw [Nat.pow_succ]
    split <;> omega
theorem or_bit : ∀ k : Fin 4, ∀ s : Fin 16, s.1 < 2 ^ k.1 → nI s.1 ||| jshl 1 (nI k.1) = nI (s.1 + 2 ^ k.1) := by decide +kernel
theorem or_zero (x : Int32) : x ||| 0 = x := by
  apply Int32.toBitVec_inj.mp
  simp
theorem m47 (k i : Nat) : (47 : Int32) * nI k + nI i = nI (47 * k + i) := by
  show nI 47 * nI k + nI i = _
  rw [nI_mul, nI_add]
section Reads
variable {z : Sg} {x : Tx} {τ j : Nat}
theorem ro_step (hτ : τ < 2) (hT : TxM τ (rI z 1) (rI z 2) x) {k : Nat} (hk : k < 4) (hj : 6 * j + k < fwB (decide (τ = 1)) x.2 x.1) (n : Nat) : f_X8_readsOne_lp1 (nI τ) (nI j) (nI (6 * j)) z (n + 1) (nI (saP x.2 j k)) (nI (hiP x.2 j k)) (nI k) = f_X8_readsOne_lp1 (nI τ) (nI j) (nI (6 * j)) z n (nI (saP x.2 j (k + 1))) (nI (hiP x.2 j (k + 1))) (nI (k + 1)) := by
  obtain ⟨t1, t2, t3⟩ := hT
  have hle := fwB_le (decide (τ = 1)) x.2 x.1
  have hok := fwB_ok (decide (τ = 1)) x.2 x.1 _ hj
  obtain ⟨q1, q2⟩ := t3 (6 * j + k) (by omega)
  have e4 : nI k < (4 : Int32) := nI_lt (b := 4) hk (by decide)
  rw [f_X8_readsOne_lp1, if_pos e4, ck_pos (ib_nI hτ (by decide)), ix_nI (by omega), t1, nI_add, if_pos (nI_lt (by omega) (by omega)), m47, nI_add, ck_pos (ib_nI (show 47 * τ + 6 * j + k < 94 by omega) (by decide)), ix_nI (by omega), show 47 * τ + 6 * j + k = 47 * τ + (6 * j + k) by omega, q1]
  have e1 : (nI (x.2 (6 * j + k)) = (108 : Int32)) ↔ x.2 (6 * j + k) = 108 := nI_eq (b := 108) (by omega) (by decide)
  have e2 : (nI (x.2 (6 * j + k)) = (104 : Int32)) ↔ x.2 (6 * j + k) = 104 := nI_eq (b := 104) (by omega) (by decide)
  have e3 : (nI (x.2 (6 * j + k)) = (63 : Int32)) ↔ x.2 (6 * j + k) = 63 := nI_eq (b := 63) (by omega) (by decide)
  have e0 : (nI τ = 0) ↔ τ = 0 := nI_z (by omega)
  have s1 := saP_lt x.2 j k
  have s2 := hiP_lt x.2 j k
  have p16 : 2 ^ k ≤ 16 := by rcases (show k = 0 ∨ k = 1 ∨ k = 2 ∨ k = 3 by omega) with rfl | rfl | rfl | rfl <;> decide
  have b1' := or_bit ⟨k, hk⟩ ⟨saP x.2 j k, by omega⟩ s1
  have b2' := or_bit ⟨k, hk⟩ ⟨hiP x.2 j k, by omega⟩ s2
  simp only at b1' b2'
  unfold okB at hok
  rw [if_pos (by omega)] at hok
  simp only [b1_some, e1, e2, e3, e0]
  generalize hb : x.2 (6 * j + k) = b at hok
  have u1 : saP x.2 j (k + 1) = saP x.2 j k + bitS b k := by rw [← hb]; rfl
  have u2 : hiP x.2 j (k + 1) = hiP x.2 j k + bitH b k := by rw [← hb]; rfl
  rw [u1, u2]
  unfold bitS bitH
  by_cases c1 : b = 108
  · simp [c1, b1_some, or_zero, b1', nI_l1]
  · by_cases c2 : b = 104
    · simp [c2, b1_some, b1', b2', nI_l1]
    · have c3 : b = 63 ∧ τ = 1 := by simpa [c1, c2] using hok
      simp [c3.1, c3.2, b1_some, or_zero, nI_l1]
theorem ro_stop (hτ : τ < 2) (hT : TxM τ (rI z 1) (rI z 2) x) {k : Nat} (hk : k < 4) (hj : 6 * j + k = fwB (decide (τ = 1)) x.2 x.1) (n : Nat) (s h : Int32) : f_X8_readsOne_lp1 (nI τ) (nI j) (nI (6 * j)) z (n + 1) s h (nI k) = some (nI k, z) := by
  obtain ⟨t1, t2, t3⟩ := hT
  have hle := fwB_le (decide (τ = 1)) x.2 x.1
  have e4 : nI k < (4 : Int32) := nI_lt (b := 4) hk (by decide)
  rw [f_X8_readsOne_lp1, if_pos e4, ck_pos (ib_nI hτ (by decide)), ix_nI (by omega), t1, nI_add]
  by_cases c : 6 * j + k < x.1
  · have hbad := fwB_bad (decide (τ = 1)) x.2 x.1 (by omega)
    rw [← hj] at hbad
    obtain ⟨q1, q2⟩ := t3 (6 * j + k) c
    rw [if_pos (nI_lt c (by omega)), m47, nI_add, ck_pos (ib_nI (show 47 * τ + 6 * j + k < 94 by omega) (by decide)), ix_nI (by omega), show 47 * τ + 6 * j + k = 47 * τ + (6 * j + k) by omega, q1]
    have e1 : (nI (x.2 (6 * j + k)) = (108 : Int32)) ↔ x.2 (6 * j + k) = 108 := nI_eq (b := 108) (by omega) (by decide)
    have e2 : (nI (x.2 (6 * j + k)) = (104 : Int32)) ↔ x.2 (6 * j + k) = 104 := nI_eq (b := 104) (by omega) (by decide)
    have e3 : (nI (x.2 (6 * j + k)) = (63 : Int32)) ↔ x.2 (6 * j + k) = 63 := nI_eq (b := 63) (by omega) (by decide)
    have e0 : (nI τ = 0) ↔ τ = 0 := nI_z (by omega)
    unfold okB at hbad
    rw [if_pos (by omega)] at hbad
    simp only [b1_some, e1, e2, e3, e0]
    generalize x.2 (6 * j + k) = b at hbad
    simp at hbad
    obtain ⟨⟨d1, d2⟩, d3⟩ := hbad
    by_cases c3 : b = 63
    · have : ¬ τ = 1 := fun q => d3 c3 q
      have t0 : τ = 0 := by omega
      simp [c3, t0, b1_some]
    · simp [d1, d2, c3, b1_some]
  · rw [if_neg (fun q => c ((nI_ltI (by omega) (by omega)).mp q))]
    simp [b1_some]
/-- the entry that is written -/
def wrE (τ j : Nat) (β : Nat → Nat) (z : Sg) : Sg := if τ = 0 then wI (wI z 3 j (nI (hiB β j))) 4 j (nI (fgB β j)) else wI (wI (wI z 5 j (nI (saB β j))) 6 j (nI (hiB β j))) 7 j (nI (fgB β j))
theorem ro_tail (hτ : τ < 2) (hT : TxM τ (rI z 1) (rI z 2) x) (hj : 6 * j + 4 ≤ fwB (decide (τ = 1)) x.2 x.1) (n : Nat) : f_X8_readsOne_lp1 (nI τ) (nI j) (nI (6 * j)) z (n + 1) (nI (saP x.2 j 4)) (nI (hiP x.2 j 4)) (nI 4) = some (if 6 * j + 4 < fwB (decide (τ = 1)) x.2 x.1 then (nI 5, wrE τ j x.2 z) else (nI 4, z)) := by
  obtain ⟨t1, t2, t3⟩ := hT
  have hle := fwB_le (decide (τ = 1)) x.2 x.1
  have e4 : ¬ nI 4 < (4 : Int32) := Int32.lt_irrefl
  have a4 : nI (6 * j) + (4 : Int32) = nI (6 * j + 4) := nI_add (6 * j) 4
  have a5 : nI (47 * τ + 6 * j) + (4 : Int32) = nI (47 * τ + 6 * j + 4) := nI_add (47 * τ + 6 * j) 4
  rw [f_X8_readsOne_lp1, if_neg e4, ck_pos (ib_nI hτ (by decide)), ix_nI (by omega), t1, a4, saP_4, hiP_4]
  by_cases c : 6 * j + 4 < x.1
  · obtain ⟨q1, q2⟩ := t3 (6 * j + 4) c
    rw [if_pos (nI_lt c (by omega)), m47, a5, ck_pos (ib_nI (show 47 * τ + 6 * j + 4 < 94 by omega) (by decide)), ix_nI (by omega), show 47 * τ + 6 * j + 4 = 47 * τ + (6 * j + 4) by omega, q1, b1_some]
    have e0 : (nI τ = 0) ↔ τ = 0 := nI_z (by omega)
    have ejx : ix (nI j) = j := ix_nI (by omega)
    have hib : ib (nI j) 9 := ib_nI (by omega) (by decide)
    by_cases hd : 48 ≤ x.2 (6 * j + 4) ∧ x.2 (6 * j + 4) ≤ 57
    · have hw : 6 * j + 4 < fwB (decide (τ = 1)) x.2 x.1 := by
        rcases Nat.lt_or_ge (6 * j + 4) (fwB (decide (τ = 1)) x.2 x.1) with q | q
        · exact q
        · have hbad := fwB_bad (decide (τ = 1)) x.2 x.1 (by omega)
          rw [show fwB (decide (τ = 1)) x.2 x.1 = 6 * j + 4 by omega] at hbad
          unfold okB at hbad
          rw [if_neg (by omega), if_pos (by omega)] at hbad
          simp at hbad
          omega
      have es : nI (x.2 (6 * j + 4)) - (48 : Int32) = nI (fgB x.2 j) := pk_sub (b := 48) hd.1
      have ein : f_X8_in (nI (fgB x.2 j)) 0 9 = some 1 := m_in_nI (n := 9) (by unfold fgB; omega) (by decide)
      rw [es, ein, b1_some, if_pos (by decide), if_pos hw]
      simp only [e0, ck_pos hib, ejx]
      unfold wrE
      by_cases c0 : τ = 0
      · simp only [c0, if_true]; rfl
      · simp only [c0, if_false]; rfl
    · have hw : ¬ 6 * j + 4 < fwB (decide (τ = 1)) x.2 x.1 := fun q => hd (okB_fig (fwB_ok (decide (τ = 1)) x.2 x.1 _ q))
      have ein : f_X8_in (nI (x.2 (6 * j + 4)) - 48) 0 9 = some 0 := by
        rw [m_in, if_neg]
        rintro ⟨q1', q2'⟩
        have i1 := Int32.le_iff_toInt_le.mp q1'
        have i2 := Int32.le_iff_toInt_le.mp q2'
        have i3 : (nI (x.2 (6 * j + 4)) - (48 : Int32)).toInt = (x.2 (6 * j + 4) : Int) - 48 := pk_sub_toInt (b := 48) (by omega) (by decide)
        rw [i3] at i1 i2
        have z0 : (0 : Int32).toInt = 0 := by decide
        have z9 : (9 : Int32).toInt = 9 := by decide
        omega
      rw [ein, b1_some, if_neg (by decide), if_neg hw]
      rfl
  · rw [if_neg (fun q => c ((nI_ltI (by omega) (by omega)).mp q)), b1_some]
    have ein : f_X8_in (-1) 0 9 = some 0 := by rw [m_in]; decide
    rw [ein, b1_some, if_neg (by decide), if_neg (by omega)]
    rfl
theorem m_readsOne (hτ : τ < 2) (hT : TxM τ (rI z 1) (rI z 2) x) (hj : 6 * j ≤ fwB (decide (τ = 1)) x.2 x.1) : f_X8_readsOne (nI τ) (nI j) (nI (6 * j)) z = some (if 6 * j + 4 < fwB (decide (τ = 1)) x.2 x.1 then (nI 5, wrE τ j x.2 z) else (nI (fwB (decide (τ = 1)) x.2 x.1 - 6 * j), z)) := by
  have key : ∀ (d k n : Nat), k + d = 4 → 6 * j + k ≤ fwB (decide (τ = 1)) x.2 x.1 → f_X8_readsOne_lp1 (nI τ) (nI j) (nI (6 * j)) z (n + 1 + d) (nI (saP x.2 j k)) (nI (hiP x.2 j k)) (nI k) = some (if 6 * j + 4 < fwB (decide (τ = 1)) x.2 x.1 then (nI 5, wrE τ j x.2 z) else (nI (fwB (decide (τ = 1)) x.2 x.1 - 6 * j), z)) := by
    intro d
    induction d with
    | zero =>
      intro k n hk hw
      obtain rfl : k = 4 := by omega
      rw [Nat.add_zero, ro_tail hτ hT hw]
      by_cases c : 6 * j + 4 < fwB (decide (τ = 1)) x.2 x.1
      · rw [if_pos c, if_pos c]
      · rw [if_neg c, if_neg c, show fwB (decide (τ = 1)) x.2 x.1 - 6 * j = 4 by omega]
    | succ d ih =>
      intro k n hk hw
      rw [show n + 1 + (d + 1) = (n + 1 + d) + 1 by omega]
      by_cases c : 6 * j + k < fwB (decide (τ = 1)) x.2 x.1
      · rw [ro_step hτ hT (by omega) c]
        exact ih (k + 1) n (by omega) (by omega)
      · rw [ro_stop hτ hT (by omega) (by omega), if_neg (by omega), show fwB (decide (τ = 1)) x.2 x.1 - 6 * j = k by omega]
  exact key 4 0 4091 rfl (by omega)
end Reads
