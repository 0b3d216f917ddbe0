/-! MATCH: the class. -/
theorem mx_more {x0 : Nat} {cd : Nat → Bool} {x : Nat → Nat} {m : Nat} : ∀ n, m ≤ n → (∀ i, m ≤ i → i < n → cd i = false) → mx x0 cd x n = mx x0 cd x m
  | 0, h, _ => by rw [show m = 0 by omega]
  | n + 1, h, hc => by
    rcases Nat.lt_or_ge m (n + 1) with q | q
    · rw [mx_s, hc n (by omega) (by omega)]
      exact mx_more n (by omega) (fun i h1 h2 => hc i h1 (by omega))
    · rw [show m = n + 1 by omega]
theorem mx_lt {x0 T : Nat} {cd : Nat → Bool} {x : Nat → Nat} (h0 : x0 < T) : ∀ n, (∀ i, i < n → cd i = true → x i < T) → mx x0 cd x n < T
  | 0, _ => h0
  | n + 1, h => by
    have ih := mx_lt (cd := cd) (x := x) h0 n (fun i hi => h i (by omega))
    rw [mx_s]
    by_cases c : cd n = true
    · rw [if_pos c]
      split
      · exact ih
      · exact h n (by omega) c
    · rw [if_neg c]; exact ih
theorem mx_congr {x0 : Nat} {cd cd' : Nat → Bool} {x x' : Nat → Nat} : ∀ n, (∀ i, i < n → cd i = cd' i) → (∀ i, i < n → cd i = true → x i = x' i) → mx x0 cd x n = mx x0 cd' x' n
  | 0, _, _ => rfl
  | n + 1, h1, h2 => by
    rw [mx_s, mx_s, mx_congr n (fun i hi => h1 i (by omega)) (fun i hi => h2 i (by omega)), ← h1 n (by omega)]
    by_cases c : cd n = true
    · rw [if_pos c, if_pos c, h2 n (by omega) c]
    · rw [if_neg c, if_neg c]
theorem x_digit' : ∀ v c : Fin 8, f_X3_digit (nI v.1) (nI c.1) = some (lN (dgt v.1 c.1)) := by decide +kernel
theorem x_digit {v c : Nat} (hv : v < 8) (hc : c < 8) : f_X3_digit (nI v) (nI c) = some (lN (dgt v c)) := x_digit' ⟨v, hv⟩ ⟨c, hc⟩
theorem l40 : (1099511627776 : Int64) = lN 1099511627776 := by decide +kernel
theorem or_lt256 {S c : Nat} (hS : S < 256) (hc : c < 8) : S ||| 2 ^ c < 256 := Nat.or_lt_two_pow (n := 8) hS (Nat.lt_of_lt_of_le (Nat.pow_lt_pow_right (by decide) hc) (by decide))
theorem x_wom_lp {z : Sg} {v F S w x0 : Nat} {y : Nat → Nat} (hv : v < 8) (hF : F < 256) (hS : S < 256) (hx0 : x0 < 2 ^ 62) (hy : ∀ c, c < 8 → F.testBit c = true → rJ z 43 (S ||| 2 ^ c) = lN (y c)) (hb : ∀ c, c < 8 → F.testBit c = true → y c + 1099511627776 + w + dgt v c < 2 ^ 62) : f_X3_withOneMore_lp1 (nI v) (nI F) (nI S) (lN w) z 4096 (lN x0) 0 = some (lN (mx x0 (fun c => F.testBit c) (fun c => y c + 1099511627776 + w + dgt v c) 8)) := by
  have key : ∀ (e c n : Nat), c + e = 8 → f_X3_withOneMore_lp1 (nI v) (nI F) (nI S) (lN w) z (n + 1 + e) (lN (mx x0 (fun c => F.testBit c) (fun c => y c + 1099511627776 + w + dgt v c) c)) (nI c) = some (lN (mx x0 (fun c => F.testBit c) (fun c => y c + 1099511627776 + w + dgt v c) 8)) := by
    intro e
    induction e with
    | zero =>
      intro c n hc
      obtain rfl : c = 8 := by omega
      rw [Nat.add_zero, f_X3_withOneMore_lp1, jshr_nI (by omega) (by omega), Nat.div_eq_of_lt (by omega), if_neg (by decide), b1_some, if_neg (by decide)]
    | succ e ih =>
      intro c n hc
      have hm : mx x0 (fun c => F.testBit c) (fun c => y c + 1099511627776 + w + dgt v c) c < 2 ^ 62 := mx_lt hx0 _ (fun i hi q => hb i (by omega) q)
      rw [show n + 1 + (e + 1) = (n + 1 + e) + 1 by omega, f_X3_withOneMore_lp1]
      by_cases q : F / 2 ^ c = 0
      · rw [jshr_nI (by omega) (by omega), q, if_neg (by decide), b1_some, if_neg (by decide), mx_more 8 (show c ≤ 8 by omega)]
        intro i h1 h2
        have hlt : F < 2 ^ c := by
          rcases Nat.lt_or_ge F (2 ^ c) with g | g
          · exact g
          · have := Nat.div_pos g (Nat.pow_pos (by decide)); omega
        exact Nat.testBit_lt_two_pow (Nat.lt_of_lt_of_le hlt (Nat.pow_le_pow_right (by decide) h1))
      · have hq : F / 2 ^ c < 2 ^ 31 := Nat.lt_of_le_of_lt (Nat.div_le_self _ _) (by omega)
        have hz : ¬ nI (F / 2 ^ c) = 0 := fun g => q ((nI_z hq).mp g)
        rw [if_pos (show ¬ jshr (nI F) (nI c) = 0 by rw [jshr_nI (by omega) (by omega)]; exact hz), if_pos (show nI c < (8 : Int32) from nI_lt (b := 8) (by omega) (by decide)), b1_some, if_pos rfl, nI_l1, ← ih (c + 1) n (by omega), mx_s]
        by_cases g : F.testBit c = true
        · rw [if_pos ((bit_is (by omega) (by omega)).mpr g), if_pos g, one_shl (by omega), nI_or, ck_pos (ib_nI (or_lt256 hS (by omega)) (by decide)), x_digit hv (by omega), b1_some, ix_nI (by have := or_lt256 hS (show c < 8 by omega); omega), hy c (by omega) g, l40, lN_add, lN_add, lN_add, b1_some]
          have hbc := hb c (by omega) g
          have e1 := pk_lLT (a := y c + 1099511627776 + w + dgt v c) (b := mx x0 (fun c => F.testBit c) (fun c => y c + 1099511627776 + w + dgt v c) c) (by omega) (by omega)
          by_cases g2 : y c + 1099511627776 + w + dgt v c < mx x0 (fun c => F.testBit c) (fun c => y c + 1099511627776 + w + dgt v c) c
          · rw [if_pos (e1.mpr g2), if_pos g2]
          · rw [if_neg (fun t => g2 (e1.mp t)), if_neg g2]
        · rw [if_neg (fun t => g ((bit_is (by omega) (by omega)).mp t)), if_neg g, b1_some]
  have h := key 8 0 4087 (by omega)
  exact h
theorem RDx.of {z z' : Sg} {t0 t1 : Tx} (r : RDx z t0 t1) (h : z'.1 = z.1) : RDx z' t0 t1 := by
  unfold RDx rI at *
  rw [h]
  exact r
theorem x_free {t0 t1 : Tx} {v S : Nat} (d : DOK t0 t1) : nI (bO (fun c => fit t0 t1 c v) (nC t1)) &&& (nI S ^^^ (-1 : Int32)) = nI (bO (mCd t0 t1 v S) (nC t1)) := by
  have d2 := d.2.1
  rw [show (-1 : Int32) = nI (2 ^ 32 - 1) by decide +kernel, nI_xor, nI_and]
  congr 1
  apply Nat.eq_of_testBit_eq
  intro i
  rw [Nat.testBit_and, Nat.testBit_xor, bO_test, bO_test, Nat.testBit_two_pow_sub_one]
  by_cases q : i < nC t1
  · have : i < 32 := by omega
    simp only [q, this, decide_true, Bool.true_and, mCd]
    cases fit t0 t1 i v <;> cases S.testBit i <;> rfl
  · simp [q]
theorem mX_lt {t0 t1 : Tx} (d : DOK t0 t1) {k : Nat} (hk : k ≤ nV t0) (S : Nat) : mX t0 t1 k S < 2 ^ 61 := by
  have d1 := d.1
  obtain ⟨e, h⟩ := mX_is d k hk S
  have hm := mB_in d k hk S
  have hB : 16 ^ (8 - nV t0 + k) ≤ 16 ^ 8 := Nat.pow_le_pow_right (by decide) (by omega)
  have h8 : (16 : Nat) ^ 8 = 4294967296 := by decide
  rw [e]
  unfold eR
  omega
theorem dgt_lt (v : Nat) (c : Nat) : dgt v c ≤ 8 * 268435456 := by
  unfold dgt
  exact Nat.mul_le_mul (by omega) (Nat.le_trans (Nat.pow_le_pow_right (by decide) (show 7 - v ≤ 7 by omega)) (by decide))
section MX
variable {t0 t1 : Tx}
theorem x_wom {z : Sg} (d : DOK t0 t1) {k i : Nat} (hk : k < nV t0) (hi : i < 2 ^ nC t1) (hJ : ∀ S, i ≤ S → S < 2 ^ nC t1 → rJ z 43 S = lN (mX t0 t1 k S)) : f_X3_withOneMore (nI (nV t0 - 1 - k)) (nI (bO (mCd t0 t1 (nV t0 - 1 - k) i) (nC t1))) (nI i) (lN (fgB t0.2 (nV t0 - 1 - k) * 4294967296)) z = some (lN (mX t0 t1 (k + 1) i)) := by
  have d1 := d.1
  have d2 := d.2.1
  have p8 : 2 ^ nC t1 ≤ 256 := Nat.pow_le_pow_right (n := 2) (by decide) d2
  have hf := d.2.2.1 (nV t0 - 1 - k) (by omega)
  have hF : bO (mCd t0 t1 (nV t0 - 1 - k) i) (nC t1) < 256 := Nat.lt_of_lt_of_le (bO_lt _ _) p8
  unfold f_X3_withOneMore
  rw [ck_pos (ib_nI (by omega) (by decide)), ix_nI (by omega), hJ i (Nat.le_refl _) hi]
  have h := x_wom_lp (z := z) (v := nV t0 - 1 - k) (F := bO (mCd t0 t1 (nV t0 - 1 - k) i) (nC t1)) (S := i) (w := fgB t0.2 (nV t0 - 1 - k) * 4294967296) (x0 := mX t0 t1 k i) (y := fun c => mX t0 t1 k (i ||| 2 ^ c)) (by omega) hF (by omega) (by have := mX_lt d (show k ≤ nV t0 by omega) i; omega) (by
    intro c hc hb
    rw [bO_test] at hb
    have hb1 : c < nC t1 := by
      rcases Nat.lt_or_ge c (nC t1) with q | q
      · exact q
      · rw [decide_eq_false (by omega)] at hb; cases hb
    refine hJ _ Nat.left_le_or (Nat.or_lt_two_pow hi (Nat.pow_lt_pow_right (by decide) hb1))) (by
    intro c hc hb
    have h1 := mX_lt d (show k ≤ nV t0 by omega) (i ||| 2 ^ c)
    have h2 := dgt_lt (nV t0 - 1 - k) c
    show mX t0 t1 k (i ||| 2 ^ c) + _ + _ + _ < _
    omega)
  rw [h, b1_some, mX_s, mx_more 8 d2 (fun c h1 h2 => by rw [bO_test, decide_eq_false (by omega)]; rfl), mx_congr (cd' := mCd t0 t1 (nV t0 - 1 - k) i) (nC t1) (fun c hc => by rw [bO_test, decide_eq_true hc]; rfl) (fun c hc _ => rfl)]
theorem x_fm_lp2 {z : Sg} (d : DOK t0 t1) {k : Nat} (hk : k < nV t0) (hJ : ∀ S, S < 2 ^ nC t1 → rJ z 43 S = lN (mX t0 t1 k S)) : ∃ z', f_X3_findMatch_lp2 (nI (2 ^ nC t1)) (nI (nV t0 - 1 - k)) (nI (bO (fun c => fit t0 t1 c (nV t0 - 1 - k)) (nC t1))) (lN (fgB t0.2 (nV t0 - 1 - k) * 4294967296)) 4096 0 z = some z' ∧ z'.1 = z.1 ∧ ∀ S, S < 2 ^ nC t1 → rJ z' 43 S = lN (mX t0 t1 (k + 1) S) := by
  have d2 := d.2.1
  have p8 : 2 ^ nC t1 ≤ 256 := Nat.pow_le_pow_right (n := 2) (by decide) d2
  have key := lp_fo (fun m i z => f_X3_findMatch_lp2 (nI (2 ^ nC t1)) (nI (nV t0 - 1 - k)) (nI (bO (fun c => fit t0 t1 c (nV t0 - 1 - k)) (nC t1))) (lN (fgB t0.2 (nV t0 - 1 - k) * 4294967296)) m i z) (2 ^ nC t1) (fun i z => wJ z 43 i (lN (mX t0 t1 (k + 1) i))) (fun z => z) (fun i z' => z'.1 = z.1 ∧ (∀ S, S < i → rJ z' 43 S = lN (mX t0 t1 (k + 1) S)) ∧ ∀ S, i ≤ S → S < 2 ^ nC t1 → rJ z' 43 S = lN (mX t0 t1 k S)) (fun m z' _ => by
    show f_X3_findMatch_lp2 _ _ _ _ (m + 1) _ z' = some z'
    rw [f_X3_findMatch_lp2, if_neg Int32.lt_irrefl]) (fun m i z' hi hP => by
    obtain ⟨p1, p2, p3⟩ := hP
    refine ⟨?_, p1, ?_, ?_⟩
    · show f_X3_findMatch_lp2 _ _ _ _ (m + 1) _ z' = f_X3_findMatch_lp2 _ _ _ _ m _ _
      rw [f_X3_findMatch_lp2, if_pos (nI_lt hi (by omega)), x_free d, x_wom d hk hi p3, b1_some, ck_pos (ib_nI (by omega) (by decide)), nI_l1, ix_nI (by omega)]
    · intro S hS
      rw [rJ_wJ]
      by_cases q : S = i
      · rw [if_pos ⟨rfl, q⟩, q]
      · rw [if_neg (fun t => q t.2)]; exact p2 S (by omega)
    · intro S h1 h2
      rw [rJ_wJ, if_neg (fun t => by omega)]
      exact p3 S (by omega) h2) (2 ^ nC t1) 0 4096 z (by omega) (by omega) ⟨rfl, fun S h => by omega, fun S _ h => hJ S h⟩
  refine ⟨_, ?_, key.2.1, key.2.2.1⟩
  have := key.1
  rw [nI_0] at this
  exact this
end MX
