/-! TOGETHER: by sets alone. -/
theorem del_test {S w i : Nat} (hi : i < 8) : (del S w).testBit i = (S.testBit i && !decide (w = i)) := by
  unfold del
  rw [Nat.testBit_and, Nat.testBit_xor, Nat.testBit_two_pow, show (255 : Nat) = 2 ^ 8 - 1 from rfl, Nat.testBit_two_pow_sub_one, decide_eq_true hi]
  cases S.testBit i <;> cases decide (w = i) <;> rfl
theorem del_le (S w : Nat) : del S w ≤ S := Nat.and_le_left
theorem del_lt {S w : Nat} (hw : w < 8) (h : S.testBit w = true) : del S w < S := by
  rcases Nat.lt_or_eq_of_le (del_le S w) with q | q
  · exact q
  · have := del_self (S := S) hw
    rw [q, h] at this
    cases this
theorem pCd_congr {t0 : Tx} {v S S' w : Nat} (h : v < w → S.testBit w = S'.testBit w) : pCd t0 v S w = pCd t0 v S' w := by
  unfold pCd
  by_cases c : v < w
  · rw [h c]
  · rw [decide_eq_false c]; rfl
section PairLow
variable {t0 : Tx}
theorem pB_low (d1 : nV t0 ≤ 8) : ∀ k, k ≤ nV t0 → ∀ S S', (∀ i, nV t0 - k ≤ i → i < nV t0 → S.testBit i = S'.testBit i) → pB t0 k S = pB t0 k S'
  | 0, _, _, _, _ => rfl
  | k + 1, hk, S, S', h => by
    have h1 : ∀ i, nV t0 - k ≤ i → i < nV t0 → S.testBit i = S'.testBit i := fun i q1 q2 => h i (by omega) q2
    rw [pB_s, pB_s, h (nV t0 - 1 - k) (by omega) (by omega), pB_low d1 k (by omega) S S' h1]
    by_cases c : S'.testBit (nV t0 - 1 - k) = true
    · rw [if_pos c, if_pos c]
      refine congrArg (fun q => q.1) (bst_congr (nV t0) (fun i hi => pCd_congr (v := nV t0 - 1 - k) (fun q => h i (by omega) hi)) (fun i hi _ => ?_))
      show 1 + pB t0 k (del S i) = 1 + pB t0 k (del S' i)
      rw [pB_low d1 k (by omega) (del S i) (del S' i) (fun j q1 q2 => by rw [del_test (by omega), del_test (by omega), h1 j q1 q2])]
    · rw [if_neg c, if_neg c]
theorem pG_low (d1 : nV t0 ≤ 8) {k : Nat} (hk : k < nV t0) {S S' : Nat} (h : ∀ i, nV t0 - k ≤ i → i < nV t0 → S.testBit i = S'.testBit i) : pG t0 k S = pG t0 k S' := by
  unfold pG
  rw [pB_low d1 k (by omega) S S' h]
  refine congrArg (fun q => q.2) (bst_congr (nV t0) (fun i hi => pCd_congr (v := nV t0 - 1 - k) (fun q => h i (by omega) hi)) (fun i hi _ => ?_))
  show 1 + pB t0 k (del S i) = 1 + pB t0 k (del S' i)
  rw [pB_low d1 k (by omega) (del S i) (del S' i) (fun j q1 q2 => by rw [del_test (by omega), del_test (by omega), h j q1 q2])]
theorem pX_low (d1 : nV t0 ≤ 8) : ∀ k, k ≤ nV t0 → ∀ S S', (∀ i, nV t0 - k ≤ i → i < nV t0 → S.testBit i = S'.testBit i) → pX t0 k S = pX t0 k S'
  | 0, _, _, _, _ => rfl
  | k + 1, hk, S, S', h => by
    have h1 : ∀ i, nV t0 - k ≤ i → i < nV t0 → S.testBit i = S'.testBit i := fun i q1 q2 => h i (by omega) q2
    rw [pX_s, pX_s, h (nV t0 - 1 - k) (by omega) (by omega), pX_low d1 k (by omega) S S' h1]
    by_cases c : S'.testBit (nV t0 - 1 - k) = true
    · rw [if_pos c, if_pos c]
      refine mx_congr (nV t0) (fun i hi => pCd_congr (v := nV t0 - 1 - k) (fun q => h i (by omega) hi)) (fun i hi _ => ?_)
      show pX t0 k (del S i) + _ + _ + _ = pX t0 k (del S' i) + _ + _ + _
      rw [pX_low d1 k (by omega) (del S i) (del S' i) (fun j q1 q2 => by rw [del_test (by omega), del_test (by omega), h1 j q1 q2])]
    · rw [if_neg c, if_neg c]
theorem pW_low (d1 : nV t0 ≤ 8) : ∀ k, k ≤ nV t0 → ∀ S S', (∀ i, nV t0 - k ≤ i → i < nV t0 → S.testBit i = S'.testBit i) → pW t0 k S = pW t0 k S'
  | 0, _, _, _, _ => rfl
  | k + 1, hk, S, S', h => by
    have h1 : ∀ i, nV t0 - k ≤ i → i < nV t0 → S.testBit i = S'.testBit i := fun i q1 q2 => h i (by omega) q2
    rw [pW_s, pW_s, h (nV t0 - 1 - k) (by omega) (by omega), pW_low d1 k (by omega) S S' h1, pG_low d1 (by omega) h1]
    by_cases c : S'.testBit (nV t0 - 1 - k) = true
    · rw [if_pos c, if_pos c]
      cases pG t0 k S' with
      | none => rfl
      | some w =>
        show fset (fset (pW t0 k (del S w)) w _) _ _ = fset (fset (pW t0 k (del S' w)) w _) _ _
        rw [pW_low d1 k (by omega) (del S w) (del S' w) (fun j q1 q2 => by rw [del_test (by omega), del_test (by omega), h1 j q1 q2])]
    · rw [if_neg c, if_neg c]
theorem pB_up {S : Nat} : ∀ j, j ≤ nV t0 → (∀ i, i < j → S.testBit i = false) → pB t0 (nV t0) S = pB t0 (nV t0 - j) S
  | 0, _, _ => rfl
  | j + 1, hj, h => by
    rw [pB_up j (by omega) (fun i hi => h i (by omega)), show nV t0 - j = (nV t0 - (j + 1)) + 1 by omega, pB_s, if_neg]
    rw [show nV t0 - 1 - (nV t0 - (j + 1)) = j by omega, h j (by omega)]
    decide
theorem pX_up {S : Nat} : ∀ j, j ≤ nV t0 → (∀ i, i < j → S.testBit i = false) → pX t0 (nV t0) S = pX t0 (nV t0 - j) S
  | 0, _, _ => rfl
  | j + 1, hj, h => by
    rw [pX_up j (by omega) (fun i hi => h i (by omega)), show nV t0 - j = (nV t0 - (j + 1)) + 1 by omega, pX_s, if_neg]
    rw [show nV t0 - 1 - (nV t0 - (j + 1)) = j by omega, h j (by omega)]
    decide
/-- k virtues left and a set, as a set alone -/
theorem low_up (d1 : nV t0 ≤ 8) {f S w : Nat} (hf : f < nV t0) (hS : ∀ i, i < f → S.testBit i = false) (i : Nat) (hi : i < f + 1) : (del (del S f) w).testBit i = false ∧ (del S f).testBit i = false := by
  have e : (del S f).testBit i = false := by
    rw [del_test (by omega)]
    rcases Nat.lt_or_ge i f with q | q
    · rw [hS i q]; rfl
    · rw [decide_eq_true (show f = i by omega)]; cases S.testBit i <;> rfl
  rw [del_test (by omega), e]
  exact ⟨rfl, rfl⟩
theorem pB_at (d1 : nV t0 ≤ 8) {f S : Nat} (hf : f < nV t0) (hS : ∀ i, i < f → S.testBit i = false) (hb : S.testBit f = true) : pB t0 (nV t0) S = (bst (pB t0 (nV t0) (del S f)) (pCd t0 f S) (fun w => 1 + pB t0 (nV t0) (del (del S f) w)) (nV t0)).1 := by
  have e1 : pB t0 (nV t0) (del S f) = pB t0 (nV t0 - 1 - f) S := by
    rw [pB_up (f + 1) (by omega) (fun i hi => (low_up (w := 0) d1 hf hS i hi).2), show nV t0 - (f + 1) = nV t0 - 1 - f by omega]
    exact pB_low d1 _ (by omega) _ _ (fun i q1 q2 => by rw [del_test (by omega), decide_eq_false (show ¬ f = i by omega)]; simp)
  have e2 : ∀ w, pB t0 (nV t0) (del (del S f) w) = pB t0 (nV t0 - 1 - f) (del S w) := by
    intro w
    rw [pB_up (f + 1) (by omega) (fun i hi => (low_up (w := w) d1 hf hS i hi).1), show nV t0 - (f + 1) = nV t0 - 1 - f by omega]
    exact pB_low d1 _ (by omega) _ _ (fun i q1 q2 => by rw [del_test (by omega), del_test (by omega), del_test (by omega), decide_eq_false (show ¬ f = i by omega)]; simp)
  rw [pB_up f (by omega) hS, show nV t0 - f = (nV t0 - 1 - f) + 1 by omega, pB_s, show nV t0 - 1 - (nV t0 - 1 - f) = f by omega, if_pos hb, e1]
  rw [show (fun w => 1 + pB t0 (nV t0) (del (del S f) w)) = fun w => 1 + pB t0 (nV t0 - 1 - f) (del S w) from funext fun w => by rw [e2]]
theorem pX_at (d1 : nV t0 ≤ 8) {f S : Nat} (hf : f < nV t0) (hS : ∀ i, i < f → S.testBit i = false) (hb : S.testBit f = true) : pX t0 (nV t0) S = mx (pX t0 (nV t0) (del S f)) (pCd t0 f S) (fun w => pX t0 (nV t0) (del (del S f) w) + 1099511627776 + dgt f w + dgt w f) (nV t0) := by
  have e1 : pX t0 (nV t0) (del S f) = pX t0 (nV t0 - 1 - f) S := by
    rw [pX_up (f + 1) (by omega) (fun i hi => (low_up (w := 0) d1 hf hS i hi).2), show nV t0 - (f + 1) = nV t0 - 1 - f by omega]
    exact pX_low d1 _ (by omega) _ _ (fun i q1 q2 => by rw [del_test (by omega), decide_eq_false (show ¬ f = i by omega)]; simp)
  have e2 : ∀ w, pX t0 (nV t0) (del (del S f) w) = pX t0 (nV t0 - 1 - f) (del S w) := by
    intro w
    rw [pX_up (f + 1) (by omega) (fun i hi => (low_up (w := w) d1 hf hS i hi).1), show nV t0 - (f + 1) = nV t0 - 1 - f by omega]
    exact pX_low d1 _ (by omega) _ _ (fun i q1 q2 => by rw [del_test (by omega), del_test (by omega), del_test (by omega), decide_eq_false (show ¬ f = i by omega)]; simp)
  rw [pX_up f (by omega) hS, show nV t0 - f = (nV t0 - 1 - f) + 1 by omega, pX_s, show nV t0 - 1 - (nV t0 - 1 - f) = f by omega, if_pos hb, e1]
  rw [show (fun w => pX t0 (nV t0) (del (del S f) w) + 1099511627776 + dgt f w + dgt w f) = fun w => pX t0 (nV t0 - 1 - f) (del S w) + 1099511627776 + dgt f w + dgt w f from funext fun w => by rw [e2]]
theorem pX_lt (d1 : nV t0 ≤ 8) (S : Nat) : pX t0 (nV t0) S < 2 ^ 61 := by
  obtain ⟨e, h⟩ := pX_is d1 (nV t0) (Nat.le_refl _) S
  have := num_lt (f := pW t0 (nV t0) S) (fun i => (pW_in d1 _ (Nat.le_refl _) S i).1) (j := 0) (by omega) (fun i hi => by omega)
  rw [show (16 : Nat) ^ (8 - 0) = 4294967296 by decide] at this
  rw [e]
  unfold e40
  omega
end PairLow
/-- the first of a set -/
def tz (a : Nat) : Nat := if a.testBit 0 then 0 else if a.testBit 1 then 1 else if a.testBit 2 then 2 else if a.testBit 3 then 3 else if a.testBit 4 then 4 else if a.testBit 5 then 5 else if a.testBit 6 then 6 else if a.testBit 7 then 7 else 8
theorem tz_is' : ∀ a : Fin 256, a.1 ≠ 0 → tz a.1 < 8 ∧ a.1.testBit (tz a.1) = true := by decide +kernel
theorem tz_lo' : ∀ a : Fin 256, ∀ i : Fin 8, i.1 < tz a.1 → a.1.testBit i.1 = false := by decide +kernel
theorem tz_le' : ∀ a : Fin 256, tz a.1 ≤ 8 := by decide +kernel
theorem tz_lo {a i : Nat} (ha : a < 256) (hi : i < tz a) : a.testBit i = false := by
  have := tz_le' ⟨a, ha⟩
  exact tz_lo' ⟨a, ha⟩ ⟨i, by simp only at this; omega⟩ hi
theorem tz_is {a : Nat} (ha : a < 256) (h0 : a ≠ 0) : tz a < 8 ∧ a.testBit (tz a) = true := tz_is' ⟨a, ha⟩ h0
theorem bit_lt {a n i : Nat} (h : a < 2 ^ n) (hb : a.testBit i = true) : i < n := by
  rcases Nat.lt_or_ge i n with q | q
  · exact q
  · rw [Nat.testBit_lt_two_pow (Nat.lt_of_lt_of_le h (Nat.pow_le_pow_right (by decide) q))] at hb
    cases hb
theorem x_ntz' : ∀ a : Fin 256, a.1 ≠ 0 → f_J6_numberOfTrailingZeros_0f7a4 (nI a.1) = some (nI (tz a.1)) := by decide +kernel
theorem x_rest' : ∀ a : Fin 256, a.1 ≠ 0 → nI a.1 &&& (nI a.1 - (1 : Int32)) = nI (del a.1 (tz a.1)) := by decide +kernel
theorem and_not {R v : Nat} (hR : R < 256) : nI R &&& (nI (2 ^ v) ^^^ (-1 : Int32)) = nI (del R v) := by
  rw [show (-1 : Int32) = nI (2 ^ 32 - 1) by decide +kernel, nI_xor, nI_and]
  refine congrArg nI (Nat.eq_of_testBit_eq fun i => ?_)
  unfold del
  rw [Nat.testBit_and, Nat.testBit_and, Nat.testBit_xor, Nat.testBit_xor, Nat.testBit_two_pow_sub_one, show (255 : Nat) = 2 ^ 8 - 1 from rfl, Nat.testBit_two_pow_sub_one]
  by_cases q : i < 8
  · rw [decide_eq_true q, decide_eq_true (show i < 32 by omega)]
    cases R.testBit i <;> cases (2 ^ v).testBit i <;> rfl
  · rw [Nat.testBit_lt_two_pow (Nat.lt_of_lt_of_le hR (show 2 ^ 8 ≤ 2 ^ i from Nat.pow_le_pow_right (by decide) (by omega)))]
    rfl
theorem and_not2 {R v w : Nat} (hR : R < 256) : nI R &&& ((nI (2 ^ v) ||| nI (2 ^ w)) ^^^ (-1 : Int32)) = nI (del (del R v) w) := by
  rw [show (-1 : Int32) = nI (2 ^ 32 - 1) by decide +kernel, nI_or, nI_xor, nI_and]
  refine congrArg nI (Nat.eq_of_testBit_eq fun i => ?_)
  unfold del
  rw [Nat.testBit_and, Nat.testBit_and, Nat.testBit_and, Nat.testBit_xor, Nat.testBit_xor, Nat.testBit_xor, Nat.testBit_or, Nat.testBit_two_pow_sub_one, show (255 : Nat) = 2 ^ 8 - 1 from rfl, Nat.testBit_two_pow_sub_one]
  by_cases q : i < 8
  · rw [decide_eq_true q, decide_eq_true (show i < 32 by omega)]
    cases R.testBit i <;> cases (2 ^ v).testBit i <;> cases (2 ^ w).testBit i <;> rfl
  · rw [Nat.testBit_lt_two_pow (Nat.lt_of_lt_of_le hR (show 2 ^ 8 ≤ 2 ^ i from Nat.pow_le_pow_right (by decide) (by omega)))]
    rfl
