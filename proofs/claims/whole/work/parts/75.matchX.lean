/-! MATCH: the class. -/
theorem mx_more {x0 : Nat} {cd : Nat → Bool} {x : Nat → Nat} {m : Nat} : ∀ n, m ≤ n → (∀ i, m ≤ i → i < n → cd i = false) → mx x0 cd x n = mx x0 cd x m
  | 0, h, _ => by rw [show m = 0 by omega]
  | n + 1, h, hc => by
    rcases Nat.lt_or_ge m (n + 1) with q | q
    · rw [mx_s, hc n (by omega) (by omega)]
      exact mx_more n (by omega) (fun i h1 h2 => hc i h1 (by omega))
    · rw [show m = n + 1 by omega]
theorem mx_lt {x0 T : Nat} {cd : Nat → Bool} {x : Nat → Nat} (h0 : x0 < T) : ∀ n, (∀ i, i < n → cd i = true → x i < T) → mx x0 cd x n < T
  | 0, _ => h0
  | n + 1, h => by
    have ih := mx_lt (cd := cd) (x := x) h0 n (fun i hi => h i (by omega))
    rw [mx_s]
    by_cases c : cd n = true
    · rw [if_pos c]
      split
      · exact ih
      · exact h n (by omega) c
    · rw [if_neg c]; exact ih
theorem mx_congr {x0 : Nat} {cd cd' : Nat → Bool} {x x' : Nat → Nat} : ∀ n, (∀ i, i < n → cd i = cd' i) → (∀ i, i < n → cd i = true → x i = x' i) → mx x0 cd x n = mx x0 cd' x' n
  | 0, _, _ => rfl
  | n + 1, h1, h2 => by
    rw [mx_s, mx_s, mx_congr n (fun i hi => h1 i (by omega)) (fun i hi => h2 i (by omega)), ← h1 n (by omega)]
    by_cases c : cd n = true
    · rw [if_pos c, if_pos c, h2 n (by omega) c]
    · rw [if_neg c, if_neg c]
theorem x_digit' : ∀ v c : Fin 8, f_X3_digit (nI v.1) (nI c.1) = some (lN (dgt v.1 c.1)) := by decide +kernel
theorem x_digit {v c : Nat} (hv : v < 8) (hc : c < 8) : f_X3_digit (nI v) (nI c) = some (lN (dgt v c)) := x_digit' ⟨v, hv⟩ ⟨c, hc⟩
theorem l40 : (1099511627776 : Int64) = lN 1099511627776 := by decide +kernel
theorem or_lt256 {S c : Nat} (hS : S < 256) (hc : c < 8) : S ||| 2 ^ c < 256 := Nat.or_lt_two_pow (n := 8) hS (Nat.lt_of_lt_of_le (Nat.pow_lt_pow_right (by decide) hc) (by decide))
theorem x_wom_lp {z : Sg} {v F S w x0 : Nat} {y : Nat → Nat} (hv : v < 8) (hF : F < 256) (hS : S < 256) (hx0 : x0 < 2 ^ 62) (hy : ∀ c, c < 8 → F.testBit c = true → rJ z 43 (S ||| 2 ^ c) = lN (y c)) (hb : ∀ c, c < 8 → F.testBit c = true → y c + 1099511627776 + w + dgt v c < 2 ^ 62) : f_X3_withOneMore_lp1 (nI v) (nI F) (nI S) (lN w) z 4096 (lN x0) 0 = some (lN (mx x0 (fun c => F.testBit c) (fun c => y c + 1099511627776 + w + dgt v c) 8)) := by
  have key : ∀ (e c n : Nat), c + e = 8 → f_X3_withOneMore_lp1 (nI v) (nI F) (nI S) (lN w) z (n + 1 + e) (lN (mx x0 (fun c => F.testBit c) (fun c => y c + 1099511627776 + w + dgt v c) c)) (nI c) = some (lN (mx x0 (fun c => F.testBit c) (fun c => y c + 1099511627776 + w + dgt v c) 8)) := by
    intro e
    induction e with
    | zero =>
      intro c n hc
      obtain rfl : c = 8 := by omega
      rw [Nat.add_zero, f_X3_withOneMore_lp1, jshr_nI (by omega) (by omega), Nat.div_eq_of_lt (by omega), if_neg (by decide), b1_some, if_neg (by decide)]
    | succ e ih =>
      intro c n hc
      have hm : mx x0 (fun c => F.testBit c) (fun c => y c + 1099511627776 + w + dgt v c) c < 2 ^ 62 := mx_lt hx0 _ (fun i hi q => hb i (by omega) q)
      rw [show n + 1 + (e + 1) = (n + 1 + e) + 1 by omega, f_X3_withOneMore_lp1]
      by_cases q : F / 2 ^ c = 0
      · rw [jshr_nI (by omega) (by omega), q, if_neg (by decide), b1_some, if_neg (by decide), mx_more 8 (show c ≤ 8 by omega)]
        intro i h1 h2
        have hlt : F < 2 ^ c := by
          rcases Nat.lt_or_ge F (2 ^ c) with g | g
          · exact g
          · have := Nat.div_pos g (Nat.pow_pos (by decide)); omega
        exact Nat.testBit_lt_two_pow (Nat.lt_of_lt_of_le hlt (Nat.pow_le_pow_right (by decide) h1))
      · have hq : F / 2 ^ c < 2 ^ 31 := Nat.lt_of_le_of_lt (Nat.div_le_self _ _) (by omega)
        have hz : ¬ nI (F / 2 ^ c) = 0 := fun g => q ((nI_z hq).mp g)
        rw [if_pos (show ¬ jshr (nI F) (nI c) = 0 by rw [jshr_nI (by omega) (by omega)]; exact hz), if_pos (show nI c < (8 : Int32) from nI_lt (b := 8) (by omega) (by decide)), b1_some, if_pos rfl, nI_l1, ← ih (c + 1) n (by omega), mx_s]
        by_cases g : F.testBit c = true
        · rw [if_pos ((bit_is (by omega) (by omega)).mpr g), if_pos g, one_shl (by omega), nI_or, ck_pos (ib_nI (or_lt256 hS (by omega)) (by decide)), x_digit hv (by omega), b1_some, ix_nI (by have := or_lt256 hS (show c < 8 by omega); omega), hy c (by omega) g, l40, lN_add, lN_add, lN_add, b1_some]
          have hbc := hb c (by omega) g
          have e1 := pk_lLT (a := y c + 1099511627776 + w + dgt v c) (b := mx x0 (fun c => F.testBit c) (fun c => y c + 1099511627776 + w + dgt v c) c) (by omega) (by omega)
          by_cases g2 : y c + 1099511627776 + w + dgt v c < mx x0 (fun c => F.testBit c) (fun c => y c + 1099511627776 + w + dgt v c) c
          · rw [if_pos (e1.mpr g2), if_pos g2]
          · rw [if_neg (fun t => g2 (e1.mp t)), if_neg g2]
        · rw [if_neg (fun t => g ((bit_is (by omega) (by omega)).mp t)), if_neg g, b1_some]
  have h := key 8 0 4087 (by omega)
  exact h
