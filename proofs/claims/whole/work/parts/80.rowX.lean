/-! ROWS: reading the class's number. -/
theorem s63' : ∀ n : Fin 64, (((nI n.1).toInt64 &&& 63).toBitVec.smod 64).toNat = n.1 := by decide +kernel
theorem pk_shr64 (x s : Int64) (k : Nat) (hs : (s.toBitVec.smod 64).toNat = k) : (x >>> s).toInt = x.toInt >>> k := by
  show (x.toBitVec.sshiftRight (s.toBitVec.smod 64).toNat).toInt = _
  rw [hs, BitVec.toInt_sshiftRight]
  rfl
theorem lshr_lN {x s : Nat} (hx : x < 2 ^ 63) (hs : s < 64) : lshrj (lN x) (nI s) = lN (x / 2 ^ s) := by
  apply Int64.toInt_inj.mp
  have h2 : x / 2 ^ s ≤ x := Nat.div_le_self _ _
  rw [show (lshrj (lN x) (nI s)).toInt = _ from pk_shr64 _ _ s (s63' ⟨s, hs⟩), pk_lT hx, pk_lT (by omega), Int.shiftRight_eq_div_pow]
  rfl
theorem x_countOf {x : Nat} (hx : x < 2 ^ 63) : f_X3_countOf (lN x) = some (nI (x / 2 ^ 40)) := by
  unfold f_X3_countOf
  rw [show (40 : Int32) = nI 40 from rfl, lshr_lN hx (by decide), lN_i]
theorem and_mask (a k : Nat) : nI a &&& nI (2 ^ k - 1) = nI (a % 2 ^ k) := by rw [nI_and, Nat.and_two_pow_sub_one_eq_mod]
theorem x_worthOf {x : Nat} (hx : x < 2 ^ 63) : f_X3_worthOf (lN x) = some (nI (x / 2 ^ 32 % 256)) := by
  unfold f_X3_worthOf
  rw [show (32 : Int32) = nI 32 from rfl, lshr_lN hx (by decide), lN_i, show (255 : Int32) = nI (2 ^ 8 - 1) from rfl, and_mask]
theorem x_otherOf {x v : Nat} (hx : x < 2 ^ 63) (hv : v < 8) : f_X3_otherOf (lN x) (nI v) = some (if x / 16 ^ (7 - v) % 16 = 0 then -1 else 8 - nI (x / 16 ^ (7 - v) % 16)) := by
  have e1 : (4 : Int32) * ((7 : Int32) - nI v) = nI (4 * (7 - v)) := by
    have : ∀ v : Fin 8, (4 : Int32) * ((7 : Int32) - nI v.1) = nI (4 * (7 - v.1)) := by decide +kernel
    exact this ⟨v, hv⟩
  unfold f_X3_otherOf
  rw [e1, lshr_lN hx (by omega), lN_i, show (15 : Int32) = nI (2 ^ 4 - 1) from rfl, and_mask, Nat.pow_mul, show (2 : Nat) ^ 4 = 16 from rfl]
  by_cases c : x / 16 ^ (7 - v) % 16 = 0
  · rw [if_pos c, c, if_pos (show nI 0 = (0 : Int32) from rfl), b1_some]
  · rw [if_neg c, if_neg (fun q => c ((nI_z (by omega)).mp q)), b1_some]
