/-! TOGETHER: the class's number. -/
def e40 (u : Nat) : Nat := u * 1099511627776
theorem e40_lt {u w : Nat} (h : u < w) : e40 u + 4294967296 ≤ e40 w := by unfold e40; omega
theorem e40_add (u : Nat) : e40 (1 + u) = e40 u + 1099511627776 := by unfold e40; omega
theorem e40_0 : e40 0 = 0 := rfl
theorem oR_n (r0 : Nat) (r : Nat → Nat) : oR r0 r none = r0 := rfl
theorem oR_c (r0 : Nat) (r : Nat → Nat) (c : Nat) : oR r0 r (some c) = r c := rfl
theorem oF_n (r0 : Nat → Nat) (r : Nat → Nat → Nat) : oF r0 r none = r0 := rfl
theorem oF_c (r0 : Nat → Nat) (r : Nat → Nat → Nat) (c : Nat) : oF r0 r (some c) = r c := rfl
theorem pW_0 (t0 : Tx) (S : Nat) : pW t0 0 S = fun _ => 0 := rfl
theorem pB_0 (t0 : Tx) (S : Nat) : pB t0 0 S = 0 := rfl
theorem pX_0 (t0 : Tx) (S : Nat) : pX t0 0 S = 0 := rfl
section PairNum
variable {t0 : Tx} {k : Nat}
theorem pw_lt (d1 : nV t0 ≤ 8) (hk : k < nV t0) (S : Nat) : num (pW t0 k S) 8 < 16 ^ (8 - nV t0 + k) := by
  have := num_lt (f := pW t0 k S) (fun i => (pW_in d1 k (by omega) S i).1) (j := nV t0 - k) (by omega) (fun i hi => (pW_in d1 k (by omega) S i).2.1 hi)
  rw [show 8 - (nV t0 - k) = 8 - nV t0 + k by omega] at this
  exact this
theorem pw_set (d1 : nV t0 ≤ 8) (hk : k < nV t0) {S w : Nat} (hw : w < nV t0) : num (fset (pW t0 k (del S w)) w (8 - (nV t0 - 1 - k))) 8 = num (pW t0 k (del S w)) 8 + dgt w (nV t0 - 1 - k) :=
  num_set ((pW_in d1 k (by omega) (del S w) w).2.2 (del_self (by omega))) 8 (by omega)
theorem pw_lt2 (d1 : nV t0 ≤ 8) (hk : k < nV t0) {S w : Nat} (hw : w < nV t0) (hw2 : nV t0 - 1 - k < w) : dgt w (nV t0 - 1 - k) + num (pW t0 k (del S w)) 8 < 16 ^ (8 - nV t0 + k) := by
  have := num_lt (f := fset (pW t0 k (del S w)) w (8 - (nV t0 - 1 - k))) (fun i => by
    unfold fset
    split
    · omega
    · exact (pW_in d1 k (by omega) (del S w) i).1) (j := nV t0 - k) (by omega) (fun i hi => by
    unfold fset
    rw [if_neg (by omega)]
    exact (pW_in d1 k (by omega) (del S w) i).2.1 hi)
  rw [show 8 - (nV t0 - k) = 8 - nV t0 + k by omega, pw_set d1 hk hw] at this
  rw [Nat.add_comm]
  exact this
theorem pw_set2 (d1 : nV t0 ≤ 8) (hk : k < nV t0) {S w : Nat} (hw : w < nV t0) (hw2 : nV t0 - 1 - k < w) : num (fset (fset (pW t0 k (del S w)) w (8 - (nV t0 - 1 - k))) (nV t0 - 1 - k) (8 - w)) 8 = dgt (nV t0 - 1 - k) w + (dgt w (nV t0 - 1 - k) + num (pW t0 k (del S w)) 8) := by
  rw [num_set (v := nV t0 - 1 - k) (by
    unfold fset
    rw [if_neg (by omega)]
    exact (pW_in d1 k (by omega) (del S w) _).2.1 (by omega)) 8 (by omega), pw_set d1 hk hw, Nat.add_comm, Nat.add_comm (num _ _)]
  rfl
theorem pcd_lt {S w : Nat} (hc : pCd t0 (nV t0 - 1 - k) S w = true) : nV t0 - 1 - k < w := by
  unfold pCd at hc
  simp only [Bool.and_eq_true, decide_eq_true_eq] at hc
  exact hc.1.1
theorem dg_in (hk : k < nV t0) (d1 : nV t0 ≤ 8) {w : Nat} (hw : w < 8) : 16 ^ (8 - nV t0 + k) ≤ dgt (nV t0 - 1 - k) w ∧ dgt (nV t0 - 1 - k) w ≤ 8 * 16 ^ (8 - nV t0 + k) := by
  unfold dgt
  rw [show 7 - (nV t0 - 1 - k) = 8 - nV t0 + k by omega]
  exact ⟨Nat.le_mul_of_pos_left _ (by omega), Nat.mul_le_mul_right _ (by omega)⟩
theorem dg_dec (hk : k < nV t0) (d1 : nV t0 ≤ 8) {i j : Nat} (hij : i < j) (hj : j < nV t0) : dgt (nV t0 - 1 - k) j + 16 ^ (8 - nV t0 + k) ≤ dgt (nV t0 - 1 - k) i := by
  unfold dgt
  rw [show 7 - (nV t0 - 1 - k) = 8 - nV t0 + k by omega]
  have : (8 - j + 1) * 16 ^ (8 - nV t0 + k) ≤ (8 - i) * 16 ^ (8 - nV t0 + k) := Nat.mul_le_mul_right _ (by omega)
  rw [Nat.add_mul, Nat.one_mul] at this
  exact this
theorem p16 (d1 : nV t0 ≤ 8) (hk : k < nV t0) : 16 ^ (8 - nV t0 + k) ≤ 268435456 :=
  Nat.le_trans (Nat.pow_le_pow_right (by decide) (show 8 - nV t0 + k ≤ 7 by omega)) (Nat.le_of_ble_eq_true rfl)
theorem pX_x (ih : ∀ S, pX t0 k S = e40 (pB t0 k S) + num (pW t0 k S) 8) (S i : Nat) : pX t0 k (del S i) + 1099511627776 + dgt (nV t0 - 1 - k) i + dgt i (nV t0 - 1 - k) = e40 (1 + pB t0 k (del S i)) + (dgt (nV t0 - 1 - k) i + (dgt i (nV t0 - 1 - k) + num (pW t0 k (del S i)) 8)) := by
  rw [ih, e40_add]
  generalize e40 (pB t0 k (del S i)) = A
  generalize num (pW t0 k (del S i)) 8 = B
  generalize dgt (nV t0 - 1 - k) i = C
  generalize dgt i (nV t0 - 1 - k) = D
  generalize 1099511627776 = E
  omega
theorem pX_mx (d1 : nV t0 ≤ 8) (hk : k < nV t0) (ih : ∀ S, pX t0 k S = e40 (pB t0 k S) + num (pW t0 k S) 8) (S : Nat) : mx (pX t0 k S) (pCd t0 (nV t0 - 1 - k) S) (fun w => pX t0 k (del S w) + 1099511627776 + dgt (nV t0 - 1 - k) w + dgt w (nV t0 - 1 - k)) (nV t0) = e40 (bst (pB t0 k S) (pCd t0 (nV t0 - 1 - k) S) (fun w => 1 + pB t0 k (del S w)) (nV t0)).1 + oR (num (pW t0 k S) 8) (fun w => dgt (nV t0 - 1 - k) w + (dgt w (nV t0 - 1 - k) + num (pW t0 k (del S w)) 8)) (pG t0 k S) := by
  have hp := p16 d1 hk
  rw [ih S]
  refine (mx_bst (E := e40) (a0 := pB t0 k S) (r0 := num (pW t0 k S) 8) (B := 16 ^ (8 - nV t0 + k)) (T := 4294967296) (cd := pCd t0 (nV t0 - 1 - k) S) (a := fun w => 1 + pB t0 k (del S w)) (d := dgt (nV t0 - 1 - k)) (r := fun w => dgt w (nV t0 - 1 - k) + num (pW t0 k (del S w)) 8) (nV t0) (fun u w _ _ huw => e40_lt huw) (fun i hi _ => pX_x ih S i) (pw_lt d1 hk S) (fun i hi hc => ?_) ?_ (fun i j hij hj => dg_dec hk d1 hij hj)).1
  · have h1 := pw_lt2 (S := S) d1 hk hi (pcd_lt hc)
    have h2 := dg_in hk d1 (show i < 8 by omega)
    refine ⟨h1, h2.1, ?_⟩
    show dgt (nV t0 - 1 - k) i + (dgt i (nV t0 - 1 - k) + num (pW t0 k (del S i)) 8) < 4294967296
    omega
  · have := pw_lt d1 hk S
    omega
theorem pX_st (d1 : nV t0 ≤ 8) (hk : k < nV t0) (ih : ∀ S, pX t0 k S = e40 (pB t0 k S) + num (pW t0 k S) 8) (S : Nat) : pX t0 (k + 1) S = e40 (pB t0 (k + 1) S) + num (pW t0 (k + 1) S) 8 := by
  rw [pX_s, pB_s, pW_s]
  by_cases c : S.testBit (nV t0 - 1 - k) = true
  · rw [if_pos c, if_pos c, if_pos c, pX_mx d1 hk ih S]
    refine congrArg (fun q => e40 (bst (pB t0 k S) (pCd t0 (nV t0 - 1 - k) S) (fun w => 1 + pB t0 k (del S w)) (nV t0)).1 + q) ?_
    rcases pG_is t0 k S with e | ⟨w, e, h1, h2, h3⟩
    · rw [e, oR_n, oF_n]
    · rw [e, oR_c, oF_c, pw_set2 d1 hk h1 h2]
  · rw [if_neg c, if_neg c, if_neg c]
    exact ih S
theorem pB_st (hk : k < nV t0) (ih : ∀ S, pB t0 k S ≤ k) (S : Nat) : pB t0 (k + 1) S ≤ k + 1 := by
  rw [pB_s]
  by_cases c : S.testBit (nV t0 - 1 - k) = true
  · rw [if_pos c]
    rcases bst_in (pB t0 k S) (pCd t0 (nV t0 - 1 - k) S) (fun w => 1 + pB t0 k (del S w)) (nV t0) with e | ⟨i, -, -, e⟩
    · rw [e]; have := ih S; omega
    · rw [e]
      have := ih (del S i)
      show 1 + pB t0 k (del S i) ≤ _
      omega
  · rw [if_neg c]
    have := ih S
    omega
end PairNum
theorem pX_is {t0 : Tx} (d1 : nV t0 ≤ 8) : ∀ k, k ≤ nV t0 → ∀ S, pX t0 k S = e40 (pB t0 k S) + num (pW t0 k S) 8 ∧ pB t0 k S ≤ k := by
  intro k
  induction k with
  | zero =>
    intro _ S
    refine ⟨?_, Nat.le_refl _⟩
    rw [pW_0, num_zero (f := fun _ => 0) 8 (fun _ _ => rfl), pX_0, pB_0, e40_0]
  | succ k ih =>
    intro hk S
    exact ⟨pX_st d1 (by omega) (fun S => (ih (by omega) S).1) S, pB_st (by omega) (fun S => (ih (by omega) S).2) S⟩
