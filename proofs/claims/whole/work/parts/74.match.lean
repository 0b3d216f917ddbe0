/-! MATCH: the spec. -/
/-- claimant c is free of the set and fits v -/
def mCd (t0 t1 : Tx) (v S c : Nat) : Bool := !S.testBit c && fit t0 t1 c v
def mB (t0 t1 : Tx) : Nat → Nat → Nat
  | 0, _ => 0
  | k + 1, S => (bst (mB t0 t1 k S) (mCd t0 t1 (nV t0 - 1 - k) S) (fun c => 1000 + fgB t0.2 (nV t0 - 1 - k) + mB t0 t1 k (S ||| 2 ^ c)) (nC t1)).1
def mG (t0 t1 : Tx) (k S : Nat) : Option Nat := (bst (mB t0 t1 k S) (mCd t0 t1 (nV t0 - 1 - k) S) (fun c => 1000 + fgB t0.2 (nV t0 - 1 - k) + mB t0 t1 k (S ||| 2 ^ c)) (nC t1)).2
def dgt (v c : Nat) : Nat := (8 - c) * 16 ^ (7 - v)
def mR (t0 t1 : Tx) : Nat → Nat → Nat
  | 0, _ => 0
  | k + 1, S => oR (mR t0 t1 k S) (fun c => dgt (nV t0 - 1 - k) c + mR t0 t1 k (S ||| 2 ^ c)) (mG t0 t1 k S)
def mX (t0 t1 : Tx) : Nat → Nat → Nat
  | 0, _ => 0
  | k + 1, S => mx (mX t0 t1 k S) (mCd t0 t1 (nV t0 - 1 - k) S) (fun c => mX t0 t1 k (S ||| 2 ^ c) + 1099511627776 + fgB t0.2 (nV t0 - 1 - k) * 4294967296 + dgt (nV t0 - 1 - k) c) (nC t1)
theorem mB_s (t0 t1 : Tx) (k S : Nat) : mB t0 t1 (k + 1) S = (bst (mB t0 t1 k S) (mCd t0 t1 (nV t0 - 1 - k) S) (fun c => 1000 + fgB t0.2 (nV t0 - 1 - k) + mB t0 t1 k (S ||| 2 ^ c)) (nC t1)).1 := rfl
theorem mX_s (t0 t1 : Tx) (k S : Nat) : mX t0 t1 (k + 1) S = mx (mX t0 t1 k S) (mCd t0 t1 (nV t0 - 1 - k) S) (fun c => mX t0 t1 k (S ||| 2 ^ c) + 1099511627776 + fgB t0.2 (nV t0 - 1 - k) * 4294967296 + dgt (nV t0 - 1 - k) c) (nC t1) := rfl
theorem mR_s (t0 t1 : Tx) (k S : Nat) : mR t0 t1 (k + 1) S = oR (mR t0 t1 k S) (fun c => dgt (nV t0 - 1 - k) c + mR t0 t1 k (S ||| 2 ^ c)) (mG t0 t1 k S) := rfl
/-- the first part of a row's number -/
def eR (x : Nat) : Nat := x / 1000 * 1099511627776 + x % 1000 * 4294967296
theorem eR_lt {u w : Nat} (h : u < w) (hu : u % 1000 < 256) : eR u + 4294967296 ≤ eR w := by unfold eR; omega
theorem eR_add {x f : Nat} (h : x % 1000 + f < 1000) : eR (1000 + f + x) = eR x + 1099511627776 + f * 4294967296 := by
  unfold eR
  have h1 : (1000 + f + x) / 1000 = x / 1000 + 1 := by omega
  have h2 : (1000 + f + x) % 1000 = x % 1000 + f := by omega
  rw [h1, h2]
  omega
theorem bst_in (a0 : Nat) (cd : Nat → Bool) (a : Nat → Nat) : ∀ n, (bst a0 cd a n).1 = a0 ∨ ∃ i, i < n ∧ cd i = true ∧ (bst a0 cd a n).1 = a i
  | 0 => Or.inl rfl
  | n + 1 => by
    have ih := bst_in a0 cd a n
    rw [bst_fst]
    have ih' : (bst a0 cd a n).1 = a0 ∨ ∃ i, i < n + 1 ∧ cd i = true ∧ (bst a0 cd a n).1 = a i := ih.imp id (fun ⟨i, p, q⟩ => ⟨i, by omega, q⟩)
    by_cases c : cd n = true
    · rw [if_pos c]
      split
      · exact Or.inr ⟨n, by omega, c, rfl⟩
      · exact ih'
    · rw [if_neg c]; exact ih'
theorem mB_in {t0 t1 : Tx} (d : DOK t0 t1) : ∀ k, k ≤ nV t0 → ∀ S, mB t0 t1 k S % 1000 ≤ 9 * k ∧ mB t0 t1 k S / 1000 ≤ k
  | 0, _, S => by simp [mB]
  | k + 1, hk, S => by
    have d1 := d.1
    have hf := d.2.2.1 (nV t0 - 1 - k) (by omega)
    rw [mB_s]
    rcases bst_in (mB t0 t1 k S) (mCd t0 t1 (nV t0 - 1 - k) S) (fun c => 1000 + fgB t0.2 (nV t0 - 1 - k) + mB t0 t1 k (S ||| 2 ^ c)) (nC t1) with e | ⟨i, -, -, e⟩
    · rw [e]
      have := mB_in d k (by omega) S
      omega
    · rw [e]
      have := mB_in d k (by omega) (S ||| 2 ^ i)
      show (1000 + fgB t0.2 (nV t0 - 1 - k) + mB t0 t1 k (S ||| 2 ^ i)) % 1000 ≤ _ ∧ (1000 + fgB t0.2 (nV t0 - 1 - k) + mB t0 t1 k (S ||| 2 ^ i)) / 1000 ≤ _
      omega
theorem mX_is {t0 t1 : Tx} (d : DOK t0 t1) : ∀ k, k ≤ nV t0 → ∀ S, mX t0 t1 k S = eR (mB t0 t1 k S) + mR t0 t1 k S ∧ mR t0 t1 k S < 16 ^ (8 - nV t0 + k)
  | 0, _, S => ⟨by simp [mX, mB, mR, eR], Nat.pow_pos (by decide)⟩
  | k + 1, hk, S => by
    have d1 := d.1
    have d2 := d.2.1
    have hf := d.2.2.1 (nV t0 - 1 - k) (by omega)
    have ihS := mX_is d k (by omega)
    have hv : 7 - (nV t0 - 1 - k) = 8 - nV t0 + k := by omega
    have hB : 16 ^ (8 - nV t0 + k) ≤ 16 ^ 7 := Nat.pow_le_pow_right (by decide) (by omega)
    have hB7 : (16 : Nat) ^ 7 = 268435456 := by decide
    have hd : ∀ c, c < 8 → 16 ^ (8 - nV t0 + k) ≤ dgt (nV t0 - 1 - k) c ∧ dgt (nV t0 - 1 - k) c ≤ 8 * 16 ^ (8 - nV t0 + k) := by
      intro c hc
      unfold dgt
      rw [hv]
      exact ⟨Nat.le_mul_of_pos_left _ (by omega), Nat.mul_le_mul_right _ (by omega)⟩
    have hm := (mx_bst (E := eR) (a0 := mB t0 t1 k S) (r0 := mR t0 t1 k S) (B := 16 ^ (8 - nV t0 + k)) (T := 4294967296) (cd := mCd t0 t1 (nV t0 - 1 - k) S) (a := fun c => 1000 + fgB t0.2 (nV t0 - 1 - k) + mB t0 t1 k (S ||| 2 ^ c)) (d := dgt (nV t0 - 1 - k)) (r := fun c => mR t0 t1 k (S ||| 2 ^ c)) (x := fun c => mX t0 t1 k (S ||| 2 ^ c) + 1099511627776 + fgB t0.2 (nV t0 - 1 - k) * 4294967296 + dgt (nV t0 - 1 - k) c) (nC t1) (by
        intro u w hu _ huw
        refine eR_lt huw ?_
        rcases hu with rfl | ⟨i, -, -, rfl⟩
        · have := mB_in d k (by omega) S
          omega
        · have := mB_in d k (by omega) (S ||| 2 ^ i)
          show (1000 + fgB t0.2 (nV t0 - 1 - k) + mB t0 t1 k (S ||| 2 ^ i)) % 1000 < 256
          omega) (by
        intro i hi _
        have := mB_in d k (by omega) (S ||| 2 ^ i)
        show mX t0 t1 k (S ||| 2 ^ i) + 1099511627776 + fgB t0.2 (nV t0 - 1 - k) * 4294967296 + dgt (nV t0 - 1 - k) i = eR (1000 + fgB t0.2 (nV t0 - 1 - k) + mB t0 t1 k (S ||| 2 ^ i)) + _
        rw [eR_add (by omega), (ihS (S ||| 2 ^ i)).1]
        omega) (ihS S).2 (by
        intro i hi _
        have h1 := (ihS (S ||| 2 ^ i)).2
        have h2 := hd i (by omega)
        refine ⟨h1, h2.1, ?_⟩
        show dgt (nV t0 - 1 - k) i + mR t0 t1 k (S ||| 2 ^ i) < _
        omega) (by have := (ihS S).2; omega) (by
        intro i j hij hj
        unfold dgt
        rw [hv]
        have : (8 - j + 1) * 16 ^ (8 - nV t0 + k) ≤ (8 - i) * 16 ^ (8 - nV t0 + k) := Nat.mul_le_mul_right _ (by omega)
        rw [Nat.add_mul, Nat.one_mul] at this
        exact this)).1
    refine ⟨?_, ?_⟩
    · rw [mX_s, mR_s, mB_s]
      rw [← (ihS S).1] at hm
      exact hm
    · rw [mR_s]
      have e : 16 ^ (8 - nV t0 + (k + 1)) = 16 ^ (8 - nV t0 + k) * 16 := Nat.pow_succ ..
      have h0 := (ihS S).2
      rw [e]
      rcases bst_snd (mB t0 t1 k S) (mCd t0 t1 (nV t0 - 1 - k) S) (fun c => 1000 + fgB t0.2 (nV t0 - 1 - k) + mB t0 t1 k (S ||| 2 ^ c)) (nC t1) with ⟨eo, -⟩ | ⟨c, eo, hc, -⟩
      · rw [show mG t0 t1 k S = none from eo]
        show mR t0 t1 k S < _
        omega
      · rw [show mG t0 t1 k S = some c from eo]
        show dgt (nV t0 - 1 - k) c + mR t0 t1 k (S ||| 2 ^ c) < _
        have h1 := (ihS (S ||| 2 ^ c)).2
        have h2 := hd c (by omega)
        omega
/-- the claimants taken when j virtues have been looked at -/
def mS (t0 t1 : Tx) : Nat → Nat
  | 0 => 0
  | j + 1 => oR (mS t0 t1 j) (fun c => mS t0 t1 j ||| 2 ^ c) (mG t0 t1 (nV t0 - 1 - j) (mS t0 t1 j))
/-- to whom virtue j goes -/
def mO (t0 t1 : Tx) (j : Nat) : Option Nat := if j < nV t0 then mG t0 t1 (nV t0 - 1 - j) (mS t0 t1 j) else none
theorem mS_s (t0 t1 : Tx) (j : Nat) : mS t0 t1 (j + 1) = oR (mS t0 t1 j) (fun c => mS t0 t1 j ||| 2 ^ c) (mG t0 t1 (nV t0 - 1 - j) (mS t0 t1 j)) := rfl
theorem mG_lt {t0 t1 : Tx} {k S c : Nat} (h : mG t0 t1 k S = some c) : c < nC t1 ∧ S.testBit c = false := by
  rcases bst_snd (mB t0 t1 k S) (mCd t0 t1 (nV t0 - 1 - k) S) (fun c => 1000 + fgB t0.2 (nV t0 - 1 - k) + mB t0 t1 k (S ||| 2 ^ c)) (nC t1) with ⟨eo, -⟩ | ⟨c', eo, hc, hd, -⟩
  · rw [show mG t0 t1 k S = none from eo] at h; cases h
  · rw [show mG t0 t1 k S = some c' from eo] at h
    cases h
    refine ⟨hc, ?_⟩
    unfold mCd at hd
    cases q : S.testBit c
    · rfl
    · rw [q] at hd; cases hd
theorem mR_pre {t0 t1 : Tx} (d : DOK t0 t1) : ∀ j, j ≤ nV t0 → ∃ H, mR t0 t1 (nV t0) 0 = H * 16 ^ (8 - j) + mR t0 t1 (nV t0 - j) (mS t0 t1 j)
  | 0, _ => ⟨0, by simp [mS]⟩
  | j + 1, hj => by
    have d1 := d.1
    obtain ⟨H, e⟩ := mR_pre d j (by omega)
    have e2 : 16 ^ (8 - j) = 16 * 16 ^ (8 - (j + 1)) := by rw [show 8 - j = (8 - (j + 1)) + 1 by omega, Nat.pow_succ, Nat.mul_comm]
    rw [show nV t0 - j = (nV t0 - 1 - j) + 1 by omega, mR_s, show nV t0 - 1 - (nV t0 - 1 - j) = j by omega] at e
    rw [mS_s, show nV t0 - (j + 1) = nV t0 - 1 - j by omega]
    cases hg : mG t0 t1 (nV t0 - 1 - j) (mS t0 t1 j) with
    | none =>
      rw [hg] at e
      exact ⟨H * 16, by rw [e, e2, Nat.mul_assoc]; rfl⟩
    | some c =>
      rw [hg] at e
      refine ⟨H * 16 + (8 - c), ?_⟩
      rw [e, e2, Nat.add_mul, Nat.mul_assoc]
      show _ + (dgt j c + _) = _ + _ + mR t0 t1 (nV t0 - 1 - j) (mS t0 t1 j ||| 2 ^ c)
      unfold dgt
      rw [show 7 - j = 8 - (j + 1) by omega]
      omega
def oD (o : Option Nat) : Nat := match o with
  | none => 0
  | some c => 8 - c
/-- the digit of virtue j -/
theorem mX_dig {t0 t1 : Tx} (d : DOK t0 t1) {j : Nat} (hj : j < 8) : mX t0 t1 (nV t0) 0 / 16 ^ (7 - j) % 16 = oD (mO t0 t1 j) := by
  have d1 := d.1
  have d2 := d.2.1
  have key : ∀ H D r : Nat, D < 16 → r < 16 ^ (7 - j) → (H * 16 ^ (8 - j) + (D * 16 ^ (7 - j) + r)) / 16 ^ (7 - j) % 16 = D := by
    intro H D r hD hr
    have hp : 0 < 16 ^ (7 - j) := Nat.pow_pos (by decide)
    rw [show 16 ^ (8 - j) = 16 * 16 ^ (7 - j) by rw [show 8 - j = (7 - j) + 1 by omega, Nat.pow_succ, Nat.mul_comm], ← Nat.mul_assoc, ← Nat.add_assoc, ← Nat.add_mul, Nat.mul_comm, Nat.mul_add_div hp, Nat.div_eq_of_lt hr]
    omega
  obtain ⟨G, eG⟩ : ∃ G, eR (mB t0 t1 (nV t0) 0) = G * 16 ^ (8 - j) := by
    refine ⟨(mB t0 t1 (nV t0) 0 / 1000 * 256 + mB t0 t1 (nV t0) 0 % 1000) * 16 ^ j, ?_⟩
    rw [Nat.mul_assoc, ← Nat.pow_add, show j + (8 - j) = 8 by omega, show (16 : Nat) ^ 8 = 4294967296 by decide]
    unfold eR
    omega
  rw [(mX_is d (nV t0) (Nat.le_refl _) 0).1, eG]
  unfold mO
  by_cases c : j < nV t0
  · rw [if_pos c]
    obtain ⟨H, e⟩ := mR_pre d j (by omega)
    rw [show nV t0 - j = (nV t0 - 1 - j) + 1 by omega, mR_s, show nV t0 - 1 - (nV t0 - 1 - j) = j by omega] at e
    rw [e, ← Nat.add_assoc, ← Nat.add_mul]
    have hr : ∀ S, mR t0 t1 (nV t0 - 1 - j) S < 16 ^ (7 - j) := by
      intro S
      have := (mX_is d (nV t0 - 1 - j) (by omega) S).2
      rw [show 8 - nV t0 + (nV t0 - 1 - j) = 7 - j by omega] at this
      exact this
    cases hg : mG t0 t1 (nV t0 - 1 - j) (mS t0 t1 j) with
    | none =>
      have := key (G + H) 0 (mR t0 t1 (nV t0 - 1 - j) (mS t0 t1 j)) (by decide) (hr _)
      rw [Nat.zero_mul, Nat.zero_add] at this
      exact this
    | some c =>
      exact key (G + H) (8 - c) (mR t0 t1 (nV t0 - 1 - j) (mS t0 t1 j ||| 2 ^ c)) (by omega) (hr _)
  · rw [if_neg c]
    obtain ⟨H, e⟩ := mR_pre d (nV t0) (Nat.le_refl _)
    rw [Nat.sub_self] at e
    rw [e]
    show (G * 16 ^ (8 - j) + (H * 16 ^ (8 - nV t0) + 0)) / 16 ^ (7 - j) % 16 = 0
    have e3 : 16 ^ (8 - nV t0) = 16 ^ (8 - j) * 16 ^ (j - nV t0) := by rw [← Nat.pow_add, show 8 - j + (j - nV t0) = 8 - nV t0 by omega]
    have := key (G + H * 16 ^ (j - nV t0)) 0 0 (by decide) (Nat.pow_pos (by decide))
    rw [Nat.zero_mul, Nat.add_zero] at this
    rw [Nat.add_zero, e3, Nat.mul_comm (16 ^ (8 - j)), ← Nat.mul_assoc, ← Nat.add_mul]
    exact this
