/-! TOGETHER: the spec. -/
def prs (t0 : Tx) (v w : Nat) : Bool := pc8 (hiB t0.2 v ^^^ hiB t0.2 w) == 1
def pCd (t0 : Tx) (v S w : Nat) : Bool := decide (v < w) && S.testBit w && prs t0 v w
def del (S w : Nat) : Nat := S &&& (255 ^^^ 2 ^ w)
def pB (t0 : Tx) : Nat → Nat → Nat
  | 0, _ => 0
  | k + 1, S => if S.testBit (nV t0 - 1 - k) then (bst (pB t0 k S) (pCd t0 (nV t0 - 1 - k) S) (fun w => 1 + pB t0 k (del S w)) (nV t0)).1 else pB t0 k S
def pG (t0 : Tx) (k S : Nat) : Option Nat := (bst (pB t0 k S) (pCd t0 (nV t0 - 1 - k) S) (fun w => 1 + pB t0 k (del S w)) (nV t0)).2
def oF (r0 : Nat → Nat) (r : Nat → Nat → Nat) (o : Option Nat) : Nat → Nat := match o with
  | none => r0
  | some c => r c
def pW (t0 : Tx) : Nat → Nat → Nat → Nat
  | 0, _ => fun _ => 0
  | k + 1, S => if S.testBit (nV t0 - 1 - k) then oF (pW t0 k S) (fun w => fset (fset (pW t0 k (del S w)) w (8 - (nV t0 - 1 - k))) (nV t0 - 1 - k) (8 - w)) (pG t0 k S) else pW t0 k S
def pX (t0 : Tx) : Nat → Nat → Nat
  | 0, _ => 0
  | k + 1, S => if S.testBit (nV t0 - 1 - k) then mx (pX t0 k S) (pCd t0 (nV t0 - 1 - k) S) (fun w => pX t0 k (del S w) + 1099511627776 + dgt (nV t0 - 1 - k) w + dgt w (nV t0 - 1 - k)) (nV t0) else pX t0 k S
theorem pB_s (t0 : Tx) (k S : Nat) : pB t0 (k + 1) S = if S.testBit (nV t0 - 1 - k) then (bst (pB t0 k S) (pCd t0 (nV t0 - 1 - k) S) (fun w => 1 + pB t0 k (del S w)) (nV t0)).1 else pB t0 k S := rfl
theorem pW_s (t0 : Tx) (k S : Nat) : pW t0 (k + 1) S = if S.testBit (nV t0 - 1 - k) then oF (pW t0 k S) (fun w => fset (fset (pW t0 k (del S w)) w (8 - (nV t0 - 1 - k))) (nV t0 - 1 - k) (8 - w)) (pG t0 k S) else pW t0 k S := rfl
theorem pX_s (t0 : Tx) (k S : Nat) : pX t0 (k + 1) S = if S.testBit (nV t0 - 1 - k) then mx (pX t0 k S) (pCd t0 (nV t0 - 1 - k) S) (fun w => pX t0 k (del S w) + 1099511627776 + dgt (nV t0 - 1 - k) w + dgt w (nV t0 - 1 - k)) (nV t0) else pX t0 k S := rfl
theorem del_self {S w : Nat} (h : w < 8) : (del S w).testBit w = false := by
  unfold del
  rw [Nat.testBit_and, Nat.testBit_xor, Nat.testBit_two_pow_self, show (255 : Nat) = 2 ^ 8 - 1 from rfl, Nat.testBit_two_pow_sub_one, decide_eq_true h]
  simp
theorem pG_is (t0 : Tx) (k S : Nat) : pG t0 k S = none ∨ ∃ w, pG t0 k S = some w ∧ w < nV t0 ∧ nV t0 - 1 - k < w ∧ S.testBit w = true := by
  rcases bst_snd (pB t0 k S) (pCd t0 (nV t0 - 1 - k) S) (fun w => 1 + pB t0 k (del S w)) (nV t0) with ⟨e, -⟩ | ⟨w, e, hw, hc, -⟩
  · exact Or.inl e
  · refine Or.inr ⟨w, e, hw, ?_⟩
    unfold pCd at hc
    simp only [Bool.and_eq_true, decide_eq_true_eq] at hc
    exact ⟨hc.1.1, hc.1.2⟩
/-- a row of pairs: small digits, none before the first virtue, none out of the set -/
theorem pW_in {t0 : Tx} (d1 : nV t0 ≤ 8) : ∀ k, k ≤ nV t0 → ∀ S i, pW t0 k S i < 16 ∧ (i < nV t0 - k → pW t0 k S i = 0) ∧ (S.testBit i = false → pW t0 k S i = 0)
  | 0, _, S, i => ⟨by show 0 < 16; decide, fun _ => rfl, fun _ => rfl⟩
  | k + 1, hk, S, i => by
    rw [pW_s]
    have ih := pW_in d1 k (by omega)
    by_cases c : S.testBit (nV t0 - 1 - k) = true
    · rw [if_pos c]
      rcases pG_is t0 k S with e | ⟨w, e, h1, h2, h3⟩
      · rw [e]
        obtain ⟨g1, g2, g3⟩ := ih S i
        exact ⟨g1, fun q => g2 (by omega), g3⟩
      · rw [e]
        show fset (fset (pW t0 k (del S w)) w (8 - (nV t0 - 1 - k))) (nV t0 - 1 - k) (8 - w) i < 16 ∧ (_ → fset (fset (pW t0 k (del S w)) w (8 - (nV t0 - 1 - k))) (nV t0 - 1 - k) (8 - w) i = 0) ∧ (_ → fset (fset (pW t0 k (del S w)) w (8 - (nV t0 - 1 - k))) (nV t0 - 1 - k) (8 - w) i = 0)
        unfold fset
        by_cases c1 : i = nV t0 - 1 - k
        · rw [if_pos c1]
          exact ⟨by omega, fun q => by omega, fun q => by rw [c1, c] at q; cases q⟩
        · rw [if_neg c1]
          by_cases c2 : i = w
          · rw [if_pos c2]
            exact ⟨by omega, fun q => by omega, fun q => by rw [c2, h3] at q; cases q⟩
          · rw [if_neg c2]
            obtain ⟨g1, g2, g3⟩ := ih (del S w) i
            refine ⟨g1, fun q => g2 (by omega), fun q => g3 ?_⟩
            unfold del
            rw [Nat.testBit_and, q, Bool.false_and]
    · rw [if_neg c]
      obtain ⟨g1, g2, g3⟩ := ih S i
      exact ⟨g1, fun q => g2 (by omega), g3⟩
