/-! A ROW OF DIGITS and its number: the digit of virtue 0 is the greatest. -/
def num (f : Nat → Nat) : Nat → Nat
  | 0 => 0
  | j + 1 => num f j + f j * 16 ^ (7 - j)
theorem num_s (f : Nat → Nat) (j : Nat) : num f (j + 1) = num f j + f j * 16 ^ (7 - j) := rfl
theorem num_congr {f g : Nat → Nat} : ∀ n, (∀ i, i < n → f i = g i) → num f n = num g n
  | 0, _ => rfl
  | n + 1, h => by rw [num_s, num_s, num_congr n (fun i hi => h i (by omega)), h n (by omega)]
def fset (f : Nat → Nat) (v a : Nat) (i : Nat) : Nat := if i = v then a else f i
theorem num_set {f : Nat → Nat} {v a : Nat} (h0 : f v = 0) : ∀ n, v < n → num (fset f v a) n = num f n + a * 16 ^ (7 - v)
  | 0, h => by omega
  | n + 1, h => by
    rw [num_s, num_s]
    rcases Nat.lt_or_ge v n with q | q
    · rw [num_set h0 n q, show fset f v a n = f n by unfold fset; rw [if_neg (by omega)]]
      omega
    · obtain rfl : v = n := by omega
      rw [num_congr (f := fset f v a) (g := f) v (fun i hi => by unfold fset; rw [if_neg (by omega)]), h0, show fset f v a v = a by unfold fset; rw [if_pos rfl]]
      omega
/-- what stands after place j is less than one at place j - 1 -/
theorem num_tail {f : Nat → Nat} (hf : ∀ i, f i < 16) {j : Nat} : ∀ n, j ≤ n → n ≤ 8 → num f n + 16 ^ (8 - n) ≤ num f j + 16 ^ (8 - j)
  | 0, h, _ => by rw [show j = 0 by omega]; exact Nat.le_refl _
  | n + 1, h, h8 => by
    rcases Nat.lt_or_ge j (n + 1) with q | q
    · have ih := num_tail hf (j := j) n (by omega) (by omega)
      have hn := hf n
      have e : 16 ^ (8 - n) = 16 * 16 ^ (7 - n) := by rw [show 8 - n = (7 - n) + 1 by omega, Nat.pow_succ, Nat.mul_comm]
      have hm : (f n + 1) * 16 ^ (7 - n) ≤ 16 * 16 ^ (7 - n) := Nat.mul_le_mul_right _ (by omega)
      rw [Nat.add_mul, Nat.one_mul] at hm
      rw [num_s, show 8 - (n + 1) = 7 - n by omega]
      omega
    · rw [show j = n + 1 by omega]
      exact Nat.le_refl _
theorem num_zero {f : Nat → Nat} : ∀ n, (∀ i, i < n → f i = 0) → num f n = 0
  | 0, _ => rfl
  | n + 1, h => by rw [num_s, num_zero n (fun i hi => h i (by omega)), h n (by omega), Nat.zero_mul]
theorem num_lt {f : Nat → Nat} (hf : ∀ i, f i < 16) {j : Nat} (hj : j ≤ 8) (h0 : ∀ i, i < j → f i = 0) : num f 8 < 16 ^ (8 - j) := by
  have h := num_tail hf (j := j) 8 hj (Nat.le_refl _)
  rw [num_zero j h0, Nat.sub_self, Nat.pow_zero] at h
  omega
theorem num_pre (f : Nat → Nat) : ∀ j, j ≤ 8 → ∃ H, num f j = H * 16 ^ (8 - j)
  | 0, _ => ⟨0, by rw [Nat.zero_mul]; rfl⟩
  | j + 1, hj => by
    obtain ⟨H, e⟩ := num_pre f j (by omega)
    refine ⟨H * 16 + f j, ?_⟩
    rw [num_s, e, show 8 - j = (7 - j) + 1 by omega, show 8 - (j + 1) = 7 - j by omega, Nat.pow_succ, Nat.add_mul, Nat.mul_comm (16 ^ (7 - j)) 16, ← Nat.mul_assoc]
theorem num_dig {f : Nat → Nat} (hf : ∀ i, f i < 16) {j : Nat} (hj : j < 8) (G : Nat) : (G * 16 ^ 8 + num f 8) / 16 ^ (7 - j) % 16 = f j := by
  obtain ⟨H, e⟩ := num_pre f j (by omega)
  have h1 := num_tail hf (j := j + 1) 8 (by omega) (Nat.le_refl _)
  have hp : 0 < 16 ^ (7 - j) := Nat.pow_pos (by decide)
  have hle : num f (j + 1) ≤ num f 8 := by
    have : ∀ n, j + 1 ≤ n → num f (j + 1) ≤ num f n := by
      intro n hn
      induction n with
      | zero => omega
      | succ n ih =>
        rcases Nat.lt_or_ge j n with q | q
        · rw [num_s f n]; exact Nat.le_trans (ih (by omega)) (Nat.le_add_right _ _)
        · rw [show n = j by omega]; exact Nat.le_refl _
    exact this 8 (by omega)
  rw [Nat.sub_self, Nat.pow_zero, show 8 - (j + 1) = 7 - j by omega] at h1
  obtain ⟨r, hr⟩ : ∃ r, num f 8 = num f (j + 1) + r := ⟨num f 8 - num f (j + 1), by omega⟩
  have hr2 : r < 16 ^ (7 - j) := by omega
  have e8 : (16 : Nat) ^ 8 = 16 ^ (j + 1) * 16 ^ (7 - j) := by rw [← Nat.pow_add, show j + 1 + (7 - j) = 8 by omega]
  have e9 : 16 ^ (8 - j) = 16 * 16 ^ (7 - j) := by rw [show 8 - j = (7 - j) + 1 by omega, Nat.pow_succ, Nat.mul_comm]
  have ej : (16 : Nat) ^ (j + 1) = 16 ^ j * 16 := Nat.pow_succ ..
  have hfj := hf j
  have tot : G * 16 ^ 8 + num f 8 = ((G * 16 ^ j + H) * 16 + f j) * 16 ^ (7 - j) + r := by
    rw [hr, num_s, e, e8, e9, ej, Nat.add_mul, Nat.add_mul, Nat.add_mul, ← Nat.mul_assoc, ← Nat.mul_assoc, ← Nat.mul_assoc]
    omega
  rw [tot, Nat.mul_comm, Nat.mul_add_div hp, Nat.div_eq_of_lt hr2]
  omega
