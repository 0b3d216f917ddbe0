/-! THE PURE PART: basics. -/
theorem ib_nI {i n : Nat} (h : i < n) (hn : n < 2 ^ 31) : ib (nI i) n := nI_in h hn
theorem ix_nI {i : Nat} (h : i < 2 ^ 31) : ix (nI i) = i := nI_clamp h
theorem bz0 : bz 0 := Or.inl rfl
theorem bz1 : bz 1 := Or.inr rfl
theorem nI_ne_m1 {i : Nat} (h : i < 2 ^ 31) : ¬ nI i = -1 := by
  intro q
  have h1 := nI_toInt h
  rw [q] at h1
  have : (-1 : Int32).toInt = -1 := by decide
  omega
theorem nI_inj {a b : Nat} (ha : a < 2 ^ 31) (hb : b < 2 ^ 31) (h : nI a = nI b) : a = b := (nI_eq ha hb).mp h
theorem nI_l1 {i : Nat} : nI i + (1 : Int32) = nI (i + 1) := nI_1 i
theorem nI_0' : (0 : Int32) = nI 0 := rfl
theorem b1_none {α β : Type} (k : α → Option β) : b1 none k = none := rfl
theorem b1_ite {α β : Type} {c : Prop} [Decidable c] (x y : Option α) (k : α → Option β) : b1 (if c then x else y) k = if c then b1 x k else b1 y k := by split <;> rfl
theorem b2_ite {α γ β : Type} {c : Prop} [Decidable c] (x y : Option (α × γ)) (k : α → γ → Option β) : b2 (if c then x else y) k = if c then b2 x k else b2 y k := by split <;> rfl
theorem b3_ite {α γ δ β : Type} {c : Prop} [Decidable c] (x y : Option (α × γ × δ)) (k : α → γ → δ → Option β) : b3 (if c then x else y) k = if c then b3 x k else b3 y k := by split <;> rfl
theorem b4_ite {α γ δ ε β : Type} {c : Prop} [Decidable c] (x y : Option (α × γ × δ × ε)) (k : α → γ → δ → ε → Option β) : b4 (if c then x else y) k = if c then b4 x k else b4 y k := by split <;> rfl
theorem b1_ck {α β : Type} {c : Prop} [Decidable c] (x : Option α) (k : α → Option β) : b1 (ck c x) k = ck c (b1 x k) := by unfold ck; split <;> rfl
theorem b2_ck {α γ β : Type} {c : Prop} [Decidable c] (x : Option (α × γ)) (k : α → γ → Option β) : b2 (ck c x) k = ck c (b2 x k) := by unfold ck; split <;> rfl
theorem b1_b1 {α β γ : Type} (x : Option α) (f : α → Option β) (k : β → Option γ) : b1 (b1 x f) k = b1 x (fun a => b1 (f a) k) := by cases x <;> rfl
theorem b2_b1 {α β γ δ : Type} (x : Option α) (f : α → Option (β × γ)) (k : β → γ → Option δ) : b2 (b1 x f) k = b1 x (fun a => b2 (f a) k) := by cases x <;> rfl
theorem b1_b2 {α β γ δ : Type} (x : Option (α × β)) (f : α → β → Option γ) (k : γ → Option δ) : b1 (b2 x f) k = b2 x (fun a b => b1 (f a b) k) := by cases x <;> rfl
theorem b2_b2 {α β γ δ ε : Type} (x : Option (α × β)) (f : α → β → Option (γ × δ)) (k : γ → δ → Option ε) : b2 (b2 x f) k = b2 x (fun a b => b2 (f a b) k) := by cases x <;> rfl
/-- the pieces put together: a loop that counts up -/
def fo {α : Type} (F : Nat → α → α) : Nat → Nat → α → α
  | 0, _, a => a
  | k + 1, i, a => fo F k (i + 1) (F i a)
theorem fo_succ {α : Type} (F : Nat → α → α) : ∀ (k i : Nat) (a : α), fo F (k + 1) i a = F (i + k) (fo F k i a)
  | 0, i, a => rfl
  | k + 1, i, a => by
    show fo F (k + 1) (i + 1) (F i a) = F (i + (k + 1)) (fo F k (i + 1) (F i a))
    rw [fo_succ F k (i + 1) (F i a)]
    congr 1
    omega
theorem fo_congr {α : Type} {F H : Nat → α → α} (P : α → Prop) : ∀ (k i : Nat) (a : α), P a → (∀ j a, i ≤ j → j < i + k → P a → F j a = H j a ∧ P (F j a)) → fo F k i a = fo H k i a
  | 0, _, _, _, _ => rfl
  | k + 1, i, a, hP, h => by
    obtain ⟨h1, h2⟩ := h i a (Nat.le_refl i) (by omega) hP
    show fo F k (i + 1) (F i a) = fo H k (i + 1) (H i a)
    rw [← h1]
    exact fo_congr P k (i + 1) (F i a) h2 (fun j b hj hk => h j b (by omega) (by omega))
theorem fo_split {α : Type} (F : Nat → α → α) : ∀ (k m i : Nat) (a : α), fo F (k + m) i a = fo F m (i + k) (fo F k i a)
  | 0, m, i, a => by simp [fo]
  | k + 1, m, i, a => by
    rw [show k + 1 + m = (k + m) + 1 by omega]
    show fo F (k + m) (i + 1) (F i a) = fo F m (i + (k + 1)) (fo F k (i + 1) (F i a))
    rw [fo_split F k m (i + 1) (F i a)]
    congr 1
    omega
theorem fo_id {α : Type} (F : Nat → α → α) : ∀ (k i : Nat) (a : α), (∀ j a, i ≤ j → j < i + k → F j a = a) → fo F k i a = a
  | 0, _, _, _ => rfl
  | k + 1, i, a, h => by
    show fo F k (i + 1) (F i a) = a
    rw [h i a (Nat.le_refl i) (by omega)]
    exact fo_id F k (i + 1) a (fun j b hj hk => h j b (by omega) (by omega))
/-- an invariant of a loop that counts up -/
theorem fo_inv {α : Type} (F : Nat → α → α) (P : Nat → α → Prop) (N : Nat) (hs : ∀ i a, i < N → P i a → P (i + 1) (F i a)) : ∀ (k i : Nat) (a : α), i + k = N → P i a → P N (fo F k i a)
  | 0, i, a, h, hP => by rw [show N = i by omega]; exact hP
  | k + 1, i, a, h, hP => fo_inv F P N hs k (i + 1) (F i a) (by omega) (hs i a (by omega) hP)
theorem lp_fo {α β : Type} (L : Nat → Int32 → α → Option β) (N : Nat) (F : Nat → α → α) (r : α → β) (P : Nat → α → Prop) (h0 : ∀ n a, P N a → L (n + 1) (nI N) a = some (r a)) (hs : ∀ n i a, i < N → P i a → L (n + 1) (nI i) a = L n (nI (i + 1)) (F i a) ∧ P (i + 1) (F i a)) : ∀ (k i n : Nat) (a : α), i + k = N → k < n → P i a → L n (nI i) a = some (r (fo F k i a)) ∧ P N (fo F k i a)
  | 0, i, n + 1, a, h, _, hP => by
    have : i = N := by omega
    subst this
    exact ⟨h0 n a hP, hP⟩
  | k + 1, i, n + 1, a, h, hn, hP => by
    obtain ⟨h1, h2⟩ := hs n i a (by omega) hP
    rw [h1]
    exact lp_fo L N F r P h0 hs k (i + 1) n (F i a) (by omega) (by omega) h2
-- the small tests
theorem x_outside (a b : Int32) : f_X7_outside a b = some (if a < 0 ∨ b ≤ a then 1 else 0) := by
  unfold f_X7_outside
  by_cases h1 : a < 0
  · simp [h1, b1_some, ck, bz]
  · by_cases h2 : b ≤ a <;> simp [h1, h2, b1_some, ck, bz]
theorem m_in (v a b : Int32) : f_X8_in v a b = some (if a ≤ v ∧ v ≤ b then 1 else 0) := by
  unfold f_X8_in
  by_cases h1 : a ≤ v
  · by_cases h2 : v ≤ b <;> simp [h1, h2, b1_some, ck, bz]
  · simp [h1, b1_some, ck, bz]
theorem out_no {a b : Int32} (h : a < 0 ∨ b ≤ a) : (if a < 0 ∨ b ≤ a then (1 : Int32) else 0) = 1 := if_pos h
theorem x_out_nI {i n : Nat} (h : i < n) (hn : n < 2 ^ 31) : f_X7_outside (nI i) (nI n) = some 0 := by
  rw [x_outside, if_neg]
  rintro (h1 | h1)
  · exact nI_pos (by omega) h1
  · exact nI_ge h hn h1
theorem x_out_bad {a : Int32} {n : Nat} (h : a < 0 ∨ nI n ≤ a) : f_X7_outside a (nI n) = some 1 := by rw [x_outside, if_pos h]
theorem m_in_nI {i n : Nat} (h : i ≤ n) (hn : n < 2 ^ 31) : f_X8_in (nI i) 0 (nI n) = some 1 := by
  rw [m_in, if_pos ⟨nI_pos' (by omega), nI_le h hn⟩]
theorem m_in_bad {a : Int32} {n : Nat} (hn : n + 1 < 2 ^ 31) (h : a < 0 ∨ nI (n + 1) ≤ a) : f_X8_in a 0 (nI n) = some 0 := by
  rw [m_in, if_neg]
  rintro ⟨h1, h2⟩
  rcases h with h | h
  · exact Int32.not_le.mpr h h1
  · exact nI_ge (Nat.lt_succ_self n) hn (Int32.le_trans h h2)
theorem arg_cases (a : Int32) (n : Nat) (hn : n < 2 ^ 31) : (a < 0 ∨ nI n ≤ a) ∨ ∃ j, j < n ∧ a = nI j := by
  rcases pk_ix a hn with h | h | h
  · exact Or.inl (Or.inl h)
  · exact Or.inl (Or.inr h)
  · exact Or.inr h
