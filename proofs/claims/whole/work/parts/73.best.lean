/-! ROWS: the best of what may be taken, and the number that says it. -/
/-- the greatest of a0 and the a of those that may be; and which is the first to have it (none: a0 itself, and no other) -/
def bst (a0 : Nat) (cd : Nat → Bool) (a : Nat → Nat) : Nat → Nat × Option Nat
  | 0 => (a0, none)
  | i + 1 => if cd i then (if (bst a0 cd a i).1 < a i then (a i, some i) else if (bst a0 cd a i).1 = a i ∧ (bst a0 cd a i).2 = none then (a i, some i) else bst a0 cd a i) else bst a0 cd a i
/-- the greatest of x0 and the x of those that may be -/
def mx (x0 : Nat) (cd : Nat → Bool) (x : Nat → Nat) : Nat → Nat
  | 0 => x0
  | i + 1 => if cd i then (if x i < mx x0 cd x i then mx x0 cd x i else x i) else mx x0 cd x i
theorem bst_s (a0 : Nat) (cd : Nat → Bool) (a : Nat → Nat) (i : Nat) : bst a0 cd a (i + 1) = if cd i then (if (bst a0 cd a i).1 < a i then (a i, some i) else if (bst a0 cd a i).1 = a i ∧ (bst a0 cd a i).2 = none then (a i, some i) else bst a0 cd a i) else bst a0 cd a i := rfl
theorem mx_s (x0 : Nat) (cd : Nat → Bool) (x : Nat → Nat) (i : Nat) : mx x0 cd x (i + 1) = if cd i then (if x i < mx x0 cd x i then mx x0 cd x i else x i) else mx x0 cd x i := rfl
theorem bst_fst (a0 : Nat) (cd : Nat → Bool) (a : Nat → Nat) (i : Nat) : (bst a0 cd a (i + 1)).1 = if cd i then (if (bst a0 cd a i).1 < a i then a i else (bst a0 cd a i).1) else (bst a0 cd a i).1 := by
  rw [bst_s]
  by_cases c : cd i = true
  · rw [if_pos c, if_pos c]
    by_cases c1 : (bst a0 cd a i).1 < a i
    · rw [if_pos c1, if_pos c1]
    · rw [if_neg c1, if_neg c1]
      by_cases c2 : (bst a0 cd a i).1 = a i ∧ (bst a0 cd a i).2 = none
      · rw [if_pos c2]; exact c2.1.symm
      · rw [if_neg c2]
  · rw [if_neg c, if_neg c]
theorem bst_congr {a0 : Nat} {cd cd' : Nat → Bool} {a a' : Nat → Nat} : ∀ n, (∀ i, i < n → cd i = cd' i) → (∀ i, i < n → cd i = true → a i = a' i) → bst a0 cd a n = bst a0 cd' a' n
  | 0, _, _ => rfl
  | n + 1, h1, h2 => by
    rw [bst_s, bst_s, bst_congr n (fun i hi => h1 i (by omega)) (fun i hi => h2 i (by omega)), ← h1 n (by omega)]
    by_cases c : cd n = true
    · rw [if_pos c, if_pos c, h2 n (by omega) c]
    · rw [if_neg c, if_neg c]
theorem bst_ge (a0 : Nat) (cd : Nat → Bool) (a : Nat → Nat) : ∀ n, a0 ≤ (bst a0 cd a n).1 ∧ ∀ i, i < n → cd i = true → a i ≤ (bst a0 cd a n).1
  | 0 => ⟨Nat.le_refl _, fun i h => by omega⟩
  | n + 1 => by
    obtain ⟨h1, h2⟩ := bst_ge a0 cd a n
    rw [bst_fst]
    refine ⟨?_, fun i hi ci => ?_⟩
    · split
      · split <;> omega
      · exact h1
    · rcases Nat.lt_or_ge i n with q | q
      · have := h2 i q ci
        split
        · split <;> omega
        · exact this
      · obtain rfl : i = n := by omega
        rw [if_pos ci]
        split <;> omega
/-- what the second is -/
def fstIs (cd : Nat → Bool) (a : Nat → Nat) (m : Nat) (n : Nat) (o : Option Nat) : Prop := (o = none ∧ ∀ i, i < n → cd i = true → a i ≠ m) ∨ ∃ c, o = some c ∧ c < n ∧ cd c = true ∧ a c = m ∧ ∀ i, i < c → cd i = true → a i ≠ m
theorem bst_snd (a0 : Nat) (cd : Nat → Bool) (a : Nat → Nat) : ∀ n, fstIs cd a (bst a0 cd a n).1 n (bst a0 cd a n).2
  | 0 => Or.inl ⟨rfl, fun i h => by omega⟩
  | n + 1 => by
    have ih := bst_snd a0 cd a n
    have hg := (bst_ge a0 cd a n).2
    rw [bst_s]
    by_cases c : cd n = true
    · rw [if_pos c]
      by_cases c1 : (bst a0 cd a n).1 < a n
      · rw [if_pos c1]
        exact Or.inr ⟨n, rfl, by omega, c, rfl, fun i hi ci => by have := hg i hi ci; show a i ≠ a n; omega⟩
      · rw [if_neg c1]
        by_cases c2 : (bst a0 cd a n).1 = a n ∧ (bst a0 cd a n).2 = none
        · rw [if_pos c2]
          rcases ih with ⟨-, h⟩ | ⟨x, hx, -⟩
          · exact Or.inr ⟨n, rfl, by omega, c, rfl, fun i hi ci => by have := h i hi ci; show a i ≠ a n; omega⟩
          · rw [c2.2] at hx; cases hx
        · rw [if_neg c2]
          rcases ih with ⟨h0, h⟩ | ⟨x, hx, h3, h4, h5, h6⟩
          · refine Or.inl ⟨h0, fun i hi ci => ?_⟩
            rcases Nat.lt_or_ge i n with q | q
            · exact h i q ci
            · obtain rfl : i = n := by omega
              exact fun e => c2 ⟨e.symm, h0⟩
          · exact Or.inr ⟨x, hx, by omega, h4, h5, h6⟩
    · rw [if_neg c]
      rcases ih with ⟨h0, h⟩ | ⟨x, hx, h3, h4, h5, h6⟩
      · refine Or.inl ⟨h0, fun i hi ci => ?_⟩
        rcases Nat.lt_or_ge i n with q | q
        · exact h i q ci
        · obtain rfl : i = n := by omega
          exact absurd ci c
      · exact Or.inr ⟨x, hx, by omega, h4, h5, h6⟩
theorem fstIs_uniq {cd : Nat → Bool} {a : Nat → Nat} {m n : Nat} {o o' : Option Nat} (h : fstIs cd a m n o) (h' : fstIs cd a m n o') : o = o' := by
  rcases h with ⟨h0, h⟩ | ⟨x, hx, h3, h4, h5, h6⟩
  · rcases h' with ⟨h0', h'⟩ | ⟨x', hx', h3', h4', h5', h6'⟩
    · rw [h0, h0']
    · exact absurd h5' (h x' h3' h4')
  · rcases h' with ⟨h0', h'⟩ | ⟨x', hx', h3', h4', h5', h6'⟩
    · exact absurd h5 (h' x h3 h4)
    · rcases Nat.lt_trichotomy x x' with q | q | q
      · exact absurd h5 (h6' x q h4)
      · rw [hx, hx', q]
      · exact absurd h5' (h6 x' q h4')
/-- the second part of a row's number -/
def oR (r0 : Nat) (r : Nat → Nat) (o : Option Nat) : Nat := match o with
  | none => r0
  | some c => r c
/-- the best row by its number is the best by a, then the first -/
theorem mx_bst {E : Nat → Nat} {a0 r0 B T : Nat} {cd : Nat → Bool} {a d r x : Nat → Nat} : ∀ n, (∀ u w, (u = a0 ∨ ∃ i, i < n ∧ cd i = true ∧ u = a i) → (w = a0 ∨ ∃ i, i < n ∧ cd i = true ∧ w = a i) → u < w → E u + T ≤ E w) → (∀ i, i < n → cd i = true → x i = E (a i) + (d i + r i)) → r0 < B → (∀ i, i < n → cd i = true → r i < B ∧ B ≤ d i ∧ d i + r i < T) → r0 < T → (∀ i j, i < j → j < n → d j + B ≤ d i) → mx (E a0 + r0) cd x n = E (bst a0 cd a n).1 + oR r0 (fun c => d c + r c) (bst a0 cd a n).2 ∧ ((bst a0 cd a n).1 = a0 ∨ ∃ i, i < n ∧ cd i = true ∧ (bst a0 cd a n).1 = a i)
  | 0, _, _, _, _, _, _ => ⟨rfl, Or.inl rfl⟩
  | n + 1, hE, hx, h0, hr, hT, hd => by
    obtain ⟨ih, im⟩ := mx_bst (E := E) (a0 := a0) (r0 := r0) (B := B) (T := T) (cd := cd) (a := a) (d := d) (r := r) (x := x) n (fun u w hu hw => hE u w (hu.imp id (fun ⟨i, p, q⟩ => ⟨i, by omega, q⟩)) (hw.imp id (fun ⟨i, p, q⟩ => ⟨i, by omega, q⟩))) (fun i hi => hx i (by omega)) h0 (fun i hi => hr i (by omega)) hT (fun i j p q => hd i j p (by omega))
    have hs := bst_snd a0 cd a n
    have im' : (bst a0 cd a n).1 = a0 ∨ ∃ i, i < n + 1 ∧ cd i = true ∧ (bst a0 cd a n).1 = a i := im.imp id (fun ⟨i, p, q⟩ => ⟨i, by omega, q⟩)
    rw [mx_s, bst_s, ih]
    by_cases c : cd n = true
    · rw [if_pos c, if_pos c, hx n (by omega) c]
      obtain ⟨r1, r2, r3⟩ := hr n (by omega) c
      have hoT : oR r0 (fun c => d c + r c) (bst a0 cd a n).2 < T := by
        rcases hs with ⟨e, -⟩ | ⟨y, e, y1, y2, -⟩
        · rw [e]; exact hT
        · rw [e]; exact (hr y (by omega) y2).2.2
      by_cases c1 : (bst a0 cd a n).1 < a n
      · have := hE _ _ im' (Or.inr ⟨n, by omega, c, rfl⟩) c1
        rw [if_pos c1, if_neg (by omega)]
        exact ⟨rfl, Or.inr ⟨n, by omega, c, rfl⟩⟩
      · rw [if_neg c1]
        by_cases c2 : (bst a0 cd a n).1 = a n ∧ (bst a0 cd a n).2 = none
        · rw [if_pos c2, c2.1, c2.2]
          show (if E (a n) + (d n + r n) < E (a n) + r0 then _ else _) = _ ∧ _
          rw [if_neg (by omega)]
          exact ⟨rfl, Or.inr ⟨n, by omega, c, rfl⟩⟩
        · rw [if_neg c2]
          refine ⟨?_, im'⟩
          by_cases c3 : (bst a0 cd a n).1 = a n
          · rcases hs with ⟨e, -⟩ | ⟨y, e, y1, y2, -⟩
            · exact absurd ⟨c3, e⟩ c2
            · rw [e, c3]
              have := hd y n y1 (by omega)
              show (if E (a n) + (d n + r n) < E (a n) + (d y + r y) then _ else _) = E (a n) + (d y + r y)
              rw [if_pos (by omega)]
              rfl
          · have := hE _ _ (Or.inr ⟨n, by omega, c, rfl⟩) im' (show a n < (bst a0 cd a n).1 by omega)
            rw [if_pos (by omega)]
    · rw [if_neg c, if_neg c]
      exact ⟨rfl, im'⟩
