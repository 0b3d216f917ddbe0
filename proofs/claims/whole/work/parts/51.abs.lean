/-! THE ABSTRACT STATE, and what it is for the class's cells and for the reference's. -/
abbrev Tx : Type := Nat × (Nat → Nat)
abbrev Bk : Type := Nat × (Nat → Nat) × (Nat → Nat)
abbrev Sn : Type := Nat × (Nat → Nat) × (Nat → Nat) × (Nat → Nat)
/-- there, form, size, items, of the four sheets -/
abbrev Shs : Type := (Nat → Bool) × (Nat → Nat) × (Nat → Nat) × (Nat → Nat → Int32)
/-- is byte b well at place i of a text -/
def okB (vg : Bool) (i b : Nat) : Bool := if i % 6 < 4 then (b == 108 || b == 104 || (b == 63 && vg)) else if i % 6 = 4 then (decide (48 ≤ b) && decide (b ≤ 57)) else b == 59
/-- how far a text is well -/
def fwB (vg : Bool) (β : Nat → Nat) : Nat → Nat
  | 0 => 0
  | n + 1 => if fwB vg β n = n ∧ okB vg n (β n) = true then n + 1 else fwB vg β n
theorem fwB_le (vg : Bool) (β : Nat → Nat) : ∀ n, fwB vg β n ≤ n
  | 0 => Nat.le_refl 0
  | n + 1 => by
    unfold fwB
    split
    · exact Nat.le_refl _
    · exact Nat.le_succ_of_le (fwB_le vg β n)
theorem fwB_ok (vg : Bool) (β : Nat → Nat) : ∀ n i, i < fwB vg β n → okB vg i (β i) = true
  | 0, i, h => by simp [fwB] at h
  | n + 1, i, h => by
    unfold fwB at h
    split at h
    · rename_i hc
      rcases Nat.lt_or_ge i n with h1 | h1
      · exact fwB_ok vg β n i (by rw [hc.1]; exact h1)
      · rw [show i = n by omega]; exact hc.2
    · exact fwB_ok vg β n i h
theorem fwB_bad (vg : Bool) (β : Nat → Nat) : ∀ n, fwB vg β n < n → okB vg (fwB vg β n) (β (fwB vg β n)) = false
  | 0, h => by omega
  | n + 1, h => by
    unfold fwB at h ⊢
    split at h
    · omega
    · rename_i hc
      rw [if_neg hc]
      by_cases h1 : fwB vg β n = n
      · rw [h1]
        cases hq : okB vg n (β n) with
        | false => rfl
        | true => exact absurd ⟨h1, hq⟩ hc
      · exact fwB_bad vg β n (Nat.lt_of_le_of_ne (fwB_le vg β n) h1)
theorem fwB_congr (vg : Bool) {β γ : Nat → Nat} : ∀ n, (∀ i, i < n → β i = γ i) → fwB vg β n = fwB vg γ n
  | 0, _ => rfl
  | n + 1, h => by
    unfold fwB
    rw [fwB_congr vg n (fun i hi => h i (by omega)), h n (by omega)]
/-- how many are whole -/
def whN (n w : Nat) : Nat := if w = n ∧ (n = 0 ∨ n % 6 = 5) then (n + 1) / 6 else 0
/-- its fault (as it is told) -/
def flI (n w : Nat) : Int32 := if w < n then nI w else if n = 0 ∨ n % 6 = 5 then -1 else nI n
def bitS (b p : Nat) : Nat := if b = 63 then 0 else 2 ^ p
def bitH (b p : Nat) : Nat := if b = 104 then 2 ^ p else 0
def saB (β : Nat → Nat) (j : Nat) : Nat := bitS (β (6 * j)) 0 + bitS (β (6 * j + 1)) 1 + bitS (β (6 * j + 2)) 2 + bitS (β (6 * j + 3)) 3
def hiB (β : Nat → Nat) (j : Nat) : Nat := bitH (β (6 * j)) 0 + bitH (β (6 * j + 1)) 1 + bitH (β (6 * j + 2)) 2 + bitH (β (6 * j + 3)) 3
def fgB (β : Nat → Nat) (j : Nat) : Nat := β (6 * j + 4) - 48
theorem saB_lt (β : Nat → Nat) (j : Nat) : saB β j < 16 := by
  unfold saB bitS
  repeat' split
  all_goals omega
theorem hiB_lt (β : Nat → Nat) (j : Nat) : hiB β j < 16 := by
  unfold hiB bitH
  repeat' split
  all_goals omega
theorem okB_fig {vg : Bool} {j b : Nat} (h : okB vg (6 * j + 4) b = true) : 48 ≤ b ∧ b ≤ 57 := by
  unfold okB at h
  rw [if_neg (by omega), if_pos (by omega)] at h
  simpa using h
/-- the class's text: object, said, high, figure -/
def TxX (vg : Bool) (o s h g : Nat → Int32) (x : Tx) : Prop :=
  x.1 ≤ 47 ∧ (∀ i, x.2 i < 256) ∧ o 0 = (if vg then 1 else 0) ∧ o 4 = nI x.1 ∧ o 6 = (if fwB vg x.2 x.1 < x.1 then nI (fwB vg x.2 x.1) else -1) ∧ o 5 = nI (whN x.1 (fwB vg x.2 x.1)) ∧
  ∀ j, j < 8 → ∃ a b, a < 16 ∧ b < 16 ∧ s j = nI a ∧ h j = nI b ∧ (∀ p, p < 4 → 6 * j + p < fwB vg x.2 x.1 → (a / 2 ^ p % 2 = bitS (x.2 (6 * j + p)) 0) ∧ (b / 2 ^ p % 2 = bitH (x.2 (6 * j + p)) 0)) ∧ (6 * j + 4 < fwB vg x.2 x.1 → g j = nI (fgB x.2 j))
def BkX (o w p : Nat → Int32) (b : Bk) : Prop := o 2 = nI b.1 ∧ b.1 ≤ 12 ∧ ∀ i, i < b.1 → w i = nI (b.2.1 i) ∧ p i = nI (b.2.2 i) ∧ b.2.1 i < 40 ∧ b.2.2 i < 8
def SnX (o w v s : Nat → Int32) (b : Sn) : Prop := o 3 = nI b.1 ∧ b.1 ≤ 8 ∧ ∀ i, i < b.1 → w i = nI (b.2.1 i) ∧ v i = nI (b.2.2.1 i) ∧ s i = nI (b.2.2.2 i) ∧ b.2.1 i < 40 ∧ b.2.2.1 i < 8 ∧ b.2.2.2 i < 2
def StX (o : Nat → Int32) (e s k : Nat) : Prop := o 2 = nI e ∧ o 3 = nI s ∧ o 4 = nI k ∧ e ≤ 4 ∧ s < 16 ∧ 1 ≤ k ∧ k ≤ 9
def ShX (z : Sg) (h : Shs) : Prop := ∀ s, s < 4 → rI z (45 + 2 * s) 1 = (if h.1 s then nI (h.2.2.1 s) else -1) ∧ rI z (45 + 2 * s) 2 = nI (h.2.1 s) ∧ h.2.1 s < 3 ∧ h.2.2.1 s ≤ 48 ∧ ∀ i, i < 48 → rI z (46 + 2 * s) i = h.2.2.2 s i
-- the reference's
def TxM (k : Nat) (ty tx : Nat → Int32) (x : Tx) : Prop := ty k = nI x.1 ∧ x.1 ≤ 47 ∧ ∀ i, i < x.1 → tx (47 * k + i) = nI (x.2 i) ∧ x.2 i < 256
def BkM (c : Int32) (w p : Nat → Int32) (b : Bk) : Prop := c = nI b.1 ∧ b.1 ≤ 12 ∧ ∀ i, i < b.1 → w i = nI (b.2.1 i) ∧ p i = nI (b.2.2 i) ∧ b.2.1 i < 40 ∧ b.2.2 i < 8
def SnM (c : Int32) (w v s : Nat → Int32) (b : Sn) : Prop := c = nI b.1 ∧ b.1 ≤ 8 ∧ ∀ i, i < b.1 → w i = nI (b.2.1 i) ∧ v i = nI (b.2.2.1 i) ∧ s i = nI (b.2.2.2 i) ∧ b.2.1 i < 40 ∧ b.2.2.1 i < 8 ∧ b.2.2.2 i < 2
def ShM (th fo sz it : Nat → Int32) (h : Shs) : Prop := ∀ s, s < 4 → th s = (if h.1 s then 1 else 0) ∧ fo s = nI (h.2.1 s) ∧ sz s = nI (h.2.2.1 s) ∧ h.2.1 s < 3 ∧ h.2.2.1 s ≤ 48 ∧ ∀ i, i < 48 → it (48 * s + i) = h.2.2.2 s i
/-- the abstract state: two texts, (enough, secret, kept), handings, claims, seen, sheets, finding -/
abbrev Ab : Type := Tx × Tx × (Nat × Nat × Nat) × Bk × Bk × Sn × Shs × Nat
abbrev aT0 (a : Ab) : Tx := a.1
abbrev aT1 (a : Ab) : Tx := a.2.1
abbrev aE (a : Ab) : Nat := a.2.2.1.1
abbrev aS (a : Ab) : Nat := a.2.2.1.2.1
abbrev aK (a : Ab) : Nat := a.2.2.1.2.2
abbrev aH (a : Ab) : Bk := a.2.2.2.1
abbrev aC (a : Ab) : Bk := a.2.2.2.2.1
abbrev aW (a : Ab) : Sn := a.2.2.2.2.2.1
abbrev aSh (a : Ab) : Shs := a.2.2.2.2.2.2.1
abbrev aF (a : Ab) : Nat := a.2.2.2.2.2.2.2
/-- the class's state but for what it keeps of earlier answers -/
def AX0 (z : Sg) (a : Ab) : Prop := TxX false (rI z 1) (rI z 2) (rI z 3) (rI z 4) (aT0 a) ∧ TxX true (rI z 5) (rI z 6) (rI z 7) (rI z 8) (aT1 a) ∧ StX (rI z 9) (aE a) (aS a) (aK a) ∧ BkX (rI z 10) (rI z 11) (rI z 12) (aH a) ∧ BkX (rI z 13) (rI z 14) (rI z 15) (aC a) ∧ SnX (rI z 16) (rI z 17) (rI z 18) (rI z 19) (aW a) ∧ ShX z (aSh a) ∧ (rI z 0 12 = nI (aF a) ∧ aF a ≤ 5)
def AM (z : Sg) (a : Ab) : Prop := TxM 0 (rI z 1) (rI z 2) (aT0 a) ∧ TxM 1 (rI z 1) (rI z 2) (aT1 a) ∧ (rI z 0 9 = nI (aE a) ∧ rI z 0 10 = nI (aS a) ∧ rI z 0 11 = nI (aK a) ∧ aE a ≤ 4 ∧ aS a < 16 ∧ 1 ≤ aK a ∧ aK a ≤ 9) ∧ BkM (rI z 0 12) (rI z 8) (rI z 9) (aH a) ∧ BkM (rI z 0 15) (rI z 10) (rI z 11) (aC a) ∧ SnM (rI z 0 27) (rI z 19) (rI z 20) (rI z 21) (aW a) ∧ ShM (rI z 22) (rI z 23) (rI z 24) (rI z 25) (aSh a) ∧ (rI z 0 36 = nI (aF a) ∧ aF a ≤ 5)
theorem rIf_wI (z : Sg) (t k : Nat) (v : Int32) (a : Nat) : rI (wI z t k v) a = if a = t then upd (rI z t) k v else rI z a := by
  funext b
  rw [rI_wI]
  by_cases h : a = t
  · subst h
    by_cases h2 : b = k <;> simp [upd, h2]
  · simp [h]
theorem rIf_wJ (z : Sg) (t k : Nat) (v : Int64) (a : Nat) : rI (wJ z t k v) a = rI z a := rfl
theorem rIf_wA (z : Sg) (t : Nat) (f : Nat → Int32) (a : Nat) : rI (wA z t f) a = if a = t then f else rI z a := by
  funext b
  unfold rI wA
  by_cases h : a = t <;> simp [h]
theorem upd_a (f : Nat → Int32) (k : Nat) (v : Int32) (j : Nat) : upd f k v j = if j = k then v else f j := rfl
