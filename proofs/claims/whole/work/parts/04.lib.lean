/-! THE LIBRARY: a light judgement G over the machine, for methods that make no cell: the world is a fixed list of cells, numbered; their contents are a state of numbers. -/
/-- the state: ints and longs, by cell and place -/
abbrev Sg : Type := (Nat → Nat → Int32) × (Nat → Nat → Int64)
def rI (z : Sg) (t k : Nat) : Int32 := z.1 t k
def rJ (z : Sg) (t k : Nat) : Int64 := z.2 t k
def wI (z : Sg) (t k : Nat) (v : Int32) : Sg := (fun t' => if t' = t then upd (z.1 t) k v else z.1 t', z.2)
def wJ (z : Sg) (t k : Nat) (v : Int64) : Sg := (z.1, fun t' => if t' = t then vp_updL (z.2 t) k v else z.2 t')
def wA (z : Sg) (t : Nat) (f : Nat → Int32) : Sg := (fun t' => if t' = t then f else z.1 t', z.2)
theorem rI_wI (z : Sg) (t k : Nat) (v : Int32) (a b : Nat) : rI (wI z t k v) a b = if a = t ∧ b = k then v else rI z a b := by
  unfold rI wI upd
  by_cases h : a = t
  · subst h
    by_cases h2 : b = k <;> simp [h2]
  · simp [h]
theorem rJ_wI (z : Sg) (t k : Nat) (v : Int32) (a b : Nat) : rJ (wI z t k v) a b = rJ z a b := rfl
theorem rI_wJ (z : Sg) (t k : Nat) (v : Int64) (a b : Nat) : rI (wJ z t k v) a b = rI z a b := rfl
theorem rJ_wJ (z : Sg) (t k : Nat) (v : Int64) (a b : Nat) : rJ (wJ z t k v) a b = if a = t ∧ b = k then v else rJ z a b := by
  unfold rJ wJ vp_updL
  by_cases h : a = t
  · subst h
    by_cases h2 : b = k <;> simp [h2]
  · simp [h]
/-- a row's item: the number of a place -/
abbrev ix (i : Int32) : Nat := i.toNatClampNeg
abbrev ib (i : Int32) (n : Nat) : Prop := ¬ (i < 0 ∨ n ≤ i.toNatClampNeg)
/-- how many places a copy takes -/
abbrev cpOK (sp dp n : Int32) (n0 n1 : Nat) : Prop := ¬ sp < 0 ∧ ¬ dp < 0 ∧ ¬ n < 0 ∧ sp.toNatClampNeg + n.toNatClampNeg ≤ n0 ∧ dp.toNatClampNeg + n.toNatClampNeg ≤ n1
-- steps of a function that may have no answer
def b1 {α β : Type} (x : Option α) (k : α → Option β) : Option β := match x with
  | some a => k a
  | none => none
def b2 {α γ β : Type} (x : Option (α × γ)) (k : α → γ → Option β) : Option β := match x with
  | some (a, c) => k a c
  | none => none
def b3 {α γ δ β : Type} (x : Option (α × γ × δ)) (k : α → γ → δ → Option β) : Option β := match x with
  | some (a, c, d) => k a c d
  | none => none
def b4 {α γ δ ε β : Type} (x : Option (α × γ × δ × ε)) (k : α → γ → δ → ε → Option β) : Option β := match x with
  | some (a, c, d, e) => k a c d e
  | none => none
def b5 {α γ δ ε ζ β : Type} (x : Option (α × γ × δ × ε × ζ)) (k : α → γ → δ → ε → ζ → Option β) : Option β := match x with
  | some (a, c, d, e, f) => k a c d e f
  | none => none
def ck {β : Type} (c : Prop) [Decidable c] (x : Option β) : Option β := if c then x else none
theorem b1_some {α β : Type} (a : α) (k : α → Option β) : b1 (some a) k = k a := rfl
theorem b2_some {α γ β : Type} (a : α) (c : γ) (k : α → γ → Option β) : b2 (some (a, c)) k = k a c := rfl
theorem b3_some {α γ δ β : Type} (a : α) (c : γ) (d : δ) (k : α → γ → δ → Option β) : b3 (some (a, c, d)) k = k a c d := rfl
theorem b4_some {α γ δ ε β : Type} (a : α) (c : γ) (d : δ) (e : ε) (k : α → γ → δ → ε → Option β) : b4 (some (a, c, d, e)) k = k a c d e := rfl
theorem b5_some {α γ δ ε ζ β : Type} (a : α) (c : γ) (d : δ) (e : ε) (f : ζ) (k : α → γ → δ → ε → ζ → Option β) : b5 (some (a, c, d, e, f)) k = k a c d e f := rfl
theorem b1_of {α β : Type} {x : Option α} {k : α → Option β} {r : β} (h : b1 x k = some r) : ∃ a, x = some a ∧ k a = some r := by
  cases x with
  | none => cases h
  | some a => exact ⟨a, rfl, h⟩
theorem b2_of {α γ β : Type} {x : Option (α × γ)} {k : α → γ → Option β} {r : β} (h : b2 x k = some r) : ∃ a c, x = some (a, c) ∧ k a c = some r := by
  cases x with
  | none => cases h
  | some a => exact ⟨a.1, a.2, rfl, h⟩
theorem b3_of {α γ δ β : Type} {x : Option (α × γ × δ)} {k : α → γ → δ → Option β} {r : β} (h : b3 x k = some r) : ∃ a c d, x = some (a, c, d) ∧ k a c d = some r := by
  cases x with
  | none => cases h
  | some a => exact ⟨a.1, a.2.1, a.2.2, rfl, h⟩
theorem b4_of {α γ δ ε β : Type} {x : Option (α × γ × δ × ε)} {k : α → γ → δ → ε → Option β} {r : β} (h : b4 x k = some r) : ∃ a c d e, x = some (a, c, d, e) ∧ k a c d e = some r := by
  cases x with
  | none => cases h
  | some a => exact ⟨a.1, a.2.1, a.2.2.1, a.2.2.2, rfl, h⟩
theorem b5_of {α γ δ ε ζ β : Type} {x : Option (α × γ × δ × ε × ζ)} {k : α → γ → δ → ε → ζ → Option β} {r : β} (h : b5 x k = some r) : ∃ a c d e f, x = some (a, c, d, e, f) ∧ k a c d e f = some r := by
  cases x with
  | none => cases h
  | some a => exact ⟨a.1, a.2.1, a.2.2.1, a.2.2.2.1, a.2.2.2.2, rfl, h⟩
theorem ck_of {β : Type} {c : Prop} [Decidable c] {x : Option β} {r : β} (h : ck c x = some r) : c ∧ x = some r := by
  unfold ck at h
  by_cases hc : c
  · rw [if_pos hc] at h; exact ⟨hc, h⟩
  · rw [if_neg hc] at h; cases h
theorem ck_pos {β : Type} {c : Prop} [Decidable c] {x : Option β} (h : c) : ck c x = x := if_pos h
theorem it_t {α : Type} {c : Prop} [Decidable c] {x y r : α} (h : (if c then x else y) = r) (hc : c) : x = r := by rw [if_pos hc] at h; exact h
theorem it_f {α : Type} {c : Prop} [Decidable c] {x y r : α} (h : (if c then x else y) = r) (hc : ¬ c) : y = r := by rw [if_neg hc] at h; exact h
theorem so1 {α : Type} {a b : α} (h : some a = some b) : a = b := Option.some.inj h
theorem so2 {α γ : Type} {a b : α} {c d : γ} (h : some (a, c) = some (b, d)) : a = b ∧ c = d := by cases h; exact ⟨rfl, rfl⟩
theorem so3 {α γ δ : Type} {a b : α} {c d : γ} {e f : δ} (h : some (a, c, e) = some (b, d, f)) : a = b ∧ c = d ∧ e = f := by cases h; exact ⟨rfl, rfl, rfl⟩
theorem so4 {α γ δ ε : Type} {a b : α} {c d : γ} {e f : δ} {g h : ε} (q : some (a, c, e, g) = some (b, d, f, h)) : a = b ∧ c = d ∧ e = f ∧ g = h := by cases q; exact ⟨rfl, rfl, rfl, rfl⟩
theorem so5 {α γ δ ε ζ : Type} {a b : α} {c d : γ} {e f : δ} {g h : ε} {i j : ζ} (q : some (a, c, e, g, i) = some (b, d, f, h, j)) : a = b ∧ c = d ∧ e = f ∧ g = h ∧ i = j := by cases q; exact ⟨rfl, rfl, rfl, rfl, rfl⟩
theorem cv_ge {a b : Int32} (h : ¬ a < b) : b ≤ a := Int32.not_lt.mp h
theorem cv_gt {a b : Int32} (h : ¬ a ≤ b) : b < a := Int32.not_le.mp h
theorem cv_nge {a b : Int32} (h : a < b) : ¬ b ≤ a := Int32.not_le.mpr h
theorem cv_ngt {a b : Int32} (h : a ≤ b) : ¬ b < a := Int32.not_lt.mpr h
-- kinds of cells: (0, class, fields) an object; (1, n, _) ints; (2, n, _) booleans; (3, n, _) longs; (4, n, [(base, step)]) references; a field: (0, _) int, (1, _) long, (2, d) a reference to the cell d further, (3, a) to the cell a
abbrev Kd : Type := Nat × Nat × List (Nat × Nat)
/-- the world's own: class numbers and slots, addresses, the array classes -/
abbrev WC : Type := va_G × (Nat → Nat) × ClassId × ClassId × ClassId × ClassId
def fv (ad : Nat → Nat) (z : Sg) (t k : Nat) (f : Nat × Nat) : Value := match f.1 with
  | 0 => .int (rI z t k)
  | 1 => .long (rJ z t k)
  | 2 => .ref (ad (t + f.2))
  | _ => .ref (ad f.2)
def flds (ad : Nat → Nat) (z : Sg) (t : Nat) : Nat → List (Nat × Nat) → List Value
  | _, [] => []
  | k, f :: l => fv ad z t k f :: flds ad z t (k + 1) l
theorem flds_len (ad : Nat → Nat) (z : Sg) (t : Nat) : ∀ (l : List (Nat × Nat)) (k : Nat), (flds ad z t k l).length = l.length
  | [], _ => rfl
  | _ :: l, k => by simp [flds, flds_len ad z t l (k + 1)]
theorem flds_at (ad : Nat → Nat) (z : Sg) (t : Nat) : ∀ (l : List (Nat × Nat)) (k j : Nat) (f : Nat × Nat), l[j]? = some f → (flds ad z t k l)[j]? = some (fv ad z t (k + j) f)
  | [], _, j, f, h => by simp at h
  | a :: l, k, 0, f, h => by simp at h; subst h; simp [flds]
  | a :: l, k, j + 1, f, h => by
    simp at h
    simp only [flds, List.getElem?_cons_succ]
    rw [flds_at ad z t l (k + 1) j f h]
    congr 2
    omega
theorem flds_ext (ad : Nat → Nat) (z z' : Sg) (t : Nat) (v : Value) : ∀ (l : List (Nat × Nat)) (k j : Nat) (f : Nat × Nat), l[j]? = some f → fv ad z' t (k + j) f = v → (∀ i g, l[i]? = some g → i ≠ j → fv ad z' t (k + i) g = fv ad z t (k + i) g) → flds ad z' t k l = (flds ad z t k l).set j v
  | [], _, j, f, h, _, _ => by simp at h
  | a :: l, k, 0, f, h, hv, ho => by
    simp at h; subst h
    simp only [flds, List.set_cons_zero]
    congr 1
    clear hv
    have key : ∀ (l' : List (Nat × Nat)) (k' : Nat), (∀ i g, l'[i]? = some g → fv ad z' t (k' + i) g = fv ad z t (k' + i) g) → flds ad z' t k' l' = flds ad z t k' l' := by
      intro l'
      induction l' with
      | nil => intro _ _; rfl
      | cons b l' ih =>
        intro k' h
        simp only [flds]
        rw [ih (k' + 1) (fun i g hg => by have := h (i + 1) g (by simpa using hg); rw [show k' + 1 + i = k' + (i + 1) by omega]; exact this)]
        have := h 0 b (by simp)
        simp at this
        rw [this]
    exact key l (k + 1) (fun i g hg => by have := ho (i + 1) g (by simpa using hg) (by omega); rw [show k + 1 + i = k + (i + 1) by omega]; exact this)
  | a :: l, k, j + 1, f, h, hv, ho => by
    simp at h
    simp only [flds, List.set_cons_succ]
    rw [flds_ext ad z z' t v l (k + 1) j f h (by rw [show k + 1 + j = k + (j + 1) by omega]; exact hv) (fun i g hg hi => by have := ho (i + 1) g (by simpa using hg) (by omega); rw [show k + 1 + i = k + (i + 1) by omega]; exact this)]
    have := ho 0 a (by simp) (by omega)
    simp at this
    rw [this]
def entK (w : WC) (z : Sg) (t : Nat) (K : Kd) : va_E := match K with
  | (0, ci, fl) => .inr (ci, flds w.2.1 z t 0 fl)
  | (1, n, _) => .inl (w.2.2.1, n, .inl (z.1 t))
  | (2, n, _) => .inl (w.2.2.2.1, n, .inl (z.1 t))
  | (3, n, _) => .inl (w.2.2.2.2.1, n, .inr (.inl (z.2 t)))
  | (4, n, (b, d) :: _) => .inl (w.2.2.2.2.2, n, .inr (.inr (.inr (.inr (fun j => some (w.2.1 (b + d * j)))))))
  | _ => .inr (0, [])
theorem entK_congr (w : WC) (z z' : Sg) (t : Nat) (K : Kd) (h1 : z'.1 t = z.1 t) (h2 : z'.2 t = z.2 t) : entK w z' t K = entK w z t K := by
  have hf : ∀ l k, flds w.2.1 z' t k l = flds w.2.1 z t k l := by
    intro l
    induction l with
    | nil => intro _; rfl
    | cons b l ih => intro k; simp only [flds, ih]; simp only [fv, rI, rJ, h1, h2]
  unfold entK
  split <;> simp only [hf, h1, h2]
