/-! THE FIRST WORLDS: the cells that the constructors leave are the worlds of zx0 and zm0. Printed by wip/whole/gen/mkstart.py. -/
def zx0 : Sg := (fun t => if t = 1 then (fun k => if k = 6 then -1 else 0) else if t = 5 then (fun k => if k = 6 then -1 else if k = 0 then 1 else 0) else if t = 9 then (fun k => if k = 2 then 2 else if k = 4 then 3 else 0) else if t = 45 ∨ t = 47 ∨ t = 49 ∨ t = 51 then (fun k => if k = 1 then -1 else 0) else fun _ => 0, fun _ _ => 0)
def zm0 : Sg := (fun t => if t = 0 then (fun k => if k = 9 then 2 else if k = 11 then 3 else 0) else fun _ => 0, fun _ _ => 0)
def a0 : Ab := ((0, fun _ => 0), (0, fun _ => 0), (2, 0, 3), (0, fun _ => 0, fun _ => 0), (0, fun _ => 0, fun _ => 0), (0, fun _ => 0, fun _ => 0, fun _ => 0), (fun _ => false, fun _ => 0, fun _ => 0, fun _ _ => 0), 0)
theorem tx0 {vg : Bool} {o s h g : Nat → Int32} (h0 : o 0 = if vg then 1 else 0) (h4 : o 4 = 0) (h6 : o 6 = -1) (h5 : o 5 = 0) (hs : ∀ j, s j = 0) (hh : ∀ j, h j = 0) : TxX vg o s h g (0, fun _ => 0) := by
  refine ⟨Nat.zero_le _, fun _ => Nat.le_of_ble_eq_true rfl, h0, by rw [h4]; exact nI_0.symm, ?_, ?_, fun j _ => ⟨0, 0, by omega, by omega, by rw [hs]; exact nI_0.symm, by rw [hh]; exact nI_0.symm, fun p _ hp => absurd hp (Nat.not_lt_zero _), fun hp => absurd hp (Nat.not_lt_zero _)⟩⟩
  · rw [h6]; rfl
  · rw [h5]; exact nI_0.symm
theorem ax0 : AXg PTt PRr zx0 a0 := by
  refine ⟨⟨tx0 rfl rfl rfl rfl (fun _ => rfl) (fun _ => rfl), tx0 rfl rfl rfl rfl (fun _ => rfl) (fun _ => rfl), ⟨by decide, by decide, by decide, by decide, by decide, by decide, by decide⟩, ⟨by decide, by decide, fun i h => absurd h (Nat.not_lt_zero _)⟩, ⟨by decide, by decide, fun i h => absurd h (Nat.not_lt_zero _)⟩, ⟨by decide, by decide, fun i h => absurd h (Nat.not_lt_zero _)⟩, ?_, by decide, by decide⟩, Or.inl rfl, Or.inl rfl⟩
  intro s hs
  rcases (show s = 0 ∨ s = 1 ∨ s = 2 ∨ s = 3 by omega) with rfl | rfl | rfl | rfl <;> exact ⟨rfl, by decide, by decide, by decide, fun i _ => rfl⟩
theorem am0 : AM zm0 a0 := by
  refine ⟨⟨by decide, by decide, fun i h => absurd h (Nat.not_lt_zero _)⟩, ⟨by decide, by decide, fun i h => absurd h (Nat.not_lt_zero _)⟩, ⟨by decide, by decide, by decide, by decide, by decide, by decide, by decide⟩, ⟨by decide, by decide, fun i h => absurd h (Nat.not_lt_zero _)⟩, ⟨by decide, by decide, fun i h => absurd h (Nat.not_lt_zero _)⟩, ⟨by decide, by decide, fun i h => absurd h (Nat.not_lt_zero _)⟩, ?_, by decide, by decide⟩
  intro s hs
  exact ⟨rfl, nI_0.symm, nI_0.symm, Nat.le_of_ble_eq_true rfl, Nat.le_of_ble_eq_true rfl, fun i _ => rfl⟩
def adX (h : Nat) (q1 : Nat) (r1 : Nat → Nat) (q2 : Nat) (r2 : Nat → Nat) (q3 : Nat) (r3 : Nat → Nat) (q4 : Nat) (r4 : Nat → Nat) (q5 : Nat) (r5 : Nat → Nat) (q6 : Nat) (r6 : Nat → Nat) (q7 : Nat) (r7 : Nat → Nat) (q8 : Nat) (r8 : Nat → Nat) (q9 : Nat) (r9 : Nat → Nat) (q10 : Nat) (q11 : Nat) (r11 : Nat → Nat) (q12 : Nat) (r12 : Nat → Nat) (q13 : Nat) (r13 : Nat → Nat) (q14 : Nat) (r14 : Nat → Nat) : Nat → Nat := fun t => [h, q1, r1 1, r1 2, r1 3, q2, r2 1, r2 2, r2 3, q3, q4, r4 1, r4 2, q5, r5 1, r5 2, q6, r6 1, r6 2, r6 3, q7, r7 1, r7 2, r7 3, r7 4, r7 5, r7 6, r7 7, r7 8, r7 9, r7 10, q8, r8 1, r8 2, r8 3, r8 4, r8 5, r8 6, r8 7, r8 8, r8 9, r8 10, q9, r9 1, q10, q11, r11 1, q12, r12 1, q13, r13 1, q14, r14 1].getD t 0
def adM (h : Nat) (q : Nat → Nat) : Nat → Nat := fun t => if t = 0 then h else q t
abbrev wW (w : BC) (ad : Nat → Nat) : WC := (w.1, ad, w.2.1, w.2.2.1, w.2.2.2.1, w.2.2.2.2)
section First
variable {w : BC} {h : Nat} {q1 : Nat} {r1 : Nat → Nat} {q2 : Nat} {r2 : Nat → Nat} {q3 : Nat} {r3 : Nat → Nat} {q4 : Nat} {r4 : Nat → Nat} {q5 : Nat} {r5 : Nat → Nat} {q6 : Nat} {r6 : Nat → Nat} {q7 : Nat} {r7 : Nat → Nat} {q8 : Nat} {r8 : Nat → Nat} {q9 : Nat} {r9 : Nat → Nat} {q10 : Nat} {q11 : Nat} {r11 : Nat → Nat} {q12 : Nat} {r12 : Nat → Nat} {q13 : Nat} {r13 : Nat → Nat} {q14 : Nat} {r14 : Nat → Nat}
theorem at7 : ∀ k, k < 53 → k ≠ 44 → (chX7 w h q1 r1 q2 r2 q3 r3 q4 r4 q5 r5 q6 r6 q7 r7 q8 r8 q9 r9 q10 q11 r11 q12 r12 q13 r13 q14 r14)[k]? = some (adX h q1 r1 q2 r2 q3 r3 q4 r4 q5 r5 q6 r6 q7 r7 q8 r8 q9 r9 q10 q11 r11 q12 r12 q13 r13 q14 r14 k, entK (wW w (adX h q1 r1 q2 r2 q3 r3 q4 r4 q5 r5 q6 r6 q7 r7 q8 r8 q9 r9 q10 q11 r11 q12 r12 q13 r13 q14 r14)) zx0 k (kd false k)) := fun k hk h44 => match k, hk, h44 with
  | 0, _, _ => rfl
  | 1, _, _ => rfl
  | 2, _, _ => rfl
  | 3, _, _ => rfl
  | 4, _, _ => rfl
  | 5, _, _ => rfl
  | 6, _, _ => rfl
  | 7, _, _ => rfl
  | 8, _, _ => rfl
  | 9, _, _ => rfl
  | 10, _, _ => rfl
  | 11, _, _ => rfl
  | 12, _, _ => rfl
  | 13, _, _ => rfl
  | 14, _, _ => rfl
  | 15, _, _ => rfl
  | 16, _, _ => rfl
  | 17, _, _ => rfl
  | 18, _, _ => rfl
  | 19, _, _ => rfl
  | 20, _, _ => rfl
  | 21, _, _ => rfl
  | 22, _, _ => rfl
  | 23, _, _ => rfl
  | 24, _, _ => rfl
  | 25, _, _ => rfl
  | 26, _, _ => rfl
  | 27, _, _ => rfl
  | 28, _, _ => rfl
  | 29, _, _ => rfl
  | 30, _, _ => rfl
  | 31, _, _ => rfl
  | 32, _, _ => rfl
  | 33, _, _ => rfl
  | 34, _, _ => rfl
  | 35, _, _ => rfl
  | 36, _, _ => rfl
  | 37, _, _ => rfl
  | 38, _, _ => rfl
  | 39, _, _ => rfl
  | 40, _, _ => rfl
  | 41, _, _ => rfl
  | 42, _, _ => rfl
  | 43, _, _ => rfl
  | 44, _, h => absurd rfl h
  | 45, _, _ => rfl
  | 46, _, _ => rfl
  | 47, _, _ => rfl
  | 48, _, _ => rfl
  | 49, _, _ => rfl
  | 50, _, _ => rfl
  | 51, _, _ => rfl
  | 52, _, _ => rfl
  | _ + 53, h, _ => absurd h (Nat.not_lt.mpr (Nat.le_add_left _ _))
theorem at7q : ∃ f : Nat → Option Nat, (chX7 w h q1 r1 q2 r2 q3 r3 q4 r4 q5 r5 q6 r6 q7 r7 q8 r8 q9 r9 q10 q11 r11 q12 r12 q13 r13 q14 r14)[44]? = some (adX h q1 r1 q2 r2 q3 r3 q4 r4 q5 r5 q6 r6 q7 r7 q8 r8 q9 r9 q10 q11 r11 q12 r12 q13 r13 q14 r14 44, .inl (w.2.2.2.2, 4, .inr (.inr (.inr (.inr f))))) ∧ f 0 = some (adX h q1 r1 q2 r2 q3 r3 q4 r4 q5 r5 q6 r6 q7 r7 q8 r8 q9 r9 q10 q11 r11 q12 r12 q13 r13 q14 r14 45) ∧ f 1 = some (adX h q1 r1 q2 r2 q3 r3 q4 r4 q5 r5 q6 r6 q7 r7 q8 r8 q9 r9 q10 q11 r11 q12 r12 q13 r13 q14 r14 47) ∧ f 2 = some (adX h q1 r1 q2 r2 q3 r3 q4 r4 q5 r5 q6 r6 q7 r7 q8 r8 q9 r9 q10 q11 r11 q12 r12 q13 r13 q14 r14 49) ∧ f 3 = some (adX h q1 r1 q2 r2 q3 r3 q4 r4 q5 r5 q6 r6 q7 r7 q8 r8 q9 r9 q10 q11 r11 q12 r12 q13 r13 q14 r14 51) := ⟨_, rfl, rfl, rfl, rfl, rfl⟩
theorem len7 : (chX7 w h q1 r1 q2 r2 q3 r3 q4 r4 q5 r5 q6 r6 q7 r7 q8 r8 q9 r9 q10 q11 r11 q12 r12 q13 r13 q14 r14).length = 53 := rfl
end First
theorem at8 {w : BC} {h : Nat} {q : Nat → Nat} : ∀ k, k < 27 → (chX8 w h q)[k]? = some (adM h q k, entK (wW w (adM h q)) zm0 k (kd true k)) := fun k hk => match k, hk with
  | 0, _ => rfl
  | 1, _ => rfl
  | 2, _ => rfl
  | 3, _ => rfl
  | 4, _ => rfl
  | 5, _ => rfl
  | 6, _ => rfl
  | 7, _ => rfl
  | 8, _ => rfl
  | 9, _ => rfl
  | 10, _ => rfl
  | 11, _ => rfl
  | 12, _ => rfl
  | 13, _ => rfl
  | 14, _ => rfl
  | 15, _ => rfl
  | 16, _ => rfl
  | 17, _ => rfl
  | 18, _ => rfl
  | 19, _ => rfl
  | 20, _ => rfl
  | 21, _ => rfl
  | 22, _ => rfl
  | 23, _ => rfl
  | 24, _ => rfl
  | 25, _ => rfl
  | 26, _ => rfl
  | _ + 27, h => absurd h (Nat.not_lt.mpr (Nat.le_add_left _ _))
