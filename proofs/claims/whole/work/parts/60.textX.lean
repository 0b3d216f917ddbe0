/-! TEXTS of the class. -/
theorem nI_div6 {n : Nat} (h : n < 2 ^ 31) : nI n / (6 : Int32) = nI (n / 6) := pk_div (d := 6) h (by decide) (by decide)
theorem nI_rem6 {n : Nat} (h : n < 2 ^ 31) : jrem (nI n) (6 : Int32) = nI (n % 6) := pk_rem (d := 6) h (by decide) (by decide)
theorem nI_lit {n : Nat} (h : n < 2 ^ 31) {m : Nat} (hm : m < 2 ^ 31) : (nI n = nI m) = (n = m) := propext (nI_eq h hm)
theorem x_faultPlace {z : Sg} {t m w : Nat} (h4 : rI z t 4 = nI m) (hm : m ≤ 47) (hw : w ≤ m) (h6 : rI z t 6 = if w < m then nI w else -1) : f_X1_faultPlace t z = some (flI m w) := by
  unfold f_X1_faultPlace flI
  rw [h4, h6]
  by_cases c : w < m
  · simp only [c, if_true, nI_ne_m1 (show w < 2 ^ 31 by omega), not_false_eq_true]
  · simp only [c, if_false, not_true]
    rw [nI_rem6 (by omega)]
    have e1 : (nI m = 0) ↔ m = 0 := nI_z (by omega)
    have e2 : (nI (m % 6) = (5 : Int32)) ↔ m % 6 = 5 := nI_eq (b := 5) (by omega) (by decide)
    simp only [e1, e2]
    by_cases c1 : m = 0
    · simp [c1, b1_some]
    · by_cases c2 : m % 6 = 5 <;> simp [c1, c2, b1_some]
theorem flI_m1 {m w : Nat} (hm : m ≤ 47) (hw : w ≤ m) : flI m w = -1 ↔ (w = m ∧ (m = 0 ∨ m % 6 = 5)) := by
  unfold flI
  by_cases c : w < m
  · rw [if_pos c]
    refine ⟨fun q => absurd q (nI_ne_m1 (by omega)), fun q => by omega⟩
  · rw [if_neg c]
    by_cases c1 : m = 0 ∨ m % 6 = 5
    · rw [if_pos c1]; exact ⟨fun _ => ⟨by omega, c1⟩, fun _ => rfl⟩
    · rw [if_neg c1]; exact ⟨fun q => absurd q (nI_ne_m1 (by omega)), fun q => absurd q.2 c1⟩
theorem x_countWhole {z : Sg} {t m w : Nat} (h4 : rI z t 4 = nI m) (hm : m ≤ 47) (hw : w ≤ m) (h6 : rI z t 6 = if w < m then nI w else -1) : f_X1_countWhole t z = some (wI z t 5 (nI (whN m w))) := by
  unfold f_X1_countWhole
  rw [x_faultPlace h4 hm hw h6, h4, nI_l1, nI_div6 (by omega)]
  simp only [b1_some, flI_m1 hm hw]
  unfold whN
  by_cases c : w = m ∧ (m = 0 ∨ m % 6 = 5)
  · rw [if_pos c, if_pos c]; rfl
  · rw [if_neg c, if_neg c]; rfl
def sb (a p : Nat) (v : Bool) : Nat := (a - (a / 2 ^ p % 2) * 2 ^ p) + (if v then 2 ^ p else 0)
theorem sb_clr : ∀ a : Fin 16, ∀ p : Fin 4, nI a.1 &&& ((jshl 1 (nI p.1)) ^^^ (-1 : Int32)) = nI (sb a.1 p.1 false) := by decide +kernel
theorem sb_set : ∀ a : Fin 16, ∀ p : Fin 4, nI (sb a.1 p.1 false) ||| jshl 1 (nI p.1) = nI (sb a.1 p.1 true) := by decide +kernel
theorem sb_lt' : ∀ a : Fin 16, ∀ p : Fin 4, ∀ v : Bool, sb a.1 p.1 v < 16 := by decide +kernel
theorem sb_at' : ∀ a : Fin 16, ∀ p : Fin 4, ∀ v : Bool, sb a.1 p.1 v / 2 ^ p.1 % 2 = if v then 1 else 0 := by decide +kernel
theorem sb_ne' : ∀ a : Fin 16, ∀ p : Fin 4, ∀ q : Fin 4, ∀ v : Bool, q.1 ≠ p.1 → sb a.1 p.1 v / 2 ^ q.1 % 2 = a.1 / 2 ^ q.1 % 2 := by decide +kernel
theorem upd_upd (f : Nat → Int32) (k : Nat) (v w : Int32) : upd (upd f k v) k w = upd f k w := by
  funext j
  simp only [upd]
  split <;> rfl
theorem takesLetter {z : Sg} {t j p a c b : Nat} {vg : Bool} (ha : a < 16) (hc : c < 16) (hj : j < 8) (hp : p < 4) (hb : b < 256) (h0 : rI z t 0 = if vg then 1 else 0) (hs : rI z (t + 1) j = nI a) (hh : rI z (t + 2) j = nI c) :
    ∃ z', f_X1_takesLetter t (nI j) (jshl 1 (nI p)) (nI b) z = some (if b = 108 ∨ b = 104 ∨ (b = 63 ∧ vg = true) then 1 else 0, z') ∧ rI z' (t + 1) = upd (rI z (t + 1)) j (nI (sb a p (decide (b ≠ 63)))) ∧ rI z' (t + 2) = upd (rI z (t + 2)) j (nI (sb c p (decide (b = 104)))) ∧ (∀ u, u ≠ t + 1 → u ≠ t + 2 → rI z' u = rI z u) ∧ z'.2 = z.2 := by
  have q1 : nI a &&& ((jshl 1 (nI p)) ^^^ (-1 : Int32)) = nI (sb a p false) := sb_clr ⟨a, ha⟩ ⟨p, hp⟩
  have q2 : nI c &&& ((jshl 1 (nI p)) ^^^ (-1 : Int32)) = nI (sb c p false) := sb_clr ⟨c, hc⟩ ⟨p, hp⟩
  have q3 : nI (sb a p false) ||| jshl 1 (nI p) = nI (sb a p true) := sb_set ⟨a, ha⟩ ⟨p, hp⟩
  have q4 : nI (sb c p false) ||| jshl 1 (nI p) = nI (sb c p true) := sb_set ⟨c, hc⟩ ⟨p, hp⟩
  unfold f_X1_takesLetter
  have e63 : (nI b = (63 : Int32)) ↔ b = 63 := nI_eq (b := 63) (by omega) (by decide)
  have e104 : (nI b = (104 : Int32)) ↔ b = 104 := nI_eq (b := 104) (by omega) (by decide)
  have e108 : (nI b = (108 : Int32)) ↔ b = 108 := nI_eq (b := 108) (by omega) (by decide)
  simp only [ck_pos (ib_nI hj (by decide : 8 < 2 ^ 31)), ix_nI (show j < 2 ^ 31 by omega), rI_wI, hs, hh, h0, e63, e104, e108, show ¬ t + 2 = t + 1 by omega, show ¬ t + 1 = t + 2 by omega, show ¬ t = t + 1 by omega, show ¬ t = t + 2 by omega, false_and, and_self, if_true, if_false, q1, q2, q3, q4]
  by_cases c63 : b = 63
  · simp only [c63, if_true]
    refine ⟨_, by cases vg <;> simp [ck, bz] <;> rfl, ?_, ?_, ?_, ?_⟩
    all_goals first | rfl | skip
    · simp only [rIf_wI, show ¬ t + 1 = t + 2 by omega, if_true, if_false]; simp
    · simp only [rIf_wI, show ¬ t + 2 = t + 1 by omega, if_true, if_false]; simp
    · intro u h1 h2; simp only [rIf_wI, h1, h2, if_false]
  · simp only [c63, if_false]
    by_cases c104 : b = 104
    · simp only [c104, if_true, b1_some]
      refine ⟨_, by simp [b1_some, ck, bz]; rfl, ?_, ?_, ?_, ?_⟩
      all_goals first | rfl | skip
      · simp only [rIf_wI, show ¬ t + 1 = t + 2 by omega, if_true, if_false]; simp [upd_upd]
      · simp only [rIf_wI, show ¬ t + 2 = t + 1 by omega, if_true, if_false]; simp [upd_upd]
      · intro u h1 h2; simp only [rIf_wI, h1, h2, if_false]
    · simp only [c104, if_false, b1_some]
      refine ⟨_, by by_cases c108 : b = 108 <;> simp [c108, b1_some, ck, bz] <;> rfl, ?_, ?_, ?_, ?_⟩
      all_goals first | rfl | skip
      · simp only [rIf_wI, show ¬ t + 1 = t + 2 by omega, if_true, if_false]; simp [upd_upd, c63]
      · simp only [rIf_wI, show ¬ t + 2 = t + 1 by omega, if_true, if_false]; simp [upd_upd]
      · intro u h1 h2; simp only [rIf_wI, h1, h2, if_false]
