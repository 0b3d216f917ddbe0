/-! MATCH: the reference, the greedy row. -/
/-- o is the least of c .. n-1 with p -/
def lsIs (p : Nat → Prop) (c n : Nat) (o : Option Nat) : Prop := (o = none ∧ ∀ i, c ≤ i → i < n → ¬ p i) ∨ ∃ x, o = some x ∧ c ≤ x ∧ x < n ∧ p x ∧ ∀ i, c ≤ i → i < x → ¬ p i
theorem lsIs_hit {p : Nat → Prop} {c n : Nat} (h : p c) (hc : c < n) : lsIs p c n (some c) := Or.inr ⟨c, rfl, Nat.le_refl _, hc, h, fun i h1 h2 => by omega⟩
theorem lsIs_miss {p : Nat → Prop} {c n : Nat} {o : Option Nat} (h : ¬ p c) (ho : lsIs p (c + 1) n o) : lsIs p c n o := by
  rcases ho with ⟨e, g⟩ | ⟨x, e, h1, h2, h3, h4⟩
  · refine Or.inl ⟨e, fun i q1 q2 => ?_⟩
    rcases Nat.lt_or_ge c i with q | q
    · exact g i q q2
    · obtain rfl : i = c := by omega
      exact h
  · refine Or.inr ⟨x, e, by omega, h2, h3, fun i q1 q2 => ?_⟩
    rcases Nat.lt_or_ge c i with q | q
    · exact h4 i q q2
    · obtain rfl : i = c := by omega
      exact h
theorem lsIs_fst {cd : Nat → Bool} {a : Nat → Nat} {m n : Nat} {o : Option Nat} (h : lsIs (fun i => cd i = true ∧ a i = m) 0 n o) : fstIs cd a m n o := by
  rcases h with ⟨e, g⟩ | ⟨x, e, h1, h2, h3, h4⟩
  · exact Or.inl ⟨e, fun i hi ci ei => g i (by omega) hi ⟨ci, ei⟩⟩
  · exact Or.inr ⟨x, e, h2, h3.1, h3.2, fun i hi ci ei => h4 i (by omega) hi ⟨ci, ei⟩⟩
section MM2
variable {z : Sg} {t0 t1 : Tx}
theorem m_lm5 (r : RDm z t0 t1) (d : DOK t0 t1) (hT : mTb t0 t1 (nV t0) (rI z 15)) {v S : Nat} (hv : v < nV t0) (hS : S < 256) : ∀ (c n : Nat) (z' : Sg) (o : Option Nat), c ≤ nC t1 → (∀ u, u ≠ 16 → rI z' u = rI z u) → (∀ q, q ≠ v → rI z' 16 q = rI z 16 q) → rI z' 16 v = opI o → lsIs (fun i => mCd t0 t1 v S i = true ∧ 1000 + fgB t0.2 v + mB t0 t1 (nV t0 - 1 - v) (S ||| 2 ^ i) = mB t0 t1 (nV t0 - v) S) c (nC t1) o → ∃ z'', f_X8_laysMatch_lp5 (nI S) (nI v) (n + 1 + c) (nI c + (-1 : Int32)) z' = some z'' ∧ (∀ u, u ≠ 16 → rI z'' u = rI z u) ∧ (∀ q, q ≠ v → rI z'' 16 q = rI z 16 q) ∧ rI z'' 16 v = opI (mG t0 t1 (nV t0 - 1 - v) S)
  | 0, n, z', o, _, h1, h2, h3, h4 => by
    refine ⟨z', ?_, h1, h2, ?_⟩
    · rw [Nat.add_zero, nI_0m1, f_X8_laysMatch_lp5, if_neg (by decide), b1_some, if_neg (by decide)]
    · rw [h3]
      congr 1
      have g1 := lsIs_fst h4
      have g2 := bst_snd (mB t0 t1 (nV t0 - 1 - v) S) (mCd t0 t1 (nV t0 - 1 - (nV t0 - 1 - v)) S) (fun c => 1000 + fgB t0.2 (nV t0 - 1 - (nV t0 - 1 - v)) + mB t0 t1 (nV t0 - 1 - v) (S ||| 2 ^ c)) (nC t1)
      rw [← mB_s, show nV t0 - 1 - (nV t0 - 1 - v) = v by omega, show nV t0 - 1 - v + 1 = nV t0 - v by omega] at g2
      have g3 := fstIs_uniq g1 g2
      rw [g3]
      unfold mG
      rw [show nV t0 - 1 - (nV t0 - 1 - v) = v by omega]
  | c + 1, n, z', o, hc, h1, h2, h3, h4 => by
    have d1 := d.1
    have d2 := d.2.1
    have hf := d.2.2.1 v hv
    have r' : RDm z' t0 t1 := r.of (fun u hu => h1 u (by omega))
    have hT' : mTb t0 t1 (nV t0) (rI z' 15) := by rw [h1 15 (by decide)]; exact hT
    have hTk : mTb t0 t1 (nV t0 - 1 - v) (rI z' 15) := fun j S hj hS => hT' j S (by omega) hS
    have hm := mB_lt d (show nV t0 - 1 - v ≤ nV t0 by omega) (S ||| 2 ^ c)
    have hm2 := mB_lt d (show nV t0 - v ≤ nV t0 by omega) S
    have ev : nV t0 - 1 - (nV t0 - 1 - v) = v := by omega
    have etb := m_tb r' d (show nV t0 - 1 - v < nV t0 by omega) (or_lt256 hS (show c < 8 by omega)) hTk
    rw [ev] at etb
    have ecur : rI z' 15 (256 * v + S) = nI (mB t0 t1 (nV t0 - v) S) := by
      have := hT' (nV t0 - 1 - v) S (by omega) hS
      rw [ev, show nV t0 - 1 - v + 1 = nV t0 - v by omega] at this
      exact this
    rw [nI_m1, show n + 1 + (c + 1) = (n + 1 + c) + 1 by omega, f_X8_laysMatch_lp5, if_pos (nI_pos' (by omega)), r'.1, if_pos (nI_lt hv (by omega)), b1_some, if_pos rfl, m_cd r' d hv hS (by omega), b1_some]
    by_cases q : mCd t0 t1 v S c = true
    · rw [if_pos q, ck_pos (ib_nI (by omega) (by decide)), one_shl (by omega), nI_or, ← r'.1, etb, b1_some, ix_nI (by omega), (r'.2.2.1 v hv).2, show (1000 : Int32) = nI 1000 from rfl, nI_plus, nI_plus, show (256 : Int32) * nI v + nI S = nI (256 * v + S) by rw [show (256 : Int32) = nI 256 from rfl, nI_mul, nI_plus], ck_pos (ib_nI (by omega) (by decide)), ix_nI (by omega), ecur, ck_pos (ib_nI (by omega) (by decide))]
      have e1 := nI_eq (a := 1000 + fgB t0.2 v + mB t0 t1 (nV t0 - 1 - v) (S ||| 2 ^ c)) (b := mB t0 t1 (nV t0 - v) S) (by omega) (by omega)
      by_cases g : 1000 + fgB t0.2 v + mB t0 t1 (nV t0 - 1 - v) (S ||| 2 ^ c) = mB t0 t1 (nV t0 - v) S
      · rw [if_pos (e1.mpr g), b1_some, ck_pos (ib_nI (by omega) (by decide)), b1_some]
        exact m_lm5 r d hT hv hS c n _ (some c) (by omega) (fun u hu => by rw [rIf_wI, if_neg hu]; exact h1 u hu) (fun p hp => by rw [rI_wI, if_neg (fun t => hp t.2)]; exact h2 p hp) (by rw [rI_wI, if_pos ⟨rfl, rfl⟩]; rfl) (lsIs_hit ⟨q, g⟩ (by omega))
      · rw [if_neg (fun t => g (e1.mp t)), b1_some, ck_pos (ib_nI (by omega) (by decide)), b1_some]
        exact m_lm5 r d hT hv hS c n _ o (by omega) (fun u hu => by rw [rIf_wI, if_neg hu]; exact h1 u hu) (fun p hp => by rw [rI_wI, if_neg (fun t => hp t.2)]; exact h2 p hp) (by rw [rI_wI, if_pos ⟨rfl, rfl⟩]; exact h3) (lsIs_miss (fun t => g t.2) h4)
    · rw [if_neg q, b1_some]
      exact m_lm5 r d hT hv hS c n z' o (by omega) h1 h2 h3 (lsIs_miss (fun t => q t.1) h4)
end MM2
