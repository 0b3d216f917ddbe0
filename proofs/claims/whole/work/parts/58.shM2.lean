/-! PUT, GET, COPY, READ of the reference. -/
theorem nI_sub1 {m : Nat} (h : 1 ≤ m) : nI m - 1 = nI (m - 1) := nI_pred' (by omega)
theorem m_in_size {i : Int32} {m : Nat} (hm : m ≤ 48) : f_X8_in i 0 (nI m - 1) = some (if bad i m then 0 else 1) := by
  rcases Nat.eq_zero_or_pos m with rfl | hp
  · have hb : bad i 0 := by
      rcases Int32.lt_or_le i 0 with q | q
      · exact Or.inl q
      · exact Or.inr q
    rw [m_in, if_neg, if_pos hb]
    rintro ⟨q1, q2⟩
    have : (0 : Int32) ≤ nI 0 - 1 := Int32.le_trans q1 q2
    revert this; decide
  · rw [nI_sub1 hp]
    rcases arg_cases i m (by omega) with hb | ⟨j, hj, rfl⟩
    · rw [if_pos hb]
      have := m_in_bad (a := i) (n := m - 1) (by omega) (by rw [show m - 1 + 1 = m by omega]; exact hb)
      exact this
    · rw [if_neg (not_bad hj (by omega))]
      exact m_in_nI (by omega) (by omega)
theorem m_lacks {z : Sg} {h : Shs} (H : ShM (rI z 22) (rI z 23) (rI z 24) (rI z 25) h) {s : Nat} (hs : s < 4) (f i : Int32) : f_X8_lacks (nI s) f i z = some (nI (fAt h s f i)) := by
  obtain ⟨k1, k2, k3, k4, k5, k6⟩ := H s hs
  unfold f_X8_lacks fAt
  simp only [ck_pos (ib_nI hs (by decide : 4 < 2 ^ 31)), ix_nI (show s < 2 ^ 31 by omega), sh_th H hs, k2, k3, m_in_size k5]
  cases h.1 s with
  | false => rfl
  | true =>
    by_cases hf : nI (h.2.1 s) = f
    · by_cases hb : bad i (h.2.2.1 s)
      · simp only [hf, not_true, if_true, if_false]
        rw [if_pos hb, if_pos hb]; rfl
      · simp only [hf, not_true, if_true, if_false]
        rw [if_neg hb, if_neg hb]; rfl
    · simp only [hf, not_false_eq_true, if_true, if_false]; rfl
theorem m_keep {z : Sg} {h : Shs} (H : ShM (rI z 22) (rI z 23) (rI z 24) (rI z 25) h) {s i : Nat} (hs : s < 4) (hi : i < 48) (v : Int32) : f_X8_keep (nI s) (nI i) v z = some (wI z 25 (48 * s + i) (narI (h.2.1 s) v)) := by
  obtain ⟨k1, k2, k3, k4, k5, k6⟩ := H s hs
  unfold f_X8_keep
  simp only [ck_pos (ib_nI hs (by decide : 4 < 2 ^ 31)), ix_nI (show s < 2 ^ 31 by omega), k2, m48, ck_pos (ib_nI (show 48 * s + i < 192 by omega) (by decide : 192 < 2 ^ 31)), ix_nI (show 48 * s + i < 2 ^ 31 by omega)]
  rcases (show h.2.1 s = 0 ∨ h.2.1 s = 1 ∨ h.2.1 s = 2 by omega) with e | e | e <;> rw [e] <;> rfl
theorem ShM.put {z : Sg} {h : Shs} (H : ShM (rI z 22) (rI z 23) (rI z 24) (rI z 25) h) {s i : Nat} (hs : s < 4) (hi : i < 48) (v : Int32) : ShM (rI (wI z 25 (48 * s + i) (narI (h.2.1 s) v)) 22) (rI (wI z 25 (48 * s + i) (narI (h.2.1 s) v)) 23) (rI (wI z 25 (48 * s + i) (narI (h.2.1 s) v)) 24) (rI (wI z 25 (48 * s + i) (narI (h.2.1 s) v)) 25) (shPut h s i v) := by
  obtain ⟨k1, k2, k3, k4, k5, k6⟩ := H s hs
  refine H.set hs (fun q hq => by simp [shPut, hq]) (fun q hq => ⟨by simp [rI_wI], by simp [rI_wI], by simp [rI_wI], fun k hk => ?_⟩) ⟨by rw [rI_wI, if_neg (by omega)]; exact k1, by rw [rI_wI, if_neg (by omega)]; exact k2, by rw [rI_wI, if_neg (by omega)]; exact k3, k4, k5, fun k hk => ?_⟩
  · rw [rI_wI, if_neg (by omega)]
  · rw [rI_wI]
    by_cases e : k = i
    · subst e; simp [shPut]
    · rw [if_neg (by omega), k6 k hk]; simp [shPut, e]
theorem nI_posiff {n : Nat} (h : n < 2 ^ 31) : 0 < nI n ↔ ¬ n = 0 := by
  rw [show (0 : Int32) = nI 0 from rfl, nI_ltI (by decide) h]
  omega
theorem M_put {z : Sg} {a : Ab} (h : AM z a) (s f i v : Int32) : ∃ z', f_X8_put s f i v z = some ((sPut s f i v a).1, z') ∧ AM z' (sPut s f i v a).2 := by
  unfold f_X8_put
  rcases arg_cases s 4 (by decide) with hs | ⟨s, hs, rfl⟩
  · exact ⟨z, by simp [m_isSheet_bad hs, b1_some, sPut, bad, hs], by simp only [sPut, bad, hs, true_or, if_true]; exact h⟩
  have ns := not_bad hs (by decide)
  have H := h.2.2.2.2.2.2.1
  rcases arg_cases f 3 (by decide) with hf | ⟨f, hf, rfl⟩
  · have e3 : f_X8_in f 0 2 = some 0 := m_in_bad (n := 2) (by decide) hf
    exact ⟨z, by simp [m_isSheet hs, e3, b1_some, sPut, bad, hf], by simp only [sPut, bad, hf, or_true, if_true]; exact h⟩
  have e3 : f_X8_in (nI f) 0 2 = some 1 := m_in_nI (n := 2) (by omega) (by decide)
  have nf := not_bad hf (by decide)
  have hle := fAt_le (aSh a) s (nI f) i
  simp only [m_isSheet hs, e3, b1_some, ne10, not_false_eq_true, if_true, Bool.false_eq_true, if_false, m_lacks H hs, nI_posiff (show fAt (aSh a) s (nI f) i < 2 ^ 31 by omega), sPut, ns, nf, or_self, ix_nI (show s < 2 ^ 31 by omega)]
  by_cases h0 : fAt (aSh a) s (nI f) i = 0
  · obtain ⟨c1, c2, c3⟩ := fAt_0 h0
    have hk := (H s hs).2.2.2.2.1
    obtain ⟨j, hj, rfl⟩ := nbad_of (by omega) c3
    simp only [h0, not_true, if_false, if_true, m_keep H hs (show j < 48 by omega), b1_some, ix_nI (show j < 2 ^ 31 by omega)]
    exact ⟨_, rfl, h.sh (H.put hs (by omega) v) (fun u hu => by rw [rIf_wI, if_neg (by omega)])⟩
  · simp only [h0, not_false_eq_true, if_true, if_false, m_meets, b2_some, fnd]
    exact ⟨_, rfl, h.fnd hle⟩
theorem M_get {z : Sg} {a : Ab} (h : AM z a) (s f i : Int32) : ∃ z', f_X8_get s f i z = some ((sGet s f i a).1, z') ∧ AM z' (sGet s f i a).2 := by
  unfold f_X8_get
  rcases arg_cases s 4 (by decide) with hs | ⟨s, hs, rfl⟩
  · exact ⟨z, by simp [m_isSheet_bad hs, b1_some, sGet, bad, hs], by simp only [sGet, bad, hs, true_or, if_true]; exact h⟩
  have ns := not_bad hs (by decide)
  have H := h.2.2.2.2.2.2.1
  rcases arg_cases f 3 (by decide) with hf | ⟨f, hf, rfl⟩
  · have e3 : f_X8_in f 0 2 = some 0 := m_in_bad (n := 2) (by decide) hf
    exact ⟨z, by simp [m_isSheet hs, e3, b1_some, sGet, bad, hf], by simp only [sGet, bad, hf, or_true, if_true]; exact h⟩
  have e3 : f_X8_in (nI f) 0 2 = some 1 := m_in_nI (n := 2) (by omega) (by decide)
  have nf := not_bad hf (by decide)
  have hle := fAt_le (aSh a) s (nI f) i
  obtain ⟨k1, k2, k3, k4, k5, k6⟩ := H s hs
  simp only [m_isSheet hs, e3, b1_some, ne10, not_false_eq_true, if_true, Bool.false_eq_true, if_false, m_lacks H hs, nI_posiff (show fAt (aSh a) s (nI f) i < 2 ^ 31 by omega), sGet, ns, nf, or_self, ix_nI (show s < 2 ^ 31 by omega)]
  by_cases h0 : fAt (aSh a) s (nI f) i = 0
  · obtain ⟨c1, c2, c3⟩ := fAt_0 h0
    obtain ⟨j, hj, rfl⟩ := nbad_of (by omega) c3
    simp only [h0, not_true, if_false, if_true, m48, ck_pos (ib_nI (show 48 * s + j < 192 by omega) (by decide : 192 < 2 ^ 31)), ix_nI (show 48 * s + j < 2 ^ 31 by omega), ix_nI (show j < 2 ^ 31 by omega), k6 j (show j < 48 by omega)]
    exact ⟨z, rfl, h⟩
  · simp only [h0, not_false_eq_true, if_true, if_false]
    exact ⟨_, rfl, h.fnd hle⟩
theorem M_read_lp {s m : Nat} {it : Nat → Int32} (hs : s < 4) (hm : m ≤ 48) : ∀ (k n : Nat) (z : Sg) (a : Ab), AM z a → n + k = 25 → rI z 24 s = nI m → (∀ i, i < 48 → rI z 25 (48 * s + i) = it i) → ∃ z', f_X8_read_lp1 (nI s) (k + 1000) (nI n) z = some ((rdS it m k n a).1, z') ∧ AM z' (rdS it m k n a).2
  | 0, n, z, a, h, hn, h1, h2 => by
    refine ⟨z, ?_, h⟩
    rw [show 0 + 1000 = 999 + 1 from rfl, f_X8_read_lp1, ck_pos (ib_nI hs (by decide)), ix_nI (by omega), h1, show (2 : Int32) * nI n = nI (2 * n) from nI_mul 2 n, nI_l1, if_neg (nI_nlt (by omega) (by omega))]
    rfl
  | k + 1, n, z, a, h, hn, h1, h2 => by
    rw [show k + 1 + 1000 = (k + 1000) + 1 by omega, f_X8_read_lp1, ck_pos (ib_nI hs (by decide)), ix_nI (by omega), h1, show (2 : Int32) * nI n = nI (2 * n) from nI_mul 2 n, nI_l1]
    by_cases hc : 2 * n + 1 < m
    · rw [if_pos (nI_lt hc (by omega)), m48, nI_l1, ck_pos (ib_nI (show 48 * s + 2 * n < 192 by omega) (by decide)), ck_pos (ib_nI (show 48 * s + 2 * n + 1 < 192 by omega) (by decide)), ix_nI (by omega), ix_nI (by omega), h2 _ (by omega), show 48 * s + 2 * n + 1 = 48 * s + (2 * n + 1) by omega, h2 _ (by omega)]
      obtain ⟨z1, e, g, hfr⟩ := M_claim h (it (2 * n)) (it (2 * n + 1))
      rw [e, b2_some]
      unfold rdS
      rw [if_pos hc]
      have hsg : (0 < (sClaim (it (2 * n)) (it (2 * n + 1)) a).1) ↔ ¬ (sClaim (it (2 * n)) (it (2 * n + 1)) a).1 < 0 := by
        have hB := h.2.2.2.2.1.2.1
        unfold sClaim bkAdd
        split
        · simp
        · split
          · simp
          · have q : (aC a).1 + 1 < 2 ^ 31 := by omega
            simp only [nI_posiff q, nI_pos q]
            simp
      by_cases hr : (sClaim (it (2 * n)) (it (2 * n + 1)) a).1 < 0
      · rw [if_neg (fun q => (hsg.mp q) hr), if_pos hr]
        exact ⟨z1, rfl, g⟩
      · rw [if_pos (hsg.mpr hr), if_neg hr]
        simp only [b2_some, if_true, nI_l1]
        exact M_read_lp hs hm k (n + 1) z1 _ g (by omega) (by rw [hfr _ (by omega)]; exact h1) (fun i hi => by rw [hfr _ (by omega)]; exact h2 i hi)
    · rw [if_neg (fun q => hc ((nI_ltI (by omega) (by omega)).mp q))]
      unfold rdS
      rw [if_neg hc]
      exact ⟨z, rfl, h⟩
theorem M_read {z : Sg} {a : Ab} (h : AM z a) (s : Int32) : ∃ z', f_X8_read s z = some ((sRead s a).1, z') ∧ AM z' (sRead s a).2 := by
  unfold f_X8_read
  rcases arg_cases s 4 (by decide) with hs | ⟨s, hs, rfl⟩
  · exact ⟨z, by simp [m_isSheet_bad hs, b1_some, sRead, bad, hs], by simp only [sRead, bad, hs, if_true]; exact h⟩
  have ns := not_bad hs (by decide)
  have H := h.2.2.2.2.2.2.1
  obtain ⟨k1, k2, k3, k4, k5, k6⟩ := H s hs
  simp only [m_isSheet hs, b1_some, ne10, not_false_eq_true, if_true, ck_pos (ib_nI hs (by decide : 4 < 2 ^ 31)), ix_nI (show s < 2 ^ 31 by omega), sh_th H hs, sRead, ns, if_false]
  cases ht : (aSh a).1 s with
  | true =>
    simp only [if_true]
    obtain ⟨z', e1, g⟩ := M_read_lp (it := (aSh a).2.2.2 s) hs k5 25 0 z a h rfl k3 k6
    have mono : ∀ (d n : Nat) (x : Int32) (z : Sg) (r : Int32 × Sg), f_X8_read_lp1 (nI s) n x z = some r → f_X8_read_lp1 (nI s) (n + d) x z = some r := by
      intro d n
      induction n with
      | zero => intro x z r q; cases q
      | succ n ih =>
        intro x z r q
        rw [show n + 1 + d = (n + d) + 1 by omega, f_X8_read_lp1]
        rw [f_X8_read_lp1] at q
        obtain ⟨q1, z1, c, q⟩ := b2_of q
        rw [c, b2_some]
        by_cases c3 : q1 = true
        · rw [if_pos c3] at q ⊢; exact ih _ _ _ q
        · rw [if_neg c3] at q ⊢; exact q
    have e2 : f_X8_read_lp1 (nI s) 4096 0 z = some ((rdS ((aSh a).2.2.2 s) ((aSh a).2.2.1 s) 25 0 a).1, z') := mono 3071 1025 0 z _ e1
    rw [e2]
    exact ⟨z', rfl, g⟩
  | false =>
    simp only [Bool.false_eq_true, if_false]
    exact ⟨_, rfl, h.fnd (by decide)⟩
theorem M_copy_lp1 {s i n : Nat} (hs : s < 4) (hn : i + n ≤ 48) (z : Sg) : ∃ z', f_X8_copy_lp1 (nI s) (nI i) (nI n) 4096 0 z = some z' ∧ (∀ u, u ≠ 26 → rI z' u = rI z u) ∧ (∀ q, q < n → rI z' 26 q = rI z 25 (48 * s + i + q)) := by
  have key := lp_fo (fun m k z => f_X8_copy_lp1 (nI s) (nI i) (nI n) m k z) n (fun k z => wI z 26 k (rI z 25 (48 * s + i + k))) (fun z => z) (fun k z' => (∀ u, u ≠ 26 → rI z' u = rI z u) ∧ (∀ q, q < k → rI z' 26 q = rI z 25 (48 * s + i + q))) (fun m z' _ => by
    show f_X8_copy_lp1 (nI s) (nI i) (nI n) (m + 1) (nI n) z' = some z'
    rw [f_X8_copy_lp1, if_neg Int32.lt_irrefl]) (fun m k z' hk hP => ⟨by
    show f_X8_copy_lp1 (nI s) (nI i) (nI n) (m + 1) (nI k) z' = f_X8_copy_lp1 (nI s) (nI i) (nI n) m (nI (k + 1)) _
    rw [f_X8_copy_lp1, if_pos (nI_lt hk (by omega)), m48, nI_add, ck_pos (ib_nI (show 48 * s + i + k < 192 by omega) (by decide)), ck_pos (ib_nI (show k < 48 by omega) (by decide)), nI_l1, ix_nI (by omega), ix_nI (by omega)], ⟨fun u hu => by rw [rIf_wI, if_neg hu]; exact hP.1 u hu, fun q hq => by
      rw [rI_wI]
      by_cases e : q = k
      · subst e; rw [if_pos ⟨rfl, rfl⟩, hP.1 25 (by decide)]
      · rw [if_neg (by omega)]; exact hP.2 q (by omega)⟩⟩) n 0 4096 z (by omega) (by omega) ⟨fun _ _ => rfl, fun q hq => by omega⟩
  exact ⟨_, key.1, key.2⟩
theorem M_copy_lp2 {t j n : Nat} (ht : t < 4) (hn : j + n ≤ 48) (z : Sg) : ∃ z', f_X8_copy_lp2 (nI t) (nI j) (nI n) 4096 0 z = some z' ∧ (∀ u, u ≠ 25 → rI z' u = rI z u) ∧ (∀ q, rI z' 25 q = if 48 * t + j ≤ q ∧ q < 48 * t + j + n then rI z 26 (q - (48 * t + j)) else rI z 25 q) := by
  have key := lp_fo (fun m k z => f_X8_copy_lp2 (nI t) (nI j) (nI n) m k z) n (fun k z => wI z 25 (48 * t + j + k) (rI z 26 k)) (fun z => z) (fun k z' => (∀ u, u ≠ 25 → rI z' u = rI z u) ∧ (∀ q, rI z' 25 q = if 48 * t + j ≤ q ∧ q < 48 * t + j + k then rI z 26 (q - (48 * t + j)) else rI z 25 q)) (fun m z' _ => by
    show f_X8_copy_lp2 (nI t) (nI j) (nI n) (m + 1) (nI n) z' = some z'
    rw [f_X8_copy_lp2, if_neg Int32.lt_irrefl]) (fun m k z' hk hP => ⟨by
    show f_X8_copy_lp2 (nI t) (nI j) (nI n) (m + 1) (nI k) z' = f_X8_copy_lp2 (nI t) (nI j) (nI n) m (nI (k + 1)) _
    rw [f_X8_copy_lp2, if_pos (nI_lt hk (by omega)), m48, nI_add, ck_pos (ib_nI (show k < 48 by omega) (by decide)), ck_pos (ib_nI (show 48 * t + j + k < 192 by omega) (by decide)), nI_l1, ix_nI (by omega), ix_nI (by omega)], ⟨fun u hu => by rw [rIf_wI, if_neg hu]; exact hP.1 u hu, fun q => by
      rw [rI_wI, hP.2, hP.1 26 (by decide)]
      by_cases e : q = 48 * t + j + k
      · subst e
        rw [if_pos ⟨rfl, rfl⟩, if_pos (by omega), show 48 * t + j + k - (48 * t + j) = k by omega]
      · by_cases c : 48 * t + j ≤ q ∧ q < 48 * t + j + k
        · rw [if_neg (by omega), if_pos c, if_pos (by omega)]
        · rw [if_neg (by omega), if_neg c, if_neg (by omega)]⟩⟩) n 0 4096 z (by omega) (by omega) ⟨fun _ _ => rfl, fun q => by rw [if_neg (by omega)]⟩
  exact ⟨_, key.1, key.2⟩
theorem lcmp_pos {x y : Int64} : 0 < lg_cmp x y ↔ y < x := by
  unfold lg_cmp
  by_cases h1 : y < x
  · simp [h1]
  · simp only [h1, if_false, iff_false]
    split <;> decide
theorem l_rng {c b m : Nat} (hc : c < 2 ^ 31) (hb : b < 2 ^ 31) (hm : m ≤ 48) : 0 < lg_cmp ((nI c).toInt64 + (nI b).toInt64) (nI m).toInt64 ↔ ¬ c + b ≤ m := by
  rw [lcmp_pos, nI_l hc, nI_l hb, nI_l (by omega), lN_add, pk_lLT (by omega) (by omega)]
  omega
theorem M_copy {z : Sg} {a : Ab} (h : AM z a) (s i t j n : Int32) : ∃ z', f_X8_copy s i t j n z = some ((sCopy s i t j n a).1, z') ∧ AM z' (sCopy s i t j n a).2 := by
  unfold f_X8_copy
  rcases arg_cases s 4 (by decide) with hs | ⟨s, hs, rfl⟩
  · exact ⟨z, by simp [m_isSheet_bad hs, b1_some, sCopy, bad, hs], by simp only [sCopy, bad, hs, true_or, if_true]; exact h⟩
  have ns := not_bad hs (by decide)
  have H := h.2.2.2.2.2.2.1
  rcases arg_cases t 4 (by decide) with ht | ⟨t, ht, rfl⟩
  · exact ⟨z, by simp [m_isSheet hs, m_isSheet_bad ht, b1_some, sCopy, bad, ht], by simp only [sCopy, bad, ht, or_true, if_true]; exact h⟩
  have nt := not_bad ht (by decide)
  obtain ⟨k1, k2, k3, k4, k5, k6⟩ := H s hs
  obtain ⟨l1, l2, l3, l4, l5, l6⟩ := H t ht
  have hF : ∀ k, k ≤ 5 → ∃ z', b2 (f_X8_meets (nI k) z) (fun r z => some (r, z)) = some ((fnd k a).1, z') ∧ AM z' (fnd k a).2 := fun k hk => ⟨_, rfl, h.fnd hk⟩
  simp only [m_isSheet hs, m_isSheet ht, b1_some, ne10, not_false_eq_true, if_true, Bool.false_eq_true, if_false, ck_pos (ib_nI hs (by decide : 4 < 2 ^ 31)), ck_pos (ib_nI ht (by decide : 4 < 2 ^ 31)), ix_nI (show s < 2 ^ 31 by omega), ix_nI (show t < 2 ^ 31 by omega), sh_th H hs, sh_th H ht, sCopy, ns, nt, or_self]
  cases hts : (aSh a).1 s with
  | false => simp only [Bool.false_eq_true, if_false, if_true, b1_some, true_or]; exact hF 1 (by decide)
  | true =>
    cases htt : (aSh a).1 t with
    | false => simp only [Bool.false_eq_true, if_false, if_true, b1_some, or_true]; exact hF 1 (by decide)
    | true =>
      simp only [if_true, b1_some, Bool.false_eq_true, if_false, Bool.true_eq_false, or_self, k2, l2, nI_eq (show (aSh a).2.1 s < 2 ^ 31 by omega) (show (aSh a).2.1 t < 2 ^ 31 by omega)]
      by_cases hfm : (aSh a).2.1 s = (aSh a).2.1 t
      · simp only [hfm, not_true, if_false, k3, l3]
        by_cases hi : i < 0
        · rw [if_pos hi, if_pos (show ¬ (rng i n ((aSh a).2.2.1 s) ∧ rng j n ((aSh a).2.2.1 t)) from fun q => q.1.1 hi)]
          exact hF 2 (by decide)
        by_cases hj : j < 0
        · rw [if_neg hi, if_pos hj, if_pos (show ¬ (rng i n ((aSh a).2.2.1 s) ∧ rng j n ((aSh a).2.2.1 t)) from fun q => q.2.1 hj)]
          exact hF 2 (by decide)
        by_cases hn : n < 0
        · rw [if_neg hi, if_neg hj, if_pos hn, if_pos (show ¬ (rng i n ((aSh a).2.2.1 s) ∧ rng j n ((aSh a).2.2.1 t)) from fun q => q.1.2.1 hn)]
          exact hF 2 (by decide)
        rw [if_neg hi, if_neg hj, if_neg hn]
        obtain ⟨i, hi', rfl⟩ := nI_of hi
        obtain ⟨j, hj', rfl⟩ := nI_of hj
        obtain ⟨n, hn', rfl⟩ := nI_of hn
        simp only [l_rng hi' hn' k5, l_rng hj' hn' l5, rng, hi, hj, hn, not_false_eq_true, true_and, ix_nI hi', ix_nI hj', ix_nI hn']
        by_cases c1 : i + n ≤ (aSh a).2.2.1 s
        · by_cases c2 : j + n ≤ (aSh a).2.2.1 t
          · simp only [c1, c2, not_true, if_false, b1_some, Bool.false_eq_true, and_self]
            obtain ⟨z1, e1, p1, p2⟩ := M_copy_lp1 (s := s) (i := i) (n := n) hs (by omega) z
            obtain ⟨z2, e2, q1, q2⟩ := M_copy_lp2 (t := t) (j := j) (n := n) ht (by omega) z1
            rw [e1, b1_some, e2, b1_some]
            refine ⟨z2, rfl, ?_⟩
            have hfr : ∀ u, u ≠ 25 → u ≠ 26 → rI z2 u = rI z u := fun u h1 h2 => (q1 u h1).trans (p1 u h2)
            refine h.sh (H.set ht (fun q hq => by simp [shCopy, hq]) (fun q hq => ⟨by rw [hfr 22 (by decide) (by decide)], by rw [hfr 23 (by decide) (by decide)], by rw [hfr 24 (by decide) (by decide)], fun k hk => ?_⟩) ⟨by rw [hfr 22 (by decide) (by decide)]; exact l1, by rw [hfr 23 (by decide) (by decide)]; exact l2, by rw [hfr 24 (by decide) (by decide)]; exact l3, l4, l5, fun k hk => ?_⟩) (fun u hu => hfr u (by omega) (by omega))
            · rw [q2, if_neg (by omega), p1 25 (by decide)]
            · rw [q2]
              by_cases hr : j ≤ k ∧ k < j + n
              · rw [if_pos (by omega), p2 _ (by omega), show 48 * s + i + (48 * t + k - (48 * t + j)) = 48 * s + (i + (k - j)) by omega, k6 _ (by omega)]
                simp [shCopy, hr]
              · rw [if_neg (by omega), p1 25 (by decide), l6 k hk]
                simp only [shCopy, true_and]
                rw [if_neg hr]
          · simp only [c1, c2, not_true, not_false_eq_true, if_false, if_true, b1_some, and_false]; exact hF 2 (by decide)
        · simp only [c1, not_false_eq_true, if_true, b1_some, false_and]; exact hF 2 (by decide)
      · simp only [hfm, not_false_eq_true, if_true]; exact hF 4 (by decide)
