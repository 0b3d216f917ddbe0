/-! GUESS, GUARD. -/
def gAll (t0 : Tx) (s V : Nat) : Nat := cnt (al t0 (15 ^^^ s) V) (nV t0)
def same (t0 : Tx) (v : Nat) : Nat := cnt (fun w => hiB t0.2 w == hiB t0.2 v) (nV t0)
def gM (t0 : Tx) (s V : Nat) : Nat → Nat
  | 0 => 0
  | v + 1 => if al t0 (15 ^^^ s) V v then (if gM t0 s V v < same t0 v then same t0 v else gM t0 s V v) else gM t0 s V v
theorem gM_s (t0 : Tx) (s V v : Nat) : gM t0 s V (v + 1) = if al t0 (15 ^^^ s) V v then (if gM t0 s V v < same t0 v then same t0 v else gM t0 s V v) else gM t0 s V v := rfl
theorem nand16 : ∀ x s : Fin 16, nI x.1 &&& (nI s.1 ^^^ (-1 : Int32)) = nI (x.1 &&& (15 ^^^ s.1)) := by decide +kernel
theorem open16 : ∀ s : Fin 16, (15 : Int32) &&& (nI s.1 ^^^ (-1 : Int32)) = nI (15 ^^^ s.1) := by decide +kernel
theorem x16 : ∀ s : Fin 16, 15 ^^^ s.1 < 16 := by decide +kernel
theorem xor_lt16 : ∀ a b : Fin 16, a.1 ^^^ b.1 < 16 := by decide +kernel
theorem al15 : ∀ a b : Fin 16, (((a.1 ^^^ b.1) &&& 15) == 0) = (a.1 == b.1) := by decide +kernel
theorem al15' (t0 : Tx) (v w : Nat) : al t0 15 v w = (hiB t0.2 w == hiB t0.2 v) := al15 ⟨_, hiB_lt t0.2 w⟩ ⟨_, hiB_lt t0.2 v⟩
theorem same_le {t0 : Tx} (h : nV t0 ≤ 8) (v : Nat) : same t0 v ≤ 8 := Nat.le_trans (cnt_le _ _) h
theorem gM_le {t0 : Tx} (h : nV t0 ≤ 8) (s V : Nat) : ∀ n, gM t0 s V n ≤ 8
  | 0 => by simp [gM]
  | n + 1 => by
    have h1 := gM_le h s V n
    have h2 := same_le h n
    rw [gM_s]
    split
    · split <;> omega
    · exact h1
theorem gAll_le {t0 : Tx} (h : nV t0 ≤ 8) (s V : Nat) : gAll t0 s V ≤ 8 := Nat.le_trans (cnt_le _ _) h
theorem cnt_pos {p : Nat → Bool} {V : Nat} (hp : p V = true) : ∀ n, V < n → 1 ≤ cnt p n
  | 0, h => by omega
  | n + 1, h => by
    unfold cnt
    by_cases e : V = n
    · subst e; simp [hp]
    · have := cnt_pos hp n (by omega); omega
theorem gAll_pos {t0 : Tx} {V : Nat} (hV : V < nV t0) (s : Nat) : 1 ≤ gAll t0 s V := cnt_pos (al_self t0 _ V) _ hV
theorem gM_pos {t0 : Tx} {V : Nat} (hV : V < nV t0) (s : Nat) : ∀ n, V < n → 1 ≤ gM t0 s V n
  | 0, h => by omega
  | n + 1, h => by
    rw [gM_s]
    by_cases e : V = n
    · subst e
      have h1 : 1 ≤ same t0 V := cnt_pos (p := fun w => hiB t0.2 w == hiB t0.2 V) (V := V) (by simp) _ hV
      rw [al_self, if_pos rfl]
      split <;> omega
    · have := gM_pos hV s n (by omega)
      split
      · split <;> omega
      · exact this
theorem bO_and (p q : Nat → Bool) (n : Nat) : bO p n &&& bO q n = bO (fun i => p i && q i) n := by
  apply Nat.eq_of_testBit_eq
  intro i
  rw [Nat.testBit_and, bO_test, bO_test, bO_test]
  cases decide (i < n) <;> simp
section Guess
variable {z : Sg} {t0 t1 : Tx}
theorem x_alikeInOpen (r : RDx z t0 t1) (d : DOK t0 t1) {V s : Nat} (hV : V < nV t0) (hs : s < 16) : f_X2_alikeInOpen (nI V) (nI s) z = some (nI (bO (al t0 (15 ^^^ s) V) (nV t0))) := by
  unfold f_X2_alikeInOpen
  have e : (15 : Int32) &&& (nI s ^^^ (-1 : Int32)) = nI (15 ^^^ s) := open16 ⟨s, hs⟩
  rw [e, x_alikeIn r d hV (x16 ⟨s, hs⟩)]
  rfl
theorem x_mostOfOneKind (r : RDx z t0 t1) (d : DOK t0 t1) {V s : Nat} : f_X2_mostOfOneKind (nI (bO (al t0 (15 ^^^ s) V) (nV t0))) z = some (nI (gM t0 s V (nV t0))) := by
  have d1 := d.1
  have hB : bO (al t0 (15 ^^^ s) V) (nV t0) < 256 := Nat.lt_of_lt_of_le (bO_lt _ _) (Nat.pow_le_pow_right (n := 2) (by decide) d1)
  unfold f_X2_mostOfOneKind
  have := lp_up (fun n b i => f_X2_mostOfOneKind_lp1 (nI (bO (al t0 (15 ^^^ s) V) (nV t0))) z n b i) (nV t0) (fun i => nI (gM t0 s V i)) (nI (gM t0 s V (nV t0))) (fun n => by
    show f_X2_mostOfOneKind_lp1 _ z (n + 1) _ _ = _
    rw [f_X2_mostOfOneKind_lp1, r.1, if_neg Int32.lt_irrefl]) (fun n i hi => by
    show f_X2_mostOfOneKind_lp1 _ z (n + 1) _ _ = f_X2_mostOfOneKind_lp1 _ z n _ _
    rw [f_X2_mostOfOneKind_lp1, r.1, if_pos (nI_lt hi (by omega))]
    simp only [bit_is (show bO (al t0 (15 ^^^ s) V) (nV t0) < 2 ^ 31 by omega) (show i < 32 by omega), bO_test, hi, decide_true, Bool.true_and, nI_l1]
    rw [gM_s]
    cases ha : al t0 (15 ^^^ s) V i with
    | false => simp [b1_some]
    | true =>
      have e15 : f_X2_alikeIn (nI i) 15 z = some (nI (bO (al t0 15 i) (nV t0))) := by
        rw [show (15 : Int32) = nI 15 from rfl]
        exact x_alikeIn r d hi (by decide)
      have hl : bO (fun w => al t0 15 i w && al t0 (15 ^^^ s) V w) (nV t0) < 256 := Nat.lt_of_lt_of_le (bO_lt _ _) (Nat.pow_le_pow_right (n := 2) (by decide) d1)
      have es : cnt (fun w => al t0 15 i w && al t0 (15 ^^^ s) V w) (nV t0) = same t0 i := by
        unfold same
        refine cnt_congr _ (fun w hw => ?_)
        rw [al15']
        cases hq : hiB t0.2 w == hiB t0.2 i with
        | false => rfl
        | true =>
          have : hiB t0.2 w = hiB t0.2 i := by simpa using hq
          unfold al at ha ⊢
          rw [this, ha]
          rfl
      rw [if_pos rfl, if_pos rfl, e15, b1_some, nI_and, bO_and, x_bitCount hl, pc_bO d1, b1_some, b1_some, es]
      have h1 := gM_le d1 s V i
      have h2 := same_le d1 i
      by_cases q : gM t0 s V i < same t0 i
      · rw [if_pos (nI_lt q (by omega)), if_pos q]
      · rw [if_neg (fun k => q ((nI_ltI (by omega) (by omega)).mp k)), if_neg q]) 4096 (by omega)
  simp only [gM, nI_0] at this
  rw [this]
  rfl
theorem m_same (r : RDm z t0 t1) (d : DOK t0 t1) {v : Nat} (hv : v < nV t0) : f_X8_guessBy_lp2 (nI v) z 4096 0 0 = some (nI (same t0 v)) := by
  have d1 := d.1
  exact lp_up (fun n b i => f_X8_guessBy_lp2 (nI v) z n b i) (nV t0) (fun i => nI (cnt (fun w => hiB t0.2 w == hiB t0.2 v) i)) (nI (same t0 v)) (fun n => by
    show f_X8_guessBy_lp2 _ z (n + 1) _ _ = _
    rw [f_X8_guessBy_lp2, r.1, if_neg Int32.lt_irrefl]; rfl) (fun n i hi => by
    show f_X8_guessBy_lp2 _ z (n + 1) _ _ = f_X8_guessBy_lp2 _ z n _ _
    rw [f_X8_guessBy_lp2, r.1, if_pos (nI_lt hi (by omega))]
    simp only [ck_pos (ib_nI (show i < 9 by omega) (by decide : 9 < 2 ^ 31)), ck_pos (ib_nI (show v < 9 by omega) (by decide : 9 < 2 ^ 31)), ix_nI (show i < 2 ^ 31 by omega), ix_nI (show v < 2 ^ 31 by omega), (r.2.2.1 i hi).1, (r.2.2.1 v hv).1, nI_eq (show hiB t0.2 i < 2 ^ 31 by have := hiB_lt t0.2 i; omega) (show hiB t0.2 v < 2 ^ 31 by have := hiB_lt t0.2 v; omega), nI_l1]
    show _ = f_X8_guessBy_lp2 (nI v) z n (nI (cnt (fun w => hiB t0.2 w == hiB t0.2 v) i + (if hiB t0.2 i == hiB t0.2 v then 1 else 0))) (nI (i + 1))
    by_cases q : hiB t0.2 i = hiB t0.2 v
    · simp [q, b1_some, nI_succ]
    · simp [q, b1_some]) 4096 (by omega)
theorem m_guessBy_lp (r : RDm z t0 t1) (d : DOK t0 t1) {V s : Nat} (hV : V < nV t0) (hs : s < 16) : f_X8_guessBy_lp1 (nI V) (nI s) z 4096 0 0 0 = some (nI (gAll t0 s V), nI (gM t0 s V (nV t0))) := by
  have d1 := d.1
  exact lp_up (fun n (b : Int32 × Int32) i => f_X8_guessBy_lp1 (nI V) (nI s) z n b.1 b.2 i) (nV t0) (fun i => (nI (cnt (al t0 (15 ^^^ s) V) i), nI (gM t0 s V i))) (nI (gAll t0 s V), nI (gM t0 s V (nV t0))) (fun n => by
    show f_X8_guessBy_lp1 _ _ z (n + 1) _ _ _ = _
    rw [f_X8_guessBy_lp1, r.1, if_neg Int32.lt_irrefl]; rfl) (fun n i hi => by
    show f_X8_guessBy_lp1 _ _ z (n + 1) _ _ _ = f_X8_guessBy_lp1 _ _ z n _ _ _
    have hx : hiB t0.2 i ^^^ hiB t0.2 V < 16 := xor_lt16 ⟨_, hiB_lt t0.2 i⟩ ⟨_, hiB_lt t0.2 V⟩
    have ea : ((nI (hiB t0.2 i) ^^^ nI (hiB t0.2 V)) &&& (nI s ^^^ (-1 : Int32)) = 0) ↔ al t0 (15 ^^^ s) V i = true := by
      have q : nI (hiB t0.2 i ^^^ hiB t0.2 V) &&& (nI s ^^^ (-1 : Int32)) = nI ((hiB t0.2 i ^^^ hiB t0.2 V) &&& (15 ^^^ s)) := nand16 ⟨_, hx⟩ ⟨s, hs⟩
      rw [nI_xor, q, nI_z (Nat.lt_of_le_of_lt Nat.and_le_left (by omega))]
      unfold al
      simp
    rw [f_X8_guessBy_lp1, r.1, if_pos (nI_lt hi (by omega))]
    simp only [ck_pos (ib_nI (show i < 9 by omega) (by decide : 9 < 2 ^ 31)), ck_pos (ib_nI (show V < 9 by omega) (by decide : 9 < 2 ^ 31)), ix_nI (show i < 2 ^ 31 by omega), ix_nI (show V < 2 ^ 31 by omega), (r.2.2.1 i hi).1, (r.2.2.1 V hV).1, ea, nI_l1, m_same r d hi, b1_some]
    rw [gM_s]
    show _ = f_X8_guessBy_lp1 (nI V) (nI s) z n (nI (cnt (al t0 (15 ^^^ s) V) i + (if al t0 (15 ^^^ s) V i then 1 else 0))) _ (nI (i + 1))
    have h1 := gM_le d1 s V i
    have h2 := same_le d1 i
    cases ha : al t0 (15 ^^^ s) V i with
    | false => simp [b2_some]
    | true =>
      simp only [if_true]
      by_cases q : gM t0 s V i < same t0 i
      · rw [if_pos (nI_lt q (by omega)), if_pos q]; rfl
      · rw [if_neg (fun k => q ((nI_ltI (by omega) (by omega)).mp k)), if_neg q]; rfl) 4096 (by omega)
theorem m_guessBy (r : RDm z t0 t1) (d : DOK t0 t1) {V s : Nat} (hV : V < nV t0) (hs : s < 16) : f_X8_guessBy (nI V) (nI s) 1 z = some (nI (gM t0 s V (nV t0))) ∧ f_X8_guessBy (nI V) (nI s) 0 z = some (nI (gAll t0 s V)) := by
  unfold f_X8_guessBy
  rw [m_guessBy_lp r d hV hs]
  exact ⟨rfl, rfl⟩
end Guess
theorem x_gcd : ∀ m a : Fin 9, 0 < m.1 → 0 < a.1 → f_X7_greatestDivisor (nI m.1) (nI a.1) = some (nI (Nat.gcd m.1 a.1)) := by decide +kernel
theorem m_low : ∀ m a : Fin 9, ∀ w : Fin 2, 0 < m.1 → 0 < a.1 → f_X8_lowest (nI m.1).toInt64 (nI a.1).toInt64 (nI w.1) = some (lN ((if w.1 = 0 then m.1 else a.1) / Nat.gcd m.1 a.1)) := by decide +kernel
theorem x_gcd2 {m a : Nat} (hm : m ≤ 8) (ha : a ≤ 8) (h1 : 1 ≤ m) (h2 : 1 ≤ a) : f_X7_greatestDivisor (nI m) (nI a) = some (nI (Nat.gcd m a)) := x_gcd ⟨m, by omega⟩ ⟨a, by omega⟩ h1 h2
theorem m_low2 {m a w : Nat} (hm : m ≤ 8) (ha : a ≤ 8) (hw : w < 2) (h1 : 1 ≤ m) (h2 : 1 ≤ a) : f_X8_lowest (nI m).toInt64 (nI a).toInt64 (nI w) = some (lN ((if w = 0 then m else a) / Nat.gcd m a)) := m_low ⟨m, by omega⟩ ⟨a, by omega⟩ ⟨w, hw⟩ h1 h2
def sGuess (v w : Int32) (a : Ab) : Int64 := if bad v (nV (aT0 a)) ∨ bad w 2 then -9223372036854775806 else lN ((if w = 0 then gM (aT0 a) (aS a) (ix v) (nV (aT0 a)) else gAll (aT0 a) (aS a) (ix v)) / Nat.gcd (gM (aT0 a) (aS a) (ix v) (nV (aT0 a))) (gAll (aT0 a) (aS a) (ix v)))
section GuessC
variable {PT : VT → KT → Prop} {PR : (Nat → Int64) → Tx → Tx → Prop}
theorem X_guess {z : Sg} {a : Ab} (h : AXg PT PR z a) (v w : Int32) : f_X7_guess v w z = some (sGuess v w a) := by
  unfold f_X7_guess sGuess
  have r := h.1.rd
  have d := h.1.dok
  have d1 := d.1
  have s := h.1.2.2.1
  rw [x_noVirtue r d]
  rcases arg_cases v (nV (aT0 a)) (by omega) with hv | ⟨v, hv, rfl⟩
  · simp [b1_some, bad, hv]
  have n1 := not_bad hv (by omega)
  rw [if_neg n1, b1_some, if_neg (by decide)]
  rcases arg_cases w 2 (by decide) with hw | ⟨w, hw, rfl⟩
  · have e : f_X7_outside w 2 = some 1 := x_out_bad (n := 2) hw
    simp [e, b1_some, bad, hw]
  have e : f_X7_outside (nI w) 2 = some 0 := x_out_nI (n := 2) hw (by decide)
  have n2 := not_bad hw (by decide)
  have hm := gM_le d1 (aS a) v (nV (aT0 a))
  have ha := gAll_le d1 (aS a) v
  have hm0 := gM_pos hv (aS a) _ hv
  have ha0 := gAll_pos hv (aS a)
  have hB : bO (al (aT0 a) (15 ^^^ aS a) v) (nV (aT0 a)) < 256 := Nat.lt_of_lt_of_le (bO_lt _ _) (Nat.pow_le_pow_right (n := 2) (by decide) d1)
  have eg := x_gcd2 hm ha hm0 ha0
  have hg0 : 0 < Nat.gcd (gM (aT0 a) (aS a) v (nV (aT0 a))) (gAll (aT0 a) (aS a) v) := Nat.gcd_pos_of_pos_left _ (by omega)
  have hg8 : Nat.gcd (gM (aT0 a) (aS a) v (nV (aT0 a))) (gAll (aT0 a) (aS a) v) ≤ 8 := Nat.le_trans (Nat.gcd_le_left _ (by omega)) hm
  rw [e, b1_some, if_neg (by decide), b1_some, if_neg (by decide), s.2.1, x_alikeInOpen r d hv s.2.2.2.2.1, b1_some, x_mostOfOneKind r d, b1_some, x_bitCount hB, pc_bO d1, b1_some, if_neg (by rintro (q | q); exact n1 q; exact n2 q), ix_nI (show v < 2 ^ 31 by omega)]
  rw [show cnt (al (aT0 a) (15 ^^^ aS a) v) (nV (aT0 a)) = gAll (aT0 a) (aS a) v from rfl, eg, b1_some, ck_pos (nI_ne0 hg0 (by omega)), ck_pos (nI_ne0 hg0 (by omega)), pk_div (by omega) hg0 (by omega), pk_div (by omega) hg0 (by omega)]
  have q1 : gM (aT0 a) (aS a) v (nV (aT0 a)) / Nat.gcd (gM (aT0 a) (aS a) v (nV (aT0 a))) (gAll (aT0 a) (aS a) v) < 2 ^ 31 := Nat.lt_of_le_of_lt (Nat.div_le_self _ _) (by omega)
  have q2 : gAll (aT0 a) (aS a) v / Nat.gcd (gM (aT0 a) (aS a) v (nV (aT0 a))) (gAll (aT0 a) (aS a) v) < 2 ^ 31 := Nat.lt_of_le_of_lt (Nat.div_le_self _ _) (by omega)
  rw [nI_l q1, nI_l q2]
  by_cases c : nI w = 0
  · simp only [c, if_true, b1_some]
  · simp only [c, if_false, b1_some]
theorem M_guess {z : Sg} {a : Ab} (h : AM z a) (v w : Int32) : ∃ z', f_X8_guess v w z = some (sGuess v w a, z') ∧ AM z' a := by
  unfold f_X8_guess sGuess
  have d := h.dok
  have d1 := d.1
  obtain ⟨z', e, h', r⟩ := m_isVirtue h v
  refine ⟨z', ?_, h'⟩
  rw [e, b2_some]
  have eno : f_X8_no (-2) = some (-9223372036854775806) := by decide
  rcases arg_cases v (nV (aT0 a)) (by omega) with hv | ⟨v, hv, rfl⟩
  · simp [b1_some, b2_some, bad, hv, eno]
  have n1 := not_bad hv (by omega)
  rw [if_neg n1, if_pos ne10]
  rcases arg_cases w 2 (by decide) with hw | ⟨w, hw, rfl⟩
  · have e : f_X8_in w 0 1 = some 0 := m_in_bad (n := 1) (by decide) hw
    simp [e, b1_some, b2_some, bad, hw, eno]
  have e : f_X8_in (nI w) 0 1 = some 1 := m_in_nI (n := 1) (by omega) (by decide)
  have n2 := not_bad hw (by decide)
  have hm := gM_le d1 (aS a) v (nV (aT0 a))
  have ha := gAll_le d1 (aS a) v
  have hm0 := gM_pos hv (aS a) _ hv
  have ha0 := gAll_pos hv (aS a)
  obtain ⟨g1, g2⟩ := m_guessBy r d hv h'.2.2.1.2.2.2.2.1
  have el := m_low2 hm ha hw hm0 ha0
  simp only [e, b1_some, ne10, not_false_eq_true, if_true, b2_some, h'.2.2.1.2.1, g1, g2, el, n1, n2, or_self, if_false, ix_nI (show v < 2 ^ 31 by omega), nI_z (show w < 2 ^ 31 by omega)]
end GuessC
