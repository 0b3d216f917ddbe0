/-! BITS: small numbers as sets. -/
theorem nI_and (a b : Nat) : nI a &&& nI b = nI (a &&& b) := by
  apply Int32.toBitVec_inj.mp
  show BitVec.ofNat 32 a &&& BitVec.ofNat 32 b = BitVec.ofNat 32 (a &&& b)
  rw [BitVec.ofNat_and]
theorem nI_or (a b : Nat) : nI a ||| nI b = nI (a ||| b) := by
  apply Int32.toBitVec_inj.mp
  show BitVec.ofNat 32 a ||| BitVec.ofNat 32 b = BitVec.ofNat 32 (a ||| b)
  rw [BitVec.ofNat_or]
theorem nI_xor (a b : Nat) : nI a ^^^ nI b = nI (a ^^^ b) := by
  apply Int32.toBitVec_inj.mp
  show BitVec.ofNat 32 a ^^^ BitVec.ofNat 32 b = BitVec.ofNat 32 (a ^^^ b)
  rw [BitVec.ofNat_xor]
theorem one_shl' : ∀ k : Fin 31, jshl 1 (nI k.1) = nI (2 ^ k.1) := by decide +kernel
theorem one_shl {k : Nat} (h : k < 31) : jshl 1 (nI k) = nI (2 ^ k) := one_shl' ⟨k, h⟩
theorem s31 : ∀ n : Fin 32, ((nI n.1 &&& 31).toBitVec.smod 32).toNat = n.1 := by decide +kernel
theorem jshr_nI {a k : Nat} (ha : a < 2 ^ 31) (hk : k < 32) : jshr (nI a) (nI k) = nI (a / 2 ^ k) := pk_shrN ha _ k (s31 ⟨k, hk⟩)
theorem and1 (a : Nat) : nI a &&& (1 : Int32) = nI (a % 2) := by
  show nI a &&& nI 1 = _
  rw [nI_and, Nat.and_one_is_mod]
theorem bit_nI {a k : Nat} (ha : a < 2 ^ 31) (hk : k < 32) : jshr (nI a) (nI k) &&& (1 : Int32) = nI (a / 2 ^ k % 2) := by rw [jshr_nI ha hk, and1]
theorem bit_is {a k : Nat} (ha : a < 2 ^ 31) (hk : k < 32) : (jshr (nI a) (nI k) &&& (1 : Int32) = 1) ↔ a.testBit k = true := by
  rw [bit_nI ha hk, show (1 : Int32) = nI 1 from rfl, nI_eq (by omega) (by decide), Nat.testBit_eq_decide_div_mod_eq]
  simp
/-- the set of those below n of which p says yes -/
def bO (p : Nat → Bool) : Nat → Nat
  | 0 => 0
  | n + 1 => bO p n + (if p n then 2 ^ n else 0)
theorem bO_lt (p : Nat → Bool) : ∀ n, bO p n < 2 ^ n
  | 0 => by simp [bO]
  | n + 1 => by
    have := bO_lt p n
    unfold bO
    rw [Nat.pow_succ]
    split <;> omega
theorem bO_congr {p q : Nat → Bool} : ∀ n, (∀ i, i < n → p i = q i) → bO p n = bO q n
  | 0, _ => rfl
  | n + 1, h => by unfold bO; rw [bO_congr n (fun i hi => h i (by omega)), h n (by omega)]
theorem tpo {n b : Nat} (h : b < 2 ^ n) : 2 ^ n + b = 2 ^ n ||| b := by
  have := Nat.two_pow_add_eq_or_of_lt h 1
  simpa using this
theorem bO_or {p : Nat → Bool} {n : Nat} : bO p n ||| 2 ^ n = bO p n + 2 ^ n := by
  have := bO_lt p n
  rw [Nat.or_comm, ← tpo this, Nat.add_comm]
theorem bO_test (p : Nat → Bool) : ∀ n i, (bO p n).testBit i = (decide (i < n) && p i)
  | 0, i => by simp [bO]
  | n + 1, i => by
    have hl := bO_lt p n
    unfold bO
    cases hp : p n with
    | false =>
      simp only [Bool.false_eq_true, if_false, Nat.add_zero]
      rw [bO_test p n i]
      by_cases e : i = n
      · subst e; simp [hp]
      · by_cases e2 : i < n
        · simp [e2, show i < n + 1 by omega]
        · simp [e2, show ¬ i < n + 1 by omega]
    | true =>
      simp only [if_true]
      rw [Nat.add_comm, tpo hl, Nat.testBit_or, bO_test p n i, Nat.testBit_two_pow]
      by_cases e : i = n
      · subst e; simp [hp]
      · by_cases e2 : i < n
        · simp [e2, show i < n + 1 by omega, show ¬ n = i by omega]
        · simp [e2, show ¬ i < n + 1 by omega, show ¬ n = i by omega]
/-- more places than there are members -/
theorem bO_more {p : Nat → Bool} {n m : Nat} (h : n ≤ m) : bO (fun i => decide (i < n) && p i) m = bO p n := by
  apply Nat.eq_of_testBit_eq
  intro i
  rw [bO_test, bO_test]
  by_cases c : i < n
  · simp [c, show i < m by omega]
  · simp [c]
/-- how many -/
def cnt (p : Nat → Bool) : Nat → Nat
  | 0 => 0
  | n + 1 => cnt p n + (if p n then 1 else 0)
theorem cnt_le (p : Nat → Bool) : ∀ n, cnt p n ≤ n
  | 0 => Nat.le_refl 0
  | n + 1 => by have := cnt_le p n; unfold cnt; split <;> omega
theorem cnt_congr {p q : Nat → Bool} : ∀ n, (∀ i, i < n → p i = q i) → cnt p n = cnt q n
  | 0, _ => rfl
  | n + 1, h => by unfold cnt; rw [cnt_congr n (fun i hi => h i (by omega)), h n (by omega)]
theorem cnt_more {p : Nat → Bool} {n : Nat} : ∀ {m}, n ≤ m → cnt (fun i => decide (i < n) && p i) m = cnt p n
  | 0, h => by rw [show n = 0 by omega]; rfl
  | m + 1, h => by
    show cnt (fun i => decide (i < n) && p i) m + (if (decide (m < n) && p m) = true then 1 else 0) = cnt p n
    by_cases c : n = m + 1
    · subst c
      rw [cnt_congr (q := p) m (fun i hi => by simp [show i < m + 1 by omega])]
      simp [cnt]
    · rw [cnt_more (show n ≤ m by omega)]
      simp [show ¬ m < n by omega]
/-- the number of ones of a small number -/
def pc8 (a : Nat) : Nat := cnt (fun i => a.testBit i) 8
theorem pc_bO {p : Nat → Bool} {n : Nat} (h : n ≤ 8) : pc8 (bO p n) = cnt p n := by
  unfold pc8
  rw [cnt_congr (q := fun i => decide (i < n) && p i) 8 (fun i _ => bO_test p n i), cnt_more h]
theorem x_bitCount' : ∀ a : Fin 256, f_J6_bitCount_0f7a4 (nI a.1) = some (nI (pc8 a.1)) := by decide +kernel
theorem x_bitCount {a : Nat} (h : a < 256) : f_J6_bitCount_0f7a4 (nI a) = some (nI (pc8 a)) := x_bitCount' ⟨a, h⟩
theorem m_ones {a : Nat} (h : a < 2 ^ 31) : f_X8_ones (nI a) = some (nI (pc8 a)) := by
  have key := lp_fo (fun m i n => f_X8_ones_lp1 (nI a) m n i) 8 (fun _ n => n + 0) (fun n : Int32 => n) (fun _ _ => False) (fun _ _ q => q.elim) (fun _ _ _ _ q => q.elim)
  clear key
  have st : ∀ (d k n : Nat), k + d = 8 → f_X8_ones_lp1 (nI a) (n + 1 + d) (nI (cnt (fun i => a.testBit i) k)) (nI k) = some (nI (pc8 a)) := by
    intro d
    induction d with
    | zero =>
      intro k n hk
      obtain rfl : k = 8 := by omega
      rw [Nat.add_zero, f_X8_ones_lp1, if_neg (show ¬ nI 8 < (8 : Int32) from Int32.lt_irrefl)]
      rfl
    | succ d ih =>
      intro k n hk
      rw [show n + 1 + (d + 1) = (n + 1 + d) + 1 by omega, f_X8_ones_lp1, if_pos (show nI k < (8 : Int32) from nI_lt (b := 8) (by omega) (by decide)), bit_nI h (by omega), nI_add, nI_l1]
      have e : cnt (fun i => a.testBit i) k + a / 2 ^ k % 2 = cnt (fun i => a.testBit i) (k + 1) := by
        show _ = cnt (fun i => a.testBit i) k + (if a.testBit k then 1 else 0)
        rw [Nat.testBit_eq_decide_div_mod_eq]
        have : a / 2 ^ k % 2 = 0 ∨ a / 2 ^ k % 2 = 1 := by omega
        rcases this with q | q <;> simp [q]
      rw [e]
      exact ih (k + 1) n (by omega)
  unfold f_X8_ones
  rw [show f_X8_ones_lp1 (nI a) 4096 0 0 = some (nI (pc8 a)) from st 8 0 4087 rfl]
  rfl
theorem m_isIn {a k : Nat} (ha : a < 2 ^ 31) (hk : k < 32) : f_X8_isIn (nI a) (nI k) = some (if a.testBit k then 1 else 0) := by
  unfold f_X8_isIn
  simp only [bit_is ha hk]
  cases a.testBit k <;> rfl
/-- does claimant c fit virtue v -/
def fit (t0 t1 : Tx) (c v : Nat) : Bool := ((hiB t1.2 c ^^^ hiB t0.2 v) &&& saB t1.2 c) == 0
theorem fit_iff {t0 t1 : Tx} {c v : Nat} : ((nI (hiB t1.2 c) ^^^ nI (hiB t0.2 v)) &&& nI (saB t1.2 c) = 0) ↔ fit t0 t1 c v = true := by
  have h1 := hiB_lt t1.2 c
  have h2 := saB_lt t1.2 c
  rw [nI_xor, nI_and, nI_z (Nat.lt_of_le_of_lt Nat.and_le_right (by omega))]
  unfold fit
  simp
theorem x_isFitting {z : Sg} {t0 t1 : Tx} (r : RDx z t0 t1) (d : DOK t0 t1) {c v : Nat} (hc : c < nC t1) (hv : v < nV t0) : f_X2_isFitting (nI c) (nI v) z = some (if fit t0 t1 c v then 1 else 0) := by
  unfold f_X2_isFitting
  obtain ⟨d1, d2, -, -⟩ := d
  obtain ⟨r1, r2, r3⟩ := r.2.2.2 c hc
  obtain ⟨s1, s2⟩ := r.2.2.1 v hv
  simp only [ck_pos (ib_nI (show c < 8 by omega) (by decide : 8 < 2 ^ 31)), ck_pos (ib_nI (show v < 8 by omega) (by decide : 8 < 2 ^ 31)), ix_nI (show c < 2 ^ 31 by omega), ix_nI (show v < 2 ^ 31 by omega), r1, r2, s1, fit_iff]
  cases fit t0 t1 c v <;> rfl
theorem m_fits {z : Sg} {t0 t1 : Tx} (r : RDm z t0 t1) (d : DOK t0 t1) {c v : Nat} (hc : c < nC t1) (hv : v < nV t0) : f_X8_fits (nI c) (nI v) z = some (if fit t0 t1 c v then 1 else 0) := by
  unfold f_X8_fits
  obtain ⟨d1, d2, -, -⟩ := d
  obtain ⟨r1, r2, r3⟩ := r.2.2.2 c hc
  obtain ⟨s1, s2⟩ := r.2.2.1 v hv
  have ex : nI (hiB t0.2 v) ^^^ nI (hiB t1.2 c) = nI (hiB t1.2 c) ^^^ nI (hiB t0.2 v) := by rw [nI_xor, nI_xor, Nat.xor_comm]
  simp only [ck_pos (ib_nI (show c < 9 by omega) (by decide : 9 < 2 ^ 31)), ck_pos (ib_nI (show v < 9 by omega) (by decide : 9 < 2 ^ 31)), ix_nI (show c < 2 ^ 31 by omega), ix_nI (show v < 2 ^ 31 by omega), r1, r2, s1, ex, fit_iff]
  cases fit t0 t1 c v <;> rfl
