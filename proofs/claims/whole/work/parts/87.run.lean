/-! THE WEEKS: the spec. -/
def anyB (p : Nat → Bool) : Nat → Bool
  | 0 => false
  | n + 1 => anyB p n || p n
theorem anyB_s (p : Nat → Bool) (n : Nat) : anyB p (n + 1) = (anyB p n || p n) := rfl
theorem anyB_iff (p : Nat → Bool) : ∀ n, anyB p n = true ↔ ∃ i, i < n ∧ p i = true
  | 0 => ⟨fun h => (by cases h), fun ⟨i, h, _⟩ => by omega⟩
  | n + 1 => by
    rw [anyB_s, Bool.or_eq_true, anyB_iff p n]
    constructor
    · rintro (⟨i, h, q⟩ | h)
      · exact ⟨i, by omega, q⟩
      · exact ⟨n, by omega, h⟩
    · rintro ⟨i, h, q⟩
      rcases Nat.lt_or_ge i n with g | g
      · exact Or.inl ⟨i, g, q⟩
      · obtain rfl : i = n := by omega
        exact Or.inr q
theorem anyB_congr {p q : Nat → Bool} : ∀ n, (∀ i, i < n → p i = q i) → anyB p n = anyB q n
  | 0, _ => rfl
  | n + 1, h => by rw [anyB_s, anyB_s, anyB_congr n (fun i hi => h i (by omega)), h n (by omega)]
theorem anyB_split (p : Nat → Bool) (h : Nat) : ∀ n, anyB p (h + n) = (anyB p h || anyB (fun j => p (h + j)) n)
  | 0 => by rw [Nat.add_zero]; show _ = (anyB p h || false); rw [Bool.or_false]
  | n + 1 => by rw [← Nat.add_assoc, anyB_s, anyB_s, anyB_split p h n, Bool.or_assoc]
theorem bO_zero (p : Nat → Bool) : ∀ n, bO p n = 0 ↔ anyB p n = false
  | 0 => ⟨fun _ => rfl, fun _ => rfl⟩
  | n + 1 => by
    have ih := bO_zero p n
    have hp : 0 < 2 ^ n := Nat.pow_pos (by decide)
    show bO p n + (if p n then 2 ^ n else 0) = 0 ↔ (anyB p n || p n) = false
    cases hq : p n with
    | true => simp
    | false => simp; exact ih
theorem bO_nd (p q : Nat → Bool) (n : Nat) : bO p n &&& bO q n = bO (fun v => p v && q v) n := by
  apply Nat.eq_of_testBit_eq
  intro i
  rw [Nat.testBit_and, bO_test, bO_test, bO_test]
  cases decide (i < n) <;> simp
theorem bO_orr (p q : Nat → Bool) (n : Nat) : bO p n ||| bO q n = bO (fun v => p v || q v) n := by
  apply Nat.eq_of_testBit_eq
  intro i
  rw [Nat.testBit_or, bO_test, bO_test, bO_test]
  cases decide (i < n) <;> simp
theorem m1_nI : (-1 : Int32) = nI (2 ^ 32 - 1) := by decide +kernel
theorem bO_andn (p q : Nat → Bool) {n : Nat} (hn : n ≤ 32) : nI (bO p n) &&& (nI (bO q n) ^^^ (-1 : Int32)) = nI (bO (fun v => p v && !q v) n) := by
  rw [m1_nI, nI_xor, nI_and]
  refine congrArg nI (Nat.eq_of_testBit_eq fun i => ?_)
  rw [Nat.testBit_and, Nat.testBit_xor, bO_test, bO_test, bO_test, Nat.testBit_two_pow_sub_one]
  by_cases c : i < n
  · rw [decide_eq_true c, decide_eq_true (show i < 32 by omega)]
    cases p i <;> cases q i <;> rfl
  · rw [decide_eq_false c]; rfl
theorem bO_set (p : Nat → Bool) {n i : Nat} (hi : i < n) : bO p n ||| 2 ^ i = bO (fun v => p v || decide (v = i)) n := by
  apply Nat.eq_of_testBit_eq
  intro j
  rw [Nat.testBit_or, bO_test, bO_test, Nat.testBit_two_pow]
  by_cases c : j < n
  · rw [decide_eq_true c]
    by_cases e : j = i
    · simp [e]
    · simp [e, show ¬ i = j by omega]
  · rw [decide_eq_false c, decide_eq_false (show ¬ i = j by omega)]; rfl
theorem bO_clr (p : Nat → Bool) {n i : Nat} (hn : n ≤ 32) : nI (bO p n) &&& (nI (2 ^ i) ^^^ (-1 : Int32)) = nI (bO (fun v => p v && !decide (v = i)) n) := by
  rw [m1_nI, nI_xor, nI_and]
  refine congrArg nI (Nat.eq_of_testBit_eq fun j => ?_)
  rw [Nat.testBit_and, Nat.testBit_xor, bO_test, bO_test, Nat.testBit_two_pow_sub_one, Nat.testBit_two_pow]
  by_cases c : j < n
  · rw [decide_eq_true c, decide_eq_true (show j < 32 by omega)]
    by_cases e : j = i
    · simp [e]
    · simp [e, show ¬ i = j by omega]
  · rw [decide_eq_false c]; rfl
theorem fo_shift {α : Type} (H : Nat → α → α) (m : Nat) : ∀ (k i : Nat) (a : α), fo H k (m + i) a = fo (fun j => H (m + j)) k i a
  | 0, _, _ => rfl
  | k + 1, i, a => by
    show fo H k (m + i + 1) (H (m + i) a) = fo (fun j => H (m + j)) k (i + 1) (H (m + i) a)
    rw [Nat.add_assoc, fo_shift H m k (i + 1)]
theorem fo_ext {α : Type} {F H : Nat → α → α} (k i : Nat) (a : α) (h : ∀ j a, i ≤ j → j < i + k → F j a = H j a) : fo F k i a = fo H k i a :=
  fo_congr (fun _ => True) k i a trivial (fun j a h1 h2 _ => ⟨h j a h1 h2, trivial⟩)
/-- two loops, one in the other, as one -/
theorem fo_flat {α : Type} (F : Nat → Nat → α → α) : ∀ (n r : Nat) (a : α), fo (fun k => F (k / 64) (k % 64)) (64 * n) (64 * r) a = fo (fun r => fo (F r) 64 0) n r a
  | 0, r, a => rfl
  | n + 1, r, a => by
    rw [show 64 * (n + 1) = 64 + 64 * n by omega, fo_split, show 64 * r + 64 = 64 * (r + 1) by omega, fo_flat F n (r + 1)]
    show fo _ n (r + 1) _ = fo _ n (r + 1) (fo (F r) 64 0 a)
    refine congrArg (fun q => fo (fun r => fo (F r) 64 0) n (r + 1) q) ?_
    have := fo_shift (fun k => F (k / 64) (k % 64)) (64 * r) 64 0 a
    rw [Nat.add_zero] at this
    rw [this]
    refine fo_ext 64 0 a (fun j b _ hj => ?_)
    show F ((64 * r + j) / 64) ((64 * r + j) % 64) b = F r j b
    rw [show (64 * r + j) / 64 = r by omega, show (64 * r + j) % 64 = j by omega]
/-- only one place acts -/
theorem fo_one {α : Type} (F : Nat → α → α) {k i p : Nat} (a : α) (hp : i ≤ p) (hp2 : p < i + k) (h : ∀ j a, i ≤ j → j < i + k → j ≠ p → F j a = a) : fo F k i a = F p a := by
  obtain ⟨x, rfl⟩ : ∃ x, p = i + x := ⟨p - i, by omega⟩
  rw [show k = x + (1 + (k - 1 - x)) by omega, fo_split, fo_id F x i a (fun j b h1 h2 => h j b h1 (by omega) (by omega)), fo_split]
  show fo F _ _ (F (i + x) a) = _
  exact fo_id F _ _ _ (fun j b h1 h2 => h j b (by omega) (by omega) (by omega))
/-- came, gone, to whom; who was served; the saint -/
abbrev Rs : Type := (Nat → Option Nat) × (Nat → Option Nat) × (Nat → Option Nat) × (Nat → Bool) × Option Nat
abbrev rC (s : Rs) : Nat → Option Nat := s.1
abbrev rG (s : Rs) : Nat → Option Nat := s.2.1
abbrev rT (s : Rs) : Nat → Option Nat := s.2.2.1
abbrev rV (s : Rs) : Nat → Bool := s.2.2.2.1
abbrev rS (s : Rs) : Option Nat := s.2.2.2.2
def rs0 : Rs := (fun _ => none, fun _ => none, fun _ => none, fun _ => false, none)
def onS (s : Rs) (v : Nat) : Bool := (rC s v).isSome && (rG s v).isNone
def givS (s : Rs) (v : Nat) : Bool := (rG s v).isSome && (rT s v).isSome
def solS (s : Rs) (v : Nat) : Bool := (rG s v).isSome && (rT s v).isNone
def oup (f : Nat → Option Nat) (v x : Nat) : Nat → Option Nat := fun j => if j = v then some x else f j
def bup (f : Nat → Bool) (i : Nat) : Nat → Bool := fun j => f j || decide (j = i)
/-- the least worth, of like ones the first -/
def lwT (t0 : Tx) (o : Option Nat) (v : Nat) : Bool := match o with
  | none => true
  | some b => decide (fgB t0.2 v < fgB t0.2 b)
def lw (t0 : Tx) (p : Nat → Bool) : Nat → Option Nat
  | 0 => none
  | v + 1 => if p v && lwT t0 (lw t0 p v) v then some v else lw t0 p v
theorem lw_s (t0 : Tx) (p : Nat → Bool) (v : Nat) : lw t0 p (v + 1) = if p v && lwT t0 (lw t0 p v) v then some v else lw t0 p v := rfl
theorem lw_is (t0 : Tx) (p : Nat → Bool) : ∀ n v, lw t0 p n = some v → v < n ∧ p v = true
  | 0, v, h => by cases h
  | n + 1, v, h => by
    rw [lw_s] at h
    by_cases c : (p n && lwT t0 (lw t0 p n) n) = true
    · rw [if_pos c] at h
      cases h
      rw [Bool.and_eq_true] at c
      exact ⟨by omega, c.1⟩
    · rw [if_neg c] at h
      have := lw_is t0 p n v h
      exact ⟨by omega, this.2⟩
theorem lw_congr (t0 : Tx) {p q : Nat → Bool} : ∀ n, (∀ i, i < n → p i = q i) → lw t0 p n = lw t0 q n
  | 0, _ => rfl
  | n + 1, h => by rw [lw_s, lw_s, lw_congr t0 n (fun i hi => h i (by omega)), h n (by omega)]
theorem lw_none (t0 : Tx) {p : Nat → Bool} : ∀ n, (∀ i, i < n → p i = false) → lw t0 p n = none
  | 0, _ => rfl
  | n + 1, h => by rw [lw_s, h n (by omega), lw_none t0 n (fun i hi => h i (by omega))]; rfl
section Run
variable (t0 t1 : Tx) (e kp : Nat) (Hd : Nat → Nat → Bool) (Cl : Nat → Option (Nat × Nat))
def enou (c : Nat) : Bool := decide (e ≤ pc8 (saB t1.2 c))
def pick (c : Nat) (s : Rs) : Option Nat := if enou t1 e c then lw t0 (fun v => onS s v && fit t0 t1 c v) (nV t0) else none
def fgone (c : Nat) (s : Rs) : Bool := anyB (fun v => (rG s v).isSome && fit t0 t1 c v) (nV t0)
def srvO (w i c : Nat) (s : Rs) (o : Option Nat) : Rs := match o with
  | some v => (rC s, oup (rG s) v w, oup (rT s) v c, bup (rV s) i, rS s)
  | none => if (rS s).isNone && fgone t0 t1 c s then (rC s, rG s, rT s, rV s, some i) else s
def serve (w i c : Nat) (s : Rs) : Rs := srvO t0 t1 w i c s (pick t0 t1 e c s)
def bring (w : Nat) (s : Rs) : Rs := (fun v => if (rC s v).isNone && Hd w v then some w else rC s v, s.2)
def slB (w : Nat) (s : Rs) (v : Nat) : Bool := onS s v && (decide (kp ≤ w + 1) && decide (rC s v = some (w + 1 - kp)))
def sell (w : Nat) (s : Rs) : Rs := (rC s, fun v => if slB kp w s v then some w else rG s v, s.2.2)
def clO (w r i : Nat) (s : Rs) (o : Option (Nat × Nat)) : Rs := match o with
  | some (w', c) => if w' = w ∧ fgB t1.2 c = r then serve t0 t1 e w i c s else s
  | none => s
def clS (w r i : Nat) (s : Rs) : Rs := clO t0 t1 e w r i s (Cl i)
def clW (w : Nat) (s : Rs) : Rs := fo (fun r => fo (clS t0 t1 e Cl w r) 64 0) 10 0 s
def wkS (w : Nat) (s : Rs) : Rs := sell kp w (clW t0 t1 e Cl w (bring Hd w s))
/-- the weeks below n -/
def rn (n : Nat) : Rs := fo (wkS t0 t1 e kp Hd Cl) n 0 rs0
end Run
theorem rn_s (t0 t1 : Tx) (e kp : Nat) (Hd : Nat → Nat → Bool) (Cl : Nat → Option (Nat × Nat)) (n : Nat) : rn t0 t1 e kp Hd Cl (n + 1) = wkS t0 t1 e kp Hd Cl n (rn t0 t1 e kp Hd Cl n) := by
  unfold rn
  rw [fo_succ, Nat.zero_add]
theorem clW_flat (t0 t1 : Tx) (e : Nat) (Cl : Nat → Option (Nat × Nat)) (w : Nat) (s : Rs) : clW t0 t1 e Cl w s = fo (fun k => clS t0 t1 e Cl w (k / 64) (k % 64)) 640 0 s := (fo_flat (clS t0 t1 e Cl w) 10 0 s).symm
/-- what is so of any state of the weeks -/
def RsOK (n w : Nat) (s : Rs) : Prop := (∀ v c, rC s v = some c → c < w ∧ v < n) ∧ (∀ v, rC s v = none → rG s v = none) ∧ (∀ v, rG s v = none → rT s v = none) ∧ (∀ v c, rG s v = some c → c < 40) ∧ (∀ v c, rT s v = some c → c < 8) ∧ ∀ i, rS s = some i → i < 64
theorem opI_m1 {o : Option Nat} (h : ∀ c, o = some c → c < 2 ^ 31) : opI o = -1 ↔ o = none := by
  cases o with
  | none => exact ⟨fun _ => rfl, fun _ => rfl⟩
  | some c => exact ⟨fun q => absurd q (nI_ne_m1 (h c rfl)), fun q => by cases q⟩
section RunOK
variable {t0 t1 : Tx} {e kp : Nat} {Hd : Nat → Nat → Bool} {Cl : Nat → Option (Nat × Nat)} {n w : Nat} {s : Rs}
theorem RsOK.zero : RsOK n 0 rs0 := ⟨fun v c h => (by cases h), fun _ _ => rfl, fun _ _ => rfl, fun v c h => (by cases h), fun v c h => (by cases h), fun i h => (by cases h)⟩
theorem RsOK.br_ok (h : RsOK n w s) (hH : ∀ v, Hd w v = true → v < n) : RsOK n (w + 1) (bring Hd w s) := by
  obtain ⟨h1, h2, h3, h4, h5, h6⟩ := h
  refine ⟨fun v c q => ?_, fun v q => ?_, h3, h4, h5, h6⟩
  · have q : (if (rC s v).isNone && Hd w v then some w else rC s v) = some c := q
    by_cases g : ((rC s v).isNone && Hd w v) = true
    · rw [if_pos g] at q
      cases q
      rw [Bool.and_eq_true] at g
      exact ⟨by omega, hH v g.2⟩
    · rw [if_neg g] at q
      have := h1 v c q
      exact ⟨by omega, this.2⟩
  · have q : (if (rC s v).isNone && Hd w v then some w else rC s v) = none := q
    by_cases g : ((rC s v).isNone && Hd w v) = true
    · rw [if_pos g] at q; cases q
    · rw [if_neg g] at q; exact h2 v q
theorem pick_is {c v : Nat} (h : pick t0 t1 e c s = some v) : v < nV t0 ∧ onS s v = true := by
  unfold pick at h
  by_cases g : enou t1 e c = true
  · rw [if_pos g] at h
    have := lw_is _ _ _ _ h
    rw [Bool.and_eq_true] at this
    exact ⟨this.1, this.2.1⟩
  · rw [if_neg g] at h; cases h
theorem onS_is {v : Nat} (h : onS s v = true) : rC s v ≠ none ∧ rG s v = none := by
  unfold onS at h
  rw [Bool.and_eq_true] at h
  refine ⟨fun q => ?_, ?_⟩
  · rw [q] at h; exact absurd h.1 (by decide)
  · cases hq : rG s v with
    | none => rfl
    | some x => rw [hq] at h; exact absurd h.2 (by simp)
theorem RsOK.sv_ok (h : RsOK n w s) (hw : w ≤ 40) (hw0 : 0 < w) {i c : Nat} (hi : i < 64) (hc : c < 8) : RsOK n w (serve t0 t1 e (w - 1) i c s) := by
  obtain ⟨h1, h2, h3, h4, h5, h6⟩ := h
  unfold serve
  cases hp : pick t0 t1 e c s with
  | none =>
    show RsOK n w (if (rS s).isNone && fgone t0 t1 c s then (rC s, rG s, rT s, rV s, some i) else s)
    split
    · exact ⟨h1, h2, h3, h4, h5, fun j q => by cases q; exact hi⟩
    · exact ⟨h1, h2, h3, h4, h5, h6⟩
  | some v =>
    have hv := onS_is (pick_is hp).2
    refine ⟨h1, fun u q => ?_, fun u q => ?_, fun u x q => ?_, fun u x q => ?_, h6⟩
    · show (if u = v then some (w - 1) else rG s u) = none
      by_cases g : u = v
      · subst g; exact absurd q hv.1
      · rw [if_neg g]; exact h2 u q
    · have q : (if u = v then some (w - 1) else rG s u) = none := q
      show (if u = v then some c else rT s u) = none
      by_cases g : u = v
      · rw [if_pos g] at q; cases q
      · rw [if_neg g] at q ⊢; exact h3 u q
    · have q : (if u = v then some (w - 1) else rG s u) = some x := q
      by_cases g : u = v
      · rw [if_pos g] at q; cases q; omega
      · rw [if_neg g] at q; exact h4 u x q
    · have q : (if u = v then some c else rT s u) = some x := q
      by_cases g : u = v
      · rw [if_pos g] at q; cases q; exact hc
      · rw [if_neg g] at q; exact h5 u x q
theorem RsOK.sl_ok (h : RsOK n w s) (hw : w ≤ 40) (hw0 : 0 < w) : RsOK n w (sell kp (w - 1) s) := by
  obtain ⟨h1, h2, h3, h4, h5, h6⟩ := h
  refine ⟨h1, fun u q => ?_, fun u q => ?_, fun u x q => ?_, h5, h6⟩
  · show (if slB kp (w - 1) s u then some (w - 1) else rG s u) = none
    by_cases g : slB kp (w - 1) s u = true
    · have g2 := g
      unfold slB at g2
      rw [Bool.and_eq_true] at g2
      exact absurd q (onS_is g2.1).1
    · rw [if_neg g]; exact h2 u q
  · have q : (if slB kp (w - 1) s u then some (w - 1) else rG s u) = none := q
    by_cases g : slB kp (w - 1) s u = true
    · rw [if_pos g] at q; cases q
    · rw [if_neg g] at q; exact h3 u q
  · have q : (if slB kp (w - 1) s u then some (w - 1) else rG s u) = some x := q
    by_cases g : slB kp (w - 1) s u = true
    · rw [if_pos g] at q; cases q; omega
    · rw [if_neg g] at q; exact h4 u x q
/-- the claims are in order -/
def ClOK (t1 : Tx) (Cl : Nat → Option (Nat × Nat)) : Prop := ∀ i w c, Cl i = some (w, c) → i < 52 ∧ w < 40 ∧ c < nC t1
theorem RsOK.cs_ok (h : RsOK n (w + 1) s) (hw : w < 40) (hC : ClOK t1 Cl) (d2 : nC t1 ≤ 8) (r i : Nat) : RsOK n (w + 1) (clS t0 t1 e Cl w r i s) := by
  unfold clS
  cases hq : Cl i with
  | none => exact h
  | some x =>
    obtain ⟨w', c⟩ := x
    have := hC i w' c hq
    show RsOK n (w + 1) (if w' = w ∧ fgB t1.2 c = r then serve t0 t1 e w i c s else s)
    split
    · exact h.sv_ok (by omega) (by omega) (by omega) (by omega)
    · exact h
theorem RsOK.cw_ok (h : RsOK n (w + 1) s) (hw : w < 40) (hC : ClOK t1 Cl) (d2 : nC t1 ≤ 8) : RsOK n (w + 1) (clW t0 t1 e Cl w s) := by
  rw [clW_flat]
  exact fo_inv _ (fun _ s => RsOK n (w + 1) s) 640 (fun k s _ hs => hs.cs_ok hw hC d2 _ _) 640 0 s rfl h
theorem RsOK.wk (h : RsOK n w s) (hw : w < 40) (hC : ClOK t1 Cl) (d2 : nC t1 ≤ 8) (hH : ∀ v, Hd w v = true → v < n) : RsOK n (w + 1) (wkS t0 t1 e kp Hd Cl w s) :=
  ((h.br_ok hH).cw_ok hw hC d2).sl_ok (by omega) (by omega)
theorem rn_ok (hC : ClOK t1 Cl) (d2 : nC t1 ≤ 8) (hH : ∀ w v, Hd w v = true → v < n) : ∀ k, k ≤ 40 → RsOK n k (rn t0 t1 e kp Hd Cl k)
  | 0, _ => RsOK.zero
  | k + 1, hk => by rw [rn_s]; exact (rn_ok hC d2 hH k (by omega)).wk (by omega) hC d2 (hH k)
end RunOK
