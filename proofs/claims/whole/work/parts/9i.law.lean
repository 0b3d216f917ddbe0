/-! THE LAW: its judgement, its rows, its calls. -/
abbrev LM : Type := (Program × Launch × Env × State) × (MethodId × List Frame × Method × Code) × (Nat × Nat × (Nat → Int32)) × WC × WC
def OL (M : LM) : Prop :=
  M.1.1.tables.exec = Jvm.exec ∧ M.2.1.2.2.2.code = cL_law ∧ M.2.1.2.2.2.maxLocals = 4 ∧ M.1.2.2.2.vm.findClass RL = some M.2.1.1.cls ∧ (∀ q ∈ TB, q.before #[Value.ref M.2.2.1.1] M.1.2.2.2 = true) ∧ M.2.1.2.2.1.sig.returnType = ret ∧ M.2.1.2.2.1.locks = false ∧ KS false M.2.2.2.1 M.1.2.2.2 ∧ KS true M.2.2.2.2 M.1.2.2.2 ∧ va_X M.2.2.1.1 M.2.2.1.2.1 M.2.2.1.2.2 M.1.2.2.2 M.1.2.2.2.heap ∧ M.2.2.1.1 < M.1.2.2.2.heap.size ∧ (∀ t, t < 53 → M.1.2.2.2.heap.size ≤ M.2.2.2.1.2.1 t) ∧ (∀ t, t < 27 → M.1.2.2.2.heap.size ≤ M.2.2.2.2.2.1 t) ∧ (∀ i j, i < 53 → j < 27 → M.2.2.2.1.2.1 i ≠ M.2.2.2.2.2.1 j) ∧ M.2.2.1.2.1 ≤ 3072
def lvL (b x y : Nat) (i : Int32) : List (Nat × Value) := [(0, .ref b), (1, .ref x), (2, .ref y), (3, .int i)]
def GL (M : LM) (i : Int32) (pc : Nat) (st : List Value) (z zm : Sg) : Prop :=
  ∀ (H : Heap) (locs : List Loc) (ls : Array Slot), va_P M.2.2.2.1.1 vwCl (wl false M.2.2.2.1 z) H → va_P M.2.2.2.2.1 vwCl (wl true M.2.2.2.2 zm) H → va_S (AB M.1.2.2.2.heap.size) M.1.2.2.2.heap H locs → lv_has ls 4 (lvL M.2.2.1.1 (M.2.2.2.1.2.1 0) (M.2.2.2.2.2.1 0) i) →
    W M.1.1 M.1.2.1 M.1.2.2.1 room_1 M.1.2.2.2 M.2.1.1 #[Value.ref M.2.2.1.1] M.2.1.2.1 M.2.1.2.2.1 M.2.1.2.2.2 H locs 80 4493 (lw_Z M.2.1.2.1 #[Value.ref M.2.2.1.1] M.1.2.2.2) (F0 M.2.1.1 pc ls st)
theorem wl_key {sp : Bool} {w : WC} {z : Sg} {k : Nat} {q : Nat × va_E} (hk : (wl sp w z)[k]? = some q) : k < NN sp ∧ q.1 = w.2.1 k := by
  unfold wl at hk
  rw [List.getElem?_map] at hk
  by_cases hl : k < NN sp
  · rw [List.getElem?_range hl] at hk
    cases hk
    exact ⟨hl, rfl⟩
  · rw [List.getElem?_eq_none (by simp; omega)] at hk
    cases hk
theorem at_lt {D : va_G} {cl : List vw_C} {q : Nat × va_E} {H : Heap} (h : va_at D cl q H) : q.1 < H.size := by
  obtain ⟨a, e⟩ := q
  cases e with
  | inl x => exact (Array.getElem?_eq_some_iff.mp h).1
  | inr o =>
    obtain ⟨r, -, cell, h1, -⟩ := h
    exact (Array.getElem?_eq_some_iff.mp h1).1
theorem rm1 {d n : Nat} (h : d ≤ 9) (hn : n ≤ 19) : (rmv d).frames + 1 ≤ room_1.frames ∧ 8 + (n + 11) + (rmv d).locals ≤ room_1.locals := by
  show d + 1 ≤ 11 ∧ 8 + (n + 11) + 38 * d ≤ 428
  omega
theorem tvI (ad : Nat → Nat) (vs : List Int32) : (vs.map Value.int).map (tv ad) = vs.map Value.int := by
  rw [List.map_map]
  rfl
section LawRows
variable {M : LM} {i : Int32} {pc : Nat} {st : List Value} {z zm : Sg}
theorem gl_al1 (hE : OL M) (hdg : decode cL_law pc = .ok (.aload_n 1, 1)) (k : GL M i (pc + 1) (.ref (M.2.2.2.1.2.1 0) :: st) z zm) : GL M i pc st z zm := fun H locs ls h1 h2 h3 hl => lv_aload_n hE.1 hE.2.1 hdg rfl (hl.2.2 (1, .ref (M.2.2.2.1.2.1 0)) (by simp [lvL])) (k H locs ls h1 h2 h3 hl)
theorem gl_al2 (hE : OL M) (hdg : decode cL_law pc = .ok (.aload_n 2, 1)) (k : GL M i (pc + 1) (.ref (M.2.2.2.2.2.1 0) :: st) z zm) : GL M i pc st z zm := fun H locs ls h1 h2 h3 hl => lv_aload_n hE.1 hE.2.1 hdg rfl (hl.2.2 (2, .ref (M.2.2.2.2.2.1 0)) (by simp [lvL])) (k H locs ls h1 h2 h3 hl)
theorem gl_al0 (hE : OL M) (hdg : decode cL_law pc = .ok (.aload_n 0, 1)) (k : GL M i (pc + 1) (.ref M.2.2.1.1 :: st) z zm) : GL M i pc st z zm := fun H locs ls h1 h2 h3 hl => lv_aload_n hE.1 hE.2.1 hdg rfl (hl.2.2 (0, .ref M.2.2.1.1) (by simp [lvL])) (k H locs ls h1 h2 h3 hl)
theorem gl_il3 (hE : OL M) (hdg : decode cL_law pc = .ok (.iload_n 3, 1)) (k : GL M i (pc + 1) (.int i :: st) z zm) : GL M i pc st z zm := fun H locs ls h1 h2 h3 hl => lv_iload_n hE.1 hE.2.1 hdg rfl (hl.2.2 (3, .int i) (by simp [lvL])) (k H locs ls h1 h2 h3 hl)
theorem gl_iconst (hE : OL M) {n : Int} (v : Int32) (hdg : decode cL_law pc = .ok (.iconst n, 1)) (hv : Int32.ofInt n = v) (k : GL M i (pc + 1) (.int v :: st) z zm) : GL M i pc st z zm := fun H locs ls h1 h2 h3 hl => lv_iconst hE.1 hE.2.1 hdg hv (k H locs ls h1 h2 h3 hl)
theorem gl_bipush (hE : OL M) {n : Int} (v : Int32) (hdg : decode cL_law pc = .ok (.bipush n, 2)) (hv : (Int8.ofInt n).toInt32 = v) (k : GL M i (pc + 2) (.int v :: st) z zm) : GL M i pc st z zm := fun H locs ls h1 h2 h3 hl => lv_bipush hE.1 hE.2.1 hdg hv (k H locs ls h1 h2 h3 hl)
theorem gl_iadd (hE : OL M) {x y : Int32} (hdg : decode cL_law pc = .ok (.iadd, 1)) (k : GL M i (pc + 1) (.int (x + y) :: st) z zm) : GL M i pc (.int y :: .int x :: st) z zm := fun H locs ls h1 h2 h3 hl => lv_iadd hE.1 hE.2.1 hdg (k H locs ls h1 h2 h3 hl)
theorem gl_isub (hE : OL M) {x y : Int32} (hdg : decode cL_law pc = .ok (.isub, 1)) (k : GL M i (pc + 1) (.int (x - y) :: st) z zm) : GL M i pc (.int y :: .int x :: st) z zm := fun H locs ls h1 h2 h3 hl => lv_isub hE.1 hE.2.1 hdg (k H locs ls h1 h2 h3 hl)
theorem gl_iand (hE : OL M) {x y : Int32} (hdg : decode cL_law pc = .ok (.iand, 1)) (k : GL M i (pc + 1) (.int (x &&& y) :: st) z zm) : GL M i pc (.int y :: .int x :: st) z zm := fun H locs ls h1 h2 h3 hl => lv_iand hE.1 hE.2.1 hdg (k H locs ls h1 h2 h3 hl)
theorem gl_goto (tgt : Nat) (hE : OL M) {off : Int} (hdg : decode cL_law pc = .ok (.goto off, 3)) (ht : (pc : Int) + off = (tgt : Int)) (k : GL M i tgt st z zm) : GL M i pc st z zm := fun H locs ls h1 h2 h3 hl => lv_goto hE.1 hE.2.1 hdg ht (k H locs ls h1 h2 h3 hl)
theorem gl_inc (hE : OL M) {n : Int} (v : Int32) (hdg : decode cL_law pc = .ok (.iinc 3 n, 3)) (hv : i + Int32.ofInt n = v) (k : GL M v (pc + 3) st z zm) : GL M i pc st z zm := fun H locs ls h1 h2 h3 hl => lv_iinc (k := 3) (lv' := [(3, .int v), (0, .ref M.2.2.1.1), (1, .ref (M.2.2.2.1.2.1 0)), (2, .ref (M.2.2.2.2.2.1 0))]) hE.1 hE.2.1 hdg hl rfl hv (by decide) rfl (fun ls' hl' => k H locs ls' h1 h2 h3 ⟨hl'.1, hl'.2.1, fun q hq => hl'.2.2 q (by simp [lvL] at hq ⊢; rcases hq with h | h | h | h <;> simp [h])⟩)
theorem gl_ld {n : Nat} (hE : OL M) (hn : n < M.2.2.1.2.1) (hdg : decode cL_law pc = .ok (.iaload, 1)) (k : GL M i (pc + 1) (.int (M.2.2.1.2.2 n) :: st) z zm) : GL M i pc (.int (nI n) :: .ref M.2.2.1.1 :: st) z zm := fun H locs ls h1 h2 h3 hl => by
  have hL : M.2.2.1.2.1 ≤ 3072 := hE.2.2.2.2.2.2.2.2.2.2.2.2.2.2
  have hc : (nI n).toNatClampNeg = n := nI_clamp (by omega)
  refine va_sld (A := AB M.1.2.2.2.heap.size) hE.1 hE.2.1 hE.2.2.2.2.2.2.2.2.2.1 hE.2.2.2.2.2.2.2.2.2.2.1 (Nat.not_le.mpr hE.2.2.2.2.2.2.2.2.2.2.1) h3 (nI_in hn (by omega)) hdg ?_
  rw [hc]
  exact k H locs ls h1 h2 h3 hl
theorem gl_len (hE : OL M) (hdg : decode cL_law pc = .ok (.arraylength, 1)) (k : GL M i (pc + 1) (.int (nI M.2.2.1.2.1) :: st) z zm) : GL M i pc (.ref M.2.2.1.1 :: st) z zm := fun H locs ls h1 h2 h3 hl =>
  va_slen (A := AB M.1.2.2.2.heap.size) hE.1 hE.2.1 hE.2.2.2.2.2.2.2.2.2.1 hE.2.2.2.2.2.2.2.2.2.2.1 (Nat.not_le.mpr hE.2.2.2.2.2.2.2.2.2.2.1) h3 hdg (k H locs ls h1 h2 h3 hl)
theorem gl_arg {n : Nat} (hE : OL M) (hn : n + 6 ≤ M.2.2.1.2.1) (j : Nat) (hj : j < 6) {a : Int} (ha : Int32.ofInt a = nI j) (d0 : decode cL_law pc = .ok (.aload_n 0, 1)) (d1 : decode cL_law (pc + 1) = .ok (.iload_n 3, 1)) (d2 : decode cL_law (pc + 2) = .ok (.iconst a, 1)) (d3 : decode cL_law (pc + 3) = .ok (.iadd, 1)) (d4 : decode cL_law (pc + 4) = .ok (.iaload, 1)) (k : GL M (nI n) (pc + 5) (.int (M.2.2.1.2.2 (n + j)) :: st) z zm) : GL M (nI n) pc st z zm := by
  refine gl_al0 hE d0 (gl_il3 hE d1 (gl_iconst hE (nI j) d2 ha (gl_iadd hE d3 ?_)))
  rw [nI_add]
  exact gl_ld hE (by omega) d4 k
theorem gl_eq (tgt : Nat) (hE : OL M) {x : Int32} {off : Int} (hdg : decode cL_law pc = .ok (.if_icmp .eq off, 3)) (ht : (pc : Int) + off = (tgt : Int)) (k : GL M i tgt st z zm) : GL M i pc (.int x :: .int x :: st) z zm := fun H locs ls h1 h2 h3 hl => lv_icmp_eq hE.1 hE.2.1 hdg ht (fun _ => k H locs ls h1 h2 h3 hl) (fun h => absurd rfl h)
theorem lcmp_self (x : Int64) : lg_cmp x x = 0 := by
  unfold lg_cmp
  simp
theorem gl_leq (tgt : Nat) (hE : OL M) {x : Int64} {off : Int} (hdg : decode cL_law pc = .ok (.lcmp, 1)) (hd2 : decode cL_law (pc + 1) = .ok (.ifCond .eq off, 3)) (ht : ((pc + 1 : Nat) : Int) + off = (tgt : Int)) (k : GL M i tgt st z zm) : GL M i pc (.long x :: .long x :: st) z zm := fun H locs ls h1 h2 h3 hl => W.lcmp hE.1 hE.2.1 hdg (lv_if_eq hE.1 hE.2.1 hd2 ht (fun _ => k H locs ls h1 h2 h3 hl) (fun h => absurd (lcmp_self x) h))
theorem gl_callX {Y' : MI} {ix : Nat} {vs : List Int32} {rest st0 : List Value} {r : Value} {z' : Sg} (hE : OL M) (hM : MV Y' RX7 vs.length) (hw : Cond.methodLink RL ix Y'.2.1 ∈ TB) (hd : Y'.2.2.2.2.2 ≤ 9) (hst : st0 = (vs.map Value.int).reverse ++ .ref (M.2.2.2.1.2.1 0) :: rest) (hr : (rest.map fun v => v.category).sum ≤ 8) (hrr : tv M.2.2.2.1.2.1 r = r) (hdg : decode cL_law pc = .ok (.invokevirtual ix, 3))
    (h : CT false M.1.2.1 Y' M.2.2.2.1 (.ref 0 :: vs.map Value.int) z (some r) z') (k : GL M i (pc + 3) (r :: rest) z' zm) : GL M i pc st0 z zm := by
  intro H locs ls h1 h2 hS hl T hT X
  obtain ⟨hx, hb, hml, hown, hts, hret, hlk, kx, km, hX, hbl, gx, gm, dis, hL⟩ := hE
  obtain ⟨w1, w2, w3, w4, hy, hnl⟩ := hM
  have run := va_runV (p := M.1.1) (l := M.1.2.1) (e := M.1.2.2.1) (R := room_1) (s := M.1.2.2.2) (m := M.2.1.1) (args := #[Value.ref M.2.2.1.1]) (below := M.2.1.2.1) (meth := M.2.1.2.2.1) (c := M.2.1.2.2.2) (H := H) (locs := locs) (cells := 80) (slots := 4493) (g := F0 M.2.1.1 pc ls st0) (As := (vs.map Value.int).map (tv M.2.2.2.1.2.1)) (rest := rest) ⟨hx, hb, hml, hown, hts⟩ h (cwV (C := RX7) vs.length hts (goodW (fun q hq => by
    rcases List.mem_append.mp hq with hq | hq
    · simp only [List.mem_cons, List.not_mem_nil, or_false] at hq
      rcases hq with rfl | rfl | rfl | rfl
      · exact hw
      · exact w2
      · exact w3
      · exact w4
    · exact wsCT w1 q hq)) rfl rfl rfl hy (rm1 hd hnl)) ⟨blind, va_recv kx.1 h1 (q0 := 0) (ci := 7) rfl (wl_at (K := KX7) rfl (by simp)), fun U hU hW => ⟨rfl, by rw [hU]; exact h1, kx.warm hW⟩⟩ rfl (by simp) hl.1 (by rw [tvI]; exact hst) (lv_room hr) hdg ⟨Nat.le_of_ble_eq_true rfl, Nat.le_of_ble_eq_true rfl⟩
  obtain ⟨v, st₀, t, T', L', h0, X', hL', e1, e2, ⟨ho, hB, hF⟩, hgo⟩ := run T hT X
  have hv : v = (some r).map (tv M.2.2.2.1.2.1) := Outcome.returned.inj ho
  rw [show (some r).map (tv M.2.2.2.1.2.1) = some (tv M.2.2.2.1.2.1 r) from rfl, hrr] at hv
  subst hv
  have far : ∀ q, ¬ AW false M.2.2.2.1 q → q < H.size → T'.heap[q]? = H[q]? := fun q h1 h2 => by rw [e1, hF.2 q (by rw [h0]; exact h2) h1, h0]
  have hS' : va_S (AB M.1.2.2.2.heap.size) M.1.2.2.2.heap T'.heap (locs ++ L') := by
    refine ⟨Nat.le_trans hS.1 (by rw [e1, ← h0]; exact hF.1), fun q g1 g2 => ?_, fun q hq => ?_⟩
    · rw [far q (fun ⟨t, ht, e⟩ => g2 (by rw [e]; exact gx t ht)) (Nat.lt_of_lt_of_le g1 hS.1)]
      exact hS.2.1 q g1 g2
    · rcases List.mem_append.mp hq with g | g
      · exact hS.2.2 q g
      · obtain ⟨t, ht, e⟩ := hL' q g
        show M.1.2.2.2.heap.size ≤ q.base
        rw [e]
        exact gx t ht
  have h2' : va_P M.2.2.2.2.1 vwCl (wl true M.2.2.2.2 zm) T'.heap := h2.kept (fun kk q hq => far q.1 (fun ⟨t, ht, e⟩ => dis t kk ht (wl_key hq).1 (by rw [← e, (wl_key hq).2])) (at_lt (h2 kk q hq)))
  obtain ⟨t2, a1, b1⟩ := k T'.heap (locs ++ L') ls (by rw [e1]; exact hB.1) h2' hS' hl T' rfl X'
  exact ⟨t2, hgo t2 a1, b1⟩
theorem gl_callM {Y' : MI} {ix : Nat} {vs : List Int32} {rest st0 : List Value} {r : Value} {z' : Sg} (hE : OL M) (hM : MV Y' RX8 vs.length) (hw : Cond.methodLink RL ix Y'.2.1 ∈ TB) (hd : Y'.2.2.2.2.2 ≤ 9) (hst : st0 = (vs.map Value.int).reverse ++ .ref (M.2.2.2.2.2.1 0) :: rest) (hr : (rest.map fun v => v.category).sum ≤ 8) (hrr : tv M.2.2.2.2.2.1 r = r) (hdg : decode cL_law pc = .ok (.invokevirtual ix, 3))
    (h : CT true M.1.2.1 Y' M.2.2.2.2 (.ref 0 :: vs.map Value.int) zm (some r) z') (k : GL M i (pc + 3) (r :: rest) z z') : GL M i pc st0 z zm := by
  intro H locs ls h1 h2 hS hl T hT X
  obtain ⟨hx, hb, hml, hown, hts, hret, hlk, kx, km, hX, hbl, gx, gm, dis, hL⟩ := hE
  obtain ⟨w1, w2, w3, w4, hy, hnl⟩ := hM
  have run := va_runV (p := M.1.1) (l := M.1.2.1) (e := M.1.2.2.1) (R := room_1) (s := M.1.2.2.2) (m := M.2.1.1) (args := #[Value.ref M.2.2.1.1]) (below := M.2.1.2.1) (meth := M.2.1.2.2.1) (c := M.2.1.2.2.2) (H := H) (locs := locs) (cells := 80) (slots := 4493) (g := F0 M.2.1.1 pc ls st0) (As := (vs.map Value.int).map (tv M.2.2.2.2.2.1)) (rest := rest) ⟨hx, hb, hml, hown, hts⟩ h (cwV (C := RX8) vs.length hts (goodW (fun q hq => by
    rcases List.mem_append.mp hq with hq | hq
    · simp only [List.mem_cons, List.not_mem_nil, or_false] at hq
      rcases hq with rfl | rfl | rfl | rfl
      · exact hw
      · exact w2
      · exact w3
      · exact w4
    · exact wsCT w1 q hq)) rfl rfl rfl hy (rm1 hd hnl)) ⟨blind, va_recv km.1 h2 (q0 := 0) (ci := 8) rfl (wl_at (K := KX8) rfl (by simp)), fun U hU hW => ⟨rfl, by rw [hU]; exact h2, km.warm hW⟩⟩ rfl (by simp) hl.1 (by rw [tvI]; exact hst) (lv_room hr) hdg ⟨Nat.le_of_ble_eq_true rfl, Nat.le_of_ble_eq_true rfl⟩
  obtain ⟨v, st₀, t, T', L', h0, X', hL', e1, e2, ⟨ho, hB, hF⟩, hgo⟩ := run T hT X
  have hv : v = (some r).map (tv M.2.2.2.2.2.1) := Outcome.returned.inj ho
  rw [show (some r).map (tv M.2.2.2.2.2.1) = some (tv M.2.2.2.2.2.1 r) from rfl, hrr] at hv
  subst hv
  have far : ∀ q, ¬ AW true M.2.2.2.2 q → q < H.size → T'.heap[q]? = H[q]? := fun q h1 h2 => by rw [e1, hF.2 q (by rw [h0]; exact h2) h1, h0]
  have hS' : va_S (AB M.1.2.2.2.heap.size) M.1.2.2.2.heap T'.heap (locs ++ L') := by
    refine ⟨Nat.le_trans hS.1 (by rw [e1, ← h0]; exact hF.1), fun q g1 g2 => ?_, fun q hq => ?_⟩
    · rw [far q (fun ⟨t, ht, e⟩ => g2 (by rw [e]; exact gm t ht)) (Nat.lt_of_lt_of_le g1 hS.1)]
      exact hS.2.1 q g1 g2
    · rcases List.mem_append.mp hq with g | g
      · exact hS.2.2 q g
      · obtain ⟨t, ht, e⟩ := hL' q g
        show M.1.2.2.2.heap.size ≤ q.base
        rw [e]
        exact gm t ht
  have h1' : va_P M.2.2.2.1.1 vwCl (wl false M.2.2.2.1 z) T'.heap := h1.kept (fun kk q hq => far q.1 (fun ⟨t, ht, e⟩ => dis kk t (wl_key hq).1 ht (by rw [← e, (wl_key hq).2])) (at_lt (h1 kk q hq)))
  obtain ⟨t2, a1, b1⟩ := k T'.heap (locs ++ L') ls h1' (by rw [e1]; exact hB.1) hS' hl T' rfl X'
  exact ⟨t2, hgo t2 a1, b1⟩
end LawRows
