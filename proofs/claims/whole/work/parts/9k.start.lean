/-! THE LAW FROM ITS ENTRY. Printed by wip/whole/gen/mklaw3.py. -/
theorem arr_of {args : Array Value} {s : State} {ty : FieldType} (h : (Cond.arrayClass ty).before args s = true) : ∃ cA, ArrOfT s cA ty ∧ s.vm.findClass ("[" ++ ty.toString) = some cA := by
  obtain ⟨cA, kA, comp, h1, h2, h3⟩ := Cond.arrayClass_spec h
  exact ⟨cA, fun n z => ⟨fun k h => (by cases h), kA, h2, comp, h3⟩, h1⟩
theorem arr_ofQ {args : Array Value} {s : State} {C : String} (h : (Cond.arrayOver (.object C)).before args s = true) : ∃ cA, ArrOfT s cA (.object C) ∧ va_RA s cA (.object C) := by
  obtain ⟨comp, cA, kA, h1, h2, h3, h4, h5⟩ := Cond.arrayOver_spec h
  exact ⟨cA, fun n z => ⟨fun k h => (by cases h), kA, h3, comp, h4⟩, kA, comp, h3, h4, h1, h5⟩
theorem kb_of {args : Array Value} {s : State} (hts : ∀ w ∈ lw_tbl, w.before args s = true) : ∃ w : BC, KB w s := by
  have ht : ∀ q ∈ TB, q.before args s = true := fun q hq => hts q (List.mem_filter.mp hq).1
  obtain ⟨c0, i0, k0⟩ := u_known (C := RX0) (T := TX0) (N := 3) (n := 3) ht inX0 (ht _ wt_RX0)
  obtain ⟨c1, i1, k1⟩ := u_known (C := RX1) (T := TX1) (N := 7) (n := 7) ht inX1 (ht _ wt_RX1)
  obtain ⟨c2, i2, k2⟩ := u_known (C := RX2) (T := TX2) (N := 5) (n := 5) ht inX2 (ht _ wt_RX2)
  obtain ⟨c3, i3, k3⟩ := u_known (C := RX3) (T := TX3) (N := 3) (n := 3) ht inX3 (ht _ wt_RX3)
  obtain ⟨c4, i4, k4⟩ := u_known (C := RX4) (T := TX4) (N := 17) (n := 17) ht inX4 (ht _ wt_RX4)
  obtain ⟨c5, i5, k5⟩ := u_known (C := RX5) (T := TX5) (N := 3) (n := 3) ht inX5 (ht _ wt_RX5)
  obtain ⟨c6, i6, k6⟩ := u_known (C := RX6) (T := TX6) (N := 4) (n := 4) ht inX6 (ht _ wt_RX6)
  obtain ⟨c7, i7, k7⟩ := u_known (C := RX7) (T := TX7) (N := 13) (n := 13) ht inX7 (ht _ wt_RX7)
  obtain ⟨c8, i8, k8⟩ := u_known (C := RX8) (T := TX8) (N := 37) (n := 37) ht inX8 (ht _ wt_RX8)
  obtain ⟨cI, hI, rI⟩ := arr_of (ht _ wa_int)
  obtain ⟨cB, hB, rB⟩ := arr_of (ht _ wa_boolean)
  obtain ⟨cJ, hJ, rJ⟩ := arr_of (ht _ wa_long)
  have ho : (Cond.arrayOver (.object "FoundVirtues$Sheet")).before args s = true := hts _ (List.mem_of_getElem? (i := 288) (by decide +kernel))
  obtain ⟨cS, hS, rS⟩ := arr_ofQ ho
  refine ⟨((fun k => [c0, c1, c2, c3, c4, c5, c6, c7, c8].getD k c0, fun k => [i0, i1, i2, i3, i4, i5, i6, i7, i8].getD k i0), cI, cB, cJ, cS), ⟨?_, ?_⟩, va_AO.of ho, ?_⟩
  · intro k q hq
    match k, hq with
    | 0, hq => cases hq; exact k0
    | 1, hq => cases hq; exact k1
    | 2, hq => cases hq; exact k2
    | 3, hq => cases hq; exact k3
    | 4, hq => cases hq; exact k4
    | 5, hq => cases hq; exact k5
    | 6, hq => cases hq; exact k6
    | 7, hq => cases hq; exact k7
    | 8, hq => cases hq; exact k8
    | _ + 9, hq => exact absurd hq (by simp [vwCl])
  · intro k q hq
    match k, hq with
    | 0, hq => cases hq; exact ⟨hI, rI⟩
    | 1, hq => cases hq; exact ⟨hB, rB⟩
    | 2, hq => cases hq; exact ⟨hJ, rJ⟩
    | 3, hq => cases hq; exact ⟨hS, rS⟩
    | _ + 4, hq => exact absurd hq (by simp [tysB])
  · unfold nestW
    simp only [List.forall_mem_cons]
    exact ⟨va_Nw.of rfl (hts _ (List.mem_of_getElem? (i := 138) (by decide +kernel))), va_Nw.of rfl (hts _ (List.mem_of_getElem? (i := 139) (by decide +kernel))), va_Nw.of rfl (hts _ (List.mem_of_getElem? (i := 141) (by decide +kernel))), va_Nw.of rfl (hts _ (List.mem_of_getElem? (i := 142) (by decide +kernel))), va_Nw.of rfl (hts _ (List.mem_of_getElem? (i := 162) (by decide +kernel))), va_Nw.of rfl (hts _ (List.mem_of_getElem? (i := 182) (by decide +kernel))), va_Nw.of rfl (hts _ (List.mem_of_getElem? (i := 270) (by decide +kernel))), va_Nw.of rfl (hts _ (List.mem_of_getElem? (i := 290) (by decide +kernel))), va_Nw.of rfl (hts _ (List.mem_of_getElem? (i := 435) (by decide +kernel))), va_Nw.of rfl (hts _ (List.mem_of_getElem? (i := 677) (by decide +kernel))), va_Nw.of rfl (hts _ (List.mem_of_getElem? (i := 735) (by decide +kernel))), (fun _ h => by cases h)⟩
abbrev iL_law : MI := (RL, yL_law, cL_law, 4, some .boolean, 0)
theorem wl_get {sp : Bool} {w : WC} {z : Sg} {k : Nat} (h : k < NN sp) : (wl sp w z)[k]? = some (w.2.1 k, entK w z k (kd sp k)) := by
  unfold wl
  rw [List.getElem?_map, List.getElem?_range h]
  rfl
theorem arrV4 {c : ClassId} {f g : Nat → Option Nat} (h0 : f 0 = g 0) (h1 : f 1 = g 1) (h2 : f 2 = g 2) (h3 : f 3 = g 3) : arrV c 4 (fun j => va_rf (f j)) = arrV c 4 (fun j => va_rf (g j)) := by
  have e : (fun j : Fin 4 => va_rf (f j.val)) = (fun j : Fin 4 => va_rf (g j.val)) := funext fun j => by
    match j with
    | ⟨0, _⟩ => show va_rf (f 0) = va_rf (g 0); rw [h0]
    | ⟨1, _⟩ => show va_rf (f 1) = va_rf (g 1); rw [h1]
    | ⟨2, _⟩ => show va_rf (f 2) = va_rf (g 2); rw [h2]
    | ⟨3, _⟩ => show va_rf (f 3) = va_rf (g 3); rw [h3]
  unfold arrV
  rw [e]
theorem first_ok {p : Program} {l : Launch} {e : Env} {s : State} {m : MethodId} {below : List Frame} {meth : Method} {c : Code} {b L : Nat} {xs : Nat → Int32} {w : BC} {A7 A8 : va_W} {ad ad' : Nat → Nat} (hL : L ≤ 3072)
    (hE : OB iL_law ((p, l, e, s), (m, #[Value.ref b], below, meth, c), w, s.heap.size, room_1)) (hr : meth.sig.returnType = ret) (hX : va_X b L xs s s.heap) (hbl : b < s.heap.size)
    (h7 : ∀ k, k < 53 → k ≠ 44 → A7[k]? = some (ad k, entK (wW w ad) zx0 k (kd false k))) (h44 : ∃ f : Nat → Option Nat, A7[44]? = some (ad 44, .inl (w.2.2.2.2, 4, .inr (.inr (.inr (.inr f))))) ∧ f 0 = some (ad 45) ∧ f 1 = some (ad 47) ∧ f 2 = some (ad 49) ∧ f 3 = some (ad 51)) (hlen : A7.length = 53)
    (h8 : ∀ k, k < 27 → A8[k]? = some (ad' k, entK (wW w ad') zm0 k (kd true k))) :
    GB iL_law ((p, l, e, s), (m, #[Value.ref b], below, meth, c), w, s.heap.size, room_1) (lw_Z below #[Value.ref b] s) 80 4493 18 [some (.ref b), some (.ref (ad 0)), some (.ref (ad' 0)), some (.int 0)] [] (A7 ++ A8) := by
  intro H locs ls hP hD hS hl
  obtain ⟨f, f44, f0, f1, f2, f3⟩ := h44
  have c7 : ∀ k, k < 53 → ∃ E, (A7 ++ A8)[k]? = some (ad k, E) := fun k hk => by
    rw [List.getElem?_append_left (by rw [hlen]; exact hk)]
    by_cases h : k = 44
    · subst h; exact ⟨_, f44⟩
    · exact ⟨_, h7 k hk h⟩
  have c8 : ∀ k, k < 27 → (A7 ++ A8)[53 + k]? = some (ad' k, entK (wW w ad') zm0 k (kd true k)) := fun k hk => by
    rw [List.getElem?_append_right (by rw [hlen]; omega), hlen, Nat.add_sub_cancel_left]
    exact h8 k hk
  have P1 : va_P w.1 vwCl (wl false (wW w ad) zx0) H := by
    intro k q hq
    have hk : k < 53 := (wl_key hq).1
    have hq' := (wl_get (sp := false) (w := wW w ad) (z := zx0) hk).symm.trans hq
    cases hq'
    by_cases h : k = 44
    · subst h
      have h1 : H[ad 44]? = some (vp_cell w.2.2.2.2 (4, .inr (.inr (.inr (.inr f))))) := hP 44 (ad 44, .inl (w.2.2.2.2, 4, .inr (.inr (.inr (.inr f))))) (by rw [List.getElem?_append_left (by rw [hlen]; omega)]; exact f44)
      show H[ad 44]? = some (vp_cell w.2.2.2.2 (4, .inr (.inr (.inr (.inr (fun j => some (ad (45 + 2 * j))))))))
      rw [h1, vp_cell_q, vp_cell_q, arrV4 (g := fun j => some (ad (45 + 2 * j))) f0 f1 f2 f3]
    · exact hP k _ (by rw [List.getElem?_append_left (by rw [hlen]; exact hk)]; exact h7 k hk h)
  have P2 : va_P w.1 vwCl (wl true (wW w ad') zm0) H := by
    intro k q hq
    have hk : k < 27 := (wl_key hq).1
    have hq' := (wl_get (sp := true) (w := wW w ad') (z := zm0) hk).symm.trans hq
    cases hq'
    exact hP (53 + k) _ (c8 k hk)
  have I1 : InjW false (wW w ad) := fun i j hi hj hij => by
    obtain ⟨E1, g1⟩ := c7 i hi
    obtain ⟨E2, g2⟩ := c7 j hj
    exact hD.1 i j _ _ g1 g2 hij
  have I2 : InjW true (wW w ad') := fun i j hi hj hij => by
    have := hD.1 (53 + i) (53 + j) _ _ (c8 i hi) (c8 j hj) hij
    omega
  have hO : OL ((p, l, e, s), (m, below, meth, c), (b, L, xs), wW w ad, wW w ad') :=
    ⟨hE.1, hE.2.1, hE.2.2.1, hE.2.2.2.1, hE.2.2.2.2.1, hr, hE.2.2.2.2.2.1, ⟨hE.2.2.2.2.2.2.1.1, I1, hE.2.2.2.2.2.2.1.2.2⟩, ⟨hE.2.2.2.2.2.2.1.1, I2, hE.2.2.2.2.2.2.1.2.2⟩, hX, hbl, fun t ht => (by obtain ⟨E, g⟩ := c7 t ht; exact hD.2 t _ g), fun t ht => hD.2 (53 + t) _ (c8 t ht), fun i j hi hj hij => (by
      obtain ⟨E, g⟩ := c7 i hi
      have := hD.1 i (53 + j) _ _ g (c8 j hj) hij
      omega), hL⟩
  have hl' : lv_has ls 4 (lvL b (ad 0) (ad' 0) (nI 0)) := by rw [nI_0]; exact hl
  exact law_loop hO (L + 1) 0 zx0 zm0 a0 (Nat.zero_le _) (by show L < 0 + (L + 1); omega) ax0 am0 H locs ls P1 P2 hS hl'
set_option maxRecDepth 100000 in
theorem whole_start {p : Program} {e : Env} {s : State} {m : MethodId} {below : List Frame} {meth : Method} {c : Code} (l : Launch) (hflags : l.flags = flags0) {b L : Nat} {xs : Nat → Int32} (hL : L ≤ 3072) (C0 : lw_At p s m meth c b L xs) : W p l e room_1 s m #[Value.ref b] below meth c s.heap [] 0 0 (lw_Z below #[Value.ref b] s) (entryFrame m ([Value.ref b] : List Value).toArray 4) := by
  obtain ⟨hx, hb, hr, hml, hown, hts, hX, hbl, hlk, hgv⟩ := C0
  obtain ⟨w, hK⟩ := kb_of hts
  have hE : OB iL_law ((p, l, e, s), (m, #[Value.ref b], below, meth, c), w, s.heap.size, room_1) := ⟨hx, hb, hml, hown, fun q hq => hts q (List.mem_filter.mp hq).1, hlk, hK, Nat.le_refl _⟩
  have hl := lv_entry ([.ref b]) (n := 4) (Nat.le_of_ble_eq_true rfl)
  rw [lg_entry_eq]
  generalize (lg_sl ([.ref b]) ++ List.replicate (4 - (lg_sl ([.ref b])).length) Slot.unset).toArray = ls at hl ⊢
  have hl : lv_has ls 4 (asc id 0 [some (.ref b), none, none, none]) := hl
  have G0 : GB iL_law ((p, l, e, s), (m, #[Value.ref b], below, meth, c), w, s.heap.size, room_1) (lw_Z below #[Value.ref b] s) 0 0 0 [some (.ref b), none, none, none] [] [] := by
    refine gb_new (ci := 7) hE dfX7 tyX7 tyX7_ok rfl inX7 wc_RL_7 wt_RX7 wz_RX7 dv_X7 (Nat.le_of_ble_eq_true rfl) (Nat.le_of_ble_eq_true rfl) dL_law_0 (fun h => ?_)
    refine gb_dup hE dL_law_3 rfl ?_
    refine gb_callI (As := []) hE mi_X7 wmi_RL_9 ⟨(Nat.le_of_ble_eq_true rfl), (Nat.le_of_ble_eq_true rfl)⟩ rfl rfl (Nat.le_of_ble_eq_true rfl) (Nat.le_of_ble_eq_true rfl) (Nat.le_of_ble_eq_true rfl) dL_law_4 (cb_X7 h) (fun ws1 ⟨q1, r1, q2, r2, q3, r3, q4, r4, q5, r5, q6, r6, q7, r7, q8, r8, q9, r9, q10, q11, r11, q12, r12, q13, r13, q14, r14, e1⟩ => ?_)
    subst e1
    refine gb_astore_n [some (.ref b), some (.ref h), none, none] hE dL_law_7 (by decide) rfl ?_
    refine gb_new (ci := 8) hE dfX8 tyX8 tyX8_ok rfl inX8 wc_RL_10 wt_RX8 wz_RX8 dv_X8 (Nat.le_of_ble_eq_true rfl) (Nat.le_of_ble_eq_true rfl) dL_law_8 (fun g => ?_)
    refine gb_dup hE dL_law_11 rfl ?_
    refine gb_callI (As := []) hE mi_X8 wmi_RL_12 ⟨(Nat.le_of_ble_eq_true rfl), (Nat.le_of_ble_eq_true rfl)⟩ rfl rfl (Nat.le_of_ble_eq_true rfl) (Nat.le_of_ble_eq_true rfl) (Nat.le_of_ble_eq_true rfl) dL_law_12 (cb_X8 _ g) (fun ws2 ⟨q, e2⟩ => ?_)
    subst e2
    refine gb_astore_n [some (.ref b), some (.ref h), some (.ref g), none] hE dL_law_15 (by decide) rfl ?_
    refine gb_iconst hE 0 dL_law_16 (by decide) ?_
    refine gb_istore_n [some (.ref b), some (.ref h), some (.ref g), some (.int 0)] hE dL_law_17 (by decide) rfl ?_
    exact first_ok (ad := adX h q1 r1 q2 r2 q3 r3 q4 r4 q5 r5 q6 r6 q7 r7 q8 r8 q9 r9 q10 q11 r11 q12 r12 q13 r13 q14 r14) (ad' := adM g q) hL hE hr hX hbl at7 at7q len7 at8
  exact G0 s.heap [] ls (fun k q h => by simp at h) ⟨fun i j p q h => (by simp at h), fun k q h => (by simp at h)⟩ va_S.rf hl
