/-! THE CLASS IS MADE. Printed by wip/whole/gen/mkinit7.py. -/
theorem dv_X0 : ∀ j, j < 3 → defaultValue (tyX0 j) = vp_V dfX0 j := fun j hj => match j, hj with
  | 0, _ => rfl
  | 1, _ => rfl
  | 2, _ => rfl
  | _ + 3, h => absurd h (Nat.not_lt.mpr (Nat.le_add_left _ _))
theorem dv_X1 : ∀ j, j < 7 → defaultValue (tyX1 j) = vp_V dfX1 j := fun j hj => match j, hj with
  | 0, _ => rfl
  | 1, _ => rfl
  | 2, _ => rfl
  | 3, _ => rfl
  | 4, _ => rfl
  | 5, _ => rfl
  | 6, _ => rfl
  | _ + 7, h => absurd h (Nat.not_lt.mpr (Nat.le_add_left _ _))
theorem dv_X2 : ∀ j, j < 5 → defaultValue (tyX2 j) = vp_V dfX2 j := fun j hj => match j, hj with
  | 0, _ => rfl
  | 1, _ => rfl
  | 2, _ => rfl
  | 3, _ => rfl
  | 4, _ => rfl
  | _ + 5, h => absurd h (Nat.not_lt.mpr (Nat.le_add_left _ _))
theorem dv_X3 : ∀ j, j < 3 → defaultValue (tyX3 j) = vp_V dfX3 j := fun j hj => match j, hj with
  | 0, _ => rfl
  | 1, _ => rfl
  | 2, _ => rfl
  | _ + 3, h => absurd h (Nat.not_lt.mpr (Nat.le_add_left _ _))
theorem dv_X4 : ∀ j, j < 17 → defaultValue (tyX4 j) = vp_V dfX4 j := fun j hj => match j, hj with
  | 0, _ => rfl
  | 1, _ => rfl
  | 2, _ => rfl
  | 3, _ => rfl
  | 4, _ => rfl
  | 5, _ => rfl
  | 6, _ => rfl
  | 7, _ => rfl
  | 8, _ => rfl
  | 9, _ => rfl
  | 10, _ => rfl
  | 11, _ => rfl
  | 12, _ => rfl
  | 13, _ => rfl
  | 14, _ => rfl
  | 15, _ => rfl
  | 16, _ => rfl
  | _ + 17, h => absurd h (Nat.not_lt.mpr (Nat.le_add_left _ _))
theorem dv_X5 : ∀ j, j < 3 → defaultValue (tyX5 j) = vp_V dfX5 j := fun j hj => match j, hj with
  | 0, _ => rfl
  | 1, _ => rfl
  | 2, _ => rfl
  | _ + 3, h => absurd h (Nat.not_lt.mpr (Nat.le_add_left _ _))
theorem dv_X6 : ∀ j, j < 4 → defaultValue (tyX6 j) = vp_V dfX6 j := fun j hj => match j, hj with
  | 0, _ => rfl
  | 1, _ => rfl
  | 2, _ => rfl
  | 3, _ => rfl
  | _ + 4, h => absurd h (Nat.not_lt.mpr (Nat.le_add_left _ _))
def dfX7 : List Value := [.null, .null, .null, .null, .null, .null, .null, .null, .null, .null, .int 0, .int 0, .int 0]
theorem dv_X7 : ∀ j, j < 13 → defaultValue (tyX7 j) = vp_V dfX7 j := fun j hj => match j, hj with
  | 0, _ => rfl
  | 1, _ => rfl
  | 2, _ => rfl
  | 3, _ => rfl
  | 4, _ => rfl
  | 5, _ => rfl
  | 6, _ => rfl
  | 7, _ => rfl
  | 8, _ => rfl
  | 9, _ => rfl
  | 10, _ => rfl
  | 11, _ => rfl
  | 12, _ => rfl
  | _ + 13, h => absurd h (Nat.not_lt.mpr (Nat.le_add_left _ _))
theorem dv_X8 : ∀ j, j < 37 → defaultValue (tyX8 j) = vp_V dfX8 j := fun j hj => match j, hj with
  | 0, _ => rfl
  | 1, _ => rfl
  | 2, _ => rfl
  | 3, _ => rfl
  | 4, _ => rfl
  | 5, _ => rfl
  | 6, _ => rfl
  | 7, _ => rfl
  | 8, _ => rfl
  | 9, _ => rfl
  | 10, _ => rfl
  | 11, _ => rfl
  | 12, _ => rfl
  | 13, _ => rfl
  | 14, _ => rfl
  | 15, _ => rfl
  | 16, _ => rfl
  | 17, _ => rfl
  | 18, _ => rfl
  | 19, _ => rfl
  | 20, _ => rfl
  | 21, _ => rfl
  | 22, _ => rfl
  | 23, _ => rfl
  | 24, _ => rfl
  | 25, _ => rfl
  | 26, _ => rfl
  | 27, _ => rfl
  | 28, _ => rfl
  | 29, _ => rfl
  | 30, _ => rfl
  | 31, _ => rfl
  | 32, _ => rfl
  | 33, _ => rfl
  | 34, _ => rfl
  | 35, _ => rfl
  | 36, _ => rfl
  | _ + 37, h => absurd h (Nat.not_lt.mpr (Nat.le_add_left _ _))
theorem set_mid (c : Nat × va_E) (A : va_W) (y x : Nat × va_E) (B Z : va_W) : ((c :: (A ++ y :: B)) ++ Z).set (A.length + 1) x = c :: (A ++ x :: (B ++ Z)) := by
  show (c :: ((A ++ y :: B) ++ Z)).set (A.length + 1) x = _
  rw [List.append_assoc, List.cons_append, List.set_cons_succ, app_set]
theorem get_mid (c : Nat × va_E) (A : va_W) (y : Nat × va_E) (B Z : va_W) : ((c :: (A ++ y :: B)) ++ Z)[A.length + 1]? = some y := by
  show (c :: ((A ++ y :: B) ++ Z))[A.length + 1]? = _
  rw [List.append_assoc, List.cons_append, List.getElem?_cons_succ, app_get]
set_option maxRecDepth 100000 in
theorem s7_0 {A : Program × Launch × Env × State} {C : MethodId × Array Value × List Frame × Method × Code} {w : BC} {b h : Nat} {Q : State → Prop} (T : va_W) (hE : OB iX7_init (A, C, w, b, rmC 2 52 1218)) (hn : C.2.2.2.1.name = "<init>")
    (k : ∀ (q1 : Nat) (r1 : Nat → Nat) (q2 : Nat) (r2 : Nat → Nat), GB iX7_init (A, C, w, b, rmC 2 52 1218) Q 8 62 28 [some (.ref h), none] [] ((h, .inr (7, [.ref q1, .ref q2, .null, .null, .null, .null, .null, .null, .null, .null, .int 0, .int 0, .int 0])) :: (T ++ chX1 w 0 q1 r1 ++ chX1 w 1 q2 r2))) : GB iX7_init (A, C, w, b, rmC 2 52 1218) Q 0 0 0 [some (.ref h), none] [] ((h, .inr (7, [.null, .null, .null, .null, .null, .null, .null, .null, .null, .null, .int 0, .int 0, .int 0])) :: (T)) := by
  refine gb_aload_n hE dX7_init_0 rfl ?_
  refine gb_obj hE wo_RX7 wo_1 wo_2 (Nat.le_of_ble_eq_true rfl) (Nat.le_of_ble_eq_true rfl) (Nat.le_of_ble_eq_true rfl) dX7_init_1 ?_
  refine gb_aload_n hE dX7_init_4 rfl ?_
  refine gb_new (ci := 1) hE dfX1 tyX1 tyX1_ok rfl inX1 wc_RX7_7 wt_RX1 wz_RX1 dv_X1 (Nat.le_of_ble_eq_true rfl) (Nat.le_of_ble_eq_true rfl) dX7_init_5 (fun q1 => ?_)
  refine gb_dup hE dX7_init_8 rfl ?_
  refine gb_iconst hE (0) dX7_init_9 (by decide) ?_
  refine gb_callI (As := [.int 0]) hE mi_X1 wmi_RX7_9 ⟨(Nat.le_of_ble_eq_true rfl), (Nat.le_of_ble_eq_true rfl)⟩ rfl rfl (Nat.le_of_ble_eq_true rfl) (Nat.le_of_ble_eq_true rfl) (Nat.le_of_ble_eq_true rfl) dX7_init_10 (cb_X1 ((h, .inr (7, [.null, .null, .null, .null, .null, .null, .null, .null, .null, .null, .int 0, .int 0, .int 0])) :: (T)) q1 0 (Or.inl rfl)) (fun ws1 ⟨r1, e1⟩ => ?_)
  subst e1
  show GB iX7_init _ _ _ _ _ _ [.ref q1, .ref h] ((h, .inr (7, [.null, .null, .null, .null, .null, .null, .null, .null, .null, .null, .int 0, .int 0, .int 0])) :: (T ++ chX1 w 0 q1 r1))
  refine gb_putF ((h, .inr (7, [.ref q1, .null, .null, .null, .null, .null, .null, .null, .null, .null, .int 0, .int 0, .int 0])) :: (T ++ chX1 w 0 q1 r1)) 0 hE hn (k := 0) (T := TX7) (ty := .object "FoundVirtues$Entries") tyX7 tyX7_ok nmX7 rfl rfl inX7 (by decide) wf_RX7_12 rfl rfl (by decide +kernel) rfl rfl (Nat.le_of_ble_eq_true rfl) rfl dX7_init_13 ?_
  refine gb_aload_n hE dX7_init_16 rfl ?_
  refine gb_new (ci := 1) hE dfX1 tyX1 tyX1_ok rfl inX1 wc_RX7_7 wt_RX1 wz_RX1 dv_X1 (Nat.le_of_ble_eq_true rfl) (Nat.le_of_ble_eq_true rfl) dX7_init_17 (fun q2 => ?_)
  refine gb_dup hE dX7_init_20 rfl ?_
  refine gb_iconst hE (1) dX7_init_21 (by decide) ?_
  refine gb_callI (As := [.int 1]) hE mi_X1 wmi_RX7_9 ⟨(Nat.le_of_ble_eq_true rfl), (Nat.le_of_ble_eq_true rfl)⟩ rfl rfl (Nat.le_of_ble_eq_true rfl) (Nat.le_of_ble_eq_true rfl) (Nat.le_of_ble_eq_true rfl) dX7_init_22 (cb_X1 ((h, .inr (7, [.ref q1, .null, .null, .null, .null, .null, .null, .null, .null, .null, .int 0, .int 0, .int 0])) :: (T ++ chX1 w 0 q1 r1)) q2 1 (Or.inr rfl)) (fun ws2 ⟨r2, e2⟩ => ?_)
  subst e2
  show GB iX7_init _ _ _ _ _ _ [.ref q2, .ref h] ((h, .inr (7, [.ref q1, .null, .null, .null, .null, .null, .null, .null, .null, .null, .int 0, .int 0, .int 0])) :: (T ++ chX1 w 0 q1 r1 ++ chX1 w 1 q2 r2))
  refine gb_putF ((h, .inr (7, [.ref q1, .ref q2, .null, .null, .null, .null, .null, .null, .null, .null, .int 0, .int 0, .int 0])) :: (T ++ chX1 w 0 q1 r1 ++ chX1 w 1 q2 r2)) 0 hE hn (k := 1) (T := TX7) (ty := .object "FoundVirtues$Entries") tyX7 tyX7_ok nmX7 rfl rfl inX7 (by decide) wf_RX7_18 rfl rfl (by decide +kernel) rfl rfl (Nat.le_of_ble_eq_true rfl) rfl dX7_init_25 ?_
  exact k q1 r1 q2 r2
set_option maxRecDepth 100000 in
theorem s7_1 {A : Program × Launch × Env × State} {C : MethodId × Array Value × List Frame × Method × Code} {w : BC} {b h : Nat} {Q : State → Prop} (T : va_W) (q1 q2 : Nat) (hE : OB iX7_init (A, C, w, b, rmC 2 52 1218)) (hn : C.2.2.2.1.name = "<init>")
    (k : ∀ (q3 : Nat) (r3 : Nat → Nat) (q4 : Nat) (r4 : Nat → Nat), GB iX7_init (A, C, w, b, rmC 2 52 1218) Q 12 94 58 [some (.ref h), none] [] ((h, .inr (7, [.ref q1, .ref q2, .ref q3, .ref q4, .null, .null, .null, .null, .null, .null, .int 0, .int 0, .int 0])) :: (T ++ chX2 w q1 q2 q3 r3 ++ chX0 w q4 r4))) : GB iX7_init (A, C, w, b, rmC 2 52 1218) Q 8 62 28 [some (.ref h), none] [] ((h, .inr (7, [.ref q1, .ref q2, .null, .null, .null, .null, .null, .null, .null, .null, .int 0, .int 0, .int 0])) :: (T)) := by
  refine gb_aload_n hE dX7_init_28 rfl ?_
  refine gb_new (ci := 2) hE dfX2 tyX2 tyX2_ok rfl inX2 wc_RX7_21 wt_RX2 wz_RX2 dv_X2 (Nat.le_of_ble_eq_true rfl) (Nat.le_of_ble_eq_true rfl) dX7_init_29 (fun q3 => ?_)
  refine gb_dup hE dX7_init_32 rfl ?_
  refine gb_aload_n hE dX7_init_33 rfl ?_
  refine gb_get 0 hE (k := 0) (T := TX7) rfl rfl inX7 (by decide) wf_RX7_12 rfl dX7_init_34 ?_
  refine gb_aload_n hE dX7_init_37 rfl ?_
  refine gb_get 0 hE (k := 1) (T := TX7) rfl rfl inX7 (by decide) wf_RX7_18 rfl dX7_init_38 ?_
  refine gb_callI (As := [.ref q1, .ref q2]) hE mi_X2 wmi_RX7_23 ⟨(Nat.le_of_ble_eq_true rfl), (Nat.le_of_ble_eq_true rfl)⟩ rfl rfl (Nat.le_of_ble_eq_true rfl) (Nat.le_of_ble_eq_true rfl) (Nat.le_of_ble_eq_true rfl) dX7_init_41 (cb_X2 ((h, .inr (7, [.ref q1, .ref q2, .null, .null, .null, .null, .null, .null, .null, .null, .int 0, .int 0, .int 0])) :: (T)) q3 q1 q2) (fun ws3 ⟨r3, e3⟩ => ?_)
  subst e3
  show GB iX7_init _ _ _ _ _ _ [.ref q3, .ref h] ((h, .inr (7, [.ref q1, .ref q2, .null, .null, .null, .null, .null, .null, .null, .null, .int 0, .int 0, .int 0])) :: (T ++ chX2 w q1 q2 q3 r3))
  refine gb_putF ((h, .inr (7, [.ref q1, .ref q2, .ref q3, .null, .null, .null, .null, .null, .null, .null, .int 0, .int 0, .int 0])) :: (T ++ chX2 w q1 q2 q3 r3)) 0 hE hn (k := 2) (T := TX7) (ty := .object "FoundVirtues$Office") tyX7 tyX7_ok nmX7 rfl rfl inX7 (by decide) wf_RX7_26 rfl rfl (by decide +kernel) rfl rfl (Nat.le_of_ble_eq_true rfl) rfl dX7_init_44 ?_
  refine gb_aload_n hE dX7_init_47 rfl ?_
  refine gb_new (ci := 0) hE dfX0 tyX0 tyX0_ok rfl inX0 wc_RX7_30 wt_RX0 wz_RX0 dv_X0 (Nat.le_of_ble_eq_true rfl) (Nat.le_of_ble_eq_true rfl) dX7_init_48 (fun q4 => ?_)
  refine gb_dup hE dX7_init_51 rfl ?_
  refine gb_callN (As := []) hE mi_X0 wn_RX7_32 ⟨(Nat.le_of_ble_eq_true rfl), (Nat.le_of_ble_eq_true rfl)⟩ rfl rfl (Nat.le_of_ble_eq_true rfl) (Nat.le_of_ble_eq_true rfl) (Nat.le_of_ble_eq_true rfl) dX7_init_52 (cb_X0 ((h, .inr (7, [.ref q1, .ref q2, .ref q3, .null, .null, .null, .null, .null, .null, .null, .int 0, .int 0, .int 0])) :: (T ++ chX2 w q1 q2 q3 r3)) q4) (fun ws4 ⟨r4, e4⟩ => ?_)
  subst e4
  show GB iX7_init _ _ _ _ _ _ [.ref q4, .ref h] ((h, .inr (7, [.ref q1, .ref q2, .ref q3, .null, .null, .null, .null, .null, .null, .null, .int 0, .int 0, .int 0])) :: (T ++ chX2 w q1 q2 q3 r3 ++ chX0 w q4 r4))
  refine gb_putF ((h, .inr (7, [.ref q1, .ref q2, .ref q3, .ref q4, .null, .null, .null, .null, .null, .null, .int 0, .int 0, .int 0])) :: (T ++ chX2 w q1 q2 q3 r3 ++ chX0 w q4 r4)) 0 hE hn (k := 3) (T := TX7) (ty := .object "FoundVirtues$Book") tyX7 tyX7_ok nmX7 rfl rfl inX7 (by decide) wf_RX7_33 rfl rfl (by decide +kernel) rfl rfl (Nat.le_of_ble_eq_true rfl) rfl dX7_init_55 ?_
  exact k q3 r3 q4 r4
set_option maxRecDepth 100000 in
theorem s7_2 {A : Program × Launch × Env × State} {C : MethodId × Array Value × List Frame × Method × Code} {w : BC} {b h : Nat} {Q : State → Prop} (T : va_W) (q1 q2 q3 q4 : Nat) (hE : OB iX7_init (A, C, w, b, rmC 2 52 1218)) (hn : C.2.2.2.1.name = "<init>")
    (k : ∀ (q5 : Nat) (r5 : Nat → Nat) (q6 : Nat) (r6 : Nat → Nat), GB iX7_init (A, C, w, b, rmC 2 52 1218) Q 19 149 80 [some (.ref h), none] [] ((h, .inr (7, [.ref q1, .ref q2, .ref q3, .ref q4, .ref q5, .ref q6, .null, .null, .null, .null, .int 0, .int 0, .int 0])) :: (T ++ chX0 w q5 r5 ++ chX6 w q6 r6))) : GB iX7_init (A, C, w, b, rmC 2 52 1218) Q 12 94 58 [some (.ref h), none] [] ((h, .inr (7, [.ref q1, .ref q2, .ref q3, .ref q4, .null, .null, .null, .null, .null, .null, .int 0, .int 0, .int 0])) :: (T)) := by
  refine gb_aload_n hE dX7_init_58 rfl ?_
  refine gb_new (ci := 0) hE dfX0 tyX0 tyX0_ok rfl inX0 wc_RX7_30 wt_RX0 wz_RX0 dv_X0 (Nat.le_of_ble_eq_true rfl) (Nat.le_of_ble_eq_true rfl) dX7_init_59 (fun q5 => ?_)
  refine gb_dup hE dX7_init_62 rfl ?_
  refine gb_callN (As := []) hE mi_X0 wn_RX7_32 ⟨(Nat.le_of_ble_eq_true rfl), (Nat.le_of_ble_eq_true rfl)⟩ rfl rfl (Nat.le_of_ble_eq_true rfl) (Nat.le_of_ble_eq_true rfl) (Nat.le_of_ble_eq_true rfl) dX7_init_63 (cb_X0 ((h, .inr (7, [.ref q1, .ref q2, .ref q3, .ref q4, .null, .null, .null, .null, .null, .null, .int 0, .int 0, .int 0])) :: (T)) q5) (fun ws5 ⟨r5, e5⟩ => ?_)
  subst e5
  show GB iX7_init _ _ _ _ _ _ [.ref q5, .ref h] ((h, .inr (7, [.ref q1, .ref q2, .ref q3, .ref q4, .null, .null, .null, .null, .null, .null, .int 0, .int 0, .int 0])) :: (T ++ chX0 w q5 r5))
  refine gb_putF ((h, .inr (7, [.ref q1, .ref q2, .ref q3, .ref q4, .ref q5, .null, .null, .null, .null, .null, .int 0, .int 0, .int 0])) :: (T ++ chX0 w q5 r5)) 0 hE hn (k := 4) (T := TX7) (ty := .object "FoundVirtues$Book") tyX7 tyX7_ok nmX7 rfl rfl inX7 (by decide) wf_RX7_37 rfl rfl (by decide +kernel) rfl rfl (Nat.le_of_ble_eq_true rfl) rfl dX7_init_66 ?_
  refine gb_aload_n hE dX7_init_69 rfl ?_
  refine gb_new (ci := 6) hE dfX6 tyX6 tyX6_ok rfl inX6 wc_RX7_40 wt_RX6 wz_RX6 dv_X6 (Nat.le_of_ble_eq_true rfl) (Nat.le_of_ble_eq_true rfl) dX7_init_70 (fun q6 => ?_)
  refine gb_dup hE dX7_init_73 rfl ?_
  refine gb_callN (As := []) hE mi_X6 wn_RX7_42 ⟨(Nat.le_of_ble_eq_true rfl), (Nat.le_of_ble_eq_true rfl)⟩ rfl rfl (Nat.le_of_ble_eq_true rfl) (Nat.le_of_ble_eq_true rfl) (Nat.le_of_ble_eq_true rfl) dX7_init_74 (cb_X6 ((h, .inr (7, [.ref q1, .ref q2, .ref q3, .ref q4, .ref q5, .null, .null, .null, .null, .null, .int 0, .int 0, .int 0])) :: (T ++ chX0 w q5 r5)) q6) (fun ws6 ⟨r6, e6⟩ => ?_)
  subst e6
  show GB iX7_init _ _ _ _ _ _ [.ref q6, .ref h] ((h, .inr (7, [.ref q1, .ref q2, .ref q3, .ref q4, .ref q5, .null, .null, .null, .null, .null, .int 0, .int 0, .int 0])) :: (T ++ chX0 w q5 r5 ++ chX6 w q6 r6))
  refine gb_putF ((h, .inr (7, [.ref q1, .ref q2, .ref q3, .ref q4, .ref q5, .ref q6, .null, .null, .null, .null, .int 0, .int 0, .int 0])) :: (T ++ chX0 w q5 r5 ++ chX6 w q6 r6)) 0 hE hn (k := 5) (T := TX7) (ty := .object "FoundVirtues$Sightings") tyX7 tyX7_ok nmX7 rfl rfl inX7 (by decide) wf_RX7_43 rfl rfl (by decide +kernel) rfl rfl (Nat.le_of_ble_eq_true rfl) rfl dX7_init_77 ?_
  exact k q5 r5 q6 r6
set_option maxRecDepth 100000 in
theorem s7_3 {A : Program × Launch × Env × State} {C : MethodId × Array Value × List Frame × Method × Code} {w : BC} {b h : Nat} {Q : State → Prop} (T : va_W) (q1 q2 q3 q4 q5 q6 : Nat) (hE : OB iX7_init (A, C, w, b, rmC 2 52 1218)) (hn : C.2.2.2.1.name = "<init>")
    (k : ∀ (q7 : Nat) (r7 : Nat → Nat), GB iX7_init (A, C, w, b, rmC 2 52 1218) Q 30 450 95 [some (.ref h), none] [] ((h, .inr (7, [.ref q1, .ref q2, .ref q3, .ref q4, .ref q5, .ref q6, .ref q7, .null, .null, .null, .int 0, .int 0, .int 0])) :: (T ++ chX4 w q3 q7 r7))) : GB iX7_init (A, C, w, b, rmC 2 52 1218) Q 19 149 80 [some (.ref h), none] [] ((h, .inr (7, [.ref q1, .ref q2, .ref q3, .ref q4, .ref q5, .ref q6, .null, .null, .null, .null, .int 0, .int 0, .int 0])) :: (T)) := by
  refine gb_aload_n hE dX7_init_80 rfl ?_
  refine gb_new (ci := 4) hE dfX4 tyX4 tyX4_ok rfl inX4 wc_RX7_47 wt_RX4 wz_RX4 dv_X4 (Nat.le_of_ble_eq_true rfl) (Nat.le_of_ble_eq_true rfl) dX7_init_81 (fun q7 => ?_)
  refine gb_dup hE dX7_init_84 rfl ?_
  refine gb_aload_n hE dX7_init_85 rfl ?_
  refine gb_get 0 hE (k := 2) (T := TX7) rfl rfl inX7 (by decide) wf_RX7_26 rfl dX7_init_86 ?_
  refine gb_callI (As := [.ref q3]) hE mi_X4 wmi_RX7_49 ⟨(Nat.le_of_ble_eq_true rfl), (Nat.le_of_ble_eq_true rfl)⟩ rfl rfl (Nat.le_of_ble_eq_true rfl) (Nat.le_of_ble_eq_true rfl) (Nat.le_of_ble_eq_true rfl) dX7_init_89 (cb_X4 ((h, .inr (7, [.ref q1, .ref q2, .ref q3, .ref q4, .ref q5, .ref q6, .null, .null, .null, .null, .int 0, .int 0, .int 0])) :: (T)) q7 q3) (fun ws7 ⟨r7, e7⟩ => ?_)
  subst e7
  show GB iX7_init _ _ _ _ _ _ [.ref q7, .ref h] ((h, .inr (7, [.ref q1, .ref q2, .ref q3, .ref q4, .ref q5, .ref q6, .null, .null, .null, .null, .int 0, .int 0, .int 0])) :: (T ++ chX4 w q3 q7 r7))
  refine gb_putF ((h, .inr (7, [.ref q1, .ref q2, .ref q3, .ref q4, .ref q5, .ref q6, .ref q7, .null, .null, .null, .int 0, .int 0, .int 0])) :: (T ++ chX4 w q3 q7 r7)) 0 hE hn (k := 6) (T := TX7) (ty := .object "FoundVirtues$Run") tyX7 tyX7_ok nmX7 rfl rfl inX7 (by decide) wf_RX7_52 rfl rfl (by decide +kernel) rfl rfl (Nat.le_of_ble_eq_true rfl) rfl dX7_init_92 ?_
  exact k q7 r7
set_option maxRecDepth 100000 in
theorem s7_4 {A : Program × Launch × Env × State} {C : MethodId × Array Value × List Frame × Method × Code} {w : BC} {b h : Nat} {Q : State → Prop} (T : va_W) (q1 q2 q3 q4 q5 q6 q7 : Nat) (hE : OB iX7_init (A, C, w, b, rmC 2 52 1218)) (hn : C.2.2.2.1.name = "<init>")
    (k : ∀ (q8 : Nat) (r8 : Nat → Nat), GB iX7_init (A, C, w, b, rmC 2 52 1218) Q 41 751 110 [some (.ref h), none] [] ((h, .inr (7, [.ref q1, .ref q2, .ref q3, .ref q4, .ref q5, .ref q6, .ref q7, .ref q8, .null, .null, .int 0, .int 0, .int 0])) :: (T ++ chX4 w q3 q8 r8))) : GB iX7_init (A, C, w, b, rmC 2 52 1218) Q 30 450 95 [some (.ref h), none] [] ((h, .inr (7, [.ref q1, .ref q2, .ref q3, .ref q4, .ref q5, .ref q6, .ref q7, .null, .null, .null, .int 0, .int 0, .int 0])) :: (T)) := by
  refine gb_aload_n hE dX7_init_95 rfl ?_
  refine gb_new (ci := 4) hE dfX4 tyX4 tyX4_ok rfl inX4 wc_RX7_47 wt_RX4 wz_RX4 dv_X4 (Nat.le_of_ble_eq_true rfl) (Nat.le_of_ble_eq_true rfl) dX7_init_96 (fun q8 => ?_)
  refine gb_dup hE dX7_init_99 rfl ?_
  refine gb_aload_n hE dX7_init_100 rfl ?_
  refine gb_get 0 hE (k := 2) (T := TX7) rfl rfl inX7 (by decide) wf_RX7_26 rfl dX7_init_101 ?_
  refine gb_callI (As := [.ref q3]) hE mi_X4 wmi_RX7_49 ⟨(Nat.le_of_ble_eq_true rfl), (Nat.le_of_ble_eq_true rfl)⟩ rfl rfl (Nat.le_of_ble_eq_true rfl) (Nat.le_of_ble_eq_true rfl) (Nat.le_of_ble_eq_true rfl) dX7_init_104 (cb_X4 ((h, .inr (7, [.ref q1, .ref q2, .ref q3, .ref q4, .ref q5, .ref q6, .ref q7, .null, .null, .null, .int 0, .int 0, .int 0])) :: (T)) q8 q3) (fun ws8 ⟨r8, e8⟩ => ?_)
  subst e8
  show GB iX7_init _ _ _ _ _ _ [.ref q8, .ref h] ((h, .inr (7, [.ref q1, .ref q2, .ref q3, .ref q4, .ref q5, .ref q6, .ref q7, .null, .null, .null, .int 0, .int 0, .int 0])) :: (T ++ chX4 w q3 q8 r8))
  refine gb_putF ((h, .inr (7, [.ref q1, .ref q2, .ref q3, .ref q4, .ref q5, .ref q6, .ref q7, .ref q8, .null, .null, .int 0, .int 0, .int 0])) :: (T ++ chX4 w q3 q8 r8)) 0 hE hn (k := 7) (T := TX7) (ty := .object "FoundVirtues$Run") tyX7 tyX7_ok nmX7 rfl rfl inX7 (by decide) wf_RX7_56 rfl rfl (by decide +kernel) rfl rfl (Nat.le_of_ble_eq_true rfl) rfl dX7_init_107 ?_
  exact k q8 r8
set_option maxRecDepth 100000 in
theorem s7_5 {A : Program × Launch × Env × State} {C : MethodId × Array Value × List Frame × Method × Code} {w : BC} {b h : Nat} {Q : State → Prop} (T : va_W) (q1 q2 q3 q4 q5 q6 q7 q8 : Nat) (hE : OB iX7_init (A, C, w, b, rmC 2 52 1218)) (hn : C.2.2.2.1.name = "<init>")
    (k : ∀ (q9 : Nat) (r9 : Nat → Nat) (q10 : Nat), GB iX7_init (A, C, w, b, rmC 2 52 1218) Q 44 1014 129 [some (.ref h), none] [] ((h, .inr (7, [.ref q1, .ref q2, .ref q3, .ref q4, .ref q5, .ref q6, .ref q7, .ref q8, .ref q9, .ref q10, .int 0, .int 0, .int 0])) :: ((T ++ chX3 w q9 r9) ++ (q10, .inl (w.2.2.2.2, 4, .inr (.inr (.inr (.inr (fun _ => none)))))) :: []))) : GB iX7_init (A, C, w, b, rmC 2 52 1218) Q 41 751 110 [some (.ref h), none] [] ((h, .inr (7, [.ref q1, .ref q2, .ref q3, .ref q4, .ref q5, .ref q6, .ref q7, .ref q8, .null, .null, .int 0, .int 0, .int 0])) :: (T)) := by
  refine gb_aload_n hE dX7_init_110 rfl ?_
  refine gb_new (ci := 3) hE dfX3 tyX3 tyX3_ok rfl inX3 wc_RX7_59 wt_RX3 wz_RX3 dv_X3 (Nat.le_of_ble_eq_true rfl) (Nat.le_of_ble_eq_true rfl) dX7_init_111 (fun q9 => ?_)
  refine gb_dup hE dX7_init_114 rfl ?_
  refine gb_callN (As := []) hE mi_X3 wn_RX7_61 ⟨(Nat.le_of_ble_eq_true rfl), (Nat.le_of_ble_eq_true rfl)⟩ rfl rfl (Nat.le_of_ble_eq_true rfl) (Nat.le_of_ble_eq_true rfl) (Nat.le_of_ble_eq_true rfl) dX7_init_115 (cb_X3 ((h, .inr (7, [.ref q1, .ref q2, .ref q3, .ref q4, .ref q5, .ref q6, .ref q7, .ref q8, .null, .null, .int 0, .int 0, .int 0])) :: (T)) q9) (fun ws9 ⟨r9, e9⟩ => ?_)
  subst e9
  show GB iX7_init _ _ _ _ _ _ [.ref q9, .ref h] ((h, .inr (7, [.ref q1, .ref q2, .ref q3, .ref q4, .ref q5, .ref q6, .ref q7, .ref q8, .null, .null, .int 0, .int 0, .int 0])) :: (T ++ chX3 w q9 r9))
  refine gb_putF ((h, .inr (7, [.ref q1, .ref q2, .ref q3, .ref q4, .ref q5, .ref q6, .ref q7, .ref q8, .ref q9, .null, .int 0, .int 0, .int 0])) :: (T ++ chX3 w q9 r9)) 0 hE hn (k := 8) (T := TX7) (ty := .object "FoundVirtues$Rows") tyX7 tyX7_ok nmX7 rfl rfl inX7 (by decide) wf_RX7_62 rfl rfl (by decide +kernel) rfl rfl (Nat.le_of_ble_eq_true rfl) rfl dX7_init_118 ?_
  refine gb_aload_n hE dX7_init_121 rfl ?_
  refine gb_iconst hE (4) dX7_init_122 (by decide) ?_
  refine gb_newQ hE 4 (by decide) (by decide) wc_RX7_66 (by decide) (Nat.le_of_ble_eq_true rfl) (Nat.le_of_ble_eq_true rfl) dX7_init_123 (fun q10 => ?_)
  show GB iX7_init _ _ _ _ _ _ [.ref q10, .ref h] ((h, .inr (7, [.ref q1, .ref q2, .ref q3, .ref q4, .ref q5, .ref q6, .ref q7, .ref q8, .ref q9, .null, .int 0, .int 0, .int 0])) :: ((T ++ chX3 w q9 r9) ++ (q10, .inl (w.2.2.2.2, 4, .inr (.inr (.inr (.inr (fun _ => none)))))) :: []))
  refine gb_putF ((h, .inr (7, [.ref q1, .ref q2, .ref q3, .ref q4, .ref q5, .ref q6, .ref q7, .ref q8, .ref q9, .ref q10, .int 0, .int 0, .int 0])) :: ((T ++ chX3 w q9 r9) ++ (q10, .inl (w.2.2.2.2, 4, .inr (.inr (.inr (.inr (fun _ => none)))))) :: [])) 0 hE hn (k := 9) (T := TX7) (ty := .array (.object "FoundVirtues$Sheet")) tyX7 tyX7_ok nmX7 rfl rfl inX7 (by decide) wf_RX7_68 rfl rfl (by decide +kernel) rfl rfl (Nat.le_of_ble_eq_true rfl) rfl dX7_init_126 ?_
  exact k q9 r9 q10
set_option maxRecDepth 100000 in
theorem s7_6 {A : Program × Launch × Env × State} {C : MethodId × Array Value × List Frame × Method × Code} {w : BC} {b h : Nat} {Q : State → Prop} (T B : va_W) (q1 q2 q3 q4 q5 q6 q7 q8 q9 q10 : Nat) (hE : OB iX7_init (A, C, w, b, rmC 2 52 1218)) (hn : C.2.2.2.1.name = "<init>")
    (k : GB iX7_init (A, C, w, b, rmC 2 52 1218) Q 44 1014 131 [some (.ref h), some (.int 0)] [] ((h, .inr (7, [.ref q1, .ref q2, .ref q3, .ref q4, .ref q5, .ref q6, .ref q7, .ref q8, .ref q9, .ref q10, .int 0, .int 0, .int 0])) :: (T ++ (q10, .inl (w.2.2.2.2, 4, .inr (.inr (.inr (.inr (fun _ => none)))))) :: (B)))) : GB iX7_init (A, C, w, b, rmC 2 52 1218) Q 44 1014 129 [some (.ref h), none] [] ((h, .inr (7, [.ref q1, .ref q2, .ref q3, .ref q4, .ref q5, .ref q6, .ref q7, .ref q8, .ref q9, .ref q10, .int 0, .int 0, .int 0])) :: (T ++ (q10, .inl (w.2.2.2.2, 4, .inr (.inr (.inr (.inr (fun _ => none)))))) :: (B))) := by
  refine gb_iconst hE (0) dX7_init_129 (by decide) ?_
  refine gb_istore_n [some (.ref h), some (.int 0)] hE dX7_init_130 (by decide) rfl ?_
  exact k 
set_option maxRecDepth 100000 in
theorem s7_7 {A : Program × Launch × Env × State} {C : MethodId × Array Value × List Frame × Method × Code} {w : BC} {b h : Nat} {Q : State → Prop} (T B : va_W) (q1 q2 q3 q4 q5 q6 q7 q8 q9 q10 : Nat) (hE : OB iX7_init (A, C, w, b, rmC 2 52 1218)) (hn : C.2.2.2.1.name = "<init>")
    (k : ∀ (q11 : Nat) (r11 : Nat → Nat), GB iX7_init (A, C, w, b, rmC 2 52 1218) Q 46 1065 131 [some (.ref h), some (.int 1)] [] ((h, .inr (7, [.ref q1, .ref q2, .ref q3, .ref q4, .ref q5, .ref q6, .ref q7, .ref q8, .ref q9, .ref q10, .int 0, .int 0, .int 0])) :: (T ++ (q10, .inl (w.2.2.2.2, 4, .inr (.inr (.inr (.inr (va_up (fun _ => none) 0 (some q11))))))) :: (B ++ chX5 w q11 r11)))) : GB iX7_init (A, C, w, b, rmC 2 52 1218) Q 44 1014 131 [some (.ref h), some (.int 0)] [] ((h, .inr (7, [.ref q1, .ref q2, .ref q3, .ref q4, .ref q5, .ref q6, .ref q7, .ref q8, .ref q9, .ref q10, .int 0, .int 0, .int 0])) :: (T ++ (q10, .inl (w.2.2.2.2, 4, .inr (.inr (.inr (.inr (fun _ => none)))))) :: (B))) := by
  refine gb_iload_n hE dX7_init_131 rfl ?_
  refine gb_iconst hE (4) dX7_init_132 (by decide) ?_
  refine gb_icmp_ge 155 hE dX7_init_133 (by decide) (fun hb => absurd hb (by decide)) (fun _ => ?_)
  refine gb_aload_n hE dX7_init_136 rfl ?_
  refine gb_get 0 hE (k := 9) (T := TX7) rfl rfl inX7 (by decide) wf_RX7_68 rfl dX7_init_137 ?_
  refine gb_iload_n hE dX7_init_140 rfl ?_
  refine gb_new (ci := 5) hE dfX5 tyX5 tyX5_ok rfl inX5 wc_RX7_66 wt_RX5 wz_RX5 dv_X5 (Nat.le_of_ble_eq_true rfl) (Nat.le_of_ble_eq_true rfl) dX7_init_141 (fun q11 => ?_)
  refine gb_dup hE dX7_init_144 rfl ?_
  refine gb_callN (As := []) hE mi_X5 wn_RX7_72 ⟨(Nat.le_of_ble_eq_true rfl), (Nat.le_of_ble_eq_true rfl)⟩ rfl rfl (Nat.le_of_ble_eq_true rfl) (Nat.le_of_ble_eq_true rfl) (Nat.le_of_ble_eq_true rfl) dX7_init_145 (cb_X5 ((h, .inr (7, [.ref q1, .ref q2, .ref q3, .ref q4, .ref q5, .ref q6, .ref q7, .ref q8, .ref q9, .ref q10, .int 0, .int 0, .int 0])) :: (T ++ (q10, .inl (w.2.2.2.2, 4, .inr (.inr (.inr (.inr (fun _ => none)))))) :: (B))) q11) (fun ws11 ⟨r11, e11⟩ => ?_)
  subst e11
  refine gb_ast ((h, .inr (7, [.ref q1, .ref q2, .ref q3, .ref q4, .ref q5, .ref q6, .ref q7, .ref q8, .ref q9, .ref q10, .int 0, .int 0, .int 0])) :: (T ++ (q10, .inl (w.2.2.2.2, 4, .inr (.inr (.inr (.inr (va_up (fun _ => none) 0 (some q11))))))) :: (B ++ chX5 w q11 r11))) (T.length + 1) ((h, .inr (7, [.ref q1, .ref q2, .ref q3, .ref q4, .ref q5, .ref q6, .ref q7, .ref q8, .ref q9, .ref q10, .int 0, .int 0, .int 0])) :: (T ++ (q10, .inl (w.2.2.2.2, 4, .inr (.inr (.inr (.inr (fun _ => none)))))) :: (B))).length (i := 0) hE (get_mid _ _ _ _ _) (app_get _ _ _) (by show ¬ _; decide) (set_mid _ _ _ _ _ _) dX7_init_148 ?_
  refine gb_iinc [some (.ref h), some (.int 1)] hE 1 dX7_init_149 rfl (by decide) (by decide) rfl ?_
  refine gb_goto 131 hE dX7_init_152 (by decide) ?_
  exact k q11 r11
set_option maxRecDepth 100000 in
theorem s7_8 {A : Program × Launch × Env × State} {C : MethodId × Array Value × List Frame × Method × Code} {w : BC} {b h : Nat} {Q : State → Prop} (T B : va_W) (q1 q2 q3 q4 q5 q6 q7 q8 q9 q10 q11 : Nat) (hE : OB iX7_init (A, C, w, b, rmC 2 52 1218)) (hn : C.2.2.2.1.name = "<init>")
    (k : ∀ (q12 : Nat) (r12 : Nat → Nat), GB iX7_init (A, C, w, b, rmC 2 52 1218) Q 48 1116 131 [some (.ref h), some (.int 2)] [] ((h, .inr (7, [.ref q1, .ref q2, .ref q3, .ref q4, .ref q5, .ref q6, .ref q7, .ref q8, .ref q9, .ref q10, .int 0, .int 0, .int 0])) :: (T ++ (q10, .inl (w.2.2.2.2, 4, .inr (.inr (.inr (.inr (va_up (va_up (fun _ => none) 0 (some q11)) 1 (some q12))))))) :: (B ++ chX5 w q12 r12)))) : GB iX7_init (A, C, w, b, rmC 2 52 1218) Q 46 1065 131 [some (.ref h), some (.int 1)] [] ((h, .inr (7, [.ref q1, .ref q2, .ref q3, .ref q4, .ref q5, .ref q6, .ref q7, .ref q8, .ref q9, .ref q10, .int 0, .int 0, .int 0])) :: (T ++ (q10, .inl (w.2.2.2.2, 4, .inr (.inr (.inr (.inr (va_up (fun _ => none) 0 (some q11))))))) :: (B))) := by
  refine gb_iload_n hE dX7_init_131 rfl ?_
  refine gb_iconst hE (4) dX7_init_132 (by decide) ?_
  refine gb_icmp_ge 155 hE dX7_init_133 (by decide) (fun hb => absurd hb (by decide)) (fun _ => ?_)
  refine gb_aload_n hE dX7_init_136 rfl ?_
  refine gb_get 0 hE (k := 9) (T := TX7) rfl rfl inX7 (by decide) wf_RX7_68 rfl dX7_init_137 ?_
  refine gb_iload_n hE dX7_init_140 rfl ?_
  refine gb_new (ci := 5) hE dfX5 tyX5 tyX5_ok rfl inX5 wc_RX7_66 wt_RX5 wz_RX5 dv_X5 (Nat.le_of_ble_eq_true rfl) (Nat.le_of_ble_eq_true rfl) dX7_init_141 (fun q12 => ?_)
  refine gb_dup hE dX7_init_144 rfl ?_
  refine gb_callN (As := []) hE mi_X5 wn_RX7_72 ⟨(Nat.le_of_ble_eq_true rfl), (Nat.le_of_ble_eq_true rfl)⟩ rfl rfl (Nat.le_of_ble_eq_true rfl) (Nat.le_of_ble_eq_true rfl) (Nat.le_of_ble_eq_true rfl) dX7_init_145 (cb_X5 ((h, .inr (7, [.ref q1, .ref q2, .ref q3, .ref q4, .ref q5, .ref q6, .ref q7, .ref q8, .ref q9, .ref q10, .int 0, .int 0, .int 0])) :: (T ++ (q10, .inl (w.2.2.2.2, 4, .inr (.inr (.inr (.inr (va_up (fun _ => none) 0 (some q11))))))) :: (B))) q12) (fun ws12 ⟨r12, e12⟩ => ?_)
  subst e12
  refine gb_ast ((h, .inr (7, [.ref q1, .ref q2, .ref q3, .ref q4, .ref q5, .ref q6, .ref q7, .ref q8, .ref q9, .ref q10, .int 0, .int 0, .int 0])) :: (T ++ (q10, .inl (w.2.2.2.2, 4, .inr (.inr (.inr (.inr (va_up (va_up (fun _ => none) 0 (some q11)) 1 (some q12))))))) :: (B ++ chX5 w q12 r12))) (T.length + 1) ((h, .inr (7, [.ref q1, .ref q2, .ref q3, .ref q4, .ref q5, .ref q6, .ref q7, .ref q8, .ref q9, .ref q10, .int 0, .int 0, .int 0])) :: (T ++ (q10, .inl (w.2.2.2.2, 4, .inr (.inr (.inr (.inr (va_up (fun _ => none) 0 (some q11))))))) :: (B))).length (i := 1) hE (get_mid _ _ _ _ _) (app_get _ _ _) (by show ¬ _; decide) (set_mid _ _ _ _ _ _) dX7_init_148 ?_
  refine gb_iinc [some (.ref h), some (.int 2)] hE 2 dX7_init_149 rfl (by decide) (by decide) rfl ?_
  refine gb_goto 131 hE dX7_init_152 (by decide) ?_
  exact k q12 r12
set_option maxRecDepth 100000 in
theorem s7_9 {A : Program × Launch × Env × State} {C : MethodId × Array Value × List Frame × Method × Code} {w : BC} {b h : Nat} {Q : State → Prop} (T B : va_W) (q1 q2 q3 q4 q5 q6 q7 q8 q9 q10 q11 q12 : Nat) (hE : OB iX7_init (A, C, w, b, rmC 2 52 1218)) (hn : C.2.2.2.1.name = "<init>")
    (k : ∀ (q13 : Nat) (r13 : Nat → Nat), GB iX7_init (A, C, w, b, rmC 2 52 1218) Q 50 1167 131 [some (.ref h), some (.int 3)] [] ((h, .inr (7, [.ref q1, .ref q2, .ref q3, .ref q4, .ref q5, .ref q6, .ref q7, .ref q8, .ref q9, .ref q10, .int 0, .int 0, .int 0])) :: (T ++ (q10, .inl (w.2.2.2.2, 4, .inr (.inr (.inr (.inr (va_up (va_up (va_up (fun _ => none) 0 (some q11)) 1 (some q12)) 2 (some q13))))))) :: (B ++ chX5 w q13 r13)))) : GB iX7_init (A, C, w, b, rmC 2 52 1218) Q 48 1116 131 [some (.ref h), some (.int 2)] [] ((h, .inr (7, [.ref q1, .ref q2, .ref q3, .ref q4, .ref q5, .ref q6, .ref q7, .ref q8, .ref q9, .ref q10, .int 0, .int 0, .int 0])) :: (T ++ (q10, .inl (w.2.2.2.2, 4, .inr (.inr (.inr (.inr (va_up (va_up (fun _ => none) 0 (some q11)) 1 (some q12))))))) :: (B))) := by
  refine gb_iload_n hE dX7_init_131 rfl ?_
  refine gb_iconst hE (4) dX7_init_132 (by decide) ?_
  refine gb_icmp_ge 155 hE dX7_init_133 (by decide) (fun hb => absurd hb (by decide)) (fun _ => ?_)
  refine gb_aload_n hE dX7_init_136 rfl ?_
  refine gb_get 0 hE (k := 9) (T := TX7) rfl rfl inX7 (by decide) wf_RX7_68 rfl dX7_init_137 ?_
  refine gb_iload_n hE dX7_init_140 rfl ?_
  refine gb_new (ci := 5) hE dfX5 tyX5 tyX5_ok rfl inX5 wc_RX7_66 wt_RX5 wz_RX5 dv_X5 (Nat.le_of_ble_eq_true rfl) (Nat.le_of_ble_eq_true rfl) dX7_init_141 (fun q13 => ?_)
  refine gb_dup hE dX7_init_144 rfl ?_
  refine gb_callN (As := []) hE mi_X5 wn_RX7_72 ⟨(Nat.le_of_ble_eq_true rfl), (Nat.le_of_ble_eq_true rfl)⟩ rfl rfl (Nat.le_of_ble_eq_true rfl) (Nat.le_of_ble_eq_true rfl) (Nat.le_of_ble_eq_true rfl) dX7_init_145 (cb_X5 ((h, .inr (7, [.ref q1, .ref q2, .ref q3, .ref q4, .ref q5, .ref q6, .ref q7, .ref q8, .ref q9, .ref q10, .int 0, .int 0, .int 0])) :: (T ++ (q10, .inl (w.2.2.2.2, 4, .inr (.inr (.inr (.inr (va_up (va_up (fun _ => none) 0 (some q11)) 1 (some q12))))))) :: (B))) q13) (fun ws13 ⟨r13, e13⟩ => ?_)
  subst e13
  refine gb_ast ((h, .inr (7, [.ref q1, .ref q2, .ref q3, .ref q4, .ref q5, .ref q6, .ref q7, .ref q8, .ref q9, .ref q10, .int 0, .int 0, .int 0])) :: (T ++ (q10, .inl (w.2.2.2.2, 4, .inr (.inr (.inr (.inr (va_up (va_up (va_up (fun _ => none) 0 (some q11)) 1 (some q12)) 2 (some q13))))))) :: (B ++ chX5 w q13 r13))) (T.length + 1) ((h, .inr (7, [.ref q1, .ref q2, .ref q3, .ref q4, .ref q5, .ref q6, .ref q7, .ref q8, .ref q9, .ref q10, .int 0, .int 0, .int 0])) :: (T ++ (q10, .inl (w.2.2.2.2, 4, .inr (.inr (.inr (.inr (va_up (va_up (fun _ => none) 0 (some q11)) 1 (some q12))))))) :: (B))).length (i := 2) hE (get_mid _ _ _ _ _) (app_get _ _ _) (by show ¬ _; decide) (set_mid _ _ _ _ _ _) dX7_init_148 ?_
  refine gb_iinc [some (.ref h), some (.int 3)] hE 3 dX7_init_149 rfl (by decide) (by decide) rfl ?_
  refine gb_goto 131 hE dX7_init_152 (by decide) ?_
  exact k q13 r13
set_option maxRecDepth 100000 in
theorem s7_10 {A : Program × Launch × Env × State} {C : MethodId × Array Value × List Frame × Method × Code} {w : BC} {b h : Nat} {Q : State → Prop} (T B : va_W) (q1 q2 q3 q4 q5 q6 q7 q8 q9 q10 q11 q12 q13 : Nat) (hE : OB iX7_init (A, C, w, b, rmC 2 52 1218)) (hn : C.2.2.2.1.name = "<init>")
    (k : ∀ (q14 : Nat) (r14 : Nat → Nat), GB iX7_init (A, C, w, b, rmC 2 52 1218) Q 52 1218 131 [some (.ref h), some (.int 4)] [] ((h, .inr (7, [.ref q1, .ref q2, .ref q3, .ref q4, .ref q5, .ref q6, .ref q7, .ref q8, .ref q9, .ref q10, .int 0, .int 0, .int 0])) :: (T ++ (q10, .inl (w.2.2.2.2, 4, .inr (.inr (.inr (.inr (va_up (va_up (va_up (va_up (fun _ => none) 0 (some q11)) 1 (some q12)) 2 (some q13)) 3 (some q14))))))) :: (B ++ chX5 w q14 r14)))) : GB iX7_init (A, C, w, b, rmC 2 52 1218) Q 50 1167 131 [some (.ref h), some (.int 3)] [] ((h, .inr (7, [.ref q1, .ref q2, .ref q3, .ref q4, .ref q5, .ref q6, .ref q7, .ref q8, .ref q9, .ref q10, .int 0, .int 0, .int 0])) :: (T ++ (q10, .inl (w.2.2.2.2, 4, .inr (.inr (.inr (.inr (va_up (va_up (va_up (fun _ => none) 0 (some q11)) 1 (some q12)) 2 (some q13))))))) :: (B))) := by
  refine gb_iload_n hE dX7_init_131 rfl ?_
  refine gb_iconst hE (4) dX7_init_132 (by decide) ?_
  refine gb_icmp_ge 155 hE dX7_init_133 (by decide) (fun hb => absurd hb (by decide)) (fun _ => ?_)
  refine gb_aload_n hE dX7_init_136 rfl ?_
  refine gb_get 0 hE (k := 9) (T := TX7) rfl rfl inX7 (by decide) wf_RX7_68 rfl dX7_init_137 ?_
  refine gb_iload_n hE dX7_init_140 rfl ?_
  refine gb_new (ci := 5) hE dfX5 tyX5 tyX5_ok rfl inX5 wc_RX7_66 wt_RX5 wz_RX5 dv_X5 (Nat.le_of_ble_eq_true rfl) (Nat.le_of_ble_eq_true rfl) dX7_init_141 (fun q14 => ?_)
  refine gb_dup hE dX7_init_144 rfl ?_
  refine gb_callN (As := []) hE mi_X5 wn_RX7_72 ⟨(Nat.le_of_ble_eq_true rfl), (Nat.le_of_ble_eq_true rfl)⟩ rfl rfl (Nat.le_of_ble_eq_true rfl) (Nat.le_of_ble_eq_true rfl) (Nat.le_of_ble_eq_true rfl) dX7_init_145 (cb_X5 ((h, .inr (7, [.ref q1, .ref q2, .ref q3, .ref q4, .ref q5, .ref q6, .ref q7, .ref q8, .ref q9, .ref q10, .int 0, .int 0, .int 0])) :: (T ++ (q10, .inl (w.2.2.2.2, 4, .inr (.inr (.inr (.inr (va_up (va_up (va_up (fun _ => none) 0 (some q11)) 1 (some q12)) 2 (some q13))))))) :: (B))) q14) (fun ws14 ⟨r14, e14⟩ => ?_)
  subst e14
  refine gb_ast ((h, .inr (7, [.ref q1, .ref q2, .ref q3, .ref q4, .ref q5, .ref q6, .ref q7, .ref q8, .ref q9, .ref q10, .int 0, .int 0, .int 0])) :: (T ++ (q10, .inl (w.2.2.2.2, 4, .inr (.inr (.inr (.inr (va_up (va_up (va_up (va_up (fun _ => none) 0 (some q11)) 1 (some q12)) 2 (some q13)) 3 (some q14))))))) :: (B ++ chX5 w q14 r14))) (T.length + 1) ((h, .inr (7, [.ref q1, .ref q2, .ref q3, .ref q4, .ref q5, .ref q6, .ref q7, .ref q8, .ref q9, .ref q10, .int 0, .int 0, .int 0])) :: (T ++ (q10, .inl (w.2.2.2.2, 4, .inr (.inr (.inr (.inr (va_up (va_up (va_up (fun _ => none) 0 (some q11)) 1 (some q12)) 2 (some q13))))))) :: (B))).length (i := 3) hE (get_mid _ _ _ _ _) (app_get _ _ _) (by show ¬ _; decide) (set_mid _ _ _ _ _ _) dX7_init_148 ?_
  refine gb_iinc [some (.ref h), some (.int 4)] hE 4 dX7_init_149 rfl (by decide) (by decide) rfl ?_
  refine gb_goto 131 hE dX7_init_152 (by decide) ?_
  exact k q14 r14
set_option maxRecDepth 100000 in
theorem s7_11 {A : Program × Launch × Env × State} {C : MethodId × Array Value × List Frame × Method × Code} {w : BC} {b h : Nat} {Q : State → Prop} (T B : va_W) (q1 q2 q3 q4 q5 q6 q7 q8 q9 q10 q11 q12 q13 q14 : Nat) (hE : OB iX7_init (A, C, w, b, rmC 2 52 1218)) (hn : C.2.2.2.1.name = "<init>")
    (k : GB iX7_init (A, C, w, b, rmC 2 52 1218) Q 52 1218 155 [some (.ref h), some (.int 4)] [] ((h, .inr (7, [.ref q1, .ref q2, .ref q3, .ref q4, .ref q5, .ref q6, .ref q7, .ref q8, .ref q9, .ref q10, .int 0, .int 0, .int 0])) :: (T ++ (q10, .inl (w.2.2.2.2, 4, .inr (.inr (.inr (.inr (va_up (va_up (va_up (va_up (fun _ => none) 0 (some q11)) 1 (some q12)) 2 (some q13)) 3 (some q14))))))) :: (B)))) : GB iX7_init (A, C, w, b, rmC 2 52 1218) Q 52 1218 131 [some (.ref h), some (.int 4)] [] ((h, .inr (7, [.ref q1, .ref q2, .ref q3, .ref q4, .ref q5, .ref q6, .ref q7, .ref q8, .ref q9, .ref q10, .int 0, .int 0, .int 0])) :: (T ++ (q10, .inl (w.2.2.2.2, 4, .inr (.inr (.inr (.inr (va_up (va_up (va_up (va_up (fun _ => none) 0 (some q11)) 1 (some q12)) 2 (some q13)) 3 (some q14))))))) :: (B))) := by
  refine gb_iload_n hE dX7_init_131 rfl ?_
  refine gb_iconst hE (4) dX7_init_132 (by decide) ?_
  refine gb_icmp_ge 155 hE dX7_init_133 (by decide) (fun _ => ?_) (fun hb => absurd (by decide) hb)
  exact k 
def chX7 (w : BC) (h : Nat) (q1 : Nat) (r1 : Nat → Nat) (q2 : Nat) (r2 : Nat → Nat) (q3 : Nat) (r3 : Nat → Nat) (q4 : Nat) (r4 : Nat → Nat) (q5 : Nat) (r5 : Nat → Nat) (q6 : Nat) (r6 : Nat → Nat) (q7 : Nat) (r7 : Nat → Nat) (q8 : Nat) (r8 : Nat → Nat) (q9 : Nat) (r9 : Nat → Nat) (q10 : Nat) (q11 : Nat) (r11 : Nat → Nat) (q12 : Nat) (r12 : Nat → Nat) (q13 : Nat) (r13 : Nat → Nat) (q14 : Nat) (r14 : Nat → Nat) : va_W := (h, .inr (7, [.ref q1, .ref q2, .ref q3, .ref q4, .ref q5, .ref q6, .ref q7, .ref q8, .ref q9, .ref q10, .int 0, .int 0, .int 0])) :: (([] ++ chX1 w 0 q1 r1 ++ chX1 w 1 q2 r2 ++ chX2 w q1 q2 q3 r3 ++ chX0 w q4 r4 ++ chX0 w q5 r5 ++ chX6 w q6 r6 ++ chX4 w q3 q7 r7 ++ chX4 w q3 q8 r8 ++ chX3 w q9 r9) ++ (q10, .inl (w.2.2.2.2, 4, .inr (.inr (.inr (.inr (va_up (va_up (va_up (va_up (fun _ => none) 0 (some q11)) 1 (some q12)) 2 (some q13)) 3 (some q14))))))) :: ([] ++ chX5 w q11 r11 ++ chX5 w q12 r12 ++ chX5 w q13 r13 ++ chX5 w q14 r14))
set_option maxRecDepth 100000 in
theorem cb_X7 {l : Launch} {w : BC} {b : Nat} (h : Nat) : CB l iX7_init (rmC 2 52 1218) w b [.ref h] [(h, .inr (7, dfX7))] (fun ws => ∃ (q1 : Nat) (r1 : Nat → Nat) (q2 : Nat) (r2 : Nat → Nat) (q3 : Nat) (r3 : Nat → Nat) (q4 : Nat) (r4 : Nat → Nat) (q5 : Nat) (r5 : Nat → Nat) (q6 : Nat) (r6 : Nat → Nat) (q7 : Nat) (r7 : Nat → Nat) (q8 : Nat) (r8 : Nat → Nat) (q9 : Nat) (r9 : Nat → Nat) (q10 : Nat) (q11 : Nat) (r11 : Nat → Nat) (q12 : Nat) (r12 : Nat → Nat) (q13 : Nat) (r13 : Nat → Nat) (q14 : Nat) (r14 : Nat → Nat), ws = chX7 w h q1 r1 q2 r2 q3 r3 q4 r4 q5 r5 q6 r6 q7 r7 q8 r8 q9 r9 q10 q11 r11 q12 r12 q13 r13 q14 r14) := by
  refine cb_of 1 (lv := [some (.ref h), none]) (by decide +kernel) rfl rfl (Nat.le_of_ble_eq_true rfl) rfl (fun M hl hM hE hr hn => ?_)
  obtain ⟨A, C, X⟩ := M
  have hM : X = (w, b, rmC 2 52 1218) := hM
  subst hM
  show GB _ _ _ 0 0 0 _ [] ((h, .inr (7, [.null, .null, .null, .null, .null, .null, .null, .null, .null, .null, .int 0, .int 0, .int 0])) :: [])
  refine s7_0 _ hE hn (fun q1 r1 q2 r2 => ?_)
  refine s7_1 _ _ _ hE hn (fun q3 r3 q4 r4 => ?_)
  refine s7_2 _ _ _ _ _ hE hn (fun q5 r5 q6 r6 => ?_)
  refine s7_3 _ _ _ _ _ _ _ hE hn (fun q7 r7 => ?_)
  refine s7_4 _ _ _ _ _ _ _ _ hE hn (fun q8 r8 => ?_)
  refine s7_5 _ _ _ _ _ _ _ _ _ hE hn (fun q9 r9 q10 => ?_)
  refine s7_6 _ _ _ _ _ _ _ _ _ _ _ _ hE hn ?_
  refine s7_7 _ _ _ _ _ _ _ _ _ _ _ _ hE hn (fun q11 r11 => ?_)
  refine s7_8 _ _ _ _ _ _ _ _ _ _ _ _ _ hE hn (fun q12 r12 => ?_)
  refine s7_9 _ _ _ _ _ _ _ _ _ _ _ _ _ _ hE hn (fun q13 r13 => ?_)
  refine s7_10 _ _ _ _ _ _ _ _ _ _ _ _ _ _ _ hE hn (fun q14 r14 => ?_)
  refine s7_11 _ _ _ _ _ _ _ _ _ _ _ _ _ _ _ _ hE hn ?_
  exact gb_ret hE hr ⟨q1, r1, q2, r2, q3, r3, q4, r4, q5, r5, q6, r6, q7, r7, q8, r8, q9, r9, q10, q11, r11, q12, r12, q13, r13, q14, r14, rfl⟩ rfl rfl dX7_init_155
