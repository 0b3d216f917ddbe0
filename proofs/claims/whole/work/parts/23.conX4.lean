/-! CONTRACTS. Printed by wip/whole/gen/mkall.py out of the Java text. -/
set_option maxHeartbeats 4000000 in
set_option maxRecDepth 100000 in
theorem c_X7_guard {l : Launch} {w : WC} {sixteenths_ : Int32} {z : Sg} {r0 : Int32} (hf : f_X7_guard sixteenths_ z = some r0) : CT false l iX7_guard w [.ref 0, .int sixteenths_] z (some (.int r0)) z := by
  refine ct_of 4 (lv := [some (.ref 0), some (.int sixteenths_), none, none, none, none]) (by decide +kernel) rfl (Nat.le_of_ble_eq_true rfl) rfl (fun M hl hw hE => ?_)
  subst hl
  subst hw
  unfold f_X7_guard at hf
  refine g_iload_n hE dX7_guard_0 rfl ?_
  refine g_bipush hE (17) dX7_guard_1 (by decide) ?_
  obtain ⟨r2, hc1, hf⟩ := b1_of hf
  refine g_callS2r hE ms_X7_outside wm_RX7_73 (by decide) (Nat.le_of_ble_eq_true rfl) dX7_guard_3 (c_X7_outside hc1) ?_
  refine g_if_eq 12 hE dX7_guard_6 (by decide) (fun h3 => ?_) (fun h3 => ?_)
  · replace hf := it_f hf (fun q => q h3)
    refine g_iconst hE (-1) dX7_guard_12 (by decide) ?_
    refine g_istore_n [some _, some _, some _, none, none, none] hE dX7_guard_13 (by decide) rfl ?_
    refine g_iconst hE (5) dX7_guard_14 (by decide) ?_
    refine g_istore_n [some _, some _, some _, some _, none, none] hE dX7_guard_15 (by decide) rfl ?_
    refine g_iconst hE (0) dX7_guard_16 (by decide) ?_
    refine g_istore [some _, some _, some _, some _, some _, none] hE dX7_guard_17 (by decide) rfl ?_
    obtain ⟨best_12, fewest_13, hx10, hf⟩ := b2_of hf
    have hJ11 : G false iX7_guard M (some (.int r0), z) 61 [some (.ref 0), some (.int sixteenths_), some (.int best_12), some (.int fewest_13), none, none] [] z := by
      refine g_iload_n hE dX7_guard_61 rfl ?_
      obtain rfl := so1 hf
      exact g_iret hE rfl dX7_guard_62
    clear hf
    have hl7 : ∀ (n9 : Nat) (best_4 : Int32) (fewest_5 : Int32) (sorts_6 : Int32), f_X7_guard_lp1 sixteenths_ z n9 best_4 fewest_5 sorts_6 = some (best_12, fewest_13) → G false iX7_guard M (some (.int r0), z) 19 [some (.ref 0), some (.int sixteenths_), some (.int best_4), some (.int fewest_5), some (.int sorts_6), none] [] z := by
      intro n9
      induction n9 with
      | zero => intro best_4 fewest_5 sorts_6 hf; cases hf
      | succ n9 ih8 =>
        intro best_4 fewest_5 sorts_6 hf
        rw [f_X7_guard_lp1] at hf
        refine g_iload hE dX7_guard_19 rfl ?_
        refine g_bipush hE (16) dX7_guard_21 (by decide) ?_
        refine g_icmp_ge 61 hE dX7_guard_23 (by decide) (fun h14 => ?_) (fun h14 => ?_)
        · replace hf := it_f hf (cv_ngt h14)
          obtain ⟨rfl, rfl⟩ := so2 hf
          exact g_wk [true, true, true, true, false, false] rfl hJ11
        · replace hf := it_t hf (cv_gt h14)
          refine g_iload hE dX7_guard_26 rfl ?_
          obtain ⟨r16, hc15, hf⟩ := b1_of hf
          refine g_callS1r hE ms_J6_bitCount_0f7a4 wm_RX7_210 (by decide) (Nat.le_of_ble_eq_true rfl) dX7_guard_28 (c_J6_bitCount_0f7a4 hc15) ?_
          refine g_istore [some _, some _, some _, some _, some _, some _] hE dX7_guard_31 (by decide) rfl ?_
          obtain ⟨best_19, fewest_20, hx17, hf⟩ := b2_of hf
          have hJ18 : G false iX7_guard M (some (.int r0), z) 55 [some (.ref 0), some (.int sixteenths_), some (.int best_19), some (.int fewest_20), some (.int sorts_6), some (.int r16)] [] z := by
            refine g_wk [true, true, true, true, true, false] rfl ?_
            refine g_iinc [some _, some _, some _, some _, some _, none] hE (sorts_6 + (1 : Int32)) dX7_guard_55 rfl rfl (by decide) rfl ?_
            refine g_goto 19 hE dX7_guard_58 (by decide) ?_
            exact (ih8 _ _ _ hf)
          replace hf := hx17
          clear hx17
          obtain ⟨q21, hx22, hf⟩ := b1_of hf
          have hT23 : q21 = true → G false iX7_guard M (some (.int r0), z) 49 [some (.ref 0), some (.int sixteenths_), some (.int best_4), some (.int fewest_5), some (.int sorts_6), some (.int r16)] [] z := by
            intro hq25
            replace hf := it_t hf hq25
            refine g_iload hE dX7_guard_49 rfl ?_
            refine g_istore_n [some _, some _, some _, some _, some _, some _] hE dX7_guard_51 (by decide) rfl ?_
            refine g_iload hE dX7_guard_52 rfl ?_
            refine g_istore_n [some _, some _, some _, some _, some _, some _] hE dX7_guard_54 (by decide) rfl ?_
            obtain ⟨rfl, rfl⟩ := so2 hf
            exact hJ18
          have hF24 : q21 = false → G false iX7_guard M (some (.int r0), z) 55 [some (.ref 0), some (.int sixteenths_), some (.int best_4), some (.int fewest_5), some (.int sorts_6), some (.int r16)] [] z := by
            intro hq25
            replace hf := it_f hf (by rw [hq25]; decide)
            obtain ⟨rfl, rfl⟩ := so2 hf
            exact hJ18
          replace hf := hx22
          clear hx22
          refine g_iload hE dX7_guard_33 rfl ?_
          refine g_iload_n hE dX7_guard_35 rfl ?_
          refine g_icmp_ge 55 hE dX7_guard_36 (by decide) (fun h26 => ?_) (fun h26 => ?_)
          · replace hf := it_f hf (cv_ngt h26)
            obtain rfl := so1 hf
            exact hF24 rfl
          · replace hf := it_t hf (cv_gt h26)
            refine g_aload_n hE dX7_guard_39 rfl ?_
            refine g_iload hE dX7_guard_40 rfl ?_
            refine g_iload_n hE dX7_guard_42 rfl ?_
            obtain ⟨r28, hc27, hf⟩ := b1_of hf
            refine g_callV2r hE mv_X7_guarded kX_0 rfl wm_RX7_234 (by decide) (Nat.le_of_ble_eq_true rfl) dX7_guard_43 (c_X7_guarded hc27) ?_
            refine g_if_eq 55 hE dX7_guard_46 (by decide) (fun h29 => ?_) (fun h29 => ?_)
            · replace hf := it_f hf (fun q => q h29)
              obtain rfl := so1 hf
              exact hF24 rfl
            · replace hf := it_t hf h29
              obtain rfl := so1 hf
              exact hT23 rfl
    exact hl7 _ _ _ _ hx10
  · replace hf := it_t hf h3
    refine g_bipush hE (-2) dX7_guard_9 (by decide) ?_
    obtain rfl := so1 hf
    exact g_iret hE rfl dX7_guard_11
set_option maxHeartbeats 4000000 in
set_option maxRecDepth 100000 in
theorem c_X2_wantedBy {l : Launch} {w : WC} {virtue_ : Int32} {z : Sg} {r0 : Int32} (hf : f_X2_wantedBy virtue_ z = some r0) : CT false l iX2_wantedBy w [.ref 9, .int virtue_] z (some (.int r0)) z := by
  refine ct_of 0 (lv := [some (.ref 9), some (.int virtue_)]) (by decide +kernel) rfl (Nat.le_of_ble_eq_true rfl) rfl (fun M hl hw hE => ?_)
  subst hl
  subst hw
  unfold f_X2_wantedBy at hf
  refine g_aload_n hE dX2_wantedBy_0 rfl ?_
  refine g_iload_n hE dX2_wantedBy_1 rfl ?_
  obtain ⟨r2, hc1, hf⟩ := b1_of hf
  refine g_callV1r hE mv_X2_claimantsFitting kX_9 rfl wm_RX2_41 (by decide) (Nat.le_of_ble_eq_true rfl) dX2_wantedBy_2 (c_X2_claimantsFitting hc1) ?_
  obtain ⟨r4, hc3, hf⟩ := b1_of hf
  refine g_callS1r hE ms_J6_bitCount_0f7a4 wm_RX2_45 (by decide) (Nat.le_of_ble_eq_true rfl) dX2_wantedBy_5 (c_J6_bitCount_0f7a4 hc3) ?_
  obtain rfl := so1 hf
  exact g_iret hE rfl dX2_wantedBy_8
set_option maxHeartbeats 4000000 in
set_option maxRecDepth 100000 in
theorem c_X7_shelfPlace {l : Launch} {w : WC} {virtue_ : Int32} {shelved_ : Int32} {z : Sg} {r0 : Int32} (hf : f_X7_shelfPlace virtue_ shelved_ z = some r0) : CT false l iX7_shelfPlace w [.ref 0, .int virtue_, .int shelved_] z (some (.int r0)) z := by
  refine ct_of 4 (lv := [some (.ref 0), some (.int virtue_), some (.int shelved_), none, none, none, none]) (by decide +kernel) rfl (Nat.le_of_ble_eq_true rfl) rfl (fun M hl hw hE => ?_)
  subst hl
  subst hw
  unfold f_X7_shelfPlace at hf
  refine g_aload_n hE dX7_shelfPlace_0 rfl ?_
  refine gtX7_2 hE kX_0 wf_RX7_26 dX7_shelfPlace_1 ?_
  refine g_iload_n hE dX7_shelfPlace_4 rfl ?_
  obtain ⟨r2, hc1, hf⟩ := b1_of hf
  refine g_callV1r hE mv_X2_wantedBy kX_9 rfl wm_RX7_243 (by decide) (Nat.le_of_ble_eq_true rfl) dX7_shelfPlace_5 (c_X2_wantedBy hc1) ?_
  refine g_istore_n [some _, some _, some _, some _, none, none, none] hE dX7_shelfPlace_8 (by decide) rfl ?_
  refine g_iconst hE (0) dX7_shelfPlace_9 (by decide) ?_
  refine g_istore [some _, some _, some _, some _, some _, none, none] hE dX7_shelfPlace_10 (by decide) rfl ?_
  refine g_iconst hE (0) dX7_shelfPlace_12 (by decide) ?_
  refine g_istore [some _, some _, some _, some _, some _, some _, none] hE dX7_shelfPlace_13 (by decide) rfl ?_
  obtain ⟨place_10, hx8, hf⟩ := b1_of hf
  have hJ9 : G false iX7_shelfPlace M (some (.int r0), z) 59 [some (.ref 0), some (.int virtue_), some (.int shelved_), some (.int r2), some (.int place_10), none, none] [] z := by
    refine g_iload hE dX7_shelfPlace_59 rfl ?_
    obtain rfl := so1 hf
    exact g_iret hE rfl dX7_shelfPlace_61
  clear hf
  have hl5 : ∀ (n7 : Nat) (place_3 : Int32) (v_4 : Int32), f_X7_shelfPlace_lp1 virtue_ shelved_ r2 z n7 place_3 v_4 = some place_10 → G false iX7_shelfPlace M (some (.int r0), z) 15 [some (.ref 0), some (.int virtue_), some (.int shelved_), some (.int r2), some (.int place_3), some (.int v_4), none] [] z := by
    intro n7
    induction n7 with
    | zero => intro place_3 v_4 hf; cases hf
    | succ n7 ih6 =>
      intro place_3 v_4 hf
      rw [f_X7_shelfPlace_lp1] at hf
      refine g_iload hE dX7_shelfPlace_15 rfl ?_
      refine g_iload_n hE dX7_shelfPlace_17 rfl ?_
      refine g_icmp_ge 59 hE dX7_shelfPlace_18 (by decide) (fun h11 => ?_) (fun h11 => ?_)
      · replace hf := it_f hf (cv_ngt h11)
        obtain rfl := so1 hf
        exact g_wk [true, true, true, true, true, false, false] rfl hJ9
      · replace hf := it_t hf (cv_gt h11)
        refine g_aload_n hE dX7_shelfPlace_21 rfl ?_
        refine gtX7_2 hE kX_0 wf_RX7_26 dX7_shelfPlace_22 ?_
        refine g_iload hE dX7_shelfPlace_25 rfl ?_
        obtain ⟨r13, hc12, hf⟩ := b1_of hf
        refine g_callV1r hE mv_X2_wantedBy kX_9 rfl wm_RX7_243 (by decide) (Nat.le_of_ble_eq_true rfl) dX7_shelfPlace_27 (c_X2_wantedBy hc12) ?_
        refine g_istore [some _, some _, some _, some _, some _, some _, some _] hE dX7_shelfPlace_30 (by decide) rfl ?_
        obtain ⟨place_16, hx14, hf⟩ := b1_of hf
        have hJ15 : G false iX7_shelfPlace M (some (.int r0), z) 53 [some (.ref 0), some (.int virtue_), some (.int shelved_), some (.int r2), some (.int place_16), some (.int v_4), some (.int r13)] [] z := by
          refine g_wk [true, true, true, true, true, true, false] rfl ?_
          refine g_iinc [some _, some _, some _, some _, some _, some _, none] hE (v_4 + (1 : Int32)) dX7_shelfPlace_53 rfl rfl (by decide) rfl ?_
          refine g_goto 15 hE dX7_shelfPlace_56 (by decide) ?_
          exact (ih6 _ _ hf)
        replace hf := hx14
        clear hx14
        obtain ⟨q17, hx18, hf⟩ := b1_of hf
        have hT19 : q17 = true → G false iX7_shelfPlace M (some (.int r0), z) 50 [some (.ref 0), some (.int virtue_), some (.int shelved_), some (.int r2), some (.int place_3), some (.int v_4), some (.int r13)] [] z := by
          intro hq21
          replace hf := it_t hf hq21
          refine g_iinc [some _, some _, some _, some _, some _, some _, some _] hE (place_3 + (1 : Int32)) dX7_shelfPlace_50 rfl rfl (by decide) rfl ?_
          obtain rfl := so1 hf
          exact hJ15
        have hF20 : q17 = false → G false iX7_shelfPlace M (some (.int r0), z) 53 [some (.ref 0), some (.int virtue_), some (.int shelved_), some (.int r2), some (.int place_3), some (.int v_4), some (.int r13)] [] z := by
          intro hq21
          replace hf := it_f hf (by rw [hq21]; decide)
          obtain rfl := so1 hf
          exact hJ15
        replace hf := hx18
        clear hx18
        refine g_iload hE dX7_shelfPlace_32 rfl ?_
        refine g_iload_n hE dX7_shelfPlace_34 rfl ?_
        refine g_icmp_gt 50 hE dX7_shelfPlace_35 (by decide) (fun h22 => ?_) (fun h22 => ?_)
        · replace hf := it_t hf h22
          obtain rfl := so1 hf
          exact hT19 rfl
        · replace hf := it_f hf h22
          refine g_iload hE dX7_shelfPlace_38 rfl ?_
          refine g_iload_n hE dX7_shelfPlace_40 rfl ?_
          refine g_icmp_ne 53 hE dX7_shelfPlace_41 (by decide) (fun h23 => ?_) (fun h23 => ?_)
          · replace hf := it_f hf h23
            obtain rfl := so1 hf
            exact hF20 rfl
          · replace hf := it_t hf h23
            refine g_iload hE dX7_shelfPlace_44 rfl ?_
            refine g_iload_n hE dX7_shelfPlace_46 rfl ?_
            refine g_icmp_ge 53 hE dX7_shelfPlace_47 (by decide) (fun h24 => ?_) (fun h24 => ?_)
            · replace hf := it_f hf (cv_ngt h24)
              obtain rfl := so1 hf
              exact hF20 rfl
            · replace hf := it_t hf (cv_gt h24)
              obtain rfl := so1 hf
              exact hT19 rfl
  exact hl5 _ _ _ hx8
set_option maxHeartbeats 4000000 in
set_option maxRecDepth 100000 in
theorem c_X7_shelves {l : Launch} {w : WC} {i_ : Int32} {z : Sg} {r0 : Int32} (hf : f_X7_shelves i_ z = some r0) : CT false l iX7_shelves w [.ref 0, .int i_] z (some (.int r0)) z := by
  refine ct_of 4 (lv := [some (.ref 0), some (.int i_), none, none, none, none]) (by decide +kernel) rfl (Nat.le_of_ble_eq_true rfl) rfl (fun M hl hw hE => ?_)
  subst hl
  subst hw
  unfold f_X7_shelves at hf
  obtain ⟨q1, hx2, hf⟩ := b1_of hf
  have hT3 : q1 = true → G false iX7_shelves M (some (.int r0), z) 11 [some (.ref 0), some (.int i_), none, none, none, none] [] z := by
    intro hq5
    replace hf := it_t hf hq5
    refine g_bipush hE (-2) dX7_shelves_11 (by decide) ?_
    obtain rfl := so1 hf
    exact g_iret hE rfl dX7_shelves_13
  have hF4 : q1 = false → G false iX7_shelves M (some (.int r0), z) 14 [some (.ref 0), some (.int i_), none, none, none, none] [] z := by
    intro hq5
    replace hf := it_f hf (by rw [hq5]; decide)
    refine g_aload_n hE dX7_shelves_14 rfl ?_
    refine gtX7_0 hE kX_0 wf_RX7_12 dX7_shelves_15 ?_
    refine gtX1_5 hE kX_1 wf_RX7_177 dX7_shelves_18 ?_
    refine g_bipush hE (6) dX7_shelves_21 (by decide) ?_
    refine g_mmin hE wm_RX7_237 (by decide) (Nat.le_of_ble_eq_true rfl) dX7_shelves_23 ?_
    refine g_istore_n [some _, some _, some _, none, none, none] hE dX7_shelves_26 (by decide) rfl ?_
    refine g_iconst hE (0) dX7_shelves_27 (by decide) ?_
    refine g_istore_n [some _, some _, some _, some _, none, none] hE dX7_shelves_28 (by decide) rfl ?_
    refine g_iconst hE (0) dX7_shelves_29 (by decide) ?_
    refine g_istore [some _, some _, some _, some _, some _, none] hE dX7_shelves_30 (by decide) rfl ?_
    have hl8 : ∀ (n10 : Nat) (steps_6 : Int32) (v_7 : Int32), f_X7_shelves_lp1 i_ (if (6 : Int32) < (rI z 1 5) then (6 : Int32) else (rI z 1 5)) z n10 steps_6 v_7 = some r0 → G false iX7_shelves M (some (.int r0), z) 32 [some (.ref 0), some (.int i_), some (.int (if (6 : Int32) < (rI z 1 5) then (6 : Int32) else (rI z 1 5))), some (.int steps_6), some (.int v_7), none] [] z := by
      intro n10
      induction n10 with
      | zero => intro steps_6 v_7 hf; cases hf
      | succ n10 ih9 =>
        intro steps_6 v_7 hf
        rw [f_X7_shelves_lp1] at hf
        refine g_iload hE dX7_shelves_32 rfl ?_
        refine g_iload_n hE dX7_shelves_34 rfl ?_
        refine g_icmp_ge 79 hE dX7_shelves_35 (by decide) (fun h11 => ?_) (fun h11 => ?_)
        · replace hf := it_f hf (cv_ngt h11)
          refine g_wk [true, true, true, true, false, false] rfl ?_
          obtain ⟨x12, hx13, hf⟩ := b1_of hf
          have hJ14 : G false iX7_shelves M (some (.int r0), z) 89 [some (.ref 0), some (.int i_), some (.int (if (6 : Int32) < (rI z 1 5) then (6 : Int32) else (rI z 1 5))), some (.int steps_6), none, none] [.int x12] z := by
            obtain rfl := so1 hf
            exact g_iret hE rfl dX7_shelves_89
          replace hf := hx13
          clear hx13
          refine g_iload_n hE dX7_shelves_79 rfl ?_
          refine g_iconst hE (-1) dX7_shelves_80 (by decide) ?_
          refine g_icmp_ne 88 hE dX7_shelves_81 (by decide) (fun h15 => ?_) (fun h15 => ?_)
          · replace hf := it_f hf h15
            refine g_iconst hE (-1) dX7_shelves_88 (by decide) ?_
            obtain rfl := so1 hf
            exact hJ14
          · replace hf := it_t hf h15
            refine g_iload_n hE dX7_shelves_84 rfl ?_
            refine g_goto 89 hE dX7_shelves_85 (by decide) ?_
            obtain rfl := so1 hf
            exact hJ14
        · replace hf := it_t hf (cv_gt h11)
          refine g_aload_n hE dX7_shelves_38 rfl ?_
          refine g_iload hE dX7_shelves_39 rfl ?_
          refine g_iload_n hE dX7_shelves_41 rfl ?_
          obtain ⟨r17, hc16, hf⟩ := b1_of hf
          refine g_callV2r hE mv_X7_shelfPlace kX_0 rfl wm_RX7_240 (by decide) (Nat.le_of_ble_eq_true rfl) dX7_shelves_42 (c_X7_shelfPlace hc16) ?_
          refine g_istore [some _, some _, some _, some _, some _, some _] hE dX7_shelves_45 (by decide) rfl ?_
          refine g_iload hE dX7_shelves_47 rfl ?_
          refine g_iload_n hE dX7_shelves_49 rfl ?_
          refine g_icmp_ne 56 hE dX7_shelves_50 (by decide) (fun h18 => ?_) (fun h18 => ?_)
          · replace hf := it_f hf h18
            refine g_iload_n hE dX7_shelves_56 rfl ?_
            refine g_iload hE dX7_shelves_57 rfl ?_
            refine g_iconst hE (1) dX7_shelves_59 (by decide) ?_
            refine g_iadd hE dX7_shelves_60 ?_
            refine g_aload_n hE dX7_shelves_61 rfl ?_
            refine gtX7_2 hE kX_0 wf_RX7_26 dX7_shelves_62 ?_
            refine g_iload hE dX7_shelves_65 rfl ?_
            obtain ⟨r20, hc19, hf⟩ := b1_of hf
            refine g_callV1r hE mv_X2_wantedBy kX_9 rfl wm_RX7_243 (by decide) (Nat.le_of_ble_eq_true rfl) dX7_shelves_67 (c_X2_wantedBy hc19) ?_
            refine g_imul hE dX7_shelves_70 ?_
            refine g_iadd hE dX7_shelves_71 ?_
            refine g_istore_n [some _, some _, some _, some _, some _, some _] hE dX7_shelves_72 (by decide) rfl ?_
            refine g_wk [true, true, true, true, true, false] rfl ?_
            refine g_iinc [some _, some _, some _, some _, some _, none] hE (v_7 + (1 : Int32)) dX7_shelves_73 rfl rfl (by decide) rfl ?_
            refine g_goto 32 hE dX7_shelves_76 (by decide) ?_
            exact (ih9 _ _ hf)
          · replace hf := it_t hf h18
            refine g_iload hE dX7_shelves_53 rfl ?_
            obtain rfl := so1 hf
            exact g_iret hE rfl dX7_shelves_55
    exact hl8 _ _ _ hf
  replace hf := hx2
  clear hx2
  refine g_iload_n hE dX7_shelves_0 rfl ?_
  refine g_iconst hE (-1) dX7_shelves_1 (by decide) ?_
  refine g_icmp_lt 11 hE dX7_shelves_2 (by decide) (fun h21 => ?_) (fun h21 => ?_)
  · replace hf := it_t hf h21
    obtain rfl := so1 hf
    exact hT3 rfl
  · replace hf := it_f hf h21
    refine g_iload_n hE dX7_shelves_5 rfl ?_
    refine g_bipush hE (6) dX7_shelves_6 (by decide) ?_
    refine g_icmp_lt 14 hE dX7_shelves_8 (by decide) (fun h22 => ?_) (fun h22 => ?_)
    · replace hf := it_f hf (cv_nge h22)
      obtain rfl := so1 hf
      exact hF4 rfl
    · replace hf := it_t hf (cv_ge h22)
      obtain rfl := so1 hf
      exact hT3 rfl
set_option maxHeartbeats 4000000 in
set_option maxRecDepth 100000 in
theorem c_X7_together {l : Launch} {w : WC} {i_ : Int32} {z : Sg} {r0 : Int32} {z0 : Sg} (hf : f_X7_together i_ z = some (r0, z0)) : CT false l iX7_together w [.ref 0, .int i_] z (some (.int r0)) z0 := by
  refine ct_of 2 (lv := [some (.ref 0), some (.int i_), none, none]) (by decide +kernel) rfl (Nat.le_of_ble_eq_true rfl) rfl (fun M hl hw hE => ?_)
  subst hl
  subst hw
  unfold f_X7_together at hf
  obtain ⟨q1, hx2, hf⟩ := b1_of hf
  have hT3 : q1 = true → G false iX7_together M (some (.int r0), z0) 11 [some (.ref 0), some (.int i_), none, none] [] z := by
    intro hq5
    replace hf := it_t hf hq5
    refine g_bipush hE (-2) dX7_together_11 (by decide) ?_
    obtain ⟨rfl, rfl⟩ := so2 hf
    exact g_iret hE rfl dX7_together_13
  have hF4 : q1 = false → G false iX7_together M (some (.int r0), z0) 14 [some (.ref 0), some (.int i_), none, none] [] z := by
    intro hq5
    replace hf := it_f hf (by rw [hq5]; decide)
    refine g_aload_n hE dX7_together_14 rfl ?_
    obtain ⟨r8, z7, hc6, hf⟩ := b2_of hf
    refine g_callV0r hE mv_X7_bestRows kX_0 rfl wm_RX7_189 (by decide) (Nat.le_of_ble_eq_true rfl) dX7_together_15 (c_X7_bestRows hc6) ?_
    obtain ⟨hk9, hf⟩ := ck_of hf
    refine gtX3_2 hE hk9 wf_RX7_246 dX7_together_18 ?_
    refine g_lstore_n [some _, some _, some _, none] hE dX7_together_21 (by decide) rfl ?_
    obtain ⟨x10, hx11, hf⟩ := b1_of hf
    have hJ12 : G false iX7_together M (some (.int r0), z0) 39 [some (.ref 0), some (.int i_), some (.long (rJ z7 r8 2)), none] [.int x10] z7 := by
      obtain ⟨rfl, rfl⟩ := so2 hf
      exact g_iret hE rfl dX7_together_39
    replace hf := hx11
    clear hx11
    refine g_iload_n hE dX7_together_22 rfl ?_
    refine g_iconst hE (-1) dX7_together_23 (by decide) ?_
    refine g_icmp_ne 34 hE dX7_together_24 (by decide) (fun h13 => ?_) (fun h13 => ?_)
    · replace hf := it_f hf h13
      refine g_lload_n hE dX7_together_34 rfl ?_
      refine g_iload_n hE dX7_together_35 rfl ?_
      obtain ⟨r15, hc14, hf⟩ := b1_of hf
      refine g_callS2r hE ms_X3_otherOf wm_RX7_203 (by decide) (Nat.le_of_ble_eq_true rfl) dX7_together_36 (c_X3_otherOf hc14) ?_
      obtain rfl := so1 hf
      exact hJ12
    · replace hf := it_t hf h13
      refine g_lload_n hE dX7_together_27 rfl ?_
      obtain ⟨r17, hc16, hf⟩ := b1_of hf
      refine g_callS1r hE ms_X3_countOf wm_RX7_196 (by decide) (Nat.le_of_ble_eq_true rfl) dX7_together_28 (c_X3_countOf hc16) ?_
      refine g_goto 39 hE dX7_together_31 (by decide) ?_
      obtain rfl := so1 hf
      exact hJ12
  replace hf := hx2
  clear hx2
  refine g_iload_n hE dX7_together_0 rfl ?_
  refine g_iconst hE (-1) dX7_together_1 (by decide) ?_
  refine g_icmp_lt 11 hE dX7_together_2 (by decide) (fun h18 => ?_) (fun h18 => ?_)
  · replace hf := it_t hf h18
    obtain rfl := so1 hf
    exact hT3 rfl
  · replace hf := it_f hf h18
    refine g_iload_n hE dX7_together_5 rfl ?_
    refine g_bipush hE (8) dX7_together_6 (by decide) ?_
    refine g_icmp_lt 14 hE dX7_together_8 (by decide) (fun h19 => ?_) (fun h19 => ?_)
    · replace hf := it_f hf (cv_nge h19)
      obtain rfl := so1 hf
      exact hF4 rfl
    · replace hf := it_t hf (cv_ge h19)
      obtain rfl := so1 hf
      exact hT3 rfl
set_option maxHeartbeats 4000000 in
set_option maxRecDepth 100000 in
theorem c_X6_add {l : Launch} {w : WC} {inWeek_ : Int32} {number_ : Int32} {is_ : Int32} {z : Sg} {r0 : Int32} {z0 : Sg} (hf : f_X6_add inWeek_ number_ is_ z = some (r0, z0)) : CT false l iX6_add w [.ref 16, .int inWeek_, .int number_, .int is_] z (some (.int r0)) z0 := by
  refine ct_of 0 (lv := [some (.ref 16), some (.int inWeek_), some (.int number_), some (.int is_)]) (by decide +kernel) rfl (Nat.le_of_ble_eq_true rfl) rfl (fun M hl hw hE => ?_)
  subst hl
  subst hw
  unfold f_X6_add at hf
  obtain ⟨q1, hx2, hf⟩ := b1_of hf
  have hT3 : q1 = true → G false iX6_add M (some (.int r0), z0) 26 [some (.ref 16), some (.int inWeek_), some (.int number_), some (.int is_)] [] z := by
    intro hq5
    replace hf := it_t hf hq5
    refine g_bipush hE (-2) dX6_add_26 (by decide) ?_
    obtain ⟨rfl, rfl⟩ := so2 hf
    exact g_iret hE rfl dX6_add_28
  have hF4 : q1 = false → G false iX6_add M (some (.int r0), z0) 29 [some (.ref 16), some (.int inWeek_), some (.int number_), some (.int is_)] [] z := by
    intro hq5
    replace hf := it_f hf (by rw [hq5]; decide)
    refine g_aload_n hE dX6_add_29 rfl ?_
    refine gtX6_3 hE kX_16 wf_RX6_25 dX6_add_30 ?_
    refine g_bipush hE (8) dX6_add_33 (by decide) ?_
    refine g_icmp_lt 41 hE dX6_add_35 (by decide) (fun h6 => ?_) (fun h6 => ?_)
    · replace hf := it_f hf (cv_nge h6)
      refine g_aload_n hE dX6_add_41 rfl ?_
      refine gtX6_0 hE kX_16 wf_RX6_11 dX6_add_42 ?_
      show G false iX6_add M (some (.int r0), z0) 45 [some (.ref 16), some (.int inWeek_), some (.int number_), some (.int is_)] [.ref 17] z
      refine g_aload_n hE dX6_add_45 rfl ?_
      refine gtX6_3 hE kX_16 wf_RX6_25 dX6_add_46 ?_
      refine g_iload_n hE dX6_add_49 rfl ?_
      obtain ⟨h7, hf⟩ := ck_of hf
      refine g_iast hE kX_17 h7 dX6_add_50 ?_
      refine g_aload_n hE dX6_add_51 rfl ?_
      refine gtX6_1 hE kX_16 wf_RX6_15 dX6_add_52 ?_
      show G false iX6_add M (some (.int r0), z0) 55 [some (.ref 16), some (.int inWeek_), some (.int number_), some (.int is_)] [.ref 18] (wI z 17 (ix (rI z 16 3)) inWeek_)
      refine g_aload_n hE dX6_add_55 rfl ?_
      refine gtX6_3 hE kX_16 wf_RX6_25 dX6_add_56 ?_
      refine g_iload_n hE dX6_add_59 rfl ?_
      obtain ⟨h8, hf⟩ := ck_of hf
      refine g_iast hE kX_18 h8 dX6_add_60 ?_
      refine g_aload_n hE dX6_add_61 rfl ?_
      refine gtX6_2 hE kX_16 wf_RX6_18 dX6_add_62 ?_
      show G false iX6_add M (some (.int r0), z0) 65 [some (.ref 16), some (.int inWeek_), some (.int number_), some (.int is_)] [.ref 19] (wI (wI z 17 (ix (rI z 16 3)) inWeek_) 18 (ix (rI (wI z 17 (ix (rI z 16 3)) inWeek_) 16 3)) number_)
      refine g_aload_n hE dX6_add_65 rfl ?_
      refine gtX6_3 hE kX_16 wf_RX6_25 dX6_add_66 ?_
      refine g_iload_n hE dX6_add_69 rfl ?_
      obtain ⟨h9, hf⟩ := ck_of hf
      refine g_iast hE kX_19 h9 dX6_add_70 ?_
      refine g_aload_n hE dX6_add_71 rfl ?_
      refine g_dup hE dX6_add_72 rfl ?_
      refine gtX6_3 hE kX_16 wf_RX6_25 dX6_add_73 ?_
      refine g_iconst hE (1) dX6_add_76 (by decide) ?_
      refine g_iadd hE dX6_add_77 ?_
      refine ptX6_3 hE kX_16 wf_RX6_25 dX6_add_78 ?_
      refine g_aload_n hE dX6_add_81 rfl ?_
      refine gtX6_3 hE kX_16 wf_RX6_25 dX6_add_82 ?_
      obtain ⟨rfl, rfl⟩ := so2 hf
      exact g_iret hE rfl dX6_add_85
    · replace hf := it_t hf (cv_ge h6)
      refine g_bipush hE (-4) dX6_add_38 (by decide) ?_
      obtain ⟨rfl, rfl⟩ := so2 hf
      exact g_iret hE rfl dX6_add_40
  replace hf := hx2
  clear hx2
  refine g_iload_n hE dX6_add_0 rfl ?_
  refine g_bipush hE (40) dX6_add_1 (by decide) ?_
  obtain ⟨r11, hc10, hf⟩ := b1_of hf
  refine g_callN2r hE ms_X7_outside wn_RX6_21 (by decide) (Nat.le_of_ble_eq_true rfl) dX6_add_3 (c_X7_outside hc10) ?_
  refine g_if_ne 26 hE dX6_add_6 (by decide) (fun h12 => ?_) (fun h12 => ?_)
  · replace hf := it_t hf h12
    obtain rfl := so1 hf
    exact hT3 rfl
  · replace hf := it_f hf (fun q => q h12)
    refine g_iload_n hE dX6_add_9 rfl ?_
    refine g_bipush hE (8) dX6_add_10 (by decide) ?_
    obtain ⟨r14, hc13, hf⟩ := b1_of hf
    refine g_callN2r hE ms_X7_outside wn_RX6_21 (by decide) (Nat.le_of_ble_eq_true rfl) dX6_add_12 (c_X7_outside hc13) ?_
    refine g_if_ne 26 hE dX6_add_15 (by decide) (fun h15 => ?_) (fun h15 => ?_)
    · replace hf := it_t hf h15
      obtain rfl := so1 hf
      exact hT3 rfl
    · replace hf := it_f hf (fun q => q h15)
      refine g_iload_n hE dX6_add_18 rfl ?_
      refine g_iconst hE (2) dX6_add_19 (by decide) ?_
      obtain ⟨r17, hc16, hf⟩ := b1_of hf
      refine g_callN2r hE ms_X7_outside wn_RX6_21 (by decide) (Nat.le_of_ble_eq_true rfl) dX6_add_20 (c_X7_outside hc16) ?_
      refine g_if_eq 29 hE dX6_add_23 (by decide) (fun h18 => ?_) (fun h18 => ?_)
      · replace hf := it_f hf (fun q => q h18)
        obtain rfl := so1 hf
        exact hF4 rfl
      · replace hf := it_t hf h18
        obtain rfl := so1 hf
        exact hT3 rfl
set_option maxHeartbeats 4000000 in
set_option maxRecDepth 100000 in
theorem c_X7_seen {l : Launch} {w : WC} {week_ : Int32} {virtue_ : Int32} {is_ : Int32} {z : Sg} {r0 : Int32} {z0 : Sg} (hf : f_X7_seen week_ virtue_ is_ z = some (r0, z0)) : CT false l iX7_seen w [.ref 0, .int week_, .int virtue_, .int is_] z (some (.int r0)) z0 := by
  refine ct_of 0 (lv := [some (.ref 0), some (.int week_), some (.int virtue_), some (.int is_)]) (by decide +kernel) rfl (Nat.le_of_ble_eq_true rfl) rfl (fun M hl hw hE => ?_)
  subst hl
  subst hw
  unfold f_X7_seen at hf
  refine g_aload_n hE dX7_seen_0 rfl ?_
  refine gtX7_5 hE kX_0 wf_RX7_43 dX7_seen_1 ?_
  refine g_iload_n hE dX7_seen_4 rfl ?_
  refine g_iload_n hE dX7_seen_5 rfl ?_
  refine g_iload_n hE dX7_seen_6 rfl ?_
  obtain ⟨r3, z2, hc1, hf⟩ := b2_of hf
  refine g_callV3r hE mv_X6_add kX_16 rfl wm_RX7_249 (by decide) (Nat.le_of_ble_eq_true rfl) dX7_seen_7 (c_X6_add hc1) ?_
  obtain ⟨rfl, rfl⟩ := so2 hf
  exact g_iret hE rfl dX7_seen_10
set_option maxHeartbeats 4000000 in
set_option maxRecDepth 100000 in
theorem c_X7_forget {l : Launch} {w : WC} {z : Sg} {r0 : Int32} {z0 : Sg} (hf : f_X7_forget z = some (r0, z0)) : CT false l iX7_forget w [.ref 0] z (some (.int r0)) z0 := by
  refine ct_of 1 (lv := [some (.ref 0), none]) (by decide +kernel) rfl (Nat.le_of_ble_eq_true rfl) rfl (fun M hl hw hE => ?_)
  subst hl
  subst hw
  unfold f_X7_forget at hf
  refine g_aload_n hE dX7_forget_0 rfl ?_
  refine gtX7_5 hE kX_0 wf_RX7_43 dX7_forget_1 ?_
  refine gtX6_3 hE kX_16 wf_RX7_252 dX7_forget_4 ?_
  refine g_istore_n [some _, some _] hE dX7_forget_7 (by decide) rfl ?_
  refine g_aload_n hE dX7_forget_8 rfl ?_
  refine gtX7_5 hE kX_0 wf_RX7_43 dX7_forget_9 ?_
  refine g_iconst hE (0) dX7_forget_12 (by decide) ?_
  refine ptX6_3 hE kX_16 wf_RX7_252 dX7_forget_13 ?_
  refine g_iload_n hE dX7_forget_16 rfl ?_
  obtain ⟨rfl, rfl⟩ := so2 hf
  exact g_iret hE rfl dX7_forget_17
set_option maxHeartbeats 4000000 in
set_option maxRecDepth 100000 in
theorem c_X6_agreeWith {l : Launch} {w : WC} {shelfBehind_ : Nat} {z : Sg} {r0 : Int32} (hk_shelfBehind : kd false shelfBehind_ = (1, 40, [])) (hf : f_X6_agreeWith shelfBehind_ z = some r0) : CT false l iX6_agreeWith w [.ref 16, .ref shelfBehind_] z (some (.int r0)) z := by
  refine ct_of 1 (lv := [some (.ref 16), some (.ref shelfBehind_), none]) (by decide +kernel) rfl (Nat.le_of_ble_eq_true rfl) rfl (fun M hl hw hE => ?_)
  subst hl
  subst hw
  unfold f_X6_agreeWith at hf
  refine g_iconst hE (0) dX6_agreeWith_0 (by decide) ?_
  refine g_istore_n [some _, some _, some _] hE dX6_agreeWith_1 (by decide) rfl ?_
  have hl2 : ∀ (n4 : Nat) (i_1 : Int32), f_X6_agreeWith_lp1 shelfBehind_ z n4 i_1 = some r0 → G false iX6_agreeWith M (some (.int r0), z) 2 [some (.ref 16), some (.ref shelfBehind_), some (.int i_1)] [] z := by
    intro n4
    induction n4 with
    | zero => intro i_1 hf; cases hf
    | succ n4 ih3 =>
      intro i_1 hf
      rw [f_X6_agreeWith_lp1] at hf
      refine g_iload_n hE dX6_agreeWith_2 rfl ?_
      refine g_aload_n hE dX6_agreeWith_3 rfl ?_
      refine gtX6_3 hE kX_16 wf_RX6_25 dX6_agreeWith_4 ?_
      refine g_icmp_ge 44 hE dX6_agreeWith_7 (by decide) (fun h5 => ?_) (fun h5 => ?_)
      · replace hf := it_f hf (cv_ngt h5)
        refine g_wk [true, true, false] rfl ?_
        refine g_iconst hE (1) dX6_agreeWith_44 (by decide) ?_
        obtain ⟨h6, hf⟩ := ck_of hf
        obtain rfl := so1 hf
        exact g_zret hE rfl (bz_nar h6) dX6_agreeWith_45
      · replace hf := it_t hf (cv_gt h5)
        refine g_aload_n hE dX6_agreeWith_10 rfl ?_
        refine g_aload_n hE dX6_agreeWith_11 rfl ?_
        refine gtX6_0 hE kX_16 wf_RX6_11 dX6_agreeWith_12 ?_
        show G false iX6_agreeWith M (some (.int r0), z) 15 [some (.ref 16), some (.ref shelfBehind_), some (.int i_1)] [.ref 17, .ref shelfBehind_] z
        refine g_iload_n hE dX6_agreeWith_15 rfl ?_
        obtain ⟨h7, hf⟩ := ck_of hf
        refine g_iald hE kX_17 h7 dX6_agreeWith_16 ?_
        obtain ⟨h8, hf⟩ := ck_of hf
        refine g_iald hE hk_shelfBehind h8 dX6_agreeWith_17 ?_
        refine g_aload_n hE dX6_agreeWith_18 rfl ?_
        refine gtX6_1 hE kX_16 wf_RX6_15 dX6_agreeWith_19 ?_
        show G false iX6_agreeWith M (some (.int r0), z) 22 [some (.ref 16), some (.ref shelfBehind_), some (.int i_1)] [.ref 18, .int (rI z shelfBehind_ (ix (rI z 17 (ix i_1))))] z
        refine g_iload_n hE dX6_agreeWith_22 rfl ?_
        obtain ⟨h9, hf⟩ := ck_of hf
        refine g_iald hE kX_18 h9 dX6_agreeWith_23 ?_
        refine g_ishr hE dX6_agreeWith_24 ?_
        refine g_iconst hE (1) dX6_agreeWith_25 (by decide) ?_
        refine g_iand hE dX6_agreeWith_26 ?_
        refine g_aload_n hE dX6_agreeWith_27 rfl ?_
        refine gtX6_2 hE kX_16 wf_RX6_18 dX6_agreeWith_28 ?_
        show G false iX6_agreeWith M (some (.int r0), z) 31 [some (.ref 16), some (.ref shelfBehind_), some (.int i_1)] [.ref 19, .int ((jshr (rI z shelfBehind_ (ix (rI z 17 (ix i_1)))) (rI z 18 (ix i_1))) &&& (1 : Int32))] z
        refine g_iload_n hE dX6_agreeWith_31 rfl ?_
        obtain ⟨h10, hf⟩ := ck_of hf
        refine g_iald hE kX_19 h10 dX6_agreeWith_32 ?_
        refine g_icmp_eq 38 hE dX6_agreeWith_33 (by decide) (fun h11 => ?_) (fun h11 => ?_)
        · replace hf := it_f hf (fun q => q h11)
          refine g_iinc [some _, some _, some _] hE (i_1 + (1 : Int32)) dX6_agreeWith_38 rfl rfl (by decide) rfl ?_
          refine g_goto 2 hE dX6_agreeWith_41 (by decide) ?_
          exact (ih3 _ hf)
        · replace hf := it_t hf h11
          refine g_iconst hE (0) dX6_agreeWith_36 (by decide) ?_
          obtain ⟨h12, hf⟩ := ck_of hf
          obtain rfl := so1 hf
          exact g_zret hE rfl (bz_nar h12) dX6_agreeWith_37
  exact hl2 _ _ hf
set_option maxHeartbeats 4000000 in
set_option maxRecDepth 100000 in
theorem c_X6_lastWeek {l : Launch} {w : WC} {z : Sg} {r0 : Int32} (hf : f_X6_lastWeek z = some r0) : CT false l iX6_lastWeek w [.ref 16] z (some (.int r0)) z := by
  refine ct_of 2 (lv := [some (.ref 16), none, none]) (by decide +kernel) rfl (Nat.le_of_ble_eq_true rfl) rfl (fun M hl hw hE => ?_)
  subst hl
  subst hw
  unfold f_X6_lastWeek at hf
  refine g_iconst hE (-1) dX6_lastWeek_0 (by decide) ?_
  refine g_istore_n [some _, some _, none] hE dX6_lastWeek_1 (by decide) rfl ?_
  refine g_iconst hE (0) dX6_lastWeek_2 (by decide) ?_
  refine g_istore_n [some _, some _, some _] hE dX6_lastWeek_3 (by decide) rfl ?_
  obtain ⟨last_8, hx6, hf⟩ := b1_of hf
  have hJ7 : G false iX6_lastWeek M (some (.int r0), z) 29 [some (.ref 16), some (.int last_8), none] [] z := by
    refine g_iload_n hE dX6_lastWeek_29 rfl ?_
    obtain rfl := so1 hf
    exact g_iret hE rfl dX6_lastWeek_30
  clear hf
  have hl3 : ∀ (n5 : Nat) (last_1 : Int32) (i_2 : Int32), f_X6_lastWeek_lp1 z n5 last_1 i_2 = some last_8 → G false iX6_lastWeek M (some (.int r0), z) 4 [some (.ref 16), some (.int last_1), some (.int i_2)] [] z := by
    intro n5
    induction n5 with
    | zero => intro last_1 i_2 hf; cases hf
    | succ n5 ih4 =>
      intro last_1 i_2 hf
      rw [f_X6_lastWeek_lp1] at hf
      refine g_iload_n hE dX6_lastWeek_4 rfl ?_
      refine g_aload_n hE dX6_lastWeek_5 rfl ?_
      refine gtX6_3 hE kX_16 wf_RX6_25 dX6_lastWeek_6 ?_
      refine g_icmp_ge 29 hE dX6_lastWeek_9 (by decide) (fun h9 => ?_) (fun h9 => ?_)
      · replace hf := it_f hf (cv_ngt h9)
        obtain rfl := so1 hf
        exact g_wk [true, true, false] rfl hJ7
      · replace hf := it_t hf (cv_gt h9)
        refine g_iload_n hE dX6_lastWeek_12 rfl ?_
        refine g_aload_n hE dX6_lastWeek_13 rfl ?_
        refine gtX6_0 hE kX_16 wf_RX6_11 dX6_lastWeek_14 ?_
        show G false iX6_lastWeek M (some (.int r0), z) 17 [some (.ref 16), some (.int last_1), some (.int i_2)] [.ref 17, .int last_1] z
        refine g_iload_n hE dX6_lastWeek_17 rfl ?_
        obtain ⟨h10, hf⟩ := ck_of hf
        refine g_iald hE kX_17 h10 dX6_lastWeek_18 ?_
        refine g_mmax hE wm_RX6_29 (by decide) (Nat.le_of_ble_eq_true rfl) dX6_lastWeek_19 ?_
        refine g_istore_n [some _, some _, some _] hE dX6_lastWeek_22 (by decide) rfl ?_
        refine g_iinc [some _, some _, some _] hE (i_2 + (1 : Int32)) dX6_lastWeek_23 rfl rfl (by decide) rfl ?_
        refine g_goto 4 hE dX6_lastWeek_26 (by decide) ?_
        exact (ih4 _ _ hf)
  exact hl3 _ _ _ hx6
set_option maxHeartbeats 4000000 in
set_option maxRecDepth 100000 in
theorem c_X7_comesOutSo {l : Launch} {w : WC} {week_ : Int32} {virtue_ : Int32} {z : Sg} {r0 : Int32} {z0 : Sg} (hf : f_X7_comesOutSo week_ virtue_ z = some (r0, z0)) : CT false l iX7_comesOutSo w [.ref 0, .int week_, .int virtue_] z (some (.int r0)) z0 := by
  refine ct_of 1 (lv := [some (.ref 0), some (.int week_), some (.int virtue_), none]) (by decide +kernel) rfl (Nat.le_of_ble_eq_true rfl) rfl (fun M hl hw hE => ?_)
  subst hl
  subst hw
  unfold f_X7_comesOutSo at hf
  refine g_aload_n hE dX7_comesOutSo_0 rfl ?_
  refine gtX7_7 hE kX_0 wf_RX7_56 dX7_comesOutSo_1 ?_
  refine gtX4_1 hE kX_31 wf_RX7_387 dX7_comesOutSo_4 ?_
  show G false iX7_comesOutSo M (some (.int r0), z0) 7 [some (.ref 0), some (.int week_), some (.int virtue_), none] [.ref 32] z
  refine g_iload_n hE dX7_comesOutSo_7 rfl ?_
  obtain ⟨h1, hf⟩ := ck_of hf
  refine g_iald hE kX_32 h1 dX7_comesOutSo_8 ?_
  refine g_istore_n [some _, some _, some _, some _] hE dX7_comesOutSo_9 (by decide) rfl ?_
  refine g_aload_n hE dX7_comesOutSo_10 rfl ?_
  refine gtX7_7 hE kX_0 wf_RX7_56 dX7_comesOutSo_11 ?_
  refine g_iload_n hE dX7_comesOutSo_14 rfl ?_
  refine g_iload_n hE dX7_comesOutSo_15 rfl ?_
  obtain ⟨z3, hc2, hf⟩ := b1_of hf
  refine g_callV2v hE mv_X4_hand kX_31 rfl wm_RX7_390 (by decide) (Nat.le_of_ble_eq_true rfl) dX7_comesOutSo_16 (c_X4_hand kX_31 hc2) ?_
  refine g_aload_n hE dX7_comesOutSo_19 rfl ?_
  refine gtX7_7 hE kX_0 wf_RX7_56 dX7_comesOutSo_20 ?_
  refine g_aload_n hE dX7_comesOutSo_23 rfl ?_
  refine gtX7_5 hE kX_0 wf_RX7_43 dX7_comesOutSo_24 ?_
  obtain ⟨r5, hc4, hf⟩ := b1_of hf
  refine g_callV0r hE mv_X6_lastWeek kX_16 rfl wm_RX7_393 (by decide) (Nat.le_of_ble_eq_true rfl) dX7_comesOutSo_27 (c_X6_lastWeek hc4) ?_
  obtain ⟨z7, hc6, hf⟩ := b1_of hf
  refine g_callV1v hE mv_X4_play kX_31 rfl wm_RX7_264 (by decide) (Nat.le_of_ble_eq_true rfl) dX7_comesOutSo_30 (c_X4_play kX_31 hc6) ?_
  refine g_aload_n hE dX7_comesOutSo_33 rfl ?_
  refine gtX7_7 hE kX_0 wf_RX7_56 dX7_comesOutSo_34 ?_
  refine gtX4_1 hE kX_31 wf_RX7_387 dX7_comesOutSo_37 ?_
  show G false iX7_comesOutSo M (some (.int r0), z0) 40 [some (.ref 0), some (.int week_), some (.int virtue_), some (.int (rI z 32 (ix week_)))] [.ref 32] z7
  refine g_iload_n hE dX7_comesOutSo_40 rfl ?_
  refine g_iload_n hE dX7_comesOutSo_41 rfl ?_
  obtain ⟨h8, hf⟩ := ck_of hf
  refine g_iast hE kX_32 h8 dX7_comesOutSo_42 ?_
  refine g_aload_n hE dX7_comesOutSo_43 rfl ?_
  refine gtX7_5 hE kX_0 wf_RX7_43 dX7_comesOutSo_44 ?_
  refine g_aload_n hE dX7_comesOutSo_47 rfl ?_
  refine gtX7_7 hE kX_0 wf_RX7_56 dX7_comesOutSo_48 ?_
  refine gtX4_7 hE kX_31 wf_RX7_155 dX7_comesOutSo_51 ?_
  show G false iX7_comesOutSo M (some (.int r0), z0) 54 [some (.ref 0), some (.int week_), some (.int virtue_), some (.int (rI z 32 (ix week_)))] [.ref 37, .ref 16] (wI z7 32 (ix week_) (rI z 32 (ix week_)))
  obtain ⟨r10, hc9, hf⟩ := b1_of hf
  refine g_callV1r hE mv_X6_agreeWith kX_16 rfl wm_RX7_396 (by decide) (Nat.le_of_ble_eq_true rfl) dX7_comesOutSo_54 (c_X6_agreeWith kX_37 hc9) ?_
  obtain ⟨h11, hf⟩ := ck_of hf
  obtain ⟨rfl, rfl⟩ := so2 hf
  exact g_zret hE rfl (bz_nar h11) dX7_comesOutSo_57
set_option maxHeartbeats 4000000 in
set_option maxRecDepth 100000 in
theorem c_X7_when {l : Launch} {w : WC} {virtue_ : Int32} {z : Sg} {r0 : Int32} {z0 : Sg} (hf : f_X7_when virtue_ z = some (r0, z0)) : CT false l iX7_when w [.ref 0, .int virtue_] z (some (.int r0)) z0 := by
  refine ct_of 2 (lv := [some (.ref 0), some (.int virtue_), none, none]) (by decide +kernel) rfl (Nat.le_of_ble_eq_true rfl) rfl (fun M hl hw hE => ?_)
  subst hl
  subst hw
  unfold f_X7_when at hf
  refine g_aload_n hE dX7_when_0 rfl ?_
  refine g_iload_n hE dX7_when_1 rfl ?_
  obtain ⟨r2, hc1, hf⟩ := b1_of hf
  refine g_callV1r hE mv_X7_noVirtue kX_0 rfl wm_RX7_102 (by decide) (Nat.le_of_ble_eq_true rfl) dX7_when_2 (c_X7_noVirtue hc1) ?_
  refine g_if_eq 11 hE dX7_when_5 (by decide) (fun h3 => ?_) (fun h3 => ?_)
  · replace hf := it_f hf (fun q => q h3)
    refine g_aload_n hE dX7_when_11 rfl ?_
    refine gtX7_7 hE kX_0 wf_RX7_56 dX7_when_12 ?_
    refine g_aload_n hE dX7_when_15 rfl ?_
    refine gtX7_3 hE kX_0 wf_RX7_33 dX7_when_16 ?_
    refine g_aload_n hE dX7_when_19 rfl ?_
    refine gtX7_4 hE kX_0 wf_RX7_37 dX7_when_20 ?_
    obtain ⟨z5, hc4, hf⟩ := b1_of hf
    refine g_callV2v hE mv_X4_load kX_31 rfl wm_RX7_253 (by decide) (Nat.le_of_ble_eq_true rfl) dX7_when_23 (c_X4_load kX_31 kX_10 kX_13 hc4) ?_
    refine g_iconst hE (0) dX7_when_26 (by decide) ?_
    refine g_istore_n [some _, some _, some _, none] hE dX7_when_27 (by decide) rfl ?_
    refine g_iconst hE (0) dX7_when_28 (by decide) ?_
    refine g_istore_n [some _, some _, some _, some _] hE dX7_when_29 (by decide) rfl ?_
    obtain ⟨weeks_14, z15, hx12, hf⟩ := b2_of hf
    have hJ13 : G false iX7_when M (some (.int r0), z0) 57 [some (.ref 0), some (.int virtue_), some (.int weeks_14), none] [] z15 := by
      refine g_iload_n hE dX7_when_57 rfl ?_
      obtain ⟨rfl, rfl⟩ := so2 hf
      exact g_iret hE rfl dX7_when_58
    clear hf
    have hl9 : ∀ (n11 : Nat) (weeks_6 : Int32) (week_7 : Int32) (z8 : Sg), f_X7_when_lp1 virtue_ n11 weeks_6 week_7 z8 = some (weeks_14, z15) → G false iX7_when M (some (.int r0), z0) 30 [some (.ref 0), some (.int virtue_), some (.int weeks_6), some (.int week_7)] [] z8 := by
      intro n11
      induction n11 with
      | zero => intro weeks_6 week_7 z8 hf; cases hf
      | succ n11 ih10 =>
        intro weeks_6 week_7 z8 hf
        rw [f_X7_when_lp1] at hf
        refine g_iload_n hE dX7_when_30 rfl ?_
        refine g_bipush hE (20) dX7_when_31 (by decide) ?_
        refine g_icmp_ge 57 hE dX7_when_33 (by decide) (fun h16 => ?_) (fun h16 => ?_)
        · replace hf := it_f hf (cv_ngt h16)
          obtain ⟨rfl, rfl⟩ := so2 hf
          exact g_wk [true, true, true, false] rfl hJ13
        · replace hf := it_t hf (cv_gt h16)
          obtain ⟨weeks_19, z20, hx17, hf⟩ := b2_of hf
          have hJ18 : G false iX7_when M (some (.int r0), z0) 51 [some (.ref 0), some (.int virtue_), some (.int weeks_19), some (.int week_7)] [] z20 := by
            refine g_iinc [some _, some _, some _, some _] hE (week_7 + (1 : Int32)) dX7_when_51 rfl rfl (by decide) rfl ?_
            refine g_goto 30 hE dX7_when_54 (by decide) ?_
            exact (ih10 _ _ _ hf)
          replace hf := hx17
          clear hx17
          refine g_aload_n hE dX7_when_36 rfl ?_
          refine g_iload_n hE dX7_when_37 rfl ?_
          refine g_iload_n hE dX7_when_38 rfl ?_
          obtain ⟨r23, z22, hc21, hf⟩ := b2_of hf
          refine g_callV2r hE mv_X7_comesOutSo kX_0 rfl wm_RX7_257 (by decide) (Nat.le_of_ble_eq_true rfl) dX7_when_39 (c_X7_comesOutSo hc21) ?_
          refine g_if_eq 51 hE dX7_when_42 (by decide) (fun h24 => ?_) (fun h24 => ?_)
          · replace hf := it_f hf (fun q => q h24)
            obtain ⟨rfl, rfl⟩ := so2 hf
            exact hJ18
          · replace hf := it_t hf h24
            refine g_iload_n hE dX7_when_45 rfl ?_
            refine g_iconst hE (1) dX7_when_46 (by decide) ?_
            refine g_iload_n hE dX7_when_47 rfl ?_
            refine g_ishl hE dX7_when_48 ?_
            refine g_ior hE dX7_when_49 ?_
            refine g_istore_n [some _, some _, some _, some _] hE dX7_when_50 (by decide) rfl ?_
            obtain ⟨rfl, rfl⟩ := so2 hf
            exact hJ18
    exact hl9 _ _ _ _ hx12
  · replace hf := it_t hf h3
    refine g_bipush hE (-2) dX7_when_8 (by decide) ?_
    obtain ⟨rfl, rfl⟩ := so2 hf
    exact g_iret hE rfl dX7_when_10
set_option maxHeartbeats 4000000 in
set_option maxRecDepth 100000 in
theorem c_X7_nextSeed {l : Launch} {w : WC} {seed_ : Int32} {z : Sg} {r0 : Int32} (hf : f_X7_nextSeed seed_ = some r0) : CT false l iX7_nextSeed w [.int seed_] z (some (.int r0)) z := by
  refine ct_of 0 (lv := [some (.int seed_)]) (by decide +kernel) rfl (Nat.le_of_ble_eq_true rfl) rfl (fun M hl hw hE => ?_)
  subst hl
  subst hw
  unfold f_X7_nextSeed at hf
  refine g_ldcw hE wk_RX7_407 dX7_nextSeed_0 ?_
  refine g_iload_n hE dX7_nextSeed_3 rfl ?_
  refine g_imul hE dX7_nextSeed_4 ?_
  refine g_sipush hE (12345) dX7_nextSeed_5 (by decide) ?_
  refine g_iadd hE dX7_nextSeed_8 ?_
  obtain rfl := so1 hf
  exact g_iret hE rfl dX7_nextSeed_9
set_option maxHeartbeats 4000000 in
set_option maxRecDepth 100000 in
theorem c_X7_drawLots {l : Launch} {w : WC} {start_ : Int32} {n_ : Int32} {z : Sg} {z0 : Sg} (hf : f_X7_drawLots start_ n_ z = some z0) : CT false l iX7_drawLots w [.ref 0, .int start_, .int n_] z none z0 := by
  refine ct_of 4 (lv := [some (.ref 0), some (.int start_), some (.int n_), none, none, none, none]) (by decide +kernel) rfl (Nat.le_of_ble_eq_true rfl) rfl (fun M hl hw hE => ?_)
  subst hl
  subst hw
  unfold f_X7_drawLots at hf
  refine g_aload_n hE dX7_drawLots_0 rfl ?_
  refine gtX7_0 hE kX_0 wf_RX7_12 dX7_drawLots_1 ?_
  refine gtX1_5 hE kX_1 wf_RX7_177 dX7_drawLots_4 ?_
  refine g_istore_n [some _, some _, some _, some _, none, none, none] hE dX7_drawLots_7 (by decide) rfl ?_
  refine g_aload_n hE dX7_drawLots_8 rfl ?_
  refine gtX7_1 hE kX_0 wf_RX7_18 dX7_drawLots_9 ?_
  refine gtX1_5 hE kX_5 wf_RX7_177 dX7_drawLots_12 ?_
  refine g_istore [some _, some _, some _, some _, some _, none, none] hE dX7_drawLots_15 (by decide) rfl ?_
  obtain ⟨q1, hx2, hf⟩ := b1_of hf
  have hT3 : q1 = true → G false iX7_drawLots M (none, z0) 26 [some (.ref 0), some (.int start_), some (.int n_), some (.int (rI z 1 5)), some (.int (rI z 5 5)), none, none] [] z := by
    intro hq5
    replace hf := it_t hf hq5
    obtain rfl := so1 hf
    exact g_ret hE rfl dX7_drawLots_26
  have hF4 : q1 = false → G false iX7_drawLots M (none, z0) 27 [some (.ref 0), some (.int start_), some (.int n_), some (.int (rI z 1 5)), some (.int (rI z 5 5)), none, none] [] z := by
    intro hq5
    replace hf := it_f hf (by rw [hq5]; decide)
    refine g_iload_n hE dX7_drawLots_27 rfl ?_
    refine g_istore [some _, some _, some _, some _, some _, some _, none] hE dX7_drawLots_28 (by decide) rfl ?_
    refine g_iconst hE (0) dX7_drawLots_30 (by decide) ?_
    refine g_istore [some _, some _, some _, some _, some _, some _, some _] hE dX7_drawLots_31 (by decide) rfl ?_
    obtain ⟨seed_14, z15, hx12, hf⟩ := b2_of hf
    have hJ13 : G false iX7_drawLots M (none, z0) 97 [some (.ref 0), some (.int start_), some (.int n_), some (.int (rI z 1 5)), some (.int (rI z 5 5)), some (.int seed_14), none] [] z15 := by
      obtain rfl := so1 hf
      exact g_ret hE rfl dX7_drawLots_97
    clear hf
    have hl9 : ∀ (n11 : Nat) (seed_6 : Int32) (week_7 : Int32) (z8 : Sg), f_X7_drawLots_lp1 n_ (rI z 1 5) (rI z 5 5) n11 seed_6 week_7 z8 = some (seed_14, z15) → G false iX7_drawLots M (none, z0) 33 [some (.ref 0), some (.int start_), some (.int n_), some (.int (rI z 1 5)), some (.int (rI z 5 5)), some (.int seed_6), some (.int week_7)] [] z8 := by
      intro n11
      induction n11 with
      | zero => intro seed_6 week_7 z8 hf; cases hf
      | succ n11 ih10 =>
        intro seed_6 week_7 z8 hf
        rw [f_X7_drawLots_lp1] at hf
        refine g_iload hE dX7_drawLots_33 rfl ?_
        refine g_iload_n hE dX7_drawLots_35 rfl ?_
        refine g_icmp_ge 97 hE dX7_drawLots_36 (by decide) (fun h16 => ?_) (fun h16 => ?_)
        · replace hf := it_f hf (cv_ngt h16)
          obtain ⟨rfl, rfl⟩ := so2 hf
          exact g_wk [true, true, true, true, true, true, false] rfl hJ13
        · replace hf := it_t hf (cv_gt h16)
          refine g_iload hE dX7_drawLots_39 rfl ?_
          obtain ⟨r18, hc17, hf⟩ := b1_of hf
          refine g_callS1r hE ms_X7_nextSeed wm_RX7_400 (by decide) (Nat.le_of_ble_eq_true rfl) dX7_drawLots_41 (c_X7_nextSeed hc17) ?_
          refine g_istore [some _, some _, some _, some _, some _, some _, some _] hE dX7_drawLots_44 (by decide) rfl ?_
          refine g_aload_n hE dX7_drawLots_46 rfl ?_
          refine gtX7_7 hE kX_0 wf_RX7_56 dX7_drawLots_47 ?_
          refine g_iload hE dX7_drawLots_50 rfl ?_
          refine g_iload hE dX7_drawLots_52 rfl ?_
          refine g_bipush hE (16) dX7_drawLots_54 (by decide) ?_
          refine g_iushr hE dX7_drawLots_56 ?_
          refine g_iload_n hE dX7_drawLots_57 rfl ?_
          obtain ⟨h26, hf⟩ := ck_of hf
          refine g_irem hE dX7_drawLots_58 h26 ?_
          obtain ⟨z20, hc19, hf⟩ := b1_of hf
          refine g_callV2v hE mv_X4_hand kX_31 rfl wm_RX7_390 (by decide) (Nat.le_of_ble_eq_true rfl) dX7_drawLots_59 (c_X4_hand kX_31 hc19) ?_
          refine g_iload hE dX7_drawLots_62 rfl ?_
          obtain ⟨r22, hc21, hf⟩ := b1_of hf
          refine g_callS1r hE ms_X7_nextSeed wm_RX7_400 (by decide) (Nat.le_of_ble_eq_true rfl) dX7_drawLots_64 (c_X7_nextSeed hc21) ?_
          refine g_istore [some _, some _, some _, some _, some _, some _, some _] hE dX7_drawLots_67 (by decide) rfl ?_
          refine g_aload_n hE dX7_drawLots_69 rfl ?_
          refine gtX7_7 hE kX_0 wf_RX7_56 dX7_drawLots_70 ?_
          refine g_iload hE dX7_drawLots_73 rfl ?_
          refine g_iload hE dX7_drawLots_75 rfl ?_
          refine g_bipush hE (16) dX7_drawLots_77 (by decide) ?_
          refine g_iushr hE dX7_drawLots_79 ?_
          refine g_iload hE dX7_drawLots_80 rfl ?_
          obtain ⟨h25, hf⟩ := ck_of hf
          refine g_irem hE dX7_drawLots_82 h25 ?_
          refine g_bipush hE (12) dX7_drawLots_83 (by decide) ?_
          refine g_iload hE dX7_drawLots_85 rfl ?_
          refine g_iadd hE dX7_drawLots_87 ?_
          obtain ⟨z24, hc23, hf⟩ := b1_of hf
          refine g_callV3v hE mv_X4_come kX_31 rfl wm_RX7_403 (by decide) (Nat.le_of_ble_eq_true rfl) dX7_drawLots_88 (c_X4_come kX_31 hc23) ?_
          refine g_iinc [some _, some _, some _, some _, some _, some _, some _] hE (week_7 + (1 : Int32)) dX7_drawLots_91 rfl rfl (by decide) rfl ?_
          refine g_goto 33 hE dX7_drawLots_94 (by decide) ?_
          exact (ih10 _ _ _ hf)
    exact hl9 _ _ _ _ hx12
  replace hf := hx2
  clear hx2
  refine g_iload_n hE dX7_drawLots_17 rfl ?_
  refine g_if_eq 26 hE dX7_drawLots_18 (by decide) (fun h27 => ?_) (fun h27 => ?_)
  · replace hf := it_t hf h27
    obtain rfl := so1 hf
    exact hT3 rfl
  · replace hf := it_f hf h27
    refine g_iload hE dX7_drawLots_21 rfl ?_
    refine g_if_ne 27 hE dX7_drawLots_23 (by decide) (fun h28 => ?_) (fun h28 => ?_)
    · replace hf := it_f hf h28
      obtain rfl := so1 hf
      exact hF4 rfl
    · replace hf := it_t hf h28
      obtain rfl := so1 hf
      exact hT3 rfl
set_option maxHeartbeats 4000000 in
set_option maxRecDepth 100000 in
theorem c_X7_weeks {l : Launch} {w : WC} {seed_ : Int32} {n_ : Int32} {what_ : Int32} {z : Sg} {r0 : Int32} {z0 : Sg} (hf : f_X7_weeks seed_ n_ what_ z = some (r0, z0)) : CT false l iX7_weeks w [.ref 0, .int seed_, .int n_, .int what_] z (some (.int r0)) z0 := by
  refine ct_of 0 (lv := [some (.ref 0), some (.int seed_), some (.int n_), some (.int what_)]) (by decide +kernel) rfl (Nat.le_of_ble_eq_true rfl) rfl (fun M hl hw hE => ?_)
  subst hl
  subst hw
  unfold f_X7_weeks at hf
  obtain ⟨q1, hx2, hf⟩ := b1_of hf
  have hT3 : q1 = true → G false iX7_weeks M (some (.int r0), z0) 19 [some (.ref 0), some (.int seed_), some (.int n_), some (.int what_)] [] z := by
    intro hq5
    replace hf := it_t hf hq5
    refine g_bipush hE (-2) dX7_weeks_19 (by decide) ?_
    obtain ⟨rfl, rfl⟩ := so2 hf
    exact g_iret hE rfl dX7_weeks_21
  have hF4 : q1 = false → G false iX7_weeks M (some (.int r0), z0) 22 [some (.ref 0), some (.int seed_), some (.int n_), some (.int what_)] [] z := by
    intro hq5
    replace hf := it_f hf (by rw [hq5]; decide)
    refine g_aload_n hE dX7_weeks_22 rfl ?_
    refine gtX7_7 hE kX_0 wf_RX7_56 dX7_weeks_23 ?_
    refine g_aload_n hE dX7_weeks_26 rfl ?_
    refine gtX7_3 hE kX_0 wf_RX7_33 dX7_weeks_27 ?_
    refine g_aload_n hE dX7_weeks_30 rfl ?_
    refine gtX7_4 hE kX_0 wf_RX7_37 dX7_weeks_31 ?_
    obtain ⟨z7, hc6, hf⟩ := b1_of hf
    refine g_callV2v hE mv_X4_load kX_31 rfl wm_RX7_253 (by decide) (Nat.le_of_ble_eq_true rfl) dX7_weeks_34 (c_X4_load kX_31 kX_10 kX_13 hc6) ?_
    refine g_aload_n hE dX7_weeks_37 rfl ?_
    refine g_iload_n hE dX7_weeks_38 rfl ?_
    refine g_iload_n hE dX7_weeks_39 rfl ?_
    obtain ⟨z9, hc8, hf⟩ := b1_of hf
    refine g_callV2v hE mv_X7_drawLots kX_0 rfl wm_RX7_260 (by decide) (Nat.le_of_ble_eq_true rfl) dX7_weeks_40 (c_X7_drawLots hc8) ?_
    refine g_aload_n hE dX7_weeks_43 rfl ?_
    refine gtX7_7 hE kX_0 wf_RX7_56 dX7_weeks_44 ?_
    refine g_iload_n hE dX7_weeks_47 rfl ?_
    refine g_iconst hE (1) dX7_weeks_48 (by decide) ?_
    refine g_isub hE dX7_weeks_49 ?_
    obtain ⟨z11, hc10, hf⟩ := b1_of hf
    refine g_callV1v hE mv_X4_play kX_31 rfl wm_RX7_264 (by decide) (Nat.le_of_ble_eq_true rfl) dX7_weeks_50 (c_X4_play kX_31 hc10) ?_
    obtain ⟨x12, hx13, hf⟩ := b1_of hf
    have hJ14 : G false iX7_weeks M (some (.int r0), z0) 74 [some (.ref 0), some (.int seed_), some (.int n_), some (.int what_)] [.int x12] z11 := by
      obtain ⟨r16, hc15, hf⟩ := b1_of hf
      refine g_callS1r hE ms_J6_bitCount_0f7a4 wm_RX7_210 (by decide) (Nat.le_of_ble_eq_true rfl) dX7_weeks_74 (c_J6_bitCount_0f7a4 hc15) ?_
      obtain ⟨rfl, rfl⟩ := so2 hf
      exact g_iret hE rfl dX7_weeks_77
    replace hf := hx13
    clear hx13
    refine g_iload_n hE dX7_weeks_53 rfl ?_
    refine g_if_ne 67 hE dX7_weeks_54 (by decide) (fun h17 => ?_) (fun h17 => ?_)
    · replace hf := it_f hf h17
      refine g_aload_n hE dX7_weeks_67 rfl ?_
      refine gtX7_7 hE kX_0 wf_RX7_56 dX7_weeks_68 ?_
      refine gtX4_14 hE kX_31 wf_RX7_174 dX7_weeks_71 ?_
      obtain rfl := so1 hf
      exact hJ14
    · replace hf := it_t hf h17
      refine g_aload_n hE dX7_weeks_57 rfl ?_
      refine gtX7_7 hE kX_0 wf_RX7_56 dX7_weeks_58 ?_
      refine gtX4_13 hE kX_31 wf_RX7_267 dX7_weeks_61 ?_
      refine g_goto 74 hE dX7_weeks_64 (by decide) ?_
      obtain rfl := so1 hf
      exact hJ14
  replace hf := hx2
  clear hx2
  refine g_iload_n hE dX7_weeks_0 rfl ?_
  refine g_iconst hE (1) dX7_weeks_1 (by decide) ?_
  refine g_icmp_lt 19 hE dX7_weeks_2 (by decide) (fun h18 => ?_) (fun h18 => ?_)
  · replace hf := it_t hf h18
    obtain rfl := so1 hf
    exact hT3 rfl
  · replace hf := it_f hf h18
    refine g_iload_n hE dX7_weeks_5 rfl ?_
    refine g_bipush hE (40) dX7_weeks_6 (by decide) ?_
    refine g_icmp_gt 19 hE dX7_weeks_8 (by decide) (fun h19 => ?_) (fun h19 => ?_)
    · replace hf := it_t hf h19
      obtain rfl := so1 hf
      exact hT3 rfl
    · replace hf := it_f hf h19
      refine g_iload_n hE dX7_weeks_11 rfl ?_
      refine g_iconst hE (2) dX7_weeks_12 (by decide) ?_
      obtain ⟨r21, hc20, hf⟩ := b1_of hf
      refine g_callS2r hE ms_X7_outside wm_RX7_73 (by decide) (Nat.le_of_ble_eq_true rfl) dX7_weeks_13 (c_X7_outside hc20) ?_
      refine g_if_eq 22 hE dX7_weeks_16 (by decide) (fun h22 => ?_) (fun h22 => ?_)
      · replace hf := it_f hf (fun q => q h22)
        obtain rfl := so1 hf
        exact hF4 rfl
      · replace hf := it_t hf h22
        obtain rfl := so1 hf
        exact hT3 rfl
set_option maxHeartbeats 4000000 in
set_option maxRecDepth 100000 in
theorem c_X5_renew {l : Launch} {w : WC} {t : Nat} {ofForm_ : Int32} {n_ : Int32} {z : Sg} {z0 : Sg} (hkt : kd false t = KX5) (hf : f_X5_renew t ofForm_ n_ z = some z0) : CT false l iX5_renew w [.ref t, .int ofForm_, .int n_] z none z0 := by
  refine ct_of 0 (lv := [some (.ref t), some (.int ofForm_), some (.int n_)]) (by decide +kernel) rfl (Nat.le_of_ble_eq_true rfl) rfl (fun M hl hw hE => ?_)
  subst hl
  subst hw
  unfold f_X5_renew at hf
  refine g_aload_n hE dX5_renew_0 rfl ?_
  refine g_iload_n hE dX5_renew_1 rfl ?_
  refine ptX5_2 hE hkt wf_RX5_19 dX5_renew_2 ?_
  refine g_aload_n hE dX5_renew_5 rfl ?_
  refine g_iload_n hE dX5_renew_6 rfl ?_
  refine ptX5_1 hE hkt wf_RX5_15 dX5_renew_7 ?_
  refine g_aload_n hE dX5_renew_10 rfl ?_
  refine gtX5_0 hE hkt wf_RX5_11 dX5_renew_11 ?_
  refine g_iconst hE (0) dX5_renew_14 (by decide) ?_
  obtain ⟨z2, hc1, hf⟩ := b1_of hf
  refine g_callS2v hE ms_J7_fill_53178 wm_RX5_22 (by decide) (Nat.le_of_ble_eq_true rfl) dX5_renew_15 (c_J7_fill_53178 (rlX5_0 hkt) hc1) ?_
  obtain rfl := so1 hf
  exact g_ret hE rfl dX5_renew_18
set_option maxHeartbeats 4000000 in
set_option maxRecDepth 100000 in
theorem c_X7_sheet {l : Launch} {w : WC} {s_ : Int32} {form_ : Int32} {n_ : Int32} {z : Sg} {r0 : Int32} {z0 : Sg} (hf : f_X7_sheet s_ form_ n_ z = some (r0, z0)) : CT false l iX7_sheet w [.ref 0, .int s_, .int form_, .int n_] z (some (.int r0)) z0 := by
  refine ct_of 0 (lv := [some (.ref 0), some (.int s_), some (.int form_), some (.int n_)]) (by decide +kernel) rfl (Nat.le_of_ble_eq_true rfl) rfl (fun M hl hw hE => ?_)
  subst hl
  subst hw
  unfold f_X7_sheet at hf
  obtain ⟨q1, hx2, hf⟩ := b1_of hf
  have hT3 : q1 = true → G false iX7_sheet M (some (.int r0), z0) 22 [some (.ref 0), some (.int s_), some (.int form_), some (.int n_)] [] z := by
    intro hq5
    replace hf := it_t hf hq5
    refine g_bipush hE (-2) dX7_sheet_22 (by decide) ?_
    obtain ⟨rfl, rfl⟩ := so2 hf
    exact g_iret hE rfl dX7_sheet_24
  have hF4 : q1 = false → G false iX7_sheet M (some (.int r0), z0) 25 [some (.ref 0), some (.int s_), some (.int form_), some (.int n_)] [] z := by
    intro hq5
    replace hf := it_f hf (by rw [hq5]; decide)
    refine g_iload_n hE dX7_sheet_25 rfl ?_
    refine g_if_ge 35 hE dX7_sheet_26 (by decide) (fun h6 => ?_) (fun h6 => ?_)
    · replace hf := it_f hf (cv_ngt h6)
      refine g_aload_n hE dX7_sheet_35 rfl ?_
      refine gtX7_9 hE kX_0 wf_RX7_68 dX7_sheet_36 ?_
      refine g_iload_n hE dX7_sheet_39 rfl ?_
      obtain ⟨h7, hf⟩ := ck_of hf
      obtain ⟨hk8, hf⟩ := ck_of hf
      refine g_aald hE kX_44 h7 dX7_sheet_40 ?_
      refine g_iload_n hE dX7_sheet_41 rfl ?_
      refine g_iload_n hE dX7_sheet_42 rfl ?_
      obtain ⟨z10, hc9, hf⟩ := b1_of hf
      refine g_callV2v hE mv_X5_renew hk8 rfl wm_RX7_270 (by decide) (Nat.le_of_ble_eq_true rfl) dX7_sheet_43 (c_X5_renew hk8 hc9) ?_
      refine g_iload_n hE dX7_sheet_46 rfl ?_
      obtain ⟨rfl, rfl⟩ := so2 hf
      exact g_iret hE rfl dX7_sheet_47
    · replace hf := it_t hf (cv_gt h6)
      refine g_aload_n hE dX7_sheet_29 rfl ?_
      refine g_iconst hE (5) dX7_sheet_30 (by decide) ?_
      obtain ⟨r13, z12, hc11, hf⟩ := b2_of hf
      refine g_callV1r hE mv_X7_found kX_0 rfl wm_RX7_140 (by decide) (Nat.le_of_ble_eq_true rfl) dX7_sheet_31 (c_X7_found hc11) ?_
      obtain ⟨rfl, rfl⟩ := so2 hf
      exact g_iret hE rfl dX7_sheet_34
  replace hf := hx2
  clear hx2
  refine g_iload_n hE dX7_sheet_0 rfl ?_
  refine g_iconst hE (4) dX7_sheet_1 (by decide) ?_
  obtain ⟨r15, hc14, hf⟩ := b1_of hf
  refine g_callS2r hE ms_X7_outside wm_RX7_73 (by decide) (Nat.le_of_ble_eq_true rfl) dX7_sheet_2 (c_X7_outside hc14) ?_
  refine g_if_ne 22 hE dX7_sheet_5 (by decide) (fun h16 => ?_) (fun h16 => ?_)
  · replace hf := it_t hf h16
    obtain rfl := so1 hf
    exact hT3 rfl
  · replace hf := it_f hf (fun q => q h16)
    refine g_iload_n hE dX7_sheet_8 rfl ?_
    refine g_iconst hE (3) dX7_sheet_9 (by decide) ?_
    obtain ⟨r18, hc17, hf⟩ := b1_of hf
    refine g_callS2r hE ms_X7_outside wm_RX7_73 (by decide) (Nat.le_of_ble_eq_true rfl) dX7_sheet_10 (c_X7_outside hc17) ?_
    refine g_if_ne 22 hE dX7_sheet_13 (by decide) (fun h19 => ?_) (fun h19 => ?_)
    · replace hf := it_t hf h19
      obtain rfl := so1 hf
      exact hT3 rfl
    · replace hf := it_f hf (fun q => q h19)
      refine g_iload_n hE dX7_sheet_16 rfl ?_
      refine g_bipush hE (48) dX7_sheet_17 (by decide) ?_
      refine g_icmp_le 25 hE dX7_sheet_19 (by decide) (fun h20 => ?_) (fun h20 => ?_)
      · replace hf := it_f hf (cv_ngt h20)
        obtain rfl := so1 hf
        exact hF4 rfl
      · replace hf := it_t hf (cv_gt h20)
        obtain rfl := so1 hf
        exact hT3 rfl
set_option maxHeartbeats 4000000 in
set_option maxRecDepth 100000 in
theorem c_X7_lose {l : Launch} {w : WC} {s_ : Int32} {z : Sg} {r0 : Int32} {z0 : Sg} (hf : f_X7_lose s_ z = some (r0, z0)) : CT false l iX7_lose w [.ref 0, .int s_] z (some (.int r0)) z0 := by
  refine ct_of 2 (lv := [some (.ref 0), some (.int s_), none, none]) (by decide +kernel) rfl (Nat.le_of_ble_eq_true rfl) rfl (fun M hl hw hE => ?_)
  subst hl
  subst hw
  unfold f_X7_lose at hf
  refine g_iload_n hE dX7_lose_0 rfl ?_
  refine g_iconst hE (4) dX7_lose_1 (by decide) ?_
  obtain ⟨r2, hc1, hf⟩ := b1_of hf
  refine g_callS2r hE ms_X7_outside wm_RX7_73 (by decide) (Nat.le_of_ble_eq_true rfl) dX7_lose_2 (c_X7_outside hc1) ?_
  refine g_if_eq 11 hE dX7_lose_5 (by decide) (fun h3 => ?_) (fun h3 => ?_)
  · replace hf := it_f hf (fun q => q h3)
    refine g_aload_n hE dX7_lose_11 rfl ?_
    refine gtX7_9 hE kX_0 wf_RX7_68 dX7_lose_12 ?_
    refine g_iload_n hE dX7_lose_15 rfl ?_
    obtain ⟨h4, hf⟩ := ck_of hf
    obtain ⟨hk5, hf⟩ := ck_of hf
    refine g_aald hE kX_44 h4 dX7_lose_16 ?_
    refine g_astore_n [some _, some _, some _, none] hE dX7_lose_17 (by decide) rfl ?_
    refine g_aload_n hE dX7_lose_18 rfl ?_
    obtain ⟨r7, hc6, hf⟩ := b1_of hf
    refine g_callV0r hE mv_X5_isLost hk5 rfl wm_RX7_136 (by decide) (Nat.le_of_ble_eq_true rfl) dX7_lose_19 (c_X5_isLost hk5 hc6) ?_
    refine g_if_eq 31 hE dX7_lose_22 (by decide) (fun h8 => ?_) (fun h8 => ?_)
    · replace hf := it_f hf (fun q => q h8)
      refine g_aload_n hE dX7_lose_31 rfl ?_
      refine gtX5_1 hE hk5 wf_RX7_144 dX7_lose_32 ?_
      refine g_istore_n [some _, some _, some _, some _] hE dX7_lose_35 (by decide) rfl ?_
      refine g_aload_n hE dX7_lose_36 rfl ?_
      refine g_iconst hE (-1) dX7_lose_37 (by decide) ?_
      refine ptX5_1 hE hk5 wf_RX7_144 dX7_lose_38 ?_
      refine g_iload_n hE dX7_lose_41 rfl ?_
      obtain ⟨rfl, rfl⟩ := so2 hf
      exact g_iret hE rfl dX7_lose_42
    · replace hf := it_t hf h8
      refine g_aload_n hE dX7_lose_25 rfl ?_
      refine g_iconst hE (1) dX7_lose_26 (by decide) ?_
      obtain ⟨r11, z10, hc9, hf⟩ := b2_of hf
      refine g_callV1r hE mv_X7_found kX_0 rfl wm_RX7_140 (by decide) (Nat.le_of_ble_eq_true rfl) dX7_lose_27 (c_X7_found hc9) ?_
      obtain ⟨rfl, rfl⟩ := so2 hf
      exact g_iret hE rfl dX7_lose_30
  · replace hf := it_t hf h3
    refine g_bipush hE (-2) dX7_lose_8 (by decide) ?_
    obtain ⟨rfl, rfl⟩ := so2 hf
    exact g_iret hE rfl dX7_lose_10
set_option maxHeartbeats 4000000 in
set_option maxRecDepth 100000 in
theorem c_X5_findingAt {l : Launch} {w : WC} {t : Nat} {asForm_ : Int32} {i_ : Int32} {z : Sg} {r0 : Int32} (hkt : kd false t = KX5) (hf : f_X5_findingAt t asForm_ i_ z = some r0) : CT false l iX5_findingAt w [.ref t, .int asForm_, .int i_] z (some (.int r0)) z := by
  refine ct_of 0 (lv := [some (.ref t), some (.int asForm_), some (.int i_)]) (by decide +kernel) rfl (Nat.le_of_ble_eq_true rfl) rfl (fun M hl hw hE => ?_)
  subst hl
  subst hw
  unfold f_X5_findingAt at hf
  refine g_aload_n hE dX5_findingAt_0 rfl ?_
  obtain ⟨r2, hc1, hf⟩ := b1_of hf
  refine g_callV0r hE mv_X5_isLost hkt rfl wm_RX5_28 (by decide) (Nat.le_of_ble_eq_true rfl) dX5_findingAt_1 (c_X5_isLost hkt hc1) ?_
  refine g_if_eq 9 hE dX5_findingAt_4 (by decide) (fun h3 => ?_) (fun h3 => ?_)
  · replace hf := it_f hf (fun q => q h3)
    refine g_aload_n hE dX5_findingAt_9 rfl ?_
    refine gtX5_2 hE hkt wf_RX5_19 dX5_findingAt_10 ?_
    refine g_iload_n hE dX5_findingAt_13 rfl ?_
    refine g_icmp_eq 19 hE dX5_findingAt_14 (by decide) (fun h4 => ?_) (fun h4 => ?_)
    · replace hf := it_f hf (fun q => q h4)
      obtain ⟨x5, hx6, hf⟩ := b1_of hf
      have hJ7 : G false iX5_findingAt M (some (.int r0), z) 35 [some (.ref t), some (.int asForm_), some (.int i_)] [.int x5] z := by
        obtain rfl := so1 hf
        exact g_iret hE rfl dX5_findingAt_35
      replace hf := hx6
      clear hx6
      refine g_iload_n hE dX5_findingAt_19 rfl ?_
      refine g_aload_n hE dX5_findingAt_20 rfl ?_
      refine gtX5_1 hE hkt wf_RX5_15 dX5_findingAt_21 ?_
      obtain ⟨r9, hc8, hf⟩ := b1_of hf
      refine g_callN2r hE ms_X7_outside wn_RX5_32 (by decide) (Nat.le_of_ble_eq_true rfl) dX5_findingAt_24 (c_X7_outside hc8) ?_
      refine g_if_eq 34 hE dX5_findingAt_27 (by decide) (fun h10 => ?_) (fun h10 => ?_)
      · replace hf := it_f hf (fun q => q h10)
        refine g_iconst hE (0) dX5_findingAt_34 (by decide) ?_
        obtain rfl := so1 hf
        exact hJ7
      · replace hf := it_t hf h10
        refine g_iconst hE (2) dX5_findingAt_30 (by decide) ?_
        refine g_goto 35 hE dX5_findingAt_31 (by decide) ?_
        obtain rfl := so1 hf
        exact hJ7
    · replace hf := it_t hf h4
      refine g_iconst hE (3) dX5_findingAt_17 (by decide) ?_
      obtain rfl := so1 hf
      exact g_iret hE rfl dX5_findingAt_18
  · replace hf := it_t hf h3
    refine g_iconst hE (1) dX5_findingAt_7 (by decide) ?_
    obtain rfl := so1 hf
    exact g_iret hE rfl dX5_findingAt_8
set_option maxHeartbeats 4000000 in
set_option maxRecDepth 100000 in
theorem c_X5_store {l : Launch} {w : WC} {t : Nat} {i_ : Int32} {v_ : Int32} {z : Sg} {z0 : Sg} (hkt : kd false t = KX5) (hf : f_X5_store t i_ v_ z = some z0) : CT false l iX5_store w [.ref t, .int i_, .int v_] z none z0 := by
  refine ct_of 0 (lv := [some (.ref t), some (.int i_), some (.int v_)]) (by decide +kernel) rfl (Nat.le_of_ble_eq_true rfl) rfl (fun M hl hw hE => ?_)
  subst hl
  subst hw
  unfold f_X5_store at hf
  obtain ⟨z3, hx1, hf⟩ := b1_of hf
  have hJ2 : G false iX5_store M (none, z0) 38 [some (.ref t), some (.int i_), some (.int v_)] [] z3 := by
    obtain rfl := so1 hf
    exact g_ret hE rfl dX5_store_38
  replace hf := hx1
  clear hx1
  refine g_aload_n hE dX5_store_0 rfl ?_
  refine gtX5_2 hE hkt wf_RX5_19 dX5_store_1 ?_
  refine g_if_ne 18 hE dX5_store_4 (by decide) (fun h4 => ?_) (fun h4 => ?_)
  · replace hf := it_f hf h4
    refine g_aload_n hE dX5_store_18 rfl ?_
    refine gtX5_0 hE hkt wf_RX5_11 dX5_store_19 ?_
    refine g_iload_n hE dX5_store_22 rfl ?_
    obtain ⟨x5, hx6, hf⟩ := b1_of hf
    have hJ7 : G false iX5_store M (none, z0) 37 [some (.ref t), some (.int i_), some (.int v_)] [.int x5, .int i_, .ref (t + 1)] z := by
      obtain ⟨h8, hf⟩ := ck_of hf
      refine g_iast hE (rlX5_0 hkt) h8 dX5_store_37 ?_
      obtain rfl := so1 hf
      exact hJ2
    replace hf := hx6
    clear hx6
    refine g_aload_n hE dX5_store_23 rfl ?_
    refine gtX5_2 hE hkt wf_RX5_19 dX5_store_24 ?_
    refine g_iconst hE (1) dX5_store_27 (by decide) ?_
    refine g_icmp_ne 36 hE dX5_store_28 (by decide) (fun h9 => ?_) (fun h9 => ?_)
    · replace hf := it_f hf h9
      refine g_iload_n hE dX5_store_36 rfl ?_
      obtain rfl := so1 hf
      exact hJ7
    · replace hf := it_t hf h9
      refine g_iload_n hE dX5_store_31 rfl ?_
      refine g_i2s hE dX5_store_32 ?_
      refine g_goto 37 hE dX5_store_33 (by decide) ?_
      obtain rfl := so1 hf
      exact hJ7
  · replace hf := it_t hf h4
    refine g_aload_n hE dX5_store_7 rfl ?_
    refine gtX5_0 hE hkt wf_RX5_11 dX5_store_8 ?_
    refine g_iload_n hE dX5_store_11 rfl ?_
    refine g_iload_n hE dX5_store_12 rfl ?_
    refine g_i2b hE dX5_store_13 ?_
    obtain ⟨h10, hf⟩ := ck_of hf
    refine g_iast hE (rlX5_0 hkt) h10 dX5_store_14 ?_
    refine g_goto 38 hE dX5_store_15 (by decide) ?_
    obtain rfl := so1 hf
    exact hJ2
set_option maxHeartbeats 4000000 in
set_option maxRecDepth 100000 in
theorem c_X7_put {l : Launch} {w : WC} {s_ : Int32} {form_ : Int32} {i_ : Int32} {v_ : Int32} {z : Sg} {r0 : Int32} {z0 : Sg} (hf : f_X7_put s_ form_ i_ v_ z = some (r0, z0)) : CT false l iX7_put w [.ref 0, .int s_, .int form_, .int i_, .int v_] z (some (.int r0)) z0 := by
  refine ct_of 1 (lv := [some (.ref 0), some (.int s_), some (.int form_), some (.int i_), some (.int v_), none]) (by decide +kernel) rfl (Nat.le_of_ble_eq_true rfl) rfl (fun M hl hw hE => ?_)
  subst hl
  subst hw
  unfold f_X7_put at hf
  obtain ⟨q1, hx2, hf⟩ := b1_of hf
  have hT3 : q1 = true → G false iX7_put M (some (.int r0), z0) 16 [some (.ref 0), some (.int s_), some (.int form_), some (.int i_), some (.int v_), none] [] z := by
    intro hq5
    replace hf := it_t hf hq5
    refine g_bipush hE (-2) dX7_put_16 (by decide) ?_
    obtain ⟨rfl, rfl⟩ := so2 hf
    exact g_iret hE rfl dX7_put_18
  have hF4 : q1 = false → G false iX7_put M (some (.int r0), z0) 19 [some (.ref 0), some (.int s_), some (.int form_), some (.int i_), some (.int v_), none] [] z := by
    intro hq5
    replace hf := it_f hf (by rw [hq5]; decide)
    refine g_aload_n hE dX7_put_19 rfl ?_
    refine gtX7_9 hE kX_0 wf_RX7_68 dX7_put_20 ?_
    refine g_iload_n hE dX7_put_23 rfl ?_
    obtain ⟨h6, hf⟩ := ck_of hf
    obtain ⟨hk7, hf⟩ := ck_of hf
    refine g_aald hE kX_44 h6 dX7_put_24 ?_
    refine g_iload_n hE dX7_put_25 rfl ?_
    refine g_iload_n hE dX7_put_26 rfl ?_
    obtain ⟨r9, hc8, hf⟩ := b1_of hf
    refine g_callV2r hE mv_X5_findingAt hk7 rfl wm_RX7_273 (by decide) (Nat.le_of_ble_eq_true rfl) dX7_put_27 (c_X5_findingAt hk7 hc8) ?_
    refine g_istore [some _, some _, some _, some _, some _, some _] hE dX7_put_30 (by decide) rfl ?_
    refine g_iload hE dX7_put_32 rfl ?_
    refine g_if_eq 44 hE dX7_put_34 (by decide) (fun h10 => ?_) (fun h10 => ?_)
    · replace hf := it_f hf (fun q => q h10)
      refine g_aload_n hE dX7_put_44 rfl ?_
      refine gtX7_9 hE kX_0 wf_RX7_68 dX7_put_45 ?_
      refine g_iload_n hE dX7_put_48 rfl ?_
      obtain ⟨h11, hf⟩ := ck_of hf
      obtain ⟨hk12, hf⟩ := ck_of hf
      refine g_aald hE kX_44 h11 dX7_put_49 ?_
      refine g_iload_n hE dX7_put_50 rfl ?_
      refine g_iload hE dX7_put_51 rfl ?_
      obtain ⟨z14, hc13, hf⟩ := b1_of hf
      refine g_callV2v hE mv_X5_store hk12 rfl wm_RX7_276 (by decide) (Nat.le_of_ble_eq_true rfl) dX7_put_53 (c_X5_store hk12 hc13) ?_
      refine g_iconst hE (1) dX7_put_56 (by decide) ?_
      obtain ⟨rfl, rfl⟩ := so2 hf
      exact g_iret hE rfl dX7_put_57
    · replace hf := it_t hf h10
      refine g_aload_n hE dX7_put_37 rfl ?_
      refine g_iload hE dX7_put_38 rfl ?_
      obtain ⟨r17, z16, hc15, hf⟩ := b2_of hf
      refine g_callV1r hE mv_X7_found kX_0 rfl wm_RX7_140 (by decide) (Nat.le_of_ble_eq_true rfl) dX7_put_40 (c_X7_found hc15) ?_
      obtain ⟨rfl, rfl⟩ := so2 hf
      exact g_iret hE rfl dX7_put_43
  replace hf := hx2
  clear hx2
  refine g_iload_n hE dX7_put_0 rfl ?_
  refine g_iconst hE (4) dX7_put_1 (by decide) ?_
  obtain ⟨r19, hc18, hf⟩ := b1_of hf
  refine g_callS2r hE ms_X7_outside wm_RX7_73 (by decide) (Nat.le_of_ble_eq_true rfl) dX7_put_2 (c_X7_outside hc18) ?_
  refine g_if_ne 16 hE dX7_put_5 (by decide) (fun h20 => ?_) (fun h20 => ?_)
  · replace hf := it_t hf h20
    obtain rfl := so1 hf
    exact hT3 rfl
  · replace hf := it_f hf (fun q => q h20)
    refine g_iload_n hE dX7_put_8 rfl ?_
    refine g_iconst hE (3) dX7_put_9 (by decide) ?_
    obtain ⟨r22, hc21, hf⟩ := b1_of hf
    refine g_callS2r hE ms_X7_outside wm_RX7_73 (by decide) (Nat.le_of_ble_eq_true rfl) dX7_put_10 (c_X7_outside hc21) ?_
    refine g_if_eq 19 hE dX7_put_13 (by decide) (fun h23 => ?_) (fun h23 => ?_)
    · replace hf := it_f hf (fun q => q h23)
      obtain rfl := so1 hf
      exact hF4 rfl
    · replace hf := it_t hf h23
      obtain rfl := so1 hf
      exact hT3 rfl
set_option maxHeartbeats 4000000 in
set_option maxRecDepth 100000 in
theorem c_X7_get {l : Launch} {w : WC} {s_ : Int32} {form_ : Int32} {i_ : Int32} {z : Sg} {r0 : Int32} {z0 : Sg} (hf : f_X7_get s_ form_ i_ z = some (r0, z0)) : CT false l iX7_get w [.ref 0, .int s_, .int form_, .int i_] z (some (.int r0)) z0 := by
  refine ct_of 1 (lv := [some (.ref 0), some (.int s_), some (.int form_), some (.int i_), none]) (by decide +kernel) rfl (Nat.le_of_ble_eq_true rfl) rfl (fun M hl hw hE => ?_)
  subst hl
  subst hw
  unfold f_X7_get at hf
  obtain ⟨q1, hx2, hf⟩ := b1_of hf
  have hT3 : q1 = true → G false iX7_get M (some (.int r0), z0) 16 [some (.ref 0), some (.int s_), some (.int form_), some (.int i_), none] [] z := by
    intro hq5
    replace hf := it_t hf hq5
    refine g_ldcw hE wk_RX7_279 dX7_get_16 ?_
    obtain ⟨rfl, rfl⟩ := so2 hf
    exact g_iret hE rfl dX7_get_19
  have hF4 : q1 = false → G false iX7_get M (some (.int r0), z0) 20 [some (.ref 0), some (.int s_), some (.int form_), some (.int i_), none] [] z := by
    intro hq5
    replace hf := it_f hf (by rw [hq5]; decide)
    refine g_aload_n hE dX7_get_20 rfl ?_
    refine gtX7_9 hE kX_0 wf_RX7_68 dX7_get_21 ?_
    refine g_iload_n hE dX7_get_24 rfl ?_
    obtain ⟨h6, hf⟩ := ck_of hf
    obtain ⟨hk7, hf⟩ := ck_of hf
    refine g_aald hE kX_44 h6 dX7_get_25 ?_
    refine g_iload_n hE dX7_get_26 rfl ?_
    refine g_iload_n hE dX7_get_27 rfl ?_
    obtain ⟨r9, hc8, hf⟩ := b1_of hf
    refine g_callV2r hE mv_X5_findingAt hk7 rfl wm_RX7_273 (by decide) (Nat.le_of_ble_eq_true rfl) dX7_get_28 (c_X5_findingAt hk7 hc8) ?_
    refine g_istore [some _, some _, some _, some _, some _] hE dX7_get_31 (by decide) rfl ?_
    refine g_iload hE dX7_get_33 rfl ?_
    refine g_if_eq 48 hE dX7_get_35 (by decide) (fun h10 => ?_) (fun h10 => ?_)
    · replace hf := it_f hf (fun q => q h10)
      refine g_aload_n hE dX7_get_48 rfl ?_
      refine gtX7_9 hE kX_0 wf_RX7_68 dX7_get_49 ?_
      refine g_iload_n hE dX7_get_52 rfl ?_
      obtain ⟨h11, hf⟩ := ck_of hf
      obtain ⟨hk12, hf⟩ := ck_of hf
      refine g_aald hE kX_44 h11 dX7_get_53 ?_
      refine gtX5_0 hE hk12 wf_RX7_145 dX7_get_54 ?_
      refine g_iload_n hE dX7_get_57 rfl ?_
      obtain ⟨h13, hf⟩ := ck_of hf
      refine g_iald hE (rlX5_0 hk12) h13 dX7_get_58 ?_
      obtain ⟨rfl, rfl⟩ := so2 hf
      exact g_iret hE rfl dX7_get_59
    · replace hf := it_t hf h10
      refine g_aload_n hE dX7_get_38 rfl ?_
      refine g_iload hE dX7_get_39 rfl ?_
      refine ptX7_12 hE kX_0 wf_RX7_280 dX7_get_41 ?_
      refine g_ldcw hE wk_RX7_279 dX7_get_44 ?_
      obtain ⟨rfl, rfl⟩ := so2 hf
      exact g_iret hE rfl dX7_get_47
  replace hf := hx2
  clear hx2
  refine g_iload_n hE dX7_get_0 rfl ?_
  refine g_iconst hE (4) dX7_get_1 (by decide) ?_
  obtain ⟨r15, hc14, hf⟩ := b1_of hf
  refine g_callS2r hE ms_X7_outside wm_RX7_73 (by decide) (Nat.le_of_ble_eq_true rfl) dX7_get_2 (c_X7_outside hc14) ?_
  refine g_if_ne 16 hE dX7_get_5 (by decide) (fun h16 => ?_) (fun h16 => ?_)
  · replace hf := it_t hf h16
    obtain rfl := so1 hf
    exact hT3 rfl
  · replace hf := it_f hf (fun q => q h16)
    refine g_iload_n hE dX7_get_8 rfl ?_
    refine g_iconst hE (3) dX7_get_9 (by decide) ?_
    obtain ⟨r18, hc17, hf⟩ := b1_of hf
    refine g_callS2r hE ms_X7_outside wm_RX7_73 (by decide) (Nat.le_of_ble_eq_true rfl) dX7_get_10 (c_X7_outside hc17) ?_
    refine g_if_eq 20 hE dX7_get_13 (by decide) (fun h19 => ?_) (fun h19 => ?_)
    · replace hf := it_f hf (fun q => q h19)
      obtain rfl := so1 hf
      exact hF4 rfl
    · replace hf := it_t hf h19
      obtain rfl := so1 hf
      exact hT3 rfl
set_option maxHeartbeats 4000000 in
set_option maxRecDepth 100000 in
theorem c_X5_hasRange {l : Launch} {w : WC} {t : Nat} {from_ : Int32} {n_ : Int32} {z : Sg} {r0 : Int32} (hkt : kd false t = KX5) (hf : f_X5_hasRange t from_ n_ z = some r0) : CT false l iX5_hasRange w [.ref t, .int from_, .int n_] z (some (.int r0)) z := by
  refine ct_of 0 (lv := [some (.ref t), some (.int from_), some (.int n_)]) (by decide +kernel) rfl (Nat.le_of_ble_eq_true rfl) rfl (fun M hl hw hE => ?_)
  subst hl
  subst hw
  unfold f_X5_hasRange at hf
  obtain ⟨x1, hx2, hf⟩ := b1_of hf
  have hJ3 : G false iX5_hasRange M (some (.int r0), z) 23 [some (.ref t), some (.int from_), some (.int n_)] [.int x1] z := by
    obtain ⟨h4, hf⟩ := ck_of hf
    obtain rfl := so1 hf
    exact g_zret hE rfl (bz_nar h4) dX5_hasRange_23
  replace hf := hx2
  clear hx2
  refine g_iload_n hE dX5_hasRange_0 rfl ?_
  refine g_if_lt 22 hE dX5_hasRange_1 (by decide) (fun h5 => ?_) (fun h5 => ?_)
  · replace hf := it_f hf (cv_nge h5)
    refine g_iconst hE (0) dX5_hasRange_22 (by decide) ?_
    obtain rfl := so1 hf
    exact hJ3
  · replace hf := it_t hf (cv_ge h5)
    refine g_iload_n hE dX5_hasRange_4 rfl ?_
    refine g_if_lt 22 hE dX5_hasRange_5 (by decide) (fun h6 => ?_) (fun h6 => ?_)
    · replace hf := it_f hf (cv_nge h6)
      refine g_iconst hE (0) dX5_hasRange_22 (by decide) ?_
      obtain rfl := so1 hf
      exact hJ3
    · replace hf := it_t hf (cv_ge h6)
      refine g_iload_n hE dX5_hasRange_8 rfl ?_
      refine g_aload_n hE dX5_hasRange_9 rfl ?_
      refine gtX5_1 hE hkt wf_RX5_15 dX5_hasRange_10 ?_
      refine g_iload_n hE dX5_hasRange_13 rfl ?_
      refine g_isub hE dX5_hasRange_14 ?_
      refine g_icmp_gt 22 hE dX5_hasRange_15 (by decide) (fun h7 => ?_) (fun h7 => ?_)
      · replace hf := it_f hf (cv_nge h7)
        refine g_iconst hE (0) dX5_hasRange_22 (by decide) ?_
        obtain rfl := so1 hf
        exact hJ3
      · replace hf := it_t hf (cv_ge h7)
        refine g_iconst hE (1) dX5_hasRange_18 (by decide) ?_
        refine g_goto 23 hE dX5_hasRange_19 (by decide) ?_
        obtain rfl := so1 hf
        exact hJ3
set_option maxHeartbeats 4000000 in
set_option maxRecDepth 100000 in
theorem c_X7_copy {l : Launch} {w : WC} {s_ : Int32} {i_ : Int32} {t_ : Int32} {j_ : Int32} {n_ : Int32} {z : Sg} {r0 : Int32} {z0 : Sg} (hf : f_X7_copy s_ i_ t_ j_ n_ z = some (r0, z0)) : CT false l iX7_copy w [.ref 0, .int s_, .int i_, .int t_, .int j_, .int n_] z (some (.int r0)) z0 := by
  refine ct_of 2 (lv := [some (.ref 0), some (.int s_), some (.int i_), some (.int t_), some (.int j_), some (.int n_), none, none]) (by decide +kernel) rfl (Nat.le_of_ble_eq_true rfl) rfl (fun M hl hw hE => ?_)
  subst hl
  subst hw
  unfold f_X7_copy at hf
  obtain ⟨q1, hx2, hf⟩ := b1_of hf
  have hT3 : q1 = true → G false iX7_copy M (some (.int r0), z0) 16 [some (.ref 0), some (.int s_), some (.int i_), some (.int t_), some (.int j_), some (.int n_), none, none] [] z := by
    intro hq5
    replace hf := it_t hf hq5
    refine g_bipush hE (-2) dX7_copy_16 (by decide) ?_
    obtain ⟨rfl, rfl⟩ := so2 hf
    exact g_iret hE rfl dX7_copy_18
  have hF4 : q1 = false → G false iX7_copy M (some (.int r0), z0) 19 [some (.ref 0), some (.int s_), some (.int i_), some (.int t_), some (.int j_), some (.int n_), none, none] [] z := by
    intro hq5
    replace hf := it_f hf (by rw [hq5]; decide)
    refine g_aload_n hE dX7_copy_19 rfl ?_
    refine gtX7_9 hE kX_0 wf_RX7_68 dX7_copy_20 ?_
    refine g_iload_n hE dX7_copy_23 rfl ?_
    obtain ⟨h6, hf⟩ := ck_of hf
    obtain ⟨hk7, hf⟩ := ck_of hf
    refine g_aald hE kX_44 h6 dX7_copy_24 ?_
    refine g_astore [some _, some _, some _, some _, some _, some _, some _, none] hE dX7_copy_25 (by decide) rfl ?_
    refine g_aload_n hE dX7_copy_27 rfl ?_
    refine gtX7_9 hE kX_0 wf_RX7_68 dX7_copy_28 ?_
    refine g_iload_n hE dX7_copy_31 rfl ?_
    obtain ⟨h8, hf⟩ := ck_of hf
    obtain ⟨hk9, hf⟩ := ck_of hf
    refine g_aald hE kX_44 h8 dX7_copy_32 ?_
    refine g_astore [some _, some _, some _, some _, some _, some _, some _, some _] hE dX7_copy_33 (by decide) rfl ?_
    obtain ⟨q10, hx11, hf⟩ := b1_of hf
    have hT12 : q10 = true → G false iX7_copy M (some (.int r0), z0) 51 [some (.ref 0), some (.int s_), some (.int i_), some (.int t_), some (.int j_), some (.int n_), some (.ref (45 + 2 * ix s_)), some (.ref (45 + 2 * ix t_))] [] z := by
      intro hq14
      replace hf := it_t hf hq14
      refine g_aload_n hE dX7_copy_51 rfl ?_
      refine g_iconst hE (1) dX7_copy_52 (by decide) ?_
      obtain ⟨r17, z16, hc15, hf⟩ := b2_of hf
      refine g_callV1r hE mv_X7_found kX_0 rfl wm_RX7_140 (by decide) (Nat.le_of_ble_eq_true rfl) dX7_copy_53 (c_X7_found hc15) ?_
      obtain ⟨rfl, rfl⟩ := so2 hf
      exact g_iret hE rfl dX7_copy_56
    have hF13 : q10 = false → G false iX7_copy M (some (.int r0), z0) 57 [some (.ref 0), some (.int s_), some (.int i_), some (.int t_), some (.int j_), some (.int n_), some (.ref (45 + 2 * ix s_)), some (.ref (45 + 2 * ix t_))] [] z := by
      intro hq14
      replace hf := it_f hf (by rw [hq14]; decide)
      refine g_aload hE dX7_copy_57 rfl ?_
      refine gtX5_2 hE hk7 wf_RX7_283 dX7_copy_59 ?_
      refine g_aload hE dX7_copy_62 rfl ?_
      refine gtX5_2 hE hk9 wf_RX7_283 dX7_copy_64 ?_
      refine g_icmp_eq 76 hE dX7_copy_67 (by decide) (fun h18 => ?_) (fun h18 => ?_)
      · replace hf := it_f hf (fun q => q h18)
        obtain ⟨q19, hx20, hf⟩ := b1_of hf
        have hT21 : q19 = true → G false iX7_copy M (some (.int r0), z0) 99 [some (.ref 0), some (.int s_), some (.int i_), some (.int t_), some (.int j_), some (.int n_), some (.ref (45 + 2 * ix s_)), some (.ref (45 + 2 * ix t_))] [] z := by
          intro hq23
          replace hf := it_t hf hq23
          refine g_aload_n hE dX7_copy_99 rfl ?_
          refine g_iconst hE (2) dX7_copy_100 (by decide) ?_
          obtain ⟨r26, z25, hc24, hf⟩ := b2_of hf
          refine g_callV1r hE mv_X7_found kX_0 rfl wm_RX7_140 (by decide) (Nat.le_of_ble_eq_true rfl) dX7_copy_101 (c_X7_found hc24) ?_
          obtain ⟨rfl, rfl⟩ := so2 hf
          exact g_iret hE rfl dX7_copy_104
        have hF22 : q19 = false → G false iX7_copy M (some (.int r0), z0) 105 [some (.ref 0), some (.int s_), some (.int i_), some (.int t_), some (.int j_), some (.int n_), some (.ref (45 + 2 * ix s_)), some (.ref (45 + 2 * ix t_))] [] z := by
          intro hq23
          replace hf := it_f hf (by rw [hq23]; decide)
          refine g_aload hE dX7_copy_105 rfl ?_
          refine gtX5_0 hE hk7 wf_RX7_145 dX7_copy_107 ?_
          refine g_iload_n hE dX7_copy_110 rfl ?_
          refine g_aload hE dX7_copy_111 rfl ?_
          refine gtX5_0 hE hk9 wf_RX7_145 dX7_copy_113 ?_
          refine g_iload hE dX7_copy_116 rfl ?_
          refine g_iload hE dX7_copy_118 rfl ?_
          obtain ⟨h27, hf⟩ := ck_of hf
          refine g_copy hE wm_RX7_289 wcp_1 wcp_2 wcp_3 (rlX5_0 hk7) (rlX5_0 hk9) h27 (by decide) (Nat.le_of_ble_eq_true rfl) dX7_copy_120 ?_
          refine g_iconst hE (1) dX7_copy_123 (by decide) ?_
          obtain ⟨rfl, rfl⟩ := so2 hf
          exact g_iret hE rfl dX7_copy_124
        replace hf := hx20
        clear hx20
        refine g_aload hE dX7_copy_76 rfl ?_
        refine g_iload_n hE dX7_copy_78 rfl ?_
        refine g_iload hE dX7_copy_79 rfl ?_
        obtain ⟨r29, hc28, hf⟩ := b1_of hf
        refine g_callV2r hE mv_X5_hasRange hk7 rfl wm_RX7_286 (by decide) (Nat.le_of_ble_eq_true rfl) dX7_copy_81 (c_X5_hasRange hk7 hc28) ?_
        refine g_if_eq 99 hE dX7_copy_84 (by decide) (fun h30 => ?_) (fun h30 => ?_)
        · replace hf := it_f hf (fun q => q h30)
          obtain rfl := so1 hf
          exact hT21 rfl
        · replace hf := it_t hf h30
          refine g_aload hE dX7_copy_87 rfl ?_
          refine g_iload hE dX7_copy_89 rfl ?_
          refine g_iload hE dX7_copy_91 rfl ?_
          obtain ⟨r32, hc31, hf⟩ := b1_of hf
          refine g_callV2r hE mv_X5_hasRange hk9 rfl wm_RX7_286 (by decide) (Nat.le_of_ble_eq_true rfl) dX7_copy_93 (c_X5_hasRange hk9 hc31) ?_
          refine g_if_ne 105 hE dX7_copy_96 (by decide) (fun h33 => ?_) (fun h33 => ?_)
          · replace hf := it_t hf h33
            obtain rfl := so1 hf
            exact hF22 rfl
          · replace hf := it_f hf (fun q => q h33)
            obtain rfl := so1 hf
            exact hT21 rfl
      · replace hf := it_t hf h18
        refine g_aload_n hE dX7_copy_70 rfl ?_
        refine g_iconst hE (4) dX7_copy_71 (by decide) ?_
        obtain ⟨r36, z35, hc34, hf⟩ := b2_of hf
        refine g_callV1r hE mv_X7_found kX_0 rfl wm_RX7_140 (by decide) (Nat.le_of_ble_eq_true rfl) dX7_copy_72 (c_X7_found hc34) ?_
        obtain ⟨rfl, rfl⟩ := so2 hf
        exact g_iret hE rfl dX7_copy_75
    replace hf := hx11
    clear hx11
    refine g_aload hE dX7_copy_35 rfl ?_
    obtain ⟨r38, hc37, hf⟩ := b1_of hf
    refine g_callV0r hE mv_X5_isLost hk7 rfl wm_RX7_136 (by decide) (Nat.le_of_ble_eq_true rfl) dX7_copy_37 (c_X5_isLost hk7 hc37) ?_
    refine g_if_ne 51 hE dX7_copy_40 (by decide) (fun h39 => ?_) (fun h39 => ?_)
    · replace hf := it_t hf h39
      obtain rfl := so1 hf
      exact hT12 rfl
    · replace hf := it_f hf (fun q => q h39)
      refine g_aload hE dX7_copy_43 rfl ?_
      obtain ⟨r41, hc40, hf⟩ := b1_of hf
      refine g_callV0r hE mv_X5_isLost hk9 rfl wm_RX7_136 (by decide) (Nat.le_of_ble_eq_true rfl) dX7_copy_45 (c_X5_isLost hk9 hc40) ?_
      refine g_if_eq 57 hE dX7_copy_48 (by decide) (fun h42 => ?_) (fun h42 => ?_)
      · replace hf := it_f hf (fun q => q h42)
        obtain rfl := so1 hf
        exact hF13 rfl
      · replace hf := it_t hf h42
        obtain rfl := so1 hf
        exact hT12 rfl
  replace hf := hx2
  clear hx2
  refine g_iload_n hE dX7_copy_0 rfl ?_
  refine g_iconst hE (4) dX7_copy_1 (by decide) ?_
  obtain ⟨r44, hc43, hf⟩ := b1_of hf
  refine g_callS2r hE ms_X7_outside wm_RX7_73 (by decide) (Nat.le_of_ble_eq_true rfl) dX7_copy_2 (c_X7_outside hc43) ?_
  refine g_if_ne 16 hE dX7_copy_5 (by decide) (fun h45 => ?_) (fun h45 => ?_)
  · replace hf := it_t hf h45
    obtain rfl := so1 hf
    exact hT3 rfl
  · replace hf := it_f hf (fun q => q h45)
    refine g_iload_n hE dX7_copy_8 rfl ?_
    refine g_iconst hE (4) dX7_copy_9 (by decide) ?_
    obtain ⟨r47, hc46, hf⟩ := b1_of hf
    refine g_callS2r hE ms_X7_outside wm_RX7_73 (by decide) (Nat.le_of_ble_eq_true rfl) dX7_copy_10 (c_X7_outside hc46) ?_
    refine g_if_eq 19 hE dX7_copy_13 (by decide) (fun h48 => ?_) (fun h48 => ?_)
    · replace hf := it_f hf (fun q => q h48)
      obtain rfl := so1 hf
      exact hF4 rfl
    · replace hf := it_t hf h48
      obtain rfl := so1 hf
      exact hT3 rfl
