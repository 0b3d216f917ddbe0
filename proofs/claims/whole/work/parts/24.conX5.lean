/-! CONTRACTS. Printed by wip/whole/gen/mkall.py out of the Java text. -/
set_option maxHeartbeats 4000000 in
set_option maxRecDepth 100000 in
theorem c_X7_write {l : Launch} {w : WC} {s_ : Int32} {z : Sg} {r0 : Int32} {z0 : Sg} (hf : f_X7_write s_ z = some (r0, z0)) : CT false l iX7_write w [.ref 0, .int s_] z (some (.int r0)) z0 := by
  refine ct_of 4 (lv := [some (.ref 0), some (.int s_), none, none, none, none]) (by decide +kernel) rfl (Nat.le_of_ble_eq_true rfl) rfl (fun M hl hw hE => ?_)
  subst hl
  subst hw
  unfold f_X7_write at hf
  refine g_iload_n hE dX7_write_0 rfl ?_
  refine g_iconst hE (4) dX7_write_1 (by decide) ?_
  obtain ⟨r2, hc1, hf⟩ := b1_of hf
  refine g_callS2r hE ms_X7_outside wm_RX7_73 (by decide) (Nat.le_of_ble_eq_true rfl) dX7_write_2 (c_X7_outside hc1) ?_
  refine g_if_eq 11 hE dX7_write_5 (by decide) (fun h3 => ?_) (fun h3 => ?_)
  · replace hf := it_f hf (fun q => q h3)
    refine g_aload_n hE dX7_write_11 rfl ?_
    refine gtX7_9 hE kX_0 wf_RX7_68 dX7_write_12 ?_
    refine g_iload_n hE dX7_write_15 rfl ?_
    obtain ⟨h4, hf⟩ := ck_of hf
    obtain ⟨hk5, hf⟩ := ck_of hf
    refine g_aald hE kX_44 h4 dX7_write_16 ?_
    refine g_astore_n [some _, some _, some _, none, none, none] hE dX7_write_17 (by decide) rfl ?_
    refine g_aload_n hE dX7_write_18 rfl ?_
    obtain ⟨r7, hc6, hf⟩ := b1_of hf
    refine g_callV0r hE mv_X5_isLost hk5 rfl wm_RX7_136 (by decide) (Nat.le_of_ble_eq_true rfl) dX7_write_19 (c_X5_isLost hk5 hc6) ?_
    refine g_if_eq 31 hE dX7_write_22 (by decide) (fun h8 => ?_) (fun h8 => ?_)
    · replace hf := it_f hf (fun q => q h8)
      refine g_aload_n hE dX7_write_31 rfl ?_
      obtain ⟨r11, z10, hc9, hf⟩ := b2_of hf
      refine g_callV0r hE mv_X7_toldRun kX_0 rfl wm_RX7_151 (by decide) (Nat.le_of_ble_eq_true rfl) dX7_write_32 (c_X7_toldRun hc9) ?_
      obtain ⟨hk12, hf⟩ := ck_of hf
      refine g_astore_n [some _, some _, some _, some _, none, none] hE dX7_write_35 (by decide) rfl ?_
      refine g_aload_n hE dX7_write_36 rfl ?_
      refine gtX5_1 hE hk5 wf_RX7_144 dX7_write_37 ?_
      refine g_bipush hE (40) dX7_write_40 (by decide) ?_
      refine g_mmin hE wm_RX7_237 (by decide) (Nat.le_of_ble_eq_true rfl) dX7_write_42 ?_
      refine g_istore [some _, some _, some _, some _, some _, none] hE dX7_write_45 (by decide) rfl ?_
      refine g_iconst hE (0) dX7_write_47 (by decide) ?_
      refine g_istore [some _, some _, some _, some _, some _, some _] hE dX7_write_48 (by decide) rfl ?_
      obtain ⟨z20, hx18, hf⟩ := b1_of hf
      have hJ19 : G false iX7_write M (some (.int r0), z0) 76 [some (.ref 0), some (.int s_), some (.ref (45 + 2 * ix s_)), some (.ref r11), some (.int (if (40 : Int32) < (rI z10 (45 + 2 * ix s_) 1) then (40 : Int32) else (rI z10 (45 + 2 * ix s_) 1))), none] [] z20 := by
        refine g_iload hE dX7_write_76 rfl ?_
        obtain ⟨rfl, rfl⟩ := so2 hf
        exact g_iret hE rfl dX7_write_78
      clear hf
      have hl15 : ∀ (n17 : Nat) (week_13 : Int32) (z14 : Sg), f_X7_write_lp1 (45 + 2 * ix s_) r11 (if (40 : Int32) < (rI z10 (45 + 2 * ix s_) 1) then (40 : Int32) else (rI z10 (45 + 2 * ix s_) 1)) n17 week_13 z14 = some z20 → G false iX7_write M (some (.int r0), z0) 50 [some (.ref 0), some (.int s_), some (.ref (45 + 2 * ix s_)), some (.ref r11), some (.int (if (40 : Int32) < (rI z10 (45 + 2 * ix s_) 1) then (40 : Int32) else (rI z10 (45 + 2 * ix s_) 1))), some (.int week_13)] [] z14 := by
        intro n17
        induction n17 with
        | zero => intro week_13 z14 hf; cases hf
        | succ n17 ih16 =>
          intro week_13 z14 hf
          rw [f_X7_write_lp1] at hf
          refine g_iload hE dX7_write_50 rfl ?_
          refine g_iload hE dX7_write_52 rfl ?_
          refine g_icmp_ge 76 hE dX7_write_54 (by decide) (fun h21 => ?_) (fun h21 => ?_)
          · replace hf := it_f hf (cv_ngt h21)
            obtain rfl := so1 hf
            exact g_wk [true, true, true, true, true, false] rfl hJ19
          · replace hf := it_t hf (cv_gt h21)
            refine g_aload_n hE dX7_write_57 rfl ?_
            refine g_iload hE dX7_write_58 rfl ?_
            refine g_aload_n hE dX7_write_60 rfl ?_
            refine gtX4_7 hE hk12 wf_RX7_155 dX7_write_61 ?_
            refine g_iload hE dX7_write_64 rfl ?_
            obtain ⟨h22, hf⟩ := ck_of hf
            refine g_iald hE (rlX4_7 hk12) h22 dX7_write_66 ?_
            obtain ⟨z24, hc23, hf⟩ := b1_of hf
            refine g_callV2v hE mv_X5_store hk5 rfl wm_RX7_276 (by decide) (Nat.le_of_ble_eq_true rfl) dX7_write_67 (c_X5_store hk5 hc23) ?_
            refine g_iinc [some _, some _, some _, some _, some _, some _] hE (week_13 + (1 : Int32)) dX7_write_70 rfl rfl (by decide) rfl ?_
            refine g_goto 50 hE dX7_write_73 (by decide) ?_
            exact (ih16 _ _ hf)
      exact hl15 _ _ _ hx18
    · replace hf := it_t hf h8
      refine g_aload_n hE dX7_write_25 rfl ?_
      refine g_iconst hE (1) dX7_write_26 (by decide) ?_
      obtain ⟨r27, z26, hc25, hf⟩ := b2_of hf
      refine g_callV1r hE mv_X7_found kX_0 rfl wm_RX7_140 (by decide) (Nat.le_of_ble_eq_true rfl) dX7_write_27 (c_X7_found hc25) ?_
      obtain ⟨rfl, rfl⟩ := so2 hf
      exact g_iret hE rfl dX7_write_30
  · replace hf := it_t hf h3
    refine g_bipush hE (-2) dX7_write_8 (by decide) ?_
    obtain ⟨rfl, rfl⟩ := so2 hf
    exact g_iret hE rfl dX7_write_10
set_option maxHeartbeats 4000000 in
set_option maxRecDepth 100000 in
theorem c_X2_worthOfAll {l : Launch} {w : WC} {z : Sg} {r0 : Int32} (hf : f_X2_worthOfAll z = some r0) : CT false l iX2_worthOfAll w [.ref 9] z (some (.int r0)) z := by
  refine ct_of 2 (lv := [some (.ref 9), none, none]) (by decide +kernel) rfl (Nat.le_of_ble_eq_true rfl) rfl (fun M hl hw hE => ?_)
  subst hl
  subst hw
  unfold f_X2_worthOfAll at hf
  refine g_iconst hE (0) dX2_worthOfAll_0 (by decide) ?_
  refine g_istore_n [some _, some _, none] hE dX2_worthOfAll_1 (by decide) rfl ?_
  refine g_iconst hE (0) dX2_worthOfAll_2 (by decide) ?_
  refine g_istore_n [some _, some _, some _] hE dX2_worthOfAll_3 (by decide) rfl ?_
  obtain ⟨worth_8, hx6, hf⟩ := b1_of hf
  have hJ7 : G false iX2_worthOfAll M (some (.int r0), z) 33 [some (.ref 9), some (.int worth_8), none] [] z := by
    refine g_iload_n hE dX2_worthOfAll_33 rfl ?_
    obtain rfl := so1 hf
    exact g_iret hE rfl dX2_worthOfAll_34
  clear hf
  have hl3 : ∀ (n5 : Nat) (worth_1 : Int32) (v_2 : Int32), f_X2_worthOfAll_lp1 z n5 worth_1 v_2 = some worth_8 → G false iX2_worthOfAll M (some (.int r0), z) 4 [some (.ref 9), some (.int worth_1), some (.int v_2)] [] z := by
    intro n5
    induction n5 with
    | zero => intro worth_1 v_2 hf; cases hf
    | succ n5 ih4 =>
      intro worth_1 v_2 hf
      rw [f_X2_worthOfAll_lp1] at hf
      refine g_iload_n hE dX2_worthOfAll_4 rfl ?_
      refine g_aload_n hE dX2_worthOfAll_5 rfl ?_
      refine gtX2_0 hE kX_9 wf_RX2_18 dX2_worthOfAll_6 ?_
      refine gtX1_5 hE kX_1 wf_RX2_34 dX2_worthOfAll_9 ?_
      refine g_icmp_ge 33 hE dX2_worthOfAll_12 (by decide) (fun h9 => ?_) (fun h9 => ?_)
      · replace hf := it_f hf (cv_ngt h9)
        obtain rfl := so1 hf
        exact g_wk [true, true, false] rfl hJ7
      · replace hf := it_t hf (cv_gt h9)
        refine g_iload_n hE dX2_worthOfAll_15 rfl ?_
        refine g_aload_n hE dX2_worthOfAll_16 rfl ?_
        refine gtX2_0 hE kX_9 wf_RX2_18 dX2_worthOfAll_17 ?_
        refine gtX1_3 hE kX_1 wf_RX2_50 dX2_worthOfAll_20 ?_
        show G false iX2_worthOfAll M (some (.int r0), z) 23 [some (.ref 9), some (.int worth_1), some (.int v_2)] [.ref 4, .int worth_1] z
        refine g_iload_n hE dX2_worthOfAll_23 rfl ?_
        obtain ⟨h10, hf⟩ := ck_of hf
        refine g_iald hE kX_4 h10 dX2_worthOfAll_24 ?_
        refine g_iadd hE dX2_worthOfAll_25 ?_
        refine g_istore_n [some _, some _, some _] hE dX2_worthOfAll_26 (by decide) rfl ?_
        refine g_iinc [some _, some _, some _] hE (v_2 + (1 : Int32)) dX2_worthOfAll_27 rfl rfl (by decide) rfl ?_
        refine g_goto 4 hE dX2_worthOfAll_30 (by decide) ?_
        exact (ih4 _ _ hf)
  exact hl3 _ _ _ hx6
set_option maxHeartbeats 4000000 in
set_option maxRecDepth 100000 in
theorem c_X7_count {l : Launch} {w : WC} {what_ : Int32} {z : Sg} {r0 : Int32} (hf : f_X7_count what_ z = some r0) : CT false l iX7_count w [.ref 0, .int what_] z (some (.int r0)) z := by
  refine ct_of 0 (lv := [some (.ref 0), some (.int what_)]) (by decide +kernel) rfl (Nat.le_of_ble_eq_true rfl) rfl (fun M hl hw hE => ?_)
  subst hl
  subst hw
  unfold f_X7_count at hf
  refine g_iload_n hE dX7_count_0 rfl ?_
  by_cases hs0 : what_ = 0
  · replace hf := it_t hf hs0
    subst hs0
    refine g_tabIn 52 hE dX7_count_1 (by decide) (by decide) rfl (by decide) ?_
    refine g_aload_n hE dX7_count_52 rfl ?_
    refine gtX7_0 hE kX_0 wf_RX7_12 dX7_count_53 ?_
    refine gtX1_5 hE kX_1 wf_RX7_177 dX7_count_56 ?_
    obtain rfl := so1 hf
    exact g_iret hE rfl dX7_count_59
  · replace hf := it_f hf hs0
    by_cases hs1 : what_ = 1
    · replace hf := it_t hf hs1
      subst hs1
      refine g_tabIn 60 hE dX7_count_1 (by decide) (by decide) rfl (by decide) ?_
      refine g_aload_n hE dX7_count_60 rfl ?_
      refine gtX7_1 hE kX_0 wf_RX7_18 dX7_count_61 ?_
      refine gtX1_5 hE kX_5 wf_RX7_177 dX7_count_64 ?_
      obtain rfl := so1 hf
      exact g_iret hE rfl dX7_count_67
    · replace hf := it_f hf hs1
      by_cases hs2 : what_ = 2
      · replace hf := it_t hf hs2
        subst hs2
        refine g_tabIn 68 hE dX7_count_1 (by decide) (by decide) rfl (by decide) ?_
        refine g_aload_n hE dX7_count_68 rfl ?_
        refine gtX7_0 hE kX_0 wf_RX7_12 dX7_count_69 ?_
        refine gtX1_4 hE kX_1 wf_RX7_81 dX7_count_72 ?_
        obtain rfl := so1 hf
        exact g_iret hE rfl dX7_count_75
      · replace hf := it_f hf hs2
        by_cases hs3 : what_ = 3
        · replace hf := it_t hf hs3
          subst hs3
          refine g_tabIn 76 hE dX7_count_1 (by decide) (by decide) rfl (by decide) ?_
          refine g_aload_n hE dX7_count_76 rfl ?_
          refine gtX7_1 hE kX_0 wf_RX7_18 dX7_count_77 ?_
          refine gtX1_4 hE kX_5 wf_RX7_81 dX7_count_80 ?_
          obtain rfl := so1 hf
          exact g_iret hE rfl dX7_count_83
        · replace hf := it_f hf hs3
          by_cases hs4 : what_ = 4
          · replace hf := it_t hf hs4
            subst hs4
            refine g_tabIn 84 hE dX7_count_1 (by decide) (by decide) rfl (by decide) ?_
            refine g_aload_n hE dX7_count_84 rfl ?_
            refine gtX7_3 hE kX_0 wf_RX7_33 dX7_count_85 ?_
            refine gtX0_2 hE kX_10 wf_RX7_135 dX7_count_88 ?_
            obtain rfl := so1 hf
            exact g_iret hE rfl dX7_count_91
          · replace hf := it_f hf hs4
            by_cases hs5 : what_ = 5
            · replace hf := it_t hf hs5
              subst hs5
              refine g_tabIn 92 hE dX7_count_1 (by decide) (by decide) rfl (by decide) ?_
              refine g_aload_n hE dX7_count_92 rfl ?_
              refine gtX7_4 hE kX_0 wf_RX7_37 dX7_count_93 ?_
              refine gtX0_2 hE kX_13 wf_RX7_135 dX7_count_96 ?_
              obtain rfl := so1 hf
              exact g_iret hE rfl dX7_count_99
            · replace hf := it_f hf hs5
              by_cases hs6 : what_ = 6
              · replace hf := it_t hf hs6
                subst hs6
                refine g_tabIn 100 hE dX7_count_1 (by decide) (by decide) rfl (by decide) ?_
                refine g_aload_n hE dX7_count_100 rfl ?_
                refine gtX7_5 hE kX_0 wf_RX7_43 dX7_count_101 ?_
                refine gtX6_3 hE kX_16 wf_RX7_252 dX7_count_104 ?_
                obtain rfl := so1 hf
                exact g_iret hE rfl dX7_count_107
              · replace hf := it_f hf hs6
                by_cases hs7 : what_ = 7
                · replace hf := it_t hf hs7
                  subst hs7
                  refine g_tabIn 108 hE dX7_count_1 (by decide) (by decide) rfl (by decide) ?_
                  refine g_aload_n hE dX7_count_108 rfl ?_
                  refine gtX7_2 hE kX_0 wf_RX7_26 dX7_count_109 ?_
                  obtain ⟨r4, hc3, hf⟩ := b1_of hf
                  refine g_callV0r hE mv_X2_worthOfAll kX_9 rfl wm_RX7_295 (by decide) (Nat.le_of_ble_eq_true rfl) dX7_count_112 (c_X2_worthOfAll hc3) ?_
                  obtain rfl := so1 hf
                  exact g_iret hE rfl dX7_count_115
                · replace hf := it_f hf hs7
                  by_cases hs8 : what_ = 8
                  · replace hf := it_t hf hs8
                    subst hs8
                    refine g_tabIn 116 hE dX7_count_1 (by decide) (by decide) rfl (by decide) ?_
                    refine g_aload_n hE dX7_count_116 rfl ?_
                    refine gtX7_12 hE kX_0 wf_RX7_280 dX7_count_117 ?_
                    obtain rfl := so1 hf
                    exact g_iret hE rfl dX7_count_120
                  · replace hf := it_f hf hs8
                    refine g_tabOut 121 hE dX7_count_1 (by have a0 : (what_).toInt ≠ 0 := ne_toInt hs0; have a1 : (what_).toInt ≠ 1 := ne_toInt hs1; have a2 : (what_).toInt ≠ 2 := ne_toInt hs2; have a3 : (what_).toInt ≠ 3 := ne_toInt hs3; have a4 : (what_).toInt ≠ 4 := ne_toInt hs4; have a5 : (what_).toInt ≠ 5 := ne_toInt hs5; have a6 : (what_).toInt ≠ 6 := ne_toInt hs6; have a7 : (what_).toInt ≠ 7 := ne_toInt hs7; have a8 : (what_).toInt ≠ 8 := ne_toInt hs8; omega) (by decide) ?_
                    refine g_bipush hE (-2) dX7_count_121 (by decide) ?_
                    obtain rfl := so1 hf
                    exact g_iret hE rfl dX7_count_123
set_option maxHeartbeats 4000000 in
set_option maxRecDepth 100000 in
theorem c_X7_mixed {l : Launch} {w : WC} {h_ : Int64} {answer_ : Int64} {z : Sg} {r0 : Int64} (hf : f_X7_mixed h_ answer_ = some r0) : CT false l iX7_mixed w [.long h_, .long answer_] z (some (.long r0)) z := by
  refine ct_of 0 (lv := [some (.long h_), none, some (.long answer_), none]) (by decide +kernel) rfl (Nat.le_of_ble_eq_true rfl) rfl (fun M hl hw hE => ?_)
  subst hl
  subst hw
  unfold f_X7_mixed at hf
  refine g_ldc2 hE wk_RX7_324 dX7_mixed_0 ?_
  refine g_lload_n hE dX7_mixed_3 rfl ?_
  refine g_lmul hE dX7_mixed_4 ?_
  refine g_lload_n hE dX7_mixed_5 rfl ?_
  refine g_ladd hE dX7_mixed_6 ?_
  obtain rfl := so1 hf
  exact g_lret hE rfl dX7_mixed_7
set_option maxHeartbeats 4000000 in
set_option maxRecDepth 100000 in
theorem c_X7_claimantMixed {l : Launch} {w : WC} {before_ : Int64} {c_ : Int32} {z : Sg} {r0 : Int64} (hf : f_X7_claimantMixed before_ c_ z = some r0) : CT false l iX7_claimantMixed w [.ref 0, .long before_, .int c_] z (some (.long r0)) z := by
  refine ct_of 2 (lv := [some (.ref 0), some (.long before_), none, some (.int c_), none, none]) (by decide +kernel) rfl (Nat.le_of_ble_eq_true rfl) rfl (fun M hl hw hE => ?_)
  subst hl
  subst hw
  unfold f_X7_claimantMixed at hf
  refine g_lload_n hE dX7_claimantMixed_0 rfl ?_
  refine g_aload_n hE dX7_claimantMixed_1 rfl ?_
  refine g_iload_n hE dX7_claimantMixed_2 rfl ?_
  refine g_iconst hE (0) dX7_claimantMixed_3 (by decide) ?_
  obtain ⟨r2, hc1, hf⟩ := b1_of hf
  refine g_callV2r hE mv_X7_claimant kX_0 rfl wm_RX7_351 (by decide) (Nat.le_of_ble_eq_true rfl) dX7_claimantMixed_4 (c_X7_claimant hc1) ?_
  refine g_i2l hE dX7_claimantMixed_7 ?_
  obtain ⟨r4, hc3, hf⟩ := b1_of hf
  refine g_callS2r hE ms_X7_mixed wm_RX7_303 (by decide) (Nat.le_of_ble_eq_true rfl) dX7_claimantMixed_8 (c_X7_mixed hc3) ?_
  refine g_lstore [some _, some _, none, some _, some _, none] hE dX7_claimantMixed_11 (by decide) rfl ?_
  refine g_lload hE dX7_claimantMixed_13 rfl ?_
  refine g_aload_n hE dX7_claimantMixed_15 rfl ?_
  refine g_iload_n hE dX7_claimantMixed_16 rfl ?_
  refine g_iconst hE (1) dX7_claimantMixed_17 (by decide) ?_
  obtain ⟨r6, hc5, hf⟩ := b1_of hf
  refine g_callV2r hE mv_X7_claimant kX_0 rfl wm_RX7_351 (by decide) (Nat.le_of_ble_eq_true rfl) dX7_claimantMixed_18 (c_X7_claimant hc5) ?_
  refine g_i2l hE dX7_claimantMixed_21 ?_
  obtain ⟨r8, hc7, hf⟩ := b1_of hf
  refine g_callS2r hE ms_X7_mixed wm_RX7_303 (by decide) (Nat.le_of_ble_eq_true rfl) dX7_claimantMixed_22 (c_X7_mixed hc7) ?_
  refine g_lstore [some _, some _, none, some _, some _, none] hE dX7_claimantMixed_25 (by decide) rfl ?_
  refine g_lload hE dX7_claimantMixed_27 rfl ?_
  refine g_aload_n hE dX7_claimantMixed_29 rfl ?_
  refine g_iload_n hE dX7_claimantMixed_30 rfl ?_
  refine g_iconst hE (2) dX7_claimantMixed_31 (by decide) ?_
  obtain ⟨r10, hc9, hf⟩ := b1_of hf
  refine g_callV2r hE mv_X7_claimant kX_0 rfl wm_RX7_351 (by decide) (Nat.le_of_ble_eq_true rfl) dX7_claimantMixed_32 (c_X7_claimant hc9) ?_
  refine g_i2l hE dX7_claimantMixed_35 ?_
  obtain ⟨r12, hc11, hf⟩ := b1_of hf
  refine g_callS2r hE ms_X7_mixed wm_RX7_303 (by decide) (Nat.le_of_ble_eq_true rfl) dX7_claimantMixed_36 (c_X7_mixed hc11) ?_
  refine g_lstore [some _, some _, none, some _, some _, none] hE dX7_claimantMixed_39 (by decide) rfl ?_
  refine g_lload hE dX7_claimantMixed_41 rfl ?_
  refine g_aload_n hE dX7_claimantMixed_43 rfl ?_
  refine g_iconst hE (0) dX7_claimantMixed_44 (by decide) ?_
  refine g_iload_n hE dX7_claimantMixed_45 rfl ?_
  obtain ⟨r14, hc13, hf⟩ := b1_of hf
  refine g_callV2r hE mv_X7_fitting kX_0 rfl wm_RX7_332 (by decide) (Nat.le_of_ble_eq_true rfl) dX7_claimantMixed_46 (c_X7_fitting hc13) ?_
  refine g_i2l hE dX7_claimantMixed_49 ?_
  obtain ⟨r16, hc15, hf⟩ := b1_of hf
  refine g_callS2r hE ms_X7_mixed wm_RX7_303 (by decide) (Nat.le_of_ble_eq_true rfl) dX7_claimantMixed_50 (c_X7_mixed hc15) ?_
  refine g_lstore [some _, some _, none, some _, some _, none] hE dX7_claimantMixed_53 (by decide) rfl ?_
  refine g_lload hE dX7_claimantMixed_55 rfl ?_
  refine g_aload_n hE dX7_claimantMixed_57 rfl ?_
  refine g_iload_n hE dX7_claimantMixed_58 rfl ?_
  obtain ⟨r18, hc17, hf⟩ := b1_of hf
  refine g_callV1r hE mv_X7_ask kX_0 rfl wm_RX7_354 (by decide) (Nat.le_of_ble_eq_true rfl) dX7_claimantMixed_59 (c_X7_ask hc17) ?_
  refine g_i2l hE dX7_claimantMixed_62 ?_
  obtain ⟨r20, hc19, hf⟩ := b1_of hf
  refine g_callS2r hE ms_X7_mixed wm_RX7_303 (by decide) (Nat.le_of_ble_eq_true rfl) dX7_claimantMixed_63 (c_X7_mixed hc19) ?_
  obtain rfl := so1 hf
  exact g_lret hE rfl dX7_claimantMixed_66
set_option maxHeartbeats 4000000 in
set_option maxRecDepth 100000 in
theorem c_X7_virtueMixed {l : Launch} {w : WC} {before_ : Int64} {v_ : Int32} {z : Sg} {r0 : Int64} {z0 : Sg} (hf : f_X7_virtueMixed before_ v_ z = some (r0, z0)) : CT false l iX7_virtueMixed w [.ref 0, .long before_, .int v_] z (some (.long r0)) z0 := by
  refine ct_of 2 (lv := [some (.ref 0), some (.long before_), none, some (.int v_), none, none]) (by decide +kernel) rfl (Nat.le_of_ble_eq_true rfl) rfl (fun M hl hw hE => ?_)
  subst hl
  subst hw
  unfold f_X7_virtueMixed at hf
  refine g_lload_n hE dX7_virtueMixed_0 rfl ?_
  refine g_aload_n hE dX7_virtueMixed_1 rfl ?_
  refine g_iload_n hE dX7_virtueMixed_2 rfl ?_
  refine g_iconst hE (0) dX7_virtueMixed_3 (by decide) ?_
  obtain ⟨r2, hc1, hf⟩ := b1_of hf
  refine g_callV2r hE mv_X7_virtue kX_0 rfl wm_RX7_326 (by decide) (Nat.le_of_ble_eq_true rfl) dX7_virtueMixed_4 (c_X7_virtue hc1) ?_
  refine g_i2l hE dX7_virtueMixed_7 ?_
  obtain ⟨r4, hc3, hf⟩ := b1_of hf
  refine g_callS2r hE ms_X7_mixed wm_RX7_303 (by decide) (Nat.le_of_ble_eq_true rfl) dX7_virtueMixed_8 (c_X7_mixed hc3) ?_
  refine g_lstore [some _, some _, none, some _, some _, none] hE dX7_virtueMixed_11 (by decide) rfl ?_
  refine g_lload hE dX7_virtueMixed_13 rfl ?_
  refine g_aload_n hE dX7_virtueMixed_15 rfl ?_
  refine g_iload_n hE dX7_virtueMixed_16 rfl ?_
  refine g_iconst hE (1) dX7_virtueMixed_17 (by decide) ?_
  obtain ⟨r6, hc5, hf⟩ := b1_of hf
  refine g_callV2r hE mv_X7_virtue kX_0 rfl wm_RX7_326 (by decide) (Nat.le_of_ble_eq_true rfl) dX7_virtueMixed_18 (c_X7_virtue hc5) ?_
  refine g_i2l hE dX7_virtueMixed_21 ?_
  obtain ⟨r8, hc7, hf⟩ := b1_of hf
  refine g_callS2r hE ms_X7_mixed wm_RX7_303 (by decide) (Nat.le_of_ble_eq_true rfl) dX7_virtueMixed_22 (c_X7_mixed hc7) ?_
  refine g_lstore [some _, some _, none, some _, some _, none] hE dX7_virtueMixed_25 (by decide) rfl ?_
  refine g_lload hE dX7_virtueMixed_27 rfl ?_
  refine g_aload_n hE dX7_virtueMixed_29 rfl ?_
  refine g_iload_n hE dX7_virtueMixed_30 rfl ?_
  refine g_iconst hE (0) dX7_virtueMixed_31 (by decide) ?_
  obtain ⟨r11, z10, hc9, hf⟩ := b2_of hf
  refine g_callV2r hE mv_X7_gone kX_0 rfl wm_RX7_329 (by decide) (Nat.le_of_ble_eq_true rfl) dX7_virtueMixed_32 (c_X7_gone hc9) ?_
  refine g_i2l hE dX7_virtueMixed_35 ?_
  obtain ⟨r13, hc12, hf⟩ := b1_of hf
  refine g_callS2r hE ms_X7_mixed wm_RX7_303 (by decide) (Nat.le_of_ble_eq_true rfl) dX7_virtueMixed_36 (c_X7_mixed hc12) ?_
  refine g_lstore [some _, some _, none, some _, some _, none] hE dX7_virtueMixed_39 (by decide) rfl ?_
  refine g_lload hE dX7_virtueMixed_41 rfl ?_
  refine g_aload_n hE dX7_virtueMixed_43 rfl ?_
  refine g_iload_n hE dX7_virtueMixed_44 rfl ?_
  refine g_iconst hE (1) dX7_virtueMixed_45 (by decide) ?_
  obtain ⟨r16, z15, hc14, hf⟩ := b2_of hf
  refine g_callV2r hE mv_X7_gone kX_0 rfl wm_RX7_329 (by decide) (Nat.le_of_ble_eq_true rfl) dX7_virtueMixed_46 (c_X7_gone hc14) ?_
  refine g_i2l hE dX7_virtueMixed_49 ?_
  obtain ⟨r18, hc17, hf⟩ := b1_of hf
  refine g_callS2r hE ms_X7_mixed wm_RX7_303 (by decide) (Nat.le_of_ble_eq_true rfl) dX7_virtueMixed_50 (c_X7_mixed hc17) ?_
  refine g_lstore [some _, some _, none, some _, some _, none] hE dX7_virtueMixed_53 (by decide) rfl ?_
  refine g_lload hE dX7_virtueMixed_55 rfl ?_
  refine g_aload_n hE dX7_virtueMixed_57 rfl ?_
  refine g_iconst hE (1) dX7_virtueMixed_58 (by decide) ?_
  refine g_iload_n hE dX7_virtueMixed_59 rfl ?_
  obtain ⟨r20, hc19, hf⟩ := b1_of hf
  refine g_callV2r hE mv_X7_fitting kX_0 rfl wm_RX7_332 (by decide) (Nat.le_of_ble_eq_true rfl) dX7_virtueMixed_60 (c_X7_fitting hc19) ?_
  refine g_i2l hE dX7_virtueMixed_63 ?_
  obtain ⟨r22, hc21, hf⟩ := b1_of hf
  refine g_callS2r hE ms_X7_mixed wm_RX7_303 (by decide) (Nat.le_of_ble_eq_true rfl) dX7_virtueMixed_64 (c_X7_mixed hc21) ?_
  refine g_lstore [some _, some _, none, some _, some _, none] hE dX7_virtueMixed_67 (by decide) rfl ?_
  refine g_lload hE dX7_virtueMixed_69 rfl ?_
  refine g_aload_n hE dX7_virtueMixed_71 rfl ?_
  refine g_iload_n hE dX7_virtueMixed_72 rfl ?_
  obtain ⟨r25, z24, hc23, hf⟩ := b2_of hf
  refine g_callV1r hE mv_X7_match kX_0 rfl wm_RX7_335 (by decide) (Nat.le_of_ble_eq_true rfl) dX7_virtueMixed_73 (c_X7_match hc23) ?_
  refine g_i2l hE dX7_virtueMixed_76 ?_
  obtain ⟨r27, hc26, hf⟩ := b1_of hf
  refine g_callS2r hE ms_X7_mixed wm_RX7_303 (by decide) (Nat.le_of_ble_eq_true rfl) dX7_virtueMixed_77 (c_X7_mixed hc26) ?_
  refine g_lstore [some _, some _, none, some _, some _, none] hE dX7_virtueMixed_80 (by decide) rfl ?_
  refine g_lload hE dX7_virtueMixed_82 rfl ?_
  refine g_aload_n hE dX7_virtueMixed_84 rfl ?_
  refine g_iload_n hE dX7_virtueMixed_85 rfl ?_
  obtain ⟨r29, hc28, hf⟩ := b1_of hf
  refine g_callV1r hE mv_X7_lie kX_0 rfl wm_RX7_338 (by decide) (Nat.le_of_ble_eq_true rfl) dX7_virtueMixed_86 (c_X7_lie hc28) ?_
  refine g_i2l hE dX7_virtueMixed_89 ?_
  obtain ⟨r31, hc30, hf⟩ := b1_of hf
  refine g_callS2r hE ms_X7_mixed wm_RX7_303 (by decide) (Nat.le_of_ble_eq_true rfl) dX7_virtueMixed_90 (c_X7_mixed hc30) ?_
  refine g_lstore [some _, some _, none, some _, some _, none] hE dX7_virtueMixed_93 (by decide) rfl ?_
  refine g_lload hE dX7_virtueMixed_95 rfl ?_
  refine g_aload_n hE dX7_virtueMixed_97 rfl ?_
  refine g_iload_n hE dX7_virtueMixed_98 rfl ?_
  refine g_iconst hE (0) dX7_virtueMixed_99 (by decide) ?_
  obtain ⟨r33, hc32, hf⟩ := b1_of hf
  refine g_callV2r hE mv_X7_guess kX_0 rfl wm_RX7_341 (by decide) (Nat.le_of_ble_eq_true rfl) dX7_virtueMixed_100 (c_X7_guess hc32) ?_
  obtain ⟨r35, hc34, hf⟩ := b1_of hf
  refine g_callS2r hE ms_X7_mixed wm_RX7_303 (by decide) (Nat.le_of_ble_eq_true rfl) dX7_virtueMixed_103 (c_X7_mixed hc34) ?_
  refine g_lstore [some _, some _, none, some _, some _, none] hE dX7_virtueMixed_106 (by decide) rfl ?_
  refine g_lload hE dX7_virtueMixed_108 rfl ?_
  refine g_aload_n hE dX7_virtueMixed_110 rfl ?_
  refine g_iload_n hE dX7_virtueMixed_111 rfl ?_
  refine g_iconst hE (1) dX7_virtueMixed_112 (by decide) ?_
  obtain ⟨r37, hc36, hf⟩ := b1_of hf
  refine g_callV2r hE mv_X7_guess kX_0 rfl wm_RX7_341 (by decide) (Nat.le_of_ble_eq_true rfl) dX7_virtueMixed_113 (c_X7_guess hc36) ?_
  obtain ⟨r39, hc38, hf⟩ := b1_of hf
  refine g_callS2r hE ms_X7_mixed wm_RX7_303 (by decide) (Nat.le_of_ble_eq_true rfl) dX7_virtueMixed_116 (c_X7_mixed hc38) ?_
  refine g_lstore [some _, some _, none, some _, some _, none] hE dX7_virtueMixed_119 (by decide) rfl ?_
  refine g_lload hE dX7_virtueMixed_121 rfl ?_
  refine g_aload_n hE dX7_virtueMixed_123 rfl ?_
  refine g_iload_n hE dX7_virtueMixed_124 rfl ?_
  obtain ⟨r42, z41, hc40, hf⟩ := b2_of hf
  refine g_callV1r hE mv_X7_together kX_0 rfl wm_RX7_345 (by decide) (Nat.le_of_ble_eq_true rfl) dX7_virtueMixed_125 (c_X7_together hc40) ?_
  refine g_i2l hE dX7_virtueMixed_128 ?_
  obtain ⟨r44, hc43, hf⟩ := b1_of hf
  refine g_callS2r hE ms_X7_mixed wm_RX7_303 (by decide) (Nat.le_of_ble_eq_true rfl) dX7_virtueMixed_129 (c_X7_mixed hc43) ?_
  refine g_lstore [some _, some _, none, some _, some _, none] hE dX7_virtueMixed_132 (by decide) rfl ?_
  refine g_lload hE dX7_virtueMixed_134 rfl ?_
  refine g_aload_n hE dX7_virtueMixed_136 rfl ?_
  refine g_iload_n hE dX7_virtueMixed_137 rfl ?_
  obtain ⟨r47, z46, hc45, hf⟩ := b2_of hf
  refine g_callV1r hE mv_X7_when kX_0 rfl wm_RX7_348 (by decide) (Nat.le_of_ble_eq_true rfl) dX7_virtueMixed_138 (c_X7_when hc45) ?_
  refine g_i2l hE dX7_virtueMixed_141 ?_
  obtain ⟨r49, hc48, hf⟩ := b1_of hf
  refine g_callS2r hE ms_X7_mixed wm_RX7_303 (by decide) (Nat.le_of_ble_eq_true rfl) dX7_virtueMixed_142 (c_X7_mixed hc48) ?_
  obtain ⟨rfl, rfl⟩ := so2 hf
  exact g_lret hE rfl dX7_virtueMixed_145
set_option maxHeartbeats 4000000 in
set_option maxRecDepth 100000 in
theorem c_X7_weekMixed {l : Launch} {w : WC} {before_ : Int64} {week_ : Int32} {z : Sg} {r0 : Int64} {z0 : Sg} (hf : f_X7_weekMixed before_ week_ z = some (r0, z0)) : CT false l iX7_weekMixed w [.ref 0, .long before_, .int week_] z (some (.long r0)) z0 := by
  refine ct_of 2 (lv := [some (.ref 0), some (.long before_), none, some (.int week_), none, none]) (by decide +kernel) rfl (Nat.le_of_ble_eq_true rfl) rfl (fun M hl hw hE => ?_)
  subst hl
  subst hw
  unfold f_X7_weekMixed at hf
  refine g_lload_n hE dX7_weekMixed_0 rfl ?_
  refine g_aload_n hE dX7_weekMixed_1 rfl ?_
  refine g_iload_n hE dX7_weekMixed_2 rfl ?_
  refine g_iconst hE (0) dX7_weekMixed_3 (by decide) ?_
  obtain ⟨r3, z2, hc1, hf⟩ := b2_of hf
  refine g_callV2r hE mv_X7_behind kX_0 rfl wm_RX7_357 (by decide) (Nat.le_of_ble_eq_true rfl) dX7_weekMixed_4 (c_X7_behind hc1) ?_
  refine g_i2l hE dX7_weekMixed_7 ?_
  obtain ⟨r5, hc4, hf⟩ := b1_of hf
  refine g_callS2r hE ms_X7_mixed wm_RX7_303 (by decide) (Nat.le_of_ble_eq_true rfl) dX7_weekMixed_8 (c_X7_mixed hc4) ?_
  refine g_lstore [some _, some _, none, some _, some _, none] hE dX7_weekMixed_11 (by decide) rfl ?_
  refine g_lload hE dX7_weekMixed_13 rfl ?_
  refine g_aload_n hE dX7_weekMixed_15 rfl ?_
  refine g_iload_n hE dX7_weekMixed_16 rfl ?_
  refine g_iconst hE (1) dX7_weekMixed_17 (by decide) ?_
  obtain ⟨r8, z7, hc6, hf⟩ := b2_of hf
  refine g_callV2r hE mv_X7_behind kX_0 rfl wm_RX7_357 (by decide) (Nat.le_of_ble_eq_true rfl) dX7_weekMixed_18 (c_X7_behind hc6) ?_
  refine g_i2l hE dX7_weekMixed_21 ?_
  obtain ⟨r10, hc9, hf⟩ := b1_of hf
  refine g_callS2r hE ms_X7_mixed wm_RX7_303 (by decide) (Nat.le_of_ble_eq_true rfl) dX7_weekMixed_22 (c_X7_mixed hc9) ?_
  refine g_lstore [some _, some _, none, some _, some _, none] hE dX7_weekMixed_25 (by decide) rfl ?_
  refine g_lload hE dX7_weekMixed_27 rfl ?_
  refine g_aload_n hE dX7_weekMixed_29 rfl ?_
  refine g_iload_n hE dX7_weekMixed_30 rfl ?_
  refine g_iconst hE (2) dX7_weekMixed_31 (by decide) ?_
  obtain ⟨r13, z12, hc11, hf⟩ := b2_of hf
  refine g_callV2r hE mv_X7_behind kX_0 rfl wm_RX7_357 (by decide) (Nat.le_of_ble_eq_true rfl) dX7_weekMixed_32 (c_X7_behind hc11) ?_
  refine g_i2l hE dX7_weekMixed_35 ?_
  obtain ⟨r15, hc14, hf⟩ := b1_of hf
  refine g_callS2r hE ms_X7_mixed wm_RX7_303 (by decide) (Nat.le_of_ble_eq_true rfl) dX7_weekMixed_36 (c_X7_mixed hc14) ?_
  obtain ⟨rfl, rfl⟩ := so2 hf
  exact g_lret hE rfl dX7_weekMixed_39
set_option maxHeartbeats 4000000 in
set_option maxRecDepth 100000 in
theorem c_X7_wholeMixed {l : Launch} {w : WC} {before_ : Int64} {z : Sg} {r0 : Int64} {z0 : Sg} (hf : f_X7_wholeMixed before_ z = some (r0, z0)) : CT false l iX7_wholeMixed w [.ref 0, .long before_] z (some (.long r0)) z0 := by
  refine ct_of 2 (lv := [some (.ref 0), some (.long before_), none, none, none]) (by decide +kernel) rfl (Nat.le_of_ble_eq_true rfl) rfl (fun M hl hw hE => ?_)
  subst hl
  subst hw
  unfold f_X7_wholeMixed at hf
  refine g_lload_n hE dX7_wholeMixed_0 rfl ?_
  refine g_aload_n hE dX7_wholeMixed_1 rfl ?_
  obtain ⟨r3, z2, hc1, hf⟩ := b2_of hf
  refine g_callV0r hE mv_X7_empty kX_0 rfl wm_RX7_360 (by decide) (Nat.le_of_ble_eq_true rfl) dX7_wholeMixed_2 (c_X7_empty hc1) ?_
  refine g_i2l hE dX7_wholeMixed_5 ?_
  obtain ⟨r5, hc4, hf⟩ := b1_of hf
  refine g_callS2r hE ms_X7_mixed wm_RX7_303 (by decide) (Nat.le_of_ble_eq_true rfl) dX7_wholeMixed_6 (c_X7_mixed hc4) ?_
  refine g_lstore_n [some _, some _, none, some _, none] hE dX7_wholeMixed_9 (by decide) rfl ?_
  refine g_lload_n hE dX7_wholeMixed_10 rfl ?_
  refine g_aload_n hE dX7_wholeMixed_11 rfl ?_
  obtain ⟨r8, z7, hc6, hf⟩ := b2_of hf
  refine g_callV0r hE mv_X7_sale kX_0 rfl wm_RX7_363 (by decide) (Nat.le_of_ble_eq_true rfl) dX7_wholeMixed_12 (c_X7_sale hc6) ?_
  refine g_i2l hE dX7_wholeMixed_15 ?_
  obtain ⟨r10, hc9, hf⟩ := b1_of hf
  refine g_callS2r hE ms_X7_mixed wm_RX7_303 (by decide) (Nat.le_of_ble_eq_true rfl) dX7_wholeMixed_16 (c_X7_mixed hc9) ?_
  refine g_lstore_n [some _, some _, none, some _, none] hE dX7_wholeMixed_19 (by decide) rfl ?_
  refine g_lload_n hE dX7_wholeMixed_20 rfl ?_
  refine g_aload_n hE dX7_wholeMixed_21 rfl ?_
  obtain ⟨r13, z12, hc11, hf⟩ := b2_of hf
  refine g_callV0r hE mv_X7_saint kX_0 rfl wm_RX7_366 (by decide) (Nat.le_of_ble_eq_true rfl) dX7_wholeMixed_22 (c_X7_saint hc11) ?_
  refine g_i2l hE dX7_wholeMixed_25 ?_
  obtain ⟨r15, hc14, hf⟩ := b1_of hf
  refine g_callS2r hE ms_X7_mixed wm_RX7_303 (by decide) (Nat.le_of_ble_eq_true rfl) dX7_wholeMixed_26 (c_X7_mixed hc14) ?_
  refine g_lstore_n [some _, some _, none, some _, none] hE dX7_wholeMixed_29 (by decide) rfl ?_
  refine g_lload_n hE dX7_wholeMixed_30 rfl ?_
  refine g_aload_n hE dX7_wholeMixed_31 rfl ?_
  refine g_bipush hE (-2) dX7_wholeMixed_32 (by decide) ?_
  obtain ⟨r18, z17, hc16, hf⟩ := b2_of hf
  refine g_callV1r hE mv_X7_match kX_0 rfl wm_RX7_335 (by decide) (Nat.le_of_ble_eq_true rfl) dX7_wholeMixed_34 (c_X7_match hc16) ?_
  refine g_i2l hE dX7_wholeMixed_37 ?_
  obtain ⟨r20, hc19, hf⟩ := b1_of hf
  refine g_callS2r hE ms_X7_mixed wm_RX7_303 (by decide) (Nat.le_of_ble_eq_true rfl) dX7_wholeMixed_38 (c_X7_mixed hc19) ?_
  refine g_lstore_n [some _, some _, none, some _, none] hE dX7_wholeMixed_41 (by decide) rfl ?_
  refine g_lload_n hE dX7_wholeMixed_42 rfl ?_
  refine g_aload_n hE dX7_wholeMixed_43 rfl ?_
  refine g_iconst hE (-1) dX7_wholeMixed_44 (by decide) ?_
  obtain ⟨r23, z22, hc21, hf⟩ := b2_of hf
  refine g_callV1r hE mv_X7_match kX_0 rfl wm_RX7_335 (by decide) (Nat.le_of_ble_eq_true rfl) dX7_wholeMixed_45 (c_X7_match hc21) ?_
  refine g_i2l hE dX7_wholeMixed_48 ?_
  obtain ⟨r25, hc24, hf⟩ := b1_of hf
  refine g_callS2r hE ms_X7_mixed wm_RX7_303 (by decide) (Nat.le_of_ble_eq_true rfl) dX7_wholeMixed_49 (c_X7_mixed hc24) ?_
  refine g_lstore_n [some _, some _, none, some _, none] hE dX7_wholeMixed_52 (by decide) rfl ?_
  refine g_lload_n hE dX7_wholeMixed_53 rfl ?_
  refine g_aload_n hE dX7_wholeMixed_54 rfl ?_
  refine g_bipush hE (8) dX7_wholeMixed_55 (by decide) ?_
  obtain ⟨r27, hc26, hf⟩ := b1_of hf
  refine g_callV1r hE mv_X7_guard kX_0 rfl wm_RX7_368 (by decide) (Nat.le_of_ble_eq_true rfl) dX7_wholeMixed_57 (c_X7_guard hc26) ?_
  refine g_i2l hE dX7_wholeMixed_60 ?_
  obtain ⟨r29, hc28, hf⟩ := b1_of hf
  refine g_callS2r hE ms_X7_mixed wm_RX7_303 (by decide) (Nat.le_of_ble_eq_true rfl) dX7_wholeMixed_61 (c_X7_mixed hc28) ?_
  refine g_lstore_n [some _, some _, none, some _, none] hE dX7_wholeMixed_64 (by decide) rfl ?_
  refine g_lload_n hE dX7_wholeMixed_65 rfl ?_
  refine g_aload_n hE dX7_wholeMixed_66 rfl ?_
  refine g_iconst hE (-1) dX7_wholeMixed_67 (by decide) ?_
  obtain ⟨r31, hc30, hf⟩ := b1_of hf
  refine g_callV1r hE mv_X7_shelves kX_0 rfl wm_RX7_371 (by decide) (Nat.le_of_ble_eq_true rfl) dX7_wholeMixed_68 (c_X7_shelves hc30) ?_
  refine g_i2l hE dX7_wholeMixed_71 ?_
  obtain ⟨r33, hc32, hf⟩ := b1_of hf
  refine g_callS2r hE ms_X7_mixed wm_RX7_303 (by decide) (Nat.le_of_ble_eq_true rfl) dX7_wholeMixed_72 (c_X7_mixed hc32) ?_
  refine g_lstore_n [some _, some _, none, some _, none] hE dX7_wholeMixed_75 (by decide) rfl ?_
  refine g_lload_n hE dX7_wholeMixed_76 rfl ?_
  refine g_aload_n hE dX7_wholeMixed_77 rfl ?_
  refine g_iconst hE (0) dX7_wholeMixed_78 (by decide) ?_
  obtain ⟨r35, hc34, hf⟩ := b1_of hf
  refine g_callV1r hE mv_X7_shelves kX_0 rfl wm_RX7_371 (by decide) (Nat.le_of_ble_eq_true rfl) dX7_wholeMixed_79 (c_X7_shelves hc34) ?_
  refine g_i2l hE dX7_wholeMixed_82 ?_
  obtain ⟨r37, hc36, hf⟩ := b1_of hf
  refine g_callS2r hE ms_X7_mixed wm_RX7_303 (by decide) (Nat.le_of_ble_eq_true rfl) dX7_wholeMixed_83 (c_X7_mixed hc36) ?_
  refine g_lstore_n [some _, some _, none, some _, none] hE dX7_wholeMixed_86 (by decide) rfl ?_
  refine g_lload_n hE dX7_wholeMixed_87 rfl ?_
  refine g_aload_n hE dX7_wholeMixed_88 rfl ?_
  refine g_iconst hE (-1) dX7_wholeMixed_89 (by decide) ?_
  obtain ⟨r40, z39, hc38, hf⟩ := b2_of hf
  refine g_callV1r hE mv_X7_together kX_0 rfl wm_RX7_345 (by decide) (Nat.le_of_ble_eq_true rfl) dX7_wholeMixed_90 (c_X7_together hc38) ?_
  refine g_i2l hE dX7_wholeMixed_93 ?_
  obtain ⟨r42, hc41, hf⟩ := b1_of hf
  refine g_callS2r hE ms_X7_mixed wm_RX7_303 (by decide) (Nat.le_of_ble_eq_true rfl) dX7_wholeMixed_94 (c_X7_mixed hc41) ?_
  refine g_lstore_n [some _, some _, none, some _, none] hE dX7_wholeMixed_97 (by decide) rfl ?_
  refine g_lload_n hE dX7_wholeMixed_98 rfl ?_
  refine g_aload_n hE dX7_wholeMixed_99 rfl ?_
  refine g_bipush hE (7) dX7_wholeMixed_100 (by decide) ?_
  refine g_bipush hE (20) dX7_wholeMixed_102 (by decide) ?_
  refine g_iconst hE (0) dX7_wholeMixed_104 (by decide) ?_
  obtain ⟨r45, z44, hc43, hf⟩ := b2_of hf
  refine g_callV3r hE mv_X7_weeks kX_0 rfl wm_RX7_374 (by decide) (Nat.le_of_ble_eq_true rfl) dX7_wholeMixed_105 (c_X7_weeks hc43) ?_
  refine g_i2l hE dX7_wholeMixed_108 ?_
  obtain ⟨r47, hc46, hf⟩ := b1_of hf
  refine g_callS2r hE ms_X7_mixed wm_RX7_303 (by decide) (Nat.le_of_ble_eq_true rfl) dX7_wholeMixed_109 (c_X7_mixed hc46) ?_
  refine g_lstore_n [some _, some _, none, some _, none] hE dX7_wholeMixed_112 (by decide) rfl ?_
  refine g_lload_n hE dX7_wholeMixed_113 rfl ?_
  refine g_aload_n hE dX7_wholeMixed_114 rfl ?_
  refine g_bipush hE (7) dX7_wholeMixed_115 (by decide) ?_
  refine g_bipush hE (20) dX7_wholeMixed_117 (by decide) ?_
  refine g_iconst hE (1) dX7_wholeMixed_119 (by decide) ?_
  obtain ⟨r50, z49, hc48, hf⟩ := b2_of hf
  refine g_callV3r hE mv_X7_weeks kX_0 rfl wm_RX7_374 (by decide) (Nat.le_of_ble_eq_true rfl) dX7_wholeMixed_120 (c_X7_weeks hc48) ?_
  refine g_i2l hE dX7_wholeMixed_123 ?_
  obtain ⟨r52, hc51, hf⟩ := b1_of hf
  refine g_callS2r hE ms_X7_mixed wm_RX7_303 (by decide) (Nat.le_of_ble_eq_true rfl) dX7_wholeMixed_124 (c_X7_mixed hc51) ?_
  obtain ⟨rfl, rfl⟩ := so2 hf
  exact g_lret hE rfl dX7_wholeMixed_127
set_option maxHeartbeats 4000000 in
set_option maxRecDepth 100000 in
theorem c_X7_digest {l : Launch} {w : WC} {z : Sg} {r0 : Int64} {z0 : Sg} (hf : f_X7_digest z = some (r0, z0)) : CT false l iX7_digest w [.ref 0] z (some (.long r0)) z0 := by
  refine ct_of 3 (lv := [some (.ref 0), none, none, none]) (by decide +kernel) rfl (Nat.le_of_ble_eq_true rfl) rfl (fun M hl hw hE => ?_)
  subst hl
  subst hw
  unfold f_X7_digest at hf
  refine g_ldc2 hE wk_RX7_298 dX7_digest_0 ?_
  refine g_lstore_n [some _, some _, none, none] hE dX7_digest_3 (by decide) rfl ?_
  refine g_iconst hE (0) dX7_digest_4 (by decide) ?_
  refine g_istore_n [some _, some _, none, some _] hE dX7_digest_5 (by decide) rfl ?_
  obtain ⟨h_8, hx6, hf⟩ := b1_of hf
  have hJ7 : G false iX7_digest M (some (.long r0), z0) 29 [some (.ref 0), some (.long h_8), none, none] [] z := by
    refine g_lload_n hE dX7_digest_29 rfl ?_
    refine g_aload_n hE dX7_digest_30 rfl ?_
    refine g_iconst hE (0) dX7_digest_31 (by decide) ?_
    obtain ⟨r10, hc9, hf⟩ := b1_of hf
    refine g_callV1r hE mv_X7_fault kX_0 rfl wm_RX7_307 (by decide) (Nat.le_of_ble_eq_true rfl) dX7_digest_32 (c_X7_fault hc9) ?_
    refine g_i2l hE dX7_digest_35 ?_
    obtain ⟨r12, hc11, hf⟩ := b1_of hf
    refine g_callS2r hE ms_X7_mixed wm_RX7_303 (by decide) (Nat.le_of_ble_eq_true rfl) dX7_digest_36 (c_X7_mixed hc11) ?_
    refine g_lstore_n [some _, some _, none, none] hE dX7_digest_39 (by decide) rfl ?_
    refine g_lload_n hE dX7_digest_40 rfl ?_
    refine g_aload_n hE dX7_digest_41 rfl ?_
    refine g_iconst hE (1) dX7_digest_42 (by decide) ?_
    obtain ⟨r14, hc13, hf⟩ := b1_of hf
    refine g_callV1r hE mv_X7_fault kX_0 rfl wm_RX7_307 (by decide) (Nat.le_of_ble_eq_true rfl) dX7_digest_43 (c_X7_fault hc13) ?_
    refine g_i2l hE dX7_digest_46 ?_
    obtain ⟨r16, hc15, hf⟩ := b1_of hf
    refine g_callS2r hE ms_X7_mixed wm_RX7_303 (by decide) (Nat.le_of_ble_eq_true rfl) dX7_digest_47 (c_X7_mixed hc15) ?_
    refine g_lstore_n [some _, some _, none, none] hE dX7_digest_50 (by decide) rfl ?_
    refine g_iconst hE (0) dX7_digest_51 (by decide) ?_
    refine g_istore_n [some _, some _, none, some _] hE dX7_digest_52 (by decide) rfl ?_
    obtain ⟨h_25, z26, hx23, hf⟩ := b2_of hf
    have hJ24 : G false iX7_digest M (some (.long r0), z0) 77 [some (.ref 0), some (.long h_25), none, none] [] z26 := by
      refine g_iconst hE (0) dX7_digest_77 (by decide) ?_
      refine g_istore_n [some _, some _, none, some _] hE dX7_digest_78 (by decide) rfl ?_
      obtain ⟨h_34, hx32, hf⟩ := b1_of hf
      have hJ33 : G false iX7_digest M (some (.long r0), z0) 103 [some (.ref 0), some (.long h_34), none, none] [] z26 := by
        refine g_aload_n hE dX7_digest_103 rfl ?_
        refine g_lload_n hE dX7_digest_104 rfl ?_
        refine g_iconst hE (0) dX7_digest_105 (by decide) ?_
        obtain ⟨r37, z36, hc35, hf⟩ := b2_of hf
        refine g_callV2r hE mv_X7_weekMixed kX_0 rfl wm_RX7_317 (by decide) (Nat.le_of_ble_eq_true rfl) dX7_digest_106 (c_X7_weekMixed hc35) ?_
        refine g_lstore_n [some _, some _, none, none] hE dX7_digest_109 (by decide) rfl ?_
        refine g_aload_n hE dX7_digest_110 rfl ?_
        refine g_lload_n hE dX7_digest_111 rfl ?_
        refine g_iconst hE (1) dX7_digest_112 (by decide) ?_
        obtain ⟨r40, z39, hc38, hf⟩ := b2_of hf
        refine g_callV2r hE mv_X7_weekMixed kX_0 rfl wm_RX7_317 (by decide) (Nat.le_of_ble_eq_true rfl) dX7_digest_113 (c_X7_weekMixed hc38) ?_
        refine g_lstore_n [some _, some _, none, none] hE dX7_digest_116 (by decide) rfl ?_
        refine g_aload_n hE dX7_digest_117 rfl ?_
        refine g_lload_n hE dX7_digest_118 rfl ?_
        refine g_iconst hE (5) dX7_digest_119 (by decide) ?_
        obtain ⟨r43, z42, hc41, hf⟩ := b2_of hf
        refine g_callV2r hE mv_X7_weekMixed kX_0 rfl wm_RX7_317 (by decide) (Nat.le_of_ble_eq_true rfl) dX7_digest_120 (c_X7_weekMixed hc41) ?_
        refine g_lstore_n [some _, some _, none, none] hE dX7_digest_123 (by decide) rfl ?_
        refine g_aload_n hE dX7_digest_124 rfl ?_
        refine g_lload_n hE dX7_digest_125 rfl ?_
        refine g_bipush hE (39) dX7_digest_126 (by decide) ?_
        obtain ⟨r46, z45, hc44, hf⟩ := b2_of hf
        refine g_callV2r hE mv_X7_weekMixed kX_0 rfl wm_RX7_317 (by decide) (Nat.le_of_ble_eq_true rfl) dX7_digest_128 (c_X7_weekMixed hc44) ?_
        refine g_lstore_n [some _, some _, none, none] hE dX7_digest_131 (by decide) rfl ?_
        refine g_aload_n hE dX7_digest_132 rfl ?_
        refine g_lload_n hE dX7_digest_133 rfl ?_
        obtain ⟨r49, z48, hc47, hf⟩ := b2_of hf
        refine g_callV1r hE mv_X7_wholeMixed kX_0 rfl wm_RX7_320 (by decide) (Nat.le_of_ble_eq_true rfl) dX7_digest_134 (c_X7_wholeMixed hc47) ?_
        obtain ⟨rfl, rfl⟩ := so2 hf
        exact g_lret hE rfl dX7_digest_137
      clear hf
      have hl29 : ∀ (n31 : Nat) (h_27 : Int64) (c_28 : Int32), f_X7_digest_lp3 z26 n31 h_27 c_28 = some h_34 → G false iX7_digest M (some (.long r0), z0) 79 [some (.ref 0), some (.long h_27), none, some (.int c_28)] [] z26 := by
        intro n31
        induction n31 with
        | zero => intro h_27 c_28 hf; cases hf
        | succ n31 ih30 =>
          intro h_27 c_28 hf
          rw [f_X7_digest_lp3] at hf
          refine g_iload_n hE dX7_digest_79 rfl ?_
          refine g_aload_n hE dX7_digest_80 rfl ?_
          refine gtX7_1 hE kX_0 wf_RX7_18 dX7_digest_81 ?_
          refine gtX1_5 hE kX_5 wf_RX7_177 dX7_digest_84 ?_
          refine g_icmp_ge 103 hE dX7_digest_87 (by decide) (fun h50 => ?_) (fun h50 => ?_)
          · replace hf := it_f hf (cv_ngt h50)
            obtain rfl := so1 hf
            exact g_wk [true, true, false, false] rfl hJ33
          · replace hf := it_t hf (cv_gt h50)
            refine g_aload_n hE dX7_digest_90 rfl ?_
            refine g_lload_n hE dX7_digest_91 rfl ?_
            refine g_iload_n hE dX7_digest_92 rfl ?_
            obtain ⟨r52, hc51, hf⟩ := b1_of hf
            refine g_callV2r hE mv_X7_claimantMixed kX_0 rfl wm_RX7_314 (by decide) (Nat.le_of_ble_eq_true rfl) dX7_digest_93 (c_X7_claimantMixed hc51) ?_
            refine g_lstore_n [some _, some _, none, some _] hE dX7_digest_96 (by decide) rfl ?_
            refine g_iinc [some _, some _, none, some _] hE (c_28 + (1 : Int32)) dX7_digest_97 rfl rfl (by decide) rfl ?_
            refine g_goto 79 hE dX7_digest_100 (by decide) ?_
            exact (ih30 _ _ hf)
      exact hl29 _ _ _ hx32
    clear hf
    have hl20 : ∀ (n22 : Nat) (h_17 : Int64) (v_18 : Int32) (z19 : Sg), f_X7_digest_lp2  n22 h_17 v_18 z19 = some (h_25, z26) → G false iX7_digest M (some (.long r0), z0) 53 [some (.ref 0), some (.long h_17), none, some (.int v_18)] [] z19 := by
      intro n22
      induction n22 with
      | zero => intro h_17 v_18 z19 hf; cases hf
      | succ n22 ih21 =>
        intro h_17 v_18 z19 hf
        rw [f_X7_digest_lp2] at hf
        refine g_iload_n hE dX7_digest_53 rfl ?_
        refine g_aload_n hE dX7_digest_54 rfl ?_
        refine gtX7_0 hE kX_0 wf_RX7_12 dX7_digest_55 ?_
        refine gtX1_5 hE kX_1 wf_RX7_177 dX7_digest_58 ?_
        refine g_icmp_ge 77 hE dX7_digest_61 (by decide) (fun h53 => ?_) (fun h53 => ?_)
        · replace hf := it_f hf (cv_ngt h53)
          obtain ⟨rfl, rfl⟩ := so2 hf
          exact g_wk [true, true, false, false] rfl hJ24
        · replace hf := it_t hf (cv_gt h53)
          refine g_aload_n hE dX7_digest_64 rfl ?_
          refine g_lload_n hE dX7_digest_65 rfl ?_
          refine g_iload_n hE dX7_digest_66 rfl ?_
          obtain ⟨r56, z55, hc54, hf⟩ := b2_of hf
          refine g_callV2r hE mv_X7_virtueMixed kX_0 rfl wm_RX7_310 (by decide) (Nat.le_of_ble_eq_true rfl) dX7_digest_67 (c_X7_virtueMixed hc54) ?_
          refine g_lstore_n [some _, some _, none, some _] hE dX7_digest_70 (by decide) rfl ?_
          refine g_iinc [some _, some _, none, some _] hE (v_18 + (1 : Int32)) dX7_digest_71 rfl rfl (by decide) rfl ?_
          refine g_goto 53 hE dX7_digest_74 (by decide) ?_
          exact (ih21 _ _ _ hf)
    exact hl20 _ _ _ _ hx23
  clear hf
  have hl3 : ∀ (n5 : Nat) (h_1 : Int64) (what_2 : Int32), f_X7_digest_lp1 z n5 h_1 what_2 = some h_8 → G false iX7_digest M (some (.long r0), z0) 6 [some (.ref 0), some (.long h_1), none, some (.int what_2)] [] z := by
    intro n5
    induction n5 with
    | zero => intro h_1 what_2 hf; cases hf
    | succ n5 ih4 =>
      intro h_1 what_2 hf
      rw [f_X7_digest_lp1] at hf
      refine g_iload_n hE dX7_digest_6 rfl ?_
      refine g_bipush hE (7) dX7_digest_7 (by decide) ?_
      refine g_icmp_gt 29 hE dX7_digest_9 (by decide) (fun h57 => ?_) (fun h57 => ?_)
      · replace hf := it_f hf (cv_nge h57)
        obtain rfl := so1 hf
        exact g_wk [true, true, false, false] rfl hJ7
      · replace hf := it_t hf (cv_ge h57)
        refine g_lload_n hE dX7_digest_12 rfl ?_
        refine g_aload_n hE dX7_digest_13 rfl ?_
        refine g_iload_n hE dX7_digest_14 rfl ?_
        obtain ⟨r59, hc58, hf⟩ := b1_of hf
        refine g_callV1r hE mv_X7_count kX_0 rfl wm_RX7_300 (by decide) (Nat.le_of_ble_eq_true rfl) dX7_digest_15 (c_X7_count hc58) ?_
        refine g_i2l hE dX7_digest_18 ?_
        obtain ⟨r61, hc60, hf⟩ := b1_of hf
        refine g_callS2r hE ms_X7_mixed wm_RX7_303 (by decide) (Nat.le_of_ble_eq_true rfl) dX7_digest_19 (c_X7_mixed hc60) ?_
        refine g_lstore_n [some _, some _, none, some _] hE dX7_digest_22 (by decide) rfl ?_
        refine g_iinc [some _, some _, none, some _] hE (what_2 + (1 : Int32)) dX7_digest_23 rfl rfl (by decide) rfl ?_
        refine g_goto 6 hE dX7_digest_26 (by decide) ?_
        exact (ih4 _ _ hf)
  exact hl3 _ _ _ hx6
