/-! CONTRACTS. Printed by wip/whole/gen/mkall.py out of the Java text. -/
set_option maxHeartbeats 4000000 in
set_option maxRecDepth 100000 in
theorem c_X8_matchAt {l : Launch} {w : WC} {i_ : Int32} {z : Sg} {r0 : Int32} {z0 : Sg} (hf : f_X8_matchAt i_ z = some (r0, z0)) : CT true l iX8_matchAt w [.ref 0, .int i_] z (some (.int r0)) z0 := by
  refine ct_of 1 (lv := [some (.ref 0), some (.int i_), none]) (by decide +kernel) rfl (Nat.le_of_ble_eq_true rfl) rfl (fun M hl hw hE => ?_)
  subst hl
  subst hw
  unfold f_X8_matchAt at hf
  refine g_aload_n hE dX8_matchAt_0 rfl ?_
  obtain ⟨z2, hc1, hf⟩ := b1_of hf
  refine g_callV0v hE mv_X8_laysMatch kM_0 rfl wm_RX8_216 (by decide) (Nat.le_of_ble_eq_true rfl) dX8_matchAt_1 (c_X8_laysMatch hc1) ?_
  obtain ⟨x3, hx4, hf⟩ := b1_of hf
  have hJ5 : G true iX8_matchAt M (some (.int r0), z0) 21 [some (.ref 0), some (.int i_), none] [.int x3] z2 := by
    refine g_istore_n [some _, some _, some _] hE dX8_matchAt_21 (by decide) rfl ?_
    obtain ⟨x6, hx7, hf⟩ := b1_of hf
    have hJ8 : G true iX8_matchAt M (some (.int r0), z0) 55 [some (.ref 0), some (.int i_), some (.int x3)] [.int x6] z2 := by
      obtain ⟨rfl, rfl⟩ := so2 hf
      exact g_iret hE rfl dX8_matchAt_55
    replace hf := hx7
    clear hx7
    refine g_iload_n hE dX8_matchAt_22 rfl ?_
    refine g_bipush hE (-2) dX8_matchAt_23 (by decide) ?_
    refine g_icmp_ne 36 hE dX8_matchAt_25 (by decide) (fun h9 => ?_) (fun h9 => ?_)
    · replace hf := it_f hf h9
      obtain ⟨x10, hx11, hf⟩ := b1_of hf
      have hJ12 : G true iX8_matchAt M (some (.int r0), z0) 55 [some (.ref 0), some (.int i_), some (.int x3)] [.int x10] z2 := by
        obtain rfl := so1 hf
        exact hJ8
      replace hf := hx11
      clear hx11
      refine g_iload_n hE dX8_matchAt_36 rfl ?_
      refine g_iconst hE (-1) dX8_matchAt_37 (by decide) ?_
      refine g_icmp_ne 49 hE dX8_matchAt_38 (by decide) (fun h13 => ?_) (fun h13 => ?_)
      · replace hf := it_f hf h13
        refine g_aload_n hE dX8_matchAt_49 rfl ?_
        refine gtX8_24 hE kM_0 wf_RX8_55 dX8_matchAt_50 ?_
        refine g_iload_n hE dX8_matchAt_53 rfl ?_
        obtain ⟨h14, hf⟩ := ck_of hf
        refine g_iald hE kM_16 h14 dX8_matchAt_54 ?_
        obtain rfl := so1 hf
        exact hJ12
      · replace hf := it_t hf h13
        refine g_iload_n hE dX8_matchAt_41 rfl ?_
        refine g_sipush hE (1000) dX8_matchAt_42 (by decide) ?_
        refine g_irem hE dX8_matchAt_45 (by decide) ?_
        refine g_goto 55 hE dX8_matchAt_46 (by decide) ?_
        obtain rfl := so1 hf
        exact hJ12
    · replace hf := it_t hf h9
      refine g_iload_n hE dX8_matchAt_28 rfl ?_
      refine g_sipush hE (1000) dX8_matchAt_29 (by decide) ?_
      refine g_idiv hE dX8_matchAt_32 (by decide) ?_
      refine g_goto 55 hE dX8_matchAt_33 (by decide) ?_
      obtain rfl := so1 hf
      exact hJ8
  replace hf := hx4
  clear hx4
  refine g_aload_n hE dX8_matchAt_4 rfl ?_
  refine gtX8_2 hE kM_0 wf_RX8_106 dX8_matchAt_5 ?_
  refine g_if_ne 15 hE dX8_matchAt_8 (by decide) (fun h15 => ?_) (fun h15 => ?_)
  · replace hf := it_f hf h15
    refine g_aload_n hE dX8_matchAt_15 rfl ?_
    refine gtX8_23 hE kM_0 wf_RX8_52 dX8_matchAt_16 ?_
    refine g_iconst hE (0) dX8_matchAt_19 (by decide) ?_
    obtain ⟨h16, hf⟩ := ck_of hf
    refine g_iald hE kM_15 h16 dX8_matchAt_20 ?_
    obtain rfl := so1 hf
    exact hJ5
  · replace hf := it_t hf h15
    refine g_iconst hE (0) dX8_matchAt_11 (by decide) ?_
    refine g_goto 21 hE dX8_matchAt_12 (by decide) ?_
    obtain rfl := so1 hf
    exact hJ5
set_option maxHeartbeats 4000000 in
set_option maxRecDepth 100000 in
theorem c_X8_match {l : Launch} {w : WC} {i_ : Int32} {z : Sg} {r0 : Int32} {z0 : Sg} (hf : f_X8_match i_ z = some (r0, z0)) : CT true l iX8_match w [.ref 0, .int i_] z (some (.int r0)) z0 := by
  refine ct_of 0 (lv := [some (.ref 0), some (.int i_)]) (by decide +kernel) rfl (Nat.le_of_ble_eq_true rfl) rfl (fun M hl hw hE => ?_)
  subst hl
  subst hw
  unfold f_X8_match at hf
  obtain ⟨x1, z2, hx3, hf⟩ := b2_of hf
  have hJ4 : G true iX8_match M (some (.int r0), z0) 21 [some (.ref 0), some (.int i_)] [.int x1] z2 := by
    obtain ⟨rfl, rfl⟩ := so2 hf
    exact g_iret hE rfl dX8_match_21
  replace hf := hx3
  clear hx3
  refine g_iload_n hE dX8_match_0 rfl ?_
  refine g_bipush hE (-2) dX8_match_1 (by decide) ?_
  refine g_bipush hE (7) dX8_match_3 (by decide) ?_
  obtain ⟨r6, hc5, hf⟩ := b1_of hf
  refine g_callS3r hE ms_X8_in wm_RX8_98 (by decide) (Nat.le_of_ble_eq_true rfl) dX8_match_5 (c_X8_in hc5) ?_
  refine g_if_eq 19 hE dX8_match_8 (by decide) (fun h7 => ?_) (fun h7 => ?_)
  · replace hf := it_f hf (fun q => q h7)
    refine g_bipush hE (-2) dX8_match_19 (by decide) ?_
    obtain ⟨rfl, rfl⟩ := so2 hf
    exact hJ4
  · replace hf := it_t hf h7
    refine g_aload_n hE dX8_match_11 rfl ?_
    refine g_iload_n hE dX8_match_12 rfl ?_
    obtain ⟨r10, z9, hc8, hf⟩ := b2_of hf
    refine g_callV1r hE mv_X8_matchAt kM_0 rfl wm_RX8_219 (by decide) (Nat.le_of_ble_eq_true rfl) dX8_match_13 (c_X8_matchAt hc8) ?_
    refine g_goto 21 hE dX8_match_16 (by decide) ?_
    obtain ⟨rfl, rfl⟩ := so2 hf
    exact hJ4
set_option maxHeartbeats 4000000 in
set_option maxRecDepth 100000 in
theorem c_X8_askOf {l : Launch} {w : WC} {claimant_ : Int32} {z : Sg} {r0 : Int32} (hf : f_X8_askOf claimant_ z = some r0) : CT true l iX8_askOf w [.ref 0, .int claimant_] z (some (.int r0)) z := by
  refine ct_of 7 (lv := [some (.ref 0), some (.int claimant_), none, none, none, none, none, none, none]) (by decide +kernel) rfl (Nat.le_of_ble_eq_true rfl) rfl (fun M hl hw hE => ?_)
  subst hl
  subst hw
  unfold f_X8_askOf at hf
  refine g_iconst hE (-1) dX8_askOf_0 (by decide) ?_
  refine g_istore_n [some _, some _, some _, none, none, none, none, none, none] hE dX8_askOf_1 (by decide) rfl ?_
  refine g_iconst hE (0) dX8_askOf_2 (by decide) ?_
  refine g_istore_n [some _, some _, some _, some _, none, none, none, none, none] hE dX8_askOf_3 (by decide) rfl ?_
  refine g_iconst hE (0) dX8_askOf_4 (by decide) ?_
  refine g_istore [some _, some _, some _, some _, some _, none, none, none, none] hE dX8_askOf_5 (by decide) rfl ?_
  obtain ⟨best_9, least_10, hx7, hf⟩ := b2_of hf
  have hJ8 : G true iX8_askOf M (some (.int r0), z) 185 [some (.ref 0), some (.int claimant_), some (.int best_9), some (.int least_10), none, none, none, none, none] [] z := by
    refine g_iload_n hE dX8_askOf_185 rfl ?_
    obtain rfl := so1 hf
    exact g_iret hE rfl dX8_askOf_186
  clear hf
  have hl4 : ∀ (n6 : Nat) (best_1 : Int32) (least_2 : Int32) (sort_3 : Int32), f_X8_askOf_lp1 claimant_ z n6 best_1 least_2 sort_3 = some (best_9, least_10) → G true iX8_askOf M (some (.int r0), z) 7 [some (.ref 0), some (.int claimant_), some (.int best_1), some (.int least_2), some (.int sort_3), none, none, none, none] [] z := by
    intro n6
    induction n6 with
    | zero => intro best_1 least_2 sort_3 hf; cases hf
    | succ n6 ih5 =>
      intro best_1 least_2 sort_3 hf
      rw [f_X8_askOf_lp1] at hf
      refine g_iload hE dX8_askOf_7 rfl ?_
      refine g_iconst hE (4) dX8_askOf_9 (by decide) ?_
      refine g_icmp_ge 185 hE dX8_askOf_10 (by decide) (fun h11 => ?_) (fun h11 => ?_)
      · replace hf := it_f hf (cv_ngt h11)
        obtain ⟨rfl, rfl⟩ := so2 hf
        exact g_wk [true, true, true, true, false, false, false, false, false] rfl hJ8
      · replace hf := it_t hf (cv_gt h11)
        refine g_iconst hE (0) dX8_askOf_13 (by decide) ?_
        refine g_istore [some _, some _, some _, some _, some _, some _, none, none, none] hE dX8_askOf_14 (by decide) rfl ?_
        refine g_iconst hE (0) dX8_askOf_16 (by decide) ?_
        refine g_istore [some _, some _, some _, some _, some _, some _, some _, none, none] hE dX8_askOf_17 (by decide) rfl ?_
        refine g_iconst hE (0) dX8_askOf_19 (by decide) ?_
        refine g_istore [some _, some _, some _, some _, some _, some _, some _, some _, none] hE dX8_askOf_20 (by decide) rfl ?_
        obtain ⟨low_20, high_21, hx18, hf⟩ := b2_of hf
        have hJ19 : G true iX8_askOf M (some (.int r0), z) 107 [some (.ref 0), some (.int claimant_), some (.int best_1), some (.int least_2), some (.int sort_3), some (.int low_20), some (.int high_21), none, none] [] z := by
          obtain ⟨x22, hx23, hf⟩ := b1_of hf
          have hJ24 : G true iX8_askOf M (some (.int r0), z) 121 [some (.ref 0), some (.int claimant_), some (.int best_1), some (.int least_2), some (.int sort_3), some (.int low_20), some (.int high_21), none, none] [.int x22] z := by
            refine g_istore [some _, some _, some _, some _, some _, some _, some _, some _, none] hE dX8_askOf_121 (by decide) rfl ?_
            obtain ⟨x25, hx26, hf⟩ := b1_of hf
            have hJ27 : G true iX8_askOf M (some (.int r0), z) 153 [some (.ref 0), some (.int claimant_), some (.int best_1), some (.int least_2), some (.int sort_3), some (.int low_20), some (.int high_21), some (.int x22), none] [.int x25] z := by
              refine g_istore [some _, some _, some _, some _, some _, some _, some _, some _, some _] hE dX8_askOf_153 (by decide) rfl ?_
              obtain ⟨x28, hx29, hf⟩ := b1_of hf
              have hJ30 : G true iX8_askOf M (some (.int r0), z) 166 [some (.ref 0), some (.int claimant_), some (.int best_1), some (.int least_2), some (.int sort_3), some (.int low_20), some (.int high_21), some (.int x22), some (.int x25)] [.int x28] z := by
                refine g_istore_n [some _, some _, some _, some _, some _, some _, some _, some _, some _] hE dX8_askOf_166 (by decide) rfl ?_
                obtain ⟨x31, hx32, hf⟩ := b1_of hf
                have hJ33 : G true iX8_askOf M (some (.int r0), z) 178 [some (.ref 0), some (.int claimant_), some (.int x28), some (.int least_2), some (.int sort_3), some (.int low_20), some (.int high_21), some (.int x22), some (.int x25)] [.int x31] z := by
                  refine g_istore_n [some _, some _, some _, some _, some _, some _, some _, some _, some _] hE dX8_askOf_178 (by decide) rfl ?_
                  refine g_wk [true, true, true, true, true, false, false, false, false] rfl ?_
                  refine g_iinc [some _, some _, some _, some _, some _, none, none, none, none] hE (sort_3 + (1 : Int32)) dX8_askOf_179 rfl rfl (by decide) rfl ?_
                  refine g_goto 7 hE dX8_askOf_182 (by decide) ?_
                  exact (ih5 _ _ _ hf)
                replace hf := hx32
                clear hx32
                refine g_iload hE dX8_askOf_167 rfl ?_
                refine g_if_eq 177 hE dX8_askOf_169 (by decide) (fun h34 => ?_) (fun h34 => ?_)
                · replace hf := it_f hf (fun q => q h34)
                  refine g_iload_n hE dX8_askOf_177 rfl ?_
                  obtain rfl := so1 hf
                  exact hJ33
                · replace hf := it_t hf h34
                  refine g_iload hE dX8_askOf_172 rfl ?_
                  refine g_goto 178 hE dX8_askOf_174 (by decide) ?_
                  obtain rfl := so1 hf
                  exact hJ33
              replace hf := hx29
              clear hx29
              refine g_iload hE dX8_askOf_155 rfl ?_
              refine g_if_eq 165 hE dX8_askOf_157 (by decide) (fun h35 => ?_) (fun h35 => ?_)
              · replace hf := it_f hf (fun q => q h35)
                refine g_iload_n hE dX8_askOf_165 rfl ?_
                obtain rfl := so1 hf
                exact hJ30
              · replace hf := it_t hf h35
                refine g_iload hE dX8_askOf_160 rfl ?_
                refine g_goto 166 hE dX8_askOf_162 (by decide) ?_
                obtain rfl := so1 hf
                exact hJ30
            replace hf := hx26
            clear hx26
            refine g_aload_n hE dX8_askOf_123 rfl ?_
            refine gtX8_6 hE kM_0 wf_RX8_22 dX8_askOf_124 ?_
            refine g_iload_n hE dX8_askOf_127 rfl ?_
            obtain ⟨h36, hf⟩ := ck_of hf
            refine g_iald hE kM_5 h36 dX8_askOf_128 ?_
            refine g_iload hE dX8_askOf_129 rfl ?_
            obtain ⟨r38, hc37, hf⟩ := b1_of hf
            refine g_callS2r hE ms_X8_isIn wm_RX8_204 (by decide) (Nat.le_of_ble_eq_true rfl) dX8_askOf_131 (c_X8_isIn hc37) ?_
            refine g_if_ne 152 hE dX8_askOf_134 (by decide) (fun h39 => ?_) (fun h39 => ?_)
            · replace hf := it_t hf h39
              refine g_iconst hE (0) dX8_askOf_152 (by decide) ?_
              obtain rfl := so1 hf
              exact hJ27
            · replace hf := it_f hf (fun q => q h39)
              refine g_iload_n hE dX8_askOf_137 rfl ?_
              refine g_iconst hE (-1) dX8_askOf_138 (by decide) ?_
              refine g_icmp_eq 148 hE dX8_askOf_139 (by decide) (fun h40 => ?_) (fun h40 => ?_)
              · replace hf := it_t hf h40
                refine g_iconst hE (1) dX8_askOf_148 (by decide) ?_
                refine g_goto 153 hE dX8_askOf_149 (by decide) ?_
                obtain rfl := so1 hf
                exact hJ27
              · replace hf := it_f hf h40
                refine g_iload hE dX8_askOf_142 rfl ?_
                refine g_iload_n hE dX8_askOf_144 rfl ?_
                refine g_icmp_ge 152 hE dX8_askOf_145 (by decide) (fun h41 => ?_) (fun h41 => ?_)
                · replace hf := it_f hf (cv_ngt h41)
                  refine g_iconst hE (0) dX8_askOf_152 (by decide) ?_
                  obtain rfl := so1 hf
                  exact hJ27
                · replace hf := it_t hf (cv_gt h41)
                  refine g_iconst hE (1) dX8_askOf_148 (by decide) ?_
                  refine g_goto 153 hE dX8_askOf_149 (by decide) ?_
                  obtain rfl := so1 hf
                  exact hJ27
          replace hf := hx23
          clear hx23
          refine g_iload hE dX8_askOf_107 rfl ?_
          refine g_iload hE dX8_askOf_109 rfl ?_
          refine g_icmp_le 119 hE dX8_askOf_111 (by decide) (fun h42 => ?_) (fun h42 => ?_)
          · replace hf := it_f hf (cv_ngt h42)
            refine g_iload hE dX8_askOf_119 rfl ?_
            obtain rfl := so1 hf
            exact hJ24
          · replace hf := it_t hf (cv_gt h42)
            refine g_iload hE dX8_askOf_114 rfl ?_
            refine g_goto 121 hE dX8_askOf_116 (by decide) ?_
            obtain rfl := so1 hf
            exact hJ24
        clear hf
        have hl15 : ∀ (n17 : Nat) (low_12 : Int32) (high_13 : Int32) (v_14 : Int32), f_X8_askOf_lp2 claimant_ sort_3 z n17 low_12 high_13 v_14 = some (low_20, high_21) → G true iX8_askOf M (some (.int r0), z) 22 [some (.ref 0), some (.int claimant_), some (.int best_1), some (.int least_2), some (.int sort_3), some (.int low_12), some (.int high_13), some (.int v_14), none] [] z := by
          intro n17
          induction n17 with
          | zero => intro low_12 high_13 v_14 hf; cases hf
          | succ n17 ih16 =>
            intro low_12 high_13 v_14 hf
            rw [f_X8_askOf_lp2] at hf
            refine g_iload hE dX8_askOf_22 rfl ?_
            refine g_aload_n hE dX8_askOf_24 rfl ?_
            refine gtX8_2 hE kM_0 wf_RX8_106 dX8_askOf_25 ?_
            refine g_icmp_ge 107 hE dX8_askOf_28 (by decide) (fun h43 => ?_) (fun h43 => ?_)
            · replace hf := it_f hf (cv_ngt h43)
              obtain ⟨rfl, rfl⟩ := so2 hf
              exact g_wk [true, true, true, true, true, true, true, false, false] rfl hJ19
            · replace hf := it_t hf (cv_gt h43)
              refine g_iload hE dX8_askOf_31 rfl ?_
              obtain ⟨x44, hx45, hf⟩ := b1_of hf
              have hJ46 : G true iX8_askOf M (some (.int r0), z) 63 [some (.ref 0), some (.int claimant_), some (.int best_1), some (.int least_2), some (.int sort_3), some (.int low_12), some (.int high_13), some (.int v_14), none] [.int x44, .int low_12] z := by
                refine g_iadd hE dX8_askOf_63 ?_
                refine g_istore [some _, some _, some _, some _, some _, some _, some _, some _, none] hE dX8_askOf_64 (by decide) rfl ?_
                refine g_iload hE dX8_askOf_66 rfl ?_
                obtain ⟨x47, hx48, hf⟩ := b1_of hf
                have hJ49 : G true iX8_askOf M (some (.int r0), z) 98 [some (.ref 0), some (.int claimant_), some (.int best_1), some (.int least_2), some (.int sort_3), some (.int (low_12 + x44)), some (.int high_13), some (.int v_14), none] [.int x47, .int high_13] z := by
                  refine g_iadd hE dX8_askOf_98 ?_
                  refine g_istore [some _, some _, some _, some _, some _, some _, some _, some _, none] hE dX8_askOf_99 (by decide) rfl ?_
                  refine g_iinc [some _, some _, some _, some _, some _, some _, some _, some _, none] hE (v_14 + (1 : Int32)) dX8_askOf_101 rfl rfl (by decide) rfl ?_
                  refine g_goto 22 hE dX8_askOf_104 (by decide) ?_
                  exact (ih16 _ _ _ hf)
                replace hf := hx48
                clear hx48
                obtain ⟨q50, hx51, hf⟩ := b1_of hf
                have hT52 : q50 = true → G true iX8_askOf M (some (.int r0), z) 93 [some (.ref 0), some (.int claimant_), some (.int best_1), some (.int least_2), some (.int sort_3), some (.int (low_12 + x44)), some (.int high_13), some (.int v_14), none] [.int high_13] z := by
                  intro hq54
                  replace hf := it_t hf hq54
                  refine g_iconst hE (1) dX8_askOf_93 (by decide) ?_
                  refine g_goto 98 hE dX8_askOf_94 (by decide) ?_
                  obtain rfl := so1 hf
                  exact hJ49
                have hF53 : q50 = false → G true iX8_askOf M (some (.int r0), z) 97 [some (.ref 0), some (.int claimant_), some (.int best_1), some (.int least_2), some (.int sort_3), some (.int (low_12 + x44)), some (.int high_13), some (.int v_14), none] [.int high_13] z := by
                  intro hq54
                  replace hf := it_f hf (by rw [hq54]; decide)
                  refine g_iconst hE (0) dX8_askOf_97 (by decide) ?_
                  obtain rfl := so1 hf
                  exact hJ49
                replace hf := hx51
                clear hx51
                refine g_aload_n hE dX8_askOf_68 rfl ?_
                refine g_iload_n hE dX8_askOf_69 rfl ?_
                refine g_iload hE dX8_askOf_70 rfl ?_
                obtain ⟨r56, hc55, hf⟩ := b1_of hf
                refine g_callV2r hE mv_X8_fits kM_0 rfl wm_RX8_160 (by decide) (Nat.le_of_ble_eq_true rfl) dX8_askOf_72 (c_X8_fits hc55) ?_
                refine g_if_eq 97 hE dX8_askOf_75 (by decide) (fun h57 => ?_) (fun h57 => ?_)
                · replace hf := it_f hf (fun q => q h57)
                  obtain rfl := so1 hf
                  exact hF53 rfl
                · replace hf := it_t hf h57
                  refine g_aload_n hE dX8_askOf_78 rfl ?_
                  refine gtX8_3 hE kM_0 wf_RX8_16 dX8_askOf_79 ?_
                  refine g_iload hE dX8_askOf_82 rfl ?_
                  obtain ⟨h58, hf⟩ := ck_of hf
                  refine g_iald hE kM_3 h58 dX8_askOf_84 ?_
                  refine g_iload hE dX8_askOf_85 rfl ?_
                  obtain ⟨r60, hc59, hf⟩ := b1_of hf
                  refine g_callS2r hE ms_X8_isIn wm_RX8_204 (by decide) (Nat.le_of_ble_eq_true rfl) dX8_askOf_87 (c_X8_isIn hc59) ?_
                  refine g_if_eq 97 hE dX8_askOf_90 (by decide) (fun h61 => ?_) (fun h61 => ?_)
                  · replace hf := it_f hf (fun q => q h61)
                    obtain rfl := so1 hf
                    exact hF53 rfl
                  · replace hf := it_t hf h61
                    obtain rfl := so1 hf
                    exact hT52 rfl
              replace hf := hx45
              clear hx45
              obtain ⟨q62, hx63, hf⟩ := b1_of hf
              have hT64 : q62 = true → G true iX8_askOf M (some (.int r0), z) 58 [some (.ref 0), some (.int claimant_), some (.int best_1), some (.int least_2), some (.int sort_3), some (.int low_12), some (.int high_13), some (.int v_14), none] [.int low_12] z := by
                intro hq66
                replace hf := it_t hf hq66
                refine g_iconst hE (1) dX8_askOf_58 (by decide) ?_
                refine g_goto 63 hE dX8_askOf_59 (by decide) ?_
                obtain rfl := so1 hf
                exact hJ46
              have hF65 : q62 = false → G true iX8_askOf M (some (.int r0), z) 62 [some (.ref 0), some (.int claimant_), some (.int best_1), some (.int least_2), some (.int sort_3), some (.int low_12), some (.int high_13), some (.int v_14), none] [.int low_12] z := by
                intro hq66
                replace hf := it_f hf (by rw [hq66]; decide)
                refine g_iconst hE (0) dX8_askOf_62 (by decide) ?_
                obtain rfl := so1 hf
                exact hJ46
              replace hf := hx63
              clear hx63
              refine g_aload_n hE dX8_askOf_33 rfl ?_
              refine g_iload_n hE dX8_askOf_34 rfl ?_
              refine g_iload hE dX8_askOf_35 rfl ?_
              obtain ⟨r68, hc67, hf⟩ := b1_of hf
              refine g_callV2r hE mv_X8_fits kM_0 rfl wm_RX8_160 (by decide) (Nat.le_of_ble_eq_true rfl) dX8_askOf_37 (c_X8_fits hc67) ?_
              refine g_if_eq 62 hE dX8_askOf_40 (by decide) (fun h69 => ?_) (fun h69 => ?_)
              · replace hf := it_f hf (fun q => q h69)
                obtain rfl := so1 hf
                exact hF65 rfl
              · replace hf := it_t hf h69
                refine g_aload_n hE dX8_askOf_43 rfl ?_
                refine gtX8_3 hE kM_0 wf_RX8_16 dX8_askOf_44 ?_
                refine g_iload hE dX8_askOf_47 rfl ?_
                obtain ⟨h70, hf⟩ := ck_of hf
                refine g_iald hE kM_3 h70 dX8_askOf_49 ?_
                refine g_iload hE dX8_askOf_50 rfl ?_
                obtain ⟨r72, hc71, hf⟩ := b1_of hf
                refine g_callS2r hE ms_X8_isIn wm_RX8_204 (by decide) (Nat.le_of_ble_eq_true rfl) dX8_askOf_52 (c_X8_isIn hc71) ?_
                refine g_if_ne 62 hE dX8_askOf_55 (by decide) (fun h73 => ?_) (fun h73 => ?_)
                · replace hf := it_t hf h73
                  obtain rfl := so1 hf
                  exact hF65 rfl
                · replace hf := it_f hf (fun q => q h73)
                  obtain rfl := so1 hf
                  exact hT64 rfl
        exact hl15 _ _ _ _ hx18
  exact hl4 _ _ _ _ hx7
set_option maxHeartbeats 4000000 in
set_option maxRecDepth 100000 in
theorem c_X8_ask {l : Launch} {w : WC} {claimant_ : Int32} {z : Sg} {r0 : Int32} {z0 : Sg} (hf : f_X8_ask claimant_ z = some (r0, z0)) : CT true l iX8_ask w [.ref 0, .int claimant_] z (some (.int r0)) z0 := by
  refine ct_of 0 (lv := [some (.ref 0), some (.int claimant_)]) (by decide +kernel) rfl (Nat.le_of_ble_eq_true rfl) rfl (fun M hl hw hE => ?_)
  subst hl
  subst hw
  unfold f_X8_ask at hf
  obtain ⟨x1, z2, hx3, hf⟩ := b2_of hf
  have hJ4 : G true iX8_ask M (some (.int r0), z0) 18 [some (.ref 0), some (.int claimant_)] [.int x1] z2 := by
    obtain ⟨rfl, rfl⟩ := so2 hf
    exact g_iret hE rfl dX8_ask_18
  replace hf := hx3
  clear hx3
  refine g_aload_n hE dX8_ask_0 rfl ?_
  refine g_iload_n hE dX8_ask_1 rfl ?_
  obtain ⟨r7, z6, hc5, hf⟩ := b2_of hf
  refine g_callV1r hE mv_X8_isClaimant kM_0 rfl wm_RX8_129 (by decide) (Nat.le_of_ble_eq_true rfl) dX8_ask_2 (c_X8_isClaimant hc5) ?_
  refine g_if_eq 16 hE dX8_ask_5 (by decide) (fun h8 => ?_) (fun h8 => ?_)
  · replace hf := it_f hf (fun q => q h8)
    refine g_bipush hE (-2) dX8_ask_16 (by decide) ?_
    obtain ⟨rfl, rfl⟩ := so2 hf
    exact hJ4
  · replace hf := it_t hf h8
    refine g_aload_n hE dX8_ask_8 rfl ?_
    refine g_iload_n hE dX8_ask_9 rfl ?_
    obtain ⟨r10, hc9, hf⟩ := b1_of hf
    refine g_callV1r hE mv_X8_askOf kM_0 rfl wm_RX8_222 (by decide) (Nat.le_of_ble_eq_true rfl) dX8_ask_10 (c_X8_askOf hc9) ?_
    refine g_goto 18 hE dX8_ask_13 (by decide) ?_
    obtain ⟨rfl, rfl⟩ := so2 hf
    exact hJ4
set_option maxHeartbeats 4000000 in
set_option maxRecDepth 100000 in
theorem c_X8_lieOf {l : Launch} {w : WC} {virtue_ : Int32} {z : Sg} {r0 : Int32} (hf : f_X8_lieOf virtue_ z = some r0) : CT true l iX8_lieOf w [.ref 0, .int virtue_] z (some (.int r0)) z := by
  refine ct_of 4 (lv := [some (.ref 0), some (.int virtue_), none, none, none, none]) (by decide +kernel) rfl (Nat.le_of_ble_eq_true rfl) rfl (fun M hl hw hE => ?_)
  subst hl
  subst hw
  unfold f_X8_lieOf at hf
  refine g_iconst hE (-1) dX8_lieOf_0 (by decide) ?_
  refine g_istore_n [some _, some _, some _, none, none, none] hE dX8_lieOf_1 (by decide) rfl ?_
  refine g_iconst hE (0) dX8_lieOf_2 (by decide) ?_
  refine g_istore_n [some _, some _, some _, some _, none, none] hE dX8_lieOf_3 (by decide) rfl ?_
  obtain ⟨best_8, hx6, hf⟩ := b1_of hf
  have hJ7 : G true iX8_lieOf M (some (.int r0), z) 116 [some (.ref 0), some (.int virtue_), some (.int best_8), none, none, none] [] z := by
    refine g_iload_n hE dX8_lieOf_116 rfl ?_
    obtain rfl := so1 hf
    exact g_iret hE rfl dX8_lieOf_117
  clear hf
  have hl3 : ∀ (n5 : Nat) (best_1 : Int32) (set_2 : Int32), f_X8_lieOf_lp1 virtue_ z n5 best_1 set_2 = some best_8 → G true iX8_lieOf M (some (.int r0), z) 4 [some (.ref 0), some (.int virtue_), some (.int best_1), some (.int set_2), none, none] [] z := by
    intro n5
    induction n5 with
    | zero => intro best_1 set_2 hf; cases hf
    | succ n5 ih4 =>
      intro best_1 set_2 hf
      rw [f_X8_lieOf_lp1] at hf
      refine g_iload_n hE dX8_lieOf_4 rfl ?_
      refine g_bipush hE (16) dX8_lieOf_5 (by decide) ?_
      refine g_icmp_ge 116 hE dX8_lieOf_7 (by decide) (fun h9 => ?_) (fun h9 => ?_)
      · replace hf := it_f hf (cv_ngt h9)
        obtain rfl := so1 hf
        exact g_wk [true, true, true, false, false, false] rfl hJ7
      · replace hf := it_t hf (cv_gt h9)
        obtain ⟨x10, hx11, hf⟩ := b1_of hf
        have hJ12 : G true iX8_lieOf M (some (.int r0), z) 26 [some (.ref 0), some (.int virtue_), some (.int best_1), some (.int set_2), none, none] [.int x10] z := by
          refine g_istore [some _, some _, some _, some _, some _, none] hE dX8_lieOf_26 (by decide) rfl ?_
          refine g_iconst hE (0) dX8_lieOf_28 (by decide) ?_
          refine g_istore [some _, some _, some _, some _, some _, some _] hE dX8_lieOf_29 (by decide) rfl ?_
          obtain ⟨is_20, hx18, hf⟩ := b1_of hf
          have hJ19 : G true iX8_lieOf M (some (.int r0), z) 83 [some (.ref 0), some (.int virtue_), some (.int best_1), some (.int set_2), some (.int is_20), none] [] z := by
            obtain ⟨x21, hx22, hf⟩ := b1_of hf
            have hJ23 : G true iX8_lieOf M (some (.int r0), z) 109 [some (.ref 0), some (.int virtue_), some (.int best_1), some (.int set_2), some (.int is_20), none] [.int x21] z := by
              refine g_istore_n [some _, some _, some _, some _, some _, none] hE dX8_lieOf_109 (by decide) rfl ?_
              refine g_wk [true, true, true, true, false, false] rfl ?_
              refine g_iinc [some _, some _, some _, some _, none, none] hE (set_2 + (1 : Int32)) dX8_lieOf_110 rfl rfl (by decide) rfl ?_
              refine g_goto 4 hE dX8_lieOf_113 (by decide) ?_
              exact (ih4 _ _ hf)
            replace hf := hx22
            clear hx22
            obtain ⟨q24, hx25, hf⟩ := b1_of hf
            have hT26 : q24 = true → G true iX8_lieOf M (some (.int r0), z) 104 [some (.ref 0), some (.int virtue_), some (.int best_1), some (.int set_2), some (.int is_20), none] [] z := by
              intro hq28
              replace hf := it_t hf hq28
              refine g_iload_n hE dX8_lieOf_104 rfl ?_
              refine g_goto 109 hE dX8_lieOf_105 (by decide) ?_
              obtain rfl := so1 hf
              exact hJ23
            have hF27 : q24 = false → G true iX8_lieOf M (some (.int r0), z) 108 [some (.ref 0), some (.int virtue_), some (.int best_1), some (.int set_2), some (.int is_20), none] [] z := by
              intro hq28
              replace hf := it_f hf (by rw [hq28]; decide)
              refine g_iload_n hE dX8_lieOf_108 rfl ?_
              obtain rfl := so1 hf
              exact hJ23
            replace hf := hx25
            clear hx25
            refine g_iload hE dX8_lieOf_83 rfl ?_
            refine g_if_eq 108 hE dX8_lieOf_85 (by decide) (fun h29 => ?_) (fun h29 => ?_)
            · replace hf := it_f hf (fun q => q h29)
              obtain rfl := so1 hf
              exact hF27 rfl
            · replace hf := it_t hf h29
              refine g_iload_n hE dX8_lieOf_88 rfl ?_
              refine g_iconst hE (-1) dX8_lieOf_89 (by decide) ?_
              refine g_icmp_eq 104 hE dX8_lieOf_90 (by decide) (fun h30 => ?_) (fun h30 => ?_)
              · replace hf := it_t hf h30
                obtain rfl := so1 hf
                exact hT26 rfl
              · replace hf := it_f hf h30
                refine g_iload_n hE dX8_lieOf_93 rfl ?_
                obtain ⟨r32, hc31, hf⟩ := b1_of hf
                refine g_callS1r hE ms_X8_ones wm_RX8_164 (by decide) (Nat.le_of_ble_eq_true rfl) dX8_lieOf_94 (c_X8_ones hc31) ?_
                refine g_iload_n hE dX8_lieOf_97 rfl ?_
                obtain ⟨r34, hc33, hf⟩ := b1_of hf
                refine g_callS1r hE ms_X8_ones wm_RX8_164 (by decide) (Nat.le_of_ble_eq_true rfl) dX8_lieOf_98 (c_X8_ones hc33) ?_
                refine g_icmp_ge 108 hE dX8_lieOf_101 (by decide) (fun h35 => ?_) (fun h35 => ?_)
                · replace hf := it_f hf (cv_ngt h35)
                  obtain rfl := so1 hf
                  exact hF27 rfl
                · replace hf := it_t hf (cv_gt h35)
                  obtain rfl := so1 hf
                  exact hT26 rfl
          clear hf
          have hl15 : ∀ (n17 : Nat) (is_13 : Int32) (v_14 : Int32), f_X8_lieOf_lp2 virtue_ set_2 z n17 is_13 v_14 = some is_20 → G true iX8_lieOf M (some (.int r0), z) 31 [some (.ref 0), some (.int virtue_), some (.int best_1), some (.int set_2), some (.int is_13), some (.int v_14)] [] z := by
            intro n17
            induction n17 with
            | zero => intro is_13 v_14 hf; cases hf
            | succ n17 ih16 =>
              intro is_13 v_14 hf
              rw [f_X8_lieOf_lp2] at hf
              refine g_iload hE dX8_lieOf_31 rfl ?_
              refine g_aload_n hE dX8_lieOf_33 rfl ?_
              refine gtX8_2 hE kM_0 wf_RX8_106 dX8_lieOf_34 ?_
              refine g_icmp_ge 83 hE dX8_lieOf_37 (by decide) (fun h36 => ?_) (fun h36 => ?_)
              · replace hf := it_f hf (cv_ngt h36)
                obtain rfl := so1 hf
                exact g_wk [true, true, true, true, true, false] rfl hJ19
              · replace hf := it_t hf (cv_gt h36)
                obtain ⟨x37, hx38, hf⟩ := b1_of hf
                have hJ39 : G true iX8_lieOf M (some (.int r0), z) 75 [some (.ref 0), some (.int virtue_), some (.int best_1), some (.int set_2), some (.int is_13), some (.int v_14)] [.int x37] z := by
                  refine g_istore [some _, some _, some _, some _, some _, some _] hE dX8_lieOf_75 (by decide) rfl ?_
                  refine g_iinc [some _, some _, some _, some _, some _, some _] hE (v_14 + (1 : Int32)) dX8_lieOf_77 rfl rfl (by decide) rfl ?_
                  refine g_goto 31 hE dX8_lieOf_80 (by decide) ?_
                  exact (ih16 _ _ hf)
                replace hf := hx38
                clear hx38
                refine g_iload hE dX8_lieOf_40 rfl ?_
                refine g_if_eq 74 hE dX8_lieOf_42 (by decide) (fun h40 => ?_) (fun h40 => ?_)
                · replace hf := it_f hf (fun q => q h40)
                  refine g_iconst hE (0) dX8_lieOf_74 (by decide) ?_
                  obtain rfl := so1 hf
                  exact hJ39
                · replace hf := it_t hf h40
                  refine g_iload hE dX8_lieOf_45 rfl ?_
                  refine g_iload_n hE dX8_lieOf_47 rfl ?_
                  refine g_icmp_eq 70 hE dX8_lieOf_48 (by decide) (fun h41 => ?_) (fun h41 => ?_)
                  · replace hf := it_t hf h41
                    refine g_iconst hE (1) dX8_lieOf_70 (by decide) ?_
                    refine g_goto 75 hE dX8_lieOf_71 (by decide) ?_
                    obtain rfl := so1 hf
                    exact hJ39
                  · replace hf := it_f hf h41
                    refine g_aload_n hE dX8_lieOf_51 rfl ?_
                    refine gtX8_3 hE kM_0 wf_RX8_16 dX8_lieOf_52 ?_
                    refine g_iload hE dX8_lieOf_55 rfl ?_
                    obtain ⟨h42, hf⟩ := ck_of hf
                    refine g_iald hE kM_3 h42 dX8_lieOf_57 ?_
                    refine g_aload_n hE dX8_lieOf_58 rfl ?_
                    refine gtX8_3 hE kM_0 wf_RX8_16 dX8_lieOf_59 ?_
                    refine g_iload_n hE dX8_lieOf_62 rfl ?_
                    obtain ⟨h43, hf⟩ := ck_of hf
                    refine g_iald hE kM_3 h43 dX8_lieOf_63 ?_
                    refine g_ixor hE dX8_lieOf_64 ?_
                    refine g_iload_n hE dX8_lieOf_65 rfl ?_
                    refine g_iand hE dX8_lieOf_66 ?_
                    refine g_if_eq 74 hE dX8_lieOf_67 (by decide) (fun h44 => ?_) (fun h44 => ?_)
                    · replace hf := it_f hf (fun q => q h44)
                      refine g_iconst hE (0) dX8_lieOf_74 (by decide) ?_
                      obtain rfl := so1 hf
                      exact hJ39
                    · replace hf := it_t hf h44
                      refine g_iconst hE (1) dX8_lieOf_70 (by decide) ?_
                      refine g_goto 75 hE dX8_lieOf_71 (by decide) ?_
                      obtain rfl := so1 hf
                      exact hJ39
          exact hl15 _ _ _ hx18
        replace hf := hx11
        clear hx11
        refine g_iload_n hE dX8_lieOf_10 rfl ?_
        obtain ⟨r46, hc45, hf⟩ := b1_of hf
        refine g_callS1r hE ms_X8_ones wm_RX8_164 (by decide) (Nat.le_of_ble_eq_true rfl) dX8_lieOf_11 (c_X8_ones hc45) ?_
        refine g_aload_n hE dX8_lieOf_14 rfl ?_
        refine gtX8_9 hE kM_0 wf_RX8_89 dX8_lieOf_15 ?_
        refine g_icmp_lt 25 hE dX8_lieOf_18 (by decide) (fun h47 => ?_) (fun h47 => ?_)
        · replace hf := it_f hf (cv_nge h47)
          refine g_iconst hE (0) dX8_lieOf_25 (by decide) ?_
          obtain rfl := so1 hf
          exact hJ12
        · replace hf := it_t hf (cv_ge h47)
          refine g_iconst hE (1) dX8_lieOf_21 (by decide) ?_
          refine g_goto 26 hE dX8_lieOf_22 (by decide) ?_
          obtain rfl := so1 hf
          exact hJ12
  exact hl3 _ _ _ hx6
set_option maxHeartbeats 4000000 in
set_option maxRecDepth 100000 in
theorem c_X8_lie {l : Launch} {w : WC} {virtue_ : Int32} {z : Sg} {r0 : Int32} {z0 : Sg} (hf : f_X8_lie virtue_ z = some (r0, z0)) : CT true l iX8_lie w [.ref 0, .int virtue_] z (some (.int r0)) z0 := by
  refine ct_of 0 (lv := [some (.ref 0), some (.int virtue_)]) (by decide +kernel) rfl (Nat.le_of_ble_eq_true rfl) rfl (fun M hl hw hE => ?_)
  subst hl
  subst hw
  unfold f_X8_lie at hf
  obtain ⟨x1, z2, hx3, hf⟩ := b2_of hf
  have hJ4 : G true iX8_lie M (some (.int r0), z0) 18 [some (.ref 0), some (.int virtue_)] [.int x1] z2 := by
    obtain ⟨rfl, rfl⟩ := so2 hf
    exact g_iret hE rfl dX8_lie_18
  replace hf := hx3
  clear hx3
  refine g_aload_n hE dX8_lie_0 rfl ?_
  refine g_iload_n hE dX8_lie_1 rfl ?_
  obtain ⟨r7, z6, hc5, hf⟩ := b2_of hf
  refine g_callV1r hE mv_X8_isVirtue kM_0 rfl wm_RX8_126 (by decide) (Nat.le_of_ble_eq_true rfl) dX8_lie_2 (c_X8_isVirtue hc5) ?_
  refine g_if_eq 16 hE dX8_lie_5 (by decide) (fun h8 => ?_) (fun h8 => ?_)
  · replace hf := it_f hf (fun q => q h8)
    refine g_bipush hE (-2) dX8_lie_16 (by decide) ?_
    obtain ⟨rfl, rfl⟩ := so2 hf
    exact hJ4
  · replace hf := it_t hf h8
    refine g_aload_n hE dX8_lie_8 rfl ?_
    refine g_iload_n hE dX8_lie_9 rfl ?_
    obtain ⟨r10, hc9, hf⟩ := b1_of hf
    refine g_callV1r hE mv_X8_lieOf kM_0 rfl wm_RX8_225 (by decide) (Nat.le_of_ble_eq_true rfl) dX8_lie_10 (c_X8_lieOf hc9) ?_
    refine g_goto 18 hE dX8_lie_13 (by decide) ?_
    obtain ⟨rfl, rfl⟩ := so2 hf
    exact hJ4
set_option maxHeartbeats 4000000 in
set_option maxRecDepth 100000 in
theorem c_X8_guessBy {l : Launch} {w : WC} {virtue_ : Int32} {hidden_ : Int32} {what_ : Int32} {z : Sg} {r0 : Int32} (hf : f_X8_guessBy virtue_ hidden_ what_ z = some r0) : CT true l iX8_guessBy w [.ref 0, .int virtue_, .int hidden_, .int what_] z (some (.int r0)) z := by
  refine ct_of 5 (lv := [some (.ref 0), some (.int virtue_), some (.int hidden_), some (.int what_), none, none, none, none, none]) (by decide +kernel) rfl (Nat.le_of_ble_eq_true rfl) rfl (fun M hl hw hE => ?_)
  subst hl
  subst hw
  unfold f_X8_guessBy at hf
  refine g_iconst hE (0) dX8_guessBy_0 (by decide) ?_
  refine g_istore [some _, some _, some _, some _, some _, none, none, none, none] hE dX8_guessBy_1 (by decide) rfl ?_
  refine g_iconst hE (0) dX8_guessBy_3 (by decide) ?_
  refine g_istore [some _, some _, some _, some _, some _, some _, none, none, none] hE dX8_guessBy_4 (by decide) rfl ?_
  refine g_iconst hE (0) dX8_guessBy_6 (by decide) ?_
  refine g_istore [some _, some _, some _, some _, some _, some _, some _, none, none] hE dX8_guessBy_7 (by decide) rfl ?_
  obtain ⟨all_9, most_10, hx7, hf⟩ := b2_of hf
  have hJ8 : G true iX8_guessBy M (some (.int r0), z) 112 [some (.ref 0), some (.int virtue_), some (.int hidden_), some (.int what_), some (.int all_9), some (.int most_10), none, none, none] [] z := by
    obtain ⟨x11, hx12, hf⟩ := b1_of hf
    have hJ13 : G true iX8_guessBy M (some (.int r0), z) 123 [some (.ref 0), some (.int virtue_), some (.int hidden_), some (.int what_), some (.int all_9), some (.int most_10), none, none, none] [.int x11] z := by
      obtain rfl := so1 hf
      exact g_iret hE rfl dX8_guessBy_123
    replace hf := hx12
    clear hx12
    refine g_iload_n hE dX8_guessBy_112 rfl ?_
    refine g_if_ne 121 hE dX8_guessBy_113 (by decide) (fun h14 => ?_) (fun h14 => ?_)
    · replace hf := it_f hf h14
      refine g_iload hE dX8_guessBy_121 rfl ?_
      obtain rfl := so1 hf
      exact hJ13
    · replace hf := it_t hf h14
      refine g_iload hE dX8_guessBy_116 rfl ?_
      refine g_goto 123 hE dX8_guessBy_118 (by decide) ?_
      obtain rfl := so1 hf
      exact hJ13
  clear hf
  have hl4 : ∀ (n6 : Nat) (all_1 : Int32) (most_2 : Int32) (v_3 : Int32), f_X8_guessBy_lp1 virtue_ hidden_ z n6 all_1 most_2 v_3 = some (all_9, most_10) → G true iX8_guessBy M (some (.int r0), z) 9 [some (.ref 0), some (.int virtue_), some (.int hidden_), some (.int what_), some (.int all_1), some (.int most_2), some (.int v_3), none, none] [] z := by
    intro n6
    induction n6 with
    | zero => intro all_1 most_2 v_3 hf; cases hf
    | succ n6 ih5 =>
      intro all_1 most_2 v_3 hf
      rw [f_X8_guessBy_lp1] at hf
      refine g_iload hE dX8_guessBy_9 rfl ?_
      refine g_aload_n hE dX8_guessBy_11 rfl ?_
      refine gtX8_2 hE kM_0 wf_RX8_106 dX8_guessBy_12 ?_
      refine g_icmp_ge 112 hE dX8_guessBy_15 (by decide) (fun h15 => ?_) (fun h15 => ?_)
      · replace hf := it_f hf (cv_ngt h15)
        obtain ⟨rfl, rfl⟩ := so2 hf
        exact g_wk [true, true, true, true, true, true, false, false, false] rfl hJ8
      · replace hf := it_t hf (cv_gt h15)
        obtain ⟨all_18, most_19, hx16, hf⟩ := b2_of hf
        have hJ17 : G true iX8_guessBy M (some (.int r0), z) 106 [some (.ref 0), some (.int virtue_), some (.int hidden_), some (.int what_), some (.int all_18), some (.int most_19), some (.int v_3), none, none] [] z := by
          refine g_iinc [some _, some _, some _, some _, some _, some _, some _, none, none] hE (v_3 + (1 : Int32)) dX8_guessBy_106 rfl rfl (by decide) rfl ?_
          refine g_goto 9 hE dX8_guessBy_109 (by decide) ?_
          exact (ih5 _ _ _ hf)
        replace hf := hx16
        clear hx16
        refine g_aload_n hE dX8_guessBy_18 rfl ?_
        refine gtX8_3 hE kM_0 wf_RX8_16 dX8_guessBy_19 ?_
        refine g_iload hE dX8_guessBy_22 rfl ?_
        obtain ⟨h20, hf⟩ := ck_of hf
        refine g_iald hE kM_3 h20 dX8_guessBy_24 ?_
        refine g_aload_n hE dX8_guessBy_25 rfl ?_
        refine gtX8_3 hE kM_0 wf_RX8_16 dX8_guessBy_26 ?_
        refine g_iload_n hE dX8_guessBy_29 rfl ?_
        obtain ⟨h21, hf⟩ := ck_of hf
        refine g_iald hE kM_3 h21 dX8_guessBy_30 ?_
        refine g_ixor hE dX8_guessBy_31 ?_
        refine g_iload_n hE dX8_guessBy_32 rfl ?_
        refine g_iconst hE (-1) dX8_guessBy_33 (by decide) ?_
        refine g_ixor hE dX8_guessBy_34 ?_
        refine g_iand hE dX8_guessBy_35 ?_
        refine g_if_ne 106 hE dX8_guessBy_36 (by decide) (fun h22 => ?_) (fun h22 => ?_)
        · replace hf := it_f hf h22
          obtain ⟨rfl, rfl⟩ := so2 hf
          exact hJ17
        · replace hf := it_t hf h22
          refine g_iconst hE (0) dX8_guessBy_39 (by decide) ?_
          refine g_istore [some _, some _, some _, some _, some _, some _, some _, some _, none] hE dX8_guessBy_40 (by decide) rfl ?_
          refine g_iconst hE (0) dX8_guessBy_42 (by decide) ?_
          refine g_istore [some _, some _, some _, some _, some _, some _, some _, some _, some _] hE dX8_guessBy_43 (by decide) rfl ?_
          obtain ⟨n_30, hx28, hf⟩ := b1_of hf
          have hJ29 : G true iX8_guessBy M (some (.int r0), z) 87 [some (.ref 0), some (.int virtue_), some (.int hidden_), some (.int what_), some (.int all_1), some (.int most_2), some (.int v_3), some (.int n_30), none] [] z := by
            obtain ⟨x31, hx32, hf⟩ := b1_of hf
            have hJ33 : G true iX8_guessBy M (some (.int r0), z) 101 [some (.ref 0), some (.int virtue_), some (.int hidden_), some (.int what_), some (.int all_1), some (.int most_2), some (.int v_3), some (.int n_30), none] [.int x31] z := by
              refine g_istore [some _, some _, some _, some _, some _, some _, some _, some _, none] hE dX8_guessBy_101 (by decide) rfl ?_
              refine g_iinc [some _, some _, some _, some _, some _, some _, some _, some _, none] hE (all_1 + (1 : Int32)) dX8_guessBy_103 rfl rfl (by decide) rfl ?_
              refine g_wk [true, true, true, true, true, true, true, false, false] rfl ?_
              obtain ⟨rfl, rfl⟩ := so2 hf
              exact hJ17
            replace hf := hx32
            clear hx32
            refine g_iload hE dX8_guessBy_87 rfl ?_
            refine g_iload hE dX8_guessBy_89 rfl ?_
            refine g_icmp_le 99 hE dX8_guessBy_91 (by decide) (fun h34 => ?_) (fun h34 => ?_)
            · replace hf := it_f hf (cv_ngt h34)
              refine g_iload hE dX8_guessBy_99 rfl ?_
              obtain rfl := so1 hf
              exact hJ33
            · replace hf := it_t hf (cv_gt h34)
              refine g_iload hE dX8_guessBy_94 rfl ?_
              refine g_goto 101 hE dX8_guessBy_96 (by decide) ?_
              obtain rfl := so1 hf
              exact hJ33
          clear hf
          have hl25 : ∀ (n27 : Nat) (n_23 : Int32) (w_24 : Int32), f_X8_guessBy_lp2 v_3 z n27 n_23 w_24 = some n_30 → G true iX8_guessBy M (some (.int r0), z) 45 [some (.ref 0), some (.int virtue_), some (.int hidden_), some (.int what_), some (.int all_1), some (.int most_2), some (.int v_3), some (.int n_23), some (.int w_24)] [] z := by
            intro n27
            induction n27 with
            | zero => intro n_23 w_24 hf; cases hf
            | succ n27 ih26 =>
              intro n_23 w_24 hf
              rw [f_X8_guessBy_lp2] at hf
              refine g_iload hE dX8_guessBy_45 rfl ?_
              refine g_aload_n hE dX8_guessBy_47 rfl ?_
              refine gtX8_2 hE kM_0 wf_RX8_106 dX8_guessBy_48 ?_
              refine g_icmp_ge 87 hE dX8_guessBy_51 (by decide) (fun h35 => ?_) (fun h35 => ?_)
              · replace hf := it_f hf (cv_ngt h35)
                obtain rfl := so1 hf
                exact g_wk [true, true, true, true, true, true, true, true, false] rfl hJ29
              · replace hf := it_t hf (cv_gt h35)
                refine g_iload hE dX8_guessBy_54 rfl ?_
                obtain ⟨x36, hx37, hf⟩ := b1_of hf
                have hJ38 : G true iX8_guessBy M (some (.int r0), z) 78 [some (.ref 0), some (.int virtue_), some (.int hidden_), some (.int what_), some (.int all_1), some (.int most_2), some (.int v_3), some (.int n_23), some (.int w_24)] [.int x36, .int n_23] z := by
                  refine g_iadd hE dX8_guessBy_78 ?_
                  refine g_istore [some _, some _, some _, some _, some _, some _, some _, some _, some _] hE dX8_guessBy_79 (by decide) rfl ?_
                  refine g_iinc [some _, some _, some _, some _, some _, some _, some _, some _, some _] hE (w_24 + (1 : Int32)) dX8_guessBy_81 rfl rfl (by decide) rfl ?_
                  refine g_goto 45 hE dX8_guessBy_84 (by decide) ?_
                  exact (ih26 _ _ hf)
                replace hf := hx37
                clear hx37
                refine g_aload_n hE dX8_guessBy_56 rfl ?_
                refine gtX8_3 hE kM_0 wf_RX8_16 dX8_guessBy_57 ?_
                refine g_iload hE dX8_guessBy_60 rfl ?_
                obtain ⟨h39, hf⟩ := ck_of hf
                refine g_iald hE kM_3 h39 dX8_guessBy_62 ?_
                refine g_aload_n hE dX8_guessBy_63 rfl ?_
                refine gtX8_3 hE kM_0 wf_RX8_16 dX8_guessBy_64 ?_
                refine g_iload hE dX8_guessBy_67 rfl ?_
                obtain ⟨h40, hf⟩ := ck_of hf
                refine g_iald hE kM_3 h40 dX8_guessBy_69 ?_
                refine g_icmp_ne 77 hE dX8_guessBy_70 (by decide) (fun h41 => ?_) (fun h41 => ?_)
                · replace hf := it_f hf h41
                  refine g_iconst hE (0) dX8_guessBy_77 (by decide) ?_
                  obtain rfl := so1 hf
                  exact hJ38
                · replace hf := it_t hf h41
                  refine g_iconst hE (1) dX8_guessBy_73 (by decide) ?_
                  refine g_goto 78 hE dX8_guessBy_74 (by decide) ?_
                  obtain rfl := so1 hf
                  exact hJ38
          exact hl25 _ _ _ hx28
  exact hl4 _ _ _ _ hx7
set_option maxHeartbeats 4000000 in
set_option maxRecDepth 100000 in
theorem c_X8_guess {l : Launch} {w : WC} {virtue_ : Int32} {what_ : Int32} {z : Sg} {r0 : Int64} {z0 : Sg} (hf : f_X8_guess virtue_ what_ z = some (r0, z0)) : CT true l iX8_guess w [.ref 0, .int virtue_, .int what_] z (some (.long r0)) z0 := by
  refine ct_of 0 (lv := [some (.ref 0), some (.int virtue_), some (.int what_)]) (by decide +kernel) rfl (Nat.le_of_ble_eq_true rfl) rfl (fun M hl hw hE => ?_)
  subst hl
  subst hw
  unfold f_X8_guess at hf
  obtain ⟨x1, z2, hx3, hf⟩ := b2_of hf
  have hJ4 : G true iX8_guess M (some (.long r0), z0) 51 [some (.ref 0), some (.int virtue_), some (.int what_)] [.long x1] z2 := by
    obtain ⟨rfl, rfl⟩ := so2 hf
    exact g_lret hE rfl dX8_guess_51
  replace hf := hx3
  clear hx3
  obtain ⟨q5, z6, hx7, hf⟩ := b2_of hf
  have hT8 : q5 = true → G true iX8_guess M (some (.long r0), z0) 17 [some (.ref 0), some (.int virtue_), some (.int what_)] [] z6 := by
    intro hq10
    replace hf := it_t hf hq10
    refine g_aload_n hE dX8_guess_17 rfl ?_
    refine g_iload_n hE dX8_guess_18 rfl ?_
    refine g_aload_n hE dX8_guess_19 rfl ?_
    refine gtX8_10 hE kM_0 wf_RX8_136 dX8_guess_20 ?_
    refine g_iconst hE (1) dX8_guess_23 (by decide) ?_
    obtain ⟨r12, hc11, hf⟩ := b1_of hf
    refine g_callV3r hE mv_X8_guessBy kM_0 rfl wm_RX8_228 (by decide) (Nat.le_of_ble_eq_true rfl) dX8_guess_24 (c_X8_guessBy hc11) ?_
    refine g_i2l hE dX8_guess_27 ?_
    refine g_aload_n hE dX8_guess_28 rfl ?_
    refine g_iload_n hE dX8_guess_29 rfl ?_
    refine g_aload_n hE dX8_guess_30 rfl ?_
    refine gtX8_10 hE kM_0 wf_RX8_136 dX8_guess_31 ?_
    refine g_iconst hE (0) dX8_guess_34 (by decide) ?_
    obtain ⟨r14, hc13, hf⟩ := b1_of hf
    refine g_callV3r hE mv_X8_guessBy kM_0 rfl wm_RX8_228 (by decide) (Nat.le_of_ble_eq_true rfl) dX8_guess_35 (c_X8_guessBy hc13) ?_
    refine g_i2l hE dX8_guess_38 ?_
    refine g_iload_n hE dX8_guess_39 rfl ?_
    obtain ⟨r16, hc15, hf⟩ := b1_of hf
    refine g_callS3r hE ms_X8_lowest wm_RX8_231 (by decide) (Nat.le_of_ble_eq_true rfl) dX8_guess_40 (c_X8_lowest hc15) ?_
    refine g_goto 51 hE dX8_guess_43 (by decide) ?_
    obtain ⟨rfl, rfl⟩ := so2 hf
    exact hJ4
  have hF9 : q5 = false → G true iX8_guess M (some (.long r0), z0) 46 [some (.ref 0), some (.int virtue_), some (.int what_)] [] z6 := by
    intro hq10
    replace hf := it_f hf (by rw [hq10]; decide)
    refine g_bipush hE (-2) dX8_guess_46 (by decide) ?_
    obtain ⟨r18, hc17, hf⟩ := b1_of hf
    refine g_callS1r hE ms_X8_no wm_RX8_235 (by decide) (Nat.le_of_ble_eq_true rfl) dX8_guess_48 (c_X8_no hc17) ?_
    obtain ⟨rfl, rfl⟩ := so2 hf
    exact hJ4
  replace hf := hx7
  clear hx7
  refine g_aload_n hE dX8_guess_0 rfl ?_
  refine g_iload_n hE dX8_guess_1 rfl ?_
  obtain ⟨r21, z20, hc19, hf⟩ := b2_of hf
  refine g_callV1r hE mv_X8_isVirtue kM_0 rfl wm_RX8_126 (by decide) (Nat.le_of_ble_eq_true rfl) dX8_guess_2 (c_X8_isVirtue hc19) ?_
  refine g_if_eq 46 hE dX8_guess_5 (by decide) (fun h22 => ?_) (fun h22 => ?_)
  · replace hf := it_f hf (fun q => q h22)
    obtain ⟨rfl, rfl⟩ := so2 hf
    exact hF9 rfl
  · replace hf := it_t hf h22
    refine g_iload_n hE dX8_guess_8 rfl ?_
    refine g_iconst hE (0) dX8_guess_9 (by decide) ?_
    refine g_iconst hE (1) dX8_guess_10 (by decide) ?_
    obtain ⟨r24, hc23, hf⟩ := b1_of hf
    refine g_callS3r hE ms_X8_in wm_RX8_98 (by decide) (Nat.le_of_ble_eq_true rfl) dX8_guess_11 (c_X8_in hc23) ?_
    refine g_if_eq 46 hE dX8_guess_14 (by decide) (fun h25 => ?_) (fun h25 => ?_)
    · replace hf := it_f hf (fun q => q h25)
      obtain ⟨rfl, rfl⟩ := so2 hf
      exact hF9 rfl
    · replace hf := it_t hf h25
      obtain ⟨rfl, rfl⟩ := so2 hf
      exact hT8 rfl
set_option maxHeartbeats 4000000 in
set_option maxRecDepth 100000 in
theorem c_X8_guardOf {l : Launch} {w : WC} {sixteenths_ : Int32} {z : Sg} {r0 : Int32} {z0 : Sg} (hf : f_X8_guardOf sixteenths_ z = some (r0, z0)) : CT true l iX8_guardOf w [.ref 0, .int sixteenths_] z (some (.int r0)) z0 := by
  refine ct_of 4 (lv := [some (.ref 0), some (.int sixteenths_), none, none, none, none]) (by decide +kernel) rfl (Nat.le_of_ble_eq_true rfl) rfl (fun M hl hw hE => ?_)
  subst hl
  subst hw
  unfold f_X8_guardOf at hf
  refine g_aload_n hE dX8_guardOf_0 rfl ?_
  obtain ⟨z2, hc1, hf⟩ := b1_of hf
  refine g_callV0v hE mv_X8_reads kM_0 rfl wm_RX8_123 (by decide) (Nat.le_of_ble_eq_true rfl) dX8_guardOf_1 (c_X8_reads hc1) ?_
  refine g_iconst hE (-1) dX8_guardOf_4 (by decide) ?_
  refine g_istore_n [some _, some _, some _, none, none, none] hE dX8_guardOf_5 (by decide) rfl ?_
  refine g_iconst hE (0) dX8_guardOf_6 (by decide) ?_
  refine g_istore_n [some _, some _, some _, some _, none, none] hE dX8_guardOf_7 (by decide) rfl ?_
  obtain ⟨best_10, hx8, hf⟩ := b1_of hf
  have hJ9 : G true iX8_guardOf M (some (.int r0), z0) 104 [some (.ref 0), some (.int sixteenths_), some (.int best_10), none, none, none] [] z2 := by
    refine g_iload_n hE dX8_guardOf_104 rfl ?_
    obtain ⟨rfl, rfl⟩ := so2 hf
    exact g_iret hE rfl dX8_guardOf_105
  clear hf
  have hl5 : ∀ (n7 : Nat) (best_3 : Int32) (set_4 : Int32), f_X8_guardOf_lp1 sixteenths_ z2 n7 best_3 set_4 = some best_10 → G true iX8_guardOf M (some (.int r0), z0) 8 [some (.ref 0), some (.int sixteenths_), some (.int best_3), some (.int set_4), none, none] [] z2 := by
    intro n7
    induction n7 with
    | zero => intro best_3 set_4 hf; cases hf
    | succ n7 ih6 =>
      intro best_3 set_4 hf
      rw [f_X8_guardOf_lp1] at hf
      refine g_iload_n hE dX8_guardOf_8 rfl ?_
      refine g_bipush hE (16) dX8_guardOf_9 (by decide) ?_
      refine g_icmp_ge 104 hE dX8_guardOf_11 (by decide) (fun h11 => ?_) (fun h11 => ?_)
      · replace hf := it_f hf (cv_ngt h11)
        obtain rfl := so1 hf
        exact g_wk [true, true, true, false, false, false] rfl hJ9
      · replace hf := it_t hf (cv_gt h11)
        refine g_iconst hE (1) dX8_guardOf_14 (by decide) ?_
        refine g_istore [some _, some _, some _, some _, some _, none] hE dX8_guardOf_15 (by decide) rfl ?_
        refine g_iconst hE (0) dX8_guardOf_17 (by decide) ?_
        refine g_istore [some _, some _, some _, some _, some _, some _] hE dX8_guardOf_18 (by decide) rfl ?_
        obtain ⟨is_19, hx17, hf⟩ := b1_of hf
        have hJ18 : G true iX8_guardOf M (some (.int r0), z0) 71 [some (.ref 0), some (.int sixteenths_), some (.int best_3), some (.int set_4), some (.int is_19), none] [] z2 := by
          obtain ⟨x20, hx21, hf⟩ := b1_of hf
          have hJ22 : G true iX8_guardOf M (some (.int r0), z0) 97 [some (.ref 0), some (.int sixteenths_), some (.int best_3), some (.int set_4), some (.int is_19), none] [.int x20] z2 := by
            refine g_istore_n [some _, some _, some _, some _, some _, none] hE dX8_guardOf_97 (by decide) rfl ?_
            refine g_wk [true, true, true, true, false, false] rfl ?_
            refine g_iinc [some _, some _, some _, some _, none, none] hE (set_4 + (1 : Int32)) dX8_guardOf_98 rfl rfl (by decide) rfl ?_
            refine g_goto 8 hE dX8_guardOf_101 (by decide) ?_
            exact (ih6 _ _ hf)
          replace hf := hx21
          clear hx21
          obtain ⟨q23, hx24, hf⟩ := b1_of hf
          have hT25 : q23 = true → G true iX8_guardOf M (some (.int r0), z0) 92 [some (.ref 0), some (.int sixteenths_), some (.int best_3), some (.int set_4), some (.int is_19), none] [] z2 := by
            intro hq27
            replace hf := it_t hf hq27
            refine g_iload_n hE dX8_guardOf_92 rfl ?_
            refine g_goto 97 hE dX8_guardOf_93 (by decide) ?_
            obtain rfl := so1 hf
            exact hJ22
          have hF26 : q23 = false → G true iX8_guardOf M (some (.int r0), z0) 96 [some (.ref 0), some (.int sixteenths_), some (.int best_3), some (.int set_4), some (.int is_19), none] [] z2 := by
            intro hq27
            replace hf := it_f hf (by rw [hq27]; decide)
            refine g_iload_n hE dX8_guardOf_96 rfl ?_
            obtain rfl := so1 hf
            exact hJ22
          replace hf := hx24
          clear hx24
          refine g_iload hE dX8_guardOf_71 rfl ?_
          refine g_if_eq 96 hE dX8_guardOf_73 (by decide) (fun h28 => ?_) (fun h28 => ?_)
          · replace hf := it_f hf (fun q => q h28)
            obtain rfl := so1 hf
            exact hF26 rfl
          · replace hf := it_t hf h28
            refine g_iload_n hE dX8_guardOf_76 rfl ?_
            refine g_iconst hE (-1) dX8_guardOf_77 (by decide) ?_
            refine g_icmp_eq 92 hE dX8_guardOf_78 (by decide) (fun h29 => ?_) (fun h29 => ?_)
            · replace hf := it_t hf h29
              obtain rfl := so1 hf
              exact hT25 rfl
            · replace hf := it_f hf h29
              refine g_iload_n hE dX8_guardOf_81 rfl ?_
              obtain ⟨r31, hc30, hf⟩ := b1_of hf
              refine g_callS1r hE ms_X8_ones wm_RX8_164 (by decide) (Nat.le_of_ble_eq_true rfl) dX8_guardOf_82 (c_X8_ones hc30) ?_
              refine g_iload_n hE dX8_guardOf_85 rfl ?_
              obtain ⟨r33, hc32, hf⟩ := b1_of hf
              refine g_callS1r hE ms_X8_ones wm_RX8_164 (by decide) (Nat.le_of_ble_eq_true rfl) dX8_guardOf_86 (c_X8_ones hc32) ?_
              refine g_icmp_ge 96 hE dX8_guardOf_89 (by decide) (fun h34 => ?_) (fun h34 => ?_)
              · replace hf := it_f hf (cv_ngt h34)
                obtain rfl := so1 hf
                exact hF26 rfl
              · replace hf := it_t hf (cv_gt h34)
                obtain rfl := so1 hf
                exact hT25 rfl
        clear hf
        have hl14 : ∀ (n16 : Nat) (is_12 : Int32) (v_13 : Int32), f_X8_guardOf_lp2 sixteenths_ set_4 z2 n16 is_12 v_13 = some is_19 → G true iX8_guardOf M (some (.int r0), z0) 20 [some (.ref 0), some (.int sixteenths_), some (.int best_3), some (.int set_4), some (.int is_12), some (.int v_13)] [] z2 := by
          intro n16
          induction n16 with
          | zero => intro is_12 v_13 hf; cases hf
          | succ n16 ih15 =>
            intro is_12 v_13 hf
            rw [f_X8_guardOf_lp2] at hf
            refine g_iload hE dX8_guardOf_20 rfl ?_
            refine g_aload_n hE dX8_guardOf_22 rfl ?_
            refine gtX8_2 hE kM_0 wf_RX8_106 dX8_guardOf_23 ?_
            refine g_icmp_ge 71 hE dX8_guardOf_26 (by decide) (fun h35 => ?_) (fun h35 => ?_)
            · replace hf := it_f hf (cv_ngt h35)
              obtain rfl := so1 hf
              exact g_wk [true, true, true, true, true, false] rfl hJ18
            · replace hf := it_t hf (cv_gt h35)
              obtain ⟨x36, hx37, hf⟩ := b1_of hf
              have hJ38 : G true iX8_guardOf M (some (.int r0), z0) 63 [some (.ref 0), some (.int sixteenths_), some (.int best_3), some (.int set_4), some (.int is_12), some (.int v_13)] [.int x36] z2 := by
                refine g_istore [some _, some _, some _, some _, some _, some _] hE dX8_guardOf_63 (by decide) rfl ?_
                refine g_iinc [some _, some _, some _, some _, some _, some _] hE (v_13 + (1 : Int32)) dX8_guardOf_65 rfl rfl (by decide) rfl ?_
                refine g_goto 20 hE dX8_guardOf_68 (by decide) ?_
                exact (ih15 _ _ hf)
              replace hf := hx37
              clear hx37
              refine g_iload hE dX8_guardOf_29 rfl ?_
              refine g_if_eq 62 hE dX8_guardOf_31 (by decide) (fun h39 => ?_) (fun h39 => ?_)
              · replace hf := it_f hf (fun q => q h39)
                refine g_iconst hE (0) dX8_guardOf_62 (by decide) ?_
                obtain rfl := so1 hf
                exact hJ38
              · replace hf := it_t hf h39
                refine g_bipush hE (16) dX8_guardOf_34 (by decide) ?_
                refine g_aload_n hE dX8_guardOf_36 rfl ?_
                refine g_iload hE dX8_guardOf_37 rfl ?_
                refine g_iload_n hE dX8_guardOf_39 rfl ?_
                refine g_iconst hE (1) dX8_guardOf_40 (by decide) ?_
                obtain ⟨r41, hc40, hf⟩ := b1_of hf
                refine g_callV3r hE mv_X8_guessBy kM_0 rfl wm_RX8_228 (by decide) (Nat.le_of_ble_eq_true rfl) dX8_guardOf_41 (c_X8_guessBy hc40) ?_
                refine g_imul hE dX8_guardOf_44 ?_
                refine g_iload_n hE dX8_guardOf_45 rfl ?_
                refine g_aload_n hE dX8_guardOf_46 rfl ?_
                refine g_iload hE dX8_guardOf_47 rfl ?_
                refine g_iload_n hE dX8_guardOf_49 rfl ?_
                refine g_iconst hE (0) dX8_guardOf_50 (by decide) ?_
                obtain ⟨r43, hc42, hf⟩ := b1_of hf
                refine g_callV3r hE mv_X8_guessBy kM_0 rfl wm_RX8_228 (by decide) (Nat.le_of_ble_eq_true rfl) dX8_guardOf_51 (c_X8_guessBy hc42) ?_
                refine g_imul hE dX8_guardOf_54 ?_
                refine g_icmp_gt 62 hE dX8_guardOf_55 (by decide) (fun h44 => ?_) (fun h44 => ?_)
                · replace hf := it_f hf (cv_nge h44)
                  refine g_iconst hE (0) dX8_guardOf_62 (by decide) ?_
                  obtain rfl := so1 hf
                  exact hJ38
                · replace hf := it_t hf (cv_ge h44)
                  refine g_iconst hE (1) dX8_guardOf_58 (by decide) ?_
                  refine g_goto 63 hE dX8_guardOf_59 (by decide) ?_
                  obtain rfl := so1 hf
                  exact hJ38
        exact hl14 _ _ _ hx17
  exact hl5 _ _ _ hx8
set_option maxHeartbeats 4000000 in
set_option maxRecDepth 100000 in
theorem c_X8_guard {l : Launch} {w : WC} {sixteenths_ : Int32} {z : Sg} {r0 : Int32} {z0 : Sg} (hf : f_X8_guard sixteenths_ z = some (r0, z0)) : CT true l iX8_guard w [.ref 0, .int sixteenths_] z (some (.int r0)) z0 := by
  refine ct_of 0 (lv := [some (.ref 0), some (.int sixteenths_)]) (by decide +kernel) rfl (Nat.le_of_ble_eq_true rfl) rfl (fun M hl hw hE => ?_)
  subst hl
  subst hw
  unfold f_X8_guard at hf
  obtain ⟨x1, z2, hx3, hf⟩ := b2_of hf
  have hJ4 : G true iX8_guard M (some (.int r0), z0) 20 [some (.ref 0), some (.int sixteenths_)] [.int x1] z2 := by
    obtain ⟨rfl, rfl⟩ := so2 hf
    exact g_iret hE rfl dX8_guard_20
  replace hf := hx3
  clear hx3
  refine g_iload_n hE dX8_guard_0 rfl ?_
  refine g_iconst hE (0) dX8_guard_1 (by decide) ?_
  refine g_bipush hE (16) dX8_guard_2 (by decide) ?_
  obtain ⟨r6, hc5, hf⟩ := b1_of hf
  refine g_callS3r hE ms_X8_in wm_RX8_98 (by decide) (Nat.le_of_ble_eq_true rfl) dX8_guard_4 (c_X8_in hc5) ?_
  refine g_if_eq 18 hE dX8_guard_7 (by decide) (fun h7 => ?_) (fun h7 => ?_)
  · replace hf := it_f hf (fun q => q h7)
    refine g_bipush hE (-2) dX8_guard_18 (by decide) ?_
    obtain ⟨rfl, rfl⟩ := so2 hf
    exact hJ4
  · replace hf := it_t hf h7
    refine g_aload_n hE dX8_guard_10 rfl ?_
    refine g_iload_n hE dX8_guard_11 rfl ?_
    obtain ⟨r10, z9, hc8, hf⟩ := b2_of hf
    refine g_callV1r hE mv_X8_guardOf kM_0 rfl wm_RX8_239 (by decide) (Nat.le_of_ble_eq_true rfl) dX8_guard_12 (c_X8_guardOf hc8) ?_
    refine g_goto 20 hE dX8_guard_15 (by decide) ?_
    obtain ⟨rfl, rfl⟩ := so2 hf
    exact hJ4
set_option maxHeartbeats 4000000 in
set_option maxRecDepth 100000 in
theorem c_X8_shelvesOf {l : Launch} {w : WC} {i_ : Int32} {z : Sg} {r0 : Int32} {z0 : Sg} (hf : f_X8_shelvesOf i_ z = some (r0, z0)) : CT true l iX8_shelvesOf w [.ref 0, .int i_] z (some (.int r0)) z0 := by
  refine ct_of 8 (lv := [some (.ref 0), some (.int i_), none, none, none, none, none, none, none, none]) (by decide +kernel) rfl (Nat.le_of_ble_eq_true rfl) rfl (fun M hl hw hE => ?_)
  subst hl
  subst hw
  unfold f_X8_shelvesOf at hf
  refine g_aload_n hE dX8_shelvesOf_0 rfl ?_
  obtain ⟨z2, hc1, hf⟩ := b1_of hf
  refine g_callV0v hE mv_X8_reads kM_0 rfl wm_RX8_123 (by decide) (Nat.le_of_ble_eq_true rfl) dX8_shelvesOf_1 (c_X8_reads hc1) ?_
  obtain ⟨x3, hx4, hf⟩ := b1_of hf
  have hJ5 : G true iX8_shelvesOf M (some (.int r0), z0) 22 [some (.ref 0), some (.int i_), none, none, none, none, none, none, none, none] [.int x3] z2 := by
    refine g_istore_n [some _, some _, some _, none, none, none, none, none, none, none] hE dX8_shelvesOf_22 (by decide) rfl ?_
    refine g_iconst hE (0) dX8_shelvesOf_23 (by decide) ?_
    refine g_istore_n [some _, some _, some _, some _, none, none, none, none, none, none] hE dX8_shelvesOf_24 (by decide) rfl ?_
    refine g_iconst hE (-1) dX8_shelvesOf_25 (by decide) ?_
    refine g_istore [some _, some _, some _, some _, some _, none, none, none, none, none] hE dX8_shelvesOf_26 (by decide) rfl ?_
    refine g_iconst hE (0) dX8_shelvesOf_28 (by decide) ?_
    refine g_istore [some _, some _, some _, some _, some _, some _, none, none, none, none] hE dX8_shelvesOf_29 (by decide) rfl ?_
    obtain ⟨steps_14, found_15, hx12, hf⟩ := b2_of hf
    have hJ13 : G true iX8_shelvesOf M (some (.int r0), z0) 141 [some (.ref 0), some (.int i_), some (.int x3), some (.int steps_14), some (.int found_15), none, none, none, none, none] [] z2 := by
      obtain ⟨x16, hx17, hf⟩ := b1_of hf
      have hJ18 : G true iX8_shelvesOf M (some (.int r0), z0) 152 [some (.ref 0), some (.int i_), some (.int x3), some (.int steps_14), some (.int found_15), none, none, none, none, none] [.int x16] z2 := by
        obtain ⟨rfl, rfl⟩ := so2 hf
        exact g_iret hE rfl dX8_shelvesOf_152
      replace hf := hx17
      clear hx17
      refine g_iload_n hE dX8_shelvesOf_141 rfl ?_
      refine g_iconst hE (-1) dX8_shelvesOf_142 (by decide) ?_
      refine g_icmp_ne 150 hE dX8_shelvesOf_143 (by decide) (fun h19 => ?_) (fun h19 => ?_)
      · replace hf := it_f hf h19
        refine g_iload hE dX8_shelvesOf_150 rfl ?_
        obtain rfl := so1 hf
        exact hJ18
      · replace hf := it_t hf h19
        refine g_iload_n hE dX8_shelvesOf_146 rfl ?_
        refine g_goto 152 hE dX8_shelvesOf_147 (by decide) ?_
        obtain rfl := so1 hf
        exact hJ18
    clear hf
    have hl9 : ∀ (n11 : Nat) (steps_6 : Int32) (found_7 : Int32) (v_8 : Int32), f_X8_shelvesOf_lp1 i_ x3 z2 n11 steps_6 found_7 v_8 = some (steps_14, found_15) → G true iX8_shelvesOf M (some (.int r0), z0) 31 [some (.ref 0), some (.int i_), some (.int x3), some (.int steps_6), some (.int found_7), some (.int v_8), none, none, none, none] [] z2 := by
      intro n11
      induction n11 with
      | zero => intro steps_6 found_7 v_8 hf; cases hf
      | succ n11 ih10 =>
        intro steps_6 found_7 v_8 hf
        rw [f_X8_shelvesOf_lp1] at hf
        refine g_iload hE dX8_shelvesOf_31 rfl ?_
        refine g_iload_n hE dX8_shelvesOf_33 rfl ?_
        refine g_icmp_ge 141 hE dX8_shelvesOf_34 (by decide) (fun h20 => ?_) (fun h20 => ?_)
        · replace hf := it_f hf (cv_ngt h20)
          obtain ⟨rfl, rfl⟩ := so2 hf
          exact g_wk [true, true, true, true, true, false, false, false, false, false] rfl hJ13
        · replace hf := it_t hf (cv_gt h20)
          refine g_iconst hE (0) dX8_shelvesOf_37 (by decide) ?_
          refine g_istore [some _, some _, some _, some _, some _, some _, some _, none, none, none] hE dX8_shelvesOf_38 (by decide) rfl ?_
          refine g_aload_n hE dX8_shelvesOf_40 rfl ?_
          refine g_iconst hE (1) dX8_shelvesOf_41 (by decide) ?_
          refine g_iload hE dX8_shelvesOf_42 rfl ?_
          obtain ⟨r22, hc21, hf⟩ := b1_of hf
          refine g_callV2r hE mv_X8_fittingOf kM_0 rfl wm_RX8_213 (by decide) (Nat.le_of_ble_eq_true rfl) dX8_shelvesOf_44 (c_X8_fittingOf hc21) ?_
          obtain ⟨r24, hc23, hf⟩ := b1_of hf
          refine g_callS1r hE ms_X8_ones wm_RX8_164 (by decide) (Nat.le_of_ble_eq_true rfl) dX8_shelvesOf_47 (c_X8_ones hc23) ?_
          refine g_istore [some _, some _, some _, some _, some _, some _, some _, some _, none, none] hE dX8_shelvesOf_50 (by decide) rfl ?_
          refine g_iconst hE (0) dX8_shelvesOf_52 (by decide) ?_
          refine g_istore [some _, some _, some _, some _, some _, some _, some _, some _, some _, none] hE dX8_shelvesOf_53 (by decide) rfl ?_
          obtain ⟨place_32, hx30, hf⟩ := b1_of hf
          have hJ31 : G true iX8_shelvesOf M (some (.int r0), z0) 110 [some (.ref 0), some (.int i_), some (.int x3), some (.int steps_6), some (.int found_7), some (.int v_8), some (.int place_32), some (.int r24), none, none] [] z2 := by
            refine g_iload_n hE dX8_shelvesOf_110 rfl ?_
            refine g_iload hE dX8_shelvesOf_111 rfl ?_
            refine g_iconst hE (1) dX8_shelvesOf_113 (by decide) ?_
            refine g_iadd hE dX8_shelvesOf_114 ?_
            refine g_iload hE dX8_shelvesOf_115 rfl ?_
            refine g_imul hE dX8_shelvesOf_117 ?_
            refine g_iadd hE dX8_shelvesOf_118 ?_
            refine g_istore_n [some _, some _, some _, some _, some _, some _, some _, some _, none, none] hE dX8_shelvesOf_119 (by decide) rfl ?_
            obtain ⟨x33, hx34, hf⟩ := b1_of hf
            have hJ35 : G true iX8_shelvesOf M (some (.int r0), z0) 133 [some (.ref 0), some (.int i_), some (.int x3), some (.int (steps_6 + ((place_32 + (1 : Int32)) * r24))), some (.int found_7), some (.int v_8), some (.int place_32), some (.int r24), none, none] [.int x33] z2 := by
              refine g_istore [some _, some _, some _, some _, some _, some _, some _, some _, none, none] hE dX8_shelvesOf_133 (by decide) rfl ?_
              refine g_wk [true, true, true, true, true, true, false, false, false, false] rfl ?_
              refine g_iinc [some _, some _, some _, some _, some _, some _, none, none, none, none] hE (v_8 + (1 : Int32)) dX8_shelvesOf_135 rfl rfl (by decide) rfl ?_
              refine g_goto 31 hE dX8_shelvesOf_138 (by decide) ?_
              exact (ih10 _ _ _ hf)
            replace hf := hx34
            clear hx34
            refine g_iload hE dX8_shelvesOf_120 rfl ?_
            refine g_iload_n hE dX8_shelvesOf_122 rfl ?_
            refine g_icmp_ne 131 hE dX8_shelvesOf_123 (by decide) (fun h36 => ?_) (fun h36 => ?_)
            · replace hf := it_f hf h36
              refine g_iload hE dX8_shelvesOf_131 rfl ?_
              obtain rfl := so1 hf
              exact hJ35
            · replace hf := it_t hf h36
              refine g_iload hE dX8_shelvesOf_126 rfl ?_
              refine g_goto 133 hE dX8_shelvesOf_128 (by decide) ?_
              obtain rfl := so1 hf
              exact hJ35
          clear hf
          have hl27 : ∀ (n29 : Nat) (place_25 : Int32) (w_26 : Int32), f_X8_shelvesOf_lp2 x3 v_8 r24 z2 n29 place_25 w_26 = some place_32 → G true iX8_shelvesOf M (some (.int r0), z0) 55 [some (.ref 0), some (.int i_), some (.int x3), some (.int steps_6), some (.int found_7), some (.int v_8), some (.int place_25), some (.int r24), some (.int w_26), none] [] z2 := by
            intro n29
            induction n29 with
            | zero => intro place_25 w_26 hf; cases hf
            | succ n29 ih28 =>
              intro place_25 w_26 hf
              rw [f_X8_shelvesOf_lp2] at hf
              refine g_iload hE dX8_shelvesOf_55 rfl ?_
              refine g_iload_n hE dX8_shelvesOf_57 rfl ?_
              refine g_icmp_ge 110 hE dX8_shelvesOf_58 (by decide) (fun h37 => ?_) (fun h37 => ?_)
              · replace hf := it_f hf (cv_ngt h37)
                obtain rfl := so1 hf
                exact g_wk [true, true, true, true, true, true, true, true, false, false] rfl hJ31
              · replace hf := it_t hf (cv_gt h37)
                refine g_aload_n hE dX8_shelvesOf_61 rfl ?_
                refine g_iconst hE (1) dX8_shelvesOf_62 (by decide) ?_
                refine g_iload hE dX8_shelvesOf_63 rfl ?_
                obtain ⟨r39, hc38, hf⟩ := b1_of hf
                refine g_callV2r hE mv_X8_fittingOf kM_0 rfl wm_RX8_213 (by decide) (Nat.le_of_ble_eq_true rfl) dX8_shelvesOf_65 (c_X8_fittingOf hc38) ?_
                obtain ⟨r41, hc40, hf⟩ := b1_of hf
                refine g_callS1r hE ms_X8_ones wm_RX8_164 (by decide) (Nat.le_of_ble_eq_true rfl) dX8_shelvesOf_68 (c_X8_ones hc40) ?_
                refine g_istore [some _, some _, some _, some _, some _, some _, some _, some _, some _, some _] hE dX8_shelvesOf_71 (by decide) rfl ?_
                refine g_iload hE dX8_shelvesOf_73 rfl ?_
                obtain ⟨x42, hx43, hf⟩ := b1_of hf
                have hJ44 : G true iX8_shelvesOf M (some (.int r0), z0) 101 [some (.ref 0), some (.int i_), some (.int x3), some (.int steps_6), some (.int found_7), some (.int v_8), some (.int place_25), some (.int r24), some (.int w_26), some (.int r41)] [.int x42, .int place_25] z2 := by
                  refine g_iadd hE dX8_shelvesOf_101 ?_
                  refine g_istore [some _, some _, some _, some _, some _, some _, some _, some _, some _, some _] hE dX8_shelvesOf_102 (by decide) rfl ?_
                  refine g_wk [true, true, true, true, true, true, true, true, true, false] rfl ?_
                  refine g_iinc [some _, some _, some _, some _, some _, some _, some _, some _, some _, none] hE (w_26 + (1 : Int32)) dX8_shelvesOf_104 rfl rfl (by decide) rfl ?_
                  refine g_goto 55 hE dX8_shelvesOf_107 (by decide) ?_
                  exact (ih28 _ _ hf)
                replace hf := hx43
                clear hx43
                obtain ⟨q45, hx46, hf⟩ := b1_of hf
                have hT47 : q45 = true → G true iX8_shelvesOf M (some (.int r0), z0) 96 [some (.ref 0), some (.int i_), some (.int x3), some (.int steps_6), some (.int found_7), some (.int v_8), some (.int place_25), some (.int r24), some (.int w_26), some (.int r41)] [.int place_25] z2 := by
                  intro hq49
                  replace hf := it_t hf hq49
                  refine g_iconst hE (1) dX8_shelvesOf_96 (by decide) ?_
                  refine g_goto 101 hE dX8_shelvesOf_97 (by decide) ?_
                  obtain rfl := so1 hf
                  exact hJ44
                have hF48 : q45 = false → G true iX8_shelvesOf M (some (.int r0), z0) 100 [some (.ref 0), some (.int i_), some (.int x3), some (.int steps_6), some (.int found_7), some (.int v_8), some (.int place_25), some (.int r24), some (.int w_26), some (.int r41)] [.int place_25] z2 := by
                  intro hq49
                  replace hf := it_f hf (by rw [hq49]; decide)
                  refine g_iconst hE (0) dX8_shelvesOf_100 (by decide) ?_
                  obtain rfl := so1 hf
                  exact hJ44
                replace hf := hx46
                clear hx46
                refine g_iload hE dX8_shelvesOf_75 rfl ?_
                refine g_iload hE dX8_shelvesOf_77 rfl ?_
                refine g_icmp_gt 96 hE dX8_shelvesOf_79 (by decide) (fun h50 => ?_) (fun h50 => ?_)
                · replace hf := it_t hf h50
                  obtain rfl := so1 hf
                  exact hT47 rfl
                · replace hf := it_f hf h50
                  refine g_iload hE dX8_shelvesOf_82 rfl ?_
                  refine g_iload hE dX8_shelvesOf_84 rfl ?_
                  refine g_icmp_ne 100 hE dX8_shelvesOf_86 (by decide) (fun h51 => ?_) (fun h51 => ?_)
                  · replace hf := it_f hf h51
                    obtain rfl := so1 hf
                    exact hF48 rfl
                  · replace hf := it_t hf h51
                    refine g_iload hE dX8_shelvesOf_89 rfl ?_
                    refine g_iload hE dX8_shelvesOf_91 rfl ?_
                    refine g_icmp_ge 100 hE dX8_shelvesOf_93 (by decide) (fun h52 => ?_) (fun h52 => ?_)
                    · replace hf := it_f hf (cv_ngt h52)
                      obtain rfl := so1 hf
                      exact hF48 rfl
                    · replace hf := it_t hf (cv_gt h52)
                      obtain rfl := so1 hf
                      exact hT47 rfl
          exact hl27 _ _ _ hx30
    exact hl9 _ _ _ _ hx12
  replace hf := hx4
  clear hx4
  refine g_aload_n hE dX8_shelvesOf_4 rfl ?_
  refine gtX8_2 hE kM_0 wf_RX8_106 dX8_shelvesOf_5 ?_
  refine g_bipush hE (6) dX8_shelvesOf_8 (by decide) ?_
  refine g_icmp_ge 20 hE dX8_shelvesOf_10 (by decide) (fun h53 => ?_) (fun h53 => ?_)
  · replace hf := it_f hf (cv_ngt h53)
    refine g_bipush hE (6) dX8_shelvesOf_20 (by decide) ?_
    obtain rfl := so1 hf
    exact hJ5
  · replace hf := it_t hf (cv_gt h53)
    refine g_aload_n hE dX8_shelvesOf_13 rfl ?_
    refine gtX8_2 hE kM_0 wf_RX8_106 dX8_shelvesOf_14 ?_
    refine g_goto 22 hE dX8_shelvesOf_17 (by decide) ?_
    obtain rfl := so1 hf
    exact hJ5
set_option maxHeartbeats 4000000 in
set_option maxRecDepth 100000 in
theorem c_X8_shelves {l : Launch} {w : WC} {i_ : Int32} {z : Sg} {r0 : Int32} {z0 : Sg} (hf : f_X8_shelves i_ z = some (r0, z0)) : CT true l iX8_shelves w [.ref 0, .int i_] z (some (.int r0)) z0 := by
  refine ct_of 0 (lv := [some (.ref 0), some (.int i_)]) (by decide +kernel) rfl (Nat.le_of_ble_eq_true rfl) rfl (fun M hl hw hE => ?_)
  subst hl
  subst hw
  unfold f_X8_shelves at hf
  obtain ⟨x1, z2, hx3, hf⟩ := b2_of hf
  have hJ4 : G true iX8_shelves M (some (.int r0), z0) 19 [some (.ref 0), some (.int i_)] [.int x1] z2 := by
    obtain ⟨rfl, rfl⟩ := so2 hf
    exact g_iret hE rfl dX8_shelves_19
  replace hf := hx3
  clear hx3
  refine g_iload_n hE dX8_shelves_0 rfl ?_
  refine g_iconst hE (-1) dX8_shelves_1 (by decide) ?_
  refine g_iconst hE (5) dX8_shelves_2 (by decide) ?_
  obtain ⟨r6, hc5, hf⟩ := b1_of hf
  refine g_callS3r hE ms_X8_in wm_RX8_98 (by decide) (Nat.le_of_ble_eq_true rfl) dX8_shelves_3 (c_X8_in hc5) ?_
  refine g_if_eq 17 hE dX8_shelves_6 (by decide) (fun h7 => ?_) (fun h7 => ?_)
  · replace hf := it_f hf (fun q => q h7)
    refine g_bipush hE (-2) dX8_shelves_17 (by decide) ?_
    obtain ⟨rfl, rfl⟩ := so2 hf
    exact hJ4
  · replace hf := it_t hf h7
    refine g_aload_n hE dX8_shelves_9 rfl ?_
    refine g_iload_n hE dX8_shelves_10 rfl ?_
    obtain ⟨r10, z9, hc8, hf⟩ := b2_of hf
    refine g_callV1r hE mv_X8_shelvesOf kM_0 rfl wm_RX8_242 (by decide) (Nat.le_of_ble_eq_true rfl) dX8_shelves_11 (c_X8_shelvesOf hc8) ?_
    refine g_goto 19 hE dX8_shelves_14 (by decide) ?_
    obtain ⟨rfl, rfl⟩ := so2 hf
    exact hJ4
set_option maxHeartbeats 4000000 in
set_option maxRecDepth 100000 in
theorem c_X8_arePair {l : Launch} {w : WC} {a_ : Int32} {b_ : Int32} {z : Sg} {r0 : Int32} (hf : f_X8_arePair a_ b_ z = some r0) : CT true l iX8_arePair w [.ref 0, .int a_, .int b_] z (some (.int r0)) z := by
  refine ct_of 0 (lv := [some (.ref 0), some (.int a_), some (.int b_)]) (by decide +kernel) rfl (Nat.le_of_ble_eq_true rfl) rfl (fun M hl hw hE => ?_)
  subst hl
  subst hw
  unfold f_X8_arePair at hf
  obtain ⟨x1, hx2, hf⟩ := b1_of hf
  have hJ3 : G true iX8_arePair M (some (.int r0), z) 25 [some (.ref 0), some (.int a_), some (.int b_)] [.int x1] z := by
    obtain ⟨h4, hf⟩ := ck_of hf
    obtain rfl := so1 hf
    exact g_zret hE rfl (bz_nar h4) dX8_arePair_25
  replace hf := hx2
  clear hx2
  refine g_aload_n hE dX8_arePair_0 rfl ?_
  refine gtX8_3 hE kM_0 wf_RX8_16 dX8_arePair_1 ?_
  refine g_iload_n hE dX8_arePair_4 rfl ?_
  obtain ⟨h5, hf⟩ := ck_of hf
  refine g_iald hE kM_3 h5 dX8_arePair_5 ?_
  refine g_aload_n hE dX8_arePair_6 rfl ?_
  refine gtX8_3 hE kM_0 wf_RX8_16 dX8_arePair_7 ?_
  refine g_iload_n hE dX8_arePair_10 rfl ?_
  obtain ⟨h6, hf⟩ := ck_of hf
  refine g_iald hE kM_3 h6 dX8_arePair_11 ?_
  refine g_ixor hE dX8_arePair_12 ?_
  obtain ⟨r8, hc7, hf⟩ := b1_of hf
  refine g_callS1r hE ms_X8_ones wm_RX8_164 (by decide) (Nat.le_of_ble_eq_true rfl) dX8_arePair_13 (c_X8_ones hc7) ?_
  refine g_iconst hE (1) dX8_arePair_16 (by decide) ?_
  refine g_icmp_ne 24 hE dX8_arePair_17 (by decide) (fun h9 => ?_) (fun h9 => ?_)
  · replace hf := it_f hf h9
    refine g_iconst hE (0) dX8_arePair_24 (by decide) ?_
    obtain rfl := so1 hf
    exact hJ3
  · replace hf := it_t hf h9
    refine g_iconst hE (1) dX8_arePair_20 (by decide) ?_
    refine g_goto 25 hE dX8_arePair_21 (by decide) ?_
    obtain rfl := so1 hf
    exact hJ3
set_option maxHeartbeats 4000000 in
set_option maxRecDepth 100000 in
theorem c_X8_laysPairs {l : Launch} {w : WC} {z : Sg} {z0 : Sg} (hf : f_X8_laysPairs z = some z0) : CT true l iX8_laysPairs w [.ref 0] z none z0 := by
  refine ct_of 5 (lv := [some (.ref 0), none, none, none, none, none]) (by decide +kernel) rfl (Nat.le_of_ble_eq_true rfl) rfl (fun M hl hw hE => ?_)
  subst hl
  subst hw
  unfold f_X8_laysPairs at hf
  refine g_aload_n hE dX8_laysPairs_0 rfl ?_
  obtain ⟨z2, hc1, hf⟩ := b1_of hf
  refine g_callV0v hE mv_X8_reads kM_0 rfl wm_RX8_123 (by decide) (Nat.le_of_ble_eq_true rfl) dX8_laysPairs_1 (c_X8_reads hc1) ?_
  refine g_iconst hE (0) dX8_laysPairs_4 (by decide) ?_
  refine g_istore_n [some _, some _, none, none, none, none] hE dX8_laysPairs_5 (by decide) rfl ?_
  obtain ⟨z10, hx8, hf⟩ := b1_of hf
  have hJ9 : G true iX8_laysPairs M (none, z0) 149 [some (.ref 0), none, none, none, none, none] [] z10 := by
    refine g_iconst hE (1) dX8_laysPairs_149 (by decide) ?_
    refine g_aload_n hE dX8_laysPairs_150 rfl ?_
    refine gtX8_2 hE kM_0 wf_RX8_106 dX8_laysPairs_151 ?_
    refine g_ishl hE dX8_laysPairs_154 ?_
    refine g_iconst hE (1) dX8_laysPairs_155 (by decide) ?_
    refine g_isub hE dX8_laysPairs_156 ?_
    refine g_istore_n [some _, some _, none, none, none, none] hE dX8_laysPairs_157 (by decide) rfl ?_
    refine g_iconst hE (0) dX8_laysPairs_158 (by decide) ?_
    refine g_istore_n [some _, some _, some _, none, none, none] hE dX8_laysPairs_159 (by decide) rfl ?_
    obtain ⟨z18, hx16, hf⟩ := b1_of hf
    have hJ17 : G true iX8_laysPairs M (none, z0) 179 [some (.ref 0), some (.int ((jshl (1 : Int32) (rI z10 0 2)) - (1 : Int32))), none, none, none, none] [] z18 := by
      refine g_iconst hE (0) dX8_laysPairs_179 (by decide) ?_
      refine g_istore_n [some _, some _, some _, none, none, none] hE dX8_laysPairs_180 (by decide) rfl ?_
      obtain ⟨left_27, z28, hx25, hf⟩ := b2_of hf
      have hJ26 : G true iX8_laysPairs M (none, z0) 326 [some (.ref 0), some (.int left_27), none, none, none, none] [] z28 := by
        obtain rfl := so1 hf
        exact g_ret hE rfl dX8_laysPairs_326
      clear hf
      have hl22 : ∀ (n24 : Nat) (left_19 : Int32) (v_20 : Int32) (z21 : Sg), f_X8_laysPairs_lp5  n24 left_19 v_20 z21 = some (left_27, z28) → G true iX8_laysPairs M (none, z0) 181 [some (.ref 0), some (.int left_19), some (.int v_20), none, none, none] [] z21 := by
        intro n24
        induction n24 with
        | zero => intro left_19 v_20 z21 hf; cases hf
        | succ n24 ih23 =>
          intro left_19 v_20 z21 hf
          rw [f_X8_laysPairs_lp5] at hf
          refine g_iload_n hE dX8_laysPairs_181 rfl ?_
          refine g_aload_n hE dX8_laysPairs_182 rfl ?_
          refine gtX8_2 hE kM_0 wf_RX8_106 dX8_laysPairs_183 ?_
          refine g_icmp_ge 326 hE dX8_laysPairs_186 (by decide) (fun h29 => ?_) (fun h29 => ?_)
          · replace hf := it_f hf (cv_ngt h29)
            obtain ⟨rfl, rfl⟩ := so2 hf
            exact g_wk [true, true, false, false, false, false] rfl hJ26
          · replace hf := it_t hf (cv_gt h29)
            obtain ⟨left_32, z33, hx30, hf⟩ := b2_of hf
            have hJ31 : G true iX8_laysPairs M (none, z0) 320 [some (.ref 0), some (.int left_32), some (.int v_20), none, none, none] [] z33 := by
              refine g_iinc [some _, some _, some _, none, none, none] hE (v_20 + (1 : Int32)) dX8_laysPairs_320 rfl rfl (by decide) rfl ?_
              refine g_goto 181 hE dX8_laysPairs_323 (by decide) ?_
              exact (ih23 _ _ _ hf)
            replace hf := hx30
            clear hx30
            refine g_iload_n hE dX8_laysPairs_189 rfl ?_
            refine g_iload_n hE dX8_laysPairs_190 rfl ?_
            obtain ⟨r35, hc34, hf⟩ := b1_of hf
            refine g_callS2r hE ms_X8_isIn wm_RX8_204 (by decide) (Nat.le_of_ble_eq_true rfl) dX8_laysPairs_191 (c_X8_isIn hc34) ?_
            refine g_if_eq 320 hE dX8_laysPairs_194 (by decide) (fun h36 => ?_) (fun h36 => ?_)
            · replace hf := it_f hf (fun q => q h36)
              obtain ⟨rfl, rfl⟩ := so2 hf
              exact hJ31
            · replace hf := it_t hf h36
              refine g_iconst hE (-1) dX8_laysPairs_197 (by decide) ?_
              refine g_istore_n [some _, some _, some _, some _, none, none] hE dX8_laysPairs_198 (by decide) rfl ?_
              refine g_aload_n hE dX8_laysPairs_199 rfl ?_
              refine gtX8_2 hE kM_0 wf_RX8_106 dX8_laysPairs_200 ?_
              refine g_iconst hE (1) dX8_laysPairs_203 (by decide) ?_
              refine g_isub hE dX8_laysPairs_204 ?_
              refine g_istore [some _, some _, some _, some _, some _, none] hE dX8_laysPairs_205 (by decide) rfl ?_
              obtain ⟨other_44, hx42, hf⟩ := b1_of hf
              have hJ43 : G true iX8_laysPairs M (none, z0) 285 [some (.ref 0), some (.int left_19), some (.int v_20), some (.int other_44), none, none] [] z21 := by
                obtain ⟨left_47, z48, hx45, hf⟩ := b2_of hf
                have hJ46 : G true iX8_laysPairs M (none, z0) 312 [some (.ref 0), some (.int left_47), some (.int v_20), some (.int other_44), none, none] [] z48 := by
                  refine g_iload_n hE dX8_laysPairs_312 rfl ?_
                  refine g_iconst hE (1) dX8_laysPairs_313 (by decide) ?_
                  refine g_iload_n hE dX8_laysPairs_314 rfl ?_
                  refine g_ishl hE dX8_laysPairs_315 ?_
                  refine g_iconst hE (-1) dX8_laysPairs_316 (by decide) ?_
                  refine g_ixor hE dX8_laysPairs_317 ?_
                  refine g_iand hE dX8_laysPairs_318 ?_
                  refine g_istore_n [some _, some _, some _, some _, none, none] hE dX8_laysPairs_319 (by decide) rfl ?_
                  refine g_wk [true, true, true, false, false, false] rfl ?_
                  obtain ⟨rfl, rfl⟩ := so2 hf
                  exact hJ31
                replace hf := hx45
                clear hx45
                refine g_iload_n hE dX8_laysPairs_285 rfl ?_
                refine g_iconst hE (-1) dX8_laysPairs_286 (by decide) ?_
                refine g_icmp_eq 312 hE dX8_laysPairs_287 (by decide) (fun h49 => ?_) (fun h49 => ?_)
                · replace hf := it_f hf (fun q => q h49)
                  obtain ⟨rfl, rfl⟩ := so2 hf
                  exact hJ46
                · replace hf := it_t hf h49
                  refine g_aload_n hE dX8_laysPairs_290 rfl ?_
                  refine gtX8_26 hE kM_0 wf_RX8_61 dX8_laysPairs_291 ?_
                  refine g_iload_n hE dX8_laysPairs_294 rfl ?_
                  refine g_iload_n hE dX8_laysPairs_295 rfl ?_
                  obtain ⟨h50, hf⟩ := ck_of hf
                  refine g_iast hE kM_18 h50 dX8_laysPairs_296 ?_
                  refine g_aload_n hE dX8_laysPairs_297 rfl ?_
                  refine gtX8_26 hE kM_0 wf_RX8_61 dX8_laysPairs_298 ?_
                  refine g_iload_n hE dX8_laysPairs_301 rfl ?_
                  refine g_iload_n hE dX8_laysPairs_302 rfl ?_
                  obtain ⟨h51, hf⟩ := ck_of hf
                  refine g_iast hE kM_18 h51 dX8_laysPairs_303 ?_
                  refine g_iload_n hE dX8_laysPairs_304 rfl ?_
                  refine g_iconst hE (1) dX8_laysPairs_305 (by decide) ?_
                  refine g_iload_n hE dX8_laysPairs_306 rfl ?_
                  refine g_ishl hE dX8_laysPairs_307 ?_
                  refine g_iconst hE (-1) dX8_laysPairs_308 (by decide) ?_
                  refine g_ixor hE dX8_laysPairs_309 ?_
                  refine g_iand hE dX8_laysPairs_310 ?_
                  refine g_istore_n [some _, some _, some _, some _, none, none] hE dX8_laysPairs_311 (by decide) rfl ?_
                  obtain ⟨rfl, rfl⟩ := so2 hf
                  exact hJ46
              clear hf
              have hl39 : ∀ (n41 : Nat) (other_37 : Int32) (b_38 : Int32), f_X8_laysPairs_lp6 left_19 v_20 z21 n41 other_37 b_38 = some other_44 → G true iX8_laysPairs M (none, z0) 207 [some (.ref 0), some (.int left_19), some (.int v_20), some (.int other_37), some (.int b_38), none] [] z21 := by
                intro n41
                induction n41 with
                | zero => intro other_37 b_38 hf; cases hf
                | succ n41 ih40 =>
                  intro other_37 b_38 hf
                  rw [f_X8_laysPairs_lp6] at hf
                  refine g_iload hE dX8_laysPairs_207 rfl ?_
                  refine g_iload_n hE dX8_laysPairs_209 rfl ?_
                  refine g_icmp_le 285 hE dX8_laysPairs_210 (by decide) (fun h52 => ?_) (fun h52 => ?_)
                  · replace hf := it_f hf (cv_ngt h52)
                    obtain rfl := so1 hf
                    exact g_wk [true, true, true, true, false, false] rfl hJ43
                  · replace hf := it_t hf (cv_gt h52)
                    obtain ⟨x53, hx54, hf⟩ := b1_of hf
                    have hJ55 : G true iX8_laysPairs M (none, z0) 265 [some (.ref 0), some (.int left_19), some (.int v_20), some (.int other_37), some (.int b_38), none] [.int x53] z21 := by
                      refine g_istore [some _, some _, some _, some _, some _, some _] hE dX8_laysPairs_265 (by decide) rfl ?_
                      obtain ⟨x56, hx57, hf⟩ := b1_of hf
                      have hJ58 : G true iX8_laysPairs M (none, z0) 278 [some (.ref 0), some (.int left_19), some (.int v_20), some (.int other_37), some (.int b_38), some (.int x53)] [.int x56] z21 := by
                        refine g_istore_n [some _, some _, some _, some _, some _, some _] hE dX8_laysPairs_278 (by decide) rfl ?_
                        refine g_wk [true, true, true, true, true, false] rfl ?_
                        refine g_iinc [some _, some _, some _, some _, some _, none] hE (b_38 + (-1 : Int32)) dX8_laysPairs_279 rfl rfl (by decide) rfl ?_
                        refine g_goto 207 hE dX8_laysPairs_282 (by decide) ?_
                        exact (ih40 _ _ hf)
                      replace hf := hx57
                      clear hx57
                      refine g_iload hE dX8_laysPairs_267 rfl ?_
                      refine g_if_eq 277 hE dX8_laysPairs_269 (by decide) (fun h59 => ?_) (fun h59 => ?_)
                      · replace hf := it_f hf (fun q => q h59)
                        refine g_iload_n hE dX8_laysPairs_277 rfl ?_
                        obtain rfl := so1 hf
                        exact hJ58
                      · replace hf := it_t hf h59
                        refine g_iload hE dX8_laysPairs_272 rfl ?_
                        refine g_goto 278 hE dX8_laysPairs_274 (by decide) ?_
                        obtain rfl := so1 hf
                        exact hJ58
                    replace hf := hx54
                    clear hx54
                    refine g_iload_n hE dX8_laysPairs_213 rfl ?_
                    refine g_iload hE dX8_laysPairs_214 rfl ?_
                    obtain ⟨r61, hc60, hf⟩ := b1_of hf
                    refine g_callS2r hE ms_X8_isIn wm_RX8_204 (by decide) (Nat.le_of_ble_eq_true rfl) dX8_laysPairs_216 (c_X8_isIn hc60) ?_
                    refine g_if_eq 264 hE dX8_laysPairs_219 (by decide) (fun h62 => ?_) (fun h62 => ?_)
                    · replace hf := it_f hf (fun q => q h62)
                      refine g_iconst hE (0) dX8_laysPairs_264 (by decide) ?_
                      obtain rfl := so1 hf
                      exact hJ55
                    · replace hf := it_t hf h62
                      refine g_aload_n hE dX8_laysPairs_222 rfl ?_
                      refine g_iload_n hE dX8_laysPairs_223 rfl ?_
                      refine g_iload hE dX8_laysPairs_224 rfl ?_
                      obtain ⟨r64, hc63, hf⟩ := b1_of hf
                      refine g_callV2r hE mv_X8_arePair kM_0 rfl wm_RX8_245 (by decide) (Nat.le_of_ble_eq_true rfl) dX8_laysPairs_226 (c_X8_arePair hc63) ?_
                      refine g_if_eq 264 hE dX8_laysPairs_229 (by decide) (fun h65 => ?_) (fun h65 => ?_)
                      · replace hf := it_f hf (fun q => q h65)
                        refine g_iconst hE (0) dX8_laysPairs_264 (by decide) ?_
                        obtain rfl := so1 hf
                        exact hJ55
                      · replace hf := it_t hf h65
                        refine g_iconst hE (1) dX8_laysPairs_232 (by decide) ?_
                        refine g_aload_n hE dX8_laysPairs_233 rfl ?_
                        refine gtX8_25 hE kM_0 wf_RX8_58 dX8_laysPairs_234 ?_
                        refine g_iload_n hE dX8_laysPairs_237 rfl ?_
                        refine g_iconst hE (1) dX8_laysPairs_238 (by decide) ?_
                        refine g_iload_n hE dX8_laysPairs_239 rfl ?_
                        refine g_ishl hE dX8_laysPairs_240 ?_
                        refine g_iconst hE (1) dX8_laysPairs_241 (by decide) ?_
                        refine g_iload hE dX8_laysPairs_242 rfl ?_
                        refine g_ishl hE dX8_laysPairs_244 ?_
                        refine g_ior hE dX8_laysPairs_245 ?_
                        refine g_iconst hE (-1) dX8_laysPairs_246 (by decide) ?_
                        refine g_ixor hE dX8_laysPairs_247 ?_
                        refine g_iand hE dX8_laysPairs_248 ?_
                        obtain ⟨h66, hf⟩ := ck_of hf
                        refine g_iald hE kM_17 h66 dX8_laysPairs_249 ?_
                        refine g_iadd hE dX8_laysPairs_250 ?_
                        refine g_aload_n hE dX8_laysPairs_251 rfl ?_
                        refine gtX8_25 hE kM_0 wf_RX8_58 dX8_laysPairs_252 ?_
                        refine g_iload_n hE dX8_laysPairs_255 rfl ?_
                        obtain ⟨h67, hf⟩ := ck_of hf
                        refine g_iald hE kM_17 h67 dX8_laysPairs_256 ?_
                        refine g_icmp_ne 264 hE dX8_laysPairs_257 (by decide) (fun h68 => ?_) (fun h68 => ?_)
                        · replace hf := it_f hf h68
                          refine g_iconst hE (0) dX8_laysPairs_264 (by decide) ?_
                          obtain rfl := so1 hf
                          exact hJ55
                        · replace hf := it_t hf h68
                          refine g_iconst hE (1) dX8_laysPairs_260 (by decide) ?_
                          refine g_goto 265 hE dX8_laysPairs_261 (by decide) ?_
                          obtain rfl := so1 hf
                          exact hJ55
              exact hl39 _ _ _ hx42
      exact hl22 _ _ _ _ hx25
    clear hf
    have hl13 : ∀ (n15 : Nat) (v_11 : Int32) (z12 : Sg), f_X8_laysPairs_lp4  n15 v_11 z12 = some z18 → G true iX8_laysPairs M (none, z0) 160 [some (.ref 0), some (.int ((jshl (1 : Int32) (rI z10 0 2)) - (1 : Int32))), some (.int v_11), none, none, none] [] z12 := by
      intro n15
      induction n15 with
      | zero => intro v_11 z12 hf; cases hf
      | succ n15 ih14 =>
        intro v_11 z12 hf
        rw [f_X8_laysPairs_lp4] at hf
        refine g_iload_n hE dX8_laysPairs_160 rfl ?_
        refine g_bipush hE (8) dX8_laysPairs_161 (by decide) ?_
        refine g_icmp_ge 179 hE dX8_laysPairs_163 (by decide) (fun h69 => ?_) (fun h69 => ?_)
        · replace hf := it_f hf (cv_ngt h69)
          obtain rfl := so1 hf
          exact g_wk [true, true, false, false, false, false] rfl hJ17
        · replace hf := it_t hf (cv_gt h69)
          refine g_aload_n hE dX8_laysPairs_166 rfl ?_
          refine gtX8_26 hE kM_0 wf_RX8_61 dX8_laysPairs_167 ?_
          refine g_iload_n hE dX8_laysPairs_170 rfl ?_
          refine g_iconst hE (-1) dX8_laysPairs_171 (by decide) ?_
          obtain ⟨h70, hf⟩ := ck_of hf
          refine g_iast hE kM_18 h70 dX8_laysPairs_172 ?_
          refine g_iinc [some _, some _, some _, none, none, none] hE (v_11 + (1 : Int32)) dX8_laysPairs_173 rfl rfl (by decide) rfl ?_
          refine g_goto 160 hE dX8_laysPairs_176 (by decide) ?_
          exact (ih14 _ _ hf)
    exact hl13 _ _ _ hx16
  clear hf
  have hl5 : ∀ (n7 : Nat) (set_3 : Int32) (z4 : Sg), f_X8_laysPairs_lp1  n7 set_3 z4 = some z10 → G true iX8_laysPairs M (none, z0) 6 [some (.ref 0), some (.int set_3), none, none, none, none] [] z4 := by
    intro n7
    induction n7 with
    | zero => intro set_3 z4 hf; cases hf
    | succ n7 ih6 =>
      intro set_3 z4 hf
      rw [f_X8_laysPairs_lp1] at hf
      refine g_iload_n hE dX8_laysPairs_6 rfl ?_
      refine g_iconst hE (1) dX8_laysPairs_7 (by decide) ?_
      refine g_aload_n hE dX8_laysPairs_8 rfl ?_
      refine gtX8_2 hE kM_0 wf_RX8_106 dX8_laysPairs_9 ?_
      refine g_ishl hE dX8_laysPairs_12 ?_
      refine g_icmp_ge 149 hE dX8_laysPairs_13 (by decide) (fun h71 => ?_) (fun h71 => ?_)
      · replace hf := it_f hf (cv_ngt h71)
        obtain rfl := so1 hf
        exact g_wk [true, false, false, false, false, false] rfl hJ9
      · replace hf := it_t hf (cv_gt h71)
        refine g_iconst hE (0) dX8_laysPairs_16 (by decide) ?_
        refine g_istore_n [some _, some _, some _, none, none, none] hE dX8_laysPairs_17 (by decide) rfl ?_
        obtain ⟨first_78, hx76, hf⟩ := b1_of hf
        have hJ77 : G true iX8_laysPairs M (none, z0) 38 [some (.ref 0), some (.int set_3), some (.int first_78), none, none, none] [] z4 := by
          obtain ⟨x79, hx80, hf⟩ := b1_of hf
          have hJ81 : G true iX8_laysPairs M (none, z0) 58 [some (.ref 0), some (.int set_3), some (.int first_78), none, none, none] [.int x79] z4 := by
            refine g_istore_n [some _, some _, some _, some _, none, none] hE dX8_laysPairs_58 (by decide) rfl ?_
            refine g_iload_n hE dX8_laysPairs_59 rfl ?_
            refine g_iconst hE (1) dX8_laysPairs_60 (by decide) ?_
            refine g_iadd hE dX8_laysPairs_61 ?_
            refine g_istore [some _, some _, some _, some _, some _, none] hE dX8_laysPairs_62 (by decide) rfl ?_
            obtain ⟨best_89, hx87, hf⟩ := b1_of hf
            have hJ88 : G true iX8_laysPairs M (none, z0) 136 [some (.ref 0), some (.int set_3), some (.int first_78), some (.int best_89), none, none] [] z4 := by
              refine g_aload_n hE dX8_laysPairs_136 rfl ?_
              refine gtX8_25 hE kM_0 wf_RX8_58 dX8_laysPairs_137 ?_
              refine g_iload_n hE dX8_laysPairs_140 rfl ?_
              refine g_iload_n hE dX8_laysPairs_141 rfl ?_
              obtain ⟨h90, hf⟩ := ck_of hf
              refine g_iast hE kM_17 h90 dX8_laysPairs_142 ?_
              refine g_wk [true, true, false, false, false, false] rfl ?_
              refine g_iinc [some _, some _, none, none, none, none] hE (set_3 + (1 : Int32)) dX8_laysPairs_143 rfl rfl (by decide) rfl ?_
              refine g_goto 6 hE dX8_laysPairs_146 (by decide) ?_
              exact (ih6 _ _ hf)
            clear hf
            have hl84 : ∀ (n86 : Nat) (best_82 : Int32) (b_83 : Int32), f_X8_laysPairs_lp3 set_3 first_78 z4 n86 best_82 b_83 = some best_89 → G true iX8_laysPairs M (none, z0) 64 [some (.ref 0), some (.int set_3), some (.int first_78), some (.int best_82), some (.int b_83), none] [] z4 := by
              intro n86
              induction n86 with
              | zero => intro best_82 b_83 hf; cases hf
              | succ n86 ih85 =>
                intro best_82 b_83 hf
                rw [f_X8_laysPairs_lp3] at hf
                refine g_iload hE dX8_laysPairs_64 rfl ?_
                refine g_aload_n hE dX8_laysPairs_66 rfl ?_
                refine gtX8_2 hE kM_0 wf_RX8_106 dX8_laysPairs_67 ?_
                refine g_icmp_ge 136 hE dX8_laysPairs_70 (by decide) (fun h91 => ?_) (fun h91 => ?_)
                · replace hf := it_f hf (cv_ngt h91)
                  obtain rfl := so1 hf
                  exact g_wk [true, true, true, true, false, false] rfl hJ88
                · replace hf := it_t hf (cv_gt h91)
                  obtain ⟨x92, hx93, hf⟩ := b1_of hf
                  have hJ94 : G true iX8_laysPairs M (none, z0) 115 [some (.ref 0), some (.int set_3), some (.int first_78), some (.int best_82), some (.int b_83), none] [.int x92] z4 := by
                    refine g_istore [some _, some _, some _, some _, some _, some _] hE dX8_laysPairs_115 (by decide) rfl ?_
                    obtain ⟨x95, hx96, hf⟩ := b1_of hf
                    have hJ97 : G true iX8_laysPairs M (none, z0) 129 [some (.ref 0), some (.int set_3), some (.int first_78), some (.int best_82), some (.int b_83), some (.int x92)] [.int x95] z4 := by
                      refine g_istore_n [some _, some _, some _, some _, some _, some _] hE dX8_laysPairs_129 (by decide) rfl ?_
                      refine g_wk [true, true, true, true, true, false] rfl ?_
                      refine g_iinc [some _, some _, some _, some _, some _, none] hE (b_83 + (1 : Int32)) dX8_laysPairs_130 rfl rfl (by decide) rfl ?_
                      refine g_goto 64 hE dX8_laysPairs_133 (by decide) ?_
                      exact (ih85 _ _ hf)
                    replace hf := hx96
                    clear hx96
                    refine g_iload hE dX8_laysPairs_117 rfl ?_
                    refine g_iload_n hE dX8_laysPairs_119 rfl ?_
                    refine g_icmp_le 128 hE dX8_laysPairs_120 (by decide) (fun h98 => ?_) (fun h98 => ?_)
                    · replace hf := it_f hf (cv_ngt h98)
                      refine g_iload_n hE dX8_laysPairs_128 rfl ?_
                      obtain rfl := so1 hf
                      exact hJ97
                    · replace hf := it_t hf (cv_gt h98)
                      refine g_iload hE dX8_laysPairs_123 rfl ?_
                      refine g_goto 129 hE dX8_laysPairs_125 (by decide) ?_
                      obtain rfl := so1 hf
                      exact hJ97
                  replace hf := hx93
                  clear hx93
                  obtain ⟨q99, hx100, hf⟩ := b1_of hf
                  have hT101 : q99 = true → G true iX8_laysPairs M (none, z0) 92 [some (.ref 0), some (.int set_3), some (.int first_78), some (.int best_82), some (.int b_83), none] [] z4 := by
                    intro hq103
                    replace hf := it_t hf hq103
                    refine g_iconst hE (1) dX8_laysPairs_92 (by decide) ?_
                    refine g_aload_n hE dX8_laysPairs_93 rfl ?_
                    refine gtX8_25 hE kM_0 wf_RX8_58 dX8_laysPairs_94 ?_
                    refine g_iload_n hE dX8_laysPairs_97 rfl ?_
                    refine g_iconst hE (1) dX8_laysPairs_98 (by decide) ?_
                    refine g_iload_n hE dX8_laysPairs_99 rfl ?_
                    refine g_ishl hE dX8_laysPairs_100 ?_
                    refine g_iconst hE (1) dX8_laysPairs_101 (by decide) ?_
                    refine g_iload hE dX8_laysPairs_102 rfl ?_
                    refine g_ishl hE dX8_laysPairs_104 ?_
                    refine g_ior hE dX8_laysPairs_105 ?_
                    refine g_iconst hE (-1) dX8_laysPairs_106 (by decide) ?_
                    refine g_ixor hE dX8_laysPairs_107 ?_
                    refine g_iand hE dX8_laysPairs_108 ?_
                    obtain ⟨h104, hf⟩ := ck_of hf
                    refine g_iald hE kM_17 h104 dX8_laysPairs_109 ?_
                    refine g_iadd hE dX8_laysPairs_110 ?_
                    refine g_goto 115 hE dX8_laysPairs_111 (by decide) ?_
                    obtain rfl := so1 hf
                    exact hJ94
                  have hF102 : q99 = false → G true iX8_laysPairs M (none, z0) 114 [some (.ref 0), some (.int set_3), some (.int first_78), some (.int best_82), some (.int b_83), none] [] z4 := by
                    intro hq103
                    replace hf := it_f hf (by rw [hq103]; decide)
                    refine g_iconst hE (0) dX8_laysPairs_114 (by decide) ?_
                    obtain rfl := so1 hf
                    exact hJ94
                  replace hf := hx100
                  clear hx100
                  refine g_iload_n hE dX8_laysPairs_73 rfl ?_
                  refine g_iload hE dX8_laysPairs_74 rfl ?_
                  obtain ⟨r106, hc105, hf⟩ := b1_of hf
                  refine g_callS2r hE ms_X8_isIn wm_RX8_204 (by decide) (Nat.le_of_ble_eq_true rfl) dX8_laysPairs_76 (c_X8_isIn hc105) ?_
                  refine g_if_eq 114 hE dX8_laysPairs_79 (by decide) (fun h107 => ?_) (fun h107 => ?_)
                  · replace hf := it_f hf (fun q => q h107)
                    obtain rfl := so1 hf
                    exact hF102 rfl
                  · replace hf := it_t hf h107
                    refine g_aload_n hE dX8_laysPairs_82 rfl ?_
                    refine g_iload_n hE dX8_laysPairs_83 rfl ?_
                    refine g_iload hE dX8_laysPairs_84 rfl ?_
                    obtain ⟨r109, hc108, hf⟩ := b1_of hf
                    refine g_callV2r hE mv_X8_arePair kM_0 rfl wm_RX8_245 (by decide) (Nat.le_of_ble_eq_true rfl) dX8_laysPairs_86 (c_X8_arePair hc108) ?_
                    refine g_if_eq 114 hE dX8_laysPairs_89 (by decide) (fun h110 => ?_) (fun h110 => ?_)
                    · replace hf := it_f hf (fun q => q h110)
                      obtain rfl := so1 hf
                      exact hF102 rfl
                    · replace hf := it_t hf h110
                      obtain rfl := so1 hf
                      exact hT101 rfl
            exact hl84 _ _ _ hx87
          replace hf := hx80
          clear hx80
          refine g_iload_n hE dX8_laysPairs_38 rfl ?_
          refine g_if_ne 46 hE dX8_laysPairs_39 (by decide) (fun h111 => ?_) (fun h111 => ?_)
          · replace hf := it_f hf h111
            refine g_aload_n hE dX8_laysPairs_46 rfl ?_
            refine gtX8_25 hE kM_0 wf_RX8_58 dX8_laysPairs_47 ?_
            refine g_iload_n hE dX8_laysPairs_50 rfl ?_
            refine g_iconst hE (1) dX8_laysPairs_51 (by decide) ?_
            refine g_iload_n hE dX8_laysPairs_52 rfl ?_
            refine g_ishl hE dX8_laysPairs_53 ?_
            refine g_iconst hE (-1) dX8_laysPairs_54 (by decide) ?_
            refine g_ixor hE dX8_laysPairs_55 ?_
            refine g_iand hE dX8_laysPairs_56 ?_
            obtain ⟨h112, hf⟩ := ck_of hf
            refine g_iald hE kM_17 h112 dX8_laysPairs_57 ?_
            obtain rfl := so1 hf
            exact hJ81
          · replace hf := it_t hf h111
            refine g_iconst hE (0) dX8_laysPairs_42 (by decide) ?_
            refine g_goto 58 hE dX8_laysPairs_43 (by decide) ?_
            obtain rfl := so1 hf
            exact hJ81
        clear hf
        have hl73 : ∀ (n75 : Nat) (first_72 : Int32), f_X8_laysPairs_lp2 set_3 z4 n75 first_72 = some first_78 → G true iX8_laysPairs M (none, z0) 18 [some (.ref 0), some (.int set_3), some (.int first_72), none, none, none] [] z4 := by
          intro n75
          induction n75 with
          | zero => intro first_72 hf; cases hf
          | succ n75 ih74 =>
            intro first_72 hf
            rw [f_X8_laysPairs_lp2] at hf
            obtain ⟨q113, hx114, hf⟩ := b1_of hf
            have hT115 : q113 = true → G true iX8_laysPairs M (none, z0) 32 [some (.ref 0), some (.int set_3), some (.int first_72), none, none, none] [] z4 := by
              intro hq117
              replace hf := it_t hf hq117
              refine g_iinc [some _, some _, some _, none, none, none] hE (first_72 + (1 : Int32)) dX8_laysPairs_32 rfl rfl (by decide) rfl ?_
              refine g_goto 18 hE dX8_laysPairs_35 (by decide) ?_
              exact (ih74 _ hf)
            have hF116 : q113 = false → G true iX8_laysPairs M (none, z0) 38 [some (.ref 0), some (.int set_3), some (.int first_72), none, none, none] [] z4 := by
              intro hq117
              replace hf := it_f hf (by rw [hq117]; decide)
              obtain rfl := so1 hf
              exact hJ77
            replace hf := hx114
            clear hx114
            refine g_iload_n hE dX8_laysPairs_18 rfl ?_
            refine g_bipush hE (8) dX8_laysPairs_19 (by decide) ?_
            refine g_icmp_ge 38 hE dX8_laysPairs_21 (by decide) (fun h118 => ?_) (fun h118 => ?_)
            · replace hf := it_f hf (cv_ngt h118)
              obtain rfl := so1 hf
              exact hF116 rfl
            · replace hf := it_t hf (cv_gt h118)
              refine g_iload_n hE dX8_laysPairs_24 rfl ?_
              refine g_iload_n hE dX8_laysPairs_25 rfl ?_
              obtain ⟨r120, hc119, hf⟩ := b1_of hf
              refine g_callS2r hE ms_X8_isIn wm_RX8_204 (by decide) (Nat.le_of_ble_eq_true rfl) dX8_laysPairs_26 (c_X8_isIn hc119) ?_
              refine g_if_ne 38 hE dX8_laysPairs_29 (by decide) (fun h121 => ?_) (fun h121 => ?_)
              · replace hf := it_t hf h121
                obtain rfl := so1 hf
                exact hF116 rfl
              · replace hf := it_f hf (fun q => q h121)
                obtain rfl := so1 hf
                exact hT115 rfl
        exact hl73 _ _ hx76
  exact hl5 _ _ _ hx8
set_option maxHeartbeats 4000000 in
set_option maxRecDepth 100000 in
theorem c_X8_togetherOf {l : Launch} {w : WC} {i_ : Int32} {z : Sg} {r0 : Int32} {z0 : Sg} (hf : f_X8_togetherOf i_ z = some (r0, z0)) : CT true l iX8_togetherOf w [.ref 0, .int i_] z (some (.int r0)) z0 := by
  refine ct_of 0 (lv := [some (.ref 0), some (.int i_)]) (by decide +kernel) rfl (Nat.le_of_ble_eq_true rfl) rfl (fun M hl hw hE => ?_)
  subst hl
  subst hw
  unfold f_X8_togetherOf at hf
  refine g_aload_n hE dX8_togetherOf_0 rfl ?_
  obtain ⟨z2, hc1, hf⟩ := b1_of hf
  refine g_callV0v hE mv_X8_laysPairs kM_0 rfl wm_RX8_248 (by decide) (Nat.le_of_ble_eq_true rfl) dX8_togetherOf_1 (c_X8_laysPairs hc1) ?_
  obtain ⟨x3, hx4, hf⟩ := b1_of hf
  have hJ5 : G true iX8_togetherOf M (some (.int r0), z0) 31 [some (.ref 0), some (.int i_)] [.int x3] z2 := by
    obtain ⟨rfl, rfl⟩ := so2 hf
    exact g_iret hE rfl dX8_togetherOf_31
  replace hf := hx4
  clear hx4
  refine g_iload_n hE dX8_togetherOf_4 rfl ?_
  refine g_iconst hE (-1) dX8_togetherOf_5 (by decide) ?_
  refine g_icmp_ne 25 hE dX8_togetherOf_6 (by decide) (fun h6 => ?_) (fun h6 => ?_)
  · replace hf := it_f hf h6
    refine g_aload_n hE dX8_togetherOf_25 rfl ?_
    refine gtX8_26 hE kM_0 wf_RX8_61 dX8_togetherOf_26 ?_
    refine g_iload_n hE dX8_togetherOf_29 rfl ?_
    obtain ⟨h7, hf⟩ := ck_of hf
    refine g_iald hE kM_18 h7 dX8_togetherOf_30 ?_
    obtain rfl := so1 hf
    exact hJ5
  · replace hf := it_t hf h6
    refine g_aload_n hE dX8_togetherOf_9 rfl ?_
    refine gtX8_25 hE kM_0 wf_RX8_58 dX8_togetherOf_10 ?_
    refine g_iconst hE (1) dX8_togetherOf_13 (by decide) ?_
    refine g_aload_n hE dX8_togetherOf_14 rfl ?_
    refine gtX8_2 hE kM_0 wf_RX8_106 dX8_togetherOf_15 ?_
    refine g_ishl hE dX8_togetherOf_18 ?_
    refine g_iconst hE (1) dX8_togetherOf_19 (by decide) ?_
    refine g_isub hE dX8_togetherOf_20 ?_
    obtain ⟨h8, hf⟩ := ck_of hf
    refine g_iald hE kM_17 h8 dX8_togetherOf_21 ?_
    refine g_goto 31 hE dX8_togetherOf_22 (by decide) ?_
    obtain rfl := so1 hf
    exact hJ5
set_option maxHeartbeats 4000000 in
set_option maxRecDepth 100000 in
theorem c_X8_together {l : Launch} {w : WC} {i_ : Int32} {z : Sg} {r0 : Int32} {z0 : Sg} (hf : f_X8_together i_ z = some (r0, z0)) : CT true l iX8_together w [.ref 0, .int i_] z (some (.int r0)) z0 := by
  refine ct_of 0 (lv := [some (.ref 0), some (.int i_)]) (by decide +kernel) rfl (Nat.le_of_ble_eq_true rfl) rfl (fun M hl hw hE => ?_)
  subst hl
  subst hw
  unfold f_X8_together at hf
  obtain ⟨x1, z2, hx3, hf⟩ := b2_of hf
  have hJ4 : G true iX8_together M (some (.int r0), z0) 20 [some (.ref 0), some (.int i_)] [.int x1] z2 := by
    obtain ⟨rfl, rfl⟩ := so2 hf
    exact g_iret hE rfl dX8_together_20
  replace hf := hx3
  clear hx3
  refine g_iload_n hE dX8_together_0 rfl ?_
  refine g_iconst hE (-1) dX8_together_1 (by decide) ?_
  refine g_bipush hE (7) dX8_together_2 (by decide) ?_
  obtain ⟨r6, hc5, hf⟩ := b1_of hf
  refine g_callS3r hE ms_X8_in wm_RX8_98 (by decide) (Nat.le_of_ble_eq_true rfl) dX8_together_4 (c_X8_in hc5) ?_
  refine g_if_eq 18 hE dX8_together_7 (by decide) (fun h7 => ?_) (fun h7 => ?_)
  · replace hf := it_f hf (fun q => q h7)
    refine g_bipush hE (-2) dX8_together_18 (by decide) ?_
    obtain ⟨rfl, rfl⟩ := so2 hf
    exact hJ4
  · replace hf := it_t hf h7
    refine g_aload_n hE dX8_together_10 rfl ?_
    refine g_iload_n hE dX8_together_11 rfl ?_
    obtain ⟨r10, z9, hc8, hf⟩ := b2_of hf
    refine g_callV1r hE mv_X8_togetherOf kM_0 rfl wm_RX8_251 (by decide) (Nat.le_of_ble_eq_true rfl) dX8_together_12 (c_X8_togetherOf hc8) ?_
    refine g_goto 20 hE dX8_together_15 (by decide) ?_
    obtain ⟨rfl, rfl⟩ := so2 hf
    exact hJ4
set_option maxHeartbeats 4000000 in
set_option maxRecDepth 100000 in
theorem c_X8_seen {l : Launch} {w : WC} {week_ : Int32} {virtue_ : Int32} {is_ : Int32} {z : Sg} {r0 : Int32} {z0 : Sg} (hf : f_X8_seen week_ virtue_ is_ z = some (r0, z0)) : CT true l iX8_seen w [.ref 0, .int week_, .int virtue_, .int is_] z (some (.int r0)) z0 := by
  refine ct_of 0 (lv := [some (.ref 0), some (.int week_), some (.int virtue_), some (.int is_)]) (by decide +kernel) rfl (Nat.le_of_ble_eq_true rfl) rfl (fun M hl hw hE => ?_)
  subst hl
  subst hw
  unfold f_X8_seen at hf
  obtain ⟨q1, hx2, hf⟩ := b1_of hf
  have hT3 : q1 = true → G true iX8_seen M (some (.int r0), z0) 23 [some (.ref 0), some (.int week_), some (.int virtue_), some (.int is_)] [] z := by
    intro hq5
    replace hf := it_t hf hq5
    refine g_bipush hE (-2) dX8_seen_23 (by decide) ?_
    obtain ⟨rfl, rfl⟩ := so2 hf
    exact g_iret hE rfl dX8_seen_25
  have hF4 : q1 = false → G true iX8_seen M (some (.int r0), z0) 26 [some (.ref 0), some (.int week_), some (.int virtue_), some (.int is_)] [] z := by
    intro hq5
    replace hf := it_f hf (by rw [hq5]; decide)
    refine g_aload_n hE dX8_seen_26 rfl ?_
    refine gtX8_27 hE kM_0 wf_RX8_254 dX8_seen_27 ?_
    refine g_bipush hE (8) dX8_seen_30 (by decide) ?_
    refine g_icmp_ne 38 hE dX8_seen_32 (by decide) (fun h6 => ?_) (fun h6 => ?_)
    · replace hf := it_f hf h6
      refine g_aload_n hE dX8_seen_38 rfl ?_
      refine gtX8_28 hE kM_0 wf_RX8_64 dX8_seen_39 ?_
      refine g_aload_n hE dX8_seen_42 rfl ?_
      refine gtX8_27 hE kM_0 wf_RX8_254 dX8_seen_43 ?_
      refine g_iload_n hE dX8_seen_46 rfl ?_
      obtain ⟨h7, hf⟩ := ck_of hf
      refine g_iast hE kM_19 h7 dX8_seen_47 ?_
      refine g_aload_n hE dX8_seen_48 rfl ?_
      refine gtX8_29 hE kM_0 wf_RX8_67 dX8_seen_49 ?_
      refine g_aload_n hE dX8_seen_52 rfl ?_
      refine gtX8_27 hE kM_0 wf_RX8_254 dX8_seen_53 ?_
      refine g_iload_n hE dX8_seen_56 rfl ?_
      obtain ⟨h8, hf⟩ := ck_of hf
      refine g_iast hE kM_20 h8 dX8_seen_57 ?_
      refine g_aload_n hE dX8_seen_58 rfl ?_
      refine gtX8_30 hE kM_0 wf_RX8_70 dX8_seen_59 ?_
      refine g_aload_n hE dX8_seen_62 rfl ?_
      refine gtX8_27 hE kM_0 wf_RX8_254 dX8_seen_63 ?_
      refine g_iload_n hE dX8_seen_66 rfl ?_
      obtain ⟨h9, hf⟩ := ck_of hf
      refine g_iast hE kM_21 h9 dX8_seen_67 ?_
      refine g_aload_n hE dX8_seen_68 rfl ?_
      refine g_dup hE dX8_seen_69 rfl ?_
      refine gtX8_27 hE kM_0 wf_RX8_254 dX8_seen_70 ?_
      refine g_iconst hE (1) dX8_seen_73 (by decide) ?_
      refine g_iadd hE dX8_seen_74 ?_
      refine ptX8_27 hE kM_0 wf_RX8_254 dX8_seen_75 ?_
      refine g_aload_n hE dX8_seen_78 rfl ?_
      refine gtX8_27 hE kM_0 wf_RX8_254 dX8_seen_79 ?_
      obtain ⟨rfl, rfl⟩ := so2 hf
      exact g_iret hE rfl dX8_seen_82
    · replace hf := it_t hf h6
      refine g_bipush hE (-4) dX8_seen_35 (by decide) ?_
      obtain ⟨rfl, rfl⟩ := so2 hf
      exact g_iret hE rfl dX8_seen_37
  replace hf := hx2
  clear hx2
  refine g_iload_n hE dX8_seen_0 rfl ?_
  obtain ⟨r11, hc10, hf⟩ := b1_of hf
  refine g_callS1r hE ms_X8_isWeek wm_RX8_139 (by decide) (Nat.le_of_ble_eq_true rfl) dX8_seen_1 (c_X8_isWeek hc10) ?_
  refine g_if_eq 23 hE dX8_seen_4 (by decide) (fun h12 => ?_) (fun h12 => ?_)
  · replace hf := it_f hf (fun q => q h12)
    obtain rfl := so1 hf
    exact hT3 rfl
  · replace hf := it_t hf h12
    refine g_iload_n hE dX8_seen_7 rfl ?_
    obtain ⟨r14, hc13, hf⟩ := b1_of hf
    refine g_callS1r hE ms_X8_isEight wm_RX8_142 (by decide) (Nat.le_of_ble_eq_true rfl) dX8_seen_8 (c_X8_isEight hc13) ?_
    refine g_if_eq 23 hE dX8_seen_11 (by decide) (fun h15 => ?_) (fun h15 => ?_)
    · replace hf := it_f hf (fun q => q h15)
      obtain rfl := so1 hf
      exact hT3 rfl
    · replace hf := it_t hf h15
      refine g_iload_n hE dX8_seen_14 rfl ?_
      refine g_iconst hE (0) dX8_seen_15 (by decide) ?_
      refine g_iconst hE (1) dX8_seen_16 (by decide) ?_
      obtain ⟨r17, hc16, hf⟩ := b1_of hf
      refine g_callS3r hE ms_X8_in wm_RX8_98 (by decide) (Nat.le_of_ble_eq_true rfl) dX8_seen_17 (c_X8_in hc16) ?_
      refine g_if_ne 26 hE dX8_seen_20 (by decide) (fun h18 => ?_) (fun h18 => ?_)
      · replace hf := it_t hf h18
        obtain rfl := so1 hf
        exact hF4 rfl
      · replace hf := it_f hf (fun q => q h18)
        obtain rfl := so1 hf
        exact hT3 rfl
set_option maxHeartbeats 4000000 in
set_option maxRecDepth 100000 in
theorem c_X8_forget {l : Launch} {w : WC} {z : Sg} {r0 : Int32} {z0 : Sg} (hf : f_X8_forget z = some (r0, z0)) : CT true l iX8_forget w [.ref 0] z (some (.int r0)) z0 := by
  refine ct_of 1 (lv := [some (.ref 0), none]) (by decide +kernel) rfl (Nat.le_of_ble_eq_true rfl) rfl (fun M hl hw hE => ?_)
  subst hl
  subst hw
  unfold f_X8_forget at hf
  refine g_aload_n hE dX8_forget_0 rfl ?_
  refine gtX8_27 hE kM_0 wf_RX8_254 dX8_forget_1 ?_
  refine g_istore_n [some _, some _] hE dX8_forget_4 (by decide) rfl ?_
  refine g_aload_n hE dX8_forget_5 rfl ?_
  refine g_iconst hE (0) dX8_forget_6 (by decide) ?_
  refine ptX8_27 hE kM_0 wf_RX8_254 dX8_forget_7 ?_
  refine g_iload_n hE dX8_forget_10 rfl ?_
  obtain ⟨rfl, rfl⟩ := so2 hf
  exact g_iret hE rfl dX8_forget_11
set_option maxHeartbeats 4000000 in
set_option maxRecDepth 100000 in
theorem c_X8_whenOf {l : Launch} {w : WC} {virtue_ : Int32} {z : Sg} {r0 : Int32} {z0 : Sg} (hf : f_X8_whenOf virtue_ z = some (r0, z0)) : CT true l iX8_whenOf w [.ref 0, .int virtue_] z (some (.int r0)) z0 := by
  refine ct_of 4 (lv := [some (.ref 0), some (.int virtue_), none, none, none, none]) (by decide +kernel) rfl (Nat.le_of_ble_eq_true rfl) rfl (fun M hl hw hE => ?_)
  subst hl
  subst hw
  unfold f_X8_whenOf at hf
  refine g_aload_n hE dX8_whenOf_0 rfl ?_
  obtain ⟨z2, hc1, hf⟩ := b1_of hf
  refine g_callV0v hE mv_X8_reads kM_0 rfl wm_RX8_123 (by decide) (Nat.le_of_ble_eq_true rfl) dX8_whenOf_1 (c_X8_reads hc1) ?_
  refine g_iconst hE (0) dX8_whenOf_4 (by decide) ?_
  refine g_istore_n [some _, some _, some _, none, none, none] hE dX8_whenOf_5 (by decide) rfl ?_
  refine g_aload_n hE dX8_whenOf_6 rfl ?_
  refine gtX8_14 hE kM_0 wf_RX8_34 dX8_whenOf_7 ?_
  refine g_aload_n hE dX8_whenOf_10 rfl ?_
  refine gtX8_12 hE kM_0 wf_RX8_145 dX8_whenOf_11 ?_
  refine g_iload_n hE dX8_whenOf_14 rfl ?_
  obtain ⟨h3, hf⟩ := ck_of hf
  refine g_iast hE kM_9 h3 dX8_whenOf_15 ?_
  refine g_iconst hE (0) dX8_whenOf_16 (by decide) ?_
  refine g_istore_n [some _, some _, some _, some _, none, none] hE dX8_whenOf_17 (by decide) rfl ?_
  obtain ⟨bits_12, z13, hx10, hf⟩ := b2_of hf
  have hJ11 : G true iX8_whenOf M (some (.int r0), z0) 134 [some (.ref 0), some (.int virtue_), some (.int bits_12), none, none, none] [] z13 := by
    refine g_iload_n hE dX8_whenOf_134 rfl ?_
    obtain ⟨rfl, rfl⟩ := so2 hf
    exact g_iret hE rfl dX8_whenOf_135
  clear hf
  have hl7 : ∀ (n9 : Nat) (bits_4 : Int32) (week_5 : Int32) (z6 : Sg), f_X8_whenOf_lp1  n9 bits_4 week_5 z6 = some (bits_12, z13) → G true iX8_whenOf M (some (.int r0), z0) 18 [some (.ref 0), some (.int virtue_), some (.int bits_4), some (.int week_5), none, none] [] z6 := by
    intro n9
    induction n9 with
    | zero => intro bits_4 week_5 z6 hf; cases hf
    | succ n9 ih8 =>
      intro bits_4 week_5 z6 hf
      rw [f_X8_whenOf_lp1] at hf
      refine g_iload_n hE dX8_whenOf_18 rfl ?_
      refine g_bipush hE (20) dX8_whenOf_19 (by decide) ?_
      refine g_icmp_ge 134 hE dX8_whenOf_21 (by decide) (fun h14 => ?_) (fun h14 => ?_)
      · replace hf := it_f hf (cv_ngt h14)
        obtain ⟨rfl, rfl⟩ := so2 hf
        exact g_wk [true, true, true, false, false, false] rfl hJ11
      · replace hf := it_t hf (cv_gt h14)
        refine g_aload_n hE dX8_whenOf_24 rfl ?_
        refine gtX8_13 hE kM_0 wf_RX8_31 dX8_whenOf_25 ?_
        refine g_aload_n hE dX8_whenOf_28 rfl ?_
        refine gtX8_12 hE kM_0 wf_RX8_145 dX8_whenOf_29 ?_
        refine g_iload_n hE dX8_whenOf_32 rfl ?_
        obtain ⟨h15, hf⟩ := ck_of hf
        refine g_iast hE kM_8 h15 dX8_whenOf_33 ?_
        refine g_iconst hE (1) dX8_whenOf_34 (by decide) ?_
        refine g_istore [some _, some _, some _, some _, some _, none] hE dX8_whenOf_35 (by decide) rfl ?_
        refine g_iconst hE (0) dX8_whenOf_37 (by decide) ?_
        refine g_istore [some _, some _, some _, some _, some _, some _] hE dX8_whenOf_38 (by decide) rfl ?_
        obtain ⟨is_24, z25, hx22, hf⟩ := b2_of hf
        have hJ23 : G true iX8_whenOf M (some (.int r0), z0) 113 [some (.ref 0), some (.int virtue_), some (.int bits_4), some (.int week_5), some (.int is_24), none] [] z25 := by
          refine g_iload_n hE dX8_whenOf_113 rfl ?_
          obtain ⟨x26, hx27, hf⟩ := b1_of hf
          have hJ28 : G true iX8_whenOf M (some (.int r0), z0) 126 [some (.ref 0), some (.int virtue_), some (.int bits_4), some (.int week_5), some (.int is_24), none] [.int x26, .int bits_4] z25 := by
            refine g_ior hE dX8_whenOf_126 ?_
            refine g_istore_n [some _, some _, some _, some _, some _, none] hE dX8_whenOf_127 (by decide) rfl ?_
            refine g_wk [true, true, true, true, false, false] rfl ?_
            refine g_iinc [some _, some _, some _, some _, none, none] hE (week_5 + (1 : Int32)) dX8_whenOf_128 rfl rfl (by decide) rfl ?_
            refine g_goto 18 hE dX8_whenOf_131 (by decide) ?_
            exact (ih8 _ _ _ hf)
          replace hf := hx27
          clear hx27
          refine g_iload hE dX8_whenOf_114 rfl ?_
          refine g_if_eq 125 hE dX8_whenOf_116 (by decide) (fun h29 => ?_) (fun h29 => ?_)
          · replace hf := it_f hf (fun q => q h29)
            refine g_iconst hE (0) dX8_whenOf_125 (by decide) ?_
            obtain rfl := so1 hf
            exact hJ28
          · replace hf := it_t hf h29
            refine g_iconst hE (1) dX8_whenOf_119 (by decide) ?_
            refine g_iload_n hE dX8_whenOf_120 rfl ?_
            refine g_ishl hE dX8_whenOf_121 ?_
            refine g_goto 126 hE dX8_whenOf_122 (by decide) ?_
            obtain rfl := so1 hf
            exact hJ28
        clear hf
        have hl19 : ∀ (n21 : Nat) (is_16 : Int32) (k_17 : Int32) (z18 : Sg), f_X8_whenOf_lp2  n21 is_16 k_17 z18 = some (is_24, z25) → G true iX8_whenOf M (some (.int r0), z0) 40 [some (.ref 0), some (.int virtue_), some (.int bits_4), some (.int week_5), some (.int is_16), some (.int k_17)] [] z18 := by
          intro n21
          induction n21 with
          | zero => intro is_16 k_17 z18 hf; cases hf
          | succ n21 ih20 =>
            intro is_16 k_17 z18 hf
            rw [f_X8_whenOf_lp2] at hf
            obtain ⟨q30, hx31, hf⟩ := b1_of hf
            have hT32 : q30 = true → G true iX8_whenOf M (some (.int r0), z0) 54 [some (.ref 0), some (.int virtue_), some (.int bits_4), some (.int week_5), some (.int is_16), some (.int k_17)] [] z18 := by
              intro hq34
              replace hf := it_t hf hq34
              refine g_aload_n hE dX8_whenOf_54 rfl ?_
              refine g_aload_n hE dX8_whenOf_55 rfl ?_
              refine gtX8_28 hE kM_0 wf_RX8_64 dX8_whenOf_56 ?_
              refine g_iload hE dX8_whenOf_59 rfl ?_
              obtain ⟨h35, hf⟩ := ck_of hf
              refine g_iald hE kM_19 h35 dX8_whenOf_61 ?_
              refine g_aload_n hE dX8_whenOf_62 rfl ?_
              refine gtX8_12 hE kM_0 wf_RX8_145 dX8_whenOf_63 ?_
              refine g_iconst hE (1) dX8_whenOf_66 (by decide) ?_
              refine g_iadd hE dX8_whenOf_67 ?_
              refine g_aload_n hE dX8_whenOf_68 rfl ?_
              refine gtX8_15 hE kM_0 wf_RX8_148 dX8_whenOf_69 ?_
              obtain ⟨z37, hc36, hf⟩ := b1_of hf
              refine g_callV3v hE mv_X8_runs kM_0 rfl wm_RX8_183 (by decide) (Nat.le_of_ble_eq_true rfl) dX8_whenOf_72 (c_X8_runs hc36) ?_
              obtain ⟨x38, hx39, hf⟩ := b1_of hf
              have hJ40 : G true iX8_whenOf M (some (.int r0), z0) 105 [some (.ref 0), some (.int virtue_), some (.int bits_4), some (.int week_5), some (.int is_16), some (.int k_17)] [.int x38] z37 := by
                refine g_istore [some _, some _, some _, some _, some _, some _] hE dX8_whenOf_105 (by decide) rfl ?_
                refine g_iinc [some _, some _, some _, some _, some _, some _] hE (k_17 + (1 : Int32)) dX8_whenOf_107 rfl rfl (by decide) rfl ?_
                refine g_goto 40 hE dX8_whenOf_110 (by decide) ?_
                exact (ih20 _ _ _ hf)
              replace hf := hx39
              clear hx39
              refine g_aload_n hE dX8_whenOf_75 rfl ?_
              refine g_iconst hE (0) dX8_whenOf_76 (by decide) ?_
              obtain ⟨r42, hc41, hf⟩ := b1_of hf
              refine g_callV1r hE mv_X8_bitsNow kM_0 rfl wm_RX8_191 (by decide) (Nat.le_of_ble_eq_true rfl) dX8_whenOf_77 (c_X8_bitsNow hc41) ?_
              refine g_aload_n hE dX8_whenOf_80 rfl ?_
              refine gtX8_29 hE kM_0 wf_RX8_67 dX8_whenOf_81 ?_
              refine g_iload hE dX8_whenOf_84 rfl ?_
              obtain ⟨h43, hf⟩ := ck_of hf
              refine g_iald hE kM_20 h43 dX8_whenOf_86 ?_
              refine g_ishr hE dX8_whenOf_87 ?_
              refine g_iconst hE (1) dX8_whenOf_88 (by decide) ?_
              refine g_iand hE dX8_whenOf_89 ?_
              refine g_aload_n hE dX8_whenOf_90 rfl ?_
              refine gtX8_30 hE kM_0 wf_RX8_70 dX8_whenOf_91 ?_
              refine g_iload hE dX8_whenOf_94 rfl ?_
              obtain ⟨h44, hf⟩ := ck_of hf
              refine g_iald hE kM_21 h44 dX8_whenOf_96 ?_
              refine g_icmp_ne 104 hE dX8_whenOf_97 (by decide) (fun h45 => ?_) (fun h45 => ?_)
              · replace hf := it_f hf h45
                refine g_iconst hE (0) dX8_whenOf_104 (by decide) ?_
                obtain rfl := so1 hf
                exact hJ40
              · replace hf := it_t hf h45
                refine g_iconst hE (1) dX8_whenOf_100 (by decide) ?_
                refine g_goto 105 hE dX8_whenOf_101 (by decide) ?_
                obtain rfl := so1 hf
                exact hJ40
            have hF33 : q30 = false → G true iX8_whenOf M (some (.int r0), z0) 113 [some (.ref 0), some (.int virtue_), some (.int bits_4), some (.int week_5), some (.int is_16), some (.int k_17)] [] z18 := by
              intro hq34
              replace hf := it_f hf (by rw [hq34]; decide)
              obtain ⟨rfl, rfl⟩ := so2 hf
              exact g_wk [true, true, true, true, true, false] rfl hJ23
            replace hf := hx31
            clear hx31
            refine g_iload hE dX8_whenOf_40 rfl ?_
            refine g_aload_n hE dX8_whenOf_42 rfl ?_
            refine gtX8_27 hE kM_0 wf_RX8_254 dX8_whenOf_43 ?_
            refine g_icmp_ge 113 hE dX8_whenOf_46 (by decide) (fun h46 => ?_) (fun h46 => ?_)
            · replace hf := it_f hf (cv_ngt h46)
              obtain rfl := so1 hf
              exact hF33 rfl
            · replace hf := it_t hf (cv_gt h46)
              refine g_iload hE dX8_whenOf_49 rfl ?_
              refine g_if_eq 113 hE dX8_whenOf_51 (by decide) (fun h47 => ?_) (fun h47 => ?_)
              · replace hf := it_f hf (fun q => q h47)
                obtain rfl := so1 hf
                exact hF33 rfl
              · replace hf := it_t hf h47
                obtain rfl := so1 hf
                exact hT32 rfl
        exact hl19 _ _ _ _ hx22
  exact hl7 _ _ _ _ hx10
set_option maxHeartbeats 4000000 in
set_option maxRecDepth 100000 in
theorem c_X8_when {l : Launch} {w : WC} {virtue_ : Int32} {z : Sg} {r0 : Int32} {z0 : Sg} (hf : f_X8_when virtue_ z = some (r0, z0)) : CT true l iX8_when w [.ref 0, .int virtue_] z (some (.int r0)) z0 := by
  refine ct_of 0 (lv := [some (.ref 0), some (.int virtue_)]) (by decide +kernel) rfl (Nat.le_of_ble_eq_true rfl) rfl (fun M hl hw hE => ?_)
  subst hl
  subst hw
  unfold f_X8_when at hf
  obtain ⟨x1, z2, hx3, hf⟩ := b2_of hf
  have hJ4 : G true iX8_when M (some (.int r0), z0) 18 [some (.ref 0), some (.int virtue_)] [.int x1] z2 := by
    obtain ⟨rfl, rfl⟩ := so2 hf
    exact g_iret hE rfl dX8_when_18
  replace hf := hx3
  clear hx3
  refine g_aload_n hE dX8_when_0 rfl ?_
  refine g_iload_n hE dX8_when_1 rfl ?_
  obtain ⟨r7, z6, hc5, hf⟩ := b2_of hf
  refine g_callV1r hE mv_X8_isVirtue kM_0 rfl wm_RX8_126 (by decide) (Nat.le_of_ble_eq_true rfl) dX8_when_2 (c_X8_isVirtue hc5) ?_
  refine g_if_eq 16 hE dX8_when_5 (by decide) (fun h8 => ?_) (fun h8 => ?_)
  · replace hf := it_f hf (fun q => q h8)
    refine g_bipush hE (-2) dX8_when_16 (by decide) ?_
    obtain ⟨rfl, rfl⟩ := so2 hf
    exact hJ4
  · replace hf := it_t hf h8
    refine g_aload_n hE dX8_when_8 rfl ?_
    refine g_iload_n hE dX8_when_9 rfl ?_
    obtain ⟨r11, z10, hc9, hf⟩ := b2_of hf
    refine g_callV1r hE mv_X8_whenOf kM_0 rfl wm_RX8_257 (by decide) (Nat.le_of_ble_eq_true rfl) dX8_when_10 (c_X8_whenOf hc9) ?_
    refine g_goto 18 hE dX8_when_13 (by decide) ?_
    obtain ⟨rfl, rfl⟩ := so2 hf
    exact hJ4
set_option maxHeartbeats 4000000 in
set_option maxRecDepth 100000 in
theorem c_X8_weeksOf {l : Launch} {w : WC} {seed_ : Int32} {n_ : Int32} {what_ : Int32} {z : Sg} {r0 : Int32} {z0 : Sg} (hf : f_X8_weeksOf seed_ n_ what_ z = some (r0, z0)) : CT true l iX8_weeksOf w [.ref 0, .int seed_, .int n_, .int what_] z (some (.int r0)) z0 := by
  refine ct_of 4 (lv := [some (.ref 0), some (.int seed_), some (.int n_), some (.int what_), none, none, none, none]) (by decide +kernel) rfl (Nat.le_of_ble_eq_true rfl) rfl (fun M hl hw hE => ?_)
  subst hl
  subst hw
  unfold f_X8_weeksOf at hf
  refine g_aload_n hE dX8_weeksOf_0 rfl ?_
  obtain ⟨z2, hc1, hf⟩ := b1_of hf
  refine g_callV0v hE mv_X8_reads kM_0 rfl wm_RX8_123 (by decide) (Nat.le_of_ble_eq_true rfl) dX8_weeksOf_1 (c_X8_reads hc1) ?_
  refine g_iload_n hE dX8_weeksOf_4 rfl ?_
  refine g_istore [some _, some _, some _, some _, some _, none, none, none] hE dX8_weeksOf_5 (by decide) rfl ?_
  refine g_aload_n hE dX8_weeksOf_7 rfl ?_
  refine gtX8_12 hE kM_0 wf_RX8_145 dX8_weeksOf_8 ?_
  refine g_istore [some _, some _, some _, some _, some _, some _, none, none] hE dX8_weeksOf_11 (by decide) rfl ?_
  refine g_aload_n hE dX8_weeksOf_13 rfl ?_
  refine gtX8_15 hE kM_0 wf_RX8_148 dX8_weeksOf_14 ?_
  refine g_istore [some _, some _, some _, some _, some _, some _, some _, none] hE dX8_weeksOf_17 (by decide) rfl ?_
  refine g_iconst hE (0) dX8_weeksOf_19 (by decide) ?_
  refine g_istore [some _, some _, some _, some _, some _, some _, some _, some _] hE dX8_weeksOf_20 (by decide) rfl ?_
  obtain ⟨now_13, hands_14, many_15, z16, hx11, hf⟩ := b4_of hf
  have hJ12 : G true iX8_weeksOf M (some (.int r0), z0) 130 [some (.ref 0), some (.int seed_), some (.int n_), some (.int what_), some (.int now_13), some (.int hands_14), some (.int many_15), none] [] z16 := by
    refine g_aload_n hE dX8_weeksOf_130 rfl ?_
    refine g_iload_n hE dX8_weeksOf_131 rfl ?_
    refine g_iconst hE (1) dX8_weeksOf_132 (by decide) ?_
    refine g_isub hE dX8_weeksOf_133 ?_
    refine g_iload hE dX8_weeksOf_134 rfl ?_
    refine g_iload hE dX8_weeksOf_136 rfl ?_
    obtain ⟨z18, hc17, hf⟩ := b1_of hf
    refine g_callV3v hE mv_X8_runs kM_0 rfl wm_RX8_183 (by decide) (Nat.le_of_ble_eq_true rfl) dX8_weeksOf_138 (c_X8_runs hc17) ?_
    refine g_aload_n hE dX8_weeksOf_141 rfl ?_
    refine g_iload_n hE dX8_weeksOf_142 rfl ?_
    refine g_iconst hE (1) dX8_weeksOf_143 (by decide) ?_
    refine g_iadd hE dX8_weeksOf_144 ?_
    obtain ⟨r20, hc19, hf⟩ := b1_of hf
    refine g_callV1r hE mv_X8_bitsNow kM_0 rfl wm_RX8_191 (by decide) (Nat.le_of_ble_eq_true rfl) dX8_weeksOf_145 (c_X8_bitsNow hc19) ?_
    obtain ⟨r22, hc21, hf⟩ := b1_of hf
    refine g_callS1r hE ms_X8_ones wm_RX8_164 (by decide) (Nat.le_of_ble_eq_true rfl) dX8_weeksOf_148 (c_X8_ones hc21) ?_
    obtain ⟨rfl, rfl⟩ := so2 hf
    exact g_iret hE rfl dX8_weeksOf_151
  clear hf
  have hl8 : ∀ (n10 : Nat) (now_3 : Int32) (hands_4 : Int32) (many_5 : Int32) (week_6 : Int32) (z7 : Sg), f_X8_weeksOf_lp1 n_ n10 now_3 hands_4 many_5 week_6 z7 = some (now_13, hands_14, many_15, z16) → G true iX8_weeksOf M (some (.int r0), z0) 22 [some (.ref 0), some (.int seed_), some (.int n_), some (.int what_), some (.int now_3), some (.int hands_4), some (.int many_5), some (.int week_6)] [] z7 := by
    intro n10
    induction n10 with
    | zero => intro now_3 hands_4 many_5 week_6 z7 hf; cases hf
    | succ n10 ih9 =>
      intro now_3 hands_4 many_5 week_6 z7 hf
      rw [f_X8_weeksOf_lp1] at hf
      obtain ⟨q23, hx24, hf⟩ := b1_of hf
      have hT25 : q23 = true → G true iX8_weeksOf M (some (.int r0), z0) 42 [some (.ref 0), some (.int seed_), some (.int n_), some (.int what_), some (.int now_3), some (.int hands_4), some (.int many_5), some (.int week_6)] [] z7 := by
        intro hq27
        replace hf := it_t hf hq27
        refine g_ldcw hE wk_RX8_260 dX8_weeksOf_42 ?_
        refine g_iload hE dX8_weeksOf_45 rfl ?_
        refine g_imul hE dX8_weeksOf_47 ?_
        refine g_sipush hE (12345) dX8_weeksOf_48 (by decide) ?_
        refine g_iadd hE dX8_weeksOf_51 ?_
        refine g_istore [some _, some _, some _, some _, some _, some _, some _, some _] hE dX8_weeksOf_52 (by decide) rfl ?_
        refine g_aload_n hE dX8_weeksOf_54 rfl ?_
        refine gtX8_13 hE kM_0 wf_RX8_31 dX8_weeksOf_55 ?_
        refine g_iload hE dX8_weeksOf_58 rfl ?_
        refine g_iload hE dX8_weeksOf_60 rfl ?_
        obtain ⟨h28, hf⟩ := ck_of hf
        refine g_iast hE kM_8 h28 dX8_weeksOf_62 ?_
        refine g_aload_n hE dX8_weeksOf_63 rfl ?_
        refine gtX8_14 hE kM_0 wf_RX8_34 dX8_weeksOf_64 ?_
        refine g_iload hE dX8_weeksOf_67 rfl ?_
        refine g_iload hE dX8_weeksOf_69 rfl ?_
        refine g_bipush hE (16) dX8_weeksOf_71 (by decide) ?_
        refine g_iushr hE dX8_weeksOf_73 ?_
        refine g_aload_n hE dX8_weeksOf_74 rfl ?_
        refine gtX8_2 hE kM_0 wf_RX8_106 dX8_weeksOf_75 ?_
        obtain ⟨h33, hf⟩ := ck_of hf
        refine g_irem hE dX8_weeksOf_78 h33 ?_
        obtain ⟨h29, hf⟩ := ck_of hf
        refine g_iast hE kM_9 h29 dX8_weeksOf_79 ?_
        refine g_iinc [some _, some _, some _, some _, some _, some _, some _, some _] hE (hands_4 + (1 : Int32)) dX8_weeksOf_80 rfl rfl (by decide) rfl ?_
        refine g_ldcw hE wk_RX8_260 dX8_weeksOf_83 ?_
        refine g_iload hE dX8_weeksOf_86 rfl ?_
        refine g_imul hE dX8_weeksOf_88 ?_
        refine g_sipush hE (12345) dX8_weeksOf_89 (by decide) ?_
        refine g_iadd hE dX8_weeksOf_92 ?_
        refine g_istore [some _, some _, some _, some _, some _, some _, some _, some _] hE dX8_weeksOf_93 (by decide) rfl ?_
        refine g_aload_n hE dX8_weeksOf_95 rfl ?_
        refine gtX8_16 hE kM_0 wf_RX8_37 dX8_weeksOf_96 ?_
        refine g_iload hE dX8_weeksOf_99 rfl ?_
        refine g_iload hE dX8_weeksOf_101 rfl ?_
        obtain ⟨h30, hf⟩ := ck_of hf
        refine g_iast hE kM_10 h30 dX8_weeksOf_103 ?_
        refine g_aload_n hE dX8_weeksOf_104 rfl ?_
        refine gtX8_17 hE kM_0 wf_RX8_40 dX8_weeksOf_105 ?_
        refine g_iload hE dX8_weeksOf_108 rfl ?_
        refine g_iload hE dX8_weeksOf_110 rfl ?_
        refine g_bipush hE (16) dX8_weeksOf_112 (by decide) ?_
        refine g_iushr hE dX8_weeksOf_114 ?_
        refine g_aload_n hE dX8_weeksOf_115 rfl ?_
        refine gtX8_5 hE kM_0 wf_RX8_109 dX8_weeksOf_116 ?_
        obtain ⟨h32, hf⟩ := ck_of hf
        refine g_irem hE dX8_weeksOf_119 h32 ?_
        obtain ⟨h31, hf⟩ := ck_of hf
        refine g_iast hE kM_11 h31 dX8_weeksOf_120 ?_
        refine g_iinc [some _, some _, some _, some _, some _, some _, some _, some _] hE (many_5 + (1 : Int32)) dX8_weeksOf_121 rfl rfl (by decide) rfl ?_
        refine g_iinc [some _, some _, some _, some _, some _, some _, some _, some _] hE (week_6 + (1 : Int32)) dX8_weeksOf_124 rfl rfl (by decide) rfl ?_
        refine g_goto 22 hE dX8_weeksOf_127 (by decide) ?_
        exact (ih9 _ _ _ _ _ hf)
      have hF26 : q23 = false → G true iX8_weeksOf M (some (.int r0), z0) 130 [some (.ref 0), some (.int seed_), some (.int n_), some (.int what_), some (.int now_3), some (.int hands_4), some (.int many_5), some (.int week_6)] [] z7 := by
        intro hq27
        replace hf := it_f hf (by rw [hq27]; decide)
        obtain ⟨rfl, rfl, rfl, rfl⟩ := so4 hf
        exact g_wk [true, true, true, true, true, true, true, false] rfl hJ12
      replace hf := hx24
      clear hx24
      refine g_iload hE dX8_weeksOf_22 rfl ?_
      refine g_iload_n hE dX8_weeksOf_24 rfl ?_
      refine g_icmp_ge 130 hE dX8_weeksOf_25 (by decide) (fun h34 => ?_) (fun h34 => ?_)
      · replace hf := it_f hf (cv_ngt h34)
        obtain rfl := so1 hf
        exact hF26 rfl
      · replace hf := it_t hf (cv_gt h34)
        refine g_aload_n hE dX8_weeksOf_28 rfl ?_
        refine gtX8_2 hE kM_0 wf_RX8_106 dX8_weeksOf_29 ?_
        refine g_if_le 130 hE dX8_weeksOf_32 (by decide) (fun h35 => ?_) (fun h35 => ?_)
        · replace hf := it_f hf (cv_ngt h35)
          obtain rfl := so1 hf
          exact hF26 rfl
        · replace hf := it_t hf (cv_gt h35)
          refine g_aload_n hE dX8_weeksOf_35 rfl ?_
          refine gtX8_5 hE kM_0 wf_RX8_109 dX8_weeksOf_36 ?_
          refine g_if_le 130 hE dX8_weeksOf_39 (by decide) (fun h36 => ?_) (fun h36 => ?_)
          · replace hf := it_f hf (cv_ngt h36)
            obtain rfl := so1 hf
            exact hF26 rfl
          · replace hf := it_t hf (cv_gt h36)
            obtain rfl := so1 hf
            exact hT25 rfl
  exact hl8 _ _ _ _ _ _ hx11
set_option maxHeartbeats 4000000 in
set_option maxRecDepth 100000 in
theorem c_X8_weeks {l : Launch} {w : WC} {seed_ : Int32} {n_ : Int32} {what_ : Int32} {z : Sg} {r0 : Int32} {z0 : Sg} (hf : f_X8_weeks seed_ n_ what_ z = some (r0, z0)) : CT true l iX8_weeks w [.ref 0, .int seed_, .int n_, .int what_] z (some (.int r0)) z0 := by
  refine ct_of 0 (lv := [some (.ref 0), some (.int seed_), some (.int n_), some (.int what_)]) (by decide +kernel) rfl (Nat.le_of_ble_eq_true rfl) rfl (fun M hl hw hE => ?_)
  subst hl
  subst hw
  unfold f_X8_weeks at hf
  obtain ⟨x1, z2, hx3, hf⟩ := b2_of hf
  have hJ4 : G true iX8_weeks M (some (.int r0), z0) 31 [some (.ref 0), some (.int seed_), some (.int n_), some (.int what_)] [.int x1] z2 := by
    obtain ⟨rfl, rfl⟩ := so2 hf
    exact g_iret hE rfl dX8_weeks_31
  replace hf := hx3
  clear hx3
  obtain ⟨q5, hx6, hf⟩ := b1_of hf
  have hT7 : q5 = true → G true iX8_weeks M (some (.int r0), z0) 19 [some (.ref 0), some (.int seed_), some (.int n_), some (.int what_)] [] z := by
    intro hq9
    replace hf := it_t hf hq9
    refine g_aload_n hE dX8_weeks_19 rfl ?_
    refine g_iload_n hE dX8_weeks_20 rfl ?_
    refine g_iload_n hE dX8_weeks_21 rfl ?_
    refine g_iload_n hE dX8_weeks_22 rfl ?_
    obtain ⟨r12, z11, hc10, hf⟩ := b2_of hf
    refine g_callV3r hE mv_X8_weeksOf kM_0 rfl wm_RX8_261 (by decide) (Nat.le_of_ble_eq_true rfl) dX8_weeks_23 (c_X8_weeksOf hc10) ?_
    refine g_goto 31 hE dX8_weeks_26 (by decide) ?_
    obtain ⟨rfl, rfl⟩ := so2 hf
    exact hJ4
  have hF8 : q5 = false → G true iX8_weeks M (some (.int r0), z0) 29 [some (.ref 0), some (.int seed_), some (.int n_), some (.int what_)] [] z := by
    intro hq9
    replace hf := it_f hf (by rw [hq9]; decide)
    refine g_bipush hE (-2) dX8_weeks_29 (by decide) ?_
    obtain ⟨rfl, rfl⟩ := so2 hf
    exact hJ4
  replace hf := hx6
  clear hx6
  refine g_iload_n hE dX8_weeks_0 rfl ?_
  refine g_iconst hE (1) dX8_weeks_1 (by decide) ?_
  refine g_bipush hE (40) dX8_weeks_2 (by decide) ?_
  obtain ⟨r14, hc13, hf⟩ := b1_of hf
  refine g_callS3r hE ms_X8_in wm_RX8_98 (by decide) (Nat.le_of_ble_eq_true rfl) dX8_weeks_4 (c_X8_in hc13) ?_
  refine g_if_eq 29 hE dX8_weeks_7 (by decide) (fun h15 => ?_) (fun h15 => ?_)
  · replace hf := it_f hf (fun q => q h15)
    obtain rfl := so1 hf
    exact hF8 rfl
  · replace hf := it_t hf h15
    refine g_iload_n hE dX8_weeks_10 rfl ?_
    refine g_iconst hE (0) dX8_weeks_11 (by decide) ?_
    refine g_iconst hE (1) dX8_weeks_12 (by decide) ?_
    obtain ⟨r17, hc16, hf⟩ := b1_of hf
    refine g_callS3r hE ms_X8_in wm_RX8_98 (by decide) (Nat.le_of_ble_eq_true rfl) dX8_weeks_13 (c_X8_in hc16) ?_
    refine g_if_eq 29 hE dX8_weeks_16 (by decide) (fun h18 => ?_) (fun h18 => ?_)
    · replace hf := it_f hf (fun q => q h18)
      obtain rfl := so1 hf
      exact hF8 rfl
    · replace hf := it_t hf h18
      obtain rfl := so1 hf
      exact hT7 rfl
set_option maxHeartbeats 4000000 in
set_option maxRecDepth 100000 in
theorem c_X8_sheet {l : Launch} {w : WC} {s_ : Int32} {form_ : Int32} {n_ : Int32} {z : Sg} {r0 : Int32} {z0 : Sg} (hf : f_X8_sheet s_ form_ n_ z = some (r0, z0)) : CT true l iX8_sheet w [.ref 0, .int s_, .int form_, .int n_] z (some (.int r0)) z0 := by
  refine ct_of 1 (lv := [some (.ref 0), some (.int s_), some (.int form_), some (.int n_), none]) (by decide +kernel) rfl (Nat.le_of_ble_eq_true rfl) rfl (fun M hl hw hE => ?_)
  subst hl
  subst hw
  unfold f_X8_sheet at hf
  obtain ⟨q1, hx2, hf⟩ := b1_of hf
  have hT3 : q1 = true → G true iX8_sheet M (some (.int r0), z0) 22 [some (.ref 0), some (.int s_), some (.int form_), some (.int n_), none] [] z := by
    intro hq5
    replace hf := it_t hf hq5
    refine g_bipush hE (-2) dX8_sheet_22 (by decide) ?_
    obtain ⟨rfl, rfl⟩ := so2 hf
    exact g_iret hE rfl dX8_sheet_24
  have hF4 : q1 = false → G true iX8_sheet M (some (.int r0), z0) 25 [some (.ref 0), some (.int s_), some (.int form_), some (.int n_), none] [] z := by
    intro hq5
    replace hf := it_f hf (by rw [hq5]; decide)
    refine g_iload_n hE dX8_sheet_25 rfl ?_
    refine g_if_ge 35 hE dX8_sheet_26 (by decide) (fun h6 => ?_) (fun h6 => ?_)
    · replace hf := it_f hf (cv_ngt h6)
      refine g_aload_n hE dX8_sheet_35 rfl ?_
      refine gtX8_31 hE kM_0 wf_RX8_73 dX8_sheet_36 ?_
      refine g_iload_n hE dX8_sheet_39 rfl ?_
      refine g_iconst hE (1) dX8_sheet_40 (by decide) ?_
      obtain ⟨h7, hf⟩ := ck_of hf
      refine g_zast hE kM_22 h7 rfl dX8_sheet_41 ?_
      refine g_aload_n hE dX8_sheet_42 rfl ?_
      refine gtX8_32 hE kM_0 wf_RX8_77 dX8_sheet_43 ?_
      refine g_iload_n hE dX8_sheet_46 rfl ?_
      refine g_iload_n hE dX8_sheet_47 rfl ?_
      obtain ⟨h8, hf⟩ := ck_of hf
      refine g_iast hE kM_23 h8 dX8_sheet_48 ?_
      refine g_aload_n hE dX8_sheet_49 rfl ?_
      refine gtX8_33 hE kM_0 wf_RX8_80 dX8_sheet_50 ?_
      refine g_iload_n hE dX8_sheet_53 rfl ?_
      refine g_iload_n hE dX8_sheet_54 rfl ?_
      obtain ⟨h9, hf⟩ := ck_of hf
      refine g_iast hE kM_24 h9 dX8_sheet_55 ?_
      refine g_iconst hE (0) dX8_sheet_56 (by decide) ?_
      refine g_istore [some _, some _, some _, some _, some _] hE dX8_sheet_57 (by decide) rfl ?_
      obtain ⟨z17, hx15, hf⟩ := b1_of hf
      have hJ16 : G true iX8_sheet M (some (.int r0), z0) 85 [some (.ref 0), some (.int s_), some (.int form_), some (.int n_), none] [] z17 := by
        refine g_iload_n hE dX8_sheet_85 rfl ?_
        obtain ⟨rfl, rfl⟩ := so2 hf
        exact g_iret hE rfl dX8_sheet_86
      clear hf
      have hl12 : ∀ (n14 : Nat) (i_10 : Int32) (z11 : Sg), f_X8_sheet_lp1 s_ n14 i_10 z11 = some z17 → G true iX8_sheet M (some (.int r0), z0) 59 [some (.ref 0), some (.int s_), some (.int form_), some (.int n_), some (.int i_10)] [] z11 := by
        intro n14
        induction n14 with
        | zero => intro i_10 z11 hf; cases hf
        | succ n14 ih13 =>
          intro i_10 z11 hf
          rw [f_X8_sheet_lp1] at hf
          refine g_iload hE dX8_sheet_59 rfl ?_
          refine g_bipush hE (48) dX8_sheet_61 (by decide) ?_
          refine g_icmp_ge 85 hE dX8_sheet_63 (by decide) (fun h18 => ?_) (fun h18 => ?_)
          · replace hf := it_f hf (cv_ngt h18)
            obtain rfl := so1 hf
            exact g_wk [true, true, true, true, false] rfl hJ16
          · replace hf := it_t hf (cv_gt h18)
            refine g_aload_n hE dX8_sheet_66 rfl ?_
            refine gtX8_34 hE kM_0 wf_RX8_83 dX8_sheet_67 ?_
            refine g_bipush hE (48) dX8_sheet_70 (by decide) ?_
            refine g_iload_n hE dX8_sheet_72 rfl ?_
            refine g_imul hE dX8_sheet_73 ?_
            refine g_iload hE dX8_sheet_74 rfl ?_
            refine g_iadd hE dX8_sheet_76 ?_
            refine g_iconst hE (0) dX8_sheet_77 (by decide) ?_
            obtain ⟨h19, hf⟩ := ck_of hf
            refine g_iast hE kM_25 h19 dX8_sheet_78 ?_
            refine g_iinc [some _, some _, some _, some _, some _] hE (i_10 + (1 : Int32)) dX8_sheet_79 rfl rfl (by decide) rfl ?_
            refine g_goto 59 hE dX8_sheet_82 (by decide) ?_
            exact (ih13 _ _ hf)
      exact hl12 _ _ _ hx15
    · replace hf := it_t hf (cv_gt h6)
      refine g_aload_n hE dX8_sheet_29 rfl ?_
      refine g_iconst hE (5) dX8_sheet_30 (by decide) ?_
      obtain ⟨r22, z21, hc20, hf⟩ := b2_of hf
      refine g_callV1r hE mv_X8_meets kM_0 rfl wm_RX8_154 (by decide) (Nat.le_of_ble_eq_true rfl) dX8_sheet_31 (c_X8_meets hc20) ?_
      obtain ⟨rfl, rfl⟩ := so2 hf
      exact g_iret hE rfl dX8_sheet_34
  replace hf := hx2
  clear hx2
  refine g_iload_n hE dX8_sheet_0 rfl ?_
  obtain ⟨r24, hc23, hf⟩ := b1_of hf
  refine g_callS1r hE ms_X8_isSheet wm_RX8_151 (by decide) (Nat.le_of_ble_eq_true rfl) dX8_sheet_1 (c_X8_isSheet hc23) ?_
  refine g_if_eq 22 hE dX8_sheet_4 (by decide) (fun h25 => ?_) (fun h25 => ?_)
  · replace hf := it_f hf (fun q => q h25)
    obtain rfl := so1 hf
    exact hT3 rfl
  · replace hf := it_t hf h25
    refine g_iload_n hE dX8_sheet_7 rfl ?_
    refine g_iconst hE (0) dX8_sheet_8 (by decide) ?_
    refine g_iconst hE (2) dX8_sheet_9 (by decide) ?_
    obtain ⟨r27, hc26, hf⟩ := b1_of hf
    refine g_callS3r hE ms_X8_in wm_RX8_98 (by decide) (Nat.le_of_ble_eq_true rfl) dX8_sheet_10 (c_X8_in hc26) ?_
    refine g_if_eq 22 hE dX8_sheet_13 (by decide) (fun h28 => ?_) (fun h28 => ?_)
    · replace hf := it_f hf (fun q => q h28)
      obtain rfl := so1 hf
      exact hT3 rfl
    · replace hf := it_t hf h28
      refine g_iload_n hE dX8_sheet_16 rfl ?_
      refine g_bipush hE (48) dX8_sheet_17 (by decide) ?_
      refine g_icmp_le 25 hE dX8_sheet_19 (by decide) (fun h29 => ?_) (fun h29 => ?_)
      · replace hf := it_f hf (cv_ngt h29)
        obtain rfl := so1 hf
        exact hF4 rfl
      · replace hf := it_t hf (cv_gt h29)
        obtain rfl := so1 hf
        exact hT3 rfl
set_option maxHeartbeats 4000000 in
set_option maxRecDepth 100000 in
theorem c_X8_lose {l : Launch} {w : WC} {s_ : Int32} {z : Sg} {r0 : Int32} {z0 : Sg} (hf : f_X8_lose s_ z = some (r0, z0)) : CT true l iX8_lose w [.ref 0, .int s_] z (some (.int r0)) z0 := by
  refine ct_of 0 (lv := [some (.ref 0), some (.int s_)]) (by decide +kernel) rfl (Nat.le_of_ble_eq_true rfl) rfl (fun M hl hw hE => ?_)
  subst hl
  subst hw
  unfold f_X8_lose at hf
  refine g_iload_n hE dX8_lose_0 rfl ?_
  obtain ⟨r2, hc1, hf⟩ := b1_of hf
  refine g_callS1r hE ms_X8_isSheet wm_RX8_151 (by decide) (Nat.le_of_ble_eq_true rfl) dX8_lose_1 (c_X8_isSheet hc1) ?_
  refine g_if_ne 10 hE dX8_lose_4 (by decide) (fun h3 => ?_) (fun h3 => ?_)
  · replace hf := it_t hf h3
    refine g_aload_n hE dX8_lose_10 rfl ?_
    refine gtX8_31 hE kM_0 wf_RX8_73 dX8_lose_11 ?_
    refine g_iload_n hE dX8_lose_14 rfl ?_
    obtain ⟨h4, hf⟩ := ck_of hf
    refine g_zald hE kM_22 h4 dX8_lose_15 ?_
    refine g_if_ne 25 hE dX8_lose_16 (by decide) (fun h5 => ?_) (fun h5 => ?_)
    · replace hf := it_t hf h5
      refine g_aload_n hE dX8_lose_25 rfl ?_
      refine gtX8_31 hE kM_0 wf_RX8_73 dX8_lose_26 ?_
      refine g_iload_n hE dX8_lose_29 rfl ?_
      refine g_iconst hE (0) dX8_lose_30 (by decide) ?_
      obtain ⟨h6, hf⟩ := ck_of hf
      refine g_zast hE kM_22 h6 rfl dX8_lose_31 ?_
      refine g_aload_n hE dX8_lose_32 rfl ?_
      refine gtX8_33 hE kM_0 wf_RX8_80 dX8_lose_33 ?_
      refine g_iload_n hE dX8_lose_36 rfl ?_
      obtain ⟨h7, hf⟩ := ck_of hf
      refine g_iald hE kM_24 h7 dX8_lose_37 ?_
      obtain ⟨rfl, rfl⟩ := so2 hf
      exact g_iret hE rfl dX8_lose_38
    · replace hf := it_f hf (fun q => q h5)
      refine g_aload_n hE dX8_lose_19 rfl ?_
      refine g_iconst hE (1) dX8_lose_20 (by decide) ?_
      obtain ⟨r10, z9, hc8, hf⟩ := b2_of hf
      refine g_callV1r hE mv_X8_meets kM_0 rfl wm_RX8_154 (by decide) (Nat.le_of_ble_eq_true rfl) dX8_lose_21 (c_X8_meets hc8) ?_
      obtain ⟨rfl, rfl⟩ := so2 hf
      exact g_iret hE rfl dX8_lose_24
  · replace hf := it_f hf (fun q => q h3)
    refine g_bipush hE (-2) dX8_lose_7 (by decide) ?_
    obtain ⟨rfl, rfl⟩ := so2 hf
    exact g_iret hE rfl dX8_lose_9
